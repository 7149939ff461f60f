/-! a script read from a text -/
def c_ar (w : Nat) : Nat := if w ≤ 1 then 3 else if w ≤ 3 then 2 else if w ≤ 5 then 1 else 0
def c_lo (w i : Nat) : Nat := if w = 1 ∧ i = 2 then 40 else 0
def c_hi (w i : Nat) : Nat := if i = 0 ∨ w = 3 then 11 else if w = 2 then 2000 else if i = 1 then 9 else 120
def t_cw (b : Nat → Int32) (n p : Nat) : Nat := if t_wd b n p 2 then 0 else if t_wd b n p 3 then 1 else if t_wd b n p 4 then 2 else if t_wd b n p 5 then 3 else if t_wd b n p 6 then 4 else if t_wd b n p 7 then 5 else if t_wd b n p 8 then 6 else 7
def t_ar (b : Nat → Int32) (n w : Nat) : Nat → Nat → Nat → (Nat → Nat) → Except (Nat × Nat) (Nat × (Nat → Nat))
  | 0, _, p, A => .ok (p, A)
  | k + 1, i, p, A => (t_num b n (c_lo w i) (c_hi w i) p).bind fun r => t_ar b n w k (i + 1) r.2 (fun j => if j = i then r.1 else A j)
def c_up (W : Nat → Nat → Nat) (m w : Nat) (A : Nat → Nat) : Nat → Nat → Nat := fun a j => if a = m then (if j = 0 then w else A (j - 1)) else W a j
def t_scr (b : Nat → Int32) (n : Nat) : Nat → Nat → Nat → (Nat → Nat → Nat) → Except (Nat × Nat) (Nat × (Nat → Nat → Nat))
  | 0, _, _, _ => .error (0, 0)
  | k + 1, m, p, W => if t_kd b n p = 0 then .ok (m, W) else if t_cw b n p = 7 then .error (1, t_beg b n p) else if m = 30 then .error (4, t_beg b n p) else (t_ar b n (t_cw b n p) (c_ar (t_cw b n p)) 0 (t_end b n p) (fun _ => 0)).bind fun r => (t_sem b n r.1).bind fun q => t_scr b n k (m + 1) q (c_up W m (t_cw b n p) r.2)
def w_ok (m : Nat) (W : Nat → Nat → Nat) : Prop := m ≤ 30 ∧ ∀ a, a < m → W a 0 ≤ 6 ∧ ∀ i, i < c_ar (W a 0) → c_lo (W a 0) i ≤ W a (i + 1) ∧ W a (i + 1) ≤ c_hi (W a 0) i
def x_sc (m : Nat) (W : Nat → Nat → Nat) (σ : x_S) : Prop := σ 24 0 = nI m ∧ ∀ a, a < m → σ 25 a = nI (W a 0) ∧ ∀ i, i < c_ar (W a 0) → σ 26 (3 * a + i) = nI (W a (i + 1))
def m_sc (m : Nat) (W : Nat → Nat → Nat) (ρ : x_S) : Prop := ρ 0 40 = nI m ∧ ∀ a, a < m → ρ 22 (4 * a) = nI (W a 0) ∧ ∀ i, i < c_ar (W a 0) → ρ 22 (4 * a + 1 + i) = nI (W a (i + 1))
/-- what reading a script moves -/
def x_sf (σ σ' : x_S) : Prop := (∀ z, z ≠ 1 → z < 24 ∨ 26 < z → σ' z = σ z) ∧ ∀ i, i < 4 ∨ 7 < i → σ' 1 i = σ 1 i
def x_se (σ σ' : x_S) : Prop := (∀ z, z ≠ 1 → z < 24 ∨ 26 < z → σ' z = σ z) ∧ ∀ i, i < 2 ∨ 7 < i → σ' 1 i = σ 1 i
def m_sf (ρ ρ' : x_S) : Prop := (∀ z, z ≠ 0 → z ≠ 22 → ρ' z = ρ z) ∧ ∀ i, i < 32 ∨ (37 < i ∧ i ≠ 40) ∨ i = 33 ∨ i = 34 → ρ' 0 i = ρ 0 i
def m_se (ρ ρ' : x_S) : Prop := (∀ z, z ≠ 0 → z ≠ 22 → ρ' z = ρ z) ∧ ∀ i, i < 32 ∨ (37 < i ∧ i ≠ 40) → ρ' 0 i = ρ 0 i
theorem x_sf.tr {σ σ1 σ2 : x_S} (h1 : x_sf σ σ1) (h2 : x_sf σ1 σ2) : x_sf σ σ2 := ⟨fun z a c => (h2.1 z a c).trans (h1.1 z a c), fun z a => (h2.2 z a).trans (h1.2 z a)⟩
theorem x_se.tr {σ σ1 σ2 : x_S} (h1 : x_se σ σ1) (h2 : x_se σ1 σ2) : x_se σ σ2 := ⟨fun z a c => (h2.1 z a c).trans (h1.1 z a c), fun z a => (h2.2 z a).trans (h1.2 z a)⟩
theorem m_sf.tr {ρ ρ1 ρ2 : x_S} (h1 : m_sf ρ ρ1) (h2 : m_sf ρ1 ρ2) : m_sf ρ ρ2 := ⟨fun z a c => (h2.1 z a c).trans (h1.1 z a c), fun z a => (h2.2 z a).trans (h1.2 z a)⟩
theorem m_se.tr {ρ ρ1 ρ2 : x_S} (h1 : m_se ρ ρ1) (h2 : m_se ρ1 ρ2) : m_se ρ ρ2 := ⟨fun z a c => (h2.1 z a c).trans (h1.1 z a c), fun z a => (h2.2 z a).trans (h1.2 z a)⟩
theorem x_sf.rf (σ : x_S) : x_sf σ σ := ⟨fun _ _ _ => rfl, fun _ _ => rfl⟩
theorem m_sf.rf (ρ : x_S) : m_sf ρ ρ := ⟨fun _ _ _ => rfl, fun _ _ => rfl⟩
theorem x_sf.se {σ σ' : x_S} (h : x_sf σ σ') : x_se σ σ' := ⟨h.1, fun i hi => h.2 i (by omega)⟩
theorem m_sf.se {ρ ρ' : x_S} (h : m_sf ρ ρ') : m_se ρ ρ' := ⟨h.1, fun i hi => h.2 i (by omega)⟩
theorem x_tf.sf {σ σ' : x_S} (h : x_tf σ σ') : x_sf σ σ' := ⟨fun z a _ => h.1 z a, h.2⟩
theorem x_te.se {σ σ' : x_S} (h : x_te σ σ') : x_se σ σ' := ⟨fun z a _ => h.1 z a, h.2⟩
theorem m_tq.sf {ρ ρ' : x_S} (h : m_tq ρ ρ') : m_sf ρ ρ' := ⟨fun z a _ => h.1 z a, fun i hi => h.2 i (by omega)⟩
theorem m_te.se {ρ ρ' : x_S} (h : m_te ρ ρ') : m_se ρ ρ' := ⟨fun z a _ => h.1 z a, fun i hi => h.2 i (by omega)⟩
theorem x_sf.up {σ : x_S} {z i : Nat} {v : Int32} (h : 24 ≤ z ∧ z ≤ 26) : x_sf σ (x_up σ z i v) := ⟨fun y _ c => x_up_n (by omega), fun j _ => by rw [x_up_n (show (1 : Nat) ≠ z by omega)]⟩
theorem m_sf.up {ρ : x_S} {i : Nat} {v : Int32} : m_sf ρ (x_up ρ 22 i v) := ⟨fun y _ c => x_up_n c, fun j _ => by rw [x_up_n (show (0 : Nat) ≠ 22 by omega)]⟩
theorem m_sf.up40 {ρ : x_S} {v : Int32} : m_sf ρ (x_up ρ 0 40 v) := ⟨fun y c _ => x_up_n c, fun j hj => x_up_sn (by omega)⟩
theorem x_tb.sf {b : Nat → Int32} {n : Nat} {σ σ' : x_S} (h : x_tb b n σ) (f : x_sf σ σ') : x_tb b n σ' := ⟨h.1, by rw [f.2 1 (by omega)]; exact h.2.1, by rw [f.1 2 (by omega) (by omega)]; exact h.2.2⟩
theorem m_tb.sf {b : Nat → Int32} {n : Nat} {ρ ρ' : x_S} (h : m_tb b n ρ) (f : m_sf ρ ρ') : m_tb b n ρ' := ⟨h.1, by rw [f.2 31 (by omega)]; exact h.2.1, by rw [f.1 21 (by omega) (by omega)]; exact h.2.2⟩
theorem m_tk.up22 {b : Nat → Int32} {n p i : Nat} {v : Int32} {ρ : x_S} {θ : x_L} (h : m_tk b n p ρ θ) : m_tk b n p (x_up ρ 22 i v) θ := by
  unfold m_tk at h ⊢
  rw [x_up_n (show (0 : Nat) ≠ 22 by omega)]
  exact h
theorem m_tk.up40 {b : Nat → Int32} {n p : Nat} {v : Int32} {ρ : x_S} {θ : x_L} (h : m_tk b n p ρ θ) : m_tk b n p (x_up ρ 0 40 v) θ := by
  unfold m_tk at h ⊢
  rw [x_up_sn (show (36 : Nat) ≠ 40 by omega), x_up_sn (show (32 : Nat) ≠ 40 by omega), x_up_sn (show (35 : Nat) ≠ 40 by omega)]
  exact h
theorem c_ar_b (w : Nat) : c_ar w ≤ 3 := by
  unfold c_ar
  repeat' split
  all_goals omega
theorem c_hi_b (w i : Nat) : c_hi w i ≤ 2000 := by
  unfold c_hi
  repeat' split
  all_goals omega
theorem c_lo_b (w i : Nat) : c_lo w i ≤ 40 := by
  unfold c_lo
  split <;> omega
theorem t_cw_b (b : Nat → Int32) (n p : Nat) : t_cw b n p ≤ 7 := by
  unfold t_cw
  repeat' split
  all_goals omega
theorem t_cw_1 {b : Nat → Int32} {n p : Nat} (h : t_cw b n p ≠ 7) : t_kd b n p = 1 := by
  unfold t_cw at h
  by_cases c2 : t_wd b n p 2
  · exact c2.1
  · rw [if_neg c2] at h
    by_cases c3 : t_wd b n p 3
    · exact c3.1
    · rw [if_neg c3] at h
      by_cases c4 : t_wd b n p 4
      · exact c4.1
      · rw [if_neg c4] at h
        by_cases c5 : t_wd b n p 5
        · exact c5.1
        · rw [if_neg c5] at h
          by_cases c6 : t_wd b n p 6
          · exact c6.1
          · rw [if_neg c6] at h
            by_cases c7 : t_wd b n p 7
            · exact c7.1
            · rw [if_neg c7] at h
              by_cases c8 : t_wd b n p 8
              · exact c8.1
              · rw [if_neg c8] at h
                exact absurd rfl h
theorem e_2000 : (2000 : Int32) = nI 2000 := by decide +kernel
section XC
variable {b : Nat → Int32} {n p : Nat} {σ ρ : x_S} {τ θ : x_L} {Q : Int32 → x_S → x_L → Prop}
theorem sX_cw (ht : x_tb b n σ) (hp : p ≤ n) (hk : x_tk b n p σ) (h1 : t_cw b n p < 7 → Q (nI (t_cw b n p)) σ τ) (h0 : t_cw b n p = 7 → Q (-1) σ τ) : wX8_commandWord σ τ Q := by
  have key : ∀ v, t_cw b n p = v → v < 7 → Q (nI v) σ τ := fun v e c => by
    rw [← e] at c ⊢
    exact h1 c
  unfold wX8_commandWord wX8_commandWord_81
  unfold t_cw at key h0
  refine sX_isWord (i := 2) (by omega) ht hp hk (fun c => i_one' (key 0 (by rw [if_pos c]) (by omega))) (fun c2 => i_zer ?_)
  refine sX_isWord (i := 3) (by omega) ht hp hk (fun c => i_one' (key 1 (by rw [if_neg c2, if_pos c]) (by omega))) (fun c3 => i_zer ?_)
  refine sX_isWord (i := 4) (by omega) ht hp hk (fun c => i_one' (key 2 (by rw [if_neg c2, if_neg c3, if_pos c]) (by omega))) (fun c4 => i_zer ?_)
  refine sX_isWord (i := 5) (by omega) ht hp hk (fun c => i_one' (key 3 (by rw [if_neg c2, if_neg c3, if_neg c4, if_pos c]) (by omega))) (fun c5 => i_zer ?_)
  refine sX_isWord (i := 6) (by omega) ht hp hk (fun c => i_one' (key 4 (by rw [if_neg c2, if_neg c3, if_neg c4, if_neg c5, if_pos c]) (by omega))) (fun c6 => i_zer ?_)
  refine sX_isWord (i := 7) (by omega) ht hp hk (fun c => i_one' (key 5 (by rw [if_neg c2, if_neg c3, if_neg c4, if_neg c5, if_neg c6, if_pos c]) (by omega))) (fun c7 => i_zer ?_)
  refine sX_isWord (i := 8) (by omega) ht hp hk (fun c => i_one' (key 6 (by rw [if_neg c2, if_neg c3, if_neg c4, if_neg c5, if_neg c6, if_neg c7, if_pos c]) (by omega))) (fun c8 => i_zer ?_)
  exact h0 (by rw [if_neg c2, if_neg c3, if_neg c4, if_neg c5, if_neg c6, if_neg c7, if_neg c8])
theorem sX_arOf {w : Nat} (hw : w ≤ 6) (h : Q (nI (c_ar w)) σ τ) : wX8_argumentsOf (nI w) σ τ Q := by
  have key : ∀ v, c_ar w = v → Q (nI v) σ τ := fun v e => by
    rw [← e]
    exact h
  have un : ∀ k, k < 7 → nI w = nI k → w = k := fun k hk e => (nI_eq (by omega) (by omega)).mp e
  unfold wX8_argumentsOf wX8_argumentsOf_40 wX8_argumentsOf_42 wX8_argumentsOf_44
  refine ⟨fun g => key 3 ?_, fun g => key 3 ?_, fun g => key 2 ?_, fun g => key 2 ?_, fun g => key 1 ?_, fun g => key 1 ?_, fun g0 g1 g2 g3 g4 g5 => key 0 ?_⟩
  · rw [un 0 (by omega) g]
    rfl
  · rw [un 1 (by omega) g]
    rfl
  · rw [un 2 (by omega) g]
    rfl
  · rw [un 3 (by omega) g]
    rfl
  · rw [un 4 (by omega) g]
    rfl
  · rw [un 5 (by omega) g]
    rfl
  · have n0 : w ≠ 0 := fun e => g0 (by rw [e]; rfl)
    have n1 : w ≠ 1 := fun e => g1 (by rw [e]; rfl)
    have n2 : w ≠ 2 := fun e => g2 (by rw [e]; rfl)
    have n3 : w ≠ 3 := fun e => g3 (by rw [e]; rfl)
    have n4 : w ≠ 4 := fun e => g4 (by rw [e]; rfl)
    have n5 : w ≠ 5 := fun e => g5 (by rw [e]; rfl)
    rw [show w = 6 by omega]
    rfl
theorem sX_most {w i : Nat} (hw : w ≤ 6) (hi : i ≤ 2) (h : Q (nI (c_hi w i)) σ τ) : wX8_mostOf (nI w) (nI i) σ τ Q := by
  have key : ∀ v, c_hi w i = v → Q (nI v) σ τ := fun v e => by
    rw [← e]
    exact h
  unfold c_hi at key
  unfold wX8_mostOf wX8_mostOf_9 wX8_mostOf_40
  rw [e_2000]
  refine i_eq (b := 0) (by omega) (by omega) (fun e0 => key 11 (by rw [if_pos (Or.inl e0)])) (fun e0 => ?_)
  refine i_ne (b := 3) (by omega) (by omega) (fun e3 => ?_) (fun e3 => key 11 (by rw [if_pos (Or.inr e3)]))
  refine i_ne (b := 2) (by omega) (by omega) (fun e2 => ?_) (fun e2 => key 2000 (by rw [if_neg (by omega), if_pos e2]))
  refine i_ne (b := 1) (by omega) (by omega) (fun e1 => ?_) (fun e1 => key 9 (by rw [if_neg (by omega), if_neg e2, if_pos e1]))
  have := key 120 (by rw [if_neg (by omega), if_neg e2, if_neg e1])
  exact ⟨fun _ => this, fun _ => this⟩
theorem sX_args (ht : x_tb b n σ) (hp : p ≤ n) (h6 : σ 1 6 = nI p) {v w : Nat} (hv : v < 30) (hw : w ≤ 6) (h25 : σ 25 v = nI w) (h1 : ∀ (q : Nat) (A : Nat → Nat) (σ' : x_S), t_ar b n w (c_ar w) 0 p (fun _ => 0) = .ok (q, A) → p ≤ q → q ≤ n → x_sf σ σ' → σ' 1 6 = nI q → (∀ i, i < c_ar w → σ' 26 (3 * v + i) = nI (A i) ∧ c_lo w i ≤ A i ∧ A i ≤ c_hi w i) → (∀ i, i < 3 * v → σ' 26 i = σ 26 i) → σ' 25 = σ 25 → σ' 24 = σ 24 → Q 1 σ' τ) (h0 : ∀ (c s : Nat) (σ' : x_S), t_ar b n w (c_ar w) 0 p (fun _ => 0) = .error (c, s) → x_se σ σ' → σ' 1 2 = nI c → σ' 1 3 = nI s → Q 0 σ' τ) : wX8_readArguments (nI v) σ τ Q := by
  have hn := ht.1
  have har := c_ar_b w
  unfold wX8_readArguments
  rw [i_cl (show v < 1000000000 by omega), h25]
  refine ⟨i_in (by omega) (by omega), ?_⟩
  refine x_l3_I (fun k a0 a1 a2 σ' τ' => ∃ i q A, i + k = c_ar w ∧ a0 = nI v ∧ a1 = nI w ∧ a2 = nI i ∧ p ≤ q ∧ q ≤ n ∧ x_sf σ σ' ∧ σ' 1 6 = nI q ∧ (∀ j, j < i → σ' 26 (3 * v + j) = nI (A j) ∧ c_lo w j ≤ A j ∧ A j ≤ c_hi w j) ∧ (∀ j, j < 3 * v → σ' 26 j = σ 26 j) ∧ σ' 25 = σ 25 ∧ σ' 24 = σ 24 ∧ t_ar b n w k i q A = t_ar b n w (c_ar w) 0 p (fun _ => 0) ∧ τ' = τ) ?_ (c_ar w) ⟨0, p, fun _ => 0, by omega, rfl, rfl, rfl, Nat.le_refl _, hp, x_sf.rf _, h6, fun j hj => absurd hj (Nat.not_lt_zero _), fun _ _ => rfl, rfl, rfl, rfl, rfl⟩
  rintro k a0 a1 a2 σ1 τ1 ⟨i, q, A, e1, rfl, rfl, rfl, e2, e3, f, g6, gA, gn, g25, g24, gt, rfl⟩ K hK
  unfold wX8_readArguments_10
  refine sX_arOf hw (i_le (by omega) (by omega) (fun c => ?_) (fun c => ?_))
  · have ek : k = 0 := by omega
    rw [ek, t_ar] at gt
    exact h1 q A σ1 gt.symm e2 e3 f g6 (fun j hj => gA j (by omega)) gn g25 g24
  · obtain ⟨k', rfl⟩ : ∃ k', k = k' + 1 := ⟨k - 1, by omega⟩
    rw [t_ar] at gt
    have main : wX8_readArguments_36 K Q (nI v) (nI w) (nI i) (nI (c_lo w i)) σ1 τ1 := by
      have hh := c_hi_b w i
      have hl := c_lo_b w i
      unfold wX8_readArguments_36
      refine sX_most hw (by omega) ?_
      refine sX_number (ht.sf f) e3 g6 (by omega) (by omega) (fun x q' σ2 t1 hq' f2 _ y6 y7 => i_one ?_) (fun c' s σ2 t1 f2 y2 y3 => i_zer' (h0 c' s σ2 (by rw [← gt, t1]; rfl) (f.se.tr f2.se) y2 y3))
      have hle := t_num_le e3 t1
      obtain ⟨-, -, -, x1, x2⟩ := t_num_ok t1
      have e4 : (nI v * 3 + nI i : Int32) = nI (3 * v + i) := by
        show nI v * nI 3 + nI i = _
        rw [nI_mul, nI_add, Nat.mul_comm]
      rw [e4, i_cl (by omega), y7, show (nI i + 1 : Int32) = nI (i + 1) from nI_add i 1]
      refine ⟨i_in (by omega) (by omega), hK k' _ _ _ _ _ (by omega) ⟨i + 1, q', fun j => if j = i then x else A j, by omega, rfl, rfl, rfl, by omega, hq', (f.tr f2.sf).tr (x_sf.up (by omega)), ?_, fun j hj => ?_, fun j hj => ?_, ?_, ?_, ?_, rfl⟩⟩
      · rw [x_up_n (show (1 : Nat) ≠ 26 by omega)]
        exact y6
      · show _ = nI (if j = i then x else A j) ∧ c_lo w j ≤ (if j = i then x else A j) ∧ (if j = i then x else A j) ≤ c_hi w j
        by_cases z : j = i
        · rw [if_pos z, z, x_up_ss]
          exact ⟨rfl, x1, x2⟩
        · rw [if_neg z, x_up_sn (by omega), f2.1 26 (by omega)]
          exact gA j (by omega)
      · rw [x_up_sn (by omega), f2.1 26 (by omega)]
        exact gn j hj
      · rw [x_up_n (show (25 : Nat) ≠ 26 by omega), f2.1 25 (by omega)]
        exact g25
      · rw [x_up_n (show (24 : Nat) ≠ 26 by omega), f2.1 24 (by omega)]
        exact g24
      · rw [← gt, t1]
        rfl
    unfold wX8_readArguments_35
    refine i_ne (b := 1) (by omega) (by omega) (fun c1 => ?_) (fun c1 => i_ne (b := 2) (by omega) (by omega) (fun c2 => ?_) (fun c2 => ?_))
    · rw [show c_lo w i = 0 from if_neg (fun y => c1 y.1)] at main
      exact main
    · rw [show c_lo w i = 0 from if_neg (fun y => c2 y.2)] at main
      exact main
    · rw [show c_lo w i = 40 from if_pos ⟨c1, c2⟩] at main
      exact main
theorem w_ok.up {m w : Nat} {W : Nat → Nat → Nat} {A : Nat → Nat} (h : w_ok m W) (hm : m < 30) (hw : w ≤ 6) (hA : ∀ i, i < c_ar w → c_lo w i ≤ A i ∧ A i ≤ c_hi w i) : w_ok (m + 1) (c_up W m w A) := by
  refine ⟨by omega, fun a ha => ?_⟩
  by_cases z : a = m
  · have e : ∀ j, c_up W m w A a j = if j = 0 then w else A (j - 1) := fun j => by
      unfold c_up
      rw [if_pos z]
    rw [e, if_pos rfl]
    refine ⟨hw, fun i hi => ?_⟩
    rw [e, if_neg (by omega)]
    exact hA i hi
  · have e : ∀ j, c_up W m w A a j = W a j := fun j => by
      unfold c_up
      rw [if_neg z]
    rw [e]
    refine ⟨(h.2 a (by omega)).1, fun i hi => ?_⟩
    rw [e]
    exact (h.2 a (by omega)).2 i hi
theorem sX_script (ht : x_tb b n σ) (h6 : σ 1 6 = nI 0) (h1 : ∀ (m : Nat) (W : Nat → Nat → Nat) (σ' : x_S), t_scr b n 31 0 0 (fun _ _ => 0) = .ok (m, W) → x_sf σ σ' → w_ok m W → x_sc m W σ' → Q 1 σ' τ) (h0 : ∀ (c s : Nat) (σ' : x_S), t_scr b n 31 0 0 (fun _ _ => 0) = .error (c, s) → x_se σ σ' → σ' 1 2 = nI c → σ' 1 3 = nI s → Q 0 σ' τ) : wX8_read σ τ Q := by
  have hn := ht.1
  unfold wX8_read
  refine x_l1_I (fun k c0 σ' τ' => ∃ m p W, m + k = 30 ∧ c0 = nI m ∧ p ≤ n ∧ x_sf σ σ' ∧ σ' 1 6 = nI p ∧ w_ok m W ∧ x_sc m W σ' ∧ t_scr b n (k + 1) m p W = t_scr b n 31 0 0 (fun _ _ => 0) ∧ τ' = τ) ?_ 30 ⟨0, 0, fun _ _ => 0, rfl, rfl, Nat.zero_le _, x_sf.up (by omega), by rw [x_up_n (show (1 : Nat) ≠ 24 by omega)]; exact h6, ⟨by omega, fun a ha => absurd ha (Nat.not_lt_zero _)⟩, ⟨x_up_ss _ _ _ _, fun a ha => absurd ha (Nat.not_lt_zero _)⟩, rfl, rfl⟩
  rintro k c0 σ' τ' ⟨m, p, W, e1, rfl, e3, f, g6, gW, gS, gt, rfl⟩ K hK
  rw [t_scr] at gt
  unfold wX8_read_7 wX8_read_77
  refine i_lt (a := 30) (by omega) (by omega) (fun g => absurd g (by omega)) (fun _ => sX_next (ht.sf f) e3 g6 (fun σ1 f1 k1 => ?_))
  obtain ⟨k5, k6, k4, k7⟩ := id k1
  have f2 : x_sf σ σ1 := f.tr f1.sf
  have ht1 := ht.sf f2
  have hkb := t_kd_b b n p
  have hS1 : x_sc m W σ1 := by
    unfold x_sc at gS ⊢
    rw [f1.1 24 (by omega), f1.1 25 (by omega), f1.1 26 (by omega)]
    exact gS
  rw [k4]
  refine i_ne (b := 0) (by omega) (by omega) (fun g => ?_) (fun g => ?_)
  · rw [if_neg g] at gt
    refine sX_cw ht1 e3 k1 (fun cw => ⟨fun _ => ?_, fun y => absurd y (nI_m1 (by omega))⟩) (fun cw => ?_)
    · rw [if_neg (show ¬ t_cw b n p = 7 by omega)] at gt
      have hend := t_end_b b n e3
      refine i_ne (b := 30) (by omega) (by omega) (fun c30 => ?_) (fun c30 => ?_)
      · rw [if_neg c30] at gt
        rw [i_cl (show m < 1000000000 by omega)]
        refine ⟨i_in (by omega) (by omega), ?_⟩
        have f3 : x_sf σ (x_up σ1 25 m (nI (t_cw b n p))) := f2.tr (x_sf.up (by omega))
        refine sX_args (w := t_cw b n p) (ht.sf f3) hend.2.2.1 (by rw [x_up_n (show (1 : Nat) ≠ 25 by omega)]; exact k6) (by omega) (by omega) (x_up_ss _ _ _ _) (fun q A σ2 t2 _ hq f4 y6 yA yn y25 y24 => i_one' ?_) (fun c s σ2 t2 f4 y2 y3 => i_zer (h0 c s σ2 (by rw [← gt, t2]; rfl) (f3.se.tr f4) y2 y3))
        have f5 := f3.tr f4
        refine sX_semi (ht.sf f5) hq y6 (fun q' σ3 t3 hq' f6 x6 => i_one ?_) (fun c s σ3 t3 f6 y2 y3 => i_zer' (h0 c s σ3 (by rw [← gt, t2]; show Except.bind (t_sem b n q) _ = _; rw [t3]; rfl) (f5.se.tr f6.se) y2 y3))
        rw [show (nI m + 1 : Int32) = nI (m + 1) from nI_add m 1]
        refine hK (k - 1) _ _ _ (by omega) ⟨m + 1, q', c_up W m (t_cw b n p) A, by omega, rfl, hq', (f5.tr f6.sf).tr (x_sf.up (by omega)), by rw [x_up_n (show (1 : Nat) ≠ 24 by omega)]; exact x6, gW.up (by omega) (by omega) (fun i hi => (yA i hi).2), ⟨x_up_ss _ _ _ _, fun a ha => ?_⟩, ?_, rfl⟩
        · rw [x_up_n (show (25 : Nat) ≠ 24 by omega), x_up_n (show (26 : Nat) ≠ 24 by omega), f6.1 25 (by omega), f6.1 26 (by omega), y25]
          by_cases z : a = m
          · have e : ∀ j, c_up W m (t_cw b n p) A a j = if j = 0 then t_cw b n p else A (j - 1) := fun j => by
              unfold c_up
              rw [if_pos z]
            rw [e, if_pos rfl, z, x_up_ss]
            refine ⟨rfl, fun i hi => ?_⟩
            rw [z] at e
            rw [e, if_neg (by omega), Nat.add_sub_cancel]
            exact (yA i hi).1
          · have e : ∀ j, c_up W m (t_cw b n p) A a j = W a j := fun j => by
              unfold c_up
              rw [if_neg z]
            have ha2 := hS1.2 a (by omega)
            rw [e, x_up_sn z]
            refine ⟨ha2.1, fun i hi => ?_⟩
            have := c_ar_b (W a 0)
            rw [e, yn _ (by omega), x_up_n (show (26 : Nat) ≠ 25 by omega)]
            exact ha2.2 i hi
        · rw [show k - 1 + 1 = k by omega, ← gt, t2]
          show _ = Except.bind (t_sem b n q) _
          rw [t3]
          rfl
      · rw [if_pos c30] at gt
        exact sX_fail (c := 4) k5 (fun σ2 f3 y2 y3 => ⟨Or.inl rfl, h0 4 (t_beg b n p) σ2 gt.symm (f2.se.tr f3.se) y2 y3⟩)
    · rw [if_pos cw] at gt
      refine ⟨fun y => absurd rfl y, fun _ => sX_fail (c := 1) k5 (fun σ2 f3 y2 y3 => ⟨Or.inl rfl, h0 1 (t_beg b n p) σ2 gt.symm (f2.se.tr f3.se) y2 y3⟩)⟩
  · rw [if_pos g] at gt
    exact h1 m W σ1 gt.symm f2 gW hS1
end XC
