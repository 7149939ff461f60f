/-! a fleet read from a text: roads -/
def f_D (N : g_F) (σ : x_S) : Prop := f_F N (fun z => σ (z + 11))
def m_Dr (N : g_F) (ρ : x_S) : Prop := m_F N (fun _ i => ρ 3 (290 + i))
def g_rd (N : g_F) (a c l m : Nat) : g_F := fun k i => if k = 0 ∧ i = 0 then N 0 0 + 1 else if k = 1 ∧ i = N 0 0 then a else if k = 2 ∧ i = N 0 0 then c else if k = 3 ∧ i = N 0 0 then l else if k = 4 ∧ i = N 0 0 then m else N k i
def t_road (b : Nat → Int32) (n p : Nat) (N : g_F) : Except (Nat × Nat) (Nat × g_F) := (t_num b n 0 19 p).bind fun a => (t_num b n 0 19 a.2).bind fun c => if c.1 = a.1 then .error (3, t_beg b n a.2) else (t_num b n 1 300 c.2).bind fun l => (t_num b n 40 120 l.2).bind fun m => (t_sem b n m.2).bind fun q => .ok (q, g_rd N a.1 c.1 l.1 m.1)
/-- what reading a fleet moves -/
def x_lf (σ σ' : x_S) : Prop := (∀ z, z ≠ 1 → z < 14 ∨ 23 < z → σ' z = σ z) ∧ ∀ i, i < 4 ∨ 7 < i → σ' 1 i = σ 1 i
def x_le (σ σ' : x_S) : Prop := (∀ z, z ≠ 1 → z < 14 ∨ 23 < z → σ' z = σ z) ∧ ∀ i, i < 2 ∨ 7 < i → σ' 1 i = σ 1 i
def m_lf (ρ ρ' : x_S) : Prop := (∀ z, z ≠ 0 → z ≠ 3 → ρ' z = ρ z) ∧ (∀ i, i < 32 ∨ 37 < i ∨ i = 33 ∨ i = 34 → ρ' 0 i = ρ 0 i) ∧ ∀ i, i < 290 → ρ' 3 i = ρ 3 i
def m_le (ρ ρ' : x_S) : Prop := (∀ z, z ≠ 0 → z ≠ 3 → ρ' z = ρ z) ∧ (∀ i, i < 32 ∨ 37 < i → ρ' 0 i = ρ 0 i) ∧ ∀ i, i < 290 → ρ' 3 i = ρ 3 i
theorem x_lf.tr {σ σ1 σ2 : x_S} (h1 : x_lf σ σ1) (h2 : x_lf σ1 σ2) : x_lf σ σ2 := ⟨fun z a c => (h2.1 z a c).trans (h1.1 z a c), fun z a => (h2.2 z a).trans (h1.2 z a)⟩
theorem m_lf.tr {ρ ρ1 ρ2 : x_S} (h1 : m_lf ρ ρ1) (h2 : m_lf ρ1 ρ2) : m_lf ρ ρ2 := ⟨fun z a c => (h2.1 z a c).trans (h1.1 z a c), fun z a => (h2.2.1 z a).trans (h1.2.1 z a), fun z a => (h2.2.2 z a).trans (h1.2.2 z a)⟩
theorem x_le.tr {σ σ1 σ2 : x_S} (h1 : x_le σ σ1) (h2 : x_le σ1 σ2) : x_le σ σ2 := ⟨fun z a c => (h2.1 z a c).trans (h1.1 z a c), fun z a => (h2.2 z a).trans (h1.2 z a)⟩
theorem m_le.tr {ρ ρ1 ρ2 : x_S} (h1 : m_le ρ ρ1) (h2 : m_le ρ1 ρ2) : m_le ρ ρ2 := ⟨fun z a c => (h2.1 z a c).trans (h1.1 z a c), fun z a => (h2.2.1 z a).trans (h1.2.1 z a), fun z a => (h2.2.2 z a).trans (h1.2.2 z a)⟩
theorem x_lf.le {σ σ' : x_S} (h : x_lf σ σ') : x_le σ σ' := ⟨h.1, fun i hi => h.2 i (by omega)⟩
theorem m_lf.le {ρ ρ' : x_S} (h : m_lf ρ ρ') : m_le ρ ρ' := ⟨h.1, fun i hi => h.2.1 i (by omega), h.2.2⟩
theorem x_tf.lf {σ σ' : x_S} (h : x_tf σ σ') : x_lf σ σ' := ⟨fun z a _ => h.1 z a, h.2⟩
theorem x_te.le {σ σ' : x_S} (h : x_te σ σ') : x_le σ σ' := ⟨fun z a _ => h.1 z a, h.2⟩
theorem m_tq.lf {ρ ρ' : x_S} (h : m_tq ρ ρ') : m_lf ρ ρ' := ⟨fun z a _ => h.1 z a, h.2, fun i _ => by rw [h.1 3 (by omega)]⟩
theorem m_te.le {ρ ρ' : x_S} (h : m_te ρ ρ') : m_le ρ ρ' := ⟨fun z a _ => h.1 z a, h.2, fun i _ => by rw [h.1 3 (by omega)]⟩
theorem x_lf.up {σ : x_S} {z i : Nat} {v : Int32} (h : 14 ≤ z ∧ z ≤ 23) : x_lf σ (x_up σ z i v) := ⟨fun y _ c => x_up_n (by omega), fun j _ => by rw [x_up_n (show (1 : Nat) ≠ z by omega)]⟩
theorem m_lf.up {ρ : x_S} {i : Nat} {v : Int32} (h : 290 ≤ i) : m_lf ρ (x_up ρ 3 i v) := ⟨fun y _ c => x_up_n (by omega), fun j _ => by rw [x_up_n (show (0 : Nat) ≠ 3 by omega)], fun j hj => x_up_sn (by omega)⟩
theorem x_tb.lf {b : Nat → Int32} {n : Nat} {σ σ' : x_S} (h : x_tb b n σ) (f : x_lf σ σ') : x_tb b n σ' := ⟨h.1, by rw [f.2 1 (by omega)]; exact h.2.1, by rw [f.1 2 (by omega) (by omega)]; exact h.2.2⟩
theorem m_tb.lf {b : Nat → Int32} {n : Nat} {ρ ρ' : x_S} (h : m_tb b n ρ) (f : m_lf ρ ρ') : m_tb b n ρ' := ⟨h.1, by rw [f.2.1 31 (by omega)]; exact h.2.1, by rw [f.1 21 (by omega) (by omega)]; exact h.2.2⟩
theorem x_up_zi (σ : x_S) (k j z i : Nat) (v : Int32) : x_up σ k j v z i = if z = k ∧ i = j then v else σ z i := by
  by_cases e : z = k
  · subst e
    rw [x_up_i]
    by_cases e2 : i = j
    · rw [if_pos e2, if_pos ⟨rfl, e2⟩]
    · rw [if_neg e2, if_neg (fun g => e2 g.2)]
  · rw [x_up_n e, if_neg (fun g => e g.1)]
theorem t_num_ok {b : Nat → Int32} {n lo hi p v q : Nat} (h : t_num b n lo hi p = .ok (v, q)) : t_kd b n p = 2 ∧ v = t_vl b n p ∧ q = t_end b n p ∧ lo ≤ v ∧ v ≤ hi := by
  unfold t_num at h
  split at h
  · rename_i g
    split at h
    · rename_i g2
      injection h with h
      injection h with e1 e2
      exact ⟨g, e1.symm, e2.symm, by omega, by omega⟩
    · injection h
  · injection h
theorem t_num_le {b : Nat → Int32} {n lo hi p v q : Nat} (hp : p ≤ n) (h : t_num b n lo hi p = .ok (v, q)) : p ≤ q ∧ q ≤ n := by
  obtain ⟨-, -, e, -⟩ := t_num_ok h
  have := t_end_b b n hp
  omega
theorem t_sem_le {b : Nat → Int32} {n p q : Nat} (hp : p ≤ n) (h : t_sem b n p = .ok q) : p ≤ q ∧ q ≤ n := by
  unfold t_sem at h
  have := t_end_b b n hp
  split at h
  · injection h with h
    omega
  · injection h
theorem g_rd_WN {N : g_F} (h : g_WN N) (hr : N 0 0 < 30) {a c l m : Nat} (h1 : a ≤ 19) (h2 : c ≤ 19) (h3 : 1 ≤ l ∧ l ≤ 300) (h4 : 40 ≤ m ∧ m ≤ 120) : g_WN (g_rd N a c l m) := by
  obtain ⟨⟨n1, n2⟩, n3, n4, n5⟩ := h
  have e00 : g_rd N a c l m 0 0 = N 0 0 + 1 := rfl
  have e01 : g_rd N a c l m 0 1 = N 0 1 := rfl
  have e9 : ∀ k i, 5 ≤ k → g_rd N a c l m k i = N k i := fun k i hk => by
    unfold g_rd
    rw [if_neg (by omega), if_neg (by omega), if_neg (by omega), if_neg (by omega), if_neg (by omega)]
  have ek : ∀ k i, i ≠ N 0 0 → k ≠ 0 → g_rd N a c l m k i = N k i := fun k i hi hk => by
    unfold g_rd
    rw [if_neg (by omega), if_neg (by omega), if_neg (by omega), if_neg (by omega), if_neg (by omega)]
  have e1 : g_rd N a c l m 1 (N 0 0) = a := by simp [g_rd]
  have e2 : g_rd N a c l m 2 (N 0 0) = c := by simp [g_rd]
  have e3 : g_rd N a c l m 3 (N 0 0) = l := by simp [g_rd]
  have e4 : g_rd N a c l m 4 (N 0 0) = m := by simp [g_rd]
  refine ⟨⟨by omega, by omega⟩, fun r h => ?_, fun t h => ?_, fun t q h h' => ?_⟩
  · by_cases z : r = N 0 0
    · subst z
      rw [e1, e2, e3, e4]
      omega
    · rw [ek 1 r z (by omega), ek 2 r z (by omega), ek 3 r z (by omega), ek 4 r z (by omega)]
      exact n3 r (by omega)
  · rw [e9 5 t (by omega), e9 6 t (by omega), e9 7 t (by omega), e9 8 t (by omega)]
    exact n4 t (by omega)
  · rw [e9 8 t (by omega)] at h'
    rw [e9 9 _ (by omega), e00]
    have := n5 t q (by omega) h'
    omega
theorem f_D.rd {N : g_F} {σ σ' : x_S} (h : f_D N σ) {a c l m : Nat} (e0 : σ' 14 0 = nI (N 0 0 + 1)) (e5 : σ' 14 5 = σ 14 5) (e1 : ∀ i, σ' 15 i = if i = N 0 0 then nI a else σ 15 i) (e2 : ∀ i, σ' 16 i = if i = N 0 0 then nI c else σ 16 i) (e3 : ∀ i, σ' 17 i = if i = N 0 0 then nI l else σ 17 i) (e4 : ∀ i, σ' 18 i = if i = N 0 0 then nI m else σ 18 i) (e6 : ∀ z, 19 ≤ z → z ≤ 23 → σ' z = σ z) : f_D (g_rd N a c l m) σ' := by
  obtain ⟨⟨h1, h2⟩, h3, h4, h5⟩ := h
  have ek : ∀ k i, i ≠ N 0 0 → k ≠ 0 → g_rd N a c l m k i = N k i := fun k i hi hk => by
    unfold g_rd
    rw [if_neg (by omega), if_neg (by omega), if_neg (by omega), if_neg (by omega), if_neg (by omega)]
  have e9 : ∀ k i, 5 ≤ k → g_rd N a c l m k i = N k i := fun k i hk => by
    unfold g_rd
    rw [if_neg (by omega), if_neg (by omega), if_neg (by omega), if_neg (by omega), if_neg (by omega)]
  have q1 : g_rd N a c l m 1 (N 0 0) = a := by simp [g_rd]
  have q2 : g_rd N a c l m 2 (N 0 0) = c := by simp [g_rd]
  have q3 : g_rd N a c l m 3 (N 0 0) = l := by simp [g_rd]
  have q4 : g_rd N a c l m 4 (N 0 0) = m := by simp [g_rd]
  refine ⟨⟨e0, e5.trans h2⟩, fun r hr => ?_, fun t ht => ?_, fun s hs => ?_⟩
  · show σ' 15 r = _ ∧ σ' 16 r = _ ∧ σ' 17 r = _ ∧ σ' 18 r = _
    rw [e1, e2, e3, e4]
    by_cases z : r = N 0 0
    · subst z
      rw [q1, q2, q3, q4, if_pos rfl, if_pos rfl, if_pos rfl, if_pos rfl]
      exact ⟨rfl, rfl, rfl, rfl⟩
    · rw [if_neg z, if_neg z, if_neg z, if_neg z, ek 1 r z (by omega), ek 2 r z (by omega), ek 3 r z (by omega), ek 4 r z (by omega)]
      have hr' : r < N 0 0 + 1 := hr
      exact h3 r (by omega)
  · show σ' 19 t = _ ∧ σ' 20 t = _ ∧ σ' 21 t = _ ∧ σ' 22 t = _
    rw [e6 19 (by omega) (by omega), e6 20 (by omega) (by omega), e6 21 (by omega) (by omega), e6 22 (by omega) (by omega), e9 5 t (by omega), e9 6 t (by omega), e9 7 t (by omega), e9 8 t (by omega)]
    exact h4 t ht
  · show σ' 23 s = _
    rw [e6 23 (by omega) (by omega), e9 9 s (by omega)]
    refine h5 s ?_
    have hs1 := hs.1
    have hs2 := hs.2
    rw [e9 8 _ (by omega)] at hs2
    exact ⟨hs1, hs2⟩
section RR
variable {b : Nat → Int32} {n p : Nat} {N : g_F} {σ ρ : x_S} {τ θ : x_L}
theorem sX_readRoad (ht : x_tb b n σ) (hp : p ≤ n) (h6 : σ 1 6 = nI p) (hN : g_WN N) (hD : f_D N σ) (hr : N 0 0 < 30) {Q : Int32 → x_S → x_L → Prop} (h1 : ∀ (q : Nat) (M : g_F) (σ' : x_S), t_road b n p N = .ok (q, M) → p ≤ q → q ≤ n → x_lf σ σ' → σ' 1 6 = nI q → g_WN M → f_D M σ' → Q 1 σ' τ) (h0 : ∀ (c s : Nat) (σ' : x_S), t_road b n p N = .error (c, s) → x_le σ σ' → σ' 1 2 = nI c → σ' 1 3 = nI s → Q 0 σ' τ) : wX3_readRoad (nI (N 0 0)) σ τ Q := by
  unfold wX3_readRoad
  refine sX_number (lo := 0) (hi := 19) ht hp h6 (by omega) (by omega) (fun a p1 σ1 g1 hp1 f1 _ k1 v1 => i_one ⟨i_in hr (by omega), ?_⟩) (fun c s σ1 g1 f1 e2 e3 => i_zer' (h0 c s σ1 (by unfold t_road; rw [g1]; rfl) f1.le e2 e3))
  rw [i_cl (by omega), v1]
  have fA : x_lf σ (x_up σ1 15 (N 0 0) (nI a)) := f1.lf.tr (x_lf.up (by omega))
  obtain ⟨-, -, -, a1, a2⟩ := t_num_ok g1
  refine sX_number (lo := 0) (hi := 19) (ht.lf fA) hp1 (by rw [x_up_n (show (1 : Nat) ≠ 15 by omega)]; exact k1) (by omega) (by omega) (fun c p2 σ2 g2 hp2 f2 k5 k2 v2 => i_one ?_) (fun c s σ2 g2 f2 e2 e3 => i_zer' (h0 c s σ2 (by unfold t_road; rw [g1]; show Except.bind (t_num b n 0 19 p1) _ = _; rw [g2]; rfl) (fA.le.tr f2.le) e2 e3))
  obtain ⟨-, -, -, c1, c2⟩ := t_num_ok g2
  have fB : x_lf σ (x_up σ2 16 (N 0 0) (nI c)) := (fA.tr f2.lf).tr (x_lf.up (by omega))
  have hse : (x_up σ2 16 (N 0 0) (nI c)) 15 (N 0 0) = nI a := by rw [x_up_n (show (15 : Nat) ≠ 16 by omega), f2.1 15 (by omega), x_up_ss]
  rw [v2, x_up_ss, hse]
  refine i_ne (by omega) (by omega) (fun ne => ?_) (fun e => ?_)
  · refine sX_number (lo := 1) (hi := 300) (ht.lf fB) hp2 (by rw [x_up_n (show (1 : Nat) ≠ 16 by omega)]; exact k2) (by omega) (by omega) (fun l p3 σ3 g3 hp3 f3 _ k3 v3 => i_one ?_) (fun c' s σ3 g3 f3 e2 e3 => i_zer' (h0 c' s σ3 (by unfold t_road; rw [g1]; show Except.bind (t_num b n 0 19 p1) _ = _; rw [g2]; show (if c = a then _ else Except.bind (t_num b n 1 300 p2) _) = _; rw [if_neg ne, g3]; rfl) (fB.le.tr f3.le) e2 e3))
    obtain ⟨-, -, -, l1, l2⟩ := t_num_ok g3
    rw [v3]
    have fC : x_lf σ (x_up σ3 17 (N 0 0) (nI l)) := (fB.tr f3.lf).tr (x_lf.up (by omega))
    refine sX_number (lo := 40) (hi := 120) (ht.lf fC) hp3 (by rw [x_up_n (show (1 : Nat) ≠ 17 by omega)]; exact k3) (by omega) (by omega) (fun m p4 σ4 g4 hp4 f4 _ k4 v4 => i_one ?_) (fun c' s σ4 g4 f4 e2 e3 => i_zer' (h0 c' s σ4 (by unfold t_road; rw [g1]; show Except.bind (t_num b n 0 19 p1) _ = _; rw [g2]; show (if c = a then _ else Except.bind (t_num b n 1 300 p2) _) = _; rw [if_neg ne, g3]; show Except.bind (t_num b n 40 120 p3) _ = _; rw [g4]; rfl) (fC.le.tr f4.le) e2 e3))
    obtain ⟨-, -, -, m1, m2⟩ := t_num_ok g4
    rw [v4, show (nI (N 0 0) + 1 : Int32) = nI (N 0 0 + 1) from nI_add _ 1]
    have fD : x_lf σ (x_up (x_up σ4 18 (N 0 0) (nI m)) 14 0 (nI (N 0 0 + 1))) := ((fC.tr f4.lf).tr (x_lf.up (by omega))).tr (x_lf.up (by omega))
    have road : t_road b n p N = (t_sem b n p4).bind fun q => .ok (q, g_rd N a c l m) := by
      unfold t_road
      rw [g1]
      show Except.bind (t_num b n 0 19 p1) _ = _
      rw [g2]
      show (if c = a then _ else Except.bind (t_num b n 1 300 p2) _) = _
      rw [if_neg ne, g3]
      show Except.bind (t_num b n 40 120 p3) _ = _
      rw [g4]
      rfl
    refine sX_semi (ht.lf fD) hp4 (by rw [x_up_n (show (1 : Nat) ≠ 14 by omega), x_up_n (show (1 : Nat) ≠ 18 by omega)]; exact k4) (fun q σ5 g5 hq f5 k5 => ⟨Or.inr rfl, ?_⟩) (fun c' s σ5 g5 f5 e2 e3 => ⟨Or.inl rfl, h0 c' s σ5 (by rw [road, g5]; rfl) (fD.le.tr f5.le) e2 e3⟩)
    have z1 := t_num_le hp g1
    have z2 := t_num_le hp1 g2
    have z3 := t_num_le hp2 g3
    have z4 := t_num_le hp3 g4
    have z5 := t_sem_le hp4 g5
    have cell : ∀ z i, z ≠ 1 → σ5 z i = if z = 14 ∧ i = 0 then nI (N 0 0 + 1) else if z = 18 ∧ i = N 0 0 then nI m else if z = 17 ∧ i = N 0 0 then nI l else if z = 16 ∧ i = N 0 0 then nI c else if z = 15 ∧ i = N 0 0 then nI a else σ z i := fun z i hz => by
      rw [f5.1 z hz, x_up_zi, x_up_zi, f4.1 z hz, x_up_zi, f3.1 z hz, x_up_zi, f2.1 z hz, x_up_zi, f1.1 z hz]
    refine h1 q (g_rd N a c l m) σ5 (by rw [road, g5]; rfl) (by omega) hq (fD.tr f5.lf) k5 (g_rd_WN hN hr a2 c2 ⟨l1, l2⟩ ⟨m1, m2⟩) (hD.rd ?_ ?_ (fun i => ?_) (fun i => ?_) (fun i => ?_) (fun i => ?_) (fun z y1 y2 => ?_))
    · rw [cell _ _ (by omega), if_pos ⟨rfl, rfl⟩]
    · rw [cell _ _ (by omega), if_neg (by omega), if_neg (by omega), if_neg (by omega), if_neg (by omega), if_neg (by omega)]
    · rw [cell _ _ (by omega), if_neg (by omega), if_neg (by omega), if_neg (by omega), if_neg (by omega)]
      by_cases y : i = N 0 0
      · rw [if_pos ⟨rfl, y⟩, if_pos y]
      · rw [if_neg (fun g => y g.2), if_neg y]
    · rw [cell _ _ (by omega), if_neg (by omega), if_neg (by omega), if_neg (by omega)]
      by_cases y : i = N 0 0
      · rw [if_pos ⟨rfl, y⟩, if_pos y]
      · rw [if_neg (fun g => y g.2), if_neg (by omega), if_neg y]
    · rw [cell _ _ (by omega), if_neg (by omega), if_neg (by omega)]
      by_cases y : i = N 0 0
      · rw [if_pos ⟨rfl, y⟩, if_pos y]
      · rw [if_neg (fun g => y g.2), if_neg (by omega), if_neg (by omega), if_neg y]
    · rw [cell _ _ (by omega), if_neg (by omega)]
      by_cases y : i = N 0 0
      · rw [if_pos ⟨rfl, y⟩, if_pos y]
      · rw [if_neg (fun g => y g.2), if_neg (by omega), if_neg (by omega), if_neg (by omega), if_neg y]
    · funext i
      rw [cell _ _ (by omega), if_neg (by omega), if_neg (by omega), if_neg (by omega), if_neg (by omega), if_neg (by omega)]
  · refine sX_fail (c := 3) (by rw [x_up_n (show (1 : Nat) ≠ 16 by omega)]; exact k5) (fun σ3 f3 e2 e3 => ⟨Or.inl rfl, h0 3 (t_beg b n p1) σ3 (by unfold t_road; rw [g1]; show Except.bind (t_num b n 0 19 p1) _ = _; rw [g2]; show (if c = a then _ else Except.bind (t_num b n 1 300 p2) _) = _; rw [if_pos e]) (fB.le.tr f3.le) e2 e3⟩)
end RR
