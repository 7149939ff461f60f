/-! the best order of a platoon, searched by both -/
def p_vl (N C : g_F) (s m c : Nat) : Int32 := Int32.ofInt (g_vI N C (fun i => p_st (p_A N C s) (p_d c i)) m m)
def m_fz (ρ ρ' : x_S) : Prop := (∀ z, z ≠ 0 → z < 13 ∨ 18 < z → ρ' z = ρ z) ∧ ∀ i, i ≠ 26 → ρ' 0 i = ρ 0 i
theorem m_fz.rf (ρ : x_S) : m_fz ρ ρ := ⟨fun _ _ _ => rfl, fun _ _ => rfl⟩
theorem m_fz.tr {ρ ρ1 ρ2 : x_S} (h1 : m_fz ρ ρ1) (h2 : m_fz ρ1 ρ2) : m_fz ρ ρ2 := ⟨fun z a b => (h2.1 z a b).trans (h1.1 z a b), fun i a => (h2.2 i a).trans (h1.2 i a)⟩
theorem m_fz.fr {ρ ρ' : x_S} (h : m_fz ρ ρ') : m_fr ρ ρ' := ⟨fun z hz => h.1 z (by omega) (by omega), fun i hi => h.2 i (by omega)⟩
theorem m_fz.up {ρ : x_S} {z i : Nat} {v : Int32} (h : 13 ≤ z ∧ z ≤ 18) : m_fz ρ (x_up ρ z i v) := ⟨fun y _ c => x_up_n (by omega), fun j _ => by rw [x_up_n (show (0 : Nat) ≠ z by omega)]⟩
theorem m_fz.up26 {ρ : x_S} {v : Int32} : m_fz ρ (x_up ρ 0 26 v) := ⟨fun y a _ => x_up_n a, fun j a => x_up_sn a⟩
def x_fz (σ σ' : x_S) : Prop := ∀ z, z < 60 ∨ 62 < z → σ' z = σ z
theorem x_fz.fq {σ σ' : x_S} (h : x_fz σ σ') : x_fq σ σ' := ⟨fun z hz => h z (by omega), fun i _ => by rw [h 1 (by omega)]⟩
def p_nb (val : Nat → Int32) (b : Option Nat) (c : Nat) : Nat := match b with | none => c | some b0 => if val b0 < val c then c else b0
theorem p_ck_fold (val : Nat → Int32) {m : Nat} : ∀ {r : List Nat} {c : Nat}, p_ck m (c :: r) = true → ∀ j, j < m → p_d (p_fold val r c) j < m := by
  have key : ∀ (r : List Nat) (c b : Nat), p_ck m (c :: r) = true → (∀ j, j < m → p_d b j < m) → ∀ j, j < m → p_d (p_fold val r b) j < m := by
    intro r
    induction r with
    | nil => exact fun c b _ hb => hb
    | cons c' r ih =>
      intro c b h hb
      obtain ⟨-, -, h3⟩ := p_ck_go h
      rw [p_fold]
      refine ih c' _ h3 ?_
      by_cases z : val b < val c'
      · rw [if_pos z]
        exact p_ck_lt h3
      · rw [if_neg z]
        exact hb
  intro r c h
  exact key _ _ _ h (p_ck_lt h)
section BO
variable {N C : g_F} {w : Nat → Nat} {σ ρ : x_S} {τ θ : x_L} {lo m : Nat}
theorem sX_value0 (hN : g_WN N) (hW : g_WC N C) (hF : f_F N σ) (hR : f_R N σ τ) (hC : f_C N C 33 σ) {c n m : Nat} {o : Nat → Nat} {Q : Int32 → x_S → x_L → Prop} (hn : n ≤ 120) (hm : 1 ≤ m) (hmn : m ≤ n) (hw : ∀ j, j < m → σ c j = nI (o j)) (his : ∀ j, j < m → g_is N (o j)) (h : Q (Int32.ofInt (g_vI N C o m m)) σ τ) : wX6_valueOfOrder 33 c n 0 (nI m) σ τ Q := by
  have e : (fun i => o (0 + i)) = o := funext fun i => by rw [Nat.zero_add]
  have g := sX_value (Q := Q) (w := o) (c := c) (n := n) (lo := 0) (m := m) hN hW hF hR hC hn hm (by omega) (fun j hj => hw j (by omega)) (fun j _ hj => his j (by omega)) (by rw [e]; exact h)
  rw [Nat.zero_add] at g
  exact g
theorem p_st_mem (hN : g_WN N) (hW : g_WC N C) (hG : g_G N C w lo (lo + m)) {x : Nat} (hx : x < m) : g_is N (p_st (p_A N C (w lo)) x) ∧ g_mt N C (w lo) (p_st (p_A N C (w lo)) x) = true ∧ p_st (p_A N C (w lo)) x < 120 := by
  have ht := hG.tog hN hW (Nat.le_refl _) hG.1
  obtain ⟨a1, a2, a3⟩ := p_st_is (A := p_A N C (w lo)) (x := x) (by rw [p_A_all hN hW, ht]; omega)
  obtain ⟨b1, b2⟩ := p_A_iff.mp a2
  exact ⟨b1, b2, a1⟩
theorem p_st_ord (hN : g_WN N) (hW : g_WC N C) (hG : g_G N C w lo (lo + m)) (x y : Nat) (hx : x < m) (hy : y < m) : p_st (p_A N C (w lo)) x ≤ p_st (p_A N C (w lo)) y ↔ x ≤ y := by
  have ht := hG.tog hN hW (Nat.le_refl _) hG.1
  have hc : g_cnt (p_A N C (w lo)) 120 = m := by
    rw [p_A_all hN hW, ht]
    omega
  exact p_st_le (by omega) (by omega)
theorem sX_search (hN : g_WN N) (hW : g_WC N C) (hF : f_F N σ) (hR : f_R N σ τ) (hC : f_C N C 33 σ) (h1m : 1 ≤ m) (hm6 : m ≤ 6) (hlo : lo + m ≤ 120) (hw : ∀ i, i < m → σ 39 (lo + i) = nI (w (lo + i))) (hG : g_G N C w lo (lo + m)) {c0 : Nat} {r0 : List Nat} (hck : p_ck m (c0 :: r0) = true) (hid : ∀ j, j < m → p_d c0 j = j) (hlen : r0.length < 720) {Q : x_S → x_L → Prop} (h : ∀ σ' : x_S, x_fz σ σ' → σ' 60 4 = p_vl N C (w lo) m (p_fold (p_vl N C (w lo) m) r0 c0) → (∀ j, j < m → σ' 62 j = nI (p_st (p_A N C (w lo)) (p_d (p_fold (p_vl N C (w lo) m) r0 c0) j))) → Q σ' τ) : wX0_search (nI lo) (nI (lo + m)) σ τ Q := by
  have hin : ∀ i, i < m → w (lo + i) < 120 := fun i hi => g_is_lt hN (hG.2.1 (lo + i) (by omega) (by omega)).1
  have hinj : ∀ i j, i < m → j < m → w (lo + i) = w (lo + j) → i = j := fun i j hi hj e => by
    have := hG.2.2.2 (lo + i) (lo + j) (by omega) (by omega) (by omega) (by omega) e
    omega
  have hst := fun x (hx : x < m) => p_st_mem hN hW hG hx
  have hord := p_st_ord hN hW hG
  have hA : ∀ v, p_in w lo m v = p_A N C (w lo) v := fun v => by
    have := p_A_in hG v
    rw [show lo + m - lo = m by omega] at this
    exact this
  generalize hB : p_fold (p_vl N C (w lo) m) r0 c0 = B at h
  unfold wX0_search
  rw [show (nI (lo + m) - nI lo : Int32) = nI m from by rw [nI_sub (by omega), show lo + m - lo = m by omega]]
  rw [if_neg (show ¬ (6 : Int32) < nI m from fun y => absurd ((nI_ltI (a := 6) (by omega) (by omega)).mp y) (by omega))]
  refine sX_take6 (m := m) hm6 (x_up_ss _ _ _ _) hlo (fun i hi => by rw [x_up_n (by omega)]; exact hw i hi) hin hinj (fun σ1 f1 p1 => ?_)
  have fz1 : x_fz σ σ1 := fun z hz => by rw [f1 z (by omega), x_up_n (by omega)]
  have s60 : σ1 60 2 = nI m := by rw [f1 60 (by omega), x_up_ss]
  have s61 : ∀ j, j < m → σ1 61 j = nI (p_st (p_A N C (w lo)) (p_d c0 j)) := fun j hj => by
    rw [p1 j hj, p_st_cong (A := p_A N C (w lo)) (fun v _ => hA v), hid j hj]
  refine x_l2_I (fun k a b σ' τ' => ∃ c r v, k = r.length ∧ b = nI v ∧ v + r.length < 720 ∧ p_ck m (c :: r) = true ∧ x_fz σ σ' ∧ σ' 60 2 = nI m ∧ (∀ j, j < m → σ' 61 j = nI (p_st (p_A N C (w lo)) (p_d c j))) ∧ τ = τ' ∧ ((a = 0 ∧ p_fold (p_vl N C (w lo) m) r c = B) ∨ (a = 1 ∧ ∃ b, σ' 60 4 = p_vl N C (w lo) m b ∧ (∀ j, j < m → σ' 62 j = nI (p_st (p_A N C (w lo)) (p_d b j))) ∧ p_fold (p_vl N C (w lo) m) (c :: r) b = B))) ?_ r0.length ⟨c0, r0, 0, rfl, rfl, by omega, hck, fz1, s60, s61, rfl, Or.inl ⟨rfl, hB⟩⟩
  rintro k a b σ2 τ' ⟨c, r, v, rfl, rfl, hv, hck2, fz2, t60, t61, rfl, hs⟩ K hK
  have hdl := p_ck_lt hck2
  have go86 : ∀ (σ3 : x_S) (b : Nat), x_fz σ σ3 → σ3 60 2 = nI m → (∀ j, j < m → σ3 61 j = nI (p_st (p_A N C (w lo)) (p_d c j))) → σ3 60 4 = p_vl N C (w lo) m b → (∀ j, j < m → σ3 62 j = nI (p_st (p_A N C (w lo)) (p_d b j))) → p_fold (p_vl N C (w lo) m) r b = B → wX0_search_86 K Q 1 (nI v) σ3 τ := fun σ3 b y1 y2 y3 y4 y5 y6 => by
    unfold wX0_search_86
    rw [show (nI v + 1 : Int32) = nI (v + 1) from nI_add v 1]
    cases r with
    | nil =>
      refine sX_stepOn (st := p_st (p_A N C (w lo))) (d := p_d c) h1m hm6 y2 hord (fun x hx => (hst x hx).2.2) hdl y3 (fun g => absurd (p_ck_end hck2) g) (fun _ => i_zer' ?_)
      have e : b = B := y6
      rw [e] at y4 y5
      exact h σ3 y1 y4 y5
    | cons c' r' =>
      obtain ⟨q1, q2, q3⟩ := p_ck_go hck2
      rw [List.length_cons] at hv
      refine sX_stepOn (st := p_st (p_A N C (w lo))) (d := p_d c) h1m hm6 y2 hord (fun x hx => (hst x hx).2.2) hdl y3 (fun _ σ4 f4 g4 => i_one ?_) (fun g => absurd g q1)
      refine hK r'.length _ _ _ _ (by rw [List.length_cons]; omega) ⟨c', r', v + 1, rfl, rfl, by omega, q3, fun z hz => by rw [f4 z (by omega)]; exact y1 z hz, by rw [f4 60 (by omega)]; exact y2, fun j hj => by rw [g4 j hj, q2 j hj], rfl, Or.inr ⟨rfl, b, by rw [f4 60 (by omega)]; exact y4, fun j hj => by rw [f4 62 (by omega)]; exact y5 j hj, y6⟩⟩
  have go61 : p_fold (p_vl N C (w lo) m) r c = B → wX0_search_61 K Q (nI v) (p_vl N C (w lo) m c) σ2 τ := fun hf => by
    have e0 : (0 : Int32).toNatClampNeg = 0 := rfl
    unfold wX0_search_61
    rw [x_up_sn (show (2 : Nat) ≠ 4 by omega), t60, i_cl (show m < 1000000000 by omega), e0]
    refine ⟨⟨⟨by decide, by decide, nI_neg (by omega)⟩, by omega, by omega⟩, go86 _ c (fun z hz => ?_) ?_ (fun j hj => ?_) ?_ (fun j hj => ?_) hf⟩
    · rw [x_cp_nn (by omega), x_up_n (by omega)]
      exact fz2 z hz
    · rw [x_cp_nn (by omega), x_up_sn (by omega)]
      exact t60
    · rw [x_cp_nn (by omega), x_up_n (by omega)]
      exact t61 j hj
    · rw [x_cp_nn (by omega), x_up_ss]
    · rw [x_cp_zi, if_pos ⟨rfl, hj⟩, x_up_n (by omega)]
      exact t61 j hj
  unfold wX0_search_22
  rw [t60]
  refine i_le (a := 720) (by omega) (by omega) (fun g => absurd g (by omega)) (fun _ => ?_)
  refine sX_value0 (o := fun i => p_st (p_A N C (w lo)) (p_d c i)) hN hW (hF.cong (fun z hz => fz2 z (by omega))) (hR.cong (fun z hz => fz2 z (by omega))) (hC.cong (fun z hz => fz2 z (by omega))) (by omega) h1m hm6 t61 (fun j hj => (hst _ (hdl j hj)).1) ?_
  show (a = 0 → wX0_search_61 K Q (nI v) (p_vl N C (w lo) m c) σ2 τ) ∧ (¬ a = 0 → (p_vl N C (w lo) m c ≤ σ2 60 4 → wX0_search_86 K Q a (nI v) σ2 τ) ∧ (¬ p_vl N C (w lo) m c ≤ σ2 60 4 → wX0_search_61 K Q (nI v) (p_vl N C (w lo) m c) σ2 τ))
  rcases hs with ⟨rfl, hf⟩ | ⟨rfl, b, y4, y5, hf⟩
  · exact i_zer (go61 hf)
  · refine i_one' ?_
    rw [y4]
    rw [p_fold] at hf
    refine ⟨fun g => go86 σ2 b fz2 t60 t61 y4 y5 ?_, fun g => go61 ?_⟩
    · rw [if_neg (Int32.not_lt.mpr g)] at hf
      exact hf
    · rw [if_pos (Int32.not_le.mp g)] at hf
      exact hf
theorem sM_layTurns {d st : Nat → Nat} (hm6 : m ≤ 6) (hd : ∀ j, j < m → d j < m) (h17 : ∀ j, j < m → ρ 17 j = nI (d j)) (h15 : ∀ x, x < m → ρ 15 x = nI (st x / 10) ∧ ρ 16 x = nI (st x % 10)) {Q : x_S → x_L → Prop} (h : ∀ ρ' : x_S, (∀ z, z ≠ 13 → z ≠ 14 → ρ' z = ρ z) → m_Q (fun i => st (d i)) m ρ' → Q ρ' θ) : wX11_layTurns (nI m) ρ θ Q := by
  unfold wX11_layTurns
  refine x_S2 (fun i ρ' θ' => (∀ z, z ≠ 13 → z ≠ 14 → ρ' z = ρ z) ∧ m_Q (fun i => st (d i)) i ρ' ∧ θ = θ') (fun _ => nI m) (fun i => nI i) (lo := 0) (n := m) (Nat.zero_le _) (fun K i ρ1 θ1 _ hi hP hK => ?_) (fun K ρ1 θ1 hP => ?_) ⟨fun _ _ _ => rfl, fun j hj => absurd hj (Nat.not_lt_zero _), rfl⟩ rfl rfl
  · obtain ⟨f, p1, rfl⟩ := hP
    have hdi := hd i hi
    unfold wX11_layTurns_2
    rw [i_cl (show i < 1000000000 by omega), x_up_n (show (17 : Nat) ≠ 13 by omega), f 17 (by omega) (by omega), h17 i hi, i_cl (by omega), x_up_n (show (16 : Nat) ≠ 13 by omega), f 15 (by omega) (by omega), f 16 (by omega) (by omega), (h15 _ hdi).1, (h15 _ hdi).2, show (nI i + 1 : Int32) = nI (i + 1) from nI_add i 1]
    refine i_le (by omega) (by omega) (fun g => absurd g (by omega)) (fun _ => ⟨i_in (by omega) (by omega), i_in (by omega) (by omega), i_in (by omega) (by omega), hK _ _ ⟨fun z a b => by rw [x_up_n b, x_up_n a]; exact f z a b, fun j hj => ?_, rfl⟩⟩)
    rw [x_up_n (show (13 : Nat) ≠ 14 by omega), x_up_i, x_up_i, x_up_n (show (14 : Nat) ≠ 13 by omega)]
    by_cases z : j = i
    · rw [if_pos z, if_pos z, z]
      exact ⟨rfl, rfl⟩
    · rw [if_neg z, if_neg z]
      exact p1 j (by omega)
  · obtain ⟨f, p1, rfl⟩ := hP
    unfold wX11_layTurns_2
    exact i_le (by omega) (by omega) (fun _ => h ρ1 f p1) (fun g => absurd g (by omega))
theorem sM_meet24 {o : Nat → Nat} {v : Int32} (hm6 : m ≤ 6) (hO : m_Q o m ρ) {Q : x_S → x_L → Prop} (h : ∀ ρ' : x_S, (∀ z, z ≠ 0 → z ≠ 18 → ρ' z = ρ z) → (∀ i, i ≠ 26 → ρ' 0 i = ρ 0 i) → ρ' 0 26 = v → (∀ j, j < m → ρ' 18 j = nI (o j / 10)) → Q ρ' θ) : wX11_meetTurn_24 Q (nI m) v ρ θ := by
  unfold wX11_meetTurn_24
  refine x_S2 (fun i ρ' θ' => (∀ z, z ≠ 0 → z ≠ 18 → ρ' z = ρ z) ∧ (∀ i, i ≠ 26 → ρ' 0 i = ρ 0 i) ∧ ρ' 0 26 = v ∧ (∀ j, j < i → ρ' 18 j = nI (o j / 10)) ∧ θ = θ') (fun _ => nI m) (fun i => nI i) (lo := 0) (n := m) (Nat.zero_le _) (fun K i ρ1 θ1 _ hi hP hK => ?_) (fun K ρ1 θ1 hP => ?_) ⟨fun z a _ => x_up_n a, fun i hi => x_up_sn hi, x_up_ss _ _ _ _, fun j hj => absurd hj (Nat.not_lt_zero _), rfl⟩ rfl rfl
  · obtain ⟨f, g0, g26, p1, rfl⟩ := hP
    unfold wX11_meetTurn_32
    rw [i_cl (show i < 1000000000 by omega), f 13 (by omega) (by omega), (hO i hi).1, show (nI i + 1 : Int32) = nI (i + 1) from nI_add i 1]
    refine i_le (by omega) (by omega) (fun g => absurd g (by omega)) (fun _ => ⟨i_in (by omega) (by omega), hK _ _ ⟨fun z a b => by rw [x_up_n b]; exact f z a b, fun i hi => by rw [x_up_n (show (0 : Nat) ≠ 18 by omega)]; exact g0 i hi, by rw [x_up_n (show (0 : Nat) ≠ 18 by omega)]; exact g26, fun j hj => ?_, rfl⟩⟩)
    rw [x_up_i]
    by_cases z : j = i
    · rw [if_pos z, z]
    · rw [if_neg z]
      exact p1 j (by omega)
  · obtain ⟨f, g0, g26, p1, rfl⟩ := hP
    unfold wX11_meetTurn_32
    exact i_le (by omega) (by omega) (fun _ => h ρ1 f g0 g26 p1) (fun g => absurd g (by omega))
/-- a turn is met: a first one, or against the best so far -/
theorem sM_meet (hN : g_WN N) (hW : g_WC N C) (hF : m_F N ρ) (hC : m_C N C 0 ρ) (hm6 : m ≤ 6) {s c : Nat} {a : Int32} {b : Option Nat} (hst : ∀ x, x < m → g_is N (p_st (p_A N C s) x) ∧ g_mt N C s (p_st (p_A N C s) x) = true) (hd : ∀ j, j < m → p_d c j < m) (h17 : ∀ j, j < m → ρ 17 j = nI (p_d c j)) (h15 : ∀ x, x < m → ρ 15 x = nI (p_st (p_A N C s) x / 10) ∧ ρ 16 x = nI (p_st (p_A N C s) x % 10)) (hb : (b = none ∧ a = 1) ∨ ∃ b0, b = some b0 ∧ a = 0 ∧ ρ 0 26 = p_vl N C s m b0 ∧ ∀ j, j < m → ρ 18 j = nI (p_st (p_A N C s) (p_d b0 j) / 10)) {Q : x_S → x_L → Prop} (h : ∀ (ρ' : x_S) (b' : Nat), (∀ z, z ≠ 0 → z ≠ 13 → z ≠ 14 → z ≠ 18 → ρ' z = ρ z) → (∀ i, i ≠ 26 → ρ' 0 i = ρ 0 i) → b' = p_nb (p_vl N C s m) b c → ρ' 0 26 = p_vl N C s m b' → (∀ j, j < m → ρ' 18 j = nI (p_st (p_A N C s) (p_d b' j) / 10)) → Q ρ' θ) : wX11_meetTurn (nI m) a ρ θ Q := by
  unfold wX11_meetTurn
  refine sM_layTurns (d := p_d c) (st := p_st (p_A N C s)) hm6 hd h17 h15 (fun ρ1 f1 hO => ?_)
  have his : ∀ i, i < m → g_is N (p_st (p_A N C s) (p_d c i)) := fun i hi => (hst _ (hd i hi)).1
  have hB : ∀ i, i < m → g_base N C (p_st (p_A N C s) (p_d c i)) = g_base N C (p_st (p_A N C s) (p_d c 0)) := fun i hi => by
    obtain ⟨a1, -, a3⟩ := g_mt_iff.mp (hst _ (hd i hi)).2
    obtain ⟨b1, -, b3⟩ := g_mt_iff.mp (hst _ (hd 0 (by omega))).2
    unfold g_base
    rw [← a1, ← b1, ← a3, ← b3]
  refine sM_value (o := fun i => p_st (p_A N C s) (p_d c i)) hN hW (hF.cong (f1 3 (by omega) (by omega))) (hC.cong (f1 1 (by omega) (by omega))) (by omega) hO his hB ?_
  show (¬ a = 0 → wX11_meetTurn_24 Q (nI m) (p_vl N C s m c) ρ1 θ) ∧ (a = 0 → (ρ1 0 26 < p_vl N C s m c → wX11_meetTurn_24 Q (nI m) (p_vl N C s m c) ρ1 θ) ∧ (¬ ρ1 0 26 < p_vl N C s m c → Q ρ1 θ))
  have take : c = p_nb (p_vl N C s m) b c → wX11_meetTurn_24 Q (nI m) (p_vl N C s m c) ρ1 θ := fun e => sM_meet24 hm6 hO (fun ρ2 f2 g0 g26 g18 => h ρ2 c (fun z z0 z1 z2 z3 => by rw [f2 z z0 z3]; exact f1 z z1 z2) (fun i hi => by rw [g0 i hi, f1 0 (by omega) (by omega)]) e g26 g18)
  rcases hb with ⟨rfl, rfl⟩ | ⟨b0, rfl, rfl, g26, g18⟩
  · exact i_one (take rfl)
  · rw [f1 0 (by omega) (by omega), g26]
    refine i_zer' ⟨fun g => take (by show c = if p_vl N C s m b0 < p_vl N C s m c then c else b0; rw [if_pos g]), fun g => h ρ1 b0 (fun z _ z1 z2 _ => f1 z z1 z2) (fun i _ => by rw [f1 0 (by omega) (by omega)]) (by show b0 = if p_vl N C s m b0 < p_vl N C s m c then c else b0; rw [if_neg g]) (by rw [f1 0 (by omega) (by omega)]; exact g26) (fun j hj => by rw [f1 18 (by omega) (by omega)]; exact g18 j hj)⟩
theorem sM_layBest (hM : g_M N C ρ) (hL : m_L N C ρ) (h1m : 1 ≤ m) (hm6 : m ≤ 6) (hG : g_G N C w lo (lo + m)) (hsr : g_srt (g_akey N C) w lo (lo + m)) (g17 : ρ 0 17 = nI (w lo / 10)) (g18 : ρ 0 18 = nI (w lo % 10)) {c0 : Nat} {r0 : List Nat} (hck : p_ck m (c0 :: r0) = true) (hid : ∀ j, j < m → p_d c0 j = j) {Q : Int32 → x_S → x_L → Prop} (h : ∀ ρ' : x_S, m_fz ρ ρ' → ρ' 0 26 = p_vl N C (w lo) m (p_fold (p_vl N C (w lo) m) r0 c0) → (∀ j, j < m → ρ' 18 j = nI (p_st (p_A N C (w lo)) (p_d (p_fold (p_vl N C (w lo) m) r0 c0) j) / 10)) → Q (Int32.ofInt (g_vI N C (fun i => w (lo + i)) m m)) ρ' θ) : wX11_layBest ρ θ Q := by
  obtain ⟨hN, hW, hF, hC⟩ := id hM
  have hb := hN.1.2
  have hs := (hG.2.1 lo (Nat.le_refl _) hG.1).1
  have htog := hG.tog hN hW (Nat.le_refl _) hG.1
  rw [show lo + m - lo = m by omega] at htog
  have hst := fun x (hx : x < m) => p_st_mem hN hW hG hx
  have hst2 : ∀ x, x < m → g_is N (p_st (p_A N C (w lo)) x) ∧ g_mt N C (w lo) (p_st (p_A N C (w lo)) x) = true := fun x hx => ⟨(hst x hx).1, (hst x hx).2.1⟩
  have es : 10 * (w lo / 10) + w lo % 10 = w lo := by omega
  generalize hB : p_fold (p_vl N C (w lo) m) r0 c0 = B at h
  unfold wX11_layBest
  rw [g17, g18]
  refine sM_layOrder hN hW hF hL.2.1 hL.2.2.1 hL.2.2.2.1 hs.1 hs.2 (fun ρ1 f1 hO => ?_)
  rw [es] at hO ⊢
  rw [htog]
  have fz1 : m_fz ρ ρ1 := ⟨fun z _ b => f1 z (by omega) (by omega), fun i _ => by rw [f1 0 (by omega) (by omega)]⟩
  have hQ1 : m_Q (fun i => w (lo + i)) m ρ1 := fun i hi => by
    obtain ⟨m1, m2⟩ := hG.mem hN hW hsr (Nat.le_refl _) hG.1 (j := i) (by omega)
    obtain ⟨o1, o2⟩ := hO i (by rw [htog]; exact hi)
    have hmm : 10 * g_mem N C (w lo) i + g_pl N C (w lo) (g_mem N C (w lo) i) = w (lo + i) := m2
    rw [m1] at o1 o2 hmm
    exact ⟨o1, by rw [o2, show g_pl N C (w lo) (w (lo + i) / 10) = w (lo + i) % 10 by omega]⟩
  have his : ∀ i, i < m → g_is N (w (lo + i)) := fun i hi => (hG.2.1 (lo + i) (by omega) (by omega)).1
  refine sM_value (o := fun i => w (lo + i)) hN hW (hF.cong (f1 3 (by omega) (by omega))) (hC.cong (f1 1 (by omega) (by omega))) (by omega) hQ1 his (fun i hi => by rw [hG.base (show lo ≤ lo + i by omega) (by omega), hG.base (show lo ≤ lo + 0 by omega) (by omega)]) ?_
  generalize hown : Int32.ofInt (g_vI N C (fun i => w (lo + i)) m m) = own at h
  refine x_S4 (fun t ρ' θ' => (∀ z, z ≠ 15 → z ≠ 16 → z ≠ 17 → ρ' z = ρ1 z) ∧ m_B N C (w lo) t ρ' ∧ θ = θ') (fun _ => nI m) (fun _ => own) (fun t => nI (g_cnt (g_has N C (w lo)) t)) (fun t => nI t) (lo := 0) (n := N 0 1) (Nat.zero_le _) (fun K t ρ2 θ2 _ ht hP hK => ?_) (fun K ρ2 θ2 hP => ?_) ⟨fun _ _ _ _ => rfl, ⟨fun o ho => absurd ho (Nat.not_lt_zero _), fun j hj => absurd hj (Nat.not_lt_zero _)⟩, rfl⟩ rfl rfl rfl rfl
  · obtain ⟨f2, hB2, rfl⟩ := hP
    have hF2 : m_F N ρ2 := hF.cong (by rw [f2 3 (by omega) (by omega) (by omega)]; exact f1 3 (by omega) (by omega))
    have hM2 : m_M N C ρ2 := hL.2.1.cong (by rw [f2 6 (by omega) (by omega) (by omega)]; exact f1 6 (by omega) (by omega))
    have k17 : ρ2 0 17 = nI (w lo / 10) := by rw [f2 0 (by omega) (by omega) (by omega), f1 0 (by omega) (by omega)]; exact g17
    have k18 : ρ2 0 18 = nI (w lo % 10) := by rw [f2 0 (by omega) (by omega) (by omega), f1 0 (by omega) (by omega)]; exact g18
    have hct := g_cnt_le (g_has N C (w lo)) t
    unfold wX11_layBest_24 wX11_layBest_86
    rw [e_c1, hF2.1.2, k17, k18, show (nI t + 1 : Int32) = nI (t + 1) from nI_add t 1]
    refine i_le (by omega) (by omega) (fun g => absurd g (by omega)) (fun _ => sM_mateOf hN hM2 hs.1 hs.2 ht ?_)
    rw [es]
    refine (i_mate hN ht (fun hh => ?_) (fun hh => ?_)).symm
    · have hc1 : g_cnt (g_has N C (w lo)) (t + 1) = g_cnt (g_has N C (w lo)) t + 1 := by
        rw [g_cnt_succ, if_pos hh]
      rw [i_cl (by omega), g_mI_has hh, show (nI (g_cnt (g_has N C (w lo)) t) + 1 : Int32) = nI (g_cnt (g_has N C (w lo)) t + 1) from nI_add _ 1, ← hc1]
      refine ⟨i_in (by omega) (by omega), hK _ _ ⟨fun z a b c => by rw [x_up_n c, x_up_n b, x_up_n a]; exact f2 z a b c, ⟨fun o ho hho => ?_, fun j hj => ?_⟩, rfl⟩⟩
      · rw [x_up_n (show (15 : Nat) ≠ 17 by omega), x_up_n (show (15 : Nat) ≠ 16 by omega), x_up_i, x_up_n (show (16 : Nat) ≠ 17 by omega), x_up_i, x_up_n (show (16 : Nat) ≠ 15 by omega)]
        by_cases z : o = t
        · rw [z, if_pos rfl, if_pos rfl]
          exact ⟨rfl, rfl⟩
        · have := g_cnt_up (A := g_has N C (w lo)) (show o < t by omega) hho
          rw [if_neg (by omega), if_neg (by omega)]
          exact hB2.1 o (by omega) hho
      · rw [x_up_i]
        by_cases z : j = g_cnt (g_has N C (w lo)) t
        · rw [if_pos z, z]
        · rw [if_neg z, x_up_n (show (17 : Nat) ≠ 16 by omega), x_up_n (show (17 : Nat) ≠ 15 by omega)]
          exact hB2.2 j (by omega)
    · have hc0 : g_cnt (g_has N C (w lo)) (t + 1) = g_cnt (g_has N C (w lo)) t := by
        rw [g_cnt_succ, if_neg (by rw [hh]; decide), Nat.add_zero]
      have hk := hK ρ2 θ ⟨f2, ⟨fun o ho hho => ?_, fun j hj => hB2.2 j (by omega)⟩, rfl⟩
      · rw [hc0] at hk
        exact hk
      · have : o ≠ t := fun e => by rw [e, hh] at hho; cases hho
        exact hB2.1 o (by omega) hho
  · obtain ⟨f2, hB2, rfl⟩ := hP
    have hz : m_fz ρ ρ2 := fz1.tr ⟨fun z _ b => f2 z (by omega) (by omega) (by omega), fun i _ => by rw [f2 0 (by omega) (by omega) (by omega)]⟩
    have h15 : ∀ x, x < m → ρ2 15 x = nI (p_st (p_A N C (w lo)) x / 10) ∧ ρ2 16 x = nI (p_st (p_A N C (w lo)) x % 10) := fun x hx => hB2.at hN hW (by rw [htog]; exact hx)
    have hcm : g_cnt (g_has N C (w lo)) (N 0 1) = m := htog
    have h17 : ∀ j, j < m → ρ2 17 j = nI (p_d c0 j) := fun j hj => by
      rw [hid j hj]
      exact hB2.2 j (by rw [hcm]; exact hj)
    unfold wX11_layBest_24
    rw [e_c1, (hF.cong (hz.1 3 (by omega) (by omega))).1.2]
    refine i_le (by omega) (by omega) (fun _ => ?_) (fun g => absurd g (by omega))
    refine sM_meet (s := w lo) (c := c0) (b := none) hN hW (hF.cong (hz.1 3 (by omega) (by omega))) (hC.cong (hz.1 1 (by omega) (by omega))) hm6 hst2 (p_ck_lt hck) h17 h15 (Or.inl ⟨rfl, rfl⟩) (fun ρ3 b3 f3 g3 eb q26 q18 => ?_)
    have eb' : b3 = c0 := eb
    rw [eb'] at q26 q18
    have hz3 : m_fz ρ ρ3 := hz.tr ⟨fun z a b => f3 z a (by omega) (by omega) (by omega), g3⟩
    refine x_l2_I (fun k a e ρ' θ' => ∃ c r b, k = r.length ∧ a = nI m ∧ e = own ∧ p_ck m (c :: r) = true ∧ m_fz ρ ρ' ∧ (∀ j, j < m → ρ' 17 j = nI (p_d c j)) ∧ (∀ x, x < m → ρ' 15 x = nI (p_st (p_A N C (w lo)) x / 10) ∧ ρ' 16 x = nI (p_st (p_A N C (w lo)) x % 10)) ∧ ρ' 0 26 = p_vl N C (w lo) m b ∧ (∀ j, j < m → ρ' 18 j = nI (p_st (p_A N C (w lo)) (p_d b j) / 10)) ∧ p_fold (p_vl N C (w lo) m) r b = B ∧ θ = θ') ?_ r0.length ⟨c0, r0, c0, rfl, rfl, rfl, hck, hz3, fun j hj => by rw [f3 17 (by omega) (by omega) (by omega) (by omega)]; exact h17 j hj, fun x hx => by rw [f3 15 (by omega) (by omega) (by omega) (by omega), f3 16 (by omega) (by omega) (by omega) (by omega)]; exact h15 x hx, q26, q18, hB, rfl⟩
    rintro k a e ρ4 θ' ⟨c, r, b, rfl, rfl, rfl, hck4, hz4, k17, k15, k26, k18, hf, rfl⟩ K2 hK2
    unfold wX11_layBest_98
    cases r with
    | nil =>
      refine sM_nextTurn (d := p_d c) h1m hm6 (p_ck_lt hck4) k17 (fun g => absurd (p_ck_end hck4) g) (fun _ => i_zer ?_)
      have e : b = B := hf
      rw [e] at k26 k18
      exact h ρ4 hz4 k26 k18
    | cons c' r' =>
      obtain ⟨u1, u2, u3⟩ := p_ck_go hck4
      refine sM_nextTurn (d := p_d c) h1m hm6 (p_ck_lt hck4) k17 (fun _ ρ5 f5 g5 => i_one' ?_) (fun g => absurd g u1)
      have hz5 : m_fz ρ ρ5 := hz4.tr ⟨fun z _ b => f5 z (by omega), fun i _ => by rw [f5 0 (by omega)]⟩
      have l15 : ∀ x, x < m → ρ5 15 x = nI (p_st (p_A N C (w lo)) x / 10) ∧ ρ5 16 x = nI (p_st (p_A N C (w lo)) x % 10) := fun x hx => by
        rw [f5 15 (by omega), f5 16 (by omega)]
        exact k15 x hx
      have l17 : ∀ j, j < m → ρ5 17 j = nI (p_d c' j) := fun j hj => by rw [g5 j hj, u2 j hj]
      refine sM_meet (s := w lo) (c := c') (b := some b) hN hW (hF.cong (hz5.1 3 (by omega) (by omega))) (hC.cong (hz5.1 1 (by omega) (by omega))) hm6 hst2 (p_ck_lt u3) l17 l15 (Or.inr ⟨b, rfl, rfl, by rw [f5 0 (by omega)]; exact k26, fun j hj => by rw [f5 18 (by omega)]; exact k18 j hj⟩) (fun ρ6 b6 f6 g6 eb q26 q18 => ?_)
      refine hK2 r'.length _ _ _ _ (by rw [List.length_cons]; omega) ⟨c', r', b6, rfl, rfl, rfl, u3, hz5.tr ⟨fun z a b => f6 z a (by omega) (by omega) (by omega), g6⟩, fun j hj => by rw [f6 17 (by omega) (by omega) (by omega) (by omega)]; exact l17 j hj, fun x hx => by rw [f6 15 (by omega) (by omega) (by omega) (by omega), f6 16 (by omega) (by omega) (by omega) (by omega)]; exact l15 x hx, q26, q18, ?_, rfl⟩
      have eb' : b6 = if p_vl N C (w lo) m b < p_vl N C (w lo) m c' then c' else b := eb
      rw [eb']
      exact hf
end BO
