/-! the members of a platoon by their trucks -/
def p_st (A : Nat → Bool) (x : Nat) : Nat := g_first (fun v => A v && decide (g_cnt A v = x)) 120
theorem p_st_eq {A : Nat → Bool} {v : Nat} (hv : v < 120) (h : A v = true) : p_st A (g_cnt A v) = v := by
  refine g_first_eq hv (by rw [h, Bool.true_and, decide_eq_true_iff]) (fun j hj hq => ?_)
  rw [Bool.and_eq_true, decide_eq_true_iff] at hq
  rcases Nat.lt_trichotomy j v with c | c | c
  · have := g_cnt_up c hq.1
    omega
  · exact c
  · have := g_cnt_up c h
    omega
theorem p_st_is {A : Nat → Bool} {x : Nat} (hx : x < g_cnt A 120) : p_st A x < 120 ∧ A (p_st A x) = true ∧ g_cnt A (p_st A x) = x := by
  obtain ⟨s, h1, h2, h3⟩ := g_cnt_sur hx
  have := p_st_eq h1 h2
  rw [h3] at this
  rw [this]
  exact ⟨h1, h2, h3⟩
theorem p_st_le {A : Nat → Bool} {x y : Nat} (hx : x < g_cnt A 120) (hy : y < g_cnt A 120) : p_st A x ≤ p_st A y ↔ x ≤ y := by
  obtain ⟨a1, a2, a3⟩ := p_st_is hx
  obtain ⟨b1, b2, b3⟩ := p_st_is hy
  constructor
  · intro h
    have := g_cnt_m (A := A) (a := p_st A x) (p_st A y - p_st A x)
    rw [show p_st A x + (p_st A y - p_st A x) = p_st A y by omega] at this
    omega
  · intro h
    apply Classical.byContradiction
    intro c
    have := g_cnt_up (A := A) (show p_st A y < p_st A x by omega) b2
    omega
theorem p_st_cong {A A' : Nat → Bool} (h : ∀ v, v < 120 → A' v = A v) (x : Nat) : p_st A' x = p_st A x := by
  refine g_first_congr (fun v hv => ?_)
  rw [h v hv, g_cnt_congr (p := A') (q := A) (fun i hi => h i (by omega))]
/-- one more member -/
theorem p_cnt_ins {A A' : Nat → Bool} {x : Nat} (h : ∀ v, A' v = (A v || decide (v = x))) (hx : A x = false) : ∀ v, g_cnt A' v = g_cnt A v + if x < v then 1 else 0
  | 0 => rfl
  | v + 1 => by
    rw [g_cnt_succ, g_cnt_succ, p_cnt_ins h hx v, h v]
    by_cases z : v = x
    · subst z
      rw [hx, decide_eq_true rfl, Bool.false_or, if_pos rfl, if_neg (show ¬ v < v by omega), if_neg (show ¬ (false = true) by decide), if_pos (show v < v + 1 by omega)]
    · rw [decide_eq_false z, Bool.or_false]
      by_cases y : x < v
      · rw [if_pos y, if_pos (show x < v + 1 by omega)]
        omega
      · rw [if_neg y, if_neg (show ¬ x < v + 1 by omega)]
        omega
theorem p_st_lt {A : Nat → Bool} {x j : Nat} (hj : j < g_cnt A 120) : p_st A j < x ↔ j < g_cnt A x := by
  obtain ⟨a1, a2, a3⟩ := p_st_is hj
  constructor
  · intro h
    have := g_cnt_up h a2
    omega
  · intro h
    apply Classical.byContradiction
    intro c
    have := g_cnt_m (A := A) (a := x) (p_st A j - x)
    rw [show x + (p_st A j - x) = p_st A j by omega] at this
    omega
theorem p_st_ins {A A' : Nat → Bool} {x j : Nat} (h : ∀ v, A' v = (A v || decide (v = x))) (hx : A x = false) (hx2 : x < 120) (hj : j ≤ g_cnt A 120) : p_st A' j = if j < g_cnt A x then p_st A j else if j = g_cnt A x then x else p_st A (j - 1) := by
  have hc := p_cnt_ins h hx
  have hm := g_cnt_m (A := A) (a := x) (120 - x)
  rw [show x + (120 - x) = 120 by omega] at hm
  by_cases c : j < g_cnt A x
  · rw [if_pos c]
    obtain ⟨a1, a2, a3⟩ := p_st_is (A := A) (x := j) (by omega)
    have hl := (p_st_lt (A := A) (x := x) (j := j) (by omega)).mpr c
    have := p_st_eq (A := A') a1 (by rw [h, a2]; rfl)
    rw [hc, if_neg (by omega), a3, Nat.add_zero] at this
    exact this
  · rw [if_neg c]
    by_cases c2 : j = g_cnt A x
    · rw [if_pos c2]
      have := p_st_eq (A := A') hx2 (by rw [h, decide_eq_true rfl, Bool.or_true])
      rw [hc, if_neg (by omega), Nat.add_zero, ← c2] at this
      exact this
    · rw [if_neg c2]
      obtain ⟨a1, a2, a3⟩ := p_st_is (A := A) (x := j - 1) (by omega)
      have hl : ¬ p_st A (j - 1) < x := fun y => absurd ((p_st_lt (A := A) (x := x) (j := j - 1) (by omega)).mp y) (by omega)
      have hne : p_st A (j - 1) ≠ x := fun y => by rw [y, hx] at a2; cases a2
      have := p_st_eq (A := A') a1 (by rw [h, a2]; rfl)
      rw [hc, if_pos (by omega), a3, show j - 1 + 1 = j by omega] at this
      exact this
def p_in (w : Nat → Nat) (lo t v : Nat) : Bool := decide (∃ i, i < t ∧ w (lo + i) = v)
theorem p_in_s {w : Nat → Nat} {lo t : Nat} (v : Nat) : p_in w lo (t + 1) v = (p_in w lo t v || decide (v = w (lo + t))) := by
  apply Bool.eq_iff_iff.mpr
  unfold p_in
  rw [Bool.or_eq_true, decide_eq_true_iff, decide_eq_true_iff, decide_eq_true_iff]
  constructor
  · rintro ⟨i, h1, h2⟩
    by_cases z : i = t
    · exact Or.inr (by rw [← h2, z])
    · exact Or.inl ⟨i, by omega, h2⟩
  · rintro (⟨i, h1, h2⟩ | h)
    · exact ⟨i, by omega, h2⟩
    · exact ⟨t, by omega, h.symm⟩
theorem p_in_0 (w : Nat → Nat) (lo v : Nat) : p_in w lo 0 v = false := by
  unfold p_in
  rw [decide_eq_false_iff_not]
  rintro ⟨i, h, -⟩
  omega
section TK2
variable {σ ρ : x_S} {τ θ : x_L} {w : Nat → Nat} {lo m : Nat}
theorem p_in_cnt (hi : ∀ i, i < m → w (lo + i) < 120) (hj : ∀ i j, i < m → j < m → w (lo + i) = w (lo + j) → i = j) : ∀ t, t ≤ m → g_cnt (p_in w lo t) 120 = t
  | 0, _ => g_sum_zero (fun i _ => by rw [p_in_0]; rfl)
  | t + 1, ht => by
    have h0 : p_in w lo t (w (lo + t)) = false := by
      unfold p_in
      rw [decide_eq_false_iff_not]
      rintro ⟨i, h1, h2⟩
      have := hj i t (by omega) (by omega) h2
      omega
    rw [p_cnt_ins (A := p_in w lo t) p_in_s h0, p_in_cnt hi hj t (by omega), if_pos (hi t (by omega))]
theorem sX_take6 (hm6 : m ≤ 6) (h60 : σ 60 2 = nI m) (hlo : lo + m ≤ 120) (hw : ∀ i, i < m → σ 39 (lo + i) = nI (w (lo + i))) (hi : ∀ i, i < m → w (lo + i) < 120) (hj : ∀ i j, i < m → j < m → w (lo + i) = w (lo + j) → i = j) {Q : x_S → x_L → Prop} (h : ∀ σ' : x_S, (∀ z, z ≠ 61 → σ' z = σ z) → (∀ j, j < m → σ' 61 j = nI (p_st (p_in w lo m) j)) → Q σ' τ) : wX0_takeMembers (nI lo) σ τ Q := by
  unfold wX0_takeMembers
  refine x_S2 (fun t σ' τ' => (∀ z, z ≠ 61 → σ' z = σ z) ∧ (∀ j, j < t → σ' 61 j = nI (p_st (p_in w lo t) j)) ∧ τ = τ') (fun _ => nI lo) (fun t => nI t) (lo := 0) (n := m) (Nat.zero_le _) (fun K t σ1 τ1 _ ht hP hK => ?_) (fun K σ1 τ1 hP => ?_) ⟨fun _ _ => rfl, fun j hj => absurd hj (Nat.not_lt_zero _), rfl⟩ rfl rfl
  · obtain ⟨f, p1, rfl⟩ := hP
    have hcnt := p_in_cnt hi hj t (by omega)
    have h0 : p_in w lo t (w (lo + t)) = false := by
      unfold p_in
      rw [decide_eq_false_iff_not]
      rintro ⟨i, h1, h2⟩
      have := hj i t (by omega) (by omega) h2
      omega
    have hx := hi t ht
    have hins := fun j (hj : j ≤ t) => p_st_ins (A := p_in w lo t) (A' := p_in w lo (t + 1)) (j := j) p_in_s h0 hx (by rw [hcnt]; exact hj)
    have hrt : g_cnt (p_in w lo t) (w (lo + t)) ≤ t := by
      have := g_cnt_m (A := p_in w lo t) (a := w (lo + t)) (120 - w (lo + t))
      rw [show w (lo + t) + (120 - w (lo + t)) = 120 by omega, hcnt] at this
      exact this
    have hbd : ∀ j, j < t → p_st (p_in w lo t) j < 120 := fun j hj => (p_st_is (by rw [hcnt]; exact hj)).1
    unfold wX0_takeMembers_2
    rw [f 60 (by omega), h60, show (nI lo + nI t : Int32) = nI (lo + t) from nI_add lo t, i_cl (by omega), f 39 (by omega), hw t ht]
    refine i_le (by omega) (by omega) (fun g => absurd g (by omega)) (fun _ => ⟨i_in (by omega) (by omega), ?_⟩)
    generalize hr : g_cnt (p_in w lo t) (w (lo + t)) = r at hins hrt
    have hlt : ∀ j, j < t → (p_st (p_in w lo t) j < w (lo + t) ↔ j < r) := fun j hj => by
      rw [← hr]
      exact p_st_lt (by rw [hcnt]; exact hj)
    have hne : ∀ j, j < t → p_st (p_in w lo t) j ≠ w (lo + t) := fun j hj e => by
      have := (p_st_is (A := p_in w lo t) (x := j) (by rw [hcnt]; exact hj)).2.1
      rw [e, h0] at this
      cases this
    refine x_l4_I (fun k a b c e σ' τ' => a = nI lo ∧ b = nI t ∧ c = nI (w (lo + t)) ∧ e = nI k ∧ r ≤ k ∧ k ≤ t ∧ (∀ z, z ≠ 61 → σ' z = σ z) ∧ (∀ j, j < k → σ' 61 j = nI (p_st (p_in w lo t) j)) ∧ (∀ j, k < j → j ≤ t → σ' 61 j = nI (p_st (p_in w lo t) (j - 1))) ∧ τ = τ') ?_ t ⟨rfl, rfl, rfl, rfl, hrt, Nat.le_refl _, f, p1, fun j a b => absurd b (by omega), rfl⟩
    rintro k a b c e σ2 τ' ⟨rfl, rfl, rfl, rfl, k1, k2, f2, q1, q2, rfl⟩ K2 hK2
    have done : k = r → wX0_takeMembers_65 K Q (nI lo) (nI t) (nI (w (lo + t))) (nI k) σ2 τ := fun ek => by
      unfold wX0_takeMembers_65
      rw [i_cl (by omega), show (nI t + 1 : Int32) = nI (t + 1) from nI_add t 1]
      refine ⟨i_in (by omega) (by omega), hK _ _ ⟨fun z hz => by rw [x_up_n hz]; exact f2 z hz, fun j hj2 => ?_, rfl⟩⟩
      rw [hins j (by omega), x_up_i]
      by_cases z : j = k
      · rw [if_pos z, if_neg (by omega), if_pos (by omega)]
      · rw [if_neg z]
        by_cases y : j < r
        · rw [if_pos y]
          exact q1 j (by omega)
        · rw [if_neg y, if_neg (by omega)]
          exact q2 j (by omega) (by omega)
    unfold wX0_takeMembers_25
    refine i_le (b := 0) (by omega) (by omega) (fun g => done (by omega)) (fun g => ?_)
    rw [show (nI k - 1 : Int32) = nI (k - 1) from nI_sub (b := 1) (by omega), i_cl (by omega), i_cl (by omega), q1 (k - 1) (by omega)]
    have hb1 := hbd (k - 1) (by omega)
    have hl1 := hlt (k - 1) (by omega)
    have hn1 := hne (k - 1) (by omega)
    refine ⟨i_in (by omega) (by omega), i_le (by omega) (by omega) (fun y => done (by omega)) (fun y => ⟨i_in (by omega) (by omega), ?_⟩)⟩
    rw [e_dn, show (nI k - 1 : Int32) = nI (k - 1) from nI_sub (b := 1) (by omega)]
    refine hK2 (k - 1) _ _ _ _ _ _ (by omega) ⟨rfl, rfl, rfl, rfl, by omega, by omega, fun z hz => by rw [x_up_n hz]; exact f2 z hz, fun j hj2 => ?_, fun j a b => ?_, rfl⟩
    · rw [x_up_sn (by omega)]
      exact q1 j (by omega)
    · rw [x_up_i]
      by_cases z : j = k
      · rw [if_pos z, z]
      · rw [if_neg z]
        exact q2 j (by omega) b
  · obtain ⟨f, p1, rfl⟩ := hP
    unfold wX0_takeMembers_2
    rw [f 60 (by omega), h60]
    exact i_le (by omega) (by omega) (fun _ => h σ1 f p1) (fun g => absurd g (by omega))
end TK2
/-- the stops of a platoon -/
def p_A (N C : g_F) (s v : Nat) : Bool := decide ((v / 10 < N 0 1 ∧ v % 10 < N 8 (v / 10)) ∧ g_mt N C s v = true)
theorem p_A_iff {N C : g_F} {s v : Nat} : p_A N C s v = true ↔ g_is N v ∧ g_mt N C s v = true := by
  unfold p_A
  rw [decide_eq_true_iff]
  exact Iff.rfl
section PA
variable {N C : g_F} {w : Nat → Nat} {σ ρ : x_S} {τ θ : x_L} {lo hi s : Nat}
theorem p_A_in (hG : g_G N C w lo hi) (v : Nat) : p_in w lo (hi - lo) v = p_A N C (w lo) v := by
  apply Bool.eq_iff_iff.mpr
  rw [p_A_iff]
  unfold p_in
  rw [decide_eq_true_iff]
  constructor
  · rintro ⟨i, h1, h2⟩
    have := hG.2.1 (lo + i) (by omega) (by omega)
    rw [h2] at this
    exact this
  · rintro ⟨h1, h2⟩
    obtain ⟨i, a, b, e⟩ := hG.2.2.1 v h1 h2
    exact ⟨i - lo, by omega, by rw [show lo + (i - lo) = i by omega]; exact e⟩
theorem p_A_tr (hN : g_WN N) (hW : g_WC N C) {t c : Nat} (ht : t < N 0 1) (hc : c < 10) : p_A N C s (10 * t + c) = true ↔ g_has N C s t = true ∧ g_pl N C s t = c := by
  rw [p_A_iff]
  constructor
  · rintro ⟨h1, h2⟩
    have h3 := h1.2
    rw [show (10 * t + c) / 10 = t by omega, show (10 * t + c) % 10 = c by omega] at h3
    exact ⟨(g_has_of hN hW ht h3 h2).1, g_pl_of hN hW ht h3 h2⟩
  · rintro ⟨h1, h2⟩
    have a := g_ms_is hN ht h1
    have b := g_has_mt h1
    have e : g_ms N C s t = 10 * t + c := by
      unfold g_ms
      rw [h2]
    rw [e] at a b
    exact ⟨a.1, b⟩
theorem p_A_cnt (hN : g_WN N) (hW : g_WC N C) : ∀ t, t ≤ N 0 1 → g_cnt (p_A N C s) (10 * t) = g_cnt (g_has N C s) t
  | 0, _ => rfl
  | t + 1, h => by
    have ht : t < N 0 1 := by omega
    have ih := p_A_cnt hN hW t (by omega)
    have h10 := (hN.2.2.1 t ht).2.2.2.2.2
    have key : ∀ c, c ≤ 10 → g_cnt (p_A N C s) (10 * t + c) = g_cnt (g_has N C s) t + (if g_has N C s t = true ∧ g_pl N C s t < c then 1 else 0) := by
      intro c
      induction c with
      | zero =>
        intro _
        rw [Nat.add_zero, ih, if_neg (by omega), Nat.add_zero]
      | succ c ihc =>
        intro hc
        rw [← Nat.add_assoc, g_cnt_succ, ihc (by omega)]
        have e := p_A_tr (s := s) hN hW ht (show c < 10 by omega)
        by_cases z : g_has N C s t = true ∧ g_pl N C s t = c
        · rw [if_pos (e.mpr z), if_neg (by omega), if_pos ⟨z.1, by omega⟩]
        · rw [if_neg (fun y => z (e.mp y))]
          by_cases y : g_has N C s t = true ∧ g_pl N C s t < c
          · rw [if_pos y, if_pos ⟨y.1, by omega⟩]
          · rw [if_neg y, if_neg (fun q => by
              by_cases q2 : g_pl N C s t = c
              · exact z ⟨q.1, q2⟩
              · exact y ⟨q.1, by omega⟩)]
    rw [show 10 * (t + 1) = 10 * t + 10 by omega, key 10 (Nat.le_refl _), g_cnt_succ]
    by_cases z : g_has N C s t = true
    · have := g_has_iff.mp z
      rw [if_pos ⟨z, by omega⟩, if_pos z]
    · rw [if_neg (fun y => z y.1), if_neg z]
/-- a member's place among them -/
theorem p_A_at (hN : g_WN N) (hW : g_WC N C) {t : Nat} (ht : t < N 0 1) (h : g_has N C s t = true) : g_cnt (p_A N C s) (g_ms N C s t) = g_cnt (g_has N C s) t := by
  have h10 := (hN.2.2.1 t ht).2.2.2.2.2
  have hp := g_has_iff.mp h
  have key : ∀ c, c ≤ g_pl N C s t → g_cnt (p_A N C s) (10 * t + c) = g_cnt (g_has N C s) t := by
    intro c
    induction c with
    | zero =>
      intro _
      rw [Nat.add_zero]
      exact p_A_cnt hN hW t (by omega)
    | succ c ihc =>
      intro hc
      rw [← Nat.add_assoc, g_cnt_succ, ihc (by omega), if_neg, Nat.add_zero]
      intro y
      have := ((p_A_tr (s := s) hN hW ht (show c < 10 by omega)).mp y).2
      omega
  exact key _ (Nat.le_refl _)
theorem p_A_all (hN : g_WN N) (hW : g_WC N C) : g_cnt (p_A N C s) 120 = g_tog N C s := by
  have h := p_A_cnt (s := s) hN hW (N 0 1) (Nat.le_refl _)
  have hb := hN.1.2
  have key : ∀ k, g_cnt (p_A N C s) (10 * N 0 1 + k) = g_cnt (p_A N C s) (10 * N 0 1) := by
    intro k
    induction k with
    | zero => rfl
    | succ k ih =>
      rw [← Nat.add_assoc, g_cnt_succ, ih, if_neg, Nat.add_zero]
      intro y
      have := (p_A_iff.mp y).1.1
      omega
  have := key (120 - 10 * N 0 1)
  rw [show 10 * N 0 1 + (120 - 10 * N 0 1) = 120 by omega, h] at this
  exact this
/-- the reference's list of members -/
def m_B (N C : g_F) (s t : Nat) (ρ : x_S) : Prop := (∀ o, o < t → g_has N C s o = true → ρ 15 (g_cnt (g_has N C s) o) = nI o ∧ ρ 16 (g_cnt (g_has N C s) o) = nI (g_pl N C s o)) ∧ ∀ j, j < g_cnt (g_has N C s) t → ρ 17 j = nI j
theorem m_B.at (hN : g_WN N) (hW : g_WC N C) (h : m_B N C s (N 0 1) ρ) {x : Nat} (hx : x < g_tog N C s) : ρ 15 x = nI (p_st (p_A N C s) x / 10) ∧ ρ 16 x = nI (p_st (p_A N C s) x % 10) := by
  obtain ⟨a1, a2, a3⟩ := p_st_is (A := p_A N C s) (x := x) (by rw [p_A_all hN hW]; exact hx)
  obtain ⟨b1, b2⟩ := p_A_iff.mp a2
  have hv : p_st (p_A N C s) x = 10 * (p_st (p_A N C s) x / 10) + p_st (p_A N C s) x % 10 := by omega
  have hh := g_has_of hN hW (s := s) b1.1 b1.2 (by rw [← hv]; exact b2)
  have hc := p_A_at hN hW b1.1 hh.1
  rw [hh.2, ← hv, a3] at hc
  have := h.1 _ b1.1 hh.1
  rw [← hc] at this
  have ep := g_pl_of hN hW (s := s) b1.1 b1.2 (by rw [← hv]; exact b2)
  rw [ep] at this
  exact this
end PA
