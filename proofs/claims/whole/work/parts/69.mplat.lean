/-! platoons of a road, as the reference counts and finds them -/
/-- is the platoon that begins at x ahead of the one of s -/
def g_nb (N C : g_F) (s x : Nat) : Bool := decide (N 9 x = N 9 s ∧ g_pos N C x = 0 ∧ (g_en N C x < g_en N C s ∨ g_en N C x = g_en N C s ∧ C 2 x < C 2 s))
theorem g_nb_iff {N C : g_F} {s x : Nat} : g_nb N C s x = true ↔ N 9 x = N 9 s ∧ g_pos N C x = 0 ∧ g_ear N C x s := decide_eq_true_iff
theorem nI_or0 (m : Nat) : (nI m ||| 0 : Int32) = nI m := by
  rw [show (0 : Int32) = nI 0 from rfl, nI_or, Nat.or_zero]
theorem g_num_all {N C : g_F} (s : Nat) : g_num N C s = g_all N (fun x => g_one (g_nb N C s x)) := by
  unfold g_num g_all g_cnt
  refine g_sum_congr (fun x _ => ?_)
  unfold g_one g_nb
  simp only [decide_eq_true_iff]
  by_cases z : x / 10 < N 0 1 ∧ x % 10 < N 8 (x / 10)
  · rw [if_pos z]
    by_cases z2 : N 9 x = N 9 s ∧ g_pos N C x = 0 ∧ (g_en N C x < g_en N C s ∨ g_en N C x = g_en N C s ∧ C 2 x < C 2 s)
    · rw [if_pos ⟨z, z2⟩, if_pos z2]
    · rw [if_neg (fun y => z2 y.2), if_neg z2]
  · rw [if_neg z, if_neg (fun y => z y.1)]
theorem g_one_t {p : Bool} (h : p = true) : g_one p = 1 := if_pos h
theorem g_one_f {p : Bool} (h : ¬ p = true) : g_one p = 0 := if_neg h
/-- the notes of findPlatoon -/
def m_f0 (ρ ρ' : x_S) : Prop := (∀ z, z ≠ 0 → ρ' z = ρ z) ∧ ∀ i, i ≠ 17 → i ≠ 18 → ρ' 0 i = ρ 0 i
theorem m_f0.fr {ρ ρ' : x_S} (h : m_f0 ρ ρ') : m_fr ρ ρ' := ⟨fun z hz => h.1 z (by omega), fun i hi => h.2 i (by omega) (by omega)⟩
theorem m_f0.up {ρ ρ' : x_S} (h : m_f0 ρ ρ') {i : Nat} {v : Int32} (hi : i = 17 ∨ i = 18) : m_f0 ρ (x_up ρ' 0 i v) := ⟨fun z hz => by rw [x_up_n hz]; exact h.1 z hz, fun j h1 h2 => by rw [x_up_sn (by omega)]; exact h.2 j h1 h2⟩
section MF
variable {N C : g_F} {ρ : x_S} {θ : x_L} {Q : Int32 → x_S → x_L → Prop}
theorem sM_ahead (hN : g_WN N) (hW : g_WC N C) (hT : m_T N C ρ) {x y : Nat} (hx : g_is N x) (hy : g_is N y) (h1 : g_ear N C x y → Q 1 ρ θ) (h0 : ¬ g_ear N C x y → Q 0 ρ θ) : wX11_comesAhead (nI x) (nI y) (nI (C 2 x)) (nI (C 2 y)) ρ θ Q := by
  have bx := g_is_lt hN hx
  have by' := g_is_lt hN hy
  have ex := (g_en_b hN hW hx).1
  have ey := (g_en_b hN hW hy).1
  have sx := g_sp_b hN hW hx
  have sy := g_sp_b hN hW hy
  unfold g_ear at h1 h0
  unfold wX11_comesAhead wX11_comesAhead_49
  refine ⟨i_in bx (by omega), i_in by' (by omega), ?_⟩
  rw [i_cl (by omega), i_cl (by omega), (hT _ hx).1, (hT _ hy).1]
  refine i_eq (by omega) (by omega) (fun g => ?_) (fun g => ?_)
  · exact i_le (by omega) (by omega) (fun g3 => ⟨Or.inl rfl, h0 (by omega)⟩) (fun g3 => ⟨Or.inr rfl, h1 (by omega)⟩)
  · exact i_le (by omega) (by omega) (fun g3 => ⟨Or.inl rfl, h0 (by omega)⟩) (fun g3 => ⟨Or.inr rfl, h1 (by omega)⟩)
theorem sM_numberOf (hN : g_WN N) (hW : g_WC N C) (hF : m_F N ρ) (hC : m_C N C 0 ρ) (hT : m_T N C ρ) (hP : m_P N C ρ) {t q : Nat} (ht : t < N 0 1) (hq : q < N 8 t) (h : Q (nI (g_num N C (10 * t + q))) ρ θ) : wX11_numberOf (nI t) (nI q) ρ θ Q := by
  have hb := hN.1.2
  have hb0 := hN.1.1
  obtain ⟨hs, -, -, b1, -⟩ := g_is_of hN ht hq
  have hr := hN.2.2.2 t q ht hq
  rw [g_num_all] at h
  unfold wX11_numberOf
  refine x_F4 (fun _ => True) (fun _ => nI t) (fun _ => nI q) (fun i => nI (g_part N (fun x => g_one (g_nb N C (10 * t + q) x)) (10 * i))) (fun i => nI i) (lo := 0) (n := N 0 1) (Nat.zero_le _) (fun K i _ hi _ hK => ?_) (fun K _ => ?_) trivial rfl rfl rfl rfl
  · unfold wX11_numberOf_5
    have h10 := (hN.2.2.1 i hi).2.2.2.2.2
    rw [e_c1, hF.1.2]
    refine i_le (by omega) (by omega) (fun g => absurd g (by omega)) (fun _ => ?_)
    refine x_F5 (fun _ => True) (fun _ => nI t) (fun _ => nI q) (fun p => nI (g_part N (fun x => g_one (g_nb N C (10 * t + q) x)) (10 * i + p))) (fun _ => nI i) (fun p => nI p) (lo := 0) (n := N 8 i) (Nat.zero_le _) (fun K2 p _ hp _ hK2 => ?_) (fun K2 _ => ?_) trivial rfl rfl rfl rfl rfl
    · unfold wX11_numberOf_19 wX11_numberOf_66 wX11_numberOf_67 wX11_numberOf_112 wX11_numberOf_113
      obtain ⟨hx, -, -, c1, -⟩ := g_is_of hN hi hp
      have hr2 := hN.2.2.2 i p hi hp
      have hpb := g_pos_b (C := C) hN (10 * i + p)
      have hK2 := hK2 trivial
      rw [g_part_s hN hi hp] at hK2
      rw [show (nI p + 1 : Int32) = nI (p + 1) from nI_add p 1]
      have no : ¬ (N 9 (10 * i + p) = N 9 (10 * t + q) ∧ g_pos N C (10 * i + p) = 0 ∧ g_ear N C (10 * i + p) (10 * t + q)) → K2 (nI t) (nI q) (nI (g_part N (fun x => g_one (g_nb N C (10 * t + q) x)) (10 * i + p)) + 0) (nI i) (nI (p + 1)) ρ θ := fun z => by
        rw [g_one_f (fun y => z (g_nb_iff.mp y))] at hK2
        rw [show (nI (g_part N (fun x => g_one (g_nb N C (10 * t + q) x)) (10 * i + p)) + 0 : Int32) = _ from nI_add _ 0]
        exact hK2
      refine sM_places hN hF hi (i_le (by omega) (by omega) (fun g => absurd g (by omega)) (fun _ => sM_road hN hF hi hp (sM_road hN hF ht hq ?_)))
      refine i_ne (by omega) (by omega) (fun g => i_zer (no (fun z => g z.1))) (fun g => sM_spot ⟨i_in c1 (by omega), ?_⟩)
      rw [i_cl (by omega), hP _ hx]
      refine i_ne (b := 0) (by omega) (by omega) (fun g2 => i_zer (no (fun z => g2 z.2.1))) (fun g2 => i_one' (sM_spot (sM_spot (sM_speed hN hC hi hp (sM_speed hN hC ht hq ?_)))))
      refine sM_ahead hN hW hT hx hs (fun z => i_one' ?_) (fun z => i_zer (no (fun y => z y.2.2)))
      rw [g_one_t (g_nb_iff.mpr ⟨g, g2, z⟩)] at hK2
      rw [show (nI (g_part N (fun x => g_one (g_nb N C (10 * t + q) x)) (10 * i + p)) + 1 : Int32) = _ from nI_add _ 1]
      exact hK2
    · unfold wX11_numberOf_19
      refine sM_places hN hF hi (i_le (by omega) (by omega) (fun _ => ?_) (fun g => absurd g (by omega)))
      rw [g_part_t hN hi, show (nI i + 1 : Int32) = nI (i + 1) from nI_add i 1]
      exact hK trivial
  · unfold wX11_numberOf_5
    rw [e_c1, hF.1.2, g_part_e hN]
    exact i_le (by omega) (by omega) (fun _ => h) (fun g => absurd g (by omega))
theorem sM_platoonsOn (hN : g_WN N) (hF : m_F N ρ) (hP : m_P N C ρ) {r : Nat} (hr : r < N 0 0) (h : Q (nI (g_pon N C r)) ρ θ) : wX11_platoonsOn (nI r) ρ θ Q := by
  have hb := hN.1.2
  have hb0 := hN.1.1
  unfold wX11_platoonsOn
  refine x_F3 (fun _ => True) (fun _ => nI r) (fun i => nI (g_part N (fun s => g_one (decide (N 9 s = r ∧ g_pos N C s = 0))) (10 * i))) (fun i => nI i) (lo := 0) (n := N 0 1) (Nat.zero_le _) (fun K i _ hi _ hK => ?_) (fun K _ => ?_) trivial rfl rfl rfl
  · unfold wX11_platoonsOn_4
    have h10 := (hN.2.2.1 i hi).2.2.2.2.2
    rw [e_c1, hF.1.2]
    refine i_le (by omega) (by omega) (fun g => absurd g (by omega)) (fun _ => ?_)
    refine x_F4 (fun _ => True) (fun _ => nI r) (fun p => nI (g_part N (fun s => g_one (decide (N 9 s = r ∧ g_pos N C s = 0))) (10 * i + p))) (fun _ => nI i) (fun p => nI p) (lo := 0) (n := N 8 i) (Nat.zero_le _) (fun K2 p _ hp _ hK2 => ?_) (fun K2 _ => ?_) trivial rfl rfl rfl rfl
    · unfold wX11_platoonsOn_17 wX11_platoonsOn_57 wX11_platoonsOn_58
      obtain ⟨hx, -, -, c1, -⟩ := g_is_of hN hi hp
      have hr2 := hN.2.2.2 i p hi hp
      have hpb := g_pos_b (C := C) hN (10 * i + p)
      have hK2 := hK2 trivial
      rw [g_part_s hN hi hp] at hK2
      rw [show (nI p + 1 : Int32) = nI (p + 1) from nI_add p 1]
      have no : ¬ (N 9 (10 * i + p) = r ∧ g_pos N C (10 * i + p) = 0) → K2 (nI r) (nI (g_part N (fun s => g_one (decide (N 9 s = r ∧ g_pos N C s = 0))) (10 * i + p)) + 0) (nI i) (nI (p + 1)) ρ θ := fun z => by
        rw [g_one_f (fun y => z (of_decide_eq_true y))] at hK2
        rw [show (nI (g_part N (fun s => g_one (decide (N 9 s = r ∧ g_pos N C s = 0))) (10 * i + p)) + 0 : Int32) = _ from nI_add _ 0]
        exact hK2
      refine sM_places hN hF hi (i_le (by omega) (by omega) (fun g => absurd g (by omega)) (fun _ => sM_road hN hF hi hp ?_))
      refine i_ne (by omega) (by omega) (fun g => no (fun z => g z.1)) (fun g => sM_spot ⟨i_in c1 (by omega), ?_⟩)
      rw [i_cl (by omega), hP _ hx]
      refine i_ne (b := 0) (by omega) (by omega) (fun g2 => no (fun z => g2 z.2)) (fun g2 => ?_)
      rw [g_one_t (decide_eq_true ⟨g, g2⟩)] at hK2
      rw [show (nI (g_part N (fun s => g_one (decide (N 9 s = r ∧ g_pos N C s = 0))) (10 * i + p)) + 1 : Int32) = _ from nI_add _ 1]
      exact hK2
    · unfold wX11_platoonsOn_17
      refine sM_places hN hF hi (i_le (by omega) (by omega) (fun _ => ?_) (fun g => absurd g (by omega)))
      rw [g_part_t hN hi, show (nI i + 1 : Int32) = nI (i + 1) from nI_add i 1]
      exact hK trivial
  · unfold wX11_platoonsOn_4
    rw [e_c1, hF.1.2, g_part_e hN]
    exact i_le (by omega) (by omega) (fun _ => h) (fun g => absurd g (by omega))
theorem sM_find (hN : g_WN N) (hW : g_WC N C) (hF : m_F N ρ) (hC : m_C N C 0 ρ) (hT : m_T N C ρ) (hP : m_P N C ρ) {r : Nat} (hr : r < N 0 0) {a : Int32}
    (h1 : ∀ (ρ' : x_S) (t q : Nat), m_f0 ρ ρ' → ρ' 0 17 = nI t → ρ' 0 18 = nI q → t < N 0 1 → q < N 8 t → N 9 (10 * t + q) = r → g_pos N C (10 * t + q) = 0 → nI (g_num N C (10 * t + q)) = a → Q 1 ρ' θ)
    (h0 : ∀ ρ' : x_S, m_f0 ρ ρ' → (∀ s, g_is N s → N 9 s = r → g_pos N C s = 0 → nI (g_num N C s) ≠ a) → Q 0 ρ' θ) : wX11_findPlatoon (nI r) a ρ θ Q := by
  have hb := hN.1.2
  have hb0 := hN.1.1
  unfold wX11_findPlatoon
  refine x_S2 (fun i ρ' θ' => θ = θ' ∧ m_f0 ρ ρ' ∧ ρ' 0 17 = nI i ∧ ∀ s, g_is N s → s / 10 < i → N 9 s = r → g_pos N C s = 0 → nI (g_num N C s) ≠ a) (fun _ => nI r) (fun _ => a) (lo := 0) (n := N 0 1) (Nat.zero_le _) ?_ ?_ ⟨rfl, m_f0.up ⟨fun _ _ => rfl, fun _ _ _ => rfl⟩ (Or.inl rfl), x_up_ss _ _ _ _, fun s _ hs => absurd hs (Nat.not_lt_zero _)⟩ rfl rfl
  · rintro K i ρ1 θ' - hi ⟨rfl, f1, f2, f3⟩ hK
    unfold wX11_findPlatoon_5
    have h10 := (hN.2.2.1 i hi).2.2.2.2.2
    rw [e_c1, f1.1 3 (by omega), hF.1.2, f2]
    refine i_le (by omega) (by omega) (fun g => absurd g (by omega)) (fun _ => ?_)
    refine x_S2 (fun p ρ' θ' => θ = θ' ∧ m_f0 ρ ρ' ∧ ρ' 0 17 = nI i ∧ ρ' 0 18 = nI p ∧ ∀ s, g_is N s → (s / 10 < i ∨ s / 10 = i ∧ s % 10 < p) → N 9 s = r → g_pos N C s = 0 → nI (g_num N C s) ≠ a) (fun _ => nI r) (fun _ => a) (lo := 0) (n := N 8 i) (Nat.zero_le _) ?_ ?_ ⟨rfl, f1.up (Or.inr rfl), (x_up_sn (by omega)).trans f2, x_up_ss _ _ _ _, fun s hs hl => f3 s hs (by omega)⟩ rfl rfl
    · rintro K2 p ρ2 θ' - hp ⟨rfl, g1, g2, g3, g4⟩ hK2
      obtain ⟨hx, x1, x2, c1, -⟩ := g_is_of hN hi hp
      have hr2 := hN.2.2.2 i p hi hp
      have hpb := g_pos_b (C := C) hN (10 * i + p)
      have hnb := g_num_b N C (10 * i + p)
      have hF2 := hF.cong (g1.1 3 (by omega))
      have hC2 := hC.cong (g1.1 1 (by omega))
      have hT2 := hT.cong (g1.1 4 (by omega)) (g1.1 5 (by omega))
      have hP2 := hP.cong (g1.1 9 (by omega))
      have no : ¬ (N 9 (10 * i + p) = r ∧ g_pos N C (10 * i + p) = 0 ∧ nI (g_num N C (10 * i + p)) = a) → K2 (nI r) a (x_up ρ2 0 18 (ρ2 0 18 + 1)) θ := fun z => by
        refine hK2 _ _ ⟨rfl, g1.up (Or.inr rfl), (x_up_sn (by omega)).trans g2, ?_, fun s hs hl s1 s2 s3 => ?_⟩
        · rw [x_up_ss, g3]
          exact nI_add p 1
        · by_cases y : s = 10 * i + p
          · rw [y] at s1 s2 s3
            exact z ⟨s1, s2, s3⟩
          · exact g4 s hs (by omega) s1 s2 s3
      unfold wX11_findPlatoon_23 wX11_findPlatoon_91
      rw [g2, g3]
      refine sM_places hN hF2 hi (i_le (by omega) (by omega) (fun g => absurd g (by omega)) (fun _ => ?_))
      rw [g2, g3]
      refine sM_road hN hF2 hi hp (i_ne (by omega) (by omega) (fun g => by have := no (fun z => g z.1); rw [g3] at this; rw [g3]; exact this) (fun g => ?_))
      rw [g2, g3]
      refine sM_spot ⟨i_in c1 (by omega), ?_⟩
      rw [i_cl (by omega), hP2 _ hx]
      refine i_ne (b := 0) (by omega) (by omega) (fun g5 => by have := no (fun z => g5 z.2.1); rw [g3] at this; rw [g3]; exact this) (fun g5 => ?_)
      rw [g2, g3]
      refine sM_numberOf hN hW hF2 hC2 hT2 hP2 hi hp ⟨fun g6 => by have := no (fun z => g6 z.2.2); exact this, fun g6 => h1 ρ2 i p g1 g2 g3 hi hp g g5 g6⟩
    · rintro K2 ρ2 θ' ⟨rfl, g1, g2, g3, g4⟩
      have hF2 := hF.cong (g1.1 3 (by omega))
      unfold wX11_findPlatoon_23
      rw [g2, g3]
      refine sM_places hN hF2 hi (i_le (by omega) (by omega) (fun _ => ?_) (fun g => absurd g (by omega)))
      refine hK _ _ ⟨rfl, g1.up (Or.inl rfl), ?_, fun s hs hl => g4 s hs ?_⟩
      · rw [x_up_ss, g2]
        exact nI_add i 1
      · by_cases y : s / 10 = i
        · have h2 := hs.2
          rw [y] at h2
          exact Or.inr ⟨y, h2⟩
        · omega
  · rintro K ρ1 θ' ⟨rfl, f1, f2, f3⟩
    unfold wX11_findPlatoon_5
    rw [e_c1, f1.1 3 (by omega), hF.1.2, f2]
    exact i_le (by omega) (by omega) (fun _ => h0 ρ1 f1 (fun s hs => f3 s hs hs.1)) (fun g => absurd g (by omega))
theorem sM_trucksOn (hN : g_WN N) (hF : m_F N ρ) {r : Nat} (hr : r < N 0 0) (h : Q (nI (g_cnt (fun t => g_uses N r t) (N 0 1))) ρ θ) : wX11_trucksOn (nI r) ρ θ Q := by
  have hb := hN.1.2
  have hb0 := hN.1.1
  unfold wX11_trucksOn
  refine x_F3 (fun _ => True) (fun _ => nI r) (fun i => nI (g_cnt (fun t => g_uses N r t) i)) (fun i => nI i) (lo := 0) (n := N 0 1) (Nat.zero_le _) (fun K i _ hi _ hK => ?_) (fun K _ => ?_) trivial rfl rfl rfl
  · unfold wX11_trucksOn_4
    have h10 := (hN.2.2.1 i hi).2.2.2.2.2
    have hK := hK trivial
    rw [g_cnt_succ] at hK
    rw [e_c1, hF.1.2]
    refine i_le (by omega) (by omega) (fun g => absurd g (by omega)) (fun _ => ?_)
    refine x_F5 (fun _ => True) (fun _ => nI r) (fun _ => nI (g_cnt (fun t => g_uses N r t) i)) (fun _ => nI i) (fun p => nI (g_one (decide (∃ q, q < p ∧ N 9 (10 * i + q) = r)))) (fun p => nI p) (lo := 0) (n := N 8 i) (Nat.zero_le _) (fun K2 p _ hp _ hK2 => ?_) (fun K2 _ => ?_) trivial rfl rfl rfl (by rw [g_one_f (fun z => by obtain ⟨q, hq, -⟩ := of_decide_eq_true z; exact absurd hq (Nat.not_lt_zero _))]; rfl) rfl
    · unfold wX11_trucksOn_20 wX11_trucksOn_48
      have hr2 := hN.2.2.2 i p hi hp
      have hK2 := hK2 trivial
      refine sM_places hN hF hi (i_le (by omega) (by omega) (fun g => absurd g (by omega)) (fun _ => sM_road hN hF hi hp ?_))
      rw [show (nI p + 1 : Int32) = nI (p + 1) from nI_add p 1]
      refine i_ne (by omega) (by omega) (fun g => ?_) (fun g => ?_)
      · rw [show (nI (g_one (decide (∃ q, q < p ∧ N 9 (10 * i + q) = r))) ||| 0 : Int32) = nI (g_one (decide (∃ q, q < p ∧ N 9 (10 * i + q) = r))) from nI_or0 _]
        have e : decide (∃ q, q < p + 1 ∧ N 9 (10 * i + q) = r) = decide (∃ q, q < p ∧ N 9 (10 * i + q) = r) := by
          apply Bool.eq_iff_iff.mpr
          rw [decide_eq_true_iff, decide_eq_true_iff]
          constructor
          · rintro ⟨q, q1, q2⟩
            refine ⟨q, ?_, q2⟩
            apply Classical.byContradiction
            intro hn
            rw [show q = p by omega] at q2
            exact g q2
          · rintro ⟨q, q1, q2⟩
            exact ⟨q, by omega, q2⟩
        rw [e] at hK2
        exact hK2
      · rw [g_one_t (decide_eq_true ⟨p, by omega, g⟩)] at hK2
        have e : (nI (g_one (decide (∃ q, q < p ∧ N 9 (10 * i + q) = r))) ||| 1 : Int32) = nI 1 := by
          by_cases z : ∃ q, q < p ∧ N 9 (10 * i + q) = r
          · rw [g_one_t (decide_eq_true z)]
            rfl
          · rw [g_one_f (fun y => z (of_decide_eq_true y))]
            rfl
        rw [e]
        exact hK2
    · unfold wX11_trucksOn_20 wX11_trucksOn_68
      rw [show (nI i + 1 : Int32) = nI (i + 1) from nI_add i 1]
      refine sM_places hN hF hi (i_le (by omega) (by omega) (fun _ => ?_) (fun g => absurd g (by omega)))
      by_cases z : g_uses N r i = true
      · rw [if_pos z] at hK
        rw [show nI (g_one (decide (∃ q, q < N 8 i ∧ N 9 (10 * i + q) = r))) = 1 from congrArg nI (g_one_t z)]
        refine i_one' ?_
        rw [show (nI (g_cnt (fun t => g_uses N r t) i) + 1 : Int32) = _ from nI_add _ 1]
        exact hK
      · rw [if_neg z] at hK
        rw [show nI (g_one (decide (∃ q, q < N 8 i ∧ N 9 (10 * i + q) = r))) = 0 from congrArg nI (g_one_f z)]
        refine i_zer ?_
        rw [show (nI (g_cnt (fun t => g_uses N r t) i) + 0 : Int32) = _ from nI_add _ 0]
        exact hK
  · unfold wX11_trucksOn_4
    rw [e_c1, hF.1.2]
    exact i_le (by omega) (by omega) (fun _ => h) (fun g => absurd g (by omega))
/-- the bits of a set of trucks -/
theorem g_pc_set {p : Nat → Bool} {n : Nat} (hn : n ≤ 12) : g_pc (g_orv (fun t => g_bt (p t) t) n) = g_cnt p n := by
  have key : ∀ c, n + c ≤ 12 → g_cnt (fun i => (g_orv (fun t => g_bt (p t) t) n).testBit i) (n + c) = g_cnt p n := by
    intro c
    induction c with
    | zero =>
      intro _
      refine g_cnt_congr (fun i hi => Bool.eq_iff_iff.mpr ?_)
      rw [g_orv_bit]
      constructor
      · rintro ⟨j, -, hj⟩
        obtain ⟨a, rfl⟩ := g_bt_bit.mp hj
        exact a
      · exact fun a => ⟨i, hi, g_bt_bit.mpr ⟨a, rfl⟩⟩
    | succ c ih =>
      intro h
      rw [← Nat.add_assoc, g_cnt_succ, ih (by omega), if_neg (fun z => by
        obtain ⟨j, hj, hb⟩ := g_orv_bit.mp z
        obtain ⟨-, e⟩ := g_bt_bit.mp hb
        omega), Nat.add_zero]
  have := key (12 - n) (by omega)
  rw [show n + (12 - n) = 12 by omega] at this
  exact this
end MF
