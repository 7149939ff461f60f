/-! two trucks, sets of trucks, roads, the digest -/
section A3
variable {N C : g_F} {w : Nat → Nat} {σ ρ : x_S} {τ θ : x_L} {Q : Int32 → x_S → x_L → Prop}
/-- of one road and number are the mates -/
theorem g_num_mt (hN : g_WN N) (hW : g_WC N C) (hA : f_A N C 33 w σ) {s m : Nat} (hs : g_is N s) (hm : g_is N m) : (N 9 s = N 9 m ∧ g_num N C s = g_num N C m) ↔ g_mt N C s m = true := by
  obtain ⟨hT, hw, hE, hO, -⟩ := hA
  have hr := g_road_lt hN hs
  obtain ⟨e, k, hO, hk⟩ := hO _ hr
  obtain ⟨i, i1, i2, i3⟩ := hE.2.1 _ hs
  obtain ⟨j, j1, j2, j3⟩ := hO.at i1 (show i < e k by omega)
  have hG := (hO.2 j j1).1
  have n1 := (hO.2 j j1).2.2 i j2 j3
  constructor
  · rintro ⟨h1, h2⟩
    obtain ⟨x, x1, x2, x3⟩ := hE.2.1 _ hm
    rw [← h1] at x1 x2
    obtain ⟨y, y1, y2, y3⟩ := hO.at x1 (show x < e k by omega)
    have n2 := (hO.2 y y1).2.2 x y2 y3
    rw [i3] at n1
    rw [x3, ← h2, n1] at n2
    subst n2
    rw [← i3, ← x3]
    exact hG.mt j2 j3 y2 y3
  · intro h
    refine ⟨(g_mt_iff.mp h).1, ?_⟩
    have h2 := (hG.2.1 i j2 j3).2
    rw [i3] at h2
    have h3 : g_mt N C (w (e j)) m = true := by
      rw [← g_mt_eq h2]
      exact h
    obtain ⟨x, x1, x2, x3⟩ := hG.2.2.1 m hm h3
    rw [← i3, ← x3, n1, (hO.2 j j1).2.2 x x1 x2]
theorem sX_inOne (hX : g_X N C w σ τ) {s m : Nat} (hs : g_is N s) (hm : g_is N m) (h1 : g_mt N C s m = true → Q 1 σ τ) (h0 : ¬ g_mt N C s m = true → Q 0 σ τ) : wX6_inOnePlatoon 33 (nI s) (nI m) σ τ Q := by
  obtain ⟨hN, hW, hF, hR, hC, hA, hB⟩ := hX
  have l1 := g_is_lt hN hs
  have l2 := g_is_lt hN hm
  have r1 := g_road_lt hN hs
  have r2 := g_road_lt hN hm
  have n1 := g_num_b N C s
  have n2 := g_num_b N C m
  have hb := hN.1.1
  have key := g_num_mt hN hW hA hs hm
  unfold wX6_inOnePlatoon wX6_inOnePlatoon_40 wX6_inOnePlatoon_41
  rw [i_cl (by omega), i_cl (by omega), hF.2.2.2 _ hs, hF.2.2.2 _ hm, show σ (33 + 7) s = _ from (hA.2.2.2.2.1 _ hs).2.1, show σ (33 + 7) m = _ from (hA.2.2.2.2.1 _ hm).2.1]
  exact ⟨i_in l1 (by omega), i_in l2 (by omega), i_ne (by omega) (by omega) (fun g => ⟨Or.inl rfl, h0 (fun z => g (key.mpr z).1)⟩) (fun g => i_ne (by omega) (by omega) (fun g2 => ⟨Or.inl rfl, h0 (fun z => g2 (key.mpr z).2)⟩) (fun g2 => ⟨Or.inr rfl, h1 (key.mp ⟨g, g2⟩)⟩))⟩
theorem g_sum_single {f : Nat → Nat} {n a : Nat} (ha : a < n) (h : ∀ i, i < n → i ≠ a → f i = 0) : g_sum f n = f a := by
  rw [g_sum_rm ha, g_sum_zero (fun i hi => by
    by_cases z : i = a
    · rw [if_pos z]
    · rw [if_neg z]
      exact h i hi z), Nat.zero_add]
/-- a sum over the other's places is what the mate gives -/
theorem g_mate_sum (hN : g_WN N) (hW : g_WC N C) {s o : Nat} (ho : o < N 0 1) (f : Nat → Nat) : g_sum (fun p => if g_mt N C s (10 * o + p) = true then f (10 * o + p) else 0) (N 8 o) = if g_has N C s o = true then f (g_ms N C s o) else 0 := by
  by_cases z : g_has N C s o = true
  · rw [if_pos z]
    have h1 := g_has_iff.mp z
    rw [g_sum_single h1 (fun i hi hne => if_neg (fun y => hne (g_pl_of hN hW ho hi y).symm))]
    exact if_pos (g_has_mt z)
  · rw [if_neg z]
    exact g_sum_zero (fun i hi => if_neg (fun y => z (g_has_of hN hW ho hi y).1))
theorem sX_together (hX : g_X N C w σ τ) {t o : Nat} {QX : x_PE} (ht : t < N 0 1) (ho : o < N 0 1) (h : Q (nI (g_trk N (fun s => g_one (g_has N C s o)) t)) σ τ) : x_l4 (wX10_together_26 Q QX) (nI t) (nI o) 0 (nI t * 10) σ τ := by
  obtain ⟨hN, hW, hF, hR, hC, hA, hB⟩ := id hX
  have hb := hN.1.2
  have h10 := (hN.2.2.1 t ht).2.2.2.2
  have h10o := (hN.2.2.1 o ho).2.2.2.2
  refine x_F4 (fun _ => True) (fun _ => nI t) (fun _ => nI o) (fun i => nI (g_sum (fun q => g_one (g_has N C (10 * t + q) o)) i)) (fun i => nI (10 * t + i)) (lo := 0) (n := N 8 t) (Nat.zero_le _) (fun K i _ hi _ hK => ?_) (fun K _ => ?_) trivial rfl rfl rfl (e_10 t)
  · unfold wX10_together_26
    obtain ⟨hs, -, -, b1, -⟩ := g_is_of hN ht hi
    have hK := hK trivial
    rw [g_sum] at hK
    refine ⟨i_in (by omega) (by omega), ?_⟩
    rw [i_cl (by omega), hR.1 t ht]
    refine i_le (by omega) (by omega) (fun g => absurd g (by omega)) (fun _ => ?_)
    refine x_F5 (fun _ => True) (fun _ => nI t) (fun _ => nI o) (fun p => nI (g_sum (fun q => g_one (g_has N C (10 * t + q) o)) i + g_sum (fun p => if g_mt N C (10 * t + i) (10 * o + p) = true then 1 else 0) p)) (fun _ => nI (10 * t + i)) (fun p => nI (10 * o + p)) (lo := 0) (n := N 8 o) (Nat.zero_le _) (fun K2 p _ hp _ hK2 => ?_) (fun K2 _ => ?_) trivial rfl rfl rfl rfl (e_10 o)
    · unfold wX10_together_46 wX10_together_77
      obtain ⟨hm, -, -, c1, -⟩ := g_is_of hN ho hp
      have hK2 := hK2 trivial
      rw [g_sum] at hK2
      refine ⟨i_in (by omega) (by omega), ?_⟩
      rw [i_cl (by omega), hR.1 o ho, show (nI (10 * o + p) + 1 : Int32) = nI (10 * o + (p + 1)) from nI_add _ 1]
      refine i_le (by omega) (by omega) (fun g => absurd g (by omega)) (fun _ => sX_inOne hX hs hm (fun z => i_one' ?_) (fun z => i_zer ?_))
      · rw [if_pos z] at hK2
        rw [show (nI (g_sum (fun q => g_one (g_has N C (10 * t + q) o)) i + g_sum (fun p => if g_mt N C (10 * t + i) (10 * o + p) = true then 1 else 0) p) + 1 : Int32) = _ from nI_add _ 1, Nat.add_assoc]
        exact hK2
      · rw [if_neg z] at hK2
        exact hK2
    · unfold wX10_together_46
      refine ⟨i_in (by omega) (by omega), ?_⟩
      rw [i_cl (by omega), hR.1 o ho]
      refine i_le (by omega) (by omega) (fun _ => ?_) (fun g => absurd g (by omega))
      rw [g_mate_sum hN hW ho (fun _ => 1), show (nI (10 * t + i) + 1 : Int32) = nI (10 * t + (i + 1)) from nI_add _ 1]
      exact hK
  · unfold wX10_together_26
    refine ⟨i_in (by omega) (by omega), ?_⟩
    rw [i_cl (by omega), hR.1 t ht]
    exact i_le (by omega) (by omega) (fun _ => h) (fun g => absurd g (by omega))
theorem sM_together (hN : g_WN N) (hF : m_F N ρ) (hM : m_M N C ρ) {t o : Nat} (ht : t < N 0 1) (ho : o < N 0 1) (h : Q (nI (g_trk N (fun s => g_one (g_has N C s o)) t)) ρ θ) : x_l4 (wX11_together_29 Q) (nI t) (nI o) 0 0 ρ θ := by
  have hb := hN.1.2
  have h10 := (hN.2.2.1 t ht).2.2.2.2
  refine x_F4 (fun _ => True) (fun _ => nI t) (fun _ => nI o) (fun i => nI (g_sum (fun q => g_one (g_has N C (10 * t + q) o)) i)) (fun i => nI i) (lo := 0) (n := N 8 t) (Nat.zero_le _) (fun K i _ hi _ hK => ?_) (fun K _ => ?_) trivial rfl rfl rfl rfl
  · unfold wX11_together_29 wX11_together_57
    have hK := hK trivial
    rw [g_sum] at hK
    rw [show (nI i + 1 : Int32) = nI (i + 1) from nI_add i 1]
    refine sM_places hN hF ht (i_le (by omega) (by omega) (fun g => absurd g (by omega)) (fun _ => sM_mateOf hN hM ht hi ho (i_mate hN ho (fun z => ?_) (fun z => ?_))))
    · rw [g_one_t z] at hK
      rw [show (nI (g_sum (fun q => g_one (g_has N C (10 * t + q) o)) i) + 1 : Int32) = _ from nI_add _ 1]
      exact hK
    · rw [g_one_f (by rw [z]; decide)] at hK
      rw [show (nI (g_sum (fun q => g_one (g_has N C (10 * t + q) o)) i) + 0 : Int32) = _ from nI_add _ 0]
      exact hK
  · unfold wX11_together_29
    exact sM_places hN hF ht (i_le (by omega) (by omega) (fun _ => h) (fun g => absurd g (by omega)))
/-- what the pair f, b saves, f ahead -/
def g_pv (N C : g_F) (f b : Nat) : Nat := g_sav N C b + (if g_pos N C f = 0 then g_sav N C f else 0)
def g_pr (N C : g_F) (s m : Nat) : Nat := if g_pos N C m = g_pos N C s + 1 then g_pv N C s m else if g_pos N C s = g_pos N C m + 1 then g_pv N C m s else 0
theorem e_step : ∀ a, a < 13 → ∀ b, b < 13 → ((nI a - nI b : Int32) = 1 ↔ a = b + 1) ∧ ((nI a - nI b : Int32) = -1 ↔ b = a + 1) ∧ ((0 : Int32) ≤ nI a - nI b ↔ b ≤ a) := by decide +kernel
theorem g_pv_b (hN : g_WN N) (hW : g_WC N C) {f b : Nat} (hf : g_is N f) (hb : g_is N b) : g_pv N C f b ≤ 306000 := by
  have h1 := (g_sav_b hN hW hf).2
  have h2 := (g_sav_b hN hW hb).2
  unfold g_pv
  split <;> omega
theorem sX_savedByPair (hX : g_X N C w σ τ) {s m : Nat} (hs : g_is N s) (hm : g_is N m) (h : Q (nI (if g_mt N C s m = true then g_pr N C s m else 0)) σ τ) : wX6_savedByPair 33 (nI s) (nI m) σ τ Q := by
  obtain ⟨hN, hW, hF, hR, hC, hA, hB⟩ := id hX
  have l1 := g_is_lt hN hs
  have l2 := g_is_lt hN hm
  have p1 := g_pos_b (C := C) hN s
  have p2 := g_pos_b (C := C) hN m
  obtain ⟨e1, e2, e3⟩ := e_step (g_pos N C m) (by omega) (g_pos N C s) (by omega)
  have val : ∀ x, g_is N x → σ (33 + 11) x = nI (g_sav N C x) ∧ σ (33 + 8) x = nI (g_pos N C x) := fun x hx => ⟨(hA.2.2.2.2.1 _ hx).2.2.2.2.1, (hA.2.2.2.2.1 _ hx).2.2.1⟩
  have fin : ∀ f b, g_is N f → g_is N b → Q (nI (g_pv N C f b)) σ τ → wX6_savedByPair_57 33 Q (nI f) (nI b) σ τ := fun f b hf hb hq => by
    have lf := g_is_lt hN hf
    have lb := g_is_lt hN hb
    have pf := g_pos_b (C := C) hN f
    unfold wX6_savedByPair_57 wX6_savedByPair_87
    rw [i_cl (by omega), i_cl (by omega), (val f hf).2, (val b hb).1, (val f hf).1]
    unfold g_pv at hq
    refine ⟨i_in lb (by omega), i_in lf (by omega), i_ne (b := 0) (by omega) (by omega) (fun g => ?_) (fun g => ?_)⟩
    · rw [if_neg g] at hq
      rw [show (nI (g_sav N C b) + 0 : Int32) = _ from nI_add _ 0]
      exact hq
    · rw [if_pos g] at hq
      rw [nI_add]
      exact hq
  unfold wX6_savedByPair wX6_savedByPair_33 wX6_savedByPair_35 wX6_savedByPair_45
  rw [i_cl (by omega), i_cl (by omega), (val s hs).2, (val m hm).2]
  refine ⟨i_in l2 (by omega), i_in l1 (by omega), sX_inOne hX hs hm (fun z => i_one' ?_) (fun z => i_zer (by rw [if_neg z] at h; exact h))⟩
  rw [if_pos z] at h
  unfold g_pr at h
  by_cases c1 : g_pos N C m = g_pos N C s + 1
  · have y1 := e1.mpr c1
    rw [if_pos c1] at h
    rw [y1]
    exact ⟨fun _ => ⟨fun g => absurd rfl g, fun _ => ⟨fun g => absurd rfl g, fun _ => fin s m hs hm h⟩⟩, fun g => absurd rfl g⟩
  · have y1 : ¬ (nI (g_pos N C m) - nI (g_pos N C s) : Int32) = 1 := fun y => c1 (e1.mp y)
    rw [if_neg c1] at h
    refine ⟨fun g => absurd g y1, fun _ => ?_⟩
    by_cases c2 : g_pos N C s = g_pos N C m + 1
    · have y2 := e2.mpr c2
      rw [if_pos c2] at h
      first
        | exact ⟨fun _ => ⟨fun _ => ⟨fun _ => fin m s hm hs h, fun g => absurd g y1⟩, fun g => absurd g y1⟩, fun g => absurd y2 g⟩
        | exact ⟨fun g => absurd y2 g, fun _ => ⟨fun _ => ⟨fun _ => fin m s hm hs h, fun g => absurd g y1⟩, fun g => absurd g y1⟩⟩
    · have y2 : ¬ (nI (g_pos N C m) - nI (g_pos N C s) : Int32) = -1 := fun y => c2 (e2.mp y)
      rw [if_neg c2] at h
      first
        | exact ⟨fun g => absurd g y2, fun _ => h⟩
        | exact ⟨fun _ => h, fun g => absurd g y2⟩
theorem sX_pairSaved (hX : g_X N C w σ τ) {t o : Nat} {QX : x_PE} (ht : t < N 0 1) (ho : o < N 0 1) (h : Q (nI (g_trk N (fun s => if g_has N C s o = true then g_pr N C s (g_ms N C s o) else 0) t)) σ τ) : x_l4 (wX10_pairSaved_26 Q QX) (nI t) (nI o) 0 (nI t * 10) σ τ := by
  obtain ⟨hN, hW, hF, hR, hC, hA, hB⟩ := id hX
  have hb := hN.1.2
  have h10 := (hN.2.2.1 t ht).2.2.2.2
  have h10o := (hN.2.2.1 o ho).2.2.2.2
  refine x_F4 (fun _ => True) (fun _ => nI t) (fun _ => nI o) (fun i => nI (g_sum (fun q => if g_has N C (10 * t + q) o = true then g_pr N C (10 * t + q) (g_ms N C (10 * t + q) o) else 0) i)) (fun i => nI (10 * t + i)) (lo := 0) (n := N 8 t) (Nat.zero_le _) (fun K i _ hi _ hK => ?_) (fun K _ => ?_) trivial rfl rfl rfl (e_10 t)
  · unfold wX10_pairSaved_26
    obtain ⟨hs, -, -, b1, -⟩ := g_is_of hN ht hi
    have hK := hK trivial
    rw [g_sum] at hK
    refine ⟨i_in (by omega) (by omega), ?_⟩
    rw [i_cl (by omega), hR.1 t ht]
    refine i_le (by omega) (by omega) (fun g => absurd g (by omega)) (fun _ => ?_)
    refine x_F5 (fun _ => True) (fun _ => nI t) (fun _ => nI o) (fun p => nI (g_sum (fun q => if g_has N C (10 * t + q) o = true then g_pr N C (10 * t + q) (g_ms N C (10 * t + q) o) else 0) i + g_sum (fun p => if g_mt N C (10 * t + i) (10 * o + p) = true then g_pr N C (10 * t + i) (10 * o + p) else 0) p)) (fun _ => nI (10 * t + i)) (fun p => nI (10 * o + p)) (lo := 0) (n := N 8 o) (Nat.zero_le _) (fun K2 p _ hp _ hK2 => ?_) (fun K2 _ => ?_) trivial rfl rfl rfl rfl (e_10 o)
    · unfold wX10_pairSaved_46
      obtain ⟨hm, -, -, c1, -⟩ := g_is_of hN ho hp
      have hK2 := hK2 trivial
      rw [g_sum] at hK2
      refine ⟨i_in (by omega) (by omega), ?_⟩
      rw [i_cl (by omega), hR.1 o ho, show (nI (10 * o + p) + 1 : Int32) = nI (10 * o + (p + 1)) from nI_add _ 1]
      refine i_le (by omega) (by omega) (fun g => absurd g (by omega)) (fun _ => sX_savedByPair hX hs hm ?_)
      rw [nI_add, Nat.add_assoc]
      exact hK2
    · unfold wX10_pairSaved_46
      refine ⟨i_in (by omega) (by omega), ?_⟩
      rw [i_cl (by omega), hR.1 o ho]
      refine i_le (by omega) (by omega) (fun _ => ?_) (fun g => absurd g (by omega))
      rw [g_mate_sum hN hW ho (fun m => g_pr N C (10 * t + i) m), show (nI (10 * t + i) + 1 : Int32) = nI (10 * t + (i + 1)) from nI_add _ 1]
      exact hK
  · unfold wX10_pairSaved_26
    refine ⟨i_in (by omega) (by omega), ?_⟩
    rw [i_cl (by omega), hR.1 t ht]
    exact i_le (by omega) (by omega) (fun _ => h) (fun g => absurd g (by omega))
theorem sM_pairSaved (hN : g_WN N) (hW : g_WC N C) (hF : m_F N ρ) (hL : m_L N C ρ) {t o : Nat} (ht : t < N 0 1) (ho : o < N 0 1) (h : Q (nI (g_trk N (fun s => if g_has N C s o = true then g_pr N C s (g_ms N C s o) else 0) t)) ρ θ) : x_l4 (wX11_pairSaved_29 Q) (nI t) (nI o) 0 0 ρ θ := by
  have hb := hN.1.2
  have h10 := (hN.2.2.1 t ht).2.2.2.2
  refine x_F4 (fun _ => True) (fun _ => nI t) (fun _ => nI o) (fun i => nI (g_sum (fun q => if g_has N C (10 * t + q) o = true then g_pr N C (10 * t + q) (g_ms N C (10 * t + q) o) else 0) i)) (fun i => nI i) (lo := 0) (n := N 8 t) (Nat.zero_le _) (fun K i _ hi _ hK => ?_) (fun K _ => ?_) trivial rfl rfl rfl rfl
  · unfold wX11_pairSaved_29 wX11_pairSaved_103 wX11_pairSaved_117 wX11_pairSaved_159
    have hK := hK trivial
    rw [g_sum] at hK
    obtain ⟨hs, -, -, b1, -⟩ := g_is_of hN ht hi
    rw [show (nI i + 1 : Int32) = nI (i + 1) from nI_add i 1]
    have no : ∀ x, x = 0 → (if g_has N C (10 * t + i) o = true then g_pr N C (10 * t + i) (g_ms N C (10 * t + i) o) else 0) = x → K (nI t) (nI o) (nI (g_sum (fun q => if g_has N C (10 * t + q) o = true then g_pr N C (10 * t + q) (g_ms N C (10 * t + q) o) else 0) i)) (nI (i + 1)) ρ θ := fun x e1 e2 => by
      rw [e2, e1, Nat.add_zero] at hK
      exact hK
    refine sM_places hN hF ht (i_le (by omega) (by omega) (fun g => absurd g (by omega)) (fun _ => sM_mateOf hN hL.2.1 ht hi ho (i_mate hN ho (P := _) (fun z => ?_) (fun z => no 0 rfl (if_neg (by rw [z]; decide)))).symm))
    rw [g_mI_has z]
    obtain ⟨hm, -, -, c1⟩ := g_ms_is hN ho z
    have p1 := g_pos_b (C := C) hN (10 * t + i)
    have p2 := g_pos_b (C := C) hN (g_ms N C (10 * t + i) o)
    obtain ⟨e1, e2, e3⟩ := e_step (g_pos N C (10 * t + i)) (by omega) (g_pos N C (g_ms N C (10 * t + i) o)) (by omega)
    refine sM_spot (sM_spot ⟨i_in b1 (by omega), i_in c1 (by omega), ?_⟩)
    rw [show 10 * o + g_pl N C (10 * t + i) o = g_ms N C (10 * t + i) o from rfl, i_cl (by omega), i_cl (by omega), hL.2.2.2.1 _ hs, hL.2.2.2.1 _ hm]
    have fin : ∀ f b, g_is N f → g_is N b → g_pv N C f b = (if g_has N C (10 * t + i) o = true then g_pr N C (10 * t + i) (g_ms N C (10 * t + i) o) else 0) → wX11_pairSaved_134 K Q (nI t) (nI o) (nI i) (nI f) (nI (g_sum (fun q => if g_has N C (10 * t + q) o = true then g_pr N C (10 * t + q) (g_ms N C (10 * t + q) o) else 0) i)) (nI b) ρ θ := fun f b hf hb he => by
      have lf := g_is_lt hN hf
      have lb := g_is_lt hN hb
      have pf := g_pos_b (C := C) hN f
      rw [← he] at hK
      unfold wX11_pairSaved_134 wX11_pairSaved_156 wX11_pairSaved_159
      rw [i_cl (by omega), i_cl (by omega), hL.2.2.2.1 _ hf, (hL.2.2.2.2 _ hb).2.1, (hL.2.2.2.2 _ hf).2.1, show (nI i + 1 : Int32) = nI (i + 1) from nI_add i 1]
      unfold g_pv at hK
      refine ⟨i_in lb (by omega), i_in lf (by omega), i_ne (b := 0) (by omega) (by omega) (fun g => ?_) (fun g => ?_)⟩
      · rw [if_neg g] at hK
        rw [show (nI (g_sav N C b) + 0 : Int32) = _ from nI_add _ 0, nI_add]
        exact hK
      · rw [if_pos g] at hK
        rw [nI_add, nI_add]
        exact hK
    have hpr : (if g_has N C (10 * t + i) o = true then g_pr N C (10 * t + i) (g_ms N C (10 * t + i) o) else 0) = g_pr N C (10 * t + i) (g_ms N C (10 * t + i) o) := if_pos z
    by_cases q1 : g_pos N C (g_ms N C (10 * t + i) o) = g_pos N C (10 * t + i) + 1
    · have y2 := e2.mpr q1
      have y3 : ¬ (0 : Int32) ≤ nI (g_pos N C (10 * t + i)) - nI (g_pos N C (g_ms N C (10 * t + i) o)) := fun y => by
        have := e3.mp y
        omega
      have y1 : ¬ (nI (g_pos N C (10 * t + i)) - nI (g_pos N C (g_ms N C (10 * t + i) o)) : Int32) = 1 := fun y => by
        have := e1.mp y
        omega
      have hf := fin (10 * t + i) (g_ms N C (10 * t + i) o) hs hm (by rw [hpr]; unfold g_pr; rw [if_pos q1])
      exact ⟨fun g => absurd g y3, fun _ => ⟨fun g => absurd g y1, fun _ => ⟨fun g => absurd y2 g, fun _ => ⟨fun g => absurd g y3, fun _ => hf⟩⟩⟩⟩
    · have y2 : ¬ (nI (g_pos N C (10 * t + i)) - nI (g_pos N C (g_ms N C (10 * t + i) o)) : Int32) = -1 := fun y => q1 (e2.mp y)
      by_cases q2 : g_pos N C (10 * t + i) = g_pos N C (g_ms N C (10 * t + i) o) + 1
      · have y1 := e1.mpr q2
        have y3 := e3.mpr (by omega)
        have hf := fin (g_ms N C (10 * t + i) o) (10 * t + i) hm hs (by rw [hpr]; unfold g_pr; rw [if_neg q1, if_pos q2])
        exact ⟨fun _ => ⟨fun _ => ⟨fun _ => hf, fun g => absurd y3 g⟩, fun g => absurd y1 g⟩, fun g => absurd y3 g⟩
      · have y1 : ¬ (nI (g_pos N C (10 * t + i)) - nI (g_pos N C (g_ms N C (10 * t + i) o)) : Int32) = 1 := fun y => q2 (e1.mp y)
        have hf := no 0 rfl (by rw [hpr]; unfold g_pr; rw [if_neg q1, if_neg q2])
        exact ⟨fun _ => ⟨fun g => absurd g y1, fun _ => ⟨fun _ => hf, fun g => absurd g y2⟩⟩, fun _ => ⟨fun g => absurd g y1, fun _ => ⟨fun _ => hf, fun g => absurd g y2⟩⟩⟩
  · unfold wX11_pairSaved_29
    exact sM_places hN hF ht (i_le (by omega) (by omega) (fun _ => h) (fun g => absurd g (by omega)))
/-- the first place of a truck with a road -/
def g_fp (N : g_F) (t r : Nat) : Nat := g_first (fun q => decide (N 9 (10 * t + q) = r)) (N 8 t)
theorem g_fp_uses {t r : Nat} : g_fp N t r < N 8 t ↔ g_uses N r t = true := by
  rw [g_uses_iff]
  constructor
  · intro h
    exact ⟨g_fp N t r, h, of_decide_eq_true (g_first_p h)⟩
  · rintro ⟨q, h1, h2⟩
    have := g_first_min (p := fun q => decide (N 9 (10 * t + q) = r)) h1 (decide_eq_true h2)
    unfold g_fp
    omega
theorem g_fp_lt {t r q : Nat} (h : q < g_fp N t r) : ¬ N 9 (10 * t + q) = r := fun e => by
  have h1 := g_first_le (fun q => decide (N 9 (10 * t + q) = r)) (N 8 t)
  have := g_first_min (p := fun q => decide (N 9 (10 * t + q) = r)) (n := N 8 t) (i := q) (by unfold g_fp at h; omega) (decide_eq_true e)
  unfold g_fp at h
  omega
theorem sM_placeOf (hN : g_WN N) (hF : m_F N ρ) {t r : Nat} (ht : t < N 0 1) (hr : r < N 0 0) (h1 : g_fp N t r < N 8 t → Q (nI (g_fp N t r)) ρ θ) (h0 : ¬ g_fp N t r < N 8 t → Q (-1) ρ θ) : wX11_placeOf (nI t) (nI r) ρ θ Q := by
  have hb0 := hN.1.1
  have h10 := (hN.2.2.1 t ht).2.2.2.2
  have hle := g_first_le (fun q => decide (N 9 (10 * t + q) = r)) (N 8 t)
  unfold wX11_placeOf
  refine x_F3 (fun _ => True) (fun _ => nI t) (fun _ => nI r) (fun i => nI i) (lo := 0) (n := g_fp N t r) (Nat.zero_le _) (fun K i _ hi _ hK => ?_) (fun K _ => ?_) trivial rfl rfl rfl
  · unfold wX11_placeOf_2
    have hi2 : i < N 8 t := by unfold g_fp at hi; omega
    have hr2 := hN.2.2.2 t i ht hi2
    rw [show (nI i + 1 : Int32) = nI (i + 1) from nI_add i 1]
    exact sM_places hN hF ht (i_le (by omega) (by omega) (fun g => absurd g (by omega)) (fun _ => sM_road hN hF ht hi2 (i_ne (by omega) (by omega) (fun _ => hK trivial) (fun g => absurd g (g_fp_lt hi)))))
  · unfold wX11_placeOf_2
    have hle2 : g_fp N t r ≤ N 8 t := hle
    refine sM_places hN hF ht (i_le (by omega) (by omega) (fun g => h0 (by omega)) (fun g => ?_))
    have hr2 := hN.2.2.2 t _ ht g
    exact sM_road hN hF ht g (i_ne (by omega) (by omega) (fun g2 => absurd (of_decide_eq_true (g_first_p (p := fun q => decide (N 9 (10 * t + q) = r)) g)) g2) (fun _ => h1 g))
end A3
theorem z_14 : z_p14 g_R := by
  intro σ τ ρ θ hR a b
  obtain ⟨N, C, w, hX, hM, hV⟩ := id hR
  obtain ⟨hN, hW, hF, hR0, hC, hA, hB⟩ := id hX
  have hb := hN.1.2
  unfold wL_together wX10_together
  refine sX_chkTwo hN hF (fun c c2 => ?_) (fun c => ⟨rfl, ?_⟩)
  · obtain ⟨t, ht, rfl⟩ := id c
    obtain ⟨o, ho, rfl⟩ := id c2
    refine i_ne (by omega) (by omega) (fun g => sX_together hX ht ho ?_) (fun g => ?_)
    · unfold wX11_together
      refine sM_notTwo hM (fun _ _ ρ' f h5 hM' hL => i_zer (i_ne (by omega) (by omega) (fun _ => sM_together hN hM'.2.2.1 hL.2.1 ht ho (q_ok (hR.fr (x_fq.rf _) rfl f) h5)) (fun g2 => absurd g2 g))) (fun g2 => absurd ⟨c, c2⟩ g2)
    · unfold wX11_together
      refine sM_notTwo hM (fun _ _ ρ' f h5 hM' hL => i_zer (i_ne (by omega) (by omega) (fun g2 => absurd g g2) (fun g2 => q_ok (hR.fr (x_fq.rf _) rfl f) h5))) (fun g2 => absurd ⟨c, c2⟩ g2)
  · unfold wX11_together
    exact sM_notTwo hM (fun c1 c2 => absurd ⟨c1, c2⟩ c) (fun _ ρ' f h5 => i_one' (q_no (hR.fr (x_fq.rf _) rfl f) h5 (by decide)))
theorem z_15 : z_p15 g_R := by
  intro σ τ ρ θ hR a b
  obtain ⟨N, C, w, hX, hM, hV⟩ := id hR
  obtain ⟨hN, hW, hF, hR0, hC, hA, hB⟩ := id hX
  have hb := hN.1.2
  unfold wL_pairSaved wX10_pairSaved
  refine sX_chkTwo hN hF (fun c c2 => ?_) (fun c => ⟨rfl, ?_⟩)
  · obtain ⟨t, ht, rfl⟩ := id c
    obtain ⟨o, ho, rfl⟩ := id c2
    refine i_ne (by omega) (by omega) (fun g => sX_pairSaved hX ht ho ?_) (fun g => ?_)
    · unfold wX11_pairSaved
      refine sM_notTwo hM (fun _ _ ρ' f h5 hM' hL => i_zer (i_ne (by omega) (by omega) (fun _ => sM_pairSaved hN hW hM'.2.2.1 hL ht ho (q_ok (hR.fr (x_fq.rf _) rfl f) h5)) (fun g2 => absurd g2 g))) (fun g2 => absurd ⟨c, c2⟩ g2)
    · unfold wX11_pairSaved
      refine sM_notTwo hM (fun _ _ ρ' f h5 hM' hL => i_zer (i_ne (by omega) (by omega) (fun g2 => absurd g g2) (fun g2 => q_ok (hR.fr (x_fq.rf _) rfl f) h5))) (fun g2 => absurd ⟨c, c2⟩ g2)
  · unfold wX11_pairSaved
    exact sM_notTwo hM (fun c1 c2 => absurd ⟨c1, c2⟩ c) (fun _ ρ' f h5 => i_one' (q_no (hR.fr (x_fq.rf _) rfl f) h5 (by decide)))
theorem z_17 : z_p17 g_R := by
  intro σ τ ρ θ hR a b
  obtain ⟨N, C, w, hX, hM, hV⟩ := id hR
  obtain ⟨hN, hW, hF, hR0, hC, hA, hB⟩ := id hX
  have hb := hN.1.2
  have hb0 := hN.1.1
  unfold wL_common wX10_common
  refine sX_chkTwo hN hF (fun c c2 => ?_) (fun c => ⟨rfl, ?_⟩)
  · obtain ⟨t, ht, rfl⟩ := id c
    obtain ⟨o, ho, rfl⟩ := id c2
    refine x_F4 (fun _ => True) (fun _ => nI t) (fun _ => nI o) (fun i => nI (g_cnt (fun r => g_uses N r t && g_uses N r o) i)) (fun i => nI i) (lo := 0) (n := N 0 0) (Nat.zero_le _) (fun K i _ hi _ hK => ?_) (fun K _ => ?_) trivial rfl rfl rfl rfl
    · unfold wX10_common_15 wX10_common_56
      have hK := hK trivial
      rw [g_cnt_succ] at hK
      rw [hF.1.1, show (nI i + 1 : Int32) = nI (i + 1) from nI_add i 1]
      refine i_le (by omega) (by omega) (fun g => absurd g (by omega)) (fun _ => sX_isOn hX hi ht (fun z => i_one' (sX_isOn hX hi ho (fun z2 => i_one' ?_) (fun z2 => i_zer ?_))) (fun z => i_zer ?_))
      · rw [if_pos (by rw [z, z2]; rfl)] at hK
        rw [show (nI (g_cnt (fun r => g_uses N r t && g_uses N r o) i) + 1 : Int32) = _ from nI_add _ 1]
        exact hK
      · rw [if_neg (fun y => z2 (Bool.and_eq_true _ _ ▸ y : _ ∧ _).2), Nat.add_zero] at hK
        exact hK
      · rw [if_neg (fun y => z (Bool.and_eq_true _ _ ▸ y : _ ∧ _).1), Nat.add_zero] at hK
        exact hK
    · unfold wX10_common_15
      rw [hF.1.1]
      refine i_le (by omega) (by omega) (fun _ => ?_) (fun g => absurd g (by omega))
      unfold wX11_common
      refine sM_notTwo hM (fun _ _ ρ' f h5 hM' hL => i_zer ?_) (fun g2 => absurd ⟨c, c2⟩ g2)
      refine x_F4 (fun _ => True) (fun _ => nI t) (fun _ => nI o) (fun i => nI (g_cnt (fun r => g_uses N r t && g_uses N r o) i)) (fun i => nI i) (lo := 0) (n := N 0 0) (Nat.zero_le _) (fun K i _ hi _ hK => ?_) (fun K _ => ?_) trivial rfl rfl rfl rfl
      · unfold wX11_common_21 wX11_common_59 wX11_common_60
        have hK := hK trivial
        rw [g_cnt_succ] at hK
        have h10 := (hN.2.2.1 t ht).2.2.2.2
        have h10o := (hN.2.2.1 o ho).2.2.2.2
        rw [show (0 : Int32).toNatClampNeg = 0 from rfl, hM'.2.2.1.1.1, show (nI i + 1 : Int32) = nI (i + 1) from nI_add i 1]
        have no : ¬ (g_uses N i t = true ∧ g_uses N i o = true) → K (nI t) (nI o) (nI (g_cnt (fun r => g_uses N r t && g_uses N r o) i) + 0) (nI (i + 1)) ρ' θ := fun z => by
          rw [if_neg (fun y => z (Bool.and_eq_true _ _ ▸ y : _ ∧ _))] at hK
          rw [show (nI (g_cnt (fun r => g_uses N r t && g_uses N r o) i) + 0 : Int32) = _ from nI_add _ 0]
          exact hK
        refine i_le (by omega) (by omega) (fun g => absurd g (by omega)) (fun _ => sM_placeOf hN hM'.2.2.1 ht hi (fun z => i_m1 (by omega) (sM_placeOf hN hM'.2.2.1 ho hi (fun z2 => i_m1 (by omega) ?_) (fun z2 => ⟨fun _ => no (fun y => z2 (g_fp_uses.mpr y.2)), fun g => absurd rfl g⟩))) (fun z => ⟨fun _ => no (fun y => z (g_fp_uses.mpr y.1)), fun g => absurd rfl g⟩))
        rw [if_pos (by rw [g_fp_uses.mp z, g_fp_uses.mp z2]; rfl)] at hK
        rw [show (nI (g_cnt (fun r => g_uses N r t && g_uses N r o) i) + 1 : Int32) = _ from nI_add _ 1]
        exact hK
      · unfold wX11_common_21
        rw [show (0 : Int32).toNatClampNeg = 0 from rfl, hM'.2.2.1.1.1]
        exact i_le (by omega) (by omega) (fun _ => q_ok (hR.fr (x_fq.rf _) rfl f) h5) (fun g => absurd g (by omega))
  · unfold wX11_common
    exact sM_notTwo hM (fun c1 c2 => absurd ⟨c1, c2⟩ c) (fun _ ρ' f h5 => i_one' (q_no (hR.fr (x_fq.rf _) rfl f) h5 (by decide)))
