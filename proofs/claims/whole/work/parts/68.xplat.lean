/-! platoons of a road, as class and reference find them -/
/-- how many platoons a road has -/
def g_pon (N C : g_F) (r : Nat) : Nat := g_all N (fun s => g_one (decide (N 9 s = r ∧ g_pos N C s = 0)))
/-- the first one of a platoon -/
def g_ldr (N C : g_F) (r p s : Nat) : Prop := g_is N s ∧ N 9 s = r ∧ g_pos N C s = 0 ∧ g_num N C s = p
section PL
variable {N C : g_F} {w e : Nat → Nat} {r k : Nat}
theorem g_O.pos (hN : g_WN N) (hW : g_WC N C) (h : g_O N C w r k e) {j i : Nat} (hj : j < k) (h1 : e j ≤ i) (h2 : i < e (j + 1)) : g_pos N C (w i) = i - e j := (h.2 j hj).1.pos hN hW (h.2 j hj).2.1 h1 h2
theorem g_O.cnt (hN : g_WN N) (hW : g_WC N C) (h : g_O N C w r k e) : ∀ j, j ≤ k → g_sum (fun i => g_one (decide (g_pos N C (w (g_bg N r + i)) = 0))) (e j - g_bg N r) = j
  | 0, _ => by
    rw [h.1, Nat.sub_self]
    rfl
  | j + 1, hj => by
    have ih := h.cnt hN hW j (by omega)
    have h0 := h.le (show j ≤ k by omega) (Nat.zero_le j)
    rw [h.1] at h0
    have hlt := (h.2 j (by omega)).1.1
    rw [show e (j + 1) - g_bg N r = (e j - g_bg N r) + (e (j + 1) - e j) by omega, g_sum_split, ih]
    congr 1
    have := g_cnt_one (p := fun i => decide (g_pos N C (w (g_bg N r + (e j - g_bg N r + i))) = 0)) (n := e (j + 1) - e j) (a := 0) (by omega) (decide_eq_true (by
      rw [show g_bg N r + (e j - g_bg N r + 0) = e j by omega, h.pos hN hW (show j < k by omega) (Nat.le_refl _) hlt, Nat.sub_self])) (fun i hi hp => by
      have := of_decide_eq_true hp
      rw [show g_bg N r + (e j - g_bg N r + i) = e j + i by omega, h.pos hN hW (show j < k by omega) (by omega) (by omega)] at this
      omega)
    exact this
theorem g_O.pon (hN : g_WN N) (hW : g_WC N C) (hE : g_E N w) (hr : r < N 0 0) (h : g_O N C w r k e) (hk : e k = g_bg N (r + 1)) : g_pon N C r = k := by
  have h1 := h.cnt hN hW k (Nat.le_refl _)
  rw [hk] at h1
  have h2 := g_road_row hN hE hr (fun s => g_one (decide (g_pos N C s = 0)))
  rw [h1] at h2
  rw [← h2]
  refine g_all_cong (fun s _ => ?_)
  by_cases z : N 9 s = r
  · rw [if_pos z]
    unfold g_one
    simp only [decide_eq_true_iff]
    by_cases z2 : g_pos N C s = 0
    · rw [if_pos ⟨z, z2⟩, if_pos z2]
    · rw [if_neg (fun y => z2 y.2), if_neg z2]
  · rw [if_neg z]
    unfold g_one
    rw [if_neg (fun y => z (of_decide_eq_true y).1)]
/-- one leader, at the platoon's first place in the row -/
theorem g_O.ldr (hN : g_WN N) (hW : g_WC N C) (hE : g_E N w) (hr : r < N 0 0) (h : g_O N C w r k e) (hk : e k = g_bg N (r + 1)) {p : Nat} (hp : p < k) : g_ldr N C r p (w (e p)) ∧ ∀ s, g_ldr N C r p s → s = w (e p) := by
  have hlt := (h.2 p hp).1.1
  have h0 := h.le (show p ≤ k by omega) (Nat.zero_le p)
  have h1 := h.le (Nat.le_refl k) (show p + 1 ≤ k by omega)
  rw [h.1] at h0
  have hin := hE.1 r (e p) hr h0 (by omega)
  refine ⟨⟨hin.1, hin.2, ?_, (h.2 p hp).2.2 _ (Nat.le_refl _) hlt⟩, fun s hs => ?_⟩
  · rw [h.pos hN hW hp (Nat.le_refl _) hlt, Nat.sub_self]
  · obtain ⟨s1, s2, s3, s4⟩ := hs
    obtain ⟨i, i1, i2, i3⟩ := hE.2.1 s s1
    rw [s2] at i1 i2
    obtain ⟨j, j1, j2, j3⟩ := h.at i1 (show i < e k by omega)
    have n1 := (h.2 j j1).2.2 i j2 j3
    rw [i3, s4] at n1
    subst n1
    have n2 := h.pos hN hW j1 j2 j3
    rw [i3, s3] at n2
    rw [← i3, show i = e p by omega]
theorem g_num_b (N C : g_F) (s : Nat) : g_num N C s ≤ 120 := g_cnt_le _ _
end PL
section XP
variable {N C : g_F} {w : Nat → Nat} {σ : x_S} {τ : x_L} {Q : Int32 → x_S → x_L → Prop}
theorem sX_platoonsOn (hX : g_X N C w σ τ) {r : Nat} (hr : r < N 0 0) (h : Q (nI (g_pon N C r)) σ τ) : wX6_platoonsOn 33 (nI r) σ τ Q := by
  obtain ⟨hN, hW, hF, hR, hC, hA, hB⟩ := hX
  obtain ⟨e, k, hO, hk⟩ := hA.2.2.2.1 r hr
  have hpon := hO.pon hN hW hA.2.2.1 hr hk
  have hb := hN.1.1
  have b1 := g_bg_b N (r + 1)
  have bm := g_bg_mono N (show r ≤ r + 1 by omega)
  have be := g_bg_mono N (show r + 1 ≤ N 0 0 from hr)
  unfold wX6_platoonsOn wX6_platoonsOn_44
  rw [show (nI r + 1 : Int32) = nI (r + 1) from nI_add r 1, i_cl (by omega), i_cl (by omega), hR.2.2.1 r (by omega), hR.2.2.1 (r + 1) hr]
  refine ⟨i_in (by omega) (by omega), i_in (by omega) (by omega), i_le (by omega) (by omega) (fun g => ?_) (fun g => ?_)⟩
  · have : k = 0 := by
      apply Classical.byContradiction
      intro hk0
      have h1 := (hO.2 0 (by omega)).1.1
      have h2 := hO.le (Nat.le_refl k) (show 0 + 1 ≤ k by omega)
      rw [hO.1] at h1
      omega
    rw [hpon, this] at h
    exact h
  · rw [show (nI (g_bg N (r + 1)) - 1 : Int32) = nI (g_bg N (r + 1) - 1) from nI_sub (b := 1) (by omega)]
    have hs := hA.2.2.1.is (show g_bg N (r + 1) - 1 < g_bg N (N 0 0) by omega)
    have hl := g_is_lt hN hs
    obtain ⟨j, j1, j2, j3⟩ := hO.at (show g_bg N r ≤ g_bg N (r + 1) - 1 by omega) (show g_bg N (r + 1) - 1 < e k by omega)
    have hj : j + 1 = k := by
      apply Classical.byContradiction
      intro hne
      have h1 := (hO.2 (j + 1) (by omega)).1.1
      have h2 := hO.le (Nat.le_refl k) (show j + 1 + 1 ≤ k by omega)
      omega
    rw [i_cl (by omega), show σ (33 + 6) (g_bg N (r + 1) - 1) = _ from hA.2.1 _ (by omega), i_cl (by omega), show σ (33 + 7) (w (g_bg N (r + 1) - 1)) = _ from (hA.2.2.2.2.1 _ hs).2.1, (hO.2 j j1).2.2 _ j2 j3, show (nI j + 1 : Int32) = nI (j + 1) from nI_add j 1, hj, ← hpon]
    exact ⟨i_in (by omega) (by omega), i_in (by omega) (by omega), h⟩
theorem sX_firstOf (hX : g_X N C w σ τ) {r p k : Nat} {e : Nat → Nat} (hr : r < N 0 0) (hO : g_O N C w r k e) (hk : e k = g_bg N (r + 1)) (hp : p < k) (h : Q (nI (e p)) σ τ) : wX6_firstOf 33 (nI r) (nI p) σ τ Q := by
  obtain ⟨hN, hW, hF, hR, hC, hA, hB⟩ := hX
  have hb := hN.1.1
  have b1 := g_bg_b N (r + 1)
  have be := g_bg_mono N (show r + 1 ≤ N 0 0 from hr)
  have hlt := (hO.2 p hp).1.1
  have h0 := hO.le (show p ≤ k by omega) (Nat.zero_le p)
  have h1 := hO.le (Nat.le_refl k) (show p + 1 ≤ k by omega)
  rw [hO.1] at h0
  have numb : ∀ i, i < g_bg N (r + 1) → vp_in (nI i) 120 ∧ vp_in (σ (33 + 6) i) 120 ∧ σ (33 + 7) (σ (33 + 6) i).toNatClampNeg = nI (g_num N C (w i)) := fun i hi => by
    have hs := hA.2.2.1.is (show i < g_bg N (N 0 0) by omega)
    have hl := g_is_lt hN hs
    rw [show σ (33 + 6) i = _ from hA.2.1 i (by omega), i_cl (by omega), show σ (33 + 7) (w i) = _ from (hA.2.2.2.2.1 _ hs).2.1]
    exact ⟨i_in (by omega) (by omega), i_in hl (by omega), rfl⟩
  have hkb : k ≤ 121 := by
    have : ∀ j, j ≤ k → j ≤ e j := fun j => by
      induction j with
      | zero => intro _; omega
      | succ j ih =>
        intro hj
        have := ih (by omega)
        have := (hO.2 j (by omega)).1.1
        omega
    have := this k (Nat.le_refl _)
    omega
  unfold wX6_firstOf
  rw [i_cl (by omega), hR.2.2.1 r (by omega)]
  refine ⟨i_in (by omega) (by omega), x_F3 (fun _ => True) (fun _ => nI r) (fun _ => nI p) (fun i => nI i) (lo := g_bg N r) (n := e p) h0 (fun K i g1 g2 _ hK => ?_) (fun K _ => ?_) trivial rfl rfl rfl⟩
  · unfold wX6_firstOf_10 wX6_firstOf_46
    obtain ⟨n1, n2, n3⟩ := numb i (by omega)
    obtain ⟨j, j1, j2, j3⟩ := hO.at g1 (show i < e k by omega)
    have hjp : j < p := by
      apply Classical.byContradiction
      intro hne
      have := hO.le (show j ≤ k by omega) (show p ≤ j by omega)
      omega
    have hK := hK trivial
    rw [show (nI r + 1 : Int32) = nI (r + 1) from nI_add r 1, i_cl (by omega), i_cl (by omega), hR.2.2.1 (r + 1) hr, n3, (hO.2 j j1).2.2 i j2 j3, show (nI i + 1 : Int32) = nI (i + 1) from nI_add i 1]
    exact ⟨i_in (by omega) (by omega), i_le (by omega) (by omega) (fun g => absurd g (by omega)) (fun _ => ⟨n1, n2, i_le (by omega) (by omega) (fun g => absurd g (by omega)) (fun _ => hK)⟩)⟩
  · unfold wX6_firstOf_10 wX6_firstOf_46
    obtain ⟨n1, n2, n3⟩ := numb (e p) (by omega)
    rw [show (nI r + 1 : Int32) = nI (r + 1) from nI_add r 1, i_cl (by omega), i_cl (by omega), hR.2.2.1 (r + 1) hr, n3, (hO.2 p hp).2.2 (e p) (Nat.le_refl _) hlt]
    exact ⟨i_in (by omega) (by omega), i_le (by omega) (by omega) (fun g => absurd g (by omega)) (fun _ => ⟨n1, n2, i_le (by omega) (by omega) (fun _ => h) (fun g => absurd g (by omega))⟩)⟩
theorem sX_afterPlatoon (hX : g_X N C w σ τ) {r p k : Nat} {e : Nat → Nat} (hr : r < N 0 0) (hO : g_O N C w r k e) (hk : e k = g_bg N (r + 1)) (hp : p < k) (h : Q (nI (e (p + 1))) σ τ) : wX6_afterPlatoon 33 (nI r) (nI (e p)) σ τ Q := by
  obtain ⟨hN, hW, hF, hR, hC, hA, hB⟩ := hX
  have hb := hN.1.1
  have b1 := g_bg_b N (r + 1)
  have be := g_bg_mono N (show r + 1 ≤ N 0 0 from hr)
  have hlt := (hO.2 p hp).1.1
  have h0 := hO.le (show p ≤ k by omega) (Nat.zero_le p)
  have h1 := hO.le (Nat.le_refl k) (show p + 1 ≤ k by omega)
  rw [hO.1] at h0
  have numb : ∀ i, i < g_bg N (r + 1) → vp_in (nI i) 120 ∧ vp_in (σ (33 + 6) i) 120 ∧ σ (33 + 7) (σ (33 + 6) i).toNatClampNeg = nI (g_num N C (w i)) := fun i hi => by
    have hs := hA.2.2.1.is (show i < g_bg N (N 0 0) by omega)
    have hl := g_is_lt hN hs
    rw [show σ (33 + 6) i = _ from hA.2.1 i (by omega), i_cl (by omega), show σ (33 + 7) (w i) = _ from (hA.2.2.2.2.1 _ hs).2.1]
    exact ⟨i_in (by omega) (by omega), i_in hl (by omega), rfl⟩
  obtain ⟨m1, m2, m3⟩ := numb (e p) (by omega)
  have m4 := (hO.2 p hp).2.2 (e p) (Nat.le_refl _) hlt
  unfold wX6_afterPlatoon
  refine x_F3 (fun _ => True) (fun _ => nI r) (fun _ => nI (e p)) (fun i => nI i) (lo := e p) (n := e (p + 1)) (by omega) (fun K i g1 g2 _ hK => ?_) (fun K _ => ?_) trivial rfl rfl rfl
  · unfold wX6_afterPlatoon_2 wX6_afterPlatoon_48
    obtain ⟨n1, n2, n3⟩ := numb i (by omega)
    have hK := hK trivial
    rw [show (nI r + 1 : Int32) = nI (r + 1) from nI_add r 1, i_cl (by omega), i_cl (by omega), i_cl (by omega), hR.2.2.1 (r + 1) hr, n3, m3, (hO.2 p hp).2.2 i g1 g2, m4, show (nI i + 1 : Int32) = nI (i + 1) from nI_add i 1]
    exact ⟨i_in (by omega) (by omega), i_le (by omega) (by omega) (fun g => absurd g (by omega)) (fun _ => ⟨n1, n2, m1, m2, i_self' hK⟩)⟩
  · unfold wX6_afterPlatoon_2 wX6_afterPlatoon_48
    rw [show (nI r + 1 : Int32) = nI (r + 1) from nI_add r 1, i_cl (by omega), i_cl (by omega), i_cl (by omega), hR.2.2.1 (r + 1) hr, m3, m4]
    refine ⟨i_in (by omega) (by omega), i_le (by omega) (by omega) (fun _ => h) (fun g => ?_)⟩
    obtain ⟨n1, n2, n3⟩ := numb (e (p + 1)) (by omega)
    have hp1 : p + 1 < k := by
      apply Classical.byContradiction
      intro hne
      rw [show p + 1 = k by omega, hk] at g
      omega
    have hnb := g_num_b N C (w (e p))
    have hnb2 := g_num_b N C (w (e (p + 1)))
    have q1 := (hO.2 (p + 1) hp1).2.2 (e (p + 1)) (Nat.le_refl _) (hO.2 (p + 1) hp1).1.1
    rw [n3, q1]
    rw [m4] at hnb
    rw [q1] at hnb2
    exact ⟨n1, n2, m1, m2, i_ne (by omega) (by omega) (fun _ => h) (fun g => absurd g (by omega))⟩
/-- does a truck use a road -/
def g_uses (N : g_F) (r t : Nat) : Bool := decide (∃ q, q < N 8 t ∧ N 9 (10 * t + q) = r)
def g_onS (N : g_F) (r : Nat) : Nat := g_orv (fun t => g_bt (g_uses N r t) t) (N 0 1)
theorem g_onS_lt (hN : g_WN N) (r : Nat) : g_onS N r < 4096 := g_orv_lt (fun i hi => g_bt_lt (by have := hN.1.2; omega))
theorem g_uses_iff {r t : Nat} : g_uses N r t = true ↔ ∃ q, q < N 8 t ∧ N 9 (10 * t + q) = r := by
  unfold g_uses
  exact decide_eq_true_iff
theorem sX_trucksOn (hX : g_X N C w σ τ) {r : Nat} (hr : r < N 0 0) (h : Q (nI (g_onS N r)) σ τ) : wX7_trucksOn (nI r) σ τ Q := by
  obtain ⟨hN, hW, hF, hR, hC, hA, w0, hE, hB⟩ := hX
  have hb := hN.1.1
  have hb2 := hN.1.2
  have b1 := g_bg_b N (r + 1)
  have bm := g_bg_mono N (show r ≤ r + 1 by omega)
  have be := g_bg_mono N (show r + 1 ≤ N 0 0 from hr)
  have key : g_onS N r = g_orv (fun j => 2 ^ (w0 (g_bg N r + j) / 10)) (g_bg N (r + 1) - g_bg N r) := by
    apply g_bit_eq
    intro t
    unfold g_onS
    rw [g_orv_bit, g_orv_bit]
    constructor
    · rintro ⟨i, hi, hb⟩
      obtain ⟨h1, rfl⟩ := g_bt_bit.mp hb
      obtain ⟨q, q1, q2⟩ := g_uses_iff.mp h1
      obtain ⟨hs, e1, -⟩ := g_is_of hN hi q1
      obtain ⟨j, j1, j2, j3⟩ := hE.2.1 _ hs
      rw [q2] at j1 j2
      refine ⟨j - g_bg N r, by omega, ?_⟩
      show (2 ^ (w0 (g_bg N r + (j - g_bg N r)) / 10)).testBit i = true
      rw [show g_bg N r + (j - g_bg N r) = j by omega, j3, e1, Nat.testBit_two_pow]
      exact decide_eq_true rfl
    · rintro ⟨j, hj, hb⟩
      have hb : (2 ^ (w0 (g_bg N r + j) / 10)).testBit t = true := hb
      rw [Nat.testBit_two_pow, decide_eq_true_iff] at hb
      obtain ⟨hs, h2⟩ := hE.1 r (g_bg N r + j) hr (by omega) (by omega)
      refine ⟨w0 (g_bg N r + j) / 10, hs.1, g_bt_bit.mpr ⟨g_uses_iff.mpr ⟨w0 (g_bg N r + j) % 10, hs.2, ?_⟩, hb⟩⟩
      rw [← g_is_eq]
      exact h2
  rw [key] at h
  unfold wX7_trucksOn
  rw [i_cl (by omega), hR.2.2.1 r (by omega)]
  refine ⟨i_in (by omega) (by omega), x_F3 (fun _ => True) (fun _ => nI r) (fun i => nI (g_orv (fun j => 2 ^ (w0 (g_bg N r + j) / 10)) (i - g_bg N r))) (fun i => nI i) (lo := g_bg N r) (n := g_bg N (r + 1)) bm (fun K i h1 h2 _ hK => ?_) (fun K _ => ?_) trivial rfl (by rw [Nat.sub_self]; rfl) rfl⟩
  · unfold wX7_trucksOn_9
    have hs := (hE.1 r i hr h1 h2).1
    have hl := g_is_lt hN hs
    have ht := hs.1
    have hK := hK trivial
    rw [show i + 1 - g_bg N r = (i - g_bg N r) + 1 by omega, g_orv, show g_bg N r + (i - g_bg N r) = i by omega] at hK
    rw [show (nI r + 1 : Int32) = nI (r + 1) from nI_add r 1, i_cl (by omega), i_cl (by omega), hR.2.2.1 (r + 1) hr, hB i (by omega), show (nI (w0 i) / 10 : Int32) = nI (w0 i / 10) from nI_div (b := 10) (by omega) (by omega) (by omega), nI_bit _ (by omega), nI_or, show (nI i + 1 : Int32) = nI (i + 1) from nI_add _ 1]
    exact ⟨i_in (by omega) (by omega), i_le (by omega) (by omega) (fun g => absurd g (by omega)) (fun _ => ⟨i_in (by omega) (by omega), hK⟩)⟩
  · unfold wX7_trucksOn_9
    rw [show (nI r + 1 : Int32) = nI (r + 1) from nI_add r 1, i_cl (by omega), hR.2.2.1 (r + 1) hr]
    exact ⟨i_in (by omega) (by omega), i_le (by omega) (by omega) (fun _ => h) (fun g => absurd g (by omega))⟩
theorem sX_isOn (hX : g_X N C w σ τ) {r t : Nat} (hr : r < N 0 0) (ht : t < N 0 1) (h1 : g_uses N r t = true → Q 1 σ τ) (h0 : ¬ g_uses N r t = true → Q 0 σ τ) : wX7_isOn (nI t) (nI r) σ τ Q := by
  have hN := hX.1
  have hb2 := hN.1.2
  have hbit : (g_onS N r).testBit t = true ↔ g_uses N r t = true := by
    unfold g_onS
    rw [g_orv_bit]
    constructor
    · rintro ⟨i, _, hb⟩
      obtain ⟨a, rfl⟩ := g_bt_bit.mp hb
      exact a
    · exact fun a => ⟨t, ht, g_bt_bit.mpr ⟨a, rfl⟩⟩
  unfold wX7_isOn wX7_isOn_17
  refine sX_trucksOn hX hr ?_
  rw [nI_tst (g_onS_lt hN r) (by omega)]
  by_cases z : (g_onS N r).testBit t = true
  · rw [if_pos z]
    exact i_one' ⟨Or.inr rfl, h1 (hbit.mp z)⟩
  · rw [if_neg z]
    exact i_zer ⟨Or.inl rfl, h0 (fun y => z (hbit.mpr y))⟩
end XP
