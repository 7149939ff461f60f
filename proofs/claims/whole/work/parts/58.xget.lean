/-! the class's network, choices, routes -/
def f_F (N : g_F) (σ : x_S) : Prop := (σ 3 0 = nI (N 0 0) ∧ σ 3 5 = nI (N 0 1)) ∧ (∀ r, r < N 0 0 → σ 4 r = nI (N 1 r) ∧ σ 5 r = nI (N 2 r) ∧ σ 6 r = nI (N 3 r) ∧ σ 7 r = nI (N 4 r)) ∧ (∀ t, t < N 0 1 → σ 8 t = nI (N 5 t) ∧ σ 9 t = nI (N 6 t) ∧ σ 10 t = nI (N 7 t) ∧ σ 11 t = nI (N 8 t)) ∧ ∀ s, g_is N s → σ 12 s = nI (N 9 s)
def f_C (N C : g_F) (b : Nat) (σ : x_S) : Prop := (∀ t, t < N 0 1 → σ (b + 1) t = nI (C 0 t)) ∧ ∀ s, g_is N s → σ (b + 2) s = nI (C 1 s) ∧ σ (b + 3) s = nI (C 2 s)
def f_T (N C : g_F) (b : Nat) (σ : x_S) : Prop := ∀ s, g_is N s → σ (b + 4) s = nI (g_en N C s) ∧ σ (b + 5) s = nI (g_lv N C s)
/-- where a road's stops begin in a row -/
def g_bg (N : g_F) (r : Nat) : Nat := g_cnt (fun s => decide ((s / 10 < N 0 1 ∧ s % 10 < N 8 (s / 10)) ∧ N 9 s < r)) 120
def f_Sh (N : g_F) (τ : x_L) : Prop := ∀ s s', g_is N s → g_is N s' → ((((τ 32 (12 * s + s' / 10)) >>> ((nI (4 * (s' % 10))).toInt64 &&& 63)) : Int64).toInt32) &&& 15 = nI (g_shr N s s')
def f_R (N : g_F) (σ : x_S) (τ : x_L) : Prop := (∀ t, t < N 0 1 → σ 30 t = nI (10 * t + N 8 t)) ∧ (∀ s, g_is N s → σ 31 s = g_nI (g_nxt N s)) ∧ (∀ r, r ≤ N 0 0 → σ 29 r = nI (g_bg N r)) ∧ f_Sh N τ
/-- a row lists the stops road by road -/
def g_E (N : g_F) (w : Nat → Nat) : Prop := (∀ r i, r < N 0 0 → g_bg N r ≤ i → i < g_bg N (r + 1) → g_is N (w i) ∧ N 9 (w i) = r) ∧ (∀ s, g_is N s → ∃ i, g_bg N (N 9 s) ≤ i ∧ i < g_bg N (N 9 s + 1) ∧ w i = s) ∧ ∀ r i j, r < N 0 0 → g_bg N r ≤ i → i < g_bg N (r + 1) → g_bg N r ≤ j → j < g_bg N (r + 1) → w i = w j → i = j
theorem f_F.cong {N : g_F} {σ σ' : x_S} (h : f_F N σ) (e : ∀ z, z < 13 → σ' z = σ z) : f_F N σ' := by
  unfold f_F at h ⊢
  rw [e 3 (by omega), e 4 (by omega), e 5 (by omega), e 6 (by omega), e 7 (by omega), e 8 (by omega), e 9 (by omega), e 10 (by omega), e 11 (by omega), e 12 (by omega)]
  exact h
theorem f_R.cong {N : g_F} {σ σ' : x_S} {τ : x_L} (h : f_R N σ τ) (e : ∀ z, z = 29 ∨ z = 30 ∨ z = 31 → σ' z = σ z) : f_R N σ' τ := by
  unfold f_R at h ⊢
  rw [e 29 (by omega), e 30 (by omega), e 31 (by omega)]
  exact h
theorem f_C.cong {N C : g_F} {b : Nat} {σ σ' : x_S} (h : f_C N C b σ) (e : ∀ z, z = b + 1 ∨ z = b + 2 ∨ z = b + 3 → σ' z = σ z) : f_C N C b σ' := by
  unfold f_C at h ⊢
  rw [e (b + 1) (by omega), e (b + 2) (by omega), e (b + 3) (by omega)]
  exact h
theorem f_T.cong {N C : g_F} {b : Nat} {σ σ' : x_S} (h : f_T N C b σ) (e : ∀ z, z = b + 4 ∨ z = b + 5 → σ' z = σ z) : f_T N C b σ' := by
  unfold f_T at h ⊢
  rw [e (b + 4) (by omega), e (b + 5) (by omega)]
  exact h
theorem g_sum_mono {f : Nat → Nat} {n m : Nat} (h : n ≤ m) : g_sum f n ≤ g_sum f m := by
  induction m with
  | zero =>
    have : n = 0 := by omega
    rw [this]
    exact Nat.le_refl _
  | succ m ih =>
    rw [g_sum]
    by_cases e : n = m + 1
    · rw [e, g_sum]
      exact Nat.le_refl _
    · have := ih (by omega)
      omega
theorem g_bg_mono (N : g_F) {r r' : Nat} (h : r ≤ r') : g_bg N r ≤ g_bg N r' := g_sum_le (fun s _ => by
  by_cases z : (s / 10 < N 0 1 ∧ s % 10 < N 8 (s / 10)) ∧ N 9 s < r
  · rw [if_pos (decide_eq_true_iff.mpr z), if_pos (decide_eq_true_iff.mpr ⟨z.1, by omega⟩)]
    exact Nat.le_refl _
  · rw [if_neg (fun q => z (of_decide_eq_true q))]
    exact Nat.zero_le _)
theorem g_bg_b (N : g_F) (r : Nat) : g_bg N r ≤ 120 := g_cnt_le _ _
theorem g_bg_0 (N : g_F) : g_bg N 0 = 0 := g_sum_zero (fun s _ => if_neg (fun q => by
  have := (of_decide_eq_true q).2
  omega))
theorem g_E.perm {N : g_F} {w w' : Nat → Nat} {r : Nat} (h : g_E N w) (hr : r < N 0 0) (hp : g_perm w w' (g_bg N r) (g_bg N (r + 1))) : g_E N w' := by
  obtain ⟨h1, h2, h3⟩ := h
  obtain ⟨a, p, q, c, d⟩ := hp
  have off : ∀ r' i, r' ≠ r → g_bg N r' ≤ i → i < g_bg N (r' + 1) → w' i = w i := fun r' i hne g1 g2 => a i (fun z => by
    rcases Nat.lt_or_gt_of_ne hne with g | g
    · have := g_bg_mono N (show r' + 1 ≤ r by omega)
      omega
    · have := g_bg_mono N (show r + 1 ≤ r' by omega)
      omega)
  refine ⟨fun r' i hr' g1 g2 => ?_, fun s hs => ?_, fun r' i j hr' g1 g2 g3 g4 e => ?_⟩
  · by_cases z : r' = r
    · subst z
      obtain ⟨x1, x2, -, x4⟩ := c i g1 g2
      rw [x4]
      exact h1 _ _ hr' x1 x2
    · rw [off r' i z g1 g2]
      exact h1 _ _ hr' g1 g2
  · obtain ⟨i, g1, g2, g3⟩ := h2 s hs
    by_cases z : N 9 s = r
    · rw [z] at g1 g2
      obtain ⟨x1, x2, x3⟩ := d i g1 g2
      obtain ⟨-, -, -, x4⟩ := c _ x1 x2
      exact ⟨q i, by rw [z]; exact x1, by rw [z]; exact x2, by rw [x4, x3]; exact g3⟩
    · exact ⟨i, g1, g2, by rw [off _ _ z g1 g2]; exact g3⟩
  · by_cases z : r' = r
    · subst z
      obtain ⟨x1, x2, x3, x4⟩ := c i g1 g2
      obtain ⟨y1, y2, y3, y4⟩ := c j g3 g4
      rw [x4, y4] at e
      have := h3 _ _ _ hr' x1 x2 y1 y2 e
      rw [← x3, ← y3, this]
    · rw [off _ _ z g1 g2, off _ _ z g3 g4] at e
      exact h3 _ _ _ hr' g1 g2 g3 g4 e
section XG
variable {N C : g_F} {b : Nat} {σ : x_S} {τ : x_L} {Q : Int32 → x_S → x_L → Prop}
theorem sX_minutes (hN : g_WN N) (hF : f_F N σ) {r v : Nat} (hr : r < N 0 0) (h1 : 40 ≤ v) (h2 : v ≤ 120) (h : Q (nI (g_min N r v)) σ τ) : wX1_minutes (nI r) (nI v) σ τ Q := by
  have hb := hN.1.1
  unfold wX1_minutes wX1_minutes_24
  refine i_le (a := 1) (by omega) (by omega) (fun _ => ?_) (fun g => absurd g (by omega))
  refine ⟨i_in (by omega) (by omega), nI_n0 (by omega) (by omega), ?_⟩
  rw [i_cl (by omega), (hF.2.1 r hr).2.2.1, e_min (hN.2.1 r hr).2.2.2.1 h1 h2]
  exact h
theorem sX_stopAt {t q : Nat} (h : Q (nI (10 * t + q)) σ τ) : wX10_stopAt (nI t) (nI q) σ τ Q := by
  unfold wX10_stopAt
  rw [show (nI t * 10 + nI q : Int32) = nI (10 * t + q) from by
    show nI t * nI 10 + nI q = _
    rw [nI_mul, nI_add, Nat.mul_comm]]
  exact h
theorem sX_setTimes (hb : 33 ≤ b) (hN : g_WN N) (hW : g_WC N C) (hF : f_F N σ) (hR : f_R N σ τ) (hC : f_C N C b σ) {t : Nat} (ht : t < N 0 1) {Q : x_S → x_L → Prop}
    (h : ∀ σ' : x_S, (∀ z, z ≠ b + 4 → z ≠ b + 5 → σ' z = σ z) → (∀ p, p < N 8 t → σ' (b + 4) (10 * t + p) = nI (g_en N C (10 * t + p)) ∧ σ' (b + 5) (10 * t + p) = nI (g_lv N C (10 * t + p))) → (∀ i, i / 10 ≠ t → σ' (b + 4) i = σ (b + 4) i ∧ σ' (b + 5) i = σ (b + 5) i) → Q σ' τ) : wX6_setTimes b (nI t) σ τ Q := by
  have hnb := hN.1.2
  have h10 := (hN.2.2.1 t ht).2.2.2.2.2
  unfold wX6_setTimes
  rw [i_cl (by omega), hC.1 t ht, show (nI t * 10 : Int32) = nI (10 * t + 0) from by
    show nI t * nI 10 = _
    rw [nI_mul, Nat.mul_comm]
    rfl]
  refine ⟨i_in (by omega) (by omega), ?_⟩
  refine x_l3_I (fun k a c d σ' τ' => ∃ q, a = nI t ∧ c = nI (g_rdy N C t q) ∧ d = nI (10 * t + q) ∧ q + k = N 8 t ∧ τ = τ' ∧ (∀ z, z ≠ b + 4 → z ≠ b + 5 → σ' z = σ z) ∧ (∀ p, p < q → σ' (b + 4) (10 * t + p) = nI (g_en N C (10 * t + p)) ∧ σ' (b + 5) (10 * t + p) = nI (g_lv N C (10 * t + p))) ∧ (∀ i, i / 10 ≠ t → σ' (b + 4) i = σ (b + 4) i ∧ σ' (b + 5) i = σ (b + 5) i)) ?_ (N 8 t) ⟨0, rfl, rfl, rfl, Nat.zero_add _, rfl, fun _ _ _ => rfl, fun p hp => absurd hp (Nat.not_lt_zero _), fun _ _ => ⟨rfl, rfl⟩⟩
  rintro k a c d σ' τ' ⟨q, rfl, rfl, rfl, hk, rfl, h1, h2, h3⟩ K hK
  have hF' := hF.cong (σ' := σ') (fun z hz => h1 z (by omega) (by omega))
  have hR' := hR.cong (σ' := σ') (fun z hz => h1 z (by omega) (by omega))
  have hC' := hC.cong (σ' := σ') (fun z hz => h1 z (by omega) (by omega))
  unfold wX6_setTimes_12
  refine ⟨i_in (by omega) (by omega), ?_⟩
  rw [i_cl (by omega), hR'.1 t ht]
  refine i_le (by omega) (by omega) (fun g => ?_) (fun g => ?_)
  · exact h σ' h1 (fun p hp => h2 p (by omega)) h3
  · have hq : q < N 8 t := by omega
    obtain ⟨hs, e1, e2, b1, b2, b3⟩ := g_is_of hN ht hq
    have hsp := g_sp_b hN hW hs
    have hrd := hN.2.2.2 t q ht hq
    have hrb := g_rdy_b hN hW ht q (by omega)
    have hch := g_ch hW hs
    refine ⟨i_in b1 (by omega), ?_⟩
    rw [i_cl (by omega), x_up_ss, x_up_n (show (12 : Nat) ≠ b + 4 by omega), x_up_n (show b + 3 ≠ b + 4 by omega), hF'.2.2.2 _ hs, (hC'.2 _ hs).1, (hC'.2 _ hs).2, nI_add]
    refine sX_minutes hN (hF'.cong (fun z hz => x_up_n (by omega))) hrd hsp.1 hsp.2 ?_
    rw [nI_add, show (nI (10 * t + q) + 1 : Int32) = nI (10 * t + (q + 1)) from nI_add _ 1]
    have hen : g_en N C (10 * t + q) = g_rdy N C t q + C 1 (10 * t + q) := by
      unfold g_en
      rw [e1, e2]
    have hlv : g_lv N C (10 * t + q) = g_rdy N C t (q + 1) := by
      unfold g_lv
      rw [e1, e2]
    refine hK (N 8 t - (q + 1)) _ _ _ _ _ (by omega) ⟨q + 1, rfl, rfl, rfl, by omega, rfl, ?_, ?_, ?_⟩
    · intro z z4 z5
      rw [x_up_n z5, x_up_n z4]
      exact h1 z z4 z5
    · intro p hp
      by_cases e : p = q
      · subst e
        rw [x_up_n (show b + 4 ≠ b + 5 by omega), x_up_ss, x_up_ss, hen, hlv]
        exact ⟨rfl, rfl⟩
      · rw [x_up_n (show b + 4 ≠ b + 5 by omega), x_up_sn (by omega), x_up_sn (by omega), x_up_n (show b + 5 ≠ b + 4 by omega)]
        exact h2 p (by omega)
    · intro i hi
      rw [x_up_n (show b + 4 ≠ b + 5 by omega), x_up_sn (by omega), x_up_sn (by omega), x_up_n (show b + 5 ≠ b + 4 by omega)]
      exact h3 i hi
def g_ear (N C : g_F) (x y : Nat) : Prop := g_en N C x < g_en N C y ∨ g_en N C x = g_en N C y ∧ C 2 x < C 2 y
theorem sX_isEarlier (hN : g_WN N) (hW : g_WC N C) (hC : f_C N C b σ) (hT : f_T N C b σ) {x y : Nat} (hx : g_is N x) (hy : g_is N y) (h1 : g_ear N C x y → Q 1 σ τ) (h0 : ¬ g_ear N C x y → Q 0 σ τ) : wX6_isEarlier b (nI x) (nI y) σ τ Q := by
  have bx := g_is_lt hN hx
  have by' := g_is_lt hN hy
  have ex := (g_en_b hN hW hx).1
  have ey := (g_en_b hN hW hy).1
  have sx := g_sp_b hN hW hx
  have sy := g_sp_b hN hW hy
  unfold g_ear at h1 h0
  unfold wX6_isEarlier wX6_isEarlier_45 wX6_isEarlier_49 wX6_isEarlier_50
  refine ⟨i_in bx (by omega), i_in by' (by omega), ?_⟩
  rw [i_cl (by omega), i_cl (by omega), (hT _ hx).1, (hT _ hy).1, (hC.2 _ hx).2, (hC.2 _ hy).2]
  refine i_lt (by omega) (by omega) (fun g => ⟨Or.inr rfl, h1 (Or.inl g)⟩) (fun g => ?_)
  refine i_ne (by omega) (by omega) (fun g2 => ⟨Or.inl rfl, h0 (by omega)⟩) (fun g2 => ?_)
  exact i_le (by omega) (by omega) (fun g3 => ⟨Or.inl rfl, h0 (by omega)⟩) (fun g3 => ⟨Or.inr rfl, h1 (Or.inr ⟨g2, g3⟩)⟩)
theorem sX_sortByTime (hb : 33 ≤ b) (hN : g_WN N) (hW : g_WC N C) (hC : f_C N C b σ) (hT : f_T N C b σ) {w : Nat → Nat} {lo hi n : Nat} (hn : n ≤ 120) (hlo : lo ≤ hi) (hhi : hi ≤ n) (hw : f_W b n w σ) (hS : ∀ i, lo ≤ i → i < hi → g_is N (w i)) {Q : x_S → x_L → Prop}
    (h : ∀ (σ' : x_S) (w' : Nat → Nat), (∀ z, z ≠ b + 6 → σ' z = σ z) → f_W b n w' σ' → g_perm w w' lo hi → g_srt (g_ear N C) w' lo hi → Q σ' τ) : wX6_sortByTime b (nI lo) (nI hi) σ τ Q := by
  unfold wX6_sortByTime
  refine g_isort (b := b) (n := n) (lt := g_ear N C) (S := g_is N) (cmp := wX6_isEarlier b) (B66 := wX6_sortByTime_66 b) (B20 := wX6_sortByTime_20 b) (B4 := wX6_sortByTime_4 b) (fun _ _ _ _ _ _ _ _ _ => rfl) (fun _ _ _ _ _ _ _ _ _ _ => rfl) (fun _ _ _ _ _ _ _ => rfl) hn hlo hhi hw hS ?_ ?_ ?_ h
  · intro x y σ' Q hx hy hf h1 h0
    exact sX_isEarlier hN hW (hC.cong (fun z hz => hf z (by omega))) (hT.cong (fun z hz => hf z (by omega))) hx hy h1 h0
  · unfold g_ear
    intros
    omega
  · unfold g_ear
    intros
    omega
theorem sX_shared (hN : g_WN N) (hR : f_R N σ τ) {x y : Nat} (hx : g_is N x) (hy : g_is N y) (h : Q (nI (g_shr N x y)) σ τ) : wX7_sharedPlaces (nI x) (nI y) σ τ Q := by
  have bx := g_is_lt hN hx
  have by' := g_is_lt hN hy
  unfold wX7_sharedPlaces
  have e1 : (nI x * 12 + nI y / 10 : Int32) = nI (12 * x + y / 10) := by
    show nI x * nI 12 + nI y / nI 10 = _
    rw [nI_mul, nI_div (by omega) (by omega) (by omega), nI_add, Nat.mul_comm]
  have e2 : (4 * (nI y - nI y / 10 * 10) : Int32) = nI (4 * (y % 10)) := by
    show nI 4 * (nI y - nI y / nI 10 * nI 10) = _
    rw [nI_div (by omega) (by omega) (by omega), nI_mul, nI_sub (by omega), nI_mul, show y - y / 10 * 10 = y % 10 by omega]
  rw [e1, e2, i_cl (by omega), hR.2.2.2 x y hx hy]
  exact ⟨i_in (by omega) (by omega), h⟩
theorem sX_shareBy {d : Nat} (hd : d < 61) (h : Q (nI (g_share d)) σ τ) : wX6_shareByDistance (nI d) σ τ Q := by
  unfold wX6_shareByDistance wX6_shareByDistance_17
  unfold g_share at h
  refine i_le (a := 50) (by omega) (by omega) (fun g => ?_) (fun g => ?_)
  · rw [if_neg (by omega)] at h
    exact h
  · rw [if_pos g] at h
    rw [show (150 - 3 * nI d : Int32) = nI (150 - 3 * d) from by
      show nI 150 - nI 3 * nI d = _
      rw [nI_mul, nI_sub (by omega)]]
    exact h
theorem sX_base (hb : 33 ≤ b) (hN : g_WN N) (hW : g_WC N C) (hF : f_F N σ) (hC : f_C N C b σ) {s : Nat} (hs : g_is N s) (h : Q (nI (g_base N C s)) σ τ) : wX6_base b (nI s) σ τ Q := by
  have bs := g_is_lt hN hs
  have hr := g_road_lt hN hs
  have hrb := hN.1.1
  unfold wX6_base
  rw [i_cl (by omega), hF.2.2.2 s hs, (hC.2 s hs).2, i_cl (by omega), (hF.2.1 _ hr).2.2.1, e_base (hN.2.1 _ hr).2.2.2.1 (g_sp_b hN hW hs).2]
  exact ⟨i_in bs (by omega), i_in (by omega) (by omega), h⟩
/-- the greater of two trucks' gaps -/
theorem sX_distAt (hN : g_WN N) (hF : f_F N σ) {c n i : Nat} {w : Nat → Nat} (hw : ∀ j, j ≤ i → σ c j = nI (w j)) (h0 : 0 < i) (hi : i < n) (hn : n ≤ 120) (h1 : g_is N (w i)) (h2 : g_is N (w (i - 1))) (h : Q (nI (g_gap2 N (w i / 10) (w (i - 1) / 10))) σ τ) : wX6_distanceAt b c n (nI i) σ τ Q := by
  have b1 := g_is_lt hN h1
  have b2 := g_is_lt hN h2
  have t1 := h1.1
  have t2 := h2.1
  have hnb := hN.1.2
  have g1 := (hN.2.2.1 _ t1).2.2.2.1
  have g2 := (hN.2.2.1 _ t2).2.2.2.1
  have d1 : (nI (w i) / 10 : Int32) = nI (w i / 10) := nI_div (b := 10) (by omega) (by omega) (by omega)
  have d2 : (nI (w (i - 1)) / 10 : Int32) = nI (w (i - 1) / 10) := nI_div (b := 10) (by omega) (by omega) (by omega)
  unfold wX6_distanceAt wX6_distanceAt_45
  rw [show (nI i - 1 : Int32) = nI (i - 1) from nI_sub (b := 1) (by omega), i_cl (by omega), i_cl (by omega), hw i (Nat.le_refl _), hw (i - 1) (by omega), d1, d2, i_cl (by omega), i_cl (by omega), (hF.2.2.1 _ t1).2.2.1, (hF.2.2.1 _ t2).2.2.1]
  refine ⟨i_in (by omega) (by omega), i_in (by omega) (by omega), i_in (by omega) (by omega), i_in (by omega) (by omega), ?_⟩
  unfold g_gap2 at h
  refine i_le (by omega) (by omega) (fun g => ?_) (fun g => ?_)
  · rw [Nat.max_eq_left g] at h
    exact h
  · rw [Nat.max_eq_right (by omega)] at h
    exact h
/-- closing up in an order -/
def g_cup (N : g_F) (w : Nat → Nat) (lo i : Nat) : Prop := i ≠ lo ∧ g_nxt N (w i) ≠ 0 ∧ g_nxt N (w (i - 1)) ≠ g_nxt N (w i) ∧ ∃ k, lo ≤ k ∧ k < i - 1 ∧ g_nxt N (w k) = g_nxt N (w i)
theorem sX_closesAt (hN : g_WN N) (hR : f_R N σ τ) {c n lo i : Nat} {w : Nat → Nat} (hw : ∀ j, j ≤ i → σ c j = nI (w j)) (hlo : lo ≤ i) (hi : i < n) (hn : n ≤ 120) (hS : ∀ j, lo ≤ j → j ≤ i → g_is N (w j)) (h1 : g_cup N w lo i → Q 1 σ τ) (h0 : ¬ g_cup N w lo i → Q 0 σ τ) : wX6_closesUpAt b c n (nI lo) (nI i) σ τ Q := by
  have nb : ∀ j, lo ≤ j → j ≤ i → w j < 120 ∧ g_nxt N (w j) < 1000 := fun j a1 a2 => by
    have := g_nxt_b hN (hS j a1 a2)
    exact ⟨g_is_lt hN (hS j a1 a2), by omega⟩
  have nxt : ∀ j, lo ≤ j → j ≤ i → σ 31 (nI (w j)).toNatClampNeg = g_nI (g_nxt N (w j)) := fun j a1 a2 => by
    rw [i_cl (by have := (nb j a1 a2).1; omega)]
    exact hR.2.1 _ (hS j a1 a2)
  unfold g_cup at h1 h0
  unfold wX6_closesUpAt wX6_closesUpAt_42
  rw [i_cl (by omega), hw i (Nat.le_refl _), nxt i hlo (Nat.le_refl _)]
  refine ⟨i_in hi (by omega), i_in (nb i hlo (Nat.le_refl _)).1 (by omega), fun g => h0 (fun z => z.2.1 ((g_nI_m1 (nb i hlo (Nat.le_refl _)).2).mp g)), fun g => ?_⟩
  have g' : g_nxt N (w i) ≠ 0 := fun z => g ((g_nI_m1 (nb i hlo (Nat.le_refl _)).2).mpr z)
  refine i_eq (by omega) (by omega) (fun g2 => h0 (fun z => z.1 g2)) (fun g2 => ?_)
  rw [show (nI i - 1 : Int32) = nI (i - 1) from nI_sub (b := 1) (by omega), i_cl (by omega), hw (i - 1) (by omega), nxt (i - 1) (by omega) (by omega)]
  refine ⟨i_in (by omega) (by omega), i_in (nb (i - 1) (by omega) (by omega)).1 (by omega), fun g3 => ?_, fun g3 => h0 (fun z => z.2.2.1 ((g_nI_eq (nb _ (by omega) (by omega)).2 (nb i hlo (Nat.le_refl _)).2).mp g3))⟩
  have g3' : g_nxt N (w (i - 1)) ≠ g_nxt N (w i) := fun z => g3 (by rw [z])
  refine x_l3_I (fun k a d e σ' τ' => ∃ j, a = nI i ∧ d = g_nI (g_nxt N (w i)) ∧ e = nI j ∧ lo ≤ j ∧ j + k = i ∧ σ = σ' ∧ τ = τ' ∧ ∀ k, lo ≤ k → k < j → g_nxt N (w k) ≠ g_nxt N (w i)) ?_ (i - lo) ⟨lo, rfl, rfl, rfl, Nat.le_refl _, by omega, rfl, rfl, fun k a1 a2 => absurd a2 (by omega)⟩
  rintro k a d e σ' τ' ⟨j, rfl, rfl, rfl, hj, hk, rfl, rfl, hI⟩ K hK
  unfold wX6_closesUpAt_47
  rw [show (nI i - 1 : Int32) = nI (i - 1) from nI_sub (b := 1) (by omega)]
  refine i_le (by omega) (by omega) (fun g4 => h0 (fun z => ?_)) (fun g4 => ?_)
  · obtain ⟨k', z1, z2, z3⟩ := z.2.2.2
    exact hI k' z1 (by omega) z3
  · rw [i_cl (by omega), hw j (by omega), nxt j hj (by omega)]
    refine ⟨i_in (by omega) (by omega), i_in (nb j hj (by omega)).1 (by omega), fun g5 => ?_, fun g5 => h1 ⟨g2, g', g3', j, hj, g4, (g_nI_eq (nb j hj (by omega)).2 (nb i hlo (Nat.le_refl _)).2).mp g5⟩⟩
    rw [show (nI j + 1 : Int32) = nI (j + 1) from nI_add j 1]
    refine hK (k - 1) _ _ _ _ _ (by omega) ⟨j + 1, rfl, rfl, rfl, by omega, by omega, rfl, rfl, fun k' a1 a2 => ?_⟩
    by_cases z : k' = j
    · rw [z]
      exact fun y => g5 (by rw [y])
    · exact hI k' a1 (by omega)
end XG
