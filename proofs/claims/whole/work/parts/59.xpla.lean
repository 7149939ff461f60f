/-! a platoon in a row of the class -/
/-- the places lo to hi of a row hold a platoon -/
def g_G (N C : g_F) (w : Nat → Nat) (lo hi : Nat) : Prop := lo < hi ∧ (∀ i, lo ≤ i → i < hi → g_is N (w i) ∧ g_mt N C (w lo) (w i) = true) ∧ (∀ s, g_is N s → g_mt N C (w lo) s = true → ∃ i, lo ≤ i ∧ i < hi ∧ w i = s) ∧ ∀ i j, lo ≤ i → i < hi → lo ≤ j → j < hi → w i = w j → i = j
theorem g_G.perm {N C : g_F} {w w' : Nat → Nat} {lo hi : Nat} (h : g_G N C w lo hi) (hp : g_perm w w' lo hi) : g_G N C w' lo hi := by
  obtain ⟨h1, h2, h3, h4⟩ := h
  obtain ⟨a, p, q, c, d⟩ := hp
  obtain ⟨y1, y2, -, y4⟩ := c lo (Nat.le_refl _) h1
  have hm := (h2 _ y1 y2).2
  refine ⟨h1, fun i g1 g2 => ?_, fun s hs g => ?_, fun i j g1 g2 g3 g4 e => ?_⟩
  · obtain ⟨x1, x2, -, x4⟩ := c i g1 g2
    rw [x4, y4, g_mt_eq hm]
    exact h2 _ x1 x2
  · rw [y4, g_mt_eq hm] at g
    obtain ⟨i, g1, g2, g3⟩ := h3 s hs g
    obtain ⟨x1, x2, x3⟩ := d i g1 g2
    obtain ⟨-, -, -, x4⟩ := c _ x1 x2
    exact ⟨q i, x1, x2, by rw [x4, x3]; exact g3⟩
  · obtain ⟨x1, x2, x3, x4⟩ := c i g1 g2
    obtain ⟨z1, z2, z3, z4⟩ := c j g3 g4
    rw [x4, z4] at e
    have := h4 _ _ x1 x2 z1 z2 e
    rw [← x3, ← z3, this]
def g_akey (N C : g_F) (x y : Nat) : Prop := g_key N C y < g_key N C x ∨ g_key N C x = g_key N C y ∧ x < y
section GG
variable {N C : g_F} {w : Nat → Nat} {lo hi : Nat}
theorem g_G.mt (h : g_G N C w lo hi) {i j : Nat} (h1 : lo ≤ i) (h2 : i < hi) (h3 : lo ≤ j) (h4 : j < hi) : g_mt N C (w i) (w j) = true := by
  rw [g_mt_eq (h.2.1 i h1 h2).2]
  exact (h.2.1 j h3 h4).2
theorem g_G.ms (hN : g_WN N) (hW : g_WC N C) (h : g_G N C w lo hi) {i j : Nat} (h1 : lo ≤ i) (h2 : i < hi) (h3 : lo ≤ j) (h4 : j < hi) : g_has N C (w i) (w j / 10) = true ∧ g_ms N C (w i) (w j / 10) = w j := by
  have hj := (h.2.1 j h3 h4).1
  have := g_has_of hN hW (s := w i) hj.1 hj.2 (by rw [← g_is_eq]; exact h.mt h1 h2 h3 h4)
  rw [← g_is_eq] at this
  exact this
theorem g_G.tr (hN : g_WN N) (hW : g_WC N C) (h : g_G N C w lo hi) {i j : Nat} (h1 : lo ≤ i) (h2 : i < hi) (h3 : lo ≤ j) (h4 : j < hi) (e : w i / 10 = w j / 10) : i = j := by
  have a := (h.ms hN hW h1 h2 h1 h2).2
  have c := (h.ms hN hW h1 h2 h3 h4).2
  rw [e] at a
  exact h.2.2.2 i j h1 h2 h3 h4 (a.symm.trans c)
theorem g_G.ex (hN : g_WN N) (h : g_G N C w lo hi) {i o : Nat} (h1 : lo ≤ i) (h2 : i < hi) (ho : o < N 0 1) (hh : g_has N C (w i) o = true) : ∃ j, lo ≤ j ∧ j < hi ∧ w j / 10 = o := by
  obtain ⟨a, c, -⟩ := g_ms_is hN ho hh
  have hm := g_has_mt hh
  rw [g_mt_eq (h.2.1 i h1 h2).2] at hm
  obtain ⟨j, j1, j2, j3⟩ := h.2.2.1 _ a hm
  exact ⟨j, j1, j2, by rw [j3]; exact c⟩
theorem g_cnt_below (k : Nat) : ∀ m, k ≤ m → g_cnt (fun j => decide (j < k)) m = k
  | 0, h => by
    have : k = 0 := by omega
    rw [this]
    rfl
  | m + 1, h => by
    rw [g_cnt_succ]
    by_cases e : k = m + 1
    · subst e
      have : g_cnt (fun j => decide (j < m + 1)) m = g_cnt (fun j => decide (j < m)) m := g_cnt_congr (fun i hi => by
        rw [decide_eq_true (show i < m + 1 by omega), decide_eq_true hi])
      rw [this, g_cnt_below m m (Nat.le_refl _), if_pos (decide_eq_true (by omega))]
    · rw [g_cnt_below k m (by omega), if_neg (fun q => by
        have := of_decide_eq_true q
        omega), Nat.add_zero]
/-- a count over trucks, along the platoon -/
theorem g_G.cnt (hN : g_WN N) (hW : g_WC N C) (h : g_G N C w lo hi) {i : Nat} (h1 : lo ≤ i) (h2 : i < hi) {p : Nat → Bool} (hp : ∀ o, p o = true → g_has N C (w i) o = true) : g_cnt p (N 0 1) = g_cnt (fun j => p (w (lo + j) / 10)) (hi - lo) := by
  refine g_sum_enum (row := fun j => w (lo + j) / 10) (f := fun o => if p o then 1 else 0) (fun j hj => (h.2.1 (lo + j) (by omega) (by omega)).1.1) (fun a c ha hc e => ?_) (fun o ho hf => ?_)
  · have := h.tr hN hW (i := lo + a) (j := lo + c) (by omega) (by omega) (by omega) (by omega) e
    omega
  · by_cases z : p o = true
    · obtain ⟨j, j1, j2, j3⟩ := h.ex hN h1 h2 ho (hp o z)
      exact ⟨j - lo, by omega, by show w (lo + (j - lo)) / 10 = o; rw [show lo + (j - lo) = j by omega]; exact j3⟩
    · exact absurd (if_neg z) hf
theorem g_G.tog (hN : g_WN N) (hW : g_WC N C) (h : g_G N C w lo hi) {i : Nat} (h1 : lo ≤ i) (h2 : i < hi) : g_tog N C (w i) = hi - lo := by
  unfold g_tog
  rw [h.cnt hN hW h1 h2 (p := fun o => g_has N C (w i) o) (fun _ z => z)]
  rw [g_cnt_congr (q := fun j => decide (j < hi - lo)) (fun j hj => by
    rw [(h.ms hN hW h1 h2 (show lo ≤ lo + j by omega) (by omega)).1]
    exact (decide_eq_true hj).symm)]
  exact g_cnt_below _ _ (Nat.le_refl _)
theorem g_G.key (hN : g_WN N) (hW : g_WC N C) (h : g_G N C w lo hi) {i : Nat} (h1 : lo ≤ i) (h2 : i < hi) : g_key N C (w i) = g_mx (fun j => if lo + j ≠ i then g_shr N (w i) (w (lo + j)) else 0) (hi - lo) := by
  unfold g_key
  rw [g_mx_enum (row := fun j => w (lo + j) / 10) (m := hi - lo) (fun j hj => (h.2.1 (lo + j) (by omega) (by omega)).1.1) (fun o ho hf => by
    by_cases z : o ≠ w i / 10 ∧ g_has N C (w i) o = true
    · obtain ⟨j, j1, j2, j3⟩ := h.ex hN h1 h2 ho z.2
      exact ⟨j - lo, by omega, by show w (lo + (j - lo)) / 10 = o; rw [show lo + (j - lo) = j by omega]; exact j3⟩
    · exact absurd (if_neg z) hf)]
  refine g_mx_congr (fun j hj => ?_)
  have hm := h.ms hN hW h1 h2 (show lo ≤ lo + j by omega) (show lo + j < hi by omega)
  by_cases z : lo + j = i
  · rw [if_neg (fun q => q.1 (by rw [z])), if_neg (fun q => q z)]
  · rw [if_pos ⟨fun q => z (h.tr hN hW (by omega) (by omega) h1 h2 q), hm.1⟩, if_pos z, hm.2]
theorem g_G.pos (hN : g_WN N) (hW : g_WC N C) (h : g_G N C w lo hi) (hs : g_srt (g_akey N C) w lo hi) {i : Nat} (h1 : lo ≤ i) (h2 : i < hi) : g_pos N C (w i) = i - lo := by
  unfold g_pos
  rw [h.cnt hN hW h1 h2 (p := fun o => g_ahd N C (w i) o) (fun o z => (of_decide_eq_true z).2.1)]
  rw [g_cnt_congr (q := fun j => decide (j < i - lo)) (fun j hj => ?_)]
  · exact g_cnt_below _ _ (by omega)
  · have hm := h.ms hN hW h1 h2 (show lo ≤ lo + j by omega) (show lo + j < hi by omega)
    have hi1 := (h.2.1 i h1 h2).1
    have hj1 := (h.2.1 (lo + j) (by omega) (by omega)).1
    apply Bool.eq_iff_iff.mpr
    unfold g_ahd
    rw [decide_eq_true_iff, decide_eq_true_iff, hm.2]
    have tr : w (lo + j) / 10 = w i / 10 → lo + j = i := fun e => h.tr hN hW (by omega) (by omega) h1 h2 e
    have cmp : w (lo + j) < w i ↔ w (lo + j) / 10 < w i / 10 ∨ (lo + j = i ∧ False) := by
      constructor
      · intro g
        left
        rcases Nat.lt_trichotomy (w (lo + j) / 10) (w i / 10) with g2 | g2 | g2
        · exact g2
        · have := tr g2
          rw [this] at g
          omega
        · omega
      · rintro (g | g)
        · omega
        · exact g.2.elim
    constructor
    · rintro ⟨a, -, c⟩
      rcases Nat.lt_trichotomy (lo + j) i with g | g | g
      · omega
      · rw [g] at a
        exact absurd rfl a
      · have := hs i (lo + j) h1 g (by omega)
        unfold g_akey at this
        omega
    · intro g
      have hn : w (lo + j) / 10 ≠ w i / 10 := fun e => by
        have := tr e
        omega
      refine ⟨hn, hm.1, ?_⟩
      have := hs (lo + j) i (by omega) (by omega) h2
      unfold g_akey at this
      omega
theorem g_G.mem (hN : g_WN N) (hW : g_WC N C) (h : g_G N C w lo hi) (hs : g_srt (g_akey N C) w lo hi) {i j : Nat} (h1 : lo ≤ i) (h2 : i < hi) (hj : j < hi - lo) : g_mem N C (w i) j = w (lo + j) / 10 ∧ g_mst N C (w i) j = w (lo + j) := by
  have hm := h.ms hN hW h1 h2 (show lo ≤ lo + j by omega) (show lo + j < hi by omega)
  have hj1 := (h.2.1 (lo + j) (by omega) (by omega)).1
  have e := g_mem_eq hN hW hj1.1 hm.1 (i := j) (by
    rw [hm.2, h.pos hN hW hs (by omega) (by omega)]
    omega)
  exact ⟨e, by unfold g_mst; rw [e, hm.2]⟩
theorem g_G.dst (hN : g_WN N) (hW : g_WC N C) (h : g_G N C w lo hi) (hs : g_srt (g_akey N C) w lo hi) {i : Nat} (h1 : lo ≤ i) (h2 : i < hi) : g_dst N C (w i) = if i = lo then 0 else g_gap2 N (w i / 10) (w (i - 1) / 10) := by
  unfold g_dst
  rw [h.pos hN hW hs h1 h2]
  by_cases z : i = lo
  · rw [if_pos z, if_pos (by omega)]
  · rw [if_neg z, if_neg (by omega), (h.mem hN hW hs h1 h2 (j := i - lo - 1) (by omega)).1, show lo + (i - lo - 1) = i - 1 by omega]
theorem g_G.base (h : g_G N C w lo hi) {i : Nat} (h1 : lo ≤ i) (h2 : i < hi) : g_base N C (w i) = g_base N C (w lo) := by
  obtain ⟨a, -, c⟩ := g_mt_iff.mp (h.2.1 i h1 h2).2
  unfold g_base
  rw [a, c]
theorem g_G.sav (hN : g_WN N) (hW : g_WC N C) (h : g_G N C w lo hi) (hs : g_srt (g_akey N C) w lo hi) {i : Nat} (h1 : lo ≤ i) (h2 : i < hi) : g_sav N C (w i) = if i = lo then (if 1 < hi - lo then g_base N C (w lo) * (g_share (g_dst N C (w (lo + 1))) / 4) / 1000 else 0) else g_base N C (w lo) * g_share (g_dst N C (w i)) / 1000 := by
  unfold g_sav
  rw [h.pos hN hW hs h1 h2, h.tog hN hW h1 h2, h.base h1 h2]
  by_cases z : i = lo
  · rw [if_pos z, if_pos (by omega)]
    by_cases z2 : 1 < hi - lo
    · rw [if_pos z2, if_pos z2, (h.mem hN hW hs h1 h2 (j := 1) (by omega)).1, (h.mem hN hW hs h1 h2 (j := 0) (by omega)).1, h.dst hN hW hs (i := lo + 1) (by omega) (by omega), if_neg (by omega)]
      rfl
    · rw [if_neg z2, if_neg z2]
  · rw [if_neg z, if_neg (by omega)]
theorem g_G.clo (hN : g_WN N) (hW : g_WC N C) (h : g_G N C w lo hi) (hs : g_srt (g_akey N C) w lo hi) {i : Nat} (h1 : lo ≤ i) (h2 : i < hi) : g_clo N C (w i) = true ↔ g_cup N w lo i := by
  unfold g_clo g_cup
  rw [decide_eq_true_iff, h.pos hN hW hs h1 h2]
  have mm : ∀ k, k < hi - lo → g_mst N C (w i) k = w (lo + k) := fun k hk => (h.mem hN hW hs h1 h2 hk).2
  constructor
  · rintro ⟨a, c, d, k, e1, e2⟩
    rw [mm (i - lo - 1) (by omega), show lo + (i - lo - 1) = i - 1 by omega] at d
    rw [mm k (by omega)] at e2
    exact ⟨by omega, c, d, lo + k, by omega, by omega, e2⟩
  · rintro ⟨a, c, d, k, e0, e1, e2⟩
    refine ⟨by omega, c, ?_, k - lo, by omega, ?_⟩
    · rw [mm (i - lo - 1) (by omega), show lo + (i - lo - 1) = i - 1 by omega]
      exact d
    · rw [mm (k - lo) (by omega), show lo + (k - lo) = k by omega]
      exact e2
end GG
section XK
variable {N C : g_F} {b : Nat} {σ : x_S} {τ : x_L}
theorem sX_setKeys (hb : 33 ≤ b) (hN : g_WN N) (hW : g_WC N C) (hR : f_R N σ τ) {w : Nat → Nat} {lo hi n : Nat} (hn : n ≤ 120) (hhi : hi ≤ n) (hw : f_W b n w σ) (hG : g_G N C w lo hi) {Q : x_S → x_L → Prop}
    (h : ∀ σ' : x_S, (∀ z, z ≠ b + 9 → σ' z = σ z) → (∀ i, lo ≤ i → i < hi → σ' (b + 9) (w i) = nI (g_key N C (w i))) → (∀ x, (∀ i, lo ≤ i → i < hi → x ≠ w i) → σ' (b + 9) x = σ (b + 9) x) → Q σ' τ) : wX6_setKeys b (nI lo) (nI hi) σ τ Q := by
  have hlo := hG.1
  have lt := fun i h1 h2 => g_is_lt hN (hG.2.1 i h1 h2).1
  unfold wX6_setKeys
  refine x_l3_I (fun k a c d σ' τ' => ∃ i, a = nI lo ∧ c = nI hi ∧ d = nI i ∧ lo ≤ i ∧ i + k = hi ∧ τ = τ' ∧ (∀ z, z ≠ b + 9 → σ' z = σ z) ∧ (∀ j, lo ≤ j → j < i → σ' (b + 9) (w j) = nI (g_key N C (w j))) ∧ ∀ x, (∀ j, lo ≤ j → j < i → x ≠ w j) → σ' (b + 9) x = σ (b + 9) x) ?_ (hi - lo) ⟨lo, rfl, rfl, rfl, Nat.le_refl _, by omega, rfl, fun _ _ => rfl, fun j a1 a2 => absurd a2 (by omega), fun _ _ => rfl⟩
  rintro k a c d σ' τ' ⟨i, rfl, rfl, rfl, hi1, hk, rfl, h1, h2, h3⟩ K hK
  unfold wX6_setKeys_2
  refine i_le (by omega) (by omega) (fun g => ?_) (fun g => ?_)
  · have ei : i = hi := by omega
    subst ei
    exact h σ' h1 h2 h3
  · have hw' : f_W b n w σ' := fun j hj => by rw [h1 (b + 6) (by omega)]; exact hw j hj
    have hR' := hR.cong (σ' := σ') (fun z hz => h1 z (by omega))
    refine x_l5_I (fun k a c d e f σ2 τ' => ∃ j, a = nI lo ∧ c = nI hi ∧ d = nI i ∧ e = nI (g_mx (fun j => if lo + j ≠ i then g_shr N (w i) (w (lo + j)) else 0) j) ∧ f = nI (lo + j) ∧ j + k = hi - lo ∧ τ = τ' ∧ σ' = σ2) ?_ (hi - lo) ⟨0, rfl, rfl, rfl, rfl, rfl, Nat.zero_add _, rfl, rfl⟩
    rintro k2 a c d e f σ2 τ' ⟨j, rfl, rfl, rfl, rfl, rfl, hk2, rfl, rfl⟩ K2 hK2
    unfold wX6_setKeys_13
    refine i_le (by omega) (by omega) (fun g2 => ?_) (fun g2 => ?_)
    · have ej : j = hi - lo := by omega
      subst ej
      refine ⟨i_in (by omega) (by omega), ?_⟩
      rw [i_cl (by omega), hw' i (by omega), ← hG.key hN hW hi1 g]
      refine ⟨i_in (lt i hi1 g) (by omega), ?_⟩
      rw [i_cl (by have := lt i hi1 g; omega), show (nI i + 1 : Int32) = nI (i + 1) from nI_add i 1]
      refine hK (k - 1) _ _ _ _ _ (by omega) ⟨i + 1, rfl, rfl, rfl, by omega, by omega, rfl, fun z hz => by rw [x_up_n hz]; exact h1 z hz, fun j a1 a2 => ?_, fun x hx => ?_⟩
      · rw [x_up_i]
        by_cases z : w j = w i
        · rw [if_pos z, z]
        · rw [if_neg z]
          exact h2 j a1 (by
            have : j ≠ i := fun q => z (by rw [q])
            omega)
      · rw [x_up_i, if_neg (hx i hi1 (by omega))]
        exact h3 x (fun j a1 a2 => hx j a1 (by omega))
    · refine ⟨i_in (by omega) (by omega), i_in (by omega) (by omega), ?_⟩
      rw [i_cl (by omega), i_cl (by omega), hw' i (by omega), hw' (lo + j) (by omega)]
      refine sX_shared hN hR' (hG.2.1 i hi1 g).1 (hG.2.1 (lo + j) (by omega) g2).1 ?_
      have sb := g_shf_le N 10 (w i) (w (lo + j))
      have mb : g_mx (fun j => if lo + j ≠ i then g_shr N (w i) (w (lo + j)) else 0) j ≤ 10 := g_mx_le (fun j _ => by
        split
        · exact g_shf_le N 10 _ _
        · omega)
      unfold wX6_setKeys_58
      rw [show (nI (lo + j) + 1 : Int32) = nI (lo + (j + 1)) from nI_add (lo + j) 1]
      refine i_eq (by omega) (by omega) (fun g3 => ?_) (fun g3 => ?_)
      · refine hK2 (k2 - 1) _ _ _ _ _ _ _ (by omega) ⟨j + 1, rfl, rfl, rfl, ?_, rfl, by omega, rfl, rfl⟩
        rw [g_mx, if_neg (fun q => q g3), Nat.max_eq_left (Nat.zero_le _)]
      · refine i_le (by unfold g_shr; omega) (by omega) (fun g4 => ?_) (fun g4 => ?_)
        · refine hK2 (k2 - 1) _ _ _ _ _ _ _ (by omega) ⟨j + 1, rfl, rfl, rfl, ?_, rfl, by omega, rfl, rfl⟩
          rw [g_mx, if_pos g3, Nat.max_eq_left g4]
        · refine hK2 (k2 - 1) _ _ _ _ _ _ _ (by omega) ⟨j + 1, rfl, rfl, rfl, ?_, rfl, by omega, rfl, rfl⟩
          rw [g_mx, if_pos g3, Nat.max_eq_right (by omega)]
theorem sX_sortByKey (hb : 33 ≤ b) (hN : g_WN N) {w : Nat → Nat} {lo hi n : Nat} (hn : n ≤ 120) (hhi : hi ≤ n) (hw : f_W b n w σ) (hG : g_G N C w lo hi) (hk : ∀ i, lo ≤ i → i < hi → σ (b + 9) (w i) = nI (g_key N C (w i))) {Q : x_S → x_L → Prop}
    (h : ∀ (σ' : x_S) (w' : Nat → Nat), (∀ z, z ≠ b + 6 → σ' z = σ z) → f_W b n w' σ' → g_perm w w' lo hi → g_srt (g_akey N C) w' lo hi → Q σ' τ) : wX6_sortByKey b (nI lo) (nI hi) σ τ Q := by
  unfold wX6_sortByKey
  refine g_isort (b := b) (n := n) (lt := g_akey N C) (S := fun x => ∃ i, lo ≤ i ∧ i < hi ∧ w i = x) (cmp := wX6_isAhead b) (B66 := wX6_sortByKey_66 b) (B20 := wX6_sortByKey_20 b) (B4 := wX6_sortByKey_4 b) (fun _ _ _ _ _ _ _ _ _ => rfl) (fun _ _ _ _ _ _ _ _ _ _ => rfl) (fun _ _ _ _ _ _ _ => rfl) hn (Nat.le_of_lt hG.1) hhi hw (fun i a1 a2 => ⟨i, a1, a2, rfl⟩) ?_ ?_ ?_ h
  · rintro x y σ' Q ⟨i, i1, i2, rfl⟩ ⟨j, j1, j2, rfl⟩ hf h1 h0
    have bx := g_is_lt hN (hG.2.1 i i1 i2).1
    have by' := g_is_lt hN (hG.2.1 j j1 j2).1
    have kx := g_key_b (N := N) (C := C) (w i)
    have ky := g_key_b (N := N) (C := C) (w j)
    unfold g_akey at h1 h0
    unfold wX6_isAhead wX6_isAhead_35 wX6_isAhead_39 wX6_isAhead_40
    refine ⟨i_in bx (by omega), i_in by' (by omega), ?_⟩
    rw [i_cl (by omega), i_cl (by omega), hf (b + 9) (by omega), hk i i1 i2, hk j j1 j2]
    refine i_lt (by omega) (by omega) (fun g => ⟨Or.inr rfl, h1 (Or.inl g)⟩) (fun g => ?_)
    refine i_ne (by omega) (by omega) (fun g2 => ⟨Or.inl rfl, h0 (by omega)⟩) (fun g2 => ?_)
    exact i_le (by omega) (by omega) (fun g3 => ⟨Or.inl rfl, h0 (by omega)⟩) (fun g3 => ⟨Or.inr rfl, h1 (Or.inr ⟨g2, g3⟩)⟩)
  · unfold g_akey
    intros
    omega
  · unfold g_akey
    intros
    omega
end XK
