/-! networks and choices: N 0 0 roads, N 0 1 trucks, N 1 r from, N 2 r to, N 3 r length, N 4 r limit, N 5 t first start, N 6 t deadline, N 7 t gap, N 8 t places, N 9 s the road of the stop s = 10 t + q; C 0 t start, C 1 s wait, C 2 s speed -/
def g_WN (N : g_F) : Prop := (N 0 0 ≤ 30 ∧ N 0 1 ≤ 12) ∧ (∀ r, r < N 0 0 → N 1 r < 20 ∧ N 2 r < 20 ∧ 1 ≤ N 3 r ∧ N 3 r ≤ 300 ∧ 40 ≤ N 4 r ∧ N 4 r ≤ 120) ∧ (∀ t, t < N 0 1 → N 5 t ≤ 2000 ∧ N 6 t ≤ 10000 ∧ 5 ≤ N 7 t ∧ N 7 t ≤ 60 ∧ 1 ≤ N 8 t ∧ N 8 t ≤ 10) ∧ (∀ t q, t < N 0 1 → q < N 8 t → N 9 (10 * t + q) < N 0 0)
def g_WC (N C : g_F) : Prop := (∀ t, t < N 0 1 → C 0 t ≤ 2000) ∧ ∀ t q, t < N 0 1 → q < N 8 t → C 1 (10 * t + q) ≤ 120 ∧ 40 ≤ C 2 (10 * t + q) ∧ C 2 (10 * t + q) ≤ N 4 (N 9 (10 * t + q))
def g_min (N : g_F) (r v : Nat) : Nat := (N 3 r * 60 + v - 1) / v
/-- when a truck is ready at a place -/
def g_rdy (N C : g_F) (t : Nat) : Nat → Nat
  | 0 => C 0 t
  | q + 1 => g_rdy N C t q + C 1 (10 * t + q) + g_min N (N 9 (10 * t + q)) (C 2 (10 * t + q))
def g_en (N C : g_F) (s : Nat) : Nat := g_rdy N C (s / 10) (s % 10) + C 1 s
def g_lv (N C : g_F) (s : Nat) : Nat := g_rdy N C (s / 10) (s % 10 + 1)
/-- is it a stop -/
def g_is (N : g_F) (s : Nat) : Prop := s / 10 < N 0 1 ∧ s % 10 < N 8 (s / 10)
def g_mt (N C : g_F) (s s' : Nat) : Bool := decide (N 9 s = N 9 s' ∧ g_en N C s = g_en N C s' ∧ C 2 s = C 2 s')
def g_pl (N C : g_F) (s o : Nat) : Nat := g_first (fun q => g_mt N C s (10 * o + q)) (N 8 o)
def g_has (N C : g_F) (s o : Nat) : Bool := decide (g_pl N C s o < N 8 o)
def g_ms (N C : g_F) (s o : Nat) : Nat := 10 * o + g_pl N C s o
def g_shf (N : g_F) : Nat → Nat → Nat → Nat
  | 0, _, _ => 0
  | f + 1, s, s' => if N 9 s = N 9 s' then (if s % 10 + 1 < N 8 (s / 10) ∧ s' % 10 + 1 < N 8 (s' / 10) then 1 + g_shf N f (s + 1) (s' + 1) else 1) else 0
def g_shr (N : g_F) (s s' : Nat) : Nat := g_shf N 10 s s'
def g_key (N C : g_F) (s : Nat) : Nat := g_mx (fun o => if o ≠ s / 10 ∧ g_has N C s o = true then g_shr N s (g_ms N C s o) else 0) (N 0 1)
/-- is truck o ahead of the stop s in its platoon -/
def g_ahd (N C : g_F) (s o : Nat) : Bool := decide (o ≠ s / 10 ∧ g_has N C s o = true ∧ (g_key N C s < g_key N C (g_ms N C s o) ∨ g_key N C (g_ms N C s o) = g_key N C s ∧ o < s / 10))
def g_pos (N C : g_F) (s : Nat) : Nat := g_cnt (fun o => g_ahd N C s o) (N 0 1)
def g_tog (N C : g_F) (s : Nat) : Nat := g_cnt (fun o => g_has N C s o) (N 0 1)
/-- the truck at position i of the platoon of s -/
def g_mem (N C : g_F) (s i : Nat) : Nat := g_first (fun o => g_has N C s o && decide (g_pos N C (g_ms N C s o) = i)) (N 0 1)
def g_mst (N C : g_F) (s i : Nat) : Nat := g_ms N C s (g_mem N C s i)
def g_gap2 (N : g_F) (a b : Nat) : Nat := max (N 7 a) (N 7 b)
def g_dst (N C : g_F) (s : Nat) : Nat := if g_pos N C s = 0 then 0 else g_gap2 N (s / 10) (g_mem N C s (g_pos N C s - 1))
def g_share (d : Nat) : Nat := if d < 50 then 150 - 3 * d else 0
def g_base (N C : g_F) (s : Nat) : Nat := N 3 (N 9 s) * (150 + C 2 s * C 2 s / 40)
def g_sav (N C : g_F) (s : Nat) : Nat := if g_pos N C s = 0 then (if 1 < g_tog N C s then g_base N C s * (g_share (g_gap2 N (g_mem N C s 1) (g_mem N C s 0)) / 4) / 1000 else 0) else g_base N C s * g_share (g_dst N C s) / 1000
/-- the road behind a stop and one more; 0: none -/
def g_nxt (N : g_F) (s : Nat) : Nat := if s % 10 + 1 < N 8 (s / 10) then N 9 (s + 1) + 1 else 0
def g_clo (N C : g_F) (s : Nat) : Bool := decide (g_pos N C s ≠ 0 ∧ g_nxt N s ≠ 0 ∧ g_nxt N (g_mst N C s (g_pos N C s - 1)) ≠ g_nxt N s ∧ ∃ k, k < g_pos N C s - 1 ∧ g_nxt N (g_mst N C s k) = g_nxt N s)
def g_fuel (N C : g_F) (s : Nat) : Nat := g_base N C s + (if g_clo N C s = true then 300 else 0) - g_sav N C s
section GN
variable {N C : g_F}
theorem g_is_of {t q : Nat} (hN : g_WN N) (ht : t < N 0 1) (hq : q < N 8 t) : g_is N (10 * t + q) ∧ (10 * t + q) / 10 = t ∧ (10 * t + q) % 10 = q ∧ 10 * t + q < 120 ∧ t < 12 ∧ q < 10 := by
  have h1 := (hN.2.2.1 t ht).2.2.2.2.2
  have h2 := hN.1.2
  have e1 : (10 * t + q) / 10 = t := by omega
  have e2 : (10 * t + q) % 10 = q := by omega
  exact ⟨⟨by rw [e1]; exact ht, by rw [e1, e2]; exact hq⟩, e1, e2, by omega, by omega, by omega⟩
theorem g_is_eq {s : Nat} : s = 10 * (s / 10) + s % 10 := by omega
theorem g_is_lt {s : Nat} (hN : g_WN N) (h : g_is N s) : s < 120 := by
  have h1 := hN.1.2
  have h2 := h.1
  omega
theorem g_road_lt {s : Nat} (hN : g_WN N) (h : g_is N s) : N 9 s < N 0 0 := by
  have := hN.2.2.2 (s / 10) (s % 10) h.1 h.2
  rw [← g_is_eq] at this
  exact this
theorem g_min_b {r v : Nat} (hN : g_WN N) (hr : r < N 0 0) (hv : 40 ≤ v) (hv2 : v ≤ 120) : 1 ≤ g_min N r v ∧ g_min N r v ≤ 451 := by
  have h := (hN.2.1 r hr).2.2
  unfold g_min
  refine ⟨Nat.div_pos (by omega) (by omega), ?_⟩
  apply Nat.div_le_of_le_mul
  have h2 : 40 * 451 ≤ v * 451 := Nat.mul_le_mul_right _ hv
  omega
theorem g_ch {s : Nat} (hC : g_WC N C) (h : g_is N s) : C 1 s ≤ 120 ∧ 40 ≤ C 2 s ∧ C 2 s ≤ N 4 (N 9 s) := by
  have := hC.2 (s / 10) (s % 10) h.1 h.2
  rw [← g_is_eq] at this
  exact this
theorem g_sp_b {s : Nat} (hN : g_WN N) (hC : g_WC N C) (h : g_is N s) : 40 ≤ C 2 s ∧ C 2 s ≤ 120 := by
  have h1 := g_ch hC h
  have h2 := (hN.2.1 _ (g_road_lt hN h)).2.2.2.2
  omega
theorem g_rdy_b (hN : g_WN N) (hC : g_WC N C) {t : Nat} (ht : t < N 0 1) : ∀ q, q ≤ N 8 t → g_rdy N C t q ≤ 2000 + 571 * q
  | 0, _ => by
    rw [g_rdy]
    exact hC.1 t ht
  | q + 1, hq => by
    have ih := g_rdy_b hN hC ht q (by omega)
    obtain ⟨hs, e1, e2, -⟩ := g_is_of hN ht (show q < N 8 t by omega)
    have h1 := g_ch hC hs
    have h2 := g_sp_b hN hC hs
    have h3 := g_min_b hN (g_road_lt hN hs) h2.1 h2.2
    rw [g_rdy]
    omega
theorem g_en_b {s : Nat} (hN : g_WN N) (hC : g_WC N C) (h : g_is N s) : g_en N C s ≤ 8000 ∧ g_lv N C s ≤ 8000 := by
  have h1 := (hN.2.2.1 _ h.1).2.2.2.2.2
  have h2 := g_rdy_b hN hC h.1 (s % 10) (by have := h.2; omega)
  have h3 := g_rdy_b hN hC h.1 (s % 10 + 1) (by have := h.2; omega)
  have h4 := g_ch hC h
  have h5 := h.2
  unfold g_en g_lv
  omega
theorem g_lv_eq {s : Nat} : g_lv N C s = g_en N C s + g_min N (N 9 s) (C 2 s) := by
  unfold g_lv g_en
  rw [g_rdy, ← g_is_eq]
theorem g_rdy_mono (hN : g_WN N) (hC : g_WC N C) {t q : Nat} (ht : t < N 0 1) : ∀ p, q + p < N 8 t → g_rdy N C t q ≤ g_rdy N C t (q + p)
  | 0, _ => Nat.le_refl _
  | p + 1, h => by
    have := g_rdy_mono hN hC (q := q) ht p (by omega)
    rw [← Nat.add_assoc, g_rdy]
    omega
theorem g_en_lt (hN : g_WN N) (hC : g_WC N C) {t q p : Nat} (ht : t < N 0 1) (hp : p < N 8 t) (h : q < p) : g_en N C (10 * t + q) < g_en N C (10 * t + p) := by
  obtain ⟨hs, e1, e2, -⟩ := g_is_of hN ht (show q < N 8 t by omega)
  obtain ⟨hs', f1, f2, -⟩ := g_is_of hN ht hp
  have h1 := g_rdy_mono hN hC (q := q + 1) ht (p - (q + 1)) (by omega)
  rw [show q + 1 + (p - (q + 1)) = p by omega, g_rdy] at h1
  have h2 := g_sp_b hN hC hs
  have h3 := g_min_b hN (g_road_lt hN hs) h2.1 h2.2
  unfold g_en
  rw [e1, e2, f1, f2]
  omega
theorem g_mt_iff {s s' : Nat} : g_mt N C s s' = true ↔ N 9 s = N 9 s' ∧ g_en N C s = g_en N C s' ∧ C 2 s = C 2 s' := by
  unfold g_mt
  exact decide_eq_true_iff
theorem g_mt_refl (s : Nat) : g_mt N C s s = true := g_mt_iff.mpr ⟨rfl, rfl, rfl⟩
theorem g_mt_symm {s s' : Nat} (h : g_mt N C s s' = true) : g_mt N C s' s = true := by
  obtain ⟨a, b, c⟩ := g_mt_iff.mp h
  exact g_mt_iff.mpr ⟨a.symm, b.symm, c.symm⟩
theorem g_mt_eq {s s' : Nat} (h : g_mt N C s s' = true) (x : Nat) : g_mt N C s' x = g_mt N C s x := by
  obtain ⟨a, b, c⟩ := g_mt_iff.mp h
  unfold g_mt
  rw [a, b, c]
theorem g_pl_of (hN : g_WN N) (hC : g_WC N C) {s o q : Nat} (ho : o < N 0 1) (hq : q < N 8 o) (h : g_mt N C s (10 * o + q) = true) : g_pl N C s o = q := by
  refine g_first_eq hq h (fun j hj hp => ?_)
  have a := (g_mt_iff.mp h).2.1
  have b := (g_mt_iff.mp hp).2.1
  rcases Nat.lt_trichotomy j q with h1 | h1 | h1
  · have := g_en_lt hN hC ho hq h1
    omega
  · exact h1
  · have := g_en_lt hN hC ho hj h1
    omega
theorem g_has_iff {s o : Nat} : g_has N C s o = true ↔ g_pl N C s o < N 8 o := by
  unfold g_has
  exact decide_eq_true_iff
theorem g_has_of (hN : g_WN N) (hC : g_WC N C) {s o q : Nat} (ho : o < N 0 1) (hq : q < N 8 o) (h : g_mt N C s (10 * o + q) = true) : g_has N C s o = true ∧ g_ms N C s o = 10 * o + q := by
  have e := g_pl_of hN hC ho hq h
  exact ⟨g_has_iff.mpr (by rw [e]; exact hq), by unfold g_ms; rw [e]⟩
theorem g_has_mt {s o : Nat} (h : g_has N C s o = true) : g_mt N C s (g_ms N C s o) = true := g_first_p (p := fun q => g_mt N C s (10 * o + q)) (g_has_iff.mp h)
theorem g_ms_is (hN : g_WN N) {s o : Nat} (ho : o < N 0 1) (h : g_has N C s o = true) : g_is N (g_ms N C s o) ∧ g_ms N C s o / 10 = o ∧ g_ms N C s o % 10 = g_pl N C s o ∧ g_ms N C s o < 120 := by
  obtain ⟨a, b, c, d, -⟩ := g_is_of hN ho (g_has_iff.mp h)
  exact ⟨a, b, c, d⟩
theorem g_has_self (hN : g_WN N) (hC : g_WC N C) {s : Nat} (h : g_is N s) : g_has N C s (s / 10) = true ∧ g_ms N C s (s / 10) = s := by
  have := g_has_of hN hC (s := s) h.1 h.2 (by rw [← g_is_eq]; exact g_mt_refl s)
  rw [← g_is_eq] at this
  exact this
/-- mates have the same mates -/
theorem g_cls {s s' : Nat} (h : g_mt N C s s' = true) (o : Nat) : g_has N C s' o = g_has N C s o ∧ g_pl N C s' o = g_pl N C s o ∧ g_ms N C s' o = g_ms N C s o := by
  have e : g_pl N C s' o = g_pl N C s o := g_first_congr (fun q _ => g_mt_eq h _)
  exact ⟨by unfold g_has; rw [e], e, by unfold g_ms; rw [e]⟩
theorem g_tog_cls {s s' : Nat} (h : g_mt N C s s' = true) : g_tog N C s' = g_tog N C s := g_cnt_congr (fun o _ => (g_cls h o).1)
theorem g_mem_cls {s s' : Nat} (h : g_mt N C s s' = true) (i : Nat) : g_mem N C s' i = g_mem N C s i ∧ g_mst N C s' i = g_mst N C s i := by
  have e : g_mem N C s' i = g_mem N C s i := g_first_congr (fun o _ => by rw [(g_cls h o).1, (g_cls h o).2.2])
  exact ⟨e, by unfold g_mst; rw [e, (g_cls h _).2.2]⟩
theorem g_pos_rank (hN : g_WN N) (hC : g_WC N C) {s : Nat} (h : g_is N s) : g_pos N C s = r_rank (g_has N C s) (fun o => g_key N C (g_ms N C s o)) (N 0 1) (s / 10) := by
  refine g_cnt_congr (fun o ho => ?_)
  have hs := g_has_self hN hC h
  apply Bool.eq_iff_iff.mpr
  rw [r_bef_iff]
  unfold g_ahd
  rw [decide_eq_true_iff]
  rw [hs.2]
  constructor
  · rintro ⟨-, a, b⟩
    exact ⟨a, by omega⟩
  · rintro ⟨a, b⟩
    refine ⟨fun e2 => ?_, a, by omega⟩
    rw [e2, hs.2] at b
    omega
/-- positions in the platoon of s -/
theorem g_pos_ms (hN : g_WN N) (hC : g_WC N C) {s o : Nat} (ho : o < N 0 1) (h : g_has N C s o = true) : g_pos N C (g_ms N C s o) = r_rank (g_has N C s) (fun o => g_key N C (g_ms N C s o)) (N 0 1) o := by
  obtain ⟨a, b, -⟩ := g_ms_is hN ho h
  have hm := g_has_mt h
  rw [g_pos_rank hN hC a, b]
  have e1 : g_has N C (g_ms N C s o) = g_has N C s := funext fun x => (g_cls hm x).1
  have e2 : (fun x => g_key N C (g_ms N C (g_ms N C s o) x)) = (fun x => g_key N C (g_ms N C s x)) := funext fun x => by rw [(g_cls hm x).2.2]
  rw [e1, e2]
theorem g_pos_lt (hN : g_WN N) (hC : g_WC N C) {s : Nat} (h : g_is N s) : g_pos N C s < g_tog N C s := by
  rw [g_pos_rank hN hC h]
  exact r_lt h.1 (g_has_self hN hC h).1
theorem g_tog_b (hN : g_WN N) (s : Nat) : g_tog N C s ≤ 12 := Nat.le_trans (g_cnt_le _ _) hN.1.2
/-- the member at a position -/
theorem g_mem_at (hN : g_WN N) (hC : g_WC N C) {s i : Nat} (hi : i < g_tog N C s) : g_mem N C s i < N 0 1 ∧ g_has N C s (g_mem N C s i) = true ∧ g_pos N C (g_mst N C s i) = i ∧ g_is N (g_mst N C s i) ∧ g_mst N C s i / 10 = g_mem N C s i ∧ g_mt N C s (g_mst N C s i) = true := by
  obtain ⟨a, ha, hA, hr⟩ := r_sur (k := fun o => g_key N C (g_ms N C s o)) hi
  have h1 : g_mem N C s i ≤ a := g_first_min (p := fun o => g_has N C s o && decide (g_pos N C (g_ms N C s o) = i)) ha (by
    rw [hA, Bool.true_and, decide_eq_true_iff, g_pos_ms hN hC ha hA]
    exact hr)
  have h2 : g_mem N C s i < N 0 1 := by omega
  have h3 := g_first_p (p := fun o => g_has N C s o && decide (g_pos N C (g_ms N C s o) = i)) h2
  rw [Bool.and_eq_true, decide_eq_true_iff] at h3
  have h4 : g_has N C s (g_mem N C s i) = true := h3.1
  obtain ⟨c, d, -⟩ := g_ms_is hN h2 h4
  exact ⟨h2, h4, h3.2, c, d, g_has_mt h4⟩
theorem g_mem_eq (hN : g_WN N) (hC : g_WC N C) {s o i : Nat} (ho : o < N 0 1) (h : g_has N C s o = true) (hp : g_pos N C (g_ms N C s o) = i) : g_mem N C s i = o := by
  refine g_first_eq ho (by rw [h, Bool.true_and, decide_eq_true_iff]; exact hp) (fun j hj hq => ?_)
  rw [Bool.and_eq_true, decide_eq_true_iff] at hq
  rw [g_pos_ms hN hC ho h] at hp
  rw [g_pos_ms hN hC hj hq.1] at hq
  exact r_inj hj ho hq.1 h (hq.2.trans hp.symm)
theorem g_mem_self (hN : g_WN N) (hC : g_WC N C) {s : Nat} (h : g_is N s) : g_mem N C s (g_pos N C s) = s / 10 ∧ g_mst N C s (g_pos N C s) = s := by
  have hs := g_has_self hN hC h
  have e := g_mem_eq hN hC h.1 hs.1 (i := g_pos N C s) (by rw [hs.2])
  exact ⟨e, by unfold g_mst; rw [e, hs.2]⟩
theorem g_shf_le (N : g_F) : ∀ f s s', g_shf N f s s' ≤ f
  | 0, _, _ => Nat.le_refl _
  | f + 1, s, s' => by
    have := g_shf_le N f (s + 1) (s' + 1)
    rw [g_shf]
    split
    · split <;> omega
    · omega
theorem g_key_b (s : Nat) : g_key N C s ≤ 10 := g_mx_le (fun o _ => by
  split
  · exact g_shf_le N 10 _ _
  · omega)
theorem g_share_b (d : Nat) : g_share d ≤ 150 := by
  unfold g_share
  split <;> omega
theorem g_base_b {s : Nat} (hN : g_WN N) (hC : g_WC N C) (h : g_is N s) : g_base N C s ≤ 153000 := by
  have h1 := (hN.2.1 _ (g_road_lt hN h)).2.2
  have h2 := g_sp_b hN hC h
  unfold g_base
  have h3 : C 2 s * C 2 s ≤ 120 * 120 := Nat.mul_le_mul h2.2 h2.2
  have h4 : C 2 s * C 2 s / 40 ≤ 360 := by omega
  have h5 : N 3 (N 9 s) * (150 + C 2 s * C 2 s / 40) ≤ 300 * 510 := Nat.mul_le_mul h1.2.1 (by omega)
  omega
theorem g_sav_b {s : Nat} (hN : g_WN N) (hC : g_WC N C) (h : g_is N s) : g_sav N C s ≤ g_base N C s ∧ g_sav N C s ≤ 153000 := by
  have hb := g_base_b hN hC h
  have key : ∀ x, x ≤ 150 → g_base N C s * x / 1000 ≤ g_base N C s := fun x hx => by
    have : g_base N C s * x ≤ g_base N C s * 150 := Nat.mul_le_mul_left _ hx
    omega
  have h1 : g_sav N C s ≤ g_base N C s := by
    unfold g_sav
    split
    · split
      · exact key _ (by have := g_share_b (g_gap2 N (g_mem N C s 1) (g_mem N C s 0)); omega)
      · omega
    · exact key _ (g_share_b _)
  omega
end GN
