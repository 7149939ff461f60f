/-! two trucks merged: the choices behind it, and the class's try -/
def g_mrL (C : g_F) (s m d1 d2 L : Nat) : g_F := fun k i =>
  if k = 1 then (if s ≤ i ∧ i < s + L then (if i = s then d1 else 0) else if m ≤ i ∧ i < m + L then (if i = m then d2 else 0) else C 1 i)
  else if k = 2 then (if s ≤ i ∧ i < s + L then min (C 2 i) (C 2 (m + (i - s))) else if m ≤ i ∧ i < m + L then min (C 2 (s + (i - m))) (C 2 i) else C 2 i)
  else C k i
theorem g_mrL_0 (C : g_F) (s m d1 d2 L i : Nat) : g_mrL C s m d1 d2 L 0 i = C 0 i := rfl
theorem g_mrL_1 (C : g_F) (s m d1 d2 L i : Nat) : g_mrL C s m d1 d2 L 1 i = if s ≤ i ∧ i < s + L then (if i = s then d1 else 0) else if m ≤ i ∧ i < m + L then (if i = m then d2 else 0) else C 1 i := rfl
theorem g_mrL_2 (C : g_F) (s m d1 d2 L i : Nat) : g_mrL C s m d1 d2 L 2 i = if s ≤ i ∧ i < s + L then min (C 2 i) (C 2 (m + (i - s))) else if m ≤ i ∧ i < m + L then min (C 2 (s + (i - m))) (C 2 i) else C 2 i := rfl
section ML2
variable {C : g_F} {s m d1 d2 L k : Nat}
theorem g_mrL_st (j : Nat) {x : Nat} (h1 : x ≠ s + k) (h2 : x ≠ m + k) : g_mrL C s m d1 d2 (k + 1) j x = g_mrL C s m d1 d2 k j x := by
  by_cases e1 : j = 1
  · subst e1
    rw [g_mrL_1, g_mrL_1]
    by_cases a : s ≤ x ∧ x < s + k
    · rw [if_pos (by omega), if_pos a]
    · rw [if_neg (by omega), if_neg a]
      by_cases b : m ≤ x ∧ x < m + k
      · rw [if_pos (by omega), if_pos b]
      · rw [if_neg (by omega), if_neg b]
  · by_cases e2 : j = 2
    · subst e2
      rw [g_mrL_2, g_mrL_2]
      by_cases a : s ≤ x ∧ x < s + k
      · rw [if_pos (by omega), if_pos a]
      · rw [if_neg (by omega), if_neg a]
        by_cases b : m ≤ x ∧ x < m + k
        · rw [if_pos (by omega), if_pos b]
        · rw [if_neg (by omega), if_neg b]
    · unfold g_mrL
      rw [if_neg e1, if_neg e2, if_neg e1, if_neg e2]
theorem g_mrL_w1 : g_mrL C s m d1 d2 (k + 1) 1 (s + k) = if k = 0 then d1 else 0 := by
  rw [g_mrL_1, if_pos (by omega)]
  by_cases z : k = 0
  · rw [if_pos (by omega), if_pos z]
  · rw [if_neg (by omega), if_neg z]
theorem g_mrL_w2 (hd : s + L ≤ m ∨ m + L ≤ s) (hk : k < L) : g_mrL C s m d1 d2 (k + 1) 1 (m + k) = if k = 0 then d2 else 0 := by
  rw [g_mrL_1, if_neg (by omega), if_pos (by omega)]
  by_cases z : k = 0
  · rw [if_pos (by omega), if_pos z]
  · rw [if_neg (by omega), if_neg z]
theorem g_mrL_v1 : g_mrL C s m d1 d2 (k + 1) 2 (s + k) = min (C 2 (s + k)) (C 2 (m + k)) := by
  rw [g_mrL_2, if_pos (by omega), show m + (s + k - s) = m + k by omega]
theorem g_mrL_v2 (hd : s + L ≤ m ∨ m + L ≤ s) (hk : k < L) : g_mrL C s m d1 d2 (k + 1) 2 (m + k) = min (C 2 (s + k)) (C 2 (m + k)) := by
  rw [g_mrL_2, if_neg (by omega), if_pos (by omega), show s + (m + k - m) = s + k by omega]
theorem g_mrL_o1 (hd : s + L ≤ m ∨ m + L ≤ s) (hk : k < L) : g_mrL C s m d1 d2 k 2 (s + k) = C 2 (s + k) := by
  rw [g_mrL_2, if_neg (by omega), if_neg (by omega)]
theorem g_mrL_o2 (hd : s + L ≤ m ∨ m + L ≤ s) (hk : k < L) : g_mrL C s m d1 d2 k 2 (m + k) = C 2 (m + k) := by
  rw [g_mrL_2, if_neg (by omega), if_neg (by omega)]
theorem g_mrL_none (j x : Nat) : g_mrL C s m d1 d2 0 j x = C j x := by
  by_cases e1 : j = 1
  · subst e1
    rw [g_mrL_1, if_neg (by omega), if_neg (by omega)]
  · by_cases e2 : j = 2
    · subst e2
      rw [g_mrL_2, if_neg (by omega), if_neg (by omega)]
    · unfold g_mrL
      rw [if_neg e1, if_neg e2]
end ML2
/-- the two first stops of a run, and the waits there -/
def g_ms1 (N : g_F) (t o : Nat) : Nat := 10 * t + g_rp1 N t o
def g_ms2 (N : g_F) (t o : Nat) : Nat := 10 * o + g_rp2 N t o
def g_q1 (N C : g_F) (t o : Nat) : Nat := g_rdy N C t (g_rp1 N t o)
def g_q2 (N C : g_F) (t o : Nat) : Nat := g_rdy N C o (g_rp2 N t o)
/-- the choices behind merging -/
def g_mrg (N C : g_F) (t o : Nat) : g_F := g_mrL C (g_ms1 N t o) (g_ms2 N t o) (g_q2 N C t o - g_q1 N C t o) (g_q1 N C t o - g_q2 N C t o) (g_rlen N t o)
/-- why two can't be merged -/
def g_rsn (N C : g_F) (t o : Nat) : Nat := if t = o then 1 else if ¬ g_rp1 N t o < N 8 t then 2 else if ¬ (g_q2 N C t o - g_q1 N C t o ≤ 120 ∧ g_q1 N C t o - g_q2 N C t o ≤ 120) then 3 else if ¬ g_late N C t = true ∧ g_late N (g_mrg N C t o) t = true then 4 else if ¬ g_late N C o = true ∧ g_late N (g_mrg N C t o) o = true then 5 else 0
theorem g_shf_in {N : g_F} (hN : g_WN N) : ∀ f s s', g_is N s → g_is N s' → s % 10 + g_shf N f s s' ≤ N 8 (s / 10) ∧ s' % 10 + g_shf N f s s' ≤ N 8 (s' / 10)
  | 0, s, s', hs, hs' => by
    have h1 := hs.2
    have h2 := hs'.2
    rw [g_shf]
    omega
  | f + 1, s, s', hs, hs' => by
    have h1 := hs.2
    have h2 := hs'.2
    rw [g_shf]
    split
    · split
      · rename_i h
        obtain ⟨a1, a2, a3⟩ := g_shf_stop (c := 1) hN hs h.1
        obtain ⟨b1, b2, b3⟩ := g_shf_stop (c := 1) hN hs' h.2
        have ih := g_shf_in hN f (s + 1) (s' + 1) a3 b3
        rw [a1, a2, b1, b2] at ih
        omega
      · omega
    · omega
section MG
variable {N C : g_F} {t o : Nat}
theorem g_run_in (hN : g_WN N) (ht : t < N 0 1) (ho : o < N 0 1) (z : g_rp1 N t o < N 8 t) : g_rp1 N t o + g_rlen N t o ≤ N 8 t ∧ g_rp2 N t o + g_rlen N t o ≤ N 8 o ∧ g_rp2 N t o < N 8 o ∧ 0 < g_rlen N t o := by
  have h2 := g_rp2_lt z
  obtain ⟨hs, e1, e2, -⟩ := g_is_of hN ht z
  obtain ⟨hm, f1, f2, -⟩ := g_is_of hN ho h2
  have h := g_shf_in hN 10 _ _ hs hm
  rw [e1, e2, f1, f2] at h
  exact ⟨h.1, h.2, h2, g_rlen_pos z⟩
theorem g_run_dj (hN : g_WN N) (ht : t < N 0 1) (ho : o < N 0 1) (z : g_rp1 N t o < N 8 t) (hne : t ≠ o) : g_ms1 N t o + g_rlen N t o ≤ g_ms2 N t o ∨ g_ms2 N t o + g_rlen N t o ≤ g_ms1 N t o := by
  obtain ⟨h1, h2, -⟩ := g_run_in hN ht ho z
  have a := (hN.2.2.1 t ht).2.2.2.2.2
  have b := (hN.2.2.1 o ho).2.2.2.2.2
  unfold g_ms1 g_ms2
  omega
theorem g_WC.mrg (hN : g_WN N) (hW : g_WC N C) (ht : t < N 0 1) (ho : o < N 0 1) (z : g_rp1 N t o < N 8 t) (hne : t ≠ o) (h : g_q2 N C t o - g_q1 N C t o ≤ 120 ∧ g_q1 N C t o - g_q2 N C t o ≤ 120) : g_WC N (g_mrg N C t o) := by
  obtain ⟨h1, h2, h3, h4⟩ := g_run_in hN ht ho z
  have a := (hN.2.2.1 t ht).2.2.2.2.2
  have b := (hN.2.2.1 o ho).2.2.2.2.2
  refine ⟨fun x hx => hW.1 x hx, fun x q hx hq => ?_⟩
  obtain ⟨c1, c2, c3⟩ := hW.2 x q hx hq
  have sp : ∀ i, g_is N i → 40 ≤ C 2 i := fun i hi => (g_ch hW hi).2.1
  unfold g_mrg
  rw [g_mrL_1, g_mrL_2]
  refine ⟨?_, ?_, ?_⟩
  · repeat' split
    all_goals omega
  · split
    · rename_i g
      have := sp (g_ms2 N t o + (10 * x + q - g_ms1 N t o)) (by
        unfold g_ms1 g_ms2 at *
        have := (g_is_of hN ho (q := g_rp2 N t o + (10 * x + q - (10 * t + g_rp1 N t o))) (by omega)).1
        rw [← Nat.add_assoc] at this
        exact this)
      omega
    · split
      · rename_i g0 g
        have := sp (g_ms1 N t o + (10 * x + q - g_ms2 N t o)) (by
          unfold g_ms1 g_ms2 at *
          have := (g_is_of hN ht (q := g_rp1 N t o + (10 * x + q - (10 * o + g_rp2 N t o))) (by omega)).1
          rw [← Nat.add_assoc] at this
          exact this)
        omega
      · exact c2
  · split
    · omega
    · split
      · omega
      · exact c3
end MG
/-! differences of small ints -/
theorem e_dif {p q : Nat} (hp : p < 1000000) (hq : q < 1000000) : (nI p - nI q : Int32).toInt = (p : Int) - q := by
  rw [Int32.toInt_sub, nI_toInt (by omega), nI_toInt (by omega)]
  exact Int.bmod_eq_of_le (by omega) (by omega)
theorem e_dpos {p q : Nat} (hp : p < 1000000) (hq : q < 1000000) : (if (nI p - nI q : Int32) < 0 then 0 else nI p - nI q) = nI (p - q) := by
  by_cases z : q ≤ p
  · rw [nI_sub z, if_neg (nI_neg (by omega))]
  · rw [if_pos (by
      rw [Int32.lt_iff_toInt_lt, e_dif hp hq, show (0 : Int32).toInt = 0 from by decide]
      omega), show p - q = 0 by omega]
    rfl
theorem e_dneg (p q : Nat) : -(nI p - nI q : Int32) = nI q - nI p := Int32.neg_sub
theorem e_dabs {p q : Nat} (hp : p < 1000000) (hq : q < 1000000) : ((if 0 ≤ (nI p - nI q : Int32) then nI p - nI q else 0 - (nI p - nI q)) ≤ 120) ↔ (p - q ≤ 120 ∧ q - p ≤ 120) := by
  by_cases z : q ≤ p
  · rw [nI_sub z, if_pos (nI_pos' (by omega)), show (120 : Int32) = nI 120 from rfl, nI_leI (by omega) (by omega)]
    omega
  · rw [if_neg (by
      rw [Int32.le_iff_toInt_le, e_dif hp hq, show (0 : Int32).toInt = 0 from by decide]
      omega), show (0 - (nI p - nI q) : Int32) = nI (q - p) from by
      rw [Int32.zero_sub, e_dneg, nI_sub (by omega)], show (120 : Int32) = nI 120 from rfl, nI_leI (by omega) (by omega)]
    omega
section AT
variable {N C : g_F} {w : Nat → Nat} {σ : x_S} {τ : x_L}
/-- what a try of merging may change -/
def x_tr (σ σ' : x_S) : Prop := ∀ z, z < 46 ∨ 59 < z → σ' z = σ z
theorem x_tr.fq {σ σ' : x_S} (h : x_tr σ σ') : x_fq σ σ' := ⟨fun z hz => h z (by omega), fun i _ => by rw [h 1 (by omega)]⟩
theorem x_tr.tr {σ σ1 σ2 : x_S} (h1 : x_tr σ σ1) (h2 : x_tr σ1 σ2) : x_tr σ σ2 := fun z hz => (h2 z hz).trans (h1 z hz)
theorem g_X.tr (h : g_X N C w σ τ) {σ' : x_S} (f : x_tr σ σ') : g_X N C w σ' τ := h.fq f.fq rfl
theorem sX_copyT (hN : g_WN N) {a b : Nat} (hab : a = 33 ∧ b = 46 ∨ a = 46 ∧ b = 33) (hC : f_C N C a σ) (hw : f_W a (g_bg N (N 0 0)) w σ) {Q : x_S → x_L → Prop} (h : ∀ σ' : x_S, (∀ z, z ≠ b + 1 → z ≠ b + 2 → z ≠ b + 3 → z ≠ b + 6 → σ' z = σ z) → f_C N C b σ' → f_W b (g_bg N (N 0 0)) w σ' → Q σ' τ) : wX6_copyChoices b a σ τ Q := by
  have hbg := g_bg_b N (N 0 0)
  unfold wX6_copyChoices
  simp only [e_c0, e_c12, e_c120]
  refine h _ (fun z h1 h2 h3 h4 => by rw [x_cp_n h4, x_cp_n h3, x_cp_n h2, x_cp_n h1]) ⟨fun t ht => ?_, fun s hs => ?_⟩ (fun i hi => ?_)
  · have := g_is_b12 hN ht
    rw [x_cp_n (by omega), x_cp_n (by omega), x_cp_n (by omega), x_cp_i, if_pos (by omega), show 0 + (t - 0) = t by omega]
    exact hC.1 t ht
  · have := g_is_lt hN hs
    constructor
    · rw [x_cp_n (show b + 2 ≠ b + 6 by omega), x_cp_n (show b + 2 ≠ b + 3 by omega), x_cp_i, if_pos (by omega), x_cp_n (by omega), show 0 + (s - 0) = s by omega]
      exact (hC.2 s hs).1
    · rw [x_cp_n (show b + 3 ≠ b + 6 by omega), x_cp_i, if_pos (by omega), x_cp_n (by omega), x_cp_n (by omega), show 0 + (s - 0) = s by omega]
      exact (hC.2 s hs).2
  · rw [x_cp_i, if_pos (by omega), x_cp_n (by omega), x_cp_n (by omega), x_cp_n (by omega), show 0 + (i - 0) = i by omega]
    exact hw i hi
theorem sX_drive (hN : g_WN N) {s m L p q : Nat} (hp : p < 1000000) (hq : q < 1000000) (hs : s + L ≤ 120) (hm : m + L ≤ 120) (hL : 0 < L) (hd : s + L ≤ m ∨ m + L ≤ s) (his : ∀ k, k < L → g_is N (s + k) ∧ g_is N (m + k)) (hB : ∀ k, k < L → C 2 (s + k) < 1000 ∧ C 2 (m + k) < 1000) (hC : f_C N C 46 σ) (hl : σ 59 6 = nI L) {Q : x_S → x_L → Prop} (h : ∀ σ' : x_S, (∀ z, z ≠ 48 → z ≠ 49 → σ' z = σ z) → f_C N (g_mrL C s m (p - q) (q - p) L) 46 σ' → Q σ' τ) : wX4_drive (nI s) (nI m) (nI p - nI q) σ τ Q := by
  unfold wX4_drive
  refine x_S4 (fun k σ' τ' => τ = τ' ∧ (∀ z, z ≠ 48 → z ≠ 49 → σ' z = σ z) ∧ f_C N (g_mrL C s m 0 0 k) 46 σ') (fun _ => nI s) (fun _ => nI m) (fun _ => nI p - nI q) (fun k => nI k) (lo := 0) (n := L) (Nat.zero_le _) ?_ ?_ ⟨rfl, fun _ _ _ => rfl, ⟨fun t ht => hC.1 t ht, fun x hx => by rw [g_mrL_none, g_mrL_none]; exact hC.2 x hx⟩⟩ rfl rfl rfl rfl
  · rintro K k σ1 τ' - hk ⟨rfl, f, g⟩ hK
    obtain ⟨i1, i2⟩ := his k hk
    have v1 := (g.2 _ i1).2
    have v2 := (g.2 _ i2).2
    rw [g_mrL_o1 hd hk] at v1
    rw [g_mrL_o2 hd hk] at v2
    obtain ⟨y1, y2⟩ := hB k hk
    have hsm : s + k ≠ m + k := by omega
    unfold wX4_drive_3
    rw [f 59 (by omega) (by omega), hl]
    refine i_le (by omega) (by omega) (fun g => absurd g (by omega)) (fun _ => ?_)
    rw [nI_add, nI_add, i_cl (by omega), i_cl (by omega), show σ1 49 (s + k) = _ from v1, show σ1 49 (m + k) = _ from v2, show (nI k + 1 : Int32) = nI (k + 1) from nI_add k 1, nI_min (show C 2 (s + k) < 2 ^ 31 by omega) (show C 2 (m + k) < 2 ^ 31 by omega)]
    refine ⟨i_in (by omega) (by omega), i_in (by omega) (by omega), hK _ _ ⟨rfl, fun z z1 z2 => by rw [x_up_n z1, x_up_n z1, x_up_n z2, x_up_n z2]; exact f z z1 z2, ⟨fun t ht => ?_, fun x hx => ?_⟩⟩⟩
    · rw [x_up_n (by omega), x_up_n (by omega), x_up_n (by omega), x_up_n (by omega)]
      exact g.1 t ht
    · have hx0 := g.2 x hx
      by_cases c1 : x = s + k
      · subst c1
        rw [g_mrL_w1, g_mrL_v1, x_up_sn hsm, x_up_ss, x_up_n (show (46 + 3 : Nat) ≠ 48 by omega), x_up_n (show (46 + 3 : Nat) ≠ 48 by omega), x_up_sn hsm, x_up_ss]
        exact ⟨by split <;> rfl, rfl⟩
      · by_cases c2 : x = m + k
        · subst c2
          rw [g_mrL_w2 hd hk, g_mrL_v2 hd hk, x_up_ss, x_up_n (show (46 + 3 : Nat) ≠ 48 by omega), x_up_n (show (46 + 3 : Nat) ≠ 48 by omega), x_up_ss]
          exact ⟨by split <;> rfl, rfl⟩
        · rw [g_mrL_st 1 c1 c2, g_mrL_st 2 c1 c2, x_up_sn c2, x_up_sn c1, x_up_n (show (46 + 2 : Nat) ≠ 49 by omega), x_up_n (show (46 + 2 : Nat) ≠ 49 by omega), x_up_n (show (46 + 3 : Nat) ≠ 48 by omega), x_up_n (show (46 + 3 : Nat) ≠ 48 by omega), x_up_sn c2, x_up_sn c1]
          exact hx0
  · rintro K σ1 τ' ⟨rfl, f, g⟩
    unfold wX4_drive_3
    rw [f 59 (by omega) (by omega), hl, e_dpos hp hq, e_dneg, e_dpos hq hp, i_cl (by omega), i_cl (by omega)]
    refine i_le (by omega) (by omega) (fun _ => ⟨i_in (by omega) (by omega), i_in (by omega) (by omega), h _ (fun z z1 z2 => by rw [x_up_n z1, x_up_n z1]; exact f z z1 z2) ⟨fun t ht => ?_, fun x hx => ?_⟩⟩) (fun g => absurd g (by omega))
    · rw [x_up_n (by omega), x_up_n (by omega)]
      exact g.1 t ht
    · obtain ⟨g1, g2⟩ := g.2 x hx
      rw [x_up_n (show (46 + 3 : Nat) ≠ 48 by omega), x_up_n (show (46 + 3 : Nat) ≠ 48 by omega)]
      refine ⟨?_, g2⟩
      rw [g_mrL_1] at g1 ⊢
      by_cases c2 : x = m
      · subst c2
        rw [x_up_ss, if_neg (by omega), if_pos (by omega), if_pos rfl]
      · rw [x_up_sn c2]
        by_cases c1 : x = s
        · subst c1
          rw [x_up_ss, if_pos (by omega), if_pos rfl]
        · rw [x_up_sn c1]
          rw [if_neg c1, if_neg c2] at g1 ⊢
          exact g1
/-- the class's try: the reason, and the other plan behind it -/
theorem sX_attempt (hX : g_X N C w σ τ) {t o : Nat} (ht : t < N 0 1) (ho : o < N 0 1) {Q : Int32 → x_S → x_L → Prop}
    (h : ∀ σ' : x_S, x_tr σ σ' → (g_rsn N C t o = 0 → f_C N (g_mrg N C t o) 46 σ' ∧ f_W 46 (g_bg N (N 0 0)) w σ' ∧ σ' 59 6 = nI (g_rlen N t o) ∧ g_WC N (g_mrg N C t o)) → Q (nI (g_rsn N C t o)) σ' τ) : wX4_attempt (nI t) (nI o) σ τ Q := by
  obtain ⟨hN, hW, hF, hR, hC, hA, hB⟩ := id hX
  have hb := hN.1.2
  have h10 := (hN.2.2.1 t ht).2.2.2.2
  have h10o := (hN.2.2.1 o ho).2.2.2.2
  unfold wX4_attempt wX4_attempt_131 wX4_attempt_157 wX4_attempt_158
  refine i_ne (by omega) (by omega) (fun hne => ?_) (fun he => ?_)
  · refine sX_findRun hN hF hR ht ho (fun z σ1 f1 e4 e5 e6 => ?_) (fun z σ1 f1 e4 e5 e6 => ?_)
    · obtain ⟨r1, r2, r3, r4⟩ := g_run_in hN ht ho z
      have dj := g_run_dj hN ht ho z hne
      have rb := g_rlen_b N t o
      have tr1 : x_tr σ σ1 := fun y hy => f1 y (by omega)
      obtain ⟨-, -, hF1, hR1, hC1, hA1, -⟩ := hX.tr tr1
      have q1b := g_rdy_b hN hW ht (g_rp1 N t o) (by omega)
      have q2b := g_rdy_b hN hW ho (g_rp2 N t o) (by omega)
      rw [e6, e5]
      refine i_ne (b := 0) (by omega) (by omega) (fun _ => ?_) (fun g => absurd g (by omega))
      refine sX_ready hN hC1 hA1.1 ho r3 ?_
      rw [e4]
      refine sX_ready hN hC1 hA1.1 ht z ?_
      have hp : g_rdy N C o (g_rp2 N t o) < 1000000 := by omega
      have hq : g_rdy N C t (g_rp1 N t o) < 1000000 := by omega
      refine ⟨fun g => ?_, fun g => ?_⟩
      · have g2 := (e_dabs hp hq).mp g
        have hWm : g_WC N (g_mrg N C t o) := g_WC.mrg hN hW ht ho z hne g2
        refine sX_copyT hN (Or.inl ⟨rfl, rfl⟩) hC1 hA1.2.1 (fun σ2 f2 hC2 hw2 => ?_)
        have e42 : σ2 59 4 = nI (g_rp1 N t o) := by rw [f2 59 (by omega) (by omega) (by omega) (by omega)]; exact e4
        have e52 : σ2 59 5 = nI (g_rp2 N t o) := by rw [f2 59 (by omega) (by omega) (by omega) (by omega)]; exact e5
        have e62 : σ2 59 6 = nI (g_rlen N t o) := by rw [f2 59 (by omega) (by omega) (by omega) (by omega)]; exact e6
        rw [e42]
        refine sX_stopAt ?_
        rw [e52]
        refine sX_stopAt ?_
        have s1 := (g_is_of hN ht z).2.2.2.1
        have s2 := (g_is_of hN ho r3).2.2.2.1
        refine sX_drive hN hp hq (s := g_ms1 N t o) (m := g_ms2 N t o) (L := g_rlen N t o) (by unfold g_ms1; omega) (by unfold g_ms2; omega) r4 dj (fun k hk => ?_) (fun k hk => ?_) hC2 e62 (fun σ3 f3 hC3 => ?_)
        · have a1 := (g_is_of hN ht (q := g_rp1 N t o + k) (by omega)).1
          have a2 := (g_is_of hN ho (q := g_rp2 N t o + k) (by omega)).1
          rw [← Nat.add_assoc] at a1 a2
          exact ⟨a1, a2⟩
        · have a1 := (g_is_of hN ht (q := g_rp1 N t o + k) (by omega)).1
          have a2 := (g_is_of hN ho (q := g_rp2 N t o + k) (by omega)).1
          rw [← Nat.add_assoc] at a1 a2
          have v1 := (g_sp_b hN hW a1).2
          have v2 := (g_sp_b hN hW a2).2
          exact ⟨by unfold g_ms1; omega, by unfold g_ms2; omega⟩
        have hC3 : f_C N (g_mrg N C t o) 46 σ3 := hC3
        have tr3 : x_tr σ σ3 := fun y hy => by rw [f3 y (by omega) (by omega), f2 y (by omega) (by omega) (by omega) (by omega), f1 y (by omega)]
        obtain ⟨-, -, hF3, hR3, -, -, -⟩ := hX.tr tr3
        refine sX_setTimes (by omega) hN hWm hF3 hR3 hC3 ht (fun σ4 f4 g4 k4 => ?_)
        have tr4 : x_tr σ σ4 := fun y hy => by rw [f4 y (by omega) (by omega)]; exact tr3 y hy
        obtain ⟨-, -, hF4, hR4, -, -, -⟩ := hX.tr tr4
        have hC4 := hC3.cong (σ' := σ4) (fun y hy => f4 y (by omega) (by omega))
        refine sX_setTimes (by omega) hN hWm hF4 hR4 hC4 ho (fun σ5 f5 g5 k5 => ?_)
        have tr5 : x_tr σ σ5 := fun y hy => by rw [f5 y (by omega) (by omega)]; exact tr4 y hy
        have hX5 := hX.tr tr5
        obtain ⟨-, -, hF5, hR5, -, -, -⟩ := id hX5
        have la : σ5 (46 + 5) (10 * t + (N 8 t - 1)) = nI (g_arr N (g_mrg N C t o) t) := by
          rw [(k5 _ (show (10 * t + (N 8 t - 1)) / 10 ≠ o by omega)).2]
          exact (g4 (N 8 t - 1) (by omega)).2
        have lb : σ5 (46 + 5) (10 * o + (N 8 o - 1)) = nI (g_arr N (g_mrg N C t o) o) := (g5 (N 8 o - 1) (by omega)).2
        have post : f_C N (g_mrg N C t o) 46 σ5 ∧ f_W 46 (g_bg N (N 0 0)) w σ5 ∧ σ5 59 6 = nI (g_rlen N t o) ∧ g_WC N (g_mrg N C t o) := by
          refine ⟨hC4.cong (fun y hy => f5 y (by omega) (by omega)), fun i hi => ?_, ?_, hWm⟩
          · rw [f5 _ (by omega) (by omega), f4 _ (by omega) (by omega), f3 _ (by omega) (by omega)]
            exact hw2 i hi
          · rw [f5 _ (by omega) (by omega), f4 _ (by omega) (by omega), f3 _ (by omega) (by omega)]
            exact e62
        have hr := h σ5 tr5
        unfold g_rsn at hr
        rw [if_neg hne, if_neg (fun y => y z), if_neg (fun y => y g2)] at hr
        have second : (¬ (¬ g_late N C t = true ∧ g_late N (g_mrg N C t o) t = true)) → wX6_isLate 46 (nI o) σ5 τ (fun r136 σ136 τ136 => (r136 = 0 → Q 0 σ136 τ136) ∧ (¬ r136 = 0 → wX6_isLate 33 (nI o) σ136 τ136 (fun r147 σ147 τ147 => (¬ r147 = 0 → Q 0 σ147 τ147) ∧ (r147 = 0 → Q 5 σ147 τ147)))) := fun y => by
          rw [if_neg y] at hr
          refine sX_isLate hN hWm hF5 hR5 ho lb (fun l1 => i_one' (sX_isLate hN hW hF5 hR5 ho (g_arr_at hX5 ho) (fun l2 => i_one ?_) (fun l2 => i_zer' ?_))) (fun l1 => i_zer ?_)
          · rw [if_neg (fun x => x.1 l2)] at hr
            exact hr (fun _ => post)
          · rw [if_pos ⟨l2, l1⟩] at hr
            exact hr (fun x => absurd x (by decide))
          · rw [if_neg (fun x => l1 x.2)] at hr
            exact hr (fun _ => post)
        refine sX_isLate hN hWm hF5 hR5 ht la (fun l1 => i_one' (sX_isLate hN hW hF5 hR5 ht (g_arr_at hX5 ht) (fun l2 => i_one (second (fun x => x.1 l2))) (fun l2 => i_zer' ?_))) (fun l1 => i_zer (second (fun x => l1 x.2)))
        rw [if_pos ⟨l2, l1⟩] at hr
        exact hr (fun x => absurd x (by decide))
      · have g2 : ¬ (g_q2 N C t o - g_q1 N C t o ≤ 120 ∧ g_q1 N C t o - g_q2 N C t o ≤ 120) := fun y => g ((e_dabs hp hq).mpr y)
        have hr := h σ1 tr1
        unfold g_rsn at hr
        rw [if_neg hne, if_neg (fun y => y z), if_pos g2] at hr
        exact hr (fun y => absurd y (by decide))
    · have tr1 : x_tr σ σ1 := fun y hy => f1 y (by omega)
      have hr := h σ1 tr1
      unfold g_rsn at hr
      rw [if_neg hne, if_pos z] at hr
      rw [e6]
      exact i_zer' (hr (fun y => absurd y (by decide)))
  · have hr := h σ (fun _ _ => rfl)
    unfold g_rsn at hr
    rw [if_pos he] at hr
    exact hr (fun y => absurd y (by decide))
end AT
