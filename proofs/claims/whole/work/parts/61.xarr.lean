/-! the class arranges a plan -/
/-- how many platoons of its road come ahead of the one of a stop -/
def g_num (N C : g_F) (s : Nat) : Nat := g_cnt (fun x => decide ((x / 10 < N 0 1 ∧ x % 10 < N 8 (x / 10)) ∧ N 9 x = N 9 s ∧ g_pos N C x = 0 ∧ (g_en N C x < g_en N C s ∨ g_en N C x = g_en N C s ∧ C 2 x < C 2 s))) 120
/-- a row's platoons on a road, up to the k-th -/
def g_O (N C : g_F) (w : Nat → Nat) (r k : Nat) (e : Nat → Nat) : Prop := e 0 = g_bg N r ∧ ∀ j, j < k → g_G N C w (e j) (e (j + 1)) ∧ g_srt (g_akey N C) w (e j) (e (j + 1)) ∧ ∀ i, e j ≤ i → i < e (j + 1) → g_num N C (w i) = j
def f_K (N C : g_F) (b x : Nat) (σ : x_S) : Prop := σ (b + 9) x = nI (g_key N C x) ∧ f_P N C b (g_num N C x) x σ
theorem g_bg_at {N : g_F} {i : Nat} {R : Nat} (h : i < g_bg N R) : ∃ r, r < R ∧ g_bg N r ≤ i ∧ i < g_bg N (r + 1) := by
  induction R with
  | zero =>
    rw [g_bg_0] at h
    exact absurd h (Nat.not_lt_zero _)
  | succ R ih =>
    by_cases z : i < g_bg N R
    · obtain ⟨r, h1, h2⟩ := ih z
      exact ⟨r, by omega, h2⟩
    · exact ⟨R, by omega, by omega, h⟩
theorem g_sum_split (f : Nat → Nat) (a : Nat) : ∀ c, g_sum f (a + c) = g_sum f a + g_sum (fun j => f (a + j)) c
  | 0 => rfl
  | c + 1 => by
    rw [← Nat.add_assoc, g_sum, g_sum, g_sum_split f a c]
    omega
theorem g_E.inj {N : g_F} {w : Nat → Nat} (h : g_E N w) {i j : Nat} (hi : i < g_bg N (N 0 0)) (hj : j < g_bg N (N 0 0)) (e : w i = w j) : i = j := by
  obtain ⟨r, a1, a2, a3⟩ := g_bg_at hi
  obtain ⟨r', b1, b2, b3⟩ := g_bg_at hj
  have x1 := (h.1 r i a1 a2 a3).2
  have x2 := (h.1 r' j b1 b2 b3).2
  have : r' = r := by rw [← x1, ← x2, e]
  subst this
  exact h.2.2 r' i j a1 a2 a3 b2 b3 e
theorem g_E.is {N : g_F} {w : Nat → Nat} (h : g_E N w) {i : Nat} (hi : i < g_bg N (N 0 0)) : g_is N (w i) := by
  obtain ⟨r, a1, a2, a3⟩ := g_bg_at hi
  exact (h.1 r i a1 a2 a3).1
theorem g_E.ex {N : g_F} {w : Nat → Nat} (hN : g_WN N) (h : g_E N w) {s : Nat} (hs : g_is N s) : ∃ i, i < g_bg N (N 0 0) ∧ w i = s := by
  obtain ⟨i, h1, h2, h3⟩ := h.2.1 s hs
  have := g_bg_mono N (show N 9 s + 1 ≤ N 0 0 from g_road_lt hN hs)
  exact ⟨i, by omega, h3⟩
theorem g_G.cong {N C : g_F} {w w' : Nat → Nat} {lo hi : Nat} (h : g_G N C w lo hi) (e : ∀ i, lo ≤ i → i < hi → w' i = w i) : g_G N C w' lo hi := by
  obtain ⟨h1, h2, h3, h4⟩ := h
  rw [← e lo (Nat.le_refl _) h1] at h2 h3
  refine ⟨h1, fun i a b => by rw [e i a b]; exact h2 i a b, fun s hs hm => ?_, fun i j a b c d q => ?_⟩
  · obtain ⟨i, a, b, c⟩ := h3 s hs hm
    exact ⟨i, a, b, by rw [e i a b]; exact c⟩
  · rw [e i a b, e j c d] at q
    exact h4 i j a b c d q
theorem g_srt.cong {lt : Nat → Nat → Prop} {w w' : Nat → Nat} {lo hi : Nat} (h : g_srt lt w lo hi) (e : ∀ i, lo ≤ i → i < hi → w' i = w i) : g_srt lt w' lo hi := fun i j a b c => by
  rw [e i a (by omega), e j (by omega) c]
  exact h i j a b c
theorem g_O.le {N C : g_F} {w e : Nat → Nat} {r k : Nat} (h : g_O N C w r k e) {j : Nat} (hj : j ≤ k) : ∀ {i : Nat}, i ≤ j → e i ≤ e j := by
  induction j with
  | zero =>
    intro i hi
    have : i = 0 := by omega
    rw [this]
    exact Nat.le_refl _
  | succ j ih =>
    intro i hi
    by_cases z : i = j + 1
    · rw [z]
      exact Nat.le_refl _
    · have h1 := ih (by omega) (show i ≤ j by omega)
      have h2 := (h.2 j (by omega)).1.1
      omega
theorem g_O.cong {N C : g_F} {w w' e : Nat → Nat} {r k : Nat} (h : g_O N C w r k e) (q : ∀ i, g_bg N r ≤ i → i < e k → w' i = w i) : g_O N C w' r k e := by
  refine ⟨h.1, fun j hj => ?_⟩
  obtain ⟨a, b, c⟩ := h.2 j hj
  have hl : ∀ i, e j ≤ i → i < e (j + 1) → w' i = w i := fun i h1 h2 => q i (by
    have := h.le (show j ≤ k by omega) (Nat.zero_le j)
    rw [h.1] at this
    omega) (by
    have := h.le (Nat.le_refl k) (show j + 1 ≤ k by omega)
    omega)
  exact ⟨a.cong hl, b.cong hl, fun i h1 h2 => by rw [hl i h1 h2]; exact c i h1 h2⟩
/-- a place of the row stands in a platoon -/
theorem g_O.at {N C : g_F} {w e : Nat → Nat} {r : Nat} : ∀ {k : Nat}, g_O N C w r k e → ∀ {i : Nat}, g_bg N r ≤ i → i < e k → ∃ j, j < k ∧ e j ≤ i ∧ i < e (j + 1)
  | 0, h, i, h1, h2 => by
    rw [h.1] at h2
    omega
  | k + 1, h, i, h1, h2 => by
    by_cases z : i < e k
    · obtain ⟨j, a, b⟩ := g_O.at (k := k) ⟨h.1, fun j hj => h.2 j (by omega)⟩ h1 z
      exact ⟨j, by omega, b⟩
    · exact ⟨k, by omega, by omega, h2⟩
section XR
variable {N C : g_F} {b : Nat}
/-- the number of the next platoon -/
theorem g_num_next (hN : g_WN N) (hW : g_WC N C) {w e : Nat → Nat} {r k lo hi : Nat} (hr : r < N 0 0) (hE : g_E N w) (hO : g_O N C w r k e) (hk : e k = lo) (hhi : hi ≤ g_bg N (r + 1)) (hG : g_G N C w lo hi) (hs : ∀ i j, g_bg N r ≤ i → i < lo → lo ≤ j → j < g_bg N (r + 1) → g_ear N C (w i) (w j)) (hs2 : ∀ j, lo ≤ j → j < g_bg N (r + 1) → ¬ g_ear N C (w j) (w lo)) {i : Nat} (h1 : lo ≤ i) (h2 : i < hi) : g_num N C (w i) = k := by
  obtain ⟨m1, m2, m3⟩ := g_mt_iff.mp (hG.2.1 i h1 h2).2
  have hlo0 : g_bg N r ≤ lo := by
    have := hO.le (Nat.le_refl k) (Nat.zero_le k)
    rw [hO.1, hk] at this
    exact this
  have hrd := (hE.1 r lo hr hlo0 (by have := hG.1; omega)).2
  have ej : ∀ j, j < k → g_bg N r ≤ e j ∧ e j < lo := fun j hj => by
    have x1 := hO.le (show j ≤ k by omega) (Nat.zero_le j)
    have x2 := hO.le (Nat.le_refl k) (show j + 1 ≤ k by omega)
    have x3 := (hO.2 j hj).1.1
    rw [hO.1] at x1
    omega
  unfold g_num g_cnt
  rw [g_sum_enum (row := fun j => w (e j)) (m := k) (fun j hj => ?_) (fun a c ha hc q => ?_) (fun s hs1 hf => ?_)]
  · rw [g_sum_congr (g := fun _ => 1) (fun j hj => ?_)]
    · clear hO ej hk
      induction k with
      | zero => rfl
      | succ k ih =>
        rw [g_sum, ih]
    · obtain ⟨x1, x2⟩ := ej j hj
      obtain ⟨y1, y2⟩ := hE.1 r (e j) hr x1 (by have := hG.1; omega)
      refine if_pos (decide_eq_true ⟨y1, ?_, ?_, ?_⟩)
      · rw [y2, ← m1, hrd]
      · rw [(hO.2 j hj).1.pos hN hW (hO.2 j hj).2.1 (Nat.le_refl _) (hO.2 j hj).1.1, Nat.sub_self]
      · rw [← m2, ← m3]
        exact hs (e j) lo x1 x2 (Nat.le_refl _) (by have := hG.1; omega)
  · obtain ⟨x1, x2⟩ := ej j hj
    exact g_is_lt hN (hE.1 r (e j) hr x1 (by have := hG.1; omega)).1
  · obtain ⟨x1, x2⟩ := ej a ha
    obtain ⟨z1, z2⟩ := ej c hc
    have := hE.2.2 r (e a) (e c) hr x1 (by have := hG.1; omega) z1 (by have := hG.1; omega) q
    rcases Nat.lt_trichotomy a c with g | g | g
    · have t1 := hO.le (show c ≤ k by omega) (show a + 1 ≤ c by omega)
      have t2 := (hO.2 a ha).1.1
      omega
    · exact g
    · have t1 := hO.le (show a ≤ k by omega) (show c + 1 ≤ a by omega)
      have t2 := (hO.2 c hc).1.1
      omega
  · have hf2 : ((s / 10 < N 0 1 ∧ s % 10 < N 8 (s / 10)) ∧ N 9 s = N 9 (w i) ∧ g_pos N C s = 0 ∧ (g_en N C s < g_en N C (w i) ∨ g_en N C s = g_en N C (w i) ∧ C 2 s < C 2 (w i))) := by
      apply Classical.byContradiction
      intro hn
      exact hf (if_neg (fun q => hn (of_decide_eq_true q)))
    obtain ⟨f1, f2, f3, f4⟩ := hf2
    obtain ⟨x, x1, x2, x3⟩ := hE.2.1 s f1
    rw [f2, ← m1, hrd] at x1 x2
    rw [← m2, ← m3] at f4
    have xlo : x < lo := Nat.lt_of_not_le fun q => hs2 x q x2 (by rw [x3]; exact f4)
    obtain ⟨j, j1, j2, j3⟩ := hO.at x1 (by rw [hk]; exact xlo)
    have hp := (hO.2 j j1).1.pos hN hW (hO.2 j j1).2.1 j2 j3
    rw [x3, f3] at hp
    refine ⟨j, j1, ?_⟩
    show w (e j) = s
    rw [show e j = x by omega]
    exact x3
/-- all cells but those that the platoons of a plan are set in -/
def f_fr (b : Nat) (σ σ' : x_S) : Prop := (∀ z, z ≠ b → ¬ (b + 6 ≤ z ∧ z ≤ b + 12) → σ' z = σ z) ∧ ∀ i, i ≠ 14 → σ' b i = σ b i
theorem f_fr.trans {σ σ' σ2 : x_S} (h1 : f_fr b σ σ') (h2 : f_fr b σ' σ2) : f_fr b σ σ2 := ⟨fun z a c => (h2.1 z a c).trans (h1.1 z a c), fun i hi => (h2.2 i hi).trans (h1.2 i hi)⟩
theorem f_K.cong {x : Nat} {σ σ' : x_S} (h : f_K N C b x σ) (e : ∀ z, b + 7 ≤ z → z ≤ b + 12 → σ' z x = σ z x) : f_K N C b x σ' := by
  unfold f_K f_P at h ⊢
  rw [e (b + 7) (by omega) (by omega), e (b + 8) (by omega) (by omega), e (b + 9) (by omega) (by omega), e (b + 10) (by omega) (by omega), e (b + 11) (by omega) (by omega), e (b + 12) (by omega) (by omega)]
  exact h
theorem sX_platoons (hb : 33 ≤ b) (hN : g_WN N) (hW : g_WC N C) {τ : x_L} {σ0 : x_S} {w0 : Nat → Nat} {r : Nat} (hr : r < N 0 0) {K31 : Int32 → x_S → x_L → Prop} {Q : x_S → x_L → Prop}
    (hF : f_F N σ0) (hC : f_C N C b σ0) (hR : f_R N σ0 τ) (hT : f_T N C b σ0) (hw : f_W b (g_bg N (N 0 0)) w0 σ0) (hE : g_E N w0) (hf : σ0 b 14 = nI (g_sum (fun i => g_fuel N C (w0 i)) (g_bg N r))) (hK : ∀ i, i < g_bg N r → f_K N C b (w0 i) σ0) (hs : g_srt (g_ear N C) w0 (g_bg N r) (g_bg N (r + 1)))
    (h : ∀ (σ' : x_S) (w' e : Nat → Nat) (k : Nat), f_fr b σ0 σ' → f_W b (g_bg N (N 0 0)) w' σ' → g_E N w' → (∀ i, ¬ (g_bg N r ≤ i ∧ i < g_bg N (r + 1)) → w' i = w0 i) → g_O N C w' r k e → e k = g_bg N (r + 1) → σ' b 14 = nI (g_sum (fun i => g_fuel N C (w' i)) (g_bg N (r + 1))) → (∀ i, i < g_bg N (r + 1) → f_K N C b (w' i) σ') → K31 (nI r + 1) σ' τ) :
    x_l5 (wX6_arrange_78 b K31 Q) (nI r) (nI (g_bg N r)) (nI (g_bg N (r + 1))) 0 (nI (g_bg N r) + 1) σ0 τ := by
  have b0 := g_bg_b N r
  have b1 := g_bg_b N (r + 1)
  have bm := g_bg_mono N (show r ≤ r + 1 by omega)
  have be := g_bg_mono N (show r + 1 ≤ N 0 0 from hr)
  have bn := g_bg_b N (N 0 0)
  rw [show (nI (g_bg N r) + 1 : Int32) = nI (g_bg N r + 1) from nI_add _ 1]
  refine x_l5_I (fun k a c d e f σ τ' => ∃ (lo p af : Nat) (w ee : Nat → Nat), a = nI r ∧ c = nI lo ∧ d = nI (g_bg N (r + 1)) ∧ e = nI p ∧ f = nI af ∧ lo < af ∧ af ≤ g_bg N (r + 1) + 1 ∧ (af = g_bg N (r + 1) + 1 → lo = g_bg N (r + 1)) ∧ af + k = 130 ∧ τ = τ' ∧ f_fr b σ0 σ ∧ f_W b (g_bg N (N 0 0)) w σ ∧ g_E N w ∧ (∀ i, ¬ (g_bg N r ≤ i ∧ i < g_bg N (r + 1)) → w i = w0 i) ∧ g_O N C w r p ee ∧ ee p = lo ∧ σ b 14 = nI (g_sum (fun i => g_fuel N C (w i)) lo) ∧ (∀ i, i < lo → f_K N C b (w i) σ) ∧ (∀ i j, g_bg N r ≤ i → i < lo → lo ≤ j → j < g_bg N (r + 1) → g_ear N C (w i) (w j)) ∧ g_srt (g_ear N C) w lo (g_bg N (r + 1)) ∧ ∀ i, lo ≤ i → i < af → i < g_bg N (r + 1) → ¬ g_ear N C (w lo) (w i)) ?_ (129 - g_bg N r) ⟨g_bg N r, 0, g_bg N r + 1, w0, fun _ => g_bg N r, rfl, rfl, rfl, rfl, rfl, by omega, by omega, by omega, by omega, rfl, ⟨fun _ _ _ => rfl, fun _ _ => rfl⟩, hw, hE, fun _ _ => rfl, ⟨rfl, fun j hj => absurd hj (Nat.not_lt_zero _)⟩, rfl, hf, hK, fun i j a1 a2 => absurd a1 (by omega), hs, fun i a1 a2 _ => ?_⟩
  · clear hw hE hf hK hs
    rintro k a c d e f σ τ' ⟨lo, p, af, w, ee, rfl, rfl, rfl, rfl, rfl, h1, h2, h3, hk, rfl, fr, hw, hE, hout, hO, hep, hf, hK, hsep, hsrt, hsame⟩ K hKK
    have hF' := hF.cong (σ' := σ) (fun z hz => fr.1 z (by omega) (by omega))
    have hR' := hR.cong (σ' := σ) (fun z hz => fr.1 z (by omega) (by omega))
    have hC' := hC.cong (σ' := σ) (fun z hz => fr.1 z (by omega) (by omega))
    have hT' := hT.cong (σ' := σ) (fun z hz => fr.1 z (by omega) (by omega))
    have hlo0 : g_bg N r ≤ lo := by
      have := hO.le (Nat.le_refl p) (Nat.zero_le p)
      rw [hO.1, hep] at this
      exact this
    have do110 : af ≤ g_bg N (r + 1) → (af < g_bg N (r + 1) → g_ear N C (w lo) (w af)) → wX6_arrange_110 b K31 K Q (nI r) (nI lo) (nI (g_bg N (r + 1))) (nI p) (nI af) σ τ := by
      intro haf hbo
      have eqv : ∀ i, lo ≤ i → i < af → g_en N C (w lo) = g_en N C (w i) ∧ C 2 (w lo) = C 2 (w i) := fun i a1 a2 => by
        have x1 := hsame i a1 a2 (by omega)
        by_cases z : i = lo
        · rw [z]
          exact ⟨rfl, rfl⟩
        · have x2 := hsrt lo i (Nat.le_refl _) (by omega) (by omega)
          unfold g_ear at x1 x2
          omega
      have hrd : ∀ i, lo ≤ i → i < g_bg N (r + 1) → g_is N (w i) ∧ N 9 (w i) = r := fun i a1 a2 => hE.1 r i hr (by omega) a2
      have hG : g_G N C w lo af := by
        refine ⟨h1, fun i a1 a2 => ⟨(hrd i a1 (by omega)).1, g_mt_iff.mpr ⟨?_, (eqv i a1 a2).1, (eqv i a1 a2).2⟩⟩, fun s hs hm => ?_, fun i j a1 a2 a3 a4 q => hE.2.2 r i j hr (by omega) (by omega) (by omega) (by omega) q⟩
        · rw [(hrd i a1 (by omega)).2, (hrd lo (Nat.le_refl _) (by omega)).2]
        · obtain ⟨m1, m2, m3⟩ := g_mt_iff.mp hm
          obtain ⟨x, x1, x2, x3⟩ := hE.2.1 s hs
          rw [← m1, (hrd lo (Nat.le_refl _) (by omega)).2] at x1 x2
          refine ⟨x, Nat.le_of_not_lt fun q => ?_, Nat.lt_of_not_le fun q => ?_, x3⟩
          · have := hsep x lo x1 q (Nat.le_refl _) (by omega)
            rw [x3] at this
            unfold g_ear at this
            omega
          · have y1 := hbo (by omega)
            by_cases z : x = af
            · rw [← z, x3] at y1
              unfold g_ear at y1
              omega
            · have y2 := hsrt af x (by omega) (by omega) x2
              rw [x3] at y2
              unfold g_ear at y1 y2
              omega
      unfold wX6_arrange_110
      refine sX_setKeys hb hN hW hR' bn (show af ≤ g_bg N (N 0 0) by omega) hw hG (fun σ1 k1 k2 k3 => ?_)
      have hw1 : f_W b (g_bg N (N 0 0)) w σ1 := fun j hj => by rw [k1 (b + 6) (by omega)]; exact hw j hj
      refine sX_sortByKey hb hN bn (show af ≤ g_bg N (N 0 0) by omega) hw1 hG k2 (fun σ2 w2 s1 s2 s3 s4 => ?_)
      have f2 : ∀ z, z ≠ b + 6 → z ≠ b + 9 → σ2 z = σ z := fun z z1 z2 => (s1 z z1).trans (k1 z z2)
      have hf2 : σ2 b 14 = nI (g_sum (fun i => g_fuel N C (w i)) lo) := by rw [f2 b (by omega) (by omega)]; exact hf
      have hG2 := hG.perm s3
      refine sX_setPlatoon hb hN hW (hF'.cong (fun z hz => f2 z (by omega) (by omega))) (hC'.cong (fun z hz => f2 z (by omega) (by omega))) (hR'.cong (fun z hz => f2 z (by omega) (by omega))) bn (show af ≤ g_bg N (N 0 0) by omega) s2 hG2 s4 hf2 (fun σ3 p1 p2 p3 p4 p5 => ?_)
      have img : ∀ j, lo ≤ j → j < g_bg N (r + 1) → ∃ y, lo ≤ y ∧ y < g_bg N (r + 1) ∧ w2 j = w y ∧ (j < af → y < af) ∧ (af ≤ j → y = j) := fun j a1 a2 => by
        by_cases z : j < af
        · obtain ⟨pp, qq, c1, -⟩ := s3.2
          obtain ⟨x1, x2, -, x4⟩ := c1 j a1 z
          exact ⟨pp j, x1, by omega, x4, fun _ => x2, fun q => by omega⟩
        · exact ⟨j, a1, a2, s3.1 j (by omega), fun q => absurd q z, fun _ => rfl⟩
      have low : ∀ i, i < lo → w2 i = w i := fun i hi => s3.1 i (by omega)
      have hE2 : g_E N w2 := hE.perm hr (s3.wide hlo0 haf)
      have hO2 : g_O N C w2 r p ee := hO.cong (fun i a1 a2 => low i (by omega))
      have hnum : ∀ i, lo ≤ i → i < af → g_num N C (w2 i) = p := fun i a1 a2 => by
        refine g_num_next hN hW hr hE2 hO2 hep haf hG2 (fun i j q1 q2 q3 q4 => ?_) (fun j q1 q2 => ?_) a1 a2
        · obtain ⟨y, y1, y2, y3, -, -⟩ := img j q3 q4
          rw [low i q2, y3]
          exact hsep i y q1 q2 y1 y2
        · obtain ⟨y, y1, y2, y3, -, -⟩ := img j q1 q2
          obtain ⟨x, x1, x2, x3, x4, -⟩ := img lo (Nat.le_refl _) (by omega)
          rw [y3, x3]
          have u1 := eqv x x1 (x4 h1)
          by_cases z : y = lo
          · rw [z]
            unfold g_ear
            omega
          · have u2 := hsrt lo y (Nat.le_refl _) (by omega) y2
            unfold g_ear at u2 ⊢
            omega
      unfold wX6_arrange_139
      rw [show (nI p + 1 : Int32) = nI (p + 1) from nI_add p 1, show (nI af + 1 : Int32) = nI (af + 1) from nI_add af 1]
      have fr3 : f_fr b σ σ3 := ⟨fun z z1 z2 => by rw [p1 z z1 (by omega) (by omega) (by omega) (by omega) (by omega), f2 z (by omega) (by omega)], fun i hi => by rw [p2 i hi, f2 b (by omega) (by omega)]⟩
      refine hKK (k - 1) _ _ _ _ _ _ _ (by omega) ⟨af, p + 1, af + 1, w2, fun j => if j = p + 1 then af else ee j, rfl, rfl, rfl, rfl, rfl, by omega, by omega, by omega, by omega, rfl, fr.trans fr3, fun j hj => by rw [p1 (b + 6) (by omega) (by omega) (by omega) (by omega) (by omega) (by omega)]; exact s2 j hj, hE2, fun i hi => by rw [s3.1 i (by omega)]; exact hout i hi, ⟨?_, fun j hj => ?_⟩, if_pos rfl, ?_, fun i hi => ?_, fun i j a1 a2 a3 a4 => ?_, ?_, fun i a1 a2 a3 => ?_⟩
      · dsimp only
        rw [if_neg (by omega)]
        exact hO.1
      · dsimp only
        by_cases z : j = p
        · rw [z, if_neg (by omega), if_pos rfl, hep]
          exact ⟨hG2, s4, hnum⟩
        · rw [if_neg (by omega), if_neg (by omega)]
          exact hO2.2 j (by omega)
      · rw [p3, g_sum_congr (f := fun i => g_fuel N C (w i)) (g := fun i => g_fuel N C (w2 i)) (fun i hi => by rw [low i hi]), ← g_sum_split (fun i => g_fuel N C (w2 i)) lo (af - lo), show lo + (af - lo) = af by omega]
      · by_cases z : i < lo
        · rw [low i z]
          have hne : ∀ j, lo ≤ j → j < af → w i ≠ w j := fun j a1 a2 q => by
            have := hE.inj (show i < g_bg N (N 0 0) by omega) (show j < g_bg N (N 0 0) by omega) q
            omega
          have hne2 : ∀ j, lo ≤ j → j < af → w i ≠ w2 j := fun j a1 a2 q => by
            obtain ⟨y, y1, y2, y3, y4, -⟩ := img j a1 (by omega)
            exact hne y y1 (y4 a2) (by rw [q, y3])
          refine (hK i z).cong (fun z a1 a2 => ?_)
          by_cases z9 : z = b + 9
          · rw [z9, p1 (b + 9) (by omega) (by omega) (by omega) (by omega) (by omega) (by omega), s1 (b + 9) (by omega)]
            exact k3 _ hne
          · rw [p5 _ hne2 z (by omega), f2 z (by omega) z9]
        · obtain ⟨y, y1, y2, y3, y4, -⟩ := img i (by omega) (by omega)
          refine ⟨?_, ?_⟩
          · rw [p1 (b + 9) (by omega) (by omega) (by omega) (by omega) (by omega) (by omega), s1 (b + 9) (by omega), y3]
            exact k2 y y1 (y4 hi)
          · rw [hnum i (by omega) hi]
            exact p4 i (by omega) hi
      · rw [s3.1 j (by omega)]
        have v1 := hbo (by omega)
        have v2 : ¬ g_ear N C (w j) (w af) := by
          by_cases z : j = af
          · rw [z]
            unfold g_ear
            omega
          · exact hsrt af j (by omega) (by omega) a4
        by_cases z : i < lo
        · rw [low i z]
          exact hsep i j a1 z (by omega) a4
        · obtain ⟨y, y1, y2, y3, y4, -⟩ := img i (by omega) (by omega)
          have v3 := eqv y y1 (y4 a2)
          rw [y3]
          unfold g_ear at v1 v2 ⊢
          omega
      · intro i j a1 a2 a3
        rw [s3.1 i (by omega), s3.1 j (by omega)]
        exact hsrt i j (by omega) a2 a3
      · have : i = af := by omega
        rw [this]
        unfold g_ear
        omega
    unfold wX6_arrange_78
    refine i_lt (by omega) (by omega) (fun g => ?_) (fun g => ?_)
    · have el := h3 (by omega)
      subst el
      exact h σ w ee p fr hw hE hout hO hep hf hK
    · refine i_eq (by omega) (by omega) (fun g2 => do110 g (fun q => by omega)) (fun g2 => ?_)
      refine ⟨i_in (by omega) (by omega), i_in (by omega) (by omega), ?_⟩
      rw [i_cl (by omega), i_cl (by omega), hw lo (by omega), hw af (by omega)]
      refine sX_isEarlier hN hW hC' hT' (hE.is (by omega)) (hE.is (by omega)) (fun q => i_one' (do110 g (fun _ => q))) (fun q => i_zer ?_)
      unfold wX6_arrange_139
      rw [show (nI af + 1 : Int32) = nI (af + 1) from nI_add af 1]
      refine hKK (k - 1) _ _ _ _ _ _ _ (by omega) ⟨lo, p, af + 1, w, ee, rfl, rfl, rfl, rfl, rfl, by omega, by omega, by omega, by omega, rfl, fr, hw, hE, hout, hO, hep, hf, hK, hsep, hsrt, fun i a1 a2 a3 => ?_⟩
      by_cases z : i = af
      · rw [z]
        exact q
      · exact hsame i a1 (by omega) a3
  · have : i = g_bg N r := by omega
    rw [this]
    unfold g_ear
    omega
end XR
