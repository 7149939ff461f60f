/-! rows that are put in order -/
/-- w' is w with the places lo to hi in another order -/
def g_perm (w w' : Nat → Nat) (lo hi : Nat) : Prop := (∀ i, ¬ (lo ≤ i ∧ i < hi) → w' i = w i) ∧ ∃ p q : Nat → Nat, (∀ i, lo ≤ i → i < hi → lo ≤ p i ∧ p i < hi ∧ q (p i) = i ∧ w' i = w (p i)) ∧ ∀ j, lo ≤ j → j < hi → lo ≤ q j ∧ q j < hi ∧ p (q j) = j
theorem g_perm.refl (w : Nat → Nat) (lo hi : Nat) : g_perm w w lo hi := ⟨fun _ _ => rfl, fun i => i, fun i => i, fun _ h1 h2 => ⟨h1, h2, rfl, rfl⟩, fun _ h1 h2 => ⟨h1, h2, rfl⟩⟩
theorem g_perm.trans {w w1 w2 : Nat → Nat} {lo hi : Nat} (h1 : g_perm w w1 lo hi) (h2 : g_perm w1 w2 lo hi) : g_perm w w2 lo hi := by
  obtain ⟨a1, p1, q1, b1, c1⟩ := h1
  obtain ⟨a2, p2, q2, b2, c2⟩ := h2
  refine ⟨fun i hi => (a2 i hi).trans (a1 i hi), fun i => p1 (p2 i), fun j => q2 (q1 j), fun i h3 h4 => ?_, fun j h3 h4 => ?_⟩
  · obtain ⟨x1, x2, x3, x4⟩ := b2 i h3 h4
    obtain ⟨y1, y2, y3, y4⟩ := b1 _ x1 x2
    exact ⟨y1, y2, by show q2 (q1 (p1 (p2 i))) = i; rw [y3, x3], x4.trans y4⟩
  · obtain ⟨x1, x2, x3⟩ := c1 j h3 h4
    obtain ⟨y1, y2, y3⟩ := c2 _ x1 x2
    exact ⟨y1, y2, by show p1 (p2 (q2 (q1 j))) = j; rw [y3, x3]⟩
theorem g_perm.wide {w w' : Nat → Nat} {lo hi lo' hi' : Nat} (h : g_perm w w' lo hi) (h1 : lo' ≤ lo) (h2 : hi ≤ hi') : g_perm w w' lo' hi' := by
  obtain ⟨a, p, q, b, c⟩ := h
  refine ⟨fun i hi => a i (by omega), fun i => if lo ≤ i ∧ i < hi then p i else i, fun i => if lo ≤ i ∧ i < hi then q i else i, fun i h3 h4 => ?_, fun j h3 h4 => ?_⟩
  · by_cases z : lo ≤ i ∧ i < hi
    · obtain ⟨x1, x2, x3, x4⟩ := b i z.1 z.2
      simp only [if_pos z, if_pos (show lo ≤ p i ∧ p i < hi from ⟨x1, x2⟩)]
      exact ⟨by omega, by omega, x3, x4⟩
    · simp only [if_neg z]
      exact ⟨h3, h4, trivial, a i z⟩
  · by_cases z : lo ≤ j ∧ j < hi
    · obtain ⟨x1, x2, x3⟩ := c j z.1 z.2
      simp only [if_pos z, if_pos (show lo ≤ q j ∧ q j < hi from ⟨x1, x2⟩)]
      exact ⟨by omega, by omega, x3⟩
    · simp only [if_neg z]
      exact ⟨h3, h4, trivial⟩
/-- the last one goes to an earlier place -/
def g_rot (w : Nat → Nat) (to at' : Nat) : Nat → Nat := fun i => if i = to then w at' else if to < i ∧ i ≤ at' then w (i - 1) else w i
theorem g_rot_perm (w : Nat → Nat) {lo hi to at' : Nat} (h1 : lo ≤ to) (h2 : to ≤ at') (h3 : at' < hi) : g_perm w (g_rot w to at') lo hi := by
  refine ⟨fun i hi => ?_, fun i => if i = to then at' else if to < i ∧ i ≤ at' then i - 1 else i, fun j => if j = at' then to else if to ≤ j ∧ j < at' then j + 1 else j, fun i h4 h5 => ?_, fun j h4 h5 => ?_⟩
  · unfold g_rot
    rw [if_neg (by omega), if_neg (by omega)]
  · unfold g_rot
    by_cases a : i = to
    · simp only [if_pos a]
      exact ⟨by omega, h3, by simp [a], trivial⟩
    · by_cases c : to < i ∧ i ≤ at'
      · simp only [if_neg a, if_pos c]
        refine ⟨by omega, by omega, ?_, trivial⟩
        rw [if_neg (by omega), if_pos (by omega)]
        omega
      · simp only [if_neg a, if_neg c]
        refine ⟨h4, h5, ?_, trivial⟩
        rw [if_neg (by omega), if_neg (by omega)]
  · by_cases a : j = at'
    · simp only [if_pos a]
      exact ⟨h1, by omega, by simp [a]⟩
    · by_cases c : to ≤ j ∧ j < at'
      · simp only [if_neg a, if_pos c]
        refine ⟨by omega, by omega, ?_⟩
        rw [if_neg (by omega), if_pos (by omega)]
        omega
      · simp only [if_neg a, if_neg c]
        refine ⟨h4, h5, ?_⟩
        rw [if_neg (by omega), if_neg (by omega)]
/-- in order: none is to stand ahead of an earlier one -/
def g_srt (lt : Nat → Nat → Prop) (w : Nat → Nat) (lo hi : Nat) : Prop := ∀ i j, lo ≤ i → i < j → j < hi → ¬ lt (w j) (w i)
/-- a row in its cell -/
def f_W (b n : Nat) (w : Nat → Nat) (σ : x_S) : Prop := ∀ i, i < n → σ (b + 6) i = nI (w i)
theorem g_isort {b n : Nat} {w : Nat → Nat} {lo hi : Nat} {lt : Nat → Nat → Prop} {S : Nat → Prop} {cmp : Int32 → Int32 → x_S → x_L → (Int32 → x_S → x_L → Prop) → Prop}
    {B66 : (Int32 → Int32 → Int32 → x_S → x_L → Prop) → (x_S → x_L → Prop) → Int32 → Int32 → Int32 → Int32 → Int32 → x_S → x_L → Prop}
    {B20 : (Int32 → Int32 → Int32 → x_S → x_L → Prop) → (x_S → x_L → Prop) → (Int32 → Int32 → Int32 → Int32 → Int32 → x_S → x_L → Prop) → Int32 → Int32 → Int32 → Int32 → Int32 → x_S → x_L → Prop}
    {B4 : (x_S → x_L → Prop) → (Int32 → Int32 → Int32 → x_S → x_L → Prop) → Int32 → Int32 → Int32 → x_S → x_L → Prop}
    (e66 : ∀ K4 Q v1 v2 v3 v4 v5 σ τ, B66 K4 Q v1 v2 v3 v4 v5 σ τ = (vp_in v5 120 ∧ (K4 v1 v2 (v3 + 1) (x_up σ (b + 6) v5.toNatClampNeg v4) τ)))
    (e20 : ∀ K4 Q K20 v1 v2 v3 v4 v5 σ τ, B20 K4 Q K20 v1 v2 v3 v4 v5 σ τ = ((v5 ≤ v1 → B66 K4 Q v1 v2 v3 v4 v5 σ τ) ∧ (¬ v5 ≤ v1 → vp_in (v5 - 1) 120 ∧ (cmp v4 (σ (b + 6) (v5 - 1).toNatClampNeg) σ τ (fun r σ' τ' => (r = 0 → B66 K4 Q v1 v2 v3 v4 v5 σ' τ') ∧ (¬ r = 0 → vp_in v5 120 ∧ (K20 v1 v2 v3 v4 (v5 + (-1)) (x_up σ' (b + 6) v5.toNatClampNeg (σ' (b + 6) (v5 - 1).toNatClampNeg)) τ')))))))
    (e4 : ∀ Q K4 v1 v2 v3 σ τ, B4 Q K4 v1 v2 v3 σ τ = ((v2 ≤ v3 → Q σ τ) ∧ (¬ v2 ≤ v3 → vp_in v3 120 ∧ (x_l5 (B20 K4 Q) v1 v2 v3 (σ (b + 6) v3.toNatClampNeg) v3 σ τ))))
    {σ : x_S} {τ : x_L} (hn : n ≤ 120) (hlo : lo ≤ hi) (hhi : hi ≤ n) (hw : f_W b n w σ)
    (hS : ∀ i, lo ≤ i → i < hi → S (w i))
    (hcmp : ∀ (x y : Nat) (σ' : x_S) (Q : Int32 → x_S → x_L → Prop), S x → S y → (∀ z, z ≠ b + 6 → σ' z = σ z) → (lt x y → Q 1 σ' τ) → (¬ lt x y → Q 0 σ' τ) → cmp (nI x) (nI y) σ' τ Q)
    (hneg : ∀ x y z, S x → S y → S z → ¬ lt z y → ¬ lt y x → ¬ lt z x) (hasy : ∀ x y, S x → S y → lt x y → ¬ lt y x)
    {Q : x_S → x_L → Prop} (h : ∀ (σ' : x_S) (w' : Nat → Nat), (∀ z, z ≠ b + 6 → σ' z = σ z) → f_W b n w' σ' → g_perm w w' lo hi → g_srt lt w' lo hi → Q σ' τ) : x_l3 (B4 Q) (nI lo) (nI hi) (nI lo + 1) σ τ := by
  rw [show (nI lo + 1 : Int32) = nI (lo + 1) from nI_add lo 1]
  refine x_l3_I (fun k a c d σ' τ' => ∃ at' w', a = nI lo ∧ c = nI hi ∧ d = nI at' ∧ lo + 1 ≤ at' ∧ at' + k = 121 ∧ τ = τ' ∧ (∀ z, z ≠ b + 6 → σ' z = σ z) ∧ f_W b n w' σ' ∧ g_perm w w' lo hi ∧ g_srt lt w' lo (min at' hi)) ?_ (121 - (lo + 1)) ⟨lo + 1, w, rfl, rfl, rfl, Nat.le_refl _, by omega, rfl, fun _ _ => rfl, hw, g_perm.refl _ _ _, fun i j h1 h2 h3 => absurd h3 (by omega)⟩
  rintro k a c d σ' τ' ⟨at', w', rfl, rfl, rfl, hat, hk, rfl, h1, hw1, hp, hs⟩ K hK
  rw [e4]
  refine i_le (by omega) (by omega) (fun g => ?_) (fun g => ?_)
  · rw [Nat.min_eq_right g] at hs
    exact h σ' w' h1 hw1 hp hs
  · rw [Nat.min_eq_left (by omega)] at hs
    refine ⟨i_in (by omega) (by omega), ?_⟩
    rw [i_cl (by omega), hw1 at' (by omega)]
    have hS1 : ∀ i, lo ≤ i → i < hi → S (w' i) := fun i a1 a2 => by
      obtain ⟨p, q, b1, -⟩ := hp.2
      obtain ⟨x1, x2, -, x4⟩ := b1 i a1 a2
      rw [x4]
      exact hS _ x1 x2
    refine x_l5_I (fun k a c d e f σ2 τ' => ∃ to, a = nI lo ∧ c = nI hi ∧ d = nI at' ∧ e = nI (w' at') ∧ f = nI to ∧ lo ≤ to ∧ to ≤ at' ∧ to = k ∧ τ = τ' ∧ (∀ z, z ≠ b + 6 → σ2 z = σ z) ∧ (∀ i, i < n → i ≠ to → σ2 (b + 6) i = nI (g_rot w' to at' i)) ∧ ∀ i, to ≤ i → i < at' → lt (w' at') (w' i)) ?_ at' ⟨at', rfl, rfl, rfl, rfl, rfl, by omega, Nat.le_refl _, rfl, rfl, h1, fun i hi hne => ?_, fun i a1 a2 => absurd a2 (by omega)⟩
    · clear hw1
      rintro k2 a c d e f σ2 τ' ⟨to, rfl, rfl, rfl, rfl, rfl, ht1, ht2, rfl, rfl, h2, h3, h4⟩ K2 hK2
      have done : (∀ i, lo ≤ i → i < to → ¬ lt (w' at') (w' i)) → B66 K Q (nI lo) (nI hi) (nI at') (nI (w' at')) (nI to) σ2 τ := fun hle => by
        rw [e66]
        refine ⟨i_in (by omega) (by omega), ?_⟩
        rw [i_cl (by omega), show (nI at' + 1 : Int32) = nI (at' + 1) from nI_add at' 1]
        refine hK (k - 1) _ _ _ _ _ (by omega) ⟨at' + 1, g_rot w' to at', rfl, rfl, rfl, by omega, by omega, rfl, fun z hz => by rw [x_up_n hz]; exact h2 z hz, fun i hi => ?_, hp.trans (g_rot_perm w' ht1 ht2 g), ?_⟩
        · rw [x_up_i]
          by_cases z : i = to
          · subst z
            rw [if_pos rfl]
            unfold g_rot
            rw [if_pos rfl]
          · rw [if_neg z]
            exact h3 i hi z
        · rw [Nat.min_eq_left (by omega)]
          intro i j a1 a2 a3
          have Sat := hS1 at' (by omega) g
          unfold g_rot
          by_cases z1 : j = to
          · subst z1
            rw [if_pos rfl, if_neg (by omega), if_neg (by omega)]
            exact hle i a1 a2
          · rw [if_neg z1]
            by_cases z2 : to < j ∧ j ≤ at'
            · rw [if_pos z2]
              by_cases z3 : i = to
              · rw [if_pos z3]
                exact hasy _ _ Sat (hS1 _ (by omega) (by omega)) (h4 (j - 1) (by omega) (by omega))
              · rw [if_neg z3]
                by_cases z4 : to < i ∧ i ≤ at'
                · rw [if_pos z4]
                  exact hs _ _ (by omega) (by omega) (by omega)
                · rw [if_neg z4]
                  exact hs _ _ a1 (by omega) (by omega)
            · rw [if_neg z2]
              rw [if_neg (by omega), if_neg (by omega)]
              exact hs _ _ a1 a2 (by omega)
      rw [e20]
      refine i_le (by omega) (by omega) (fun g2 => done (fun i a1 a2 => absurd a2 (by omega))) (fun g2 => ?_)
      rw [show (nI to - 1 : Int32) = nI (to - 1) from nI_sub (b := 1) (by omega)]
      refine ⟨i_in (by omega) (by omega), ?_⟩
      have e7 : g_rot w' to at' (to - 1) = w' (to - 1) := by
        unfold g_rot
        rw [if_neg (by omega), if_neg (by omega)]
      rw [i_cl (by omega), h3 (to - 1) (by omega) (by omega), e7]
      refine hcmp _ _ _ _ (hS1 at' (by omega) g) (hS1 (to - 1) (by omega) (by omega)) h2 (fun hl => ?_) (fun hl => ?_)
      · refine i_one' ⟨i_in (by omega) (by omega), ?_⟩
        rw [i_cl (by omega), h3 (to - 1) (by omega) (by omega), e7]
        rw [show (nI to + -1 : Int32) = nI (to - 1) from by
          have := nI_sub (a := to) (b := 1) (by omega)
          rw [← this]
          exact (Int32.sub_eq_add_neg _ _).symm]
        refine hK2 (to - 1) _ _ _ _ _ _ _ (by omega) ⟨to - 1, rfl, rfl, rfl, rfl, rfl, by omega, by omega, rfl, rfl, fun z hz => by rw [x_up_n hz]; exact h2 z hz, fun i hi hne => ?_, fun i a1 a2 => ?_⟩
        · rw [x_up_i]
          by_cases z : i = to
          · rw [if_pos z, z]
            unfold g_rot
            rw [if_neg (by omega), if_pos (by omega)]
          · rw [if_neg z, h3 i hi z]
            unfold g_rot
            rw [if_neg z, if_neg hne]
            by_cases z2 : to < i ∧ i ≤ at'
            · rw [if_pos z2, if_pos (by omega)]
            · rw [if_neg z2, if_neg (by omega)]
        · by_cases z : i = to - 1
          · rw [z]
            exact hl
          · exact h4 i (by omega) a2
      · refine i_zer (done (fun i a1 a2 => ?_))
        by_cases z : i = to - 1
        · rw [z]
          exact hl
        · exact hneg _ _ _ (hS1 i a1 (by omega)) (hS1 (to - 1) (by omega) (by omega)) (hS1 at' (by omega) g) hl (hs i (to - 1) a1 (by omega) (by omega))
    · rw [hw1 i hi]
      unfold g_rot
      rw [if_neg hne, if_neg (by omega)]
