/-! loops that count up: the arguments are functions of the count -/
theorem x_S1 {A0 : Type} {B : (A0 → x_S → x_L → Prop) → A0 → x_S → x_L → Prop} (P : Nat → x_S → x_L → Prop) (a0 : Nat → A0) {lo n : Nat} (hlo : lo ≤ n) (step : ∀ (K : A0 → x_S → x_L → Prop) i σ τ, lo ≤ i → i < n → P i σ τ → (∀ σ' τ', P (i + 1) σ' τ' → K (a0 (i + 1)) σ' τ') → B K (a0 i) σ τ) (fin : ∀ (K : A0 → x_S → x_L → Prop) σ τ, P n σ τ → B K (a0 n) σ τ) {σ : x_S} {τ : x_L} (h : P lo σ τ) {b0 : A0} (e0 : b0 = a0 lo) : x_l1 B b0 σ τ := by
  refine x_l1_I (fun k c0 σ τ => ∃ i, lo ≤ i ∧ i + k = n ∧ P i σ τ ∧ c0 = a0 i) ?_ (n - lo) ⟨lo, Nat.le_refl _, by omega, h, e0⟩
  rintro k c0 σ τ ⟨i, h1, h2, h3, rfl⟩ K hK
  by_cases e : i = n
  · subst e
    exact fin K σ τ h3
  · exact step K i σ τ h1 (by omega) h3 (fun σ' τ' h4 => hK (k - 1) _ _ _ (by omega) ⟨i + 1, by omega, by omega, h4, rfl⟩)
theorem x_F1 {A0 : Type} {B : (A0 → x_S → x_L → Prop) → A0 → x_S → x_L → Prop} {σ : x_S} {τ : x_L} (P : Nat → Prop) (a0 : Nat → A0) {lo n : Nat} (hlo : lo ≤ n) (step : ∀ (K : A0 → x_S → x_L → Prop) i, lo ≤ i → i < n → P i → (P (i + 1) → K (a0 (i + 1)) σ τ) → B K (a0 i) σ τ) (fin : ∀ (K : A0 → x_S → x_L → Prop), P n → B K (a0 n) σ τ) (h : P lo) {b0 : A0} (e0 : b0 = a0 lo) : x_l1 B b0 σ τ := by
  refine x_S1 (fun i σ' τ' => P i ∧ σ = σ' ∧ τ = τ') a0 hlo ?_ ?_ ⟨h, rfl, rfl⟩ e0
  · rintro K i σ' τ' h1 h2 ⟨h3, rfl, rfl⟩ h4
    exact step K i h1 h2 h3 (fun h5 => h4 _ _ ⟨h5, rfl, rfl⟩)
  · rintro K σ' τ' ⟨h3, rfl, rfl⟩
    exact fin K h3
theorem x_S2 {A0 : Type} {A1 : Type} {B : (A0 → A1 → x_S → x_L → Prop) → A0 → A1 → x_S → x_L → Prop} (P : Nat → x_S → x_L → Prop) (a0 : Nat → A0) (a1 : Nat → A1) {lo n : Nat} (hlo : lo ≤ n) (step : ∀ (K : A0 → A1 → x_S → x_L → Prop) i σ τ, lo ≤ i → i < n → P i σ τ → (∀ σ' τ', P (i + 1) σ' τ' → K (a0 (i + 1)) (a1 (i + 1)) σ' τ') → B K (a0 i) (a1 i) σ τ) (fin : ∀ (K : A0 → A1 → x_S → x_L → Prop) σ τ, P n σ τ → B K (a0 n) (a1 n) σ τ) {σ : x_S} {τ : x_L} (h : P lo σ τ) {b0 : A0} {b1 : A1} (e0 : b0 = a0 lo) (e1 : b1 = a1 lo) : x_l2 B b0 b1 σ τ := by
  refine x_l2_I (fun k c0 c1 σ τ => ∃ i, lo ≤ i ∧ i + k = n ∧ P i σ τ ∧ c0 = a0 i ∧ c1 = a1 i) ?_ (n - lo) ⟨lo, Nat.le_refl _, by omega, h, e0, e1⟩
  rintro k c0 c1 σ τ ⟨i, h1, h2, h3, rfl, rfl⟩ K hK
  by_cases e : i = n
  · subst e
    exact fin K σ τ h3
  · exact step K i σ τ h1 (by omega) h3 (fun σ' τ' h4 => hK (k - 1) _ _ _ _ (by omega) ⟨i + 1, by omega, by omega, h4, rfl, rfl⟩)
theorem x_F2 {A0 : Type} {A1 : Type} {B : (A0 → A1 → x_S → x_L → Prop) → A0 → A1 → x_S → x_L → Prop} {σ : x_S} {τ : x_L} (P : Nat → Prop) (a0 : Nat → A0) (a1 : Nat → A1) {lo n : Nat} (hlo : lo ≤ n) (step : ∀ (K : A0 → A1 → x_S → x_L → Prop) i, lo ≤ i → i < n → P i → (P (i + 1) → K (a0 (i + 1)) (a1 (i + 1)) σ τ) → B K (a0 i) (a1 i) σ τ) (fin : ∀ (K : A0 → A1 → x_S → x_L → Prop), P n → B K (a0 n) (a1 n) σ τ) (h : P lo) {b0 : A0} {b1 : A1} (e0 : b0 = a0 lo) (e1 : b1 = a1 lo) : x_l2 B b0 b1 σ τ := by
  refine x_S2 (fun i σ' τ' => P i ∧ σ = σ' ∧ τ = τ') a0 a1 hlo ?_ ?_ ⟨h, rfl, rfl⟩ e0 e1
  · rintro K i σ' τ' h1 h2 ⟨h3, rfl, rfl⟩ h4
    exact step K i h1 h2 h3 (fun h5 => h4 _ _ ⟨h5, rfl, rfl⟩)
  · rintro K σ' τ' ⟨h3, rfl, rfl⟩
    exact fin K h3
theorem x_S3 {A0 : Type} {A1 : Type} {A2 : Type} {B : (A0 → A1 → A2 → x_S → x_L → Prop) → A0 → A1 → A2 → x_S → x_L → Prop} (P : Nat → x_S → x_L → Prop) (a0 : Nat → A0) (a1 : Nat → A1) (a2 : Nat → A2) {lo n : Nat} (hlo : lo ≤ n) (step : ∀ (K : A0 → A1 → A2 → x_S → x_L → Prop) i σ τ, lo ≤ i → i < n → P i σ τ → (∀ σ' τ', P (i + 1) σ' τ' → K (a0 (i + 1)) (a1 (i + 1)) (a2 (i + 1)) σ' τ') → B K (a0 i) (a1 i) (a2 i) σ τ) (fin : ∀ (K : A0 → A1 → A2 → x_S → x_L → Prop) σ τ, P n σ τ → B K (a0 n) (a1 n) (a2 n) σ τ) {σ : x_S} {τ : x_L} (h : P lo σ τ) {b0 : A0} {b1 : A1} {b2 : A2} (e0 : b0 = a0 lo) (e1 : b1 = a1 lo) (e2 : b2 = a2 lo) : x_l3 B b0 b1 b2 σ τ := by
  refine x_l3_I (fun k c0 c1 c2 σ τ => ∃ i, lo ≤ i ∧ i + k = n ∧ P i σ τ ∧ c0 = a0 i ∧ c1 = a1 i ∧ c2 = a2 i) ?_ (n - lo) ⟨lo, Nat.le_refl _, by omega, h, e0, e1, e2⟩
  rintro k c0 c1 c2 σ τ ⟨i, h1, h2, h3, rfl, rfl, rfl⟩ K hK
  by_cases e : i = n
  · subst e
    exact fin K σ τ h3
  · exact step K i σ τ h1 (by omega) h3 (fun σ' τ' h4 => hK (k - 1) _ _ _ _ _ (by omega) ⟨i + 1, by omega, by omega, h4, rfl, rfl, rfl⟩)
theorem x_F3 {A0 : Type} {A1 : Type} {A2 : Type} {B : (A0 → A1 → A2 → x_S → x_L → Prop) → A0 → A1 → A2 → x_S → x_L → Prop} {σ : x_S} {τ : x_L} (P : Nat → Prop) (a0 : Nat → A0) (a1 : Nat → A1) (a2 : Nat → A2) {lo n : Nat} (hlo : lo ≤ n) (step : ∀ (K : A0 → A1 → A2 → x_S → x_L → Prop) i, lo ≤ i → i < n → P i → (P (i + 1) → K (a0 (i + 1)) (a1 (i + 1)) (a2 (i + 1)) σ τ) → B K (a0 i) (a1 i) (a2 i) σ τ) (fin : ∀ (K : A0 → A1 → A2 → x_S → x_L → Prop), P n → B K (a0 n) (a1 n) (a2 n) σ τ) (h : P lo) {b0 : A0} {b1 : A1} {b2 : A2} (e0 : b0 = a0 lo) (e1 : b1 = a1 lo) (e2 : b2 = a2 lo) : x_l3 B b0 b1 b2 σ τ := by
  refine x_S3 (fun i σ' τ' => P i ∧ σ = σ' ∧ τ = τ') a0 a1 a2 hlo ?_ ?_ ⟨h, rfl, rfl⟩ e0 e1 e2
  · rintro K i σ' τ' h1 h2 ⟨h3, rfl, rfl⟩ h4
    exact step K i h1 h2 h3 (fun h5 => h4 _ _ ⟨h5, rfl, rfl⟩)
  · rintro K σ' τ' ⟨h3, rfl, rfl⟩
    exact fin K h3
theorem x_S4 {A0 : Type} {A1 : Type} {A2 : Type} {A3 : Type} {B : (A0 → A1 → A2 → A3 → x_S → x_L → Prop) → A0 → A1 → A2 → A3 → x_S → x_L → Prop} (P : Nat → x_S → x_L → Prop) (a0 : Nat → A0) (a1 : Nat → A1) (a2 : Nat → A2) (a3 : Nat → A3) {lo n : Nat} (hlo : lo ≤ n) (step : ∀ (K : A0 → A1 → A2 → A3 → x_S → x_L → Prop) i σ τ, lo ≤ i → i < n → P i σ τ → (∀ σ' τ', P (i + 1) σ' τ' → K (a0 (i + 1)) (a1 (i + 1)) (a2 (i + 1)) (a3 (i + 1)) σ' τ') → B K (a0 i) (a1 i) (a2 i) (a3 i) σ τ) (fin : ∀ (K : A0 → A1 → A2 → A3 → x_S → x_L → Prop) σ τ, P n σ τ → B K (a0 n) (a1 n) (a2 n) (a3 n) σ τ) {σ : x_S} {τ : x_L} (h : P lo σ τ) {b0 : A0} {b1 : A1} {b2 : A2} {b3 : A3} (e0 : b0 = a0 lo) (e1 : b1 = a1 lo) (e2 : b2 = a2 lo) (e3 : b3 = a3 lo) : x_l4 B b0 b1 b2 b3 σ τ := by
  refine x_l4_I (fun k c0 c1 c2 c3 σ τ => ∃ i, lo ≤ i ∧ i + k = n ∧ P i σ τ ∧ c0 = a0 i ∧ c1 = a1 i ∧ c2 = a2 i ∧ c3 = a3 i) ?_ (n - lo) ⟨lo, Nat.le_refl _, by omega, h, e0, e1, e2, e3⟩
  rintro k c0 c1 c2 c3 σ τ ⟨i, h1, h2, h3, rfl, rfl, rfl, rfl⟩ K hK
  by_cases e : i = n
  · subst e
    exact fin K σ τ h3
  · exact step K i σ τ h1 (by omega) h3 (fun σ' τ' h4 => hK (k - 1) _ _ _ _ _ _ (by omega) ⟨i + 1, by omega, by omega, h4, rfl, rfl, rfl, rfl⟩)
theorem x_F4 {A0 : Type} {A1 : Type} {A2 : Type} {A3 : Type} {B : (A0 → A1 → A2 → A3 → x_S → x_L → Prop) → A0 → A1 → A2 → A3 → x_S → x_L → Prop} {σ : x_S} {τ : x_L} (P : Nat → Prop) (a0 : Nat → A0) (a1 : Nat → A1) (a2 : Nat → A2) (a3 : Nat → A3) {lo n : Nat} (hlo : lo ≤ n) (step : ∀ (K : A0 → A1 → A2 → A3 → x_S → x_L → Prop) i, lo ≤ i → i < n → P i → (P (i + 1) → K (a0 (i + 1)) (a1 (i + 1)) (a2 (i + 1)) (a3 (i + 1)) σ τ) → B K (a0 i) (a1 i) (a2 i) (a3 i) σ τ) (fin : ∀ (K : A0 → A1 → A2 → A3 → x_S → x_L → Prop), P n → B K (a0 n) (a1 n) (a2 n) (a3 n) σ τ) (h : P lo) {b0 : A0} {b1 : A1} {b2 : A2} {b3 : A3} (e0 : b0 = a0 lo) (e1 : b1 = a1 lo) (e2 : b2 = a2 lo) (e3 : b3 = a3 lo) : x_l4 B b0 b1 b2 b3 σ τ := by
  refine x_S4 (fun i σ' τ' => P i ∧ σ = σ' ∧ τ = τ') a0 a1 a2 a3 hlo ?_ ?_ ⟨h, rfl, rfl⟩ e0 e1 e2 e3
  · rintro K i σ' τ' h1 h2 ⟨h3, rfl, rfl⟩ h4
    exact step K i h1 h2 h3 (fun h5 => h4 _ _ ⟨h5, rfl, rfl⟩)
  · rintro K σ' τ' ⟨h3, rfl, rfl⟩
    exact fin K h3
theorem x_S5 {A0 : Type} {A1 : Type} {A2 : Type} {A3 : Type} {A4 : Type} {B : (A0 → A1 → A2 → A3 → A4 → x_S → x_L → Prop) → A0 → A1 → A2 → A3 → A4 → x_S → x_L → Prop} (P : Nat → x_S → x_L → Prop) (a0 : Nat → A0) (a1 : Nat → A1) (a2 : Nat → A2) (a3 : Nat → A3) (a4 : Nat → A4) {lo n : Nat} (hlo : lo ≤ n) (step : ∀ (K : A0 → A1 → A2 → A3 → A4 → x_S → x_L → Prop) i σ τ, lo ≤ i → i < n → P i σ τ → (∀ σ' τ', P (i + 1) σ' τ' → K (a0 (i + 1)) (a1 (i + 1)) (a2 (i + 1)) (a3 (i + 1)) (a4 (i + 1)) σ' τ') → B K (a0 i) (a1 i) (a2 i) (a3 i) (a4 i) σ τ) (fin : ∀ (K : A0 → A1 → A2 → A3 → A4 → x_S → x_L → Prop) σ τ, P n σ τ → B K (a0 n) (a1 n) (a2 n) (a3 n) (a4 n) σ τ) {σ : x_S} {τ : x_L} (h : P lo σ τ) {b0 : A0} {b1 : A1} {b2 : A2} {b3 : A3} {b4 : A4} (e0 : b0 = a0 lo) (e1 : b1 = a1 lo) (e2 : b2 = a2 lo) (e3 : b3 = a3 lo) (e4 : b4 = a4 lo) : x_l5 B b0 b1 b2 b3 b4 σ τ := by
  refine x_l5_I (fun k c0 c1 c2 c3 c4 σ τ => ∃ i, lo ≤ i ∧ i + k = n ∧ P i σ τ ∧ c0 = a0 i ∧ c1 = a1 i ∧ c2 = a2 i ∧ c3 = a3 i ∧ c4 = a4 i) ?_ (n - lo) ⟨lo, Nat.le_refl _, by omega, h, e0, e1, e2, e3, e4⟩
  rintro k c0 c1 c2 c3 c4 σ τ ⟨i, h1, h2, h3, rfl, rfl, rfl, rfl, rfl⟩ K hK
  by_cases e : i = n
  · subst e
    exact fin K σ τ h3
  · exact step K i σ τ h1 (by omega) h3 (fun σ' τ' h4 => hK (k - 1) _ _ _ _ _ _ _ (by omega) ⟨i + 1, by omega, by omega, h4, rfl, rfl, rfl, rfl, rfl⟩)
theorem x_F5 {A0 : Type} {A1 : Type} {A2 : Type} {A3 : Type} {A4 : Type} {B : (A0 → A1 → A2 → A3 → A4 → x_S → x_L → Prop) → A0 → A1 → A2 → A3 → A4 → x_S → x_L → Prop} {σ : x_S} {τ : x_L} (P : Nat → Prop) (a0 : Nat → A0) (a1 : Nat → A1) (a2 : Nat → A2) (a3 : Nat → A3) (a4 : Nat → A4) {lo n : Nat} (hlo : lo ≤ n) (step : ∀ (K : A0 → A1 → A2 → A3 → A4 → x_S → x_L → Prop) i, lo ≤ i → i < n → P i → (P (i + 1) → K (a0 (i + 1)) (a1 (i + 1)) (a2 (i + 1)) (a3 (i + 1)) (a4 (i + 1)) σ τ) → B K (a0 i) (a1 i) (a2 i) (a3 i) (a4 i) σ τ) (fin : ∀ (K : A0 → A1 → A2 → A3 → A4 → x_S → x_L → Prop), P n → B K (a0 n) (a1 n) (a2 n) (a3 n) (a4 n) σ τ) (h : P lo) {b0 : A0} {b1 : A1} {b2 : A2} {b3 : A3} {b4 : A4} (e0 : b0 = a0 lo) (e1 : b1 = a1 lo) (e2 : b2 = a2 lo) (e3 : b3 = a3 lo) (e4 : b4 = a4 lo) : x_l5 B b0 b1 b2 b3 b4 σ τ := by
  refine x_S5 (fun i σ' τ' => P i ∧ σ = σ' ∧ τ = τ') a0 a1 a2 a3 a4 hlo ?_ ?_ ⟨h, rfl, rfl⟩ e0 e1 e2 e3 e4
  · rintro K i σ' τ' h1 h2 ⟨h3, rfl, rfl⟩ h4
    exact step K i h1 h2 h3 (fun h5 => h4 _ _ ⟨h5, rfl, rfl⟩)
  · rintro K σ' τ' ⟨h3, rfl, rfl⟩
    exact fin K h3
theorem x_S6 {A0 : Type} {A1 : Type} {A2 : Type} {A3 : Type} {A4 : Type} {A5 : Type} {B : (A0 → A1 → A2 → A3 → A4 → A5 → x_S → x_L → Prop) → A0 → A1 → A2 → A3 → A4 → A5 → x_S → x_L → Prop} (P : Nat → x_S → x_L → Prop) (a0 : Nat → A0) (a1 : Nat → A1) (a2 : Nat → A2) (a3 : Nat → A3) (a4 : Nat → A4) (a5 : Nat → A5) {lo n : Nat} (hlo : lo ≤ n) (step : ∀ (K : A0 → A1 → A2 → A3 → A4 → A5 → x_S → x_L → Prop) i σ τ, lo ≤ i → i < n → P i σ τ → (∀ σ' τ', P (i + 1) σ' τ' → K (a0 (i + 1)) (a1 (i + 1)) (a2 (i + 1)) (a3 (i + 1)) (a4 (i + 1)) (a5 (i + 1)) σ' τ') → B K (a0 i) (a1 i) (a2 i) (a3 i) (a4 i) (a5 i) σ τ) (fin : ∀ (K : A0 → A1 → A2 → A3 → A4 → A5 → x_S → x_L → Prop) σ τ, P n σ τ → B K (a0 n) (a1 n) (a2 n) (a3 n) (a4 n) (a5 n) σ τ) {σ : x_S} {τ : x_L} (h : P lo σ τ) {b0 : A0} {b1 : A1} {b2 : A2} {b3 : A3} {b4 : A4} {b5 : A5} (e0 : b0 = a0 lo) (e1 : b1 = a1 lo) (e2 : b2 = a2 lo) (e3 : b3 = a3 lo) (e4 : b4 = a4 lo) (e5 : b5 = a5 lo) : x_l6 B b0 b1 b2 b3 b4 b5 σ τ := by
  refine x_l6_I (fun k c0 c1 c2 c3 c4 c5 σ τ => ∃ i, lo ≤ i ∧ i + k = n ∧ P i σ τ ∧ c0 = a0 i ∧ c1 = a1 i ∧ c2 = a2 i ∧ c3 = a3 i ∧ c4 = a4 i ∧ c5 = a5 i) ?_ (n - lo) ⟨lo, Nat.le_refl _, by omega, h, e0, e1, e2, e3, e4, e5⟩
  rintro k c0 c1 c2 c3 c4 c5 σ τ ⟨i, h1, h2, h3, rfl, rfl, rfl, rfl, rfl, rfl⟩ K hK
  by_cases e : i = n
  · subst e
    exact fin K σ τ h3
  · exact step K i σ τ h1 (by omega) h3 (fun σ' τ' h4 => hK (k - 1) _ _ _ _ _ _ _ _ (by omega) ⟨i + 1, by omega, by omega, h4, rfl, rfl, rfl, rfl, rfl, rfl⟩)
theorem x_F6 {A0 : Type} {A1 : Type} {A2 : Type} {A3 : Type} {A4 : Type} {A5 : Type} {B : (A0 → A1 → A2 → A3 → A4 → A5 → x_S → x_L → Prop) → A0 → A1 → A2 → A3 → A4 → A5 → x_S → x_L → Prop} {σ : x_S} {τ : x_L} (P : Nat → Prop) (a0 : Nat → A0) (a1 : Nat → A1) (a2 : Nat → A2) (a3 : Nat → A3) (a4 : Nat → A4) (a5 : Nat → A5) {lo n : Nat} (hlo : lo ≤ n) (step : ∀ (K : A0 → A1 → A2 → A3 → A4 → A5 → x_S → x_L → Prop) i, lo ≤ i → i < n → P i → (P (i + 1) → K (a0 (i + 1)) (a1 (i + 1)) (a2 (i + 1)) (a3 (i + 1)) (a4 (i + 1)) (a5 (i + 1)) σ τ) → B K (a0 i) (a1 i) (a2 i) (a3 i) (a4 i) (a5 i) σ τ) (fin : ∀ (K : A0 → A1 → A2 → A3 → A4 → A5 → x_S → x_L → Prop), P n → B K (a0 n) (a1 n) (a2 n) (a3 n) (a4 n) (a5 n) σ τ) (h : P lo) {b0 : A0} {b1 : A1} {b2 : A2} {b3 : A3} {b4 : A4} {b5 : A5} (e0 : b0 = a0 lo) (e1 : b1 = a1 lo) (e2 : b2 = a2 lo) (e3 : b3 = a3 lo) (e4 : b4 = a4 lo) (e5 : b5 = a5 lo) : x_l6 B b0 b1 b2 b3 b4 b5 σ τ := by
  refine x_S6 (fun i σ' τ' => P i ∧ σ = σ' ∧ τ = τ') a0 a1 a2 a3 a4 a5 hlo ?_ ?_ ⟨h, rfl, rfl⟩ e0 e1 e2 e3 e4 e5
  · rintro K i σ' τ' h1 h2 ⟨h3, rfl, rfl⟩ h4
    exact step K i h1 h2 h3 (fun h5 => h4 _ _ ⟨h5, rfl, rfl⟩)
  · rintro K σ' τ' ⟨h3, rfl, rfl⟩
    exact fin K h3
theorem x_S7 {A0 : Type} {A1 : Type} {A2 : Type} {A3 : Type} {A4 : Type} {A5 : Type} {A6 : Type} {B : (A0 → A1 → A2 → A3 → A4 → A5 → A6 → x_S → x_L → Prop) → A0 → A1 → A2 → A3 → A4 → A5 → A6 → x_S → x_L → Prop} (P : Nat → x_S → x_L → Prop) (a0 : Nat → A0) (a1 : Nat → A1) (a2 : Nat → A2) (a3 : Nat → A3) (a4 : Nat → A4) (a5 : Nat → A5) (a6 : Nat → A6) {lo n : Nat} (hlo : lo ≤ n) (step : ∀ (K : A0 → A1 → A2 → A3 → A4 → A5 → A6 → x_S → x_L → Prop) i σ τ, lo ≤ i → i < n → P i σ τ → (∀ σ' τ', P (i + 1) σ' τ' → K (a0 (i + 1)) (a1 (i + 1)) (a2 (i + 1)) (a3 (i + 1)) (a4 (i + 1)) (a5 (i + 1)) (a6 (i + 1)) σ' τ') → B K (a0 i) (a1 i) (a2 i) (a3 i) (a4 i) (a5 i) (a6 i) σ τ) (fin : ∀ (K : A0 → A1 → A2 → A3 → A4 → A5 → A6 → x_S → x_L → Prop) σ τ, P n σ τ → B K (a0 n) (a1 n) (a2 n) (a3 n) (a4 n) (a5 n) (a6 n) σ τ) {σ : x_S} {τ : x_L} (h : P lo σ τ) {b0 : A0} {b1 : A1} {b2 : A2} {b3 : A3} {b4 : A4} {b5 : A5} {b6 : A6} (e0 : b0 = a0 lo) (e1 : b1 = a1 lo) (e2 : b2 = a2 lo) (e3 : b3 = a3 lo) (e4 : b4 = a4 lo) (e5 : b5 = a5 lo) (e6 : b6 = a6 lo) : x_l7 B b0 b1 b2 b3 b4 b5 b6 σ τ := by
  refine x_l7_I (fun k c0 c1 c2 c3 c4 c5 c6 σ τ => ∃ i, lo ≤ i ∧ i + k = n ∧ P i σ τ ∧ c0 = a0 i ∧ c1 = a1 i ∧ c2 = a2 i ∧ c3 = a3 i ∧ c4 = a4 i ∧ c5 = a5 i ∧ c6 = a6 i) ?_ (n - lo) ⟨lo, Nat.le_refl _, by omega, h, e0, e1, e2, e3, e4, e5, e6⟩
  rintro k c0 c1 c2 c3 c4 c5 c6 σ τ ⟨i, h1, h2, h3, rfl, rfl, rfl, rfl, rfl, rfl, rfl⟩ K hK
  by_cases e : i = n
  · subst e
    exact fin K σ τ h3
  · exact step K i σ τ h1 (by omega) h3 (fun σ' τ' h4 => hK (k - 1) _ _ _ _ _ _ _ _ _ (by omega) ⟨i + 1, by omega, by omega, h4, rfl, rfl, rfl, rfl, rfl, rfl, rfl⟩)
theorem x_F7 {A0 : Type} {A1 : Type} {A2 : Type} {A3 : Type} {A4 : Type} {A5 : Type} {A6 : Type} {B : (A0 → A1 → A2 → A3 → A4 → A5 → A6 → x_S → x_L → Prop) → A0 → A1 → A2 → A3 → A4 → A5 → A6 → x_S → x_L → Prop} {σ : x_S} {τ : x_L} (P : Nat → Prop) (a0 : Nat → A0) (a1 : Nat → A1) (a2 : Nat → A2) (a3 : Nat → A3) (a4 : Nat → A4) (a5 : Nat → A5) (a6 : Nat → A6) {lo n : Nat} (hlo : lo ≤ n) (step : ∀ (K : A0 → A1 → A2 → A3 → A4 → A5 → A6 → x_S → x_L → Prop) i, lo ≤ i → i < n → P i → (P (i + 1) → K (a0 (i + 1)) (a1 (i + 1)) (a2 (i + 1)) (a3 (i + 1)) (a4 (i + 1)) (a5 (i + 1)) (a6 (i + 1)) σ τ) → B K (a0 i) (a1 i) (a2 i) (a3 i) (a4 i) (a5 i) (a6 i) σ τ) (fin : ∀ (K : A0 → A1 → A2 → A3 → A4 → A5 → A6 → x_S → x_L → Prop), P n → B K (a0 n) (a1 n) (a2 n) (a3 n) (a4 n) (a5 n) (a6 n) σ τ) (h : P lo) {b0 : A0} {b1 : A1} {b2 : A2} {b3 : A3} {b4 : A4} {b5 : A5} {b6 : A6} (e0 : b0 = a0 lo) (e1 : b1 = a1 lo) (e2 : b2 = a2 lo) (e3 : b3 = a3 lo) (e4 : b4 = a4 lo) (e5 : b5 = a5 lo) (e6 : b6 = a6 lo) : x_l7 B b0 b1 b2 b3 b4 b5 b6 σ τ := by
  refine x_S7 (fun i σ' τ' => P i ∧ σ = σ' ∧ τ = τ') a0 a1 a2 a3 a4 a5 a6 hlo ?_ ?_ ⟨h, rfl, rfl⟩ e0 e1 e2 e3 e4 e5 e6
  · rintro K i σ' τ' h1 h2 ⟨h3, rfl, rfl⟩ h4
    exact step K i h1 h2 h3 (fun h5 => h4 _ _ ⟨h5, rfl, rfl⟩)
  · rintro K σ' τ' ⟨h3, rfl, rfl⟩
    exact fin K h3
