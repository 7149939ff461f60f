/-! what an order of a platoon is worth -/
def g_vA (N C : g_F) (o : Nat → Nat) (i : Nat) : Nat := g_base N C (o 0) * g_share (g_gap2 N (o i / 10) (o (i - 1) / 10)) / 1000
def g_vB (N C : g_F) (o : Nat → Nat) : Nat := g_base N C (o 0) * (g_share (g_gap2 N (o 1 / 10) (o 0 / 10)) / 4) / 1000
def g_cu (N : g_F) (o : Nat → Nat) (i : Nat) : Bool := decide (i ≠ 0 ∧ g_nxt N (o i) ≠ 0 ∧ g_nxt N (o (i - 1)) ≠ g_nxt N (o i) ∧ ∃ k, k < i - 1 ∧ g_nxt N (o k) = g_nxt N (o i))
def g_vI (N C : g_F) (o : Nat → Nat) (m : Nat) : Nat → Int
  | 0 => 0
  | i + 1 => g_vI N C o m i + ((if i = 0 then (if 1 < m then g_vB N C o else 0) else g_vA N C o i : Nat) : Int) - (if g_cu N o i = true then 300 else 0)
theorem e_oiA (a : Int) (b : Nat) : Int32.ofInt a + nI b = Int32.ofInt (a + b) := by
  have h := Int32.ofInt_add a (b : Int)
  rw [Int32.ofInt_eq_ofNat] at h
  exact h.symm
theorem e_oi3 (a : Int) : Int32.ofInt a + (-300) = Int32.ofInt (a - 300) := by
  have h := Int32.ofInt_add a (-300)
  rw [show Int32.ofInt (-300) = (-300 : Int32) from by decide +kernel] at h
  rw [← h, Int.sub_eq_add_neg]
theorem e_oiS (a : Int) (b : Nat) : Int32.ofInt a + (nI b - 300) = Int32.ofInt (a + b - 300) := by
  have h := Int32.ofInt_sub (b : Int) 300
  rw [Int32.ofInt_eq_ofNat, show Int32.ofInt 300 = (300 : Int32) from by decide +kernel] at h
  have e : (nI b - 300 : Int32) = Int32.ofInt ((b : Int) - 300) := h.symm
  rw [e, ← Int32.ofInt_add]
  congr 1
  omega
theorem g_cu_iff {N : g_F} {w : Nat → Nat} {lo i : Nat} : g_cu N (fun j => w (lo + j)) i = true ↔ g_cup N w lo (lo + i) := by
  unfold g_cu g_cup
  rw [decide_eq_true_iff]
  constructor
  · rintro ⟨a, b, c, k, d, e⟩
    exact ⟨by omega, b, by rw [show lo + i - 1 = lo + (i - 1) by omega]; exact c, lo + k, by omega, by omega, e⟩
  · rintro ⟨a, b, c, k, d, e, f⟩
    rw [show lo + i - 1 = lo + (i - 1) by omega] at c
    exact ⟨by omega, b, c, k - lo, by omega, by show g_nxt N (w (lo + (k - lo))) = _; rw [show lo + (k - lo) = k by omega]; exact f⟩
theorem g_cu_0 (N : g_F) (o : Nat → Nat) : ¬ g_cu N o 0 = true := fun h => (of_decide_eq_true h).1 rfl
section VA
variable {N C : g_F} {w : Nat → Nat} {σ ρ : x_S} {τ θ : x_L} {Q : Int32 → x_S → x_L → Prop}
theorem sX_value (hN : g_WN N) (hW : g_WC N C) (hF : f_F N σ) (hR : f_R N σ τ) (hC : f_C N C 33 σ) {c n lo m : Nat} (hn : n ≤ 120) (hm : 1 ≤ m) (hlo : lo + m ≤ n) (hw : ∀ j, j < lo + m → σ c j = nI (w j)) (his : ∀ j, lo ≤ j → j < lo + m → g_is N (w j)) (h : Q (Int32.ofInt (g_vI N C (fun i => w (lo + i)) m m)) σ τ) : wX6_valueOfOrder 33 c n (nI lo) (nI (lo + m)) σ τ Q := by
  have hsl := his lo (Nat.le_refl _) (by omega)
  have hbb := g_base_b hN hW hsl
  unfold wX6_valueOfOrder
  rw [i_cl (show lo < 1000000000 by omega), hw lo (by omega), show (nI lo + 1 : Int32) = nI (lo + 1) from nI_add lo 1]
  refine ⟨i_in (by omega) (by omega), sX_base (by omega) hN hW hF hC hsl ?_⟩
  have B0 : ∀ i, g_vA N C (fun i => w (lo + i)) i = g_base N C (w lo) * g_share (g_gap2 N (w (lo + i) / 10) (w (lo + (i - 1)) / 10)) / 1000 := fun i => rfl
  have B1 : g_vB N C (fun i => w (lo + i)) = g_base N C (w lo) * (g_share (g_gap2 N (w (lo + 1) / 10) (w (lo + 0) / 10)) / 4) / 1000 := rfl
  generalize ho : (fun i => w (lo + i)) = o at h B0 B1
  have g1 : g_vI N C o m 1 = ((if 1 < m then g_vB N C o else 0 : Nat) : Int) := by
    rw [g_vI, g_vI, if_pos rfl, if_neg (g_cu_0 N o)]
    omega
  have gs : ∀ i, 1 ≤ i → g_vI N C o m (i + 1) = g_vI N C o m i + (g_vA N C o i : Int) - (if g_cu N o i = true then 300 else 0) := fun i hi => by
    rw [g_vI, if_neg (show ¬ i = 0 by omega)]
  refine x_F5 (fun _ => True) (fun _ => nI lo) (fun _ => nI (lo + m)) (fun _ => nI (g_base N C (w lo))) (fun i => Int32.ofInt (g_vI N C o m i - ((if i = 1 ∧ 1 < m then g_vB N C o else 0 : Nat) : Int))) (fun i => nI (lo + i)) (lo := 1) (n := m) hm (fun K i hi1 him _ hK => ?_) (fun K _ => ?_) trivial rfl rfl rfl ?_ rfl
  · have hK := hK trivial
    rw [if_neg (show ¬ (i + 1 = 1 ∧ 1 < m) by omega), gs i hi1, ← Nat.add_assoc] at hK
    have hs1 := his (lo + i) (by omega) (by omega)
    have hs2 := his (lo + i - 1) (by omega) (by omega)
    have hgap := g_gap_b hN hs1.1 hs2.1
    have hsh := g_share_b (g_gap2 N (w (lo + i) / 10) (w (lo + i - 1) / 10))
    unfold wX6_valueOfOrder_17
    refine i_le (by omega) (by omega) (fun g => absurd g (by omega)) (fun _ => sX_distAt (b := 33) hN hF (w := w) (i := lo + i) (fun j hj => hw j (by omega)) (by omega) (by omega) hn hs1 hs2 (sX_shareBy (by omega) ?_))
    have eA : g_vA N C o i = g_base N C (w lo) * g_share (g_gap2 N (w (lo + i) / 10) (w (lo + i - 1) / 10)) / 1000 := by
      rw [B0, show lo + (i - 1) = lo + i - 1 by omega]
    rw [e_sav hbb hsh, ← eA]
    have fin : ∀ x : Int, x = g_vI N C o m i + (g_vA N C o i : Int) → wX6_valueOfOrder_73 33 c n K Q (nI lo) (nI (lo + m)) (nI (g_base N C (w lo))) (Int32.ofInt x) (nI (lo + i)) σ τ := fun x ex => by
      unfold wX6_valueOfOrder_73 wX6_valueOfOrder_90
      rw [show (nI (lo + i) + 1 : Int32) = nI (lo + i + 1) from nI_add _ 1]
      refine sX_closesAt (b := 33) hN hR (w := w) (fun j hj => hw j (by omega)) (by omega) (by omega) hn (fun j a1 a2 => his j a1 (by omega)) (fun g => i_one' ?_) (fun g => i_zer ?_)
      · have hc : g_cu N o i = true := by
          rw [← ho]
          exact g_cu_iff.mpr g
        rw [if_pos hc] at hK
        rw [e_oi3, ex]
        rw [show g_vI N C o m i + (g_vA N C o i : Int) - 300 - ((0 : Nat) : Int) = g_vI N C o m i + (g_vA N C o i : Int) - 300 by omega] at hK
        exact hK
      · have hc : ¬ g_cu N o i = true := by
          rw [← ho]
          exact fun y => g (g_cu_iff.mp y)
        rw [if_neg hc] at hK
        rw [ex]
        rw [show g_vI N C o m i + (g_vA N C o i : Int) - 0 - ((0 : Nat) : Int) = g_vI N C o m i + (g_vA N C o i : Int) by omega] at hK
        exact hK
    rw [e_oiA, show (nI lo + 1 : Int32) = nI (lo + 1) from nI_add lo 1]
    refine i_ne (a := lo + i) (b := lo + 1) (by omega) (by omega) (fun g => ?_) (fun g => ?_)
    · rw [if_neg (show ¬ (i = 1 ∧ 1 < m) by omega)]
      exact fin _ (by omega)
    · have e1 : i = 1 := by omega
      subst e1
      rw [if_pos (show 1 = 1 ∧ 1 < m from ⟨rfl, him⟩)]
      rw [show (nI (g_share (g_gap2 N (w (lo + 1) / 10) (w (lo + 1 - 1) / 10))) / 4 : Int32) = nI (g_share (g_gap2 N (w (lo + 1) / 10) (w (lo + 1 - 1) / 10)) / 4) from nI_div (b := 4) (by omega) (by omega) (by omega), e_sav hbb (by omega)]
      rw [show g_base N C (w lo) * (g_share (g_gap2 N (w (lo + 1) / 10) (w (lo + 1 - 1) / 10)) / 4) / 1000 = g_vB N C o from B1.symm, e_oiA]
      exact fin _ (by omega)
  · unfold wX6_valueOfOrder_17
    refine i_le (by omega) (by omega) (fun _ => ?_) (fun g => absurd g (by omega))
    rw [if_neg (show ¬ (m = 1 ∧ 1 < m) by omega), show g_vI N C o m m - ((0 : Nat) : Int) = g_vI N C o m m by omega]
    exact h
  · rw [g1]
    by_cases z : 1 < m
    · rw [if_pos z, if_pos ⟨rfl, z⟩, Int.sub_self]
      rfl
    · rw [if_neg z, if_neg (fun y => z y.2), Int.sub_self]
      rfl
/-- an order that the reference has laid -/
def m_Q (o : Nat → Nat) (m : Nat) (ρ : x_S) : Prop := ∀ i, i < m → ρ 13 i = nI (o i / 10) ∧ ρ 14 i = nI (o i % 10)
theorem sM_shareG (hN : g_WN N) (hF : m_F N ρ) {o : Nat → Nat} {m i : Nat} (hm : m ≤ 12) (hO : m_Q o m ρ) (his : ∀ i, i < m → g_is N (o i)) (h0 : 0 < i) (hi : i < m) (h : Q (nI (g_share (g_gap2 N (o i / 10) (o (i - 1) / 10)))) ρ θ) : wX11_shareOf (nI i) ρ θ Q := by
  have m1 := (his i hi).1
  have m2 := (his (i - 1) (by omega)).1
  have hb := g_gap_b hN m1 m2
  have g1 := (hN.2.2.1 _ m1).2.2.2.1
  have g2 := (hN.2.2.1 _ m2).2.2.2.1
  unfold wX11_shareOf wX11_distanceBehind
  refine ⟨i_in (by omega) (by omega), ?_⟩
  rw [i_cl (by omega), (hO i hi).1]
  refine sM_gap hN hF m1 ?_
  rw [show (nI i - 1 : Int32) = nI (i - 1) from nI_sub (b := 1) (by omega), i_cl (by omega), (hO (i - 1) (by omega)).1]
  refine ⟨i_in (by omega) (by omega), sM_gap hN hF m2 (sM_max (by omega) (by omega) ?_)⟩
  show wX11_max 0 (150 - 3 * nI (g_gap2 N (o i / 10) (o (i - 1) / 10))) ρ θ _
  rcases e_share _ (show g_gap2 N (o i / 10) (o (i - 1) / 10) < 61 by omega) with ⟨-, e⟩ | ⟨-, e, e2⟩
  · rw [e]
    have := g_share_b (g_gap2 N (o i / 10) (o (i - 1) / 10))
    refine sM_max (a := 0) (by omega) (by omega) ?_
    rw [Nat.max_eq_right (Nat.zero_le _)]
    exact h
  · rw [e2] at h
    unfold wX11_max wX11_max_10
    exact ⟨fun z => absurd z e, fun _ => h⟩
theorem sM_savingG (hN : g_WN N) (hW : g_WC N C) (hF : m_F N ρ) (hC : m_C N C 0 ρ) {o : Nat → Nat} {m i : Nat} (hm : m ≤ 12) (hO : m_Q o m ρ) (his : ∀ i, i < m → g_is N (o i)) (hB : ∀ i, i < m → g_base N C (o i) = g_base N C (o 0)) (hi : i < m) (h : Q (nI (if i = 0 then (if 1 < m then g_vB N C o else 0) else g_vA N C o i)) ρ θ) : wX11_savingOf (nI i) (nI m) ρ θ Q := by
  have hs := his i hi
  have hbb := g_base_b hN hW hs
  unfold wX11_savingOf wX11_savingOf_55
  refine ⟨i_in (by omega) (by omega), ?_⟩
  rw [i_cl (by omega), (hO i hi).1, (hO i hi).2]
  refine sM_base hN hW hF hC hs.1 hs.2 ?_
  rw [← g_is_eq (s := o i)]
  refine i_le (b := 0) (by omega) (by omega) (fun g => ?_) (fun g => ?_)
  · rw [if_pos (by omega)] at h
    refine i_le (b := 1) (by omega) (by omega) (fun g2 => ?_) (fun g2 => ?_)
    · rw [if_neg (by omega)] at h
      exact h
    · rw [if_pos g2] at h
      refine sM_shareG (i := 1) hN hF hm hO his (by omega) g2 ?_
      have := g_share_b (g_gap2 N (o 1 / 10) (o (1 - 1) / 10))
      rw [show (nI (g_share (g_gap2 N (o 1 / 10) (o (1 - 1) / 10))) / 4 : Int32) = nI (g_share (g_gap2 N (o 1 / 10) (o (1 - 1) / 10)) / 4) from nI_div (b := 4) (by omega) (by omega) (by omega), e_sav hbb (by omega), hB i hi]
      exact h
  · rw [if_neg (by omega)] at h
    refine sM_shareG hN hF hm hO his g hi ?_
    rw [e_sav hbb (g_share_b _), hB i hi]
    exact h
theorem sM_closingG (hN : g_WN N) (hF : m_F N ρ) {o : Nat → Nat} {m i : Nat} (hm : m ≤ 12) (hO : m_Q o m ρ) (his : ∀ i, i < m → g_is N (o i)) (hi : i < m) (h1 : g_cu N o i = true → Q 1 ρ θ) (h0 : ¬ g_cu N o i = true → Q 0 ρ θ) : wX11_isClosing (nI i) ρ θ Q := by
  have clo : g_cu N o i = true ↔ (i ≠ 0 ∧ g_nxt N (o i) ≠ 0 ∧ g_nxt N (o (i - 1)) ≠ g_nxt N (o i) ∧ ∃ k, k < i - 1 ∧ g_nxt N (o k) = g_nxt N (o i)) := decide_eq_true_iff
  have no : (¬ (i ≠ 0 ∧ g_nxt N (o i) ≠ 0 ∧ g_nxt N (o (i - 1)) ≠ g_nxt N (o i) ∧ ∃ k, k < i - 1 ∧ g_nxt N (o k) = g_nxt N (o i))) → Q 0 ρ θ := fun g => h0 (fun z => g (clo.mp z))
  have nb : ∀ j, j < m → g_nxt N (o j) < 1000 := fun j hj => by
    have := g_nxt_b hN (his j hj)
    omega
  have nx : ∀ j, j < m → ∀ {Q : Int32 → x_S → x_L → Prop}, Q (g_nI (g_nxt N (o j))) ρ θ → wX11_nextRoad (nI (o j / 10)) (nI (o j % 10)) ρ θ Q := fun j hj Q hq => by
    refine sM_next hN hF (his j hj).1 (his j hj).2 ?_
    rw [← g_is_eq (s := o j)]
    exact hq
  unfold wX11_isClosing wX11_isClosing_50
  refine ⟨i_in (by omega) (by omega), ?_⟩
  rw [i_cl (by omega), (hO i hi).1, (hO i hi).2]
  refine nx i hi ?_
  refine i_eq (b := 0) (by omega) (by omega) (fun g => no (fun z => z.1 g)) (fun g => ?_)
  refine ⟨fun g2 => no (fun z => z.2.1 ((g_nI_m1 (nb i hi)).mp g2)), fun g2 => ?_⟩
  have g2' : g_nxt N (o i) ≠ 0 := fun z => g2 ((g_nI_m1 (nb i hi)).mpr z)
  rw [show (nI i - 1 : Int32) = nI (i - 1) from nI_sub (b := 1) (by omega), i_cl (by omega), (hO (i - 1) (by omega)).1, (hO (i - 1) (by omega)).2]
  refine ⟨i_in (by omega) (by omega), nx (i - 1) (by omega) ?_⟩
  refine ⟨fun g3 => ?_, fun g3 => no (fun z => z.2.2.1 ((g_nI_eq (nb _ (by omega)) (nb i hi)).mp g3))⟩
  have g3' : g_nxt N (o (i - 1)) ≠ g_nxt N (o i) := fun z => g3 (by rw [z])
  refine x_l4_I (fun k a b c e ρ' θ' => ∃ j, a = nI i ∧ b = g_nI (g_nxt N (o i)) ∧ e = nI j ∧ j + k = i - 1 ∧ ρ = ρ' ∧ θ = θ' ∧ ((c = 1 ∧ ∃ k, k < j ∧ g_nxt N (o k) = g_nxt N (o i)) ∨ (c = 0 ∧ ∀ k, k < j → g_nxt N (o k) ≠ g_nxt N (o i)))) ?_ (i - 1) ⟨0, rfl, rfl, rfl, Nat.zero_add _, rfl, rfl, Or.inr ⟨rfl, fun k hk => absurd hk (Nat.not_lt_zero _)⟩⟩
  rintro k a b c e ρ' θ' ⟨j, rfl, rfl, rfl, hk, rfl, rfl, hI⟩ K hK
  unfold wX11_isClosing_57
  rw [show (nI i - 1 : Int32) = nI (i - 1) from nI_sub (b := 1) (by omega)]
  refine i_le (by omega) (by omega) (fun g4 => ?_) (fun g4 => ?_)
  · have ej : j = i - 1 := by omega
    subst ej
    rcases hI with ⟨rfl, hx⟩ | ⟨rfl, hx⟩
    · exact ⟨Or.inr rfl, h1 (clo.mpr ⟨g, g2', g3', hx⟩)⟩
    · exact ⟨Or.inl rfl, no (fun z => by
        obtain ⟨k, z1, z2⟩ := z.2.2.2
        exact hx k z1 z2)⟩
  · refine ⟨i_in (by omega) (by omega), ?_⟩
    rw [i_cl (by omega), (hO j (by omega)).1, (hO j (by omega)).2]
    refine nx j (by omega) ?_
    unfold wX11_isClosing_93
    rw [show (nI j + 1 : Int32) = nI (j + 1) from nI_add j 1]
    refine ⟨fun g5 => ?_, fun g5 => ?_⟩
    · have g5' : g_nxt N (o j) ≠ g_nxt N (o i) := fun z => g5 (by rw [z])
      refine hK (k - 1) _ _ _ _ _ _ (by omega) ⟨j + 1, rfl, rfl, rfl, by omega, rfl, rfl, ?_⟩
      rcases hI with ⟨rfl, k, z1, z2⟩ | ⟨rfl, hx⟩
      · exact Or.inl ⟨by decide, k, by omega, z2⟩
      · refine Or.inr ⟨by decide, fun k hk => ?_⟩
        by_cases z : k = j
        · rw [z]
          exact g5'
        · exact hx k (by omega)
    · have g5' := (g_nI_eq (nb j (by omega)) (nb i hi)).mp g5
      refine hK (k - 1) _ _ _ _ _ _ (by omega) ⟨j + 1, rfl, rfl, rfl, by omega, rfl, rfl, Or.inl ⟨?_, j, by omega, g5'⟩⟩
      rcases hI with ⟨rfl, -⟩ | ⟨rfl, -⟩
      · decide
      · decide
theorem sM_value (hN : g_WN N) (hW : g_WC N C) (hF : m_F N ρ) (hC : m_C N C 0 ρ) {o : Nat → Nat} {m : Nat} (hm : m ≤ 12) (hO : m_Q o m ρ) (his : ∀ i, i < m → g_is N (o i)) (hB : ∀ i, i < m → g_base N C (o i) = g_base N C (o 0)) (h : Q (Int32.ofInt (g_vI N C o m m)) ρ θ) : wX11_worth (nI m) ρ θ Q := by
  unfold wX11_worth
  refine x_F3 (fun _ => True) (fun _ => nI m) (fun i => Int32.ofInt (g_vI N C o m i)) (fun i => nI i) (lo := 0) (n := m) (Nat.zero_le _) (fun K i _ hi _ hK => ?_) (fun K _ => ?_) trivial rfl rfl rfl
  · have hK := hK trivial
    unfold wX11_worth_4 wX11_worth_31
    rw [show (nI i + 1 : Int32) = nI (i + 1) from nI_add i 1]
    refine i_le (by omega) (by omega) (fun g => absurd g (by omega)) (fun _ => sM_savingG hN hW hF hC hm hO his hB hi (sM_closingG hN hF hm hO his hi (fun c => i_one' ?_) (fun c => i_zer ?_)))
    · rw [g_vI, if_pos c] at hK
      rw [e_oiS]
      exact hK
    · rw [g_vI, if_neg c, Int.sub_zero] at hK
      rw [Int32.sub_zero, e_oiA]
      exact hK
  · unfold wX11_worth_4
    exact i_le (by omega) (by omega) (fun _ => h) (fun g => absurd g (by omega))
end VA
