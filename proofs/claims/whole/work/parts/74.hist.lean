/-! edits that are kept, taken back; snapshots -/
theorem x_cp_i (σ : x_S) (k0 sp k1 dp n i : Nat) : x_cp σ k0 sp k1 dp n k1 i = if dp ≤ i ∧ i < dp + n then σ k0 (sp + (i - dp)) else σ k1 i := by
  rw [x_cp_s]
  rfl
theorem e_c0 : (0 : Int32).toNatClampNeg = 0 := rfl
theorem e_c12 : (12 : Int32).toNatClampNeg = 12 := rfl
theorem e_c120 : (120 : Int32).toNatClampNeg = 120 := rfl
theorem e_c132 : (132 : Int32).toNatClampNeg = 132 := rfl
theorem e_n0 : ¬ (0 : Int32) < 0 := by decide
theorem e_n12 : ¬ (12 : Int32) < 0 := by decide
theorem e_n120 : ¬ (120 : Int32) < 0 := by decide
theorem e_n132 : ¬ (132 : Int32) < 0 := by decide
section HI
variable {N C : g_F} {w : Nat → Nat} {σ ρ : x_S} {τ θ : x_L}
theorem g_is_b12 (hN : g_WN N) {t : Nat} (ht : t < N 0 1) : t < 12 := by
  have := hN.1.2
  omega
theorem sX_write (hN : g_WN N) {o b : Nat} (ho : o + 3 < b) (hC : f_C N C o σ) {Q : x_S → x_L → Prop} (h : ∀ σ' : x_S, (∀ z, z ≠ b → σ' z = σ z) → f_Ch N C b σ' → Q σ' τ) : wX6_writeChoices o b 252 σ τ Q := by
  unfold wX6_writeChoices
  simp only [e_c0, e_c12, e_c120, e_c132]
  refine ⟨⟨⟨e_n0, e_n0, e_n12⟩, by omega, by omega⟩, ⟨⟨e_n0, e_n12, e_n120⟩, by omega, by omega⟩, ⟨⟨e_n0, e_n132, e_n120⟩, by omega, by omega⟩, h _ (fun z hz => by rw [x_cp_n hz, x_cp_n hz, x_cp_n hz]) ⟨fun t ht => ?_, fun s hs => ?_⟩⟩
  · have := g_is_b12 hN ht
    rw [x_cp_i, if_neg (by omega), x_cp_i, if_neg (by omega), x_cp_i, if_pos (by omega), show 0 + (t - 0) = t by omega]
    exact hC.1 t ht
  · have := g_is_lt hN hs
    constructor
    · rw [x_cp_i, if_neg (by omega), x_cp_i, if_pos (by omega), x_cp_n (show o + 2 ≠ b by omega), show 0 + (12 + s - 12) = s by omega]
      exact (hC.2 s hs).1
    · rw [x_cp_i, if_pos (by omega), x_cp_n (show o + 3 ≠ b by omega), x_cp_n (show o + 3 ≠ b by omega), show 0 + (132 + s - 132) = s by omega]
      exact (hC.2 s hs).2
theorem sX_read (hN : g_WN N) {o b : Nat} (ho : o + 3 < b) (hC : f_Ch N C b σ) {Q : x_S → x_L → Prop} (h : ∀ σ' : x_S, (∀ z, z ≠ o + 1 → z ≠ o + 2 → z ≠ o + 3 → σ' z = σ z) → f_C N C o σ' → Q σ' τ) : wX6_readChoices o b 252 σ τ Q := by
  unfold wX6_readChoices
  simp only [e_c0, e_c12, e_c120, e_c132]
  refine ⟨⟨⟨e_n0, e_n0, e_n12⟩, by omega, by omega⟩, ⟨⟨e_n12, e_n0, e_n120⟩, by omega, by omega⟩, ⟨⟨e_n132, e_n0, e_n120⟩, by omega, by omega⟩, h _ (fun z h1 h2 h3 => by rw [x_cp_n h3, x_cp_n h2, x_cp_n h1]) ⟨fun t ht => ?_, fun s hs => ?_⟩⟩
  · have := g_is_b12 hN ht
    rw [x_cp_n (show o + 1 ≠ o + 3 by omega), x_cp_n (show o + 1 ≠ o + 2 by omega), x_cp_i, if_pos (by omega), show 0 + (t - 0) = t by omega]
    exact hC.1 t ht
  · have := g_is_lt hN hs
    constructor
    · rw [x_cp_n (show o + 2 ≠ o + 3 by omega), x_cp_i, if_pos (by omega), x_cp_n (show b ≠ o + 1 by omega), show 12 + (s - 0) = 12 + s by omega]
      exact (hC.2 s hs).1
    · rw [x_cp_i, if_pos (by omega), x_cp_n (show b ≠ o + 2 by omega), x_cp_n (show b ≠ o + 1 by omega), show 132 + (s - 0) = 132 + s by omega]
      exact (hC.2 s hs).2
theorem sM_copyPlan {a b : Nat} (ha : a < 19) (hb : b < 19) {Q : x_S → x_L → Prop} (h : ∀ ρ' : x_S, (∀ z, z ≠ 1 → ρ' z = ρ z) → (∀ i, ρ' 1 i = if 252 * b ≤ i ∧ i < 252 * b + 252 then ρ 1 (252 * a + (i - 252 * b)) else ρ 1 i) → Q ρ' θ) : wX11_copyPlan (nI a) (nI b) ρ θ Q := by
  unfold wX11_copyPlan
  refine x_S3 (fun k ρ' θ' => θ = θ' ∧ (∀ z, z ≠ 1 → ρ' z = ρ z) ∧ ∀ i, ρ' 1 i = if 252 * b ≤ i ∧ i < 252 * b + k then ρ 1 (252 * a + (i - 252 * b)) else ρ 1 i) (fun _ => nI a) (fun _ => nI b) (fun k => nI k) (lo := 0) (n := 252) (Nat.zero_le _) ?_ ?_ ⟨rfl, fun _ _ => rfl, fun i => by rw [if_neg (by omega)]⟩ rfl rfl rfl
  · rintro K k ρ1 θ' - hk ⟨rfl, f, g⟩ hK
    unfold wX11_copyPlan_2
    refine i_le (b := k) (a := 252) (by omega) (by omega) (fun g => absurd g (by omega)) (fun _ => ?_)
    rw [show (252 * nI a + nI k : Int32) = nI (252 * a + k) from by
      show nI 252 * nI a + nI k = _
      rw [nI_mul, nI_add], show (252 * nI b + nI k : Int32) = nI (252 * b + k) from by
      show nI 252 * nI b + nI k = _
      rw [nI_mul, nI_add], i_cl (by omega), i_cl (by omega), show (nI k + 1 : Int32) = nI (k + 1) from nI_add k 1]
    refine ⟨i_in (by omega) (by omega), i_in (by omega) (by omega), hK _ _ ⟨rfl, fun z hz => by rw [x_up_n hz]; exact f z hz, fun i => ?_⟩⟩
    rw [x_up_i]
    by_cases z : i = 252 * b + k
    · rw [if_pos z, if_pos (by omega), g, z, show 252 * b + k - 252 * b = k by omega]
      by_cases z2 : 252 * b ≤ 252 * a + k ∧ 252 * a + k < 252 * b + k
      · have : a = b := by omega
        rw [if_pos z2, this, show 252 * b + k - 252 * b = k by omega]
      · rw [if_neg z2]
    · rw [if_neg z, g]
      by_cases z2 : 252 * b ≤ i ∧ i < 252 * b + k
      · rw [if_pos z2, if_pos (by omega)]
      · rw [if_neg z2, if_neg (by omega)]
  · rintro K ρ1 θ' ⟨rfl, f, g⟩
    unfold wX11_copyPlan_2
    exact i_le (a := 252) (b := 252) (by omega) (by omega) (fun _ => h ρ1 f g) (fun g => absurd g (by omega))
/-- a plan is copied, the others stay -/
theorem m_C.cp {C' : g_F} {a b : Nat} {ρ ρ' : x_S} (hN : g_WN N) (g : ∀ i, ρ' 1 i = if 252 * b ≤ i ∧ i < 252 * b + 252 then ρ 1 (252 * a + (i - 252 * b)) else ρ 1 i) (h : m_C N C' (252 * a) ρ) : m_C N C' (252 * b) ρ' := by
  refine ⟨fun t ht => ?_, fun s hs => ?_⟩
  · have := g_is_b12 hN ht
    rw [g, if_pos (by omega), show 252 * a + (252 * b + t - 252 * b) = 252 * a + t by omega]
    exact h.1 t ht
  · have := g_is_lt hN hs
    rw [g, if_pos (by omega), g, if_pos (by omega), show 252 * a + (252 * b + (12 + s) - 252 * b) = 252 * a + (12 + s) by omega, show 252 * a + (252 * b + (132 + s) - 252 * b) = 252 * a + (132 + s) by omega]
    exact h.2 s hs
theorem m_C.st {C' : g_F} {b c : Nat} {ρ ρ' : x_S} (hN : g_WN N) (g : ∀ i, ¬ (252 * b ≤ i ∧ i < 252 * b + 252) → ρ' 1 i = ρ 1 i) (hc : c ≠ b) (h : m_C N C' (252 * c) ρ) : m_C N C' (252 * c) ρ' := by
  refine ⟨fun t ht => ?_, fun s hs => ?_⟩
  · have := g_is_b12 hN ht
    rw [g _ (by omega)]
    exact h.1 t ht
  · have := g_is_lt hN hs
    rw [g _ (by omega), g _ (by omega)]
    exact h.2 s hs
theorem cp_off {a b : Nat} {ρ ρ' : x_S} (g : ∀ i, ρ' 1 i = if 252 * b ≤ i ∧ i < 252 * b + 252 then ρ 1 (252 * a + (i - 252 * b)) else ρ 1 i) : ∀ i, ¬ (252 * b ≤ i ∧ i < 252 * b + 252) → ρ' 1 i = ρ 1 i := fun i hi => by rw [g, if_neg hi]
/-- an edit is kept by the class -/
def x_kp (l : Nat) (σ σ' : x_S) : Prop := ∀ z, z ≠ 63 → z ≠ 65 + (l + 1) % 15 → σ' z = σ z
theorem e_mod (n k : Nat) (hk : 0 < k) (hk2 : k < 1000) (hn : n < 1000) : (nI n - nI n / nI k * nI k : Int32) = nI (n % k) := by
  have h1 : n / k * k ≤ n := Nat.div_mul_le_self n k
  rw [nI_div (by omega) (by omega) hk, nI_mul, nI_sub h1]
  congr 1
  have := Nat.div_add_mod n k
  rw [Nat.mul_comm] at this
  omega
theorem e_lt15 : (15 : Int32) = nI 15 := rfl
theorem sX_keep (hN : g_WN N) {n l : Nat} (hl : l < 15) (hn : n ≤ 15) (e1 : σ 63 1 = nI l) (e2 : σ 63 2 = nI n) (hC : f_C N C 33 σ) {Q : x_S → x_L → Prop} (h : ∀ σ' : x_S, x_kp l σ σ' → σ' 63 1 = nI ((l + 1) % 15) → σ' 63 2 = nI (min (n + 1) 15) → f_Ch N C (65 + (l + 1) % 15) σ' → Q σ' τ) : wX2_keep 33 σ τ Q := by
  have hm : (l + 1) % 15 < 15 := Nat.mod_lt _ (by omega)
  have e3 : (x_up σ 63 1 (((σ 63 1) + 1) - ((σ 63 1) + 1) / 15 * 15)) 63 1 = nI ((l + 1) % 15) := by
    rw [x_up_ss, e1, show (nI l + 1 : Int32) = nI (l + 1) from nI_add l 1]
    exact e_mod (l + 1) 15 (by omega) (by omega) (by omega)
  unfold wX2_keep
  rw [e3, i_cl (by omega)]
  refine ⟨i_in (by omega) (by omega), sX_write hN (by omega) (hC.cong (fun z hz => x_up_n (by omega))) (fun σ1 f g => ?_)⟩
  have e4 : σ1 63 2 = nI n := by rw [f 63 (by omega), x_up_sn (by omega), e2]
  rw [e4]
  refine h _ (fun z z1 z2 => ?_) ?_ ?_ (g.cong (x_up_n (by omega)))
  · rw [x_up_n z1, f z z2, x_up_n z1]
  · rw [x_up_sn (by omega), f 63 (by omega)]
    exact e3
  · rw [x_up_ss, show (nI n + 1 : Int32) = nI (n + 1) from nI_add n 1, e_lt15, nI_min (by omega) (by omega)]
/-- an edit is kept by the reference -/
def m_kp (b : Nat) (ρ ρ' : x_S) : Prop := (∀ z, z ≠ 0 → z ≠ 1 → ρ' z = ρ z) ∧ (∀ i, i ≠ 2 → i ≠ 3 → ρ' 0 i = ρ 0 i) ∧ ∀ i, ρ' 1 i = if 252 * b ≤ i ∧ i < 252 * b + 252 then ρ 1 (252 * 0 + (i - 252 * b)) else ρ 1 i
theorem sM_keep {n f : Nat} (hf : f < 15) (hn : n ≤ 15) (e1 : ρ 0 2 = nI f) (e2 : ρ 0 3 = nI n) {Q : x_S → x_L → Prop} (h : ∀ ρ' : x_S, m_kp (3 + (f + n) % 15) ρ ρ' → ρ' 0 2 = nI (if n = 15 then (f + 1) % 15 else f) → ρ' 0 3 = nI (min (n + 1) 15) → Q ρ' θ) : wX11_keep ρ θ Q := by
  have main : ∀ (ρ0 : x_S) (n0 f0 : Nat), (∀ z, z ≠ 0 → ρ0 z = ρ z) → (∀ i, i ≠ 2 → i ≠ 3 → ρ0 0 i = ρ 0 i) → ρ0 0 2 = nI f0 → ρ0 0 3 = nI n0 → n0 < 15 → f0 < 15 → (f0 + n0) % 15 = (f + n) % 15 → f0 = (if n = 15 then (f + 1) % 15 else f) → n0 + 1 = min (n + 1) 15 → wX11_keep_32 Q ρ0 θ := fun ρ0 n0 f0 a1 a2 a3 a4 b1 b2 b3 b4 b5 => by
    have hm : (f + n) % 15 < 15 := Nat.mod_lt _ (by omega)
    unfold wX11_keep_32
    rw [a3, a4, nI_add, show (3 + (nI (f0 + n0) - nI (f0 + n0) / 15 * 15) : Int32) = nI (3 + (f + n) % 15) from by
      rw [show (nI (f0 + n0) - nI (f0 + n0) / 15 * 15 : Int32) = nI ((f0 + n0) % 15) from e_mod (f0 + n0) 15 (by omega) (by omega) (by omega), b3]
      exact nI_add 3 _]
    refine sM_copyPlan (a := 0) (by omega) (by omega) (fun ρ1 c1 c2 => ?_)
    have d3 : ρ1 0 3 = nI n0 := by rw [c1 0 (by omega)]; exact a4
    rw [d3]
    refine h _ ⟨fun z z0 z1 => ?_, fun i i2 i3 => ?_, fun i => ?_⟩ ?_ ?_
    · rw [x_up_n z0, c1 z z1, a1 z z0]
    · rw [x_up_sn i3, c1 0 (by omega), a2 i i2 i3]
    · rw [x_up_n (show (1 : Nat) ≠ 0 by omega), c2 i, a1 1 (by omega)]
    · rw [x_up_sn (by omega), c1 0 (by omega), a3, b4]
    · rw [x_up_ss, ← b5]
      exact nI_add n0 1
  unfold wX11_keep
  rw [e2]
  refine i_ne (b := 15) (by omega) (by omega) (fun g => main ρ n f (fun _ _ => rfl) (fun _ _ _ => rfl) e1 e2 (by omega) hf rfl (by rw [if_neg g]) (by omega)) (fun g => ?_)
  have hm : (f + 1) % 15 < 15 := Nat.mod_lt _ (by omega)
  have e3 : ((ρ 0 2 + 1) - (ρ 0 2 + 1) / 15 * 15 : Int32) = nI ((f + 1) % 15) := by
    rw [e1, show (nI f + 1 : Int32) = nI (f + 1) from nI_add f 1]
    exact e_mod (f + 1) 15 (by omega) (by omega) (by omega)
  rw [e3]
  refine main _ 14 ((f + 1) % 15) (fun z hz => by rw [x_up_n hz, x_up_n hz]) (fun i i2 i3 => by rw [x_up_sn i3, x_up_sn i2]) (by rw [x_up_sn (by omega), x_up_ss]) ?_ (by omega) hm (by omega) (by rw [if_pos g]) (by omega)
  rw [x_up_ss, x_up_sn (by omega), e2, g]
  rfl
/-- the history behind an edit -/
theorem g_Hi.keep {P : Nat → g_F} {n l f : Nat} {σ' ρ' : x_S} (hN : g_WN N) (hW : g_WC N C) (h : g_Hi N P n l f σ ρ) (hC : m_C N C 0 ρ) (fx : x_kp l σ σ') (e1 : σ' 63 1 = nI ((l + 1) % 15)) (e2 : σ' 63 2 = nI (min (n + 1) 15)) (hCh : f_Ch N C (65 + (l + 1) % 15) σ') (fm : m_kp (3 + (f + n) % 15) ρ ρ') (e3 : ρ' 0 2 = nI (if n = 15 then (f + 1) % 15 else f)) (e4 : ρ' 0 3 = nI (min (n + 1) 15)) : g_Hi N (fun k => if k = 0 then C else P (k - 1)) (min (n + 1) 15) ((l + 1) % 15) (if n = 15 then (f + 1) % 15 else f) σ' ρ' := by
  obtain ⟨⟨h1, h2, h3⟩, h4, h5⟩ := h
  have hm1 : (l + 1) % 15 < 15 := Nat.mod_lt _ (by omega)
  have hm2 : (f + 1) % 15 < 15 := Nat.mod_lt _ (by omega)
  refine ⟨⟨by omega, hm1, by split <;> omega⟩, ⟨e1, e2, e3, e4⟩, fun k hk => ?_⟩
  by_cases z : k = 0
  · subst z
    simp only [if_pos trivial]
    rw [show ((l + 1) % 15 + 15 - 0) % 15 = (l + 1) % 15 by omega]
    refine ⟨hW, hCh, ?_⟩
    have h0 : m_C N C (252 * 0) ρ := hC
    have := h0.cp hN fm.2.2
    rw [show ((if n = 15 then (f + 1) % 15 else f) + min (n + 1) 15 - 1 - 0) % 15 = (f + n) % 15 by split <;> omega]
    exact this
  · simp only [if_neg z]
    obtain ⟨a1, a2, a3⟩ := h5 (k - 1) (by omega)
    refine ⟨a1, ?_, ?_⟩
    · rw [show ((l + 1) % 15 + 15 - k) % 15 = (l + 15 - (k - 1)) % 15 by omega]
      exact a2.cong (fx _ (by omega) (by omega))
    · rw [show ((if n = 15 then (f + 1) % 15 else f) + min (n + 1) 15 - 1 - k) % 15 = (f + n - 1 - (k - 1)) % 15 by split <;> omega]
      exact a3.st hN (cp_off fm.2.2) (by omega)
end HI
/-- what an arrangement may change -/
def x_ar (σ σ' : x_S) : Prop := ∀ z, z ≠ 33 → ¬ (37 ≤ z ∧ z ≤ 45) → σ' z = σ z
/-- what an edit of choices, kept and arranged, may change -/
def x_ed (σ σ' : x_S) : Prop := ∀ z, z = 1 ∨ z = 2 ∨ (3 ≤ z ∧ z ≤ 12) ∨ (27 ≤ z ∧ z ≤ 31) ∨ (80 ≤ z ∧ z ≤ 85) → σ' z = σ z
section ED
variable {N C : g_F} {w : Nat → Nat} {σ ρ : x_S} {τ θ : x_L}
theorem f_F.ed {σ' : x_S} (h : f_F N σ) (e : ∀ z, 3 ≤ z → z ≤ 12 → σ' z = σ z) : f_F N σ' := by
  unfold f_F at h ⊢
  rw [e 3 (by omega) (by omega), e 4 (by omega) (by omega), e 5 (by omega) (by omega), e 6 (by omega) (by omega), e 7 (by omega) (by omega), e 8 (by omega) (by omega), e 9 (by omega) (by omega), e 10 (by omega) (by omega), e 11 (by omega) (by omega), e 12 (by omega) (by omega)]
  exact h
theorem sX_rearr {C' : g_F} {σ0 : x_S} (hX : g_X N C w σ τ) (hW : g_WC N C') (hC : f_C N C' 33 σ0) (e : ∀ z, (3 ≤ z ∧ z ≤ 12) ∨ (28 ≤ z ∧ z ≤ 31) ∨ z = 39 → σ0 z = σ z) {Q : x_S → x_L → Prop} (h : ∀ (σ' : x_S) (w' : Nat → Nat), x_ar σ0 σ' → g_X N C' w' σ' τ → Q σ' τ) : wX6_arrange 33 σ0 τ Q := by
  obtain ⟨hN, -, hF, hR, -, hA, hB⟩ := hX
  have hF0 := hF.ed (σ' := σ0) (fun z a c => e z (by omega))
  have hR0 := hR.cong (σ' := σ0) (fun z hz => e z (by omega))
  refine sX_arrange (by omega) hN hW hF0 hC hR0 (w := w) (fun i hi => by rw [e (33 + 6) (by omega)]; exact hA.2.1 i hi) hA.2.2.1 (fun σ' w' f1 f2 hA' => ?_)
  have f : x_ar σ0 σ' := fun z a c => f1 z a (by omega)
  exact h σ' w' f ⟨hN, hW, hF0.ed (fun z a c => f z (by omega) (by omega)), hR0.cong (fun z hz => f z (by omega) (by omega)), hC.cong (fun z hz => f z (by omega) (by omega)), hA', (hB.cong (σ' := σ0) (e 28 (by omega))).cong (f 28 (by omega) (by omega))⟩
/-- one choice is another one -/
def g_upC (C : g_F) (k i v : Nat) : g_F := fun a b => if a = k ∧ b = i then v else C a b
theorem g_upC_s (C : g_F) (k i v : Nat) : g_upC C k i v k i = v := if_pos ⟨rfl, rfl⟩
theorem g_upC_n {C : g_F} {k i v a b : Nat} (h : ¬ (a = k ∧ b = i)) : g_upC C k i v a b = C a b := if_neg h
theorem g_X.hi (hX : g_X N C w σ τ) : f_C N C 33 σ := hX.2.2.2.2.1
/-- the snapshots, texts, output beside an edit -/
theorem g_V.ed {σ' ρ' : x_S} {P : Nat → g_F} {n l f : Nat} {b : Nat} (hN : g_WN N) (h : g_V N σ ρ) (hH : g_Hi N P n l f σ' ρ') (fx : x_ed σ σ') (hb : b = 0 ∨ 3 ≤ b) (c1 : ∀ i, ¬ (252 * 0 ≤ i ∧ i < 252 * 0 + 252) → ¬ (252 * b ≤ i ∧ i < 252 * b + 252) → ρ' 1 i = ρ 1 i) (c2 : ∀ z, z = 2 ∨ z = 20 ∨ z = 21 → ρ' z = ρ z) (c3 : ∀ i, i = 29 ∨ i = 31 ∨ i = 33 ∨ i = 34 → ρ' 0 i = ρ 0 i) : g_V N σ' ρ' := by
  obtain ⟨-, h2, h3, h4⟩ := h
  refine ⟨⟨P, n, l, f, hH⟩, fun i hi => ?_, ?_, ?_⟩
  · rw [fx 83 (by omega), c2 2 (by omega)]
    rcases h2 i hi with g | ⟨g1, g2, S, g3, g4, g5⟩
    · exact Or.inl g
    · refine Or.inr ⟨g1, g2, S, g3, g4.cong (fx _ (by omega)), ⟨fun t ht => ?_, fun s hs => ?_⟩⟩
      · have := g_is_b12 hN ht
        rw [c1 _ (by omega) (by omega)]
        exact g5.1 t ht
      · have := g_is_lt hN hs
        rw [c1 _ (by omega) (by omega), c1 _ (by omega) (by omega)]
        exact g5.2 s hs
  · unfold g_Tx at h3 ⊢
    rw [fx 1 (by omega), fx 2 (by omega), c2 21 (by omega), c3 31 (by omega), c3 33 (by omega), c3 34 (by omega)]
    exact h3
  · unfold g_Ou at h4 ⊢
    rw [fx 84 (by omega), fx 85 (by omega), c2 20 (by omega), c3 29 (by omega)]
    exact h4
/-- the class changes its choices to C': what is kept, changed, arranged -/
theorem sX_change {C' : g_F} {P : Nat → g_F} {n l f : Nat} (hX : g_X N C w σ τ) (hH : g_Hi N P n l f σ ρ) (hW' : g_WC N C') {σ1 σ2 : x_S} (fx : x_kp l σ σ1) (e : ∀ z, z ≠ 34 → z ≠ 35 → z ≠ 36 → σ2 z = σ1 z) (hC : f_C N C' 33 σ2) {Q : x_S → x_L → Prop} (h : ∀ (σ' : x_S) (w' : Nat → Nat), g_X N C' w' σ' τ → x_ed σ σ' → (∀ z, 63 ≤ z → σ' z = σ1 z) → Q σ' τ) : wX6_arrange 33 σ2 τ Q := by
  have hm1 : (l + 1) % 15 < 15 := Nat.mod_lt _ (by omega)
  refine sX_rearr hX hW' hC (fun z hz => ?_) (fun σ' w' a hX' => h σ' w' hX' (fun z hz => ?_) (fun z hz => ?_))
  · rw [e z (by omega) (by omega) (by omega), fx z (by omega) (by omega)]
  · rw [a z (by omega) (by omega), e z (by omega) (by omega) (by omega), fx z (by omega) (by omega)]
  · rw [a z (by omega) (by omega), e z (by omega) (by omega) (by omega)]
end ED
