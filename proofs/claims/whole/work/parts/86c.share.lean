theorem fl_c1 : FP.Core.val32 FP.fconst1 = .fin false 8388608 (-23) := by decide +kernel
theorem fl_c0 : FP.Core.val32 FP.fconst0 = .fin false 0 (-149) := by decide +kernel
theorem fl_c2 : FP.Core.val32 FP.fconst2 = .fin false 8388608 (-22) := by decide +kernel
theorem fl_c23 : FP.Core.val32 (1258291200 : UInt32) = .fin false 8388608 0 := by decide +kernel
theorem fl_b32 : FP.Core.b32.qmin = -149 ∧ FP.Core.b32.qmax = 104 ∧ FP.Core.b32.tails = 8388608 ∧ 2 ^ FP.Core.b32.p = 16777216 := by decide
theorem fl_fits {c : Nat} {q : Int} (h1 : 8388608 ≤ c) (h2 : c < 16777216) (h3 : -149 ≤ q) (h4 : q ≤ 104) : FP.Core.fits FP.Core.b32 (.fin false c q) := by
  obtain ⟨e1, e2, e3, e4⟩ := fl_b32
  unfold FP.Core.fits
  show c < 2 ^ FP.Core.b32.p ∧ FP.Core.b32.qmin ≤ q ∧ q ≤ FP.Core.b32.qmax ∧ (q = FP.Core.b32.qmin ∨ FP.Core.b32.tails ≤ c)
  rw [e1, e2, e3, e4]
  exact ⟨h2, h3, h4, Or.inr h1⟩
theorem fl_gt0 {x : UInt32} {c : Nat} {q : Int} (hx : fl_n x c q) : Op.cmpValue (FP.fcmp x FP.fconst0) .g = 1 := by
  have h : FP.fcmp x FP.fconst0 = some .gt := by
    show FP.Core.order (FP.Core.val32 x) (FP.Core.val32 FP.fconst0) = _
    rw [hx.1, fl_c0]
    have hp : 0 < c * 2 ^ (q - min q (-149)).toNat := Nat.mul_pos (by have := hx.2.1; omega) (Nat.two_pow_pos _)
    show some (compare ((c * 2 ^ (q - min q (-149)).toNat : Nat) : Int) ((0 * 2 ^ (-149 - min q (-149)).toNat : Nat) : Int)) = some .gt
    rw [Nat.zero_mul]
    congr 1
    exact Int.compare_eq_gt.mpr (by omega)
  rw [h]
  rfl
theorem fl_cmp1 {x : UInt32} {c : Nat} {q : Int} (hx : fl_n x c q) : (q = -23 → 0 ≤ Op.cmpValue (FP.fcmp x FP.fconst1) .g) ∧ (q < -23 → ¬ 0 ≤ Op.cmpValue (FP.fcmp x FP.fconst1) .g) := by
  have h : FP.fcmp x FP.fconst1 = some (compare ((c * 2 ^ (q - min q (-23)).toNat : Nat) : Int) ((8388608 * 2 ^ (-23 - min q (-23)).toNat : Nat) : Int)) := by
    show FP.Core.order (FP.Core.val32 x) (FP.Core.val32 FP.fconst1) = _
    rw [hx.1, fl_c1]
    rfl
  obtain ⟨-, h2, h3⟩ := hx
  rw [h]
  constructor
  · intro e
    subst e
    rw [show min (-23 : Int) (-23) = -23 from rfl, show ((-23 : Int) - -23).toNat = 0 from rfl]
    by_cases g : c = 8388608
    · subst g
      decide
    · rw [Int.compare_eq_gt.mpr (by omega)]
      decide
  · intro e
    have e1 : (q - min q (-23)).toNat = 0 := by omega
    have e2 : 2 ≤ 2 ^ (-23 - min q (-23)).toNat := by
      have : 2 ^ 1 ≤ 2 ^ (-23 - min q (-23)).toNat := Nat.pow_le_pow_right (by omega) (by omega)
      omega
    rw [e1, Int.compare_eq_lt.mpr (by
      have : 8388608 * 2 ≤ 8388608 * 2 ^ (-23 - min q (-23)).toNat := Nat.mul_le_mul_left _ e2
      omega)]
    decide
theorem fl_dbl {x : UInt32} {c : Nat} {q : Int} (hx : fl_n x c q) (h1 : -149 ≤ q) (h2 : q ≤ 0) : fl_n (FP.fmul x FP.fconst2) c (q + 1) := by
  refine ⟨?_, hx.2⟩
  show FP.Core.val32 (FP.Core.fmul x FP.fconst2) = _
  rw [FP.Core.val32_fmul, hx.1, fl_c2]
  show FP.Core.roundRatio FP.Core.b32 false (c * 8388608) 1 (q + -22) = _
  refine FP.Core.roundRatio_exact FP.Core.good_b32 (by omega) (fl_fits hx.2.1 hx.2.2 (by omega) (by omega)) ?_
  rw [show (q + -22 - (q + 1)).toNat = 0 by omega, show (q + 1 - (q + -22)).toNat = 23 by omega]
  omega
theorem fl_end {x : UInt32} {c : Nat} (hx : fl_n x c (-23)) : vf_n32 (FP.fsub x FP.fconst1) ∧ vf_n32 (FP.fmul (FP.fsub x FP.fconst1) (1258291200 : UInt32)) ∧ FP.f2i (FP.fmul (FP.fsub x FP.fconst1) (1258291200 : UInt32)) = nI (c - 8388608) := by
  obtain ⟨h1, h2, h3⟩ := hx
  have hz : FP.Core.val32 (FP.fsub x FP.fconst1) = FP.Core.roundRatio FP.Core.b32 false (c - 8388608) 1 (-23) := by
    show FP.Core.val32 (FP.Core.fsub x FP.fconst1) = _
    rw [FP.Core.val32_fsub, h1, fl_c1]
    have hv : FP.Core.sumUnits false c (-23) true 8388608 (-23) (-23) = ((c - 8388608 : Nat) : Int) := by
      show ((c * 2 ^ 0 : Nat) : Int) + -((8388608 * 2 ^ 0 : Nat) : Int) = _
      omega
    show FP.Core.round FP.Core.b32 (.fin (FP.Core.sumSign false true (FP.Core.sumUnits false c (-23) true 8388608 (-23) (-23))) (FP.Core.sumUnits false c (-23) true 8388608 (-23) (-23)).natAbs (-23)) = _
    rw [hv, Int.natAbs_natCast]
    have hs : FP.Core.sumSign false true ((c - 8388608 : Nat) : Int) = false := by
      unfold FP.Core.sumSign
      by_cases g : ((c - 8388608 : Nat) : Int) = 0
      · rw [if_pos g]
        rfl
      · rw [if_neg g]
        exact decide_eq_false (by omega)
    rw [hs]
    rfl
  have key : ∃ c' q', FP.Core.val32 (FP.fsub x FP.fconst1) = .fin false c' q' ∧ FP.Core.val32 (FP.fmul (FP.fsub x FP.fconst1) (1258291200 : UInt32)) = .fin false c' (if c - 8388608 = 0 then -149 else q' + 23) ∧ (c - 8388608 = 0 → c' = 0) ∧ (c - 8388608 ≠ 0 → q' + 23 ≤ 0 ∧ c' = (c - 8388608) * 2 ^ (-(q' + 23)).toNat) := by
    have hmb : c - 8388608 < 8388608 := by omega
    generalize c - 8388608 = m at *
    by_cases g : m = 0
    · subst g
      have e0 : FP.Core.val32 (FP.fsub x FP.fconst1) = .fin false 0 (-149) := by
        rw [hz]
        unfold FP.Core.roundRatio
        rw [if_pos rfl]
        rfl
      refine ⟨0, -149, e0, ?_, fun _ => rfl, fun h => absurd rfl h⟩
      show FP.Core.val32 (FP.Core.fmul (FP.fsub x FP.fconst1) (1258291200 : UInt32)) = _
      rw [FP.Core.val32_fmul, e0, fl_c23]
      show FP.Core.roundRatio FP.Core.b32 false (0 * 8388608) 1 (-149 + 0) = _
      unfold FP.Core.roundRatio
      rw [if_pos rfl, if_pos rfl]
      rfl
    · have p1 := Nat.log2_self_le (n := m) g
      have p2 := Nat.lt_log2_self (n := m)
      have hk : m.log2 < 23 := (Nat.log2_lt g).mpr (by omega)
      revert p1 p2 hk
      generalize m.log2 = k
      intro p1 p2 hk
      have a1 : 2 ^ k * 2 ^ (23 - k) = 8388608 := by
        rw [← Nat.pow_add, show k + (23 - k) = 23 by omega]
      have a2 : 2 ^ (k + 1) * 2 ^ (23 - k) = 16777216 := by
        rw [← Nat.pow_add, show k + 1 + (23 - k) = 24 by omega]
      have b1 : 8388608 ≤ m * 2 ^ (23 - k) := by
        rw [← a1]
        exact Nat.mul_le_mul_right _ p1
      have b2 : m * 2 ^ (23 - k) < 16777216 := by
        rw [← a2]
        exact Nat.mul_lt_mul_of_pos_right p2 (Nat.two_pow_pos _)
      have e0 : FP.Core.val32 (FP.fsub x FP.fconst1) = .fin false (m * 2 ^ (23 - k)) ((k : Int) - 46) := by
        rw [hz]
        refine FP.Core.roundRatio_exact FP.Core.good_b32 (by omega) (fl_fits b1 b2 (by omega) (by omega)) ?_
        rw [show (-23 - ((k : Int) - 46)).toNat = 23 - k by omega, show ((k : Int) - 46 - -23).toNat = 0 by omega]
        simp
      refine ⟨m * 2 ^ (23 - k), (k : Int) - 46, e0, ?_, fun h => absurd h g, fun _ => ⟨by omega, by rw [show (-((k : Int) - 46 + 23)).toNat = 23 - k by omega]⟩⟩
      show FP.Core.val32 (FP.Core.fmul (FP.fsub x FP.fconst1) (1258291200 : UInt32)) = _
      rw [FP.Core.val32_fmul, e0, fl_c23, if_neg g]
      show FP.Core.roundRatio FP.Core.b32 false (m * 2 ^ (23 - k) * 8388608) 1 ((k : Int) - 46 + 0) = _
      refine FP.Core.roundRatio_exact FP.Core.good_b32 (by omega) (fl_fits b1 b2 (by omega) (by omega)) ?_
      rw [show ((k : Int) - 46 + 0 - ((k : Int) - 46 + 23)).toNat = 0 by omega, show ((k : Int) - 46 + 23 - ((k : Int) - 46 + 0)).toNat = 23 by omega]
      omega
  obtain ⟨c', q', k1, k2, k3, k4⟩ := key
  refine ⟨fl_nn (by rw [k1]; intro g; cases g), fl_nn (by rw [k2]; intro g; cases g), ?_⟩
  show FP.Core.toI (FP.Core.val32 (FP.fmul (FP.fsub x FP.fconst1) (1258291200 : UInt32))) = _
  rw [k2]
  have ht : ∀ e : Int, e = (if c - 8388608 = 0 then -149 else q' + 23) → FP.Core.truncate false c' e = ((c - 8388608 : Nat) : Int) := fun e he => by
    show ((c' * 2 ^ e.toNat / 2 ^ (-e).toNat : Nat) : Int) = _
    by_cases g : c - 8388608 = 0
    · rw [k3 g, g, Nat.zero_mul, Nat.zero_div]
    · rw [if_neg g] at he
      obtain ⟨k5, k6⟩ := k4 g
      rw [k6, ← he, show e.toNat = 0 by omega, Nat.pow_zero, Nat.mul_one, Nat.mul_div_cancel _ (Nat.two_pow_pos _)]
  show Int32.ofInt (max (-2 ^ 31) (min (2 ^ 31 - 1) (FP.Core.truncate false c' (if c - 8388608 = 0 then -149 else q' + 23)))) = _
  rw [ht _ rfl, show max (-2 ^ 31) (min (2 ^ 31 - 1) ((c - 8388608 : Nat) : Int)) = ((c - 8388608 : Nat) : Int) by omega]
  exact Int32.ofInt_eq_ofNat
section SB
variable {N C : g_F} {w : Nat → Nat} {σ ρ : x_S} {τ θ : x_L} {Q : Int32 → x_S → x_L → Prop}
theorem e_shl {a b : Nat} (ha : a < 128) (hb : b < 8388608) : (nI a <<< (23 &&& 31) + nI b : Int32) = nI (a * 8388608 + b) := by
  have h : nI a <<< (23 &&& 31) = nI (a * 8388608) := by
    have : ∀ a, a < 128 → nI a <<< (23 &&& 31) = nI (a * 8388608) := by decide +kernel
    exact this a ha
  rw [h, nI_add]
theorem sX_bits {x : UInt32} {c : Nat} {q : Int} (hx : fl_n x c q) (h1 : q ≤ -23) (h2 : -100 ≤ q) (h : Q x.toInt32 σ τ) : wX10_floatBits x σ τ Q := by
  unfold wX10_floatBits
  rw [fl_gt0 hx]
  refine ⟨fun _ => ?_, fun g => absurd (by decide) g⟩
  refine x_l3_I (fun k c0 c1 c2 σ' τ' => ∃ i : Nat, (i : Int) + k = -23 - q ∧ fl_n c0 c (q + i) ∧ c1 = nI (127 - i) ∧ c2 = nI i ∧ σ' = σ ∧ τ' = τ) ?_ (-23 - q).toNat ⟨0, by omega, by simpa using hx, rfl, rfl, rfl, rfl⟩
  rintro k c0 c1 c2 σ' τ' ⟨i, a1, a2, rfl, rfl, rfl, rfl⟩ K hK
  obtain ⟨u1, u2⟩ := fl_cmp1 a2
  unfold wX10_floatBits_15 wX10_floatBits_40
  refine i_le (a := 100) (by omega) (by omega) (fun g => absurd g (by omega)) (fun _ => ⟨fun g => ?_, fun g => ?_⟩)
  · have e : q + i = -23 := by
      apply Classical.byContradiction
      intro g2
      exact u2 (by omega) g
    rw [e] at a2
    obtain ⟨v1, v2, v3⟩ := fl_end a2
    refine ⟨v1, v2, ?_⟩
    rw [v3, e_shl (by omega) (by have := hx.2; omega), show 127 - i = (q + 150).toNat by omega, ← fl_bits hx (by omega)]
    exact h
  · have e : q + i < -23 := by
      apply Classical.byContradiction
      intro g2
      exact g (u1 (by omega))
    have a3 := fl_dbl a2 (by omega) (by omega)
    refine ⟨a3.nn, hK (k - 1) _ _ _ _ _ (by omega) ⟨i + 1, by omega, ?_, ?_, nI_add i 1, rfl, rfl⟩⟩
    · rw [show q + ((i + 1 : Nat) : Int) = q + i + 1 by omega]
      exact a3
    · rw [show 127 - (i + 1) = 127 - i - 1 by omega, ← nI_sub (a := 127 - i) (b := 1) (by omega)]
      exact (Int32.sub_eq_add_neg _ _).symm
theorem g_sav4 (hN : g_WN N) (hW : g_WC N C) : 4 * g_all N (g_sav N C) ≤ g_all N (g_base N C) := by
  have h1 : ∀ s, 4 * g_sav N C s ≤ g_base N C s := fun s => by
    have key : ∀ x, x ≤ 150 → 4 * (g_base N C s * x / 1000) ≤ g_base N C s := fun x hx => by
      have : g_base N C s * x ≤ g_base N C s * 150 := Nat.mul_le_mul_left _ hx
      omega
    unfold g_sav
    split
    · split
      · exact key _ (by have := g_share_b (g_gap2 N (g_mem N C s 1) (g_mem N C s 0)); omega)
      · omega
    · exact key _ (g_share_b _)
  have h2 : ∀ n, 4 * g_part N (g_sav N C) n ≤ g_part N (g_base N C) n := by
    intro n
    induction n with
    | zero => exact Nat.le_refl _
    | succ n ih =>
      unfold g_part at ih ⊢
      rw [g_sum, g_sum]
      have := h1 n
      by_cases z : n / 10 < N 0 1 ∧ n % 10 < N 8 (n / 10)
      · rw [if_pos z, if_pos z]
        omega
      · rw [if_neg z, if_neg z]
        omega
  exact h2 120
theorem g_base_pos (hN : g_WN N) : (0 < N 0 1 ↔ 0 < g_all N (g_base N C)) := by
  constructor
  · intro h
    have h10 := (hN.2.2.1 0 h).2.2.2.2
    obtain ⟨hs, -, -, b1, -⟩ := g_is_of hN h (show 0 < N 8 0 by omega)
    have hz : g_sum (fun _ => 0) 120 < g_all N (g_base N C) := g_sum_lt (a := 0) (fun i _ => Nat.zero_le _) (by omega) (by
      have z : 0 / 10 < N 0 1 ∧ 0 % 10 < N 8 (0 / 10) := hs
      show 0 < (if 0 / 10 < N 0 1 ∧ 0 % 10 < N 8 (0 / 10) then g_base N C 0 else 0)
      rw [if_pos z]
      have hr := hN.2.1 _ (g_road_lt hN hs)
      unfold g_base
      exact Nat.mul_pos (by have : N 3 (N 9 0) = N 3 (N 9 (10 * 0 + 0)) := rfl; omega) (by omega))
    omega
  · intro h
    apply Classical.byContradiction
    intro g
    have : g_all N (g_base N C) = 0 := g_sum_zero (fun i _ => if_neg (by omega))
    omega
end SB
theorem z_37 : z_p37 g_R := by
  intro σ τ ρ θ hR
  obtain ⟨N, C, w, hX, hM, hV⟩ := id hR
  obtain ⟨hN, hW, hF, hR0, hC, hA, hB⟩ := id hX
  have hM0 := hM.fr (m_fr.up0 (v := 0) (Or.inl rfl))
  have hb := hN.1.2
  have hbb : g_all N (g_base N C) ≤ 120 * 153000 := g_all_b (fun s hs => g_base_b hN hW hs)
  have h4 := g_sav4 (N := N) (C := C) hN hW
  have hp := g_base_pos (N := N) (C := C) hN
  unfold wL_shareBits wX10_shareBits
  refine sX_allBases hX (i_ne (b := 0) (by omega) (by omega) (fun g => ?_) (fun g => ⟨rfl, ?_⟩))
  · have hpos : 0 < g_all N (g_base N C) := by omega
    refine sX_savedAll hX ?_
    have hq := fl_q (n := g_all N (g_sav N C)) (m := g_all N (g_base N C)) (by omega) hpos (by omega)
    refine ⟨fl_nn hq, ?_⟩
    have ref : ∀ (σ' : x_S) (τ' : x_L), True → wX11_shareBits ρ θ (fun b ρ1 θ1 => wX11_thrown ρ1 θ1 (fun th ρ2 θ2 => th = 0 ∧ ((0 : Int32) = 0 → (x_upL τ 87 0 (FP.fdiv (FP.i2f (nI (g_all N (g_sav N C)))) (FP.i2f (nI (g_all N (g_base N C))))).toInt32.toInt64) 87 0 = b.toInt64) ∧ g_R σ (x_upL τ 87 0 (FP.fdiv (FP.i2f (nI (g_all N (g_sav N C)))) (FP.i2f (nI (g_all N (g_base N C))))).toInt32.toInt64) ρ2 θ2)) := fun _ _ _ => by
      unfold wX11_shareBits wX11_shareBits_20
      rw [e_c1, hM0.2.2.1.1.2]
      refine i_ne (b := 0) (by omega) (by omega) (fun _ => sM_thr0 (i_zer ?_)) (fun g2 => absurd g2 (by omega))
      refine sM_begin hM (fun ρ' f h5 hM' hL => ?_)
      refine sM_sumAll (k := 1) hN hW hM'.2.2.1 hM'.2.2.2 hL.2.2.2.2 (by omega) ?_
      refine sM_sumAll (k := 3) hN hW hM'.2.2.1 hM'.2.2.2 hL.2.2.2.2 (by omega) ?_
      rw [g_what_1, g_what_3]
      refine ⟨fl_nn hq, ?_⟩
      unfold wJxf58ca_floatToIntBits_5c35a wJxf58ca_isNaN_12338 wJxf58ca_isNaN_12338_11
      rw [show FP.fcmp (FP.fdiv (FP.i2f (nI (g_all N (g_sav N C)))) (FP.i2f (nI (g_all N (g_base N C))))) (FP.fdiv (FP.i2f (nI (g_all N (g_sav N C)))) (FP.i2f (nI (g_all N (g_base N C))))) = some .eq from FP.Core.fcmp_self hq]
      refine ⟨fun _ => ⟨Or.inl rfl, i_zer' ?_⟩, fun g2 => absurd rfl g2⟩
      exact q_ok (hR.fr (x_fq.rf _) rfl f) h5
    by_cases e : g_all N (g_sav N C) = 0
    · obtain ⟨d, r, hy, -⟩ := fl_i2f hpos (by omega)
      have hv := fl_div0 (x := FP.i2f (nI (g_all N (g_sav N C)))) (by rw [e]; exact fl_i2f0) hy
      have hx : FP.fdiv (FP.i2f (nI (g_all N (g_sav N C)))) (FP.i2f (nI (g_all N (g_base N C)))) = FP.fconst0 := FP.Core.val32_inj hq (by rw [fl_c0]; exact hv)
      have ref' := ref σ τ trivial
      rw [hx] at ref' ⊢
      unfold wX10_floatBits
      refine ⟨fun g2 => absurd g2 (by decide +kernel), fun _ => ?_⟩
      exact ref'
    · obtain ⟨d, r, hy, hr⟩ := fl_i2f hpos (by omega)
      obtain ⟨c, q, hx, hq2⟩ := fl_i2f (n := g_all N (g_sav N C)) (by omega) (by omega)
      have l1 : (g_all N (g_sav N C)).log2 + 2 ≤ (g_all N (g_base N C)).log2 := (Nat.le_log2 (by omega)).mpr (by
        have := Nat.log2_self_le (n := g_all N (g_sav N C)) e
        rw [Nat.pow_add]
        omega)
      have l2 : (g_all N (g_base N C)).log2 < 31 := (Nat.log2_lt (by omega)).mpr (by omega)
      obtain ⟨c', q', g1, g2, g3⟩ := fl_div hx hy (by omega) (by omega)
      exact sX_bits g1 (by omega) (by omega) (ref σ τ trivial)
  · have e0 : N 0 1 = 0 := by omega
    unfold wX11_shareBits wX11_shareBits_20
    rw [e_c1, hM0.2.2.1.1.2]
    refine i_ne (b := 0) (by omega) (by omega) (fun g2 => absurd e0 g2) (fun _ => sM_thr1 (i_one' ?_))
    exact q_no (hR.fr (x_fq.rf _) rfl ((m_fr.up0 (Or.inl rfl)).up5 1)) (x_up_ss _ _ _ _) (by decide)
