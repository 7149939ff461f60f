/-! floats: shares and rates -/
def fl_n (x : UInt32) (c : Nat) (q : Int) : Prop := FP.Core.val32 x = .fin false c q ∧ 8388608 ≤ c ∧ c < 16777216
theorem fl_rr {A B : Nat} {e k : Int} (hA : 0 < A) (hB : 0 < B) (h1 : -100 ≤ k) (h2 : k ≤ 100) (h3 : ¬ FP.Core.Below A B (k - e)) (h4 : FP.Core.Below A B (k + 1 - e)) : ∃ c q, FP.Core.roundRatio FP.Core.b32 false A B e = .fin false c q ∧ 8388608 ≤ c ∧ c < 16777216 ∧ (q = k - 23 ∨ q = k - 22) := by
  have em : FP.Core.b32.qmin = -149 := by decide
  have ex : FP.Core.b32.qmax = 104 := by decide
  have ep : ((FP.Core.b32.p : Nat) : Int) = 24 := by decide
  have et : FP.Core.b32.tails = 8388608 := by decide
  have e2 : 2 ^ FP.Core.b32.p = 16777216 := by decide
  have hq : FP.Core.quantum FP.Core.b32 A B e = k - 23 := FP.Core.quantum_eq hA hB (by rw [em]; omega) (by rw [ep, show k - 23 - e + (24 : Int) = k + 1 - e by omega]; exact h4) (Or.inr (by rw [ep, show k - 23 - e + ((24 : Int) - 1) = k - e by omega]; exact h3))
  have hn1 : 8388608 ≤ FP.Core.nearest (FP.Core.unitsNum A e (k - 23)) (FP.Core.unitsDen B e (k - 23)) := FP.Core.nearest_ge (FP.Core.unitsDen_pos hB _ _) (Nat.le_of_not_lt (fun g => h3 (by
    have g2 := (FP.Core.units_below A B e (k - 23) 23).mp g
    rw [show k - 23 - e + ((23 : Nat) : Int) = k - e by omega] at g2
    exact g2)))
  have hn2 : FP.Core.nearest (FP.Core.unitsNum A e (k - 23)) (FP.Core.unitsDen B e (k - 23)) ≤ 16777216 := FP.Core.nearest_le (FP.Core.unitsDen_pos hB _ _) (Nat.le_of_lt ((FP.Core.units_below A B e (k - 23) 24).mpr (by
    rw [show k - 23 - e + ((24 : Nat) : Int) = k + 1 - e by omega]
    exact h4)))
  unfold FP.Core.roundRatio
  rw [if_neg (by omega), hq]
  unfold FP.Core.roundAt FP.Core.settle FP.Core.bound
  revert hn1 hn2
  generalize FP.Core.nearest (FP.Core.unitsNum A e (k - 23)) (FP.Core.unitsDen B e (k - 23)) = m
  intro hn1 hn2
  rw [e2, et, ex]
  by_cases hm : m < 16777216
  · refine ⟨m, k - 23, ?_, hn1, hm, Or.inl rfl⟩
    rw [if_pos hm, if_pos (by omega)]
  · refine ⟨8388608, k - 22, ?_, by omega, by omega, Or.inr rfl⟩
    rw [if_neg hm, if_pos (by omega), show k - 23 + 1 = k - 22 by omega]
theorem fl_ofInt (n : Nat) : FP.Core.ofInt (n : Int) = .fin false n 0 := by
  unfold FP.Core.ofInt
  rw [decide_eq_false (by omega), Int.natAbs_natCast]
theorem fl_i2f {n : Nat} (h0 : 0 < n) (hn : n < 1000000000) : ∃ c q, fl_n (FP.i2f (nI n)) c q ∧ (q = (n.log2 : Int) - 23 ∨ q = (n.log2 : Int) - 22) := by
  have hl : n.log2 < 31 := (Nat.log2_lt (by omega)).mpr (by omega)
  obtain ⟨c, q, h1, h2, h3, h4⟩ := fl_rr (A := n) (B := 1) (e := 0) (k := (n.log2 : Int)) h0 (by omega) (by omega) (by omega) (by
    rw [show (n.log2 : Int) - 0 = ((n.log2 : Nat) : Int) - ((0 : Nat) : Int) by omega, FP.Core.below_iff]
    have := Nat.log2_self_le (n := n) (by omega)
    omega) (by
    rw [show (n.log2 : Int) + 1 - 0 = ((n.log2 + 1 : Nat) : Int) - ((0 : Nat) : Int) by omega, FP.Core.below_iff]
    have := Nat.lt_log2_self (n := n)
    omega)
  refine ⟨c, q, ⟨?_, h2, h3⟩, h4⟩
  show FP.Core.val32 (FP.Core.i2f (nI n)) = _
  rw [FP.Core.val32_i2f, nI_toInt (by omega), fl_ofInt]
  exact h1
theorem fl_i2f0 : FP.Core.val32 (FP.i2f (nI 0)) = .fin false 0 (-149) := by decide +kernel
theorem fl_nn {x : UInt32} (h : FP.Core.val32 x ≠ .nan) : vf_n32 x := by
  have := (FP.Core.ne_nan32 x).mp h
  unfold vf_n32
  rw [UInt32.le_iff_toNat_le, UInt32.toNat_and, show (0x7fffffff : UInt32).toNat = 2 ^ 31 - 1 from rfl, Nat.and_two_pow_sub_one_eq_mod]
  exact this
theorem fl_nn64 {x : UInt64} (h : FP.Core.val64 x ≠ .nan) : vf_n64 x := by
  have := (FP.Core.ne_nan x).mp h
  unfold vf_n64
  rw [UInt64.le_iff_toNat_le, UInt64.toNat_and, show (0x7fffffffffffffff : UInt64).toNat = 2 ^ 63 - 1 from rfl, Nat.and_two_pow_sub_one_eq_mod]
  exact this
theorem fl_n.nn {x : UInt32} {c : Nat} {q : Int} (h : fl_n x c q) : vf_n32 x := fl_nn (by rw [h.1]; intro g; cases g)
theorem fl_d64 {x : UInt32} (h : FP.Core.val32 x ≠ .nan) : FP.Core.val64 (FP.f2d x) ≠ .nan := by
  have h1 := (FP.Core.notNaN_iff32 x).mpr h
  exact (FP.Core.notNaN_iff _).mp ((FP.f2d_nan x).trans h1)
theorem fl_div {x y : UInt32} {c d : Nat} {q r : Int} (hx : fl_n x c q) (hy : fl_n y d r) (h1 : q - r ≤ 60) (h2 : -60 ≤ q - r) : ∃ c' q', fl_n (FP.fdiv x y) c' q' ∧ (q' ≤ q - r - 22) ∧ q - r - 24 ≤ q' := by
  obtain ⟨x1, x2, x3⟩ := hx
  obtain ⟨y1, y2, y3⟩ := hy
  obtain ⟨l1, l2⟩ := FP.Core.leading_spec (A := c) (B := d) (by omega) (by omega)
  have u1 := FP.Core.lt_of_below l1 (show FP.Core.Below c d 1 by
    rw [show (1 : Int) = ((1 : Nat) : Int) - ((0 : Nat) : Int) from rfl, FP.Core.below_iff]
    omega)
  have u2 := FP.Core.lt_of_below (show ¬ FP.Core.Below c d (-1) by
    rw [show (-1 : Int) = ((0 : Nat) : Int) - ((1 : Nat) : Int) from rfl, FP.Core.below_iff]
    omega) l2
  obtain ⟨c', q', g1, g2, g3, g4⟩ := fl_rr (A := c) (B := d) (e := q - r) (k := FP.Core.leading c d + (q - r)) (by omega) (by omega) (by omega) (by omega) (by
    rw [show FP.Core.leading c d + (q - r) - (q - r) = FP.Core.leading c d by omega]
    exact l1) (by
    rw [show FP.Core.leading c d + (q - r) + 1 - (q - r) = FP.Core.leading c d + 1 by omega]
    exact l2)
  refine ⟨c', q', ⟨?_, g2, g3⟩, by omega, by omega⟩
  show FP.Core.val32 (FP.Core.fdiv x y) = _
  rw [FP.Core.val32_fdiv, x1, y1]
  unfold FP.Core.quotient
  show (if d = 0 then _ else FP.Core.roundRatio FP.Core.b32 false c d (q - r)) = _
  rw [if_neg (by omega)]
  exact g1
theorem fl_div0 {x y : UInt32} {d : Nat} {r q : Int} (hx : FP.Core.val32 x = .fin false 0 q) (hy : fl_n y d r) : FP.Core.val32 (FP.fdiv x y) = .fin false 0 (-149) := by
  obtain ⟨y1, y2, y3⟩ := hy
  show FP.Core.val32 (FP.Core.fdiv x y) = _
  rw [FP.Core.val32_fdiv, hx, y1]
  unfold FP.Core.quotient
  show (if d = 0 then _ else FP.Core.roundRatio FP.Core.b32 false 0 d (q - r)) = _
  rw [if_neg (by omega)]
  unfold FP.Core.roundRatio
  rw [if_pos rfl]
  rfl
theorem fl_bits {x : UInt32} {c : Nat} {q : Int} (hx : fl_n x c q) (h1 : -149 ≤ q) : x.toInt32 = nI ((q + 150).toNat * 8388608 + (c - 8388608)) := by
  obtain ⟨x1, x2, x3⟩ := hx
  have e := FP.Core.of32_val32 (a := x) (by rw [x1]; intro g; cases g)
  rw [x1] at e
  rw [← e]
  have em : FP.Core.b32.qmin = -149 := by decide
  have et : FP.Core.b32.tails = 8388608 := by decide
  have hen : FP.Core.encode FP.Core.b32 (.fin false c q) = (q + 150).toNat * 8388608 + (c - 8388608) := by
    unfold FP.Core.encode
    rw [em, et]
    show (if c < 8388608 then _ else FP.Core.assemble FP.Core.b32 false ((q - -149).toNat + 1) (c - 8388608)) = _
    rw [if_neg (by omega)]
    unfold FP.Core.assemble
    rw [et, show (q - -149).toNat + 1 = (q + 150).toNat by omega]
    simp
  show (UInt32.ofNat (FP.Core.encode FP.Core.b32 (.fin false c q))).toInt32 = _
  rw [hen]
  rfl
