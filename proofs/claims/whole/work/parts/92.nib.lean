/-! four bits a place -/
def nb (x : Int64) (k : Nat) : Int32 := ((x >>> ((nI (4 * k)).toInt64 &&& 63)) : Int64).toInt32 &&& 15
theorem nb_0 : ∀ k, k < 10 → nb 0 k = nI 0 := by decide +kernel
theorem nb_sh : ∀ j, j < 10 → ∀ k, k < 10 → ∀ v, v < 16 → nb ((nI v).toInt64 <<< ((nI (4 * j)).toInt64 &&& 63)) k = if k = j then nI v else nI 0 := by decide +kernel
theorem nb_sr (a b : BitVec 64) (m : Nat) : (a ||| b).sshiftRight m = a.sshiftRight m ||| b.sshiftRight m := by
  ext i hi
  simp only [BitVec.getElem_or, BitVec.getElem_sshiftRight, BitVec.msb_or]
  split <;> rfl
theorem nb_se (a b : BitVec 64) : BitVec.signExtend 32 (a ||| b) = BitVec.signExtend 32 a ||| BitVec.signExtend 32 b := by
  rw [BitVec.signExtend_eq_setWidth_of_le _ (by omega), BitVec.signExtend_eq_setWidth_of_le _ (by omega), BitVec.signExtend_eq_setWidth_of_le _ (by omega), BitVec.setWidth_or]
theorem nb_or (x y : Int64) (k : Nat) : nb (x ||| y) k = nb x k ||| nb y k := by
  unfold nb
  apply Int32.toBitVec_inj.mp
  generalize (nI (4 * k)).toInt64 &&& 63 = s
  simp only [Int32.toBitVec_and, Int32.toBitVec_or, Int64.toBitVec_toInt32, Int64.toBitVec_shiftRight, Int64.toBitVec_or, BitVec.sshiftRight']
  rw [nb_sr, nb_se]
  ext i hi
  simp only [BitVec.getElem_and, BitVec.getElem_or]
  cases (BitVec.signExtend 32 (x.toBitVec.sshiftRight (s.toBitVec.smod 64).toNat))[i] <;> cases (BitVec.signExtend 32 (y.toBitVec.sshiftRight (s.toBitVec.smod 64).toNat))[i] <;> simp
section NB
variable {N : g_F} {σ ρ : x_S} {τ θ : x_L}
theorem sX_forget {Q : x_S → x_L → Prop} (h : ∀ σ' : x_S, (∀ z, z ≠ 63 → z ≠ 83 → σ' z = σ z) → σ' 63 2 = 0 → (∀ i, i ≠ 2 → σ' 63 i = σ 63 i) → (∀ i, i < 2 → σ' 83 i = 0) → Q σ' τ) : wX2_forgetEdits σ τ (fun σ66 τ66 => wX2_forgetSnapshots σ66 τ66 Q) := by
  unfold wX2_forgetEdits wX2_forgetSnapshots
  have en : vp_nar .boolean 0 = 0 := rfl
  refine x_S1 (fun i σ' τ' => (∀ z, z ≠ 63 → z ≠ 83 → σ' z = σ z) ∧ σ' 63 2 = 0 ∧ (∀ i, i ≠ 2 → σ' 63 i = σ 63 i) ∧ (∀ j, j < i → σ' 83 j = 0) ∧ τ' = τ) (fun i => nI i) (lo := 0) (n := 2) (Nat.zero_le _) (fun K i σ1 τ1 _ hi hP hK => ?_) (fun K σ1 τ1 hP => ?_) ⟨fun z a _ => x_up_n a, x_up_ss _ _ _ _, fun i hi => x_up_sn hi, fun j hj => absurd hj (Nat.not_lt_zero _), rfl⟩ rfl
  · obtain ⟨f1, f2, f3, f4, rfl⟩ := hP
    unfold wX2_forgetSnapshots_2
    rw [en, i_cl (by omega), show (nI i + 1 : Int32) = nI (i + 1) from nI_add i 1]
    refine i_le (a := 2) (by omega) (by omega) (fun g => absurd g (by omega)) (fun _ => ⟨i_in (by omega) (by omega), hK _ _ ⟨fun z a c => by rw [x_up_n c]; exact f1 z a c, by rw [x_up_n (show (63 : Nat) ≠ 83 by omega)]; exact f2, fun j hj => by rw [x_up_n (show (63 : Nat) ≠ 83 by omega)]; exact f3 j hj, fun j hj => ?_, rfl⟩⟩)
    rw [x_up_i]
    by_cases z : j = i
    · rw [if_pos z]
    · rw [if_neg z]
      exact f4 j (by omega)
  · obtain ⟨f1, f2, f3, f4, rfl⟩ := hP
    unfold wX2_forgetSnapshots_2
    exact i_le (a := 2) (b := 2) (by omega) (by omega) (fun _ => h σ1 f1 f2 f3 f4) (fun g => absurd g (by omega))
/-- where a truck's stops end -/
theorem sX_prepare1 (hN : g_WN N) (hF : f_F N σ) {Q : x_S → x_L → Prop} (h : ∀ σ' : x_S, (∀ z, z ≠ 30 → σ' z = σ z) → (∀ t, t < N 0 1 → σ' 30 t = nI (10 * t + N 8 t)) → wX7_listByRoad σ' τ (fun σ39 τ39 => wX7_setNext σ39 τ39 (fun σ43 τ43 => x_l1 (wX7_prepare_48 Q) 0 σ43 τ43))) : wX7_prepare σ τ Q := by
  have hb := hN.1
  unfold wX7_prepare
  refine x_S1 (fun t σ' τ' => (∀ z, z ≠ 30 → σ' z = σ z) ∧ (∀ j, j < t → σ' 30 j = nI (10 * j + N 8 j)) ∧ τ' = τ) (fun i => nI i) (lo := 0) (n := N 0 1) (Nat.zero_le _) (fun K t σ1 τ1 _ ht hP hK => ?_) (fun K σ1 τ1 hP => ?_) ⟨fun _ _ => rfl, fun j hj => absurd hj (Nat.not_lt_zero _), rfl⟩ rfl
  · obtain ⟨f1, f2, rfl⟩ := hP
    have hF1 := hF.cong (σ' := σ1) (fun z hz => f1 z (by omega))
    unfold wX7_prepare_2
    rw [hF1.1.2, i_cl (show t < 1000000000 by omega), (hF1.2.2.1 t ht).2.2.2, show (nI t + 1 : Int32) = nI (t + 1) from nI_add t 1]
    refine i_le (by omega) (by omega) (fun g => absurd g (by omega)) (fun _ => ⟨i_in (by omega) (by omega), sX_stopAt (hK _ _ ⟨fun z hz => by rw [x_up_n hz]; exact f1 z hz, fun j hj => ?_, rfl⟩)⟩)
    rw [x_up_i]
    by_cases z : j = t
    · rw [if_pos z, z]
    · rw [if_neg z]
      exact f2 j (by omega)
  · obtain ⟨f1, f2, rfl⟩ := hP
    have hF1 := hF.cong (σ' := σ1) (fun z hz => f1 z (by omega))
    unfold wX7_prepare_2
    rw [hF1.1.2]
    exact i_le (by omega) (by omega) (fun _ => h σ1 f1 f2) (fun g => absurd g (by omega))
end NB
