/-! the class sets a platoon's numbers -/
/-- what is set of a stop -/
def f_P (N C : g_F) (b p x : Nat) (σ : x_S) : Prop := σ (b + 7) x = nI p ∧ σ (b + 8) x = nI (g_pos N C x) ∧ σ (b + 10) x = nI (g_dst N C x) ∧ σ (b + 11) x = nI (g_sav N C x) ∧ σ (b + 12) x = if g_clo N C x = true then 1 else 0
theorem g_sum_mul1 {f : Nat → Nat} {n a : Nat} (h : ∀ i, i < n → f i ≤ a) : g_sum f n ≤ n * a := g_sum_bound h
theorem x_up_i_any {σ : x_S} {k j a i : Nat} {v : Int32} (h : i ≠ j) : x_up σ k j v a i = σ a i := by
  unfold x_up
  by_cases z : a = k
  · rw [if_pos z]
    exact if_neg h
  · rw [if_neg z]
section XP
variable {N C : g_F} {b : Nat} {σ : x_S} {τ : x_L}
set_option maxHeartbeats 1000000 in
theorem sX_setPlatoon (hb : 33 ≤ b) (hN : g_WN N) (hW : g_WC N C) (hF : f_F N σ) (hC : f_C N C b σ) (hR : f_R N σ τ) {w : Nat → Nat} {lo hi n p F : Nat} (hn : n ≤ 120) (hhi : hi ≤ n) (hw : f_W b n w σ) (hG : g_G N C w lo hi) (hs : g_srt (g_akey N C) w lo hi) (hf : σ b 14 = nI F) {Q : x_S → x_L → Prop}
    (h : ∀ σ' : x_S, (∀ z, z ≠ b → z ≠ b + 7 → z ≠ b + 8 → z ≠ b + 10 → z ≠ b + 11 → z ≠ b + 12 → σ' z = σ z) → (∀ i, i ≠ 14 → σ' b i = σ b i) → σ' b 14 = nI (F + g_sum (fun j => g_fuel N C (w (lo + j))) (hi - lo)) → (∀ i, lo ≤ i → i < hi → f_P N C b p (w i) σ') → (∀ x, (∀ i, lo ≤ i → i < hi → x ≠ w i) → ∀ z, z = b + 7 ∨ z = b + 8 ∨ z = b + 10 ∨ z = b + 11 ∨ z = b + 12 → σ' z x = σ z x) → Q σ' τ) : wX6_setPlatoon b (nI lo) (nI hi) (nI p) σ τ Q := by
  have hlo := hG.1
  have lt := fun i h1 h2 => g_is_lt hN (hG.2.1 i h1 h2).1
  have bb := g_base_b hN hW (hG.2.1 lo (Nat.le_refl _) hlo).1
  have inj := hG.2.2.2
  unfold wX6_setPlatoon
  rw [i_cl (by omega), hw lo (by omega)]
  refine ⟨i_in (by omega) (by omega), ?_⟩
  refine sX_base hb hN hW hF hC (hG.2.1 lo (Nat.le_refl _) hlo).1 ?_
  refine x_l5_I (fun k a c d e f σ' τ' => ∃ i, a = nI lo ∧ c = nI hi ∧ d = nI p ∧ e = nI (g_base N C (w lo)) ∧ f = nI i ∧ lo ≤ i ∧ i + k = hi ∧ τ = τ' ∧ (∀ z, z ≠ b → z ≠ b + 7 → z ≠ b + 8 → z ≠ b + 10 → z ≠ b + 11 → z ≠ b + 12 → σ' z = σ z) ∧ (∀ i, i ≠ 14 → σ' b i = σ b i) ∧ σ' b 14 = nI (F + g_sum (fun j => if j = 0 then g_base N C (w lo) else g_fuel N C (w (lo + j))) (i - lo)) ∧ (∀ j, lo ≤ j → j < i → σ' (b + 7) (w j) = nI p ∧ σ' (b + 8) (w j) = nI (g_pos N C (w j)) ∧ σ' (b + 10) (w j) = nI (g_dst N C (w j)) ∧ σ' (b + 11) (w j) = nI (if j = lo then 0 else g_sav N C (w j)) ∧ σ' (b + 12) (w j) = if g_clo N C (w j) = true then 1 else 0) ∧ (∀ x, (∀ j, lo ≤ j → j < i → x ≠ w j) → ∀ z, z = b + 7 ∨ z = b + 8 ∨ z = b + 10 ∨ z = b + 11 ∨ z = b + 12 → σ' z x = σ z x)) ?_ (hi - lo) ⟨lo, rfl, rfl, rfl, rfl, rfl, Nat.le_refl _, by omega, rfl, fun _ _ _ _ _ _ _ => rfl, fun _ _ => rfl, by rw [Nat.sub_self]; exact hf, fun j a1 a2 => absurd a2 (by omega), fun _ _ _ _ => rfl⟩
  rintro k a c d e f σ' τ' ⟨i, rfl, rfl, rfl, rfl, rfl, hi1, hk, rfl, h1, h2, h3, h4, h5⟩ K hK
  have hw' : f_W b n w σ' := fun j hj => by rw [h1 (b + 6) (by omega) (by omega) (by omega) (by omega) (by omega) (by omega)]; exact hw j hj
  have hF' := hF.cong (σ' := σ') (fun z hz => h1 z (by omega) (by omega) (by omega) (by omega) (by omega) (by omega))
  have hR' := hR.cong (σ' := σ') (fun z hz => h1 z (by omega) (by omega) (by omega) (by omega) (by omega) (by omega))
  unfold wX6_setPlatoon_15
  refine i_le (by omega) (by omega) (fun g => ?_) (fun g => ?_)
  · have ei : i = hi := by omega
    subst ei
    rw [show (nI i - nI lo : Int32) = nI (i - lo) from nI_sub (by omega)]
    unfold wX6_setPlatoon_234
    have hsum : g_sum (fun j => g_fuel N C (w (lo + j))) (i - lo) + (if 1 < i - lo then g_sav N C (w lo) else 0) = g_sum (fun j => if j = 0 then g_base N C (w lo) else g_fuel N C (w (lo + j))) (i - lo) := by
      rw [g_sum_rm (a := 0) (show 0 < i - lo by omega), g_sum_rm (f := fun j => if j = 0 then g_base N C (w lo) else g_fuel N C (w (lo + j))) (a := 0) (show 0 < i - lo by omega)]
      rw [g_sum_congr (f := fun j => if j = 0 then 0 else if j = 0 then g_base N C (w lo) else g_fuel N C (w (lo + j))) (g := fun j => if j = 0 then 0 else g_fuel N C (w (lo + j))) (fun j _ => by
        by_cases z : j = 0
        · rw [if_pos z, if_pos z]
        · rw [if_neg z, if_neg z, if_neg z])]
      rw [if_pos rfl]
      have hcl : ¬ g_clo N C (w lo) = true := fun z => ((hG.clo hN hW hs (Nat.le_refl _) hlo).mp z).1 rfl
      have hf0 : g_fuel N C (w (lo + 0)) = g_base N C (w lo) - g_sav N C (w lo) := by
        show g_base N C (w lo) + (if g_clo N C (w lo) = true then 300 else 0) - g_sav N C (w lo) = _
        rw [if_neg hcl]
        rfl
      rw [hf0]
      have sb := (g_sav_b hN hW (hG.2.1 lo (Nat.le_refl _) hlo).1).1
      by_cases z : 1 < i - lo
      · rw [if_pos z]
        omega
      · rw [if_neg z]
        have : g_sav N C (w lo) = 0 := by
          rw [hG.sav hN hW hs (Nat.le_refl _) hlo, if_pos rfl, if_neg z]
        omega
    refine i_le (b := 1) (by omega) (by omega) (fun g2 => ?_) (fun g2 => ?_)
    · rw [if_neg (by omega), Nat.add_zero] at hsum
      refine h σ' h1 h2 (by rw [h3, hsum]) (fun j a1 a2 => ?_) h5
      have ej : j = lo := by omega
      subst ej
      obtain ⟨x1, x2, x3, x4, x5⟩ := h4 j a1 a2
      rw [if_pos rfl] at x4
      refine ⟨x1, x2, x3, ?_, x5⟩
      rw [x4, hG.sav hN hW hs (Nat.le_refl _) hlo, if_pos rfl, if_neg (by omega)]
    · rw [if_pos g2] at hsum
      have l1 := lt (lo + 1) (by omega) (by omega)
      have l0 := lt lo (Nat.le_refl _) hlo
      have db : g_dst N C (w (lo + 1)) < 61 := by
        rw [hG.dst hN hW hs (i := lo + 1) (by omega) (by omega), if_neg (by omega)]
        have := g_gap_b hN (hG.2.1 (lo + 1) (by omega) (by omega)).1.1 (hG.2.1 (lo + 1 - 1) (by omega) (by omega)).1.1
        omega
      have shb := g_share_b (g_dst N C (w (lo + 1)))
      rw [show (nI lo + 1 : Int32) = nI (lo + 1) from nI_add lo 1]
      refine ⟨i_in (by omega) (by omega), i_in (by omega) (by omega), ?_⟩
      rw [i_cl (by omega), i_cl (by omega), hw' (lo + 1) (by omega), hw' lo (by omega), i_cl (by omega), i_cl (by omega), (h4 (lo + 1) (by omega) (by omega)).2.2.1]
      refine ⟨i_in l1 (by omega), ?_⟩
      refine sX_shareBy db ?_
      rw [show (nI (g_share (g_dst N C (w (lo + 1)))) / 4 : Int32) = nI (g_share (g_dst N C (w (lo + 1))) / 4) from nI_div (b := 4) (by omega) (by omega) (by omega), e_sav bb (by omega)]
      rw [show g_base N C (w lo) * (g_share (g_dst N C (w (lo + 1))) / 4) / 1000 = g_sav N C (w lo) from by rw [hG.sav hN hW hs (Nat.le_refl _) hlo, if_pos rfl, if_pos g2]]
      refine ⟨i_in l0 (by omega), ?_⟩
      rw [x_up_n (show b + 6 ≠ b + 11 by omega), hw' lo (by omega), i_cl (by omega), x_up_n (show b ≠ b + 11 by omega), x_up_ss, h3]
      refine ⟨i_in l0 (by omega), ?_⟩
      rw [nI_sub (by omega)]
      refine h _ (fun z z0 z1 z2 z3 z4 z5 => by rw [x_up_n z0, x_up_n z4]; exact h1 z z0 z1 z2 z3 z4 z5) (fun j hj => by rw [x_up_sn hj, x_up_n (show b ≠ b + 11 by omega)]; exact h2 j hj) ?_ (fun j a1 a2 => ?_) (fun x hx z hz => ?_)
      · rw [x_up_ss]
        congr 1
        omega
      · obtain ⟨x1, x2, x3, x4, x5⟩ := h4 j a1 a2
        unfold f_P
        rw [x_up_n (show b + 7 ≠ b by omega), x_up_n (show b + 7 ≠ b + 11 by omega), x_up_n (show b + 8 ≠ b by omega), x_up_n (show b + 8 ≠ b + 11 by omega), x_up_n (show b + 10 ≠ b by omega), x_up_n (show b + 10 ≠ b + 11 by omega), x_up_n (show b + 11 ≠ b by omega), x_up_n (show b + 12 ≠ b by omega), x_up_n (show b + 12 ≠ b + 11 by omega), x_up_i]
        refine ⟨x1, x2, x3, ?_, x5⟩
        by_cases z : j = lo
        · subst z
          rw [if_pos rfl]
        · rw [if_neg (fun q => z (inj j lo a1 a2 (Nat.le_refl _) hlo q)), x4, if_neg z]
      · rw [x_up_n (show z ≠ b by omega), x_up_i_any (hx lo (Nat.le_refl _) hlo)]
        exact h5 x hx z hz
  · have l1 := lt i hi1 g
    have is1 := (hG.2.1 i hi1 g).1
    have pb := g_pos_b (C := C) hN (w i)
    refine ⟨i_in (by omega) (by omega), ?_⟩
    rw [i_cl (by omega), hw' i (by omega), i_cl (by omega)]
    refine ⟨i_in l1 (by omega), ?_⟩
    rw [show (nI i - nI lo : Int32) = nI (g_pos N C (w i)) from by rw [hG.pos hN hW hs hi1 g]; exact nI_sub hi1]
    have hsb := (g_sav_b hN hW is1)
    have go : wX6_setPlatoon_75 b K Q (nI lo) (nI hi) (nI p) (nI (g_base N C (w lo))) (nI i) (nI (w i)) (nI (w i)) (nI (g_dst N C (w i))) (x_up (x_up σ' (b + 7) (w i) (nI p)) (b + 8) (w i) (nI (g_pos N C (w i)))) τ := by
      unfold wX6_setPlatoon_75
      refine ⟨i_in l1 (by omega), ?_⟩
      rw [i_cl (by omega)]
      have clo := hG.clo hN hW hs hi1 g
      have cl2 : ∀ v : Int32, v = (if g_clo N C (w i) = true then 1 else 0) → (vp_in (nI (w i)) 120 ∧ ((¬ nI i = nI lo → wX6_shareByDistance ((x_up (x_up (x_up (x_up σ' (b + 7) (w i) (nI p)) (b + 8) (w i) (nI (g_pos N C (w i)))) (b + 10) (w i) (nI (g_dst N C (w i)))) (b + 12) (w i) (vp_nar .boolean v)) (b + 10) (w i)) (x_up (x_up (x_up (x_up σ' (b + 7) (w i) (nI p)) (b + 8) (w i) (nI (g_pos N C (w i)))) (b + 10) (w i) (nI (g_dst N C (w i)))) (b + 12) (w i) (vp_nar .boolean v)) τ (fun r119 σ119 τ119 => wX6_setPlatoon_127 b K Q (nI lo) (nI hi) (nI p) (nI (g_base N C (w lo))) (nI i) (nI (w i)) (nI (w i)) (((nI (g_base N C (w lo))) * r119) / 1000) σ119 τ119)) ∧ (nI i = nI lo → wX6_setPlatoon_127 b K Q (nI lo) (nI hi) (nI p) (nI (g_base N C (w lo))) (nI i) (nI (w i)) (nI (w i)) 0 (x_up (x_up (x_up (x_up σ' (b + 7) (w i) (nI p)) (b + 8) (w i) (nI (g_pos N C (w i)))) (b + 10) (w i) (nI (g_dst N C (w i)))) (b + 12) (w i) (vp_nar .boolean v)) τ))) := by
        rintro v rfl
        refine ⟨i_in l1 (by omega), ?_⟩
        rw [show vp_nar .boolean (if g_clo N C (w i) = true then 1 else 0) = if g_clo N C (w i) = true then 1 else 0 from by split <;> rfl]
        have fin : ∀ sv : Nat, sv = (if i = lo then 0 else g_sav N C (w i)) → wX6_setPlatoon_127 b K Q (nI lo) (nI hi) (nI p) (nI (g_base N C (w lo))) (nI i) (nI (w i)) (nI (w i)) (nI sv) (x_up (x_up (x_up (x_up σ' (b + 7) (w i) (nI p)) (b + 8) (w i) (nI (g_pos N C (w i)))) (b + 10) (w i) (nI (g_dst N C (w i)))) (b + 12) (w i) (if g_clo N C (w i) = true then 1 else 0)) τ := by
          rintro sv hsv
          unfold wX6_setPlatoon_127 wX6_setPlatoon_160
          refine ⟨i_in l1 (by omega), i_in l1 (by omega), ?_⟩
          have svb : sv ≤ g_base N C (w lo) := by
            rw [hsv]
            split
            · exact Nat.zero_le _
            · rw [← hG.base hi1 g]
              exact hsb.1
          have fe : (if i = lo then g_base N C (w lo) else g_fuel N C (w i)) = g_base N C (w lo) - sv + (if g_clo N C (w i) = true then 300 else 0) := by
            rw [hsv]
            by_cases z : i = lo
            · have hcl : ¬ g_clo N C (w i) = true := fun q => (clo.mp q).1 z
              rw [if_pos z, if_pos z, if_neg hcl]
              rfl
            · rw [if_neg z, if_neg z]
              unfold g_fuel
              rw [hG.base hi1 g]
              have := hsb.1
              rw [hG.base hi1 g] at this
              omega
          have done : ∀ v : Int32, v = nI (F + g_sum (fun j => if j = 0 then g_base N C (w lo) else g_fuel N C (w (lo + j))) (i - lo) + (g_base N C (w lo) - sv + (if g_clo N C (w i) = true then 300 else 0))) → K (nI lo) (nI hi) (nI p) (nI (g_base N C (w lo))) (nI i + 1) (x_up (x_up (x_up (x_up (x_up (x_up σ' (b + 7) (w i) (nI p)) (b + 8) (w i) (nI (g_pos N C (w i)))) (b + 10) (w i) (nI (g_dst N C (w i)))) (b + 12) (w i) (if g_clo N C (w i) = true then 1 else 0)) (b + 11) (w i) (nI sv)) b 14 v) τ := by
            rintro v rfl
            rw [show (nI i + 1 : Int32) = nI (i + 1) from nI_add i 1]
            refine hK (k - 1) _ _ _ _ _ _ _ (by omega) ⟨i + 1, rfl, rfl, rfl, rfl, rfl, by omega, by omega, rfl, fun z z0 z1 z2 z3 z4 z5 => by rw [x_up_n z0, x_up_n z4, x_up_n z5, x_up_n z3, x_up_n z2, x_up_n z1]; exact h1 z z0 z1 z2 z3 z4 z5, fun j hj => ?_, ?_, fun j a1 a2 => ?_, fun x hx z hz => ?_⟩
            · rw [x_up_sn hj, x_up_n (show b ≠ b + 11 by omega), x_up_n (show b ≠ b + 12 by omega), x_up_n (show b ≠ b + 10 by omega), x_up_n (show b ≠ b + 8 by omega), x_up_n (show b ≠ b + 7 by omega)]
              exact h2 j hj
            · rw [x_up_ss, show i + 1 - lo = (i - lo) + 1 by omega, g_sum]
              congr 1
              rw [Nat.add_assoc]
              congr 2
              rw [← fe]
              by_cases z : i = lo
              · rw [if_pos z, if_pos (by omega)]
              · rw [if_neg z, if_neg (by omega), show lo + (i - lo) = i by omega]
            · rw [x_up_n (show b + 7 ≠ b by omega), x_up_n (show b + 7 ≠ b + 11 by omega), x_up_n (show b + 7 ≠ b + 12 by omega), x_up_n (show b + 7 ≠ b + 10 by omega), x_up_n (show b + 7 ≠ b + 8 by omega), x_up_i,
                x_up_n (show b + 8 ≠ b by omega), x_up_n (show b + 8 ≠ b + 11 by omega), x_up_n (show b + 8 ≠ b + 12 by omega), x_up_n (show b + 8 ≠ b + 10 by omega), x_up_i, x_up_n (show b + 8 ≠ b + 7 by omega),
                x_up_n (show b + 10 ≠ b by omega), x_up_n (show b + 10 ≠ b + 11 by omega), x_up_n (show b + 10 ≠ b + 12 by omega), x_up_i, x_up_n (show b + 10 ≠ b + 8 by omega), x_up_n (show b + 10 ≠ b + 7 by omega),
                x_up_n (show b + 11 ≠ b by omega), x_up_i, x_up_n (show b + 11 ≠ b + 12 by omega), x_up_n (show b + 11 ≠ b + 10 by omega), x_up_n (show b + 11 ≠ b + 8 by omega), x_up_n (show b + 11 ≠ b + 7 by omega),
                x_up_n (show b + 12 ≠ b by omega), x_up_n (show b + 12 ≠ b + 11 by omega), x_up_i, x_up_n (show b + 12 ≠ b + 10 by omega), x_up_n (show b + 12 ≠ b + 8 by omega), x_up_n (show b + 12 ≠ b + 7 by omega)]
              by_cases z : w j = w i
              · have ej := inj j i a1 (by omega) hi1 g z
                subst ej
                rw [if_pos rfl, if_pos rfl, if_pos rfl, if_pos rfl, if_pos rfl]
                exact ⟨rfl, rfl, rfl, by rw [hsv], rfl⟩
              · rw [if_neg z, if_neg z, if_neg z, if_neg z, if_neg z]
                exact h4 j a1 (by
                  have : j ≠ i := fun q => z (by rw [q])
                  omega)
            · have hne := hx i hi1 (by omega)
              have h6 := h5 x (fun j a1 a2 => hx j a1 (by omega)) z hz
              rw [x_up_n (by omega)]
              rw [x_up_i_any hne, x_up_i_any hne, x_up_i_any hne, x_up_i_any hne, x_up_i_any hne]
              exact h6
          have eb : (x_up (x_up (x_up (x_up (x_up σ' (b + 7) (w i) (nI p)) (b + 8) (w i) (nI (g_pos N C (w i)))) (b + 10) (w i) (nI (g_dst N C (w i)))) (b + 12) (w i) (if g_clo N C (w i) = true then 1 else 0)) (b + 11) (w i) (nI sv)) b 14 = nI (F + g_sum (fun j => if j = 0 then g_base N C (w lo) else g_fuel N C (w (lo + j))) (i - lo)) := by
            rw [x_up_n (show b ≠ b + 11 by omega), x_up_n (show b ≠ b + 12 by omega), x_up_n (show b ≠ b + 10 by omega), x_up_n (show b ≠ b + 8 by omega), x_up_n (show b ≠ b + 7 by omega)]
            exact h3
          rw [i_cl (by omega), x_up_n (show b + 12 ≠ b + 11 by omega), x_up_ss, x_up_ss, eb, nI_sub svb]
          have c1 : g_clo N C (w i) = true → (if g_clo N C (w i) = true then (1 : Int32) else 0) = 1 := fun z => if_pos z
          have c0 : ¬ g_clo N C (w i) = true → (if g_clo N C (w i) = true then (1 : Int32) else 0) = 0 := fun z => if_neg z
          have d1 : g_clo N C (w i) = true → (if g_clo N C (w i) = true then 300 else 0) = 300 := fun z => if_pos z
          have d0 : ¬ g_clo N C (w i) = true → (if g_clo N C (w i) = true then 300 else 0) = 0 := fun z => if_neg z
          by_cases cz : g_clo N C (w i) = true
          · refine ⟨fun q => absurd q (by rw [c1 cz]; decide), fun _ => done _ ?_⟩
            rw [show (nI (g_base N C (w lo) - sv) + 300 : Int32) = nI (g_base N C (w lo) - sv + 300) from nI_add _ 300, nI_add, d1 cz]
          · refine ⟨fun _ => done _ ?_, fun q => absurd (c0 cz) q⟩
            rw [show (nI (g_base N C (w lo) - sv) + 0 : Int32) = nI (g_base N C (w lo) - sv + 0) from nI_add _ 0, nI_add, d0 cz]
        refine i_ne (by omega) (by omega) (fun z => ?_) (fun z => ?_)
        · rw [x_up_n (show b + 10 ≠ b + 12 by omega), x_up_ss]
          have db : g_dst N C (w i) < 61 := by
            rw [hG.dst hN hW hs hi1 g, if_neg z]
            have := g_gap_b hN is1.1 (hG.2.1 (i - 1) (by omega) (by omega)).1.1
            omega
          refine sX_shareBy db ?_
          rw [e_sav bb (g_share_b _)]
          refine fin _ ?_
          rw [if_neg z, hG.sav hN hW hs hi1 g, if_neg z]
        · exact fin 0 (by rw [if_pos z])
      refine sX_closesAt hN (hR'.cong (fun z hz => by rw [x_up_n (by omega), x_up_n (by omega), x_up_n (by omega)])) (w := w) (fun j hj => ?_) hi1 (show i < 120 by omega) (Nat.le_refl _) (fun j a1 a2 => (hG.2.1 j a1 (by omega)).1) (fun z => cl2 1 (by rw [if_pos (clo.mpr z)])) (fun z => cl2 0 (by rw [if_neg (fun q => z (clo.mp q))]))
      rw [x_up_n (show b + 6 ≠ b + 10 by omega), x_up_n (show b + 6 ≠ b + 8 by omega), x_up_n (show b + 6 ≠ b + 7 by omega)]
      exact hw' j (by omega)
    refine i_ne (by omega) (by omega) (fun z => ?_) (fun z => ?_)
    · refine sX_distAt hN (hF'.cong (fun z hz => by rw [x_up_n (by omega), x_up_n (by omega)])) (w := w) (fun j hj => ?_) (by omega) (show i < 120 by omega) (Nat.le_refl _) is1 (hG.2.1 (i - 1) (by omega) (by omega)).1 ?_
      · rw [x_up_n (show b + 6 ≠ b + 8 by omega), x_up_n (show b + 6 ≠ b + 7 by omega)]
        exact hw' j (by omega)
      · rw [hG.dst hN hW hs hi1 g, if_neg z] at go
        exact go
    · rw [hG.dst hN hW hs hi1 g, if_pos z] at go
      exact go
end XP
