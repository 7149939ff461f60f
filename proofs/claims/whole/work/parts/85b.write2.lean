def q_pl (N C : g_F) (t : Nat) : Nat → List Int32
  | 0 => []
  | q + 1 => if 1 < g_tog N C (10 * t + q) then ((((((if q = 0 then q_pl N C t q else q_pl N C t q ++ [nI 32]) ++ q_dg (g_en N C (10 * t + q)) 4) ++ [nI 45]) ++ q_dg (g_lv N C (10 * t + q)) 4) ++ [nI 42]) ++ q_dg (g_pos N C (10 * t + q)) 4) else ((((if q = 0 then q_pl N C t q else q_pl N C t q ++ [nI 32]) ++ q_dg (g_en N C (10 * t + q)) 4) ++ [nI 45]) ++ q_dg (g_lv N C (10 * t + q)) 4)
theorem q_dg_2 {v : Nat} (h : v < 100) : (q_dg v 4).length ≤ 2 := by
  rw [q_dg_z (m := 4) (k := 2) (by omega) (by omega) (show v < q_u (2 + 1) from h)]
  exact q_dg_b v 2
theorem q_pl_b {N C : g_F} (hN : g_WN N) (t : Nat) : ∀ q, (q_pl N C t q).length + (if q = 0 then 0 else 1) ≤ 13 * q
  | 0 => Nat.le_refl _
  | q + 1 => by
    have ih := q_pl_b (C := C) hN t q
    have hp := g_pos_b (C := C) hN (10 * t + q)
    have h1 := q_dg_b (g_en N C (10 * t + q)) 4
    have h2 := q_dg_b (g_lv N C (10 * t + q)) 4
    have h3 := q_dg_2 (v := g_pos N C (10 * t + q)) (by omega)
    rw [q_pl, if_neg (show ¬ q + 1 = 0 by omega)]
    by_cases e : q = 0
    · rw [if_pos e] at ih
      rw [if_pos e]
      by_cases c : 1 < g_tog N C (10 * t + q)
      · rw [if_pos c]
        simp only [List.length_append, List.length_cons, List.length_nil]
        omega
      · rw [if_neg c]
        simp only [List.length_append, List.length_cons, List.length_nil]
        omega
    · rw [if_neg e] at ih
      rw [if_neg e]
      by_cases c : 1 < g_tog N C (10 * t + q)
      · rw [if_pos c]
        simp only [List.length_append, List.length_cons, List.length_nil]
        omega
      · rw [if_neg c]
        simp only [List.length_append, List.length_cons, List.length_nil]
        omega
section WR
variable {N C : g_F} {w : Nat → Nat} {σ ρ : x_S} {τ θ : x_L}
theorem g_X.fo {σ' : x_S} (h : g_X N C w σ τ) (f : x_fo σ σ') : g_X N C w σ' τ := by
  obtain ⟨h1, h2, h3, h4, h5, h6, h7⟩ := h
  refine ⟨h1, h2, ?_, h4.cong (fun z hz => f z (by omega) (by omega)), h5.cong (fun z hz => f z (by omega) (by omega)), h6.cong (fun z a c => f z (by omega) (by omega)) (by rw [f 33 (by omega) (by omega)]), h7.cong (f 28 (by omega) (by omega))⟩
  unfold f_F at h3 ⊢
  rw [f 3 (by omega) (by omega), f 4 (by omega) (by omega), f 5 (by omega) (by omega), f 6 (by omega) (by omega), f 7 (by omega) (by omega), f 8 (by omega) (by omega), f 9 (by omega) (by omega), f 10 (by omega) (by omega), f 11 (by omega) (by omega), f 12 (by omega) (by omega)]
  exact h3
theorem g_M.fo {ρ' : x_S} (h : g_M N C ρ) (f : m_fo ρ ρ') : g_M N C ρ' := ⟨h.1, h.2.1, h.2.2.1.cong (f.1 3 (by omega) (by omega)), h.2.2.2.cong (f.1 1 (by omega) (by omega))⟩
theorem g_V.fo {σ' ρ' : x_S} (h : g_V N σ ρ) (f : x_fo σ σ') (g : m_fo ρ ρ') (ho : g_Ou σ' ρ') : g_V N σ' ρ' := by
  obtain ⟨⟨P, n, l, k, h1⟩, h2, h3, h4⟩ := h
  refine ⟨⟨P, n, l, k, h1.fr (fun z a c => f z (by omega) (by omega)) (g.1 1 (by omega) (by omega)) (g.2 2 (by omega)) (g.2 3 (by omega))⟩, h2.fr (fun z a c => f z (by omega) (by omega)) (g.1 1 (by omega) (by omega)) (g.1 2 (by omega) (by omega)), ?_, ho⟩
  unfold g_Tx at h3 ⊢
  rw [f 2 (by omega) (by omega), f 1 (by omega) (by omega), g.1 21 (by omega) (by omega), g.2 31 (by omega), g.2 33 (by omega), g.2 34 (by omega)]
  exact h3
theorem sX_writeAll (hX : g_X N C w σ τ) {t : Nat} (ht : t < N 0 1) {Q : Int32 → x_S → x_L → Prop} {QX : x_PE} (h : ∀ σ' : x_S, x_fo σ σ' → x_o (q_pl N C t (N 8 t)) σ' → Q (nI (q_pl N C t (N 8 t)).length) σ' τ) : x_l2 (wX10_write_15 Q QX) (nI t) 0 (x_up σ 84 1 0) τ := by
  obtain ⟨hN, hW, hF, hR0, hC, hA, hB⟩ := id hX
  have hb := hN.1.2
  have h10 := (hN.2.2.1 t ht).2.2.2.2
  refine x_S2 (fun q σ' τ' => x_fo σ σ' ∧ x_o (q_pl N C t q) σ' ∧ τ' = τ) (fun _ => nI t) (fun i => nI i) (lo := 0) (n := N 8 t) (Nat.zero_le _) (fun K q σ' τ' _ hq hP hK => ?_) (fun K σ' τ' hP => ?_) ⟨fun z a b => x_up_n a, ⟨x_up_ss _ _ _ _, fun i hi => absurd hi (Nat.not_lt_zero _)⟩, rfl⟩ rfl rfl
  · obtain ⟨f, ho, rfl⟩ := hP
    have hX' := hX.fo f
    obtain ⟨hs, e1, e2, b1, b2, b3⟩ := g_is_of hN ht hq
    have hk : ∀ σ2 : x_S, x_fo σ σ2 → σ2 37 (10 * t + q) = nI (g_en N C (10 * t + q)) ∧ σ2 38 (10 * t + q) = nI (g_lv N C (10 * t + q)) ∧ σ2 41 (10 * t + q) = nI (g_pos N C (10 * t + q)) := fun σ2 f2 => ⟨by rw [f2 37 (by omega) (by omega)]; exact (hA.1 _ hs).1, by rw [f2 38 (by omega) (by omega)]; exact (hA.1 _ hs).2, by rw [f2 41 (by omega) (by omega)]; exact (hA.2.2.2.2.1 _ hs).2.2.1⟩
    have hlen := q_pl_b (C := C) hN t q
    have hpb := g_pos_b (C := C) hN (10 * t + q)
    have hen := g_en_b hN hW hs
    have d1 := q_dg_b (g_en N C (10 * t + q)) 4
    have d2 := q_dg_b (g_lv N C (10 * t + q)) 4
    have d3 := q_dg_2 (v := g_pos N C (10 * t + q)) (by omega)
    unfold wX10_write_15
    rw [i_cl (show t < 1000000000 by omega), (hX'.2.2.1.2.2.1 t ht).2.2.2]
    have rest : ∀ (σ2 : x_S) (l : List Int32), x_fo σ σ2 → x_o l σ2 → l = (if q = 0 then q_pl N C t q else q_pl N C t q ++ [nI 32]) → wX10_write_47 K Q QX (nI t) (nI q) (nI (10 * t + q)) σ2 τ' := fun σ2 l f2 ho2 hl => by
      have hll : l.length ≤ 13 * q := by
        rw [hl]
        by_cases e : q = 0
        · rw [if_pos e] at hlen ⊢
          omega
        · rw [if_neg e] at hlen ⊢
          rw [List.length_append]
          exact hlen
      unfold wX10_write_47 wX10_write_124
      rw [show (nI q + 1 : Int32) = nI (q + 1) from nI_add q 1, i_cl (show 10 * t + q < 1000000000 by omega), (hk σ2 f2).1]
      refine ⟨i_in b1 (by omega), sX_num (by omega) ho2 (by omega) (fun σ3 f3 ho3 => ?_)⟩
      refine sX_put (c := 45) (by omega) ho3 (by rw [List.length_append]; omega) (fun σ4 f4 ho4 => ?_)
      rw [(hk σ4 ((f2.tr f3).tr f4)).2.1]
      refine sX_num (by omega) ho4 (by simp only [List.length_append, List.length_cons, List.length_nil]; omega) (fun σ5 f5 ho5 => ?_)
      have f25 := ((f2.tr f3).tr f4).tr f5
      refine sX_inCompany (hX.fo f25) hs (fun c => i_one' ?_) (fun c => i_zer (hK _ _ ⟨f25, ?_, rfl⟩))
      · refine sX_put (c := 42) (by omega) ho5 (by simp only [List.length_append, List.length_cons, List.length_nil]; omega) (fun σ6 f6 ho6 => ?_)
        rw [(hk σ6 (f25.tr f6)).2.2]
        refine sX_num (by omega) ho6 ?_ (fun σ7 f7 ho7 => hK _ _ ⟨(f25.tr f6).tr f7, ?_, rfl⟩)
        · simp only [List.length_append, List.length_cons, List.length_nil]
          omega
        · rw [q_pl, if_pos c, ← hl]
          exact ho7
      · rw [q_pl, if_neg c, ← hl]
        exact ho5
    refine ⟨i_in (by omega) (by omega), i_le (by omega) (by omega) (fun g => absurd g (by omega)) (fun _ => sX_stopAt (i_le (b := 0) (by omega) (by omega) (fun g => ?_) (fun g => ?_)))⟩
    · exact rest σ' _ f ho (by rw [if_pos (by omega)])
    · refine sX_put (c := 32) (by omega) ho (by omega) (fun σ2 f2 ho2 => rest σ2 _ (f.tr f2) ho2 (by rw [if_neg (by omega)]))
  · obtain ⟨f, ho, rfl⟩ := hP
    have hX' := hX.fo f
    unfold wX10_write_15
    rw [i_cl (show t < 1000000000 by omega), (hX'.2.2.1.2.2.1 t ht).2.2.2, ho.1]
    exact ⟨i_in (by omega) (by omega), i_le (by omega) (by omega) (fun _ => h σ' f ho) (fun g => absurd g (by omega))⟩
theorem sM_writeAll (hM : g_M N C ρ) (hL : m_L N C ρ) {t : Nat} (ht : t < N 0 1) {Q : Int32 → x_S → x_L → Prop} (h : ∀ ρ' : x_S, m_fo ρ ρ' → m_o (q_pl N C t (N 8 t)) ρ' → Q (nI (q_pl N C t (N 8 t)).length) ρ' θ) : x_l2 (wX11_write_39 Q) (nI t) 0 (x_up ρ 0 29 0) θ := by
  obtain ⟨hN, hW, hF, hC⟩ := id hM
  have hb := hN.1.2
  have h10 := (hN.2.2.1 t ht).2.2.2.2
  refine x_S2 (fun q ρ' θ' => m_fo ρ ρ' ∧ m_o (q_pl N C t q) ρ' ∧ θ' = θ) (fun _ => nI t) (fun i => nI i) (lo := 0) (n := N 8 t) (Nat.zero_le _) (fun K q ρ' θ' _ hq hP hK => ?_) (fun K ρ' θ' hP => ?_) (σ := x_up ρ 0 29 0) ⟨⟨fun z a b => x_up_n a, fun i hi => x_up_sn hi⟩, ⟨x_up_ss _ _ _ _, fun i hi => absurd hi (Nat.not_lt_zero _)⟩, rfl⟩ rfl rfl
  · obtain ⟨f, ho, rfl⟩ := hP
    have hF' := (hM.fo f).2.2.1
    obtain ⟨hs, e1, e2, b1, b2, b3⟩ := g_is_of hN ht hq
    have hk : ∀ ρ2 : x_S, m_fo ρ ρ2 → ρ2 4 (10 * t + q) = nI (g_en N C (10 * t + q)) ∧ ρ2 5 (10 * t + q) = nI (g_lv N C (10 * t + q)) ∧ ρ2 7 (10 * t + q) = nI (g_tog N C (10 * t + q)) ∧ ρ2 9 (10 * t + q) = nI (g_pos N C (10 * t + q)) := fun ρ2 f2 => ⟨by rw [f2.1 4 (by omega) (by omega)]; exact (hL.1 _ hs).1, by rw [f2.1 5 (by omega) (by omega)]; exact (hL.1 _ hs).2, by rw [f2.1 7 (by omega) (by omega)]; exact (hL.2.2.1 _ hs).2, by rw [f2.1 9 (by omega) (by omega)]; exact hL.2.2.2.1 _ hs⟩
    have hlen := q_pl_b (C := C) hN t q
    have hpb := g_pos_b (C := C) hN (10 * t + q)
    have htb := g_tog_b (C := C) hN (10 * t + q)
    have hen := g_en_b hN hW hs
    have d1 := q_dg_b (g_en N C (10 * t + q)) 4
    have d2 := q_dg_b (g_lv N C (10 * t + q)) 4
    have d3 := q_dg_2 (v := g_pos N C (10 * t + q)) (by omega)
    unfold wX11_write_39
    have rest : ∀ (ρ2 : x_S) (l : List Int32), m_fo ρ ρ2 → m_o l ρ2 → l = (if q = 0 then q_pl N C t q else q_pl N C t q ++ [nI 32]) → wX11_write_64 K Q (nI t) (nI q) (nI (10 * t + q)) ρ2 θ' := fun ρ2 l f2 ho2 hl => by
      have hll : l.length ≤ 13 * q := by
        rw [hl]
        by_cases e : q = 0
        · rw [if_pos e] at hlen ⊢
          omega
        · rw [if_neg e] at hlen ⊢
          rw [List.length_append]
          exact hlen
      unfold wX11_write_64 wX11_write_119
      rw [show (nI q + 1 : Int32) = nI (q + 1) from nI_add q 1, i_cl (show 10 * t + q < 1000000000 by omega), (hk ρ2 f2).1]
      refine ⟨i_in b1 (by omega), sM_num (by omega) ho2 (by omega) (fun ρ3 f3 ho3 => ?_)⟩
      refine sM_put (c := 45) ho3 (by rw [List.length_append]; omega) (fun ρ4 f4 ho4 => ?_)
      rw [(hk ρ4 ((f2.tr f3).tr f4)).2.1]
      refine sM_num (by omega) ho4 (by simp only [List.length_append, List.length_cons, List.length_nil]; omega) (fun ρ5 f5 ho5 => ?_)
      have f25 := ((f2.tr f3).tr f4).tr f5
      rw [(hk ρ5 f25).2.2.1]
      refine i_le (a := 2) (by omega) (by omega) (fun c => ?_) (fun c => hK _ _ ⟨f25, ?_, rfl⟩)
      · refine sM_put (c := 42) ho5 (by simp only [List.length_append, List.length_cons, List.length_nil]; omega) (fun ρ6 f6 ho6 => ?_)
        rw [(hk ρ6 (f25.tr f6)).2.2.2]
        refine sM_num (by omega) ho6 ?_ (fun ρ7 f7 ho7 => hK _ _ ⟨(f25.tr f6).tr f7, ?_, rfl⟩)
        · simp only [List.length_append, List.length_cons, List.length_nil]
          omega
        · rw [q_pl, if_pos (show 1 < g_tog N C (10 * t + q) by omega), ← hl]
          exact ho7
      · rw [q_pl, if_neg (show ¬ 1 < g_tog N C (10 * t + q) by omega), ← hl]
        exact ho5
    refine sM_places hN hF' ht (i_le (by omega) (by omega) (fun g => absurd g (by omega)) (fun _ => sM_spot (i_le (b := 0) (by omega) (by omega) (fun g => ?_) (fun g => ?_))))
    · exact rest ρ' _ f ho (by rw [if_pos (by omega)])
    · refine sM_put (c := 32) ho (by omega) (fun ρ2 f2 ho2 => rest ρ2 _ (f.tr f2) ho2 (by rw [if_neg (by omega)]))
  · obtain ⟨f, ho, rfl⟩ := hP
    unfold wX11_write_39
    refine sM_places hN (hM.fo f).2.2.1 ht (i_le (by omega) (by omega) (fun _ => ?_) (fun g => absurd g (by omega)))
    rw [ho.1]
    exact h ρ' f ho
end WR
theorem z_39 : z_p39 g_R := by
  intro σ τ ρ θ hR a
  obtain ⟨N, C, w, hX, hM, hV⟩ := id hR
  obtain ⟨hN, hW, hF, hR0, hC, hA, hB⟩ := id hX
  have hM0 := hM.fr (m_fr.up0 (v := 0) (Or.inl rfl))
  unfold wL_write wX10_write
  refine sX_chkTruck hN hF (fun c => ?_) (fun c => ⟨rfl, ?_⟩)
  · obtain ⟨t, ht, rfl⟩ := id c
    have h10 := (hN.2.2.1 t ht).2.2.2.2
    refine sX_writeAll hX ht (fun σ' f ho => ?_)
    unfold wX11_write wX11_write_19
    refine sM_isTruck hN hM0.2.2.1 (fun _ => i_one (sM_thr0 (i_zer ?_))) (fun g => absurd c g)
    refine sM_begin hM (fun ρ' f2 h5 hM' hL => sM_writeAll hM' hL ht (fun ρ2 f3 ho2 => ?_))
    have hlen := q_pl_b (C := C) hN t (N 8 t)
    have hVf := hV.fr (x_fq.rf _) f2
    have hou : g_Ou σ' ρ2 := ⟨_, by omega, ho.1, ho2.1, fun i hi => (ho.2 i hi).trans (ho2.2 i hi).symm⟩
    have hR2 : g_R σ' τ ρ2 θ := ⟨N, C, w, hX.fo f, hM'.fo f3, hVf.fo f f3 hou⟩
    exact q_ok hR2 (by rw [f3.2 5 (by omega)]; exact h5)
  · unfold wX11_write wX11_write_19
    refine sM_isTruck hN hM0.2.2.1 (fun g => absurd g c) (fun _ => i_zer' (sM_thr1 (i_one' ?_)))
    exact q_no (hR.fr (x_fq.rf _) rfl ((m_fr.up0 (Or.inl rfl)).up5 1)) (x_up_ss _ _ _ _) (by decide)
