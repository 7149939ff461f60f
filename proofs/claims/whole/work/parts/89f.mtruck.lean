section MT
variable {b : Nat → Int32} {n p : Nat} {N : g_F} {ρ : x_S} {θ : x_L} {f d g q : Nat} {R : Nat → Nat}
theorem m_Dr.tr {ρ' : x_S} (h : m_Dr N ρ) (hN : g_WN N) (hT : N 0 1 < 12) (hq : q ≤ 10) (e1 : ρ' 3 (290 + 1) = nI (N 0 1 + 1)) (ef : ρ' 3 (290 + (122 + 14 * N 0 1)) = nI f) (ed : ρ' 3 (290 + (122 + 14 * N 0 1 + 1)) = nI d) (eg : ρ' 3 (290 + (122 + 14 * N 0 1 + 2)) = nI g) (eq : ρ' 3 (290 + (122 + 14 * N 0 1 + 3)) = nI q) (er : ∀ i, i < q → ρ' 3 (290 + (122 + 14 * N 0 1 + (4 + i))) = nI (R i)) (eo : ∀ i, i ≠ 1 → (i < 122 + 14 * N 0 1 ∨ 122 + 14 * N 0 1 + 14 ≤ i) → ρ' 3 (290 + i) = ρ 3 (290 + i)) : m_Dr (g_tr N f d g q R) ρ' := by
  obtain ⟨⟨h1, h2⟩, h3, h4, h5⟩ := h
  have hb := hN.1.1
  refine ⟨⟨?_, e1⟩, fun r hr => ?_, fun t ht => ?_, fun s hs => ?_⟩
  · show ρ' 3 (290 + 0) = _
    rw [eo 0 (by omega) (by omega)]
    exact h1
  · have hr2 : r < N 0 0 := hr
    show ρ' 3 (290 + (2 + 4 * r)) = _ ∧ ρ' 3 (290 + (2 + 4 * r + 1)) = _ ∧ ρ' 3 (290 + (2 + 4 * r + 2)) = _ ∧ ρ' 3 (290 + (2 + 4 * r + 3)) = _
    rw [eo _ (by omega) (by omega), eo _ (by omega) (by omega), eo _ (by omega) (by omega), eo _ (by omega) (by omega), g_tr_4 (by omega) (by omega), g_tr_4 (by omega) (by omega), g_tr_4 (by omega) (by omega), g_tr_4 (by omega) (by omega)]
    exact h3 r hr2
  · rw [g_tr_01] at ht
    show ρ' 3 (290 + (122 + 14 * t)) = _ ∧ ρ' 3 (290 + (122 + 14 * t + 1)) = _ ∧ ρ' 3 (290 + (122 + 14 * t + 2)) = _ ∧ ρ' 3 (290 + (122 + 14 * t + 3)) = _
    by_cases z : t = N 0 1
    · subst z
      rw [g_tr_5, g_tr_6, g_tr_7, g_tr_8]
      exact ⟨ef, ed, eg, eq⟩
    · rw [eo _ (by omega) (by omega), eo _ (by omega) (by omega), eo _ (by omega) (by omega), eo _ (by omega) (by omega), g_tr_k z (by omega) (by omega), g_tr_k z (by omega) (by omega), g_tr_k z (by omega) (by omega), g_tr_k z (by omega) (by omega)]
      exact h4 t (by omega)
  · have hs1 := hs.1
    have hs2 := hs.2
    rw [g_tr_01] at hs1
    show ρ' 3 (290 + (122 + 14 * (s / 10) + (4 + s % 10))) = _
    by_cases z : s / 10 = N 0 1
    · rw [z, g_tr_8] at hs2
      rw [g_tr_9 z, z]
      exact er (s % 10) hs2
    · rw [g_tr_k z (by omega) (by omega)] at hs2
      have := Nat.mod_lt s (show 0 < 10 by omega)
      rw [g_tr_9n z, eo _ (by omega) (by omega)]
      exact h5 s ⟨by omega, hs2⟩
theorem t_rt_err {k c : Nat} (h0 : ¬ (t_kd b n p = 3 ∧ 0 < q)) (h : t_kd b n p ≠ 2 ∧ c = 1 ∨ t_kd b n p = 2 ∧ N 0 0 ≤ t_vl b n p ∧ c = 2 ∨ t_kd b n p = 2 ∧ ¬ N 0 0 ≤ t_vl b n p ∧ (0 < q ∧ N 1 (t_vl b n p) ≠ N 2 (R (q - 1))) ∧ c = 3 ∨ t_kd b n p = 2 ∧ ¬ N 0 0 ≤ t_vl b n p ∧ ¬ (0 < q ∧ N 1 (t_vl b n p) ≠ N 2 (R (q - 1))) ∧ q = 10 ∧ c = 4) : t_rt b n N (k + 1) q p R = .error (c, t_beg b n p) := by
  rw [t_rt, if_neg h0]
  rcases h with ⟨g1, rfl⟩ | ⟨g1, g2, rfl⟩ | ⟨g1, g2, g3, rfl⟩ | ⟨g1, g2, g3, g4, rfl⟩
  · rw [if_pos g1]
  · rw [if_neg (fun y => y g1), if_pos g2]
  · rw [if_neg (fun y => y g1), if_neg g2, if_pos g3]
  · rw [if_neg (fun y => y g1), if_neg g2, if_neg g3, if_pos g4]
theorem t_rt_go {k : Nat} (g1 : t_kd b n p = 2) (g2 : t_vl b n p < N 0 0) (g3 : ¬ (0 < q ∧ N 1 (t_vl b n p) ≠ N 2 (R (q - 1)))) (g4 : q ≠ 10) : t_rt b n N (k + 1) q p R = t_rt b n N k (q + 1) (t_end b n p) (fun i => if i = q then t_vl b n p else R i) := by
  rw [t_rt, if_neg (by omega), if_neg (fun y => y g1), if_neg (by omega), if_neg g3, if_neg g4]
theorem sM_route (ht : m_tb b n ρ) (hp : p ≤ n) (hk : m_tk b n p ρ θ) (hN : g_WN N) {T : Nat} (hT : T < 12) (hR : ρ 3 290 = nI (N 0 0)) (hTT : ρ 3 291 = nI T) (hf : ∀ r, r < N 0 0 → ρ 3 (292 + 4 * r) = nI (N 1 r) ∧ ρ 3 (292 + 4 * r + 1) = nI (N 2 r)) (hc : ρ 3 (290 + (122 + 14 * T + 3)) = nI 0) {Q : Int32 → x_S → x_L → Prop} (h1 : ∀ (e q : Nat) (R : Nat → Nat) (ρ' : x_S) (θ' : x_L), t_rt b n N 11 0 p (fun _ => 0) = .ok (e, q, R) → e ≤ n → m_lf ρ ρ' → m_tk b n e ρ' θ' → (1 ≤ q ∧ q ≤ 10) → ρ' 3 291 = nI (T + 1) → ρ' 3 (290 + (122 + 14 * T + 3)) = nI q → (∀ i, i < q → ρ' 3 (290 + (122 + 14 * T + (4 + i))) = nI (R i)) → (∀ i, i ≠ 1 → (i < 122 + 14 * T + 3 ∨ 122 + 14 * T + 14 ≤ i) → ρ' 3 (290 + i) = ρ 3 (290 + i)) → Q 1 ρ' θ') (h0 : ∀ (c s : Nat) (ρ' : x_S) (θ' : x_L), t_rt b n N 11 0 p (fun _ => 0) = .error (c, s) → m_le ρ ρ' → ρ' 0 33 = nI c → ρ' 0 34 = nI s → Q 0 ρ' θ') : wX11_readPlace (nI (122 + 14 * T)) ρ θ (fun r96 σ96 τ96 => (¬ r96 = 0 → x_l1 (wX11_readTruck_104 Q) (nI (122 + 14 * T)) σ96 τ96) ∧ (r96 = 0 → Q 0 σ96 τ96)) := by
  have e291 : (291 : Int32).toNatClampNeg = 291 := rfl
  refine sM_place (q := 0) (R := fun _ => 0) ht hp hk hN hT (by omega) hR hf hc (fun i hi => absurd hi (Nat.not_lt_zero _)) (fun g1 g2 g3 g4 ρ1 θ1 f1 kk1 => i_one ?_) (fun c ρ1 g1 f1 e2 e3 => i_zer' (h0 c (t_beg b n p) ρ1 θ (t_rt_err (by omega) g1) f1.le e2 e3))
  have t0 := t_rt_go (k := 10) (R := fun _ => 0) g1 g2 g3 g4
  refine x_l1_I (fun k c0 ρ' θ' => ∃ q p' R', 1 ≤ q ∧ q + k = 10 ∧ c0 = nI (122 + 14 * T) ∧ p' ≤ n ∧ m_lf ρ ρ' ∧ m_tk b n p' ρ' θ' ∧ ρ' 3 (290 + (122 + 14 * T + 3)) = nI q ∧ (∀ i, i < q → ρ' 3 (290 + (122 + 14 * T + (4 + i))) = nI (R' i) ∧ R' i < N 0 0) ∧ (∀ i, (i < 122 + 14 * T + 3 ∨ 122 + 14 * T + 14 ≤ i) → ρ' 3 (290 + i) = ρ 3 (290 + i)) ∧ t_rt b n N (k + 1) q p' R' = t_rt b n N 11 0 p (fun _ => 0)) ?_ 9 ⟨1, t_end b n p, fun i => if i = 0 then t_vl b n p else 0, Nat.le_refl _, rfl, rfl, (t_end_b b n hp).2.2.1, (f1.lf.tr (m_lf.up (by omega))).tr (m_lf.up (by omega)), kk1, x_up_ss _ _ _ _, fun i hi => ?_, fun i hi => ?_, t0.symm⟩
  · rintro k c0 ρ' θ' ⟨q, p', R', q1, e1, rfl, e3, fr, kk, hcq, hpl, hot, gt⟩ K hK
    have ht' := ht.lf fr
    obtain ⟨k5, k6, k4, k7, -⟩ := id kk
    have hkb := t_kd_b b n p'
    have hR' : ρ' 3 290 = nI (N 0 0) := (hot 0 (by omega)).trans hR
    have hT' : ρ' 3 291 = nI T := (hot 1 (by omega)).trans hTT
    unfold wX11_readTruck_104
    rw [k4, e291, hT', show (nI T + 1 : Int32) = nI (T + 1) from nI_add T 1]
    refine i_ne (b := 2) (by omega) (by omega) (fun g => ?_) (fun g => ?_)
    · have fT : m_lf ρ (x_up ρ' 3 291 (nI (T + 1))) := fr.tr (m_lf.up (by omega))
      refine sM_semi (ht.lf fT) e3 kk.up3 (fun e ρ2 θ2 g2 he f2 kk2 => ⟨Or.inr rfl, ?_⟩) (fun c s ρ2 g2 f2 y2 y3 => ⟨Or.inl rfl, ?_⟩)
      · have g3 : t_kd b n p' = 3 ∧ e = t_end b n p' := by
          unfold t_sem at g2
          split at g2
          · rename_i y
            injection g2 with g2
            exact ⟨y, g2.symm⟩
          · injection g2
        rw [t_rt, if_pos ⟨g3.1, q1⟩] at gt
        refine h1 e q R' ρ2 θ2 (by rw [← gt, g3.2]) he (fT.tr f2.lf) kk2 ⟨q1, by omega⟩ ?_ ?_ (fun i hi => ?_) (fun i hi hi2 => ?_)
        · rw [f2.1 3 (by omega), x_up_ss]
        · rw [f2.1 3 (by omega), x_up_sn (by omega)]
          exact hcq
        · rw [f2.1 3 (by omega), x_up_sn (by omega)]
          exact (hpl i hi).1
        · rw [f2.1 3 (by omega), x_up_sn (by omega)]
          exact hot i hi2
      · have g3 : t_kd b n p' ≠ 3 ∧ c = 1 ∧ s = t_beg b n p' := by
          unfold t_sem at g2
          split at g2
          · injection g2
          · rename_i y
            injection g2 with g2
            injection g2 with y1 y2
            exact ⟨y, y1.symm, y2.symm⟩
        obtain ⟨g4, rfl, rfl⟩ := g3
        rw [t_rt_err (c := 1) (by omega) (Or.inl ⟨g, rfl⟩)] at gt
        exact h0 1 _ ρ2 θ' gt.symm (fT.le.tr f2.le) y2 y3
    · have hf' : ∀ r, r < N 0 0 → ρ' 3 (292 + 4 * r) = nI (N 1 r) ∧ ρ' 3 (292 + 4 * r + 1) = nI (N 2 r) := fun r hr => by
        have hb := hN.1.1
        have z1 := hot (2 + 4 * r) (by omega)
        have z2 := hot (2 + 4 * r + 1) (by omega)
        rw [show 290 + (2 + 4 * r) = 292 + 4 * r by omega] at z1
        rw [show 290 + (2 + 4 * r + 1) = 292 + 4 * r + 1 by omega] at z2
        rw [z1, z2]
        exact hf r hr
      refine sM_place (q := q) (R := R') ht' e3 kk hN hT (by omega) hR' hf' hcq hpl (fun g1 g2 g3 g4 ρ2 θ2 f2 kk2 => i_one ?_) (fun c ρ2 g2 f2 y2 y3 => i_zer' (h0 c (t_beg b n p') ρ2 θ' (by rw [← gt]; exact t_rt_err (by omega) g2) (fr.le.tr f2.le) y2 y3))
      rw [t_rt_go g1 g2 g3 g4] at gt
      refine hK (k - 1) _ _ _ (by omega) ⟨q + 1, t_end b n p', _, by omega, by omega, rfl, (t_end_b b n e3).2.2.1, ((fr.tr f2.lf).tr (m_lf.up (by omega))).tr (m_lf.up (by omega)), kk2, x_up_ss _ _ _ _, fun i hi => ?_, fun i hi => ?_, by rw [show k - 1 + 1 = k by omega]; exact gt⟩
      · show _ = nI (if i = q then t_vl b n p' else R' i) ∧ (if i = q then t_vl b n p' else R' i) < N 0 0
        rw [x_up_sn (by omega), x_up_i]
        by_cases z : i = q
        · subst z
          rw [if_pos rfl, if_pos rfl]
          exact ⟨rfl, g2⟩
        · rw [if_neg (by omega), if_neg z, f2.1 3 (by omega)]
          exact hpl i (by omega)
      · rw [x_up_sn (by omega), x_up_sn (by omega), f2.1 3 (by omega)]
        exact hot i hi
  · have ei : i = 0 := by omega
    subst ei
    show _ = nI (if 0 = 0 then t_vl b n p else 0) ∧ (if 0 = 0 then t_vl b n p else 0) < N 0 0
    rw [if_pos rfl, x_up_sn (by omega)]
    exact ⟨x_up_ss _ _ _ _, g2⟩
  · rw [x_up_sn (by omega), x_up_sn (by omega), f1.1 3 (by omega)]
end MT
