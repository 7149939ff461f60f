/-! a truck read -/
def t_rt (b : Nat → Int32) (n : Nat) (N : g_F) : Nat → Nat → Nat → (Nat → Nat) → Except (Nat × Nat) (Nat × Nat × (Nat → Nat))
  | 0, _, _, _ => .error (0, 0)
  | k + 1, q, p, R => if t_kd b n p = 3 ∧ 0 < q then .ok (t_end b n p, q, R) else if t_kd b n p ≠ 2 then .error (1, t_beg b n p) else if N 0 0 ≤ t_vl b n p then .error (2, t_beg b n p) else if 0 < q ∧ N 1 (t_vl b n p) ≠ N 2 (R (q - 1)) then .error (3, t_beg b n p) else if q = 10 then .error (4, t_beg b n p) else t_rt b n N k (q + 1) (t_end b n p) (fun i => if i = q then t_vl b n p else R i)
def g_tr (N : g_F) (f d g q : Nat) (R : Nat → Nat) : g_F := fun k i => if k = 0 ∧ i = 1 then N 0 1 + 1 else if k = 5 ∧ i = N 0 1 then f else if k = 6 ∧ i = N 0 1 then d else if k = 7 ∧ i = N 0 1 then g else if k = 8 ∧ i = N 0 1 then q else if k = 9 ∧ i / 10 = N 0 1 then R (i % 10) else N k i
def t_truck (b : Nat → Int32) (n p : Nat) (N : g_F) : Except (Nat × Nat) (Nat × g_F) := (t_num b n 0 2000 p).bind fun f => (t_num b n 0 10000 f.2).bind fun d => (t_num b n 5 60 d.2).bind fun g => (t_rt b n N 11 0 g.2 (fun _ => 0)).bind fun r => .ok (r.1, g_tr N f.1 d.1 g.1 r.2.1 r.2.2)
section GT
variable {N : g_F} {f d g q : Nat} {R : Nat → Nat}
theorem g_tr_5 : g_tr N f d g q R 5 (N 0 1) = f := by simp [g_tr]
theorem g_tr_6 : g_tr N f d g q R 6 (N 0 1) = d := by simp [g_tr]
theorem g_tr_7 : g_tr N f d g q R 7 (N 0 1) = g := by simp [g_tr]
theorem g_tr_8 : g_tr N f d g q R 8 (N 0 1) = q := by simp [g_tr]
theorem g_tr_9 {i : Nat} (h : i / 10 = N 0 1) : g_tr N f d g q R 9 i = R (i % 10) := by simp [g_tr, h]
theorem g_tr_k {k i : Nat} (h : i ≠ N 0 1) (h0 : k ≠ 0) (h9 : k ≠ 9) : g_tr N f d g q R k i = N k i := by
  unfold g_tr
  rw [if_neg (by omega), if_neg (by omega), if_neg (by omega), if_neg (by omega), if_neg (by omega), if_neg (by omega)]
theorem g_tr_4 {k i : Nat} (h0 : k ≠ 0) (h9 : k ≤ 4) : g_tr N f d g q R k i = N k i := by
  unfold g_tr
  rw [if_neg (by omega), if_neg (by omega), if_neg (by omega), if_neg (by omega), if_neg (by omega), if_neg (by omega)]
theorem g_tr_9n {i : Nat} (h : i / 10 ≠ N 0 1) : g_tr N f d g q R 9 i = N 9 i := by
  unfold g_tr
  rw [if_neg (by omega), if_neg (by omega), if_neg (by omega), if_neg (by omega), if_neg (by omega), if_neg (by omega)]
theorem g_tr_00 : g_tr N f d g q R 0 0 = N 0 0 := rfl
theorem g_tr_01 : g_tr N f d g q R 0 1 = N 0 1 + 1 := rfl
theorem g_tr_WN (h : g_WN N) (hT : N 0 1 < 12) (h1 : f ≤ 2000) (h2 : d ≤ 10000) (h3 : 5 ≤ g ∧ g ≤ 60) (h4 : 1 ≤ q ∧ q ≤ 10) (h5 : ∀ i, i < q → R i < N 0 0) : g_WN (g_tr N f d g q R) := by
  obtain ⟨⟨n1, n2⟩, n3, n4, n5⟩ := h
  refine ⟨⟨n1, by rw [g_tr_01]; omega⟩, fun r hr => ?_, fun t ht => ?_, fun t i ht hi => ?_⟩
  · rw [g_tr_4 (by omega) (by omega), g_tr_4 (by omega) (by omega), g_tr_4 (by omega) (by omega), g_tr_4 (by omega) (by omega)]
    exact n3 r hr
  · rw [g_tr_01] at ht
    by_cases z : t = N 0 1
    · subst z
      rw [g_tr_5, g_tr_6, g_tr_7, g_tr_8]
      omega
    · rw [g_tr_k z (by omega) (by omega), g_tr_k z (by omega) (by omega), g_tr_k z (by omega) (by omega), g_tr_k z (by omega) (by omega)]
      exact n4 t (by omega)
  · rw [g_tr_01] at ht
    by_cases z : t = N 0 1
    · subst z
      rw [g_tr_8] at hi
      rw [g_tr_9 (by omega), g_tr_00, show (10 * N 0 1 + i) % 10 = i by omega]
      exact h5 i hi
    · rw [g_tr_k z (by omega) (by omega)] at hi
      have hq := (n4 t (by omega)).2.2.2.2.2
      rw [g_tr_9n (by omega), g_tr_00]
      exact n5 t i (by omega) hi
theorem f_D.tr (hN : g_WN N) {σ σ' : x_S} (h : f_D N σ) (e0 : σ' 14 0 = σ 14 0) (e5 : σ' 14 5 = nI (N 0 1 + 1)) (e1 : ∀ z, 15 ≤ z → z ≤ 18 → σ' z = σ z) (e19 : ∀ i, σ' 19 i = if i = N 0 1 then nI f else σ 19 i) (e20 : ∀ i, σ' 20 i = if i = N 0 1 then nI d else σ 20 i) (e21 : ∀ i, σ' 21 i = if i = N 0 1 then nI g else σ 21 i) (e22 : ∀ i, σ' 22 i = if i = N 0 1 then nI q else σ 22 i) (e23 : ∀ i, i < q → σ' 23 (10 * N 0 1 + i) = nI (R i)) (e23n : ∀ i, i / 10 ≠ N 0 1 → σ' 23 i = σ 23 i) (hq : q ≤ 10) : f_D (g_tr N f d g q R) σ' := by
  obtain ⟨⟨h1, h2⟩, h3, h4, h5⟩ := h
  refine ⟨⟨e0.trans h1, e5⟩, fun r hr => ?_, fun t ht => ?_, fun s hs => ?_⟩
  · show σ' 15 r = _ ∧ σ' 16 r = _ ∧ σ' 17 r = _ ∧ σ' 18 r = _
    rw [e1 15 (by omega) (by omega), e1 16 (by omega) (by omega), e1 17 (by omega) (by omega), e1 18 (by omega) (by omega), g_tr_4 (by omega) (by omega), g_tr_4 (by omega) (by omega), g_tr_4 (by omega) (by omega), g_tr_4 (by omega) (by omega)]
    exact h3 r hr
  · show σ' 19 t = _ ∧ σ' 20 t = _ ∧ σ' 21 t = _ ∧ σ' 22 t = _
    rw [g_tr_01] at ht
    rw [e19, e20, e21, e22]
    by_cases z : t = N 0 1
    · subst z
      rw [g_tr_5, g_tr_6, g_tr_7, g_tr_8, if_pos rfl, if_pos rfl, if_pos rfl, if_pos rfl]
      exact ⟨rfl, rfl, rfl, rfl⟩
    · rw [if_neg z, if_neg z, if_neg z, if_neg z, g_tr_k z (by omega) (by omega), g_tr_k z (by omega) (by omega), g_tr_k z (by omega) (by omega), g_tr_k z (by omega) (by omega)]
      exact h4 t (by omega)
  · show σ' 23 s = _
    have hs1 := hs.1
    have hs2 := hs.2
    rw [g_tr_01] at hs1
    by_cases z : s / 10 = N 0 1
    · rw [z, g_tr_8] at hs2
      rw [g_tr_9 z]
      have := e23 (s % 10) hs2
      rw [show 10 * N 0 1 + s % 10 = s by omega] at this
      exact this
    · rw [g_tr_k z (by omega) (by omega)] at hs2
      rw [g_tr_9n z, e23n s z]
      exact h5 s ⟨by omega, hs2⟩
end GT
section RT
variable {b : Nat → Int32} {n p : Nat} {N : g_F} {σ ρ : x_S} {τ θ : x_L}
theorem sX_readRoute (ht : x_tb b n σ) (hp : p ≤ n) (h6 : σ 1 6 = nI p) (hN : g_WN N) (hT : N 0 1 < 12) (hR : σ 14 0 = nI (N 0 0)) (hf : ∀ r, r < N 0 0 → σ 15 r = nI (N 1 r) ∧ σ 16 r = nI (N 2 r)) {Q : Int32 → x_S → x_L → Prop} (h1 : ∀ (e q : Nat) (R : Nat → Nat) (σ' : x_S), t_rt b n N 11 0 p (fun _ => 0) = .ok (e, q, R) → p ≤ e → e ≤ n → x_lf σ σ' → σ' 1 6 = nI e → (1 ≤ q ∧ q ≤ 10) → (∀ i, i < q → σ' 23 (10 * N 0 1 + i) = nI (R i) ∧ R i < N 0 0) → (∀ i, i / 10 ≠ N 0 1 → σ' 23 i = σ 23 i) → (∀ i, σ' 22 i = if i = N 0 1 then nI q else σ 22 i) → (∀ z, 14 ≤ z → z ≤ 21 → σ' z = σ z) → Q 1 σ' τ) (h0 : ∀ (c s : Nat) (σ' : x_S), t_rt b n N 11 0 p (fun _ => 0) = .error (c, s) → x_le σ σ' → σ' 1 2 = nI c → σ' 1 3 = nI s → Q 0 σ' τ) : wX3_readRoute (nI (N 0 1)) σ τ Q := by
  have hb := hN.1.1
  unfold wX3_readRoute
  refine x_l2_I (fun k c0 c1 σ' τ' => ∃ q p' R, q + k = 10 ∧ c0 = nI (N 0 1) ∧ c1 = nI q ∧ p ≤ p' ∧ p' ≤ n ∧ x_lf σ σ' ∧ σ' 1 6 = nI p' ∧ (∀ i, i < q → σ' 23 (10 * N 0 1 + i) = nI (R i) ∧ R i < N 0 0) ∧ (∀ i, i / 10 ≠ N 0 1 → σ' 23 i = σ 23 i) ∧ (∀ z, 14 ≤ z → z ≤ 22 → σ' z = σ z) ∧ t_rt b n N (k + 1) q p' R = t_rt b n N 11 0 p (fun _ => 0) ∧ τ' = τ) ?_ 10 ⟨0, p, fun _ => 0, rfl, rfl, rfl, Nat.le_refl _, hp, ⟨fun _ _ _ => rfl, fun _ _ => rfl⟩, h6, fun i hi => absurd hi (Nat.not_lt_zero _), fun _ _ => rfl, fun _ _ _ => rfl, rfl, rfl⟩
  rintro k c0 c1 σ' τ' ⟨q, p', R, e1, rfl, rfl, e2, e3, f, g6, g23, g23n, gz, gt, rfl⟩ K hK
  rw [t_rt] at gt
  unfold wX3_readRoute_2
  refine i_lt (a := 10) (by omega) (by omega) (fun g => absurd g (by omega)) (fun _ => sX_next (ht.lf f) e3 g6 (fun σ1 f1 ⟨k5, k6, k4, k7⟩ => ?_))
  have f2 : x_lf σ σ1 := f.tr f1.lf
  have hkb := t_kd_b b n p'
  obtain ⟨x1, x2, x3, x4⟩ := t_end_b b n e3
  have c23 : σ1 23 = σ' 23 := f1.1 23 (by omega)
  have cz : ∀ z, 14 ≤ z → z ≤ 22 → σ1 z = σ z := fun z a c => (f1.1 z (by omega)).trans (gz z a c)
  have rest : ¬ (t_kd b n p' = 3 ∧ 0 < q) → wX3_readRoute_36 K Q (nI (N 0 1)) (nI q) σ1 τ' := fun g => by
    rw [if_neg g] at gt
    unfold wX3_readRoute_36
    rw [k4]
    refine i_eq (b := 2) (by omega) (by omega) (fun g2 => ?_) (fun g2 => ?_)
    · rw [if_neg (fun y => y g2)] at gt
      have hv := t_vl_b g2
      have k7' : σ1 1 7 = nI (t_vl b n p') := k7 g2
      rw [k7', cz 14 (by omega) (by omega), hR]
      refine i_lt (by omega) (by omega) (fun g3 => ?_) (fun g3 => ?_)
      · rw [if_neg (by omega)] at gt
        have put : ¬ (0 < q ∧ N 1 (t_vl b n p') ≠ N 2 (R (q - 1))) → wX3_readRoute_118 K Q (nI (N 0 1)) (nI q) σ1 τ' := fun g4 => by
          rw [if_neg g4] at gt
          unfold wX3_readRoute_118
          refine i_ne (b := 10) (by omega) (by omega) (fun g5 => ?_) (fun g5 => ?_)
          · rw [if_neg g5] at gt
            refine sX_stopAt ⟨i_in (by omega) (by omega), ?_⟩
            rw [i_cl (by omega), k7', show (nI q + 1 : Int32) = nI (q + 1) from nI_add q 1]
            refine hK (k - 1) _ _ _ _ (by omega) ⟨q + 1, t_end b n p', fun i => if i = q then t_vl b n p' else R i, by omega, rfl, rfl, by omega, x3, f2.tr (x_lf.up (by omega)), by rw [x_up_n (show (1 : Nat) ≠ 23 by omega)]; exact k6, fun i hi => ?_, fun i hi => ?_, fun z a c => by rw [x_up_n (by omega)]; exact cz z a c, by rw [show k - 1 + 1 = k by omega]; exact gt, rfl⟩
            · show _ = nI (if i = q then t_vl b n p' else R i) ∧ (if i = q then t_vl b n p' else R i) < N 0 0
              rw [x_up_i]
              by_cases z : i = q
              · subst z
                rw [if_pos rfl, if_pos rfl]
                exact ⟨rfl, g3⟩
              · rw [if_neg (by omega), if_neg z, c23]
                exact g23 i (by omega)
            · rw [x_up_sn (by omega), c23]
              exact g23n i hi
          · rw [if_pos g5] at gt
            exact sX_fail (c := 4) k5 (fun σ2 f3 y2 y3 => ⟨Or.inl rfl, h0 4 (t_beg b n p') σ2 gt.symm (f2.le.tr f3.le) y2 y3⟩)
        refine i_le (b := 0) (by omega) (by omega) (fun g4 => put (by omega)) (fun g4 => ⟨i_in (by omega) (by omega), ?_⟩)
        rw [show (nI q - 1 : Int32) = nI (q - 1) from nI_sub (a := q) (b := 1) (by omega)]
        have hq1 := g23 (q - 1) (by omega)
        refine sX_stopAt ⟨i_in (by omega) (by omega), ?_⟩
        rw [i_cl (show 10 * N 0 1 + (q - 1) < 1000000000 by omega), c23, hq1.1]
        refine ⟨i_in (by omega) (by omega), ?_⟩
        have hR30 := hq1.2
        have w1 := (hN.2.1 _ g3)
        have w2 := (hN.2.1 _ hq1.2)
        rw [i_cl (show t_vl b n p' < 1000000000 by omega), i_cl (show R (q - 1) < 1000000000 by omega), cz 15 (by omega) (by omega), cz 16 (by omega) (by omega), (hf _ g3).1, (hf _ hq1.2).2]
        refine i_eq (by omega) (by omega) (fun g5 => put (fun y => y.2 g5)) (fun g5 => ?_)
        rw [if_pos ⟨by omega, g5⟩] at gt
        exact sX_fail (c := 3) k5 (fun σ2 f3 y2 y3 => ⟨Or.inl rfl, h0 3 (t_beg b n p') σ2 gt.symm (f2.le.tr f3.le) y2 y3⟩)
      · rw [if_pos g3] at gt
        exact sX_fail (c := 2) k5 (fun σ2 f3 y2 y3 => ⟨Or.inl rfl, h0 2 (t_beg b n p') σ2 gt.symm (f2.le.tr f3.le) y2 y3⟩)
    · rw [if_pos g2] at gt
      exact sX_fail (c := 1) k5 (fun σ2 f3 y2 y3 => ⟨Or.inl rfl, h0 1 (t_beg b n p') σ2 gt.symm (f2.le.tr f3.le) y2 y3⟩)
  rw [k4]
  refine i_ne (b := 3) (by omega) (by omega) (fun g => rest (fun y => g y.1)) (fun g => i_le (b := 0) (by omega) (by omega) (fun g2 => rest (by omega)) (fun g2 => ⟨i_in (by omega) (by omega), ?_⟩))
  rw [if_pos ⟨g, g2⟩] at gt
  rw [i_cl (by omega)]
  refine h1 (t_end b n p') q R _ gt.symm (by omega) x3 (f2.tr (x_lf.up (by omega))) (by rw [x_up_n (show (1 : Nat) ≠ 22 by omega)]; exact k6) (by omega) (fun i hi => by rw [x_up_n (show (23 : Nat) ≠ 22 by omega), c23]; exact g23 i hi) (fun i hi => by rw [x_up_n (show (23 : Nat) ≠ 22 by omega), c23]; exact g23n i hi) (fun i => ?_) (fun z a c => by rw [x_up_n (by omega)]; exact cz z a (by omega))
  rw [x_up_i, cz 22 (by omega) (by omega)]
end RT
