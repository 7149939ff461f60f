theorem m_tk.up3 {b : Nat → Int32} {n p i : Nat} {v : Int32} {ρ : x_S} {θ : x_L} (h : m_tk b n p ρ θ) : m_tk b n p (x_up ρ 3 i v) θ := by
  unfold m_tk at h ⊢
  rw [x_up_n (show (0 : Nat) ≠ 3 by omega)]
  exact h
theorem m_Dr.rd {N : g_F} (hN : g_WN N) {ρ ρ' : x_S} (h : m_Dr N ρ) {a c l m : Nat} (hr : N 0 0 < 30) (cell : ∀ i, ρ' 3 (290 + i) = if i = 0 then nI (N 0 0 + 1) else if i = 2 + 4 * N 0 0 + 3 then nI m else if i = 2 + 4 * N 0 0 + 2 then nI l else if i = 2 + 4 * N 0 0 + 1 then nI c else if i = 2 + 4 * N 0 0 then nI a else ρ 3 (290 + i)) : m_Dr (g_rd N a c l m) ρ' := by
  obtain ⟨⟨h1, h2⟩, h3, h4, h5⟩ := h
  have h12 := hN.1.2
  have ek : ∀ k i, i ≠ N 0 0 → k ≠ 0 → g_rd N a c l m k i = N k i := fun k i hi hk => by
    unfold g_rd
    rw [if_neg (by omega), if_neg (by omega), if_neg (by omega), if_neg (by omega), if_neg (by omega)]
  have e9 : ∀ k i, 5 ≤ k → g_rd N a c l m k i = N k i := fun k i hk => by
    unfold g_rd
    rw [if_neg (by omega), if_neg (by omega), if_neg (by omega), if_neg (by omega), if_neg (by omega)]
  have q1 : g_rd N a c l m 1 (N 0 0) = a := by simp [g_rd]
  have q2 : g_rd N a c l m 2 (N 0 0) = c := by simp [g_rd]
  have q3 : g_rd N a c l m 3 (N 0 0) = l := by simp [g_rd]
  have q4 : g_rd N a c l m 4 (N 0 0) = m := by simp [g_rd]
  have old : ∀ i, i ≠ 0 → (i < 2 + 4 * N 0 0 ∨ 2 + 4 * N 0 0 + 3 < i) → ρ' 3 (290 + i) = ρ 3 (290 + i) := fun i hi hi2 => by
    rw [cell, if_neg hi, if_neg (by omega), if_neg (by omega), if_neg (by omega), if_neg (by omega)]
  refine ⟨⟨?_, ?_⟩, fun r hr' => ?_, fun t ht => ?_, fun s hs => ?_⟩
  · show ρ' 3 (290 + 0) = _
    rw [cell, if_pos rfl]
    rfl
  · show ρ' 3 (290 + 1) = _
    rw [old 1 (by omega) (by omega)]
    exact h2
  · have hr2 : r < N 0 0 + 1 := hr'
    show ρ' 3 (290 + (2 + 4 * r)) = _ ∧ ρ' 3 (290 + (2 + 4 * r + 1)) = _ ∧ ρ' 3 (290 + (2 + 4 * r + 2)) = _ ∧ ρ' 3 (290 + (2 + 4 * r + 3)) = _
    by_cases z : r = N 0 0
    · subst z
      rw [q1, q2, q3, q4]
      refine ⟨?_, ?_, ?_, ?_⟩
      · rw [cell, if_neg (by omega), if_neg (by omega), if_neg (by omega), if_neg (by omega), if_pos rfl]
      · rw [cell, if_neg (by omega), if_neg (by omega), if_neg (by omega), if_pos rfl]
      · rw [cell, if_neg (by omega), if_neg (by omega), if_pos rfl]
      · rw [cell, if_neg (by omega), if_pos rfl]
    · rw [ek 1 r z (by omega), ek 2 r z (by omega), ek 3 r z (by omega), ek 4 r z (by omega), old _ (by omega) (by omega), old _ (by omega) (by omega), old _ (by omega) (by omega), old _ (by omega) (by omega)]
      exact h3 r (by omega)
  · show ρ' 3 (290 + (122 + 14 * t)) = _ ∧ ρ' 3 (290 + (122 + 14 * t + 1)) = _ ∧ ρ' 3 (290 + (122 + 14 * t + 2)) = _ ∧ ρ' 3 (290 + (122 + 14 * t + 3)) = _
    rw [old _ (by omega) (by omega), old _ (by omega) (by omega), old _ (by omega) (by omega), old _ (by omega) (by omega), e9 5 t (by omega), e9 6 t (by omega), e9 7 t (by omega), e9 8 t (by omega)]
    exact h4 t ht
  · have hs1 := hs.1
    have hs2 := hs.2
    rw [e9 8 _ (by omega)] at hs2
    show ρ' 3 (290 + (122 + 14 * (s / 10) + (4 + s % 10))) = _
    rw [old _ (by omega) (by omega), e9 9 s (by omega)]
    exact h5 s ⟨hs1, hs2⟩
section MR
variable {b : Nat → Int32} {n p : Nat} {N : g_F} {σ ρ : x_S} {τ θ : x_L}
theorem sM_into (ht : m_tb b n ρ) (hp : p ≤ n) (hk : m_tk b n p ρ θ) {i lo hi : Nat} (hi' : i < 290) (hl : lo < 1000000) (hh : hi < 1000000) {Q : Int32 → x_S → x_L → Prop} (h1 : ∀ (v q : Nat) (ρ1 : x_S) (θ' : x_L), t_num b n lo hi p = .ok (v, q) → q ≤ n → m_tq ρ ρ1 → m_tk b n q (x_up ρ1 3 (290 + i) (nI v)) θ' → Q 1 (x_up ρ1 3 (290 + i) (nI v)) θ') (h0 : ∀ (c s : Nat) (ρ' : x_S), t_num b n lo hi p = .error (c, s) → m_te ρ ρ' → ρ' 0 33 = nI c → ρ' 0 34 = nI s → Q 0 ρ' θ) : wX11_readInto (nI i) (nI lo) (nI hi) ρ θ Q := by
  unfold wX11_readInto
  refine sM_number ht hp hk hl hh (fun v q ρ1 θ1 g1 hq f1 k1 v1 => i_one ?_) (fun c s ρ1 g1 f1 e2 e3 => i_zer' (h0 c s ρ1 g1 f1 e2 e3))
  rw [show (290 + nI i : Int32) = nI (290 + i) from nI_add 290 i, i_cl (by omega), v1]
  exact ⟨i_in (by omega) (by omega), h1 v q ρ1 θ1 g1 hq f1 k1.up3⟩
theorem sM_readRoad (ht : m_tb b n ρ) (hp : p ≤ n) (hk : m_tk b n p ρ θ) (hN : g_WN N) (hD : m_Dr N ρ) {Q : Int32 → x_S → x_L → Prop} (h1 : ∀ (q : Nat) (M : g_F) (ρ' : x_S) (θ' : x_L), N 0 0 < 30 → t_road b n (t_end b n p) N = .ok (q, M) → q ≤ n → m_lf ρ ρ' → m_tk b n q ρ' θ' → m_Dr M ρ' → Q 1 ρ' θ') (h0 : ∀ (c s : Nat) (ρ' : x_S) (θ' : x_L), N 0 0 < 30 → t_road b n (t_end b n p) N = .error (c, s) → m_le ρ ρ' → ρ' 0 33 = nI c → ρ' 0 34 = nI s → Q 0 ρ' θ') (h30 : ∀ ρ' : x_S, N 0 0 = 30 → m_le ρ ρ' → ρ' 0 33 = nI 4 → ρ' 0 34 = nI (t_beg b n p) → Q 0 ρ' θ) : wX11_readRoad ρ θ Q := by
  have hb := hN.1.1
  have e290 : (290 : Int32).toNatClampNeg = 290 := rfl
  have hR : ρ 3 290 = nI (N 0 0) := hD.1.1
  obtain ⟨k5, k6, -⟩ := id hk
  unfold wX11_readRoad
  rw [e290, hR]
  refine i_ne (b := 30) (by omega) (by omega) (fun ne => ?_) (fun e => sM_fail (c := 4) k5 (fun ρ1 f1 e2 e3 => ⟨Or.inl rfl, h30 ρ1 e f1.le e2 e3⟩))
  have hlt : N 0 0 < 30 := by omega
  refine sM_advance ht (t_end_b b n hp).2.2.1 k6 (fun ρ0 θ0 f0 kk0 => ?_)
  have ht0 := ht.te f0.te
  have hR0 : ρ0 3 290 = nI (N 0 0) := by rw [f0.1 3 (by omega)]; exact hR
  have hpe := (t_end_b b n hp).2.2.1
  have ev : ((2 + (4 * nI (N 0 0))) : Int32) = nI (2 + 4 * N 0 0) := by
    show nI 2 + nI 4 * nI (N 0 0) = _
    rw [nI_mul, nI_add]
  rw [hR0, ev, show (nI (2 + 4 * N 0 0) + 0 : Int32) = nI (2 + 4 * N 0 0) from nI_add _ 0, show (290 + nI (2 + 4 * N 0 0) : Int32) = nI (290 + (2 + 4 * N 0 0)) from nI_add 290 _, show (nI (290 + (2 + 4 * N 0 0)) + 0 : Int32) = nI (290 + (2 + 4 * N 0 0)) from nI_add _ 0, i_cl (show 290 + (2 + 4 * N 0 0) < 1000000000 by omega)]
  refine sM_into (lo := 0) (hi := 19) ht0 hpe kk0 (by omega) (by omega) (by omega) (fun a p1 ρ1 θ1 g1 hp1 f1 kk1 => i_one ?_) (fun c s ρ1 g1 f1 e2 e3 => i_zer' (h0 c s ρ1 θ0 hlt (by unfold t_road; rw [g1]; rfl) (f0.te.tr f1).le e2 e3))
  obtain ⟨-, -, -, a1, a2⟩ := t_num_ok g1
  have fA : m_lf ρ (x_up ρ1 3 (290 + (2 + 4 * N 0 0)) (nI a)) := (f0.tq.tr f1).lf.tr (m_lf.up (by omega))
  have htA := ht.lf fA
  obtain ⟨j5, j6, j4, j7, -⟩ := id kk1
  have hkb := t_kd_b b n p1
  rw [j4, x_up_ss, lg_cmp_eq]
  have go : (∀ p2, t_num b n 0 19 p1 = .ok (a, p2) → False) → wX11_readRoad_86 Q (nI (2 + 4 * N 0 0)) (x_up ρ1 3 (290 + (2 + 4 * N 0 0)) (nI a)) θ1 := fun nea => by
    unfold wX11_readRoad_86 wX11_readRoad_127
    rw [show (nI (2 + 4 * N 0 0) + 1 : Int32) = nI (2 + 4 * N 0 0 + 1) from nI_add _ 1, show (nI (2 + 4 * N 0 0) + 2 : Int32) = nI (2 + 4 * N 0 0 + 2) from nI_add _ 2, show (nI (2 + 4 * N 0 0) + 3 : Int32) = nI (2 + 4 * N 0 0 + 3) from nI_add _ 3, e290]
    refine sM_into (lo := 0) (hi := 19) htA hp1 kk1 (by omega) (by omega) (by omega) (fun c p2 ρ2 θ2 g2 hp2 f2 kk2 => i_one' ?_) (fun c s ρ2 g2 f2 e2 e3 => i_zer (h0 c s ρ2 θ1 hlt (by unfold t_road; rw [g1]; show Except.bind (t_num b n 0 19 p1) _ = _; rw [g2]; rfl) (fA.le.tr f2.le) e2 e3))
    have ne : ¬ c = a := fun e => nea p2 (by rw [← e]; exact g2)
    have fB : m_lf ρ (x_up ρ2 3 (290 + (2 + 4 * N 0 0 + 1)) (nI c)) := (fA.tr f2.lf).tr (m_lf.up (by omega))
    refine sM_into (lo := 1) (hi := 300) (ht.lf fB) hp2 kk2 (by omega) (by omega) (by omega) (fun l p3 ρ3 θ3 g3 hp3 f3 kk3 => i_one' ?_) (fun c' s ρ3 g3 f3 e2 e3 => i_zer (h0 c' s ρ3 θ2 hlt (by unfold t_road; rw [g1]; show Except.bind (t_num b n 0 19 p1) _ = _; rw [g2]; show (if c = a then _ else Except.bind (t_num b n 1 300 p2) _) = _; rw [if_neg ne, g3]; rfl) (fB.le.tr f3.le) e2 e3))
    have fC : m_lf ρ (x_up ρ3 3 (290 + (2 + 4 * N 0 0 + 2)) (nI l)) := (fB.tr f3.lf).tr (m_lf.up (by omega))
    refine sM_into (lo := 40) (hi := 120) (ht.lf fC) hp3 kk3 (by omega) (by omega) (by omega) (fun m p4 ρ4 θ4 g4 hp4 f4 kk4 => i_one ?_) (fun c' s ρ4 g4 f4 e2 e3 => i_zer' (h0 c' s ρ4 θ3 hlt (by unfold t_road; rw [g1]; show Except.bind (t_num b n 0 19 p1) _ = _; rw [g2]; show (if c = a then _ else Except.bind (t_num b n 1 300 p2) _) = _; rw [if_neg ne, g3]; show Except.bind (t_num b n 40 120 p3) _ = _; rw [g4]; rfl) (fC.le.tr f4.le) e2 e3))
    have road : t_road b n (t_end b n p) N = (t_sem b n p4).bind fun q => .ok (q, g_rd N a c l m) := by
      unfold t_road
      rw [g1]
      show Except.bind (t_num b n 0 19 p1) _ = _
      rw [g2]
      show (if c = a then _ else Except.bind (t_num b n 1 300 p2) _) = _
      rw [if_neg ne, g3]
      show Except.bind (t_num b n 40 120 p3) _ = _
      rw [g4]
      rfl
    have hc0 : (x_up ρ4 3 (290 + (2 + 4 * N 0 0 + 3)) (nI m)) 3 290 = nI (N 0 0) := by
      rw [x_up_sn (by omega), f4.1 3 (by omega), x_up_sn (by omega), f3.1 3 (by omega), x_up_sn (by omega), f2.1 3 (by omega), x_up_sn (by omega), f1.1 3 (by omega)]
      exact hR0
    rw [hc0, show (nI (N 0 0) + 1 : Int32) = nI (N 0 0 + 1) from nI_add _ 1]
    have fD : m_lf ρ (x_up (x_up ρ4 3 (290 + (2 + 4 * N 0 0 + 3)) (nI m)) 3 290 (nI (N 0 0 + 1))) := ((fC.tr f4.lf).tr (m_lf.up (by omega))).tr (m_lf.up (by omega))
    refine sM_semi (ht.lf fD) hp4 kk4.up3 (fun q ρ5 θ5 g5 hq f5 kk5 => ⟨Or.inr rfl, ?_⟩) (fun c' s ρ5 g5 f5 e2 e3 => ⟨Or.inl rfl, h0 c' s ρ5 θ4 hlt (by rw [road, g5]; rfl) (fD.le.tr f5.le) e2 e3⟩)
    refine h1 q (g_rd N a c l m) ρ5 θ5 hlt (by rw [road, g5]; rfl) hq (fD.tr f5.lf) kk5 (hD.rd hN hlt (fun i => ?_))
    rw [f5.1 3 (by omega), x_up_zi, x_up_zi, f4.1 3 (by omega), x_up_zi, f3.1 3 (by omega), x_up_zi, f2.1 3 (by omega), x_up_zi, f1.1 3 (by omega), f0.1 3 (by omega)]
    by_cases y0 : i = 0
    · rw [if_pos ⟨rfl, by omega⟩, if_pos y0]
    · rw [if_neg (by omega), if_neg y0]
      by_cases y3 : i = 2 + 4 * N 0 0 + 3
      · rw [if_pos ⟨rfl, by omega⟩, if_pos y3]
      · rw [if_neg (by omega), if_neg y3]
        by_cases y2 : i = 2 + 4 * N 0 0 + 2
        · rw [if_pos ⟨rfl, by omega⟩, if_pos y2]
        · rw [if_neg (by omega), if_neg y2]
          by_cases y1 : i = 2 + 4 * N 0 0 + 1
          · rw [if_pos ⟨rfl, by omega⟩, if_pos y1]
          · rw [if_neg (by omega), if_neg y1]
            by_cases yy : i = 2 + 4 * N 0 0
            · rw [if_pos ⟨rfl, by omega⟩, if_pos yy]
            · rw [if_neg (by omega), if_neg yy]
  refine i_ne (b := 2) (by omega) (by omega) (fun g => go (fun p2 g2 => g (t_num_ok g2).1)) (fun g => ⟨i_in (by omega) (by omega), fun g2 => go (fun p2 g3 => g2 ?_), fun g2 => ?_⟩)
  · obtain ⟨-, x2, -⟩ := t_num_ok g3
    apply Int64.toInt_inj.mp
    rw [j7 g, Int32.toInt_toInt64, nI_toInt (by omega), x2]
    rfl
  · have hv : t_vl b n p1 = a := by
      have := j7 g
      rw [g2, Int32.toInt_toInt64, nI_toInt (by omega)] at this
      have h3 : (a : Int) = (t_vl b n p1 : Nat) := this
      omega
    have g3 : t_num b n 0 19 p1 = .ok (a, t_end b n p1) := by
      unfold t_num
      rw [if_pos g, hv, if_pos ⟨by omega, a2⟩]
    exact sM_fail (c := 3) j5 (fun ρ2 f2 e2 e3 => ⟨Or.inl rfl, h0 3 (t_beg b n p1) ρ2 θ1 hlt (by unfold t_road; rw [g1]; show Except.bind (t_num b n 0 19 p1) _ = _; rw [g3]; show (if a = a then _ else _) = _; rw [if_pos rfl]) (fA.le.tr f2.le) e2 e3⟩)
end MR
