section MS
variable {b : Nat → Int32} {n p : Nat} {N : g_F} {ρ : x_S} {θ : x_L}
theorem sM_readTruck (ht : m_tb b n ρ) (hp : p ≤ n) (hk : m_tk b n p ρ θ) (hN : g_WN N) (hD : m_Dr N ρ) {Q : Int32 → x_S → x_L → Prop} (h1 : ∀ (q : Nat) (M : g_F) (ρ' : x_S) (θ' : x_L), N 0 1 < 12 → t_truck b n (t_end b n p) N = .ok (q, M) → q ≤ n → m_lf ρ ρ' → m_tk b n q ρ' θ' → m_Dr M ρ' → Q 1 ρ' θ') (h0 : ∀ (c s : Nat) (ρ' : x_S) (θ' : x_L), N 0 1 < 12 → t_truck b n (t_end b n p) N = .error (c, s) → m_le ρ ρ' → ρ' 0 33 = nI c → ρ' 0 34 = nI s → Q 0 ρ' θ') (h12 : ∀ ρ' : x_S, N 0 1 = 12 → m_le ρ ρ' → ρ' 0 33 = nI 4 → ρ' 0 34 = nI (t_beg b n p) → Q 0 ρ' θ) : wX11_readTruck ρ θ Q := by
  have hb := hN.1
  have e291 : (291 : Int32).toNatClampNeg = 291 := rfl
  have hTT : ρ 3 291 = nI (N 0 1) := hD.1.2
  obtain ⟨k5, k6, -⟩ := id hk
  unfold wX11_readTruck
  rw [e291, hTT]
  refine i_ne (b := 12) (by omega) (by omega) (fun ne => ?_) (fun e => sM_fail (c := 4) k5 (fun ρ1 f1 e2 e3 => ⟨Or.inl rfl, h12 ρ1 e f1.le e2 e3⟩))
  have hlt : N 0 1 < 12 := by omega
  refine sM_advance ht (t_end_b b n hp).2.2.1 k6 (fun ρ0 θ0 f0 kk0 => ?_)
  have hpe := (t_end_b b n hp).2.2.1
  have hT0 : ρ0 3 291 = nI (N 0 1) := by rw [f0.1 3 (by omega)]; exact hTT
  have ev : ((122 + (14 * nI (N 0 1))) : Int32) = nI (122 + 14 * N 0 1) := by
    show nI 122 + nI 14 * nI (N 0 1) = _
    rw [nI_mul, nI_add]
  have e3 : ((290 + nI (122 + 14 * N 0 1)) + 3 : Int32) = nI (290 + (122 + 14 * N 0 1 + 3)) := by
    show (nI 290 + nI (122 + 14 * N 0 1)) + nI 3 = _
    rw [nI_add, nI_add]
    congr 1
  rw [hT0, ev, e3, i_cl (show 290 + (122 + 14 * N 0 1 + 3) < 1000000000 by omega), show (nI (122 + 14 * N 0 1) + 0 : Int32) = nI (122 + 14 * N 0 1) from nI_add _ 0, show (nI (122 + 14 * N 0 1) + 1 : Int32) = nI (122 + 14 * N 0 1 + 1) from nI_add _ 1, show (nI (122 + 14 * N 0 1) + 2 : Int32) = nI (122 + 14 * N 0 1 + 2) from nI_add _ 2]
  refine ⟨i_in (by omega) (by omega), ?_⟩
  have fZ : m_lf ρ (x_up ρ0 3 (290 + (122 + 14 * N 0 1 + 3)) 0) := f0.tq.lf.tr (m_lf.up (by omega))
  unfold wX11_readTruck_92
  refine sM_into (lo := 0) (hi := 2000) (ht.lf fZ) hpe kk0.up3 (by omega) (by omega) (by omega) (fun f p1 ρ1 θ1 g1 hp1 f1 kk1 => i_one' ?_) (fun c s ρ1 g1 f1 e2 e3 => i_zer (h0 c s ρ1 θ0 hlt (by unfold t_truck; rw [g1]; rfl) (fZ.le.tr f1.le) e2 e3))
  obtain ⟨-, -, -, a1, a2⟩ := t_num_ok g1
  have fA : m_lf ρ (x_up ρ1 3 (290 + (122 + 14 * N 0 1)) (nI f)) := (fZ.tr f1.lf).tr (m_lf.up (by omega))
  refine sM_into (lo := 0) (hi := 10000) (ht.lf fA) hp1 kk1 (by omega) (by omega) (by omega) (fun d p2 ρ2 θ2 g2 hp2 f2 kk2 => i_one' ?_) (fun c s ρ2 g2 f2 e2 e3 => i_zer (h0 c s ρ2 θ1 hlt (by unfold t_truck; rw [g1]; show Except.bind (t_num b n 0 10000 p1) _ = _; rw [g2]; rfl) (fA.le.tr f2.le) e2 e3))
  have fB : m_lf ρ (x_up ρ2 3 (290 + (122 + 14 * N 0 1 + 1)) (nI d)) := (fA.tr f2.lf).tr (m_lf.up (by omega))
  refine sM_into (lo := 5) (hi := 60) (ht.lf fB) hp2 kk2 (by omega) (by omega) (by omega) (fun g p3 ρ3 θ3 g3 hp3 f3 kk3 => i_one ?_) (fun c' s ρ3 g3 f3 e2 e3 => i_zer' (h0 c' s ρ3 θ2 hlt (by unfold t_truck; rw [g1]; show Except.bind (t_num b n 0 10000 p1) _ = _; rw [g2]; show Except.bind (t_num b n 5 60 p2) _ = _; rw [g3]; rfl) (fB.le.tr f3.le) e2 e3))
  have fC : m_lf ρ (x_up ρ3 3 (290 + (122 + 14 * N 0 1 + 2)) (nI g)) := (fB.tr f3.lf).tr (m_lf.up (by omega))
  have tru : t_truck b n (t_end b n p) N = (t_rt b n N 11 0 p3 (fun _ => 0)).bind fun r => .ok (r.1, g_tr N f d g r.2.1 r.2.2) := by
    unfold t_truck
    rw [g1]
    show Except.bind (t_num b n 0 10000 p1) _ = _
    rw [g2]
    show Except.bind (t_num b n 5 60 p2) _ = _
    rw [g3]
    rfl
  have cell : ∀ i, (x_up ρ3 3 (290 + (122 + 14 * N 0 1 + 2)) (nI g)) 3 i = if i = 290 + (122 + 14 * N 0 1 + 2) then nI g else if i = 290 + (122 + 14 * N 0 1 + 1) then nI d else if i = 290 + (122 + 14 * N 0 1) then nI f else if i = 290 + (122 + 14 * N 0 1 + 3) then 0 else ρ 3 i := fun i => by
    rw [x_up_i, f3.1 3 (by omega), x_up_i, f2.1 3 (by omega), x_up_i, f1.1 3 (by omega), x_up_i, f0.1 3 (by omega)]
  have same : ∀ i, i < 290 + (122 + 14 * N 0 1) ∨ 290 + (122 + 14 * N 0 1 + 3) < i → (x_up ρ3 3 (290 + (122 + 14 * N 0 1 + 2)) (nI g)) 3 i = ρ 3 i := fun i hi => by
    rw [cell, if_neg (by omega), if_neg (by omega), if_neg (by omega), if_neg (by omega)]
  refine sM_route (T := N 0 1) (ht.lf fC) hp3 kk3 hN hlt ((same 290 (by omega)).trans hD.1.1) ((same 291 (by omega)).trans hTT) (fun r hr => ?_) (by rw [cell, if_neg (by omega), if_neg (by omega), if_neg (by omega), if_pos rfl]; rfl) (fun e q R ρ4 θ4 g4 he f4 kk4 hq c1 c3 cp co => ?_) (fun c s ρ4 θ4 g4 f4 e2 e3 => h0 c s ρ4 θ4 hlt (by rw [tru, g4]; rfl) (fC.le.tr f4) e2 e3)
  · have hr30 := hb.1
    have := hD.2.1 r hr
    have y1 : ρ 3 (290 + (2 + 4 * r)) = nI (N 1 r) := this.1
    have y2 : ρ 3 (290 + (2 + 4 * r + 1)) = nI (N 2 r) := this.2.1
    rw [same _ (by omega), same _ (by omega), show 292 + 4 * r = 290 + (2 + 4 * r) by omega, y1, show 290 + (2 + 4 * r) + 1 = 290 + (2 + 4 * r + 1) by omega, y2]
    exact ⟨rfl, rfl⟩
  · refine h1 e (g_tr N f d g q R) ρ4 θ4 hlt (by rw [tru, g4]; rfl) he (fC.tr f4) kk4 (m_Dr.tr hD hN hlt hq.2 c1 ?_ ?_ ?_ c3 cp (fun i hi hi2 => ?_))
    · rw [co _ (by omega) (by omega), cell, if_neg (by omega), if_neg (by omega), if_pos rfl]
    · rw [co _ (by omega) (by omega), cell, if_neg (by omega), if_pos rfl]
    · rw [co _ (by omega) (by omega), cell, if_pos rfl]
    · rw [co _ hi (by omega), same _ (by omega)]
theorem e_bind {A B E : Type} {x : Except E A} {f : A → Except E B} {y : B} (h : x.bind f = .ok y) : ∃ a, x = .ok a ∧ f a = .ok y := by
  cases x with
  | error e => injection h
  | ok a => exact ⟨a, rfl, h⟩
theorem t_road_ok {q : Nat} {M : g_F} (hp : p ≤ n) (hN : g_WN N) (hr : N 0 0 < 30) (h : t_road b n p N = .ok (q, M)) : p ≤ q ∧ q ≤ n ∧ g_WN M := by
  unfold t_road at h
  obtain ⟨⟨a, p1⟩, g1, h⟩ := e_bind h
  obtain ⟨⟨c, p2⟩, g2, h⟩ := e_bind h
  have z1 := t_num_le hp g1
  have z2 := t_num_le z1.2 g2
  by_cases e : c = a
  · have h' : (if c = a then (.error (3, t_beg b n p1) : Except (Nat × Nat) (Nat × g_F)) else (t_num b n 1 300 p2).bind fun l => (t_num b n 40 120 l.2).bind fun m => (t_sem b n m.2).bind fun q => .ok (q, g_rd N a c l.1 m.1)) = .ok (q, M) := h
    rw [if_pos e] at h'
    injection h'
  · have h' : (if c = a then (.error (3, t_beg b n p1) : Except (Nat × Nat) (Nat × g_F)) else (t_num b n 1 300 p2).bind fun l => (t_num b n 40 120 l.2).bind fun m => (t_sem b n m.2).bind fun q => .ok (q, g_rd N a c l.1 m.1)) = .ok (q, M) := h
    rw [if_neg e] at h'
    obtain ⟨⟨l, p3⟩, g3, h'⟩ := e_bind h'
    obtain ⟨⟨m, p4⟩, g4, h'⟩ := e_bind h'
    obtain ⟨p5, g5, h'⟩ := e_bind h'
    injection h' with h'
    injection h' with y1 y2
    have z3 := t_num_le z2.2 g3
    have z4 := t_num_le z3.2 g4
    have z5 := t_sem_le z4.2 g5
    obtain ⟨-, -, -, -, a2⟩ := t_num_ok g1
    obtain ⟨-, -, -, -, c2⟩ := t_num_ok g2
    obtain ⟨-, -, -, l1, l2⟩ := t_num_ok g3
    obtain ⟨-, -, -, m1, m2⟩ := t_num_ok g4
    rw [← y2, ← y1]
    exact ⟨by omega, z5.2, g_rd_WN hN hr a2 c2 ⟨l1, l2⟩ ⟨m1, m2⟩⟩
theorem t_rt_ok {e q' : Nat} {R' : Nat → Nat} : ∀ (k q p : Nat) (R : Nat → Nat), p ≤ n → q ≤ 10 → (∀ i, i < q → R i < N 0 0) → t_rt b n N k q p R = .ok (e, q', R') → p ≤ e ∧ e ≤ n ∧ (1 ≤ q' ∧ q' ≤ 10) ∧ ∀ i, i < q' → R' i < N 0 0
  | 0, q, p, R, _, _, _, h => by
    rw [t_rt] at h
    injection h
  | k + 1, q, p, R, hp, hq, hR, h => by
    have z := t_end_b b n hp
    rw [t_rt] at h
    by_cases c0 : t_kd b n p = 3 ∧ 0 < q
    · rw [if_pos c0] at h
      injection h with h
      injection h with y1 h
      injection h with y2 y3
      rw [← y1, ← y2, ← y3]
      exact ⟨by omega, z.2.2.1, ⟨c0.2, hq⟩, hR⟩
    · rw [if_neg c0] at h
      by_cases c1 : t_kd b n p ≠ 2
      · rw [if_pos c1] at h
        injection h
      · rw [if_neg c1] at h
        by_cases c2 : N 0 0 ≤ t_vl b n p
        · rw [if_pos c2] at h
          injection h
        · rw [if_neg c2] at h
          by_cases c3 : 0 < q ∧ N 1 (t_vl b n p) ≠ N 2 (R (q - 1))
          · rw [if_pos c3] at h
            injection h
          · rw [if_neg c3] at h
            by_cases c4 : q = 10
            · rw [if_pos c4] at h
              injection h
            · rw [if_neg c4] at h
              have := t_rt_ok k (q + 1) (t_end b n p) _ z.2.2.1 (by omega) (fun i hi => by
                show (if i = q then t_vl b n p else R i) < N 0 0
                by_cases y : i = q
                · rw [if_pos y]
                  omega
                · rw [if_neg y]
                  exact hR i (by omega)) h
              exact ⟨by omega, this.2⟩
theorem t_truck_ok {q : Nat} {M : g_F} (hp : p ≤ n) (hN : g_WN N) (hT : N 0 1 < 12) (h : t_truck b n p N = .ok (q, M)) : p ≤ q ∧ q ≤ n ∧ g_WN M := by
  unfold t_truck at h
  obtain ⟨⟨f, p1⟩, g1, h⟩ := e_bind h
  obtain ⟨⟨d, p2⟩, g2, h⟩ := e_bind h
  obtain ⟨⟨g, p3⟩, g3, h⟩ := e_bind h
  obtain ⟨⟨e, q', R'⟩, g4, h⟩ := e_bind h
  injection h with h
  injection h with y1 y2
  have z1 := t_num_le hp g1
  have z2 := t_num_le z1.2 g2
  have z3 := t_num_le z2.2 g3
  obtain ⟨z4, z5, z6, z7⟩ := t_rt_ok 11 0 p3 _ z3.2 (by omega) (fun i hi => absurd hi (Nat.not_lt_zero _)) g4
  obtain ⟨-, -, -, -, a2⟩ := t_num_ok g1
  obtain ⟨-, -, -, -, c2⟩ := t_num_ok g2
  obtain ⟨-, -, -, l1, l2⟩ := t_num_ok g3
  rw [← y2, ← y1]
  exact ⟨by show p ≤ e; omega, z5, g_tr_WN hN hT a2 c2 ⟨l1, l2⟩ z6 z7⟩
theorem sM_readAll {Q : Int32 → x_S → x_L → Prop} (ht : m_tb b n ρ) (hk : m_tk b n 0 ρ θ) (hD : m_Dr (fun _ _ => 0) ρ) (h1 : ∀ (M : g_F) (ρ' : x_S) (θ' : x_L) (v : Int32), t_all b n 1501 0 (fun _ _ => 0) = .ok M → m_lf ρ ρ' → g_WN M → m_Dr M ρ' → ¬ v = 0 → wX11_load_48 Q v ρ' θ') (h0 : ∀ (c s : Nat) (ρ' : x_S) (θ' : x_L), t_all b n 1501 0 (fun _ _ => 0) = .error (c, s) → m_le ρ ρ' → ρ' 0 33 = nI c → ρ' 0 34 = nI s → wX11_load_48 Q 0 ρ' θ') : x_l1 (wX11_load_29 Q) 1 ρ θ := by
  have hn := ht.1
  refine x_l1_I (fun k c0 ρ' θ' => (∃ v p N, v + k = 1501 ∧ 1 ≤ k ∧ c0 = 1 ∧ v ≤ p ∧ p ≤ n ∧ m_lf ρ ρ' ∧ m_tk b n p ρ' θ' ∧ g_WN N ∧ m_Dr N ρ' ∧ t_all b n k p N = t_all b n 1501 0 (fun _ _ => 0)) ∨ (c0 = 0 ∧ ∃ c s, t_all b n 1501 0 (fun _ _ => 0) = .error (c, s) ∧ m_le ρ ρ' ∧ ρ' 0 33 = nI c ∧ ρ' 0 34 = nI s)) ?_ 1501 (Or.inl ⟨0, 0, fun _ _ => 0, rfl, by omega, rfl, Nat.le_refl _, by omega, ⟨fun _ _ _ => rfl, fun _ _ => rfl, fun _ _ => rfl⟩, hk, ⟨⟨Nat.zero_le _, Nat.zero_le _⟩, fun r hr => absurd hr (Nat.not_lt_zero _), fun r hr => absurd hr (Nat.not_lt_zero _), fun r _ hr => absurd hr (Nat.not_lt_zero _)⟩, hD, rfl⟩)
  rintro k c0 ρ' θ' (⟨v, p, N, e1, ek, rfl, e2, e3, f, kk, gW, gD, gt⟩ | ⟨rfl, c, s, gt, f, y2, y3⟩) K hK
  · have ht' := ht.lf f
    obtain ⟨k5, k6, k4, k7, -⟩ := id kk
    have hkb := t_kd_b b n p
    rw [show k = (k - 1) + 1 by omega, t_all] at gt
    have bad : ∀ (c s : Nat) (ρ2 : x_S) (θ2 : x_L), t_all b n 1501 0 (fun _ _ => 0) = .error (c, s) → m_le ρ ρ2 → ρ2 0 33 = nI c → ρ2 0 34 = nI s → K 0 ρ2 θ2 := fun c s ρ2 θ2 y1 y2 y3 y4 => hK (k - 1) _ _ _ (by omega) (Or.inr ⟨rfl, c, s, y1, y2, y3, y4⟩)
    unfold wX11_load_29
    refine i_one' ?_
    rw [k4]
    refine i_eq (b := 0) (by omega) (by omega) (fun g => ?_) (fun g => ?_)
    · rw [if_pos g] at gt
      exact h1 N ρ' θ' 1 gt.symm f gW gD (by decide)
    · rw [if_neg g] at gt
      unfold wX11_readStatement wX11_readStatement_56
      refine sM_pack (sM_isWord (i := 0) (by omega) kk w_p0 (fun w0 => i_one' ?_) (fun w0 => i_zer (sM_pack ?_)))
      · rw [if_pos w0] at gt
        obtain ⟨p1, p2⟩ := t_wd_go e3 w0
        refine sM_readRoad ht' e3 kk gW gD (fun q M ρ2 θ2 hlt g2 hq f2 kk2 hD2 => ⟨Or.inr rfl, ?_⟩) (fun c s ρ2 θ2 hlt g2 f2 y2 y3 => ⟨Or.inl rfl, bad c s ρ2 θ2 (by rw [← gt, if_neg (by omega), g2]; rfl) (f.le.tr f2) y2 y3⟩) (fun ρ2 h30 f2 y2 y3 => ⟨Or.inl rfl, bad 4 (t_beg b n p) ρ2 θ' (by rw [← gt, if_pos h30]) (f.le.tr f2) y2 y3⟩)
        obtain ⟨z1, z2, z3⟩ := t_road_ok p2 gW hlt g2
        refine hK (k - 1) _ _ _ (by omega) (Or.inl ⟨v + 1, q, M, by omega, by omega, rfl, by omega, hq, f.tr f2, kk2, z3, hD2, ?_⟩)
        rw [← gt, if_neg (by omega), g2]
        rfl
      · rw [if_neg w0] at gt
        refine sM_isWord (i := 1) (by omega) kk w_p1 (fun w1 => i_one' ?_) (fun w1 => i_zer ?_)
        · rw [if_pos w1] at gt
          obtain ⟨p1, p2⟩ := t_wd_go e3 w1
          refine sM_readTruck ht' e3 kk gW gD (fun q M ρ2 θ2 hlt g2 hq f2 kk2 hD2 => ⟨Or.inr rfl, ?_⟩) (fun c s ρ2 θ2 hlt g2 f2 y2 y3 => ⟨Or.inl rfl, bad c s ρ2 θ2 (by rw [← gt, if_neg (by omega), g2]; rfl) (f.le.tr f2) y2 y3⟩) (fun ρ2 h30 f2 y2 y3 => ⟨Or.inl rfl, bad 4 (t_beg b n p) ρ2 θ' (by rw [← gt, if_pos h30]) (f.le.tr f2) y2 y3⟩)
          obtain ⟨z1, z2, z3⟩ := t_truck_ok p2 gW hlt g2
          refine hK (k - 1) _ _ _ (by omega) (Or.inl ⟨v + 1, q, M, by omega, by omega, rfl, by omega, hq, f.tr f2, kk2, z3, hD2, ?_⟩)
          rw [← gt, if_neg (by omega), g2]
          rfl
        · rw [if_neg w1] at gt
          exact sM_fail (c := 1) k5 (fun ρ2 f2 y2 y3 => ⟨Or.inl rfl, bad 1 (t_beg b n p) ρ2 θ' gt.symm (f.le.tr f2.le) y2 y3⟩)
  · unfold wX11_load_29
    exact i_zer (h0 c s ρ' θ' gt f y2 y3)
end MS
