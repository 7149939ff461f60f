def t_all (b : Nat → Int32) (n : Nat) : Nat → Nat → g_F → Except (Nat × Nat) g_F
  | 0, _, _ => .error (0, 0)
  | k + 1, p, N => if t_kd b n p = 0 then .ok N else if t_wd b n p 0 then (if N 0 0 = 30 then .error (4, t_beg b n p) else (t_road b n (t_end b n p) N).bind fun r => t_all b n k r.1 r.2) else if t_wd b n p 1 then (if N 0 1 = 12 then .error (4, t_beg b n p) else (t_truck b n (t_end b n p) N).bind fun r => t_all b n k r.1 r.2) else .error (1, t_beg b n p)
section XR
variable {b : Nat → Int32} {n p : Nat} {N : g_F} {σ ρ : x_S} {τ θ : x_L}
theorem sX_readTruck (ht : x_tb b n σ) (hp : p ≤ n) (h6 : σ 1 6 = nI p) (hN : g_WN N) (hD : f_D N σ) (hT : N 0 1 < 12) {Q : Int32 → x_S → x_L → Prop} (h1 : ∀ (q : Nat) (M : g_F) (σ' : x_S), t_truck b n p N = .ok (q, M) → p ≤ q → q ≤ n → x_lf σ σ' → σ' 1 6 = nI q → g_WN M → f_D M σ' → Q 1 σ' τ) (h0 : ∀ (c s : Nat) (σ' : x_S), t_truck b n p N = .error (c, s) → x_le σ σ' → σ' 1 2 = nI c → σ' 1 3 = nI s → Q 0 σ' τ) : wX3_readTruck (nI (N 0 1)) σ τ Q := by
  unfold wX3_readTruck
  refine sX_number (lo := 0) (hi := 2000) ht hp h6 (by omega) (by omega) (fun a p1 σ1 g1 hp1 f1 _ k1 v1 => i_one ⟨i_in hT (by omega), ?_⟩) (fun c s σ1 g1 f1 e2 e3 => i_zer' (h0 c s σ1 (by unfold t_truck; rw [g1]; rfl) f1.le e2 e3))
  rw [i_cl (by omega), v1]
  have fA : x_lf σ (x_up σ1 19 (N 0 1) (nI a)) := f1.lf.tr (x_lf.up (by omega))
  obtain ⟨-, -, -, a1, a2⟩ := t_num_ok g1
  refine sX_number (lo := 0) (hi := 10000) (ht.lf fA) hp1 (by rw [x_up_n (show (1 : Nat) ≠ 19 by omega)]; exact k1) (by omega) (by omega) (fun d p2 σ2 g2 hp2 f2 k5 k2 v2 => i_one ?_) (fun c s σ2 g2 f2 e2 e3 => i_zer' (h0 c s σ2 (by unfold t_truck; rw [g1]; show Except.bind (t_num b n 0 10000 p1) _ = _; rw [g2]; rfl) (fA.le.tr f2.le) e2 e3))
  obtain ⟨-, -, -, c1, c2⟩ := t_num_ok g2
  rw [v2]
  have fB : x_lf σ (x_up σ2 20 (N 0 1) (nI d)) := (fA.tr f2.lf).tr (x_lf.up (by omega))
  refine sX_number (lo := 5) (hi := 60) (ht.lf fB) hp2 (by rw [x_up_n (show (1 : Nat) ≠ 20 by omega)]; exact k2) (by omega) (by omega) (fun g p3 σ3 g3 hp3 f3 _ k3 v3 => i_one ?_) (fun c' s σ3 g3 f3 e2 e3 => i_zer' (h0 c' s σ3 (by unfold t_truck; rw [g1]; show Except.bind (t_num b n 0 10000 p1) _ = _; rw [g2]; show Except.bind (t_num b n 5 60 p2) _ = _; rw [g3]; rfl) (fB.le.tr f3.le) e2 e3))
  obtain ⟨-, -, -, l1, l2⟩ := t_num_ok g3
  rw [v3, show (nI (N 0 1) + 1 : Int32) = nI (N 0 1 + 1) from nI_add _ 1]
  have fC : x_lf σ (x_up (x_up σ3 21 (N 0 1) (nI g)) 14 5 (nI (N 0 1 + 1))) := ((fB.tr f3.lf).tr (x_lf.up (by omega))).tr (x_lf.up (by omega))
  have tru : t_truck b n p N = (t_rt b n N 11 0 p3 (fun _ => 0)).bind fun r => .ok (r.1, g_tr N a d g r.2.1 r.2.2) := by
    unfold t_truck
    rw [g1]
    show Except.bind (t_num b n 0 10000 p1) _ = _
    rw [g2]
    show Except.bind (t_num b n 5 60 p2) _ = _
    rw [g3]
    rfl
  have cell : ∀ z i, z ≠ 1 → (x_up (x_up σ3 21 (N 0 1) (nI g)) 14 5 (nI (N 0 1 + 1))) z i = if z = 14 ∧ i = 5 then nI (N 0 1 + 1) else if z = 21 ∧ i = N 0 1 then nI g else if z = 20 ∧ i = N 0 1 then nI d else if z = 19 ∧ i = N 0 1 then nI a else σ z i := fun z i hz => by
    rw [x_up_zi, x_up_zi, f3.1 z hz, x_up_zi, f2.1 z hz, x_up_zi, f1.1 z hz]
  have same : ∀ z i, z ≠ 1 → (z ≠ 14 ∨ i ≠ 5) → z ≠ 21 → z ≠ 20 → z ≠ 19 → (x_up (x_up σ3 21 (N 0 1) (nI g)) 14 5 (nI (N 0 1 + 1))) z i = σ z i := fun z i y1 y2 y3 y4 y5 => by
    rw [cell z i y1, if_neg (by omega), if_neg (by omega), if_neg (by omega), if_neg (by omega)]
  have z1 := t_num_le hp g1
  have z2 := t_num_le hp1 g2
  have z3 := t_num_le hp2 g3
  refine sX_readRoute (ht.lf fC) hp3 (by rw [x_up_n (show (1 : Nat) ≠ 14 by omega), x_up_n (show (1 : Nat) ≠ 21 by omega)]; exact k3) hN hT (by rw [same 14 0 (by omega) (by omega) (by omega) (by omega) (by omega)]; exact hD.1.1) (fun r hr => ?_) (fun e q R σ4 g4 le1 le2 f4 k4 hq h23 h23n h22 hz => ⟨Or.inr rfl, ?_⟩) (fun c' s σ4 g4 f4 e2 e3 => ⟨Or.inl rfl, h0 c' s σ4 (by rw [tru, g4]; rfl) (fC.le.tr f4) e2 e3⟩)
  · rw [same 15 r (by omega) (by omega) (by omega) (by omega) (by omega), same 16 r (by omega) (by omega) (by omega) (by omega) (by omega)]
    have := hD.2.1 r hr
    exact ⟨this.1, this.2.1⟩
  · refine h1 e (g_tr N a d g q R) σ4 (by rw [tru, g4]; rfl) (by omega) le2 (fC.tr f4) k4 (g_tr_WN hN hT a2 c2 ⟨l1, l2⟩ hq (fun i hi => (h23 i hi).2)) (f_D.tr hN hD ?_ ?_ (fun z y1 y2 => ?_) (fun i => ?_) (fun i => ?_) (fun i => ?_) (fun i => ?_) (fun i hi => (h23 i hi).1) (fun i hi => ?_) hq.2)
    · rw [hz 14 (by omega) (by omega)]
      exact same 14 0 (by omega) (by omega) (by omega) (by omega) (by omega)
    · rw [hz 14 (by omega) (by omega), x_up_ss]
    · rw [hz z (by omega) (by omega)]
      funext i
      exact same z i (by omega) (by omega) (by omega) (by omega) (by omega)
    · rw [hz 19 (by omega) (by omega), cell _ _ (by omega), if_neg (by omega), if_neg (by omega), if_neg (by omega)]
      by_cases y : i = N 0 1
      · rw [if_pos ⟨rfl, y⟩, if_pos y]
      · rw [if_neg (fun g => y g.2), if_neg y]
    · rw [hz 20 (by omega) (by omega), cell _ _ (by omega), if_neg (by omega), if_neg (by omega)]
      by_cases y : i = N 0 1
      · rw [if_pos ⟨rfl, y⟩, if_pos y]
      · rw [if_neg (fun g => y g.2), if_neg (by omega), if_neg y]
    · rw [hz 21 (by omega) (by omega), cell _ _ (by omega), if_neg (by omega)]
      by_cases y : i = N 0 1
      · rw [if_pos ⟨rfl, y⟩, if_pos y]
      · rw [if_neg (fun g => y g.2), if_neg (by omega), if_neg (by omega), if_neg y]
    · rw [h22 i, same 22 i (by omega) (by omega) (by omega) (by omega) (by omega)]
    · rw [h23n i hi, same 23 i (by omega) (by omega) (by omega) (by omega) (by omega)]
theorem f_D.cong {σ' : x_S} (h : f_D N σ) (f : ∀ z, 14 ≤ z → z ≤ 23 → σ' z = σ z) : f_D N σ' := by
  obtain ⟨⟨h1, h2⟩, h3, h4, h5⟩ := h
  exact ⟨⟨(congrFun (f 14 (by omega) (by omega)) 0).trans h1, (congrFun (f 14 (by omega) (by omega)) 5).trans h2⟩, fun r hr => ⟨(congrFun (f 15 (by omega) (by omega)) r).trans (h3 r hr).1, (congrFun (f 16 (by omega) (by omega)) r).trans (h3 r hr).2.1, (congrFun (f 17 (by omega) (by omega)) r).trans (h3 r hr).2.2.1, (congrFun (f 18 (by omega) (by omega)) r).trans (h3 r hr).2.2.2⟩, fun t ht => ⟨(congrFun (f 19 (by omega) (by omega)) t).trans (h4 t ht).1, (congrFun (f 20 (by omega) (by omega)) t).trans (h4 t ht).2.1, (congrFun (f 21 (by omega) (by omega)) t).trans (h4 t ht).2.2.1, (congrFun (f 22 (by omega) (by omega)) t).trans (h4 t ht).2.2.2⟩, fun s hs => (congrFun (f 23 (by omega) (by omega)) s).trans (h5 s hs)⟩
theorem t_wd_go {i : Nat} (hp : p ≤ n) (h : t_wd b n p i) : p < t_end b n p ∧ t_end b n p ≤ n := by
  have h1 := (t_kd1 h.1).1
  have h2 := t_end_b b n hp
  have h3 := h2.2.2.2 (by omega)
  omega
theorem sX_readAll (ht : x_tb b n σ) (h6 : σ 1 6 = nI 0) {Q : Int32 → x_S → x_L → Prop} (h1 : ∀ (M : g_F) (σ' : x_S), t_all b n 1501 0 (fun _ _ => 0) = .ok M → x_lf σ σ' → g_WN M → f_D M σ' → Q 1 σ' τ) (h0 : ∀ (c s : Nat) (σ' : x_S), t_all b n 1501 0 (fun _ _ => 0) = .error (c, s) → x_le σ σ' → σ' 1 2 = nI c → σ' 1 3 = nI s → Q 0 σ' τ) : wX3_read σ τ Q := by
  have hn := ht.1
  unfold wX3_read
  refine x_l1_I (fun k c0 σ' τ' => ∃ v p N, v + k = 1500 ∧ c0 = nI v ∧ v ≤ p ∧ p ≤ n ∧ x_lf σ σ' ∧ σ' 1 6 = nI p ∧ g_WN N ∧ f_D N σ' ∧ t_all b n (k + 1) p N = t_all b n 1501 0 (fun _ _ => 0) ∧ τ' = τ) ?_ 1500 ⟨0, 0, fun _ _ => 0, rfl, rfl, Nat.le_refl _, by omega, (x_lf.up (by omega)).tr (x_lf.up (by omega)), by rw [x_up_n (show (1 : Nat) ≠ 14 by omega), x_up_n (show (1 : Nat) ≠ 14 by omega)]; exact h6, ⟨⟨Nat.zero_le _, Nat.zero_le _⟩, fun r hr => absurd hr (Nat.not_lt_zero _), fun r hr => absurd hr (Nat.not_lt_zero _), fun r _ hr => absurd hr (Nat.not_lt_zero _)⟩, ⟨⟨by show x_up (x_up σ 14 0 0) 14 5 0 14 0 = _; rw [x_up_sn (by omega), x_up_ss]; rfl, by show x_up (x_up σ 14 0 0) 14 5 0 14 5 = _; rw [x_up_ss]; rfl⟩, fun r hr => absurd hr (Nat.not_lt_zero _), fun r hr => absurd hr (Nat.not_lt_zero _), fun s hs => absurd hs.1 (Nat.not_lt_zero _)⟩, rfl, rfl⟩
  rintro k c0 σ' τ' ⟨v, p, N, e1, rfl, e2, e3, f, g6, gW, gD, gt, rfl⟩ K hK
  rw [t_all] at gt
  have hb := gW.1
  unfold wX3_read_18
  refine i_lt (a := 1500) (by omega) (by omega) (fun g => absurd g (by omega)) (fun _ => sX_next (ht.lf f) e3 g6 (fun σ1 f1 k1 => ?_))
  obtain ⟨k5, k6, k4, k7⟩ := id k1
  have f2 : x_lf σ σ1 := f.tr f1.lf
  have ht1 := ht.lf f2
  have hkb := t_kd_b b n p
  have hD1 : f_D N σ1 := gD.cong (fun z a c => f1.1 z (by omega))
  have q0 : σ1 14 0 = nI (N 0 0) := hD1.1.1
  have q5 : σ1 14 5 = nI (N 0 1) := hD1.1.2
  rw [k4]
  refine i_ne (b := 0) (by omega) (by omega) (fun g => ?_) (fun g => ?_)
  · rw [if_neg g] at gt
    refine sX_isWord (i := 0) (by omega) ht1 e3 k1 (fun w0 => i_one' ?_) (fun w0 => i_zer ?_)
    · rw [if_pos w0] at gt
      obtain ⟨p1, p2⟩ := t_wd_go e3 w0
      rw [q0]
      unfold wX3_read_81 wX3_read_136
      refine i_le (a := 30) (by omega) (by omega) (fun g2 => ?_) (fun g2 => ?_)
      · rw [if_pos (by omega)] at gt
        exact sX_fail (c := 4) k5 (fun σ2 f3 y2 y3 => i_zer' (h0 4 (t_beg b n p) σ2 gt.symm (f2.le.tr f3.le) y2 y3))
      · rw [if_neg (by omega)] at gt
        refine sX_readRoad ht1 p2 k6 gW hD1 g2 (fun q M σ2 t1 t2 t3 f3 y6 yW yD => i_one ?_) (fun c s σ2 t1 f3 y2 y3 => i_zer' (h0 c s σ2 (by rw [← gt, t1]; rfl) (f2.le.tr f3) y2 y3))
        rw [show (nI v + 1 : Int32) = nI (v + 1) from nI_add v 1]
        refine hK (k - 1) _ _ _ (by omega) ⟨v + 1, q, M, by omega, rfl, by omega, t3, f2.tr f3, y6, yW, yD, ?_, rfl⟩
        rw [← gt, t1, show k - 1 + 1 = k by omega]
        rfl
    · rw [if_neg w0] at gt
      refine sX_isWord (i := 1) (by omega) ht1 e3 k1 (fun w1 => i_one' ?_) (fun w1 => i_zer ?_)
      · rw [if_pos w1] at gt
        obtain ⟨p1, p2⟩ := t_wd_go e3 w1
        rw [q5]
        unfold wX3_read_126 wX3_read_136
        refine i_le (a := 12) (by omega) (by omega) (fun g2 => ?_) (fun g2 => ?_)
        · rw [if_pos (by omega)] at gt
          exact sX_fail (c := 4) k5 (fun σ2 f3 y2 y3 => i_zer' (h0 4 (t_beg b n p) σ2 gt.symm (f2.le.tr f3.le) y2 y3))
        · rw [if_neg (by omega)] at gt
          refine sX_readTruck ht1 p2 k6 gW hD1 g2 (fun q M σ2 t1 t2 t3 f3 y6 yW yD => i_one ?_) (fun c s σ2 t1 f3 y2 y3 => i_zer' (h0 c s σ2 (by rw [← gt, t1]; rfl) (f2.le.tr f3) y2 y3))
          rw [show (nI v + 1 : Int32) = nI (v + 1) from nI_add v 1]
          refine hK (k - 1) _ _ _ (by omega) ⟨v + 1, q, M, by omega, rfl, by omega, t3, f2.tr f3, y6, yW, yD, ?_, rfl⟩
          rw [← gt, t1, show k - 1 + 1 = k by omega]
          rfl
      · rw [if_neg w1] at gt
        unfold wX3_read_136
        exact sX_fail (c := 1) k5 (fun σ2 f3 y2 y3 => i_zer' (h0 1 (t_beg b n p) σ2 gt.symm (f2.le.tr f3.le) y2 y3))
  · rw [if_pos g] at gt
    exact h1 N σ1 gt.symm f2 gW hD1
end XR
