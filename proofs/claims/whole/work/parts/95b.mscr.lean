section MC
variable {b : Nat → Int32} {n p : Nat} {σ ρ : x_S} {τ θ : x_L} {Q : Int32 → x_S → x_L → Prop}
theorem sM_cw (hk : m_tk b n p ρ θ) (h1 : t_cw b n p < 7 → Q (nI (t_cw b n p)) ρ θ) (h0 : t_cw b n p = 7 → Q (-1) ρ θ) : wX11_commandHere ρ θ Q := by
  have key : ∀ v, t_cw b n p = v → v < 7 → Q (nI v) ρ θ := fun v e c => by
    rw [← e] at c ⊢
    exact h1 c
  unfold wX11_commandHere wX11_commandHere_155
  unfold t_cw at key h0
  refine sM_pack (sM_isWord (i := 2) (by omega) hk w_p2 (fun c => i_one' (key 0 (by rw [if_pos c]) (by omega))) (fun c2 => i_zer ?_))
  refine sM_pack (sM_isWord (i := 3) (by omega) hk w_p3 (fun c => i_one' (key 1 (by rw [if_neg c2, if_pos c]) (by omega))) (fun c3 => i_zer ?_))
  refine sM_pack (sM_isWord (i := 4) (by omega) hk w_p4 (fun c => i_one' (key 2 (by rw [if_neg c2, if_neg c3, if_pos c]) (by omega))) (fun c4 => i_zer ?_))
  refine sM_pack (sM_isWord (i := 5) (by omega) hk w_p5 (fun c => i_one' (key 3 (by rw [if_neg c2, if_neg c3, if_neg c4, if_pos c]) (by omega))) (fun c5 => i_zer ?_))
  refine sM_pack (sM_isWord (i := 6) (by omega) hk w_p6 (fun c => i_one' (key 4 (by rw [if_neg c2, if_neg c3, if_neg c4, if_neg c5, if_pos c]) (by omega))) (fun c6 => i_zer ?_))
  refine sM_pack (sM_isWord (i := 7) (by omega) hk w_p7 (fun c => i_one' (key 5 (by rw [if_neg c2, if_neg c3, if_neg c4, if_neg c5, if_neg c6, if_pos c]) (by omega))) (fun c7 => i_zer ?_))
  refine sM_pack (sM_isWord (i := 8) (by omega) hk w_p8 (fun c => i_one' (key 6 (by rw [if_neg c2, if_neg c3, if_neg c4, if_neg c5, if_neg c6, if_neg c7, if_pos c]) (by omega))) (fun c8 => i_zer ?_))
  exact h0 (by rw [if_neg c2, if_neg c3, if_neg c4, if_neg c5, if_neg c6, if_neg c7, if_neg c8])
/-- one argument -/
theorem sM_arg {T : Except (Nat × Nat) (Nat × (Nat → Nat))} {A : Nat → Nat} {w k i m lo hi : Nat} (hT : t_ar b n w (k + 1) i p A = T) (hlo : c_lo w i = lo) (hhi : c_hi w i = hi) (ht : m_tb b n ρ) (hp : p ≤ n) (hk : m_tk b n p ρ θ) (h40 : ρ 0 40 = nI m) (hm : m < 30) (hi3 : i < 3) (h1 : ∀ (v q : Nat) (ρ' : x_S) (θ' : x_L), t_ar b n w k (i + 1) q (fun j => if j = i then v else A j) = T → q ≤ n → m_sf ρ ρ' → ρ' 0 40 = nI m → m_tk b n q ρ' θ' → (∀ j, ρ' 22 j = if j = 4 * m + 1 + i then nI v else ρ 22 j) → Q 1 ρ' θ') (h0 : ∀ (c s : Nat) (ρ' : x_S), T = .error (c, s) → m_se ρ ρ' → ρ' 0 33 = nI c → ρ' 0 34 = nI s → Q 0 ρ' θ) : wX11_readNumberOf (nI (1 + i)) (nI lo) (nI hi) ρ θ Q := by
  have hh := c_hi_b w i
  have hl := c_lo_b w i
  rw [t_ar, hlo, hhi] at hT
  unfold wX11_readNumberOf
  refine sM_number ht hp hk (by omega) (by omega) (fun v q ρ1 θ1 t1 hq f1 k1 y7 => i_one ?_) (fun c s ρ1 t1 f1 y2 y3 => i_zer' (h0 c s ρ1 (by rw [← hT, t1]; rfl) f1.se y2 y3))
  have e40 : ρ1 0 40 = nI m := by rw [f1.2 40 (by omega)]; exact h40
  have e4 : (4 * nI m + nI (1 + i) : Int32) = nI (4 * m + 1 + i) := by
    show nI 4 * nI m + nI (1 + i) = _
    rw [nI_mul, nI_add, Nat.add_assoc]
  rw [e40, e4, i_cl (by omega), y7]
  refine ⟨i_in (by omega) (by omega), h1 v q _ θ1 (by rw [← hT, t1]; rfl) hq (f1.sf.tr m_sf.up) ?_ k1.up22 (fun j => ?_)⟩
  · rw [x_up_n (show (0 : Nat) ≠ 22 by omega)]
    exact e40
  · rw [x_up_i, f1.1 22 (by omega)]
theorem sM_args {m w : Nat} (ht : m_tb b n ρ) (hp : p ≤ n) (hk : m_tk b n p ρ θ) (h40 : ρ 0 40 = nI m) (hm : m < 30) (hw : w ≤ 6) (h1 : ∀ (q : Nat) (A : Nat → Nat) (ρ' : x_S) (θ' : x_L), t_ar b n w (c_ar w) 0 p (fun _ => 0) = .ok (q, A) → q ≤ n → m_sf ρ ρ' → ρ' 0 40 = nI m → m_tk b n q ρ' θ' → (∀ i, i < c_ar w → ρ' 22 (4 * m + 1 + i) = nI (A i)) → (∀ j, j ≤ 4 * m → ρ' 22 j = ρ 22 j) → Q 1 ρ' θ') (h0 : ∀ (c s : Nat) (ρ' : x_S) (θ' : x_L), t_ar b n w (c_ar w) 0 p (fun _ => 0) = .error (c, s) → m_se ρ ρ' → ρ' 0 33 = nI c → ρ' 0 34 = nI s → Q 0 ρ' θ') : wX11_readArguments (nI w) ρ θ Q := by
  generalize hT : t_ar b n w (c_ar w) 0 p (fun _ => 0) = T at h1 h0
  have un : ∀ k, k < 7 → nI w = nI k → w = k := fun k hk e => (nI_eq (by omega) (by omega)).mp e
  have two : ∀ (x2 : Nat) (ρ2 : x_S), (∀ j, ρ2 22 j = if j = 4 * m + 1 + 0 then nI x2 else ρ 22 j) → ∀ j, j ≤ 4 * m → ρ2 22 j = ρ 22 j := fun x2 ρ2 g j hj => by rw [g, if_neg (by omega)]
  unfold wX11_readArguments
  refine i_eq (b := 6) (by omega) (by omega) (fun e6 => ?_) (fun e6 => ?_)
  · subst e6
    unfold wX11_readArguments_19
    refine ⟨fun g => absurd (un 0 (by omega) g) (by omega), fun g => absurd (un 1 (by omega) g) (by omega), fun g => absurd (un 2 (by omega) g) (by omega), fun g => absurd (un 3 (by omega) g) (by omega), fun _ _ _ _ => ?_⟩
    have e : T = .ok (p, fun _ => 0) := hT.symm
    exact h1 p _ ρ θ e hp (m_sf.rf _) h40 hk (fun i hi => absurd hi (by show ¬ i < 0; omega)) (fun _ _ => rfl)
  · obtain ⟨k, ek⟩ : ∃ k, c_ar w = k + 1 := by
      refine ⟨c_ar w - 1, ?_⟩
      unfold c_ar
      repeat' split
      all_goals omega
    rw [ek] at hT
    refine sM_arg (i := 0) (lo := 0) (hi := 11) hT (if_neg (by omega)) (if_pos (Or.inl rfl)) ht hp hk h40 hm (by omega) (fun v1 p1 ρ1 θ1 hT1 hp1 f1 y1 k1 c1 => i_one ?_) (fun c s ρ1 e f1 y2 y3 => i_zer' (h0 c s ρ1 θ e f1 y2 y3))
    have ht1 := ht.sf f1
    unfold wX11_readArguments_19 wX11_readArguments_78 wX11_readArguments_79 wX11_readArguments_107 wX11_readArguments_108
    refine ⟨fun g => ?_, fun g => ?_, fun g => ?_, fun g => ?_, fun g0 g1 g2 g3 => ?_⟩
    · have ew := un 0 (by omega) g
      subst ew
      have e2 : k = 2 := by have : c_ar 0 = 3 := rfl; omega
      subst e2
      refine sM_arg (i := 1) (lo := 0) (hi := 9) hT1 rfl rfl ht1 hp1 k1 y1 hm (by omega) (fun v2 p2 ρ2 θ2 hT2 hp2 f2 y2 k2 c2 => i_one' ?_) (fun c s ρ2 e f2 z2 z3 => i_zer ⟨Or.inl rfl, h0 c s ρ2 θ1 e (f1.se.tr f2) z2 z3⟩)
      refine sM_arg (i := 2) (lo := 0) (hi := 120) hT2 rfl rfl (ht1.sf f2) hp2 k2 y2 hm (by omega) (fun v3 p3 ρ3 θ3 hT3 hp3 f3 y3 k3 c3 => i_one' ⟨Or.inr rfl, ?_⟩) (fun c s ρ3 e f3 z2 z3 => i_zer ⟨Or.inl rfl, h0 c s ρ3 θ2 e ((f1.tr f2).se.tr f3) z2 z3⟩)
      refine h1 p3 _ ρ3 θ3 hT3.symm hp3 ((f1.tr f2).tr f3) y3 k3 (fun i hi => ?_) (fun j hj => ?_)
      · have hi3 : i < 3 := hi
        rw [c3, c2, c1]
        rcases (show i = 0 ∨ i = 1 ∨ i = 2 by omega) with rfl | rfl | rfl
        · rw [if_neg (by omega), if_neg (by omega), if_pos (by omega)]
          rfl
        · rw [if_neg (by omega), if_pos (by omega)]
          rfl
        · rw [if_pos (by omega)]
          rfl
      · rw [c3, c2, c1, if_neg (by omega), if_neg (by omega), if_neg (by omega)]
    · have ew := un 1 (by omega) g
      subst ew
      have e2 : k = 2 := by have : c_ar 1 = 3 := rfl; omega
      subst e2
      refine sM_arg (i := 1) (lo := 0) (hi := 9) hT1 rfl rfl ht1 hp1 k1 y1 hm (by omega) (fun v2 p2 ρ2 θ2 hT2 hp2 f2 y2 k2 c2 => i_one' ?_) (fun c s ρ2 e f2 z2 z3 => i_zer ⟨Or.inl rfl, h0 c s ρ2 θ1 e (f1.se.tr f2) z2 z3⟩)
      refine sM_arg (i := 2) (lo := 40) (hi := 120) hT2 rfl rfl (ht1.sf f2) hp2 k2 y2 hm (by omega) (fun v3 p3 ρ3 θ3 hT3 hp3 f3 y3 k3 c3 => i_one' ⟨Or.inr rfl, ?_⟩) (fun c s ρ3 e f3 z2 z3 => i_zer ⟨Or.inl rfl, h0 c s ρ3 θ2 e ((f1.tr f2).se.tr f3) z2 z3⟩)
      refine h1 p3 _ ρ3 θ3 hT3.symm hp3 ((f1.tr f2).tr f3) y3 k3 (fun i hi => ?_) (fun j hj => ?_)
      · have hi3 : i < 3 := hi
        rw [c3, c2, c1]
        rcases (show i = 0 ∨ i = 1 ∨ i = 2 by omega) with rfl | rfl | rfl
        · rw [if_neg (by omega), if_neg (by omega), if_pos (by omega)]
          rfl
        · rw [if_neg (by omega), if_pos (by omega)]
          rfl
        · rw [if_pos (by omega)]
          rfl
      · rw [c3, c2, c1, if_neg (by omega), if_neg (by omega), if_neg (by omega)]
    · have ew := un 2 (by omega) g
      subst ew
      have e2 : k = 1 := by have : c_ar 2 = 2 := rfl; omega
      subst e2
      rw [e_2000]
      refine sM_arg (i := 1) (lo := 0) (hi := 2000) hT1 rfl rfl ht1 hp1 k1 y1 hm (by omega) (fun v2 p2 ρ2 θ2 hT2 hp2 f2 y2 k2 c2 => ⟨Or.inr rfl, ?_⟩) (fun c s ρ2 e f2 z2 z3 => ⟨Or.inl rfl, h0 c s ρ2 θ1 e (f1.se.tr f2) z2 z3⟩)
      refine h1 p2 _ ρ2 θ2 hT2.symm hp2 (f1.tr f2) y2 k2 (fun i hi => ?_) (fun j hj => ?_)
      · have hi2 : i < 2 := hi
        rw [c2, c1]
        rcases (show i = 0 ∨ i = 1 by omega) with rfl | rfl
        · rw [if_neg (by omega), if_pos (by omega)]
          rfl
        · rw [if_pos (by omega)]
          rfl
      · rw [c2, c1, if_neg (by omega), if_neg (by omega)]
    · have ew := un 3 (by omega) g
      subst ew
      have e2 : k = 1 := by have : c_ar 3 = 2 := rfl; omega
      subst e2
      refine sM_arg (i := 1) (lo := 0) (hi := 11) hT1 rfl rfl ht1 hp1 k1 y1 hm (by omega) (fun v2 p2 ρ2 θ2 hT2 hp2 f2 y2 k2 c2 => ⟨Or.inr rfl, ?_⟩) (fun c s ρ2 e f2 z2 z3 => ⟨Or.inl rfl, h0 c s ρ2 θ1 e (f1.se.tr f2) z2 z3⟩)
      refine h1 p2 _ ρ2 θ2 hT2.symm hp2 (f1.tr f2) y2 k2 (fun i hi => ?_) (fun j hj => ?_)
      · have hi2 : i < 2 := hi
        rw [c2, c1]
        rcases (show i = 0 ∨ i = 1 by omega) with rfl | rfl
        · rw [if_neg (by omega), if_pos (by omega)]
          rfl
        · rw [if_pos (by omega)]
          rfl
      · rw [c2, c1, if_neg (by omega), if_neg (by omega)]
    · have n0 : w ≠ 0 := fun e => g0 (by rw [e]; rfl)
      have n1 : w ≠ 1 := fun e => g1 (by rw [e]; rfl)
      have n2 : w ≠ 2 := fun e => g2 (by rw [e]; rfl)
      have n3 : w ≠ 3 := fun e => g3 (by rw [e]; rfl)
      have e1 : c_ar w = 1 := by
        unfold c_ar
        rw [if_neg (by omega), if_neg (by omega), if_pos (by omega)]
      have e2 : k = 0 := by omega
      subst e2
      refine h1 p1 _ ρ1 θ1 hT1.symm hp1 f1 y1 k1 (fun i hi => ?_) (fun j hj => ?_)
      · have ei : i = 0 := by omega
        subst ei
        rw [c1, if_pos rfl]
        rfl
      · rw [c1, if_neg (by omega)]
theorem sM_script (ht : m_tb b n ρ) (hk : m_tk b n 0 ρ θ) (h40 : ρ 0 40 = nI 0) (h1 : ∀ (m : Nat) (W : Nat → Nat → Nat) (ρ' : x_S) (θ' : x_L) (v : Int32), t_scr b n 31 0 0 (fun _ _ => 0) = .ok (m, W) → m_sf ρ ρ' → m_sc m W ρ' → ¬ v = 0 → wX11_play_35 Q v ρ' θ') (h0 : ∀ (c s : Nat) (ρ' : x_S) (θ' : x_L), t_scr b n 31 0 0 (fun _ _ => 0) = .error (c, s) → m_se ρ ρ' → ρ' 0 33 = nI c → ρ' 0 34 = nI s → wX11_play_35 Q 0 ρ' θ') : x_l1 (wX11_play_16 Q) 1 ρ θ := by
  have hn := ht.1
  refine x_l1_I (fun k c0 ρ' θ' => (∃ m p W, m + k = 31 ∧ 1 ≤ k ∧ c0 = 1 ∧ p ≤ n ∧ m_sf ρ ρ' ∧ m_tk b n p ρ' θ' ∧ m_sc m W ρ' ∧ t_scr b n k m p W = t_scr b n 31 0 0 (fun _ _ => 0)) ∨ (c0 = 0 ∧ ∃ c s, t_scr b n 31 0 0 (fun _ _ => 0) = .error (c, s) ∧ m_se ρ ρ' ∧ ρ' 0 33 = nI c ∧ ρ' 0 34 = nI s)) ?_ 31 (Or.inl ⟨0, 0, fun _ _ => 0, rfl, by omega, rfl, Nat.zero_le _, m_sf.rf _, hk, ⟨h40, fun a ha => absurd ha (Nat.not_lt_zero _)⟩, rfl⟩)
  rintro k c0 ρ' θ' (⟨m, p, W, e1, ek, rfl, e3, f, kk, gS, gt⟩ | ⟨rfl, c, s, gt, f, y2, y3⟩) K hK
  · have ht' := ht.sf f
    obtain ⟨k5, k6, k4, k7, -⟩ := id kk
    have hkb := t_kd_b b n p
    rw [show k = (k - 1) + 1 by omega, t_scr] at gt
    have bad : ∀ (c s : Nat) (ρ2 : x_S) (θ2 : x_L), t_scr b n 31 0 0 (fun _ _ => 0) = .error (c, s) → m_se ρ ρ2 → ρ2 0 33 = nI c → ρ2 0 34 = nI s → K 0 ρ2 θ2 := fun c s ρ2 θ2 y1 y2 y3 y4 => hK (k - 1) _ _ _ (by omega) (Or.inr ⟨rfl, c, s, y1, y2, y3, y4⟩)
    unfold wX11_play_16
    refine i_one' ?_
    rw [k4]
    refine i_eq (b := 0) (by omega) (by omega) (fun g => ?_) (fun g => ?_)
    · rw [if_pos g] at gt
      exact h1 m W ρ' θ' 1 gt.symm f gS (by decide)
    · rw [if_neg g] at gt
      unfold wX11_readCommand
      refine sM_cw kk (fun cw => ⟨fun _ => ?_, fun y => absurd y (nI_m1 (by omega))⟩) (fun cw => ?_)
      · rw [if_neg (show ¬ t_cw b n p = 7 by omega)] at gt
        have hend := t_end_b b n e3
        rw [gS.1]
        refine i_ne (b := 30) (by omega) (by omega) (fun c30 => ?_) (fun c30 => ?_)
        · rw [if_neg c30] at gt
          refine sM_advance ht' hend.2.2.1 k6 (fun ρ1 θ1 f1 kk1 => ?_)
          have e40 : ρ1 0 40 = nI m := by rw [f1.2 40 (by omega) (by omega) (by omega)]; exact gS.1
          rw [e40, show (4 * nI m : Int32) = nI (4 * m) from nI_mul 4 m, i_cl (by omega)]
          refine ⟨i_in (by omega) (by omega), ?_⟩
          have f2 : m_sf ρ (x_up ρ1 22 (4 * m) (nI (t_cw b n p))) := (f.tr f1.tq.sf).tr m_sf.up
          refine sM_args (m := m) (w := t_cw b n p) (ht.sf f2) hend.2.2.1 kk1.up22 (by rw [x_up_n (show (0 : Nat) ≠ 22 by omega)]; exact e40) (by omega) (by omega) (fun q A ρ2 θ2 t2 hq f3 y40 kk2 yA yn => i_one ?_) (fun c s ρ2 θ2 t2 f3 y2 y3 => i_zer' (bad c s ρ2 θ2 (by rw [← gt, t2]; rfl) (f2.se.tr f3) y2 y3))
          rw [y40, show (nI m + 1 : Int32) = nI (m + 1) from nI_add m 1]
          have f4 : m_sf ρ (x_up ρ2 0 40 (nI (m + 1))) := (f2.tr f3).tr m_sf.up40
          refine sM_semi (ht.sf f4) hq kk2.up40 (fun q' ρ3 θ3 t3 hq' f5 kk3 => ⟨Or.inr rfl, ?_⟩) (fun c s ρ3 t3 f5 y2 y3 => ⟨Or.inl rfl, bad c s ρ3 θ2 (by rw [← gt, t2]; show Except.bind (t_sem b n q) _ = _; rw [t3]; rfl) (f4.se.tr f5.se) y2 y3⟩)
          refine hK (k - 1) _ _ _ (by omega) (Or.inl ⟨m + 1, q', c_up W m (t_cw b n p) A, by omega, by omega, rfl, hq', f4.tr f5.sf, kk3, ⟨?_, fun a ha => ?_⟩, ?_⟩)
          · rw [f5.2 40 (by omega), x_up_ss]
          · rw [f5.1 22 (by omega), x_up_n (show (22 : Nat) ≠ 0 by omega)]
            by_cases z : a = m
            · have e : ∀ j, c_up W m (t_cw b n p) A a j = if j = 0 then t_cw b n p else A (j - 1) := fun j => by
                unfold c_up
                rw [if_pos z]
              rw [e, if_pos rfl, z, yn _ (Nat.le_refl _), x_up_ss]
              refine ⟨rfl, fun i hi => ?_⟩
              rw [z] at e
              rw [e, if_neg (by omega), Nat.add_sub_cancel]
              exact yA i hi
            · have e : ∀ j, c_up W m (t_cw b n p) A a j = W a j := fun j => by
                unfold c_up
                rw [if_neg z]
              have ha2 := gS.2 a (by omega)
              rw [e, yn _ (by omega), x_up_sn (by omega), f1.1 22 (by omega)]
              refine ⟨ha2.1, fun i hi => ?_⟩
              have := c_ar_b (W a 0)
              rw [e, yn _ (by omega), x_up_sn (by omega), f1.1 22 (by omega)]
              exact ha2.2 i hi
          · rw [← gt, t2]
            show _ = Except.bind (t_sem b n q) _
            rw [t3]
            rfl
        · rw [if_pos c30] at gt
          exact sM_fail (c := 4) k5 (fun ρ2 f2 y2 y3 => ⟨Or.inl rfl, bad 4 (t_beg b n p) ρ2 θ' gt.symm (f.se.tr f2.se) y2 y3⟩)
      · rw [if_pos cw] at gt
        refine ⟨fun y => absurd rfl y, fun _ => sM_fail (c := 1) k5 (fun ρ2 f2 y2 y3 => ⟨Or.inl rfl, bad 1 (t_beg b n p) ρ2 θ' gt.symm (f.se.tr f2.se) y2 y3⟩)⟩
  · unfold wX11_play_16
    exact i_zer (h0 c s ρ' θ' gt f y2 y3)
end MC
