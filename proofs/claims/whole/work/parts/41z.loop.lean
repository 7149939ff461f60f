/-! the loop of the law: printed by wip/whole/gen11.py -/
/-- what the law asks of class and reference -/
def z_ok (R : x_S → x_L → x_S → x_L → Prop) : Prop := z_p0 R ∧ z_p1 R ∧ z_p2 R ∧ z_p3 R ∧ z_p4 R ∧ z_p5 R ∧ z_p6 R ∧ z_p7 R ∧ z_p8 R ∧ z_p9 R ∧ z_p10 R ∧ z_p11 R ∧ z_p12 R ∧ z_p13 R ∧ z_p14 R ∧ z_p15 R ∧ z_p16 R ∧ z_p17 R ∧ z_p18 R ∧ z_p19 R ∧ z_p20 R ∧ z_p21 R ∧ z_p22 R ∧ z_p23 R ∧ z_p24 R ∧ z_p25 R ∧ z_p26 R ∧ z_p27 R ∧ z_p28 R ∧ z_p29 R ∧ z_p30 R ∧ z_p31 R ∧ z_p32 R ∧ z_p33 R ∧ z_p34 R ∧ z_p35 R ∧ z_p36 R ∧ z_p37 R ∧ z_p38 R ∧ z_p39 R ∧ z_p40 R ∧ z_p41 R ∧ z_p42 R ∧ z_p43 R ∧ z_p44 R ∧ z_p45 R
theorem z_gt {n L : Nat} (h : L < n + 6) (hL : L ≤ 3072) (hn : n ≤ 4000) : Int32.ofNat L - 6 < nI n := by
  have e1 : (Int32.ofNat L - 6).toInt = (L : Int) - 6 := by
    have a1 : (Int32.ofNat L).toInt = (L : Int) := nI_toInt (by omega)
    rw [Int32.toInt_sub, a1, show (6 : Int32).toInt = 6 from by decide]
    exact Int.bmod_eq_of_le (by omega) (by omega)
  rw [Int32.lt_iff_toInt_lt, e1, nI_toInt (by omega)]
  omega
theorem z_and (y : Int32) : 0 ≤ (y &&& 63).toInt ∧ (y &&& 63).toInt ≤ 63 := by
  have h : (y &&& 63).toBitVec.toNat ≤ 63 := by
    rw [Int32.toBitVec_and, BitVec.toNat_and]
    exact Nat.and_le_right
  have e : (y &&& 63).toInt = ((y &&& 63).toBitVec.toNat : Int) := by
    show (y &&& 63).toBitVec.toInt = _
    rw [BitVec.toInt_eq_toNat_of_lt (by omega)]
  omega
theorem z_eq {x v : Int32} {n : Int} (h : x.toInt = n) (hv : v.toInt = n) : x = v := Int32.toInt_inj.mp (h.trans hv.symm)
set_option maxRecDepth 100000 in
set_option maxHeartbeats 4000000 in
theorem z_step {R : x_S → x_L → x_S → x_L → Prop} (hp : z_ok R) {V : x_J} {ad : Nat → Nat} {b L : Nat} {xs : Nat → Int32} {j : Nat} {i : Int32} {σ ρ : x_S} {τ θ : x_L} (X : z_Is V ad b L xs j) (hj : j + 4 ≤ 600000) (h0 : vp_in i L) (h1 : vp_in (i + 1) L) (h2 : vp_in (i + 2) L) (h3 : vp_in (i + 3) L) (h4 : vp_in (i + 4) L) (h5 : vp_in (i + 5) L) (hR : R σ τ ρ θ)
    (k9 : ∀ (V' : x_J) (j' : Nat) (σ' : x_S) (τ' : x_L) (ρ' : x_S) (θ' : x_L), j' ≤ j + 4 → z_Is V' ad b L xs j' → R σ' τ' ρ' θ' → V' (z_c σ' ρ') (z_cL τ' θ') 2634 [(0, .ref b), (1, .ref (ad 0)), (2, .ref (ad 89)), (3, .ref (ad 87)), (4, .ref (ad 88)), (5, .int i)] []) : V (z_c σ ρ) (z_cL τ θ) 38 [(0, .ref b), (1, .ref (ad 0)), (2, .ref (ad 89)), (3, .ref (ad 87)), (4, .ref (ad 88)), (5, .int i)] [] := by
  have X0 := z_isX X
  obtain ⟨p0, p1, p2, p3, p4, p5, p6, p7, p8, p9, p10, p11, p12, p13, p14, p15, p16, p17, p18, p19, p20, p21, p22, p23, p24, p25, p26, p27, p28, p29, p30, p31, p32, p33, p34, p35, p36, p37, p38, p39, p40, p41, p42, p43, p44, p45⟩ := hp
  refine x_aload_n X0 dL_law_38 rfl 0 rfl ?_
  refine x_iload X0 dL_law_39 5 rfl ?_
  refine z_sld X h0 dL_law_41 ?_
  refine x_bipush X0 (v := 63) dL_law_42 (by decide) ?_
  refine x_iand X0 dL_law_44 ?_
  obtain ⟨y0, y1⟩ := z_and (xs i.toNatClampNeg)
  generalize hx : xs i.toNatClampNeg &&& 63 = x at y0 y1 ⊢
  by_cases e0 : x.toInt = 0
  · exact x_tin X0 0 244 (off := 199) (z_eq e0 (by decide)) dL_law_45 (by decide) (by decide) (by decide) (by decide) (z_case0 p0 X hj h1 h2 h3 h4 h5 hR k9)
  by_cases e1 : x.toInt = 1
  · exact x_tin X0 1 317 (off := 272) (z_eq e1 (by decide)) dL_law_45 (by decide) (by decide) (by decide) (by decide) (z_case1 p1 X hj h1 h2 h3 h4 h5 hR k9)
  by_cases e2 : x.toInt = 2
  · exact x_tin X0 2 342 (off := 297) (z_eq e2 (by decide)) dL_law_45 (by decide) (by decide) (by decide) (by decide) (z_case2 p2 X hj h1 h2 h3 h4 h5 hR k9)
  by_cases e3 : x.toInt = 3
  · exact x_tin X0 3 355 (off := 310) (z_eq e3 (by decide)) dL_law_45 (by decide) (by decide) (by decide) (by decide) (z_case3 p3 X hj h1 h2 h3 h4 h5 hR k9)
  by_cases e4 : x.toInt = 4
  · exact x_tin X0 4 368 (off := 323) (z_eq e4 (by decide)) dL_law_45 (by decide) (by decide) (by decide) (by decide) (z_case4 p4 X hj h1 h2 h3 h4 h5 hR k9)
  by_cases e5 : x.toInt = 5
  · exact x_tin X0 5 381 (off := 336) (z_eq e5 (by decide)) dL_law_45 (by decide) (by decide) (by decide) (by decide) (z_case5 p5 X hj h1 h2 h3 h4 h5 hR k9)
  by_cases e6 : x.toInt = 6
  · exact x_tin X0 6 406 (off := 361) (z_eq e6 (by decide)) dL_law_45 (by decide) (by decide) (by decide) (by decide) (z_case6 p6 X hj h1 h2 h3 h4 h5 hR k9)
  by_cases e7 : x.toInt = 7
  · exact x_tin X0 7 474 (off := 429) (z_eq e7 (by decide)) dL_law_45 (by decide) (by decide) (by decide) (by decide) (z_case7 p7 X hj h1 h2 h3 h4 h5 hR k9)
  by_cases e8 : x.toInt = 8
  · exact x_tin X0 8 542 (off := 497) (z_eq e8 (by decide)) dL_law_45 (by decide) (by decide) (by decide) (by decide) (z_case8 p8 X hj h1 h2 h3 h4 h5 hR k9)
  by_cases e9 : x.toInt = 9
  · exact x_tin X0 9 622 (off := 577) (z_eq e9 (by decide)) dL_law_45 (by decide) (by decide) (by decide) (by decide) (z_case9 p9 X hj h1 h2 h3 h4 h5 hR k9)
  by_cases e10 : x.toInt = 10
  · exact x_tin X0 10 690 (off := 645) (z_eq e10 (by decide)) dL_law_45 (by decide) (by decide) (by decide) (by decide) (z_case10 p10 X hj h1 h2 h3 h4 h5 hR k9)
  by_cases e11 : x.toInt = 11
  · exact x_tin X0 11 758 (off := 713) (z_eq e11 (by decide)) dL_law_45 (by decide) (by decide) (by decide) (by decide) (z_case11 p11 X hj h1 h2 h3 h4 h5 hR k9)
  by_cases e12 : x.toInt = 12
  · exact x_tin X0 12 826 (off := 781) (z_eq e12 (by decide)) dL_law_45 (by decide) (by decide) (by decide) (by decide) (z_case12 p12 X hj h1 h2 h3 h4 h5 hR k9)
  by_cases e13 : x.toInt = 13
  · exact x_tin X0 13 906 (off := 861) (z_eq e13 (by decide)) dL_law_45 (by decide) (by decide) (by decide) (by decide) (z_case13 p13 X hj h1 h2 h3 h4 h5 hR k9)
  by_cases e14 : x.toInt = 14
  · exact x_tin X0 14 986 (off := 941) (z_eq e14 (by decide)) dL_law_45 (by decide) (by decide) (by decide) (by decide) (z_case14 p14 X hj h1 h2 h3 h4 h5 hR k9)
  by_cases e15 : x.toInt = 15
  · exact x_tin X0 15 1054 (off := 1009) (z_eq e15 (by decide)) dL_law_45 (by decide) (by decide) (by decide) (by decide) (z_case15 p15 X hj h1 h2 h3 h4 h5 hR k9)
  by_cases e16 : x.toInt = 16
  · exact x_tin X0 16 1122 (off := 1077) (z_eq e16 (by decide)) dL_law_45 (by decide) (by decide) (by decide) (by decide) (z_case16 p16 X hj h1 h2 h3 h4 h5 hR k9)
  by_cases e17 : x.toInt = 17
  · exact x_tin X0 17 1202 (off := 1157) (z_eq e17 (by decide)) dL_law_45 (by decide) (by decide) (by decide) (by decide) (z_case17 p17 X hj h1 h2 h3 h4 h5 hR k9)
  by_cases e18 : x.toInt = 18
  · exact x_tin X0 18 1270 (off := 1225) (z_eq e18 (by decide)) dL_law_45 (by decide) (by decide) (by decide) (by decide) (z_case18 p18 X hj h1 h2 h3 h4 h5 hR k9)
  by_cases e19 : x.toInt = 19
  · exact x_tin X0 19 1326 (off := 1281) (z_eq e19 (by decide)) dL_law_45 (by decide) (by decide) (by decide) (by decide) (z_case19 p19 X hj h1 h2 h3 h4 h5 hR k9)
  by_cases e20 : x.toInt = 20
  · exact x_tin X0 20 1406 (off := 1361) (z_eq e20 (by decide)) dL_law_45 (by decide) (by decide) (by decide) (by decide) (z_case20 p20 X hj h1 h2 h3 h4 h5 hR k9)
  by_cases e21 : x.toInt = 21
  · exact x_tin X0 21 1486 (off := 1441) (z_eq e21 (by decide)) dL_law_45 (by decide) (by decide) (by decide) (by decide) (z_case21 p21 X hj h1 h2 h3 h4 h5 hR k9)
  by_cases e22 : x.toInt = 22
  · exact x_tin X0 22 1566 (off := 1521) (z_eq e22 (by decide)) dL_law_45 (by decide) (by decide) (by decide) (by decide) (z_case22 p22 X hj h1 h2 h3 h4 h5 hR k9)
  by_cases e23 : x.toInt = 23
  · exact x_tin X0 23 1634 (off := 1589) (z_eq e23 (by decide)) dL_law_45 (by decide) (by decide) (by decide) (by decide) (z_case23 p23 X hj h1 h2 h3 h4 h5 hR k9)
  by_cases e24 : x.toInt = 24
  · exact x_tin X0 24 1702 (off := 1657) (z_eq e24 (by decide)) dL_law_45 (by decide) (by decide) (by decide) (by decide) (z_case24 p24 X hj h1 h2 h3 h4 h5 hR k9)
  by_cases e25 : x.toInt = 25
  · exact x_tin X0 25 1770 (off := 1725) (z_eq e25 (by decide)) dL_law_45 (by decide) (by decide) (by decide) (by decide) (z_case25 p25 X hj h1 h2 h3 h4 h5 hR k9)
  by_cases e26 : x.toInt = 26
  · exact x_tin X0 26 1838 (off := 1793) (z_eq e26 (by decide)) dL_law_45 (by decide) (by decide) (by decide) (by decide) (z_case26 p26 X hj h1 h2 h3 h4 h5 hR k9)
  by_cases e27 : x.toInt = 27
  · exact x_tin X0 27 1894 (off := 1849) (z_eq e27 (by decide)) dL_law_45 (by decide) (by decide) (by decide) (by decide) (z_case27 p27 X hj h1 h2 h3 h4 h5 hR k9)
  by_cases e28 : x.toInt = 28
  · exact x_tin X0 28 1907 (off := 1862) (z_eq e28 (by decide)) dL_law_45 (by decide) (by decide) (by decide) (by decide) (z_case28 p28 X hj h1 h2 h3 h4 h5 hR k9)
  by_cases e29 : x.toInt = 29
  · exact x_tin X0 29 1963 (off := 1918) (z_eq e29 (by decide)) dL_law_45 (by decide) (by decide) (by decide) (by decide) (z_case29 p29 X hj h1 h2 h3 h4 h5 hR k9)
  by_cases e30 : x.toInt = 30
  · exact x_tin X0 30 2019 (off := 1974) (z_eq e30 (by decide)) dL_law_45 (by decide) (by decide) (by decide) (by decide) (z_case30 p30 X hj h1 h2 h3 h4 h5 hR k9)
  by_cases e31 : x.toInt = 31
  · exact x_tin X0 31 2087 (off := 2042) (z_eq e31 (by decide)) dL_law_45 (by decide) (by decide) (by decide) (by decide) (z_case31 p31 X hj h1 h2 h3 h4 h5 hR k9)
  by_cases e32 : x.toInt = 32
  · exact x_tin X0 32 2100 (off := 2055) (z_eq e32 (by decide)) dL_law_45 (by decide) (by decide) (by decide) (by decide) (z_case32 p32 X hj h1 h2 h3 h4 h5 hR k9)
  by_cases e33 : x.toInt = 33
  · exact x_tin X0 33 2113 (off := 2068) (z_eq e33 (by decide)) dL_law_45 (by decide) (by decide) (by decide) (by decide) (z_case33 p33 X hj h1 h2 h3 h4 h5 hR k9)
  by_cases e34 : x.toInt = 34
  · exact x_tin X0 34 2126 (off := 2081) (z_eq e34 (by decide)) dL_law_45 (by decide) (by decide) (by decide) (by decide) (z_case34 p34 X hj h1 h2 h3 h4 h5 hR k9)
  by_cases e35 : x.toInt = 35
  · exact x_tin X0 35 2194 (off := 2149) (z_eq e35 (by decide)) dL_law_45 (by decide) (by decide) (by decide) (by decide) (z_case35 p35 X hj h1 h2 h3 h4 h5 hR k9)
  by_cases e36 : x.toInt = 36
  · exact x_tin X0 36 2274 (off := 2229) (z_eq e36 (by decide)) dL_law_45 (by decide) (by decide) (by decide) (by decide) (z_case36 p36 X hj h1 h2 h3 h4 h5 hR k9)
  by_cases e37 : x.toInt = 37
  · exact x_tin X0 37 2352 (off := 2307) (z_eq e37 (by decide)) dL_law_45 (by decide) (by decide) (by decide) (by decide) (z_case37 p37 X hj h1 h2 h3 h4 h5 hR k9)
  by_cases e38 : x.toInt = 38
  · exact x_tin X0 38 2396 (off := 2351) (z_eq e38 (by decide)) dL_law_45 (by decide) (by decide) (by decide) (by decide) (z_case38 p38 X hj h1 h2 h3 h4 h5 hR k9)
  by_cases e39 : x.toInt = 39
  · exact x_tin X0 39 2464 (off := 2419) (z_eq e39 (by decide)) dL_law_45 (by decide) (by decide) (by decide) (by decide) (z_case39 p39 X hj h1 h2 h3 h4 h5 hR k9)
  by_cases e40 : x.toInt = 40
  · exact x_tin X0 40 2520 (off := 2475) (z_eq e40 (by decide)) dL_law_45 (by decide) (by decide) (by decide) (by decide) (z_case40 p40 X hj h1 h2 h3 h4 h5 hR k9)
  by_cases e41 : x.toInt = 41
  · exact x_tin X0 41 2545 (off := 2500) (z_eq e41 (by decide)) dL_law_45 (by decide) (by decide) (by decide) (by decide) (z_case41 p41 X hj h1 h2 h3 h4 h5 hR k9)
  by_cases e42 : x.toInt = 42
  · exact x_tin X0 42 2558 (off := 2513) (z_eq e42 (by decide)) dL_law_45 (by decide) (by decide) (by decide) (by decide) (z_case42 p42 X hj h1 h2 h3 h4 h5 hR k9)
  by_cases e43 : x.toInt = 43
  · exact x_tin X0 43 2571 (off := 2526) (z_eq e43 (by decide)) dL_law_45 (by decide) (by decide) (by decide) (by decide) (z_case43 p43 X hj h1 h2 h3 h4 h5 hR k9)
  by_cases e44 : x.toInt = 44
  · exact x_tin X0 44 2584 (off := 2539) (z_eq e44 (by decide)) dL_law_45 (by decide) (by decide) (by decide) (by decide) (z_case44 p44 X hj h1 h2 h3 h4 h5 hR k9)
  by_cases e45 : x.toInt = 45
  · exact x_tin X0 45 2609 (off := 2564) (z_eq e45 (by decide)) dL_law_45 (by decide) (by decide) (by decide) (by decide) (z_case45 p45 X hj h1 h2 h3 h4 h5 hR k9)
  exact x_tout X0 2634 dL_law_45 (by omega) (by decide) (k9 V j σ τ ρ θ (by omega) X hR)
set_option maxRecDepth 100000 in
set_option maxHeartbeats 4000000 in
theorem z_loop {R : x_S → x_L → x_S → x_L → Prop} (hp : z_ok R) {ad : Nat → Nat} {b L : Nat} {xs : Nat → Int32} (hL : L ≤ 3072) : ∀ (f t : Nat) (V : x_J) (j : Nat) (i : Int32) (σ ρ : x_S) (τ θ : x_L), L < 6 * (t + f) → i = nI (6 * t) → j ≤ 4 * t → 6 * t ≤ L + 6 → z_Is V ad b L xs j → R σ τ ρ θ → V (z_c σ ρ) (z_cL τ θ) 28 [(0, .ref b), (1, .ref (ad 0)), (2, .ref (ad 89)), (3, .ref (ad 87)), (4, .ref (ad 88)), (5, .int i)] [] := by
  intro f
  induction f with
  | zero =>
    intro t V j i σ ρ τ θ hf hi hj ht X hR
    subst hi
    have X0 := z_isX X
    refine x_iload X0 dL_law_28 5 rfl ?_
    refine x_aload_n X0 dL_law_30 rfl 0 rfl ?_
    refine z_slen X dL_law_31 ?_
    refine x_bipush X0 (v := 6) dL_law_32 (by decide) ?_
    refine x_isub X0 dL_law_34 ?_
    refine x_icmp_gt X0 2640 dL_law_35 rfl (fun _ => ?_) (fun h => absurd (z_gt (by omega) hL (by omega)) h)
    refine x_iconst X0 (v := 1) dL_law_2640 (by decide) ?_
    exact z_end X dL_law_2641
  | succ f ih =>
    intro t V j i σ ρ τ θ hf hi hj ht X hR
    have X0 := z_isX X
    refine x_iload X0 dL_law_28 5 rfl ?_
    refine x_aload_n X0 dL_law_30 rfl 0 rfl ?_
    refine z_slen X dL_law_31 ?_
    refine x_bipush X0 (v := 6) dL_law_32 (by decide) ?_
    refine x_isub X0 dL_law_34 ?_
    refine x_icmp_gt X0 2640 dL_law_35 rfl (fun _ => ?_) (fun h => ?_)
    · refine x_iconst X0 (v := 1) dL_law_2640 (by decide) ?_
      exact z_end X dL_law_2641
    · have hle : 6 * t + 6 ≤ L := by
        apply Classical.byContradiction
        intro hh
        rw [hi] at h
        exact h (z_gt (by omega) hL (by omega))
      have hin : ∀ k, k < 6 → vp_in (i + nI k) L := fun k hk => by
        rw [hi, nI_add]
        exact vp_in_nI (by omega) (by omega)
      have hin0 : vp_in i L := by
        rw [hi]
        exact vp_in_nI (by omega) (by omega)
      refine z_step hp X (by omega) hin0 (hin 1 (by omega)) (hin 2 (by omega)) (hin 3 (by omega)) (hin 4 (by omega)) (hin 5 (by omega)) hR (fun V' j' σ' τ' ρ' θ' hj' X' hR' => ?_)
      have X1 := z_isX X'
      refine x_iinc X1 (v := 6) dL_law_2634 (k := 5) rfl (by decide) (by decide) rfl ?_
      refine x_goto X1 (tgt := 28) dL_law_2637 (by decide) ?_
      refine x_sub X1 [1, 2, 3, 4, 5, 0] rfl ?_
      exact ih (t + 1) V' j' (i + 6) σ' ρ' τ' θ' (by omega) (by rw [hi]; exact nI_add (6 * t) 6) (by omega) (by omega) X' hR'
