section MP
variable {b : Nat → Int32} {n p : Nat} {N : g_F} {ρ : x_S} {θ : x_L}
theorem sM_told {r k : Nat} (hr : r < 30) (hk : k < 2) {Q : Int32 → x_S → x_L → Prop} (h : Q (ρ 3 (292 + 4 * r + k)) ρ θ) : wX11_toldRoad (nI r) (nI k) ρ θ Q := by
  unfold wX11_toldRoad
  have e : ((292 + (4 * nI r)) + nI k : Int32) = nI (292 + 4 * r + k) := by
    show (nI 292 + nI 4 * nI r) + nI k = _
    rw [nI_mul, nI_add, nI_add]
  rw [e, i_cl (by omega)]
  exact ⟨i_in (by omega) (by omega), h⟩
theorem e_hi {m : Nat} (hm : m ≤ 30) : ((nI m - 1 : Int32).toInt64).toInt = (m : Int) - 1 := e_m1L (by omega)
/-- a place's road, into note i -/
theorem sM_intoP (ht : m_tb b n ρ) (hp : p ≤ n) (hk : m_tk b n p ρ θ) {i m : Nat} (hi' : i < 290) (hm : m ≤ 30) {Q : Int32 → x_S → x_L → Prop} (h1 : t_kd b n p = 2 → t_vl b n p < m → ∀ (ρ1 : x_S) (θ' : x_L), m_tq ρ ρ1 → m_tk b n (t_end b n p) (x_up ρ1 3 (290 + i) (nI (t_vl b n p))) θ' → Q 1 (x_up ρ1 3 (290 + i) (nI (t_vl b n p))) θ') (h2 : t_kd b n p = 2 → m ≤ t_vl b n p → ∀ ρ' : x_S, m_te ρ ρ' → ρ' 0 33 = nI 2 → ρ' 0 34 = nI (t_beg b n p) → Q 0 ρ' θ) (h0 : t_kd b n p ≠ 2 → ∀ ρ' : x_S, m_te ρ ρ' → ρ' 0 33 = nI 1 → ρ' 0 34 = nI (t_beg b n p) → Q 0 ρ' θ) : wX11_readInto (nI i) 0 (nI m - 1) ρ θ Q := by
  obtain ⟨k5, k6, k4, k7, -⟩ := hk
  have hkb := t_kd_b b n p
  unfold wX11_readInto wX11_readNumber
  rw [k4]
  refine i_eq (b := 2) (by omega) (by omega) (fun g => ?_) (fun g => ?_)
  · have hv := t_vl_b g
    have k7' : (θ 0 38).toInt = (t_vl b n p : Nat) := k7 g
    refine sM_inL (l := 0) k7' (by decide) (e_hi hm) (fun c => i_one ?_) (fun c => i_zer' ?_)
    · rw [e_L32i k7' (by omega)]
      have f1 : m_tq ρ (x_up ρ 0 37 (nI (t_vl b n p))) := m_tq.up
      refine sM_advance (ht.te f1.te) (t_end_b b n hp).2.2.1 (by rw [x_up_sn (by omega)]; exact k6) (fun ρ2 θ2 f2 g2 => i_one ?_)
      rw [show (290 + nI i : Int32) = nI (290 + i) from nI_add 290 i, i_cl (by omega), f2.2 37 (by omega) (by omega) (by omega), x_up_ss]
      exact ⟨i_in (by omega) (by omega), h1 g (by omega) ρ2 θ2 (f1.tr f2.tq) g2.up3⟩
    · exact sM_fail (c := 2) k5 (fun ρ2 f2 e2 e3 => ⟨Or.inl rfl, i_zer' (h2 g (by omega) ρ2 f2 e2 e3)⟩)
  · exact sM_fail (c := 1) k5 (fun ρ2 f2 e2 e3 => ⟨Or.inl rfl, i_zer' (h0 g ρ2 f2 e2 e3)⟩)
theorem sM_place (ht : m_tb b n ρ) (hp : p ≤ n) (hk : m_tk b n p ρ θ) (hN : g_WN N) {T q : Nat} {R : Nat → Nat} (hT : T < 12) (hq : q ≤ 10) (hR : ρ 3 290 = nI (N 0 0)) (hf : ∀ r, r < N 0 0 → ρ 3 (292 + 4 * r) = nI (N 1 r) ∧ ρ 3 (292 + 4 * r + 1) = nI (N 2 r)) (hc : ρ 3 (290 + (122 + 14 * T + 3)) = nI q) (hR3 : ∀ i, i < q → ρ 3 (290 + (122 + 14 * T + (4 + i))) = nI (R i) ∧ R i < N 0 0) {Q : Int32 → x_S → x_L → Prop} (h1 : t_kd b n p = 2 → t_vl b n p < N 0 0 → ¬ (0 < q ∧ N 1 (t_vl b n p) ≠ N 2 (R (q - 1))) → q ≠ 10 → ∀ (ρ1 : x_S) (θ' : x_L), m_tq ρ ρ1 → m_tk b n (t_end b n p) (x_up (x_up ρ1 3 (290 + (122 + 14 * T + (4 + q))) (nI (t_vl b n p))) 3 (290 + (122 + 14 * T + 3)) (nI (q + 1))) θ' → Q 1 (x_up (x_up ρ1 3 (290 + (122 + 14 * T + (4 + q))) (nI (t_vl b n p))) 3 (290 + (122 + 14 * T + 3)) (nI (q + 1))) θ') (h0 : ∀ (c : Nat) (ρ' : x_S), (t_kd b n p ≠ 2 ∧ c = 1 ∨ t_kd b n p = 2 ∧ N 0 0 ≤ t_vl b n p ∧ c = 2 ∨ t_kd b n p = 2 ∧ ¬ N 0 0 ≤ t_vl b n p ∧ (0 < q ∧ N 1 (t_vl b n p) ≠ N 2 (R (q - 1))) ∧ c = 3 ∨ t_kd b n p = 2 ∧ ¬ N 0 0 ≤ t_vl b n p ∧ ¬ (0 < q ∧ N 1 (t_vl b n p) ≠ N 2 (R (q - 1))) ∧ q = 10 ∧ c = 4) → m_te ρ ρ' → ρ' 0 33 = nI c → ρ' 0 34 = nI (t_beg b n p) → Q 0 ρ' θ) : wX11_readPlace (nI (122 + 14 * T)) ρ θ Q := by
  obtain ⟨k5, k6, k4, k7, -⟩ := id hk
  have hb := hN.1.1
  have hkb := t_kd_b b n p
  have e290 : (290 : Int32).toNatClampNeg = 290 := rfl
  have ev : ((290 + nI (122 + 14 * T)) + 3 : Int32) = nI (290 + (122 + 14 * T + 3)) := by
    show (nI 290 + nI (122 + 14 * T)) + nI 3 = _
    rw [nI_add, nI_add]
    congr 1
  have go : t_kd b n p ≠ 2 ∨ (t_kd b n p = 2 ∧ N 0 0 ≤ t_vl b n p) ∨ (q ≠ 10 ∧ ¬ (0 < q ∧ N 1 (t_vl b n p) ≠ N 2 (R (q - 1)))) → wX11_readPlace_113 Q (nI (122 + 14 * T)) (nI q) ρ θ := fun g => by
    have put : ∀ j, j ≤ 13 → (q ≠ 10 → j = 4 + q) → (q = 10 → t_kd b n p ≠ 2 ∨ (t_kd b n p = 2 ∧ N 0 0 ≤ t_vl b n p)) → wX11_readPlace_128 Q (nI (122 + 14 * T)) (nI (122 + 14 * T)) (nI j) ρ θ := fun j hj hj2 hj3 => by
      unfold wX11_readPlace_128
      rw [e290, hR, nI_add (122 + 14 * T) j, ev, i_cl (show 290 + (122 + 14 * T + 3) < 1000000000 by omega)]
      refine sM_intoP ht hp hk (by omega) hb (fun c1 c2 ρ1 θ1 f1 kk => i_one ⟨i_in (by omega) (by omega), ?_⟩) (fun c1 c2 ρ1 f1 e2 e3 => i_zer' (h0 2 ρ1 (Or.inr (Or.inl ⟨c1, c2, rfl⟩)) f1 e2 e3)) (fun c1 ρ1 f1 e2 e3 => i_zer' (h0 1 ρ1 (Or.inl ⟨c1, rfl⟩) f1 e2 e3))
      have q10 : q ≠ 10 := fun e => by
        rcases hj3 e with y | y
        · exact y c1
        · omega
      have hadj : ¬ (0 < q ∧ N 1 (t_vl b n p) ≠ N 2 (R (q - 1))) := by
        rcases g with y | y | y
        · exact absurd c1 y
        · omega
        · exact y.2
      have ej := hj2 q10
      subst ej
      rw [x_up_sn (show 290 + (122 + 14 * T + 3) ≠ 290 + (122 + 14 * T + (4 + q)) by omega), f1.1 3 (by omega), hc, show (nI q + 1 : Int32) = nI (q + 1) from nI_add q 1]
      exact h1 c1 c2 hadj q10 ρ1 θ1 f1 kk.up3
    unfold wX11_readPlace_113
    refine i_le (a := 10) (by omega) (by omega) (fun g2 => put 3 (by omega) (fun y => absurd (by omega) y) (fun _ => ?_)) (fun g2 => ?_)
    · rcases g with y | y | y
      · exact Or.inl y
      · exact Or.inr y
      · exact absurd (by omega) y.1
    · rw [show (4 + nI q : Int32) = nI (4 + q) from nI_add 4 q]
      exact put (4 + q) (by omega) (fun _ => rfl) (fun y => absurd y (by omega))
  unfold wX11_readPlace wX11_readPlace_47 wX11_readPlace_48 wX11_readPlace_97
  rw [ev, i_cl (show 290 + (122 + 14 * T + 3) < 1000000000 by omega), k4, hc, e290, hR]
  refine ⟨i_in (by omega) (by omega), i_ne (b := 2) (by omega) (by omega) (fun g => i_zer (i_zer (go (Or.inl g)))) (fun g => ?_)⟩
  have hv := t_vl_b g
  have k7' : (θ 0 38).toInt = (t_vl b n p : Nat) := k7 g
  refine sM_inL (l := 0) k7' (by decide) (e_hi hb) (fun c => i_one' ?_) (fun c => i_zer (i_zer (i_zer (go (Or.inr (Or.inl ⟨g, by omega⟩))))))
  have last : ¬ (0 < q ∧ N 1 (t_vl b n p) ≠ N 2 (R (q - 1))) → ((1 : Int32) = 0 → wX11_readPlace_113 Q (nI (122 + 14 * T)) (nI q) ρ θ) ∧ (¬ (1 : Int32) = 0 → (¬ nI q = 10 → wX11_readPlace_113 Q (nI (122 + 14 * T)) (nI q) ρ θ) ∧ (nI q = 10 → wX11_fail 4 ρ θ (fun r109 σ109 τ109 => (r109 = 0 ∨ r109 = 1) ∧ Q r109 σ109 τ109))) := fun hadj => i_one' (i_ne (b := 10) (by omega) (by omega) (fun q10 => go (Or.inr (Or.inr ⟨q10, hadj⟩))) (fun q10 => sM_fail (c := 4) k5 (fun ρ2 f2 e2 e3 => ⟨Or.inl rfl, h0 4 ρ2 (Or.inr (Or.inr (Or.inr ⟨g, by omega, hadj, q10, rfl⟩))) f2 e2 e3⟩)))
  refine i_one' (i_le (b := 0) (by omega) (by omega) (fun g2 => last (by omega)) (fun g2 => ?_))
  rw [e_L32i k7' (by omega)]
  have hv30 : t_vl b n p < N 0 0 := by omega
  have e1 : ((((290 + nI (122 + 14 * T)) + 4) + nI q) - 1 : Int32) = nI (290 + (122 + 14 * T + (4 + (q - 1)))) := by
    show (((nI 290 + nI (122 + 14 * T)) + nI 4) + nI q) - nI 1 = _
    rw [nI_add, nI_add, nI_add, nI_sub (by omega)]
    congr 1
    omega
  have hq1 := hR3 (q - 1) (by omega)
  refine sM_told (k := 0) (by omega) (by omega) ?_
  rw [show 292 + 4 * t_vl b n p + 0 = 292 + 4 * t_vl b n p from rfl, e1, i_cl (by omega)]
  refine ⟨i_in (by omega) (by omega), ?_⟩
  rw [hq1.1]
  refine sM_told (k := 1) (by omega) (by omega) ?_
  have w1 := hN.2.1 _ hv30
  have w2 := hN.2.1 _ hq1.2
  rw [(hf _ hv30).1, (hf _ hq1.2).2]
  refine i_eq (by omega) (by omega) (fun g5 => last (fun y => y.2 g5)) (fun g5 => ?_)
  exact sM_fail (c := 3) k5 (fun ρ2 f2 e2 e3 => ⟨Or.inl rfl, h0 3 ρ2 (Or.inr (Or.inr (Or.inl ⟨g, by omega, ⟨by omega, g5⟩, rfl⟩))) f2 e2 e3⟩)
end MP
