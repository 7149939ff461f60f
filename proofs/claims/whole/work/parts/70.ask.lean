/-! the questions -/
section BG
variable {N C : g_F} {w : Nat → Nat} {σ ρ : x_S} {τ θ : x_L} {a a2 : Int32}
theorem sM_begin (hM : g_M N C ρ) {Q : x_S → x_L → Prop} (h : ∀ ρ' : x_S, m_fr ρ ρ' → ρ' 0 5 = 0 → g_M N C ρ' → m_L N C ρ' → Q ρ' θ) : wX11_lay (x_up ρ 0 5 0) θ Q := by
  have f0 : m_fr ρ (x_up ρ 0 5 0) := m_fr.up0 (Or.inl rfl)
  have hM0 := hM.fr f0
  refine sM_lay hM0.1 hM0.2.1 hM0.2.2.1 hM0.2.2.2 (fun ρ' f hL => ?_)
  have f1 : m_fr ρ ρ' := f0.tr (m_fr.of f)
  exact h ρ' f1 (by rw [f 0 (by omega), x_up_ss]) (hM.fr f1) hL
theorem sM_begin2 {ρ0 : x_S} (f0 : m_fr ρ ρ0) (h5 : ρ0 0 5 = 0) (hM : g_M N C ρ) {Q : x_S → x_L → Prop} (h : ∀ ρ' : x_S, m_fr ρ ρ' → ρ' 0 5 = 0 → g_M N C ρ' → m_L N C ρ' → Q ρ' θ) : wX11_lay ρ0 θ Q := by
  have hM0 := hM.fr f0
  refine sM_lay hM0.1 hM0.2.1 hM0.2.2.1 hM0.2.2.2 (fun ρ' f hL => ?_)
  have f1 : m_fr ρ ρ' := f0.tr (m_fr.of f)
  exact h ρ' f1 (by rw [f 0 (by omega), h5]) (hM.fr f1) hL
theorem m_fr.up5 {ρ ρ' : x_S} (h : m_fr ρ ρ') (v : Int32) : m_fr ρ (x_up ρ' 0 5 v) := h.tr (m_fr.up0 (Or.inl rfl))
theorem sM_noPlace (hM : g_M N C ρ) {Q : Int32 → x_S → x_L → Prop} (h0 : g_rp N a a2 → ∀ ρ' : x_S, m_fr ρ ρ' → ρ' 0 5 = 0 → g_M N C ρ' → m_L N C ρ' → Q 0 ρ' θ) (h1 : ¬ g_rp N a a2 → ∀ ρ' : x_S, m_fr ρ ρ' → ρ' 0 5 = 1 → Q 1 ρ' θ) : wX11_noPlace a a2 (x_up ρ 0 5 0) θ Q := by
  unfold wX11_noPlace wX11_noPlace_19
  refine sM_begin hM (fun ρ' f h5 hM' hL => ?_)
  refine sM_isPlace hM'.1 hM'.2.2.1 (fun c => ?_) (fun c => ?_)
  · exact i_one (sM_thr0 ⟨Or.inl rfl, h0 c ρ' f h5 hM' hL⟩)
  · exact i_zer' (sM_thr1 ⟨Or.inr rfl, h1 c _ (f.up5 1) (x_up_ss _ _ _ _)⟩)
theorem sM_notTwo (hM : g_M N C ρ) {Q : Int32 → x_S → x_L → Prop} (h0 : g_rg a (N 0 1) → g_rg a2 (N 0 1) → ∀ ρ' : x_S, m_fr ρ ρ' → ρ' 0 5 = 0 → g_M N C ρ' → m_L N C ρ' → Q 0 ρ' θ) (h1 : ¬ (g_rg a (N 0 1) ∧ g_rg a2 (N 0 1)) → ∀ ρ' : x_S, m_fr ρ ρ' → ρ' 0 5 = 1 → Q 1 ρ' θ) : wX11_notTwo a a2 (x_up ρ 0 5 0) θ Q := by
  unfold wX11_notTwo wX11_notTwo_21 wX11_notTwo_26
  refine sM_begin hM (fun ρ' f h5 hM' hL => ?_)
  refine sM_isTruck hM'.1 hM'.2.2.1 (fun c => i_one' ?_) (fun c => i_zer (sM_thr1 ⟨Or.inr rfl, h1 (fun z => c z.1) _ (f.up5 1) (x_up_ss _ _ _ _)⟩))
  refine sM_isTruck hM'.1 hM'.2.2.1 (fun c2 => ?_) (fun c2 => ?_)
  · exact i_one (sM_thr0 ⟨Or.inl rfl, h0 c c2 ρ' f h5 hM' hL⟩)
  · exact i_zer' (sM_thr1 ⟨Or.inr rfl, h1 (fun z => c2 z.2) _ (f.up5 1) (x_up_ss _ _ _ _)⟩)
theorem sX_chkTwo (hN : g_WN N) (hF : f_F N σ) {Q : x_S → x_L → Prop} {QX : x_PE} (h1 : g_rg a (N 0 1) → g_rg a2 (N 0 1) → Q σ τ) (h0 : ¬ (g_rg a (N 0 1) ∧ g_rg a2 (N 0 1)) → QX eIO σ τ) : wX10_checkTruck a σ τ (fun σ2 τ2 => wX10_checkTruck a2 σ2 τ2 Q QX) QX := sX_chkTruck hN hF (fun c => sX_chkTruck hN hF (fun c2 => h1 c c2) (fun c2 => h0 (fun z => c2 z.2))) (fun c => h0 (fun z => c z.1))
theorem sX_chkRangeE {Q : x_S → x_L → Prop} {QX : x_PE} {lo hi : Int32} {l m : Nat} (hl : l < 1000000000) (hm : m < 1000000000) (e1 : lo = nI l) (e2 : hi = nI m) (h1 : g_rn a l (m + 1) → Q σ τ) (h0 : ¬ g_rn a l (m + 1) → QX eIA σ τ) : wX10_checkRange a lo hi σ τ Q QX := by
  subst e1
  subst e2
  exact sX_chkRange hl hm h1 h0
theorem g_what_0 : g_what N C 0 = g_fuel N C := funext fun _ => rfl
theorem g_what_1 : g_what N C 1 = g_sav N C := funext fun _ => rfl
theorem g_what_2 : g_what N C 2 = fun s => g_one (g_clo N C s) := funext fun _ => rfl
theorem g_what_3 : g_what N C 3 = g_base N C := funext fun _ => rfl
theorem g_what_4 : g_what N C 4 = fun s => N 3 (N 9 s) := funext fun _ => rfl
theorem g_sum_00 (f : Nat → Nat) (n : Nat) : g_sum (fun j => f (0 + j)) (n - 0) = g_sum f n := g_sum_congr (fun i _ => by rw [Nat.zero_add])
theorem sX_savedAll (hX : g_X N C w σ τ) {Q : Int32 → x_S → x_L → Prop} (h : Q (nI (g_all N (g_sav N C))) σ τ) : wX7_allStops σ τ (fun r σ' τ' => wX6_savedOnRows 33 0 r σ' τ' Q) := by
  refine sX_allStops hX.1 hX.2.2.1 hX.2.2.2.1 (sX_savedOnRows hX (lo := 0) (Nat.zero_le _) (Nat.le_refl _) ?_)
  rw [g_sum_00 (fun j => g_sav N C (w j)), ← g_all_row hX.1 hX.2.2.2.2.2.1.2.2.1]
  exact h
theorem sX_closedAll (hX : g_X N C w σ τ) {Q : Int32 → x_S → x_L → Prop} (h : Q (nI (g_all N (fun s => g_one (g_clo N C s)))) σ τ) : wX7_allStops σ τ (fun r σ' τ' => wX6_closedOnRows 33 0 r σ' τ' Q) := by
  refine sX_allStops hX.1 hX.2.2.1 hX.2.2.2.1 (sX_closedOnRows hX (lo := 0) (Nat.zero_le _) (Nat.le_refl _) ?_)
  rw [g_sum_00 (fun j => g_one (g_clo N C (w j))), ← g_all_row hX.1 hX.2.2.2.2.2.1.2.2.1 (fun s => g_one (g_clo N C s))]
  exact h
end BG
theorem z_3 : z_p3 g_R := by
  intro σ τ ρ θ hR
  have f : m_fr ρ (x_up ρ 0 5 0) := m_fr.up0 (Or.inl rfl)
  obtain ⟨N, C, w, hX, hM, hV⟩ := id hR
  obtain ⟨-, -, ⟨n, -, -, -, -, h1, h2⟩, -⟩ := hV
  unfold wX10_errorCode wX11_errorCode
  exact ⟨by rw [h1, x_up_sn (by omega)], hR.fr (x_fq.rf _) rfl f⟩
theorem z_4 : z_p4 g_R := by
  intro σ τ ρ θ hR
  have f : m_fr ρ (x_up ρ 0 5 0) := m_fr.up0 (Or.inl rfl)
  obtain ⟨N, C, w, hX, hM, hV⟩ := id hR
  obtain ⟨-, -, ⟨n, -, -, -, -, h1, h2⟩, -⟩ := hV
  unfold wX10_errorPosition wX11_errorPosition
  exact ⟨by rw [h2, x_up_sn (by omega)], hR.fr (x_fq.rf _) rfl f⟩
theorem z_40 : z_p40 g_R := by
  intro σ τ ρ θ hR a
  have f : m_fr ρ (x_up ρ 0 5 0) := m_fr.up0 (Or.inl rfl)
  have hR' := hR.fr (x_fq.rf _) (rfl : τ 32 = τ 32) f (θ' := θ)
  obtain ⟨N, C, w, hX, hM, hV⟩ := id hR
  obtain ⟨-, -, -, n, hn, h1, h2, h3⟩ := hV
  unfold wX10_outputByte wX10_outputByte_27 wX10_outputByte_28
  rw [h1]
  have em : ((x_up ρ 0 5 0) 0 29 : Int32) = nI n := by rw [x_up_sn (by omega), h2]
  refine i_rg (by omega) (fun c => ?_) (fun c => ?_)
  · obtain ⟨t, ht, rfl⟩ := id c
    refine ⟨i_in (by omega) (by omega), ?_⟩
    unfold wX11_outputByte wX11_outputByte_31
    rw [em]
    refine sM_inr (l := 0) (n := n) (by omega) (by decide) (e_m1L (by omega)) (fun _ => i_one' ⟨i_in (by omega) (by omega), ?_⟩) (fun g => absurd ⟨t, Nat.zero_le _, ht, rfl⟩ g)
    rw [i_cl (by omega), x_up_n (show (20 : Nat) ≠ 0 by omega)]
    exact ⟨h3 t ht, hR'⟩
  · have key : wX11_outputByte a ρ θ (fun r' ρ1 θ1 => -1 = r' ∧ g_R σ τ ρ1 θ1) := by
      unfold wX11_outputByte wX11_outputByte_31
      rw [em]
      exact sM_inr (l := 0) (n := n) (by omega) (by decide) (e_m1L (by omega)) (fun g => absurd (by obtain ⟨t, _, t2, e⟩ := g; exact ⟨t, t2, e⟩) c) (fun _ => i_zer ⟨rfl, hR'⟩)
    exact ⟨key, key⟩
theorem z_32 : z_p32 g_R := by
  intro σ τ ρ θ hR
  obtain ⟨N, C, w, hX, hM, hV⟩ := id hR
  unfold wX10_lateOnes
  refine sX_lateSet hX ?_
  unfold wX11_lateOnes
  refine sM_begin hM (fun ρ' f h5 hM' hL => sM_lateSet hM'.1 hM'.2.1 hM'.2.2.1 hL.1 ⟨rfl, hR.fr (x_fq.rf _) rfl f⟩)

theorem z_5 : z_p5 g_R := by
  intro σ τ ρ θ hR a
  obtain ⟨N, C, w, hX, hM, hV⟩ := id hR
  obtain ⟨hN, hW, hF, hR0, hC, hA, hB⟩ := id hX
  obtain ⟨⟨P, m, l, k, hH⟩, -⟩ := id hV
  have hb := hN.1.1
  have hb2 := hN.1.2
  unfold wX10_count
  refine ⟨fun g => ?_, fun g => ?_, fun g => ?_, fun g => ?_, fun g => ?_, fun g => ?_, fun g => ?_, fun g => ?_, fun g => ?_, fun g => ?_, fun g0 g1 g2 g3 g4 g5 g6 g7 g8 g9 => ?_⟩
  · subst g
    rw [hF.1.1]
    unfold wX11_count
    refine sM_begin hM (fun ρ' f h5 hM' hL => ?_)
    refine ⟨fun _ => ?_, fun g => absurd g (by decide), fun g => absurd g (by decide), fun g => absurd g (by decide), fun g => absurd g (by decide), fun g => absurd g (by decide), fun g => absurd g (by decide), fun g => absurd g (by decide), fun g => absurd g (by decide), fun g => absurd g (by decide), fun x0 x1 x2 x3 x4 x5 x6 x7 x8 x9 => absurd rfl x0⟩
    unfold wX11_count_64
    refine ⟨i_in (n := 0) (by omega) (by omega), ?_⟩
    rw [show (0 : Int32).toNatClampNeg = 0 from rfl, hM'.2.2.1.1.1]
    exact ⟨rfl, hR.fr (x_fq.rf _) rfl f⟩
  · subst g
    rw [hF.1.2]
    unfold wX11_count
    refine sM_begin hM (fun ρ' f h5 hM' hL => ?_)
    refine ⟨fun g => absurd g (by decide), fun _ => ?_, fun g => absurd g (by decide), fun g => absurd g (by decide), fun g => absurd g (by decide), fun g => absurd g (by decide), fun g => absurd g (by decide), fun g => absurd g (by decide), fun g => absurd g (by decide), fun g => absurd g (by decide), fun x0 x1 x2 x3 x4 x5 x6 x7 x8 x9 => absurd rfl x1⟩
    unfold wX11_count_64
    refine ⟨i_in (n := 1) (by omega) (by omega), ?_⟩
    rw [e_c1, hM'.2.2.1.1.2]
    exact ⟨rfl, hR.fr (x_fq.rf _) rfl f⟩
  · subst g
    refine sX_allStops hN hF hR0 ?_
    unfold wX11_count
    refine sM_begin hM (fun ρ' f h5 hM' hL => ?_)
    refine ⟨fun g => absurd g (by decide), fun g => absurd g (by decide), fun _ => ?_, fun g => absurd g (by decide), fun g => absurd g (by decide), fun g => absurd g (by decide), fun g => absurd g (by decide), fun g => absurd g (by decide), fun g => absurd g (by decide), fun g => absurd g (by decide), fun x0 x1 x2 x3 x4 x5 x6 x7 x8 x9 => absurd rfl x2⟩
    exact sM_allPlaces hN hM'.2.2.1 ⟨rfl, hR.fr (x_fq.rf _) rfl f⟩
  · subst g
    refine sX_companies hX ?_
    unfold wX11_count
    refine sM_begin hM (fun ρ' f h5 hM' hL => ?_)
    refine ⟨fun g => absurd g (by decide), fun g => absurd g (by decide), fun g => absurd g (by decide), fun _ => ?_, fun g => absurd g (by decide), fun g => absurd g (by decide), fun g => absurd g (by decide), fun g => absurd g (by decide), fun g => absurd g (by decide), fun g => absurd g (by decide), fun x0 x1 x2 x3 x4 x5 x6 x7 x8 x9 => absurd rfl x3⟩
    exact sM_platoons hN hM'.2.2.1 hL.2.2.1 hL.2.2.2.1 (fun _ => ⟨rfl, hR.fr (x_fq.rf _) rfl f⟩) (fun g => absurd rfl g)
  · subst g
    refine sX_lateSet hX ?_
    rw [j_bc_w, j_bc_e _ (g_lset_lt hN)]
    unfold wX11_count
    refine sM_begin hM (fun ρ' f h5 hM' hL => ?_)
    refine ⟨fun g => absurd g (by decide), fun g => absurd g (by decide), fun g => absurd g (by decide), fun g => absurd g (by decide), fun _ => ?_, fun g => absurd g (by decide), fun g => absurd g (by decide), fun g => absurd g (by decide), fun g => absurd g (by decide), fun g => absurd g (by decide), fun x0 x1 x2 x3 x4 x5 x6 x7 x8 x9 => absurd rfl x4⟩
    exact sM_lateSet hN hW hM'.2.2.1 hL.1 (sM_bits (g_lset_lt hN) ⟨rfl, hR.fr (x_fq.rf _) rfl f⟩)
  · subst g
    rw [show σ 33 14 = _ from hA.2.2.2.2.2]
    unfold wX11_count
    refine sM_begin hM (fun ρ' f h5 hM' hL => ?_)
    refine ⟨fun g => absurd g (by decide), fun g => absurd g (by decide), fun g => absurd g (by decide), fun g => absurd g (by decide), fun g => absurd g (by decide), fun _ => ?_, fun g => absurd g (by decide), fun g => absurd g (by decide), fun g => absurd g (by decide), fun g => absurd g (by decide), fun x0 x1 x2 x3 x4 x5 x6 x7 x8 x9 => absurd rfl x5⟩
    exact sM_sumAll hN hW hM'.2.2.1 hM'.2.2.2 (fun s hs => hL.2.2.2.2 s hs) (k := 0) (by omega) ⟨by rw [g_what_0], hR.fr (x_fq.rf _) rfl f⟩
  · subst g
    refine sX_savedAll hX ?_
    unfold wX11_count
    refine sM_begin hM (fun ρ' f h5 hM' hL => ?_)
    refine ⟨fun g => absurd g (by decide), fun g => absurd g (by decide), fun g => absurd g (by decide), fun g => absurd g (by decide), fun g => absurd g (by decide), fun g => absurd g (by decide), fun _ => ?_, fun g => absurd g (by decide), fun g => absurd g (by decide), fun g => absurd g (by decide), fun x0 x1 x2 x3 x4 x5 x6 x7 x8 x9 => absurd rfl x6⟩
    exact sM_sumAll hN hW hM'.2.2.1 hM'.2.2.2 (fun s hs => hL.2.2.2.2 s hs) (k := 1) (by omega) ⟨by rw [g_what_1], hR.fr (x_fq.rf _) rfl f⟩
  · subst g
    refine sX_closedAll hX ?_
    unfold wX11_count
    refine sM_begin hM (fun ρ' f h5 hM' hL => ?_)
    refine ⟨fun g => absurd g (by decide), fun g => absurd g (by decide), fun g => absurd g (by decide), fun g => absurd g (by decide), fun g => absurd g (by decide), fun g => absurd g (by decide), fun g => absurd g (by decide), fun _ => ?_, fun g => absurd g (by decide), fun g => absurd g (by decide), fun x0 x1 x2 x3 x4 x5 x6 x7 x8 x9 => absurd rfl x7⟩
    exact sM_sumAll hN hW hM'.2.2.1 hM'.2.2.2 (fun s hs => hL.2.2.2.2 s hs) (k := 2) (by omega) ⟨by rw [g_what_2]; exact Int32.mul_comm _ _, hR.fr (x_fq.rf _) rfl f⟩
  · subst g
    rw [hH.2.1.2.1]
    unfold wX11_count
    refine sM_begin hM (fun ρ' f h5 hM' hL => ?_)
    refine ⟨fun g => absurd g (by decide), fun g => absurd g (by decide), fun g => absurd g (by decide), fun g => absurd g (by decide), fun g => absurd g (by decide), fun g => absurd g (by decide), fun g => absurd g (by decide), fun g => absurd g (by decide), fun _ => ?_, fun g => absurd g (by decide), fun x0 x1 x2 x3 x4 x5 x6 x7 x8 x9 => absurd rfl x8⟩
    exact ⟨by rw [f.2 3 (by omega), hH.2.1.2.2.2], hR.fr (x_fq.rf _) rfl f⟩
  · subst g
    refine sX_greatest hX ?_
    unfold wX11_count
    refine sM_begin hM (fun ρ' f h5 hM' hL => ?_)
    refine ⟨fun g => absurd g (by decide), fun g => absurd g (by decide), fun g => absurd g (by decide), fun g => absurd g (by decide), fun g => absurd g (by decide), fun g => absurd g (by decide), fun g => absurd g (by decide), fun g => absurd g (by decide), fun g => absurd g (by decide), fun _ => ?_, fun x0 x1 x2 x3 x4 x5 x6 x7 x8 x9 => absurd rfl x9⟩
    exact sM_platoons hN hM'.2.2.1 hL.2.2.1 hL.2.2.2.1 (fun g => absurd g (by decide)) (fun _ => ⟨rfl, hR.fr (x_fq.rf _) rfl f⟩)
  · unfold wX11_count
    refine sM_begin hM (fun ρ' f h5 hM' hL => ?_)
    exact ⟨fun g => absurd g g0, fun g => absurd g g1, fun g => absurd g g2, fun g => absurd g g3, fun g => absurd g g4, fun g => absurd g g5, fun g => absurd g g6, fun g => absurd g g7, fun g => absurd g g8, fun g => absurd g g9, fun _ _ _ _ _ _ _ _ _ _ => ⟨rfl, hR.fr (x_fq.rf _) rfl f⟩⟩
theorem z_6 : z_p6 g_R := by
  intro σ τ ρ θ hR a b
  obtain ⟨N, C, w, hX, hM, hV⟩ := id hR
  obtain ⟨hN, hW, hF, hR0, hC, hA, hB⟩ := id hX
  have hb := hN.1.1
  have hM0 := hM.fr (m_fr.up0 (v := 0) (Or.inl rfl))
  unfold wL_road wX10_road
  refine sX_chkRoad hN hF (fun c => ?_) (fun c => ⟨rfl, ?_⟩)
  · obtain ⟨r, hr, rfl⟩ := id c
    have fN := (hF.2.1 r hr)
    refine ⟨fun g => ?_, fun g => ?_, fun g => ?_, fun g => ?_, fun g => ?_, fun g => ?_, fun g0 g1 g2 g3 g4 g5 => ?_⟩
    · subst g
      refine ⟨i_in (by omega) (by omega), ?_⟩
      rw [i_cl (by omega), fN.1]
      unfold wX11_road wX11_road_19
      refine sM_isRoad hN hM0.2.2.1 (fun _ => i_one (sM_thr0 (i_zer ?_))) (fun g => absurd c g)
      refine sM_begin hM (fun ρ' f h5 hM' hL => ?_)
      refine ⟨fun _ => ?_, fun g => absurd g (by decide), fun g => absurd g (by decide), fun g => absurd g (by decide), fun g => absurd g (by decide), fun g => absurd g (by decide), fun x0 x1 x2 x3 x4 x5 => absurd rfl x0⟩
      unfold wX11_road_72
      refine sM_ofRoad (k := 0) (by omega) (by omega) ?_
      rw [show ρ' 3 (2 + 4 * r + 0) = _ from (hM'.2.2.1.2.1 r hr).1]
      exact q_ok (hR.fr (x_fq.rf _) rfl f) h5
    · subst g
      refine ⟨i_in (by omega) (by omega), ?_⟩
      rw [i_cl (by omega), fN.2.1]
      unfold wX11_road wX11_road_19
      refine sM_isRoad hN hM0.2.2.1 (fun _ => i_one (sM_thr0 (i_zer ?_))) (fun g => absurd c g)
      refine sM_begin hM (fun ρ' f h5 hM' hL => ?_)
      refine ⟨fun g => absurd g (by decide), fun _ => ?_, fun g => absurd g (by decide), fun g => absurd g (by decide), fun g => absurd g (by decide), fun g => absurd g (by decide), fun x0 x1 x2 x3 x4 x5 => absurd rfl x1⟩
      unfold wX11_road_72
      refine sM_ofRoad (k := 1) (by omega) (by omega) ?_
      rw [show ρ' 3 (2 + 4 * r + 1) = _ from (hM'.2.2.1.2.1 r hr).2.1]
      exact q_ok (hR.fr (x_fq.rf _) rfl f) h5
    · subst g
      refine ⟨i_in (by omega) (by omega), ?_⟩
      rw [i_cl (by omega), fN.2.2.1]
      unfold wX11_road wX11_road_19
      refine sM_isRoad hN hM0.2.2.1 (fun _ => i_one (sM_thr0 (i_zer ?_))) (fun g => absurd c g)
      refine sM_begin hM (fun ρ' f h5 hM' hL => ?_)
      refine ⟨fun g => absurd g (by decide), fun g => absurd g (by decide), fun _ => ?_, fun g => absurd g (by decide), fun g => absurd g (by decide), fun g => absurd g (by decide), fun x0 x1 x2 x3 x4 x5 => absurd rfl x2⟩
      unfold wX11_road_72
      refine sM_ofRoad (k := 2) (by omega) (by omega) ?_
      rw [show ρ' 3 (2 + 4 * r + 2) = _ from (hM'.2.2.1.2.1 r hr).2.2.1]
      exact q_ok (hR.fr (x_fq.rf _) rfl f) h5
    · subst g
      refine ⟨i_in (by omega) (by omega), ?_⟩
      rw [i_cl (by omega), fN.2.2.2]
      unfold wX11_road wX11_road_19
      refine sM_isRoad hN hM0.2.2.1 (fun _ => i_one (sM_thr0 (i_zer ?_))) (fun g => absurd c g)
      refine sM_begin hM (fun ρ' f h5 hM' hL => ?_)
      refine ⟨fun g => absurd g (by decide), fun g => absurd g (by decide), fun g => absurd g (by decide), fun _ => ?_, fun g => absurd g (by decide), fun g => absurd g (by decide), fun x0 x1 x2 x3 x4 x5 => absurd rfl x3⟩
      unfold wX11_road_72
      refine sM_ofRoad (k := 3) (by omega) (by omega) ?_
      rw [show ρ' 3 (2 + 4 * r + 3) = _ from (hM'.2.2.1.2.1 r hr).2.2.2]
      exact q_ok (hR.fr (x_fq.rf _) rfl f) h5
    · subst g
      refine sX_platoonsOn hX hr ?_
      unfold wX11_road wX11_road_19
      refine sM_isRoad hN hM0.2.2.1 (fun _ => i_one (sM_thr0 (i_zer ?_))) (fun g => absurd c g)
      refine sM_begin hM (fun ρ' f h5 hM' hL => ?_)
      exact ⟨fun g => absurd g (by decide), fun g => absurd g (by decide), fun g => absurd g (by decide), fun g => absurd g (by decide), fun _ => sM_platoonsOn hN hM'.2.2.1 hL.2.2.2.1 hr (q_ok (hR.fr (x_fq.rf _) rfl f) h5), fun g => absurd g (by decide), fun x0 x1 x2 x3 x4 x5 => absurd rfl x4⟩
    · subst g
      refine sX_trucksOn hX hr ?_
      rw [j_bc_w, j_bc_e _ (g_onS_lt hN r), show g_pc (g_onS N r) = _ from g_pc_set hN.1.2]
      unfold wX11_road wX11_road_19
      refine sM_isRoad hN hM0.2.2.1 (fun _ => i_one (sM_thr0 (i_zer ?_))) (fun g => absurd c g)
      refine sM_begin hM (fun ρ' f h5 hM' hL => ?_)
      exact ⟨fun g => absurd g (by decide), fun g => absurd g (by decide), fun g => absurd g (by decide), fun g => absurd g (by decide), fun g => absurd g (by decide), fun _ => sM_trucksOn hN hM'.2.2.1 hr (q_ok (hR.fr (x_fq.rf _) rfl f) h5), fun x0 x1 x2 x3 x4 x5 => absurd rfl x5⟩
    · unfold wX11_road wX11_road_19
      refine sM_isRoad hN hM0.2.2.1 (fun _ => i_one (sM_thr0 (i_zer ?_))) (fun g => absurd c g)
      refine sM_begin hM (fun ρ' f h5 hM' hL => ?_)
      exact ⟨fun g => absurd g g0, fun g => absurd g g1, fun g => absurd g g2, fun g => absurd g g3, fun g => absurd g g4, fun g => absurd g g5, fun _ _ _ _ _ _ => q_ok (hR.fr (x_fq.rf _) rfl f) h5⟩
  · unfold wX11_road wX11_road_19
    refine sM_isRoad hN hM0.2.2.1 (fun g => absurd g c) (fun _ => i_zer' (sM_thr1 (i_one' ?_)))
    exact q_no (hR.fr (x_fq.rf _) rfl ((m_fr.up0 (Or.inl rfl)).up5 1)) (x_up_ss _ _ _ _) (by decide)
theorem z_7 : z_p7 g_R := by
  intro σ τ ρ θ hR a b
  obtain ⟨N, C, w, hX, hM, hV⟩ := id hR
  obtain ⟨hN, hW, hF, hR0, hC, hA, hB⟩ := id hX
  have hb := hN.1.2
  have hM0 := hM.fr (m_fr.up0 (v := 0) (Or.inl rfl))
  unfold wL_truck wX10_truck
  refine sX_chkTruck hN hF (fun c => ?_) (fun c => ⟨rfl, ?_⟩)
  · obtain ⟨t, ht, rfl⟩ := id c
    have fN := (hF.2.2.1 t ht)
    refine ⟨fun g => ?_, fun g => ?_, fun g => ?_, fun g => ?_, fun g => ?_, fun g => ?_, fun g => ?_, fun g => ?_, fun g => ?_, fun g0 g1 g2 g3 g4 g5 g6 g7 g8 => ?_⟩
    · subst g
      refine ⟨i_in (by omega) (by omega), ?_⟩
      rw [i_cl (by omega), show σ 34 t = _ from hC.1 t ht]
      unfold wX11_truck wX11_truck_19
      refine sM_isTruck hN hM0.2.2.1 (fun _ => i_one (sM_thr0 (i_zer ?_))) (fun g => absurd c g)
      refine sM_begin hM (fun ρ' f h5 hM' hL => ?_)
      refine ⟨fun _ => ⟨i_in (by omega) (by omega), ?_⟩, fun g => absurd g (by decide), fun g => absurd g (by decide), fun g => absurd g (by decide), fun g => absurd g (by decide), fun g => absurd g (by decide), fun g => absurd g (by decide), fun g => absurd g (by decide), fun g => absurd g (by decide), fun x0 x1 x2 x3 x4 x5 x6 x7 x8 => absurd rfl x0⟩
      rw [i_cl (by omega), m_st hM'.2.2.2 ht]
      exact q_ok (hR.fr (x_fq.rf _) rfl f) h5
    · subst g
      refine ⟨i_in (by omega) (by omega), ?_⟩
      rw [i_cl (by omega), fN.2.1]
      unfold wX11_truck wX11_truck_19
      refine sM_isTruck hN hM0.2.2.1 (fun _ => i_one (sM_thr0 (i_zer ?_))) (fun g => absurd c g)
      refine sM_begin hM (fun ρ' f h5 hM' hL => ?_)
      refine ⟨fun g => absurd g (by decide), fun _ => ?_, fun g => absurd g (by decide), fun g => absurd g (by decide), fun g => absurd g (by decide), fun g => absurd g (by decide), fun g => absurd g (by decide), fun g => absurd g (by decide), fun g => absurd g (by decide), fun x0 x1 x2 x3 x4 x5 x6 x7 x8 => absurd rfl x1⟩
      unfold wX11_truck_91
      refine sM_ofTruck (k := 1) (by omega) (by omega) ?_
      rw [show ρ' 3 (122 + 14 * t + 1) = _ from (hM'.2.2.1.2.2.1 t ht).2.1]
      exact q_ok (hR.fr (x_fq.rf _) rfl f) h5
    · subst g
      refine ⟨i_in (by omega) (by omega), ?_⟩
      rw [i_cl (by omega), fN.2.2.1]
      unfold wX11_truck wX11_truck_19
      refine sM_isTruck hN hM0.2.2.1 (fun _ => i_one (sM_thr0 (i_zer ?_))) (fun g => absurd c g)
      refine sM_begin hM (fun ρ' f h5 hM' hL => ?_)
      refine ⟨fun g => absurd g (by decide), fun g => absurd g (by decide), fun _ => ?_, fun g => absurd g (by decide), fun g => absurd g (by decide), fun g => absurd g (by decide), fun g => absurd g (by decide), fun g => absurd g (by decide), fun g => absurd g (by decide), fun x0 x1 x2 x3 x4 x5 x6 x7 x8 => absurd rfl x2⟩
      unfold wX11_truck_91
      refine sM_ofTruck (k := 2) (by omega) (by omega) ?_
      rw [show ρ' 3 (122 + 14 * t + 2) = _ from (hM'.2.2.1.2.2.1 t ht).2.2.1]
      exact q_ok (hR.fr (x_fq.rf _) rfl f) h5
    · subst g
      refine ⟨i_in (by omega) (by omega), ?_⟩
      rw [i_cl (by omega), fN.2.2.2]
      unfold wX11_truck wX11_truck_19
      refine sM_isTruck hN hM0.2.2.1 (fun _ => i_one (sM_thr0 (i_zer ?_))) (fun g => absurd c g)
      refine sM_begin hM (fun ρ' f h5 hM' hL => ?_)
      refine ⟨fun g => absurd g (by decide), fun g => absurd g (by decide), fun g => absurd g (by decide), fun _ => ?_, fun g => absurd g (by decide), fun g => absurd g (by decide), fun g => absurd g (by decide), fun g => absurd g (by decide), fun g => absurd g (by decide), fun x0 x1 x2 x3 x4 x5 x6 x7 x8 => absurd rfl x3⟩
      unfold wX11_truck_91
      refine sM_ofTruck (k := 3) (by omega) (by omega) ?_
      rw [show ρ' 3 (122 + 14 * t + 3) = _ from (hM'.2.2.1.2.2.1 t ht).2.2.2]
      exact q_ok (hR.fr (x_fq.rf _) rfl f) h5
    · subst g
      refine sX_arrival hN hR0 ht (g_arr_at hX ht) ?_
      unfold wX11_truck wX11_truck_19
      refine sM_isTruck hN hM0.2.2.1 (fun _ => i_one (sM_thr0 (i_zer ?_))) (fun g => absurd c g)
      refine sM_begin hM (fun ρ' f h5 hM' hL => ?_)
      exact ⟨fun g => absurd g (by decide), fun g => absurd g (by decide), fun g => absurd g (by decide), fun g => absurd g (by decide), fun _ => sM_arrival hN hM'.2.2.1 ht (m_arr_at hN hL.1 ht) (q_ok (hR.fr (x_fq.rf _) rfl f) h5), fun g => absurd g (by decide), fun g => absurd g (by decide), fun g => absurd g (by decide), fun g => absurd g (by decide), fun x0 x1 x2 x3 x4 x5 x6 x7 x8 => absurd rfl x4⟩
    · subst g
      refine sX_km hN hF ht ?_
      unfold wX11_truck wX11_truck_19
      refine sM_isTruck hN hM0.2.2.1 (fun _ => i_one (sM_thr0 (i_zer ?_))) (fun g => absurd c g)
      refine sM_begin hM (fun ρ' f h5 hM' hL => ?_)
      refine ⟨fun g => absurd g (by decide), fun g => absurd g (by decide), fun g => absurd g (by decide), fun g => absurd g (by decide), fun g => absurd g (by decide), fun _ => ?_, fun g => absurd g (by decide), fun g => absurd g (by decide), fun g => absurd g (by decide), fun x0 x1 x2 x3 x4 x5 x6 x7 x8 => absurd rfl x5⟩
      refine sM_sumOf hN hW hM'.2.2.1 hM'.2.2.2 (fun s hs => hL.2.2.2.2 s hs) (k := 4) ht (by omega) ?_
      rw [g_what_4]
      exact q_ok (hR.fr (x_fq.rf _) rfl f) h5
    · subst g
      refine sX_fuelOf hX ht ?_
      unfold wX11_truck wX11_truck_19
      refine sM_isTruck hN hM0.2.2.1 (fun _ => i_one (sM_thr0 (i_zer ?_))) (fun g => absurd c g)
      refine sM_begin hM (fun ρ' f h5 hM' hL => ?_)
      refine ⟨fun g => absurd g (by decide), fun g => absurd g (by decide), fun g => absurd g (by decide), fun g => absurd g (by decide), fun g => absurd g (by decide), fun g => absurd g (by decide), fun _ => ?_, fun g => absurd g (by decide), fun g => absurd g (by decide), fun x0 x1 x2 x3 x4 x5 x6 x7 x8 => absurd rfl x6⟩
      unfold wX11_truck_111
      refine sM_sumOf hN hW hM'.2.2.1 hM'.2.2.2 (fun s hs => hL.2.2.2.2 s hs) (k := 0) ht (by omega) ?_
      rw [g_what_0]
      exact q_ok (hR.fr (x_fq.rf _) rfl f) h5
    · subst g
      refine sX_savedBy hX ht ?_
      unfold wX11_truck wX11_truck_19
      refine sM_isTruck hN hM0.2.2.1 (fun _ => i_one (sM_thr0 (i_zer ?_))) (fun g => absurd c g)
      refine sM_begin hM (fun ρ' f h5 hM' hL => ?_)
      refine ⟨fun g => absurd g (by decide), fun g => absurd g (by decide), fun g => absurd g (by decide), fun g => absurd g (by decide), fun g => absurd g (by decide), fun g => absurd g (by decide), fun g => absurd g (by decide), fun _ => ?_, fun g => absurd g (by decide), fun x0 x1 x2 x3 x4 x5 x6 x7 x8 => absurd rfl x7⟩
      unfold wX11_truck_111
      refine sM_sumOf hN hW hM'.2.2.1 hM'.2.2.2 (fun s hs => hL.2.2.2.2 s hs) (k := 1) ht (by omega) ?_
      rw [g_what_1]
      exact q_ok (hR.fr (x_fq.rf _) rfl f) h5
    · subst g
      refine sX_closedBy hX ht ?_
      unfold wX11_truck wX11_truck_19
      refine sM_isTruck hN hM0.2.2.1 (fun _ => i_one (sM_thr0 (i_zer ?_))) (fun g => absurd c g)
      refine sM_begin hM (fun ρ' f h5 hM' hL => ?_)
      refine ⟨fun g => absurd g (by decide), fun g => absurd g (by decide), fun g => absurd g (by decide), fun g => absurd g (by decide), fun g => absurd g (by decide), fun g => absurd g (by decide), fun g => absurd g (by decide), fun g => absurd g (by decide), fun _ => ?_, fun x0 x1 x2 x3 x4 x5 x6 x7 x8 => absurd rfl x8⟩
      unfold wX11_truck_111
      refine sM_sumOf hN hW hM'.2.2.1 hM'.2.2.2 (fun s hs => hL.2.2.2.2 s hs) (k := 2) ht (by omega) ?_
      rw [g_what_2]
      exact q_ok (hR.fr (x_fq.rf _) rfl f) h5
    · unfold wX11_truck wX11_truck_19
      refine sM_isTruck hN hM0.2.2.1 (fun _ => i_one (sM_thr0 (i_zer ?_))) (fun g => absurd c g)
      refine sM_begin hM (fun ρ' f h5 hM' hL => ?_)
      exact ⟨fun g => absurd g g0, fun g => absurd g g1, fun g => absurd g g2, fun g => absurd g g3, fun g => absurd g g4, fun g => absurd g g5, fun g => absurd g g6, fun g => absurd g g7, fun g => absurd g g8, fun _ _ _ _ _ _ _ _ _ => q_ok (hR.fr (x_fq.rf _) rfl f) h5⟩
  · unfold wX11_truck wX11_truck_19
    refine sM_isTruck hN hM0.2.2.1 (fun g => absurd g c) (fun _ => i_zer' (sM_thr1 (i_one' ?_)))
    exact q_no (hR.fr (x_fq.rf _) rfl ((m_fr.up0 (Or.inl rfl)).up5 1)) (x_up_ss _ _ _ _) (by decide)
theorem z_8 : z_p8 g_R := by
  intro σ τ ρ θ hR a b c3
  obtain ⟨N, C, w, hX, hM, hV⟩ := id hR
  obtain ⟨hN, hW, hF, hR0, hC, hA, hB⟩ := id hX
  unfold wL_place wX10_place wX10_place_186
  refine sX_chkPlace hN hF (fun c => ?_) (fun c => ⟨rfl, ?_⟩)
  · obtain ⟨t, q, ht, hq, rfl, rfl⟩ := id c
    obtain ⟨hs, e1, e2, b1, b2, b3⟩ := g_is_of hN ht hq
    have hk := hA.2.2.2.2.1 _ hs
    refine sX_stopAt ?_
    refine ⟨fun g => ?_, fun g => ?_, fun g => ?_, fun g => ?_, fun g => ?_, fun g => ?_, fun g => ?_, fun g => ?_, fun g => ?_, fun g => ?_, fun g => ?_, fun g0 g1 g2 g3 g4 g5 g6 g7 g8 g9 g10 => ?_⟩
    · subst g
      refine ⟨i_in b1 (by omega), ?_⟩
      rw [i_cl (by omega), show σ 12 (10 * t + q) = _ from hF.2.2.2 _ hs]
      unfold wX11_place wX11_place_165
      refine sM_noPlace hM (fun _ ρ' f h5 hM' hL => i_zer (sM_spot ?_)) (fun g => absurd c g)
      exact ⟨fun _ => sM_road hN hM'.2.2.1 ht hq (q_ok (hR.fr (x_fq.rf _) rfl f) h5), fun g => absurd g (by decide), fun g => absurd g (by decide), fun g => absurd g (by decide), fun g => absurd g (by decide), fun g => absurd g (by decide), fun g => absurd g (by decide), fun g => absurd g (by decide), fun g => absurd g (by decide), fun g => absurd g (by decide), fun g => absurd g (by decide), fun x0 x1 x2 x3 x4 x5 x6 x7 x8 x9 x10 => absurd rfl x0⟩
    · subst g
      refine ⟨i_in b1 (by omega), ?_⟩
      rw [i_cl (by omega), show σ 35 (10 * t + q) = _ from (hC.2 _ hs).1]
      unfold wX11_place wX11_place_165
      refine sM_noPlace hM (fun _ ρ' f h5 hM' hL => i_zer (sM_spot ?_)) (fun g => absurd c g)
      exact ⟨fun g => absurd g (by decide), fun _ => sM_wait hN hM'.2.2.2 ht hq (q_ok (hR.fr (x_fq.rf _) rfl f) h5), fun g => absurd g (by decide), fun g => absurd g (by decide), fun g => absurd g (by decide), fun g => absurd g (by decide), fun g => absurd g (by decide), fun g => absurd g (by decide), fun g => absurd g (by decide), fun g => absurd g (by decide), fun g => absurd g (by decide), fun x0 x1 x2 x3 x4 x5 x6 x7 x8 x9 x10 => absurd rfl x1⟩
    · subst g
      refine ⟨i_in b1 (by omega), ?_⟩
      rw [i_cl (by omega), show σ 36 (10 * t + q) = _ from (hC.2 _ hs).2]
      unfold wX11_place wX11_place_165
      refine sM_noPlace hM (fun _ ρ' f h5 hM' hL => i_zer (sM_spot ?_)) (fun g => absurd c g)
      exact ⟨fun g => absurd g (by decide), fun g => absurd g (by decide), fun _ => sM_speed hN hM'.2.2.2 ht hq (q_ok (hR.fr (x_fq.rf _) rfl f) h5), fun g => absurd g (by decide), fun g => absurd g (by decide), fun g => absurd g (by decide), fun g => absurd g (by decide), fun g => absurd g (by decide), fun g => absurd g (by decide), fun g => absurd g (by decide), fun g => absurd g (by decide), fun x0 x1 x2 x3 x4 x5 x6 x7 x8 x9 x10 => absurd rfl x2⟩
    · subst g
      refine sX_ready hN hC hA.1 ht hq ?_
      unfold wX11_place wX11_place_165
      refine sM_noPlace hM (fun _ ρ' f h5 hM' hL => i_zer (sM_spot ?_)) (fun g => absurd c g)
      exact ⟨fun g => absurd g (by decide), fun g => absurd g (by decide), fun g => absurd g (by decide), fun _ => sM_ready hN hM'.2.2.2 ht hq (fun p hp => (hL.1 _ (g_is_of hN ht hp).1).2) (q_ok (hR.fr (x_fq.rf _) rfl f) h5), fun g => absurd g (by decide), fun g => absurd g (by decide), fun g => absurd g (by decide), fun g => absurd g (by decide), fun g => absurd g (by decide), fun g => absurd g (by decide), fun g => absurd g (by decide), fun x0 x1 x2 x3 x4 x5 x6 x7 x8 x9 x10 => absurd rfl x3⟩
    · subst g
      refine ⟨i_in b1 (by omega), ?_⟩
      rw [i_cl (by omega), show σ 37 (10 * t + q) = _ from (hA.1 _ hs).1]
      unfold wX11_place wX11_place_165
      refine sM_noPlace hM (fun _ ρ' f h5 hM' hL => i_zer (sM_spot ?_)) (fun g => absurd c g)
      refine ⟨fun g => absurd g (by decide), fun g => absurd g (by decide), fun g => absurd g (by decide), fun g => absurd g (by decide), fun _ => ⟨i_in b1 (by omega), ?_⟩, fun g => absurd g (by decide), fun g => absurd g (by decide), fun g => absurd g (by decide), fun g => absurd g (by decide), fun g => absurd g (by decide), fun g => absurd g (by decide), fun x0 x1 x2 x3 x4 x5 x6 x7 x8 x9 x10 => absurd rfl x4⟩
      rw [i_cl (by omega), (hL.1 _ hs).1]
      exact q_ok (hR.fr (x_fq.rf _) rfl f) h5
    · subst g
      refine ⟨i_in b1 (by omega), ?_⟩
      rw [i_cl (by omega), show σ 38 (10 * t + q) = _ from (hA.1 _ hs).2]
      unfold wX11_place wX11_place_165
      refine sM_noPlace hM (fun _ ρ' f h5 hM' hL => i_zer (sM_spot ?_)) (fun g => absurd c g)
      refine ⟨fun g => absurd g (by decide), fun g => absurd g (by decide), fun g => absurd g (by decide), fun g => absurd g (by decide), fun g => absurd g (by decide), fun _ => ⟨i_in b1 (by omega), ?_⟩, fun g => absurd g (by decide), fun g => absurd g (by decide), fun g => absurd g (by decide), fun g => absurd g (by decide), fun g => absurd g (by decide), fun x0 x1 x2 x3 x4 x5 x6 x7 x8 x9 x10 => absurd rfl x5⟩
      rw [i_cl (by omega), (hL.1 _ hs).2]
      exact q_ok (hR.fr (x_fq.rf _) rfl f) h5
    · subst g
      refine sX_base (by omega) hN hW hF hC hs ?_
      unfold wX11_place wX11_place_165
      refine sM_noPlace hM (fun _ ρ' f h5 hM' hL => i_zer (sM_spot ?_)) (fun g => absurd c g)
      exact ⟨fun g => absurd g (by decide), fun g => absurd g (by decide), fun g => absurd g (by decide), fun g => absurd g (by decide), fun g => absurd g (by decide), fun g => absurd g (by decide), fun _ => sM_base hN hW hM'.2.2.1 hM'.2.2.2 ht hq (q_ok (hR.fr (x_fq.rf _) rfl f) h5), fun g => absurd g (by decide), fun g => absurd g (by decide), fun g => absurd g (by decide), fun g => absurd g (by decide), fun x0 x1 x2 x3 x4 x5 x6 x7 x8 x9 x10 => absurd rfl x6⟩
    · subst g
      refine ⟨i_in b1 (by omega), ?_⟩
      rw [i_cl (by omega), show σ 44 (10 * t + q) = _ from hk.2.2.2.2.1]
      unfold wX11_place wX11_place_165
      refine sM_noPlace hM (fun _ ρ' f h5 hM' hL => i_zer (sM_spot ?_)) (fun g => absurd c g)
      refine ⟨fun g => absurd g (by decide), fun g => absurd g (by decide), fun g => absurd g (by decide), fun g => absurd g (by decide), fun g => absurd g (by decide), fun g => absurd g (by decide), fun g => absurd g (by decide), fun _ => ⟨i_in b1 (by omega), ?_⟩, fun g => absurd g (by decide), fun g => absurd g (by decide), fun g => absurd g (by decide), fun x0 x1 x2 x3 x4 x5 x6 x7 x8 x9 x10 => absurd rfl x7⟩
      rw [i_cl (by omega), (hL.2.2.2.2 _ hs).2.1]
      exact q_ok (hR.fr (x_fq.rf _) rfl f) h5
    · subst g
      refine sX_fuel hN hW hF hC hs hk.2 ?_
      unfold wX11_place wX11_place_165
      refine sM_noPlace hM (fun _ ρ' f h5 hM' hL => i_zer (sM_spot ?_)) (fun g => absurd c g)
      exact ⟨fun g => absurd g (by decide), fun g => absurd g (by decide), fun g => absurd g (by decide), fun g => absurd g (by decide), fun g => absurd g (by decide), fun g => absurd g (by decide), fun g => absurd g (by decide), fun g => absurd g (by decide), fun _ => sM_fuelAt hN hW hM'.2.2.1 hM'.2.2.2 ht hq (hL.2.2.2.2 _ hs) (q_ok (hR.fr (x_fq.rf _) rfl f) h5), fun g => absurd g (by decide), fun g => absurd g (by decide), fun x0 x1 x2 x3 x4 x5 x6 x7 x8 x9 x10 => absurd rfl x8⟩
    · subst g
      refine ⟨i_in b1 (by omega), ?_⟩
      rw [i_cl (by omega), show σ 45 (10 * t + q) = _ from hk.2.2.2.2.2]
      by_cases z : g_clo N C (10 * t + q) = true
      · rw [if_pos z]
        refine i_one' ?_
        unfold wX11_place wX11_place_165
        refine sM_noPlace hM (fun _ ρ' f h5 hM' hL => i_zer (sM_spot ?_)) (fun g => absurd c g)
        refine ⟨fun g => absurd g (by decide), fun g => absurd g (by decide), fun g => absurd g (by decide), fun g => absurd g (by decide), fun g => absurd g (by decide), fun g => absurd g (by decide), fun g => absurd g (by decide), fun g => absurd g (by decide), fun g => absurd g (by decide), fun _ => ⟨i_in b1 (by omega), ?_⟩, fun g => absurd g (by decide), fun x0 x1 x2 x3 x4 x5 x6 x7 x8 x9 x10 => absurd rfl x9⟩
        rw [i_cl (by omega), (hL.2.2.2.2 _ hs).2.2, if_pos z]
        exact i_one' (q_ok (hR.fr (x_fq.rf _) rfl f) h5)
      · rw [if_neg z]
        refine i_zer ?_
        unfold wX11_place wX11_place_165
        refine sM_noPlace hM (fun _ ρ' f h5 hM' hL => i_zer (sM_spot ?_)) (fun g => absurd c g)
        refine ⟨fun g => absurd g (by decide), fun g => absurd g (by decide), fun g => absurd g (by decide), fun g => absurd g (by decide), fun g => absurd g (by decide), fun g => absurd g (by decide), fun g => absurd g (by decide), fun g => absurd g (by decide), fun g => absurd g (by decide), fun _ => ⟨i_in b1 (by omega), ?_⟩, fun g => absurd g (by decide), fun x0 x1 x2 x3 x4 x5 x6 x7 x8 x9 x10 => absurd rfl x9⟩
        rw [i_cl (by omega), (hL.2.2.2.2 _ hs).2.2, if_neg z]
        exact i_zer (q_ok (hR.fr (x_fq.rf _) rfl f) h5)
    · subst g
      refine ⟨i_in b1 (by omega), ?_⟩
      rw [i_cl (by omega), show σ 43 (10 * t + q) = _ from hk.2.2.2.1]
      unfold wX11_place wX11_place_165
      refine sM_noPlace hM (fun _ ρ' f h5 hM' hL => i_zer (sM_spot ?_)) (fun g => absurd c g)
      refine ⟨fun g => absurd g (by decide), fun g => absurd g (by decide), fun g => absurd g (by decide), fun g => absurd g (by decide), fun g => absurd g (by decide), fun g => absurd g (by decide), fun g => absurd g (by decide), fun g => absurd g (by decide), fun g => absurd g (by decide), fun g => absurd g (by decide), fun _ => ⟨i_in b1 (by omega), ?_⟩, fun x0 x1 x2 x3 x4 x5 x6 x7 x8 x9 x10 => absurd rfl x10⟩
      rw [i_cl (by omega), (hL.2.2.2.2 _ hs).1]
      exact q_ok (hR.fr (x_fq.rf _) rfl f) h5
    · unfold wX11_place wX11_place_165
      refine sM_noPlace hM (fun _ ρ' f h5 hM' hL => i_zer (sM_spot ?_)) (fun g => absurd c g)
      exact ⟨fun g => absurd g g0, fun g => absurd g g1, fun g => absurd g g2, fun g => absurd g g3, fun g => absurd g g4, fun g => absurd g g5, fun g => absurd g g6, fun g => absurd g g7, fun g => absurd g g8, fun g => absurd g g9, fun g => absurd g g10, fun _ _ _ _ _ _ _ _ _ _ _ => q_ok (hR.fr (x_fq.rf _) rfl f) h5⟩
  · unfold wX11_place
    refine sM_noPlace hM (fun g => absurd g c) (fun _ ρ' f h5 => i_one' ?_)
    exact q_no (hR.fr (x_fq.rf _) rfl f) h5 (by decide)
theorem z_9 : z_p9 g_R := by
  intro σ τ ρ θ hR a b
  obtain ⟨N, C, w, hX, hM, hV⟩ := id hR
  obtain ⟨hN, hW, hF, hR0, hC, hA, hB⟩ := id hX
  unfold wL_platoonOf wX10_platoonOf
  refine sX_chkPlace hN hF (fun c => ?_) (fun c => ⟨rfl, ?_⟩)
  · obtain ⟨t, q, ht, hq, rfl, rfl⟩ := id c
    obtain ⟨hs, e1, e2, b1, b2, b3⟩ := g_is_of hN ht hq
    have hk := hA.2.2.2.2.1 _ hs
    refine sX_stopAt ⟨i_in b1 (by omega), ?_⟩
    rw [i_cl (by omega), show σ 40 (10 * t + q) = _ from hk.2.1]
    unfold wX11_platoonOf wX11_platoonOf_24
    exact sM_noPlace hM (fun _ ρ' f h5 hM' hL => i_zer (sM_numberOf hN hW hM'.2.2.1 hM'.2.2.2 hL.1 hL.2.2.2.1 ht hq (q_ok (hR.fr (x_fq.rf _) rfl f) h5))) (fun g => absurd c g)
  · unfold wX11_platoonOf wX11_platoonOf_24
    refine sM_noPlace hM (fun g => absurd g c) (fun _ ρ' f h5 => i_one' ?_)
    exact q_no (hR.fr (x_fq.rf _) rfl f) h5 (by decide)
theorem z_10 : z_p10 g_R := by
  intro σ τ ρ θ hR a b
  obtain ⟨N, C, w, hX, hM, hV⟩ := id hR
  obtain ⟨hN, hW, hF, hR0, hC, hA, hB⟩ := id hX
  unfold wL_position wX10_position
  refine sX_chkPlace hN hF (fun c => ?_) (fun c => ⟨rfl, ?_⟩)
  · obtain ⟨t, q, ht, hq, rfl, rfl⟩ := id c
    obtain ⟨hs, e1, e2, b1, b2, b3⟩ := g_is_of hN ht hq
    have hk := hA.2.2.2.2.1 _ hs
    refine sX_stopAt ⟨i_in b1 (by omega), ?_⟩
    rw [i_cl (by omega), show σ 41 (10 * t + q) = _ from hk.2.2.1]
    unfold wX11_position wX11_position_28
    refine sM_noPlace hM (fun _ ρ' f h5 hM' hL => i_zer (sM_spot ⟨i_in b1 (by omega), ?_⟩)) (fun g => absurd c g)
    rw [i_cl (by omega), hL.2.2.2.1 _ hs]
    exact q_ok (hR.fr (x_fq.rf _) rfl f) h5
  · unfold wX11_position wX11_position_28
    refine sM_noPlace hM (fun g => absurd g c) (fun _ ρ' f h5 => i_one' ?_)
    exact q_no (hR.fr (x_fq.rf _) rfl f) h5 (by decide)
theorem z_11 : z_p11 g_R := by
  intro σ τ ρ θ hR a b
  obtain ⟨N, C, w, hX, hM, hV⟩ := id hR
  obtain ⟨hN, hW, hF, hR0, hC, hA, hB⟩ := id hX
  unfold wL_key wX10_key
  refine sX_chkPlace hN hF (fun c => ?_) (fun c => ⟨rfl, ?_⟩)
  · obtain ⟨t, q, ht, hq, rfl, rfl⟩ := id c
    obtain ⟨hs, e1, e2, b1, b2, b3⟩ := g_is_of hN ht hq
    have hk := hA.2.2.2.2.1 _ hs
    refine sX_stopAt ⟨i_in b1 (by omega), ?_⟩
    rw [i_cl (by omega), show σ 42 (10 * t + q) = _ from hk.1]
    unfold wX11_key wX11_key_28
    refine sM_noPlace hM (fun _ ρ' f h5 hM' hL => i_zer (sM_spot ⟨i_in b1 (by omega), ?_⟩)) (fun g => absurd c g)
    rw [i_cl (by omega), (hL.2.2.1 _ hs).1]
    exact q_ok (hR.fr (x_fq.rf _) rfl f) h5
  · unfold wX11_key wX11_key_28
    refine sM_noPlace hM (fun g => absurd g c) (fun _ ρ' f h5 => i_one' ?_)
    exact q_no (hR.fr (x_fq.rf _) rfl f) h5 (by decide)
theorem z_18 : z_p18 g_R := by
  intro σ τ ρ θ hR a
  obtain ⟨N, C, w, hX, hM, hV⟩ := id hR
  obtain ⟨hN, hW, hF, hR0, hC, hA, hB⟩ := id hX
  have hb := hN.1.2
  have hM0 := hM.fr (m_fr.up0 (v := 0) (Or.inl rfl))
  unfold wL_slack wX10_slack
  refine sX_chkTruck hN hF (fun c => ?_) (fun c => ⟨rfl, ?_⟩)
  · obtain ⟨t, ht, rfl⟩ := id c
    refine ⟨i_in (by omega) (by omega), sX_arrival hN hR0 ht (g_arr_at hX ht) ?_⟩
    rw [i_cl (by omega), (hF.2.2.1 t ht).2.1]
    unfold wX11_slack wX11_slack_19
    refine sM_isTruck hN hM0.2.2.1 (fun _ => i_one (sM_thr0 (i_zer ?_))) (fun g => absurd c g)
    exact sM_begin hM (fun ρ' f h5 hM' hL => sM_dl hN hM'.2.2.1 ht (sM_arrival hN hM'.2.2.1 ht (m_arr_at hN hL.1 ht) (q_ok (hR.fr (x_fq.rf _) rfl f) h5)))
  · unfold wX11_slack wX11_slack_19
    refine sM_isTruck hN hM0.2.2.1 (fun g => absurd g c) (fun _ => i_zer' (sM_thr1 (i_one' ?_)))
    exact q_no (hR.fr (x_fq.rf _) rfl ((m_fr.up0 (Or.inl rfl)).up5 1)) (x_up_ss _ _ _ _) (by decide)
