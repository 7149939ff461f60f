def q_v (n : Nat) : Int32 := if n = 1000000 then -1 else nI n
def x_q (d : Nat → Nat) (σ : x_S) : Prop := ∀ x, x < 20 → σ 86 x = q_v (d x)
def m_q (d : Nat → Nat) (ρ : x_S) : Prop := ∀ x, x < 20 → ρ 19 x = nI (d x)
theorem q_v_i {n : Nat} {P R : Prop} (hn : n ≤ 999999 ∨ n = 1000000) (h1 : n = 1000000 → P) (h2 : n < 1000000 → R) : (q_v n = -1 → P) ∧ (¬ q_v n = -1 → R) := by
  unfold q_v
  by_cases e : n = 1000000
  · rw [if_pos e]
    exact i_self (h1 e)
  · rw [if_neg e]
    exact i_m1 (by omega) (h2 (by omega))
theorem q_v_n {n : Nat} (h : n < 1000000) : q_v n = nI n := by
  unfold q_v
  exact if_neg (by omega)
section QK
variable {N C : g_F} {w : Nat → Nat} {σ ρ : x_S} {τ θ : x_L} {a b : Int32}
theorem x_q.up {d : Nat → Nat} {z v : Nat} (h : x_q d σ) : x_q (fun x => if x = z then v else d x) (x_up σ 86 z (q_v v)) := by
  intro x hx
  show x_up σ 86 z (q_v v) 86 x = q_v (if x = z then v else d x)
  rw [x_up_i]
  by_cases e : x = z
  · rw [if_pos e, if_pos e]
  · rw [if_neg e, if_neg e]
    exact h x hx
theorem m_q.up {d : Nat → Nat} {z v : Nat} (h : m_q d ρ) : m_q (fun x => if x = z then v else d x) (x_up ρ 19 z (nI v)) := by
  intro x hx
  show x_up ρ 19 z (nI v) 19 x = nI (if x = z then v else d x)
  rw [x_up_i]
  by_cases e : x = z
  · rw [if_pos e, if_pos e]
  · rw [if_neg e, if_neg e]
    exact h x hx
theorem x_fq.up86 {i : Nat} {v : Int32} : x_fq σ (x_up σ 86 i v) := ⟨fun y hy => x_up_n (by omega), fun j _ => by rw [x_up_n (show (1 : Nat) ≠ 86 by omega)]⟩
theorem sX_pass (hX : g_X N C w σ τ) {d : Nat → Nat} {m : Nat} (hd : x_q d σ) (hb : g_bd d m) (hm : m ≤ 380000) {Q : x_S → x_L → Prop} (h : ∀ σ' : x_S, x_fq σ σ' → x_q (g_dk N d (N 0 0)) σ' → Q σ' τ) : wX10_reachFurther σ τ Q := by
  have hN := hX.1
  have h30 := hN.1.1
  unfold wX10_reachFurther
  refine x_S1 (fun i σ' τ' => x_fq σ σ' ∧ x_q (g_dk N d i) σ' ∧ τ' = τ) (fun i => nI i) (lo := 0) (n := N 0 0) (Nat.zero_le _) (fun K i σ' τ' _ hi hP hK => ?_) (fun K σ' τ' hP => ?_) ⟨x_fq.rf _, hd, rfl⟩ rfl
  · obtain ⟨f, hq, rfl⟩ := hP
    have hX' := hX.fq f (rfl : τ' 32 = τ' 32)
    have hF := hX'.2.2.1
    have hw := hN.2.1 i hi
    have hmb := g_min_b hN hi hw.2.2.2.2.1 hw.2.2.2.2.2
    have hbd := g_bd_dk hN hb hm i (by omega)
    have b1 := hbd (N 1 i)
    have b2 := hbd (N 2 i)
    have hF4 := hF.2.1 i hi
    unfold wX10_reachFurther_2 wX10_reachFurther_81 wX10_reachFurther_96
    rw [hF.1.1, i_cl (show i < 1000000000 by omega), hF4.1, hF4.2.2.2, i_cl (show N 1 i < 1000000000 by omega), hq (N 1 i) hw.1, show (nI i + 1 : Int32) = nI (i + 1) from nI_add i 1]
    refine i_le (by omega) (by omega) (fun g => absurd g (by omega)) (fun _ => ⟨i_in (by omega) (by omega), i_in (by omega) (by omega), q_v_i (by omega) (fun g => ?_) (fun g => ?_)⟩)
    · refine hK _ _ ⟨f, ?_, rfl⟩
      have e : g_dk N d (i + 1) = g_dk N d i := by
        rw [g_dk]
        unfold g_rx
        exact if_neg (by omega)
      rw [e]
      exact hq
    · rw [q_v_n g]
      refine sX_minutes hN hF hi (by omega) (by omega) ?_
      rw [hF4.2.1, i_cl (show N 2 i < 1000000000 by omega), hq (N 2 i) hw.2.1, nI_add]
      have hset : g_dk N d i (N 1 i) + g_min N i (N 4 i) < g_dk N d i (N 2 i) → K (nI (i + 1)) (x_up σ' 86 (N 2 i) (nI (g_dk N d i (N 1 i) + g_min N i (N 4 i)))) τ' := fun c => by
        refine hK _ _ ⟨f.tr x_fq.up86, ?_, rfl⟩
        have e : g_dk N d (i + 1) = fun x => if x = N 2 i then g_dk N d i (N 1 i) + g_min N i (N 4 i) else g_dk N d i x := by
          rw [g_dk]
          unfold g_rx
          exact if_pos c
        rw [e, ← q_v_n (show g_dk N d i (N 1 i) + g_min N i (N 4 i) < 1000000 by omega)]
        exact hq.up
      refine ⟨i_in (by omega) (by omega), q_v_i (by omega) (fun g2 => ⟨i_in (by omega) (by omega), i_in (by omega) (by omega), hset (by omega)⟩) (fun g2 => ?_)⟩
      rw [q_v_n g2]
      refine i_le (by omega) (by omega) (fun g3 => hK _ _ ⟨f, ?_, rfl⟩) (fun g3 => ⟨i_in (by omega) (by omega), i_in (by omega) (by omega), hset g3⟩)
      have e : g_dk N d (i + 1) = g_dk N d i := by
        rw [g_dk]
        unfold g_rx
        exact if_neg (by omega)
      rw [e]
      exact hq
  · obtain ⟨f, hq, rfl⟩ := hP
    unfold wX10_reachFurther_2
    rw [(hX.fq f (rfl : τ' 32 = τ' 32)).2.2.1.1.1]
    exact i_le (by omega) (by omega) (fun _ => h σ' f hq) (fun g => absurd g (by omega))
theorem sM_pass (hM : g_M N C ρ) {d : Nat → Nat} {m : Nat} (hd : m_q d ρ) (hb : g_bd d m) (hm : m ≤ 380000) {K : Int32 → Int32 → x_S → x_L → Prop} {Q : Int32 → x_S → x_L → Prop} {v : Int32} (h : ∀ (ρ' : x_S) (f : Nat), m_fr ρ ρ' → ρ' 0 = ρ 0 → m_q (g_dk N d (N 0 0)) ρ' → (f = 0 ∧ g_dk N d (N 0 0) = d) ∨ (f = 1 ∧ g_sum (g_dk N d (N 0 0)) 20 < g_sum d 20) → K v (nI f) ρ' θ) : x_l3 (wX11_quickest_87 K Q) v 0 0 ρ θ := by
  have hN := hM.1
  have h30 := hN.1.1
  refine x_l3_I (fun k c0 c1 c2 ρ' θ' => ∃ i f, i + k = N 0 0 ∧ c0 = v ∧ c1 = nI f ∧ c2 = nI i ∧ m_fr ρ ρ' ∧ ρ' 0 = ρ 0 ∧ m_q (g_dk N d i) ρ' ∧ ((f = 0 ∧ g_dk N d i = d) ∨ (f = 1 ∧ g_sum (g_dk N d i) 20 < g_sum d 20)) ∧ θ' = θ) ?_ (N 0 0) ⟨0, 0, by omega, rfl, rfl, rfl, m_fr.rf _, rfl, hd, Or.inl ⟨rfl, rfl⟩, rfl⟩
  rintro k c0 c1 c2 ρ' θ' ⟨i, f, h1, rfl, rfl, rfl, h2, h20, h3, h4, rfl⟩ K2 hK2
  have hM' := hM.fr h2
  have hF := hM'.2.2.1
  unfold wX11_quickest_87 wX11_quickest_162
  rw [show (0 : Int32).toNatClampNeg = 0 from rfl, hF.1.1]
  refine i_le (by omega) (by omega) (fun g => ?_) (fun g => ?_)
  · have e : i = N 0 0 := by omega
    subst e
    exact h ρ' f h2 h20 h3 h4
  · have hw := hN.2.1 i g
    have hmb := g_min_b hN g hw.2.2.2.2.1 hw.2.2.2.2.2
    have hbd := g_bd_dk hN hb hm i (by omega)
    have b1 := hbd (N 1 i)
    have b2 := hbd (N 2 i)
    have hF4 := hF.2.1 i g
    refine sM_ofRoad (k := 0) (by omega) (by omega) ?_
    rw [show 2 + 4 * i + 0 = 2 + 4 * i from rfl, hF4.1]
    refine ⟨i_in (by omega) (by omega), sM_ofRoad (k := 3) (by omega) (by omega) ?_⟩
    rw [hF4.2.2.2]
    refine sM_minutes hN hF g (by omega) (by omega) (sM_ofRoad (k := 1) (by omega) (by omega) ?_)
    rw [hF4.2.1, i_cl (show N 1 i < 1000000000 by omega), i_cl (show N 2 i < 1000000000 by omega), h3 (N 1 i) hw.1, h3 (N 2 i) hw.2.1, nI_add, show (nI i + 1 : Int32) = nI (i + 1) from nI_add i 1]
    refine ⟨i_in (by omega) (by omega), i_lt (by omega) (by omega) (fun c => sM_ofRoad (k := 1) (by omega) (by omega) ?_) (fun c => ?_)⟩
    · rw [hF4.2.1, i_cl (show N 2 i < 1000000000 by omega)]
      refine ⟨i_in (by omega) (by omega), hK2 (k - 1) _ _ _ _ _ (by omega) ⟨i + 1, 1, by omega, rfl, rfl, rfl, h2.tr (m_fr.upc (by omega)), by rw [x_up_n (show (0 : Nat) ≠ 19 by omega)]; exact h20, ?_, Or.inr ⟨rfl, ?_⟩, rfl⟩⟩
      · have e : g_dk N d (i + 1) = fun x => if x = N 2 i then g_dk N d i (N 1 i) + g_min N i (N 4 i) else g_dk N d i x := by
          rw [g_dk]
          unfold g_rx
          exact if_pos c
        rw [e]
        exact h3.up
      · have h5 : g_sum (g_dk N d (i + 1)) 20 < g_sum (g_dk N d i) 20 := by
          refine g_sum_lt (a := N 2 i) (fun j _ => g_rx_le N _ i j) hw.2.1 ?_
          have := g_rx_to N (g_dk N d i) i
          show g_rx N (g_dk N d i) i (N 2 i) < _
          omega
        have h6 : g_sum (g_dk N d i) 20 ≤ g_sum d 20 := g_sum_le (fun j _ => g_dk_le N d j i)
        omega
    · refine hK2 (k - 1) _ _ _ _ _ (by omega) ⟨i + 1, f, by omega, rfl, rfl, rfl, h2, h20, ?_, ?_, rfl⟩
      · have e : g_dk N d (i + 1) = g_dk N d i := by
          rw [g_dk]
          unfold g_rx
          exact if_neg (by omega)
        rw [e]
        exact h3
      · have e : g_dk N d (i + 1) = g_dk N d i := by
          rw [g_dk]
          unfold g_rx
          exact if_neg (by omega)
        rw [e]
        exact h4
theorem sX_quick (hX : g_X N C w σ τ) {a b : Nat} (ha : a < 20) (hb : b < 20) {Q : Int32 → x_S → x_L → Prop} {QX : x_PE} (h : ∀ σ' : x_S, x_fq σ σ' → Q (q_v (g_di N a 19 b)) σ' τ) : x_l3 (wX10_quickest_16 Q QX) (nI a) (nI b) 0 σ τ := by
  have hN := hX.1
  refine x_S3 (fun i σ' τ' => x_fq σ σ' ∧ (∀ x, x < i → σ' 86 x = -1) ∧ τ' = τ) (fun _ => nI a) (fun _ => nI b) (fun i => nI i) (lo := 0) (n := 20) (Nat.zero_le _) (fun K i σ' τ' _ hi hP hK => ?_) (fun K σ' τ' hP => ?_) ⟨x_fq.rf _, fun x hx => absurd hx (Nat.not_lt_zero _), rfl⟩ rfl rfl rfl
  · obtain ⟨f, hq, rfl⟩ := hP
    unfold wX10_quickest_16
    refine i_le (a := 20) (by omega) (by omega) (fun g => absurd g (by omega)) (fun _ => ⟨i_in (by omega) (by omega), ?_⟩)
    rw [i_cl (by omega), show (nI i + 1 : Int32) = nI (i + 1) from nI_add i 1]
    refine hK _ _ ⟨f.tr x_fq.up86, fun x hx => ?_, rfl⟩
    rw [x_up_i]
    by_cases e : x = i
    · exact if_pos e
    · rw [if_neg e]
      exact hq x (by omega)
  · obtain ⟨f, hq, rfl⟩ := hP
    unfold wX10_quickest_16
    refine i_le (a := 20) (b := 20) (by omega) (by omega) (fun _ => ⟨i_in (by omega) (by omega), ?_⟩) (fun g => absurd g (by omega))
    rw [i_cl (show a < 1000000000 by omega)]
    refine x_S2 (fun j σ2 τ2 => x_fq σ σ2 ∧ x_q (g_di N a (j - 1)) σ2 ∧ τ2 = τ') (fun _ => nI b) (fun j => nI j) (lo := 1) (n := 20) (by omega) (fun K i σ2 τ2 h1 hi hP hK => ?_) (fun K σ2 τ2 hP => ?_) ⟨f.tr x_fq.up86, fun x hx => ?_, rfl⟩ rfl rfl
    · obtain ⟨f2, hq2, rfl⟩ := hP
      unfold wX10_quickest_44
      refine i_le (a := 20) (by omega) (by omega) (fun g => absurd g (by omega)) (fun _ => ?_)
      refine sX_pass (hX.fq f2 (rfl : τ2 32 = τ2 32)) hq2 (g_bd_di hN a (i - 1) (by omega)) (by omega) (fun σ3 f3 hq3 => ?_)
      rw [show (nI i + 1 : Int32) = nI (i + 1) from nI_add i 1]
      refine hK _ _ ⟨f2.tr f3, ?_, rfl⟩
      rw [show i + 1 - 1 = (i - 1) + 1 by omega]
      exact hq3
    · obtain ⟨f2, hq2, rfl⟩ := hP
      unfold wX10_quickest_44
      refine i_le (a := 20) (b := 20) (by omega) (by omega) (fun _ => ⟨i_in (by omega) (by omega), ?_⟩) (fun g => absurd g (by omega))
      rw [i_cl (by omega), hq2 b hb]
      exact h σ2 f2
    · show x_up σ' 86 a 0 86 x = q_v (if x = a then 0 else 1000000)
      rw [x_up_i]
      by_cases e : x = a
      · rw [if_pos e, if_pos e]
        rfl
      · rw [if_neg e, if_neg e, hq x hx]
        rfl
theorem sM_quick (hM : g_M N C ρ) {a b : Nat} (ha : a < 20) (hb : b < 20) {Q : Int32 → x_S → x_L → Prop} (h : ∀ ρ' : x_S, m_fr ρ ρ' → ρ' 0 = ρ 0 → Q (q_v (g_di N a 19 b)) ρ' θ) : x_l3 (wX11_quickest_46 Q) (nI a) (nI b) 0 ρ θ := by
  have hN := hM.1
  refine x_S3 (fun i ρ' θ' => m_fr ρ ρ' ∧ ρ' 0 = ρ 0 ∧ (∀ x, x < i → ρ' 19 x = nI (if x = a then 0 else 1000000)) ∧ θ' = θ) (fun _ => nI a) (fun _ => nI b) (fun i => nI i) (lo := 0) (n := 20) (Nat.zero_le _) (fun K i ρ' θ' _ hi hP hK => ?_) (fun K ρ' θ' hP => ?_) ⟨m_fr.rf _, rfl, fun x hx => absurd hx (Nat.not_lt_zero _), rfl⟩ rfl rfl rfl
  · obtain ⟨f, f0, hq, rfl⟩ := hP
    have key : ∀ v : Nat, v = (if i = a then 0 else 1000000) → K (nI a) (nI b) (nI i + 1) (x_up ρ' 19 (nI i).toNatClampNeg (nI v)) θ' := fun v hv => by
      rw [i_cl (by omega), show (nI i + 1 : Int32) = nI (i + 1) from nI_add i 1]
      refine hK _ _ ⟨f.tr (m_fr.upc (by omega)), by rw [x_up_n (show (0 : Nat) ≠ 19 by omega)]; exact f0, fun x hx => ?_, rfl⟩
      rw [x_up_i]
      by_cases e : x = i
      · rw [if_pos e, hv, e]
      · rw [if_neg e]
        exact hq x (by omega)
    unfold wX11_quickest_46 wX11_quickest_69
    refine i_le (a := 20) (by omega) (by omega) (fun g => absurd g (by omega)) (fun _ => i_ne (by omega) (by omega) (fun g => ⟨i_in (by omega) (by omega), key 1000000 (if_neg g).symm⟩) (fun g => ⟨i_in (by omega) (by omega), key 0 (if_pos g).symm⟩))
  · obtain ⟨f, f0, hq, rfl⟩ := hP
    unfold wX11_quickest_46
    refine i_le (a := 20) (b := 20) (by omega) (by omega) (fun _ => ?_) (fun g => absurd g (by omega))
    refine x_l2_I (fun k c0 c1 ρ2 θ2 => ∃ j fl, j + k = 20 ∧ c0 = nI b ∧ c1 = nI fl ∧ m_fr ρ ρ2 ∧ ρ2 0 = ρ 0 ∧ m_q (g_di N a j) ρ2 ∧ ((fl = 0 ∧ ∃ J, g_di N a (J + 1) = g_di N a J ∧ g_di N a j = g_di N a J) ∨ (fl = 1 ∧ j ≤ 19)) ∧ θ2 = θ') ?_ 20 ⟨0, 1, by omega, rfl, rfl, f, f0, fun x hx => hq x hx, Or.inr ⟨rfl, by omega⟩, rfl⟩
    rintro k c0 c1 ρ2 θ2 ⟨j, fl, h1, rfl, rfl, f2, f20, hq2, hfl, rfl⟩ K2 hK2
    unfold wX11_quickest_78 wX11_quickest_193
    rcases hfl with ⟨rfl, J, hJ1, hJ2⟩ | ⟨rfl, hj⟩
    · refine i_zer ⟨i_in (by omega) (by omega), ?_⟩
      have e : g_di N a 19 b = g_di N a j b := by rw [hJ2, g_di_all hN ha hJ1 (by omega) hb]
      have hbd := g_bd_di hN a 19 (by omega) b
      rw [i_cl (by omega), hq2 b hb, ← e]
      have hz := h ρ2 f2 f20
      refine i_le (a := 1000000) (by omega) (by omega) (fun g => ?_) (fun g => ?_)
      · rw [show g_di N a 19 b = 1000000 by omega] at hz
        exact hz
      · rw [q_v_n g] at hz
        exact hz
    · refine i_one' ?_
      refine sM_pass (hM.fr f2) hq2 (g_bd_di hN a j (by omega)) (by omega) (fun ρ3 fl f3 f30 hq3 hfl => ?_)
      refine hK2 (k - 1) _ _ _ _ (by omega) ⟨j + 1, fl, by omega, rfl, rfl, f2.tr f3, f30.trans f20, hq3, ?_, rfl⟩
      rcases hfl with ⟨rfl, e⟩ | ⟨rfl, e⟩
      · exact Or.inl ⟨rfl, j, e, e⟩
      · refine Or.inr ⟨rfl, ?_⟩
        apply Classical.byContradiction
        intro g
        have hj19 : j = 19 := by omega
        subst hj19
        have : g_sum (g_di N a 20) 20 = g_sum (g_di N a 19) 20 := g_sum_congr (fun x hx => g_di_end hN ha (by omega) (by omega) hx)
        have e' : g_sum (g_di N a 20) 20 < g_sum (g_di N a 19) 20 := e
        omega
end QK
theorem z_38 : z_p38 g_R := by
  intro σ τ ρ θ hR a b
  obtain ⟨N, C, w, hX, hM, hV⟩ := id hR
  have fu : m_fr ρ (x_up ρ 0 5 0) := m_fr.up0 (Or.inl rfl)
  have bad : ¬ (g_rn a 0 20 ∧ g_rn b 0 20) → ∀ {x : Int32}, wX11_quickest a b ρ θ (fun x1 ρ1 θ1 => wX11_thrown ρ1 θ1 (fun th ρ2 θ2 => th = 1 ∧ ((1 : Int32) = 0 → τ 87 0 = x1.toInt64) ∧ g_R σ τ ρ2 θ2)) := fun c _ => by
    unfold wX11_quickest wX11_quickest_30 wX11_quickest_35
    have fin : wX11_throwsIf 1 1 (x_up ρ 0 5 0) θ (fun r36 σ36 τ36 => (r36 = 0 → x_l3 (wX11_quickest_46 (fun x1 ρ1 θ1 => wX11_thrown ρ1 θ1 (fun th ρ2 θ2 => th = 1 ∧ ((1 : Int32) = 0 → τ 87 0 = x1.toInt64) ∧ g_R σ τ ρ2 θ2))) a b 0 σ36 τ36) ∧ (¬ r36 = 0 → (wX11_thrown σ36 τ36 (fun th ρ2 θ2 => th = 1 ∧ ((1 : Int32) = 0 → τ 87 0 = (0 : Int32).toInt64) ∧ g_R σ τ ρ2 θ2)))) := sM_thr1 (i_one' (q_no (hR.fr (x_fq.rf _) rfl (fu.up5 1)) (x_up_ss _ _ _ _) (by decide)))
    refine sM_inr (l := 0) (n := 20) (by omega) (by decide) (by decide) (fun c1 => i_one' ?_) (fun c1 => i_zer ?_)
    · exact sM_inr (l := 0) (n := 20) (by omega) (by decide) (by decide) (fun c2 => absurd ⟨c1, c2⟩ c) (fun c2 => i_zer' fin)
    · exact fin
  unfold wL_quickest wX10_quickest
  refine sX_chkRangeE (l := 0) (m := 19) (by omega) (by omega) rfl rfl (fun c1 => ?_) (fun c1 => ⟨rfl, bad (fun z => c1 z.1) (x := 0)⟩)
  refine sX_chkRangeE (l := 0) (m := 19) (by omega) (by omega) rfl rfl (fun c2 => ?_) (fun c2 => ⟨rfl, bad (fun z => c2 z.2) (x := 0)⟩)
  obtain ⟨i, -, hi, rfl⟩ := id c1
  obtain ⟨j, -, hj, rfl⟩ := id c2
  refine sX_quick hX hi hj (fun σ' f => ?_)
  unfold wX11_quickest wX11_quickest_30 wX11_quickest_35
  refine sM_inr (l := 0) (n := 20) (by omega) (by decide) (by decide) (fun _ => i_one' ?_) (fun g => absurd c1 g)
  refine sM_inr (l := 0) (n := 20) (by omega) (by decide) (by decide) (fun _ => i_one ?_) (fun g => absurd c2 g)
  refine sM_thr0 (i_zer ?_)
  refine sM_quick (hM.fr fu) hi hj (fun ρ' g g0 => ?_)
  exact q_ok (hR.fr f rfl (fu.tr g)) (by rw [g0]; exact x_up_ss _ _ _ _)
