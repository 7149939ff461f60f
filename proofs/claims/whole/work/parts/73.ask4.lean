/-! runs; trucks on a road; the best road; the digest -/
/-- the first place of a truck's that the other's route knows, the other's place, how many places from there -/
def g_rp1 (N : g_F) (t o : Nat) : Nat := g_first (fun i => g_uses N (N 9 (10 * t + i)) o) (N 8 t)
def g_rp2 (N : g_F) (t o : Nat) : Nat := g_fp N o (N 9 (10 * t + g_rp1 N t o))
def g_rlen (N : g_F) (t o : Nat) : Nat := g_shr N (10 * t + g_rp1 N t o) (10 * o + g_rp2 N t o)
section RN
variable {N C : g_F} {w : Nat → Nat} {σ ρ : x_S} {τ θ : x_L}
theorem g_rp1_no {t o i : Nat} (h : i < g_rp1 N t o) : ¬ g_uses N (N 9 (10 * t + i)) o = true := fun e => by
  have h1 := g_first_le (fun i => g_uses N (N 9 (10 * t + i)) o) (N 8 t)
  have := g_first_min (p := fun i => g_uses N (N 9 (10 * t + i)) o) (n := N 8 t) (i := i) (by unfold g_rp1 at h; omega) e
  unfold g_rp1 at h
  omega
theorem g_rp1_yes {t o : Nat} (h : g_rp1 N t o < N 8 t) : g_uses N (N 9 (10 * t + g_rp1 N t o)) o = true := g_first_p (p := fun i => g_uses N (N 9 (10 * t + i)) o) h
theorem g_rp1_le (N : g_F) (t o : Nat) : g_rp1 N t o ≤ N 8 t := g_first_le _ _
theorem g_rp2_lt {t o : Nat} (h : g_rp1 N t o < N 8 t) : g_rp2 N t o < N 8 o := g_fp_uses.mpr (g_rp1_yes h)
theorem g_rp2_road {t o : Nat} (h : g_rp1 N t o < N 8 t) : N 9 (10 * o + g_rp2 N t o) = N 9 (10 * t + g_rp1 N t o) := of_decide_eq_true (g_first_p (p := fun q => decide (N 9 (10 * o + q) = N 9 (10 * t + g_rp1 N t o))) (g_rp2_lt h))
theorem g_rlen_b (N : g_F) (t o : Nat) : g_rlen N t o ≤ 10 := g_shf_le N 10 _ _
theorem g_rlen_pos {t o : Nat} (h : g_rp1 N t o < N 8 t) : 0 < g_rlen N t o := g_shr_pos (g_rp2_road h).symm
def x_f59 (σ σ' : x_S) : Prop := ∀ z, z ≠ 59 → σ' z = σ z
theorem x_f59.fq {σ σ' : x_S} (h : x_f59 σ σ') : x_fq σ σ' := ⟨fun z hz => h z (by omega), fun i _ => by rw [h 1 (by omega)]⟩
theorem sX_findRun (hN : g_WN N) (hF : f_F N σ) (hR : f_R N σ τ) {t o : Nat} (ht : t < N 0 1) (ho : o < N 0 1) {Q : x_S → x_L → Prop}
    (h1 : g_rp1 N t o < N 8 t → ∀ σ' : x_S, x_f59 σ σ' → σ' 59 4 = nI (g_rp1 N t o) → σ' 59 5 = nI (g_rp2 N t o) → σ' 59 6 = nI (g_rlen N t o) → Q σ' τ)
    (h0 : ¬ g_rp1 N t o < N 8 t → ∀ σ' : x_S, x_f59 σ σ' → σ' 59 4 = -1 → σ' 59 5 = -1 → σ' 59 6 = 0 → Q σ' τ) : wX4_findRun (nI t) (nI o) σ τ Q := by
  have hb := hN.1.2
  have hb0 := hN.1.1
  have h10 := (hN.2.2.1 t ht).2.2.2.2
  have h10o := (hN.2.2.1 o ho).2.2.2.2
  have hle := g_rp1_le N t o
  have inner : ∀ (K : Int32 → Int32 → Int32 → x_S → x_L → Prop) i, i < N 8 t → (¬ g_uses N (N 9 (10 * t + i)) o = true → K (nI t) (nI o) (nI (i + 1)) σ τ) → (g_uses N (N 9 (10 * t + i)) o = true → wX7_sharedPlaces (nI (10 * t + i)) (nI (10 * o + g_fp N o (N 9 (10 * t + i)))) (x_up (x_up σ 59 4 (nI i)) 59 5 (nI (g_fp N o (N 9 (10 * t + i))))) τ (fun r σ' τ' => Q (x_up σ' 59 6 r) τ')) → wX4_findRun_2 Q K (nI t) (nI o) (nI i) σ τ := fun K i hi hn hy => by
    obtain ⟨hs, -, -, b1, -⟩ := g_is_of hN ht hi
    have hr := hN.2.2.2 t i ht hi
    have hfl : g_fp N o (N 9 (10 * t + i)) ≤ N 8 o := g_first_le _ _
    unfold wX4_findRun_2
    refine ⟨i_in (by omega) (by omega), ?_⟩
    rw [i_cl (by omega), (hF.2.2.1 t ht).2.2.2]
    refine i_le (by omega) (by omega) (fun g => absurd g (by omega)) (fun _ => sX_stopAt ?_)
    refine x_F5 (fun _ => True) (fun _ => nI t) (fun _ => nI o) (fun _ => nI i) (fun _ => nI (10 * t + i)) (fun p => nI (10 * o + p)) (lo := 0) (n := g_fp N o (N 9 (10 * t + i))) (Nat.zero_le _) (fun K2 p _ hp _ hK2 => ?_) (fun K2 _ => ?_) trivial rfl rfl rfl rfl (e_10 o)
    · unfold wX4_findRun_28
      have hp2 : p < N 8 o := by omega
      obtain ⟨hm, -, -, c1, -⟩ := g_is_of hN ho hp2
      have hr2 := hN.2.2.2 o p ho hp2
      refine ⟨i_in (by omega) (by omega), ?_⟩
      rw [i_cl (by omega), hR.1 o ho, i_cl (by omega), i_cl (by omega), hF.2.2.2 _ hs, hF.2.2.2 _ hm, show (nI (10 * o + p) + 1 : Int32) = nI (10 * o + (p + 1)) from nI_add _ 1]
      exact i_le (by omega) (by omega) (fun g => absurd g (by omega)) (fun _ => ⟨i_in b1 (by omega), i_in c1 (by omega), i_ne (by omega) (by omega) (fun _ => hK2 trivial) (fun g => absurd g.symm (g_fp_lt hp))⟩)
    · unfold wX4_findRun_28
      refine ⟨i_in (by omega) (by omega), ?_⟩
      rw [i_cl (by omega), hR.1 o ho, show (nI i + 1 : Int32) = nI (i + 1) from nI_add i 1]
      refine i_le (by omega) (by omega) (fun g => hn (fun z => by have := g_fp_uses.mpr z; omega)) (fun g => ?_)
      have hf2 : g_fp N o (N 9 (10 * t + i)) < N 8 o := by omega
      obtain ⟨hm, -, -, c1, -⟩ := g_is_of hN ho hf2
      have hrd : N 9 (10 * o + g_fp N o (N 9 (10 * t + i))) = N 9 (10 * t + i) := of_decide_eq_true (g_first_p (p := fun q => decide (N 9 (10 * o + q) = N 9 (10 * t + i))) hf2)
      rw [i_cl (by omega), i_cl (by omega), hF.2.2.2 _ hs, hF.2.2.2 _ hm, hrd]
      refine ⟨i_in b1 (by omega), i_in c1 (by omega), i_self' ?_⟩
      have := hy (g_fp_uses.mp hf2)
      rw [show (nI o * 10 : Int32) = nI (10 * o) from e_10 o, nI_sub (by omega), show 10 * o + g_fp N o (N 9 (10 * t + i)) - 10 * o = g_fp N o (N 9 (10 * t + i)) by omega]
      exact this
  unfold wX4_findRun
  refine x_F3 (fun _ => True) (fun _ => nI t) (fun _ => nI o) (fun i => nI i) (lo := 0) (n := g_rp1 N t o) (Nat.zero_le _) (fun K i _ hi _ hK => inner K i (by omega) (fun _ => hK trivial) (fun z => absurd z (g_rp1_no hi))) (fun K _ => ?_) trivial rfl rfl rfl
  by_cases z : g_rp1 N t o < N 8 t
  · refine inner K _ z (fun y => absurd (g_rp1_yes z) y) (fun _ => ?_)
    have hf2 := g_rp2_lt z
    obtain ⟨hs, -, -, b1, -⟩ := g_is_of hN ht z
    obtain ⟨hm, -, -, c1, -⟩ := g_is_of hN ho hf2
    have fr : x_f59 σ (x_up (x_up σ 59 4 (nI (g_rp1 N t o))) 59 5 (nI (g_rp2 N t o))) := fun y hy => by rw [x_up_n hy, x_up_n hy]
    refine sX_shared hN (hR.cong (fun y hy => fr y (by omega))) hs hm (h1 z _ (fun y hy => by rw [x_up_n hy]; exact fr y hy) ?_ ?_ (x_up_ss _ _ _ _))
    · rw [x_up_sn (by omega), x_up_sn (by omega), x_up_ss]
    · rw [x_up_sn (by omega)]
      exact x_up_ss _ _ _ _
  · unfold wX4_findRun_2
    refine ⟨i_in (by omega) (by omega), ?_⟩
    rw [i_cl (by omega), (hF.2.2.1 t ht).2.2.2]
    refine i_le (by omega) (by omega) (fun _ => h0 z _ (fun y hy => by rw [x_up_n hy, x_up_n hy, x_up_n hy]) ?_ ?_ (x_up_ss _ _ _ _)) (fun g => absurd g (by omega))
    · rw [x_up_sn (by omega), x_up_sn (by omega), x_up_ss]
    · rw [x_up_sn (by omega), x_up_ss]
/-- the notes of layRun -/
def m_f1 (ρ ρ' : x_S) : Prop := (∀ z, z ≠ 0 → ρ' z = ρ z) ∧ ∀ i, i ≠ 19 → i ≠ 20 → i ≠ 21 → ρ' 0 i = ρ 0 i
theorem m_f1.fr {ρ ρ' : x_S} (h : m_f1 ρ ρ') : m_fr ρ ρ' := ⟨fun z hz => h.1 z (by omega), fun i hi => h.2 i (by omega) (by omega) (by omega)⟩
theorem m_f1.up {ρ ρ' : x_S} (h : m_f1 ρ ρ') {i : Nat} {v : Int32} (hi : i = 19 ∨ i = 20 ∨ i = 21) : m_f1 ρ (x_up ρ' 0 i v) := ⟨fun z hz => by rw [x_up_n hz]; exact h.1 z hz, fun j h1 h2 h3 => by rw [x_up_sn (by omega)]; exact h.2 j h1 h2 h3⟩
theorem sM_layRun (hN : g_WN N) (hF : m_F N ρ) {t o : Nat} (ht : t < N 0 1) (ho : o < N 0 1) {Q : x_S → x_L → Prop}
    (h1 : g_rp1 N t o < N 8 t → ∀ ρ' : x_S, m_f1 ρ ρ' → ρ' 0 19 = nI (g_rp1 N t o) → ρ' 0 20 = nI (g_rp2 N t o) → ρ' 0 21 = nI (g_rlen N t o) → Q ρ' θ)
    (h0 : ¬ g_rp1 N t o < N 8 t → ∀ ρ' : x_S, m_f1 ρ ρ' → ρ' 0 19 = -1 → ρ' 0 20 = -1 → ρ' 0 21 = 0 → Q ρ' θ) : wX11_layRun (nI t) (nI o) ρ θ Q := by
  have hb := hN.1.2
  have hb0 := hN.1.1
  have h10 := (hN.2.2.1 t ht).2.2.2.2
  have h10o := (hN.2.2.1 o ho).2.2.2.2
  have hle := g_rp1_le N t o
  have fin1 : ∀ ρ1 : x_S, g_rp1 N t o < N 8 t → m_f1 ρ ρ1 → ρ1 0 19 = nI (g_rp1 N t o) → ρ1 0 20 = nI (g_rp2 N t o) → wX11_layRun_69 Q (nI t) (nI o) ρ1 θ := fun ρ1 z f e1 e2 => by
    have hf2 := g_rp2_lt z
    unfold wX11_layRun_69 wX11_layRun_86 wX11_layRun_116
    have c1 : (x_up ρ1 0 19 (ρ1 0 19)) 0 20 = nI (g_rp2 N t o) := by rw [x_up_sn (by omega), e2]
    have c2 : (x_up ρ1 0 19 (ρ1 0 19)) 0 19 = nI (g_rp1 N t o) := by rw [x_up_ss, e1]
    have f2 : m_f1 ρ (x_up ρ1 0 19 (ρ1 0 19)) := f.up (Or.inl rfl)
    rw [c1, c2, e2]
    refine i_m1' (by omega) (i_m1' (by omega) (sM_shared hN (hF.cong (f2.1 3 (by omega))) ht z ho hf2 (h1 z _ (f2.up (Or.inr (Or.inr rfl))) ?_ ?_ (x_up_ss _ _ _ _))))
    · rw [x_up_sn (by omega), c2]
    · rw [x_up_sn (by omega), c1]
  have fin0 : ∀ ρ1 : x_S, ¬ g_rp1 N t o < N 8 t → m_f1 ρ ρ1 → ρ1 0 20 = -1 → wX11_layRun_69 Q (nI t) (nI o) ρ1 θ := fun ρ1 z f e2 => by
    unfold wX11_layRun_69 wX11_layRun_86 wX11_layRun_116
    have c1 : (x_up ρ1 0 19 (-1)) 0 20 = -1 := by rw [x_up_sn (by omega), e2]
    rw [c1, e2]
    refine i_self' (i_self' (h0 z _ ((f.up (Or.inl rfl)).up (Or.inr (Or.inr rfl))) ?_ ?_ (x_up_ss _ _ _ _)))
    · rw [x_up_sn (by omega), x_up_ss]
    · rw [x_up_sn (by omega), c1]
  unfold wX11_layRun
  refine x_l2_I (fun k a b ρ1 θ' => a = nI t ∧ b = nI o ∧ θ = θ' ∧ m_f1 ρ ρ1 ∧ ((∃ i, i ≤ g_rp1 N t o ∧ k = 20 - i ∧ ρ1 0 19 = nI i ∧ ρ1 0 20 = -1) ∨ (g_rp1 N t o < N 8 t ∧ k = 0 ∧ ρ1 0 19 = nI (g_rp1 N t o) ∧ ρ1 0 20 = nI (g_rp2 N t o)))) ?_ 20 ⟨rfl, rfl, rfl, m_f1.up (m_f1.up ⟨fun _ _ => rfl, fun _ _ _ _ => rfl⟩ (Or.inl rfl)) (Or.inr (Or.inl rfl)), Or.inl ⟨0, Nat.zero_le _, rfl, (x_up_sn (by omega)).trans (x_up_ss _ _ _ _), x_up_ss _ _ _ _⟩⟩
  rintro k a b ρ1 θ' ⟨rfl, rfl, rfl, f, hh⟩ K hK
  unfold wX11_layRun_10
  have hF1 := hF.cong (f.1 3 (by omega))
  refine sM_places hN hF1 ht ?_
  rcases hh with ⟨i, hi, rfl, e1, e2⟩ | ⟨z, rfl, e1, e2⟩
  · rw [e1, e2]
    refine i_le (by omega) (by omega) (fun g => fin0 ρ1 (by omega) f e2) (fun g => i_self' (sM_road hN hF1 ht g ?_))
    have hr := hN.2.2.2 t i ht g
    refine sM_placeOf hN hF1 ho hr (fun z => ?_) (fun z => ?_)
    · have hi2 : i = g_rp1 N t o := by
        apply Classical.byContradiction
        intro hne
        exact g_rp1_no (show i < g_rp1 N t o by omega) (g_fp_uses.mp z)
      subst hi2
      rw [x_up_ss]
      exact i_m1' (by omega) (hK 0 _ _ _ _ (by omega) ⟨rfl, rfl, rfl, f.up (Or.inr (Or.inl rfl)), Or.inr ⟨g, rfl, (x_up_sn (by omega)).trans e1, x_up_ss _ _ _ _⟩⟩)
    · rw [x_up_ss]
      refine i_self' (hK (20 - (i + 1)) _ _ _ _ (by omega) ⟨rfl, rfl, rfl, (f.up (Or.inr (Or.inl rfl))).up (Or.inl rfl), Or.inl ⟨i + 1, ?_, rfl, ?_, ?_⟩⟩)
      · apply Classical.byContradiction
        intro hne
        have hi2 : i = g_rp1 N t o := by omega
        subst hi2
        exact z (g_fp_uses.mpr (g_rp1_yes g))
      · rw [x_up_ss, x_up_sn (by omega), e1]
        exact nI_add i 1
      · rw [x_up_sn (by omega), x_up_ss]
  · have hf2 := g_rp2_lt z
    rw [e1, e2]
    exact i_le (by omega) (by omega) (fun g => absurd g (by omega)) (fun _ => i_m1' (by omega) (fin1 ρ1 z f e1 e2))
end RN
theorem z_16 : z_p16 g_R := by
  intro σ τ ρ θ hR a b c3
  obtain ⟨N, C, w, hX, hM, hV⟩ := id hR
  obtain ⟨hN, hW, hF, hR0, hC, hA, hB⟩ := id hX
  have hb := hN.1.2
  unfold wL_run wX10_run wX10_run_67
  have key1 : g_rg a (N 0 1) → g_rg b (N 0 1) → ¬ g_rn c3 0 3 → wX11_run a b c3 ρ θ (fun b ρ1 θ1 => wX11_thrown ρ1 θ1 (fun th ρ2 θ2 => th = 2 ∧ ((2 : Int32) = 0 → τ 87 0 = b.toInt64) ∧ g_R σ τ ρ2 θ2)) := fun c c2 d => by
    unfold wX11_run wX11_run_32 wX11_run_39
    exact sM_notTwo hM (fun _ _ ρ' f h5 hM' hL => i_zer' (sM_inr (l := 0) (n := 3) (by omega) (by decide) (by decide) (fun g => absurd g d) (fun _ => i_zer' (sM_thr1 (i_one' (q_no (hR.fr (x_fq.rf _) rfl (f.up5 2)) (x_up_ss _ _ _ _) (by decide))))))) (fun g => absurd ⟨c, c2⟩ g)
  have key2 : ¬ (g_rg a (N 0 1) ∧ g_rg b (N 0 1)) → wX11_run a b c3 ρ θ (fun b ρ1 θ1 => wX11_thrown ρ1 θ1 (fun th ρ2 θ2 => th = 1 ∧ ((1 : Int32) = 0 → τ 87 0 = b.toInt64) ∧ g_R σ τ ρ2 θ2)) := fun c => by
    unfold wX11_run wX11_run_39
    exact sM_notTwo hM (fun c1 c2 => absurd ⟨c1, c2⟩ c) (fun _ ρ' f h5 => i_one (q_no (hR.fr (x_fq.rf _) rfl f) h5 (by decide)))
  have bad : ¬ (g_rg a (N 0 1) ∧ g_rg b (N 0 1)) → (eIO = eIO ∧ wX11_run a b c3 ρ θ (fun b ρ1 θ1 => wX11_thrown ρ1 θ1 (fun th ρ2 θ2 => th = 1 ∧ ((1 : Int32) = 0 → τ 87 0 = b.toInt64) ∧ g_R σ τ ρ2 θ2))) ∨ (eIO = eIA ∧ wX11_run a b c3 ρ θ (fun b ρ1 θ1 => wX11_thrown ρ1 θ1 (fun th ρ2 θ2 => th = 2 ∧ ((2 : Int32) = 0 → τ 87 0 = b.toInt64) ∧ g_R σ τ ρ2 θ2))) := fun z => by
    left
    exact ⟨rfl, key2 z⟩
  have bad2 : g_rg a (N 0 1) → g_rg b (N 0 1) → ¬ g_rn c3 0 3 → (eIA = eIO ∧ wX11_run a b c3 ρ θ (fun b ρ1 θ1 => wX11_thrown ρ1 θ1 (fun th ρ2 θ2 => th = 1 ∧ ((1 : Int32) = 0 → τ 87 0 = b.toInt64) ∧ g_R σ τ ρ2 θ2))) ∨ (eIA = eIA ∧ wX11_run a b c3 ρ θ (fun b ρ1 θ1 => wX11_thrown ρ1 θ1 (fun th ρ2 θ2 => th = 2 ∧ ((2 : Int32) = 0 → τ 87 0 = b.toInt64) ∧ g_R σ τ ρ2 θ2))) := fun c c2 z => by
    right
    exact ⟨rfl, key1 c c2 z⟩
  refine sX_chkTruck hN hF (fun c => sX_chkTruck hN hF (fun c2 => sX_chkRange (l := 0) (m := 2) (by omega) (by omega) (fun d => ?_) (fun d => bad2 c c2 d)) (fun c2 => bad (fun z => c2 z.2))) (fun c => bad (fun z => c z.1))
  obtain ⟨t, ht, rfl⟩ := id c
  obtain ⟨o, ho, rfl⟩ := id c2
  obtain ⟨m, m0, m1, rfl⟩ := id d
  have mm : ∀ (Q : Int32 → x_S → x_L → Prop), (∀ ρ' : x_S, m_fr ρ ρ' → ρ' 0 5 = 0 → g_M N C ρ' → (¬ nI t = nI o → wX11_layRun (nI t) (nI o) ρ' θ (fun σ52 τ52 => (¬ nI m = 0 → (¬ nI m = 1 → wX11_run_82 Q (σ52 0 21) σ52 τ52) ∧ (nI m = 1 → wX11_run_82 Q (σ52 0 20) σ52 τ52)) ∧ (nI m = 0 → wX11_run_82 Q (σ52 0 19) σ52 τ52))) ∧ (nI t = nI o → Q (-3) ρ' θ)) → wX11_run (nI t) (nI o) (nI m) ρ θ Q := fun Q hh => by
    unfold wX11_run wX11_run_32
    exact sM_notTwo hM (fun _ _ ρ' f h5 hM' hL => i_zer' (sM_inr (l := 0) (n := 3) (by omega) (by decide) (by decide) (fun _ => i_one (sM_thr0 (i_zer (hh ρ' f h5 hM')))) (fun g => absurd d g))) (fun g => absurd ⟨c, c2⟩ g)
  refine i_ne (by omega) (by omega) (fun g => ?_) (fun g => mm _ (fun ρ' f h5 hM' => i_ne (by omega) (by omega) (fun g2 => absurd g g2) (fun _ => q_ok (hR.fr (x_fq.rf _) rfl f) h5)))
  have fin : ∀ (v4 v5 v6 : Int32) (σ' : x_S), x_f59 σ σ' → σ' 59 4 = v4 → σ' 59 5 = v5 → σ' 59 6 = v6 → (∀ (ρ' : x_S) (Q : x_S → x_L → Prop), g_M N C ρ' → (∀ ρ2 : x_S, m_f1 ρ' ρ2 → ρ2 0 19 = v4 → ρ2 0 20 = v5 → ρ2 0 21 = v6 → Q ρ2 θ) → wX11_layRun (nI t) (nI o) ρ' θ Q) → (¬ nI m = 0 → (¬ nI m = 1 → wX11_run (nI t) (nI o) (nI m) ρ θ (fun b ρ1 θ1 => wX11_thrown ρ1 θ1 (fun th ρ2 θ2 => th = 0 ∧ ((0 : Int32) = 0 → (x_upL τ 87 0 (σ' 59 6).toInt64) 87 0 = b.toInt64) ∧ g_R σ' (x_upL τ 87 0 (σ' 59 6).toInt64) ρ2 θ2))) ∧ (nI m = 1 → wX11_run (nI t) (nI o) (nI m) ρ θ (fun b ρ1 θ1 => wX11_thrown ρ1 θ1 (fun th ρ2 θ2 => th = 0 ∧ ((0 : Int32) = 0 → (x_upL τ 87 0 (σ' 59 5).toInt64) 87 0 = b.toInt64) ∧ g_R σ' (x_upL τ 87 0 (σ' 59 5).toInt64) ρ2 θ2)))) ∧ (nI m = 0 → wX11_run (nI t) (nI o) (nI m) ρ θ (fun b ρ1 θ1 => wX11_thrown ρ1 θ1 (fun th ρ2 θ2 => th = 0 ∧ ((0 : Int32) = 0 → (x_upL τ 87 0 (σ' 59 4).toInt64) 87 0 = b.toInt64) ∧ g_R σ' (x_upL τ 87 0 (σ' 59 4).toInt64) ρ2 θ2))) := fun v4 v5 v6 σ' fx e4 e5 e6 lay => by
    rw [e4, e5, e6]
    have done : ∀ ρ' ρ2 : x_S, m_fr ρ ρ' → ρ' 0 5 = 0 → m_f1 ρ' ρ2 → g_R σ' τ ρ2 θ ∧ ρ2 0 5 = 0 := fun ρ' ρ2 f h5 f1 => ⟨hR.fr fx.fq rfl (f.tr f1.fr), by rw [f1.2 5 (by omega) (by omega) (by omega)]; exact h5⟩
    refine ⟨fun g0 => ⟨fun g1 => mm _ (fun ρ' f h5 hM' => ⟨fun _ => lay ρ' _ hM' (fun ρ2 f1 e1 e2 e3 => ⟨fun _ => ⟨fun _ => ?_, fun y => absurd y g1⟩, fun y => absurd y g0⟩), fun y => absurd ((nI_eq (by omega) (by omega)).mp y) g⟩), fun g1 => mm _ (fun ρ' f h5 hM' => ⟨fun _ => lay ρ' _ hM' (fun ρ2 f1 e1 e2 e3 => ⟨fun _ => ⟨fun y => absurd g1 y, fun _ => ?_⟩, fun y => absurd y g0⟩), fun y => absurd ((nI_eq (by omega) (by omega)).mp y) g⟩)⟩, fun g0 => mm _ (fun ρ' f h5 hM' => ⟨fun _ => lay ρ' _ hM' (fun ρ2 f1 e1 e2 e3 => ⟨fun y => absurd g0 y, fun _ => ?_⟩), fun y => absurd ((nI_eq (by omega) (by omega)).mp y) g⟩)⟩
    · unfold wX11_run_82
      obtain ⟨d1, d2⟩ := done ρ' ρ2 f h5 f1
      rw [e3]
      exact q_ok d1 d2
    · unfold wX11_run_82
      obtain ⟨d1, d2⟩ := done ρ' ρ2 f h5 f1
      rw [e2]
      exact q_ok d1 d2
    · unfold wX11_run_82
      obtain ⟨d1, d2⟩ := done ρ' ρ2 f h5 f1
      rw [e1]
      exact q_ok d1 d2
  refine sX_findRun hN hF hR0 ht ho (fun z σ' fx e4 e5 e6 => ?_) (fun z σ' fx e4 e5 e6 => ?_)
  · exact fin _ _ _ σ' fx e4 e5 e6 (fun ρ' Q hM' hh => sM_layRun hN hM'.2.2.1 ht ho (fun _ => hh) (fun y => absurd z y))
  · exact fin _ _ _ σ' fx e4 e5 e6 (fun ρ' Q hM' hh => sM_layRun hN hM'.2.2.1 ht ho (fun y => absurd y z) (fun _ => hh))
/-- is a truck on the road in the minute -/
def g_onm (N C : g_F) (a : Int32) (r s : Nat) : Bool := decide (N 9 s = r ∧ ¬ a < nI (g_en N C s) ∧ ¬ nI (g_lv N C s) ≤ a)
theorem g_onm_iff {N C : g_F} {a : Int32} {r s : Nat} : g_onm N C a r s = true ↔ N 9 s = r ∧ ¬ a < nI (g_en N C s) ∧ ¬ nI (g_lv N C s) ≤ a := decide_eq_true_iff
theorem g_bt_t {p : Bool} {t : Nat} (h : p = true) : g_bt p t = 2 ^ t := if_pos h
theorem g_bt_f {p : Bool} {t : Nat} (h : ¬ p = true) : g_bt p t = 0 := if_neg h
theorem z_30 : z_p30 g_R := by
  intro σ τ ρ θ hR a b
  obtain ⟨N, C, w, hX, hM, hV⟩ := id hR
  obtain ⟨hN, hW, hF, hR0, hC, hA, hB⟩ := id hX
  have hb := hN.1.2
  have hb0 := hN.1.1
  have hM0 := hM.fr (m_fr.up0 (v := 0) (Or.inl rfl))
  unfold wL_onRoad wX10_onRoad
  refine sX_chkRoad hN hF (fun c => ?_) (fun c => ⟨rfl, ?_⟩)
  · obtain ⟨r, hr, rfl⟩ := id c
    have b1 := g_bg_b N (r + 1)
    have bm := g_bg_mono N (show r ≤ r + 1 by omega)
    have be := g_bg_mono N (show r + 1 ≤ N 0 0 from hr)
    have hE := hA.2.2.1
    have key : g_orv (fun j => g_bt (g_onm N C b r (w (g_bg N r + j))) (w (g_bg N r + j) / 10)) (g_bg N (r + 1) - g_bg N r) = g_fold N (fun m s => m ||| g_bt (g_onm N C b r s) (s / 10)) 0 120 := by
      apply g_bit_eq
      intro k
      rw [g_orv_bit, g_fold_bit]
      constructor
      · rintro ⟨j, hj, h⟩
        obtain ⟨h1, h2⟩ := hE.1 r (g_bg N r + j) hr (by omega) (by omega)
        exact ⟨_, g_is_lt hN h1, h1, h⟩
      · rintro ⟨s, -, hs, h⟩
        obtain ⟨i, i1, i2, i3⟩ := hE.2.1 s hs
        rw [(of_decide_eq_true (g_bt_bit.mp h).1).1] at i1 i2
        refine ⟨i - g_bg N r, by omega, ?_⟩
        show (g_bt (g_onm N C b r (w (g_bg N r + (i - g_bg N r)))) (w (g_bg N r + (i - g_bg N r)) / 10)).testBit k = true
        rw [show g_bg N r + (i - g_bg N r) = i by omega, i3]
        exact h
    refine ⟨i_in (by omega) (by omega), ?_⟩
    rw [i_cl (by omega), hR0.2.2.1 r (by omega)]
    refine x_F4 (fun _ => True) (fun _ => nI r) (fun _ => b) (fun i => nI (g_orv (fun j => g_bt (g_onm N C b r (w (g_bg N r + j))) (w (g_bg N r + j) / 10)) (i - g_bg N r))) (fun i => nI i) (lo := g_bg N r) (n := g_bg N (r + 1)) bm (fun K i h1 h2 _ hK => ?_) (fun K _ => ?_) trivial rfl rfl (by rw [Nat.sub_self]; rfl) rfl
    · unfold wX10_onRoad_18 wX10_onRoad_84
      obtain ⟨hs, hrd⟩ := hE.1 r i hr h1 h2
      have hl := g_is_lt hN hs
      have ht := hs.1
      have hK := hK trivial
      rw [show i + 1 - g_bg N r = (i - g_bg N r) + 1 by omega, g_orv, show g_bg N r + (i - g_bg N r) = i by omega] at hK
      rw [show (nI r + 1 : Int32) = nI (r + 1) from nI_add r 1, i_cl (by omega), i_cl (by omega), hR0.2.2.1 (r + 1) hr, show σ 39 i = _ from hA.2.1 i (by omega), i_cl (by omega), show σ 37 (w i) = _ from (hA.1 _ hs).1, show σ 38 (w i) = _ from (hA.1 _ hs).2, show (nI (w i) / 10 : Int32) = nI (w i / 10) from nI_div (b := 10) (by omega) (by omega) (by omega), nI_bit _ (by omega), nI_or, show (nI i + 1 : Int32) = nI (i + 1) from nI_add _ 1]
      have no : ¬ (¬ b < nI (g_en N C (w i)) ∧ ¬ nI (g_lv N C (w i)) ≤ b) → K (nI r) b (nI (g_orv (fun j => g_bt (g_onm N C b r (w (g_bg N r + j))) (w (g_bg N r + j) / 10)) (i - g_bg N r))) (nI (i + 1)) σ τ := fun z => by
        rw [g_bt_f (fun y => z (g_onm_iff.mp y).2), Nat.or_zero] at hK
        exact hK
      refine ⟨i_in (by omega) (by omega), i_le (by omega) (by omega) (fun g => absurd g (by omega)) (fun _ => ⟨i_in (by omega) (by omega), i_in hl (by omega), fun g => no (fun z => z.1 g), fun g => ⟨fun g2 => no (fun z => z.2 g2), fun g2 => ?_⟩⟩)⟩
      rw [g_bt_t (g_onm_iff.mpr ⟨hrd, g, g2⟩)] at hK
      exact hK
    · unfold wX10_onRoad_18
      rw [show (nI r + 1 : Int32) = nI (r + 1) from nI_add r 1, i_cl (by omega), hR0.2.2.1 (r + 1) hr]
      refine ⟨i_in (by omega) (by omega), i_le (by omega) (by omega) (fun _ => ?_) (fun g => absurd g (by omega))⟩
      rw [key]
      unfold wX11_onRoad wX11_onRoad_19
      refine sM_isRoad hN hM0.2.2.1 (fun _ => i_one (sM_thr0 (i_zer ?_))) (fun g => absurd c g)
      refine sM_begin hM (fun ρ' f h5 hM' hL => ?_)
      refine x_F4 (fun _ => True) (fun _ => nI r) (fun _ => b) (fun i => nI (g_fold N (fun m s => m ||| g_bt (g_onm N C b r s) (s / 10)) 0 (10 * i))) (fun i => nI i) (lo := 0) (n := N 0 1) (Nat.zero_le _) (fun K i _ hi _ hK => ?_) (fun K _ => ?_) trivial rfl rfl rfl rfl
      · unfold wX11_onRoad_37
        rw [e_c1, hM'.2.2.1.1.2]
        refine i_le (by omega) (by omega) (fun g => absurd g (by omega)) (fun _ => ?_)
        have h10 := (hN.2.2.1 i hi).2.2.2.2
        refine x_F5 (fun _ => True) (fun _ => nI r) (fun _ => b) (fun p => nI (g_fold N (fun m s => m ||| g_bt (g_onm N C b r s) (s / 10)) 0 (10 * i + p))) (fun _ => nI i) (fun p => nI p) (lo := 0) (n := N 8 i) (Nat.zero_le _) (fun K2 p _ hp _ hK2 => ?_) (fun K2 _ => ?_) trivial rfl rfl rfl rfl rfl
        · unfold wX11_onRoad_51 wX11_onRoad_114 wX11_onRoad_115
          obtain ⟨hx, x1, x2, c1, x3, -⟩ := g_is_of hN hi hp
          have hr2 := hN.2.2.2 i p hi hp
          have hK2 := hK2 trivial
          rw [g_fold_s hN hi hp, x1] at hK2
          rw [show (nI p + 1 : Int32) = nI (p + 1) from nI_add p 1]
          have no : ¬ (N 9 (10 * i + p) = r ∧ ¬ b < nI (g_en N C (10 * i + p)) ∧ ¬ nI (g_lv N C (10 * i + p)) ≤ b) → K2 (nI r) b (nI (g_fold N (fun m s => m ||| g_bt (g_onm N C b r s) (s / 10)) 0 (10 * i + p)) ||| 0) (nI i) (nI (p + 1)) ρ' θ := fun z => by
            rw [g_bt_f (fun y => z (g_onm_iff.mp y)), Nat.or_zero] at hK2
            rw [nI_or0]
            exact hK2
          refine sM_places hN hM'.2.2.1 hi (i_le (by omega) (by omega) (fun g => absurd g (by omega)) (fun _ => sM_road hN hM'.2.2.1 hi hp ?_))
          refine i_ne (by omega) (by omega) (fun g => no (fun z => g z.1)) (fun g => sM_spot ⟨i_in c1 (by omega), ?_⟩)
          rw [i_cl (by omega), (hL.1 _ hx).1]
          refine ⟨fun g2 => no (fun z => z.2.1 g2), fun g2 => sM_spot ⟨i_in c1 (by omega), ?_⟩⟩
          rw [i_cl (by omega), (hL.1 _ hx).2]
          refine ⟨fun g3 => no (fun z => z.2.2 g3), fun g3 => ?_⟩
          rw [g_bt_t (g_onm_iff.mpr ⟨g, g2, g3⟩)] at hK2
          rw [nI_bit _ (by omega), nI_or]
          exact hK2
        · unfold wX11_onRoad_51
          refine sM_places hN hM'.2.2.1 hi (i_le (by omega) (by omega) (fun _ => ?_) (fun g => absurd g (by omega)))
          rw [g_fold_t hN hi, show (nI i + 1 : Int32) = nI (i + 1) from nI_add i 1]
          exact hK trivial
      · unfold wX11_onRoad_37
        rw [e_c1, hM'.2.2.1.1.2, g_fold_e hN]
        exact i_le (by omega) (by omega) (fun _ => q_ok (hR.fr (x_fq.rf _) rfl f) h5) (fun g => absurd g (by omega))
  · unfold wX11_onRoad wX11_onRoad_19
    refine sM_isRoad hN hM0.2.2.1 (fun g => absurd g c) (fun _ => i_zer' (sM_thr1 (i_one' ?_)))
    exact q_no (hR.fr (x_fq.rf _) rfl ((m_fr.up0 (Or.inl rfl)).up5 1)) (x_up_ss _ _ _ _) (by decide)
/-- is a truck never with others -/
def g_lone (N C : g_F) (t : Nat) : Bool := decide (∀ q, q < N 8 t → ¬ 1 < g_tog N C (10 * t + q))
section LN
variable {N C : g_F} {w : Nat → Nat} {σ ρ : x_S} {τ θ : x_L} {Q : Int32 → x_S → x_L → Prop}
theorem sX_meets (hX : g_X N C w σ τ) {t : Nat} (ht : t < N 0 1) (h0 : g_lone N C t = true → Q 0 σ τ) (h1 : ¬ g_lone N C t = true → Q 1 σ τ) : wX6_meetsOthers 33 (nI t) σ τ Q := by
  obtain ⟨hN, hW, hF, hR, hC, hA, hB⟩ := id hX
  have hb := hN.1.2
  have h10 := (hN.2.2.1 t ht).2.2.2.2
  unfold wX6_meetsOthers
  refine x_F2 (fun i => ∀ q, q < i → ¬ 1 < g_tog N C (10 * t + q)) (fun _ => nI t) (fun i => nI (10 * t + i)) (lo := 0) (n := N 8 t) (Nat.zero_le _) (fun K i _ hi hP hK => ?_) (fun K hP => ?_) (fun q hq => absurd hq (Nat.not_lt_zero _)) rfl (e_10 t)
  · unfold wX6_meetsOthers_5
    obtain ⟨hs, -, -, b1, -⟩ := g_is_of hN ht hi
    refine ⟨i_in (by omega) (by omega), ?_⟩
    rw [i_cl (by omega), hR.1 t ht, show (nI (10 * t + i) + 1 : Int32) = nI (10 * t + (i + 1)) from nI_add _ 1]
    refine i_le (by omega) (by omega) (fun g => absurd g (by omega)) (fun _ => sX_inCompany hX hs (fun z => i_one' (h1 (fun y => of_decide_eq_true y i hi z))) (fun z => i_zer (hK (fun q hq => ?_))))
    by_cases e : q = i
    · rw [e]
      exact z
    · exact hP q (by omega)
  · unfold wX6_meetsOthers_5
    refine ⟨i_in (by omega) (by omega), ?_⟩
    rw [i_cl (by omega), hR.1 t ht]
    exact i_le (by omega) (by omega) (fun _ => h0 (decide_eq_true hP)) (fun g => absurd g (by omega))
end LN
theorem z_31 : z_p31 g_R := by
  intro σ τ ρ θ hR
  obtain ⟨N, C, w, hX, hM, hV⟩ := id hR
  obtain ⟨hN, hW, hF, hR0, hC, hA, hB⟩ := id hX
  have hb := hN.1.2
  unfold wX10_alone
  refine x_F2 (fun _ => True) (fun i => nI (g_orv (fun t => g_bt (g_lone N C t) t) i)) (fun i => nI i) (lo := 0) (n := N 0 1) (Nat.zero_le _) (fun K i h1 h2 _ hK => ?_) (fun K _ => ?_) trivial rfl rfl
  · unfold wX10_alone_4 wX10_alone_32
    have hK := hK trivial
    rw [g_orv] at hK
    rw [hF.1.2, show (nI i + 1 : Int32) = nI (i + 1) from nI_add _ 1]
    refine i_le (by omega) (by omega) (fun g => absurd g (by omega)) (fun _ => sX_meets hX h2 (fun z => i_zer' ?_) (fun z => i_one ?_))
    · unfold g_bt at hK
      rw [if_pos z] at hK
      rw [nI_bit _ (by omega), nI_or]
      exact hK
    · unfold g_bt at hK
      rw [if_neg z, Nat.or_zero] at hK
      exact hK
  · unfold wX10_alone_4
    rw [hF.1.2]
    refine i_le (by omega) (by omega) (fun _ => ?_) (fun g => absurd g (by omega))
    unfold wX11_alone
    refine sM_begin hM (fun ρ' f h5 hM' hL => ?_)
    refine x_F2 (fun _ => True) (fun i => nI (g_orv (fun t => g_bt (g_lone N C t) t) i)) (fun i => nI i) (lo := 0) (n := N 0 1) (Nat.zero_le _) (fun K i h1 h2 _ hK => ?_) (fun K _ => ?_) trivial rfl rfl
    · unfold wX11_alone_13
      have h10 := (hN.2.2.1 i h2).2.2.2.2
      have hK := hK trivial
      rw [g_orv] at hK
      rw [e_c1, hM'.2.2.1.1.2]
      refine i_le (by omega) (by omega) (fun g => absurd g (by omega)) (fun _ => ?_)
      refine x_F4 (fun _ => True) (fun _ => nI (g_orv (fun t => g_bt (g_lone N C t) t) i)) (fun _ => nI i) (fun p => nI (g_one (decide (∀ q, q < p → ¬ 1 < g_tog N C (10 * i + q))))) (fun p => nI p) (lo := 0) (n := N 8 i) (Nat.zero_le _) (fun K2 p _ hp _ hK2 => ?_) (fun K2 _ => ?_) trivial rfl rfl (by rw [g_one_t (decide_eq_true (fun q hq => absurd hq (Nat.not_lt_zero _)))]; rfl) rfl
      · unfold wX11_alone_28 wX11_alone_59
        obtain ⟨hs, -, -, b1, -⟩ := g_is_of hN h2 hp
        have htb := g_tog_b (C := C) hN (10 * i + p)
        have htp := g_tog_pos hN hW hs
        have hK2 := hK2 trivial
        rw [show (nI p + 1 : Int32) = nI (p + 1) from nI_add p 1]
        refine sM_places hN hM'.2.2.1 h2 (i_le (by omega) (by omega) (fun g => absurd g (by omega)) (fun _ => sM_spot ⟨i_in b1 (by omega), ?_⟩))
        rw [i_cl (by omega), (hL.2.2.1 _ hs).2]
        refine i_ne (b := 1) (by omega) (by omega) (fun g => ?_) (fun g => ?_)
        · rw [g_one_f (fun y => (of_decide_eq_true y) p (by omega) (by omega))] at hK2
          have e : (nI (g_one (decide (∀ q, q < p → ¬ 1 < g_tog N C (10 * i + q)))) &&& 0 : Int32) = nI 0 := by
            rcases (show g_one (decide (∀ q, q < p → ¬ 1 < g_tog N C (10 * i + q))) = 0 ∨ g_one (decide (∀ q, q < p → ¬ 1 < g_tog N C (10 * i + q))) = 1 by unfold g_one; split <;> simp) with e | e <;> rw [e] <;> rfl
          rw [e]
          exact hK2
        · have e2 : decide (∀ q, q < p + 1 → ¬ 1 < g_tog N C (10 * i + q)) = decide (∀ q, q < p → ¬ 1 < g_tog N C (10 * i + q)) := by
            apply Bool.eq_iff_iff.mpr
            rw [decide_eq_true_iff, decide_eq_true_iff]
            constructor
            · exact fun h q hq => h q (by omega)
            · intro h q hq
              by_cases z : q = p
              · rw [z]
                omega
              · exact h q (by omega)
          rw [e2] at hK2
          have e : (nI (g_one (decide (∀ q, q < p → ¬ 1 < g_tog N C (10 * i + q)))) &&& 1 : Int32) = nI (g_one (decide (∀ q, q < p → ¬ 1 < g_tog N C (10 * i + q)))) := by
            rcases (show g_one (decide (∀ q, q < p → ¬ 1 < g_tog N C (10 * i + q))) = 0 ∨ g_one (decide (∀ q, q < p → ¬ 1 < g_tog N C (10 * i + q))) = 1 by unfold g_one; split <;> simp) with e | e <;> rw [e] <;> rfl
          rw [e]
          exact hK2
      · unfold wX11_alone_28 wX11_alone_79
        rw [show (nI i + 1 : Int32) = nI (i + 1) from nI_add i 1]
        refine sM_places hN hM'.2.2.1 h2 (i_le (by omega) (by omega) (fun _ => ?_) (fun g => absurd g (by omega)))
        by_cases z : g_lone N C i = true
        · unfold g_bt at hK
          rw [if_pos z] at hK
          rw [show nI (g_one (decide (∀ q, q < N 8 i → ¬ 1 < g_tog N C (10 * i + q)))) = 1 from congrArg nI (g_one_t z)]
          refine i_one' ?_
          rw [nI_bit _ (by omega), nI_or]
          exact hK
        · unfold g_bt at hK
          rw [if_neg z] at hK
          rw [show nI (g_one (decide (∀ q, q < N 8 i → ¬ 1 < g_tog N C (10 * i + q)))) = 0 from congrArg nI (g_one_f z)]
          refine i_zer ?_
          rw [show (nI (g_orv (fun t => g_bt (g_lone N C t) t) i) ||| 0 : Int32) = _ from nI_or _ 0]
          exact hK
    · unfold wX11_alone_13
      rw [e_c1, hM'.2.2.1.1.2]
      exact i_le (by omega) (by omega) (fun _ => ⟨rfl, hR.fr (x_fq.rf _) rfl f⟩) (fun g => absurd g (by omega))
/-- what is saved on a road; the best road of the first n -/
def g_svr (N C : g_F) (r : Nat) : Nat := g_all N (fun s => if N 9 s = r then g_sav N C s else 0)
def g_br (N C : g_F) : Nat → Int32 × Nat
  | 0 => (-1, 0)
  | n + 1 => if (g_br N C n).2 < g_svr N C n then (nI n, g_svr N C n) else g_br N C n
theorem g_svr_b {N C : g_F} (hN : g_WN N) (hW : g_WC N C) (r : Nat) : g_svr N C r ≤ 18360000 := by
  have := g_all_b (N := N) (f := fun s => if N 9 s = r then g_sav N C s else 0) (b := 153000) (fun s hs => by
    show (if N 9 s = r then g_sav N C s else 0) ≤ 153000
    split
    · exact (g_sav_b hN hW hs).2
    · omega)
  exact this
theorem g_br_b {N C : g_F} (hN : g_WN N) (hW : g_WC N C) : ∀ n, (g_br N C n).2 ≤ 18360000
  | 0 => Nat.zero_le _
  | n + 1 => by
    rw [g_br]
    split
    · exact g_svr_b hN hW n
    · exact g_br_b hN hW n
theorem z_33 : z_p33 g_R := by
  intro σ τ ρ θ hR
  obtain ⟨N, C, w, hX, hM, hV⟩ := id hR
  obtain ⟨hN, hW, hF, hR0, hC, hA, hB⟩ := id hX
  have hb := hN.1.2
  have hb0 := hN.1.1
  unfold wX10_bestRoad
  refine x_F3 (fun _ => True) (fun i => (g_br N C i).1) (fun i => nI (g_br N C i).2) (fun i => nI i) (lo := 0) (n := N 0 0) (Nat.zero_le _) (fun K i h1 h2 _ hK => ?_) (fun K _ => ?_) trivial rfl rfl rfl
  · unfold wX10_bestRoad_6 wX10_bestRoad_57
    have hK := hK trivial
    have q1 := g_br_b hN hW i
    have q2 := g_svr_b hN hW i
    have b1 := g_bg_b N (i + 1)
    have bm := g_bg_mono N (show i ≤ i + 1 by omega)
    have be := g_bg_mono N (show i + 1 ≤ N 0 0 from h2)
    rw [hF.1.1, show (nI i + 1 : Int32) = nI (i + 1) from nI_add _ 1, i_cl (by omega), i_cl (by omega), hR0.2.2.1 i (by omega), hR0.2.2.1 (i + 1) h2]
    refine i_le (by omega) (by omega) (fun g => absurd g (by omega)) (fun _ => ⟨i_in (by omega) (by omega), i_in (by omega) (by omega), sX_savedOnRows hX bm be ?_⟩)
    rw [← g_road_row hN hA.2.2.1 h2 (g_sav N C)]
    refine i_le (a := g_svr N C i) (by omega) (by omega) (fun g => ?_) (fun g => ?_)
    · rw [g_br, if_neg (by omega)] at hK
      exact hK
    · rw [g_br, if_pos g] at hK
      exact hK
  · unfold wX10_bestRoad_6
    rw [hF.1.1]
    refine i_le (by omega) (by omega) (fun _ => ?_) (fun g => absurd g (by omega))
    unfold wX11_bestRoad
    refine sM_begin hM (fun ρ' f h5 hM' hL => ?_)
    have sv : ∀ (r : Nat) (Q : Int32 → x_S → x_L → Prop), r < N 0 0 → Q (nI (g_svr N C r)) ρ' θ → wX11_savedOn (nI r) ρ' θ Q := fun r Q hr h => by
      unfold wX11_savedOn
      refine x_F3 (fun _ => True) (fun _ => nI r) (fun i => nI (g_part N (fun s => if N 9 s = r then g_sav N C s else 0) (10 * i))) (fun i => nI i) (lo := 0) (n := N 0 1) (Nat.zero_le _) (fun K i _ hi _ hK => ?_) (fun K _ => ?_) trivial rfl rfl rfl
      · unfold wX11_savedOn_4
        have h10 := (hN.2.2.1 i hi).2.2.2.2
        rw [e_c1, hM'.2.2.1.1.2]
        refine i_le (by omega) (by omega) (fun g => absurd g (by omega)) (fun _ => ?_)
        refine x_F4 (fun _ => True) (fun _ => nI r) (fun p => nI (g_part N (fun s => if N 9 s = r then g_sav N C s else 0) (10 * i + p))) (fun _ => nI i) (fun p => nI p) (lo := 0) (n := N 8 i) (Nat.zero_le _) (fun K2 p _ hp _ hK2 => ?_) (fun K2 _ => ?_) trivial rfl rfl rfl rfl
        · unfold wX11_savedOn_17 wX11_savedOn_54
          obtain ⟨hx, -, -, c1, -⟩ := g_is_of hN hi hp
          have hr2 := hN.2.2.2 i p hi hp
          have hK2 := hK2 trivial
          rw [g_part_s hN hi hp] at hK2
          rw [show (nI p + 1 : Int32) = nI (p + 1) from nI_add p 1]
          refine sM_places hN hM'.2.2.1 hi (i_le (by omega) (by omega) (fun g => absurd g (by omega)) (fun _ => sM_road hN hM'.2.2.1 hi hp ?_))
          refine i_ne (by omega) (by omega) (fun g => ?_) (fun g => sM_spot ⟨i_in c1 (by omega), ?_⟩)
          · rw [if_neg g] at hK2
            rw [show (nI (g_part N (fun s => if N 9 s = r then g_sav N C s else 0) (10 * i + p)) + 0 : Int32) = _ from nI_add _ 0]
            exact hK2
          · rw [if_pos g] at hK2
            rw [i_cl (by omega), (hL.2.2.2.2 _ hx).2.1, nI_add]
            exact hK2
        · unfold wX11_savedOn_17
          refine sM_places hN hM'.2.2.1 hi (i_le (by omega) (by omega) (fun _ => ?_) (fun g => absurd g (by omega)))
          rw [g_part_t hN hi, show (nI i + 1 : Int32) = nI (i + 1) from nI_add i 1]
          exact hK trivial
      · unfold wX11_savedOn_4
        rw [e_c1, hM'.2.2.1.1.2, g_part_e hN]
        exact i_le (by omega) (by omega) (fun _ => h) (fun g => absurd g (by omega))
    refine x_F3 (fun _ => True) (fun i => (g_br N C i).1) (fun i => nI (g_br N C i).2) (fun i => nI i) (lo := 0) (n := N 0 0) (Nat.zero_le _) (fun K i h1 h2 _ hK => ?_) (fun K _ => ?_) trivial rfl rfl rfl
    · unfold wX11_bestRoad_15 wX11_bestRoad_45
      have hK := hK trivial
      have q1 := g_br_b hN hW i
      have q2 := g_svr_b hN hW i
      rw [show (0 : Int32).toNatClampNeg = 0 from rfl, hM'.2.2.1.1.1, show (nI i + 1 : Int32) = nI (i + 1) from nI_add i 1]
      refine i_le (by omega) (by omega) (fun g => absurd g (by omega)) (fun _ => sv i _ h2 (i_lt (by omega) (by omega) (fun g => sv i _ h2 ?_) (fun g => ?_)))
      · rw [g_br, if_pos g] at hK
        exact hK
      · rw [g_br, if_neg (by omega)] at hK
        exact hK
    · unfold wX11_bestRoad_15
      rw [show (0 : Int32).toNatClampNeg = 0 from rfl, hM'.2.2.1.1.1]
      exact i_le (by omega) (by omega) (fun _ => ⟨rfl, hR.fr (x_fq.rf _) rfl f⟩) (fun g => absurd g (by omega))
/-- a stop's part of the digest -/
def g_dst1 (N C : g_F) (d : Int32) (s : Nat) : Int32 := (31 * ((31 * ((31 * d) + nI (g_en N C s))) + nI (C 2 s))) + nI (g_fuel N C s)
theorem z_43 : z_p43 g_R := by
  intro σ τ ρ θ hR
  obtain ⟨N, C, w, hX, hM, hV⟩ := id hR
  obtain ⟨hN, hW, hF, hR0, hC, hA, hB⟩ := id hX
  have hb := hN.1.2
  unfold wX10_digest
  refine x_F2 (fun _ => True) (fun i => g_fold N (g_dst1 N C) 1 (10 * i)) (fun i => nI i) (lo := 0) (n := N 0 1) (Nat.zero_le _) (fun K i _ hi _ hK => ?_) (fun K _ => ?_) trivial rfl rfl
  · unfold wX10_digest_4
    have h10 := (hN.2.2.1 i hi).2.2.2.2
    rw [hF.1.2]
    refine i_le (by omega) (by omega) (fun g => absurd g (by omega)) (fun _ => ?_)
    refine x_F3 (fun _ => True) (fun p => g_fold N (g_dst1 N C) 1 (10 * i + p)) (fun _ => nI i) (fun p => nI (10 * i + p)) (lo := 0) (n := N 8 i) (Nat.zero_le _) (fun K2 p _ hp _ hK2 => ?_) (fun K2 _ => ?_) trivial rfl rfl (e_10 i)
    · unfold wX10_digest_20
      obtain ⟨hx, -, -, c1, -⟩ := g_is_of hN hi hp
      have hK2 := hK2 trivial
      rw [g_fold_s hN hi hp] at hK2
      refine ⟨i_in (by omega) (by omega), ?_⟩
      rw [i_cl (by omega), hR0.1 i hi, i_cl (by omega), show σ 37 (10 * i + p) = _ from (hA.1 _ hx).1, show σ 36 (10 * i + p) = _ from (hC.2 _ hx).2, show (nI (10 * i + p) + 1 : Int32) = nI (10 * i + (p + 1)) from nI_add _ 1]
      exact i_le (by omega) (by omega) (fun g => absurd g (by omega)) (fun _ => ⟨i_in c1 (by omega), sX_fuel hN hW hF hC hx (hA.2.2.2.2.1 _ hx).2 hK2⟩)
    · unfold wX10_digest_20
      refine ⟨i_in (by omega) (by omega), ?_⟩
      rw [i_cl (by omega), hR0.1 i hi, g_fold_t hN hi, show (nI i + 1 : Int32) = nI (i + 1) from nI_add i 1]
      exact i_le (by omega) (by omega) (fun _ => hK trivial) (fun g => absurd g (by omega))
  · unfold wX10_digest_4
    rw [hF.1.2]
    refine i_le (by omega) (by omega) (fun _ => ?_) (fun g => absurd g (by omega))
    unfold wX11_digest
    refine sM_begin hM (fun ρ' f h5 hM' hL => ?_)
    refine x_F2 (fun _ => True) (fun i => g_fold N (g_dst1 N C) 1 (10 * i)) (fun i => nI i) (lo := 0) (n := N 0 1) (Nat.zero_le _) (fun K i _ hi _ hK => ?_) (fun K _ => ?_) trivial rfl rfl
    · unfold wX11_digest_13
      have h10 := (hN.2.2.1 i hi).2.2.2.2
      rw [e_c1, hM'.2.2.1.1.2]
      refine i_le (by omega) (by omega) (fun g => absurd g (by omega)) (fun _ => ?_)
      refine x_F3 (fun _ => True) (fun p => g_fold N (g_dst1 N C) 1 (10 * i + p)) (fun _ => nI i) (fun p => nI p) (lo := 0) (n := N 8 i) (Nat.zero_le _) (fun K2 p _ hp _ hK2 => ?_) (fun K2 _ => ?_) trivial rfl rfl rfl
      · unfold wX11_digest_25
        obtain ⟨hx, -, -, c1, -⟩ := g_is_of hN hi hp
        have hK2 := hK2 trivial
        rw [g_fold_s hN hi hp] at hK2
        rw [show (nI p + 1 : Int32) = nI (p + 1) from nI_add p 1]
        refine sM_places hN hM'.2.2.1 hi (i_le (by omega) (by omega) (fun g => absurd g (by omega)) (fun _ => sM_spot ⟨i_in c1 (by omega), ?_⟩))
        rw [i_cl (by omega), (hL.1 _ hx).1]
        exact sM_speed hN hM'.2.2.2 hi hp (sM_fuelAt hN hW hM'.2.2.1 hM'.2.2.2 hi hp (hL.2.2.2.2 _ hx) hK2)
      · unfold wX11_digest_25
        refine sM_places hN hM'.2.2.1 hi (i_le (by omega) (by omega) (fun _ => ?_) (fun g => absurd g (by omega)))
        rw [g_fold_t hN hi, show (nI i + 1 : Int32) = nI (i + 1) from nI_add i 1]
        exact hK trivial
    · unfold wX11_digest_13
      rw [e_c1, hM'.2.2.1.1.2]
      exact i_le (by omega) (by omega) (fun _ => ⟨rfl, hR.fr (x_fq.rf _) rfl f⟩) (fun g => absurd g (by omega))
