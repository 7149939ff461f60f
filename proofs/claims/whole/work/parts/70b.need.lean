/-! the needed speed -/
/-- is a speed enough -/
theorem g_need (N C : g_F) (s m : Nat) : (∃ v, 40 ≤ v ∧ v ≤ N 4 (N 9 s) ∧ g_en N C s + g_min N (N 9 s) v ≤ m ∧ ∀ u, 40 ≤ u → u < v → ¬ g_en N C s + g_min N (N 9 s) u ≤ m) ∨ ∀ u, 40 ≤ u → u ≤ N 4 (N 9 s) → ¬ g_en N C s + g_min N (N 9 s) u ≤ m := by
  by_cases z : ∃ v, 40 ≤ v ∧ v ≤ N 4 (N 9 s) ∧ g_en N C s + g_min N (N 9 s) v ≤ m
  · left
    have key : ∀ n, ∀ v, v ≤ n → 40 ≤ v → v ≤ N 4 (N 9 s) → g_en N C s + g_min N (N 9 s) v ≤ m → ∃ v, 40 ≤ v ∧ v ≤ N 4 (N 9 s) ∧ g_en N C s + g_min N (N 9 s) v ≤ m ∧ ∀ u, 40 ≤ u → u < v → ¬ g_en N C s + g_min N (N 9 s) u ≤ m := by
      intro n
      induction n with
      | zero => intro v h1 h2; exact absurd h2 (by omega)
      | succ n ih =>
        intro v h1 h2 h3 h4
        by_cases y : ∃ u, 40 ≤ u ∧ u < v ∧ g_en N C s + g_min N (N 9 s) u ≤ m
        · obtain ⟨u, u1, u2, u3⟩ := y
          exact ih u (by omega) u1 (by omega) u3
        · exact ⟨v, h2, h3, h4, fun u u1 u2 u3 => y ⟨u, u1, u2, u3⟩⟩
    obtain ⟨v, v1, v2, v3⟩ := z
    exact key v v (Nat.le_refl _) v1 v2 v3
  · exact Or.inr (fun u u1 u2 u3 => z ⟨u, u1, u2, u3⟩)
theorem sX_need1 {N C : g_F} {σ : x_S} {τ : x_L} (hN : g_WN N) (hW : g_WC N C) (hF : f_F N σ) (hT : f_T N C 33 σ) {s m v : Nat} {Q : Int32 → x_S → x_L → Prop} {QX : x_PE} (hs : g_is N s) (hm : m ≤ 20000) (v1 : 40 ≤ v) (v2 : v ≤ N 4 (N 9 s)) (v3 : g_en N C s + g_min N (N 9 s) v ≤ m) (v4 : ∀ u, 40 ≤ u → u < v → ¬ g_en N C s + g_min N (N 9 s) u ≤ m) (h : Q (nI v) σ τ) : x_l4 (wX10_neededSpeed_37 Q QX) (nI m) (nI s) (nI (N 9 s)) 40 σ τ := by
  have hr := g_road_lt hN hs
  have hl := g_is_lt hN hs
  have hb := hN.1.1
  have hlim := (hN.2.1 _ hr).2.2.2.2
  have hen := (g_en_b hN hW hs).1
  have key : ∀ (K : Int32 → Int32 → Int32 → Int32 → x_S → x_L → Prop) i, 40 ≤ i → i ≤ v → (m < g_en N C s + g_min N (N 9 s) i → K (nI m) (nI s) (nI (N 9 s)) (nI (i + 1)) σ τ) → (g_en N C s + g_min N (N 9 s) i ≤ m → Q (nI i) σ τ) → wX10_neededSpeed_37 Q QX K (nI m) (nI s) (nI (N 9 s)) (nI i) σ τ := fun K i h1 h2 hK hQ => by
    have hmb := g_min_b hN hr h1 (by omega)
    unfold wX10_neededSpeed_37
    refine ⟨i_in (by omega) (by omega), ?_⟩
    rw [i_cl (by omega), (hF.2.1 _ hr).2.2.2]
    refine i_lt (by omega) (by omega) (fun g => absurd g (by omega)) (fun _ => ⟨i_in hl (by omega), sX_minutes hN hF hr h1 (by omega) ?_⟩)
    rw [i_cl (by omega), show σ 37 s = _ from (hT _ hs).1, nI_add, show (nI i + 1 : Int32) = nI (i + 1) from nI_add i 1]
    exact i_lt (by omega) (by omega) hK hQ
  exact x_F4 (fun _ => True) (fun _ => nI m) (fun _ => nI s) (fun _ => nI (N 9 s)) (fun i => nI i) (lo := 40) (n := v) v1 (fun K i h1 h2 _ hK => key K i h1 (by omega) (fun _ => hK trivial) (fun g => absurd g (v4 i h1 h2))) (fun K _ => key K v v1 (Nat.le_refl _) (fun g => absurd g (by omega)) (fun _ => h)) trivial rfl rfl rfl rfl
theorem sX_need0 {N C : g_F} {σ : x_S} {τ : x_L} (hN : g_WN N) (hW : g_WC N C) (hF : f_F N σ) (hT : f_T N C 33 σ) {s m : Nat} {Q : Int32 → x_S → x_L → Prop} {QX : x_PE} (hs : g_is N s) (hm : m ≤ 20000) (v4 : ∀ u, 40 ≤ u → u ≤ N 4 (N 9 s) → ¬ g_en N C s + g_min N (N 9 s) u ≤ m) (h : Q (-1) σ τ) : x_l4 (wX10_neededSpeed_37 Q QX) (nI m) (nI s) (nI (N 9 s)) 40 σ τ := by
  have hr := g_road_lt hN hs
  have hl := g_is_lt hN hs
  have hb := hN.1.1
  have hlim := (hN.2.1 _ hr).2.2.2
  have hen := (g_en_b hN hW hs).1
  refine x_F4 (fun _ => True) (fun _ => nI m) (fun _ => nI s) (fun _ => nI (N 9 s)) (fun i => nI i) (lo := 40) (n := N 4 (N 9 s) + 1) (by omega) (fun K i h1 h2 _ hK => ?_) (fun K _ => ?_) trivial rfl rfl rfl rfl
  · have hmb := g_min_b hN hr h1 (by omega)
    unfold wX10_neededSpeed_37
    refine ⟨i_in (by omega) (by omega), ?_⟩
    rw [i_cl (by omega), (hF.2.1 _ hr).2.2.2]
    refine i_lt (by omega) (by omega) (fun g => absurd g (by omega)) (fun _ => ⟨i_in hl (by omega), sX_minutes hN hF hr h1 (by omega) ?_⟩)
    rw [i_cl (by omega), show σ 37 s = _ from (hT _ hs).1, nI_add, show (nI i + 1 : Int32) = nI (i + 1) from nI_add i 1]
    exact i_lt (by omega) (by omega) (fun _ => hK trivial) (fun g => absurd g (v4 i h1 (by omega)))
  · unfold wX10_neededSpeed_37
    refine ⟨i_in (by omega) (by omega), ?_⟩
    rw [i_cl (by omega), (hF.2.1 _ hr).2.2.2]
    exact i_lt (by omega) (by omega) (fun _ => h) (fun g => absurd g (by omega))
theorem sM_need1 {N C : g_F} {ρ : x_S} {θ : x_L} (hN : g_WN N) (hW : g_WC N C) (hF : m_F N ρ) (hT : m_T N C ρ) {t q m v : Nat} {Q : Int32 → x_S → x_L → Prop} (ht : t < N 0 1) (hq : q < N 8 t) (hm : m ≤ 20000) (v1 : 40 ≤ v) (v2 : v ≤ N 4 (N 9 (10 * t + q))) (v3 : g_en N C (10 * t + q) + g_min N (N 9 (10 * t + q)) v ≤ m) (v4 : ∀ u, 40 ≤ u → u < v → ¬ g_en N C (10 * t + q) + g_min N (N 9 (10 * t + q)) u ≤ m) (h : Q (nI v) ρ θ) : x_l4 (wX11_neededSpeed_45 Q) (nI t) (nI q) (nI m) 40 ρ θ := by
  obtain ⟨hs, e1, e2, b1, b2, b3⟩ := g_is_of hN ht hq
  have hr := g_road_lt hN hs
  have hlim := (hN.2.1 _ hr).2.2.2.2
  have hen := (g_en_b hN hW hs).1
  have key : ∀ (K : Int32 → Int32 → Int32 → Int32 → x_S → x_L → Prop) i, 40 ≤ i → i ≤ v → (m < g_en N C (10 * t + q) + g_min N (N 9 (10 * t + q)) i → K (nI t) (nI q) (nI m) (nI (i + 1)) ρ θ) → (g_en N C (10 * t + q) + g_min N (N 9 (10 * t + q)) i ≤ m → Q (nI i) ρ θ) → wX11_neededSpeed_45 Q K (nI t) (nI q) (nI m) (nI i) ρ θ := fun K i h1 h2 hK hQ => by
    have hmb := g_min_b hN hr h1 (by omega)
    unfold wX11_neededSpeed_45
    refine sM_limit hN hF ht hq (i_lt (by omega) (by omega) (fun g => absurd g (by omega)) (fun _ => sM_spot ⟨i_in b1 (by omega), sM_road hN hF ht hq (sM_minutes hN hF hr h1 (by omega) ?_)⟩))
    rw [i_cl (by omega), (hT _ hs).1, nI_add, show (nI i + 1 : Int32) = nI (i + 1) from nI_add i 1]
    exact i_lt (by omega) (by omega) hK hQ
  exact x_F4 (fun _ => True) (fun _ => nI t) (fun _ => nI q) (fun _ => nI m) (fun i => nI i) (lo := 40) (n := v) v1 (fun K i h1 h2 _ hK => key K i h1 (by omega) (fun _ => hK trivial) (fun g => absurd g (v4 i h1 h2))) (fun K _ => key K v v1 (Nat.le_refl _) (fun g => absurd g (by omega)) (fun _ => h)) trivial rfl rfl rfl rfl
theorem sM_need0 {N C : g_F} {ρ : x_S} {θ : x_L} (hN : g_WN N) (hW : g_WC N C) (hF : m_F N ρ) (hT : m_T N C ρ) {t q m : Nat} {Q : Int32 → x_S → x_L → Prop} (ht : t < N 0 1) (hq : q < N 8 t) (hm : m ≤ 20000) (v4 : ∀ u, 40 ≤ u → u ≤ N 4 (N 9 (10 * t + q)) → ¬ g_en N C (10 * t + q) + g_min N (N 9 (10 * t + q)) u ≤ m) (h : Q (-1) ρ θ) : x_l4 (wX11_neededSpeed_45 Q) (nI t) (nI q) (nI m) 40 ρ θ := by
  obtain ⟨hs, e1, e2, b1, b2, b3⟩ := g_is_of hN ht hq
  have hr := g_road_lt hN hs
  have hlim := (hN.2.1 _ hr).2.2.2
  have hen := (g_en_b hN hW hs).1
  refine x_F4 (fun _ => True) (fun _ => nI t) (fun _ => nI q) (fun _ => nI m) (fun i => nI i) (lo := 40) (n := N 4 (N 9 (10 * t + q)) + 1) (by omega) (fun K i h1 h2 _ hK => ?_) (fun K _ => ?_) trivial rfl rfl rfl rfl
  · have hmb := g_min_b hN hr h1 (by omega)
    unfold wX11_neededSpeed_45
    refine sM_limit hN hF ht hq (i_lt (by omega) (by omega) (fun g => absurd g (by omega)) (fun _ => sM_spot ⟨i_in b1 (by omega), sM_road hN hF ht hq (sM_minutes hN hF hr h1 (by omega) ?_)⟩))
    rw [i_cl (by omega), (hT _ hs).1, nI_add, show (nI i + 1 : Int32) = nI (i + 1) from nI_add i 1]
    exact i_lt (by omega) (by omega) (fun _ => hK trivial) (fun g => absurd g (v4 i h1 (by omega)))
  · unfold wX11_neededSpeed_45
    exact sM_limit hN hF ht hq (i_lt (by omega) (by omega) (fun _ => h) (fun g => absurd g (by omega)))
theorem m_need {N C : g_F} {ρ : x_S} {θ : x_L} {t q m : Nat} (hM : g_M N C ρ) (c : g_rp N (nI t) (nI q)) (d : g_rn (nI m) 0 (20000 + 1)) (Q : Int32 → x_S → x_L → Prop) (hh : ∀ ρ' : x_S, m_fr ρ ρ' → ρ' 0 5 = 0 → g_M N C ρ' → m_L N C ρ' → x_l4 (wX11_neededSpeed_45 Q) (nI t) (nI q) (nI m) 40 ρ' θ) : wX11_neededSpeed (nI t) (nI q) (nI m) ρ θ Q := by
  unfold wX11_neededSpeed wX11_neededSpeed_32
  refine sM_noPlace hM (fun _ ρ' f h5 hM' hL => i_zer' ?_) (fun g => absurd c g)
  refine sM_inr (l := 0) (n := 20000 + 1) (by omega) rfl ?_ (fun _ => i_one (sM_thr0 (i_zer (hh ρ' f h5 hM' hL)))) (fun g => absurd d g)
  decide +kernel
theorem m_need2 {N C : g_F} {σ ρ : x_S} {τ θ : x_L} {a b c3 : Int32} (hR : g_R σ τ ρ θ) (hM : g_M N C ρ) (c : g_rp N a b) (d : ¬ g_rn c3 0 (20000 + 1)) : wX11_neededSpeed a b c3 ρ θ (fun b ρ1 θ1 => wX11_thrown ρ1 θ1 (fun th ρ2 θ2 => th = 2 ∧ ((2 : Int32) = 0 → τ 87 0 = b.toInt64) ∧ g_R σ τ ρ2 θ2)) := by
  unfold wX11_neededSpeed wX11_neededSpeed_32 wX11_neededSpeed_39
  refine sM_noPlace hM (fun _ ρ' f h5 hM' hL => i_zer' ?_) (fun g => absurd c g)
  refine sM_inr (l := 0) (n := 20000 + 1) (by omega) rfl ?_ (fun g => absurd g d) (fun _ => i_zer' (sM_thr1 (i_one' (q_no (hR.fr (x_fq.rf _) rfl (f.up5 2)) (x_up_ss _ _ _ _) (by decide)))))
  decide +kernel
theorem m_need3 {N C : g_F} {σ ρ : x_S} {τ θ : x_L} {a b c3 : Int32} (hR : g_R σ τ ρ θ) (hM : g_M N C ρ) (c : ¬ g_rp N a b) : wX11_neededSpeed a b c3 ρ θ (fun b ρ1 θ1 => wX11_thrown ρ1 θ1 (fun th ρ2 θ2 => th = 1 ∧ ((1 : Int32) = 0 → τ 87 0 = b.toInt64) ∧ g_R σ τ ρ2 θ2)) := by
  unfold wX11_neededSpeed wX11_neededSpeed_39
  exact sM_noPlace hM (fun g => absurd g c) (fun _ ρ' f h5 => i_one (q_no (hR.fr (x_fq.rf _) rfl f) h5 (by decide)))
