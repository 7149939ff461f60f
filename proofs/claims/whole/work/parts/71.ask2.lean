/-! questions about platoons, pairs, sets of trucks -/
/-- over the stops, in order -/
def g_fold {A : Type} (N : g_F) (st : A → Nat → A) (a : A) : Nat → A
  | 0 => a
  | n + 1 => if n / 10 < N 0 1 ∧ n % 10 < N 8 (n / 10) then st (g_fold N st a n) n else g_fold N st a n
theorem g_fold_s {A : Type} {N : g_F} (hN : g_WN N) {st : A → Nat → A} {a : A} {t q : Nat} (ht : t < N 0 1) (hq : q < N 8 t) : g_fold N st a (10 * t + (q + 1)) = st (g_fold N st a (10 * t + q)) (10 * t + q) := by
  have h : (10 * t + q) / 10 < N 0 1 ∧ (10 * t + q) % 10 < N 8 ((10 * t + q) / 10) := (g_is_of hN ht hq).1
  rw [← Nat.add_assoc, g_fold, if_pos h]
theorem g_fold_pad {A : Type} {N : g_F} {st : A → Nat → A} {a : A} (m : Nat) : ∀ c, (∀ s, m ≤ s → s < m + c → ¬ g_is N s) → g_fold N st a (m + c) = g_fold N st a m
  | 0, _ => rfl
  | c + 1, h => by
    have ih := g_fold_pad (N := N) (st := st) (a := a) m c (fun s x y => h s x (by omega))
    have : ¬ ((m + c) / 10 < N 0 1 ∧ (m + c) % 10 < N 8 ((m + c) / 10)) := h (m + c) (by omega) (by omega)
    rw [← ih, ← Nat.add_assoc, g_fold, if_neg this]
theorem g_fold_t {A : Type} {N : g_F} (hN : g_WN N) {st : A → Nat → A} {a : A} {t : Nat} (ht : t < N 0 1) : g_fold N st a (10 * t + N 8 t) = g_fold N st a (10 * (t + 1)) := by
  have h10 := (hN.2.2.1 t ht).2.2.2.2.2
  have := g_fold_pad (N := N) (st := st) (a := a) (10 * t + N 8 t) (10 - N 8 t) (fun s x y h => by
    have h2 := h.2
    have e : s / 10 = t := by omega
    rw [e] at h2
    omega)
  rw [← this]
  congr 1
  omega
theorem g_fold_e {A : Type} {N : g_F} (hN : g_WN N) (st : A → Nat → A) (a : A) : g_fold N st a (10 * N 0 1) = g_fold N st a 120 := by
  have h12 := hN.1.2
  have := g_fold_pad (N := N) (st := st) (a := a) (10 * N 0 1) (120 - 10 * N 0 1) (fun s x y h => by
    have := h.1
    omega)
  rw [← this, show 10 * N 0 1 + (120 - 10 * N 0 1) = 120 by omega]
theorem g_fold_bit {N : g_F} {v : Nat → Nat} {k : Nat} : ∀ {n : Nat}, (g_fold N (fun m s => m ||| v s) 0 n).testBit k = true ↔ ∃ s, s < n ∧ g_is N s ∧ (v s).testBit k = true
  | 0 => by
    rw [g_fold]
    constructor
    · intro h
      rw [Nat.zero_testBit] at h
      cases h
    · rintro ⟨i, hi, -⟩
      exact absurd hi (Nat.not_lt_zero _)
  | n + 1 => by
    rw [g_fold]
    by_cases z : n / 10 < N 0 1 ∧ n % 10 < N 8 (n / 10)
    · rw [if_pos z, Nat.testBit_or, Bool.or_eq_true, g_fold_bit]
      constructor
      · rintro (⟨i, hi, h⟩ | h)
        · exact ⟨i, by omega, h⟩
        · exact ⟨n, by omega, z, h⟩
      · rintro ⟨i, hi, h1, h⟩
        by_cases e : i = n
        · rw [e] at h
          exact Or.inr h
        · exact Or.inl ⟨i, by omega, h1, h⟩
    · rw [if_neg z, g_fold_bit]
      constructor
      · rintro ⟨i, hi, h⟩
        exact ⟨i, by omega, h⟩
      · rintro ⟨i, hi, h1, h⟩
        by_cases e : i = n
        · rw [e] at h1
          exact absurd h1 z
        · exact ⟨i, by omega, h1, h⟩
/-- the road and number of a platoon there are -/
def g_rl (N C : g_F) (a b : Int32) : Prop := ∃ r p, r < N 0 0 ∧ p < g_pon N C r ∧ a = nI r ∧ b = nI p
theorem g_pon_b (N C : g_F) (r : Nat) : g_pon N C r ≤ 120 := Nat.le_trans (g_all_b (b := 1) (fun _ _ => g_one_b _)) (Nat.le_refl _)
section A2
variable {N C : g_F} {w : Nat → Nat} {σ ρ : x_S} {τ θ : x_L} {a b : Int32}
theorem sX_chkPlatoon (hX : g_X N C w σ τ) {Q : x_S → x_L → Prop} {QX : x_PE} (h1 : g_rl N C a b → Q σ τ) (h0 : ¬ g_rl N C a b → QX eIO σ τ) : wX10_checkPlatoon a b σ τ Q QX := by
  have hN := hX.1
  have hb := hN.1.1
  unfold wX10_checkPlatoon wX10_checkPlatoon_27
  refine sX_hasRoad hN hX.2.2.1 (fun c => i_one' ?_) (fun c => i_zer (h0 (fun ⟨r, p, g1, _, g2, _⟩ => c ⟨r, g1, g2⟩)))
  obtain ⟨r, hr, rfl⟩ := c
  have hpb := g_pon_b N C r
  refine ⟨fun g => h0 (fun ⟨r', p, _, g3, _, g4⟩ => ?_), fun g => sX_platoonsOn hX hr ⟨fun g2 => ?_, fun g2 => h0 (fun ⟨r', p, g5, g3, g6, g4⟩ => ?_)⟩⟩
  · rw [g4] at g
    have := g_pon_b N C r'
    exact nI_neg (by omega) g
  · obtain ⟨j, hj, rfl⟩ := nI_of g
    exact h1 ⟨r, j, hr, (nI_ltI hj (by omega)).mp g2, rfl, rfl⟩
  · have e : r = r' := (nI_eq (by omega) (by omega)).mp g6
    rw [← e] at g3
    rw [g4] at g2
    exact g2 ((nI_ltI (by omega) (by omega)).mpr g3)
theorem sM_platY (hX : g_X N C w σ τ) (hM : g_M N C ρ) {r p k : Nat} {e : Nat → Nat} (hr : r < N 0 0) (hO : g_O N C w r k e) (hk : e k = g_bg N (r + 1)) (hp : p < k) {Q : Int32 → x_S → x_L → Prop} (h : ∀ ρ' : x_S, m_fr ρ ρ' → ρ' 0 5 = 0 → g_M N C ρ' → m_L N C ρ' → ρ' 0 17 = nI (w (e p) / 10) → ρ' 0 18 = nI (w (e p) % 10) → Q 0 ρ' θ) : wX11_noPlatoon (nI r) (nI p) (x_up ρ 0 5 0) θ Q := by
  obtain ⟨hN, hW, -, -, -, hA, -⟩ := hX
  obtain ⟨l1, l2⟩ := hO.ldr hN hW hA.2.2.1 hr hk hp
  have hpb := g_pon_b N C r
  rw [hO.pon hN hW hA.2.2.1 hr hk] at hpb
  unfold wX11_noPlatoon wX11_noPlatoon_22 wX11_noPlatoon_27
  refine sM_begin hM (fun ρ' f h5 hM' hL => ?_)
  refine sM_isRoad hN hM'.2.2.1 (fun _ => i_one' ?_) (fun g => absurd ⟨r, hr, rfl⟩ g)
  refine sM_find hN hW hM'.2.2.1 hM'.2.2.2 hL.1 hL.2.2.2.1 hr (fun ρ2 t q f2 g1 g2 ht hq g3 g4 g5 => ?_) (fun ρ2 f2 g => absurd (by rw [l1.2.2.2]) (g _ l1.1 l1.2.1 l1.2.2.1))
  have hnb := g_num_b N C (10 * t + q)
  have es := l2 _ ⟨(g_is_of hN ht hq).1, g3, g4, (nI_eq (by omega) (by omega)).mp g5⟩
  obtain ⟨-, e1, e2, -⟩ := g_is_of hN ht hq
  have f3 : m_fr ρ ρ2 := f.tr f2.fr
  refine i_one (sM_thr0 ⟨Or.inl rfl, h ρ2 f3 (by rw [f2.2 5 (by omega) (by omega)]; exact h5) (hM.fr f3) ⟨hL.1.cong (f2.1 4 (by omega)) (f2.1 5 (by omega)), hL.2.1.cong (f2.1 6 (by omega)), hL.2.2.1.cong (f2.1 8 (by omega)) (f2.1 7 (by omega)), hL.2.2.2.1.cong (f2.1 9 (by omega)), fun s hs => ?_⟩ (by rw [g1, ← es, e1]) (by rw [g2, ← es, e2])⟩)
  have := hL.2.2.2.2 s hs
  unfold m_S at this ⊢
  rw [f2.1 10 (by omega), f2.1 11 (by omega), f2.1 12 (by omega)]
  exact this
theorem sM_platN (hX : g_X N C w σ τ) (hM : g_M N C ρ) (c : ¬ g_rl N C a b) {Q : Int32 → x_S → x_L → Prop} (h : ∀ ρ' : x_S, m_fr ρ ρ' → ρ' 0 5 = 1 → Q 1 ρ' θ) : wX11_noPlatoon a b (x_up ρ 0 5 0) θ Q := by
  obtain ⟨hN, hW, -, -, -, hA, -⟩ := hX
  unfold wX11_noPlatoon wX11_noPlatoon_22 wX11_noPlatoon_27
  refine sM_begin hM (fun ρ' f h5 hM' hL => ?_)
  refine sM_isRoad hN hM'.2.2.1 (fun g => i_one' ?_) (fun g => i_zer (sM_thr1 ⟨Or.inr rfl, h _ (f.up5 1) (x_up_ss _ _ _ _)⟩))
  obtain ⟨r, hr, rfl⟩ := g
  obtain ⟨e, k, hO, hk⟩ := hA.2.2.2.1 r hr
  refine sM_find hN hW hM'.2.2.1 hM'.2.2.2 hL.1 hL.2.2.2.1 hr (fun ρ2 t q f2 g1 g2 ht hq g3 g4 g5 => ?_) (fun ρ2 f2 g => i_zer' (sM_thr1 ⟨Or.inr rfl, h _ ((f.tr f2.fr).up5 1) (x_up_ss _ _ _ _)⟩))
  refine absurd ⟨r, g_num N C (10 * t + q), hr, ?_, rfl, g5.symm⟩ c
  have hs := (g_is_of hN ht hq).1
  obtain ⟨i, i1, i2, i3⟩ := hA.2.2.1.2.1 _ hs
  rw [g3] at i1 i2
  obtain ⟨j, j1, j2, j3⟩ := hO.at i1 (show i < e k by omega)
  have := (hO.2 j j1).2.2 i j2 j3
  rw [i3] at this
  rw [this, hO.pon hN hW hA.2.2.1 hr hk]
  exact j1
end A2
theorem z_12 : z_p12 g_R := by
  intro σ τ ρ θ hR a b c3
  obtain ⟨N, C, w, hX, hM, hV⟩ := id hR
  obtain ⟨hN, hW, hF, hR0, hC, hA, hB⟩ := id hX
  unfold wL_platoon wX10_platoon
  refine sX_chkPlatoon hX (fun c => ?_) (fun c => ⟨rfl, ?_⟩)
  · obtain ⟨r, p, hr, hp, rfl, rfl⟩ := c
    obtain ⟨e, k, hO, hk⟩ := hA.2.2.2.1 r hr
    rw [hO.pon hN hW hA.2.2.1 hr hk] at hp
    have hlt := (hO.2 p hp).1.1
    have h0 := hO.le (show p ≤ k by omega) (Nat.zero_le p)
    have h1 := hO.le (Nat.le_refl k) (show p + 1 ≤ k by omega)
    rw [hO.1] at h0
    have b1 := g_bg_b N (r + 1)
    have be := g_bg_mono N (show r + 1 ≤ N 0 0 from hr)
    have hG := (hO.2 p hp).1
    have hsr := (hO.2 p hp).2.1
    have hs := (hG.2.1 _ (Nat.le_refl _) hlt).1
    have hl := g_is_lt hN hs
    have htog := hG.tog hN hW (Nat.le_refl _) hlt
    have hmem := fun j (hj : j < e (p + 1) - e p) => hG.mem hN hW hsr (Nat.le_refl _) hlt hj
    have es : 10 * (w (e p) / 10) + w (e p) % 10 = w (e p) := by omega
    refine sX_firstOf hX hr hO hk hp (sX_afterPlatoon hX hr hO hk hp ?_)
    have mm : ∀ (Q : Int32 → x_S → x_L → Prop), (∀ ρ' : x_S, m_fr ρ ρ' → ρ' 0 5 = 0 → g_M N C ρ' → m_L N C ρ' → ρ' 0 17 = nI (w (e p) / 10) → ρ' 0 18 = nI (w (e p) % 10) →
        (c3 = 0 → Q (nI (g_en N C (w (e p)))) ρ' θ) ∧ (c3 = 1 → Q (nI (C 2 (w (e p)))) ρ' θ) ∧ (c3 = 2 → Q (nI (e (p + 1) - e p)) ρ' θ) ∧ (c3 = 3 → Q (nI (g_sum (fun j => g_sav N C (w (e p + j))) (e (p + 1) - e p))) ρ' θ) ∧ (c3 = 4 → Q (nI (g_sum (fun j => g_one (g_clo N C (w (e p + j)))) (e (p + 1) - e p))) ρ' θ) ∧ (c3 = 5 → Q (nI (g_orv (fun j => 2 ^ (w (e p + j) / 10)) (e (p + 1) - e p))) ρ' θ) ∧ (¬ c3 = 0 → ¬ c3 = 1 → ¬ c3 = 2 → ¬ c3 = 3 → ¬ c3 = 4 → ¬ c3 = 5 → Q (-1) ρ' θ)) → wX11_platoon (nI r) (nI p) c3 ρ θ Q := fun Q hh => by
      unfold wX11_platoon
      refine sM_platY hX hM hr hO hk hp (fun ρ' f h5 hM' hL g1 g2 => i_zer ?_)
      rw [g1, g2]
      refine sM_layOrder hN hW hM'.2.2.1 hL.2.1 hL.2.2.1 hL.2.2.2.1 hs.1 hs.2 (fun ρ2 f2 hOr => ?_)
      rw [es] at hOr ⊢
      have f3 : m_fr ρ ρ2 := f.tr ⟨fun z hz => f2 z (by omega) (by omega), fun i _ => by rw [f2 0 (by omega) (by omega)]⟩
      have q1 : ρ2 0 17 = nI (w (e p) / 10) := by rw [f2 0 (by omega) (by omega)]; exact g1
      have q2 : ρ2 0 18 = nI (w (e p) % 10) := by rw [f2 0 (by omega) (by omega)]; exact g2
      have hM2 := hM.fr f3
      have hT2 : m_T N C ρ2 := hL.1.cong (f2 4 (by omega) (by omega)) (f2 5 (by omega) (by omega))
      have hS2 : ∀ s, g_is N s → m_S N C s ρ2 := fun s hs => by
        have := hL.2.2.2.2 s hs
        unfold m_S at this ⊢
        rw [f2 10 (by omega) (by omega), f2 11 (by omega) (by omega), f2 12 (by omega) (by omega)]
        exact this
      have hL2 : m_L N C ρ2 := ⟨hT2, hL.2.1.cong (f2 6 (by omega) (by omega)), hL.2.2.1.cong (f2 8 (by omega) (by omega)) (f2 7 (by omega) (by omega)), hL.2.2.2.1.cong (f2 9 (by omega) (by omega)), hS2⟩
      obtain ⟨k0, k1, k2, k3, k4, k5, k6⟩ := hh ρ2 f3 (by rw [f2 0 (by omega) (by omega)]; exact h5) hM2 hL2 q1 q2
      have htb := g_tog_b (C := C) hN (w (e p))
      rw [htog] at htb ⊢
      refine x_F6 (fun _ => True) (fun _ => c3) (fun _ => nI (e (p + 1) - e p)) (fun i => nI (g_sum (fun j => g_sav N C (w (e p + j))) i)) (fun i => nI (g_sum (fun j => g_one (g_clo N C (w (e p + j)))) i)) (fun i => nI (g_orv (fun j => 2 ^ (w (e p + j) / 10)) i)) (fun i => nI i) (lo := 0) (n := e (p + 1) - e p) (Nat.zero_le _) (fun K i _ hi _ hK => ?_) (fun K _ => ?_) trivial rfl rfl rfl rfl rfl rfl
      · unfold wX11_platoon_42 wX11_platoon_97
        obtain ⟨o1, o2⟩ := hOr i (by rw [htog]; exact hi)
        obtain ⟨m1, m2⟩ := hmem i hi
        obtain ⟨u1, u2, u3, u4, u5, u6⟩ := g_mem_at hN hW (s := w (e p)) (i := i) (by rw [htog]; exact hi)
        have hK := hK trivial
        rw [g_sum, g_sum, g_orv] at hK
        have hb2 := hN.1.2
        have hms : 10 * g_mem N C (w (e p)) i + g_pl N C (w (e p)) (g_mem N C (w (e p)) i) = w (e p + i) := m2
        rw [m1] at u1
        refine i_le (by omega) (by omega) (fun g => absurd g (by omega)) (fun _ => ⟨i_in (by omega) (by omega), ?_⟩)
        rw [i_cl (by omega), o1, o2]
        refine sM_spot ?_
        rw [hms]
        rw [m2] at u4
        have hl4 := g_is_lt hN u4
        refine ⟨i_in hl4 (by omega), ?_⟩
        rw [i_cl (by omega), (hS2 _ u4).2.1, (hS2 _ u4).2.2, nI_add, o1, m1, nI_bit _ (by omega), nI_or, show (nI i + 1 : Int32) = nI (i + 1) from nI_add i 1]
        unfold g_one at hK ⊢
        by_cases z : g_clo N C (w (e p + i)) = true
        · rw [if_pos z] at hK ⊢
          refine i_one' ⟨i_in (by omega) (by omega), ?_⟩
          rw [show (nI (g_sum (fun j => if g_clo N C (w (e p + j)) = true then 1 else 0) i) + 1 : Int32) = _ from nI_add _ 1]
          exact hK
        · rw [if_neg z] at hK ⊢
          refine i_zer ⟨i_in (by omega) (by omega), ?_⟩
          rw [show (nI (g_sum (fun j => if g_clo N C (w (e p + j)) = true then 1 else 0) i) + 0 : Int32) = _ from nI_add _ 0]
          exact hK
      · unfold wX11_platoon_42
        refine i_le (by omega) (by omega) (fun _ => ?_) (fun g => absurd g (by omega))
        rw [q1, q2]
        refine ⟨fun g => sM_spot ⟨by rw [es]; exact i_in hl (by omega), ?_⟩, fun g => sM_speed hN hM2.2.2.2 hs.1 hs.2 (by rw [es]; exact k1 g), k2, k3, k4, k5, k6⟩
        rw [es, i_cl (by omega), (hT2 _ hs).1]
        exact k0 g
    have q := fun (ρ' : x_S) (f : m_fr ρ ρ') (h5 : ρ' 0 5 = 0) (v : Int32) => q_ok (v := v) (θ := θ) (hR.fr (x_fq.rf _) rfl f) h5
    have hw := hA.2.1 (e p) (by omega)
    refine ⟨fun g => ?_, fun g => ?_, fun g => ?_, fun g => ?_, fun g => ?_, fun g => ?_, fun g0 g1 g2 g3 g4 g5 => ?_⟩
    · refine ⟨i_in (by omega) (by omega), ?_⟩
      rw [i_cl (by omega), show σ 39 (e p) = _ from hw, i_cl (by omega), show σ 37 (w (e p)) = _ from (hA.1 _ hs).1]
      refine ⟨i_in hl (by omega), mm _ (fun ρ' f h5 hM' hL g1 g2 => ?_)⟩
      subst g
      exact ⟨fun _ => q _ f h5 _, fun g => absurd g (by decide), fun g => absurd g (by decide), fun g => absurd g (by decide), fun g => absurd g (by decide), fun g => absurd g (by decide), fun g => absurd rfl g⟩
    · refine ⟨i_in (by omega) (by omega), ?_⟩
      rw [i_cl (by omega), show σ 39 (e p) = _ from hw, i_cl (by omega), show σ 36 (w (e p)) = _ from (hC.2 _ hs).2]
      refine ⟨i_in hl (by omega), mm _ (fun ρ' f h5 hM' hL g1 g2 => ?_)⟩
      subst g
      exact ⟨fun g => absurd g (by decide), fun _ => q _ f h5 _, fun g => absurd g (by decide), fun g => absurd g (by decide), fun g => absurd g (by decide), fun g => absurd g (by decide), fun _ g => absurd rfl g⟩
    · rw [nI_sub (by omega)]
      refine mm _ (fun ρ' f h5 hM' hL g1 g2 => ?_)
      subst g
      exact ⟨fun g => absurd g (by decide), fun g => absurd g (by decide), fun _ => q _ f h5 _, fun g => absurd g (by decide), fun g => absurd g (by decide), fun g => absurd g (by decide), fun _ _ g => absurd rfl g⟩
    · refine sX_savedOnRows hX (by omega) (by omega) (mm _ (fun ρ' f h5 hM' hL g1 g2 => ?_))
      subst g
      exact ⟨fun g => absurd g (by decide), fun g => absurd g (by decide), fun g => absurd g (by decide), fun _ => q _ f h5 _, fun g => absurd g (by decide), fun g => absurd g (by decide), fun _ _ _ g => absurd rfl g⟩
    · refine sX_closedOnRows hX (by omega) (by omega) (mm _ (fun ρ' f h5 hM' hL g1 g2 => ?_))
      subst g
      exact ⟨fun g => absurd g (by decide), fun g => absurd g (by decide), fun g => absurd g (by decide), fun g => absurd g (by decide), fun _ => q _ f h5 _, fun g => absurd g (by decide), fun _ _ _ _ g => absurd rfl g⟩
    · refine sX_trucksOnRows hX (by omega) (by omega) (mm _ (fun ρ' f h5 hM' hL g1 g2 => ?_))
      subst g
      exact ⟨fun g => absurd g (by decide), fun g => absurd g (by decide), fun g => absurd g (by decide), fun g => absurd g (by decide), fun g => absurd g (by decide), fun _ => q _ f h5 _, fun _ _ _ _ _ g => absurd rfl g⟩
    · exact mm _ (fun ρ' f h5 hM' hL _ _ => ⟨fun g => absurd g g0, fun g => absurd g g1, fun g => absurd g g2, fun g => absurd g g3, fun g => absurd g g4, fun g => absurd g g5, fun _ _ _ _ _ _ => q _ f h5 _⟩)
  · unfold wX11_platoon
    exact sM_platN hX hM c (fun ρ' f h5 => i_one' (q_no (hR.fr (x_fq.rf _) rfl f) h5 (by decide)))
theorem z_13 : z_p13 g_R := by
  intro σ τ ρ θ hR a b c3
  obtain ⟨N, C, w, hX, hM, hV⟩ := id hR
  obtain ⟨hN, hW, hF, hR0, hC, hA, hB⟩ := id hX
  unfold wL_member wX10_member wX10_member_61 wX10_checkPosition
  refine sX_chkPlatoon hX (fun c => ?_) (fun c => ⟨rfl, ?_⟩)
  · obtain ⟨r, p, hr, hp, rfl, rfl⟩ := c
    obtain ⟨e, k, hO, hk⟩ := hA.2.2.2.1 r hr
    rw [hO.pon hN hW hA.2.2.1 hr hk] at hp
    have hlt := (hO.2 p hp).1.1
    have h0 := hO.le (show p ≤ k by omega) (Nat.zero_le p)
    have h1 := hO.le (Nat.le_refl k) (show p + 1 ≤ k by omega)
    rw [hO.1] at h0
    have b1 := g_bg_b N (r + 1)
    have be := g_bg_mono N (show r + 1 ≤ N 0 0 from hr)
    have hG := (hO.2 p hp).1
    have hsr := (hO.2 p hp).2.1
    have hs := (hG.2.1 _ (Nat.le_refl _) hlt).1
    have hl := g_is_lt hN hs
    have htog := hG.tog hN hW (Nat.le_refl _) hlt
    have hmem := fun j (hj : j < e (p + 1) - e p) => hG.mem hN hW hsr (Nat.le_refl _) hlt hj
    have es : 10 * (w (e p) / 10) + w (e p) % 10 = w (e p) := by omega
    refine ⟨fun g => sX_firstOf hX hr hO hk hp (sX_afterPlatoon hX hr hO hk hp ?_), fun g => ⟨rfl, ?_⟩⟩
    · obtain ⟨m, hm, rfl⟩ := nI_of (fun z : c3 < 0 => Int32.lt_irrefl (Int32.lt_of_le_of_lt g z))
      rw [nI_sub (by omega)]
      refine ⟨fun g3 => ?_, fun g3 => ?_⟩
      · have g4 := (nI_leI (by omega) hm).mp g3
        unfold wX11_member wX11_member_24
        refine sM_platY hX hM hr hO hk hp (fun ρ' f h5 hM' hL g1 g2 => i_zer' ⟨fun _ => sM_thr0 (i_zer ?_), fun z => absurd g z⟩)
        rw [g1, g2]
        refine sM_memberAt hN hM'.2.2.1 hL.2.1 hL.2.2.2.1 hs.1 hs.2 (fun n en hn hx => ?_) (fun _ => q_ok (hR.fr (x_fq.rf _) rfl f) h5)
        have em : m = n := (nI_eq hm (by omega)).mp en
        subst em
        rw [es] at hx
        have hp2 : g_has N C (w (e p)) (g_mem N C (w (e p)) m) = true ∧ g_pos N C (g_ms N C (w (e p)) (g_mem N C (w (e p)) m)) = m := by
          have h2 := g_first_p (p := fun o => g_has N C (w (e p)) o && decide (g_pos N C (g_ms N C (w (e p)) o) = m)) hx
          rw [Bool.and_eq_true, decide_eq_true_iff] at h2
          exact h2
        have hms := (g_ms_is hN hx hp2.1).1
        have := g_pos_lt hN hW hms
        rw [g_tog_cls (g_has_mt hp2.1), htog, hp2.2] at this
        omega
      · have g4 : m < e (p + 1) - e p := Nat.lt_of_not_le fun z => g3 ((nI_leI (by omega) hm).mpr z)
        obtain ⟨m1, m2⟩ := hmem m g4
        have hsm := (hG.2.1 (e p + m) (by omega) (by omega)).1
        have hlm := g_is_lt hN hsm
        rw [nI_add]
        refine ⟨i_in (by omega) (by omega), ?_⟩
        rw [i_cl (by omega), show σ 39 (e p + m) = _ from hA.2.1 (e p + m) (by omega), show (nI (w (e p + m)) / 10 : Int32) = nI (w (e p + m) / 10) from nI_div (b := 10) (by omega) (by omega) (by omega)]
        unfold wX11_member wX11_member_24
        refine sM_platY hX hM hr hO hk hp (fun ρ' f h5 hM' hL g1 g2 => i_zer' ⟨fun _ => sM_thr0 (i_zer ?_), fun z => absurd g z⟩)
        rw [g1, g2]
        refine sM_memberAt hN hM'.2.2.1 hL.2.1 hL.2.2.2.1 hs.1 hs.2 (fun n en hn hx => ?_) (fun hx => ?_)
        · have em : m = n := (nI_eq hm (by omega)).mp en
          subst em
          rw [es, m1]
          exact q_ok (hR.fr (x_fq.rf _) rfl f) h5
        · rw [es] at hx
          obtain ⟨u1, u2, u3, -⟩ := g_mem_at hN hW (s := w (e p)) (i := m) (by rw [htog]; exact g4)
          exact absurd (by rw [show g_ms N C (w (e p)) (g_mem N C (w (e p)) m) = g_mst N C (w (e p)) m from rfl, u3]) (hx _ u1 u2)
    · unfold wX11_member wX11_member_24 wX11_member_31
      refine sM_platY hX hM hr hO hk hp (fun ρ' f h5 hM' hL g1 g2 => i_zer' ⟨fun z => absurd z g, fun _ => sM_thr1 (i_one' ?_)⟩)
      exact q_no (hR.fr (x_fq.rf _) rfl (f.up5 1)) (x_up_ss _ _ _ _) (by decide)
  · unfold wX11_member wX11_member_31
    exact sM_platN hX hM c (fun ρ' f h5 => i_one (q_no (hR.fr (x_fq.rf _) rfl f) h5 (by decide)))
