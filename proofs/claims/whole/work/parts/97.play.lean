/-! play: the commands one after another on both sides -/
def x_Vh (N : g_F) (P : Nat → g_F) (n l : Nat) (σ : x_S) : Prop := (n ≤ 15 ∧ l < 15) ∧ (σ 63 1 = nI l ∧ σ 63 2 = nI n) ∧ ∀ k, k < n → g_WC N (P k) ∧ f_Ch N (P k) (65 + (l + 15 - k) % 15) σ
def x_vp (C : g_F) (j : Nat) : Int32 := if j < 12 then nI (C 0 j) else if j < 132 then nI (C 1 (j - 12)) else nI (C 2 (j - 132))
def x_vr (P : Nat → g_F) (n : Nat) : x_S := fun z i => if z = 0 then (if i = 2 then nI 0 else nI n) else x_vp (P ((n + 14 - (i / 252 - 3)) % 15)) (i % 252)
def g_P1 (P : Nat → g_F) (C : g_F) : Nat → g_F := fun k => if k = 0 then C else P (k - 1)
def g_f1 (n f : Nat) : Nat := if n = 15 then (f + 1) % 15 else f
def j_X (N C : g_F) (w : Nat → Nat) (P : Nat → g_F) (n l m : Nat) (W : Nat → Nat → Nat) (σ : x_S) (τ : x_L) : Prop := g_X N C w σ τ ∧ x_Vh N P n l σ ∧ x_sc m W σ
def j_S (N C : g_F) (P : Nat → g_F) (n l f m : Nat) (W : Nat → Nat → Nat) (σ ρ : x_S) : Prop := g_M N C ρ ∧ g_V N σ ρ ∧ g_Hi N P n l f σ ρ ∧ m_sc m W ρ
section PL
variable {N C : g_F} {w : Nat → Nat} {P : Nat → g_F} {n l f m : Nat} {W : Nat → Nat → Nat} {σ ρ : x_S} {τ θ : x_L}
theorem x_Vh.ex (hN : g_WN N) (h : x_Vh N P n l σ) : ∃ ρ, g_Hi N P n l 0 σ ρ := by
  obtain ⟨⟨h1, h2⟩, ⟨h3, h4⟩, h5⟩ := h
  refine ⟨x_vr P n, ⟨h1, h2, by omega⟩, ⟨h3, h4, rfl, rfl⟩, fun k hk => ⟨(h5 k hk).1, (h5 k hk).2, ?_⟩⟩
  have e : ∀ j, j < 252 → x_vr P n 1 (252 * (3 + (0 + n - 1 - k) % 15) + j) = x_vp (P k) j := fun j hj => by
    unfold x_vr
    rw [if_neg (by omega), show (252 * (3 + (0 + n - 1 - k) % 15) + j) % 252 = j by omega, show (n + 14 - ((252 * (3 + (0 + n - 1 - k) % 15) + j) / 252 - 3)) % 15 = k by omega]
  refine ⟨fun t ht => ?_, fun s hs => ⟨?_, ?_⟩⟩
  · have := g_is_b12 hN ht
    rw [e t (by omega)]
    unfold x_vp
    rw [if_pos this]
  · have := g_is_lt hN hs
    rw [e _ (by omega)]
    unfold x_vp
    rw [if_neg (by omega), if_pos (by omega), show 12 + s - 12 = s by omega]
  · have := g_is_lt hN hs
    rw [e _ (by omega)]
    unfold x_vp
    rw [if_neg (by omega), if_neg (by omega), show 132 + s - 132 = s by omega]
theorem x_Vh.tr (h : x_Vh N P n l σ) {σ' : x_S} (e : ∀ z, 63 ≤ z → z ≤ 79 → σ' z = σ z) : x_Vh N P n l σ' := by
  obtain ⟨h1, h3, h5⟩ := h
  exact ⟨h1, by rw [e 63 (by omega) (by omega)]; exact h3, fun k hk => ⟨(h5 k hk).1, (h5 k hk).2.cong (e _ (by omega) (by omega))⟩⟩
theorem x_sc.tr (h : x_sc m W σ) {σ' : x_S} (e : ∀ z, 24 ≤ z → z ≤ 26 → σ' z = σ z) : x_sc m W σ' := by
  unfold x_sc at h ⊢
  rw [e 24 (by omega) (by omega), e 25 (by omega) (by omega), e 26 (by omega) (by omega)]
  exact h
theorem j_X.ed (h : j_X N C w P n l m W σ τ) {C' : g_F} {w' : Nat → Nat} {σ1 σ' : x_S} (f1 : x_tr σ σ1) (hx : x_E N C C' l n w' σ1 τ σ') : j_X N C' w' (g_P1 P C) (min (n + 1) 15) ((l + 1) % 15) m W σ' τ := by
  obtain ⟨hX, hV, hS⟩ := h
  obtain ⟨σ2, ⟨fx, e1, e2, e3⟩, hX', fe, fh, fs⟩ := hx
  have hm1 : (l + 1) % 15 < 15 := Nat.mod_lt _ (by omega)
  refine ⟨hX', ?_, hS.tr (fun z a c => by rw [fs z a c]; exact f1 z (by omega))⟩
  obtain ⟨⟨h1, h2⟩, h3, h5⟩ := hV
  refine ⟨⟨by omega, hm1⟩, ⟨by rw [fh 63 (by omega)]; exact e1, by rw [fh 63 (by omega)]; exact e2⟩, fun k hk => ?_⟩
  unfold g_P1
  by_cases z : k = 0
  · subst z
    rw [if_pos rfl, show ((l + 1) % 15 + 15 - 0) % 15 = (l + 1) % 15 by omega]
    exact ⟨hX.2.1, e3.cong (fh _ (by omega))⟩
  · rw [if_neg z]
    obtain ⟨a1, a2⟩ := h5 (k - 1) (by omega)
    refine ⟨a1, ?_⟩
    rw [show ((l + 1) % 15 + 15 - k) % 15 = (l + 15 - (k - 1)) % 15 by omega]
    exact a2.cong (by rw [fh _ (by omega), fx _ (by omega) (by omega), f1 _ (by omega)])
theorem j_S.ed (h : j_S N C P n l f m W σ ρ) (hX : g_X N C w σ τ) {C' : g_F} {w' : Nat → Nat} {σ1 σ' ρ1 ρ' : x_S} (f1 : x_tr σ σ1) (hx : x_E N C C' l n w' σ1 τ σ') (g1 : m_f2 ρ ρ1) (hm : m_E N C' n f ρ1 ρ') : j_S N C' (g_P1 P C) (min (n + 1) 15) ((l + 1) % 15) (g_f1 n f) m W σ' ρ' := by
  obtain ⟨hM0, hV0, hH0, hS⟩ := h
  have hN := hX.1
  have hM : g_M N C ρ1 := hM0.f2 g1
  have hV : g_V N σ1 ρ1 := hV0.f2 hN f1.fq g1
  have hH : g_Hi N P n l f σ1 ρ1 := hH0.f2 hN (fun z a c => f1 z (by omega)) g1
  have hS1 : m_sc m W ρ1 := by
    unfold m_sc at hS ⊢
    rw [g1.2.1 22 (by omega), g1.2.2 40 (by omega)]
    exact hS
  obtain ⟨σ2, ⟨fx, e1, e2, e3⟩, hX', fe, fh, -⟩ := hx
  obtain ⟨ρ2, ⟨fm, d1, d2⟩, fp, hC'⟩ := hm
  obtain ⟨-, h2, h3, h4⟩ := hV
  have hH1 := hH.keep hN hX.2.1 hM.2.2.2 fx e1 e2 e3 fm d1 d2
  have hHf : g_Hi N (g_P1 P C) (min (n + 1) 15) ((l + 1) % 15) (g_f1 n f) σ' ρ' := by
    refine ⟨hH1.1, ⟨by rw [fh 63 (by omega)]; exact hH1.2.1.1, by rw [fh 63 (by omega)]; exact hH1.2.1.2.1, by rw [fp.2.2 2 (by omega)]; exact hH1.2.1.2.2.1, by rw [fp.2.2 3 (by omega)]; exact hH1.2.1.2.2.2⟩, fun k hk => ?_⟩
    obtain ⟨a1, a2, a3⟩ := hH1.2.2 k hk
    exact ⟨a1, a2.cong (fh _ (by omega)), a3.st2 hN (fun i b1 b2 => fp.1 i (by omega) (by omega))⟩
  refine ⟨⟨hN, hX'.2.1, hM.2.2.1.cong ((fp.2.1 3 (by omega)).trans (fm.1 3 (by omega) (by omega))), hC'⟩, ⟨⟨_, _, _, _, hHf⟩, fun i hi => ?_, ?_, ?_⟩, hHf, ?_⟩
  · rw [fe 83 (by omega), fp.2.1 2 (by omega), fm.1 2 (by omega) (by omega)]
    rcases h2 i hi with g | ⟨g1', g2, S, g3, g4, g5⟩
    · exact Or.inl g
    · refine Or.inr ⟨g1', g2, S, g3, g4.cong (fe _ (by omega)), g5.st2 hN (fun j b1 b2 => ?_)⟩
      rw [fp.1 j (by omega) (by omega), fm.2.2, if_neg (by omega)]
  · unfold g_Tx at h3 ⊢
    rw [fe 1 (by omega), fe 2 (by omega), fp.2.1 21 (by omega), fm.1 21 (by omega) (by omega), fp.2.2 31 (by omega), fp.2.2 33 (by omega), fp.2.2 34 (by omega), fm.2.1 31 (by omega) (by omega), fm.2.1 33 (by omega) (by omega), fm.2.1 34 (by omega) (by omega)]
    exact h3
  · unfold g_Ou at h4 ⊢
    rw [fe 84 (by omega), fe 85 (by omega), fp.2.1 20 (by omega), fm.1 20 (by omega) (by omega), fp.2.2 29 (by omega), fm.2.1 29 (by omega) (by omega)]
    exact h4
  · unfold m_sc at hS1 ⊢
    rw [fp.2.1 22 (by omega), fm.1 22 (by omega) (by omega), fp.2.2 40 (by omega), fm.2.1 40 (by omega) (by omega)]
    exact hS1
theorem z_cmds (hw : w_ok m W) (hX : j_X N C w P n l m W σ τ) {Q : Int32 → x_S → x_L → Prop} (hQ : ∀ (r : Int32) (σ' : x_S), (∀ QR : Int32 → x_S → x_L → Prop, (∀ (ρ' : x_S) (θ' : x_L), g_R σ' τ ρ' θ' → QR r ρ' θ') → wX11_play ρ θ QR) → Q r σ' τ) (hR : ∀ QR : Int32 → x_S → x_L → Prop, (∀ (ρv : x_S) (θv : x_L), j_S N C P n l f m W σ ρv → x_n1 (wX11_play_49 QR) (m + 1) (nI 0) ρv θv) → wX11_play ρ θ QR) : x_l1 (wX10_play_36 Q) 0 σ τ := by
  have h30 := hw.1
  refine x_l1_I (fun k c0 σ' τ' => ∃ v C w P n l f, v + k = m ∧ c0 = nI v ∧ τ' = τ ∧ j_X N C w P n l m W σ' τ ∧ ∀ QR : Int32 → x_S → x_L → Prop, (∀ (ρv : x_S) (θv : x_L), j_S N C P n l f m W σ' ρv → x_n1 (wX11_play_49 QR) (k + 1) (nI v) ρv θv) → wX11_play ρ θ QR) ?_ m ⟨0, C, w, P, n, l, f, Nat.zero_add _, rfl, rfl, hX, hR⟩
  rintro k c0 σ1 τ1 ⟨v, C, w, P, n, l, f, e1, rfl, rfl, hJ, hR⟩ K hK
  obtain ⟨hX, hV, hS⟩ := id hJ
  have hN := hX.1
  unfold wX10_play_36
  rw [hS.1]
  refine i_le (by omega) (by omega) (fun c => ?_) (fun c => ?_)
  · refine hQ _ σ1 (fun QR hq => hR QR (fun ρv θv hJS => ?_))
    show wX11_play_49 QR (x_n1 (wX11_play_49 QR) k) (nI v) ρv θv
    unfold wX11_play_49 wX11_play_73
    rw [hJS.2.2.2.1]
    refine i_le (by omega) (by omega) (fun _ => ?_) (fun g => absurd g (by omega))
    rw [show v = m by omega]
    exact hq ρv θv ⟨N, C, w, hX, hJS.1, hJS.2.1⟩
  · obtain ⟨ρ0, hH0⟩ := hV.ex hN
    have hsv := hS.2 v c
    have hwv := hw.2 v c
    refine sX_perform (A := fun i => W v (i + 1)) hX hH0 (by omega) hsv.1 hwv.1 (fun i hi => ⟨hsv.2 i hi, hwv.2 i hi⟩) (fun C' σ2 σ' w' hd f1 hx => i_one ?_) (fun σ' hd f1 => i_zer' ?_)
    · rw [show (nI v + 1 : Int32) = nI (v + 1) from nI_add v 1]
      refine hK (k - 1) _ _ _ (by omega) ⟨v + 1, C', w', g_P1 P C, min (n + 1) 15, (l + 1) % 15, g_f1 n f, by omega, rfl, rfl, hJ.ed f1 hx, fun QR hq => hR QR (fun ρv θv hJS => ?_)⟩
      show wX11_play_49 QR (x_n1 (wX11_play_49 QR) k) (nI v) ρv θv
      have hmv := hJS.2.2.2.2 v c
      unfold wX11_play_49 wX11_play_73
      rw [hJS.2.2.2.1, show (4 * nI v : Int32) = nI (4 * v) from nI_mul 4 v, show (nI v + 1 : Int32) = nI (v + 1) from nI_add v 1]
      refine i_le (by omega) (by omega) (fun g => absurd g (by omega)) (fun _ => ?_)
      refine sM_isDone (A := fun i => W v (i + 1)) (C' := C') hJS.1 hJS.2.2.1 (by omega) hmv.1 hwv.1 (fun i hi => ⟨hmv.2 i hi, hwv.2 i hi⟩) (Or.inl ⟨hd, fun ρ1 ρ' g1 hm => i_one' ?_⟩)
      have := hq ρ' θv (hJS.ed hX f1 hx g1 hm)
      rw [show k - 1 + 1 = k by omega] at this
      exact this
    · refine hQ _ σ' (fun QR hq => hR QR (fun ρv θv hJS => ?_))
      show wX11_play_49 QR (x_n1 (wX11_play_49 QR) k) (nI v) ρv θv
      have hmv := hJS.2.2.2.2 v c
      unfold wX11_play_49 wX11_play_73
      rw [hJS.2.2.2.1, show (4 * nI v : Int32) = nI (4 * v) from nI_mul 4 v]
      refine i_le (by omega) (by omega) (fun g => absurd g (by omega)) (fun _ => ?_)
      refine sM_isDone (A := fun i => W v (i + 1)) (C' := C) hJS.1 hJS.2.2.1 (by omega) hmv.1 hwv.1 (fun i hi => ⟨hmv.2 i hi, hwv.2 i hi⟩) (Or.inr ⟨hd, fun ρ' g1 => i_zer (hq ρ' θv ?_)⟩)
      exact ⟨N, C, w, hX.tr f1, hJS.1.f2 g1, hJS.2.1.f2 hN f1.fq g1⟩
end PL
theorem z_41 : z_p41 g_R := by
  intro σ τ ρ θ hR
  obtain ⟨N, C, w, hX, hM, hV⟩ := id hR
  obtain ⟨⟨P, hn0, l, kf, hH⟩, hS, ⟨n, hn, h1, h2, h3, -⟩, hO⟩ := id hV
  generalize hs0 : x_up (x_up (x_up σ 1 6 0) 1 2 0) 1 3 (-1) = s0
  generalize hr0 : x_up (x_up (x_up (x_up (x_up ρ 0 5 0) 0 40 0) 0 33 0) 0 34 (-1)) 0 32 0 = r0
  have s0z : ∀ z, z ≠ 1 → s0 z = σ z := fun z hz => by rw [← hs0, x_up_n hz, x_up_n hz, x_up_n hz]
  have s01 : s0 1 1 = nI n := by rw [← hs0, x_up_sn (by omega), x_up_sn (by omega), x_up_sn (by omega)]; exact h1
  have s06 : s0 1 6 = nI 0 := by rw [← hs0, x_up_sn (by omega), x_up_sn (by omega), x_up_ss]; rfl
  have s02 : s0 1 2 = 0 := by rw [← hs0, x_up_sn (by omega), x_up_ss]
  have s03 : s0 1 3 = -1 := by rw [← hs0, x_up_ss]
  have r0z : ∀ z, z ≠ 0 → r0 z = ρ z := fun z a => by rw [← hr0, x_up_n a, x_up_n a, x_up_n a, x_up_n a, x_up_n a]
  have r0i : ∀ i, i ≠ 5 → i ≠ 32 → i ≠ 33 → i ≠ 34 → i ≠ 40 → r0 0 i = ρ 0 i := fun i a c d e g => by rw [← hr0, x_up_sn c, x_up_sn e, x_up_sn d, x_up_sn g, x_up_sn a]
  have r032 : r0 0 32 = nI 0 := by rw [← hr0, x_up_ss]; rfl
  have r033 : r0 0 33 = 0 := by rw [← hr0, x_up_sn (by omega), x_up_sn (by omega), x_up_ss]
  have r034 : r0 0 34 = -1 := by rw [← hr0, x_up_sn (by omega), x_up_ss]
  have r040 : r0 0 40 = nI 0 := by rw [← hr0, x_up_sn (by omega), x_up_sn (by omega), x_up_sn (by omega), x_up_ss]; rfl
  have tX : x_tb (σ 2) n s0 := ⟨hn, s01, fun i hi => ⟨by rw [s0z 2 (by omega)], (h3 i hi).2⟩⟩
  have tM : m_tb (σ 2) n r0 := ⟨hn, by rw [r0i 31 (by omega) (by omega) (by omega) (by omega) (by omega)]; exact h2, fun i hi => ⟨by rw [r0z 21 (by omega)]; exact (h3 i hi).1.symm, (h3 i hi).2⟩⟩
  unfold wX10_play wX9_open
  rw [hs0]
  have ref : ∀ (Q : Int32 → x_S → x_L → Prop), (∀ (m : Nat) (W : Nat → Nat → Nat) (ρ' : x_S) (θ' : x_L) (v : Int32), t_scr (σ 2) n 31 0 0 (fun _ _ => 0) = .ok (m, W) → m_sf r0 ρ' → m_sc m W ρ' → ¬ v = 0 → wX11_play_35 Q v ρ' θ') → (∀ (c s : Nat) (ρ' : x_S) (θ' : x_L), t_scr (σ 2) n 31 0 0 (fun _ _ => 0) = .error (c, s) → m_se r0 ρ' → ρ' 0 33 = nI c → ρ' 0 34 = nI s → wX11_play_35 Q 0 ρ' θ') → wX11_play ρ θ Q := fun Q k1 k0 => by
    unfold wX11_play wX11_beginText
    rw [hr0]
    refine sM_advance tM (Nat.zero_le _) r032 (fun ρ1 θ1 f1 kk1 => ?_)
    refine sM_script (tM.sf f1.tq.sf) kk1 (by rw [f1.2 40 (by omega) (by omega) (by omega)]; exact r040) (fun m W ρ2 θ2 v g1 f2 g2 g3 => k1 m W ρ2 θ2 v g1 (f1.tq.sf.tr f2) g2 g3) (fun c s ρ2 θ2 g1 f2 g2 g3 => k0 c s ρ2 θ2 g1 (f1.tq.sf.se.tr f2) g2 g3)
  refine sX_script tX s06 (fun m W σ1 gM f1 hw hsc => i_one ?_) (fun c s σ1 gE f1 e2 e3 => i_zer' ?_)
  · have fz : ∀ z, z ≠ 1 → z < 24 ∨ 26 < z → (x_up σ1 1 1 0) z = σ z := fun z a c => by rw [x_up_n a, f1.1 z a c]; exact s0z z a
    have hF' : f_F N (x_up σ1 1 1 0) := by
      have hF := hX.2.2.1
      unfold f_F at hF ⊢
      rw [fz 3 (by omega) (by omega), fz 4 (by omega) (by omega), fz 5 (by omega) (by omega), fz 6 (by omega) (by omega), fz 7 (by omega) (by omega), fz 8 (by omega) (by omega), fz 9 (by omega) (by omega), fz 10 (by omega) (by omega), fz 11 (by omega) (by omega), fz 12 (by omega) (by omega)]
      exact hF
    have hX' : g_X N C w (x_up σ1 1 1 0) τ := by
      obtain ⟨y1, y2, y3, y4, y5, y6, y7⟩ := hX
      exact ⟨y1, y2, hF', y4.cong (fun z hz => fz z (by omega) (by omega)), y5.cong (fun z hz => fz z (by omega) (by omega)), y6.cong (fun z a c => fz z (by omega) (by omega)) (by rw [fz 33 (by omega) (by omega)]), y7.cong (fz 28 (by omega) (by omega))⟩
    have hxV : x_Vh N P hn0 l (x_up σ1 1 1 0) := by
      obtain ⟨⟨b1, b2, b3⟩, ⟨b4, b5, -⟩, b6⟩ := hH
      have : x_Vh N P hn0 l σ := ⟨⟨b1, b2⟩, ⟨b4, b5⟩, fun k hk => ⟨(b6 k hk).1, (b6 k hk).2.1⟩⟩
      exact this.tr (fun z a c => fz z (by omega) (by omega))
    refine z_cmds (f := kf) hw ⟨hX', hxV, hsc.tr (fun z a c => x_up_n (by omega))⟩ (fun r σ' hq => hq _ (fun ρ' θ' g => ⟨rfl, g⟩)) (fun QR hq => ref QR (fun m' W' ρ' θ' v g1 f2 g2 g3 => ?_) (fun c s ρ' θ' g1 => by rw [gM] at g1; injection g1))
    rw [gM] at g1
    injection g1 with g1
    injection g1 with g1 g1'
    subst g1
    subst g1'
    unfold wX11_play_35
    refine ⟨fun _ => ⟨m + 1, hq _ _ ?_⟩, fun y => absurd y g3⟩
    have gz : ∀ z, z ≠ 0 → z ≠ 22 → (x_up ρ' 0 31 0) z = ρ z := fun z a c => by rw [x_up_n a, f2.1 z a c]; exact r0z z a
    have gi : ∀ i, i = 2 ∨ i = 3 ∨ i = 29 → (x_up ρ' 0 31 0) 0 i = ρ 0 i := fun i hi => by rw [x_up_sn (by omega), f2.2 i (by omega)]; exact r0i i (by omega) (by omega) (by omega) (by omega) (by omega)
    have hHf : g_Hi N P hn0 l kf (x_up σ1 1 1 0) (x_up ρ' 0 31 0) := hH.fr (fun z a c => fz z (by omega) (by omega)) (gz 1 (by omega) (by omega)) (gi 2 (by omega)) (gi 3 (by omega))
    refine ⟨⟨hX.1, hX.2.1, hM.2.2.1.cong (gz 3 (by omega) (by omega)), hM.2.2.2.cong (gz 1 (by omega) (by omega))⟩, ⟨⟨_, _, _, _, hHf⟩, hS.fr (fun z a c => fz z (by omega) (by omega)) (gz 1 (by omega) (by omega)) (gz 2 (by omega) (by omega)), ⟨0, by omega, x_up_ss _ _ _ _, x_up_ss _ _ _ _, fun i hi => absurd hi (Nat.not_lt_zero _), ?_, ?_⟩, ?_⟩, hHf, ?_⟩
    · rw [x_up_sn (by omega), x_up_sn (by omega), f1.2 2 (by omega), f2.2 33 (by omega), s02, r033]
    · rw [x_up_sn (by omega), x_up_sn (by omega), f1.2 3 (by omega), f2.2 34 (by omega), s03, r034]
    · unfold g_Ou at hO ⊢
      rw [fz 84 (by omega) (by omega), fz 85 (by omega) (by omega), gz 20 (by omega) (by omega), gi 29 (by omega)]
      exact hO
    · unfold m_sc at g2 ⊢
      rw [x_up_n (show (22 : Nat) ≠ 0 by omega), x_up_sn (show (40 : Nat) ≠ 31 by omega)]
      exact g2
  · refine ref _ (fun m' W' ρ' θ' v g1 => by rw [gE] at g1; injection g1) (fun c' s' ρ' θ' g1 f2 y5 y6 => ?_)
    rw [gE] at g1
    injection g1 with g1
    injection g1 with g1 g2
    subst g1
    subst g2
    unfold wX11_play_35
    refine i_zer' ⟨rfl, N, C, w, ?_, ⟨hX.1, hX.2.1, ?_, ?_⟩, ⟨P, hn0, l, kf, ?_⟩, ?_, ⟨0, by omega, x_up_ss _ _ _ _, x_up_ss _ _ _ _, fun i hi => absurd hi (Nat.not_lt_zero _), ?_, ?_⟩, ?_⟩
    all_goals have fz : ∀ z, z ≠ 1 → z < 24 ∨ 26 < z → (x_up σ1 1 1 0) z = σ z := fun z a c => by rw [x_up_n a, f1.1 z a c]; exact s0z z a
    all_goals have gz : ∀ z, z ≠ 0 → z ≠ 22 → (x_up ρ' 0 31 0) z = ρ z := fun z a c => by rw [x_up_n a, f2.1 z a c]; exact r0z z a
    all_goals have gi : ∀ i, i = 2 ∨ i = 3 ∨ i = 29 → (x_up ρ' 0 31 0) 0 i = ρ 0 i := fun i hi => by rw [x_up_sn (by omega), f2.2 i (by omega)]; exact r0i i (by omega) (by omega) (by omega) (by omega) (by omega)
    · have hF' : f_F N (x_up σ1 1 1 0) := by
        have hF := hX.2.2.1
        unfold f_F at hF ⊢
        rw [fz 3 (by omega) (by omega), fz 4 (by omega) (by omega), fz 5 (by omega) (by omega), fz 6 (by omega) (by omega), fz 7 (by omega) (by omega), fz 8 (by omega) (by omega), fz 9 (by omega) (by omega), fz 10 (by omega) (by omega), fz 11 (by omega) (by omega), fz 12 (by omega) (by omega)]
        exact hF
      obtain ⟨y1, y2, y3, y4, y5', y6', y7⟩ := hX
      exact ⟨y1, y2, hF', y4.cong (fun z hz => fz z (by omega) (by omega)), y5'.cong (fun z hz => fz z (by omega) (by omega)), y6'.cong (fun z a c => fz z (by omega) (by omega)) (by rw [fz 33 (by omega) (by omega)]), y7.cong (fz 28 (by omega) (by omega))⟩
    · exact hM.2.2.1.cong (gz 3 (by omega) (by omega))
    · exact hM.2.2.2.cong (gz 1 (by omega) (by omega))
    · exact hH.fr (fun z a c => fz z (by omega) (by omega)) (gz 1 (by omega) (by omega)) (gi 2 (by omega)) (gi 3 (by omega))
    · exact hS.fr (fun z a c => fz z (by omega) (by omega)) (gz 1 (by omega) (by omega)) (gz 2 (by omega) (by omega))
    · rw [x_up_sn (by omega), x_up_sn (by omega), e2, y5]
    · rw [x_up_sn (by omega), x_up_sn (by omega), e3, y6]
    · unfold g_Ou at hO ⊢
      rw [fz 84 (by omega) (by omega), fz 85 (by omega) (by omega), gz 20 (by omega) (by omega), gi 29 (by omega)]
      exact hO
