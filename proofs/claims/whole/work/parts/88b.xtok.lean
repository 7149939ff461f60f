/-- the class's place in its text: only notes 4 to 7 of cell 1 move -/
def x_tf (σ σ' : x_S) : Prop := (∀ z, z ≠ 1 → σ' z = σ z) ∧ ∀ i, i < 4 ∨ 7 < i → σ' 1 i = σ 1 i
theorem x_tf.rf (σ : x_S) : x_tf σ σ := ⟨fun _ _ => rfl, fun _ _ => rfl⟩
theorem x_tf.tr {σ σ1 σ2 : x_S} (h1 : x_tf σ σ1) (h2 : x_tf σ1 σ2) : x_tf σ σ2 := ⟨fun z a => (h2.1 z a).trans (h1.1 z a), fun z a => (h2.2 z a).trans (h1.2 z a)⟩
theorem x_tf.up {σ : x_S} {i : Nat} {v : Int32} (h : 4 ≤ i ∧ i ≤ 7) : x_tf σ (x_up σ 1 i v) := ⟨fun z a => x_up_n a, fun j hj => x_up_sn (by omega)⟩
/-- the text -/
def x_tb (b : Nat → Int32) (n : Nat) (σ : x_S) : Prop := n ≤ 1500 ∧ σ 1 1 = nI n ∧ ∀ i, i < n → σ 2 i = b i ∧ -128 ≤ (b i).toInt ∧ (b i).toInt ≤ 127
theorem x_tb.tf {b : Nat → Int32} {n : Nat} {σ σ' : x_S} (h : x_tb b n σ) (f : x_tf σ σ') : x_tb b n σ' := ⟨h.1, by rw [f.2 1 (by omega)]; exact h.2.1, by rw [f.1 2 (by omega)]; exact h.2.2⟩
section TX
variable {b : Nat → Int32} {n p c : Nat} {σ : x_S} {τ : x_L}
theorem sX_dig {v : Int32} {Q : Int32 → x_S → x_L → Prop} (h1 : 48 ≤ v.toInt ∧ v.toInt ≤ 57 → Q 1 σ τ) (h0 : ¬ (48 ≤ v.toInt ∧ v.toInt ≤ 57) → Q 0 σ τ) : wX9_isDigit v σ τ Q := by
  unfold wX9_isDigit wX9_isDigit_16 wX9_isDigit_17
  rw [Int32.lt_iff_toInt_lt, Int32.lt_iff_toInt_lt, show (48 : Int32).toInt = 48 from by decide, show (57 : Int32).toInt = 57 from by decide]
  exact ⟨fun g => ⟨Or.inl rfl, h0 (by omega)⟩, fun g => ⟨fun g2 => ⟨Or.inl rfl, h0 (by omega)⟩, fun g2 => ⟨Or.inr rfl, h1 (by omega)⟩⟩⟩
theorem sX_let {v : Int32} {Q : Int32 → x_S → x_L → Prop} (h1 : 97 ≤ v.toInt ∧ v.toInt ≤ 122 → Q 1 σ τ) (h0 : ¬ (97 ≤ v.toInt ∧ v.toInt ≤ 122) → Q 0 σ τ) : wX9_isLetter v σ τ Q := by
  unfold wX9_isLetter wX9_isLetter_16 wX9_isLetter_17
  rw [Int32.lt_iff_toInt_lt, Int32.lt_iff_toInt_lt, show (97 : Int32).toInt = 97 from by decide, show (122 : Int32).toInt = 122 from by decide]
  exact ⟨fun g => ⟨Or.inl rfl, h0 (by omega)⟩, fun g => ⟨fun g2 => ⟨Or.inl rfl, h0 (by omega)⟩, fun g2 => ⟨Or.inr rfl, h1 (by omega)⟩⟩⟩
theorem e_dstep {v : Nat} {x : Int32} (hv : v < 100000000) (h1 : 48 ≤ x.toInt) (h2 : x.toInt ≤ 57) : (nI v * 10 + x - 48 : Int32) = nI (v * 10 + (x.toInt - 48).toNat) := by
  have hx : x = nI x.toInt.toNat := by
    apply Int32.toInt_inj.mp
    rw [nI_toInt (by omega)]
    omega
  rw [hx]
  show nI v * nI 10 + nI x.toInt.toNat - nI 48 = _
  rw [nI_mul, nI_add, nI_sub (by omega), nI_toInt (by omega)]
  congr 1
  omega
theorem sX_readDigits (ht : x_tb b n σ) {s : Nat} (hs : s ≤ n) (h5 : σ 1 5 = nI s) (h6 : σ 1 6 = nI s) {Q : x_S → x_L → Prop} (h : ∀ σ' : x_S, x_tf σ σ' → σ' 1 5 = nI s → σ' 1 6 = nI (t_run b n 2 s) → σ' 1 4 = nI (if 5 < t_run b n 2 s - s then 4 else 2) → (¬ 5 < t_run b n 2 s - s → σ' 1 7 = nI (t_dig b s (t_run b n 2 s - s))) → Q σ' τ) : wX9_readDigits σ τ Q := by
  have hn := ht.1
  unfold wX9_readDigits
  refine x_l0_I (fun k σ' τ' => ∃ e, e + k = n ∧ s ≤ e ∧ x_tf σ σ' ∧ σ' 1 5 = nI s ∧ σ' 1 6 = nI e ∧ t_run b n 2 e = t_run b n 2 s ∧ (∀ i, s ≤ i → i < e → 48 ≤ (b i).toInt ∧ (b i).toInt ≤ 57) ∧ σ' 1 7 = nI (t_dig b s (min 5 (e - s))) ∧ τ' = τ) ?_ (n - s) ⟨s, by omega, Nat.le_refl _, x_tf.up (by omega), by rw [x_up_sn (by omega)]; exact h5, by rw [x_up_sn (by omega)]; exact h6, rfl, fun i a c => absurd a (by omega), by rw [x_up_ss, Nat.sub_self]; rfl, rfl⟩
  rintro k σ' τ' ⟨e, e1, e2, f, g5, g6, gr, gd, g7, rfl⟩ K hK
  have ht' := ht.tf f
  have hdb := t_dig_b b s (min 5 (e - s)) (fun i hi => (gd (s + i) (by omega) (by omega)).2)
  have hdb2 : 10 ^ (min 5 (e - s)) ≤ 10 ^ 5 := Nat.pow_le_pow_right (by omega) (by omega)
  have fin : t_c b n e ≠ 2 → wX9_readDigits_81 Q σ' τ' := fun g => by
    have er : t_run b n 2 s = e := by rw [← gr]; exact t_run_e g
    rw [er] at h
    unfold wX9_readDigits_81 wX9_readDigits_100
    rw [g6, g5, nI_sub e2]
    refine i_lt (a := 5) (by omega) (by omega) (fun c => ?_) (fun c => ?_)
    · refine h _ (f.tr (x_tf.up (by omega))) (by rw [x_up_sn (by omega)]; exact g5) (by rw [x_up_sn (by omega)]; exact g6) (by rw [x_up_ss, if_pos c]; rfl) (fun c2 => absurd c c2)
    · refine h _ (f.tr (x_tf.up (by omega))) (by rw [x_up_sn (by omega)]; exact g5) (by rw [x_up_sn (by omega)]; exact g6) (by rw [x_up_ss, if_neg (by omega)]; rfl) (fun c2 => ?_)
      rw [x_up_sn (by omega), g7, show min 5 (e - s) = e - s by omega]
  unfold wX9_readDigits_5 wX9_readDigits_68
  rw [ht'.2.1, g6, i_cl (by omega)]
  refine i_le (by omega) (by omega) (fun g => fin (by rw [t_c_0 g]; omega)) (fun g => ⟨i_in (by omega) (by omega), sX_dig (fun c => i_one' ?_) (fun c => i_zer (fin ?_))⟩)
  · rw [(ht'.2.2 e g).1] at c
    have hc : t_c b n e = 2 := (t_c_2 g).mpr c
    have gr' : t_run b n 2 (e + 1) = t_run b n 2 s := by rw [← gr]; exact (t_run_s (by omega) hc).symm
    have gd' : ∀ i, s ≤ i → i < e + 1 → 48 ≤ (b i).toInt ∧ (b i).toInt ≤ 57 := fun i a d => by
      by_cases z : i = e
      · rw [z]
        exact c
      · exact gd i a (by omega)
    rw [g6, g5, nI_sub e2, i_cl (by omega)]
    refine i_le (a := 5) (by omega) (by omega) (fun g2 => ?_) (fun g2 => ⟨i_in (by omega) (by omega), ?_⟩)
    · refine hK (k - 1) _ _ (by omega) ⟨e + 1, by omega, by omega, f.tr (x_tf.up (by omega)), by rw [x_up_sn (by omega)]; exact g5, ?_, gr', gd', ?_, rfl⟩
      · rw [x_up_ss]
        exact nI_add e 1
      · rw [x_up_sn (by omega), g7, show min 5 (e - s) = min 5 (e + 1 - s) by omega]
    · rw [g7, (ht'.2.2 e g).1, e_dstep (by omega) c.1 c.2]
      refine hK (k - 1) _ _ (by omega) ⟨e + 1, by omega, by omega, (f.tr (x_tf.up (by omega))).tr (x_tf.up (by omega)), by rw [x_up_sn (by omega), x_up_sn (by omega)]; exact g5, ?_, gr', gd', ?_, rfl⟩
      · rw [x_up_ss, x_up_sn (by omega), g6]
        exact nI_add e 1
      · rw [x_up_sn (by omega), x_up_ss, show min 5 (e + 1 - s) = min 5 (e - s) + 1 by omega, t_dig, show s + min 5 (e - s) = e by omega]
  · rw [(ht'.2.2 e g).1] at c
    exact fun g2 => c ((t_c_2 g).mp g2)
theorem sX_readLetters (ht : x_tb b n σ) {s : Nat} (hs : s ≤ n) (h5 : σ 1 5 = nI s) (h6 : σ 1 6 = nI s) {Q : x_S → x_L → Prop} (h : ∀ σ' : x_S, x_tf σ σ' → σ' 1 5 = nI s → σ' 1 6 = nI (t_run b n 1 s) → σ' 1 4 = nI (if 8 < t_run b n 1 s - s then 4 else 1) → Q σ' τ) : wX9_readLetters σ τ Q := by
  have hn := ht.1
  unfold wX9_readLetters
  refine x_l0_I (fun k σ' τ' => ∃ e, e + k = n ∧ s ≤ e ∧ x_tf σ σ' ∧ σ' 1 5 = nI s ∧ σ' 1 6 = nI e ∧ t_run b n 1 e = t_run b n 1 s ∧ τ' = τ) ?_ (n - s) ⟨s, by omega, Nat.le_refl _, x_tf.rf _, h5, h6, rfl, rfl⟩
  rintro k σ' τ' ⟨e, e1, e2, f, g5, g6, gr, rfl⟩ K hK
  have ht' := ht.tf f
  have fin : t_c b n e ≠ 1 → wX9_readLetters_39 Q σ' τ' := fun g => by
    have er : t_run b n 1 s = e := by rw [← gr]; exact t_run_e g
    rw [er] at h
    unfold wX9_readLetters_39 wX9_readLetters_59
    rw [g6, g5, nI_sub e2]
    refine i_lt (a := 8) (by omega) (by omega) (fun c => ?_) (fun c => ?_)
    · exact h _ (f.tr (x_tf.up (by omega))) (by rw [x_up_sn (by omega)]; exact g5) (by rw [x_up_sn (by omega)]; exact g6) (by rw [x_up_ss, if_pos c]; rfl)
    · exact h _ (f.tr (x_tf.up (by omega))) (by rw [x_up_sn (by omega)]; exact g5) (by rw [x_up_sn (by omega)]; exact g6) (by rw [x_up_ss, if_neg (by omega)]; rfl)
  unfold wX9_readLetters_0
  rw [ht'.2.1, g6, i_cl (by omega)]
  refine i_le (by omega) (by omega) (fun g => fin (by rw [t_c_0 g]; omega)) (fun g => ⟨i_in (by omega) (by omega), sX_let (fun c => i_one' ?_) (fun c => i_zer (fin ?_))⟩)
  · rw [(ht'.2.2 e g).1] at c
    have hc : t_c b n e = 1 := (t_c_1 g).mpr c
    refine hK (k - 1) _ _ (by omega) ⟨e + 1, by omega, by omega, f.tr (x_tf.up (by omega)), by rw [x_up_sn (by omega)]; exact g5, ?_, by rw [← gr]; exact (t_run_s (by omega) hc).symm, rfl⟩
    rw [x_up_ss, g6]
    exact nI_add e 1
  · rw [(ht'.2.2 e g).1] at c
    exact fun g2 => c ((t_c_1 g).mp g2)
/-- a token from place p on was read -/
def x_tk (b : Nat → Int32) (n p : Nat) (σ : x_S) : Prop := σ 1 5 = nI (t_beg b n p) ∧ σ 1 6 = nI (t_end b n p) ∧ σ 1 4 = nI (t_kd b n p) ∧ (t_kd b n p = 2 → σ 1 7 = nI (t_dig b (t_beg b n p) (t_end b n p - t_beg b n p)))
theorem sX_next (ht : x_tb b n σ) (hp : p ≤ n) (h6 : σ 1 6 = nI p) {Q : x_S → x_L → Prop} (h : ∀ σ' : x_S, x_tf σ σ' → x_tk b n p σ' → Q σ' τ) : wX9_next σ τ Q := by
  have hn := ht.1
  unfold wX9_next
  refine x_l0_I (fun k σ' τ' => ∃ e, e + k = n ∧ p ≤ e ∧ x_tf σ σ' ∧ σ' 1 5 = nI e ∧ t_run b n 5 e = t_beg b n p ∧ τ' = τ) ?_ (n - p) ⟨p, by omega, Nat.le_refl _, x_tf.up (by omega), by rw [x_up_ss]; exact h6, rfl, rfl⟩
  rintro k σ' τ' ⟨e, e1, e2, f, g5, gr, rfl⟩ K hK
  have ht' := ht.tf f
  have fin : t_c b n e ≠ 5 → wX9_next_60 Q σ' τ' := fun g => by
    have er : t_beg b n p = e := by rw [← gr]; exact t_run_e g
    have hen : t_end b n p = if t_c b n e = 0 then e else if t_c b n e = 2 then t_run b n 2 e else if t_c b n e = 1 then t_run b n 1 e else e + 1 := by
      unfold t_end
      rw [er]
    have hkd : t_kd b n p = if t_c b n e = 2 then (if 5 < t_end b n p - e then 4 else 2) else if t_c b n e = 1 then (if 8 < t_end b n p - e then 4 else 1) else t_c b n e := by
      unfold t_kd
      rw [er]
    have f1 : x_tf σ (x_up σ' 1 6 (σ' 1 5)) := f.tr (x_tf.up (by omega))
    have ht1 := ht.tf f1
    have q5 : (x_up σ' 1 6 (σ' 1 5)) 1 5 = nI e := by rw [x_up_sn (by omega)]; exact g5
    have q6 : (x_up σ' 1 6 (σ' 1 5)) 1 6 = nI e := by rw [x_up_ss]; exact g5
    unfold wX9_next_60
    revert f1 ht1 q5 q6
    generalize x_up σ' 1 6 (σ' 1 5) = σ1
    intro f1 ht1 q5 q6
    unfold wX9_next_164 wX9_next_151
    unfold wX9_next_164
    rw [q5, ht1.2.1, i_cl (show e < 1000000000 by omega)]
    refine i_lt (by omega) (by omega) (fun c0 => ⟨i_in (by omega) (by omega), ?_⟩) (fun c0 => ?_)
    · have n0 := t_c_n0 (b := b) c0
      have hb := (ht1.2.2 e c0).1
      rw [if_neg n0] at hen
      rw [hb]
      refine sX_dig (fun c => i_one' ?_) (fun c => i_zer ⟨by rw [q5]; exact i_in (by omega) (by omega), ?_⟩)
      · have c2 := (t_c_2 c0).mpr c
        rw [if_pos c2] at hen hkd
        refine sX_readDigits ht1 (by omega) q5 q6 (fun σ2 f2 r5 r6 r4 r7 => h σ2 (f1.tr f2) ⟨by rw [er]; exact r5, by rw [hen]; exact r6, by rw [hkd, hen]; exact r4, fun hk => ?_⟩)
        rw [er, hen]
        refine r7 (fun g2 => ?_)
        rw [hkd, hen, if_pos g2] at hk
        omega
      · have c2 : t_c b n e ≠ 2 := fun g2 => c ((t_c_2 c0).mp g2)
        rw [if_neg c2] at hen hkd
        rw [q5, i_cl (show e < 1000000000 by omega), hb]
        refine sX_let (fun c3 => i_one' ?_) (fun c3 => i_zer ⟨by rw [q5]; exact i_in (by omega) (by omega), ?_⟩)
        · have c1 := (t_c_1 c0).mpr c3
          rw [if_pos c1] at hen hkd
          refine sX_readLetters ht1 (by omega) q5 q6 (fun σ2 f2 r5 r6 r4 => h σ2 (f1.tr f2) ⟨by rw [er]; exact r5, by rw [hen]; exact r6, by rw [hkd, hen]; exact r4, fun hk => ?_⟩)
          rw [hkd] at hk
          split at hk <;> omega
        · have c1 : t_c b n e ≠ 1 := fun g2 => c3 ((t_c_1 c0).mp g2)
          rw [if_neg c1] at hen hkd
          rw [q5, i_cl (show e < 1000000000 by omega), hb]
          have n5 : ¬ (b e = 32 ∨ b e = 10) := fun g5 => g (t_c_5 c0 g5)
          obtain ⟨k3, k4⟩ := t_c_s c0 n5 c2 c1
          have last : ∀ (v : Nat), t_c b n e = v → v ≠ 2 → Q (x_up (x_up σ1 1 4 (nI v)) 1 6 (((x_up σ1 1 4 (nI v)) 1 5) + 1)) τ' := fun v hv hv2 => by
            refine h _ ((f1.tr (x_tf.up (by omega))).tr (x_tf.up (by omega))) ⟨?_, ?_, ?_, fun hk => absurd (hkd.symm.trans hk) (by omega)⟩
            · rw [x_up_sn (by omega), x_up_sn (by omega), er]
              exact q5
            · rw [x_up_ss, x_up_sn (by omega), q5, hen]
              exact nI_add e 1
            · rw [x_up_sn (by omega), x_up_ss, hkd, hv]
          exact ⟨fun g9 => last 4 (k4 g9) (by omega), fun g9 => last 3 (k3 g9) (by omega)⟩
    · have c := t_c_0 (b := b) c0
      rw [if_pos c] at hen
      rw [if_neg (by omega), if_neg (by omega)] at hkd
      refine h _ (f1.tr (x_tf.up (by omega))) ⟨?_, ?_, ?_, fun hk => absurd hk (by omega)⟩
      · rw [x_up_sn (by omega), er]
        exact q5
      · rw [x_up_sn (by omega), hen]
        exact q6
      · rw [x_up_ss, hkd, c]
        rfl
  have step : ∀ (g : e < n), (b e = 32 ∨ b e = 10) → wX9_next_47 K Q σ' τ' := fun g g2 => by
    have hc : t_c b n e = 5 := t_c_5 g g2
    unfold wX9_next_47
    refine hK (k - 1) _ _ (by omega) ⟨e + 1, by omega, by omega, f.tr (x_tf.up (by omega)), ?_, by rw [← gr]; exact (t_run_s (by omega) hc).symm, rfl⟩
    rw [x_up_ss, g5]
    exact nI_add e 1
  unfold wX9_next_8
  rw [ht'.2.1, g5, i_cl (by omega)]
  refine i_le (by omega) (by omega) (fun g => fin (by rw [t_c_0 g]; omega)) (fun g => ⟨i_in (by omega) (by omega), ?_⟩)
  rw [(ht'.2.2 e g).1]
  exact ⟨fun g2 => step g (Or.inl g2), fun g2 => ⟨fun g3 => fin (t_c_n5 g (fun g4 => g4.elim g2 g3)), fun g3 => step g (Or.inr g3)⟩⟩
end TX
