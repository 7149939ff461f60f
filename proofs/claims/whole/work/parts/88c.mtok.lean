/-- the reference's place in its text -/
def m_tf (ρ ρ' : x_S) : Prop := (∀ z, z ≠ 0 → ρ' z = ρ z) ∧ ∀ i, i ≠ 32 → i ≠ 35 → i ≠ 36 → ρ' 0 i = ρ 0 i
theorem m_tf.rf (ρ : x_S) : m_tf ρ ρ := ⟨fun _ _ => rfl, fun _ _ _ _ => rfl⟩
theorem m_tf.tr {ρ ρ1 ρ2 : x_S} (h1 : m_tf ρ ρ1) (h2 : m_tf ρ1 ρ2) : m_tf ρ ρ2 := ⟨fun z a => (h2.1 z a).trans (h1.1 z a), fun z a b c => (h2.2 z a b c).trans (h1.2 z a b c)⟩
theorem m_tf.up {ρ : x_S} {i : Nat} {v : Int32} (h : i = 32 ∨ i = 35 ∨ i = 36) : m_tf ρ (x_up ρ 0 i v) := ⟨fun z a => x_up_n a, fun j a b c => x_up_sn (by omega)⟩
def m_tb (b : Nat → Int32) (n : Nat) (ρ : x_S) : Prop := n ≤ 1500 ∧ ρ 0 31 = nI n ∧ ∀ i, i < n → ρ 21 i = b i ∧ -128 ≤ (b i).toInt ∧ (b i).toInt ≤ 127
theorem m_tb.tf {b : Nat → Int32} {n : Nat} {ρ ρ' : x_S} (h : m_tb b n ρ) (f : m_tf ρ ρ') : m_tb b n ρ' := ⟨h.1, by rw [f.2 31 (by omega) (by omega) (by omega)]; exact h.2.1, by rw [f.1 21 (by omega)]; exact h.2.2⟩
def t_by (b : Nat → Int32) (n p : Nat) : Int32 := if n ≤ p then -1 else b p &&& 255
theorem e_255 {x : Int32} (h1 : -128 ≤ x.toInt) (h2 : x.toInt ≤ 127) : (x &&& 255).toInt = if 0 ≤ x.toInt then x.toInt else x.toInt + 256 := by
  have key : ∀ k : Nat, k < 256 → ((Int32.ofInt ((k : Int) - 128)) &&& 255).toInt = if 0 ≤ (Int32.ofInt ((k : Int) - 128)).toInt then (Int32.ofInt ((k : Int) - 128)).toInt else (Int32.ofInt ((k : Int) - 128)).toInt + 256 := by decide +kernel
  have hx : x = Int32.ofInt ((((x.toInt + 128).toNat : Nat) : Int) - 128) := by
    rw [show (((x.toInt + 128).toNat : Nat) : Int) - 128 = x.toInt by omega]
    exact (Int32.ofInt_toInt x).symm
  rw [hx]
  exact key _ (by omega)
section TM
variable {b : Nat → Int32} {n p c : Nat} {ρ : x_S} {θ : x_L}
theorem t_by_r (hp : p < n) (h1 : -128 ≤ (b p).toInt) (h2 : (b p).toInt ≤ 127) : (t_by b n p).toInt = if 0 ≤ (b p).toInt then (b p).toInt else (b p).toInt + 256 := by
  unfold t_by
  rw [if_neg (by omega)]
  exact e_255 h1 h2
theorem t_by_1 (hp : n ≤ p) : t_by b n p = -1 := if_pos hp
theorem t_by_eq (hp : p < n) (h1 : -128 ≤ (b p).toInt) (h2 : (b p).toInt ≤ 127) {v : Int32} (v1 : 0 ≤ v.toInt) (v2 : v.toInt ≤ 127) : t_by b n p = v ↔ b p = v := by
  have e := t_by_r hp h1 h2
  constructor
  · intro g
    rw [g] at e
    apply Int32.toInt_inj.mp
    split at e <;> omega
  · intro g
    apply Int32.toInt_inj.mp
    rw [g] at e h1 h2
    rw [e, if_pos v1]
theorem sM_byteAt (ht : m_tb b n ρ) (hp : p ≤ n) {Q : Int32 → x_S → x_L → Prop} (h : Q (t_by b n p) ρ θ) : wX11_byteAt (nI p) ρ θ Q := by
  have hn := ht.1
  unfold wX11_byteAt wX11_byteAt_22
  rw [ht.2.1, i_cl (by omega)]
  refine i_le (by omega) (by omega) (fun g => ?_) (fun g => ⟨i_in (by omega) (by omega), ?_⟩)
  · rw [t_by_1 g] at h
    exact h
  · rw [(ht.2.2 p g).1]
    unfold t_by at h
    rw [if_neg (by omega)] at h
    exact h
theorem sM_inT {a : Int32} {lo hi : Int64} {l m : Int} (el : lo.toInt = l) (eh : hi.toInt = m) {Q : Int32 → x_S → x_L → Prop} (h1 : l ≤ a.toInt ∧ a.toInt ≤ m → Q 1 ρ θ) (h0 : ¬ (l ≤ a.toInt ∧ a.toInt ≤ m) → Q 0 ρ θ) : wX11_inRange a.toInt64 lo hi ρ θ Q := by
  unfold wX11_inRange wX11_inRange_17 wX11_inRange_18
  rw [lg_cmp_lt, lg_cmp_gt, Int64.lt_iff_toInt_lt, Int64.lt_iff_toInt_lt, Int32.toInt_toInt64, el, eh]
  exact ⟨fun g => ⟨Or.inl rfl, h0 (by omega)⟩, fun g => ⟨fun g2 => ⟨Or.inl rfl, h0 (by omega)⟩, fun g2 => ⟨Or.inr rfl, h1 (by omega)⟩⟩⟩
theorem sM_let (ht : m_tb b n ρ) {Q : Int32 → x_S → x_L → Prop} (h1 : t_c b n p = 1 → Q 1 ρ θ) (h0 : t_c b n p ≠ 1 → Q 0 ρ θ) : wX11_isLetter (t_by b n p) ρ θ Q := by
  unfold wX11_isLetter
  refine sM_inT (l := 97) (m := 122) (by decide) (by decide) (fun g => ⟨Or.inr rfl, h1 ?_⟩) (fun g => ⟨Or.inl rfl, h0 (fun g2 => g ?_)⟩)
  · by_cases hp : p < n
    · have hb := ht.2.2 p hp
      rw [t_by_r hp hb.2.1 hb.2.2] at g
      refine (t_c_1 hp).mpr ?_
      split at g <;> omega
    · rw [t_by_1 (by omega), show (-1 : Int32).toInt = -1 from by decide] at g
      omega
  · have hp := t_c_lt (b := b) (n := n) (p := p) (by omega)
    have hb := ht.2.2 p hp
    have := (t_c_1 hp).mp g2
    rw [t_by_r hp hb.2.1 hb.2.2, if_pos (by omega)]
    omega
theorem sM_dig (ht : m_tb b n ρ) {Q : Int32 → x_S → x_L → Prop} (h1 : t_c b n p = 2 → Q 1 ρ θ) (h0 : t_c b n p ≠ 2 → Q 0 ρ θ) : wX11_isDigit (t_by b n p) ρ θ Q := by
  unfold wX11_isDigit
  refine sM_inT (l := 48) (m := 57) (by decide) (by decide) (fun g => ⟨Or.inr rfl, h1 ?_⟩) (fun g => ⟨Or.inl rfl, h0 (fun g2 => g ?_)⟩)
  · by_cases hp : p < n
    · have hb := ht.2.2 p hp
      rw [t_by_r hp hb.2.1 hb.2.2] at g
      refine (t_c_2 hp).mpr ?_
      split at g <;> omega
    · rw [t_by_1 (by omega), show (-1 : Int32).toInt = -1 from by decide] at g
      omega
  · have hp := t_c_lt (b := b) (n := n) (p := p) (by omega)
    have hb := ht.2.2 p hp
    have := (t_c_2 hp).mp g2
    rw [t_by_r hp hb.2.1 hb.2.2, if_pos (by omega)]
    omega
theorem e_L10 {x : Int64} {r : Int32} {V : Nat} (hx : x.toInt = V) (hV : V < 1000000000000) (h1 : 48 ≤ r.toInt) (h2 : r.toInt ≤ 57) : ((x * 10) + r.toInt64 - 48).toInt = ((V * 10 + (r.toInt - 48).toNat : Nat) : Int) := by
  rw [Int64.toInt_sub, Int64.toInt_add, Int64.toInt_mul, Int32.toInt_toInt64, hx, show (10 : Int64).toInt = 10 from by decide, show (48 : Int64).toInt = 48 from by decide]
  rw [Int.bmod_eq_of_le (n := (V : Int) * 10) (by omega) (by omega), Int.bmod_eq_of_le (n := (V : Int) * 10 + r.toInt) (by omega) (by omega), Int.bmod_eq_of_le (by omega) (by omega)]
  omega
theorem e_L32 {x : Int64} {r : Int32} {V : Nat} (hx : x.toInt = V) (hV : V < 10000000000000) (h1 : 97 ≤ r.toInt) (h2 : r.toInt ≤ 122) : ((x * 32) + r.toInt64 - 96).toInt = ((V * 32 + (r.toInt - 96).toNat : Nat) : Int) := by
  rw [Int64.toInt_sub, Int64.toInt_add, Int64.toInt_mul, Int32.toInt_toInt64, hx, show (32 : Int64).toInt = 32 from by decide, show (96 : Int64).toInt = 96 from by decide]
  rw [Int.bmod_eq_of_le (n := (V : Int) * 32) (by omega) (by omega), Int.bmod_eq_of_le (n := (V : Int) * 32 + r.toInt) (by omega) (by omega), Int.bmod_eq_of_le (by omega) (by omega)]
  omega
theorem sM_274 {s e k0 : Nat} (he : s ≤ e) (hn : e ≤ 1501) (hk : k0 ≤ 4) (h5 : ρ 0 36 = nI s) (h6 : ρ 0 32 = nI e) (h4 : ρ 0 35 = nI k0) {Q : x_S → x_L → Prop} (h : ∀ ρ' : x_S, m_tf ρ ρ' → ρ' 0 36 = nI s → ρ' 0 32 = nI e → ρ' 0 35 = nI (if k0 = 2 then (if 5 < e - s then 4 else 2) else if k0 = 1 then (if 8 < e - s then 4 else 1) else k0) → Q ρ' θ) : wX11_advance_274 Q ρ θ := by
  have four : (if k0 = 2 then (if 5 < e - s then 4 else 2) else if k0 = 1 then (if 8 < e - s then 4 else 1) else k0) = 4 → wX11_advance_317 Q ρ θ := fun g => by
    unfold wX11_advance_317 wX11_advance_322
    exact h _ (m_tf.up (by omega)) (by rw [x_up_sn (by omega)]; exact h5) (by rw [x_up_sn (by omega)]; exact h6) (by rw [x_up_ss, g]; rfl)
  have same : (if k0 = 2 then (if 5 < e - s then 4 else 2) else if k0 = 1 then (if 8 < e - s then 4 else 1) else k0) = k0 → wX11_advance_322 Q ρ θ := fun g => h _ (m_tf.rf _) h5 h6 (by rw [g]; exact h4)
  unfold wX11_advance_274 wX11_advance_296
  rw [h4, h5, h6, nI_sub he]
  refine i_ne (b := 1) (by omega) (by omega) (fun g => i_ne (b := 2) (by omega) (by omega) (fun g2 => same (by rw [if_neg g2, if_neg g])) (fun g2 => i_le (b := 5) (by omega) (by omega) (fun g3 => same (by rw [if_pos g2, if_neg (by omega), g2])) (fun g3 => four (by rw [if_pos g2, if_pos g3])))) (fun g => i_lt (a := 8) (by omega) (by omega) (fun g3 => four (by rw [if_neg (by omega), if_pos g, if_pos g3])) (fun g3 => i_ne (b := 2) (by omega) (by omega) (fun _ => same (by rw [if_neg (by omega), if_pos g, if_neg (by omega), g])) (fun g2 => absurd g2 (by omega))))
theorem sM_200 (ht : m_tb b n ρ) {s : Nat} (hs : s ≤ n) (h5 : ρ 0 36 = nI s) (h6 : ρ 0 32 = nI s) (h4 : ρ 0 35 = nI 2) (h0 : θ 0 38 = 0) {Q : x_S → x_L → Prop} (h : ∀ (ρ' : x_S) (θ' : x_L), m_tf ρ ρ' → ρ' 0 36 = nI s → ρ' 0 32 = nI (t_run b n 2 s) → ρ' 0 35 = nI (if 5 < t_run b n 2 s - s then 4 else 2) → (¬ 5 < t_run b n 2 s - s → (θ' 0 38).toInt = (t_dig b s (t_run b n 2 s - s) : Nat)) → Q ρ' θ') : x_l0 (wX11_advance_200 Q) ρ θ := by
  have hn := ht.1
  refine x_l0_I (fun k ρ' θ' => ∃ e, e + k = n ∧ s ≤ e ∧ m_tf ρ ρ' ∧ ρ' 0 36 = nI s ∧ ρ' 0 32 = nI e ∧ ρ' 0 35 = nI 2 ∧ t_run b n 2 e = t_run b n 2 s ∧ (∀ i, s ≤ i → i < e → (b i).toInt ≤ 57) ∧ (θ' 0 38).toInt = (t_dig b s (min 5 (e - s)) : Nat)) ?_ (n - s) ⟨s, by omega, Nat.le_refl _, m_tf.rf _, h5, h6, h4, rfl, fun i a c => absurd a (by omega), by rw [h0, Nat.sub_self]; rfl⟩
  rintro k ρ' θ' ⟨e, e1, e2, f, g5, g6, g4, gr, gd, g7⟩ K hK
  have ht' := ht.tf f
  have hdb := t_dig_b b s (min 5 (e - s)) (fun i hi => gd (s + i) (by omega) (by omega))
  have hdb2 : 10 ^ (min 5 (e - s)) ≤ 10 ^ 5 := Nat.pow_le_pow_right (by omega) (by omega)
  unfold wX11_advance_200 wX11_advance_261
  rw [g4, g6]
  refine ⟨fun g => absurd rfl g, fun _ => sM_byteAt ht' (by omega) (sM_dig ht' (fun c => i_one' ?_) (fun c => i_zer ?_))⟩
  · have g := t_c_lt (b := b) (n := n) (p := e) (by omega)
    have hb := ht'.2.2 e g
    have cd := (t_c_2 g).mp c
    have gr' : t_run b n 2 (e + 1) = t_run b n 2 s := by rw [← gr]; exact (t_run_s (by omega) c).symm
    have gd' : ∀ i, s ≤ i → i < e + 1 → (b i).toInt ≤ 57 := fun i a d => by
      by_cases z : i = e
      · rw [z]
        exact cd.2
      · exact gd i a (by omega)
    rw [g6, g5, nI_sub e2]
    refine i_le (a := 5) (by omega) (by omega) (fun g2 => ?_) (fun g2 => sM_byteAt ht' (by omega) ?_)
    · refine hK (k - 1) _ _ (by omega) ⟨e + 1, by omega, by omega, f.tr (m_tf.up (by omega)), by rw [x_up_sn (by omega)]; exact g5, ?_, by rw [x_up_sn (by omega)]; exact g4, gr', gd', ?_⟩
      · rw [x_up_ss]
        exact nI_add e 1
      · rw [g7, show min 5 (e - s) = min 5 (e + 1 - s) by omega]
    · have hby : (t_by b n e).toInt = (b e).toInt := by rw [t_by_r g hb.2.1 hb.2.2, if_pos (by omega)]
      rw [g6]
      refine hK (k - 1) _ _ (by omega) ⟨e + 1, by omega, by omega, f.tr (m_tf.up (by omega)), by rw [x_up_sn (by omega)]; exact g5, ?_, by rw [x_up_sn (by omega)]; exact g4, gr', gd', ?_⟩
      · rw [x_up_ss]
        exact nI_add e 1
      · rw [x_upL_ss, e_L10 g7 (by omega) (by omega) (by omega), hby, show min 5 (e + 1 - s) = min 5 (e - s) + 1 by omega, t_dig, show s + min 5 (e - s) = e by omega]
  · have er : t_run b n 2 s = e := by rw [← gr]; exact t_run_e c
    rw [er] at h
    refine sM_274 e2 (by omega) (k0 := 2) (by omega) g5 g6 g4 (fun ρ2 f2 r5 r6 r4 => h ρ2 θ' (f.tr f2) r5 r6 (by rw [r4, if_pos rfl]) (fun c2 => ?_))
    rw [g7, show min 5 (e - s) = e - s by omega]
theorem sM_200n {s e k0 : Nat} (he : s ≤ e) (hn : e ≤ 1501) (hk : k0 ≤ 4) (h2 : k0 ≠ 2) (h5 : ρ 0 36 = nI s) (h6 : ρ 0 32 = nI e) (h4 : ρ 0 35 = nI k0) {Q : x_S → x_L → Prop} (h : ∀ ρ' : x_S, m_tf ρ ρ' → ρ' 0 36 = nI s → ρ' 0 32 = nI e → ρ' 0 35 = nI (if k0 = 1 then (if 8 < e - s then 4 else 1) else k0) → Q ρ' θ) : x_l0 (wX11_advance_200 Q) ρ θ := by
  refine x_l0_I (fun _ ρ' θ' => ρ' = ρ ∧ θ' = θ) ?_ 0 ⟨rfl, rfl⟩
  rintro k ρ' θ' ⟨rfl, rfl⟩ K hK
  unfold wX11_advance_200
  rw [h4]
  refine i_ne (b := 2) (by omega) (by omega) (fun _ => sM_274 he hn hk h5 h6 h4 (fun ρ2 f2 r5 r6 r4 => h ρ2 f2 r5 r6 (by rw [r4, if_neg h2]))) (fun g => absurd g h2)
theorem sM_125 (ht : m_tb b n ρ) {s : Nat} (hs : s ≤ n) (h5 : ρ 0 36 = nI s) (h6 : ρ 0 32 = nI s) (h4 : ρ 0 35 = nI 1) (h0 : θ 0 38 = 0) {Q : x_S → x_L → Prop} (h : ∀ (ρ' : x_S) (θ' : x_L), m_tf ρ ρ' → ρ' 0 36 = nI s → ρ' 0 32 = nI (t_run b n 1 s) → ρ' 0 35 = nI (if 8 < t_run b n 1 s - s then 4 else 1) → (¬ 8 < t_run b n 1 s - s → (θ' 0 38).toInt = (t_pk b s (t_run b n 1 s - s) : Nat)) → Q ρ' θ') : x_l0 (wX11_advance_125 Q) ρ θ := by
  have hn := ht.1
  refine x_l0_I (fun k ρ' θ' => ∃ e, e + k = n ∧ s ≤ e ∧ m_tf ρ ρ' ∧ ρ' 0 36 = nI s ∧ ρ' 0 32 = nI e ∧ ρ' 0 35 = nI 1 ∧ t_run b n 1 e = t_run b n 1 s ∧ (∀ i, s ≤ i → i < e → (b i).toInt ≤ 122) ∧ (θ' 0 38).toInt = (t_pk b s (min 8 (e - s)) : Nat)) ?_ (n - s) ⟨s, by omega, Nat.le_refl _, m_tf.rf _, h5, h6, h4, rfl, fun i a c => absurd a (by omega), by rw [h0, Nat.sub_self]; rfl⟩
  rintro k ρ' θ' ⟨e, e1, e2, f, g5, g6, g4, gr, gd, g7⟩ K hK
  have ht' := ht.tf f
  have hdb := t_pk_b b s (min 8 (e - s)) (fun i hi => gd (s + i) (by omega) (by omega))
  unfold wX11_advance_125 wX11_advance_187
  rw [g4, g6]
  refine ⟨fun g => absurd rfl g, fun _ => sM_byteAt ht' (by omega) (sM_let ht' (fun c => i_one' ?_) (fun c => i_zer ?_))⟩
  · have g := t_c_lt (b := b) (n := n) (p := e) (by omega)
    have hb := ht'.2.2 e g
    have cd := (t_c_1 g).mp c
    have gr' : t_run b n 1 (e + 1) = t_run b n 1 s := by rw [← gr]; exact (t_run_s (by omega) c).symm
    have gd' : ∀ i, s ≤ i → i < e + 1 → (b i).toInt ≤ 122 := fun i a d => by
      by_cases z : i = e
      · rw [z]
        exact cd.2
      · exact gd i a (by omega)
    rw [g6, g5, nI_sub e2]
    refine i_le (a := 8) (by omega) (by omega) (fun g2 => ?_) (fun g2 => sM_byteAt ht' (by omega) ?_)
    · refine hK (k - 1) _ _ (by omega) ⟨e + 1, by omega, by omega, f.tr (m_tf.up (by omega)), by rw [x_up_sn (by omega)]; exact g5, ?_, by rw [x_up_sn (by omega)]; exact g4, gr', gd', ?_⟩
      · rw [x_up_ss]
        exact nI_add e 1
      · rw [g7, show min 8 (e - s) = min 8 (e + 1 - s) by omega]
    · have hby : (t_by b n e).toInt = (b e).toInt := by rw [t_by_r g hb.2.1 hb.2.2, if_pos (by omega)]
      have hdb2 : 32 ^ (min 8 (e - s)) ≤ 32 ^ 7 := Nat.pow_le_pow_right (by omega) (by omega)
      rw [g6]
      refine hK (k - 1) _ _ (by omega) ⟨e + 1, by omega, by omega, f.tr (m_tf.up (by omega)), by rw [x_up_sn (by omega)]; exact g5, ?_, by rw [x_up_sn (by omega)]; exact g4, gr', gd', ?_⟩
      · rw [x_up_ss]
        exact nI_add e 1
      · rw [x_upL_ss, e_L32 g7 (by omega) (by omega) (by omega), hby, show min 8 (e + 1 - s) = min 8 (e - s) + 1 by omega, t_pk, show s + min 8 (e - s) = e by omega]
  · have er : t_run b n 1 s = e := by rw [← gr]; exact t_run_e c
    rw [er] at h
    refine sM_200n e2 (by omega) (k0 := 1) (by omega) (by omega) g5 g6 g4 (fun ρ2 f2 r5 r6 r4 => h ρ2 θ' (f.tr f2) r5 r6 (by rw [r4, if_pos rfl]) (fun c2 => ?_))
    rw [g7, show min 8 (e - s) = e - s by omega]
theorem sM_125n {k0 : Nat} (hk : k0 ≠ 1) (hk4 : k0 ≤ 4) (h4 : ρ 0 35 = nI k0) {Q : x_S → x_L → Prop} (h : x_l0 (wX11_advance_200 Q) ρ θ) : x_l0 (wX11_advance_125 Q) ρ θ := by
  refine x_l0_I (fun _ ρ' θ' => ρ' = ρ ∧ θ' = θ) ?_ 0 ⟨rfl, rfl⟩
  rintro k ρ' θ' ⟨rfl, rfl⟩ K hK
  unfold wX11_advance_125
  rw [h4]
  exact i_ne (b := 1) (by omega) (by omega) (fun _ => h) (fun g => absurd g hk)
/-- the token ahead, from place p on -/
def m_tk (b : Nat → Int32) (n p : Nat) (ρ : x_S) (θ : x_L) : Prop := ρ 0 36 = nI (t_beg b n p) ∧ ρ 0 32 = nI (t_end b n p) ∧ ρ 0 35 = nI (t_kd b n p) ∧ (t_kd b n p = 2 → (θ 0 38).toInt = (t_dig b (t_beg b n p) (t_end b n p - t_beg b n p) : Nat)) ∧ (t_kd b n p = 1 → (θ 0 38).toInt = (t_pk b (t_beg b n p) (t_end b n p - t_beg b n p) : Nat))
theorem sM_advance (ht : m_tb b n ρ) (hp : p ≤ n) (h6 : ρ 0 32 = nI p) {Q : x_S → x_L → Prop} (h : ∀ (ρ' : x_S) (θ' : x_L), m_tf ρ ρ' → m_tk b n p ρ' θ' → Q ρ' θ') : wX11_advance ρ θ Q := by
  have hn := ht.1
  unfold wX11_advance
  refine x_l0_I (fun k ρ' θ' => ∃ e, e + k = n ∧ p ≤ e ∧ m_tf ρ ρ' ∧ ρ' 0 32 = nI e ∧ t_run b n 5 e = t_beg b n p) ?_ (n - p) ⟨p, by omega, Nat.le_refl _, m_tf.rf _, h6, rfl⟩
  rintro k ρ' θ' ⟨e, e1, e2, f, g6, gr⟩ K hK
  have ht' := ht.tf f
  have step : e < n → (b e = 32 ∨ b e = 10) → wX11_advance_26 K Q ρ' θ' := fun g g2 => by
    have hc : t_c b n e = 5 := t_c_5 g g2
    unfold wX11_advance_26
    refine hK (k - 1) _ _ (by omega) ⟨e + 1, by omega, by omega, f.tr (m_tf.up (by omega)), ?_, by rw [← gr]; exact (t_run_s (by omega) hc).symm⟩
    rw [x_up_ss, g6]
    exact nI_add e 1
  have isn : ∀ v : Int32, 0 ≤ v.toInt → v.toInt ≤ 127 → (t_by b n e = v ↔ e < n ∧ b e = v) := fun v v1 v2 => by
    by_cases g : e < n
    · have hb := ht'.2.2 e g
      rw [t_by_eq g hb.2.1 hb.2.2 v1 v2]
      exact ⟨fun x => ⟨g, x⟩, fun x => x.2⟩
    · rw [t_by_1 (by omega)]
      refine ⟨fun x => ?_, fun x => absurd x.1 g⟩
      rw [← x, show (-1 : Int32).toInt = -1 from by decide] at v1
      omega
  unfold wX11_advance_0
  rw [g6]
  refine sM_byteAt ht' (by omega) ⟨fun g => ?_, fun g => ?_⟩
  · have := (isn 32 (by decide) (by decide)).mp g
    exact step this.1 (Or.inl this.2)
  · rw [g6]
    refine sM_byteAt ht' (by omega) ⟨fun g2 => ?_, fun g2 => ?_⟩
    · have n5 : e < n → ¬ (b e = 32 ∨ b e = 10) := fun hl x => x.elim (fun y => g ((isn 32 (by decide) (by decide)).mpr ⟨hl, y⟩)) (fun y => g2 ((isn 10 (by decide) (by decide)).mpr ⟨hl, y⟩))
      have c5 : t_c b n e ≠ 5 := by
        by_cases hl : e < n
        · exact t_c_n5 hl (n5 hl)
        · rw [t_c_0 (by omega)]
          omega
      have er : t_beg b n p = e := by rw [← gr]; exact t_run_e c5
      have hen : t_end b n p = if t_c b n e = 0 then e else if t_c b n e = 2 then t_run b n 2 e else if t_c b n e = 1 then t_run b n 1 e else e + 1 := by
        unfold t_end
        rw [er]
      have hkd : t_kd b n p = if t_c b n e = 2 then (if 5 < t_end b n p - e then 4 else 2) else if t_c b n e = 1 then (if 8 < t_end b n p - e then 4 else 1) else t_c b n e := by
        unfold t_kd
        rw [er]
      have fA : m_tf ρ (x_up ρ' 0 36 (ρ' 0 32)) := f.tr (m_tf.up (by omega))
      have qA5 : (x_up ρ' 0 36 (ρ' 0 32)) 0 36 = nI e := by rw [x_up_ss]; exact g6
      have qA6 : (x_up ρ' 0 36 (ρ' 0 32)) 0 32 = nI e := by rw [x_up_sn (by omega)]; exact g6
      revert fA qA5 qA6
      generalize x_up ρ' 0 36 (ρ' 0 32) = ρA
      intro fA qA5 qA6
      have hθ : (x_upL θ' 0 38 0) 0 38 = 0 := x_upL_ss _ _ _ _
      revert hθ
      generalize x_upL θ' 0 38 0 = θA
      intro hθ
      have htA := ht.tf fA
      have other : ∀ v : Nat, t_c b n e = v → v = 3 ∨ v = 4 → wX11_advance_104 Q (nI v) ρA θA := fun v hv hv2 => by
        rw [if_neg (by omega), if_neg (by omega), if_neg (by omega)] at hen
        rw [if_neg (by omega), if_neg (by omega), hv] at hkd
        have hl := t_c_lt (b := b) (n := n) (p := e) (by omega)
        unfold wX11_advance_104
        rw [x_up_ss, x_up_sn (by omega), qA6]
        refine i_le (b := 2) (by omega) (by omega) (fun g => absurd g (by omega)) (fun _ => ?_)
        rw [show (nI e + 1 : Int32) = nI (e + 1) from nI_add e 1]
        refine sM_125n (k0 := v) (by omega) (by omega) (by rw [x_up_sn (by omega), x_up_ss]) (sM_200n (s := e) (e := e + 1) (k0 := v) (by omega) (by omega) (by omega) (by omega) (by rw [x_up_sn (by omega), x_up_sn (by omega)]; exact qA5) (x_up_ss _ _ _ _) (by rw [x_up_sn (by omega), x_up_ss]) (fun ρ2 f2 r5 r6 r4 => h ρ2 θA ((fA.tr ((m_tf.up (by omega)).tr (m_tf.up (by omega)))).tr f2) ⟨by rw [er]; exact r5, by rw [hen]; exact r6, by rw [r4, if_neg (by omega), hkd], fun hk => absurd (hkd.symm.trans hk) (by omega), fun hk => absurd (hkd.symm.trans hk) (by omega)⟩))
      rw [qA5]
      refine sM_byteAt htA (by omega) ⟨fun g3 => ?_, fun g3 => ?_⟩
      · have hl : e < n := by
          apply Classical.byContradiction
          intro g4
          exact g3 (t_by_1 (by omega))
        refine sM_let htA (fun c1 => i_one' ?_) (fun c1 => i_zer ?_)
        · rw [if_neg (by omega), if_neg (by omega), if_pos c1] at hen
          rw [if_neg (by omega), if_pos c1] at hkd
          unfold wX11_advance_104
          rw [x_up_ss]
          refine i_le (a := 1) (b := 2) (by omega) (by omega) (fun _ => ?_) (fun g => absurd g (by omega))
          refine sM_125 (htA.tf (m_tf.up (by omega))) (s := e) (by omega) (by rw [x_up_sn (by omega)]; exact qA5) (by rw [x_up_sn (by omega)]; exact qA6) (x_up_ss _ _ _ _) hθ (fun ρ2 θ2 f2 r5 r6 r4 r7 => h ρ2 θ2 ((fA.tr (m_tf.up (by omega))).tr f2) ⟨by rw [er]; exact r5, by rw [hen]; exact r6, by rw [hkd, hen]; exact r4, fun hk => ?_, fun hk => ?_⟩)
          · rw [hkd] at hk
            split at hk <;> omega
          · rw [er, hen]
            refine r7 (fun g9 => ?_)
            rw [hkd, hen, if_pos g9] at hk
            omega
        · refine sM_dig htA (fun c2 => i_one' ?_) (fun c2 => i_zer ?_)
          · rw [if_neg (by omega), if_pos c2] at hen
            rw [if_pos c2] at hkd
            unfold wX11_advance_104
            rw [x_up_ss]
            refine i_le (a := 2) (b := 2) (by omega) (by omega) (fun _ => ?_) (fun g => absurd g (by omega))
            refine sM_125n (k0 := 2) (by omega) (by omega) (x_up_ss _ _ _ _) (sM_200 (htA.tf (m_tf.up (by omega))) (s := e) (by omega) (by rw [x_up_sn (by omega)]; exact qA5) (by rw [x_up_sn (by omega)]; exact qA6) (x_up_ss _ _ _ _) hθ (fun ρ2 θ2 f2 r5 r6 r4 r7 => h ρ2 θ2 ((fA.tr (m_tf.up (by omega))).tr f2) ⟨by rw [er]; exact r5, by rw [hen]; exact r6, by rw [hkd, hen]; exact r4, fun hk => ?_, fun hk => ?_⟩))
            · rw [er, hen]
              refine r7 (fun g9 => ?_)
              rw [hkd, hen, if_pos g9] at hk
              omega
            · rw [hkd] at hk
              split at hk <;> omega
          · obtain ⟨k3, k4⟩ := t_c_s hl (n5 hl) c2 c1
            exact ⟨fun g9 => other 4 (k4 (fun y => g9 ((isn 59 (by decide) (by decide)).mpr ⟨hl, y⟩))) (by omega), fun g9 => other 3 (k3 ((isn 59 (by decide) (by decide)).mp g9).2) (by omega)⟩
      · have hl : n ≤ e := by
          apply Classical.byContradiction
          intro g4
          have hb := ht'.2.2 e (by omega)
          have := t_by_r (show e < n by omega) hb.2.1 hb.2.2
          rw [g3, show (-1 : Int32).toInt = -1 from by decide] at this
          split at this <;> omega
        have c := t_c_0 (b := b) hl
        rw [if_pos c] at hen
        rw [if_neg (by omega), if_neg (by omega), c] at hkd
        unfold wX11_advance_104
        rw [x_up_ss]
        refine i_le (a := 0) (b := 2) (by omega) (by omega) (fun _ => ?_) (fun g => absurd g (by omega))
        refine sM_125n (k0 := 0) (by omega) (by omega) (x_up_ss _ _ _ _) (sM_200n (s := e) (e := e) (k0 := 0) (by omega) (by omega) (by omega) (by omega) (by rw [x_up_sn (by omega)]; exact qA5) (by rw [x_up_sn (by omega)]; exact qA6) (x_up_ss _ _ _ _) (fun ρ2 f2 r5 r6 r4 => h ρ2 θA ((fA.tr (m_tf.up (by omega))).tr f2) ⟨by rw [er]; exact r5, by rw [hen]; exact r6, by rw [r4, if_neg (by omega), hkd], fun hk => absurd (hkd.symm.trans hk) (by omega), fun hk => absurd (hkd.symm.trans hk) (by omega)⟩))
    · have := (isn 10 (by decide) (by decide)).mp g2
      exact step this.1 (Or.inr this.2)
end TM
