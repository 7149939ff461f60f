/-! numbers, semicolons, words: what is read, or which fault where -/
def t_vl (b : Nat → Int32) (n p : Nat) : Nat := t_dig b (t_beg b n p) (t_end b n p - t_beg b n p)
def t_num (b : Nat → Int32) (n lo hi p : Nat) : Except (Nat × Nat) (Nat × Nat) := if t_kd b n p = 2 then (if lo ≤ t_vl b n p ∧ t_vl b n p ≤ hi then .ok (t_vl b n p, t_end b n p) else .error (2, t_beg b n p)) else .error (1, t_beg b n p)
def t_sem (b : Nat → Int32) (n p : Nat) : Except (Nat × Nat) Nat := if t_kd b n p = 3 then .ok (t_end b n p) else .error (1, t_beg b n p)
def x_te (σ σ' : x_S) : Prop := (∀ z, z ≠ 1 → σ' z = σ z) ∧ ∀ i, i < 2 ∨ 7 < i → σ' 1 i = σ 1 i
def m_te (ρ ρ' : x_S) : Prop := (∀ z, z ≠ 0 → ρ' z = ρ z) ∧ ∀ i, i < 32 ∨ 37 < i → ρ' 0 i = ρ 0 i
def m_tq (ρ ρ' : x_S) : Prop := (∀ z, z ≠ 0 → ρ' z = ρ z) ∧ ∀ i, i < 32 ∨ 37 < i ∨ i = 33 ∨ i = 34 → ρ' 0 i = ρ 0 i
theorem m_tq.tr {ρ ρ1 ρ2 : x_S} (h1 : m_tq ρ ρ1) (h2 : m_tq ρ1 ρ2) : m_tq ρ ρ2 := ⟨fun z a => (h2.1 z a).trans (h1.1 z a), fun z a => (h2.2 z a).trans (h1.2 z a)⟩
theorem m_tf.tq {ρ ρ' : x_S} (h : m_tf ρ ρ') : m_tq ρ ρ' := ⟨h.1, fun i hi => h.2 i (by omega) (by omega) (by omega)⟩
theorem m_tq.te {ρ ρ' : x_S} (h : m_tq ρ ρ') : m_te ρ ρ' := ⟨h.1, fun i hi => h.2 i (by omega)⟩
theorem m_tq.up {ρ : x_S} {v : Int32} : m_tq ρ (x_up ρ 0 37 v) := ⟨fun z a => x_up_n a, fun j hj => x_up_sn (by omega)⟩
theorem x_tf.te {σ σ' : x_S} (h : x_tf σ σ') : x_te σ σ' := ⟨h.1, fun i hi => h.2 i (by omega)⟩
theorem m_tf.te {ρ ρ' : x_S} (h : m_tf ρ ρ') : m_te ρ ρ' := ⟨h.1, fun i hi => h.2 i (by omega) (by omega) (by omega)⟩
theorem x_te.tr {σ σ1 σ2 : x_S} (h1 : x_te σ σ1) (h2 : x_te σ1 σ2) : x_te σ σ2 := ⟨fun z a => (h2.1 z a).trans (h1.1 z a), fun z a => (h2.2 z a).trans (h1.2 z a)⟩
theorem m_te.tr {ρ ρ1 ρ2 : x_S} (h1 : m_te ρ ρ1) (h2 : m_te ρ1 ρ2) : m_te ρ ρ2 := ⟨fun z a => (h2.1 z a).trans (h1.1 z a), fun z a => (h2.2 z a).trans (h1.2 z a)⟩
theorem x_te.up {σ : x_S} {i : Nat} {v : Int32} (h : 2 ≤ i ∧ i ≤ 7) : x_te σ (x_up σ 1 i v) := ⟨fun z a => x_up_n a, fun j hj => x_up_sn (by omega)⟩
theorem m_te.up {ρ : x_S} {i : Nat} {v : Int32} (h : 32 ≤ i ∧ i ≤ 37) : m_te ρ (x_up ρ 0 i v) := ⟨fun z a => x_up_n a, fun j hj => x_up_sn (by omega)⟩
theorem x_tb.te {b : Nat → Int32} {n : Nat} {σ σ' : x_S} (h : x_tb b n σ) (f : x_te σ σ') : x_tb b n σ' := ⟨h.1, by rw [f.2 1 (by omega)]; exact h.2.1, by rw [f.1 2 (by omega)]; exact h.2.2⟩
theorem m_tb.te {b : Nat → Int32} {n : Nat} {ρ ρ' : x_S} (h : m_tb b n ρ) (f : m_te ρ ρ') : m_tb b n ρ' := ⟨h.1, by rw [f.2 31 (by omega)]; exact h.2.1, by rw [f.1 21 (by omega)]; exact h.2.2⟩
theorem t_k_all (b : Nat → Int32) (n c : Nat) : ∀ k p i, p ≤ i → i < t_k b n c k p → t_c b n i = c
  | 0, p, i, h1, h2 => absurd h2 (by rw [t_k]; omega)
  | k + 1, p, i, h1, h2 => by
    rw [t_k] at h2
    by_cases g : t_c b n p = c
    · rw [if_pos g] at h2
      by_cases e : i = p
      · rw [e]
        exact g
      · exact t_k_all b n c k (p + 1) i (by omega) h2
    · rw [if_neg g] at h2
      omega
section TN
variable {b : Nat → Int32} {n p : Nat} {σ ρ : x_S} {τ θ : x_L}
theorem t_kd2 (h : t_kd b n p = 2) : t_c b n (t_beg b n p) = 2 ∧ t_end b n p - t_beg b n p ≤ 5 ∧ ∀ i, i < t_end b n p - t_beg b n p → 48 ≤ (b (t_beg b n p + i)).toInt ∧ (b (t_beg b n p + i)).toInt ≤ 57 := by
  have h' := h
  unfold t_kd at h'
  by_cases c2 : t_c b n (t_beg b n p) = 2
  · rw [if_pos c2] at h'
    have hen : t_end b n p = t_run b n 2 (t_beg b n p) := by
      unfold t_end
      rw [if_neg (by omega), if_pos c2]
    refine ⟨c2, ?_, fun i hi => ?_⟩
    · split at h' <;> omega
    · have hc := t_k_all b n 2 (n - t_beg b n p) (t_beg b n p) (t_beg b n p + i) (by omega) (by
        have e : t_k b n 2 (n - t_beg b n p) (t_beg b n p) = t_run b n 2 (t_beg b n p) := rfl
        omega)
      exact (t_c_2 (t_c_lt (b := b) (n := n) (p := t_beg b n p + i) (by omega))).mp hc
  · rw [if_neg c2] at h'
    split at h'
    · split at h' <;> omega
    · exact absurd h' c2
theorem t_kd1 (h : t_kd b n p = 1) : t_c b n (t_beg b n p) = 1 ∧ t_end b n p - t_beg b n p ≤ 8 ∧ ∀ i, i < t_end b n p - t_beg b n p → 97 ≤ (b (t_beg b n p + i)).toInt ∧ (b (t_beg b n p + i)).toInt ≤ 122 := by
  have h' := h
  unfold t_kd at h'
  by_cases c2 : t_c b n (t_beg b n p) = 2
  · rw [if_pos c2] at h'
    split at h' <;> omega
  · rw [if_neg c2] at h'
    by_cases c1 : t_c b n (t_beg b n p) = 1
    · rw [if_pos c1] at h'
      have hen : t_end b n p = t_run b n 1 (t_beg b n p) := by
        unfold t_end
        rw [if_neg (by omega), if_neg c2, if_pos c1]
      refine ⟨c1, ?_, fun i hi => ?_⟩
      · split at h' <;> omega
      · have hc := t_k_all b n 1 (n - t_beg b n p) (t_beg b n p) (t_beg b n p + i) (by omega) (by
          have e : t_k b n 1 (n - t_beg b n p) (t_beg b n p) = t_run b n 1 (t_beg b n p) := rfl
          omega)
        exact (t_c_1 (t_c_lt (b := b) (n := n) (p := t_beg b n p + i) (by omega))).mp hc
    · rw [if_neg c1] at h'
      exact absurd h' c1
theorem t_vl_b (h : t_kd b n p = 2) : t_vl b n p < 100000 := by
  obtain ⟨-, h1, h2⟩ := t_kd2 h
  have := t_dig_b b (t_beg b n p) (t_end b n p - t_beg b n p) (fun i hi => (h2 i hi).2)
  have h3 : 10 ^ (t_end b n p - t_beg b n p) ≤ 10 ^ 5 := Nat.pow_le_pow_right (by omega) h1
  unfold t_vl
  omega
theorem t_kd_b (b : Nat → Int32) (n p : Nat) : t_kd b n p ≤ 5 := by
  unfold t_kd t_c
  repeat' split
  all_goals omega
theorem sX_fail {c s : Nat} (h5 : σ 1 5 = nI s) {Q : Int32 → x_S → x_L → Prop} (h : ∀ σ' : x_S, x_te σ σ' → σ' 1 2 = nI c → σ' 1 3 = nI s → Q 0 σ' τ) : wX9_fail (nI c) σ τ Q := by
  unfold wX9_fail
  exact h _ ((x_te.up (by omega)).tr (x_te.up (by omega))) (by rw [x_up_sn (by omega), x_up_ss]) (by rw [x_up_ss, x_up_sn (by omega)]; exact h5)
theorem sM_fail {c s : Nat} (h5 : ρ 0 36 = nI s) {Q : Int32 → x_S → x_L → Prop} (h : ∀ ρ' : x_S, m_te ρ ρ' → ρ' 0 33 = nI c → ρ' 0 34 = nI s → Q 0 ρ' θ) : wX11_fail (nI c) ρ θ Q := by
  unfold wX11_fail
  exact h _ ((m_te.up (by omega)).tr (m_te.up (by omega))) (by rw [x_up_sn (by omega), x_up_ss]) (by rw [x_up_ss, x_up_sn (by omega)]; exact h5)
theorem sX_number (ht : x_tb b n σ) (hp : p ≤ n) (h6 : σ 1 6 = nI p) {lo hi : Nat} (hl : lo < 1000000) (hh : hi < 1000000) {Q : Int32 → x_S → x_L → Prop} (h1 : ∀ (v q : Nat) (σ' : x_S), t_num b n lo hi p = .ok (v, q) → q ≤ n → x_tf σ σ' → σ' 1 5 = nI (t_beg b n p) → σ' 1 6 = nI q → σ' 1 7 = nI v → Q 1 σ' τ) (h0 : ∀ (c s : Nat) (σ' : x_S), t_num b n lo hi p = .error (c, s) → x_te σ σ' → σ' 1 2 = nI c → σ' 1 3 = nI s → Q 0 σ' τ) : wX9_readNumber (nI lo) (nI hi) σ τ Q := by
  unfold wX9_readNumber
  refine sX_next ht hp h6 (fun σ1 f1 ⟨k5, k6, k4, k7⟩ => ?_)
  have hkb := t_kd_b b n p
  rw [k4]
  refine i_eq (b := 2) (by omega) (by omega) (fun g => ?_) (fun g => ?_)
  · have hv := t_vl_b g
    have k7' : σ1 1 7 = nI (t_vl b n p) := k7 g
    have bad : ¬ (lo ≤ t_vl b n p ∧ t_vl b n p ≤ hi) → wX9_readNumber_34 Q σ1 τ := fun c => by
      unfold wX9_readNumber_34 wX9_readNumber_47
      exact sX_fail (c := 2) k5 (fun σ2 f2 e2 e3 => i_zer ⟨Or.inl rfl, h0 2 (t_beg b n p) σ2 (by unfold t_num; rw [if_pos g, if_neg c]) (f1.te.tr f2) e2 e3⟩)
    rw [k7']
    refine i_lt (by omega) (by omega) (fun c => bad (by omega)) (fun c => i_le (by omega) (by omega) (fun c2 => ?_) (fun c2 => bad (by omega)))
    unfold wX9_readNumber_42 wX9_readNumber_47
    exact ⟨Or.inr rfl, h1 (t_vl b n p) (t_end b n p) σ1 (by unfold t_num; rw [if_pos g, if_pos ⟨c, c2⟩]) (t_end_b b n hp).2.2.1 f1 k5 k6 k7'⟩
  · exact sX_fail (c := 1) k5 (fun σ2 f2 e2 e3 => ⟨Or.inl rfl, h0 1 (t_beg b n p) σ2 (by unfold t_num; rw [if_neg g]) (f1.te.tr f2) e2 e3⟩)
theorem sX_semi (ht : x_tb b n σ) (hp : p ≤ n) (h6 : σ 1 6 = nI p) {Q : Int32 → x_S → x_L → Prop} (h1 : ∀ (q : Nat) (σ' : x_S), t_sem b n p = .ok q → q ≤ n → x_tf σ σ' → σ' 1 6 = nI q → Q 1 σ' τ) (h0 : ∀ (c s : Nat) (σ' : x_S), t_sem b n p = .error (c, s) → x_te σ σ' → σ' 1 2 = nI c → σ' 1 3 = nI s → Q 0 σ' τ) : wX9_readSemicolon σ τ Q := by
  unfold wX9_readSemicolon wX9_readSemicolon_25 wX9_readSemicolon_20 wX9_readSemicolon_25
  refine sX_next ht hp h6 (fun σ1 f1 ⟨k5, k6, k4, k7⟩ => ?_)
  have hkb := t_kd_b b n p
  rw [k4]
  refine i_eq (b := 3) (by omega) (by omega) (fun g => ?_) (fun g => ?_)
  · exact ⟨Or.inr rfl, h1 (t_end b n p) σ1 (by unfold t_sem; rw [if_pos g]) (t_end_b b n hp).2.2.1 f1 k6⟩
  · exact sX_fail (c := 1) k5 (fun σ2 f2 e2 e3 => i_zer ⟨Or.inl rfl, h0 1 (t_beg b n p) σ2 (by unfold t_sem; rw [if_neg g]) (f1.te.tr f2) e2 e3⟩)
theorem sM_inL {x lo hi : Int64} {v l m : Int} (ex : x.toInt = v) (el : lo.toInt = l) (eh : hi.toInt = m) {Q : Int32 → x_S → x_L → Prop} (h1 : l ≤ v ∧ v ≤ m → Q 1 ρ θ) (h0 : ¬ (l ≤ v ∧ v ≤ m) → Q 0 ρ θ) : wX11_inRange x lo hi ρ θ Q := by
  unfold wX11_inRange wX11_inRange_17 wX11_inRange_18
  rw [lg_cmp_lt, lg_cmp_gt, Int64.lt_iff_toInt_lt, Int64.lt_iff_toInt_lt, ex, el, eh]
  exact ⟨fun g => ⟨Or.inl rfl, h0 (by omega)⟩, fun g => ⟨fun g2 => ⟨Or.inl rfl, h0 (by omega)⟩, fun g2 => ⟨Or.inr rfl, h1 (by omega)⟩⟩⟩
theorem e_L32i {x : Int64} {v : Nat} (h : x.toInt = v) (hv : v < 1000000000) : x.toInt32 = nI v := by
  apply Int32.toInt_inj.mp
  rw [Int64.toInt_toInt32, h, nI_toInt (by omega)]
  exact Int.bmod_eq_of_le (by omega) (by omega)
theorem sM_number (ht : m_tb b n ρ) (hp : p ≤ n) (hk : m_tk b n p ρ θ) {lo hi : Nat} (hl : lo < 1000000) (hh : hi < 1000000) {Q : Int32 → x_S → x_L → Prop} (h1 : ∀ (v q : Nat) (ρ' : x_S) (θ' : x_L), t_num b n lo hi p = .ok (v, q) → q ≤ n → m_tq ρ ρ' → m_tk b n q ρ' θ' → ρ' 0 37 = nI v → Q 1 ρ' θ') (h0 : ∀ (c s : Nat) (ρ' : x_S), t_num b n lo hi p = .error (c, s) → m_te ρ ρ' → ρ' 0 33 = nI c → ρ' 0 34 = nI s → Q 0 ρ' θ) : wX11_readNumber (nI lo) (nI hi) ρ θ Q := by
  obtain ⟨k5, k6, k4, k7, -⟩ := hk
  have hkb := t_kd_b b n p
  unfold wX11_readNumber
  rw [k4]
  refine i_eq (b := 2) (by omega) (by omega) (fun g => ?_) (fun g => ?_)
  · have hv := t_vl_b g
    have k7' : (θ 0 38).toInt = (t_vl b n p : Nat) := k7 g
    refine sM_inL k7' (by rw [Int32.toInt_toInt64, nI_toInt (by omega)]) (by rw [Int32.toInt_toInt64, nI_toInt (by omega)]) (fun c => i_one ?_) (fun c => i_zer' ?_)
    · rw [e_L32i k7' (by omega)]
      have f1 : m_tq ρ (x_up ρ 0 37 (nI (t_vl b n p))) := m_tq.up
      refine sM_advance (ht.te f1.te) (t_end_b b n hp).2.2.1 (by rw [x_up_sn (by omega)]; exact k6) (fun ρ2 θ2 f2 g2 => ?_)
      exact h1 (t_vl b n p) (t_end b n p) ρ2 θ2 (by unfold t_num; rw [if_pos g, if_pos (by omega)]) (t_end_b b n hp).2.2.1 (f1.tr f2.tq) g2 (by rw [f2.2 37 (by omega) (by omega) (by omega), x_up_ss])
    · exact sM_fail (c := 2) k5 (fun ρ2 f2 e2 e3 => ⟨Or.inl rfl, h0 2 (t_beg b n p) ρ2 (by unfold t_num; rw [if_pos g, if_neg (by omega)]) f2 e2 e3⟩)
  · exact sM_fail (c := 1) k5 (fun ρ2 f2 e2 e3 => ⟨Or.inl rfl, h0 1 (t_beg b n p) ρ2 (by unfold t_num; rw [if_neg g]) f2 e2 e3⟩)
theorem sM_semi (ht : m_tb b n ρ) (hp : p ≤ n) (hk : m_tk b n p ρ θ) {Q : Int32 → x_S → x_L → Prop} (h1 : ∀ (q : Nat) (ρ' : x_S) (θ' : x_L), t_sem b n p = .ok q → q ≤ n → m_tq ρ ρ' → m_tk b n q ρ' θ' → Q 1 ρ' θ') (h0 : ∀ (c s : Nat) (ρ' : x_S), t_sem b n p = .error (c, s) → m_te ρ ρ' → ρ' 0 33 = nI c → ρ' 0 34 = nI s → Q 0 ρ' θ) : wX11_readEnd ρ θ Q := by
  obtain ⟨k5, k6, k4, k7, -⟩ := hk
  have hkb := t_kd_b b n p
  unfold wX11_readEnd
  rw [k4]
  refine i_eq (b := 3) (by omega) (by omega) (fun g => ?_) (fun g => ?_)
  · exact sM_advance ht (t_end_b b n hp).2.2.1 k6 (fun ρ2 θ2 f2 g2 => h1 (t_end b n p) ρ2 θ2 (by unfold t_sem; rw [if_pos g]) (t_end_b b n hp).2.2.1 f2.tq g2)
  · exact sM_fail (c := 1) k5 (fun ρ2 f2 e2 e3 => ⟨Or.inl rfl, h0 1 (t_beg b n p) ρ2 (by unfold t_sem; rw [if_neg g]) f2 e2 e3⟩)
end TN
