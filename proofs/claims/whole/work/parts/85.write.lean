/-! a truck's row as bytes -/
def q_u (k : Nat) : Nat := if k = 0 then 0 else 10 ^ (k - 1)
theorem q_u_0 : q_u 0 = 0 := rfl
theorem q_u_s (k : Nat) : q_u (k + 1) = 10 ^ k := rfl
theorem q_u_d (k : Nat) : q_u (k + 1) / 10 = q_u k := by
  cases k with
  | zero => rfl
  | succ k => rw [q_u_s, q_u_s, Nat.pow_succ, Nat.mul_div_cancel _ (by omega)]
theorem q_u_p (k : Nat) : 0 < q_u (k + 1) := Nat.pow_pos (by omega)
theorem q_u_b {k : Nat} (h : k ≤ 4) : q_u k ≤ 1000 := by
  have : ∀ k, k < 5 → q_u k ≤ 1000 := by decide
  exact this k (by omega)
def q_dg (v : Nat) : Nat → List Int32
  | 0 => []
  | k + 1 => (if q_u (k + 1) ≤ v ∨ k = 0 then [nI (48 + v / q_u (k + 1) % 10)] else []) ++ q_dg v k
theorem q_dg_b (v : Nat) : ∀ k, (q_dg v k).length ≤ k
  | 0 => Nat.le_refl _
  | k + 1 => by
    have := q_dg_b v k
    rw [q_dg, List.length_append]
    split
    · show 1 + _ ≤ _
      omega
    · show 0 + _ ≤ _
      omega
theorem q_dg_z {v : Nat} : ∀ {m k : Nat}, 0 < k → k ≤ m → v < q_u (k + 1) → q_dg v m = q_dg v k
  | 0, k, h0, h, _ => absurd h (by omega)
  | m + 1, k, h0, h, hv => by
    by_cases e : k = m + 1
    · rw [e]
    · rw [q_dg, if_neg, List.nil_append, q_dg_z h0 (show k ≤ m by omega) hv]
      intro g
      have : q_u (k + 1) ≤ q_u (m + 1) := by
        rw [q_u_s, q_u_s]
        exact Nat.pow_le_pow_right (by omega) (by omega)
      omega
theorem q_nb : ∀ c, c < 128 → vp_nar .byte ((nI c).toInt8.toInt32) = nI c := by decide +kernel
def x_o (l : List Int32) (σ : x_S) : Prop := σ 84 1 = nI l.length ∧ ∀ i, i < l.length → σ 85 i = l.getD i 0
def m_o (l : List Int32) (ρ : x_S) : Prop := ρ 0 29 = nI l.length ∧ ∀ i, i < l.length → ρ 20 i = l.getD i 0
def x_fo (σ σ' : x_S) : Prop := ∀ z, z ≠ 84 → z ≠ 85 → σ' z = σ z
def m_fo (ρ ρ' : x_S) : Prop := (∀ z, z ≠ 0 → z ≠ 20 → ρ' z = ρ z) ∧ ∀ i, i ≠ 29 → ρ' 0 i = ρ 0 i
theorem x_fo.tr {σ σ1 σ2 : x_S} (h1 : x_fo σ σ1) (h2 : x_fo σ1 σ2) : x_fo σ σ2 := fun z a b => (h2 z a b).trans (h1 z a b)
theorem m_fo.tr {ρ ρ1 ρ2 : x_S} (h1 : m_fo ρ ρ1) (h2 : m_fo ρ1 ρ2) : m_fo ρ ρ2 := ⟨fun z a b => (h2.1 z a b).trans (h1.1 z a b), fun z a => (h2.2 z a).trans (h1.2 z a)⟩
theorem q_getD {l : List Int32} {v : Int32} {i : Nat} (h : i < (l ++ [v]).length) : (l ++ [v]).getD i 0 = if i = l.length then v else l.getD i 0 := by
  rw [List.length_append] at h
  by_cases e : i = l.length
  · subst e
    rw [if_pos rfl, List.getD_eq_getElem?_getD, List.getElem?_append_right (Nat.le_refl _), Nat.sub_self]
    rfl
  · have : i < l.length := by
      have : i < l.length + 1 := h
      omega
    rw [if_neg e, List.getD_eq_getElem?_getD, List.getD_eq_getElem?_getD, List.getElem?_append_left this]
section WR
variable {N C : g_F} {w : Nat → Nat} {σ ρ : x_S} {τ θ : x_L} {Q : x_S → x_L → Prop} {l : List Int32}
theorem sX_put {c : Nat} (hc : c < 128) (h0 : x_o l σ) (hl : l.length < 130) (h : ∀ σ' : x_S, x_fo σ σ' → x_o (l ++ [nI c]) σ' → Q σ' τ) : wX5_put (nI c) σ τ Q := by
  unfold wX5_put wX5_put_31
  rw [h0.1, q_nb c hc, i_cl (by omega)]
  refine i_le (a := 130) (by omega) (by omega) (fun g => absurd g (by omega)) (fun _ => ⟨i_in (by omega) (by omega), ?_⟩)
  rw [x_up_n (show (84 : Nat) ≠ 85 by omega), h0.1]
  refine h _ (fun z a b => by rw [x_up_n a, x_up_n b]) ⟨?_, fun i hi => ?_⟩
  · rw [x_up_ss, List.length_append]
    exact nI_add _ 1
  · rw [x_up_n (show (85 : Nat) ≠ 84 by omega), x_up_i, q_getD hi]
    by_cases e : i = l.length
    · rw [if_pos e, if_pos e]
    · rw [if_neg e, if_neg e]
      rw [List.length_append] at hi
      have hi' : i < l.length + 1 := hi
      exact h0.2 i (by omega)
theorem sM_put {c : Nat} (h0 : m_o l ρ) (hl : l.length < 130) (h : ∀ ρ' : x_S, m_fo ρ ρ' → m_o (l ++ [nI c]) ρ' → Q ρ' θ) : wX11_put (nI c) ρ θ Q := by
  unfold wX11_put
  rw [h0.1, i_cl (by omega)]
  refine ⟨i_in (by omega) (by omega), ?_⟩
  rw [x_up_n (show (0 : Nat) ≠ 20 by omega), h0.1]
  refine h _ ⟨fun z a b => by rw [x_up_n a, x_up_n b], fun i hi => by rw [x_up_sn hi, x_up_n (show (0 : Nat) ≠ 20 by omega)]⟩ ⟨?_, fun i hi => ?_⟩
  · rw [x_up_ss, List.length_append]
    exact nI_add _ 1
  · rw [x_up_n (show (20 : Nat) ≠ 0 by omega), x_up_i, q_getD hi]
    by_cases e : i = l.length
    · rw [if_pos e, if_pos e]
    · rw [if_neg e, if_neg e]
      rw [List.length_append] at hi
      have hi' : i < l.length + 1 := hi
      exact h0.2 i (by omega)
theorem e_dig {v u : Nat} (hv : v < 10000) (hu : u ≤ 1000) (h0 : 0 < u) : (48 + ((nI v / nI u) - (nI v / nI u) / 10 * 10) : Int32) = nI (48 + v / u % 10) := by
  have hd : v / u ≤ v := Nat.div_le_self v u
  rw [nI_div (by omega) (by omega) h0]
  show nI 48 + (nI (v / u) - nI (v / u) / nI 10 * nI 10) = _
  rw [nI_div (by omega) (by omega) (by omega), nI_mul, nI_sub (by omega), nI_add, show v / u - v / u / 10 * 10 = v / u % 10 by omega]
theorem sX_num {v : Nat} (hv : v < 10000) (h0 : x_o l σ) (hl : l.length + (q_dg v 4).length ≤ 130) (h : ∀ σ' : x_S, x_fo σ σ' → x_o (l ++ q_dg v 4) σ' → Q σ' τ) : wX5_putNumber (nI v) σ τ Q := by
  unfold wX5_putNumber
  refine x_l2_I (fun k c0 c1 σ' τ' => ∃ l', k ≤ 4 ∧ c0 = nI v ∧ c1 = nI (q_u k) ∧ x_fo σ σ' ∧ x_o l' σ' ∧ l'.length + (q_dg v k).length ≤ 130 ∧ l' ++ q_dg v k = l ++ q_dg v 4 ∧ τ' = τ) ?_ 4 ⟨l, by omega, rfl, rfl, fun _ _ _ => rfl, h0, hl, rfl, rfl⟩
  rintro k c0 c1 σ' τ' ⟨l', h1, rfl, rfl, h2, h3, h4, h5, rfl⟩ K hK
  have hu := q_u_b h1
  unfold wX5_putNumber_4 wX5_putNumber_19 wX5_putNumber_32
  rw [show (10 : Int32) = nI 10 from rfl, nI_div (show q_u k < 2 ^ 31 by omega) (by omega) (by omega)]
  cases k with
  | zero =>
    refine i_lt (a := q_u 0) (b := 1) (by omega) (by omega) (fun _ => h σ' h2 ?_) (fun g => absurd g (by decide))
    rw [← h5]
    show x_o (l' ++ []) σ'
    rw [List.append_nil]
    exact h3
  | succ k =>
    have hp := q_u_p k
    rw [q_u_d]
    have key : q_u (k + 1) ≤ v ∨ k = 0 → ¬ nI (q_u (k + 1)) = 0 ∧ wX5_put (48 + ((nI v / nI (q_u (k + 1))) - (nI v / nI (q_u (k + 1))) / nI 10 * nI 10)) σ' τ' (fun σ29 τ29 => K (nI v) (nI (q_u k)) σ29 τ29) := fun g => by
      rw [q_dg, if_pos g, List.length_append] at h4
      have h4' : l'.length + (1 + (q_dg v k).length) ≤ 130 := h4
      refine ⟨fun e => absurd ((nI_eq (b := 0) (by omega) (by omega)).mp e) (by omega), ?_⟩
      rw [show (48 + ((nI v / nI (q_u (k + 1))) - (nI v / nI (q_u (k + 1))) / nI 10 * nI 10) : Int32) = _ from e_dig hv hu hp]
      refine sX_put (by omega) h3 (by omega) (fun σ2 f2 h6 => hK k _ _ _ _ (by omega) ⟨_, by omega, rfl, rfl, h2.tr f2, h6, ?_, ?_, rfl⟩)
      · rw [List.length_append]
        show l'.length + 1 + (q_dg v k).length ≤ 130
        omega
      · rw [← h5, q_dg, if_pos g, List.append_assoc]
    refine i_lt (b := 1) (by omega) (by omega) (fun g => absurd g (by omega)) (fun _ => i_le (by omega) (by omega) (fun g => key (Or.inl g)) (fun g => i_ne (b := 1) (by omega) (by omega) (fun g2 => ?_) (fun g2 => key (Or.inr ?_))))
    · have hn : ¬ (q_u (k + 1) ≤ v ∨ k = 0) := by
        rintro (g3 | g3)
        · omega
        · subst g3
          exact g2 rfl
      rw [q_dg, if_neg hn, List.nil_append] at h4
      refine hK k _ _ _ _ (by omega) ⟨l', by omega, rfl, rfl, h2, h3, h4, ?_, rfl⟩
      rw [← h5, q_dg, if_neg hn, List.nil_append]
    · cases k with
      | zero => rfl
      | succ k =>
        have : 10 ≤ q_u (k + 1 + 1) := by
          rw [q_u_s, Nat.pow_succ]
          have : 0 < 10 ^ k := Nat.pow_pos (by omega)
          omega
        omega
theorem sM_num {v : Nat} (hv : v < 10000) (h0 : m_o l ρ) (hl : l.length + (q_dg v 4).length ≤ 130) (h : ∀ ρ' : x_S, m_fo ρ ρ' → m_o (l ++ q_dg v 4) ρ' → Q ρ' θ) : wX11_putNumber (nI v) ρ θ Q := by
  unfold wX11_putNumber
  refine x_l2_I (fun k c0 c1 ρ' θ' => ∃ j, j + k = 3 ∧ c0 = nI v ∧ c1 = nI (q_u (j + 1)) ∧ (j = 0 ∨ q_u (j + 1) ≤ v) ∧ ρ' = ρ ∧ θ' = θ) ?_ 3 ⟨0, rfl, rfl, rfl, Or.inl rfl, rfl, rfl⟩
  rintro k c0 c1 ρ' θ' ⟨j, h1, rfl, rfl, h2, rfl, rfl⟩ K hK
  have hu := q_u_b (show j + 1 ≤ 4 by omega)
  have hp := q_u_p j
  have hd : v / q_u (j + 1) ≤ v := Nat.div_le_self _ _
  unfold wX11_putNumber_2
  rw [nI_div (show v < 2 ^ 31 by omega) (by omega) hp]
  refine ⟨fun e => absurd ((nI_eq (b := 0) (by omega) (by omega)).mp e) (by omega), i_le (b := 9) (by omega) (by omega) (fun g => ?_) (fun g => ?_)⟩
  · have hlt : v < q_u (j + 1 + 1) := by
      have e : q_u (j + 1 + 1) = q_u (j + 1) * 10 := by rw [q_u_s, q_u_s, Nat.pow_succ]
      rw [e]
      have h9 : v / q_u (j + 1) < 10 := by omega
      have := (Nat.div_lt_iff_lt_mul hp).mp h9
      rw [Nat.mul_comm] at this
      exact this
    have hall : q_dg v 4 = q_dg v (j + 1) := q_dg_z (by omega) (by omega) hlt
    refine x_l2_I (fun k c0 c1 ρ2 θ2 => ∃ l', k ≤ j + 1 ∧ c0 = nI v ∧ c1 = nI (q_u k) ∧ m_fo ρ' ρ2 ∧ m_o l' ρ2 ∧ l'.length + (q_dg v k).length ≤ 130 ∧ l' ++ q_dg v k = l ++ q_dg v 4 ∧ θ2 = θ') ?_ (j + 1) ⟨l, by omega, rfl, rfl, ⟨fun _ _ _ => rfl, fun _ _ => rfl⟩, h0, by rw [← hall]; exact hl, by rw [hall], rfl⟩
    rintro k2 c0 c1 ρ2 θ2 ⟨l', g1, rfl, rfl, g2, g3, g4, g5, rfl⟩ K2 hK2
    have hu2 := q_u_b (show k2 ≤ 4 by omega)
    unfold wX11_putNumber_18
    rw [show (10 : Int32) = nI 10 from rfl, nI_div (show q_u k2 < 2 ^ 31 by omega) (by omega) (by omega)]
    cases k2 with
    | zero =>
      refine i_le (a := q_u 0) (b := 0) (by omega) (by omega) (fun _ => h ρ2 g2 ?_) (fun g => absurd g (by decide))
      rw [← g5]
      show m_o (l' ++ []) ρ2
      rw [List.append_nil]
      exact g3
    | succ k2 =>
      have hp2 := q_u_p k2
      rw [q_u_d]
      have hg : q_u (k2 + 1) ≤ v ∨ k2 = 0 := by
        by_cases e : k2 = 0
        · exact Or.inr e
        · refine Or.inl ?_
          rcases h2 with e2 | e2
          · omega
          · have : q_u (k2 + 1) ≤ q_u (j + 1) := by
              rw [q_u_s, q_u_s]
              exact Nat.pow_le_pow_right (by omega) (by omega)
            omega
      rw [q_dg, if_pos hg, List.length_append] at g4
      have g4' : l'.length + (1 + (q_dg v k2).length) ≤ 130 := g4
      refine i_le (b := 0) (by omega) (by omega) (fun g => absurd g (by omega)) (fun _ => ⟨fun e => absurd ((nI_eq (b := 0) (by omega) (by omega)).mp e) (by omega), ?_⟩)
      rw [show (48 + ((nI v / nI (q_u (k2 + 1))) - (nI v / nI (q_u (k2 + 1))) / nI 10 * nI 10) : Int32) = _ from e_dig hv hu2 hp2]
      refine sM_put g3 (by omega) (fun ρ3 f3 h6 => hK2 k2 _ _ _ _ (by omega) ⟨_, by omega, rfl, rfl, g2.tr f3, h6, ?_, ?_, rfl⟩)
      · rw [List.length_append]
        show l'.length + 1 + (q_dg v k2).length ≤ 130
        omega
      · rw [← g5, q_dg, if_pos hg, List.append_assoc]
  · have e : q_u (j + 1) * 10 = q_u (j + 1 + 1) := by rw [q_u_s, q_u_s, Nat.pow_succ]
    rw [show (10 : Int32) = nI 10 from rfl, nI_mul, e]
    have hle : q_u (j + 1 + 1) ≤ v := by
      rw [← e]
      have := Nat.div_mul_le_self v (q_u (j + 1))
      have h10 : 10 * q_u (j + 1) ≤ v / q_u (j + 1) * q_u (j + 1) := Nat.mul_le_mul_right _ (by omega)
      omega
    have hj : j < 3 := by
      apply Classical.byContradiction
      intro g9
      have e3 : j = 3 := by omega
      subst e3
      have : q_u (3 + 1 + 1) = 10000 := by decide
      omega
    exact hK (k - 1) _ _ _ _ (by omega) ⟨j + 1, by omega, rfl, rfl, Or.inr hle, rfl, rfl⟩
end WR
