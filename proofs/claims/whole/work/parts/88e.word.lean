/-! words -/
abbrev t_wd (b : Nat → Int32) (n p i : Nat) : Prop := t_kd b n p = 1 ∧ t_end b n p - t_beg b n p = x_len.getD i 0 ∧ ∀ j, j < x_len.getD i 0 → b (t_beg b n p + j) = (x_byt.getD i []).getD j 0
def w_pk : List Nat → Nat
  | [] => 0
  | c :: r => w_pk r * 32 + (c - 96)
def w_r (i : Nat) : List Nat := ((x_byt.getD i []).map (fun x => x.toInt.toNat)).reverse
def w_p (a0 a1 a2 a3 a4 : Int32) : Int64 := if a4 = 0 then (if a3 = 0 then (((((((((a0 : Int32).toInt64) - 96) * 32) + ((a1 : Int32).toInt64)) - 96) * 32) + ((a2 : Int32).toInt64)) - 96) else ((((((((((((a0 : Int32).toInt64) - 96) * 32) + ((a1 : Int32).toInt64)) - 96) * 32) + ((a2 : Int32).toInt64)) - 96) * 32) + ((a3 : Int32).toInt64)) - 96)) else (((if a3 = 0 then (((((((((a0 : Int32).toInt64) - 96) * 32) + ((a1 : Int32).toInt64)) - 96) * 32) + ((a2 : Int32).toInt64)) - 96) else ((((((((((((a0 : Int32).toInt64) - 96) * 32) + ((a1 : Int32).toInt64)) - 96) * 32) + ((a2 : Int32).toInt64)) - 96) * 32) + ((a3 : Int32).toInt64)) - 96)) * 32) + ((a4 : Int32).toInt64)) - 96
theorem w_all : ∀ i, i < 9 → (w_r i).length = x_len.getD i 0 ∧ x_len.getD i 0 ≤ 8 ∧ (∀ j, j < x_len.getD i 0 → ((x_byt.getD i []).getD j 0).toInt = (((w_r i).getD (x_len.getD i 0 - 1 - j) 0 : Nat) : Int)) ∧ ∀ c, c ∈ w_r i → 97 ≤ c ∧ c ≤ 122 := by decide +kernel
theorem w_p0 : (w_p 114 111 97 100 0).toInt = (w_pk (w_r 0) : Nat) := by decide +kernel
theorem w_p1 : (w_p 116 114 117 99 107).toInt = (w_pk (w_r 1) : Nat) := by decide +kernel
theorem w_p2 : (w_p 119 97 105 116 0).toInt = (w_pk (w_r 2) : Nat) := by decide +kernel
theorem w_p3 : (w_p 115 112 101 101 100).toInt = (w_pk (w_r 3) : Nat) := by decide +kernel
theorem w_p4 : (w_p 115 116 97 114 116).toInt = (w_pk (w_r 4) : Nat) := by decide +kernel
theorem w_p5 : (w_p 109 101 114 103 101).toInt = (w_pk (w_r 5) : Nat) := by decide +kernel
theorem w_p6 : (w_p 104 117 114 114 121).toInt = (w_pk (w_r 6) : Nat) := by decide +kernel
theorem w_p7 : (w_p 114 101 108 97 120).toInt = (w_pk (w_r 7) : Nat) := by decide +kernel
theorem w_p8 : (w_p 97 108 108 0 0).toInt = (w_pk (w_r 8) : Nat) := by decide +kernel
theorem t_pk_w (b : Nat → Int32) (s : Nat) : ∀ (r : List Nat) (k : Nat), (∀ c, c ∈ r → 97 ≤ c ∧ c ≤ 122) → (∀ j, j < k → 97 ≤ (b (s + j)).toInt ∧ (b (s + j)).toInt ≤ 122) → (t_pk b s k = w_pk r ↔ k = r.length ∧ ∀ j, j < k → (b (s + j)).toInt = ((r.getD (k - 1 - j) 0 : Nat) : Int))
  | [], 0, _, _ => ⟨fun _ => ⟨rfl, fun j hj => absurd hj (Nat.not_lt_zero _)⟩, fun _ => rfl⟩
  | [], k + 1, _, h => by
    have := h k (by omega)
    rw [t_pk, w_pk]
    constructor
    · intro g
      omega
    · intro g
      exact absurd g.1 (Nat.succ_ne_zero _)
  | c :: r, 0, hc, _ => by
    have := hc c (List.mem_cons_self ..)
    rw [t_pk, w_pk]
    constructor
    · intro g
      omega
    · intro g
      exact absurd g.1.symm (Nat.succ_ne_zero _)
  | c :: r, k + 1, hc, h => by
    have ih := t_pk_w b s r k (fun x hx => hc x (List.mem_cons_of_mem _ hx)) (fun j hj => h j (by omega))
    have h1 := h k (by omega)
    have h2 := hc c (List.mem_cons_self ..)
    rw [t_pk, w_pk, List.length_cons]
    constructor
    · intro g
      have e1 : t_pk b s k = w_pk r := by omega
      have e2 : (b (s + k)).toInt = (c : Int) := by omega
      obtain ⟨i1, i2⟩ := ih.mp e1
      refine ⟨by omega, fun j hj => ?_⟩
      by_cases z : j = k
      · subst z
        rw [show j + 1 - 1 - j = 0 by omega]
        exact e2
      · rw [i2 j (by omega), show k + 1 - 1 - j = (k - 1 - j) + 1 by omega]
        rfl
    · rintro ⟨g1, g2⟩
      have e2 : (b (s + k)).toInt = (c : Int) := by
        have := g2 k (by omega)
        rw [show k + 1 - 1 - k = 0 by omega] at this
        exact this
      have e1 : t_pk b s k = w_pk r := ih.mpr ⟨by omega, fun j hj => by
        have := g2 j (by omega)
        rw [show k + 1 - 1 - j = (k - 1 - j) + 1 by omega] at this
        exact this⟩
      omega
section TW
variable {b : Nat → Int32} {n p : Nat} {σ ρ : x_S} {τ θ : x_L}
theorem sX_isWord {i : Nat} (hi : i < 9) (ht : x_tb b n σ) (hp : p ≤ n) (hk : x_tk b n p σ) {Q : Int32 → x_S → x_L → Prop} (h1 : t_wd b n p i → Q 1 σ τ) (h0 : ¬ t_wd b n p i → Q 0 σ τ) : wX9_isWord i σ τ Q := by
  obtain ⟨k5, k6, k4, -⟩ := hk
  have hkb := t_kd_b b n p
  have hn := ht.1
  obtain ⟨w1, w2, w3, w4⟩ := w_all i hi
  obtain ⟨e1, e2, e3, e4⟩ := t_end_b b n hp
  unfold wX9_isWord wX9_isWord_28
  rw [k4, k5, k6, nI_sub e2]
  refine i_ne (b := 1) (by omega) (by omega) (fun g => h0 (fun z => g z.1)) (fun g => i_eq (by omega) (by omega) (fun g2 => ?_) (fun g2 => h0 (fun z => g2 z.2.1)))
  refine x_F1 (fun m => ∀ j, j < m → b (t_beg b n p + j) = (x_byt.getD i []).getD j 0) (fun m => nI m) (lo := 0) (n := x_len.getD i 0) (Nat.zero_le _) (fun K m _ hm hP hK => ?_) (fun K hP => ?_) (fun j hj => absurd hj (Nat.not_lt_zero _)) rfl
  · unfold wX9_isWord_32
    rw [k5, nI_add, i_cl (show t_beg b n p + m < 1000000000 by omega), i_cl (show m < 1000000000 by omega), (ht.2.2 (t_beg b n p + m) (by omega)).1]
    refine i_le (by omega) (by omega) (fun g3 => absurd g3 (by omega)) (fun _ => ⟨i_in (by omega) (by omega), i_in hm (by omega), fun g3 => ?_, fun g3 => h0 (fun z => g3 (z.2.2 m hm))⟩)
    rw [show (nI m + 1 : Int32) = nI (m + 1) from nI_add m 1]
    refine hK (fun j hj => ?_)
    by_cases z : j = m
    · rw [z]
      exact g3
    · exact hP j (by omega)
  · unfold wX9_isWord_32
    exact i_le (by omega) (by omega) (fun _ => h1 ⟨g, g2, hP⟩) (fun g3 => absurd g3 (by omega))
theorem t_wd_pk {i : Nat} (hi : i < 9) (hk : t_kd b n p = 1) : t_wd b n p i ↔ t_pk b (t_beg b n p) (t_end b n p - t_beg b n p) = w_pk (w_r i) := by
  obtain ⟨w1, w2, w3, w4⟩ := w_all i hi
  obtain ⟨-, -, k3⟩ := t_kd1 hk
  rw [t_pk_w b (t_beg b n p) (w_r i) _ w4 k3, w1]
  constructor
  · rintro ⟨-, z2, z3⟩
    refine ⟨z2, fun j hj => ?_⟩
    rw [z2] at hj ⊢
    rw [z3 j hj]
    exact w3 j hj
  · rintro ⟨z2, z3⟩
    refine ⟨hk, z2, fun j hj => ?_⟩
    apply Int32.toInt_inj.mp
    rw [w3 j hj]
    have := z3 j (by omega)
    rw [z2] at this
    exact this
theorem sM_isWord {i : Nat} (hi : i < 9) (hk : m_tk b n p ρ θ) {a : Int64} (ha : a.toInt = (w_pk (w_r i) : Nat)) {Q : Int32 → x_S → x_L → Prop} (h1 : t_wd b n p i → Q 1 ρ θ) (h0 : ¬ t_wd b n p i → Q 0 ρ θ) : wX11_isWord a ρ θ Q := by
  obtain ⟨k5, k6, k4, -, k7⟩ := hk
  have hkb := t_kd_b b n p
  unfold wX11_isWord wX11_isWord_21 wX11_isWord_22
  rw [k4, lg_cmp_eq]
  refine i_ne (b := 1) (by omega) (by omega) (fun g => ⟨Or.inl rfl, h0 (fun z => g z.1)⟩) (fun g => ⟨fun g2 => ⟨Or.inl rfl, h0 (fun z => g2 ?_)⟩, fun g2 => ⟨Or.inr rfl, h1 ?_⟩⟩)
  · apply Int64.toInt_inj.mp
    rw [k7 g, ha, (t_wd_pk hi g).mp z]
  · refine (t_wd_pk hi g).mpr ?_
    have := k7 g
    rw [g2, ha] at this
    omega
theorem sM_pack {a0 a1 a2 a3 a4 : Int32} {Q : Int64 → x_S → x_L → Prop} (h : Q (w_p a0 a1 a2 a3 a4) ρ θ) : wX11_pack a0 a1 a2 a3 a4 ρ θ Q := by
  unfold w_p at h
  unfold wX11_pack wX11_pack_52 wX11_pack_78
  by_cases c3 : a3 = 0
  · rw [if_pos c3] at h
    refine ⟨fun g => absurd c3 g, fun _ => ⟨fun g => ?_, fun g => ?_⟩⟩
    · rw [if_neg g] at h
      exact h
    · rw [if_pos g] at h
      exact h
  · rw [if_neg c3] at h
    refine ⟨fun _ => ⟨fun g => ?_, fun g => ?_⟩, fun g => absurd g c3⟩
    · rw [if_neg g] at h
      exact h
    · rw [if_pos g] at h
      exact h
end TW
