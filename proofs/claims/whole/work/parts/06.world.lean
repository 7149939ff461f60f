def dsX : List x_D := [(0, 12, [3, 5, 15, 26, 29, 35, 48, 61, 62, 65, 86, 88]), (0, 11, [4, 0, 0, 0, 0, 0, 0, 0]), (3, 1500, []), (0, 3, [0, 6, 7, 8, 9, 0, 10, 11, 12, 13, 14]), (1, 30, []), (1, 30, []), (1, 30, []), (1, 30, []), (1, 12, []), (1, 12, []), (1, 12, []), (1, 12, []), (1, 120, []), (0, 5, [16]), (0, 3, [0, 17, 18, 19, 20, 0, 21, 22, 23, 24, 25]), (1, 30, []), (1, 30, []), (1, 30, []), (1, 30, []), (1, 12, []), (1, 12, []), (1, 12, []), (1, 12, []), (1, 120, []), (0, 10, [0, 27, 28]), (1, 30, []), (1, 90, []), (0, 9, [5, 30, 31, 32, 33, 34]), (1, 120, []), (1, 31, []), (1, 12, []), (1, 120, []), (4, 1440, []), (0, 8, [5, 29, 36, 37, 38, 39, 40, 41, 42, 43, 44, 45, 46, 47, 0]), (1, 12, []), (1, 120, []), (1, 120, []), (1, 120, []), (1, 120, []), (1, 120, []), (1, 120, []), (1, 120, []), (1, 120, []), (1, 120, []), (1, 120, []), (2, 120, []), (0, 8, [5, 29, 49, 50, 51, 52, 53, 54, 55, 56, 57, 58, 59, 60, 0]), (1, 12, []), (1, 120, []), (1, 120, []), (1, 120, []), (1, 120, []), (1, 120, []), (1, 120, []), (1, 120, []), (1, 120, []), (1, 120, []), (1, 120, []), (2, 120, []), (0, 6, [5, 29, 35, 48, 0, 0, 0]), (0, 2, [35, 63, 0, 64, 0]), (1, 6, []), (1, 6, []), (0, 4, [66, 0, 0, 82, 85]), (6, 15, [65]), (1, 252, []), (1, 252, []), (1, 252, []), (1, 252, []), (1, 252, []), (1, 252, []), (1, 252, []), (1, 252, []), (1, 252, []), (1, 252, []), (1, 252, []), (1, 252, []), (1, 252, []), (1, 252, []), (1, 252, []), (6, 2, [81]), (1, 252, []), (1, 252, []), (2, 2, []), (0, 7, [87, 0]), (3, 130, []), (1, 20, []), (4, 1, []), (5, 1, [])]
theorem dsX_0 : dsX[0]? = some (0, 12, [3, 5, 15, 26, 29, 35, 48, 61, 62, 65, 86, 88]) := rfl
theorem dsX_1 : dsX[1]? = some (0, 11, [4, 0, 0, 0, 0, 0, 0, 0]) := rfl
theorem dsX_2 : dsX[2]? = some (3, 1500, []) := rfl
theorem dsX_3 : dsX[3]? = some (0, 3, [0, 6, 7, 8, 9, 0, 10, 11, 12, 13, 14]) := rfl
theorem dsX_4 : dsX[4]? = some (1, 30, []) := rfl
theorem dsX_5 : dsX[5]? = some (1, 30, []) := rfl
theorem dsX_6 : dsX[6]? = some (1, 30, []) := rfl
theorem dsX_7 : dsX[7]? = some (1, 30, []) := rfl
theorem dsX_8 : dsX[8]? = some (1, 12, []) := rfl
theorem dsX_9 : dsX[9]? = some (1, 12, []) := rfl
theorem dsX_10 : dsX[10]? = some (1, 12, []) := rfl
theorem dsX_11 : dsX[11]? = some (1, 12, []) := rfl
theorem dsX_12 : dsX[12]? = some (1, 120, []) := rfl
theorem dsX_13 : dsX[13]? = some (0, 5, [16]) := rfl
theorem dsX_14 : dsX[14]? = some (0, 3, [0, 17, 18, 19, 20, 0, 21, 22, 23, 24, 25]) := rfl
theorem dsX_15 : dsX[15]? = some (1, 30, []) := rfl
theorem dsX_16 : dsX[16]? = some (1, 30, []) := rfl
theorem dsX_17 : dsX[17]? = some (1, 30, []) := rfl
theorem dsX_18 : dsX[18]? = some (1, 30, []) := rfl
theorem dsX_19 : dsX[19]? = some (1, 12, []) := rfl
theorem dsX_20 : dsX[20]? = some (1, 12, []) := rfl
theorem dsX_21 : dsX[21]? = some (1, 12, []) := rfl
theorem dsX_22 : dsX[22]? = some (1, 12, []) := rfl
theorem dsX_23 : dsX[23]? = some (1, 120, []) := rfl
theorem dsX_24 : dsX[24]? = some (0, 10, [0, 27, 28]) := rfl
theorem dsX_25 : dsX[25]? = some (1, 30, []) := rfl
theorem dsX_26 : dsX[26]? = some (1, 90, []) := rfl
theorem dsX_27 : dsX[27]? = some (0, 9, [5, 30, 31, 32, 33, 34]) := rfl
theorem dsX_28 : dsX[28]? = some (1, 120, []) := rfl
theorem dsX_29 : dsX[29]? = some (1, 31, []) := rfl
theorem dsX_30 : dsX[30]? = some (1, 12, []) := rfl
theorem dsX_31 : dsX[31]? = some (1, 120, []) := rfl
theorem dsX_32 : dsX[32]? = some (4, 1440, []) := rfl
theorem dsX_33 : dsX[33]? = some (0, 8, [5, 29, 36, 37, 38, 39, 40, 41, 42, 43, 44, 45, 46, 47, 0]) := rfl
theorem dsX_34 : dsX[34]? = some (1, 12, []) := rfl
theorem dsX_35 : dsX[35]? = some (1, 120, []) := rfl
theorem dsX_36 : dsX[36]? = some (1, 120, []) := rfl
theorem dsX_37 : dsX[37]? = some (1, 120, []) := rfl
theorem dsX_38 : dsX[38]? = some (1, 120, []) := rfl
theorem dsX_39 : dsX[39]? = some (1, 120, []) := rfl
theorem dsX_40 : dsX[40]? = some (1, 120, []) := rfl
theorem dsX_41 : dsX[41]? = some (1, 120, []) := rfl
theorem dsX_42 : dsX[42]? = some (1, 120, []) := rfl
theorem dsX_43 : dsX[43]? = some (1, 120, []) := rfl
theorem dsX_44 : dsX[44]? = some (1, 120, []) := rfl
theorem dsX_45 : dsX[45]? = some (2, 120, []) := rfl
theorem dsX_46 : dsX[46]? = some (0, 8, [5, 29, 49, 50, 51, 52, 53, 54, 55, 56, 57, 58, 59, 60, 0]) := rfl
theorem dsX_47 : dsX[47]? = some (1, 12, []) := rfl
theorem dsX_48 : dsX[48]? = some (1, 120, []) := rfl
theorem dsX_49 : dsX[49]? = some (1, 120, []) := rfl
theorem dsX_50 : dsX[50]? = some (1, 120, []) := rfl
theorem dsX_51 : dsX[51]? = some (1, 120, []) := rfl
theorem dsX_52 : dsX[52]? = some (1, 120, []) := rfl
theorem dsX_53 : dsX[53]? = some (1, 120, []) := rfl
theorem dsX_54 : dsX[54]? = some (1, 120, []) := rfl
theorem dsX_55 : dsX[55]? = some (1, 120, []) := rfl
theorem dsX_56 : dsX[56]? = some (1, 120, []) := rfl
theorem dsX_57 : dsX[57]? = some (1, 120, []) := rfl
theorem dsX_58 : dsX[58]? = some (2, 120, []) := rfl
theorem dsX_59 : dsX[59]? = some (0, 6, [5, 29, 35, 48, 0, 0, 0]) := rfl
theorem dsX_60 : dsX[60]? = some (0, 2, [35, 63, 0, 64, 0]) := rfl
theorem dsX_61 : dsX[61]? = some (1, 6, []) := rfl
theorem dsX_62 : dsX[62]? = some (1, 6, []) := rfl
theorem dsX_63 : dsX[63]? = some (0, 4, [66, 0, 0, 82, 85]) := rfl
theorem dsX_64 : dsX[64]? = some (6, 15, [65]) := rfl
theorem dsX_65 : dsX[65]? = some (1, 252, []) := rfl
theorem dsX_66 : dsX[66]? = some (1, 252, []) := rfl
theorem dsX_67 : dsX[67]? = some (1, 252, []) := rfl
theorem dsX_68 : dsX[68]? = some (1, 252, []) := rfl
theorem dsX_69 : dsX[69]? = some (1, 252, []) := rfl
theorem dsX_70 : dsX[70]? = some (1, 252, []) := rfl
theorem dsX_71 : dsX[71]? = some (1, 252, []) := rfl
theorem dsX_72 : dsX[72]? = some (1, 252, []) := rfl
theorem dsX_73 : dsX[73]? = some (1, 252, []) := rfl
theorem dsX_74 : dsX[74]? = some (1, 252, []) := rfl
theorem dsX_75 : dsX[75]? = some (1, 252, []) := rfl
theorem dsX_76 : dsX[76]? = some (1, 252, []) := rfl
theorem dsX_77 : dsX[77]? = some (1, 252, []) := rfl
theorem dsX_78 : dsX[78]? = some (1, 252, []) := rfl
theorem dsX_79 : dsX[79]? = some (1, 252, []) := rfl
theorem dsX_80 : dsX[80]? = some (6, 2, [81]) := rfl
theorem dsX_81 : dsX[81]? = some (1, 252, []) := rfl
theorem dsX_82 : dsX[82]? = some (1, 252, []) := rfl
theorem dsX_83 : dsX[83]? = some (2, 2, []) := rfl
theorem dsX_84 : dsX[84]? = some (0, 7, [87, 0]) := rfl
theorem dsX_85 : dsX[85]? = some (3, 130, []) := rfl
theorem dsX_86 : dsX[86]? = some (1, 20, []) := rfl
theorem dsX_87 : dsX[87]? = some (4, 1, []) := rfl
theorem dsX_88 : dsX[88]? = some (5, 1, []) := rfl
def dsM : List x_D := [(0, 13, [3, 4, 0, 0, 5, 0, 6, 7, 8, 9, 10, 11, 12, 13, 14, 15, 16, 0, 0, 0, 0, 0, 17, 18, 19, 20, 0, 21, 22, 0, 23, 0, 0, 0, 0, 0, 0, 0, 1, 24, 0]), (1, 4788, []), (2, 2, []), (1, 580, []), (1, 120, []), (1, 120, []), (1, 1440, []), (1, 120, []), (1, 120, []), (1, 120, []), (1, 120, []), (1, 120, []), (2, 120, []), (1, 12, []), (1, 12, []), (1, 12, []), (1, 12, []), (1, 12, []), (1, 12, []), (1, 20, []), (1, 300, []), (3, 1500, []), (1, 120, [])]
theorem dsM_0 : dsM[0]? = some (0, 13, [3, 4, 0, 0, 5, 0, 6, 7, 8, 9, 10, 11, 12, 13, 14, 15, 16, 0, 0, 0, 0, 0, 17, 18, 19, 20, 0, 21, 22, 0, 23, 0, 0, 0, 0, 0, 0, 0, 1, 24, 0]) := rfl
theorem dsM_1 : dsM[1]? = some (1, 4788, []) := rfl
theorem dsM_2 : dsM[2]? = some (2, 2, []) := rfl
theorem dsM_3 : dsM[3]? = some (1, 580, []) := rfl
theorem dsM_4 : dsM[4]? = some (1, 120, []) := rfl
theorem dsM_5 : dsM[5]? = some (1, 120, []) := rfl
theorem dsM_6 : dsM[6]? = some (1, 1440, []) := rfl
theorem dsM_7 : dsM[7]? = some (1, 120, []) := rfl
theorem dsM_8 : dsM[8]? = some (1, 120, []) := rfl
theorem dsM_9 : dsM[9]? = some (1, 120, []) := rfl
theorem dsM_10 : dsM[10]? = some (1, 120, []) := rfl
theorem dsM_11 : dsM[11]? = some (1, 120, []) := rfl
theorem dsM_12 : dsM[12]? = some (2, 120, []) := rfl
theorem dsM_13 : dsM[13]? = some (1, 12, []) := rfl
theorem dsM_14 : dsM[14]? = some (1, 12, []) := rfl
theorem dsM_15 : dsM[15]? = some (1, 12, []) := rfl
theorem dsM_16 : dsM[16]? = some (1, 12, []) := rfl
theorem dsM_17 : dsM[17]? = some (1, 12, []) := rfl
theorem dsM_18 : dsM[18]? = some (1, 12, []) := rfl
theorem dsM_19 : dsM[19]? = some (1, 20, []) := rfl
theorem dsM_20 : dsM[20]? = some (1, 300, []) := rfl
theorem dsM_21 : dsM[21]? = some (3, 1500, []) := rfl
theorem dsM_22 : dsM[22]? = some (1, 120, []) := rfl
/-- the two plans -/
def x_pl (t : Nat) : Prop := t = 33 ∨ t = 46
theorem x_pl33 : x_pl 33 := Or.inl rfl
theorem x_pl46 : x_pl 46 := Or.inr rfl
def plF (t : Nat) : List Nat := [5, 29, t + 1 + 2, t + 2 + 2, t + 3 + 2, t + 4 + 2, t + 5 + 2, t + 6 + 2, t + 7 + 2, t + 8 + 2, t + 9 + 2, t + 10 + 2, t + 11 + 2, t + 12 + 2, 0]
theorem dsX_pl {t : Nat} (h : x_pl t) : dsX[t]? = some (0, 8, plF t) := by rcases h with rfl | rfl <;> rfl
theorem dsX_pl1 {t : Nat} (h : x_pl t) : dsX[t + 1]? = some (1, 12, []) := by rcases h with rfl | rfl <;> rfl
theorem dsX_pl2 {t : Nat} (h : x_pl t) : dsX[t + 2]? = some (1, 120, []) := by rcases h with rfl | rfl <;> rfl
theorem dsX_pl3 {t : Nat} (h : x_pl t) : dsX[t + 3]? = some (1, 120, []) := by rcases h with rfl | rfl <;> rfl
theorem dsX_pl4 {t : Nat} (h : x_pl t) : dsX[t + 4]? = some (1, 120, []) := by rcases h with rfl | rfl <;> rfl
theorem dsX_pl5 {t : Nat} (h : x_pl t) : dsX[t + 5]? = some (1, 120, []) := by rcases h with rfl | rfl <;> rfl
theorem dsX_pl6 {t : Nat} (h : x_pl t) : dsX[t + 6]? = some (1, 120, []) := by rcases h with rfl | rfl <;> rfl
theorem dsX_pl7 {t : Nat} (h : x_pl t) : dsX[t + 7]? = some (1, 120, []) := by rcases h with rfl | rfl <;> rfl
theorem dsX_pl8 {t : Nat} (h : x_pl t) : dsX[t + 8]? = some (1, 120, []) := by rcases h with rfl | rfl <;> rfl
theorem dsX_pl9 {t : Nat} (h : x_pl t) : dsX[t + 9]? = some (1, 120, []) := by rcases h with rfl | rfl <;> rfl
theorem dsX_pl10 {t : Nat} (h : x_pl t) : dsX[t + 10]? = some (1, 120, []) := by rcases h with rfl | rfl <;> rfl
theorem dsX_pl11 {t : Nat} (h : x_pl t) : dsX[t + 11]? = some (1, 120, []) := by rcases h with rfl | rfl <;> rfl
theorem dsX_pl12 {t : Nat} (h : x_pl t) : dsX[t + 12]? = some (2, 120, []) := by rcases h with rfl | rfl <;> rfl
theorem dsX_row {i : Int32} (h : vp_in i 15) : dsX[65 + i.toNatClampNeg]? = some (1, 252, []) := by
  obtain ⟨j, hj, rfl⟩ := vp_in_of h (by omega)
  rw [nI_clamp (by omega)]
  exact (by decide : ∀ j, j < 15 → dsX[65 + j]? = some (1, 252, [])) j hj
theorem dsX_snap {i : Int32} (h : vp_in i 2) : dsX[81 + i.toNatClampNeg]? = some (1, 252, []) := by
  obtain ⟨j, hj, rfl⟩ := vp_in_of h (by omega)
  rw [nI_clamp (by omega)]
  exact (by decide : ∀ j, j < 2 → dsX[81 + j]? = some (1, 252, [])) j hj
theorem x_inl {i : Int32} {n : Nat} (h : ¬ (i < 0 ∨ n ≤ i.toNatClampNeg)) : vp_in i n := h
def x_PI (Q : Int32 → x_S → x_L → Prop) : x_P := fun v σ τ => ∃ r, v = some (.int r) ∧ Q r σ τ
def x_PJ (Q : Int64 → x_S → x_L → Prop) : x_P := fun v σ τ => ∃ r, v = some (.long r) ∧ Q r σ τ
def x_PF (Q : UInt32 → x_S → x_L → Prop) : x_P := fun v σ τ => ∃ r, v = some (.float r) ∧ Q r σ τ
def x_PV (Q : x_S → x_L → Prop) : x_P := fun v σ τ => v = none ∧ Q σ τ
def x_n0  (B : (x_S → x_L → Prop) → x_S → x_L → Prop) : Nat → x_S → x_L → Prop
  | 0 => fun _ _ => False
  | n + 1 => B (x_n0 B n)
def x_l0  (B : (x_S → x_L → Prop) → x_S → x_L → Prop)  (σ : x_S) (τ : x_L) : Prop := ∃ n, x_n0 B n σ τ
theorem x_l0_G  {B : (x_S → x_L → Prop) → x_S → x_L → Prop} (G : x_S → x_L → Prop) (hB : ∀ K : x_S → x_L → Prop, (∀ σ τ, K σ τ → G σ τ) → ∀ σ τ, B K σ τ → G σ τ)  {σ : x_S} {τ : x_L} (h : x_l0 B σ τ) : G σ τ := by
  obtain ⟨n, h⟩ := h
  have key : ∀ n, ∀ σ τ, x_n0 B n σ τ → G σ τ := by
    intro n
    induction n with
    | zero => intro σ τ h; exact h.elim
    | succ n ih => intro σ τ h; exact hB _ ih σ τ h
  exact key n σ τ h
def x_n1 {A0 : Type} (B : (A0 → x_S → x_L → Prop) → A0 → x_S → x_L → Prop) : Nat → A0 → x_S → x_L → Prop
  | 0 => fun _ _ _ => False
  | n + 1 => B (x_n1 B n)
def x_l1 {A0 : Type} (B : (A0 → x_S → x_L → Prop) → A0 → x_S → x_L → Prop) (a0 : A0) (σ : x_S) (τ : x_L) : Prop := ∃ n, x_n1 B n a0 σ τ
theorem x_l1_G {A0 : Type} {B : (A0 → x_S → x_L → Prop) → A0 → x_S → x_L → Prop} (G : A0 → x_S → x_L → Prop) (hB : ∀ K : A0 → x_S → x_L → Prop, (∀ a0 σ τ, K a0 σ τ → G a0 σ τ) → ∀ a0 σ τ, B K a0 σ τ → G a0 σ τ) {a0 : A0} {σ : x_S} {τ : x_L} (h : x_l1 B a0 σ τ) : G a0 σ τ := by
  obtain ⟨n, h⟩ := h
  have key : ∀ n, ∀ a0 σ τ, x_n1 B n a0 σ τ → G a0 σ τ := by
    intro n
    induction n with
    | zero => intro a0 σ τ h; exact h.elim
    | succ n ih => intro a0 σ τ h; exact hB _ ih a0 σ τ h
  exact key n a0 σ τ h
def x_n2 {A0 : Type} {A1 : Type} (B : (A0 → A1 → x_S → x_L → Prop) → A0 → A1 → x_S → x_L → Prop) : Nat → A0 → A1 → x_S → x_L → Prop
  | 0 => fun _ _ _ _ => False
  | n + 1 => B (x_n2 B n)
def x_l2 {A0 : Type} {A1 : Type} (B : (A0 → A1 → x_S → x_L → Prop) → A0 → A1 → x_S → x_L → Prop) (a0 : A0) (a1 : A1) (σ : x_S) (τ : x_L) : Prop := ∃ n, x_n2 B n a0 a1 σ τ
theorem x_l2_G {A0 : Type} {A1 : Type} {B : (A0 → A1 → x_S → x_L → Prop) → A0 → A1 → x_S → x_L → Prop} (G : A0 → A1 → x_S → x_L → Prop) (hB : ∀ K : A0 → A1 → x_S → x_L → Prop, (∀ a0 a1 σ τ, K a0 a1 σ τ → G a0 a1 σ τ) → ∀ a0 a1 σ τ, B K a0 a1 σ τ → G a0 a1 σ τ) {a0 : A0} {a1 : A1} {σ : x_S} {τ : x_L} (h : x_l2 B a0 a1 σ τ) : G a0 a1 σ τ := by
  obtain ⟨n, h⟩ := h
  have key : ∀ n, ∀ a0 a1 σ τ, x_n2 B n a0 a1 σ τ → G a0 a1 σ τ := by
    intro n
    induction n with
    | zero => intro a0 a1 σ τ h; exact h.elim
    | succ n ih => intro a0 a1 σ τ h; exact hB _ ih a0 a1 σ τ h
  exact key n a0 a1 σ τ h
def x_n3 {A0 : Type} {A1 : Type} {A2 : Type} (B : (A0 → A1 → A2 → x_S → x_L → Prop) → A0 → A1 → A2 → x_S → x_L → Prop) : Nat → A0 → A1 → A2 → x_S → x_L → Prop
  | 0 => fun _ _ _ _ _ => False
  | n + 1 => B (x_n3 B n)
def x_l3 {A0 : Type} {A1 : Type} {A2 : Type} (B : (A0 → A1 → A2 → x_S → x_L → Prop) → A0 → A1 → A2 → x_S → x_L → Prop) (a0 : A0) (a1 : A1) (a2 : A2) (σ : x_S) (τ : x_L) : Prop := ∃ n, x_n3 B n a0 a1 a2 σ τ
theorem x_l3_G {A0 : Type} {A1 : Type} {A2 : Type} {B : (A0 → A1 → A2 → x_S → x_L → Prop) → A0 → A1 → A2 → x_S → x_L → Prop} (G : A0 → A1 → A2 → x_S → x_L → Prop) (hB : ∀ K : A0 → A1 → A2 → x_S → x_L → Prop, (∀ a0 a1 a2 σ τ, K a0 a1 a2 σ τ → G a0 a1 a2 σ τ) → ∀ a0 a1 a2 σ τ, B K a0 a1 a2 σ τ → G a0 a1 a2 σ τ) {a0 : A0} {a1 : A1} {a2 : A2} {σ : x_S} {τ : x_L} (h : x_l3 B a0 a1 a2 σ τ) : G a0 a1 a2 σ τ := by
  obtain ⟨n, h⟩ := h
  have key : ∀ n, ∀ a0 a1 a2 σ τ, x_n3 B n a0 a1 a2 σ τ → G a0 a1 a2 σ τ := by
    intro n
    induction n with
    | zero => intro a0 a1 a2 σ τ h; exact h.elim
    | succ n ih => intro a0 a1 a2 σ τ h; exact hB _ ih a0 a1 a2 σ τ h
  exact key n a0 a1 a2 σ τ h
def x_n4 {A0 : Type} {A1 : Type} {A2 : Type} {A3 : Type} (B : (A0 → A1 → A2 → A3 → x_S → x_L → Prop) → A0 → A1 → A2 → A3 → x_S → x_L → Prop) : Nat → A0 → A1 → A2 → A3 → x_S → x_L → Prop
  | 0 => fun _ _ _ _ _ _ => False
  | n + 1 => B (x_n4 B n)
def x_l4 {A0 : Type} {A1 : Type} {A2 : Type} {A3 : Type} (B : (A0 → A1 → A2 → A3 → x_S → x_L → Prop) → A0 → A1 → A2 → A3 → x_S → x_L → Prop) (a0 : A0) (a1 : A1) (a2 : A2) (a3 : A3) (σ : x_S) (τ : x_L) : Prop := ∃ n, x_n4 B n a0 a1 a2 a3 σ τ
theorem x_l4_G {A0 : Type} {A1 : Type} {A2 : Type} {A3 : Type} {B : (A0 → A1 → A2 → A3 → x_S → x_L → Prop) → A0 → A1 → A2 → A3 → x_S → x_L → Prop} (G : A0 → A1 → A2 → A3 → x_S → x_L → Prop) (hB : ∀ K : A0 → A1 → A2 → A3 → x_S → x_L → Prop, (∀ a0 a1 a2 a3 σ τ, K a0 a1 a2 a3 σ τ → G a0 a1 a2 a3 σ τ) → ∀ a0 a1 a2 a3 σ τ, B K a0 a1 a2 a3 σ τ → G a0 a1 a2 a3 σ τ) {a0 : A0} {a1 : A1} {a2 : A2} {a3 : A3} {σ : x_S} {τ : x_L} (h : x_l4 B a0 a1 a2 a3 σ τ) : G a0 a1 a2 a3 σ τ := by
  obtain ⟨n, h⟩ := h
  have key : ∀ n, ∀ a0 a1 a2 a3 σ τ, x_n4 B n a0 a1 a2 a3 σ τ → G a0 a1 a2 a3 σ τ := by
    intro n
    induction n with
    | zero => intro a0 a1 a2 a3 σ τ h; exact h.elim
    | succ n ih => intro a0 a1 a2 a3 σ τ h; exact hB _ ih a0 a1 a2 a3 σ τ h
  exact key n a0 a1 a2 a3 σ τ h
def x_n5 {A0 : Type} {A1 : Type} {A2 : Type} {A3 : Type} {A4 : Type} (B : (A0 → A1 → A2 → A3 → A4 → x_S → x_L → Prop) → A0 → A1 → A2 → A3 → A4 → x_S → x_L → Prop) : Nat → A0 → A1 → A2 → A3 → A4 → x_S → x_L → Prop
  | 0 => fun _ _ _ _ _ _ _ => False
  | n + 1 => B (x_n5 B n)
def x_l5 {A0 : Type} {A1 : Type} {A2 : Type} {A3 : Type} {A4 : Type} (B : (A0 → A1 → A2 → A3 → A4 → x_S → x_L → Prop) → A0 → A1 → A2 → A3 → A4 → x_S → x_L → Prop) (a0 : A0) (a1 : A1) (a2 : A2) (a3 : A3) (a4 : A4) (σ : x_S) (τ : x_L) : Prop := ∃ n, x_n5 B n a0 a1 a2 a3 a4 σ τ
theorem x_l5_G {A0 : Type} {A1 : Type} {A2 : Type} {A3 : Type} {A4 : Type} {B : (A0 → A1 → A2 → A3 → A4 → x_S → x_L → Prop) → A0 → A1 → A2 → A3 → A4 → x_S → x_L → Prop} (G : A0 → A1 → A2 → A3 → A4 → x_S → x_L → Prop) (hB : ∀ K : A0 → A1 → A2 → A3 → A4 → x_S → x_L → Prop, (∀ a0 a1 a2 a3 a4 σ τ, K a0 a1 a2 a3 a4 σ τ → G a0 a1 a2 a3 a4 σ τ) → ∀ a0 a1 a2 a3 a4 σ τ, B K a0 a1 a2 a3 a4 σ τ → G a0 a1 a2 a3 a4 σ τ) {a0 : A0} {a1 : A1} {a2 : A2} {a3 : A3} {a4 : A4} {σ : x_S} {τ : x_L} (h : x_l5 B a0 a1 a2 a3 a4 σ τ) : G a0 a1 a2 a3 a4 σ τ := by
  obtain ⟨n, h⟩ := h
  have key : ∀ n, ∀ a0 a1 a2 a3 a4 σ τ, x_n5 B n a0 a1 a2 a3 a4 σ τ → G a0 a1 a2 a3 a4 σ τ := by
    intro n
    induction n with
    | zero => intro a0 a1 a2 a3 a4 σ τ h; exact h.elim
    | succ n ih => intro a0 a1 a2 a3 a4 σ τ h; exact hB _ ih a0 a1 a2 a3 a4 σ τ h
  exact key n a0 a1 a2 a3 a4 σ τ h
def x_n6 {A0 : Type} {A1 : Type} {A2 : Type} {A3 : Type} {A4 : Type} {A5 : Type} (B : (A0 → A1 → A2 → A3 → A4 → A5 → x_S → x_L → Prop) → A0 → A1 → A2 → A3 → A4 → A5 → x_S → x_L → Prop) : Nat → A0 → A1 → A2 → A3 → A4 → A5 → x_S → x_L → Prop
  | 0 => fun _ _ _ _ _ _ _ _ => False
  | n + 1 => B (x_n6 B n)
def x_l6 {A0 : Type} {A1 : Type} {A2 : Type} {A3 : Type} {A4 : Type} {A5 : Type} (B : (A0 → A1 → A2 → A3 → A4 → A5 → x_S → x_L → Prop) → A0 → A1 → A2 → A3 → A4 → A5 → x_S → x_L → Prop) (a0 : A0) (a1 : A1) (a2 : A2) (a3 : A3) (a4 : A4) (a5 : A5) (σ : x_S) (τ : x_L) : Prop := ∃ n, x_n6 B n a0 a1 a2 a3 a4 a5 σ τ
theorem x_l6_G {A0 : Type} {A1 : Type} {A2 : Type} {A3 : Type} {A4 : Type} {A5 : Type} {B : (A0 → A1 → A2 → A3 → A4 → A5 → x_S → x_L → Prop) → A0 → A1 → A2 → A3 → A4 → A5 → x_S → x_L → Prop} (G : A0 → A1 → A2 → A3 → A4 → A5 → x_S → x_L → Prop) (hB : ∀ K : A0 → A1 → A2 → A3 → A4 → A5 → x_S → x_L → Prop, (∀ a0 a1 a2 a3 a4 a5 σ τ, K a0 a1 a2 a3 a4 a5 σ τ → G a0 a1 a2 a3 a4 a5 σ τ) → ∀ a0 a1 a2 a3 a4 a5 σ τ, B K a0 a1 a2 a3 a4 a5 σ τ → G a0 a1 a2 a3 a4 a5 σ τ) {a0 : A0} {a1 : A1} {a2 : A2} {a3 : A3} {a4 : A4} {a5 : A5} {σ : x_S} {τ : x_L} (h : x_l6 B a0 a1 a2 a3 a4 a5 σ τ) : G a0 a1 a2 a3 a4 a5 σ τ := by
  obtain ⟨n, h⟩ := h
  have key : ∀ n, ∀ a0 a1 a2 a3 a4 a5 σ τ, x_n6 B n a0 a1 a2 a3 a4 a5 σ τ → G a0 a1 a2 a3 a4 a5 σ τ := by
    intro n
    induction n with
    | zero => intro a0 a1 a2 a3 a4 a5 σ τ h; exact h.elim
    | succ n ih => intro a0 a1 a2 a3 a4 a5 σ τ h; exact hB _ ih a0 a1 a2 a3 a4 a5 σ τ h
  exact key n a0 a1 a2 a3 a4 a5 σ τ h
def x_n7 {A0 : Type} {A1 : Type} {A2 : Type} {A3 : Type} {A4 : Type} {A5 : Type} {A6 : Type} (B : (A0 → A1 → A2 → A3 → A4 → A5 → A6 → x_S → x_L → Prop) → A0 → A1 → A2 → A3 → A4 → A5 → A6 → x_S → x_L → Prop) : Nat → A0 → A1 → A2 → A3 → A4 → A5 → A6 → x_S → x_L → Prop
  | 0 => fun _ _ _ _ _ _ _ _ _ => False
  | n + 1 => B (x_n7 B n)
def x_l7 {A0 : Type} {A1 : Type} {A2 : Type} {A3 : Type} {A4 : Type} {A5 : Type} {A6 : Type} (B : (A0 → A1 → A2 → A3 → A4 → A5 → A6 → x_S → x_L → Prop) → A0 → A1 → A2 → A3 → A4 → A5 → A6 → x_S → x_L → Prop) (a0 : A0) (a1 : A1) (a2 : A2) (a3 : A3) (a4 : A4) (a5 : A5) (a6 : A6) (σ : x_S) (τ : x_L) : Prop := ∃ n, x_n7 B n a0 a1 a2 a3 a4 a5 a6 σ τ
theorem x_l7_G {A0 : Type} {A1 : Type} {A2 : Type} {A3 : Type} {A4 : Type} {A5 : Type} {A6 : Type} {B : (A0 → A1 → A2 → A3 → A4 → A5 → A6 → x_S → x_L → Prop) → A0 → A1 → A2 → A3 → A4 → A5 → A6 → x_S → x_L → Prop} (G : A0 → A1 → A2 → A3 → A4 → A5 → A6 → x_S → x_L → Prop) (hB : ∀ K : A0 → A1 → A2 → A3 → A4 → A5 → A6 → x_S → x_L → Prop, (∀ a0 a1 a2 a3 a4 a5 a6 σ τ, K a0 a1 a2 a3 a4 a5 a6 σ τ → G a0 a1 a2 a3 a4 a5 a6 σ τ) → ∀ a0 a1 a2 a3 a4 a5 a6 σ τ, B K a0 a1 a2 a3 a4 a5 a6 σ τ → G a0 a1 a2 a3 a4 a5 a6 σ τ) {a0 : A0} {a1 : A1} {a2 : A2} {a3 : A3} {a4 : A4} {a5 : A5} {a6 : A6} {σ : x_S} {τ : x_L} (h : x_l7 B a0 a1 a2 a3 a4 a5 a6 σ τ) : G a0 a1 a2 a3 a4 a5 a6 σ τ := by
  obtain ⟨n, h⟩ := h
  have key : ∀ n, ∀ a0 a1 a2 a3 a4 a5 a6 σ τ, x_n7 B n a0 a1 a2 a3 a4 a5 a6 σ τ → G a0 a1 a2 a3 a4 a5 a6 σ τ := by
    intro n
    induction n with
    | zero => intro a0 a1 a2 a3 a4 a5 a6 σ τ h; exact h.elim
    | succ n ih => intro a0 a1 a2 a3 a4 a5 a6 σ τ h; exact hB _ ih a0 a1 a2 a3 a4 a5 a6 σ τ h
  exact key n a0 a1 a2 a3 a4 a5 a6 σ τ h
def x_n8 {A0 : Type} {A1 : Type} {A2 : Type} {A3 : Type} {A4 : Type} {A5 : Type} {A6 : Type} {A7 : Type} (B : (A0 → A1 → A2 → A3 → A4 → A5 → A6 → A7 → x_S → x_L → Prop) → A0 → A1 → A2 → A3 → A4 → A5 → A6 → A7 → x_S → x_L → Prop) : Nat → A0 → A1 → A2 → A3 → A4 → A5 → A6 → A7 → x_S → x_L → Prop
  | 0 => fun _ _ _ _ _ _ _ _ _ _ => False
  | n + 1 => B (x_n8 B n)
def x_l8 {A0 : Type} {A1 : Type} {A2 : Type} {A3 : Type} {A4 : Type} {A5 : Type} {A6 : Type} {A7 : Type} (B : (A0 → A1 → A2 → A3 → A4 → A5 → A6 → A7 → x_S → x_L → Prop) → A0 → A1 → A2 → A3 → A4 → A5 → A6 → A7 → x_S → x_L → Prop) (a0 : A0) (a1 : A1) (a2 : A2) (a3 : A3) (a4 : A4) (a5 : A5) (a6 : A6) (a7 : A7) (σ : x_S) (τ : x_L) : Prop := ∃ n, x_n8 B n a0 a1 a2 a3 a4 a5 a6 a7 σ τ
theorem x_l8_G {A0 : Type} {A1 : Type} {A2 : Type} {A3 : Type} {A4 : Type} {A5 : Type} {A6 : Type} {A7 : Type} {B : (A0 → A1 → A2 → A3 → A4 → A5 → A6 → A7 → x_S → x_L → Prop) → A0 → A1 → A2 → A3 → A4 → A5 → A6 → A7 → x_S → x_L → Prop} (G : A0 → A1 → A2 → A3 → A4 → A5 → A6 → A7 → x_S → x_L → Prop) (hB : ∀ K : A0 → A1 → A2 → A3 → A4 → A5 → A6 → A7 → x_S → x_L → Prop, (∀ a0 a1 a2 a3 a4 a5 a6 a7 σ τ, K a0 a1 a2 a3 a4 a5 a6 a7 σ τ → G a0 a1 a2 a3 a4 a5 a6 a7 σ τ) → ∀ a0 a1 a2 a3 a4 a5 a6 a7 σ τ, B K a0 a1 a2 a3 a4 a5 a6 a7 σ τ → G a0 a1 a2 a3 a4 a5 a6 a7 σ τ) {a0 : A0} {a1 : A1} {a2 : A2} {a3 : A3} {a4 : A4} {a5 : A5} {a6 : A6} {a7 : A7} {σ : x_S} {τ : x_L} (h : x_l8 B a0 a1 a2 a3 a4 a5 a6 a7 σ τ) : G a0 a1 a2 a3 a4 a5 a6 a7 σ τ := by
  obtain ⟨n, h⟩ := h
  have key : ∀ n, ∀ a0 a1 a2 a3 a4 a5 a6 a7 σ τ, x_n8 B n a0 a1 a2 a3 a4 a5 a6 a7 σ τ → G a0 a1 a2 a3 a4 a5 a6 a7 σ τ := by
    intro n
    induction n with
    | zero => intro a0 a1 a2 a3 a4 a5 a6 a7 σ τ h; exact h.elim
    | succ n ih => intro a0 a1 a2 a3 a4 a5 a6 a7 σ τ h; exact hB _ ih a0 a1 a2 a3 a4 a5 a6 a7 σ τ h
  exact key n a0 a1 a2 a3 a4 a5 a6 a7 σ τ h
def x_n9 {A0 : Type} {A1 : Type} {A2 : Type} {A3 : Type} {A4 : Type} {A5 : Type} {A6 : Type} {A7 : Type} {A8 : Type} (B : (A0 → A1 → A2 → A3 → A4 → A5 → A6 → A7 → A8 → x_S → x_L → Prop) → A0 → A1 → A2 → A3 → A4 → A5 → A6 → A7 → A8 → x_S → x_L → Prop) : Nat → A0 → A1 → A2 → A3 → A4 → A5 → A6 → A7 → A8 → x_S → x_L → Prop
  | 0 => fun _ _ _ _ _ _ _ _ _ _ _ => False
  | n + 1 => B (x_n9 B n)
def x_l9 {A0 : Type} {A1 : Type} {A2 : Type} {A3 : Type} {A4 : Type} {A5 : Type} {A6 : Type} {A7 : Type} {A8 : Type} (B : (A0 → A1 → A2 → A3 → A4 → A5 → A6 → A7 → A8 → x_S → x_L → Prop) → A0 → A1 → A2 → A3 → A4 → A5 → A6 → A7 → A8 → x_S → x_L → Prop) (a0 : A0) (a1 : A1) (a2 : A2) (a3 : A3) (a4 : A4) (a5 : A5) (a6 : A6) (a7 : A7) (a8 : A8) (σ : x_S) (τ : x_L) : Prop := ∃ n, x_n9 B n a0 a1 a2 a3 a4 a5 a6 a7 a8 σ τ
theorem x_l9_G {A0 : Type} {A1 : Type} {A2 : Type} {A3 : Type} {A4 : Type} {A5 : Type} {A6 : Type} {A7 : Type} {A8 : Type} {B : (A0 → A1 → A2 → A3 → A4 → A5 → A6 → A7 → A8 → x_S → x_L → Prop) → A0 → A1 → A2 → A3 → A4 → A5 → A6 → A7 → A8 → x_S → x_L → Prop} (G : A0 → A1 → A2 → A3 → A4 → A5 → A6 → A7 → A8 → x_S → x_L → Prop) (hB : ∀ K : A0 → A1 → A2 → A3 → A4 → A5 → A6 → A7 → A8 → x_S → x_L → Prop, (∀ a0 a1 a2 a3 a4 a5 a6 a7 a8 σ τ, K a0 a1 a2 a3 a4 a5 a6 a7 a8 σ τ → G a0 a1 a2 a3 a4 a5 a6 a7 a8 σ τ) → ∀ a0 a1 a2 a3 a4 a5 a6 a7 a8 σ τ, B K a0 a1 a2 a3 a4 a5 a6 a7 a8 σ τ → G a0 a1 a2 a3 a4 a5 a6 a7 a8 σ τ) {a0 : A0} {a1 : A1} {a2 : A2} {a3 : A3} {a4 : A4} {a5 : A5} {a6 : A6} {a7 : A7} {a8 : A8} {σ : x_S} {τ : x_L} (h : x_l9 B a0 a1 a2 a3 a4 a5 a6 a7 a8 σ τ) : G a0 a1 a2 a3 a4 a5 a6 a7 a8 σ τ := by
  obtain ⟨n, h⟩ := h
  have key : ∀ n, ∀ a0 a1 a2 a3 a4 a5 a6 a7 a8 σ τ, x_n9 B n a0 a1 a2 a3 a4 a5 a6 a7 a8 σ τ → G a0 a1 a2 a3 a4 a5 a6 a7 a8 σ τ := by
    intro n
    induction n with
    | zero => intro a0 a1 a2 a3 a4 a5 a6 a7 a8 σ τ h; exact h.elim
    | succ n ih => intro a0 a1 a2 a3 a4 a5 a6 a7 a8 σ τ h; exact hB _ ih a0 a1 a2 a3 a4 a5 a6 a7 a8 σ τ h
  exact key n a0 a1 a2 a3 a4 a5 a6 a7 a8 σ τ h
section XS
variable {V : x_J} {cc : ByteArray} {nL : Nat} {own : String} {ret : Option FieldType} {ad : Nat → Nat} {ds : List x_D} {dp : Nat} {P : x_P} {σ : x_S} {τ : x_L} {pc : Nat} {lv : List (Nat × Value)} {st : List Value}
theorem x_callVi (X : x_Is V cc nL own ret ad ds dp P) {index : Nat} {k ci : Nat} {fs : List Nat} {y : MethodName} {bytes : ByteArray} {maxL : Nat} {ret' : Option FieldType} {dp' : Nat} (As : List Value) {Q2 : Int32 → x_S → x_L → Prop} (rest : List Value)
    (hd : decode cc pc = .ok (.invokevirtual index, 3)) (hM : x_Met y bytes maxL ret' dp' ad ds (.ref (ad k) :: As) σ τ (x_PI Q2)) (hc : x_CM y bytes maxL ret' As.length) (hi : x_CI y ci) (hl : Cond.methodLink own index y ∈ lw_big) (hds : ds[k]? = some (0, ci, fs))
    (hdp : dp' + 1 ≤ dp ∧ maxL ≤ 31) (hst : st = As.reverse ++ .ref (ad k) :: rest) (hrest : (rest.map fun v => v.category).sum ≤ 8) (kk : ∀ (r : Int32) (σ2 : x_S) (τ2 : x_L), Q2 r σ2 τ2 → V σ2 τ2 (pc + 3) lv (.int r :: rest)) : V σ τ pc lv st :=
  x_callV X rest hd hM hc hi hl hds hdp hst hrest (fun v σ2 τ2 h => by obtain ⟨r, rfl, h⟩ := h; exact kk r σ2 τ2 h)
theorem x_callVl (X : x_Is V cc nL own ret ad ds dp P) {index : Nat} {k ci : Nat} {fs : List Nat} {y : MethodName} {bytes : ByteArray} {maxL : Nat} {ret' : Option FieldType} {dp' : Nat} (As : List Value) {Q2 : Int64 → x_S → x_L → Prop} (rest : List Value)
    (hd : decode cc pc = .ok (.invokevirtual index, 3)) (hM : x_Met y bytes maxL ret' dp' ad ds (.ref (ad k) :: As) σ τ (x_PJ Q2)) (hc : x_CM y bytes maxL ret' As.length) (hi : x_CI y ci) (hl : Cond.methodLink own index y ∈ lw_big) (hds : ds[k]? = some (0, ci, fs))
    (hdp : dp' + 1 ≤ dp ∧ maxL ≤ 31) (hst : st = As.reverse ++ .ref (ad k) :: rest) (hrest : (rest.map fun v => v.category).sum ≤ 8) (kk : ∀ (r : Int64) (σ2 : x_S) (τ2 : x_L), Q2 r σ2 τ2 → V σ2 τ2 (pc + 3) lv (.long r :: rest)) : V σ τ pc lv st :=
  x_callV X rest hd hM hc hi hl hds hdp hst hrest (fun v σ2 τ2 h => by obtain ⟨r, rfl, h⟩ := h; exact kk r σ2 τ2 h)
theorem x_callVf (X : x_Is V cc nL own ret ad ds dp P) {index : Nat} {k ci : Nat} {fs : List Nat} {y : MethodName} {bytes : ByteArray} {maxL : Nat} {ret' : Option FieldType} {dp' : Nat} (As : List Value) {Q2 : UInt32 → x_S → x_L → Prop} (rest : List Value)
    (hd : decode cc pc = .ok (.invokevirtual index, 3)) (hM : x_Met y bytes maxL ret' dp' ad ds (.ref (ad k) :: As) σ τ (x_PF Q2)) (hc : x_CM y bytes maxL ret' As.length) (hi : x_CI y ci) (hl : Cond.methodLink own index y ∈ lw_big) (hds : ds[k]? = some (0, ci, fs))
    (hdp : dp' + 1 ≤ dp ∧ maxL ≤ 31) (hst : st = As.reverse ++ .ref (ad k) :: rest) (hrest : (rest.map fun v => v.category).sum ≤ 8) (kk : ∀ (r : UInt32) (σ2 : x_S) (τ2 : x_L), Q2 r σ2 τ2 → V σ2 τ2 (pc + 3) lv (.float r :: rest)) : V σ τ pc lv st :=
  x_callV X rest hd hM hc hi hl hds hdp hst hrest (fun v σ2 τ2 h => by obtain ⟨r, rfl, h⟩ := h; exact kk r σ2 τ2 h)
theorem x_callVv (X : x_Is V cc nL own ret ad ds dp P) {index : Nat} {k ci : Nat} {fs : List Nat} {y : MethodName} {bytes : ByteArray} {maxL : Nat} {ret' : Option FieldType} {dp' : Nat} (As : List Value) {Q2 : x_S → x_L → Prop} (rest : List Value)
    (hd : decode cc pc = .ok (.invokevirtual index, 3)) (hM : x_Met y bytes maxL ret' dp' ad ds (.ref (ad k) :: As) σ τ (x_PV Q2)) (hc : x_CM y bytes maxL ret' As.length) (hi : x_CI y ci) (hl : Cond.methodLink own index y ∈ lw_big) (hds : ds[k]? = some (0, ci, fs))
    (hdp : dp' + 1 ≤ dp ∧ maxL ≤ 31) (hst : st = As.reverse ++ .ref (ad k) :: rest) (hrest : (rest.map fun v => v.category).sum ≤ 8) (kk : ∀ (σ2 : x_S) (τ2 : x_L), Q2 σ2 τ2 → V σ2 τ2 (pc + 3) lv rest) : V σ τ pc lv st :=
  x_callV X rest hd hM hc hi hl hds hdp hst hrest (fun v σ2 τ2 h => by obtain ⟨rfl, h⟩ := h; exact kk σ2 τ2 h)
theorem x_callSi (X : x_Is V cc nL own ret ad ds dp P) {index : Nat}  {y : MethodName} {bytes : ByteArray} {maxL : Nat} {ret' : Option FieldType} {dp' : Nat} (As : List Value) {Q2 : Int32 → x_S → x_L → Prop} (rest : List Value)
    (hd : decode cc pc = .ok (.invokestatic index, 3)) (hM : x_Met y bytes maxL ret' dp' ad ds As σ τ (x_PI Q2)) (hc : x_CM y bytes maxL ret' As.length) (hi : Cond.static y ∈ lw_big) (ho : y.cls = own) (hl : Cond.methodLink own index y ∈ lw_big)
    (hdp : dp' + 1 ≤ dp ∧ maxL ≤ 31) (hst : st = As.reverse ++ rest) (hrest : (rest.map fun v => v.category).sum ≤ 8) (kk : ∀ (r : Int32) (σ2 : x_S) (τ2 : x_L), Q2 r σ2 τ2 → V σ2 τ2 (pc + 3) lv (.int r :: rest)) : V σ τ pc lv st :=
  x_callS X rest hd hM hc hi ho hl hdp hst hrest (fun v σ2 τ2 h => by obtain ⟨r, rfl, h⟩ := h; exact kk r σ2 τ2 h)
theorem x_callSl (X : x_Is V cc nL own ret ad ds dp P) {index : Nat}  {y : MethodName} {bytes : ByteArray} {maxL : Nat} {ret' : Option FieldType} {dp' : Nat} (As : List Value) {Q2 : Int64 → x_S → x_L → Prop} (rest : List Value)
    (hd : decode cc pc = .ok (.invokestatic index, 3)) (hM : x_Met y bytes maxL ret' dp' ad ds As σ τ (x_PJ Q2)) (hc : x_CM y bytes maxL ret' As.length) (hi : Cond.static y ∈ lw_big) (ho : y.cls = own) (hl : Cond.methodLink own index y ∈ lw_big)
    (hdp : dp' + 1 ≤ dp ∧ maxL ≤ 31) (hst : st = As.reverse ++ rest) (hrest : (rest.map fun v => v.category).sum ≤ 8) (kk : ∀ (r : Int64) (σ2 : x_S) (τ2 : x_L), Q2 r σ2 τ2 → V σ2 τ2 (pc + 3) lv (.long r :: rest)) : V σ τ pc lv st :=
  x_callS X rest hd hM hc hi ho hl hdp hst hrest (fun v σ2 τ2 h => by obtain ⟨r, rfl, h⟩ := h; exact kk r σ2 τ2 h)
theorem x_callSf (X : x_Is V cc nL own ret ad ds dp P) {index : Nat}  {y : MethodName} {bytes : ByteArray} {maxL : Nat} {ret' : Option FieldType} {dp' : Nat} (As : List Value) {Q2 : UInt32 → x_S → x_L → Prop} (rest : List Value)
    (hd : decode cc pc = .ok (.invokestatic index, 3)) (hM : x_Met y bytes maxL ret' dp' ad ds As σ τ (x_PF Q2)) (hc : x_CM y bytes maxL ret' As.length) (hi : Cond.static y ∈ lw_big) (ho : y.cls = own) (hl : Cond.methodLink own index y ∈ lw_big)
    (hdp : dp' + 1 ≤ dp ∧ maxL ≤ 31) (hst : st = As.reverse ++ rest) (hrest : (rest.map fun v => v.category).sum ≤ 8) (kk : ∀ (r : UInt32) (σ2 : x_S) (τ2 : x_L), Q2 r σ2 τ2 → V σ2 τ2 (pc + 3) lv (.float r :: rest)) : V σ τ pc lv st :=
  x_callS X rest hd hM hc hi ho hl hdp hst hrest (fun v σ2 τ2 h => by obtain ⟨r, rfl, h⟩ := h; exact kk r σ2 τ2 h)
theorem x_callSv (X : x_Is V cc nL own ret ad ds dp P) {index : Nat}  {y : MethodName} {bytes : ByteArray} {maxL : Nat} {ret' : Option FieldType} {dp' : Nat} (As : List Value) {Q2 : x_S → x_L → Prop} (rest : List Value)
    (hd : decode cc pc = .ok (.invokestatic index, 3)) (hM : x_Met y bytes maxL ret' dp' ad ds As σ τ (x_PV Q2)) (hc : x_CM y bytes maxL ret' As.length) (hi : Cond.static y ∈ lw_big) (ho : y.cls = own) (hl : Cond.methodLink own index y ∈ lw_big)
    (hdp : dp' + 1 ≤ dp ∧ maxL ≤ 31) (hst : st = As.reverse ++ rest) (hrest : (rest.map fun v => v.category).sum ≤ 8) (kk : ∀ (σ2 : x_S) (τ2 : x_L), Q2 σ2 τ2 → V σ2 τ2 (pc + 3) lv rest) : V σ τ pc lv st :=
  x_callS X rest hd hM hc hi ho hl hdp hst hrest (fun v σ2 τ2 h => by obtain ⟨rfl, h⟩ := h; exact kk σ2 τ2 h)
theorem x_callSNi (X : x_Is V cc nL own ret ad ds dp P) {index : Nat} {host : String} {y : MethodName} {bytes : ByteArray} {maxL : Nat} {ret' : Option FieldType} {dp' : Nat} (As : List Value) {Q2 : Int32 → x_S → x_L → Prop} (rest : List Value)
    (hd : decode cc pc = .ok (.invokestatic index, 3)) (hM : x_Met y bytes maxL ret' dp' ad ds As σ τ (x_PI Q2)) (hc : x_CM y bytes maxL ret' As.length) (hi : Cond.static y ∈ lw_big) (hl : (own, index, y, host) ∈ lw_nest)
    (hdp : dp' + 1 ≤ dp ∧ maxL ≤ 31) (hst : st = As.reverse ++ rest) (hrest : (rest.map fun v => v.category).sum ≤ 8) (kk : ∀ (r : Int32) (σ2 : x_S) (τ2 : x_L), Q2 r σ2 τ2 → V σ2 τ2 (pc + 3) lv (.int r :: rest)) : V σ τ pc lv st :=
  x_callSN X rest hd hM hc hi hl hdp hst hrest (fun v σ2 τ2 h => by obtain ⟨r, rfl, h⟩ := h; exact kk r σ2 τ2 h)
theorem x_callSNl (X : x_Is V cc nL own ret ad ds dp P) {index : Nat} {host : String} {y : MethodName} {bytes : ByteArray} {maxL : Nat} {ret' : Option FieldType} {dp' : Nat} (As : List Value) {Q2 : Int64 → x_S → x_L → Prop} (rest : List Value)
    (hd : decode cc pc = .ok (.invokestatic index, 3)) (hM : x_Met y bytes maxL ret' dp' ad ds As σ τ (x_PJ Q2)) (hc : x_CM y bytes maxL ret' As.length) (hi : Cond.static y ∈ lw_big) (hl : (own, index, y, host) ∈ lw_nest)
    (hdp : dp' + 1 ≤ dp ∧ maxL ≤ 31) (hst : st = As.reverse ++ rest) (hrest : (rest.map fun v => v.category).sum ≤ 8) (kk : ∀ (r : Int64) (σ2 : x_S) (τ2 : x_L), Q2 r σ2 τ2 → V σ2 τ2 (pc + 3) lv (.long r :: rest)) : V σ τ pc lv st :=
  x_callSN X rest hd hM hc hi hl hdp hst hrest (fun v σ2 τ2 h => by obtain ⟨r, rfl, h⟩ := h; exact kk r σ2 τ2 h)
theorem x_callSNf (X : x_Is V cc nL own ret ad ds dp P) {index : Nat} {host : String} {y : MethodName} {bytes : ByteArray} {maxL : Nat} {ret' : Option FieldType} {dp' : Nat} (As : List Value) {Q2 : UInt32 → x_S → x_L → Prop} (rest : List Value)
    (hd : decode cc pc = .ok (.invokestatic index, 3)) (hM : x_Met y bytes maxL ret' dp' ad ds As σ τ (x_PF Q2)) (hc : x_CM y bytes maxL ret' As.length) (hi : Cond.static y ∈ lw_big) (hl : (own, index, y, host) ∈ lw_nest)
    (hdp : dp' + 1 ≤ dp ∧ maxL ≤ 31) (hst : st = As.reverse ++ rest) (hrest : (rest.map fun v => v.category).sum ≤ 8) (kk : ∀ (r : UInt32) (σ2 : x_S) (τ2 : x_L), Q2 r σ2 τ2 → V σ2 τ2 (pc + 3) lv (.float r :: rest)) : V σ τ pc lv st :=
  x_callSN X rest hd hM hc hi hl hdp hst hrest (fun v σ2 τ2 h => by obtain ⟨r, rfl, h⟩ := h; exact kk r σ2 τ2 h)
theorem x_callSNv (X : x_Is V cc nL own ret ad ds dp P) {index : Nat} {host : String} {y : MethodName} {bytes : ByteArray} {maxL : Nat} {ret' : Option FieldType} {dp' : Nat} (As : List Value) {Q2 : x_S → x_L → Prop} (rest : List Value)
    (hd : decode cc pc = .ok (.invokestatic index, 3)) (hM : x_Met y bytes maxL ret' dp' ad ds As σ τ (x_PV Q2)) (hc : x_CM y bytes maxL ret' As.length) (hi : Cond.static y ∈ lw_big) (hl : (own, index, y, host) ∈ lw_nest)
    (hdp : dp' + 1 ≤ dp ∧ maxL ≤ 31) (hst : st = As.reverse ++ rest) (hrest : (rest.map fun v => v.category).sum ≤ 8) (kk : ∀ (σ2 : x_S) (τ2 : x_L), Q2 σ2 τ2 → V σ2 τ2 (pc + 3) lv rest) : V σ τ pc lv st :=
  x_callSN X rest hd hM hc hi hl hdp hst hrest (fun v σ2 τ2 h => by obtain ⟨rfl, h⟩ := h; exact kk σ2 τ2 h)
end XS
theorem kb_m3 : (Int8.ofInt (-3)).toInt32 = (-3) := by decide
theorem kb_m2 : (Int8.ofInt (-2)).toInt32 = (-2) := by decide
theorem kb_6 : (Int8.ofInt (6)).toInt32 = (6) := by decide
theorem kb_8 : (Int8.ofInt (8)).toInt32 = (8) := by decide
theorem kb_9 : (Int8.ofInt (9)).toInt32 = (9) := by decide
theorem kb_10 : (Int8.ofInt (10)).toInt32 = (10) := by decide
theorem kb_11 : (Int8.ofInt (11)).toInt32 = (11) := by decide
theorem kb_12 : (Int8.ofInt (12)).toInt32 = (12) := by decide
theorem kb_14 : (Int8.ofInt (14)).toInt32 = (14) := by decide
theorem kb_15 : (Int8.ofInt (15)).toInt32 = (15) := by decide
theorem kb_16 : (Int8.ofInt (16)).toInt32 = (16) := by decide
theorem kb_18 : (Int8.ofInt (18)).toInt32 = (18) := by decide
theorem kb_19 : (Int8.ofInt (19)).toInt32 = (19) := by decide
theorem kb_20 : (Int8.ofInt (20)).toInt32 = (20) := by decide
theorem kb_23 : (Int8.ofInt (23)).toInt32 = (23) := by decide
theorem kb_24 : (Int8.ofInt (24)).toInt32 = (24) := by decide
theorem kb_30 : (Int8.ofInt (30)).toInt32 = (30) := by decide
theorem kb_31 : (Int8.ofInt (31)).toInt32 = (31) := by decide
theorem kb_32 : (Int8.ofInt (32)).toInt32 = (32) := by decide
theorem kb_40 : (Int8.ofInt (40)).toInt32 = (40) := by decide
theorem kb_42 : (Int8.ofInt (42)).toInt32 = (42) := by decide
theorem kb_45 : (Int8.ofInt (45)).toInt32 = (45) := by decide
theorem kb_48 : (Int8.ofInt (48)).toInt32 = (48) := by decide
theorem kb_50 : (Int8.ofInt (50)).toInt32 = (50) := by decide
theorem kb_57 : (Int8.ofInt (57)).toInt32 = (57) := by decide
theorem kb_59 : (Int8.ofInt (59)).toInt32 = (59) := by decide
theorem kb_60 : (Int8.ofInt (60)).toInt32 = (60) := by decide
theorem kb_63 : (Int8.ofInt (63)).toInt32 = (63) := by decide
theorem kb_80 : (Int8.ofInt (80)).toInt32 = (80) := by decide
theorem kb_90 : (Int8.ofInt (90)).toInt32 = (90) := by decide
theorem kb_97 : (Int8.ofInt (97)).toInt32 = (97) := by decide
theorem kb_99 : (Int8.ofInt (99)).toInt32 = (99) := by decide
theorem kb_100 : (Int8.ofInt (100)).toInt32 = (100) := by decide
theorem kb_101 : (Int8.ofInt (101)).toInt32 = (101) := by decide
theorem kb_103 : (Int8.ofInt (103)).toInt32 = (103) := by decide
theorem kb_104 : (Int8.ofInt (104)).toInt32 = (104) := by decide
theorem kb_105 : (Int8.ofInt (105)).toInt32 = (105) := by decide
theorem kb_107 : (Int8.ofInt (107)).toInt32 = (107) := by decide
theorem kb_108 : (Int8.ofInt (108)).toInt32 = (108) := by decide
theorem kb_109 : (Int8.ofInt (109)).toInt32 = (109) := by decide
theorem kb_111 : (Int8.ofInt (111)).toInt32 = (111) := by decide
theorem kb_112 : (Int8.ofInt (112)).toInt32 = (112) := by decide
theorem kb_114 : (Int8.ofInt (114)).toInt32 = (114) := by decide
theorem kb_115 : (Int8.ofInt (115)).toInt32 = (115) := by decide
theorem kb_116 : (Int8.ofInt (116)).toInt32 = (116) := by decide
theorem kb_117 : (Int8.ofInt (117)).toInt32 = (117) := by decide
theorem kb_119 : (Int8.ofInt (119)).toInt32 = (119) := by decide
theorem kb_120 : (Int8.ofInt (120)).toInt32 = (120) := by decide
theorem kb_121 : (Int8.ofInt (121)).toInt32 = (121) := by decide
theorem kb_122 : (Int8.ofInt (122)).toInt32 = (122) := by decide
theorem kb_127 : (Int8.ofInt (127)).toInt32 = (127) := by decide
theorem ks_130 : (Int16.ofInt (130)).toInt32 = (130) := by decide
theorem ks_132 : (Int16.ofInt (132)).toInt32 = (132) := by decide
theorem ks_150 : (Int16.ofInt (150)).toInt32 = (150) := by decide
theorem ks_252 : (Int16.ofInt (252)).toInt32 = (252) := by decide
theorem ks_255 : (Int16.ofInt (255)).toInt32 = (255) := by decide
theorem ks_290 : (Int16.ofInt (290)).toInt32 = (290) := by decide
theorem ks_291 : (Int16.ofInt (291)).toInt32 = (291) := by decide
theorem ks_292 : (Int16.ofInt (292)).toInt32 = (292) := by decide
theorem ks_300 : (Int16.ofInt (300)).toInt32 = (300) := by decide
theorem ks_580 : (Int16.ofInt (580)).toInt32 = (580) := by decide
theorem ks_720 : (Int16.ofInt (720)).toInt32 = (720) := by decide
theorem ks_1000 : (Int16.ofInt (1000)).toInt32 = (1000) := by decide
theorem ks_1440 : (Int16.ofInt (1440)).toInt32 = (1440) := by decide
theorem ks_1500 : (Int16.ofInt (1500)).toInt32 = (1500) := by decide
theorem ks_2000 : (Int16.ofInt (2000)).toInt32 = (2000) := by decide
theorem ks_4788 : (Int16.ofInt (4788)).toInt32 = (4788) := by decide
theorem ks_10000 : (Int16.ofInt (10000)).toInt32 = (10000) := by decide
theorem ks_20000 : (Int16.ofInt (20000)).toInt32 = (20000) := by decide
theorem ki_m1 : Int32.ofInt (-1) = (-1) := by decide
theorem ki_0 : Int32.ofInt (0) = (0) := by decide
theorem ki_1 : Int32.ofInt (1) = (1) := by decide
theorem ki_2 : Int32.ofInt (2) = (2) := by decide
theorem ki_3 : Int32.ofInt (3) = (3) := by decide
theorem ki_4 : Int32.ofInt (4) = (4) := by decide
theorem ki_5 : Int32.ofInt (5) = (5) := by decide
theorem ki_m300 : Int32.ofInt (-300) = (-300) := by decide
theorem ki_m8 : Int32.ofInt (-8) = (-8) := by decide
theorem ki_6 : Int32.ofInt (6) = (6) := by decide
theorem fl_10_12 : x_FL RX10 12 12 0 := ⟨RX10, TX10, 12, RX10, rfl, by decide, inB10, w_2_140, rfl⟩
theorem fl_10_19 : x_FL RX10 19 12 1 := ⟨RX10, TX10, 12, RX10, rfl, by decide, inB10, w_2_141, rfl⟩
theorem fl_10_26 : x_FL RX10 26 12 2 := ⟨RX10, TX10, 12, RX10, rfl, by decide, inB10, w_2_142, rfl⟩
theorem fl_10_33 : x_FL RX10 33 12 3 := ⟨RX10, TX10, 12, RX10, rfl, by decide, inB10, w_2_143, rfl⟩
theorem fl_10_42 : x_FL RX10 42 12 4 := ⟨RX10, TX10, 12, RX10, rfl, by decide, inB10, w_2_144, rfl⟩
theorem fl_10_51 : x_FL RX10 51 12 5 := ⟨RX10, TX10, 12, RX10, rfl, by decide, inB10, w_2_145, rfl⟩
theorem fl_10_55 : x_FL RX10 55 12 6 := ⟨RX10, TX10, 12, RX10, rfl, by decide, inB10, w_2_146, rfl⟩
theorem fl_10_63 : x_FL RX10 63 12 7 := ⟨RX10, TX10, 12, RX10, rfl, by decide, inB10, w_2_147, rfl⟩
theorem fl_10_72 : x_FL RX10 72 12 8 := ⟨RX10, TX10, 12, RX10, rfl, by decide, inB10, w_2_148, rfl⟩
theorem fl_10_79 : x_FL RX10 79 12 9 := ⟨RX10, TX10, 12, RX10, rfl, by decide, inB10, w_2_149, rfl⟩
theorem fl_10_86 : x_FL RX10 86 12 10 := ⟨RX10, TX10, 12, RX10, rfl, by decide, inB10, w_2_150, rfl⟩
theorem fl_10_90 : x_FL RX10 90 12 11 := ⟨RX10, TX10, 12, RX10, rfl, by decide, inB10, w_2_151, rfl⟩
theorem fl_10_94 : x_FL RX10 94 11 1 := ⟨RX9, TX9, 8, RX9, rfl, by decide, inB9, w_1_45, rfl⟩
theorem fl_10_109 : x_FL RX10 109 5 0 := ⟨RX3, TX3, 1, RX3, rfl, by decide, inB3, w_1_161, rfl⟩
theorem fl_10_127 : x_FL RX10 127 3 5 := ⟨RX1, TX1, 11, RX1, rfl, by decide, inB1, w_1_105, rfl⟩
theorem fl_10_130 : x_FL RX10 130 11 2 := ⟨RX9, TX9, 8, RX9, rfl, by decide, inB9, w_1_47, rfl⟩
theorem fl_10_133 : x_FL RX10 133 11 3 := ⟨RX9, TX9, 8, RX9, rfl, by decide, inB9, w_1_49, rfl⟩
theorem fl_10_136 : x_FL RX10 136 3 0 := ⟨RX1, TX1, 11, RX1, rfl, by decide, inB1, w_1_86, rfl⟩
theorem fl_10_155 : x_FL RX10 155 8 14 := ⟨RX6, TX6, 15, RX6, rfl, by decide, inB6, w_2_11, rfl⟩
theorem fl_10_165 : x_FL RX10 165 4 2 := ⟨RX2, TX2, 5, RX2, rfl, by decide, inB2, w_2_110, rfl⟩
theorem fl_10_171 : x_FL RX10 171 8 7 := ⟨RX6, TX6, 15, RX6, rfl, by decide, inB6, w_1_237, rfl⟩
theorem fl_10_174 : x_FL RX10 174 8 9 := ⟨RX6, TX6, 15, RX6, rfl, by decide, inB6, w_2_1, rfl⟩
theorem fl_10_192 : x_FL RX10 192 3 1 := ⟨RX1, TX1, 11, RX1, rfl, by decide, inB1, w_1_89, rfl⟩
theorem fl_10_195 : x_FL RX10 195 3 2 := ⟨RX1, TX1, 11, RX1, rfl, by decide, inB1, w_1_92, rfl⟩
theorem fl_10_198 : x_FL RX10 198 3 3 := ⟨RX1, TX1, 11, RX1, rfl, by decide, inB1, w_1_95, rfl⟩
theorem fl_10_200 : x_FL RX10 200 3 4 := ⟨RX1, TX1, 11, RX1, rfl, by decide, inB1, w_1_100, rfl⟩
theorem fl_10_212 : x_FL RX10 212 8 2 := ⟨RX6, TX6, 15, RX6, rfl, by decide, inB6, w_1_224, rfl⟩
theorem fl_10_215 : x_FL RX10 215 3 7 := ⟨RX1, TX1, 11, RX1, rfl, by decide, inB1, w_1_111, rfl⟩
theorem fl_10_218 : x_FL RX10 218 3 8 := ⟨RX1, TX1, 11, RX1, rfl, by decide, inB1, w_1_115, rfl⟩
theorem fl_10_221 : x_FL RX10 221 3 9 := ⟨RX1, TX1, 11, RX1, rfl, by decide, inB1, w_1_121, rfl⟩
theorem fl_10_246 : x_FL RX10 246 3 10 := ⟨RX1, TX1, 11, RX1, rfl, by decide, inB1, w_1_127, rfl⟩
theorem fl_10_249 : x_FL RX10 249 8 3 := ⟨RX6, TX6, 15, RX6, rfl, by decide, inB6, w_1_227, rfl⟩
theorem fl_10_252 : x_FL RX10 252 8 4 := ⟨RX6, TX6, 15, RX6, rfl, by decide, inB6, w_1_230, rfl⟩
theorem fl_10_258 : x_FL RX10 258 8 5 := ⟨RX6, TX6, 15, RX6, rfl, by decide, inB6, w_1_232, rfl⟩
theorem fl_10_261 : x_FL RX10 261 8 6 := ⟨RX6, TX6, 15, RX6, rfl, by decide, inB6, w_1_234, rfl⟩
theorem fl_10_267 : x_FL RX10 267 8 12 := ⟨RX6, TX6, 15, RX6, rfl, by decide, inB6, w_2_7, rfl⟩
theorem fl_10_273 : x_FL RX10 273 8 13 := ⟨RX6, TX6, 15, RX6, rfl, by decide, inB6, w_2_9, rfl⟩
theorem fl_10_277 : x_FL RX10 277 8 11 := ⟨RX6, TX6, 15, RX6, rfl, by decide, inB6, w_2_5, rfl⟩
theorem fl_10_280 : x_FL RX10 280 8 8 := ⟨RX6, TX6, 15, RX6, rfl, by decide, inB6, w_1_239, rfl⟩
theorem fl_10_283 : x_FL RX10 283 8 10 := ⟨RX6, TX6, 15, RX6, rfl, by decide, inB6, w_2_3, rfl⟩
theorem fl_10_301 : x_FL RX10 301 9 3 := ⟨RX7, TX7, 6, RX7, rfl, by decide, inB7, w_1_197, rfl⟩
theorem fl_10_318 : x_FL RX10 318 6 4 := ⟨RX4, TX4, 7, RX4, rfl, by decide, inB4, w_2_55, rfl⟩
theorem fl_10_321 : x_FL RX10 321 6 5 := ⟨RX4, TX4, 7, RX4, rfl, by decide, inB4, w_2_57, rfl⟩
theorem fl_10_324 : x_FL RX10 324 6 6 := ⟨RX4, TX4, 7, RX4, rfl, by decide, inB4, w_2_59, rfl⟩
theorem fl_10_383 : x_FL RX10 383 9 2 := ⟨RX7, TX7, 6, RX7, rfl, by decide, inB7, w_1_193, rfl⟩
theorem fl_10_394 : x_FL RX10 394 2 4 := ⟨RX0, TX0, 5, RX0, rfl, by decide, inB0, w_2_87, rfl⟩
theorem fl_10_401 : x_FL RX10 401 2 3 := ⟨RX0, TX0, 5, RX0, rfl, by decide, inB0, w_2_85, rfl⟩
theorem fl_10_420 : x_FL RX10 420 7 1 := ⟨RX5, TX5, 2, RX5, rfl, by decide, inB5, w_2_134, rfl⟩
theorem fl_10_427 : x_FL RX10 427 7 0 := ⟨RX5, TX5, 2, RX5, rfl, by decide, inB5, w_2_132, rfl⟩
theorem fl_10_432 : x_FL RX10 432 10 0 := ⟨RX8, TX8, 3, RX8, rfl, by decide, inB8, w_1_172, rfl⟩
theorem fl_10_464 : x_FL RX10 464 4 4 := ⟨RX2, TX2, 5, RX2, rfl, by decide, inB2, w_2_113, rfl⟩
theorem fl_0_9 : x_FL RX0 9 2 1 := ⟨RX0, TX0, 5, RX0, rfl, by decide, inB0, w_2_82, rfl⟩
theorem fl_0_15 : x_FL RX0 15 2 2 := ⟨RX0, TX0, 5, RX0, rfl, by decide, inB0, w_2_83, rfl⟩
theorem fl_0_19 : x_FL RX0 19 2 3 := ⟨RX0, TX0, 5, RX0, rfl, by decide, inB0, w_2_84, rfl⟩
theorem fl_0_22 : x_FL RX0 22 2 4 := ⟨RX0, TX0, 5, RX0, rfl, by decide, inB0, w_2_86, rfl⟩
theorem fl_0_25 : x_FL RX0 25 2 0 := ⟨RX0, TX0, 5, RX0, rfl, by decide, inB0, w_2_81, rfl⟩
theorem fl_0_55 : x_FL RX0 55 8 7 := ⟨RX6, TX6, 15, RX6, rfl, by decide, inB6, w_1_236, rfl⟩
theorem fl_1_9 : x_FL RX1 9 3 0 := ⟨RX1, TX1, 11, RX1, rfl, by decide, inB1, w_1_82, rfl⟩
theorem fl_1_15 : x_FL RX1 15 3 1 := ⟨RX1, TX1, 11, RX1, rfl, by decide, inB1, w_1_87, rfl⟩
theorem fl_1_19 : x_FL RX1 19 3 2 := ⟨RX1, TX1, 11, RX1, rfl, by decide, inB1, w_1_90, rfl⟩
theorem fl_1_22 : x_FL RX1 22 3 3 := ⟨RX1, TX1, 11, RX1, rfl, by decide, inB1, w_1_93, rfl⟩
theorem fl_1_25 : x_FL RX1 25 3 4 := ⟨RX1, TX1, 11, RX1, rfl, by decide, inB1, w_1_97, rfl⟩
theorem fl_1_28 : x_FL RX1 28 3 5 := ⟨RX1, TX1, 11, RX1, rfl, by decide, inB1, w_1_101, rfl⟩
theorem fl_1_31 : x_FL RX1 31 3 6 := ⟨RX1, TX1, 11, RX1, rfl, by decide, inB1, w_1_106, rfl⟩
theorem fl_1_34 : x_FL RX1 34 3 7 := ⟨RX1, TX1, 11, RX1, rfl, by decide, inB1, w_1_109, rfl⟩
theorem fl_1_37 : x_FL RX1 37 3 8 := ⟨RX1, TX1, 11, RX1, rfl, by decide, inB1, w_1_113, rfl⟩
theorem fl_1_40 : x_FL RX1 40 3 9 := ⟨RX1, TX1, 11, RX1, rfl, by decide, inB1, w_1_117, rfl⟩
theorem fl_1_43 : x_FL RX1 43 3 10 := ⟨RX1, TX1, 11, RX1, rfl, by decide, inB1, w_1_122, rfl⟩
theorem fl_2_13 : x_FL RX2 13 4 0 := ⟨RX2, TX2, 5, RX2, rfl, by decide, inB2, w_2_107, rfl⟩
theorem fl_2_16 : x_FL RX2 16 4 1 := ⟨RX2, TX2, 5, RX2, rfl, by decide, inB2, w_2_108, rfl⟩
theorem fl_2_20 : x_FL RX2 20 4 2 := ⟨RX2, TX2, 5, RX2, rfl, by decide, inB2, w_2_109, rfl⟩
theorem fl_2_23 : x_FL RX2 23 4 3 := ⟨RX2, TX2, 5, RX2, rfl, by decide, inB2, w_2_111, rfl⟩
theorem fl_2_26 : x_FL RX2 26 4 4 := ⟨RX2, TX2, 5, RX2, rfl, by decide, inB2, w_2_112, rfl⟩
theorem fl_3_12 : x_FL RX3 12 5 0 := ⟨RX3, TX3, 1, RX3, rfl, by decide, inB3, w_1_160, rfl⟩
theorem fl_3_18 : x_FL RX3 18 3 0 := ⟨RX1, TX1, 11, RX1, rfl, by decide, inB1, w_1_83, rfl⟩
theorem fl_3_22 : x_FL RX3 22 3 5 := ⟨RX1, TX1, 11, RX1, rfl, by decide, inB1, w_1_103, rfl⟩
theorem fl_3_30 : x_FL RX3 30 11 4 := ⟨RX9, TX9, 8, RX9, rfl, by decide, inB9, w_1_51, rfl⟩
theorem fl_3_56 : x_FL RX3 56 3 1 := ⟨RX1, TX1, 11, RX1, rfl, by decide, inB1, w_1_88, rfl⟩
theorem fl_3_60 : x_FL RX3 60 11 7 := ⟨RX9, TX9, 8, RX9, rfl, by decide, inB9, w_1_56, rfl⟩
theorem fl_3_63 : x_FL RX3 63 3 2 := ⟨RX1, TX1, 11, RX1, rfl, by decide, inB1, w_1_91, rfl⟩
theorem fl_3_66 : x_FL RX3 66 3 3 := ⟨RX1, TX1, 11, RX1, rfl, by decide, inB1, w_1_94, rfl⟩
theorem fl_3_69 : x_FL RX3 69 3 4 := ⟨RX1, TX1, 11, RX1, rfl, by decide, inB1, w_1_99, rfl⟩
theorem fl_3_76 : x_FL RX3 76 3 6 := ⟨RX1, TX1, 11, RX1, rfl, by decide, inB1, w_1_108, rfl⟩
theorem fl_3_79 : x_FL RX3 79 3 7 := ⟨RX1, TX1, 11, RX1, rfl, by decide, inB1, w_1_110, rfl⟩
theorem fl_3_82 : x_FL RX3 82 3 8 := ⟨RX1, TX1, 11, RX1, rfl, by decide, inB1, w_1_114, rfl⟩
theorem fl_3_88 : x_FL RX3 88 3 9 := ⟨RX1, TX1, 11, RX1, rfl, by decide, inB1, w_1_120, rfl⟩
theorem fl_3_91 : x_FL RX3 91 3 10 := ⟨RX1, TX1, 11, RX1, rfl, by decide, inB1, w_1_126, rfl⟩
theorem fl_4_9 : x_FL RX4 9 6 4 := ⟨RX4, TX4, 7, RX4, rfl, by decide, inB4, w_2_54, rfl⟩
theorem fl_4_15 : x_FL RX4 15 6 5 := ⟨RX4, TX4, 7, RX4, rfl, by decide, inB4, w_2_56, rfl⟩
theorem fl_4_18 : x_FL RX4 18 6 6 := ⟨RX4, TX4, 7, RX4, rfl, by decide, inB4, w_2_58, rfl⟩
theorem fl_4_21 : x_FL RX4 21 6 0 := ⟨RX4, TX4, 7, RX4, rfl, by decide, inB4, w_2_50, rfl⟩
theorem fl_4_25 : x_FL RX4 25 6 1 := ⟨RX4, TX4, 7, RX4, rfl, by decide, inB4, w_2_51, rfl⟩
theorem fl_4_29 : x_FL RX4 29 6 2 := ⟨RX4, TX4, 7, RX4, rfl, by decide, inB4, w_2_52, rfl⟩
theorem fl_4_33 : x_FL RX4 33 6 3 := ⟨RX4, TX4, 7, RX4, rfl, by decide, inB4, w_2_53, rfl⟩
theorem fl_4_36 : x_FL RX4 36 3 9 := ⟨RX1, TX1, 11, RX1, rfl, by decide, inB1, w_1_118, rfl⟩
theorem fl_4_46 : x_FL RX4 46 9 3 := ⟨RX7, TX7, 6, RX7, rfl, by decide, inB7, w_1_195, rfl⟩
theorem fl_4_51 : x_FL RX4 51 3 10 := ⟨RX1, TX1, 11, RX1, rfl, by decide, inB1, w_1_123, rfl⟩
theorem fl_4_88 : x_FL RX4 88 8 4 := ⟨RX6, TX6, 15, RX6, rfl, by decide, inB6, w_1_229, rfl⟩
theorem fl_4_94 : x_FL RX4 94 8 3 := ⟨RX6, TX6, 15, RX6, rfl, by decide, inB6, w_1_226, rfl⟩
theorem fl_5_11 : x_FL RX5 11 7 0 := ⟨RX5, TX5, 2, RX5, rfl, by decide, inB5, w_2_131, rfl⟩
theorem fl_5_15 : x_FL RX5 15 7 1 := ⟨RX5, TX5, 2, RX5, rfl, by decide, inB5, w_2_133, rfl⟩
theorem fl_6_9 : x_FL RX6 9 8 2 := ⟨RX6, TX6, 15, RX6, rfl, by decide, inB6, w_1_223, rfl⟩
theorem fl_6_15 : x_FL RX6 15 8 3 := ⟨RX6, TX6, 15, RX6, rfl, by decide, inB6, w_1_225, rfl⟩
theorem fl_6_18 : x_FL RX6 18 8 4 := ⟨RX6, TX6, 15, RX6, rfl, by decide, inB6, w_1_228, rfl⟩
theorem fl_6_21 : x_FL RX6 21 8 5 := ⟨RX6, TX6, 15, RX6, rfl, by decide, inB6, w_1_231, rfl⟩
theorem fl_6_24 : x_FL RX6 24 8 6 := ⟨RX6, TX6, 15, RX6, rfl, by decide, inB6, w_1_233, rfl⟩
theorem fl_6_27 : x_FL RX6 27 8 7 := ⟨RX6, TX6, 15, RX6, rfl, by decide, inB6, w_1_235, rfl⟩
theorem fl_6_30 : x_FL RX6 30 8 8 := ⟨RX6, TX6, 15, RX6, rfl, by decide, inB6, w_1_238, rfl⟩
theorem fl_6_33 : x_FL RX6 33 8 9 := ⟨RX6, TX6, 15, RX6, rfl, by decide, inB6, w_2_0, rfl⟩
theorem fl_6_36 : x_FL RX6 36 8 10 := ⟨RX6, TX6, 15, RX6, rfl, by decide, inB6, w_2_2, rfl⟩
theorem fl_6_39 : x_FL RX6 39 8 11 := ⟨RX6, TX6, 15, RX6, rfl, by decide, inB6, w_2_4, rfl⟩
theorem fl_6_42 : x_FL RX6 42 8 12 := ⟨RX6, TX6, 15, RX6, rfl, by decide, inB6, w_2_6, rfl⟩
theorem fl_6_45 : x_FL RX6 45 8 13 := ⟨RX6, TX6, 15, RX6, rfl, by decide, inB6, w_2_8, rfl⟩
theorem fl_6_49 : x_FL RX6 49 8 14 := ⟨RX6, TX6, 15, RX6, rfl, by decide, inB6, w_2_10, rfl⟩
theorem fl_6_53 : x_FL RX6 53 8 0 := ⟨RX6, TX6, 15, RX6, rfl, by decide, inB6, w_1_221, rfl⟩
theorem fl_6_57 : x_FL RX6 57 8 1 := ⟨RX6, TX6, 15, RX6, rfl, by decide, inB6, w_1_222, rfl⟩
theorem fl_6_61 : x_FL RX6 61 3 6 := ⟨RX1, TX1, 11, RX1, rfl, by decide, inB1, w_1_107, rfl⟩
theorem fl_6_72 : x_FL RX6 72 3 5 := ⟨RX1, TX1, 11, RX1, rfl, by decide, inB1, w_1_104, rfl⟩
theorem fl_6_75 : x_FL RX6 75 9 3 := ⟨RX7, TX7, 6, RX7, rfl, by decide, inB7, w_1_196, rfl⟩
theorem fl_6_80 : x_FL RX6 80 3 4 := ⟨RX1, TX1, 11, RX1, rfl, by decide, inB1, w_1_98, rfl⟩
theorem fl_6_83 : x_FL RX6 83 3 10 := ⟨RX1, TX1, 11, RX1, rfl, by decide, inB1, w_1_124, rfl⟩
theorem fl_6_92 : x_FL RX6 92 9 1 := ⟨RX7, TX7, 6, RX7, rfl, by decide, inB7, w_1_190, rfl⟩
theorem fl_6_102 : x_FL RX6 102 3 0 := ⟨RX1, TX1, 11, RX1, rfl, by decide, inB1, w_1_85, rfl⟩
theorem fl_6_105 : x_FL RX6 105 9 2 := ⟨RX7, TX7, 6, RX7, rfl, by decide, inB7, w_1_192, rfl⟩
theorem fl_6_150 : x_FL RX6 150 3 8 := ⟨RX1, TX1, 11, RX1, rfl, by decide, inB1, w_1_116, rfl⟩
theorem fl_6_153 : x_FL RX6 153 9 4 := ⟨RX7, TX7, 6, RX7, rfl, by decide, inB7, w_1_199, rfl⟩
theorem fl_6_162 : x_FL RX6 162 3 7 := ⟨RX1, TX1, 11, RX1, rfl, by decide, inB1, w_1_112, rfl⟩
theorem fl_6_165 : x_FL RX6 165 3 3 := ⟨RX1, TX1, 11, RX1, rfl, by decide, inB1, w_1_96, rfl⟩
theorem fl_7_9 : x_FL RX7 9 9 1 := ⟨RX7, TX7, 6, RX7, rfl, by decide, inB7, w_1_189, rfl⟩
theorem fl_7_15 : x_FL RX7 15 9 2 := ⟨RX7, TX7, 6, RX7, rfl, by decide, inB7, w_1_191, rfl⟩
theorem fl_7_18 : x_FL RX7 18 9 3 := ⟨RX7, TX7, 6, RX7, rfl, by decide, inB7, w_1_194, rfl⟩
theorem fl_7_21 : x_FL RX7 21 9 4 := ⟨RX7, TX7, 6, RX7, rfl, by decide, inB7, w_1_198, rfl⟩
theorem fl_7_24 : x_FL RX7 24 9 5 := ⟨RX7, TX7, 6, RX7, rfl, by decide, inB7, w_1_200, rfl⟩
theorem fl_7_28 : x_FL RX7 28 9 0 := ⟨RX7, TX7, 6, RX7, rfl, by decide, inB7, w_1_188, rfl⟩
theorem fl_7_32 : x_FL RX7 32 3 5 := ⟨RX1, TX1, 11, RX1, rfl, by decide, inB1, w_1_102, rfl⟩
theorem fl_7_38 : x_FL RX7 38 3 9 := ⟨RX1, TX1, 11, RX1, rfl, by decide, inB1, w_1_119, rfl⟩
theorem fl_7_55 : x_FL RX7 55 3 0 := ⟨RX1, TX1, 11, RX1, rfl, by decide, inB1, w_1_84, rfl⟩
theorem fl_7_58 : x_FL RX7 58 3 10 := ⟨RX1, TX1, 11, RX1, rfl, by decide, inB1, w_1_125, rfl⟩
theorem fl_8_9 : x_FL RX8 9 10 0 := ⟨RX8, TX8, 3, RX8, rfl, by decide, inB8, w_1_171, rfl⟩
theorem fl_8_15 : x_FL RX8 15 10 1 := ⟨RX8, TX8, 3, RX8, rfl, by decide, inB8, w_1_173, rfl⟩
theorem fl_8_19 : x_FL RX8 19 10 2 := ⟨RX8, TX8, 3, RX8, rfl, by decide, inB8, w_1_174, rfl⟩
theorem fl_8_27 : x_FL RX8 27 11 4 := ⟨RX9, TX9, 8, RX9, rfl, by decide, inB9, w_1_52, rfl⟩
theorem fl_8_76 : x_FL RX8 76 11 7 := ⟨RX9, TX9, 8, RX9, rfl, by decide, inB9, w_1_57, rfl⟩
theorem fl_9_11 : x_FL RX9 11 11 0 := ⟨RX9, TX9, 8, RX9, rfl, by decide, inB9, w_1_43, rfl⟩
theorem fl_9_15 : x_FL RX9 15 11 1 := ⟨RX9, TX9, 8, RX9, rfl, by decide, inB9, w_1_44, rfl⟩
theorem fl_9_19 : x_FL RX9 19 11 2 := ⟨RX9, TX9, 8, RX9, rfl, by decide, inB9, w_1_46, rfl⟩
theorem fl_9_22 : x_FL RX9 22 11 3 := ⟨RX9, TX9, 8, RX9, rfl, by decide, inB9, w_1_48, rfl⟩
theorem fl_9_25 : x_FL RX9 25 11 4 := ⟨RX9, TX9, 8, RX9, rfl, by decide, inB9, w_1_50, rfl⟩
theorem fl_9_28 : x_FL RX9 28 11 5 := ⟨RX9, TX9, 8, RX9, rfl, by decide, inB9, w_1_53, rfl⟩
theorem fl_9_31 : x_FL RX9 31 11 6 := ⟨RX9, TX9, 8, RX9, rfl, by decide, inB9, w_1_54, rfl⟩
theorem fl_9_34 : x_FL RX9 34 11 7 := ⟨RX9, TX9, 8, RX9, rfl, by decide, inB9, w_1_55, rfl⟩
theorem fl_11_9 : x_FL RX11 9 13 0 := ⟨RX11, TX11, 41, RX11, rfl, by decide, inB11, w_6_190, rfl⟩
theorem fl_11_13 : x_FL RX11 13 13 1 := ⟨RX11, TX11, 41, RX11, rfl, by decide, inB11, w_6_191, rfl⟩
theorem fl_11_17 : x_FL RX11 17 13 4 := ⟨RX11, TX11, 41, RX11, rfl, by decide, inB11, w_6_194, rfl⟩
theorem fl_11_20 : x_FL RX11 20 13 6 := ⟨RX11, TX11, 41, RX11, rfl, by decide, inB11, w_6_196, rfl⟩
theorem fl_11_23 : x_FL RX11 23 13 7 := ⟨RX11, TX11, 41, RX11, rfl, by decide, inB11, w_6_197, rfl⟩
theorem fl_11_26 : x_FL RX11 26 13 8 := ⟨RX11, TX11, 41, RX11, rfl, by decide, inB11, w_6_198, rfl⟩
theorem fl_11_29 : x_FL RX11 29 13 9 := ⟨RX11, TX11, 41, RX11, rfl, by decide, inB11, w_6_199, rfl⟩
theorem fl_11_32 : x_FL RX11 32 13 10 := ⟨RX11, TX11, 41, RX11, rfl, by decide, inB11, w_6_200, rfl⟩
theorem fl_11_35 : x_FL RX11 35 13 11 := ⟨RX11, TX11, 41, RX11, rfl, by decide, inB11, w_6_201, rfl⟩
theorem fl_11_38 : x_FL RX11 38 13 12 := ⟨RX11, TX11, 41, RX11, rfl, by decide, inB11, w_6_202, rfl⟩
theorem fl_11_41 : x_FL RX11 41 13 13 := ⟨RX11, TX11, 41, RX11, rfl, by decide, inB11, w_6_203, rfl⟩
theorem fl_11_44 : x_FL RX11 44 13 14 := ⟨RX11, TX11, 41, RX11, rfl, by decide, inB11, w_6_204, rfl⟩
theorem fl_11_47 : x_FL RX11 47 13 15 := ⟨RX11, TX11, 41, RX11, rfl, by decide, inB11, w_6_205, rfl⟩
theorem fl_11_50 : x_FL RX11 50 13 16 := ⟨RX11, TX11, 41, RX11, rfl, by decide, inB11, w_6_206, rfl⟩
theorem fl_11_53 : x_FL RX11 53 13 22 := ⟨RX11, TX11, 41, RX11, rfl, by decide, inB11, w_6_212, rfl⟩
theorem fl_11_56 : x_FL RX11 56 13 23 := ⟨RX11, TX11, 41, RX11, rfl, by decide, inB11, w_6_213, rfl⟩
theorem fl_11_59 : x_FL RX11 59 13 24 := ⟨RX11, TX11, 41, RX11, rfl, by decide, inB11, w_6_214, rfl⟩
theorem fl_11_62 : x_FL RX11 62 13 25 := ⟨RX11, TX11, 41, RX11, rfl, by decide, inB11, w_6_215, rfl⟩
theorem fl_11_65 : x_FL RX11 65 13 27 := ⟨RX11, TX11, 41, RX11, rfl, by decide, inB11, w_6_217, rfl⟩
theorem fl_11_68 : x_FL RX11 68 13 28 := ⟨RX11, TX11, 41, RX11, rfl, by decide, inB11, w_6_218, rfl⟩
theorem fl_11_71 : x_FL RX11 71 13 30 := ⟨RX11, TX11, 41, RX11, rfl, by decide, inB11, w_6_220, rfl⟩
theorem fl_11_75 : x_FL RX11 75 13 34 := ⟨RX11, TX11, 41, RX11, rfl, by decide, inB11, w_6_224, rfl⟩
theorem fl_11_79 : x_FL RX11 79 13 39 := ⟨RX11, TX11, 41, RX11, rfl, by decide, inB11, w_6_229, rfl⟩
theorem fl_11_82 : x_FL RX11 82 13 5 := ⟨RX11, TX11, 41, RX11, rfl, by decide, inB11, w_6_195, rfl⟩
theorem fl_11_85 : x_FL RX11 85 13 3 := ⟨RX11, TX11, 41, RX11, rfl, by decide, inB11, w_6_193, rfl⟩
theorem fl_11_88 : x_FL RX11 88 13 2 := ⟨RX11, TX11, 41, RX11, rfl, by decide, inB11, w_6_192, rfl⟩
theorem fl_11_223 : x_FL RX11 223 13 17 := ⟨RX11, TX11, 41, RX11, rfl, by decide, inB11, w_6_207, rfl⟩
theorem fl_11_226 : x_FL RX11 226 13 18 := ⟨RX11, TX11, 41, RX11, rfl, by decide, inB11, w_6_208, rfl⟩
theorem fl_11_264 : x_FL RX11 264 13 19 := ⟨RX11, TX11, 41, RX11, rfl, by decide, inB11, w_6_209, rfl⟩
theorem fl_11_267 : x_FL RX11 267 13 20 := ⟨RX11, TX11, 41, RX11, rfl, by decide, inB11, w_6_210, rfl⟩
theorem fl_11_273 : x_FL RX11 273 13 21 := ⟨RX11, TX11, 41, RX11, rfl, by decide, inB11, w_6_211, rfl⟩
theorem fl_11_349 : x_FL RX11 349 13 26 := ⟨RX11, TX11, 41, RX11, rfl, by decide, inB11, w_6_216, rfl⟩
theorem fl_11_374 : x_FL RX11 374 13 29 := ⟨RX11, TX11, 41, RX11, rfl, by decide, inB11, w_6_219, rfl⟩
theorem fl_11_383 : x_FL RX11 383 13 31 := ⟨RX11, TX11, 41, RX11, rfl, by decide, inB11, w_6_221, rfl⟩
theorem fl_11_389 : x_FL RX11 389 13 33 := ⟨RX11, TX11, 41, RX11, rfl, by decide, inB11, w_6_223, rfl⟩
theorem fl_11_400 : x_FL RX11 400 13 32 := ⟨RX11, TX11, 41, RX11, rfl, by decide, inB11, w_6_222, rfl⟩
theorem fl_11_406 : x_FL RX11 406 13 36 := ⟨RX11, TX11, 41, RX11, rfl, by decide, inB11, w_6_226, rfl⟩
theorem fl_11_409 : x_FL RX11 409 13 38 := ⟨RX11, TX11, 41, RX11, rfl, by decide, inB11, w_6_228, rfl⟩
theorem fl_11_419 : x_FL RX11 419 13 35 := ⟨RX11, TX11, 41, RX11, rfl, by decide, inB11, w_6_225, rfl⟩
theorem fl_11_434 : x_FL RX11 434 13 37 := ⟨RX11, TX11, 41, RX11, rfl, by decide, inB11, w_6_227, rfl⟩
theorem fl_11_473 : x_FL RX11 473 13 40 := ⟨RX11, TX11, 41, RX11, rfl, by decide, inB11, w_6_230, rfl⟩
theorem ft_0_2 : x_FT 2 2 .int := ⟨RX0, TX0, 5, tyX0, rfl, tyX0_ok, nmX0, rfl, tyX0_ok 2 (by decide)⟩
theorem ft_0_4 : x_FT 2 4 .int := ⟨RX0, TX0, 5, tyX0, rfl, tyX0_ok, nmX0, rfl, tyX0_ok 4 (by decide)⟩
theorem ft_1_0 : x_FT 3 0 .int := ⟨RX1, TX1, 11, tyX1, rfl, tyX1_ok, nmX1, rfl, tyX1_ok 0 (by decide)⟩
theorem ft_1_5 : x_FT 3 5 .int := ⟨RX1, TX1, 11, tyX1, rfl, tyX1_ok, nmX1, rfl, tyX1_ok 5 (by decide)⟩
theorem ft_2_1 : x_FT 4 1 .int := ⟨RX2, TX2, 5, tyX2, rfl, tyX2_ok, nmX2, rfl, tyX2_ok 1 (by decide)⟩
theorem ft_2_2 : x_FT 4 2 .int := ⟨RX2, TX2, 5, tyX2, rfl, tyX2_ok, nmX2, rfl, tyX2_ok 2 (by decide)⟩
theorem ft_4_4 : x_FT 6 4 .int := ⟨RX4, TX4, 7, tyX4, rfl, tyX4_ok, nmX4, rfl, tyX4_ok 4 (by decide)⟩
theorem ft_4_5 : x_FT 6 5 .int := ⟨RX4, TX4, 7, tyX4, rfl, tyX4_ok, nmX4, rfl, tyX4_ok 5 (by decide)⟩
theorem ft_4_6 : x_FT 6 6 .int := ⟨RX4, TX4, 7, tyX4, rfl, tyX4_ok, nmX4, rfl, tyX4_ok 6 (by decide)⟩
theorem ft_5_1 : x_FT 7 1 .int := ⟨RX5, TX5, 2, tyX5, rfl, tyX5_ok, nmX5, rfl, tyX5_ok 1 (by decide)⟩
theorem ft_6_14 : x_FT 8 14 .int := ⟨RX6, TX6, 15, tyX6, rfl, tyX6_ok, nmX6, rfl, tyX6_ok 14 (by decide)⟩
theorem ft_8_0 : x_FT 10 0 .int := ⟨RX8, TX8, 3, tyX8, rfl, tyX8_ok, nmX8, rfl, tyX8_ok 0 (by decide)⟩
theorem ft_9_1 : x_FT 11 1 .int := ⟨RX9, TX9, 8, tyX9, rfl, tyX9_ok, nmX9, rfl, tyX9_ok 1 (by decide)⟩
theorem ft_9_2 : x_FT 11 2 .int := ⟨RX9, TX9, 8, tyX9, rfl, tyX9_ok, nmX9, rfl, tyX9_ok 2 (by decide)⟩
theorem ft_9_3 : x_FT 11 3 .int := ⟨RX9, TX9, 8, tyX9, rfl, tyX9_ok, nmX9, rfl, tyX9_ok 3 (by decide)⟩
theorem ft_9_4 : x_FT 11 4 .int := ⟨RX9, TX9, 8, tyX9, rfl, tyX9_ok, nmX9, rfl, tyX9_ok 4 (by decide)⟩
theorem ft_9_5 : x_FT 11 5 .int := ⟨RX9, TX9, 8, tyX9, rfl, tyX9_ok, nmX9, rfl, tyX9_ok 5 (by decide)⟩
theorem ft_9_6 : x_FT 11 6 .int := ⟨RX9, TX9, 8, tyX9, rfl, tyX9_ok, nmX9, rfl, tyX9_ok 6 (by decide)⟩
theorem ft_9_7 : x_FT 11 7 .int := ⟨RX9, TX9, 8, tyX9, rfl, tyX9_ok, nmX9, rfl, tyX9_ok 7 (by decide)⟩
theorem ft_11_2 : x_FT 13 2 .int := ⟨RX11, TX11, 41, tyX11, rfl, tyX11_ok, nmX11, rfl, tyX11_ok 2 (by decide)⟩
theorem ft_11_3 : x_FT 13 3 .int := ⟨RX11, TX11, 41, tyX11, rfl, tyX11_ok, nmX11, rfl, tyX11_ok 3 (by decide)⟩
theorem ft_11_5 : x_FT 13 5 .int := ⟨RX11, TX11, 41, tyX11, rfl, tyX11_ok, nmX11, rfl, tyX11_ok 5 (by decide)⟩
theorem ft_11_17 : x_FT 13 17 .int := ⟨RX11, TX11, 41, tyX11, rfl, tyX11_ok, nmX11, rfl, tyX11_ok 17 (by decide)⟩
theorem ft_11_18 : x_FT 13 18 .int := ⟨RX11, TX11, 41, tyX11, rfl, tyX11_ok, nmX11, rfl, tyX11_ok 18 (by decide)⟩
theorem ft_11_19 : x_FT 13 19 .int := ⟨RX11, TX11, 41, tyX11, rfl, tyX11_ok, nmX11, rfl, tyX11_ok 19 (by decide)⟩
theorem ft_11_20 : x_FT 13 20 .int := ⟨RX11, TX11, 41, tyX11, rfl, tyX11_ok, nmX11, rfl, tyX11_ok 20 (by decide)⟩
theorem ft_11_21 : x_FT 13 21 .int := ⟨RX11, TX11, 41, tyX11, rfl, tyX11_ok, nmX11, rfl, tyX11_ok 21 (by decide)⟩
theorem ft_11_26 : x_FT 13 26 .int := ⟨RX11, TX11, 41, tyX11, rfl, tyX11_ok, nmX11, rfl, tyX11_ok 26 (by decide)⟩
theorem ft_11_29 : x_FT 13 29 .int := ⟨RX11, TX11, 41, tyX11, rfl, tyX11_ok, nmX11, rfl, tyX11_ok 29 (by decide)⟩
theorem ft_11_31 : x_FT 13 31 .int := ⟨RX11, TX11, 41, tyX11, rfl, tyX11_ok, nmX11, rfl, tyX11_ok 31 (by decide)⟩
theorem ft_11_32 : x_FT 13 32 .int := ⟨RX11, TX11, 41, tyX11, rfl, tyX11_ok, nmX11, rfl, tyX11_ok 32 (by decide)⟩
theorem ft_11_33 : x_FT 13 33 .int := ⟨RX11, TX11, 41, tyX11, rfl, tyX11_ok, nmX11, rfl, tyX11_ok 33 (by decide)⟩
theorem ft_11_34 : x_FT 13 34 .int := ⟨RX11, TX11, 41, tyX11, rfl, tyX11_ok, nmX11, rfl, tyX11_ok 34 (by decide)⟩
theorem ft_11_35 : x_FT 13 35 .int := ⟨RX11, TX11, 41, tyX11, rfl, tyX11_ok, nmX11, rfl, tyX11_ok 35 (by decide)⟩
theorem ft_11_36 : x_FT 13 36 .int := ⟨RX11, TX11, 41, tyX11, rfl, tyX11_ok, nmX11, rfl, tyX11_ok 36 (by decide)⟩
theorem ft_11_37 : x_FT 13 37 .int := ⟨RX11, TX11, 41, tyX11, rfl, tyX11_ok, nmX11, rfl, tyX11_ok 37 (by decide)⟩
theorem ft_11_38 : x_FT 13 38 .long := ⟨RX11, TX11, 41, tyX11, rfl, tyX11_ok, nmX11, rfl, tyX11_ok 38 (by decide)⟩
theorem ft_11_40 : x_FT 13 40 .int := ⟨RX11, TX11, 41, tyX11, rfl, tyX11_ok, nmX11, rfl, tyX11_ok 40 (by decide)⟩
