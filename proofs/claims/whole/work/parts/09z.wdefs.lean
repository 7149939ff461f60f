/-! what each method asks for, and leads to: printed from the decode rows by wip/whole/gen7.py -/
def wX0_swap (a1 : Int32) (a2 : Int32) (σ : x_S) (τ : x_L) (Q : x_S → x_L → Prop) : Prop :=
  vp_in a1 6 ∧ (vp_in a2 6 ∧ (Q (x_up (x_up σ 61 a1.toNatClampNeg (σ 61 a2.toNatClampNeg)) 61 a2.toNatClampNeg (σ 61 a1.toNatClampNeg)) τ))
def wX0_stepOn_91 (Q : Int32 → x_S → x_L → Prop) (K91 : Int32 → Int32 → x_S → x_L → Prop) (v3 : Int32) (v4 : Int32) (σ : x_S) (τ : x_L) : Prop :=
  (v4 ≤ v3 → Q 1 σ τ) ∧ (¬ v4 ≤ v3 → wX0_swap v3 v4 σ τ (fun σ101 τ101 => K91 (v3 + 1) (v4 + (-1)) σ101 τ101))
def wX0_stepOn_73 (Q : Int32 → x_S → x_L → Prop) (v1 : Int32) (v2 : Int32) (σ : x_S) (τ : x_L) : Prop :=
  wX0_swap v1 v2 σ τ (fun σ76 τ76 => x_l2 (wX0_stepOn_91 Q) (v1 + 1) ((σ76 60 2) - 1) σ76 τ76)
def wX0_stepOn_47 (Q : Int32 → x_S → x_L → Prop) (K47 : Int32 → Int32 → x_S → x_L → Prop) (v1 : Int32) (v2 : Int32) (σ : x_S) (τ : x_L) : Prop :=
  (v2 ≤ v1 → wX0_stepOn_73 Q v1 v2 σ τ) ∧ (¬ v2 ≤ v1 → vp_in v2 6 ∧ (vp_in v1 6 ∧ (((σ 61 v1.toNatClampNeg) ≤ (σ 61 v2.toNatClampNeg) → wX0_stepOn_73 Q v1 v2 σ τ) ∧ (¬ (σ 61 v1.toNatClampNeg) ≤ (σ 61 v2.toNatClampNeg) → K47 v1 (v2 + (-1)) σ τ))))
def wX0_stepOn_34 (Q : Int32 → x_S → x_L → Prop) (v1 : Int32) (σ : x_S) (τ : x_L) : Prop :=
  (0 ≤ v1 → x_l2 (wX0_stepOn_47 Q) v1 ((σ 60 2) - 1) σ τ) ∧ (¬ 0 ≤ v1 → Q 0 σ τ)
def wX0_stepOn_7 (Q : Int32 → x_S → x_L → Prop) (K7 : Int32 → x_S → x_L → Prop) (v1 : Int32) (σ : x_S) (τ : x_L) : Prop :=
  (v1 < 0 → wX0_stepOn_34 Q v1 σ τ) ∧ (¬ v1 < 0 → vp_in v1 6 ∧ (vp_in (v1 + 1) 6 ∧ (((σ 61 v1.toNatClampNeg) ≤ (σ 61 (v1 + 1).toNatClampNeg) → wX0_stepOn_34 Q v1 σ τ) ∧ (¬ (σ 61 v1.toNatClampNeg) ≤ (σ 61 (v1 + 1).toNatClampNeg) → K7 (v1 + (-1)) σ τ))))
def wX0_stepOn (σ : x_S) (τ : x_L) (Q : Int32 → x_S → x_L → Prop) : Prop :=
  x_l1 (wX0_stepOn_7 Q) ((σ 60 2) - 2) σ τ
def wX0_takeMembers_65 (K2 : Int32 → Int32 → x_S → x_L → Prop) (Q : x_S → x_L → Prop) (v1 : Int32) (v2 : Int32) (v3 : Int32) (v4 : Int32) (σ : x_S) (τ : x_L) : Prop :=
  vp_in v4 6 ∧ (K2 v1 (v2 + 1) (x_up σ 61 v4.toNatClampNeg v3) τ)
def wX0_takeMembers_25 (K2 : Int32 → Int32 → x_S → x_L → Prop) (Q : x_S → x_L → Prop) (K25 : Int32 → Int32 → Int32 → Int32 → x_S → x_L → Prop) (v1 : Int32) (v2 : Int32) (v3 : Int32) (v4 : Int32) (σ : x_S) (τ : x_L) : Prop :=
  (v4 ≤ 0 → wX0_takeMembers_65 K2 Q v1 v2 v3 v4 σ τ) ∧ (¬ v4 ≤ 0 → vp_in (v4 - 1) 6 ∧ (((σ 61 (v4 - 1).toNatClampNeg) ≤ v3 → wX0_takeMembers_65 K2 Q v1 v2 v3 v4 σ τ) ∧ (¬ (σ 61 (v4 - 1).toNatClampNeg) ≤ v3 → vp_in v4 6 ∧ (K25 v1 v2 v3 (v4 + (-1)) (x_up σ 61 v4.toNatClampNeg (σ 61 (v4 - 1).toNatClampNeg)) τ))))
def wX0_takeMembers_2 (Q : x_S → x_L → Prop) (K2 : Int32 → Int32 → x_S → x_L → Prop) (v1 : Int32) (v2 : Int32) (σ : x_S) (τ : x_L) : Prop :=
  ((σ 60 2) ≤ v2 → Q σ τ) ∧ (¬ (σ 60 2) ≤ v2 → vp_in (v1 + v2) 120 ∧ (x_l4 (wX0_takeMembers_25 K2 Q) v1 v2 (σ 39 (v1 + v2).toNatClampNeg) v2 σ τ))
def wX0_takeMembers (a1 : Int32) (σ : x_S) (τ : x_L) (Q : x_S → x_L → Prop) : Prop :=
  x_l2 (wX0_takeMembers_2 Q) a1 0 σ τ
def wX6_base (t : Nat) (a1 : Int32) (σ : x_S) (τ : x_L) (Q : Int32 → x_S → x_L → Prop) : Prop :=
  vp_in a1 120 ∧ (vp_in (σ 12 a1.toNatClampNeg) 30 ∧ (Q ((σ 6 (σ 12 a1.toNatClampNeg).toNatClampNeg) * (150 + (((σ (t + 3) a1.toNatClampNeg) * (σ (t + 3) a1.toNatClampNeg)) / 40))) σ τ))
def wX6_closesUpAt_42 (t : Nat) (b : Nat) (bn : Nat) (Q : Int32 → x_S → x_L → Prop) (σ : x_S) (τ : x_L) : Prop :=
  Q 0 σ τ
def wX6_closesUpAt_47 (t : Nat) (b : Nat) (bn : Nat) (Q : Int32 → x_S → x_L → Prop) (K47 : Int32 → Int32 → Int32 → x_S → x_L → Prop) (v3 : Int32) (v4 : Int32) (v5 : Int32) (σ : x_S) (τ : x_L) : Prop :=
  ((v3 - 1) ≤ v5 → Q 0 σ τ) ∧ (¬ (v3 - 1) ≤ v5 → vp_in v5 bn ∧ (vp_in (σ b v5.toNatClampNeg) 120 ∧ ((¬ (σ 31 (σ b v5.toNatClampNeg).toNatClampNeg) = v4 → K47 v3 v4 (v5 + 1) σ τ) ∧ ((σ 31 (σ b v5.toNatClampNeg).toNatClampNeg) = v4 → Q 1 σ τ))))
def wX6_closesUpAt (t : Nat) (b : Nat) (bn : Nat) (a2 : Int32) (a3 : Int32) (σ : x_S) (τ : x_L) (Q : Int32 → x_S → x_L → Prop) : Prop :=
  vp_in a3 bn ∧ (vp_in (σ b a3.toNatClampNeg) 120 ∧ (((σ 31 (σ b a3.toNatClampNeg).toNatClampNeg) = (-1) → wX6_closesUpAt_42 t b bn Q σ τ) ∧ (¬ (σ 31 (σ b a3.toNatClampNeg).toNatClampNeg) = (-1) → (a3 = a2 → wX6_closesUpAt_42 t b bn Q σ τ) ∧ (¬ a3 = a2 → vp_in (a3 - 1) bn ∧ (vp_in (σ b (a3 - 1).toNatClampNeg) 120 ∧ ((¬ (σ 31 (σ b (a3 - 1).toNatClampNeg).toNatClampNeg) = (σ 31 (σ b a3.toNatClampNeg).toNatClampNeg) → x_l3 (wX6_closesUpAt_47 t b bn Q) a3 (σ 31 (σ b a3.toNatClampNeg).toNatClampNeg) a2 σ τ) ∧ ((σ 31 (σ b (a3 - 1).toNatClampNeg).toNatClampNeg) = (σ 31 (σ b a3.toNatClampNeg).toNatClampNeg) → wX6_closesUpAt_42 t b bn Q σ τ)))))))
def wX6_distanceAt_45 (t : Nat) (b : Nat) (bn : Nat) (Q : Int32 → x_S → x_L → Prop) (s0 : Int32) (σ : x_S) (τ : x_L) : Prop :=
  Q s0 σ τ
def wX6_distanceAt (t : Nat) (b : Nat) (bn : Nat) (a2 : Int32) (σ : x_S) (τ : x_L) (Q : Int32 → x_S → x_L → Prop) : Prop :=
  vp_in (a2 - 1) bn ∧ (vp_in ((σ b (a2 - 1).toNatClampNeg) / 10) 12 ∧ (vp_in a2 bn ∧ (vp_in ((σ b a2.toNatClampNeg) / 10) 12 ∧ (((σ 10 ((σ b (a2 - 1).toNatClampNeg) / 10).toNatClampNeg) ≤ (σ 10 ((σ b a2.toNatClampNeg) / 10).toNatClampNeg) → wX6_distanceAt_45 t b bn Q (σ 10 ((σ b a2.toNatClampNeg) / 10).toNatClampNeg) σ τ) ∧ (¬ (σ 10 ((σ b (a2 - 1).toNatClampNeg) / 10).toNatClampNeg) ≤ (σ 10 ((σ b a2.toNatClampNeg) / 10).toNatClampNeg) → wX6_distanceAt_45 t b bn Q (σ 10 ((σ b (a2 - 1).toNatClampNeg) / 10).toNatClampNeg) σ τ)))))
def wX6_shareByDistance_17 (Q : Int32 → x_S → x_L → Prop) (s0 : Int32) (σ : x_S) (τ : x_L) : Prop :=
  Q s0 σ τ
def wX6_shareByDistance (a0 : Int32) (σ : x_S) (τ : x_L) (Q : Int32 → x_S → x_L → Prop) : Prop :=
  (50 ≤ a0 → wX6_shareByDistance_17 Q 0 σ τ) ∧ (¬ 50 ≤ a0 → wX6_shareByDistance_17 Q (150 - (3 * a0)) σ τ)
def wX6_valueOfOrder_90 (t : Nat) (b : Nat) (bn : Nat) (K17 : Int32 → Int32 → Int32 → Int32 → Int32 → x_S → x_L → Prop) (Q : Int32 → x_S → x_L → Prop) (v2 : Int32) (v3 : Int32) (v4 : Int32) (v5 : Int32) (v6 : Int32) (σ : x_S) (τ : x_L) : Prop :=
  K17 v2 v3 v4 v5 (v6 + 1) σ τ
def wX6_valueOfOrder_73 (t : Nat) (b : Nat) (bn : Nat) (K17 : Int32 → Int32 → Int32 → Int32 → Int32 → x_S → x_L → Prop) (Q : Int32 → x_S → x_L → Prop) (v2 : Int32) (v3 : Int32) (v4 : Int32) (v5 : Int32) (v6 : Int32) (σ : x_S) (τ : x_L) : Prop :=
  wX6_closesUpAt t b bn v2 v6 σ τ (fun r78 σ78 τ78 => (r78 = 0 → wX6_valueOfOrder_90 t b bn K17 Q v2 v3 v4 v5 v6 σ78 τ78) ∧ (¬ r78 = 0 → wX6_valueOfOrder_90 t b bn K17 Q v2 v3 v4 (v5 + (-300)) v6 σ78 τ78))
def wX6_valueOfOrder_17 (t : Nat) (b : Nat) (bn : Nat) (Q : Int32 → x_S → x_L → Prop) (K17 : Int32 → Int32 → Int32 → Int32 → Int32 → x_S → x_L → Prop) (v2 : Int32) (v3 : Int32) (v4 : Int32) (v5 : Int32) (v6 : Int32) (σ : x_S) (τ : x_L) : Prop :=
  (v3 ≤ v6 → Q v5 σ τ) ∧ (¬ v3 ≤ v6 → wX6_distanceAt t b bn v6 σ τ (fun r27 σ27 τ27 => wX6_shareByDistance r27 σ27 τ27 (fun r30 σ30 τ30 => (¬ v6 = (v2 + 1) → wX6_valueOfOrder_73 t b bn K17 Q v2 v3 v4 (v5 + ((v4 * r30) / 1000)) v6 σ30 τ30) ∧ (v6 = (v2 + 1) → wX6_valueOfOrder_73 t b bn K17 Q v2 v3 v4 ((v5 + ((v4 * r30) / 1000)) + ((v4 * (r30 / 4)) / 1000)) v6 σ30 τ30))))
def wX6_valueOfOrder (t : Nat) (b : Nat) (bn : Nat) (a2 : Int32) (a3 : Int32) (σ : x_S) (τ : x_L) (Q : Int32 → x_S → x_L → Prop) : Prop :=
  vp_in a2 bn ∧ (wX6_base t (σ b a2.toNatClampNeg) σ τ (fun r4 σ4 τ4 => x_l5 (wX6_valueOfOrder_17 t b bn Q) a2 a3 r4 0 (a2 + 1) σ4 τ4))
def wX0_search_86 (K22 : Int32 → Int32 → x_S → x_L → Prop) (Q : x_S → x_L → Prop) (v3 : Int32) (v4 : Int32) (σ : x_S) (τ : x_L) : Prop :=
  wX0_stepOn σ τ (fun r87 σ87 τ87 => (¬ r87 = 0 → K22 v3 (v4 + 1) σ87 τ87) ∧ (r87 = 0 → Q σ87 τ87))
def wX0_search_61 (K22 : Int32 → Int32 → x_S → x_L → Prop) (Q : x_S → x_L → Prop) (v4 : Int32) (v5 : Int32) (σ : x_S) (τ : x_L) : Prop :=
  ((¬ (0 : Int32) < 0 ∧ ¬ (0 : Int32) < 0 ∧ ¬ ((x_up σ 60 4 v5) 60 2) < 0) ∧ (0 : Int32).toNatClampNeg + ((x_up σ 60 4 v5) 60 2).toNatClampNeg ≤ 6 ∧ (0 : Int32).toNatClampNeg + ((x_up σ 60 4 v5) 60 2).toNatClampNeg ≤ 6) ∧ (wX0_search_86 K22 Q 1 v4 (x_cp (x_up σ 60 4 v5) 61 ((0 : Int32).toNatClampNeg) 62 ((0 : Int32).toNatClampNeg) (((x_up σ 60 4 v5) 60 2).toNatClampNeg)) τ)
def wX0_search_22 (Q : x_S → x_L → Prop) (K22 : Int32 → Int32 → x_S → x_L → Prop) (v3 : Int32) (v4 : Int32) (σ : x_S) (τ : x_L) : Prop :=
  (720 ≤ v4 → Q σ τ) ∧ (¬ 720 ≤ v4 → wX6_valueOfOrder 33 61 6 0 (σ 60 2) σ τ (fun r43 σ43 τ43 => (v3 = 0 → wX0_search_61 K22 Q v4 r43 σ43 τ43) ∧ (¬ v3 = 0 → (r43 ≤ (σ43 60 4) → wX0_search_86 K22 Q v3 v4 σ43 τ43) ∧ (¬ r43 ≤ (σ43 60 4) → wX0_search_61 K22 Q v4 r43 σ43 τ43))))
def wX0_search (a1 : Int32) (a2 : Int32) (σ : x_S) (τ : x_L) (Q : x_S → x_L → Prop) : Prop :=
  wX0_takeMembers a1 (x_up σ 60 2 (if 6 < (a2 - a1) then 6 else (a2 - a1))) τ (fun σ14 τ14 => x_l2 (wX0_search_22 Q) 0 0 σ14 τ14)
def wX1_copy (σ : x_S) (τ : x_L) (Q : x_S → x_L → Prop) : Prop :=
  Q (x_cp (x_cp (x_cp (x_cp (x_cp (x_up (x_cp (x_cp (x_cp (x_cp (x_up σ 3 0 (σ 14 0)) 15 ((0 : Int32).toNatClampNeg) 4 ((0 : Int32).toNatClampNeg) ((30 : Int32).toNatClampNeg)) 16 ((0 : Int32).toNatClampNeg) 5 ((0 : Int32).toNatClampNeg) ((30 : Int32).toNatClampNeg)) 17 ((0 : Int32).toNatClampNeg) 6 ((0 : Int32).toNatClampNeg) ((30 : Int32).toNatClampNeg)) 18 ((0 : Int32).toNatClampNeg) 7 ((0 : Int32).toNatClampNeg) ((30 : Int32).toNatClampNeg)) 3 5 ((x_cp (x_cp (x_cp (x_cp (x_up σ 3 0 (σ 14 0)) 15 ((0 : Int32).toNatClampNeg) 4 ((0 : Int32).toNatClampNeg) ((30 : Int32).toNatClampNeg)) 16 ((0 : Int32).toNatClampNeg) 5 ((0 : Int32).toNatClampNeg) ((30 : Int32).toNatClampNeg)) 17 ((0 : Int32).toNatClampNeg) 6 ((0 : Int32).toNatClampNeg) ((30 : Int32).toNatClampNeg)) 18 ((0 : Int32).toNatClampNeg) 7 ((0 : Int32).toNatClampNeg) ((30 : Int32).toNatClampNeg)) 14 5)) 19 ((0 : Int32).toNatClampNeg) 8 ((0 : Int32).toNatClampNeg) ((12 : Int32).toNatClampNeg)) 20 ((0 : Int32).toNatClampNeg) 9 ((0 : Int32).toNatClampNeg) ((12 : Int32).toNatClampNeg)) 21 ((0 : Int32).toNatClampNeg) 10 ((0 : Int32).toNatClampNeg) ((12 : Int32).toNatClampNeg)) 22 ((0 : Int32).toNatClampNeg) 11 ((0 : Int32).toNatClampNeg) ((12 : Int32).toNatClampNeg)) 23 ((0 : Int32).toNatClampNeg) 12 ((0 : Int32).toNatClampNeg) ((120 : Int32).toNatClampNeg)) τ
def wX1_hasRoad_17 (Q : Int32 → x_S → x_L → Prop) (s0 : Int32) (σ : x_S) (τ : x_L) : Prop :=
  (s0 = 0 ∨ s0 = 1) ∧ Q s0 σ τ
def wX1_hasRoad_16 (Q : Int32 → x_S → x_L → Prop) (σ : x_S) (τ : x_L) : Prop :=
  wX1_hasRoad_17 Q 0 σ τ
def wX1_hasRoad (a1 : Int32) (σ : x_S) (τ : x_L) (Q : Int32 → x_S → x_L → Prop) : Prop :=
  (a1 < 0 → wX1_hasRoad_16 Q σ τ) ∧ (¬ a1 < 0 → ((σ 3 0) ≤ a1 → wX1_hasRoad_16 Q σ τ) ∧ (¬ (σ 3 0) ≤ a1 → wX1_hasRoad_17 Q 1 σ τ))
def wX1_hasTruck_17 (Q : Int32 → x_S → x_L → Prop) (s0 : Int32) (σ : x_S) (τ : x_L) : Prop :=
  (s0 = 0 ∨ s0 = 1) ∧ Q s0 σ τ
def wX1_hasTruck_16 (Q : Int32 → x_S → x_L → Prop) (σ : x_S) (τ : x_L) : Prop :=
  wX1_hasTruck_17 Q 0 σ τ
def wX1_hasTruck (a1 : Int32) (σ : x_S) (τ : x_L) (Q : Int32 → x_S → x_L → Prop) : Prop :=
  (a1 < 0 → wX1_hasTruck_16 Q σ τ) ∧ (¬ a1 < 0 → ((σ 3 5) ≤ a1 → wX1_hasTruck_16 Q σ τ) ∧ (¬ (σ 3 5) ≤ a1 → wX1_hasTruck_17 Q 1 σ τ))
def wX1_hasPlace_27 (Q : Int32 → x_S → x_L → Prop) (s0 : Int32) (σ : x_S) (τ : x_L) : Prop :=
  (s0 = 0 ∨ s0 = 1) ∧ Q s0 σ τ
def wX1_hasPlace_26 (Q : Int32 → x_S → x_L → Prop) (σ : x_S) (τ : x_L) : Prop :=
  wX1_hasPlace_27 Q 0 σ τ
def wX1_hasPlace (a1 : Int32) (a2 : Int32) (σ : x_S) (τ : x_L) (Q : Int32 → x_S → x_L → Prop) : Prop :=
  wX1_hasTruck a1 σ τ (fun r2 σ2 τ2 => (r2 = 0 → wX1_hasPlace_26 Q σ2 τ2) ∧ (¬ r2 = 0 → (a2 < 0 → wX1_hasPlace_26 Q σ2 τ2) ∧ (¬ a2 < 0 → vp_in a1 12 ∧ (((σ2 11 a1.toNatClampNeg) ≤ a2 → wX1_hasPlace_26 Q σ2 τ2) ∧ (¬ (σ2 11 a1.toNatClampNeg) ≤ a2 → wX1_hasPlace_27 Q 1 σ2 τ2)))))
def wX1_minutes_24 (Q : Int32 → x_S → x_L → Prop) (s0 : Int32) (σ : x_S) (τ : x_L) : Prop :=
  Q s0 σ τ
def wX1_minutes (a1 : Int32) (a2 : Int32) (σ : x_S) (τ : x_L) (Q : Int32 → x_S → x_L → Prop) : Prop :=
  (1 ≤ a2 → vp_in a1 30 ∧ (¬ a2 = 0 ∧ (wX1_minutes_24 Q (((((σ 6 a1.toNatClampNeg) * 60) + a2) - 1) / a2) σ τ))) ∧ (¬ 1 ≤ a2 → wX1_minutes_24 Q 0 σ τ)
def wX10_stopAt (a0 : Int32) (a1 : Int32) (σ : x_S) (τ : x_L) (Q : Int32 → x_S → x_L → Prop) : Prop :=
  Q ((a0 * 10) + a1) σ τ
def wX1_kilometers_4 (Q : Int32 → x_S → x_L → Prop) (K4 : Int32 → Int32 → Int32 → x_S → x_L → Prop) (v1 : Int32) (v2 : Int32) (v3 : Int32) (σ : x_S) (τ : x_L) : Prop :=
  vp_in v1 12 ∧ (((σ 11 v1.toNatClampNeg) ≤ v3 → Q v2 σ τ) ∧ (¬ (σ 11 v1.toNatClampNeg) ≤ v3 → wX10_stopAt v1 v3 σ τ (fun r25 σ25 τ25 => vp_in r25 120 ∧ (vp_in (σ25 12 r25.toNatClampNeg) 30 ∧ (K4 v1 (v2 + (σ25 6 (σ25 12 r25.toNatClampNeg).toNatClampNeg)) (v3 + 1) σ25 τ25)))))
def wX1_kilometers (a1 : Int32) (σ : x_S) (τ : x_L) (Q : Int32 → x_S → x_L → Prop) : Prop :=
  x_l3 (wX1_kilometers_4 Q) a1 0 0 σ τ
def wX6_writeChoices (t : Nat) (b : Nat) (bn : Nat) (σ : x_S) (τ : x_L) (Q : x_S → x_L → Prop) : Prop :=
  ((¬ (0 : Int32) < 0 ∧ ¬ (0 : Int32) < 0 ∧ ¬ (12 : Int32) < 0) ∧ (0 : Int32).toNatClampNeg + (12 : Int32).toNatClampNeg ≤ 12 ∧ (0 : Int32).toNatClampNeg + (12 : Int32).toNatClampNeg ≤ bn) ∧ (((¬ (0 : Int32) < 0 ∧ ¬ (12 : Int32) < 0 ∧ ¬ (120 : Int32) < 0) ∧ (0 : Int32).toNatClampNeg + (120 : Int32).toNatClampNeg ≤ 120 ∧ (12 : Int32).toNatClampNeg + (120 : Int32).toNatClampNeg ≤ bn) ∧ (((¬ (0 : Int32) < 0 ∧ ¬ (132 : Int32) < 0 ∧ ¬ (120 : Int32) < 0) ∧ (0 : Int32).toNatClampNeg + (120 : Int32).toNatClampNeg ≤ 120 ∧ (132 : Int32).toNatClampNeg + (120 : Int32).toNatClampNeg ≤ bn) ∧ (Q (x_cp (x_cp (x_cp σ (t + 1) ((0 : Int32).toNatClampNeg) b ((0 : Int32).toNatClampNeg) ((12 : Int32).toNatClampNeg)) (t + 2) ((0 : Int32).toNatClampNeg) b ((12 : Int32).toNatClampNeg) ((120 : Int32).toNatClampNeg)) (t + 3) ((0 : Int32).toNatClampNeg) b ((132 : Int32).toNatClampNeg) ((120 : Int32).toNatClampNeg)) τ)))
def wX2_keep (o : Nat) (σ : x_S) (τ : x_L) (Q : x_S → x_L → Prop) : Prop :=
  vp_in ((x_up σ 63 1 (((σ 63 1) + 1) - ((σ 63 1) + 1) / 15 * 15)) 63 1) 15 ∧ (wX6_writeChoices o (65 + ((x_up σ 63 1 (((σ 63 1) + 1) - ((σ 63 1) + 1) / 15 * 15)) 63 1).toNatClampNeg) 252 (x_up σ 63 1 (((σ 63 1) + 1) - ((σ 63 1) + 1) / 15 * 15)) τ (fun σ23 τ23 => Q (x_up σ23 63 2 (if 15 < ((σ23 63 2) + 1) then 15 else ((σ23 63 2) + 1))) τ23))
def wX6_readChoices (t : Nat) (b : Nat) (bn : Nat) (σ : x_S) (τ : x_L) (Q : x_S → x_L → Prop) : Prop :=
  ((¬ (0 : Int32) < 0 ∧ ¬ (0 : Int32) < 0 ∧ ¬ (12 : Int32) < 0) ∧ (0 : Int32).toNatClampNeg + (12 : Int32).toNatClampNeg ≤ bn ∧ (0 : Int32).toNatClampNeg + (12 : Int32).toNatClampNeg ≤ 12) ∧ (((¬ (12 : Int32) < 0 ∧ ¬ (0 : Int32) < 0 ∧ ¬ (120 : Int32) < 0) ∧ (12 : Int32).toNatClampNeg + (120 : Int32).toNatClampNeg ≤ bn ∧ (0 : Int32).toNatClampNeg + (120 : Int32).toNatClampNeg ≤ 120) ∧ (((¬ (132 : Int32) < 0 ∧ ¬ (0 : Int32) < 0 ∧ ¬ (120 : Int32) < 0) ∧ (132 : Int32).toNatClampNeg + (120 : Int32).toNatClampNeg ≤ bn ∧ (0 : Int32).toNatClampNeg + (120 : Int32).toNatClampNeg ≤ 120) ∧ (Q (x_cp (x_cp (x_cp σ b ((0 : Int32).toNatClampNeg) (t + 1) ((0 : Int32).toNatClampNeg) ((12 : Int32).toNatClampNeg)) b ((12 : Int32).toNatClampNeg) (t + 2) ((0 : Int32).toNatClampNeg) ((120 : Int32).toNatClampNeg)) b ((132 : Int32).toNatClampNeg) (t + 3) ((0 : Int32).toNatClampNeg) ((120 : Int32).toNatClampNeg)) τ)))
def wX2_takeBack (o : Nat) (σ : x_S) (τ : x_L) (Q : x_S → x_L → Prop) : Prop :=
  vp_in (σ 63 1) 15 ∧ (wX6_readChoices o (65 + (σ 63 1).toNatClampNeg) 252 σ τ (fun σ10 τ10 => Q (x_up (x_up σ10 63 1 ((((σ10 63 1) + 15) - 1) - (((σ10 63 1) + 15) - 1) / 15 * 15)) 63 2 (((x_up σ10 63 1 ((((σ10 63 1) + 15) - 1) - (((σ10 63 1) + 15) - 1) / 15 * 15)) 63 2) - 1)) τ10))
def wX2_forgetEdits (σ : x_S) (τ : x_L) (Q : x_S → x_L → Prop) : Prop :=
  Q (x_up σ 63 2 0) τ
def wX2_saveIn (o : Nat) (a1 : Int32) (σ : x_S) (τ : x_L) (Q : x_S → x_L → Prop) : Prop :=
  vp_in a1 2 ∧ (wX6_writeChoices o (81 + a1.toNatClampNeg) 252 σ τ (fun σ7 τ7 => Q (x_up σ7 83 a1.toNatClampNeg (vp_nar .boolean 1)) τ7))
def wX2_restoreFrom (o : Nat) (a1 : Int32) (σ : x_S) (τ : x_L) (Q : x_S → x_L → Prop) : Prop :=
  vp_in a1 2 ∧ (wX6_readChoices o (81 + a1.toNatClampNeg) 252 σ τ (fun σ7 τ7 => Q σ7 τ7))
def wX2_forgetSnapshots_2 (Q : x_S → x_L → Prop) (K2 : Int32 → x_S → x_L → Prop) (v1 : Int32) (σ : x_S) (τ : x_L) : Prop :=
  (2 ≤ v1 → Q σ τ) ∧ (¬ 2 ≤ v1 → vp_in v1 2 ∧ (K2 (v1 + 1) (x_up σ 83 v1.toNatClampNeg (vp_nar .boolean 0)) τ))
def wX2_forgetSnapshots (σ : x_S) (τ : x_L) (Q : x_S → x_L → Prop) : Prop :=
  x_l1 (wX2_forgetSnapshots_2 Q) 0 σ τ
def wX9_fail (a1 : Int32) (σ : x_S) (τ : x_L) (Q : Int32 → x_S → x_L → Prop) : Prop :=
  Q 0 (x_up (x_up σ 1 2 a1) 1 3 ((x_up σ 1 2 a1) 1 5)) τ
def wX9_isDigit_17 (Q : Int32 → x_S → x_L → Prop) (s0 : Int32) (σ : x_S) (τ : x_L) : Prop :=
  (s0 = 0 ∨ s0 = 1) ∧ Q s0 σ τ
def wX9_isDigit_16 (Q : Int32 → x_S → x_L → Prop) (σ : x_S) (τ : x_L) : Prop :=
  wX9_isDigit_17 Q 0 σ τ
def wX9_isDigit (a0 : Int32) (σ : x_S) (τ : x_L) (Q : Int32 → x_S → x_L → Prop) : Prop :=
  (a0 < 48 → wX9_isDigit_16 Q σ τ) ∧ (¬ a0 < 48 → (57 < a0 → wX9_isDigit_16 Q σ τ) ∧ (¬ 57 < a0 → wX9_isDigit_17 Q 1 σ τ))
def wX9_isLetter_17 (Q : Int32 → x_S → x_L → Prop) (s0 : Int32) (σ : x_S) (τ : x_L) : Prop :=
  (s0 = 0 ∨ s0 = 1) ∧ Q s0 σ τ
def wX9_isLetter_16 (Q : Int32 → x_S → x_L → Prop) (σ : x_S) (τ : x_L) : Prop :=
  wX9_isLetter_17 Q 0 σ τ
def wX9_isLetter (a0 : Int32) (σ : x_S) (τ : x_L) (Q : Int32 → x_S → x_L → Prop) : Prop :=
  (a0 < 97 → wX9_isLetter_16 Q σ τ) ∧ (¬ a0 < 97 → (122 < a0 → wX9_isLetter_16 Q σ τ) ∧ (¬ 122 < a0 → wX9_isLetter_17 Q 1 σ τ))
def wX9_readDigits_68 (K5 : x_S → x_L → Prop) (Q : x_S → x_L → Prop) (σ : x_S) (τ : x_L) : Prop :=
  K5 (x_up σ 1 6 ((σ 1 6) + 1)) τ
def wX9_readDigits_100 (Q : x_S → x_L → Prop) (s1 : Int32) (σ : x_S) (τ : x_L) : Prop :=
  Q (x_up σ 1 4 s1) τ
def wX9_readDigits_81 (Q : x_S → x_L → Prop) (σ : x_S) (τ : x_L) : Prop :=
  (5 < ((σ 1 6) - (σ 1 5)) → wX9_readDigits_100 Q 4 σ τ) ∧ (¬ 5 < ((σ 1 6) - (σ 1 5)) → wX9_readDigits_100 Q 2 σ τ)
def wX9_readDigits_5 (Q : x_S → x_L → Prop) (K5 : x_S → x_L → Prop) (σ : x_S) (τ : x_L) : Prop :=
  ((σ 1 1) ≤ (σ 1 6) → wX9_readDigits_81 Q σ τ) ∧ (¬ (σ 1 1) ≤ (σ 1 6) → vp_in (σ 1 6) 1500 ∧ (wX9_isDigit (σ 2 (σ 1 6).toNatClampNeg) σ τ (fun r25 σ25 τ25 => (r25 = 0 → wX9_readDigits_81 Q σ25 τ25) ∧ (¬ r25 = 0 → (5 ≤ ((σ25 1 6) - (σ25 1 5)) → wX9_readDigits_68 K5 Q σ25 τ25) ∧ (¬ 5 ≤ ((σ25 1 6) - (σ25 1 5)) → vp_in (σ25 1 6) 1500 ∧ (wX9_readDigits_68 K5 Q (x_up σ25 1 7 ((((σ25 1 7) * 10) + (σ25 2 (σ25 1 6).toNatClampNeg)) - 48)) τ25))))))
def wX9_readDigits (σ : x_S) (τ : x_L) (Q : x_S → x_L → Prop) : Prop :=
  x_l0 (wX9_readDigits_5 Q) (x_up σ 1 7 0) τ
def wX9_readLetters_59 (Q : x_S → x_L → Prop) (s1 : Int32) (σ : x_S) (τ : x_L) : Prop :=
  Q (x_up σ 1 4 s1) τ
def wX9_readLetters_39 (Q : x_S → x_L → Prop) (σ : x_S) (τ : x_L) : Prop :=
  (8 < ((σ 1 6) - (σ 1 5)) → wX9_readLetters_59 Q 4 σ τ) ∧ (¬ 8 < ((σ 1 6) - (σ 1 5)) → wX9_readLetters_59 Q 1 σ τ)
def wX9_readLetters_0 (Q : x_S → x_L → Prop) (K0 : x_S → x_L → Prop) (σ : x_S) (τ : x_L) : Prop :=
  ((σ 1 1) ≤ (σ 1 6) → wX9_readLetters_39 Q σ τ) ∧ (¬ (σ 1 1) ≤ (σ 1 6) → vp_in (σ 1 6) 1500 ∧ (wX9_isLetter (σ 2 (σ 1 6).toNatClampNeg) σ τ (fun r20 σ20 τ20 => (r20 = 0 → wX9_readLetters_39 Q σ20 τ20) ∧ (¬ r20 = 0 → K0 (x_up σ20 1 6 ((σ20 1 6) + 1)) τ20))))
def wX9_readLetters (σ : x_S) (τ : x_L) (Q : x_S → x_L → Prop) : Prop :=
  x_l0 (wX9_readLetters_0 Q) σ τ
def wX9_next_47 (K8 : x_S → x_L → Prop) (Q : x_S → x_L → Prop) (σ : x_S) (τ : x_L) : Prop :=
  K8 (x_up σ 1 5 ((σ 1 5) + 1)) τ
def wX9_next_164 (Q : x_S → x_L → Prop) (σ : x_S) (τ : x_L) : Prop :=
  Q σ τ
def wX9_next_151 (Q : x_S → x_L → Prop) (s1 : Int32) (σ : x_S) (τ : x_L) : Prop :=
  wX9_next_164 Q (x_up (x_up σ 1 4 s1) 1 6 (((x_up σ 1 4 s1) 1 5) + 1)) τ
def wX9_next_60 (Q : x_S → x_L → Prop) (σ : x_S) (τ : x_L) : Prop :=
  (((x_up σ 1 6 (σ 1 5)) 1 5) < ((x_up σ 1 6 (σ 1 5)) 1 1) → vp_in ((x_up σ 1 6 (σ 1 5)) 1 5) 1500 ∧ (wX9_isDigit ((x_up σ 1 6 (σ 1 5)) 2 ((x_up σ 1 6 (σ 1 5)) 1 5).toNatClampNeg) (x_up σ 1 6 (σ 1 5)) τ (fun r96 σ96 τ96 => (r96 = 0 → vp_in (σ96 1 5) 1500 ∧ (wX9_isLetter (σ96 2 (σ96 1 5).toNatClampNeg) σ96 τ96 (fun r118 σ118 τ118 => (r118 = 0 → vp_in (σ118 1 5) 1500 ∧ ((¬ (σ118 2 (σ118 1 5).toNatClampNeg) = 59 → wX9_next_151 Q 4 σ118 τ118) ∧ ((σ118 2 (σ118 1 5).toNatClampNeg) = 59 → wX9_next_151 Q 3 σ118 τ118))) ∧ (¬ r118 = 0 → wX9_readLetters σ118 τ118 (fun σ125 τ125 => wX9_next_164 Q σ125 τ125))))) ∧ (¬ r96 = 0 → wX9_readDigits σ96 τ96 (fun σ103 τ103 => wX9_next_164 Q σ103 τ103))))) ∧ (¬ ((x_up σ 1 6 (σ 1 5)) 1 5) < ((x_up σ 1 6 (σ 1 5)) 1 1) → wX9_next_164 Q (x_up (x_up σ 1 6 (σ 1 5)) 1 4 0) τ)
def wX9_next_8 (Q : x_S → x_L → Prop) (K8 : x_S → x_L → Prop) (σ : x_S) (τ : x_L) : Prop :=
  ((σ 1 1) ≤ (σ 1 5) → wX9_next_60 Q σ τ) ∧ (¬ (σ 1 1) ≤ (σ 1 5) → vp_in (σ 1 5) 1500 ∧ (((σ 2 (σ 1 5).toNatClampNeg) = 32 → wX9_next_47 K8 Q σ τ) ∧ (¬ (σ 2 (σ 1 5).toNatClampNeg) = 32 → (¬ (σ 2 (σ 1 5).toNatClampNeg) = 10 → wX9_next_60 Q σ τ) ∧ ((σ 2 (σ 1 5).toNatClampNeg) = 10 → wX9_next_47 K8 Q σ τ))))
def wX9_next (σ : x_S) (τ : x_L) (Q : x_S → x_L → Prop) : Prop :=
  x_l0 (wX9_next_8 Q) (x_up σ 1 5 (σ 1 6)) τ
def wX9_readNumber_47 (Q : Int32 → x_S → x_L → Prop) (s0 : Int32) (σ : x_S) (τ : x_L) : Prop :=
  (s0 = 0 ∨ s0 = 1) ∧ Q s0 σ τ
def wX9_readNumber_42 (Q : Int32 → x_S → x_L → Prop) (σ : x_S) (τ : x_L) : Prop :=
  wX9_readNumber_47 Q 1 σ τ
def wX9_readNumber_34 (Q : Int32 → x_S → x_L → Prop) (σ : x_S) (τ : x_L) : Prop :=
  wX9_fail 2 σ τ (fun r36 σ36 τ36 => (r36 = 0 → wX9_readNumber_47 Q 0 σ36 τ36) ∧ (¬ r36 = 0 → wX9_readNumber_42 Q σ36 τ36))
def wX9_readNumber (a1 : Int32) (a2 : Int32) (σ : x_S) (τ : x_L) (Q : Int32 → x_S → x_L → Prop) : Prop :=
  wX9_next σ τ (fun σ1 τ1 => ((σ1 1 4) = 2 → ((σ1 1 7) < a1 → wX9_readNumber_34 Q σ1 τ1) ∧ (¬ (σ1 1 7) < a1 → ((σ1 1 7) ≤ a2 → wX9_readNumber_42 Q σ1 τ1) ∧ (¬ (σ1 1 7) ≤ a2 → wX9_readNumber_34 Q σ1 τ1))) ∧ (¬ (σ1 1 4) = 2 → wX9_fail 1 σ1 τ1 (fun r14 σ14 τ14 => (r14 = 0 ∨ r14 = 1) ∧ Q r14 σ14 τ14)))
def wX9_readSemicolon_25 (Q : Int32 → x_S → x_L → Prop) (s0 : Int32) (σ : x_S) (τ : x_L) : Prop :=
  (s0 = 0 ∨ s0 = 1) ∧ Q s0 σ τ
def wX9_readSemicolon_20 (Q : Int32 → x_S → x_L → Prop) (σ : x_S) (τ : x_L) : Prop :=
  wX9_readSemicolon_25 Q 1 σ τ
def wX9_readSemicolon (σ : x_S) (τ : x_L) (Q : Int32 → x_S → x_L → Prop) : Prop :=
  wX9_next σ τ (fun σ1 τ1 => ((σ1 1 4) = 3 → wX9_readSemicolon_20 Q σ1 τ1) ∧ (¬ (σ1 1 4) = 3 → wX9_fail 1 σ1 τ1 (fun r14 σ14 τ14 => (r14 = 0 → wX9_readSemicolon_25 Q 0 σ14 τ14) ∧ (¬ r14 = 0 → wX9_readSemicolon_20 Q σ14 τ14))))
def wX3_readRoad (a2 : Int32) (σ : x_S) (τ : x_L) (Q : Int32 → x_S → x_L → Prop) : Prop :=
  wX9_readNumber 0 19 σ τ (fun r4 σ4 τ4 => (¬ r4 = 0 → vp_in a2 30 ∧ (wX9_readNumber 0 19 (x_up σ4 15 a2.toNatClampNeg (σ4 1 7)) τ4 (fun r29 σ29 τ29 => (¬ r29 = 0 → (¬ ((x_up σ29 16 a2.toNatClampNeg (σ29 1 7)) 16 a2.toNatClampNeg) = ((x_up σ29 16 a2.toNatClampNeg (σ29 1 7)) 15 a2.toNatClampNeg) → wX9_readNumber 1 300 (x_up σ29 16 a2.toNatClampNeg (σ29 1 7)) τ29 (fun r82 σ82 τ82 => (¬ r82 = 0 → wX9_readNumber 40 120 (x_up σ82 17 a2.toNatClampNeg (σ82 1 7)) τ82 (fun r108 σ108 τ108 => (¬ r108 = 0 → wX9_readSemicolon (x_up (x_up σ108 18 a2.toNatClampNeg (σ108 1 7)) 14 0 (a2 + 1)) τ108 (fun r140 σ140 τ140 => (r140 = 0 ∨ r140 = 1) ∧ Q r140 σ140 τ140)) ∧ (r108 = 0 → Q 0 σ108 τ108))) ∧ (r82 = 0 → Q 0 σ82 τ82))) ∧ (((x_up σ29 16 a2.toNatClampNeg (σ29 1 7)) 16 a2.toNatClampNeg) = ((x_up σ29 16 a2.toNatClampNeg (σ29 1 7)) 15 a2.toNatClampNeg) → wX9_fail 3 (x_up σ29 16 a2.toNatClampNeg (σ29 1 7)) τ29 (fun r73 σ73 τ73 => (r73 = 0 ∨ r73 = 1) ∧ Q r73 σ73 τ73))) ∧ (r29 = 0 → Q 0 σ29 τ29)))) ∧ (r4 = 0 → Q 0 σ4 τ4))
def wX3_readRoute_118 (K2 : Int32 → Int32 → x_S → x_L → Prop) (Q : Int32 → x_S → x_L → Prop) (v2 : Int32) (v3 : Int32) (σ : x_S) (τ : x_L) : Prop :=
  (¬ v3 = 10 → wX10_stopAt v2 v3 σ τ (fun r139 σ139 τ139 => vp_in r139 120 ∧ (K2 v2 (v3 + 1) (x_up σ139 23 r139.toNatClampNeg (σ139 1 7)) τ139))) ∧ (v3 = 10 → wX9_fail 4 σ τ (fun r126 σ126 τ126 => (r126 = 0 ∨ r126 = 1) ∧ Q r126 σ126 τ126))
def wX3_readRoute_36 (K2 : Int32 → Int32 → x_S → x_L → Prop) (Q : Int32 → x_S → x_L → Prop) (v2 : Int32) (v3 : Int32) (σ : x_S) (τ : x_L) : Prop :=
  ((σ 1 4) = 2 → ((σ 1 7) < (σ 14 0) → (v3 ≤ 0 → wX3_readRoute_118 K2 Q v2 v3 σ τ) ∧ (¬ v3 ≤ 0 → vp_in (σ 1 7) 30 ∧ (wX10_stopAt v2 (v3 - 1) σ τ (fun r104 σ104 τ104 => vp_in r104 120 ∧ (vp_in (σ104 23 r104.toNatClampNeg) 30 ∧ (((σ 15 (σ 1 7).toNatClampNeg) = (σ104 16 (σ104 23 r104.toNatClampNeg).toNatClampNeg) → wX3_readRoute_118 K2 Q v2 v3 σ104 τ104) ∧ (¬ (σ 15 (σ 1 7).toNatClampNeg) = (σ104 16 (σ104 23 r104.toNatClampNeg).toNatClampNeg) → wX9_fail 3 σ104 τ104 (fun r114 σ114 τ114 => (r114 = 0 ∨ r114 = 1) ∧ Q r114 σ114 τ114)))))))) ∧ (¬ (σ 1 7) < (σ 14 0) → wX9_fail 2 σ τ (fun r66 σ66 τ66 => (r66 = 0 ∨ r66 = 1) ∧ Q r66 σ66 τ66))) ∧ (¬ (σ 1 4) = 2 → wX9_fail 1 σ τ (fun r46 σ46 τ46 => (r46 = 0 ∨ r46 = 1) ∧ Q r46 σ46 τ46))
def wX3_readRoute_2 (Q : Int32 → x_S → x_L → Prop) (K2 : Int32 → Int32 → x_S → x_L → Prop) (v2 : Int32) (v3 : Int32) (σ : x_S) (τ : x_L) : Prop :=
  (10 < v3 → Q 0 σ τ) ∧ (¬ 10 < v3 → wX9_next σ τ (fun σ9 τ9 => (¬ (σ9 1 4) = 3 → wX3_readRoute_36 K2 Q v2 v3 σ9 τ9) ∧ ((σ9 1 4) = 3 → (v3 ≤ 0 → wX3_readRoute_36 K2 Q v2 v3 σ9 τ9) ∧ (¬ v3 ≤ 0 → vp_in v2 12 ∧ (Q 1 (x_up σ9 22 v2.toNatClampNeg v3) τ9)))))
def wX3_readRoute (a2 : Int32) (σ : x_S) (τ : x_L) (Q : Int32 → x_S → x_L → Prop) : Prop :=
  x_l2 (wX3_readRoute_2 Q) a2 0 σ τ
def wX3_readTruck (a2 : Int32) (σ : x_S) (τ : x_L) (Q : Int32 → x_S → x_L → Prop) : Prop :=
  wX9_readNumber 0 2000 σ τ (fun r5 σ5 τ5 => (¬ r5 = 0 → vp_in a2 12 ∧ (wX9_readNumber 0 10000 (x_up σ5 19 a2.toNatClampNeg (σ5 1 7)) τ5 (fun r31 σ31 τ31 => (¬ r31 = 0 → wX9_readNumber 5 60 (x_up σ31 20 a2.toNatClampNeg (σ31 1 7)) τ31 (fun r56 σ56 τ56 => (¬ r56 = 0 → wX3_readRoute a2 (x_up (x_up σ56 21 a2.toNatClampNeg (σ56 1 7)) 14 5 (a2 + 1)) τ56 (fun r90 σ90 τ90 => (r90 = 0 ∨ r90 = 1) ∧ Q r90 σ90 τ90)) ∧ (r56 = 0 → Q 0 σ56 τ56))) ∧ (r31 = 0 → Q 0 σ31 τ31)))) ∧ (r5 = 0 → Q 0 σ5 τ5))
def wX9_isWord_28 (i : Nat) (Q : Int32 → x_S → x_L → Prop) (σ : x_S) (τ : x_L) : Prop :=
  Q 0 σ τ
def wX9_isWord_32 (i : Nat) (Q : Int32 → x_S → x_L → Prop) (K32 : Int32 → x_S → x_L → Prop) (v2 : Int32) (σ : x_S) (τ : x_L) : Prop :=
  ((nI (x_len.getD i 0)) ≤ v2 → Q 1 σ τ) ∧ (¬ (nI (x_len.getD i 0)) ≤ v2 → vp_in ((σ 1 5) + v2) 1500 ∧ (vp_in v2 (x_len.getD i 0) ∧ (((σ 2 ((σ 1 5) + v2).toNatClampNeg) = ((x_byt.getD i []).getD v2.toNatClampNeg 0) → K32 (v2 + 1) σ τ) ∧ (¬ (σ 2 ((σ 1 5) + v2).toNatClampNeg) = ((x_byt.getD i []).getD v2.toNatClampNeg 0) → Q 0 σ τ))))
def wX9_isWord (i : Nat) (σ : x_S) (τ : x_L) (Q : Int32 → x_S → x_L → Prop) : Prop :=
  (¬ (σ 1 4) = 1 → wX9_isWord_28 i Q σ τ) ∧ ((σ 1 4) = 1 → (((σ 1 6) - (σ 1 5)) = (nI (x_len.getD i 0)) → x_l1 (wX9_isWord_32 i Q) 0 σ τ) ∧ (¬ ((σ 1 6) - (σ 1 5)) = (nI (x_len.getD i 0)) → wX9_isWord_28 i Q σ τ))
def wX3_read_136 (K18 : Int32 → x_S → x_L → Prop) (Q : Int32 → x_S → x_L → Prop) (v2 : Int32) (v3 : Int32) (σ : x_S) (τ : x_L) : Prop :=
  (¬ v3 = 0 → K18 (v2 + 1) σ τ) ∧ (v3 = 0 → Q 0 σ τ)
def wX3_read_81 (K18 : Int32 → x_S → x_L → Prop) (Q : Int32 → x_S → x_L → Prop) (v2 : Int32) (s0 : Int32) (σ : x_S) (τ : x_L) : Prop :=
  wX3_read_136 K18 Q v2 s0 σ τ
def wX3_read_126 (K18 : Int32 → x_S → x_L → Prop) (Q : Int32 → x_S → x_L → Prop) (v2 : Int32) (s0 : Int32) (σ : x_S) (τ : x_L) : Prop :=
  wX3_read_136 K18 Q v2 s0 σ τ
def wX3_read_18 (Q : Int32 → x_S → x_L → Prop) (K18 : Int32 → x_S → x_L → Prop) (v2 : Int32) (σ : x_S) (τ : x_L) : Prop :=
  (1500 < v2 → Q 0 σ τ) ∧ (¬ 1500 < v2 → wX9_next σ τ (fun σ26 τ26 => (¬ (σ26 1 4) = 0 → wX9_isWord 0 σ26 τ26 (fun r43 σ43 τ43 => (r43 = 0 → wX9_isWord 1 σ43 τ43 (fun r88 σ88 τ88 => (r88 = 0 → wX9_fail 1 σ88 τ88 (fun r132 σ132 τ132 => wX3_read_136 K18 Q v2 0 σ132 τ132)) ∧ (¬ r88 = 0 → (12 ≤ (σ88 14 5) → wX9_fail 4 σ88 τ88 (fun r123 σ123 τ123 => wX3_read_126 K18 Q v2 r123 σ123 τ123)) ∧ (¬ 12 ≤ (σ88 14 5) → wX3_readTruck (σ88 14 5) σ88 τ88 (fun r115 σ115 τ115 => wX3_read_126 K18 Q v2 r115 σ115 τ115))))) ∧ (¬ r43 = 0 → (30 ≤ (σ43 14 0) → wX9_fail 4 σ43 τ43 (fun r78 σ78 τ78 => wX3_read_81 K18 Q v2 r78 σ78 τ78)) ∧ (¬ 30 ≤ (σ43 14 0) → wX3_readRoad (σ43 14 0) σ43 τ43 (fun r70 σ70 τ70 => wX3_read_81 K18 Q v2 r70 σ70 τ70))))) ∧ ((σ26 1 4) = 0 → Q 1 σ26 τ26)))
def wX3_read (σ : x_S) (τ : x_L) (Q : Int32 → x_S → x_L → Prop) : Prop :=
  x_l1 (wX3_read_18 Q) 0 (x_up (x_up σ 14 0 0) 14 5 0) τ
def wX7_sharedPlaces (a1 : Int32) (a2 : Int32) (σ : x_S) (τ : x_L) (Q : Int32 → x_S → x_L → Prop) : Prop :=
  vp_in ((a1 * 12) + (a2 / 10)) 1440 ∧ (Q (((((τ 32 ((a1 * 12) + (a2 / 10)).toNatClampNeg) >>> (((4 * (a2 - a2 / 10 * 10)) : Int32).toInt64 &&& 63)) : Int64).toInt32) &&& 15) σ τ)
def wX4_findRun_28 (K2 : Int32 → Int32 → Int32 → x_S → x_L → Prop) (Q : x_S → x_L → Prop) (K28 : Int32 → Int32 → Int32 → Int32 → Int32 → x_S → x_L → Prop) (v1 : Int32) (v2 : Int32) (v3 : Int32) (v4 : Int32) (v5 : Int32) (σ : x_S) (τ : x_L) : Prop :=
  vp_in v2 12 ∧ (((σ 30 v2.toNatClampNeg) ≤ v5 → K2 v1 v2 (v3 + 1) σ τ) ∧ (¬ (σ 30 v2.toNatClampNeg) ≤ v5 → vp_in v4 120 ∧ (vp_in v5 120 ∧ ((¬ (σ 12 v4.toNatClampNeg) = (σ 12 v5.toNatClampNeg) → K28 v1 v2 v3 v4 (v5 + 1) σ τ) ∧ ((σ 12 v4.toNatClampNeg) = (σ 12 v5.toNatClampNeg) → wX7_sharedPlaces v4 v5 (x_up (x_up σ 59 4 v3) 59 5 (v5 - (v2 * 10))) τ (fun r90 σ90 τ90 => Q (x_up σ90 59 6 r90) τ90))))))
def wX4_findRun_2 (Q : x_S → x_L → Prop) (K2 : Int32 → Int32 → Int32 → x_S → x_L → Prop) (v1 : Int32) (v2 : Int32) (v3 : Int32) (σ : x_S) (τ : x_L) : Prop :=
  vp_in v1 12 ∧ (((σ 11 v1.toNatClampNeg) ≤ v3 → Q (x_up (x_up (x_up σ 59 4 (-1)) 59 5 (-1)) 59 6 0) τ) ∧ (¬ (σ 11 v1.toNatClampNeg) ≤ v3 → wX10_stopAt v1 v3 σ τ (fun r17 σ17 τ17 => x_l5 (wX4_findRun_28 K2 Q) v1 v2 v3 r17 (v2 * 10) σ17 τ17)))
def wX4_findRun (a1 : Int32) (a2 : Int32) (σ : x_S) (τ : x_L) (Q : x_S → x_L → Prop) : Prop :=
  x_l3 (wX4_findRun_2 Q) a1 a2 0 σ τ
def wX4_drive_3 (Q : x_S → x_L → Prop) (K3 : Int32 → Int32 → Int32 → Int32 → x_S → x_L → Prop) (v1 : Int32) (v2 : Int32) (v3 : Int32) (v4 : Int32) (σ : x_S) (τ : x_L) : Prop :=
  ((σ 59 6) ≤ v4 → vp_in v1 120 ∧ (vp_in v2 120 ∧ (Q (x_up (x_up σ 48 v1.toNatClampNeg (if v3 < 0 then 0 else v3)) 48 v2.toNatClampNeg (if (-v3) < 0 then 0 else (-v3))) τ))) ∧ (¬ (σ 59 6) ≤ v4 → vp_in (v1 + v4) 120 ∧ (vp_in (v2 + v4) 120 ∧ (K3 v1 v2 v3 (v4 + 1) (x_up (x_up (x_up (x_up σ 49 ((v1 + v4).toNatClampNeg) (if (σ 49 (v2 + v4).toNatClampNeg) < (σ 49 (v1 + v4).toNatClampNeg) then (σ 49 (v2 + v4).toNatClampNeg) else (σ 49 (v1 + v4).toNatClampNeg))) 49 ((v2 + v4).toNatClampNeg) (if (σ 49 (v2 + v4).toNatClampNeg) < (σ 49 (v1 + v4).toNatClampNeg) then (σ 49 (v2 + v4).toNatClampNeg) else (σ 49 (v1 + v4).toNatClampNeg))) 48 ((v1 + v4).toNatClampNeg) 0) 48 ((v2 + v4).toNatClampNeg) 0) τ)))
def wX4_drive (a1 : Int32) (a2 : Int32) (a3 : Int32) (σ : x_S) (τ : x_L) (Q : x_S → x_L → Prop) : Prop :=
  x_l4 (wX4_drive_3 Q) a1 a2 a3 0 σ τ
def wX6_copyChoices (t : Nat) (o : Nat) (σ : x_S) (τ : x_L) (Q : x_S → x_L → Prop) : Prop :=
  Q (x_cp (x_cp (x_cp (x_cp σ (o + 1) ((0 : Int32).toNatClampNeg) (t + 1) ((0 : Int32).toNatClampNeg) ((12 : Int32).toNatClampNeg)) (o + 2) ((0 : Int32).toNatClampNeg) (t + 2) ((0 : Int32).toNatClampNeg) ((120 : Int32).toNatClampNeg)) (o + 3) ((0 : Int32).toNatClampNeg) (t + 3) ((0 : Int32).toNatClampNeg) ((120 : Int32).toNatClampNeg)) (o + 6) ((0 : Int32).toNatClampNeg) (t + 6) ((0 : Int32).toNatClampNeg) ((120 : Int32).toNatClampNeg)) τ
def wX6_arrival (t : Nat) (a1 : Int32) (σ : x_S) (τ : x_L) (Q : Int32 → x_S → x_L → Prop) : Prop :=
  vp_in a1 12 ∧ (vp_in ((σ 30 a1.toNatClampNeg) - 1) 120 ∧ (Q (σ (t + 5) ((σ 30 a1.toNatClampNeg) - 1).toNatClampNeg) σ τ))
def wX6_isLate_22 (t : Nat) (Q : Int32 → x_S → x_L → Prop) (s0 : Int32) (σ : x_S) (τ : x_L) : Prop :=
  (s0 = 0 ∨ s0 = 1) ∧ Q s0 σ τ
def wX6_isLate (t : Nat) (a1 : Int32) (σ : x_S) (τ : x_L) (Q : Int32 → x_S → x_L → Prop) : Prop :=
  wX6_arrival t a1 σ τ (fun r2 σ2 τ2 => vp_in a1 12 ∧ ((r2 ≤ (σ2 9 a1.toNatClampNeg) → wX6_isLate_22 t Q 0 σ2 τ2) ∧ (¬ r2 ≤ (σ2 9 a1.toNatClampNeg) → wX6_isLate_22 t Q 1 σ2 τ2)))
def wX6_ready_25 (t : Nat) (Q : Int32 → x_S → x_L → Prop) (s0 : Int32) (σ : x_S) (τ : x_L) : Prop :=
  Q s0 σ τ
def wX6_ready (t : Nat) (a1 : Int32) (a2 : Int32) (σ : x_S) (τ : x_L) (Q : Int32 → x_S → x_L → Prop) : Prop :=
  (¬ a2 = 0 → wX10_stopAt a1 (a2 - 1) σ τ (fun r21 σ21 τ21 => vp_in r21 120 ∧ (wX6_ready_25 t Q (σ21 (t + 5) r21.toNatClampNeg) σ21 τ21))) ∧ (a2 = 0 → vp_in a1 12 ∧ (wX6_ready_25 t Q (σ (t + 1) a1.toNatClampNeg) σ τ))
def wX6_setTimes_12 (t : Nat) (Q : x_S → x_L → Prop) (K12 : Int32 → Int32 → Int32 → x_S → x_L → Prop) (v1 : Int32) (v2 : Int32) (v3 : Int32) (σ : x_S) (τ : x_L) : Prop :=
  vp_in v1 12 ∧ (((σ 30 v1.toNatClampNeg) ≤ v3 → Q σ τ) ∧ (¬ (σ 30 v1.toNatClampNeg) ≤ v3 → vp_in v3 120 ∧ (wX1_minutes ((x_up σ (t + 4) v3.toNatClampNeg (v2 + (σ (t + 2) v3.toNatClampNeg))) 12 v3.toNatClampNeg) ((x_up σ (t + 4) v3.toNatClampNeg (v2 + (σ (t + 2) v3.toNatClampNeg))) (t + 3) v3.toNatClampNeg) (x_up σ (t + 4) v3.toNatClampNeg (v2 + (σ (t + 2) v3.toNatClampNeg))) τ (fun r64 σ64 τ64 => K12 v1 (((x_up σ (t + 4) v3.toNatClampNeg (v2 + (σ (t + 2) v3.toNatClampNeg))) (t + 4) v3.toNatClampNeg) + r64) (v3 + 1) (x_up σ64 (t + 5) v3.toNatClampNeg (((x_up σ (t + 4) v3.toNatClampNeg (v2 + (σ (t + 2) v3.toNatClampNeg))) (t + 4) v3.toNatClampNeg) + r64)) τ64))))
def wX6_setTimes (t : Nat) (a1 : Int32) (σ : x_S) (τ : x_L) (Q : x_S → x_L → Prop) : Prop :=
  vp_in a1 12 ∧ (x_l3 (wX6_setTimes_12 t Q) a1 (σ (t + 1) a1.toNatClampNeg) (a1 * 10) σ τ)
def wX4_attempt_158 (Q : Int32 → x_S → x_L → Prop) (s0 : Int32) (σ : x_S) (τ : x_L) : Prop :=
  Q s0 σ τ
def wX4_attempt_157 (Q : Int32 → x_S → x_L → Prop) (σ : x_S) (τ : x_L) : Prop :=
  wX4_attempt_158 Q 0 σ τ
def wX4_attempt_131 (Q : Int32 → x_S → x_L → Prop) (v2 : Int32) (σ : x_S) (τ : x_L) : Prop :=
  wX6_isLate 46 v2 σ τ (fun r136 σ136 τ136 => (r136 = 0 → wX4_attempt_157 Q σ136 τ136) ∧ (¬ r136 = 0 → wX6_isLate 33 v2 σ136 τ136 (fun r147 σ147 τ147 => (¬ r147 = 0 → wX4_attempt_157 Q σ147 τ147) ∧ (r147 = 0 → wX4_attempt_158 Q 5 σ147 τ147))))
def wX4_attempt (a1 : Int32) (a2 : Int32) (σ : x_S) (τ : x_L) (Q : Int32 → x_S → x_L → Prop) : Prop :=
  (¬ a1 = a2 → wX4_findRun a1 a2 σ τ (fun σ10 τ10 => (¬ (σ10 59 6) = 0 → wX6_ready 33 a2 (σ10 59 5) σ10 τ10 (fun r31 σ31 τ31 => wX6_ready 33 a1 (σ31 59 4) σ31 τ31 (fun r43 σ43 τ43 => ((if 0 ≤ (r31 - r43) then (r31 - r43) else 0 - (r31 - r43)) ≤ 120 → wX6_copyChoices 46 33 σ43 τ43 (fun σ67 τ67 => wX10_stopAt a1 (σ67 59 4) σ67 τ67 (fun r76 σ76 τ76 => wX10_stopAt a2 (σ76 59 5) σ76 τ76 (fun r84 σ84 τ84 => wX4_drive r76 r84 (r31 - r43) σ84 τ84 (fun σ88 τ88 => wX6_setTimes 46 a1 σ88 τ88 (fun σ96 τ96 => wX6_setTimes 46 a2 σ96 τ96 (fun σ104 τ104 => wX6_isLate 46 a1 σ104 τ104 (fun r112 σ112 τ112 => (r112 = 0 → wX4_attempt_131 Q a2 σ112 τ112) ∧ (¬ r112 = 0 → wX6_isLate 33 a1 σ112 τ112 (fun r123 σ123 τ123 => (¬ r123 = 0 → wX4_attempt_131 Q a2 σ123 τ123) ∧ (r123 = 0 → Q 4 σ123 τ123))))))))))) ∧ (¬ (if 0 ≤ (r31 - r43) then (r31 - r43) else 0 - (r31 - r43)) ≤ 120 → Q 3 σ43 τ43)))) ∧ ((σ10 59 6) = 0 → Q 2 σ10 τ10))) ∧ (a1 = a2 → Q 1 σ τ)
def wX5_put_31 (Q : x_S → x_L → Prop) (σ : x_S) (τ : x_L) : Prop :=
  Q σ τ
def wX5_put (a1 : Int32) (σ : x_S) (τ : x_L) (Q : x_S → x_L → Prop) : Prop :=
  (130 ≤ (σ 84 1) → wX5_put_31 Q σ τ) ∧ (¬ 130 ≤ (σ 84 1) → vp_in (σ 84 1) 130 ∧ (wX5_put_31 Q (x_up (x_up σ 85 ((σ 84 1).toNatClampNeg) (vp_nar .byte ((a1 : Int32).toInt8.toInt32))) 84 1 (((x_up σ 85 ((σ 84 1).toNatClampNeg) (vp_nar .byte ((a1 : Int32).toInt8.toInt32))) 84 1) + 1)) τ))
def wX5_putNumber_32 (K4 : Int32 → Int32 → x_S → x_L → Prop) (Q : x_S → x_L → Prop) (v1 : Int32) (v2 : Int32) (σ : x_S) (τ : x_L) : Prop :=
  K4 v1 (v2 / 10) σ τ
def wX5_putNumber_19 (K4 : Int32 → Int32 → x_S → x_L → Prop) (Q : x_S → x_L → Prop) (v1 : Int32) (v2 : Int32) (σ : x_S) (τ : x_L) : Prop :=
  ¬ v2 = 0 ∧ (wX5_put (48 + ((v1 / v2) - (v1 / v2) / 10 * 10)) σ τ (fun σ29 τ29 => wX5_putNumber_32 K4 Q v1 v2 σ29 τ29))
def wX5_putNumber_4 (Q : x_S → x_L → Prop) (K4 : Int32 → Int32 → x_S → x_L → Prop) (v1 : Int32) (v2 : Int32) (σ : x_S) (τ : x_L) : Prop :=
  (v2 < 1 → Q σ τ) ∧ (¬ v2 < 1 → (v2 ≤ v1 → wX5_putNumber_19 K4 Q v1 v2 σ τ) ∧ (¬ v2 ≤ v1 → (¬ v2 = 1 → wX5_putNumber_32 K4 Q v1 v2 σ τ) ∧ (v2 = 1 → wX5_putNumber_19 K4 Q v1 v2 σ τ)))
def wX5_putNumber (a1 : Int32) (σ : x_S) (τ : x_L) (Q : x_S → x_L → Prop) : Prop :=
  x_l2 (wX5_putNumber_4 Q) a1 1000 σ τ
def wX6_isEarlier_50 (t : Nat) (Q : Int32 → x_S → x_L → Prop) (s0 : Int32) (σ : x_S) (τ : x_L) : Prop :=
  (s0 = 0 ∨ s0 = 1) ∧ Q s0 σ τ
def wX6_isEarlier_45 (t : Nat) (Q : Int32 → x_S → x_L → Prop) (σ : x_S) (τ : x_L) : Prop :=
  wX6_isEarlier_50 t Q 1 σ τ
def wX6_isEarlier_49 (t : Nat) (Q : Int32 → x_S → x_L → Prop) (σ : x_S) (τ : x_L) : Prop :=
  wX6_isEarlier_50 t Q 0 σ τ
def wX6_isEarlier (t : Nat) (a1 : Int32) (a2 : Int32) (σ : x_S) (τ : x_L) (Q : Int32 → x_S → x_L → Prop) : Prop :=
  vp_in a1 120 ∧ (vp_in a2 120 ∧ (((σ (t + 4) a1.toNatClampNeg) < (σ (t + 4) a2.toNatClampNeg) → wX6_isEarlier_45 t Q σ τ) ∧ (¬ (σ (t + 4) a1.toNatClampNeg) < (σ (t + 4) a2.toNatClampNeg) → (¬ (σ (t + 4) a1.toNatClampNeg) = (σ (t + 4) a2.toNatClampNeg) → wX6_isEarlier_49 t Q σ τ) ∧ ((σ (t + 4) a1.toNatClampNeg) = (σ (t + 4) a2.toNatClampNeg) → ((σ (t + 3) a2.toNatClampNeg) ≤ (σ (t + 3) a1.toNatClampNeg) → wX6_isEarlier_49 t Q σ τ) ∧ (¬ (σ (t + 3) a2.toNatClampNeg) ≤ (σ (t + 3) a1.toNatClampNeg) → wX6_isEarlier_45 t Q σ τ)))))
def wX6_setKeys_58 (t : Nat) (K2 : Int32 → Int32 → Int32 → x_S → x_L → Prop) (K13 : Int32 → Int32 → Int32 → Int32 → Int32 → x_S → x_L → Prop) (Q : x_S → x_L → Prop) (v1 : Int32) (v2 : Int32) (v3 : Int32) (v4 : Int32) (v5 : Int32) (σ : x_S) (τ : x_L) : Prop :=
  K13 v1 v2 v3 v4 (v5 + 1) σ τ
def wX6_setKeys_13 (t : Nat) (K2 : Int32 → Int32 → Int32 → x_S → x_L → Prop) (Q : x_S → x_L → Prop) (K13 : Int32 → Int32 → Int32 → Int32 → Int32 → x_S → x_L → Prop) (v1 : Int32) (v2 : Int32) (v3 : Int32) (v4 : Int32) (v5 : Int32) (σ : x_S) (τ : x_L) : Prop :=
  (v2 ≤ v5 → vp_in v3 120 ∧ (vp_in (σ (t + 6) v3.toNatClampNeg) 120 ∧ (K2 v1 v2 (v3 + 1) (x_up σ (t + 9) ((σ (t + 6) v3.toNatClampNeg).toNatClampNeg) v4) τ))) ∧ (¬ v2 ≤ v5 → vp_in v3 120 ∧ (vp_in v5 120 ∧ (wX7_sharedPlaces (σ (t + 6) v3.toNatClampNeg) (σ (t + 6) v5.toNatClampNeg) σ τ (fun r36 σ36 τ36 => (v5 = v3 → wX6_setKeys_58 t K2 K13 Q v1 v2 v3 v4 v5 σ36 τ36) ∧ (¬ v5 = v3 → (r36 ≤ v4 → wX6_setKeys_58 t K2 K13 Q v1 v2 v3 v4 v5 σ36 τ36) ∧ (¬ r36 ≤ v4 → wX6_setKeys_58 t K2 K13 Q v1 v2 v3 r36 v5 σ36 τ36))))))
def wX6_setKeys_2 (t : Nat) (Q : x_S → x_L → Prop) (K2 : Int32 → Int32 → Int32 → x_S → x_L → Prop) (v1 : Int32) (v2 : Int32) (v3 : Int32) (σ : x_S) (τ : x_L) : Prop :=
  (v2 ≤ v3 → Q σ τ) ∧ (¬ v2 ≤ v3 → x_l5 (wX6_setKeys_13 t K2 Q) v1 v2 v3 0 v1 σ τ)
def wX6_setKeys (t : Nat) (a1 : Int32) (a2 : Int32) (σ : x_S) (τ : x_L) (Q : x_S → x_L → Prop) : Prop :=
  x_l3 (wX6_setKeys_2 t Q) a1 a2 a1 σ τ
def wX6_setPlatoon_160 (t : Nat) (K15 : Int32 → Int32 → Int32 → Int32 → Int32 → x_S → x_L → Prop) (Q : x_S → x_L → Prop) (v1 : Int32) (v2 : Int32) (v3 : Int32) (v4 : Int32) (v5 : Int32) (s1 : Int32) (s2 : Int32) (s3 : Int32) (σ : x_S) (τ : x_L) : Prop :=
  K15 v1 v2 v3 v4 (v5 + 1) (x_up σ t 14 (s1 + (s2 + s3))) τ
def wX6_setPlatoon_127 (t : Nat) (K15 : Int32 → Int32 → Int32 → Int32 → Int32 → x_S → x_L → Prop) (Q : x_S → x_L → Prop) (v1 : Int32) (v2 : Int32) (v3 : Int32) (v4 : Int32) (v5 : Int32) (v6 : Int32) (s1 : Int32) (s2 : Int32) (σ : x_S) (τ : x_L) : Prop :=
  vp_in s1 120 ∧ (vp_in v6 120 ∧ ((((x_up σ (t + 11) s1.toNatClampNeg s2) (t + 12) v6.toNatClampNeg) = 0 → wX6_setPlatoon_160 t K15 Q v1 v2 v3 v4 v5 ((x_up σ (t + 11) s1.toNatClampNeg s2) t 14) (v4 - ((x_up σ (t + 11) s1.toNatClampNeg s2) (t + 11) v6.toNatClampNeg)) 0 (x_up σ (t + 11) s1.toNatClampNeg s2) τ) ∧ (¬ ((x_up σ (t + 11) s1.toNatClampNeg s2) (t + 12) v6.toNatClampNeg) = 0 → wX6_setPlatoon_160 t K15 Q v1 v2 v3 v4 v5 ((x_up σ (t + 11) s1.toNatClampNeg s2) t 14) (v4 - ((x_up σ (t + 11) s1.toNatClampNeg s2) (t + 11) v6.toNatClampNeg)) 300 (x_up σ (t + 11) s1.toNatClampNeg s2) τ)))
def wX6_setPlatoon_75 (t : Nat) (K15 : Int32 → Int32 → Int32 → Int32 → Int32 → x_S → x_L → Prop) (Q : x_S → x_L → Prop) (v1 : Int32) (v2 : Int32) (v3 : Int32) (v4 : Int32) (v5 : Int32) (v6 : Int32) (s1 : Int32) (s2 : Int32) (σ : x_S) (τ : x_L) : Prop :=
  vp_in s1 120 ∧ (wX6_closesUpAt t (t + 6) 120 v1 v5 (x_up σ (t + 10) s1.toNatClampNeg s2) τ (fun r90 σ90 τ90 => vp_in v6 120 ∧ ((¬ v5 = v1 → wX6_shareByDistance ((x_up σ90 (t + 12) v6.toNatClampNeg (vp_nar .boolean r90)) (t + 10) v6.toNatClampNeg) (x_up σ90 (t + 12) v6.toNatClampNeg (vp_nar .boolean r90)) τ90 (fun r119 σ119 τ119 => wX6_setPlatoon_127 t K15 Q v1 v2 v3 v4 v5 v6 v6 ((v4 * r119) / 1000) σ119 τ119)) ∧ (v5 = v1 → wX6_setPlatoon_127 t K15 Q v1 v2 v3 v4 v5 v6 v6 0 (x_up σ90 (t + 12) v6.toNatClampNeg (vp_nar .boolean r90)) τ90))))
def wX6_setPlatoon_234 (t : Nat) (Q : x_S → x_L → Prop) (σ : x_S) (τ : x_L) : Prop :=
  Q σ τ
def wX6_setPlatoon_15 (t : Nat) (Q : x_S → x_L → Prop) (K15 : Int32 → Int32 → Int32 → Int32 → Int32 → x_S → x_L → Prop) (v1 : Int32) (v2 : Int32) (v3 : Int32) (v4 : Int32) (v5 : Int32) (σ : x_S) (τ : x_L) : Prop :=
  (v2 ≤ v5 → ((v2 - v1) ≤ 1 → wX6_setPlatoon_234 t Q σ τ) ∧ (¬ (v2 - v1) ≤ 1 → vp_in v1 120 ∧ (vp_in (v1 + 1) 120 ∧ (vp_in (σ (t + 6) (v1 + 1).toNatClampNeg) 120 ∧ (wX6_shareByDistance (σ (t + 10) (σ (t + 6) (v1 + 1).toNatClampNeg).toNatClampNeg) σ τ (fun r203 σ203 τ203 => vp_in (σ (t + 6) v1.toNatClampNeg) 120 ∧ (vp_in ((x_up σ203 (t + 11) ((σ (t + 6) v1.toNatClampNeg).toNatClampNeg) ((v4 * (r203 / 4)) / 1000)) (t + 6) v1.toNatClampNeg) 120 ∧ (wX6_setPlatoon_234 t Q (x_up (x_up σ203 (t + 11) ((σ (t + 6) v1.toNatClampNeg).toNatClampNeg) ((v4 * (r203 / 4)) / 1000)) t 14 (((x_up σ203 (t + 11) ((σ (t + 6) v1.toNatClampNeg).toNatClampNeg) ((v4 * (r203 / 4)) / 1000)) t 14) - ((x_up σ203 (t + 11) ((σ (t + 6) v1.toNatClampNeg).toNatClampNeg) ((v4 * (r203 / 4)) / 1000)) (t + 11) ((x_up σ203 (t + 11) ((σ (t + 6) v1.toNatClampNeg).toNatClampNeg) ((v4 * (r203 / 4)) / 1000)) (t + 6) v1.toNatClampNeg).toNatClampNeg))) τ203)))))))) ∧ (¬ v2 ≤ v5 → vp_in v5 120 ∧ (vp_in (σ (t + 6) v5.toNatClampNeg) 120 ∧ ((¬ v5 = v1 → wX6_distanceAt t (t + 6) 120 v5 (x_up (x_up σ (t + 7) ((σ (t + 6) v5.toNatClampNeg).toNatClampNeg) v3) (t + 8) ((σ (t + 6) v5.toNatClampNeg).toNatClampNeg) (v5 - v1)) τ (fun r72 σ72 τ72 => wX6_setPlatoon_75 t K15 Q v1 v2 v3 v4 v5 (σ (t + 6) v5.toNatClampNeg) (σ (t + 6) v5.toNatClampNeg) r72 σ72 τ72)) ∧ (v5 = v1 → wX6_setPlatoon_75 t K15 Q v1 v2 v3 v4 v5 (σ (t + 6) v5.toNatClampNeg) (σ (t + 6) v5.toNatClampNeg) 0 (x_up (x_up σ (t + 7) ((σ (t + 6) v5.toNatClampNeg).toNatClampNeg) v3) (t + 8) ((σ (t + 6) v5.toNatClampNeg).toNatClampNeg) (v5 - v1)) τ))))
def wX6_setPlatoon (t : Nat) (a1 : Int32) (a2 : Int32) (a3 : Int32) (σ : x_S) (τ : x_L) (Q : x_S → x_L → Prop) : Prop :=
  vp_in a1 120 ∧ (wX6_base t (σ (t + 6) a1.toNatClampNeg) σ τ (fun r7 σ7 τ7 => x_l5 (wX6_setPlatoon_15 t Q) a1 a2 a3 r7 a1 σ7 τ7))
def wX6_isAhead_40 (t : Nat) (Q : Int32 → x_S → x_L → Prop) (s0 : Int32) (σ : x_S) (τ : x_L) : Prop :=
  (s0 = 0 ∨ s0 = 1) ∧ Q s0 σ τ
def wX6_isAhead_35 (t : Nat) (Q : Int32 → x_S → x_L → Prop) (σ : x_S) (τ : x_L) : Prop :=
  wX6_isAhead_40 t Q 1 σ τ
def wX6_isAhead_39 (t : Nat) (Q : Int32 → x_S → x_L → Prop) (σ : x_S) (τ : x_L) : Prop :=
  wX6_isAhead_40 t Q 0 σ τ
def wX6_isAhead (t : Nat) (a1 : Int32) (a2 : Int32) (σ : x_S) (τ : x_L) (Q : Int32 → x_S → x_L → Prop) : Prop :=
  vp_in a1 120 ∧ (vp_in a2 120 ∧ (((σ (t + 9) a2.toNatClampNeg) < (σ (t + 9) a1.toNatClampNeg) → wX6_isAhead_35 t Q σ τ) ∧ (¬ (σ (t + 9) a2.toNatClampNeg) < (σ (t + 9) a1.toNatClampNeg) → (¬ (σ (t + 9) a1.toNatClampNeg) = (σ (t + 9) a2.toNatClampNeg) → wX6_isAhead_39 t Q σ τ) ∧ ((σ (t + 9) a1.toNatClampNeg) = (σ (t + 9) a2.toNatClampNeg) → (a2 ≤ a1 → wX6_isAhead_39 t Q σ τ) ∧ (¬ a2 ≤ a1 → wX6_isAhead_35 t Q σ τ)))))
def wX6_sortByKey_66 (t : Nat) (K4 : Int32 → Int32 → Int32 → x_S → x_L → Prop) (Q : x_S → x_L → Prop) (v1 : Int32) (v2 : Int32) (v3 : Int32) (v4 : Int32) (v5 : Int32) (σ : x_S) (τ : x_L) : Prop :=
  vp_in v5 120 ∧ (K4 v1 v2 (v3 + 1) (x_up σ (t + 6) v5.toNatClampNeg v4) τ)
def wX6_sortByKey_20 (t : Nat) (K4 : Int32 → Int32 → Int32 → x_S → x_L → Prop) (Q : x_S → x_L → Prop) (K20 : Int32 → Int32 → Int32 → Int32 → Int32 → x_S → x_L → Prop) (v1 : Int32) (v2 : Int32) (v3 : Int32) (v4 : Int32) (v5 : Int32) (σ : x_S) (τ : x_L) : Prop :=
  (v5 ≤ v1 → wX6_sortByKey_66 t K4 Q v1 v2 v3 v4 v5 σ τ) ∧ (¬ v5 ≤ v1 → vp_in (v5 - 1) 120 ∧ (wX6_isAhead t v4 (σ (t + 6) (v5 - 1).toNatClampNeg) σ τ (fun r38 σ38 τ38 => (r38 = 0 → wX6_sortByKey_66 t K4 Q v1 v2 v3 v4 v5 σ38 τ38) ∧ (¬ r38 = 0 → vp_in v5 120 ∧ (K20 v1 v2 v3 v4 (v5 + (-1)) (x_up σ38 (t + 6) v5.toNatClampNeg (σ38 (t + 6) (v5 - 1).toNatClampNeg)) τ38)))))
def wX6_sortByKey_4 (t : Nat) (Q : x_S → x_L → Prop) (K4 : Int32 → Int32 → Int32 → x_S → x_L → Prop) (v1 : Int32) (v2 : Int32) (v3 : Int32) (σ : x_S) (τ : x_L) : Prop :=
  (v2 ≤ v3 → Q σ τ) ∧ (¬ v2 ≤ v3 → vp_in v3 120 ∧ (x_l5 (wX6_sortByKey_20 t K4 Q) v1 v2 v3 (σ (t + 6) v3.toNatClampNeg) v3 σ τ))
def wX6_sortByKey (t : Nat) (a1 : Int32) (a2 : Int32) (σ : x_S) (τ : x_L) (Q : x_S → x_L → Prop) : Prop :=
  x_l3 (wX6_sortByKey_4 t Q) a1 a2 (a1 + 1) σ τ
def wX6_sortByTime_66 (t : Nat) (K4 : Int32 → Int32 → Int32 → x_S → x_L → Prop) (Q : x_S → x_L → Prop) (v1 : Int32) (v2 : Int32) (v3 : Int32) (v4 : Int32) (v5 : Int32) (σ : x_S) (τ : x_L) : Prop :=
  vp_in v5 120 ∧ (K4 v1 v2 (v3 + 1) (x_up σ (t + 6) v5.toNatClampNeg v4) τ)
def wX6_sortByTime_20 (t : Nat) (K4 : Int32 → Int32 → Int32 → x_S → x_L → Prop) (Q : x_S → x_L → Prop) (K20 : Int32 → Int32 → Int32 → Int32 → Int32 → x_S → x_L → Prop) (v1 : Int32) (v2 : Int32) (v3 : Int32) (v4 : Int32) (v5 : Int32) (σ : x_S) (τ : x_L) : Prop :=
  (v5 ≤ v1 → wX6_sortByTime_66 t K4 Q v1 v2 v3 v4 v5 σ τ) ∧ (¬ v5 ≤ v1 → vp_in (v5 - 1) 120 ∧ (wX6_isEarlier t v4 (σ (t + 6) (v5 - 1).toNatClampNeg) σ τ (fun r38 σ38 τ38 => (r38 = 0 → wX6_sortByTime_66 t K4 Q v1 v2 v3 v4 v5 σ38 τ38) ∧ (¬ r38 = 0 → vp_in v5 120 ∧ (K20 v1 v2 v3 v4 (v5 + (-1)) (x_up σ38 (t + 6) v5.toNatClampNeg (σ38 (t + 6) (v5 - 1).toNatClampNeg)) τ38)))))
def wX6_sortByTime_4 (t : Nat) (Q : x_S → x_L → Prop) (K4 : Int32 → Int32 → Int32 → x_S → x_L → Prop) (v1 : Int32) (v2 : Int32) (v3 : Int32) (σ : x_S) (τ : x_L) : Prop :=
  (v2 ≤ v3 → Q σ τ) ∧ (¬ v2 ≤ v3 → vp_in v3 120 ∧ (x_l5 (wX6_sortByTime_20 t K4 Q) v1 v2 v3 (σ (t + 6) v3.toNatClampNeg) v3 σ τ))
def wX6_sortByTime (t : Nat) (a1 : Int32) (a2 : Int32) (σ : x_S) (τ : x_L) (Q : x_S → x_L → Prop) : Prop :=
  x_l3 (wX6_sortByTime_4 t Q) a1 a2 (a1 + 1) σ τ
def wX6_arrange_139 (t : Nat) (K31 : Int32 → x_S → x_L → Prop) (K78 : Int32 → Int32 → Int32 → Int32 → Int32 → x_S → x_L → Prop) (Q : x_S → x_L → Prop) (v1 : Int32) (v2 : Int32) (v3 : Int32) (v4 : Int32) (v5 : Int32) (σ : x_S) (τ : x_L) : Prop :=
  K78 v1 v2 v3 v4 (v5 + 1) σ τ
def wX6_arrange_110 (t : Nat) (K31 : Int32 → x_S → x_L → Prop) (K78 : Int32 → Int32 → Int32 → Int32 → Int32 → x_S → x_L → Prop) (Q : x_S → x_L → Prop) (v1 : Int32) (v2 : Int32) (v3 : Int32) (v4 : Int32) (v5 : Int32) (σ : x_S) (τ : x_L) : Prop :=
  wX6_setKeys t v2 v5 σ τ (fun σ114 τ114 => wX6_sortByKey t v2 v5 σ114 τ114 (fun σ121 τ121 => wX6_setPlatoon t v2 v5 v4 σ121 τ121 (fun σ130 τ130 => wX6_arrange_139 t K31 K78 Q v1 v5 v3 (v4 + 1) v5 σ130 τ130)))
def wX6_arrange_78 (t : Nat) (K31 : Int32 → x_S → x_L → Prop) (Q : x_S → x_L → Prop) (K78 : Int32 → Int32 → Int32 → Int32 → Int32 → x_S → x_L → Prop) (v1 : Int32) (v2 : Int32) (v3 : Int32) (v4 : Int32) (v5 : Int32) (σ : x_S) (τ : x_L) : Prop :=
  (v3 < v5 → K31 (v1 + 1) σ τ) ∧ (¬ v3 < v5 → (v5 = v3 → wX6_arrange_110 t K31 K78 Q v1 v2 v3 v4 v5 σ τ) ∧ (¬ v5 = v3 → vp_in v2 120 ∧ (vp_in v5 120 ∧ (wX6_isEarlier t (σ (t + 6) v2.toNatClampNeg) (σ (t + 6) v5.toNatClampNeg) σ τ (fun r104 σ104 τ104 => (r104 = 0 → wX6_arrange_139 t K31 K78 Q v1 v2 v3 v4 v5 σ104 τ104) ∧ (¬ r104 = 0 → wX6_arrange_110 t K31 K78 Q v1 v2 v3 v4 v5 σ104 τ104))))))
def wX6_arrange_31 (t : Nat) (Q : x_S → x_L → Prop) (K31 : Int32 → x_S → x_L → Prop) (v1 : Int32) (σ : x_S) (τ : x_L) : Prop :=
  ((σ 3 0) ≤ v1 → Q σ τ) ∧ (¬ (σ 3 0) ≤ v1 → vp_in v1 31 ∧ (vp_in (v1 + 1) 31 ∧ (wX6_sortByTime t (σ 29 v1.toNatClampNeg) (σ 29 (v1 + 1).toNatClampNeg) σ τ (fun σ67 τ67 => x_l5 (wX6_arrange_78 t K31 Q) v1 (σ 29 v1.toNatClampNeg) (σ 29 (v1 + 1).toNatClampNeg) 0 ((σ 29 v1.toNatClampNeg) + 1) σ67 τ67))))
def wX6_arrange_2 (t : Nat) (Q : x_S → x_L → Prop) (K2 : Int32 → x_S → x_L → Prop) (v1 : Int32) (σ : x_S) (τ : x_L) : Prop :=
  ((σ 3 5) ≤ v1 → x_l1 (wX6_arrange_31 t Q) 0 (x_up σ t 14 0) τ) ∧ (¬ (σ 3 5) ≤ v1 → wX6_setTimes t v1 σ τ (fun σ15 τ15 => K2 (v1 + 1) σ15 τ15))
def wX6_arrange (t : Nat) (σ : x_S) (τ : x_L) (Q : x_S → x_L → Prop) : Prop :=
  x_l1 (wX6_arrange_2 t Q) 0 σ τ
def wX6_begin_36 (t : Nat) (K20 : Int32 → x_S → x_L → Prop) (Q : x_S → x_L → Prop) (K36 : Int32 → Int32 → x_S → x_L → Prop) (v1 : Int32) (v2 : Int32) (σ : x_S) (τ : x_L) : Prop :=
  vp_in v1 12 ∧ (((σ 30 v1.toNatClampNeg) ≤ v2 → K20 (v1 + 1) σ τ) ∧ (¬ (σ 30 v1.toNatClampNeg) ≤ v2 → vp_in v2 120 ∧ (vp_in ((x_up σ (t + 2) v2.toNatClampNeg 0) 12 v2.toNatClampNeg) 30 ∧ (K36 v1 (v2 + 1) (x_up (x_up σ (t + 2) v2.toNatClampNeg 0) (t + 3) v2.toNatClampNeg (if ((x_up σ (t + 2) v2.toNatClampNeg 0) 7 ((x_up σ (t + 2) v2.toNatClampNeg 0) 12 v2.toNatClampNeg).toNatClampNeg) < 80 then ((x_up σ (t + 2) v2.toNatClampNeg 0) 7 ((x_up σ (t + 2) v2.toNatClampNeg 0) 12 v2.toNatClampNeg).toNatClampNeg) else 80)) τ))))
def wX6_begin_20 (t : Nat) (Q : x_S → x_L → Prop) (K20 : Int32 → x_S → x_L → Prop) (v1 : Int32) (σ : x_S) (τ : x_L) : Prop :=
  ((σ 3 5) ≤ v1 → wX6_arrange t (x_cp σ 28 ((0 : Int32).toNatClampNeg) (t + 6) ((0 : Int32).toNatClampNeg) ((120 : Int32).toNatClampNeg)) τ (fun σ115 τ115 => Q σ115 τ115)) ∧ (¬ (σ 3 5) ≤ v1 → x_l2 (wX6_begin_36 t K20 Q) v1 (v1 * 10) σ τ)
def wX6_begin (t : Nat) (σ : x_S) (τ : x_L) (Q : x_S → x_L → Prop) : Prop :=
  x_l1 (wX6_begin_20 t Q) 0 (x_cp σ 8 ((0 : Int32).toNatClampNeg) (t + 1) ((0 : Int32).toNatClampNeg) ((12 : Int32).toNatClampNeg)) τ
def wX6_platoonsOn_44 (t : Nat) (Q : Int32 → x_S → x_L → Prop) (s0 : Int32) (σ : x_S) (τ : x_L) : Prop :=
  Q s0 σ τ
def wX6_platoonsOn (t : Nat) (a1 : Int32) (σ : x_S) (τ : x_L) (Q : Int32 → x_S → x_L → Prop) : Prop :=
  vp_in (a1 + 1) 31 ∧ (vp_in a1 31 ∧ (((σ 29 (a1 + 1).toNatClampNeg) ≤ (σ 29 a1.toNatClampNeg) → wX6_platoonsOn_44 t Q 0 σ τ) ∧ (¬ (σ 29 (a1 + 1).toNatClampNeg) ≤ (σ 29 a1.toNatClampNeg) → vp_in ((σ 29 (a1 + 1).toNatClampNeg) - 1) 120 ∧ (vp_in (σ (t + 6) ((σ 29 (a1 + 1).toNatClampNeg) - 1).toNatClampNeg) 120 ∧ (wX6_platoonsOn_44 t Q ((σ (t + 7) (σ (t + 6) ((σ 29 (a1 + 1).toNatClampNeg) - 1).toNatClampNeg).toNatClampNeg) + 1) σ τ)))))
def wX6_firstOf_46 (t : Nat) (Q : Int32 → x_S → x_L → Prop) (v3 : Int32) (σ : x_S) (τ : x_L) : Prop :=
  Q v3 σ τ
def wX6_firstOf_10 (t : Nat) (Q : Int32 → x_S → x_L → Prop) (K10 : Int32 → Int32 → Int32 → x_S → x_L → Prop) (v1 : Int32) (v2 : Int32) (v3 : Int32) (σ : x_S) (τ : x_L) : Prop :=
  vp_in (v1 + 1) 31 ∧ (((σ 29 (v1 + 1).toNatClampNeg) ≤ v3 → wX6_firstOf_46 t Q v3 σ τ) ∧ (¬ (σ 29 (v1 + 1).toNatClampNeg) ≤ v3 → vp_in v3 120 ∧ (vp_in (σ (t + 6) v3.toNatClampNeg) 120 ∧ ((v2 ≤ (σ (t + 7) (σ (t + 6) v3.toNatClampNeg).toNatClampNeg) → wX6_firstOf_46 t Q v3 σ τ) ∧ (¬ v2 ≤ (σ (t + 7) (σ (t + 6) v3.toNatClampNeg).toNatClampNeg) → K10 v1 v2 (v3 + 1) σ τ)))))
def wX6_firstOf (t : Nat) (a1 : Int32) (a2 : Int32) (σ : x_S) (τ : x_L) (Q : Int32 → x_S → x_L → Prop) : Prop :=
  vp_in a1 31 ∧ (x_l3 (wX6_firstOf_10 t Q) a1 a2 (σ 29 a1.toNatClampNeg) σ τ)
def wX6_afterPlatoon_48 (t : Nat) (Q : Int32 → x_S → x_L → Prop) (v3 : Int32) (σ : x_S) (τ : x_L) : Prop :=
  Q v3 σ τ
def wX6_afterPlatoon_2 (t : Nat) (Q : Int32 → x_S → x_L → Prop) (K2 : Int32 → Int32 → Int32 → x_S → x_L → Prop) (v1 : Int32) (v2 : Int32) (v3 : Int32) (σ : x_S) (τ : x_L) : Prop :=
  vp_in (v1 + 1) 31 ∧ (((σ 29 (v1 + 1).toNatClampNeg) ≤ v3 → wX6_afterPlatoon_48 t Q v3 σ τ) ∧ (¬ (σ 29 (v1 + 1).toNatClampNeg) ≤ v3 → vp_in v3 120 ∧ (vp_in (σ (t + 6) v3.toNatClampNeg) 120 ∧ (vp_in v2 120 ∧ (vp_in (σ (t + 6) v2.toNatClampNeg) 120 ∧ ((¬ (σ (t + 7) (σ (t + 6) v3.toNatClampNeg).toNatClampNeg) = (σ (t + 7) (σ (t + 6) v2.toNatClampNeg).toNatClampNeg) → wX6_afterPlatoon_48 t Q v3 σ τ) ∧ ((σ (t + 7) (σ (t + 6) v3.toNatClampNeg).toNatClampNeg) = (σ (t + 7) (σ (t + 6) v2.toNatClampNeg).toNatClampNeg) → K2 v1 v2 (v3 + 1) σ τ)))))))
def wX6_afterPlatoon (t : Nat) (a1 : Int32) (a2 : Int32) (σ : x_S) (τ : x_L) (Q : Int32 → x_S → x_L → Prop) : Prop :=
  x_l3 (wX6_afterPlatoon_2 t Q) a1 a2 a2 σ τ
def wX6_leastTimelySpeed_36 (t : Nat) (Q : Int32 → x_S → x_L → Prop) (K36 : Int32 → Int32 → Int32 → Int32 → Int32 → x_S → x_L → Prop) (v1 : Int32) (v2 : Int32) (v3 : Int32) (v4 : Int32) (v5 : Int32) (σ : x_S) (τ : x_L) : Prop :=
  vp_in v2 120 ∧ (((σ (t + 3) v2.toNatClampNeg) ≤ v5 → Q (σ (t + 3) v2.toNatClampNeg) σ τ) ∧ (¬ (σ (t + 3) v2.toNatClampNeg) ≤ v5 → wX1_minutes v3 v5 σ τ (fun r56 σ56 τ56 => vp_in v1 12 ∧ (((σ56 9 v1.toNatClampNeg) < (v4 + r56) → K36 v1 v2 v3 v4 (v5 + 1) σ56 τ56) ∧ (¬ (σ56 9 v1.toNatClampNeg) < (v4 + r56) → Q v5 σ56 τ56)))))
def wX6_leastTimelySpeed (t : Nat) (a1 : Int32) (a2 : Int32) (σ : x_S) (τ : x_L) (Q : Int32 → x_S → x_L → Prop) : Prop :=
  vp_in a2 120 ∧ (wX6_arrival t a1 σ τ (fun r12 σ12 τ12 => wX1_minutes (σ 12 a2.toNatClampNeg) (σ12 (t + 3) a2.toNatClampNeg) σ12 τ12 (fun r26 σ26 τ26 => x_l5 (wX6_leastTimelySpeed_36 t Q) a1 a2 (σ 12 a2.toNatClampNeg) (r12 - r26) 40 σ26 τ26)))
def wX6_fuel_28 (t : Nat) (Q : Int32 → x_S → x_L → Prop) (s0 : Int32) (s1 : Int32) (σ : x_S) (τ : x_L) : Prop :=
  Q (s0 + s1) σ τ
def wX6_fuel (t : Nat) (a1 : Int32) (σ : x_S) (τ : x_L) (Q : Int32 → x_S → x_L → Prop) : Prop :=
  wX6_base t a1 σ τ (fun r2 σ2 τ2 => vp_in a1 120 ∧ (((σ2 (t + 12) a1.toNatClampNeg) = 0 → wX6_fuel_28 t Q (r2 - (σ2 (t + 11) a1.toNatClampNeg)) 0 σ2 τ2) ∧ (¬ (σ2 (t + 12) a1.toNatClampNeg) = 0 → wX6_fuel_28 t Q (r2 - (σ2 (t + 11) a1.toNatClampNeg)) 300 σ2 τ2)))
def wX7_allStops (σ : x_S) (τ : x_L) (Q : Int32 → x_S → x_L → Prop) : Prop :=
  vp_in (σ 3 0) 31 ∧ (Q (σ 29 (σ 3 0).toNatClampNeg) σ τ)
def wX6_allBases_4 (t : Nat) (Q : Int32 → x_S → x_L → Prop) (K4 : Int32 → Int32 → x_S → x_L → Prop) (v1 : Int32) (v2 : Int32) (σ : x_S) (τ : x_L) : Prop :=
  wX7_allStops σ τ (fun r9 σ9 τ9 => (r9 ≤ v2 → Q v1 σ9 τ9) ∧ (¬ r9 ≤ v2 → vp_in v2 120 ∧ (wX6_base t (σ9 (t + 6) v2.toNatClampNeg) σ9 τ9 (fun r23 σ23 τ23 => K4 (v1 + r23) (v2 + 1) σ23 τ23))))
def wX6_allBases (t : Nat) (σ : x_S) (τ : x_L) (Q : Int32 → x_S → x_L → Prop) : Prop :=
  x_l2 (wX6_allBases_4 t Q) 0 0 σ τ
def wX6_fuelOf_7 (t : Nat) (Q : Int32 → x_S → x_L → Prop) (K7 : Int32 → Int32 → Int32 → x_S → x_L → Prop) (v1 : Int32) (v2 : Int32) (v3 : Int32) (σ : x_S) (τ : x_L) : Prop :=
  vp_in v1 12 ∧ (((σ 30 v1.toNatClampNeg) ≤ v3 → Q v2 σ τ) ∧ (¬ (σ 30 v1.toNatClampNeg) ≤ v3 → wX6_fuel t v3 σ τ (fun r23 σ23 τ23 => K7 v1 (v2 + r23) (v3 + 1) σ23 τ23)))
def wX6_fuelOf (t : Nat) (a1 : Int32) (σ : x_S) (τ : x_L) (Q : Int32 → x_S → x_L → Prop) : Prop :=
  x_l3 (wX6_fuelOf_7 t Q) a1 0 (a1 * 10) σ τ
def wX6_savedBy_7 (t : Nat) (Q : Int32 → x_S → x_L → Prop) (K7 : Int32 → Int32 → Int32 → x_S → x_L → Prop) (v1 : Int32) (v2 : Int32) (v3 : Int32) (σ : x_S) (τ : x_L) : Prop :=
  vp_in v1 12 ∧ (((σ 30 v1.toNatClampNeg) ≤ v3 → Q v2 σ τ) ∧ (¬ (σ 30 v1.toNatClampNeg) ≤ v3 → vp_in v3 120 ∧ (K7 v1 (v2 + (σ (t + 11) v3.toNatClampNeg)) (v3 + 1) σ τ)))
def wX6_savedBy (t : Nat) (a1 : Int32) (σ : x_S) (τ : x_L) (Q : Int32 → x_S → x_L → Prop) : Prop :=
  x_l3 (wX6_savedBy_7 t Q) a1 0 (a1 * 10) σ τ
def wX6_closedBy_32 (t : Nat) (K7 : Int32 → Int32 → Int32 → x_S → x_L → Prop) (Q : Int32 → x_S → x_L → Prop) (v1 : Int32) (v2 : Int32) (v3 : Int32) (σ : x_S) (τ : x_L) : Prop :=
  K7 v1 v2 (v3 + 1) σ τ
def wX6_closedBy_7 (t : Nat) (Q : Int32 → x_S → x_L → Prop) (K7 : Int32 → Int32 → Int32 → x_S → x_L → Prop) (v1 : Int32) (v2 : Int32) (v3 : Int32) (σ : x_S) (τ : x_L) : Prop :=
  vp_in v1 12 ∧ (((σ 30 v1.toNatClampNeg) ≤ v3 → Q v2 σ τ) ∧ (¬ (σ 30 v1.toNatClampNeg) ≤ v3 → vp_in v3 120 ∧ (((σ (t + 12) v3.toNatClampNeg) = 0 → wX6_closedBy_32 t K7 Q v1 v2 v3 σ τ) ∧ (¬ (σ (t + 12) v3.toNatClampNeg) = 0 → wX6_closedBy_32 t K7 Q v1 (v2 + 1) v3 σ τ))))
def wX6_closedBy (t : Nat) (a1 : Int32) (σ : x_S) (τ : x_L) (Q : Int32 → x_S → x_L → Prop) : Prop :=
  x_l3 (wX6_closedBy_7 t Q) a1 0 (a1 * 10) σ τ
def wX6_savedOnRows_5 (t : Nat) (Q : Int32 → x_S → x_L → Prop) (K5 : Int32 → Int32 → Int32 → x_S → x_L → Prop) (v2 : Int32) (v3 : Int32) (v4 : Int32) (σ : x_S) (τ : x_L) : Prop :=
  (v2 ≤ v4 → Q v3 σ τ) ∧ (¬ v2 ≤ v4 → vp_in v4 120 ∧ (vp_in (σ (t + 6) v4.toNatClampNeg) 120 ∧ (K5 v2 (v3 + (σ (t + 11) (σ (t + 6) v4.toNatClampNeg).toNatClampNeg)) (v4 + 1) σ τ)))
def wX6_savedOnRows (t : Nat) (a1 : Int32) (a2 : Int32) (σ : x_S) (τ : x_L) (Q : Int32 → x_S → x_L → Prop) : Prop :=
  x_l3 (wX6_savedOnRows_5 t Q) a2 0 a1 σ τ
def wX6_closedOnRows_29 (t : Nat) (K5 : Int32 → Int32 → Int32 → x_S → x_L → Prop) (Q : Int32 → x_S → x_L → Prop) (v2 : Int32) (v3 : Int32) (v4 : Int32) (σ : x_S) (τ : x_L) : Prop :=
  K5 v2 v3 (v4 + 1) σ τ
def wX6_closedOnRows_5 (t : Nat) (Q : Int32 → x_S → x_L → Prop) (K5 : Int32 → Int32 → Int32 → x_S → x_L → Prop) (v2 : Int32) (v3 : Int32) (v4 : Int32) (σ : x_S) (τ : x_L) : Prop :=
  (v2 ≤ v4 → Q v3 σ τ) ∧ (¬ v2 ≤ v4 → vp_in v4 120 ∧ (vp_in (σ (t + 6) v4.toNatClampNeg) 120 ∧ (((σ (t + 12) (σ (t + 6) v4.toNatClampNeg).toNatClampNeg) = 0 → wX6_closedOnRows_29 t K5 Q v2 v3 v4 σ τ) ∧ (¬ (σ (t + 12) (σ (t + 6) v4.toNatClampNeg).toNatClampNeg) = 0 → wX6_closedOnRows_29 t K5 Q v2 (v3 + 1) v4 σ τ))))
def wX6_closedOnRows (t : Nat) (a1 : Int32) (a2 : Int32) (σ : x_S) (τ : x_L) (Q : Int32 → x_S → x_L → Prop) : Prop :=
  x_l3 (wX6_closedOnRows_5 t Q) a2 0 a1 σ τ
def wX6_trucksOnRows_5 (t : Nat) (Q : Int32 → x_S → x_L → Prop) (K5 : Int32 → Int32 → Int32 → x_S → x_L → Prop) (v2 : Int32) (v3 : Int32) (v4 : Int32) (σ : x_S) (τ : x_L) : Prop :=
  (v2 ≤ v4 → Q v3 σ τ) ∧ (¬ v2 ≤ v4 → vp_in v4 120 ∧ (K5 v2 (v3 ||| (1 <<< (((σ (t + 6) v4.toNatClampNeg) / 10) &&& 31))) (v4 + 1) σ τ))
def wX6_trucksOnRows (t : Nat) (a1 : Int32) (a2 : Int32) (σ : x_S) (τ : x_L) (Q : Int32 → x_S → x_L → Prop) : Prop :=
  x_l3 (wX6_trucksOnRows_5 t Q) a2 0 a1 σ τ
def wX6_inCompany_14 (t : Nat) (Q : Int32 → x_S → x_L → Prop) (s0 : Int32) (σ : x_S) (τ : x_L) : Prop :=
  (s0 = 0 ∨ s0 = 1) ∧ Q s0 σ τ
def wX6_inCompany (t : Nat) (a1 : Int32) (σ : x_S) (τ : x_L) (Q : Int32 → x_S → x_L → Prop) : Prop :=
  vp_in a1 120 ∧ (((σ (t + 9) a1.toNatClampNeg) ≤ 0 → wX6_inCompany_14 t Q 0 σ τ) ∧ (¬ (σ (t + 9) a1.toNatClampNeg) ≤ 0 → wX6_inCompany_14 t Q 1 σ τ))
def wX6_meetsOthers_5 (t : Nat) (Q : Int32 → x_S → x_L → Prop) (K5 : Int32 → Int32 → x_S → x_L → Prop) (v1 : Int32) (v2 : Int32) (σ : x_S) (τ : x_L) : Prop :=
  vp_in v1 12 ∧ (((σ 30 v1.toNatClampNeg) ≤ v2 → Q 0 σ τ) ∧ (¬ (σ 30 v1.toNatClampNeg) ≤ v2 → wX6_inCompany t v2 σ τ (fun r20 σ20 τ20 => (r20 = 0 → K5 v1 (v2 + 1) σ20 τ20) ∧ (¬ r20 = 0 → Q 1 σ20 τ20))))
def wX6_meetsOthers (t : Nat) (a1 : Int32) (σ : x_S) (τ : x_L) (Q : Int32 → x_S → x_L → Prop) : Prop :=
  x_l2 (wX6_meetsOthers_5 t Q) a1 (a1 * 10) σ τ
def wX6_inOnePlatoon_41 (t : Nat) (Q : Int32 → x_S → x_L → Prop) (s0 : Int32) (σ : x_S) (τ : x_L) : Prop :=
  (s0 = 0 ∨ s0 = 1) ∧ Q s0 σ τ
def wX6_inOnePlatoon_40 (t : Nat) (Q : Int32 → x_S → x_L → Prop) (σ : x_S) (τ : x_L) : Prop :=
  wX6_inOnePlatoon_41 t Q 0 σ τ
def wX6_inOnePlatoon (t : Nat) (a1 : Int32) (a2 : Int32) (σ : x_S) (τ : x_L) (Q : Int32 → x_S → x_L → Prop) : Prop :=
  vp_in a1 120 ∧ (vp_in a2 120 ∧ ((¬ (σ 12 a1.toNatClampNeg) = (σ 12 a2.toNatClampNeg) → wX6_inOnePlatoon_40 t Q σ τ) ∧ ((σ 12 a1.toNatClampNeg) = (σ 12 a2.toNatClampNeg) → (¬ (σ (t + 7) a1.toNatClampNeg) = (σ (t + 7) a2.toNatClampNeg) → wX6_inOnePlatoon_40 t Q σ τ) ∧ ((σ (t + 7) a1.toNatClampNeg) = (σ (t + 7) a2.toNatClampNeg) → wX6_inOnePlatoon_41 t Q 1 σ τ))))
def wX6_savedByPair_33 (t : Nat) (Q : Int32 → x_S → x_L → Prop) (σ : x_S) (τ : x_L) : Prop :=
  Q 0 σ τ
def wX6_savedByPair_87 (t : Nat) (Q : Int32 → x_S → x_L → Prop) (s0 : Int32) (s1 : Int32) (σ : x_S) (τ : x_L) : Prop :=
  Q (s0 + s1) σ τ
def wX6_savedByPair_57 (t : Nat) (Q : Int32 → x_S → x_L → Prop) (v4 : Int32) (s0 : Int32) (σ : x_S) (τ : x_L) : Prop :=
  vp_in s0 120 ∧ (vp_in v4 120 ∧ ((¬ (σ (t + 8) v4.toNatClampNeg) = 0 → wX6_savedByPair_87 t Q (σ (t + 11) s0.toNatClampNeg) 0 σ τ) ∧ ((σ (t + 8) v4.toNatClampNeg) = 0 → wX6_savedByPair_87 t Q (σ (t + 11) s0.toNatClampNeg) (σ (t + 11) v4.toNatClampNeg) σ τ)))
def wX6_savedByPair_45 (t : Nat) (Q : Int32 → x_S → x_L → Prop) (v1 : Int32) (v2 : Int32) (v3 : Int32) (s0 : Int32) (σ : x_S) (τ : x_L) : Prop :=
  (¬ v3 = 1 → wX6_savedByPair_57 t Q s0 v1 σ τ) ∧ (v3 = 1 → wX6_savedByPair_57 t Q s0 v2 σ τ)
def wX6_savedByPair_35 (t : Nat) (Q : Int32 → x_S → x_L → Prop) (v1 : Int32) (v2 : Int32) (v3 : Int32) (σ : x_S) (τ : x_L) : Prop :=
  (¬ v3 = 1 → wX6_savedByPair_45 t Q v1 v2 v3 v2 σ τ) ∧ (v3 = 1 → wX6_savedByPair_45 t Q v1 v2 v3 v1 σ τ)
def wX6_savedByPair (t : Nat) (a1 : Int32) (a2 : Int32) (σ : x_S) (τ : x_L) (Q : Int32 → x_S → x_L → Prop) : Prop :=
  vp_in a2 120 ∧ (vp_in a1 120 ∧ (wX6_inOnePlatoon t a1 a2 σ τ (fun r17 σ17 τ17 => (r17 = 0 → wX6_savedByPair_33 t Q σ17 τ17) ∧ (¬ r17 = 0 → (((σ (t + 8) a2.toNatClampNeg) - (σ (t + 8) a1.toNatClampNeg)) = 1 → wX6_savedByPair_35 t Q a1 a2 ((σ (t + 8) a2.toNatClampNeg) - (σ (t + 8) a1.toNatClampNeg)) σ17 τ17) ∧ (¬ ((σ (t + 8) a2.toNatClampNeg) - (σ (t + 8) a1.toNatClampNeg)) = 1 → (((σ (t + 8) a2.toNatClampNeg) - (σ (t + 8) a1.toNatClampNeg)) = (-1) → wX6_savedByPair_35 t Q a1 a2 ((σ (t + 8) a2.toNatClampNeg) - (σ (t + 8) a1.toNatClampNeg)) σ17 τ17) ∧ (¬ ((σ (t + 8) a2.toNatClampNeg) - (σ (t + 8) a1.toNatClampNeg)) = (-1) → wX6_savedByPair_33 t Q σ17 τ17))))))
def wX7_listByRoad_77 (K4 : Int32 → Int32 → x_S → x_L → Prop) (K24 : Int32 → Int32 → Int32 → x_S → x_L → Prop) (K41 : Int32 → Int32 → Int32 → Int32 → x_S → x_L → Prop) (Q : x_S → x_L → Prop) (v1 : Int32) (v2 : Int32) (v3 : Int32) (v4 : Int32) (σ : x_S) (τ : x_L) : Prop :=
  K41 v1 v2 v3 (v4 + 1) σ τ
def wX7_listByRoad_41 (K4 : Int32 → Int32 → x_S → x_L → Prop) (K24 : Int32 → Int32 → Int32 → x_S → x_L → Prop) (Q : x_S → x_L → Prop) (K41 : Int32 → Int32 → Int32 → Int32 → x_S → x_L → Prop) (v1 : Int32) (v2 : Int32) (v3 : Int32) (v4 : Int32) (σ : x_S) (τ : x_L) : Prop :=
  vp_in v3 12 ∧ (((σ 30 v3.toNatClampNeg) ≤ v4 → K24 v1 v2 (v3 + 1) σ τ) ∧ (¬ (σ 30 v3.toNatClampNeg) ≤ v4 → vp_in v4 120 ∧ ((¬ (σ 12 v4.toNatClampNeg) = v2 → wX7_listByRoad_77 K4 K24 K41 Q v1 v2 v3 v4 σ τ) ∧ ((σ 12 v4.toNatClampNeg) = v2 → vp_in v1 120 ∧ (wX7_listByRoad_77 K4 K24 K41 Q (v1 + 1) v2 v3 v4 (x_up σ 28 v1.toNatClampNeg v4) τ)))))
def wX7_listByRoad_24 (K4 : Int32 → Int32 → x_S → x_L → Prop) (Q : x_S → x_L → Prop) (K24 : Int32 → Int32 → Int32 → x_S → x_L → Prop) (v1 : Int32) (v2 : Int32) (v3 : Int32) (σ : x_S) (τ : x_L) : Prop :=
  ((σ 3 5) ≤ v3 → K4 v1 (v2 + 1) σ τ) ∧ (¬ (σ 3 5) ≤ v3 → x_l4 (wX7_listByRoad_41 K4 K24 Q) v1 v2 v3 (v3 * 10) σ τ)
def wX7_listByRoad_4 (Q : x_S → x_L → Prop) (K4 : Int32 → Int32 → x_S → x_L → Prop) (v1 : Int32) (v2 : Int32) (σ : x_S) (τ : x_L) : Prop :=
  ((σ 3 0) ≤ v2 → vp_in (σ 3 0) 31 ∧ (Q (x_up σ 29 ((σ 3 0).toNatClampNeg) v1) τ)) ∧ (¬ (σ 3 0) ≤ v2 → vp_in v2 31 ∧ (x_l3 (wX7_listByRoad_24 K4 Q) v1 v2 0 (x_up σ 29 v2.toNatClampNeg v1) τ))
def wX7_listByRoad (σ : x_S) (τ : x_L) (Q : x_S → x_L → Prop) : Prop :=
  x_l2 (wX7_listByRoad_4 Q) 0 0 σ τ
def wX7_setNext_27 (K2 : Int32 → x_S → x_L → Prop) (Q : x_S → x_L → Prop) (K27 : Int32 → Int32 → Int32 → x_S → x_L → Prop) (v1 : Int32) (v2 : Int32) (v3 : Int32) (σ : x_S) (τ : x_L) : Prop :=
  (v2 ≤ v3 → vp_in v2 120 ∧ (K2 (v1 + 1) (x_up σ 31 v2.toNatClampNeg (-1)) τ)) ∧ (¬ v2 ≤ v3 → vp_in (v3 + 1) 120 ∧ (vp_in v3 120 ∧ (K27 v1 v2 (v3 + 1) (x_up σ 31 v3.toNatClampNeg (σ 12 (v3 + 1).toNatClampNeg)) τ)))
def wX7_setNext_2 (Q : x_S → x_L → Prop) (K2 : Int32 → x_S → x_L → Prop) (v1 : Int32) (σ : x_S) (τ : x_L) : Prop :=
  ((σ 3 5) ≤ v1 → Q σ τ) ∧ (¬ (σ 3 5) ≤ v1 → vp_in v1 12 ∧ (x_l3 (wX7_setNext_27 K2 Q) v1 ((σ 30 v1.toNatClampNeg) - 1) (v1 * 10) σ τ))
def wX7_setNext (σ : x_S) (τ : x_L) (Q : x_S → x_L → Prop) : Prop :=
  x_l1 (wX7_setNext_2 Q) 0 σ τ
def wX7_setShared_147 (K9 : Int32 → Int32 → Int32 → x_S → x_L → Prop) (K39 : Int32 → Int32 → Int32 → Int32 → x_S → x_L → Prop) (Q : x_S → x_L → Prop) (v1 : Int32) (v2 : Int32) (v3 : Int32) (v4 : Int32) (σ : x_S) (τ : x_L) : Prop :=
  K39 v1 v2 v3 (v4 + (-1)) σ τ
def wX7_setShared_121 (K9 : Int32 → Int32 → Int32 → x_S → x_L → Prop) (K39 : Int32 → Int32 → Int32 → Int32 → x_S → x_L → Prop) (Q : x_S → x_L → Prop) (v1 : Int32) (v2 : Int32) (v3 : Int32) (v4 : Int32) (s0 : Int64) (σ : x_S) (τ : x_L) : Prop :=
  vp_in ((v3 * 12) + v2) 1440 ∧ (wX7_setShared_147 K9 K39 Q v1 v2 v3 v4 σ (x_upL τ 32 (((v3 * 12) + v2).toNatClampNeg) ((τ 32 ((v3 * 12) + v2).toNatClampNeg) ||| (s0 <<< (((4 * (v4 - v4 / 10 * 10)) : Int32).toInt64 &&& 63)))))
def wX7_setShared_96 (K9 : Int32 → Int32 → Int32 → x_S → x_L → Prop) (K39 : Int32 → Int32 → Int32 → Int32 → x_S → x_L → Prop) (Q : x_S → x_L → Prop) (v1 : Int32) (v2 : Int32) (v3 : Int32) (v4 : Int32) (s0 : Int32) (σ : x_S) (τ : x_L) : Prop :=
  (s0 = 0 → wX7_setShared_121 K9 K39 Q v1 v2 v3 v4 1 σ τ) ∧ (¬ s0 = 0 → wX7_sharedPlaces (v3 + 1) (v4 + 1) σ τ (fun r112 σ112 τ112 => wX7_setShared_121 K9 K39 Q v1 v2 v3 v4 (1 + ((r112 : Int32).toInt64)) σ112 τ112))
def wX7_setShared_95 (K9 : Int32 → Int32 → Int32 → x_S → x_L → Prop) (K39 : Int32 → Int32 → Int32 → Int32 → x_S → x_L → Prop) (Q : x_S → x_L → Prop) (v1 : Int32) (v2 : Int32) (v3 : Int32) (v4 : Int32) (σ : x_S) (τ : x_L) : Prop :=
  wX7_setShared_96 K9 K39 Q v1 v2 v3 v4 0 σ τ
def wX7_setShared_39 (K9 : Int32 → Int32 → Int32 → x_S → x_L → Prop) (Q : x_S → x_L → Prop) (K39 : Int32 → Int32 → Int32 → Int32 → x_S → x_L → Prop) (v1 : Int32) (v2 : Int32) (v3 : Int32) (v4 : Int32) (σ : x_S) (τ : x_L) : Prop :=
  (v4 < (v2 * 10) → K9 v1 v2 (v3 + (-1)) σ τ) ∧ (¬ v4 < (v2 * 10) → vp_in v3 120 ∧ (vp_in v4 120 ∧ ((¬ (σ 12 v3.toNatClampNeg) = (σ 12 v4.toNatClampNeg) → wX7_setShared_147 K9 K39 Q v1 v2 v3 v4 σ τ) ∧ ((σ 12 v3.toNatClampNeg) = (σ 12 v4.toNatClampNeg) → ((σ 31 v3.toNatClampNeg) = (-1) → wX7_setShared_95 K9 K39 Q v1 v2 v3 v4 σ τ) ∧ (¬ (σ 31 v3.toNatClampNeg) = (-1) → ((σ 31 v4.toNatClampNeg) = (-1) → wX7_setShared_95 K9 K39 Q v1 v2 v3 v4 σ τ) ∧ (¬ (σ 31 v4.toNatClampNeg) = (-1) → wX7_setShared_96 K9 K39 Q v1 v2 v3 v4 1 σ τ))))))
def wX7_setShared_9 (Q : x_S → x_L → Prop) (K9 : Int32 → Int32 → Int32 → x_S → x_L → Prop) (v1 : Int32) (v2 : Int32) (v3 : Int32) (σ : x_S) (τ : x_L) : Prop :=
  (v3 < (v1 * 10) → Q σ τ) ∧ (¬ v3 < (v1 * 10) → vp_in ((v3 * 12) + v2) 1440 ∧ (vp_in v2 12 ∧ (x_l4 (wX7_setShared_39 K9 Q) v1 v2 v3 ((σ 30 v2.toNatClampNeg) - 1) σ (x_upL τ 32 (((v3 * 12) + v2).toNatClampNeg) 0))))
def wX7_setShared (a1 : Int32) (a2 : Int32) (σ : x_S) (τ : x_L) (Q : x_S → x_L → Prop) : Prop :=
  vp_in a1 12 ∧ (x_l3 (wX7_setShared_9 Q) a1 a2 ((σ 30 a1.toNatClampNeg) - 1) σ τ)
def wX7_prepare_61 (K48 : Int32 → x_S → x_L → Prop) (Q : x_S → x_L → Prop) (K61 : Int32 → Int32 → x_S → x_L → Prop) (v1 : Int32) (v2 : Int32) (σ : x_S) (τ : x_L) : Prop :=
  ((σ 3 5) ≤ v2 → K48 (v1 + 1) σ τ) ∧ (¬ (σ 3 5) ≤ v2 → wX7_setShared v1 v2 σ τ (fun σ75 τ75 => K61 v1 (v2 + 1) σ75 τ75))
def wX7_prepare_48 (Q : x_S → x_L → Prop) (K48 : Int32 → x_S → x_L → Prop) (v1 : Int32) (σ : x_S) (τ : x_L) : Prop :=
  ((σ 3 5) ≤ v1 → Q σ τ) ∧ (¬ (σ 3 5) ≤ v1 → x_l2 (wX7_prepare_61 K48 Q) v1 0 σ τ)
def wX7_prepare_2 (Q : x_S → x_L → Prop) (K2 : Int32 → x_S → x_L → Prop) (v1 : Int32) (σ : x_S) (τ : x_L) : Prop :=
  ((σ 3 5) ≤ v1 → wX7_listByRoad σ τ (fun σ39 τ39 => wX7_setNext σ39 τ39 (fun σ43 τ43 => x_l1 (wX7_prepare_48 Q) 0 σ43 τ43))) ∧ (¬ (σ 3 5) ≤ v1 → vp_in v1 12 ∧ (wX10_stopAt v1 (σ 11 v1.toNatClampNeg) σ τ (fun r28 σ28 τ28 => K2 (v1 + 1) (x_up σ28 30 v1.toNatClampNeg r28) τ28)))
def wX7_prepare (σ : x_S) (τ : x_L) (Q : x_S → x_L → Prop) : Prop :=
  x_l1 (wX7_prepare_2 Q) 0 σ τ
def wX7_trucksOn_9 (Q : Int32 → x_S → x_L → Prop) (K9 : Int32 → Int32 → Int32 → x_S → x_L → Prop) (v1 : Int32) (v2 : Int32) (v3 : Int32) (σ : x_S) (τ : x_L) : Prop :=
  vp_in (v1 + 1) 31 ∧ (((σ 29 (v1 + 1).toNatClampNeg) ≤ v3 → Q v2 σ τ) ∧ (¬ (σ 29 (v1 + 1).toNatClampNeg) ≤ v3 → vp_in v3 120 ∧ (K9 v1 (v2 ||| (1 <<< (((σ 28 v3.toNatClampNeg) / 10) &&& 31))) (v3 + 1) σ τ)))
def wX7_trucksOn (a1 : Int32) (σ : x_S) (τ : x_L) (Q : Int32 → x_S → x_L → Prop) : Prop :=
  vp_in a1 31 ∧ (x_l3 (wX7_trucksOn_9 Q) a1 0 (σ 29 a1.toNatClampNeg) σ τ)
def wX7_isOn_17 (Q : Int32 → x_S → x_L → Prop) (s0 : Int32) (σ : x_S) (τ : x_L) : Prop :=
  (s0 = 0 ∨ s0 = 1) ∧ Q s0 σ τ
def wX7_isOn (a1 : Int32) (a2 : Int32) (σ : x_S) (τ : x_L) (Q : Int32 → x_S → x_L → Prop) : Prop :=
  wX7_trucksOn a2 σ τ (fun r2 σ2 τ2 => (((r2 >>> (a1 &&& 31)) &&& 1) = 0 → wX7_isOn_17 Q 0 σ2 τ2) ∧ (¬ ((r2 >>> (a1 &&& 31)) &&& 1) = 0 → wX7_isOn_17 Q 1 σ2 τ2))
def wX8_word (a1 : Int32) (σ : x_S) (τ : x_L) (Q : Int32 → x_S → x_L → Prop) : Prop :=
  vp_in a1 30 ∧ (Q (σ 25 a1.toNatClampNeg) σ τ)
def wX8_argument (a1 : Int32) (a2 : Int32) (σ : x_S) (τ : x_L) (Q : Int32 → x_S → x_L → Prop) : Prop :=
  vp_in ((a1 * 3) + a2) 90 ∧ (Q (σ 26 ((a1 * 3) + a2).toNatClampNeg) σ τ)
def wX8_commandWord_81 (Q : Int32 → x_S → x_L → Prop) (s0 : Int32) (σ : x_S) (τ : x_L) : Prop :=
  Q s0 σ τ
def wX8_commandWord (σ : x_S) (τ : x_L) (Q : Int32 → x_S → x_L → Prop) : Prop :=
  wX9_isWord 2 σ τ (fun r3 σ3 τ3 => (r3 = 0 → wX9_isWord 3 σ3 τ3 (fun r14 σ14 τ14 => (r14 = 0 → wX9_isWord 4 σ14 τ14 (fun r25 σ25 τ25 => (r25 = 0 → wX9_isWord 5 σ25 τ25 (fun r36 σ36 τ36 => (r36 = 0 → wX9_isWord 6 σ36 τ36 (fun r47 σ47 τ47 => (r47 = 0 → wX9_isWord 7 σ47 τ47 (fun r58 σ58 τ58 => (r58 = 0 → wX9_isWord 8 σ58 τ58 (fun r69 σ69 τ69 => (r69 = 0 → wX8_commandWord_81 Q (-1) σ69 τ69) ∧ (¬ r69 = 0 → wX8_commandWord_81 Q 6 σ69 τ69))) ∧ (¬ r58 = 0 → Q 5 σ58 τ58))) ∧ (¬ r47 = 0 → Q 4 σ47 τ47))) ∧ (¬ r36 = 0 → Q 3 σ36 τ36))) ∧ (¬ r25 = 0 → Q 2 σ25 τ25))) ∧ (¬ r14 = 0 → Q 1 σ14 τ14))) ∧ (¬ r3 = 0 → Q 0 σ3 τ3))
def wX8_argumentsOf_40 (Q : Int32 → x_S → x_L → Prop) (σ : x_S) (τ : x_L) : Prop :=
  Q 3 σ τ
def wX8_argumentsOf_42 (Q : Int32 → x_S → x_L → Prop) (σ : x_S) (τ : x_L) : Prop :=
  Q 2 σ τ
def wX8_argumentsOf_44 (Q : Int32 → x_S → x_L → Prop) (σ : x_S) (τ : x_L) : Prop :=
  Q 1 σ τ
def wX8_argumentsOf (a0 : Int32) (σ : x_S) (τ : x_L) (Q : Int32 → x_S → x_L → Prop) : Prop :=
  (a0 = 0 → wX8_argumentsOf_40 Q σ τ) ∧ (a0 = 1 → wX8_argumentsOf_40 Q σ τ) ∧ (a0 = 2 → wX8_argumentsOf_42 Q σ τ) ∧ (a0 = 3 → wX8_argumentsOf_42 Q σ τ) ∧ (a0 = 4 → wX8_argumentsOf_44 Q σ τ) ∧ (a0 = 5 → wX8_argumentsOf_44 Q σ τ) ∧ (¬ a0 = 0 → ¬ a0 = 1 → ¬ a0 = 2 → ¬ a0 = 3 → ¬ a0 = 4 → ¬ a0 = 5 → Q 0 σ τ)
def wX8_mostOf_9 (Q : Int32 → x_S → x_L → Prop) (σ : x_S) (τ : x_L) : Prop :=
  Q 11 σ τ
def wX8_mostOf_40 (Q : Int32 → x_S → x_L → Prop) (s0 : Int32) (σ : x_S) (τ : x_L) : Prop :=
  Q s0 σ τ
def wX8_mostOf (a0 : Int32) (a1 : Int32) (σ : x_S) (τ : x_L) (Q : Int32 → x_S → x_L → Prop) : Prop :=
  (a1 = 0 → wX8_mostOf_9 Q σ τ) ∧ (¬ a1 = 0 → (¬ a0 = 3 → (¬ a0 = 2 → (¬ a1 = 1 → (¬ a0 = 0 → wX8_mostOf_40 Q 120 σ τ) ∧ (a0 = 0 → wX8_mostOf_40 Q 120 σ τ)) ∧ (a1 = 1 → Q 9 σ τ)) ∧ (a0 = 2 → Q 2000 σ τ)) ∧ (a0 = 3 → wX8_mostOf_9 Q σ τ))
def wX8_readArguments_36 (K10 : Int32 → Int32 → Int32 → x_S → x_L → Prop) (Q : Int32 → x_S → x_L → Prop) (v2 : Int32) (v3 : Int32) (v4 : Int32) (s0 : Int32) (σ : x_S) (τ : x_L) : Prop :=
  wX8_mostOf v3 v4 σ τ (fun r44 σ44 τ44 => wX9_readNumber s0 r44 σ44 τ44 (fun r47 σ47 τ47 => (¬ r47 = 0 → vp_in ((v2 * 3) + v4) 90 ∧ (K10 v2 v3 (v4 + 1) (x_up σ47 26 (((v2 * 3) + v4).toNatClampNeg) (σ47 1 7)) τ47)) ∧ (r47 = 0 → Q 0 σ47 τ47)))
def wX8_readArguments_35 (K10 : Int32 → Int32 → Int32 → x_S → x_L → Prop) (Q : Int32 → x_S → x_L → Prop) (v2 : Int32) (v3 : Int32) (v4 : Int32) (σ : x_S) (τ : x_L) : Prop :=
  wX8_readArguments_36 K10 Q v2 v3 v4 0 σ τ
def wX8_readArguments_10 (Q : Int32 → x_S → x_L → Prop) (K10 : Int32 → Int32 → Int32 → x_S → x_L → Prop) (v2 : Int32) (v3 : Int32) (v4 : Int32) (σ : x_S) (τ : x_L) : Prop :=
  wX8_argumentsOf v3 σ τ (fun r13 σ13 τ13 => (r13 ≤ v4 → Q 1 σ13 τ13) ∧ (¬ r13 ≤ v4 → (¬ v3 = 1 → wX8_readArguments_35 K10 Q v2 v3 v4 σ13 τ13) ∧ (v3 = 1 → (¬ v4 = 2 → wX8_readArguments_35 K10 Q v2 v3 v4 σ13 τ13) ∧ (v4 = 2 → wX8_readArguments_36 K10 Q v2 v3 v4 40 σ13 τ13))))
def wX8_readArguments (a2 : Int32) (σ : x_S) (τ : x_L) (Q : Int32 → x_S → x_L → Prop) : Prop :=
  vp_in a2 30 ∧ (x_l3 (wX8_readArguments_10 Q) a2 (σ 25 a2.toNatClampNeg) 0 σ τ)
def wX8_read_77 (Q : Int32 → x_S → x_L → Prop) (σ : x_S) (τ : x_L) : Prop :=
  Q 0 σ τ
def wX8_read_7 (Q : Int32 → x_S → x_L → Prop) (K7 : Int32 → x_S → x_L → Prop) (v2 : Int32) (σ : x_S) (τ : x_L) : Prop :=
  (30 < v2 → Q 0 σ τ) ∧ (¬ 30 < v2 → wX9_next σ τ (fun σ14 τ14 => (¬ (σ14 1 4) = 0 → wX8_commandWord σ14 τ14 (fun r27 σ27 τ27 => (¬ r27 = (-1) → (¬ v2 = 30 → vp_in v2 30 ∧ (wX8_readArguments v2 (x_up σ27 25 v2.toNatClampNeg r27) τ27 (fun r64 σ64 τ64 => (r64 = 0 → wX8_read_77 Q σ64 τ64) ∧ (¬ r64 = 0 → wX9_readSemicolon σ64 τ64 (fun r71 σ71 τ71 => (¬ r71 = 0 → K7 (v2 + 1) (x_up σ71 24 0 (v2 + 1)) τ71) ∧ (r71 = 0 → wX8_read_77 Q σ71 τ71)))))) ∧ (v2 = 30 → wX9_fail 4 σ27 τ27 (fun r50 σ50 τ50 => (r50 = 0 ∨ r50 = 1) ∧ Q r50 σ50 τ50))) ∧ (r27 = (-1) → wX9_fail 1 σ27 τ27 (fun r38 σ38 τ38 => (r38 = 0 ∨ r38 = 1) ∧ Q r38 σ38 τ38)))) ∧ ((σ14 1 4) = 0 → Q 1 σ14 τ14)))
def wX8_read (σ : x_S) (τ : x_L) (Q : Int32 → x_S → x_L → Prop) : Prop :=
  x_l1 (wX8_read_7 Q) 0 (x_up σ 24 0 0) τ
def wX9_append_46 (Q : x_S → x_L → Prop) (σ : x_S) (τ : x_L) : Prop :=
  Q σ τ
def wX9_append_3 (Q : x_S → x_L → Prop) (K3 : Int32 → Int32 → x_S → x_L → Prop) (v1 : Int32) (v2 : Int32) (σ : x_S) (τ : x_L) : Prop :=
  (v2 < 0 → wX9_append_46 Q σ τ) ∧ (¬ v2 < 0 → (1500 ≤ (σ 1 1) → wX9_append_46 Q σ τ) ∧ (¬ 1500 ≤ (σ 1 1) → vp_in (σ 1 1) 1500 ∧ (K3 v1 (v2 + (-8)) (x_up (x_up σ 2 ((σ 1 1).toNatClampNeg) (vp_nar .byte (((v1 >>> (v2 &&& 31)) : Int32).toInt8.toInt32))) 1 1 (((x_up σ 2 ((σ 1 1).toNatClampNeg) (vp_nar .byte (((v1 >>> (v2 &&& 31)) : Int32).toInt8.toInt32))) 1 1) + 1)) τ)))
def wX9_append (a1 : Int32) (σ : x_S) (τ : x_L) (Q : x_S → x_L → Prop) : Prop :=
  x_l2 (wX9_append_3 Q) a1 24 σ τ
def wX9_open (σ : x_S) (τ : x_L) (Q : x_S → x_L → Prop) : Prop :=
  Q (x_up (x_up (x_up σ 1 6 0) 1 2 0) 1 3 (-1)) τ
def wX10_appendInput (a1 : Int32) (a2 : Int32) (a3 : Int32) (a4 : Int32) (a5 : Int32) (σ : x_S) (τ : x_L) (Q : Int32 → x_S → x_L → Prop) : Prop :=
  (((σ 1 1) + 20) ≤ 1500 → wX9_append a1 σ τ (fun σ23 τ23 => wX9_append a2 σ23 τ23 (fun σ31 τ31 => wX9_append a3 σ31 τ31 (fun σ39 τ39 => wX9_append a4 σ39 τ39 (fun σ48 τ48 => wX9_append a5 σ48 τ48 (fun σ57 τ57 => Q (σ57 1 1) σ57 τ57)))))) ∧ (¬ ((σ 1 1) + 20) ≤ 1500 → Q (-1) σ τ)
def wX10_truncateInput_15 (Q : Int32 → x_S → x_L → Prop) (σ : x_S) (τ : x_L) : Prop :=
  Q (-1) σ τ
def wX10_truncateInput (a1 : Int32) (σ : x_S) (τ : x_L) (Q : Int32 → x_S → x_L → Prop) : Prop :=
  (a1 < 0 → wX10_truncateInput_15 Q σ τ) ∧ (¬ a1 < 0 → (a1 ≤ (σ 1 1) → Q a1 (x_up σ 1 1 a1) τ) ∧ (¬ a1 ≤ (σ 1 1) → wX10_truncateInput_15 Q σ τ))
def wX10_load (σ : x_S) (τ : x_L) (Q : Int32 → x_S → x_L → Prop) : Prop :=
  wX9_open σ τ (fun σ4 τ4 => wX3_read σ4 τ4 (fun r15 σ15 τ15 => (¬ r15 = 0 → wX1_copy (x_up σ15 1 1 0) τ15 (fun σ45 τ45 => wX7_prepare σ45 τ45 (fun σ52 τ52 => wX6_begin 33 σ52 τ52 (fun σ59 τ59 => wX2_forgetEdits σ59 τ59 (fun σ66 τ66 => wX2_forgetSnapshots σ66 τ66 (fun σ73 τ73 => Q (σ73 3 5) σ73 τ73)))))) ∧ (r15 = 0 → Q (-2) (x_up σ15 1 1 0) τ15)))
def wX10_errorCode (σ : x_S) (τ : x_L) (Q : Int32 → x_S → x_L → Prop) : Prop :=
  Q (σ 1 2) σ τ
def wX10_errorPosition (σ : x_S) (τ : x_L) (Q : Int32 → x_S → x_L → Prop) : Prop :=
  Q (σ 1 3) σ τ
def wJ6_bitCount_0f7a4 (a0 : Int32) (σ : x_S) (τ : x_L) (Q : Int32 → x_S → x_L → Prop) : Prop :=
  Q ((((((((a0 - ((((a0 : Int32).toUInt32 >>> ((1 : Int32).toUInt32 &&& Int32.toUInt32 31)).toInt32) &&& 1431655765)) &&& 858993459) + (((((a0 - ((((a0 : Int32).toUInt32 >>> ((1 : Int32).toUInt32 &&& Int32.toUInt32 31)).toInt32) &&& 1431655765)) : Int32).toUInt32 >>> ((2 : Int32).toUInt32 &&& Int32.toUInt32 31)).toInt32) &&& 858993459)) + ((((((a0 - ((((a0 : Int32).toUInt32 >>> ((1 : Int32).toUInt32 &&& Int32.toUInt32 31)).toInt32) &&& 1431655765)) &&& 858993459) + (((((a0 - ((((a0 : Int32).toUInt32 >>> ((1 : Int32).toUInt32 &&& Int32.toUInt32 31)).toInt32) &&& 1431655765)) : Int32).toUInt32 >>> ((2 : Int32).toUInt32 &&& Int32.toUInt32 31)).toInt32) &&& 858993459)) : Int32).toUInt32 >>> ((4 : Int32).toUInt32 &&& Int32.toUInt32 31)).toInt32)) &&& 252645135) + ((((((((a0 - ((((a0 : Int32).toUInt32 >>> ((1 : Int32).toUInt32 &&& Int32.toUInt32 31)).toInt32) &&& 1431655765)) &&& 858993459) + (((((a0 - ((((a0 : Int32).toUInt32 >>> ((1 : Int32).toUInt32 &&& Int32.toUInt32 31)).toInt32) &&& 1431655765)) : Int32).toUInt32 >>> ((2 : Int32).toUInt32 &&& Int32.toUInt32 31)).toInt32) &&& 858993459)) + ((((((a0 - ((((a0 : Int32).toUInt32 >>> ((1 : Int32).toUInt32 &&& Int32.toUInt32 31)).toInt32) &&& 1431655765)) &&& 858993459) + (((((a0 - ((((a0 : Int32).toUInt32 >>> ((1 : Int32).toUInt32 &&& Int32.toUInt32 31)).toInt32) &&& 1431655765)) : Int32).toUInt32 >>> ((2 : Int32).toUInt32 &&& Int32.toUInt32 31)).toInt32) &&& 858993459)) : Int32).toUInt32 >>> ((4 : Int32).toUInt32 &&& Int32.toUInt32 31)).toInt32)) &&& 252645135) : Int32).toUInt32 >>> ((8 : Int32).toUInt32 &&& Int32.toUInt32 31)).toInt32)) + (((((((((a0 - ((((a0 : Int32).toUInt32 >>> ((1 : Int32).toUInt32 &&& Int32.toUInt32 31)).toInt32) &&& 1431655765)) &&& 858993459) + (((((a0 - ((((a0 : Int32).toUInt32 >>> ((1 : Int32).toUInt32 &&& Int32.toUInt32 31)).toInt32) &&& 1431655765)) : Int32).toUInt32 >>> ((2 : Int32).toUInt32 &&& Int32.toUInt32 31)).toInt32) &&& 858993459)) + ((((((a0 - ((((a0 : Int32).toUInt32 >>> ((1 : Int32).toUInt32 &&& Int32.toUInt32 31)).toInt32) &&& 1431655765)) &&& 858993459) + (((((a0 - ((((a0 : Int32).toUInt32 >>> ((1 : Int32).toUInt32 &&& Int32.toUInt32 31)).toInt32) &&& 1431655765)) : Int32).toUInt32 >>> ((2 : Int32).toUInt32 &&& Int32.toUInt32 31)).toInt32) &&& 858993459)) : Int32).toUInt32 >>> ((4 : Int32).toUInt32 &&& Int32.toUInt32 31)).toInt32)) &&& 252645135) + ((((((((a0 - ((((a0 : Int32).toUInt32 >>> ((1 : Int32).toUInt32 &&& Int32.toUInt32 31)).toInt32) &&& 1431655765)) &&& 858993459) + (((((a0 - ((((a0 : Int32).toUInt32 >>> ((1 : Int32).toUInt32 &&& Int32.toUInt32 31)).toInt32) &&& 1431655765)) : Int32).toUInt32 >>> ((2 : Int32).toUInt32 &&& Int32.toUInt32 31)).toInt32) &&& 858993459)) + ((((((a0 - ((((a0 : Int32).toUInt32 >>> ((1 : Int32).toUInt32 &&& Int32.toUInt32 31)).toInt32) &&& 1431655765)) &&& 858993459) + (((((a0 - ((((a0 : Int32).toUInt32 >>> ((1 : Int32).toUInt32 &&& Int32.toUInt32 31)).toInt32) &&& 1431655765)) : Int32).toUInt32 >>> ((2 : Int32).toUInt32 &&& Int32.toUInt32 31)).toInt32) &&& 858993459)) : Int32).toUInt32 >>> ((4 : Int32).toUInt32 &&& Int32.toUInt32 31)).toInt32)) &&& 252645135) : Int32).toUInt32 >>> ((8 : Int32).toUInt32 &&& Int32.toUInt32 31)).toInt32)) : Int32).toUInt32 >>> ((16 : Int32).toUInt32 &&& Int32.toUInt32 31)).toInt32)) &&& 63) σ τ
def wX10_companies_51 (K4 : Int32 → Int32 → x_S → x_L → Prop) (Q : Int32 → x_S → x_L → Prop) (v1 : Int32) (v2 : Int32) (σ : x_S) (τ : x_L) : Prop :=
  K4 v1 (v2 + 1) σ τ
def wX10_companies_4 (Q : Int32 → x_S → x_L → Prop) (K4 : Int32 → Int32 → x_S → x_L → Prop) (v1 : Int32) (v2 : Int32) (σ : x_S) (τ : x_L) : Prop :=
  wX7_allStops σ τ (fun r9 σ9 τ9 => (r9 ≤ v2 → Q v1 σ9 τ9) ∧ (¬ r9 ≤ v2 → vp_in v2 120 ∧ (vp_in (σ9 39 v2.toNatClampNeg) 120 ∧ ((¬ (σ9 41 (σ9 39 v2.toNatClampNeg).toNatClampNeg) = 0 → wX10_companies_51 K4 Q v1 v2 σ9 τ9) ∧ ((σ9 41 (σ9 39 v2.toNatClampNeg).toNatClampNeg) = 0 → wX6_inCompany 33 (σ9 39 v2.toNatClampNeg) σ9 τ9 (fun r42 σ42 τ42 => (r42 = 0 → wX10_companies_51 K4 Q v1 v2 σ42 τ42) ∧ (¬ r42 = 0 → wX10_companies_51 K4 Q (v1 + 1) v2 σ42 τ42)))))))
def wX10_companies (σ : x_S) (τ : x_L) (Q : Int32 → x_S → x_L → Prop) : Prop :=
  x_l2 (wX10_companies_4 Q) 0 0 σ τ
def wX10_greatestPlatoon_4 (Q : Int32 → x_S → x_L → Prop) (K4 : Int32 → Int32 → x_S → x_L → Prop) (v1 : Int32) (v2 : Int32) (σ : x_S) (τ : x_L) : Prop :=
  wX7_allStops σ τ (fun r9 σ9 τ9 => (r9 ≤ v2 → Q v1 σ9 τ9) ∧ (¬ r9 ≤ v2 → vp_in v2 120 ∧ (vp_in (σ9 39 v2.toNatClampNeg) 120 ∧ (K4 (if v1 < ((σ9 41 (σ9 39 v2.toNatClampNeg).toNatClampNeg) + 1) then ((σ9 41 (σ9 39 v2.toNatClampNeg).toNatClampNeg) + 1) else v1) (v2 + 1) σ9 τ9))))
def wX10_greatestPlatoon (σ : x_S) (τ : x_L) (Q : Int32 → x_S → x_L → Prop) : Prop :=
  x_l2 (wX10_greatestPlatoon_4 Q) 0 0 σ τ
def wX10_lateSet_32 (K4 : Int32 → Int32 → x_S → x_L → Prop) (Q : Int32 → x_S → x_L → Prop) (v1 : Int32) (v2 : Int32) (σ : x_S) (τ : x_L) : Prop :=
  K4 v1 (v2 + 1) σ τ
def wX10_lateSet_4 (Q : Int32 → x_S → x_L → Prop) (K4 : Int32 → Int32 → x_S → x_L → Prop) (v1 : Int32) (v2 : Int32) (σ : x_S) (τ : x_L) : Prop :=
  ((σ 3 5) ≤ v2 → Q v1 σ τ) ∧ (¬ (σ 3 5) ≤ v2 → wX6_isLate 33 v2 σ τ (fun r20 σ20 τ20 => (r20 = 0 → wX10_lateSet_32 K4 Q v1 v2 σ20 τ20) ∧ (¬ r20 = 0 → wX10_lateSet_32 K4 Q (v1 ||| (1 <<< (v2 &&& 31))) v2 σ20 τ20)))
def wX10_lateSet (σ : x_S) (τ : x_L) (Q : Int32 → x_S → x_L → Prop) : Prop :=
  x_l2 (wX10_lateSet_4 Q) 0 0 σ τ
def wX10_count (a1 : Int32) (σ : x_S) (τ : x_L) (Q : Int32 → x_S → x_L → Prop) : Prop :=
  (a1 = 0 → Q (σ 3 0) σ τ) ∧ (a1 = 1 → Q (σ 3 5) σ τ) ∧ (a1 = 2 → wX7_allStops σ τ (fun r76 σ76 τ76 => Q r76 σ76 τ76)) ∧ (a1 = 3 → wX10_companies σ τ (fun r81 σ81 τ81 => Q r81 σ81 τ81)) ∧ (a1 = 4 → wX10_lateSet σ τ (fun r86 σ86 τ86 => wJ6_bitCount_0f7a4 r86 σ86 τ86 (fun r89 σ89 τ89 => Q r89 σ89 τ89))) ∧ (a1 = 5 → Q (σ 33 14) σ τ) ∧ (a1 = 6 → wX7_allStops σ τ (fun r110 σ110 τ110 => wX6_savedOnRows 33 0 r110 σ110 τ110 (fun r113 σ113 τ113 => Q r113 σ113 τ113))) ∧ (a1 = 7 → wX7_allStops σ τ (fun r126 σ126 τ126 => wX6_closedOnRows 33 0 r126 σ126 τ126 (fun r129 σ129 τ129 => Q (r129 * 300) σ129 τ129))) ∧ (a1 = 8 → Q (σ 63 2) σ τ) ∧ (a1 = 9 → wX10_greatestPlatoon σ τ (fun r146 σ146 τ146 => Q r146 σ146 τ146)) ∧ (¬ a1 = 0 → ¬ a1 = 1 → ¬ a1 = 2 → ¬ a1 = 3 → ¬ a1 = 4 → ¬ a1 = 5 → ¬ a1 = 6 → ¬ a1 = 7 → ¬ a1 = 8 → ¬ a1 = 9 → Q (-1) σ τ)
def wX10_checkRoad (a1 : Int32) (σ : x_S) (τ : x_L) (Q : x_S → x_L → Prop) (QX : x_PE) : Prop :=
  wX1_hasRoad a1 σ τ (fun r5 σ5 τ5 => (¬ r5 = 0 → Q σ5 τ5) ∧ (r5 = 0 → QX "java/lang/IndexOutOfBoundsException" σ5 τ5))
def wX10_road (a1 : Int32) (a2 : Int32) (σ : x_S) (τ : x_L) (Q : Int32 → x_S → x_L → Prop) (QX : x_PE) : Prop :=
  wX10_checkRoad a1 σ τ (fun σ2 τ2 => (a2 = 0 → vp_in a1 30 ∧ (Q (σ2 4 a1.toNatClampNeg) σ2 τ2)) ∧ (a2 = 1 → vp_in a1 30 ∧ (Q (σ2 5 a1.toNatClampNeg) σ2 τ2)) ∧ (a2 = 2 → vp_in a1 30 ∧ (Q (σ2 6 a1.toNatClampNeg) σ2 τ2)) ∧ (a2 = 3 → vp_in a1 30 ∧ (Q (σ2 7 a1.toNatClampNeg) σ2 τ2)) ∧ (a2 = 4 → wX6_platoonsOn 33 a1 σ2 τ2 (fun r89 σ89 τ89 => Q r89 σ89 τ89)) ∧ (a2 = 5 → wX7_trucksOn a1 σ2 τ2 (fun r98 σ98 τ98 => wJ6_bitCount_0f7a4 r98 σ98 τ98 (fun r101 σ101 τ101 => Q r101 σ101 τ101))) ∧ (¬ a2 = 0 → ¬ a2 = 1 → ¬ a2 = 2 → ¬ a2 = 3 → ¬ a2 = 4 → ¬ a2 = 5 → Q (-1) σ2 τ2)) QX
def wX10_checkTruck (a1 : Int32) (σ : x_S) (τ : x_L) (Q : x_S → x_L → Prop) (QX : x_PE) : Prop :=
  wX1_hasTruck a1 σ τ (fun r5 σ5 τ5 => (¬ r5 = 0 → Q σ5 τ5) ∧ (r5 = 0 → QX "java/lang/IndexOutOfBoundsException" σ5 τ5))
def wX10_truck (a1 : Int32) (a2 : Int32) (σ : x_S) (τ : x_L) (Q : Int32 → x_S → x_L → Prop) (QX : x_PE) : Prop :=
  wX10_checkTruck a1 σ τ (fun σ2 τ2 => (a2 = 0 → vp_in a1 12 ∧ (Q (σ2 34 a1.toNatClampNeg) σ2 τ2)) ∧ (a2 = 1 → vp_in a1 12 ∧ (Q (σ2 9 a1.toNatClampNeg) σ2 τ2)) ∧ (a2 = 2 → vp_in a1 12 ∧ (Q (σ2 10 a1.toNatClampNeg) σ2 τ2)) ∧ (a2 = 3 → vp_in a1 12 ∧ (Q (σ2 11 a1.toNatClampNeg) σ2 τ2)) ∧ (a2 = 4 → wX6_arrival 33 a1 σ2 τ2 (fun r101 σ101 τ101 => Q r101 σ101 τ101)) ∧ (a2 = 5 → wX1_kilometers a1 σ2 τ2 (fun r110 σ110 τ110 => Q r110 σ110 τ110)) ∧ (a2 = 6 → wX6_fuelOf 33 a1 σ2 τ2 (fun r119 σ119 τ119 => Q r119 σ119 τ119)) ∧ (a2 = 7 → wX6_savedBy 33 a1 σ2 τ2 (fun r128 σ128 τ128 => Q r128 σ128 τ128)) ∧ (a2 = 8 → wX6_closedBy 33 a1 σ2 τ2 (fun r137 σ137 τ137 => Q r137 σ137 τ137)) ∧ (¬ a2 = 0 → ¬ a2 = 1 → ¬ a2 = 2 → ¬ a2 = 3 → ¬ a2 = 4 → ¬ a2 = 5 → ¬ a2 = 6 → ¬ a2 = 7 → ¬ a2 = 8 → Q (-1) σ2 τ2)) QX
def wX10_checkPlace (a1 : Int32) (a2 : Int32) (σ : x_S) (τ : x_L) (Q : x_S → x_L → Prop) (QX : x_PE) : Prop :=
  wX1_hasPlace a1 a2 σ τ (fun r6 σ6 τ6 => (¬ r6 = 0 → Q σ6 τ6) ∧ (r6 = 0 → QX "java/lang/IndexOutOfBoundsException" σ6 τ6))
def wX10_place_186 (Q : Int32 → x_S → x_L → Prop) (QX : x_PE) (s0 : Int32) (σ : x_S) (τ : x_L) : Prop :=
  Q s0 σ τ
def wX10_place (a1 : Int32) (a2 : Int32) (a3 : Int32) (σ : x_S) (τ : x_L) (Q : Int32 → x_S → x_L → Prop) (QX : x_PE) : Prop :=
  wX10_checkPlace a1 a2 σ τ (fun σ3 τ3 => wX10_stopAt a1 a2 σ3 τ3 (fun r8 σ8 τ8 => (a3 = 0 → vp_in r8 120 ∧ (Q (σ8 12 r8.toNatClampNeg) σ8 τ8)) ∧ (a3 = 1 → vp_in r8 120 ∧ (Q (σ8 35 r8.toNatClampNeg) σ8 τ8)) ∧ (a3 = 2 → vp_in r8 120 ∧ (Q (σ8 36 r8.toNatClampNeg) σ8 τ8)) ∧ (a3 = 3 → wX6_ready 33 a1 a2 σ8 τ8 (fun r111 σ111 τ111 => Q r111 σ111 τ111)) ∧ (a3 = 4 → vp_in r8 120 ∧ (Q (σ8 37 r8.toNatClampNeg) σ8 τ8)) ∧ (a3 = 5 → vp_in r8 120 ∧ (Q (σ8 38 r8.toNatClampNeg) σ8 τ8)) ∧ (a3 = 6 → wX6_base 33 r8 σ8 τ8 (fun r143 σ143 τ143 => Q r143 σ143 τ143)) ∧ (a3 = 7 → vp_in r8 120 ∧ (Q (σ8 44 r8.toNatClampNeg) σ8 τ8)) ∧ (a3 = 8 → wX6_fuel 33 r8 σ8 τ8 (fun r164 σ164 τ164 => Q r164 σ164 τ164)) ∧ (a3 = 9 → vp_in r8 120 ∧ (((σ8 45 r8.toNatClampNeg) = 0 → wX10_place_186 Q QX 0 σ8 τ8) ∧ (¬ (σ8 45 r8.toNatClampNeg) = 0 → wX10_place_186 Q QX 1 σ8 τ8))) ∧ (a3 = 10 → vp_in r8 120 ∧ (Q (σ8 43 r8.toNatClampNeg) σ8 τ8)) ∧ (¬ a3 = 0 → ¬ a3 = 1 → ¬ a3 = 2 → ¬ a3 = 3 → ¬ a3 = 4 → ¬ a3 = 5 → ¬ a3 = 6 → ¬ a3 = 7 → ¬ a3 = 8 → ¬ a3 = 9 → ¬ a3 = 10 → Q (-1) σ8 τ8))) QX
def wX10_platoonOf (a1 : Int32) (a2 : Int32) (σ : x_S) (τ : x_L) (Q : Int32 → x_S → x_L → Prop) (QX : x_PE) : Prop :=
  wX10_checkPlace a1 a2 σ τ (fun σ3 τ3 => wX10_stopAt a1 a2 σ3 τ3 (fun r15 σ15 τ15 => vp_in r15 120 ∧ (Q (σ15 40 r15.toNatClampNeg) σ15 τ15))) QX
def wX10_position (a1 : Int32) (a2 : Int32) (σ : x_S) (τ : x_L) (Q : Int32 → x_S → x_L → Prop) (QX : x_PE) : Prop :=
  wX10_checkPlace a1 a2 σ τ (fun σ3 τ3 => wX10_stopAt a1 a2 σ3 τ3 (fun r15 σ15 τ15 => vp_in r15 120 ∧ (Q (σ15 41 r15.toNatClampNeg) σ15 τ15))) QX
def wX10_key (a1 : Int32) (a2 : Int32) (σ : x_S) (τ : x_L) (Q : Int32 → x_S → x_L → Prop) (QX : x_PE) : Prop :=
  wX10_checkPlace a1 a2 σ τ (fun σ3 τ3 => wX10_stopAt a1 a2 σ3 τ3 (fun r15 σ15 τ15 => vp_in r15 120 ∧ (Q (σ15 42 r15.toNatClampNeg) σ15 τ15))) QX
def wX10_checkPlatoon_27 (Q : x_S → x_L → Prop) (QX : x_PE) (σ : x_S) (τ : x_L) : Prop :=
  QX "java/lang/IndexOutOfBoundsException" σ τ
def wX10_checkPlatoon (a1 : Int32) (a2 : Int32) (σ : x_S) (τ : x_L) (Q : x_S → x_L → Prop) (QX : x_PE) : Prop :=
  wX1_hasRoad a1 σ τ (fun r5 σ5 τ5 => (r5 = 0 → wX10_checkPlatoon_27 Q QX σ5 τ5) ∧ (¬ r5 = 0 → (a2 < 0 → wX10_checkPlatoon_27 Q QX σ5 τ5) ∧ (¬ a2 < 0 → wX6_platoonsOn 33 a1 σ5 τ5 (fun r21 σ21 τ21 => (a2 < r21 → Q σ21 τ21) ∧ (¬ a2 < r21 → wX10_checkPlatoon_27 Q QX σ21 τ21)))))
def wX10_platoon (a1 : Int32) (a2 : Int32) (a3 : Int32) (σ : x_S) (τ : x_L) (Q : Int32 → x_S → x_L → Prop) (QX : x_PE) : Prop :=
  wX10_checkPlatoon a1 a2 σ τ (fun σ3 τ3 => wX6_firstOf 33 a1 a2 σ3 τ3 (fun r12 σ12 τ12 => wX6_afterPlatoon 33 a1 r12 σ12 τ12 (fun r24 σ24 τ24 => (a3 = 0 → vp_in r12 120 ∧ (vp_in (σ24 39 r12.toNatClampNeg) 120 ∧ (Q (σ24 37 (σ24 39 r12.toNatClampNeg).toNatClampNeg) σ24 τ24))) ∧ (a3 = 1 → vp_in r12 120 ∧ (vp_in (σ24 39 r12.toNatClampNeg) 120 ∧ (Q (σ24 36 (σ24 39 r12.toNatClampNeg).toNatClampNeg) σ24 τ24))) ∧ (a3 = 2 → Q (r24 - r12) σ24 τ24) ∧ (a3 = 3 → wX6_savedOnRows 33 r12 r24 σ24 τ24 (fun r120 σ120 τ120 => Q r120 σ120 τ120)) ∧ (a3 = 4 → wX6_closedOnRows 33 r12 r24 σ24 τ24 (fun r132 σ132 τ132 => Q r132 σ132 τ132)) ∧ (a3 = 5 → wX6_trucksOnRows 33 r12 r24 σ24 τ24 (fun r144 σ144 τ144 => Q r144 σ144 τ144)) ∧ (¬ a3 = 0 → ¬ a3 = 1 → ¬ a3 = 2 → ¬ a3 = 3 → ¬ a3 = 4 → ¬ a3 = 5 → Q (-1) σ24 τ24)))) QX
def wX10_checkPosition (a0 : Int32) (σ : x_S) (τ : x_L) (Q : x_S → x_L → Prop) (QX : x_PE) : Prop :=
  (0 ≤ a0 → Q σ τ) ∧ (¬ 0 ≤ a0 → QX "java/lang/IndexOutOfBoundsException" σ τ)
def wX10_member_61 (Q : Int32 → x_S → x_L → Prop) (QX : x_PE) (s0 : Int32) (σ : x_S) (τ : x_L) : Prop :=
  Q s0 σ τ
def wX10_member (a1 : Int32) (a2 : Int32) (a3 : Int32) (σ : x_S) (τ : x_L) (Q : Int32 → x_S → x_L → Prop) (QX : x_PE) : Prop :=
  wX10_checkPlatoon a1 a2 σ τ (fun σ3 τ3 => wX10_checkPosition a3 σ3 τ3 (fun σ7 τ7 => wX6_firstOf 33 a1 a2 σ7 τ7 (fun r16 σ16 τ16 => wX6_afterPlatoon 33 a1 r16 σ16 τ16 (fun r28 σ28 τ28 => ((r28 - r16) ≤ a3 → wX10_member_61 Q QX (-1) σ28 τ28) ∧ (¬ (r28 - r16) ≤ a3 → vp_in (r16 + a3) 120 ∧ (wX10_member_61 Q QX ((σ28 39 (r16 + a3).toNatClampNeg) / 10) σ28 τ28))))) QX) QX
def wX10_together_77 (K26 : Int32 → Int32 → Int32 → Int32 → x_S → x_L → Prop) (K46 : Int32 → Int32 → Int32 → Int32 → Int32 → x_S → x_L → Prop) (Q : Int32 → x_S → x_L → Prop) (QX : x_PE) (v1 : Int32) (v2 : Int32) (v3 : Int32) (v4 : Int32) (v5 : Int32) (σ : x_S) (τ : x_L) : Prop :=
  K46 v1 v2 v3 v4 (v5 + 1) σ τ
def wX10_together_46 (K26 : Int32 → Int32 → Int32 → Int32 → x_S → x_L → Prop) (Q : Int32 → x_S → x_L → Prop) (QX : x_PE) (K46 : Int32 → Int32 → Int32 → Int32 → Int32 → x_S → x_L → Prop) (v1 : Int32) (v2 : Int32) (v3 : Int32) (v4 : Int32) (v5 : Int32) (σ : x_S) (τ : x_L) : Prop :=
  vp_in v2 12 ∧ (((σ 30 v2.toNatClampNeg) ≤ v5 → K26 v1 v2 v3 (v4 + 1) σ τ) ∧ (¬ (σ 30 v2.toNatClampNeg) ≤ v5 → wX6_inOnePlatoon 33 v4 v5 σ τ (fun r68 σ68 τ68 => (r68 = 0 → wX10_together_77 K26 K46 Q QX v1 v2 v3 v4 v5 σ68 τ68) ∧ (¬ r68 = 0 → wX10_together_77 K26 K46 Q QX v1 v2 (v3 + 1) v4 v5 σ68 τ68))))
def wX10_together_26 (Q : Int32 → x_S → x_L → Prop) (QX : x_PE) (K26 : Int32 → Int32 → Int32 → Int32 → x_S → x_L → Prop) (v1 : Int32) (v2 : Int32) (v3 : Int32) (v4 : Int32) (σ : x_S) (τ : x_L) : Prop :=
  vp_in v1 12 ∧ (((σ 30 v1.toNatClampNeg) ≤ v4 → Q v3 σ τ) ∧ (¬ (σ 30 v1.toNatClampNeg) ≤ v4 → x_l5 (wX10_together_46 K26 Q QX) v1 v2 v3 v4 (v2 * 10) σ τ))
def wX10_together (a1 : Int32) (a2 : Int32) (σ : x_S) (τ : x_L) (Q : Int32 → x_S → x_L → Prop) (QX : x_PE) : Prop :=
  wX10_checkTruck a1 σ τ (fun σ2 τ2 => wX10_checkTruck a2 σ2 τ2 (fun σ7 τ7 => (¬ a1 = a2 → x_l4 (wX10_together_26 Q QX) a1 a2 0 (a1 * 10) σ7 τ7) ∧ (a1 = a2 → Q (-3) σ7 τ7)) QX) QX
def wX10_pairSaved_46 (K26 : Int32 → Int32 → Int32 → Int32 → x_S → x_L → Prop) (Q : Int32 → x_S → x_L → Prop) (QX : x_PE) (K46 : Int32 → Int32 → Int32 → Int32 → Int32 → x_S → x_L → Prop) (v1 : Int32) (v2 : Int32) (v3 : Int32) (v4 : Int32) (v5 : Int32) (σ : x_S) (τ : x_L) : Prop :=
  vp_in v2 12 ∧ (((σ 30 v2.toNatClampNeg) ≤ v5 → K26 v1 v2 v3 (v4 + 1) σ τ) ∧ (¬ (σ 30 v2.toNatClampNeg) ≤ v5 → wX6_savedByPair 33 v4 v5 σ τ (fun r69 σ69 τ69 => K46 v1 v2 (v3 + r69) v4 (v5 + 1) σ69 τ69)))
def wX10_pairSaved_26 (Q : Int32 → x_S → x_L → Prop) (QX : x_PE) (K26 : Int32 → Int32 → Int32 → Int32 → x_S → x_L → Prop) (v1 : Int32) (v2 : Int32) (v3 : Int32) (v4 : Int32) (σ : x_S) (τ : x_L) : Prop :=
  vp_in v1 12 ∧ (((σ 30 v1.toNatClampNeg) ≤ v4 → Q v3 σ τ) ∧ (¬ (σ 30 v1.toNatClampNeg) ≤ v4 → x_l5 (wX10_pairSaved_46 K26 Q QX) v1 v2 v3 v4 (v2 * 10) σ τ))
def wX10_pairSaved (a1 : Int32) (a2 : Int32) (σ : x_S) (τ : x_L) (Q : Int32 → x_S → x_L → Prop) (QX : x_PE) : Prop :=
  wX10_checkTruck a1 σ τ (fun σ2 τ2 => wX10_checkTruck a2 σ2 τ2 (fun σ7 τ7 => (¬ a1 = a2 → x_l4 (wX10_pairSaved_26 Q QX) a1 a2 0 (a1 * 10) σ7 τ7) ∧ (a1 = a2 → Q (-3) σ7 τ7)) QX) QX
def wX10_checkRange_10 (Q : x_S → x_L → Prop) (QX : x_PE) (σ : x_S) (τ : x_L) : Prop :=
  QX "java/lang/IllegalArgumentException" σ τ
def wX10_checkRange (a0 : Int32) (a1 : Int32) (a2 : Int32) (σ : x_S) (τ : x_L) (Q : x_S → x_L → Prop) (QX : x_PE) : Prop :=
  (a0 < a1 → wX10_checkRange_10 Q QX σ τ) ∧ (¬ a0 < a1 → (a0 ≤ a2 → Q σ τ) ∧ (¬ a0 ≤ a2 → wX10_checkRange_10 Q QX σ τ))
def wX10_run_67 (Q : Int32 → x_S → x_L → Prop) (QX : x_PE) (s0 : Int32) (σ : x_S) (τ : x_L) : Prop :=
  Q s0 σ τ
def wX10_run (a1 : Int32) (a2 : Int32) (a3 : Int32) (σ : x_S) (τ : x_L) (Q : Int32 → x_S → x_L → Prop) (QX : x_PE) : Prop :=
  wX10_checkTruck a1 σ τ (fun σ2 τ2 => wX10_checkTruck a2 σ2 τ2 (fun σ7 τ7 => wX10_checkRange a3 0 2 σ7 τ7 (fun σ13 τ13 => (¬ a1 = a2 → wX4_findRun a1 a2 σ13 τ13 (fun σ30 τ30 => (¬ a3 = 0 → (¬ a3 = 1 → wX10_run_67 Q QX (σ30 59 6) σ30 τ30) ∧ (a3 = 1 → wX10_run_67 Q QX (σ30 59 5) σ30 τ30)) ∧ (a3 = 0 → Q (σ30 59 4) σ30 τ30))) ∧ (a1 = a2 → Q (-3) σ13 τ13)) QX) QX) QX
def wX10_common_56 (K15 : Int32 → Int32 → Int32 → Int32 → x_S → x_L → Prop) (Q : Int32 → x_S → x_L → Prop) (QX : x_PE) (v1 : Int32) (v2 : Int32) (v3 : Int32) (v4 : Int32) (σ : x_S) (τ : x_L) : Prop :=
  K15 v1 v2 v3 (v4 + 1) σ τ
def wX10_common_15 (Q : Int32 → x_S → x_L → Prop) (QX : x_PE) (K15 : Int32 → Int32 → Int32 → Int32 → x_S → x_L → Prop) (v1 : Int32) (v2 : Int32) (v3 : Int32) (v4 : Int32) (σ : x_S) (τ : x_L) : Prop :=
  ((σ 3 0) ≤ v4 → Q v3 σ τ) ∧ (¬ (σ 3 0) ≤ v4 → wX7_isOn v1 v4 σ τ (fun r34 σ34 τ34 => (r34 = 0 → wX10_common_56 K15 Q QX v1 v2 v3 v4 σ34 τ34) ∧ (¬ r34 = 0 → wX7_isOn v2 v4 σ34 τ34 (fun r47 σ47 τ47 => (r47 = 0 → wX10_common_56 K15 Q QX v1 v2 v3 v4 σ47 τ47) ∧ (¬ r47 = 0 → wX10_common_56 K15 Q QX v1 v2 (v3 + 1) v4 σ47 τ47)))))
def wX10_common (a1 : Int32) (a2 : Int32) (σ : x_S) (τ : x_L) (Q : Int32 → x_S → x_L → Prop) (QX : x_PE) : Prop :=
  wX10_checkTruck a1 σ τ (fun σ2 τ2 => wX10_checkTruck a2 σ2 τ2 (fun σ7 τ7 => x_l4 (wX10_common_15 Q QX) a1 a2 0 0 σ7 τ7) QX) QX
def wX10_slack (a1 : Int32) (σ : x_S) (τ : x_L) (Q : Int32 → x_S → x_L → Prop) (QX : x_PE) : Prop :=
  wX10_checkTruck a1 σ τ (fun σ2 τ2 => vp_in a1 12 ∧ (wX6_arrival 33 a1 σ2 τ2 (fun r19 σ19 τ19 => Q ((σ2 9 a1.toNatClampNeg) - r19) σ19 τ19))) QX
def wX10_neededSpeed_37 (Q : Int32 → x_S → x_L → Prop) (QX : x_PE) (K37 : Int32 → Int32 → Int32 → Int32 → x_S → x_L → Prop) (v3 : Int32) (v4 : Int32) (v5 : Int32) (v6 : Int32) (σ : x_S) (τ : x_L) : Prop :=
  vp_in v5 30 ∧ (((σ 7 v5.toNatClampNeg) < v6 → Q (-1) σ τ) ∧ (¬ (σ 7 v5.toNatClampNeg) < v6 → vp_in v4 120 ∧ (wX1_minutes v5 v6 σ τ (fun r70 σ70 τ70 => (v3 < ((σ 37 v4.toNatClampNeg) + r70) → K37 v3 v4 v5 (v6 + 1) σ70 τ70) ∧ (¬ v3 < ((σ 37 v4.toNatClampNeg) + r70) → Q v6 σ70 τ70)))))
def wX10_neededSpeed (a1 : Int32) (a2 : Int32) (a3 : Int32) (σ : x_S) (τ : x_L) (Q : Int32 → x_S → x_L → Prop) (QX : x_PE) : Prop :=
  wX10_checkPlace a1 a2 σ τ (fun σ3 τ3 => wX10_checkRange a3 0 20000 σ3 τ3 (fun σ11 τ11 => wX10_stopAt a1 a2 σ11 τ11 (fun r16 σ16 τ16 => vp_in r16 120 ∧ (x_l4 (wX10_neededSpeed_37 Q QX) a3 r16 (σ16 12 r16.toNatClampNeg) 40 σ16 τ16))) QX) QX
def wX10_changeWait (a1 : Int32) (a2 : Int32) (σ : x_S) (τ : x_L) (Q : Int32 → x_S → x_L → Prop) : Prop :=
  wX2_keep 33 σ τ (fun σ8 τ8 => vp_in a1 120 ∧ (wX6_arrange 33 (x_up σ8 35 a1.toNatClampNeg a2) τ8 (fun σ35 τ35 => Q (σ8 35 a1.toNatClampNeg) σ35 τ35)))
def wX10_setWait (a1 : Int32) (a2 : Int32) (a3 : Int32) (σ : x_S) (τ : x_L) (Q : Int32 → x_S → x_L → Prop) (QX : x_PE) : Prop :=
  wX10_checkPlace a1 a2 σ τ (fun σ3 τ3 => wX10_checkRange a3 0 120 σ3 τ3 (fun σ10 τ10 => wX10_stopAt a1 a2 σ10 τ10 (fun r16 σ16 τ16 => wX10_changeWait r16 a3 σ16 τ16 (fun r20 σ20 τ20 => Q r20 σ20 τ20))) QX) QX
def wX10_changeSpeed (a1 : Int32) (a2 : Int32) (σ : x_S) (τ : x_L) (Q : Int32 → x_S → x_L → Prop) : Prop :=
  wX2_keep 33 σ τ (fun σ8 τ8 => vp_in a1 120 ∧ (wX6_arrange 33 (x_up σ8 36 a1.toNatClampNeg a2) τ8 (fun σ35 τ35 => Q (σ8 36 a1.toNatClampNeg) σ35 τ35)))
def wX10_setSpeed (a1 : Int32) (a2 : Int32) (a3 : Int32) (σ : x_S) (τ : x_L) (Q : Int32 → x_S → x_L → Prop) (QX : x_PE) : Prop :=
  wX10_checkPlace a1 a2 σ τ (fun σ3 τ3 => wX10_stopAt a1 a2 σ3 τ3 (fun r8 σ8 τ8 => vp_in r8 120 ∧ (vp_in (σ8 12 r8.toNatClampNeg) 30 ∧ (wX10_checkRange a3 40 (σ8 7 (σ8 12 r8.toNatClampNeg).toNatClampNeg) σ8 τ8 (fun σ34 τ34 => wX10_changeSpeed r8 a3 σ34 τ34 (fun r41 σ41 τ41 => Q r41 σ41 τ41)) QX)))) QX
def wX10_changeStart (a1 : Int32) (a2 : Int32) (σ : x_S) (τ : x_L) (Q : Int32 → x_S → x_L → Prop) : Prop :=
  wX2_keep 33 σ τ (fun σ8 τ8 => vp_in a1 12 ∧ (wX6_arrange 33 (x_up σ8 34 a1.toNatClampNeg a2) τ8 (fun σ35 τ35 => Q (σ8 34 a1.toNatClampNeg) σ35 τ35)))
def wX10_setStart (a1 : Int32) (a2 : Int32) (σ : x_S) (τ : x_L) (Q : Int32 → x_S → x_L → Prop) (QX : x_PE) : Prop :=
  wX10_checkTruck a1 σ τ (fun σ2 τ2 => wX10_checkRange a2 0 2000 σ2 τ2 (fun σ10 τ10 => wX10_changeStart a1 a2 σ10 τ10 (fun r16 σ16 τ16 => Q r16 σ16 τ16)) QX) QX
def wX10_reason (a1 : Int32) (a2 : Int32) (σ : x_S) (τ : x_L) (Q : Int32 → x_S → x_L → Prop) (QX : x_PE) : Prop :=
  wX10_checkTruck a1 σ τ (fun σ2 τ2 => wX10_checkTruck a2 σ2 τ2 (fun σ7 τ7 => wX4_attempt a1 a2 σ7 τ7 (fun r16 σ16 τ16 => Q r16 σ16 τ16)) QX) QX
def wX10_mergeTwo (a1 : Int32) (a2 : Int32) (σ : x_S) (τ : x_L) (Q : Int32 → x_S → x_L → Prop) : Prop :=
  wX4_attempt a1 a2 σ τ (fun r6 σ6 τ6 => (r6 = 0 → wX2_keep 33 σ6 τ6 (fun σ23 τ23 => wX6_copyChoices 33 46 σ23 τ23 (fun σ34 τ34 => wX6_arrange 33 σ34 τ34 (fun σ41 τ41 => Q (σ41 59 6) σ41 τ41)))) ∧ (¬ r6 = 0 → Q (-3) σ6 τ6))
def wX10_merge (a1 : Int32) (a2 : Int32) (σ : x_S) (τ : x_L) (Q : Int32 → x_S → x_L → Prop) (QX : x_PE) : Prop :=
  wX10_checkTruck a1 σ τ (fun σ2 τ2 => wX10_checkTruck a2 σ2 τ2 (fun σ7 τ7 => wX10_mergeTwo a1 a2 σ7 τ7 (fun r13 σ13 τ13 => Q r13 σ13 τ13)) QX) QX
def wX10_gain (a1 : Int32) (a2 : Int32) (σ : x_S) (τ : x_L) (Q : Int32 → x_S → x_L → Prop) (QX : x_PE) : Prop :=
  wX10_checkTruck a1 σ τ (fun σ2 τ2 => wX10_checkTruck a2 σ2 τ2 (fun σ7 τ7 => wX4_attempt a1 a2 σ7 τ7 (fun r16 σ16 τ16 => (r16 = 0 → wX6_arrange 46 σ16 τ16 (fun σ37 τ37 => Q ((σ37 33 14) - (σ37 46 14)) σ37 τ37)) ∧ (¬ r16 = 0 → QX "java/lang/IllegalStateException" σ16 τ16))) QX) QX
def wX10_bestPartner_72 (K18 : Int32 → Int32 → Int32 → Int32 → x_S → x_L → Prop) (Q : Int32 → x_S → x_L → Prop) (QX : x_PE) (v1 : Int32) (v2 : Int32) (v3 : Int32) (v4 : Int32) (σ : x_S) (τ : x_L) : Prop :=
  K18 v1 v2 v3 (v4 + 1) σ τ
def wX10_bestPartner_18 (Q : Int32 → x_S → x_L → Prop) (QX : x_PE) (K18 : Int32 → Int32 → Int32 → Int32 → x_S → x_L → Prop) (v1 : Int32) (v2 : Int32) (v3 : Int32) (v4 : Int32) (σ : x_S) (τ : x_L) : Prop :=
  ((σ 3 5) ≤ v4 → Q v2 σ τ) ∧ (¬ (σ 3 5) ≤ v4 → wX4_attempt v1 v4 σ τ (fun r37 σ37 τ37 => (¬ r37 = 0 → wX10_bestPartner_72 K18 Q QX v1 v2 v3 v4 σ37 τ37) ∧ (r37 = 0 → wX6_arrange 46 σ37 τ37 (fun σ47 τ47 => (v3 ≤ (σ47 46 14) → wX10_bestPartner_72 K18 Q QX v1 v2 v3 v4 σ47 τ47) ∧ (¬ v3 ≤ (σ47 46 14) → wX10_bestPartner_72 K18 Q QX v1 v4 (σ47 46 14) v4 σ47 τ47)))))
def wX10_bestPartner (a1 : Int32) (σ : x_S) (τ : x_L) (Q : Int32 → x_S → x_L → Prop) (QX : x_PE) : Prop :=
  wX10_checkTruck a1 σ τ (fun σ2 τ2 => x_l4 (wX10_bestPartner_18 Q QX) a1 (-1) (σ2 33 14) 0 σ2 τ2) QX
def wX10_mergeBestTwo_91 (K15 : Int32 → Int32 → Int32 → Int32 → x_S → x_L → Prop) (K33 : Int32 → Int32 → Int32 → Int32 → Int32 → x_S → x_L → Prop) (Q : Int32 → x_S → x_L → Prop) (v1 : Int32) (v2 : Int32) (v3 : Int32) (v4 : Int32) (v5 : Int32) (σ : x_S) (τ : x_L) : Prop :=
  K33 v1 v2 v3 v4 (v5 + 1) σ τ
def wX10_mergeBestTwo_33 (K15 : Int32 → Int32 → Int32 → Int32 → x_S → x_L → Prop) (Q : Int32 → x_S → x_L → Prop) (K33 : Int32 → Int32 → Int32 → Int32 → Int32 → x_S → x_L → Prop) (v1 : Int32) (v2 : Int32) (v3 : Int32) (v4 : Int32) (v5 : Int32) (σ : x_S) (τ : x_L) : Prop :=
  ((σ 3 5) ≤ v5 → K15 v1 v2 v3 (v4 + 1) σ τ) ∧ (¬ (σ 3 5) ≤ v5 → wX4_attempt v4 v5 σ τ (fun r53 σ53 τ53 => (¬ r53 = 0 → wX10_mergeBestTwo_91 K15 K33 Q v1 v2 v3 v4 v5 σ53 τ53) ∧ (r53 = 0 → wX6_arrange 46 σ53 τ53 (fun σ63 τ63 => (v1 ≤ (σ63 46 14) → wX10_mergeBestTwo_91 K15 K33 Q v1 v2 v3 v4 v5 σ63 τ63) ∧ (¬ v1 ≤ (σ63 46 14) → wX10_mergeBestTwo_91 K15 K33 Q (σ63 46 14) v4 v5 v4 v5 σ63 τ63)))))
def wX10_mergeBestTwo_120 (Q : Int32 → x_S → x_L → Prop) (σ : x_S) (τ : x_L) : Prop :=
  Q 0 σ τ
def wX10_mergeBestTwo_15 (Q : Int32 → x_S → x_L → Prop) (K15 : Int32 → Int32 → Int32 → Int32 → x_S → x_L → Prop) (v1 : Int32) (v2 : Int32) (v3 : Int32) (v4 : Int32) (σ : x_S) (τ : x_L) : Prop :=
  ((σ 3 5) ≤ v4 → (v2 = (-1) → wX10_mergeBestTwo_120 Q σ τ) ∧ (¬ v2 = (-1) → wX4_attempt v2 v3 σ τ (fun r114 σ114 τ114 => (r114 = 0 → wX6_copyChoices 33 46 σ114 τ114 (fun σ130 τ130 => wX6_arrange 33 σ130 τ130 (fun σ137 τ137 => Q 1 σ137 τ137))) ∧ (¬ r114 = 0 → wX10_mergeBestTwo_120 Q σ114 τ114)))) ∧ (¬ (σ 3 5) ≤ v4 → x_l5 (wX10_mergeBestTwo_33 K15 Q) v1 v2 v3 v4 (v4 + 1) σ τ)
def wX10_mergeBestTwo (σ : x_S) (τ : x_L) (Q : Int32 → x_S → x_L → Prop) : Prop :=
  x_l4 (wX10_mergeBestTwo_15 Q) (σ 33 14) (-1) (-1) 0 σ τ
def wX10_mergeByGain_13 (Q : Int32 → x_S → x_L → Prop) (K13 : Int32 → x_S → x_L → Prop) (v1 : Int32) (σ : x_S) (τ : x_L) : Prop :=
  (30 ≤ v1 → Q 30 σ τ) ∧ (¬ 30 ≤ v1 → wX10_mergeBestTwo σ τ (fun r20 σ20 τ20 => (¬ r20 = 0 → K13 (v1 + 1) σ20 τ20) ∧ (r20 = 0 → Q v1 σ20 τ20)))
def wX10_mergeByGain (σ : x_S) (τ : x_L) (Q : Int32 → x_S → x_L → Prop) : Prop :=
  wX2_keep 33 σ τ (fun σ8 τ8 => x_l1 (wX10_mergeByGain_13 Q) 0 σ8 τ8)
def wX10_mergeAll (σ : x_S) (τ : x_L) (Q : Int32 → x_S → x_L → Prop) : Prop :=
  wX10_mergeByGain σ τ (fun r1 σ1 τ1 => Q r1 σ1 τ1)
def wX10_speedUp_97 (K18 : Int32 → Int32 → Int32 → x_S → x_L → Prop) (Q : Int32 → x_S → x_L → Prop) (v1 : Int32) (v2 : Int32) (v3 : Int32) (σ : x_S) (τ : x_L) : Prop :=
  K18 v1 v2 (v3 + 1) σ τ
def wX10_speedUp_103 (Q : Int32 → x_S → x_L → Prop) (v2 : Int32) (σ : x_S) (τ : x_L) : Prop :=
  wX6_arrange 33 σ τ (fun σ107 τ107 => Q v2 σ107 τ107)
def wX10_speedUp_18 (Q : Int32 → x_S → x_L → Prop) (K18 : Int32 → Int32 → Int32 → x_S → x_L → Prop) (v1 : Int32) (v2 : Int32) (v3 : Int32) (σ : x_S) (τ : x_L) : Prop :=
  vp_in v1 12 ∧ (((σ 30 v1.toNatClampNeg) ≤ v3 → wX10_speedUp_103 Q v2 σ τ) ∧ (¬ (σ 30 v1.toNatClampNeg) ≤ v3 → wX6_isLate 33 v1 σ τ (fun r36 σ36 τ36 => (r36 = 0 → wX10_speedUp_103 Q v2 σ36 τ36) ∧ (¬ r36 = 0 → vp_in v3 120 ∧ (vp_in (σ36 12 v3.toNatClampNeg) 30 ∧ (((σ36 36 v3.toNatClampNeg) = (σ36 7 (σ36 12 v3.toNatClampNeg).toNatClampNeg) → wX10_speedUp_97 K18 Q v1 v2 v3 σ36 τ36) ∧ (¬ (σ36 36 v3.toNatClampNeg) = (σ36 7 (σ36 12 v3.toNatClampNeg).toNatClampNeg) → wX6_setTimes 33 v1 (x_up σ36 36 v3.toNatClampNeg (σ36 7 (σ36 12 v3.toNatClampNeg).toNatClampNeg)) τ36 (fun σ91 τ91 => wX10_speedUp_97 K18 Q v1 (v2 + 1) v3 σ91 τ91))))))))
def wX10_speedUp (a1 : Int32) (σ : x_S) (τ : x_L) (Q : Int32 → x_S → x_L → Prop) : Prop :=
  wX2_keep 33 σ τ (fun σ8 τ8 => x_l3 (wX10_speedUp_18 Q) a1 0 (a1 * 10) σ8 τ8)
def wX10_hurry (a1 : Int32) (σ : x_S) (τ : x_L) (Q : Int32 → x_S → x_L → Prop) (QX : x_PE) : Prop :=
  wX10_checkTruck a1 σ τ (fun σ2 τ2 => wX10_speedUp a1 σ2 τ2 (fun r7 σ7 τ7 => Q r7 σ7 τ7)) QX
def wX10_slowDown_80 (K25 : Int32 → Int32 → Int32 → x_S → x_L → Prop) (Q : Int32 → x_S → x_L → Prop) (v1 : Int32) (v2 : Int32) (v3 : Int32) (σ : x_S) (τ : x_L) : Prop :=
  K25 v1 v2 (v3 + (-1)) σ τ
def wX10_slowDown_25 (Q : Int32 → x_S → x_L → Prop) (K25 : Int32 → Int32 → Int32 → x_S → x_L → Prop) (v1 : Int32) (v2 : Int32) (v3 : Int32) (σ : x_S) (τ : x_L) : Prop :=
  (v3 < (v1 * 10) → wX6_arrange 33 σ τ (fun σ90 τ90 => Q v2 σ90 τ90)) ∧ (¬ v3 < (v1 * 10) → wX6_leastTimelySpeed 33 v1 v3 σ τ (fun r39 σ39 τ39 => vp_in v3 120 ∧ (((σ39 36 v3.toNatClampNeg) = r39 → wX10_slowDown_80 K25 Q v1 v2 v3 σ39 τ39) ∧ (¬ (σ39 36 v3.toNatClampNeg) = r39 → wX6_setTimes 33 v1 (x_up σ39 36 v3.toNatClampNeg r39) τ39 (fun σ74 τ74 => wX10_slowDown_80 K25 Q v1 (v2 + 1) v3 σ74 τ74)))))
def wX10_slowDown (a1 : Int32) (σ : x_S) (τ : x_L) (Q : Int32 → x_S → x_L → Prop) : Prop :=
  wX2_keep 33 σ τ (fun σ8 τ8 => vp_in a1 12 ∧ (x_l3 (wX10_slowDown_25 Q) a1 0 ((σ8 30 a1.toNatClampNeg) - 1) σ8 τ8))
def wX10_relax (a1 : Int32) (σ : x_S) (τ : x_L) (Q : Int32 → x_S → x_L → Prop) (QX : x_PE) : Prop :=
  wX10_checkTruck a1 σ τ (fun σ2 τ2 => wX10_slowDown a1 σ2 τ2 (fun r7 σ7 τ7 => Q r7 σ7 τ7)) QX
def wX10_onRoad_84 (K18 : Int32 → Int32 → Int32 → Int32 → x_S → x_L → Prop) (Q : Int32 → x_S → x_L → Prop) (QX : x_PE) (v1 : Int32) (v2 : Int32) (v3 : Int32) (v4 : Int32) (σ : x_S) (τ : x_L) : Prop :=
  K18 v1 v2 v3 (v4 + 1) σ τ
def wX10_onRoad_18 (Q : Int32 → x_S → x_L → Prop) (QX : x_PE) (K18 : Int32 → Int32 → Int32 → Int32 → x_S → x_L → Prop) (v1 : Int32) (v2 : Int32) (v3 : Int32) (v4 : Int32) (σ : x_S) (τ : x_L) : Prop :=
  vp_in (v1 + 1) 31 ∧ (((σ 29 (v1 + 1).toNatClampNeg) ≤ v4 → Q v3 σ τ) ∧ (¬ (σ 29 (v1 + 1).toNatClampNeg) ≤ v4 → vp_in v4 120 ∧ (vp_in (σ 39 v4.toNatClampNeg) 120 ∧ ((v2 < (σ 37 (σ 39 v4.toNatClampNeg).toNatClampNeg) → wX10_onRoad_84 K18 Q QX v1 v2 v3 v4 σ τ) ∧ (¬ v2 < (σ 37 (σ 39 v4.toNatClampNeg).toNatClampNeg) → ((σ 38 (σ 39 v4.toNatClampNeg).toNatClampNeg) ≤ v2 → wX10_onRoad_84 K18 Q QX v1 v2 v3 v4 σ τ) ∧ (¬ (σ 38 (σ 39 v4.toNatClampNeg).toNatClampNeg) ≤ v2 → wX10_onRoad_84 K18 Q QX v1 v2 (v3 ||| (1 <<< (((σ 39 v4.toNatClampNeg) / 10) &&& 31))) v4 σ τ))))))
def wX10_onRoad (a1 : Int32) (a2 : Int32) (σ : x_S) (τ : x_L) (Q : Int32 → x_S → x_L → Prop) (QX : x_PE) : Prop :=
  wX10_checkRoad a1 σ τ (fun σ2 τ2 => vp_in a1 31 ∧ (x_l4 (wX10_onRoad_18 Q QX) a1 a2 0 (σ2 29 a1.toNatClampNeg) σ2 τ2)) QX
def wX10_alone_32 (K4 : Int32 → Int32 → x_S → x_L → Prop) (Q : Int32 → x_S → x_L → Prop) (v1 : Int32) (v2 : Int32) (σ : x_S) (τ : x_L) : Prop :=
  K4 v1 (v2 + 1) σ τ
def wX10_alone_4 (Q : Int32 → x_S → x_L → Prop) (K4 : Int32 → Int32 → x_S → x_L → Prop) (v1 : Int32) (v2 : Int32) (σ : x_S) (τ : x_L) : Prop :=
  ((σ 3 5) ≤ v2 → Q v1 σ τ) ∧ (¬ (σ 3 5) ≤ v2 → wX6_meetsOthers 33 v2 σ τ (fun r20 σ20 τ20 => (¬ r20 = 0 → wX10_alone_32 K4 Q v1 v2 σ20 τ20) ∧ (r20 = 0 → wX10_alone_32 K4 Q (v1 ||| (1 <<< (v2 &&& 31))) v2 σ20 τ20)))
def wX10_alone (σ : x_S) (τ : x_L) (Q : Int32 → x_S → x_L → Prop) : Prop :=
  x_l2 (wX10_alone_4 Q) 0 0 σ τ
def wX10_lateOnes (σ : x_S) (τ : x_L) (Q : Int32 → x_S → x_L → Prop) : Prop :=
  wX10_lateSet σ τ (fun r1 σ1 τ1 => Q r1 σ1 τ1)
def wX10_bestRoad_57 (K6 : Int32 → Int32 → Int32 → x_S → x_L → Prop) (Q : Int32 → x_S → x_L → Prop) (v1 : Int32) (v2 : Int32) (v3 : Int32) (σ : x_S) (τ : x_L) : Prop :=
  K6 v1 v2 (v3 + 1) σ τ
def wX10_bestRoad_6 (Q : Int32 → x_S → x_L → Prop) (K6 : Int32 → Int32 → Int32 → x_S → x_L → Prop) (v1 : Int32) (v2 : Int32) (v3 : Int32) (σ : x_S) (τ : x_L) : Prop :=
  ((σ 3 0) ≤ v3 → Q v1 σ τ) ∧ (¬ (σ 3 0) ≤ v3 → vp_in v3 31 ∧ (vp_in (v3 + 1) 31 ∧ (wX6_savedOnRows 33 (σ 29 v3.toNatClampNeg) (σ 29 (v3 + 1).toNatClampNeg) σ τ (fun r41 σ41 τ41 => (r41 ≤ v2 → wX10_bestRoad_57 K6 Q v1 v2 v3 σ41 τ41) ∧ (¬ r41 ≤ v2 → wX10_bestRoad_57 K6 Q v3 r41 v3 σ41 τ41)))))
def wX10_bestRoad (σ : x_S) (τ : x_L) (Q : Int32 → x_S → x_L → Prop) : Prop :=
  x_l3 (wX10_bestRoad_6 Q) (-1) 0 0 σ τ
def wX10_checkOrdered (a0 : Int32) (σ : x_S) (τ : x_L) (Q : x_S → x_L → Prop) (QX : x_PE) : Prop :=
  (a0 ≤ 6 → Q σ τ) ∧ (¬ a0 ≤ 6 → QX "java/lang/IllegalStateException" σ τ)
def wX10_orderLoss (a1 : Int32) (a2 : Int32) (σ : x_S) (τ : x_L) (Q : Int32 → x_S → x_L → Prop) (QX : x_PE) : Prop :=
  wX10_checkPlatoon a1 a2 σ τ (fun σ3 τ3 => wX6_firstOf 33 a1 a2 σ3 τ3 (fun r12 σ12 τ12 => wX6_afterPlatoon 33 a1 r12 σ12 τ12 (fun r22 σ22 τ22 => wX10_checkOrdered (r22 - r12) σ22 τ22 (fun σ31 τ31 => wX0_search r12 r22 σ31 τ31 (fun σ41 τ41 => wX6_valueOfOrder 33 39 120 r12 r22 σ41 τ41 (fun r65 σ65 τ65 => Q ((σ41 60 4) - r65) σ65 τ65))) QX))) QX
def wX10_bestMember (a1 : Int32) (a2 : Int32) (a3 : Int32) (σ : x_S) (τ : x_L) (Q : Int32 → x_S → x_L → Prop) (QX : x_PE) : Prop :=
  wX10_checkPlatoon a1 a2 σ τ (fun σ3 τ3 => wX10_checkPosition a3 σ3 τ3 (fun σ7 τ7 => wX6_firstOf 33 a1 a2 σ7 τ7 (fun r16 σ16 τ16 => wX6_afterPlatoon 33 a1 r16 σ16 τ16 (fun r28 σ28 τ28 => wX10_checkOrdered (r28 - r16) σ28 τ28 (fun σ38 τ38 => (a3 < (r28 - r16) → wX0_search r16 r28 σ38 τ38 (fun σ60 τ60 => vp_in a3 6 ∧ (Q ((σ60 62 a3.toNatClampNeg) / 10) σ60 τ60))) ∧ (¬ a3 < (r28 - r16) → Q (-1) σ38 τ38)) QX))) QX) QX
def wX10_rate_34 (Q : UInt32 → x_S → x_L → Prop) (QX : x_PE) (s0 : UInt32) (σ : x_S) (τ : x_L) : Prop :=
  Q s0 σ τ
def wX10_rate (a1 : Int32) (σ : x_S) (τ : x_L) (Q : UInt32 → x_S → x_L → Prop) (QX : x_PE) : Prop :=
  wX10_checkTruck a1 σ τ (fun σ2 τ2 => wX1_kilometers a1 σ2 τ2 (fun r10 σ10 τ10 => (¬ r10 = 0 → wX6_fuelOf 33 a1 σ10 τ10 (fun r27 σ27 τ27 => vf_n32 (FP.fdiv (FP.i2f r27) (FP.i2f r10)) ∧ (wX10_rate_34 Q QX (FP.fdiv (FP.i2f r27) (FP.i2f r10)) σ27 τ27))) ∧ (r10 = 0 → wX10_rate_34 Q QX FP.fconst0 σ10 τ10))) QX
def wX10_floatBits_40 (Q : Int32 → x_S → x_L → Prop) (v1 : UInt32) (v2 : Int32) (σ : x_S) (τ : x_L) : Prop :=
  vf_n32 (FP.fsub v1 FP.fconst1) ∧ (vf_n32 (FP.fmul (FP.fsub v1 FP.fconst1) (1258291200 : UInt32)) ∧ (Q ((v2 <<< (23 &&& 31)) + (FP.f2i (FP.fmul (FP.fsub v1 FP.fconst1) (1258291200 : UInt32)))) σ τ))
def wX10_floatBits_15 (Q : Int32 → x_S → x_L → Prop) (K15 : UInt32 → Int32 → Int32 → x_S → x_L → Prop) (v1 : UInt32) (v2 : Int32) (v3 : Int32) (σ : x_S) (τ : x_L) : Prop :=
  (100 ≤ v3 → wX10_floatBits_40 Q v1 v2 σ τ) ∧ (¬ 100 ≤ v3 → (0 ≤ (Op.cmpValue (FP.fcmp v1 FP.fconst1) .g) → wX10_floatBits_40 Q v1 v2 σ τ) ∧ (¬ 0 ≤ (Op.cmpValue (FP.fcmp v1 FP.fconst1) .g) → vf_n32 (FP.fmul v1 FP.fconst2) ∧ (K15 (FP.fmul v1 FP.fconst2) (v2 + (-1)) (v3 + 1) σ τ)))
def wX10_floatBits (a0 : UInt32) (σ : x_S) (τ : x_L) (Q : Int32 → x_S → x_L → Prop) : Prop :=
  (0 < (Op.cmpValue (FP.fcmp a0 FP.fconst0) .g) → x_l3 (wX10_floatBits_15 Q) a0 127 0 σ τ) ∧ (¬ 0 < (Op.cmpValue (FP.fcmp a0 FP.fconst0) .g) → Q 0 σ τ)
def wX10_shareBits (σ : x_S) (τ : x_L) (Q : Int32 → x_S → x_L → Prop) (QX : x_PE) : Prop :=
  wX6_allBases 33 σ τ (fun r4 σ4 τ4 => (¬ r4 = 0 → wX7_allStops σ4 τ4 (fun r32 σ32 τ32 => wX6_savedOnRows 33 0 r32 σ32 τ32 (fun r35 σ35 τ35 => vf_n32 (FP.fdiv (FP.i2f r35) (FP.i2f r4)) ∧ (wX10_floatBits (FP.fdiv (FP.i2f r35) (FP.i2f r4)) σ35 τ35 (fun r42 σ42 τ42 => Q r42 σ42 τ42))))) ∧ (r4 = 0 → QX "java/lang/ArithmeticException" σ4 τ4))
def wX10_reachFurther_96 (K2 : Int32 → x_S → x_L → Prop) (Q : x_S → x_L → Prop) (v1 : Int32) (σ : x_S) (τ : x_L) : Prop :=
  K2 (v1 + 1) σ τ
def wX10_reachFurther_81 (K2 : Int32 → x_S → x_L → Prop) (Q : x_S → x_L → Prop) (v1 : Int32) (v3 : Int32) (σ : x_S) (τ : x_L) : Prop :=
  vp_in v1 30 ∧ (vp_in (σ 5 v1.toNatClampNeg) 20 ∧ (wX10_reachFurther_96 K2 Q v1 (x_up σ 86 ((σ 5 v1.toNatClampNeg).toNatClampNeg) v3) τ))
def wX10_reachFurther_2 (Q : x_S → x_L → Prop) (K2 : Int32 → x_S → x_L → Prop) (v1 : Int32) (σ : x_S) (τ : x_L) : Prop :=
  ((σ 3 0) ≤ v1 → Q σ τ) ∧ (¬ (σ 3 0) ≤ v1 → vp_in v1 30 ∧ (vp_in (σ 4 v1.toNatClampNeg) 20 ∧ (((σ 86 (σ 4 v1.toNatClampNeg).toNatClampNeg) = (-1) → wX10_reachFurther_96 K2 Q v1 σ τ) ∧ (¬ (σ 86 (σ 4 v1.toNatClampNeg).toNatClampNeg) = (-1) → wX1_minutes v1 (σ 7 v1.toNatClampNeg) σ τ (fun r48 σ48 τ48 => vp_in (σ48 5 v1.toNatClampNeg) 20 ∧ (((σ48 86 (σ48 5 v1.toNatClampNeg).toNatClampNeg) = (-1) → wX10_reachFurther_81 K2 Q v1 ((σ 86 (σ 4 v1.toNatClampNeg).toNatClampNeg) + r48) σ48 τ48) ∧ (¬ (σ48 86 (σ48 5 v1.toNatClampNeg).toNatClampNeg) = (-1) → ((σ48 86 (σ48 5 v1.toNatClampNeg).toNatClampNeg) ≤ ((σ 86 (σ 4 v1.toNatClampNeg).toNatClampNeg) + r48) → wX10_reachFurther_96 K2 Q v1 σ48 τ48) ∧ (¬ (σ48 86 (σ48 5 v1.toNatClampNeg).toNatClampNeg) ≤ ((σ 86 (σ 4 v1.toNatClampNeg).toNatClampNeg) + r48) → wX10_reachFurther_81 K2 Q v1 ((σ 86 (σ 4 v1.toNatClampNeg).toNatClampNeg) + r48) σ48 τ48))))))))
def wX10_reachFurther (σ : x_S) (τ : x_L) (Q : x_S → x_L → Prop) : Prop :=
  x_l1 (wX10_reachFurther_2 Q) 0 σ τ
def wX10_quickest_44 (Q : Int32 → x_S → x_L → Prop) (QX : x_PE) (K44 : Int32 → Int32 → x_S → x_L → Prop) (v2 : Int32) (v3 : Int32) (σ : x_S) (τ : x_L) : Prop :=
  (20 ≤ v3 → vp_in v2 20 ∧ (Q (σ 86 v2.toNatClampNeg) σ τ)) ∧ (¬ 20 ≤ v3 → wX10_reachFurther σ τ (fun σ51 τ51 => K44 v2 (v3 + 1) σ51 τ51))
def wX10_quickest_16 (Q : Int32 → x_S → x_L → Prop) (QX : x_PE) (K16 : Int32 → Int32 → Int32 → x_S → x_L → Prop) (v1 : Int32) (v2 : Int32) (v3 : Int32) (σ : x_S) (τ : x_L) : Prop :=
  (20 ≤ v3 → vp_in v1 20 ∧ (x_l2 (wX10_quickest_44 Q QX) v2 1 (x_up σ 86 v1.toNatClampNeg 0) τ)) ∧ (¬ 20 ≤ v3 → vp_in v3 20 ∧ (K16 v1 v2 (v3 + 1) (x_up σ 86 v3.toNatClampNeg (-1)) τ))
def wX10_quickest (a1 : Int32) (a2 : Int32) (σ : x_S) (τ : x_L) (Q : Int32 → x_S → x_L → Prop) (QX : x_PE) : Prop :=
  wX10_checkRange a1 0 19 σ τ (fun σ4 τ4 => wX10_checkRange a2 0 19 σ4 τ4 (fun σ11 τ11 => x_l3 (wX10_quickest_16 Q QX) a1 a2 0 σ11 τ11) QX) QX
def wX10_write_124 (K15 : Int32 → Int32 → x_S → x_L → Prop) (Q : Int32 → x_S → x_L → Prop) (QX : x_PE) (v1 : Int32) (v2 : Int32) (σ : x_S) (τ : x_L) : Prop :=
  K15 v1 (v2 + 1) σ τ
def wX10_write_47 (K15 : Int32 → Int32 → x_S → x_L → Prop) (Q : Int32 → x_S → x_L → Prop) (QX : x_PE) (v1 : Int32) (v2 : Int32) (v3 : Int32) (σ : x_S) (τ : x_L) : Prop :=
  vp_in v3 120 ∧ (wX5_putNumber (σ 37 v3.toNatClampNeg) σ τ (fun σ60 τ60 => wX5_put 45 σ60 τ60 (fun σ69 τ69 => wX5_putNumber (σ69 38 v3.toNatClampNeg) σ69 τ69 (fun σ85 τ85 => wX6_inCompany 33 v3 σ85 τ85 (fun r93 σ93 τ93 => (r93 = 0 → wX10_write_124 K15 Q QX v1 v2 σ93 τ93) ∧ (¬ r93 = 0 → wX5_put 42 σ93 τ93 (fun σ105 τ105 => wX5_putNumber (σ105 41 v3.toNatClampNeg) σ105 τ105 (fun σ121 τ121 => wX10_write_124 K15 Q QX v1 v2 σ121 τ121))))))))
def wX10_write_15 (Q : Int32 → x_S → x_L → Prop) (QX : x_PE) (K15 : Int32 → Int32 → x_S → x_L → Prop) (v1 : Int32) (v2 : Int32) (σ : x_S) (τ : x_L) : Prop :=
  vp_in v1 12 ∧ (((σ 11 v1.toNatClampNeg) ≤ v2 → Q (σ 84 1) σ τ) ∧ (¬ (σ 11 v1.toNatClampNeg) ≤ v2 → wX10_stopAt v1 v2 σ τ (fun r30 σ30 τ30 => (v2 ≤ 0 → wX10_write_47 K15 Q QX v1 v2 r30 σ30 τ30) ∧ (¬ v2 ≤ 0 → wX5_put 32 σ30 τ30 (fun σ44 τ44 => wX10_write_47 K15 Q QX v1 v2 r30 σ44 τ44)))))
def wX10_write (a1 : Int32) (σ : x_S) (τ : x_L) (Q : Int32 → x_S → x_L → Prop) (QX : x_PE) : Prop :=
  wX10_checkTruck a1 σ τ (fun σ2 τ2 => x_l2 (wX10_write_15 Q QX) a1 0 (x_up σ2 84 1 0) τ2) QX
def wX10_outputByte_28 (Q : Int32 → x_S → x_L → Prop) (s0 : Int32) (σ : x_S) (τ : x_L) : Prop :=
  Q s0 σ τ
def wX10_outputByte_27 (Q : Int32 → x_S → x_L → Prop) (σ : x_S) (τ : x_L) : Prop :=
  wX10_outputByte_28 Q (-1) σ τ
def wX10_outputByte (a1 : Int32) (σ : x_S) (τ : x_L) (Q : Int32 → x_S → x_L → Prop) : Prop :=
  (a1 < 0 → wX10_outputByte_27 Q σ τ) ∧ (¬ a1 < 0 → ((σ 84 1) ≤ a1 → wX10_outputByte_27 Q σ τ) ∧ (¬ (σ 84 1) ≤ a1 → vp_in a1 130 ∧ (wX10_outputByte_28 Q (σ 85 a1.toNatClampNeg) σ τ)))
def wX10_performSpeed_37 (Q : Int32 → x_S → x_L → Prop) (σ : x_S) (τ : x_L) : Prop :=
  Q 0 σ τ
def wX10_performSpeed (a1 : Int32) (a2 : Int32) (a3 : Int32) (σ : x_S) (τ : x_L) (Q : Int32 → x_S → x_L → Prop) : Prop :=
  wX1_hasPlace a1 a2 σ τ (fun r6 σ6 τ6 => (r6 = 0 → wX10_performSpeed_37 Q σ6 τ6) ∧ (¬ r6 = 0 → wX10_stopAt a1 a2 σ6 τ6 (fun r29 σ29 τ29 => vp_in r29 120 ∧ (vp_in (σ29 12 r29.toNatClampNeg) 30 ∧ ((a3 ≤ (σ29 7 (σ29 12 r29.toNatClampNeg).toNatClampNeg) → wX10_stopAt a1 a2 σ29 τ29 (fun r42 σ42 τ42 => wX10_changeSpeed r42 a3 σ42 τ42 (fun r46 σ46 τ46 => Q 1 σ46 τ46))) ∧ (¬ a3 ≤ (σ29 7 (σ29 12 r29.toNatClampNeg).toNatClampNeg) → wX10_performSpeed_37 Q σ29 τ29))))))
def wX10_performWait (a1 : Int32) (a2 : Int32) (a3 : Int32) (σ : x_S) (τ : x_L) (Q : Int32 → x_S → x_L → Prop) : Prop :=
  wX1_hasPlace a1 a2 σ τ (fun r6 σ6 τ6 => (¬ r6 = 0 → wX10_stopAt a1 a2 σ6 τ6 (fun r17 σ17 τ17 => wX10_changeWait r17 a3 σ17 τ17 (fun r21 σ21 τ21 => Q 1 σ21 τ21))) ∧ (r6 = 0 → Q 0 σ6 τ6))
def wX10_perform_163 (Q : Int32 → x_S → x_L → Prop) (s0 : Int32) (σ : x_S) (τ : x_L) : Prop :=
  (s0 = 0 ∨ s0 = 1) ∧ Q s0 σ τ
def wX10_perform_162 (Q : Int32 → x_S → x_L → Prop) (σ : x_S) (τ : x_L) : Prop :=
  wX10_perform_163 Q 0 σ τ
def wX10_perform (a1 : Int32) (σ : x_S) (τ : x_L) (Q : Int32 → x_S → x_L → Prop) : Prop :=
  wX8_word a1 σ τ (fun r5 σ5 τ5 => wX8_argument a1 0 σ5 τ5 (fun r15 σ15 τ15 => wX8_argument a1 1 σ15 τ15 (fun r25 σ25 τ25 => wX8_argument a1 2 σ25 τ25 (fun r36 σ36 τ36 => (¬ r5 = 6 → wX1_hasTruck r15 σ36 τ36 (fun r59 σ59 τ59 => (¬ r59 = 0 → (r5 = 0 → wX10_performWait r15 r25 r36 σ59 τ59 (fun r110 σ110 τ110 => (r110 = 0 ∨ r110 = 1) ∧ Q r110 σ110 τ110)) ∧ (r5 = 1 → wX10_performSpeed r15 r25 r36 σ59 τ59 (fun r120 σ120 τ120 => (r120 = 0 ∨ r120 = 1) ∧ Q r120 σ120 τ120)) ∧ (r5 = 2 → wX10_changeStart r15 r25 σ59 τ59 (fun r128 σ128 τ128 => Q 1 σ128 τ128)) ∧ (r5 = 3 → wX1_hasTruck r25 σ59 τ59 (fun r140 σ140 τ140 => (r140 = 0 → wX10_perform_162 Q σ140 τ140) ∧ (¬ r140 = 0 → wX10_mergeTwo r15 r25 σ140 τ140 (fun r150 σ150 τ150 => (r150 = (-3) → wX10_perform_162 Q σ150 τ150) ∧ (¬ r150 = (-3) → wX10_perform_163 Q 1 σ150 τ150))))) ∧ (r5 = 4 → wX10_speedUp r15 σ59 τ59 (fun r166 σ166 τ166 => Q 1 σ166 τ166)) ∧ (¬ r5 = 0 → ¬ r5 = 1 → ¬ r5 = 2 → ¬ r5 = 3 → ¬ r5 = 4 → wX10_slowDown r15 σ59 τ59 (fun r174 σ174 τ174 => Q 1 σ174 τ174))) ∧ (r59 = 0 → Q 0 σ59 τ59))) ∧ (r5 = 6 → wX10_mergeByGain σ36 τ36 (fun r48 σ48 τ48 => Q 1 σ48 τ48))))))
def wX10_play_36 (Q : Int32 → x_S → x_L → Prop) (K36 : Int32 → x_S → x_L → Prop) (v2 : Int32) (σ : x_S) (τ : x_L) : Prop :=
  ((σ 24 0) ≤ v2 → Q (σ 24 0) σ τ) ∧ (¬ (σ 24 0) ≤ v2 → wX10_perform v2 σ τ (fun r49 σ49 τ49 => (¬ r49 = 0 → K36 (v2 + 1) σ49 τ49) ∧ (r49 = 0 → Q v2 σ49 τ49)))
def wX10_play (σ : x_S) (τ : x_L) (Q : Int32 → x_S → x_L → Prop) : Prop :=
  wX9_open σ τ (fun σ4 τ4 => wX8_read σ4 τ4 (fun r15 σ15 τ15 => (¬ r15 = 0 → x_l1 (wX10_play_36 Q) 0 (x_up σ15 1 1 0) τ15) ∧ (r15 = 0 → Q (-2) (x_up σ15 1 1 0) τ15)))
def wX10_undo (σ : x_S) (τ : x_L) (Q : Int32 → x_S → x_L → Prop) : Prop :=
  (¬ (σ 63 2) = 0 → wX2_takeBack 33 σ τ (fun σ20 τ20 => wX6_arrange 33 σ20 τ20 (fun σ27 τ27 => Q (σ27 63 2) σ27 τ27))) ∧ ((σ 63 2) = 0 → Q (-1) σ τ)
def wX10_digest_20 (K4 : Int32 → Int32 → x_S → x_L → Prop) (Q : Int32 → x_S → x_L → Prop) (K20 : Int32 → Int32 → Int32 → x_S → x_L → Prop) (v1 : Int32) (v2 : Int32) (v3 : Int32) (σ : x_S) (τ : x_L) : Prop :=
  vp_in v2 12 ∧ (((σ 30 v2.toNatClampNeg) ≤ v3 → K4 v1 (v2 + 1) σ τ) ∧ (¬ (σ 30 v2.toNatClampNeg) ≤ v3 → vp_in v3 120 ∧ (wX6_fuel 33 v3 σ τ (fun r72 σ72 τ72 => K20 ((31 * ((31 * ((31 * v1) + (σ 37 v3.toNatClampNeg))) + (σ 36 v3.toNatClampNeg))) + r72) v2 (v3 + 1) σ72 τ72))))
def wX10_digest_4 (Q : Int32 → x_S → x_L → Prop) (K4 : Int32 → Int32 → x_S → x_L → Prop) (v1 : Int32) (v2 : Int32) (σ : x_S) (τ : x_L) : Prop :=
  ((σ 3 5) ≤ v2 → Q v1 σ τ) ∧ (¬ (σ 3 5) ≤ v2 → x_l3 (wX10_digest_20 K4 Q) v1 v2 (v2 * 10) σ τ)
def wX10_digest (σ : x_S) (τ : x_L) (Q : Int32 → x_S → x_L → Prop) : Prop :=
  x_l2 (wX10_digest_4 Q) 1 0 σ τ
def wX10_saveSnapshot_9 (Q : Int32 → x_S → x_L → Prop) (σ : x_S) (τ : x_L) : Prop :=
  Q 0 σ τ
def wX10_saveSnapshot (a1 : Int32) (σ : x_S) (τ : x_L) (Q : Int32 → x_S → x_L → Prop) : Prop :=
  (a1 < 0 → wX10_saveSnapshot_9 Q σ τ) ∧ (¬ a1 < 0 → (a1 < 2 → wX2_saveIn 33 a1 σ τ (fun σ20 τ20 => Q 1 σ20 τ20)) ∧ (¬ a1 < 2 → wX10_saveSnapshot_9 Q σ τ))
def wX10_restoreSnapshot_21 (Q : Int32 → x_S → x_L → Prop) (σ : x_S) (τ : x_L) : Prop :=
  Q 0 σ τ
def wX10_restoreSnapshot (a1 : Int32) (σ : x_S) (τ : x_L) (Q : Int32 → x_S → x_L → Prop) : Prop :=
  (a1 < 0 → wX10_restoreSnapshot_21 Q σ τ) ∧ (¬ a1 < 0 → (2 ≤ a1 → wX10_restoreSnapshot_21 Q σ τ) ∧ (¬ 2 ≤ a1 → vp_in a1 2 ∧ ((¬ (σ 83 a1.toNatClampNeg) = 0 → wX2_restoreFrom 33 a1 σ τ (fun σ32 τ32 => wX6_arrange 33 σ32 τ32 (fun σ39 τ39 => wX2_forgetEdits σ39 τ39 (fun σ46 τ46 => Q 1 σ46 τ46)))) ∧ ((σ 83 a1.toNatClampNeg) = 0 → wX10_restoreSnapshot_21 Q σ τ))))
def wX11_thrown (σ : x_S) (τ : x_L) (Q : Int32 → x_S → x_L → Prop) : Prop :=
  Q (σ 0 5) σ τ
def wX11_throwsIf_9 (Q : Int32 → x_S → x_L → Prop) (v1 : Int32) (σ : x_S) (τ : x_L) : Prop :=
  (v1 = 0 ∨ v1 = 1) ∧ Q v1 σ τ
def wX11_throwsIf (a1 : Int32) (a2 : Int32) (σ : x_S) (τ : x_L) (Q : Int32 → x_S → x_L → Prop) : Prop :=
  (a1 = 0 → wX11_throwsIf_9 Q a1 σ τ) ∧ (¬ a1 = 0 → wX11_throwsIf_9 Q a1 (x_up σ 0 5 a2) τ)
def wX11_inRange_18 (Q : Int32 → x_S → x_L → Prop) (s0 : Int32) (σ : x_S) (τ : x_L) : Prop :=
  (s0 = 0 ∨ s0 = 1) ∧ Q s0 σ τ
def wX11_inRange_17 (Q : Int32 → x_S → x_L → Prop) (σ : x_S) (τ : x_L) : Prop :=
  wX11_inRange_18 Q 0 σ τ
def wX11_inRange (a0 : Int64) (a2 : Int64) (a4 : Int64) (σ : x_S) (τ : x_L) (Q : Int32 → x_S → x_L → Prop) : Prop :=
  ((lg_cmp a0 a2) < 0 → wX11_inRange_17 Q σ τ) ∧ (¬ (lg_cmp a0 a2) < 0 → (0 < (lg_cmp a0 a4) → wX11_inRange_17 Q σ τ) ∧ (¬ 0 < (lg_cmp a0 a4) → wX11_inRange_18 Q 1 σ τ))
def wX11_max_10 (Q : Int32 → x_S → x_L → Prop) (s0 : Int32) (σ : x_S) (τ : x_L) : Prop :=
  Q s0 σ τ
def wX11_max (a0 : Int32) (a1 : Int32) (σ : x_S) (τ : x_L) (Q : Int32 → x_S → x_L → Prop) : Prop :=
  (a0 ≤ a1 → wX11_max_10 Q a1 σ τ) ∧ (¬ a0 ≤ a1 → wX11_max_10 Q a0 σ τ)
def wX11_min_10 (Q : Int32 → x_S → x_L → Prop) (s0 : Int32) (σ : x_S) (τ : x_L) : Prop :=
  Q s0 σ τ
def wX11_min (a0 : Int32) (a1 : Int32) (σ : x_S) (τ : x_L) (Q : Int32 → x_S → x_L → Prop) : Prop :=
  (a1 ≤ a0 → wX11_min_10 Q a1 σ τ) ∧ (¬ a1 ≤ a0 → wX11_min_10 Q a0 σ τ)
def wX11_copyPlan_2 (Q : x_S → x_L → Prop) (K2 : Int32 → Int32 → Int32 → x_S → x_L → Prop) (v1 : Int32) (v2 : Int32) (v3 : Int32) (σ : x_S) (τ : x_L) : Prop :=
  (252 ≤ v3 → Q σ τ) ∧ (¬ 252 ≤ v3 → vp_in ((252 * v1) + v3) 4788 ∧ (vp_in ((252 * v2) + v3) 4788 ∧ (K2 v1 v2 (v3 + 1) (x_up σ 1 (((252 * v2) + v3).toNatClampNeg) (σ 1 ((252 * v1) + v3).toNatClampNeg)) τ)))
def wX11_copyPlan (a1 : Int32) (a2 : Int32) (σ : x_S) (τ : x_L) (Q : x_S → x_L → Prop) : Prop :=
  x_l3 (wX11_copyPlan_2 Q) a1 a2 0 σ τ
def wX11_keep_32 (Q : x_S → x_L → Prop) (σ : x_S) (τ : x_L) : Prop :=
  wX11_copyPlan 0 (3 + (((σ 0 2) + (σ 0 3)) - ((σ 0 2) + (σ 0 3)) / 15 * 15)) σ τ (fun σ48 τ48 => Q (x_up σ48 0 3 ((σ48 0 3) + 1)) τ48)
def wX11_keep (σ : x_S) (τ : x_L) (Q : x_S → x_L → Prop) : Prop :=
  (¬ (σ 0 3) = 15 → wX11_keep_32 Q σ τ) ∧ ((σ 0 3) = 15 → wX11_keep_32 Q (x_up (x_up σ 0 2 (((σ 0 2) + 1) - ((σ 0 2) + 1) / 15 * 15)) 0 3 (((x_up σ 0 2 (((σ 0 2) + 1) - ((σ 0 2) + 1) / 15 * 15)) 0 3) - 1)) τ)
def wX11_undo (σ : x_S) (τ : x_L) (Q : Int32 → x_S → x_L → Prop) : Prop :=
  (¬ ((x_up σ 0 5 0) 0 3) = 0 → wX11_copyPlan (3 + ((((x_up (x_up σ 0 5 0) 0 3 (((x_up σ 0 5 0) 0 3) - 1)) 0 2) + ((x_up (x_up σ 0 5 0) 0 3 (((x_up σ 0 5 0) 0 3) - 1)) 0 3)) - (((x_up (x_up σ 0 5 0) 0 3 (((x_up σ 0 5 0) 0 3) - 1)) 0 2) + ((x_up (x_up σ 0 5 0) 0 3 (((x_up σ 0 5 0) 0 3) - 1)) 0 3)) / 15 * 15)) 0 (x_up (x_up σ 0 5 0) 0 3 (((x_up σ 0 5 0) 0 3) - 1)) τ (fun σ40 τ40 => Q (σ40 0 3) σ40 τ40)) ∧ (((x_up σ 0 5 0) 0 3) = 0 → Q (-1) (x_up σ 0 5 0) τ)
def wX11_saveSnapshot (a1 : Int32) (σ : x_S) (τ : x_L) (Q : Int32 → x_S → x_L → Prop) : Prop :=
  wX11_inRange ((a1 : Int32).toInt64) 0 1 (x_up σ 0 5 0) τ (fun r9 σ9 τ9 => (¬ r9 = 0 → wX11_copyPlan 0 (1 + a1) σ9 τ9 (fun σ22 τ22 => vp_in a1 2 ∧ (Q 1 (x_up σ22 2 a1.toNatClampNeg (vp_nar .boolean 1)) τ22))) ∧ (r9 = 0 → Q 0 σ9 τ9))
def wX11_restoreSnapshot_24 (Q : Int32 → x_S → x_L → Prop) (σ : x_S) (τ : x_L) : Prop :=
  Q 0 σ τ
def wX11_restoreSnapshot (a1 : Int32) (σ : x_S) (τ : x_L) (Q : Int32 → x_S → x_L → Prop) : Prop :=
  wX11_inRange ((a1 : Int32).toInt64) 0 1 (x_up σ 0 5 0) τ (fun r9 σ9 τ9 => (r9 = 0 → wX11_restoreSnapshot_24 Q σ9 τ9) ∧ (¬ r9 = 0 → vp_in a1 2 ∧ ((¬ (σ9 2 a1.toNatClampNeg) = 0 → wX11_copyPlan (1 + a1) 0 σ9 τ9 (fun σ31 τ31 => Q 1 (x_up σ31 0 3 0) τ31)) ∧ ((σ9 2 a1.toNatClampNeg) = 0 → wX11_restoreSnapshot_24 Q σ9 τ9))))
def wX11_ofRoad (a1 : Int32) (a2 : Int32) (σ : x_S) (τ : x_L) (Q : Int32 → x_S → x_L → Prop) : Prop :=
  vp_in ((2 + (4 * a1)) + a2) 580 ∧ (Q (σ 3 ((2 + (4 * a1)) + a2).toNatClampNeg) σ τ)
def wX11_ofTruck (a1 : Int32) (a2 : Int32) (σ : x_S) (τ : x_L) (Q : Int32 → x_S → x_L → Prop) : Prop :=
  vp_in ((122 + (14 * a1)) + a2) 580 ∧ (Q (σ 3 ((122 + (14 * a1)) + a2).toNatClampNeg) σ τ)
def wX11_placesOf (a1 : Int32) (σ : x_S) (τ : x_L) (Q : Int32 → x_S → x_L → Prop) : Prop :=
  wX11_ofTruck a1 3 σ τ (fun r3 σ3 τ3 => Q r3 σ3 τ3)
def wX11_roadAt (a1 : Int32) (a2 : Int32) (σ : x_S) (τ : x_L) (Q : Int32 → x_S → x_L → Prop) : Prop :=
  wX11_ofTruck a1 (4 + a2) σ τ (fun r5 σ5 τ5 => Q r5 σ5 τ5)
def wX11_isRoad (a1 : Int32) (σ : x_S) (τ : x_L) (Q : Int32 → x_S → x_L → Prop) : Prop :=
  wX11_inRange ((a1 : Int32).toInt64) 0 ((((σ 3 (0 : Int32).toNatClampNeg) - 1) : Int32).toInt64) σ τ (fun r12 σ12 τ12 => (r12 = 0 ∨ r12 = 1) ∧ Q r12 σ12 τ12)
def wX11_isTruck (a1 : Int32) (σ : x_S) (τ : x_L) (Q : Int32 → x_S → x_L → Prop) : Prop :=
  wX11_inRange ((a1 : Int32).toInt64) 0 ((((σ 3 (1 : Int32).toNatClampNeg) - 1) : Int32).toInt64) σ τ (fun r12 σ12 τ12 => (r12 = 0 ∨ r12 = 1) ∧ Q r12 σ12 τ12)
def wX11_isPlace_30 (Q : Int32 → x_S → x_L → Prop) (s0 : Int32) (σ : x_S) (τ : x_L) : Prop :=
  (s0 = 0 ∨ s0 = 1) ∧ Q s0 σ τ
def wX11_isPlace_29 (Q : Int32 → x_S → x_L → Prop) (σ : x_S) (τ : x_L) : Prop :=
  wX11_isPlace_30 Q 0 σ τ
def wX11_isPlace (a1 : Int32) (a2 : Int32) (σ : x_S) (τ : x_L) (Q : Int32 → x_S → x_L → Prop) : Prop :=
  wX11_isTruck a1 σ τ (fun r2 σ2 τ2 => (r2 = 0 → wX11_isPlace_29 Q σ2 τ2) ∧ (¬ r2 = 0 → wX11_placesOf a1 σ2 τ2 (fun r13 σ13 τ13 => wX11_inRange ((a2 : Int32).toInt64) 0 (((r13 - 1) : Int32).toInt64) σ13 τ13 (fun r19 σ19 τ19 => (r19 = 0 → wX11_isPlace_29 Q σ19 τ19) ∧ (¬ r19 = 0 → wX11_isPlace_30 Q 1 σ19 τ19)))))
def wX11_spot (a0 : Int32) (a1 : Int32) (σ : x_S) (τ : x_L) (Q : Int32 → x_S → x_L → Prop) : Prop :=
  Q ((10 * a0) + a1) σ τ
def wX11_waitAt (a1 : Int32) (a2 : Int32) (σ : x_S) (τ : x_L) (Q : Int32 → x_S → x_L → Prop) : Prop :=
  wX11_spot a1 a2 σ τ (fun r8 σ8 τ8 => vp_in (12 + r8) 4788 ∧ (Q (σ8 1 (12 + r8).toNatClampNeg) σ8 τ8))
def wX11_speedAt (a1 : Int32) (a2 : Int32) (σ : x_S) (τ : x_L) (Q : Int32 → x_S → x_L → Prop) : Prop :=
  wX11_spot a1 a2 σ τ (fun r9 σ9 τ9 => vp_in (132 + r9) 4788 ∧ (Q (σ9 1 (132 + r9).toNatClampNeg) σ9 τ9))
def wX11_limitAt (a1 : Int32) (a2 : Int32) (σ : x_S) (τ : x_L) (Q : Int32 → x_S → x_L → Prop) : Prop :=
  wX11_roadAt a1 a2 σ τ (fun r4 σ4 τ4 => wX11_ofRoad r4 3 σ4 τ4 (fun r8 σ8 τ8 => Q r8 σ8 τ8))
def wX11_nextRoad_23 (Q : Int32 → x_S → x_L → Prop) (s0 : Int32) (σ : x_S) (τ : x_L) : Prop :=
  Q s0 σ τ
def wX11_nextRoad (a1 : Int32) (a2 : Int32) (σ : x_S) (τ : x_L) (Q : Int32 → x_S → x_L → Prop) : Prop :=
  wX11_placesOf a1 σ τ (fun r5 σ5 τ5 => (r5 ≤ (a2 + 1) → wX11_nextRoad_23 Q (-1) σ5 τ5) ∧ (¬ r5 ≤ (a2 + 1) → wX11_roadAt a1 (a2 + 1) σ5 τ5 (fun r16 σ16 τ16 => wX11_nextRoad_23 Q r16 σ16 τ16)))
def wX11_minutes (a1 : Int32) (a2 : Int32) (σ : x_S) (τ : x_L) (Q : Int32 → x_S → x_L → Prop) : Prop :=
  wX11_ofRoad a1 2 σ τ (fun r3 σ3 τ3 => ¬ a2 = 0 ∧ (Q ((((r3 * 60) + a2) - 1) / a2) σ3 τ3))
def wX11_baseAt (a1 : Int32) (a2 : Int32) (σ : x_S) (τ : x_L) (Q : Int32 → x_S → x_L → Prop) : Prop :=
  wX11_speedAt a1 a2 σ τ (fun r3 σ3 τ3 => wX11_roadAt a1 a2 σ3 τ3 (fun r11 σ11 τ11 => wX11_ofRoad r11 2 σ11 τ11 (fun r15 σ15 τ15 => Q (r15 * (150 + ((r3 * r3) / 40))) σ15 τ15)))
def wX11_layTimes_9 (Q : x_S → x_L → Prop) (K9 : Int32 → Int32 → Int32 → x_S → x_L → Prop) (v1 : Int32) (v2 : Int32) (v3 : Int32) (σ : x_S) (τ : x_L) : Prop :=
  wX11_placesOf v1 σ τ (fun r12 σ12 τ12 => (r12 ≤ v3 → Q σ12 τ12) ∧ (¬ r12 ≤ v3 → wX11_spot v1 v3 σ12 τ12 (fun r24 σ24 τ24 => wX11_waitAt v1 v3 σ24 τ24 (fun r31 σ31 τ31 => vp_in r24 120 ∧ (wX11_spot v1 v3 (x_up σ31 4 r24.toNatClampNeg (v2 + r31)) τ31 (fun r42 σ42 τ42 => vp_in r42 120 ∧ (wX11_roadAt v1 v3 σ42 τ42 (fun r50 σ50 τ50 => wX11_speedAt v1 v3 σ50 τ50 (fun r56 σ56 τ56 => wX11_minutes r50 r56 σ56 τ56 (fun r59 σ59 τ59 => wX11_spot v1 v3 σ59 τ59 (fun r70 σ70 τ70 => vp_in r70 120 ∧ (K9 v1 ((σ42 4 r42.toNatClampNeg) + r59) (v3 + 1) (x_up σ70 5 r70.toNatClampNeg ((σ42 4 r42.toNatClampNeg) + r59)) τ70))))))))))))
def wX11_layTimes (a1 : Int32) (σ : x_S) (τ : x_L) (Q : x_S → x_L → Prop) : Prop :=
  vp_in a1 4788 ∧ (x_l3 (wX11_layTimes_9 Q) a1 (σ 1 a1.toNatClampNeg) 0 σ τ)
def wX11_areMates_61 (Q : Int32 → x_S → x_L → Prop) (s0 : Int32) (σ : x_S) (τ : x_L) : Prop :=
  (s0 = 0 ∨ s0 = 1) ∧ Q s0 σ τ
def wX11_areMates_60 (Q : Int32 → x_S → x_L → Prop) (σ : x_S) (τ : x_L) : Prop :=
  wX11_areMates_61 Q 0 σ τ
def wX11_areMates (a1 : Int32) (a2 : Int32) (a3 : Int32) (a4 : Int32) (σ : x_S) (τ : x_L) (Q : Int32 → x_S → x_L → Prop) : Prop :=
  wX11_roadAt a1 a2 σ τ (fun r3 σ3 τ3 => wX11_roadAt a3 a4 σ3 τ3 (fun r10 σ10 τ10 => (¬ r3 = r10 → wX11_areMates_60 Q σ10 τ10) ∧ (r3 = r10 → wX11_spot a1 a2 σ10 τ10 (fun r22 σ22 τ22 => vp_in r22 120 ∧ (wX11_spot a3 a4 σ22 τ22 (fun r33 σ33 τ33 => vp_in r33 120 ∧ ((¬ (σ22 4 r22.toNatClampNeg) = (σ33 4 r33.toNatClampNeg) → wX11_areMates_60 Q σ33 τ33) ∧ ((σ22 4 r22.toNatClampNeg) = (σ33 4 r33.toNatClampNeg) → wX11_speedAt a1 a2 σ33 τ33 (fun r43 σ43 τ43 => wX11_speedAt a3 a4 σ43 τ43 (fun r50 σ50 τ50 => (¬ r43 = r50 → wX11_areMates_60 Q σ50 τ50) ∧ (r43 = r50 → wX11_areMates_61 Q 1 σ50 τ50)))))))))))
def wX11_mateOf (a1 : Int32) (a2 : Int32) (a3 : Int32) (σ : x_S) (τ : x_L) (Q : Int32 → x_S → x_L → Prop) : Prop :=
  wX11_spot a1 a2 σ τ (fun r8 σ8 τ8 => vp_in ((12 * r8) + a3) 1440 ∧ (Q (σ8 6 ((12 * r8) + a3).toNatClampNeg) σ8 τ8))
def wX11_setMate (a1 : Int32) (a2 : Int32) (a3 : Int32) (a4 : Int32) (σ : x_S) (τ : x_L) (Q : x_S → x_L → Prop) : Prop :=
  wX11_spot a1 a2 σ τ (fun r8 σ8 τ8 => vp_in ((12 * r8) + a3) 1440 ∧ (Q (x_up σ8 6 (((12 * r8) + a3).toNatClampNeg) a4) τ8))
def wX11_layMates_113 (K24 : Int32 → x_S → x_L → Prop) (K36 : Int32 → Int32 → x_S → x_L → Prop) (K57 : Int32 → Int32 → Int32 → x_S → x_L → Prop) (K70 : Int32 → Int32 → Int32 → Int32 → x_S → x_L → Prop) (Q : x_S → x_L → Prop) (v1 : Int32) (v2 : Int32) (v3 : Int32) (v4 : Int32) (σ : x_S) (τ : x_L) : Prop :=
  K70 v1 v2 v3 (v4 + 1) σ τ
def wX11_layMates_70 (K24 : Int32 → x_S → x_L → Prop) (K36 : Int32 → Int32 → x_S → x_L → Prop) (K57 : Int32 → Int32 → Int32 → x_S → x_L → Prop) (Q : x_S → x_L → Prop) (K70 : Int32 → Int32 → Int32 → Int32 → x_S → x_L → Prop) (v1 : Int32) (v2 : Int32) (v3 : Int32) (v4 : Int32) (σ : x_S) (τ : x_L) : Prop :=
  wX11_placesOf v3 σ τ (fun r74 σ74 τ74 => (r74 ≤ v4 → K57 v1 v2 (v3 + 1) σ74 τ74) ∧ (¬ r74 ≤ v4 → wX11_areMates v1 v2 v3 v4 σ74 τ74 (fun r86 σ86 τ86 => (¬ r86 = 0 → wX11_setMate v1 v2 v3 v4 σ86 τ86 (fun σ101 τ101 => wX11_setMate v3 v4 v1 v2 σ101 τ101 (fun σ110 τ110 => wX11_layMates_113 K24 K36 K57 K70 Q v1 v2 v3 v4 σ110 τ110))) ∧ (r86 = 0 → wX11_layMates_113 K24 K36 K57 K70 Q v1 v2 v3 v4 σ86 τ86))))
def wX11_layMates_57 (K24 : Int32 → x_S → x_L → Prop) (K36 : Int32 → Int32 → x_S → x_L → Prop) (Q : x_S → x_L → Prop) (K57 : Int32 → Int32 → Int32 → x_S → x_L → Prop) (v1 : Int32) (v2 : Int32) (v3 : Int32) (σ : x_S) (τ : x_L) : Prop :=
  ((σ 3 (1 : Int32).toNatClampNeg) ≤ v3 → K36 v1 (v2 + 1) σ τ) ∧ (¬ (σ 3 (1 : Int32).toNatClampNeg) ≤ v3 → x_l4 (wX11_layMates_70 K24 K36 K57 Q) v1 v2 v3 0 σ τ)
def wX11_layMates_36 (K24 : Int32 → x_S → x_L → Prop) (Q : x_S → x_L → Prop) (K36 : Int32 → Int32 → x_S → x_L → Prop) (v1 : Int32) (v2 : Int32) (σ : x_S) (τ : x_L) : Prop :=
  wX11_placesOf v1 σ τ (fun r39 σ39 τ39 => (r39 ≤ v2 → K24 (v1 + 1) σ39 τ39) ∧ (¬ r39 ≤ v2 → wX11_setMate v1 v2 v1 v2 σ39 τ39 (fun σ50 τ50 => x_l3 (wX11_layMates_57 K24 K36 Q) v1 v2 (v1 + 1) σ50 τ50)))
def wX11_layMates_24 (Q : x_S → x_L → Prop) (K24 : Int32 → x_S → x_L → Prop) (v1 : Int32) (σ : x_S) (τ : x_L) : Prop :=
  ((σ 3 (1 : Int32).toNatClampNeg) ≤ v1 → Q σ τ) ∧ (¬ (σ 3 (1 : Int32).toNatClampNeg) ≤ v1 → x_l2 (wX11_layMates_36 K24 Q) v1 0 σ τ)
def wX11_layMates_2 (Q : x_S → x_L → Prop) (K2 : Int32 → x_S → x_L → Prop) (v1 : Int32) (σ : x_S) (τ : x_L) : Prop :=
  (1440 ≤ v1 → x_l1 (wX11_layMates_24 Q) 0 σ τ) ∧ (¬ 1440 ≤ v1 → vp_in v1 1440 ∧ (K2 (v1 + 1) (x_up σ 6 v1.toNatClampNeg (-1)) τ))
def wX11_layMates (σ : x_S) (τ : x_L) (Q : x_S → x_L → Prop) : Prop :=
  x_l1 (wX11_layMates_2 Q) 0 σ τ
def wX11_shared_56 (Q : Int32 → x_S → x_L → Prop) (v5 : Int32) (σ : x_S) (τ : x_L) : Prop :=
  Q v5 σ τ
def wX11_shared_3 (Q : Int32 → x_S → x_L → Prop) (K3 : Int32 → Int32 → Int32 → Int32 → Int32 → x_S → x_L → Prop) (v1 : Int32) (v2 : Int32) (v3 : Int32) (v4 : Int32) (v5 : Int32) (σ : x_S) (τ : x_L) : Prop :=
  wX11_placesOf v1 σ τ (fun r9 σ9 τ9 => (r9 ≤ (v2 + v5) → wX11_shared_56 Q v5 σ9 τ9) ∧ (¬ r9 ≤ (v2 + v5) → wX11_placesOf v3 σ9 τ9 (fun r22 σ22 τ22 => (r22 ≤ (v4 + v5) → wX11_shared_56 Q v5 σ22 τ22) ∧ (¬ r22 ≤ (v4 + v5) → wX11_roadAt v1 (v2 + v5) σ22 τ22 (fun r34 σ34 τ34 => wX11_roadAt v3 (v4 + v5) σ34 τ34 (fun r44 σ44 τ44 => (¬ r34 = r44 → wX11_shared_56 Q v5 σ44 τ44) ∧ (r34 = r44 → K3 v1 v2 v3 v4 (v5 + 1) σ44 τ44)))))))
def wX11_shared (a1 : Int32) (a2 : Int32) (a3 : Int32) (a4 : Int32) (σ : x_S) (τ : x_L) (Q : Int32 → x_S → x_L → Prop) : Prop :=
  x_l5 (wX11_shared_3 Q) a1 a2 a3 a4 0 σ τ
def wX11_layKey_66 (K8 : Int32 → Int32 → Int32 → Int32 → Int32 → x_S → x_L → Prop) (Q : x_S → x_L → Prop) (v1 : Int32) (v2 : Int32) (v3 : Int32) (v4 : Int32) (v5 : Int32) (σ : x_S) (τ : x_L) : Prop :=
  K8 v1 v2 v3 v4 (v5 + 1) σ τ
def wX11_layKey_65 (K8 : Int32 → Int32 → Int32 → Int32 → Int32 → x_S → x_L → Prop) (Q : x_S → x_L → Prop) (v1 : Int32) (v2 : Int32) (v4 : Int32) (v5 : Int32) (s0 : Int32) (σ : x_S) (τ : x_L) : Prop :=
  wX11_layKey_66 K8 Q v1 v2 s0 v4 v5 σ τ
def wX11_layKey_8 (Q : x_S → x_L → Prop) (K8 : Int32 → Int32 → Int32 → Int32 → Int32 → x_S → x_L → Prop) (v1 : Int32) (v2 : Int32) (v3 : Int32) (v4 : Int32) (v5 : Int32) (σ : x_S) (τ : x_L) : Prop :=
  ((σ 3 (1 : Int32).toNatClampNeg) ≤ v5 → wX11_spot v1 v2 σ τ (fun r78 σ78 τ78 => vp_in r78 120 ∧ (wX11_spot v1 v2 (x_up σ78 8 r78.toNatClampNeg v3) τ78 (fun r89 σ89 τ89 => vp_in r89 120 ∧ (Q (x_up σ89 7 r89.toNatClampNeg v4) τ89))))) ∧ (¬ (σ 3 (1 : Int32).toNatClampNeg) ≤ v5 → wX11_mateOf v1 v2 v5 σ τ (fun r24 σ24 τ24 => (¬ r24 = (-1) → (¬ v5 = v1 → wX11_shared v1 v2 v5 r24 σ24 τ24 (fun r59 σ59 τ59 => wX11_max v3 r59 σ59 τ59 (fun r62 σ62 τ62 => wX11_layKey_65 K8 Q v1 v2 (v4 + 1) v5 r62 σ62 τ62))) ∧ (v5 = v1 → wX11_layKey_65 K8 Q v1 v2 (v4 + 1) v5 v3 σ24 τ24)) ∧ (r24 = (-1) → wX11_layKey_66 K8 Q v1 v2 v3 v4 v5 σ24 τ24)))
def wX11_layKey (a1 : Int32) (a2 : Int32) (σ : x_S) (τ : x_L) (Q : x_S → x_L → Prop) : Prop :=
  x_l5 (wX11_layKey_8 Q) a1 a2 0 0 0 σ τ
def wX11_layPosition_95 (K17 : Int32 → Int32 → Int32 → Int32 → Int32 → x_S → x_L → Prop) (Q : x_S → x_L → Prop) (v1 : Int32) (v2 : Int32) (v3 : Int32) (v4 : Int32) (v5 : Int32) (σ : x_S) (τ : x_L) : Prop :=
  K17 v1 v2 v3 v4 (v5 + 1) σ τ
def wX11_layPosition_92 (K17 : Int32 → Int32 → Int32 → Int32 → Int32 → x_S → x_L → Prop) (Q : x_S → x_L → Prop) (v1 : Int32) (v2 : Int32) (v3 : Int32) (v5 : Int32) (s0 : Int32) (s1 : Int32) (σ : x_S) (τ : x_L) : Prop :=
  wX11_layPosition_95 K17 Q v1 v2 v3 (s0 + s1) v5 σ τ
def wX11_layPosition_87 (K17 : Int32 → Int32 → Int32 → Int32 → Int32 → x_S → x_L → Prop) (Q : x_S → x_L → Prop) (v1 : Int32) (v2 : Int32) (v3 : Int32) (v5 : Int32) (s0 : Int32) (σ : x_S) (τ : x_L) : Prop :=
  wX11_layPosition_92 K17 Q v1 v2 v3 v5 s0 1 σ τ
def wX11_layPosition_91 (K17 : Int32 → Int32 → Int32 → Int32 → Int32 → x_S → x_L → Prop) (Q : x_S → x_L → Prop) (v1 : Int32) (v2 : Int32) (v3 : Int32) (v5 : Int32) (s0 : Int32) (σ : x_S) (τ : x_L) : Prop :=
  wX11_layPosition_92 K17 Q v1 v2 v3 v5 s0 0 σ τ
def wX11_layPosition_17 (Q : x_S → x_L → Prop) (K17 : Int32 → Int32 → Int32 → Int32 → Int32 → x_S → x_L → Prop) (v1 : Int32) (v2 : Int32) (v3 : Int32) (v4 : Int32) (v5 : Int32) (σ : x_S) (τ : x_L) : Prop :=
  ((σ 3 (1 : Int32).toNatClampNeg) ≤ v5 → wX11_spot v1 v2 σ τ (fun r107 σ107 τ107 => vp_in r107 120 ∧ (Q (x_up σ107 9 r107.toNatClampNeg v4) τ107))) ∧ (¬ (σ 3 (1 : Int32).toNatClampNeg) ≤ v5 → wX11_mateOf v1 v2 v5 σ τ (fun r33 σ33 τ33 => (r33 = (-1) → wX11_layPosition_95 K17 Q v1 v2 v3 v4 v5 σ33 τ33) ∧ (¬ r33 = (-1) → (¬ v5 = v1 → wX11_spot v5 r33 σ33 τ33 (fun r61 σ61 τ61 => vp_in r61 120 ∧ ((v3 < (σ61 8 r61.toNatClampNeg) → wX11_layPosition_87 K17 Q v1 v2 v3 v5 v4 σ61 τ61) ∧ (¬ v3 < (σ61 8 r61.toNatClampNeg) → (¬ (σ61 8 r61.toNatClampNeg) = v3 → wX11_layPosition_91 K17 Q v1 v2 v3 v5 v4 σ61 τ61) ∧ ((σ61 8 r61.toNatClampNeg) = v3 → (v1 ≤ v5 → wX11_layPosition_91 K17 Q v1 v2 v3 v5 v4 σ61 τ61) ∧ (¬ v1 ≤ v5 → wX11_layPosition_87 K17 Q v1 v2 v3 v5 v4 σ61 τ61)))))) ∧ (v5 = v1 → wX11_layPosition_95 K17 Q v1 v2 v3 v4 v5 σ33 τ33))))
def wX11_layPosition (a1 : Int32) (a2 : Int32) (σ : x_S) (τ : x_L) (Q : x_S → x_L → Prop) : Prop :=
  wX11_spot a1 a2 σ τ (fun r6 σ6 τ6 => vp_in r6 120 ∧ (x_l5 (wX11_layPosition_17 Q) a1 a2 (σ6 8 r6.toNatClampNeg) 0 0 σ6 τ6))
def wX11_memberAt_49 (K3 : Int32 → Int32 → Int32 → Int32 → x_S → x_L → Prop) (Q : Int32 → x_S → x_L → Prop) (v1 : Int32) (v2 : Int32) (v3 : Int32) (v4 : Int32) (σ : x_S) (τ : x_L) : Prop :=
  K3 v1 v2 v3 (v4 + 1) σ τ
def wX11_memberAt_3 (Q : Int32 → x_S → x_L → Prop) (K3 : Int32 → Int32 → Int32 → Int32 → x_S → x_L → Prop) (v1 : Int32) (v2 : Int32) (v3 : Int32) (v4 : Int32) (σ : x_S) (τ : x_L) : Prop :=
  ((σ 3 (1 : Int32).toNatClampNeg) ≤ v4 → Q (-1) σ τ) ∧ (¬ (σ 3 (1 : Int32).toNatClampNeg) ≤ v4 → wX11_mateOf v1 v2 v4 σ τ (fun r19 σ19 τ19 => (r19 = (-1) → wX11_memberAt_49 K3 Q v1 v2 v3 v4 σ19 τ19) ∧ (¬ r19 = (-1) → wX11_spot v4 r19 σ19 τ19 (fun r38 σ38 τ38 => vp_in r38 120 ∧ ((¬ (σ38 9 r38.toNatClampNeg) = v3 → wX11_memberAt_49 K3 Q v1 v2 v3 v4 σ38 τ38) ∧ ((σ38 9 r38.toNatClampNeg) = v3 → Q v4 σ38 τ38))))))
def wX11_memberAt (a1 : Int32) (a2 : Int32) (a3 : Int32) (σ : x_S) (τ : x_L) (Q : Int32 → x_S → x_L → Prop) : Prop :=
  x_l4 (wX11_memberAt_3 Q) a1 a2 a3 0 σ τ
def wX11_distanceBehind (a1 : Int32) (σ : x_S) (τ : x_L) (Q : Int32 → x_S → x_L → Prop) : Prop :=
  vp_in a1 12 ∧ (wX11_ofTruck (σ 13 a1.toNatClampNeg) 2 σ τ (fun r8 σ8 τ8 => vp_in (a1 - 1) 12 ∧ (wX11_ofTruck (σ8 13 (a1 - 1).toNatClampNeg) 2 σ8 τ8 (fun r21 σ21 τ21 => wX11_max r8 r21 σ21 τ21 (fun r24 σ24 τ24 => Q r24 σ24 τ24)))))
def wX11_shareOf (a1 : Int32) (σ : x_S) (τ : x_L) (Q : Int32 → x_S → x_L → Prop) : Prop :=
  wX11_distanceBehind a1 σ τ (fun r7 σ7 τ7 => wX11_max 0 (150 - (3 * r7)) σ7 τ7 (fun r12 σ12 τ12 => Q r12 σ12 τ12))
def wX11_savingOf_55 (Q : Int32 → x_S → x_L → Prop) (s0 : Int32) (σ : x_S) (τ : x_L) : Prop :=
  Q s0 σ τ
def wX11_savingOf (a1 : Int32) (a2 : Int32) (σ : x_S) (τ : x_L) (Q : Int32 → x_S → x_L → Prop) : Prop :=
  vp_in a1 12 ∧ (wX11_baseAt (σ 13 a1.toNatClampNeg) (σ 14 a1.toNatClampNeg) σ τ (fun r13 σ13 τ13 => (a1 ≤ 0 → (a2 ≤ 1 → wX11_savingOf_55 Q 0 σ13 τ13) ∧ (¬ a2 ≤ 1 → wX11_shareOf 1 σ13 τ13 (fun r41 σ41 τ41 => wX11_savingOf_55 Q ((r13 * (r41 / 4)) / 1000) σ41 τ41))) ∧ (¬ a1 ≤ 0 → wX11_shareOf a1 σ13 τ13 (fun r24 σ24 τ24 => Q ((r13 * r24) / 1000) σ24 τ24))))
def wX11_isClosing_50 (Q : Int32 → x_S → x_L → Prop) (σ : x_S) (τ : x_L) : Prop :=
  Q 0 σ τ
def wX11_isClosing_93 (K57 : Int32 → Int32 → Int32 → Int32 → x_S → x_L → Prop) (Q : Int32 → x_S → x_L → Prop) (v1 : Int32) (v2 : Int32) (v4 : Int32) (s0 : Int32) (s1 : Int32) (σ : x_S) (τ : x_L) : Prop :=
  K57 v1 v2 (s0 ||| s1) (v4 + 1) σ τ
def wX11_isClosing_57 (Q : Int32 → x_S → x_L → Prop) (K57 : Int32 → Int32 → Int32 → Int32 → x_S → x_L → Prop) (v1 : Int32) (v2 : Int32) (v3 : Int32) (v4 : Int32) (σ : x_S) (τ : x_L) : Prop :=
  ((v1 - 1) ≤ v4 → (v3 = 0 ∨ v3 = 1) ∧ Q v3 σ τ) ∧ (¬ (v1 - 1) ≤ v4 → vp_in v4 12 ∧ (wX11_nextRoad (σ 13 v4.toNatClampNeg) (σ 14 v4.toNatClampNeg) σ τ (fun r81 σ81 τ81 => (¬ r81 = v2 → wX11_isClosing_93 K57 Q v1 v2 v4 v3 0 σ81 τ81) ∧ (r81 = v2 → wX11_isClosing_93 K57 Q v1 v2 v4 v3 1 σ81 τ81))))
def wX11_isClosing (a1 : Int32) (σ : x_S) (τ : x_L) (Q : Int32 → x_S → x_L → Prop) : Prop :=
  vp_in a1 12 ∧ (wX11_nextRoad (σ 13 a1.toNatClampNeg) (σ 14 a1.toNatClampNeg) σ τ (fun r13 σ13 τ13 => (a1 = 0 → wX11_isClosing_50 Q σ13 τ13) ∧ (¬ a1 = 0 → (r13 = (-1) → wX11_isClosing_50 Q σ13 τ13) ∧ (¬ r13 = (-1) → vp_in (a1 - 1) 12 ∧ (wX11_nextRoad (σ13 13 (a1 - 1).toNatClampNeg) (σ13 14 (a1 - 1).toNatClampNeg) σ13 τ13 (fun r43 σ43 τ43 => (¬ r43 = r13 → x_l4 (wX11_isClosing_57 Q) a1 r13 0 0 σ43 τ43) ∧ (r43 = r13 → wX11_isClosing_50 Q σ43 τ43)))))))
def wX11_layOrder_14 (Q : Int32 → x_S → x_L → Prop) (K14 : Int32 → Int32 → Int32 → Int32 → x_S → x_L → Prop) (v1 : Int32) (v2 : Int32) (v3 : Int32) (v4 : Int32) (σ : x_S) (τ : x_L) : Prop :=
  (v3 ≤ v4 → Q v3 σ τ) ∧ (¬ v3 ≤ v4 → wX11_memberAt v1 v2 v4 σ τ (fun r31 σ31 τ31 => vp_in v4 12 ∧ (wX11_mateOf v1 v2 ((x_up σ31 13 v4.toNatClampNeg r31) 13 v4.toNatClampNeg) (x_up σ31 13 v4.toNatClampNeg r31) τ31 (fun r51 σ51 τ51 => K14 v1 v2 v3 (v4 + 1) (x_up σ51 14 v4.toNatClampNeg r51) τ51))))
def wX11_layOrder (a1 : Int32) (a2 : Int32) (σ : x_S) (τ : x_L) (Q : Int32 → x_S → x_L → Prop) : Prop :=
  wX11_spot a1 a2 σ τ (fun r6 σ6 τ6 => vp_in r6 120 ∧ (x_l4 (wX11_layOrder_14 Q) a1 a2 (σ6 7 r6.toNatClampNeg) 0 σ6 τ6))
def wX11_layPlatoon_56 (K10 : Int32 → Int32 → x_S → x_L → Prop) (Q : x_S → x_L → Prop) (v3 : Int32) (v4 : Int32) (v5 : Int32) (s1 : Int32) (s2 : Int32) (σ : x_S) (τ : x_L) : Prop :=
  vp_in s1 120 ∧ (wX11_savingOf v4 v3 (x_up σ 10 s1.toNatClampNeg s2) τ (fun r67 σ67 τ67 => vp_in v5 120 ∧ (wX11_isClosing v4 (x_up σ67 11 v5.toNatClampNeg r67) τ67 (fun r80 σ80 τ80 => K10 v3 (v4 + 1) (x_up σ80 12 v5.toNatClampNeg (vp_nar .boolean r80)) τ80))))
def wX11_layPlatoon_10 (Q : x_S → x_L → Prop) (K10 : Int32 → Int32 → x_S → x_L → Prop) (v3 : Int32) (v4 : Int32) (σ : x_S) (τ : x_L) : Prop :=
  (v3 ≤ v4 → Q σ τ) ∧ (¬ v3 ≤ v4 → vp_in v4 12 ∧ (wX11_spot (σ 13 v4.toNatClampNeg) (σ 14 v4.toNatClampNeg) σ τ (fun r30 σ30 τ30 => (¬ v4 = 0 → wX11_distanceBehind v4 σ30 τ30 (fun r53 σ53 τ53 => wX11_layPlatoon_56 K10 Q v3 v4 r30 r30 r53 σ53 τ53)) ∧ (v4 = 0 → wX11_layPlatoon_56 K10 Q v3 v4 r30 r30 0 σ30 τ30))))
def wX11_layPlatoon (a1 : Int32) (a2 : Int32) (σ : x_S) (τ : x_L) (Q : x_S → x_L → Prop) : Prop :=
  wX11_layOrder a1 a2 σ τ (fun r3 σ3 τ3 => x_l2 (wX11_layPlatoon_10 Q) r3 0 σ3 τ3)
def wX11_lay_41 (K29 : Int32 → x_S → x_L → Prop) (Q : x_S → x_L → Prop) (K41 : Int32 → Int32 → x_S → x_L → Prop) (v1 : Int32) (v2 : Int32) (σ : x_S) (τ : x_L) : Prop :=
  wX11_placesOf v1 σ τ (fun r44 σ44 τ44 => (r44 ≤ v2 → K29 (v1 + 1) σ44 τ44) ∧ (¬ r44 ≤ v2 → wX11_layKey v1 v2 σ44 τ44 (fun σ53 τ53 => K41 v1 (v2 + 1) σ53 τ53)))
def wX11_lay_82 (K70 : Int32 → x_S → x_L → Prop) (Q : x_S → x_L → Prop) (K82 : Int32 → Int32 → x_S → x_L → Prop) (v1 : Int32) (v2 : Int32) (σ : x_S) (τ : x_L) : Prop :=
  wX11_placesOf v1 σ τ (fun r85 σ85 τ85 => (r85 ≤ v2 → K70 (v1 + 1) σ85 τ85) ∧ (¬ r85 ≤ v2 → wX11_layPosition v1 v2 σ85 τ85 (fun σ94 τ94 => K82 v1 (v2 + 1) σ94 τ94)))
def wX11_lay_151 (K111 : Int32 → x_S → x_L → Prop) (K123 : Int32 → Int32 → x_S → x_L → Prop) (Q : x_S → x_L → Prop) (v1 : Int32) (v2 : Int32) (σ : x_S) (τ : x_L) : Prop :=
  K123 v1 (v2 + 1) σ τ
def wX11_lay_123 (K111 : Int32 → x_S → x_L → Prop) (Q : x_S → x_L → Prop) (K123 : Int32 → Int32 → x_S → x_L → Prop) (v1 : Int32) (v2 : Int32) (σ : x_S) (τ : x_L) : Prop :=
  wX11_placesOf v1 σ τ (fun r126 σ126 τ126 => (r126 ≤ v2 → K111 (v1 + 1) σ126 τ126) ∧ (¬ r126 ≤ v2 → wX11_spot v1 v2 σ126 τ126 (fun r138 σ138 τ138 => vp_in r138 120 ∧ ((¬ (σ138 9 r138.toNatClampNeg) = 0 → wX11_lay_151 K111 K123 Q v1 v2 σ138 τ138) ∧ ((σ138 9 r138.toNatClampNeg) = 0 → wX11_layPlatoon v1 v2 σ138 τ138 (fun σ148 τ148 => wX11_lay_151 K111 K123 Q v1 v2 σ148 τ148))))))
def wX11_lay_111 (Q : x_S → x_L → Prop) (K111 : Int32 → x_S → x_L → Prop) (v1 : Int32) (σ : x_S) (τ : x_L) : Prop :=
  ((σ 3 (1 : Int32).toNatClampNeg) ≤ v1 → Q σ τ) ∧ (¬ (σ 3 (1 : Int32).toNatClampNeg) ≤ v1 → x_l2 (wX11_lay_123 K111 Q) v1 0 σ τ)
def wX11_lay_70 (Q : x_S → x_L → Prop) (K70 : Int32 → x_S → x_L → Prop) (v1 : Int32) (σ : x_S) (τ : x_L) : Prop :=
  ((σ 3 (1 : Int32).toNatClampNeg) ≤ v1 → x_l1 (wX11_lay_111 Q) 0 σ τ) ∧ (¬ (σ 3 (1 : Int32).toNatClampNeg) ≤ v1 → x_l2 (wX11_lay_82 K70 Q) v1 0 σ τ)
def wX11_lay_29 (Q : x_S → x_L → Prop) (K29 : Int32 → x_S → x_L → Prop) (v1 : Int32) (σ : x_S) (τ : x_L) : Prop :=
  ((σ 3 (1 : Int32).toNatClampNeg) ≤ v1 → x_l1 (wX11_lay_70 Q) 0 σ τ) ∧ (¬ (σ 3 (1 : Int32).toNatClampNeg) ≤ v1 → x_l2 (wX11_lay_41 K29 Q) v1 0 σ τ)
def wX11_lay_2 (Q : x_S → x_L → Prop) (K2 : Int32 → x_S → x_L → Prop) (v1 : Int32) (σ : x_S) (τ : x_L) : Prop :=
  ((σ 3 (1 : Int32).toNatClampNeg) ≤ v1 → wX11_layMates σ τ (fun σ24 τ24 => x_l1 (wX11_lay_29 Q) 0 σ24 τ24)) ∧ (¬ (σ 3 (1 : Int32).toNatClampNeg) ≤ v1 → wX11_layTimes v1 σ τ (fun σ14 τ14 => K2 (v1 + 1) σ14 τ14))
def wX11_lay (σ : x_S) (τ : x_L) (Q : x_S → x_L → Prop) : Prop :=
  x_l1 (wX11_lay_2 Q) 0 σ τ
def wX11_fuelAt_37 (Q : Int32 → x_S → x_L → Prop) (s0 : Int32) (s1 : Int32) (σ : x_S) (τ : x_L) : Prop :=
  Q (s0 + s1) σ τ
def wX11_fuelAt (a1 : Int32) (a2 : Int32) (σ : x_S) (τ : x_L) (Q : Int32 → x_S → x_L → Prop) : Prop :=
  wX11_baseAt a1 a2 σ τ (fun r3 σ3 τ3 => wX11_spot a1 a2 σ3 τ3 (fun r12 σ12 τ12 => vp_in r12 120 ∧ (wX11_spot a1 a2 σ12 τ12 (fun r23 σ23 τ23 => vp_in r23 120 ∧ (((σ23 12 r23.toNatClampNeg) = 0 → wX11_fuelAt_37 Q (r3 - (σ12 11 r12.toNatClampNeg)) 0 σ23 τ23) ∧ (¬ (σ23 12 r23.toNatClampNeg) = 0 → wX11_fuelAt_37 Q (r3 - (σ12 11 r12.toNatClampNeg)) 300 σ23 τ23))))))
def wX11_sumOf_131 (K5 : Int32 → Int32 → Int32 → Int32 → x_S → x_L → Prop) (Q : Int32 → x_S → x_L → Prop) (v1 : Int32) (v2 : Int32) (v3 : Int32) (v4 : Int32) (σ : x_S) (τ : x_L) : Prop :=
  K5 v1 v2 v3 (v4 + 1) σ τ
def wX11_sumOf_98 (K5 : Int32 → Int32 → Int32 → Int32 → x_S → x_L → Prop) (Q : Int32 → x_S → x_L → Prop) (v1 : Int32) (v2 : Int32) (v4 : Int32) (s0 : Int32) (s1 : Int32) (σ : x_S) (τ : x_L) : Prop :=
  wX11_sumOf_131 K5 Q v1 v2 (s0 + s1) v4 σ τ
def wX11_sumOf_5 (Q : Int32 → x_S → x_L → Prop) (K5 : Int32 → Int32 → Int32 → Int32 → x_S → x_L → Prop) (v1 : Int32) (v2 : Int32) (v3 : Int32) (v4 : Int32) (σ : x_S) (τ : x_L) : Prop :=
  wX11_placesOf v1 σ τ (fun r9 σ9 τ9 => (r9 ≤ v4 → Q v3 σ9 τ9) ∧ (¬ r9 ≤ v4 → wX11_spot v1 v4 σ9 τ9 (fun r18 σ18 τ18 => (v2 = 0 → wX11_fuelAt v1 v4 σ18 τ18 (fun r61 σ61 τ61 => wX11_sumOf_131 K5 Q v1 v2 (v3 + r61) v4 σ61 τ61)) ∧ (v2 = 1 → vp_in r18 120 ∧ (wX11_sumOf_131 K5 Q v1 v2 (v3 + (σ18 11 r18.toNatClampNeg)) v4 σ18 τ18)) ∧ (v2 = 2 → vp_in r18 120 ∧ (((σ18 12 r18.toNatClampNeg) = 0 → wX11_sumOf_98 K5 Q v1 v2 v4 v3 0 σ18 τ18) ∧ (¬ (σ18 12 r18.toNatClampNeg) = 0 → wX11_sumOf_98 K5 Q v1 v2 v4 v3 1 σ18 τ18))) ∧ (v2 = 3 → wX11_baseAt v1 v4 σ18 τ18 (fun r108 σ108 τ108 => wX11_sumOf_131 K5 Q v1 v2 (v3 + r108) v4 σ108 τ108)) ∧ (¬ v2 = 0 → ¬ v2 = 1 → ¬ v2 = 2 → ¬ v2 = 3 → wX11_roadAt v1 v4 σ18 τ18 (fun r122 σ122 τ122 => wX11_ofRoad r122 2 σ122 τ122 (fun r126 σ126 τ126 => wX11_sumOf_131 K5 Q v1 v2 (v3 + r126) v4 σ126 τ126))))))
def wX11_sumOf (a1 : Int32) (a2 : Int32) (σ : x_S) (τ : x_L) (Q : Int32 → x_S → x_L → Prop) : Prop :=
  x_l4 (wX11_sumOf_5 Q) a1 a2 0 0 σ τ
def wX11_sumOfAll_4 (Q : Int32 → x_S → x_L → Prop) (K4 : Int32 → Int32 → Int32 → x_S → x_L → Prop) (v1 : Int32) (v2 : Int32) (v3 : Int32) (σ : x_S) (τ : x_L) : Prop :=
  ((σ 3 (1 : Int32).toNatClampNeg) ≤ v3 → Q v2 σ τ) ∧ (¬ (σ 3 (1 : Int32).toNatClampNeg) ≤ v3 → wX11_sumOf v3 v1 σ τ (fun r18 σ18 τ18 => K4 v1 (v2 + r18) (v3 + 1) σ18 τ18))
def wX11_sumOfAll (a1 : Int32) (σ : x_S) (τ : x_L) (Q : Int32 → x_S → x_L → Prop) : Prop :=
  x_l3 (wX11_sumOfAll_4 Q) a1 0 0 σ τ
def wX11_arrival (a1 : Int32) (σ : x_S) (τ : x_L) (Q : Int32 → x_S → x_L → Prop) : Prop :=
  wX11_placesOf a1 σ τ (fun r7 σ7 τ7 => wX11_spot a1 (r7 - 1) σ7 τ7 (fun r12 σ12 τ12 => vp_in r12 120 ∧ (Q (σ12 5 r12.toNatClampNeg) σ12 τ12)))
def wX11_isLate_19 (Q : Int32 → x_S → x_L → Prop) (s0 : Int32) (σ : x_S) (τ : x_L) : Prop :=
  (s0 = 0 ∨ s0 = 1) ∧ Q s0 σ τ
def wX11_isLate (a1 : Int32) (σ : x_S) (τ : x_L) (Q : Int32 → x_S → x_L → Prop) : Prop :=
  wX11_arrival a1 σ τ (fun r2 σ2 τ2 => wX11_ofTruck a1 1 σ2 τ2 (fun r8 σ8 τ8 => (r2 ≤ r8 → wX11_isLate_19 Q 0 σ8 τ8) ∧ (¬ r2 ≤ r8 → wX11_isLate_19 Q 1 σ8 τ8)))
def wX11_readyAt_25 (Q : Int32 → x_S → x_L → Prop) (s0 : Int32) (σ : x_S) (τ : x_L) : Prop :=
  Q s0 σ τ
def wX11_readyAt (a1 : Int32) (a2 : Int32) (σ : x_S) (τ : x_L) (Q : Int32 → x_S → x_L → Prop) : Prop :=
  (¬ a2 = 0 → wX11_spot a1 (a2 - 1) σ τ (fun r21 σ21 τ21 => vp_in r21 120 ∧ (wX11_readyAt_25 Q (σ21 5 r21.toNatClampNeg) σ21 τ21))) ∧ (a2 = 0 → vp_in a1 4788 ∧ (wX11_readyAt_25 Q (σ 1 a1.toNatClampNeg) σ τ))
def wX11_allPlaces_4 (Q : Int32 → x_S → x_L → Prop) (K4 : Int32 → Int32 → x_S → x_L → Prop) (v1 : Int32) (v2 : Int32) (σ : x_S) (τ : x_L) : Prop :=
  ((σ 3 (1 : Int32).toNatClampNeg) ≤ v2 → Q v1 σ τ) ∧ (¬ (σ 3 (1 : Int32).toNatClampNeg) ≤ v2 → wX11_placesOf v2 σ τ (fun r17 σ17 τ17 => K4 (v1 + r17) (v2 + 1) σ17 τ17))
def wX11_allPlaces (σ : x_S) (τ : x_L) (Q : Int32 → x_S → x_L → Prop) : Prop :=
  x_l2 (wX11_allPlaces_4 Q) 0 0 σ τ
def wX11_lateSet_30 (K4 : Int32 → Int32 → x_S → x_L → Prop) (Q : Int32 → x_S → x_L → Prop) (v2 : Int32) (s0 : Int32) (s1 : Int32) (σ : x_S) (τ : x_L) : Prop :=
  K4 (s0 ||| s1) (v2 + 1) σ τ
def wX11_lateSet_4 (Q : Int32 → x_S → x_L → Prop) (K4 : Int32 → Int32 → x_S → x_L → Prop) (v1 : Int32) (v2 : Int32) (σ : x_S) (τ : x_L) : Prop :=
  ((σ 3 (1 : Int32).toNatClampNeg) ≤ v2 → Q v1 σ τ) ∧ (¬ (σ 3 (1 : Int32).toNatClampNeg) ≤ v2 → wX11_isLate v2 σ τ (fun r17 σ17 τ17 => (r17 = 0 → wX11_lateSet_30 K4 Q v2 v1 0 σ17 τ17) ∧ (¬ r17 = 0 → wX11_lateSet_30 K4 Q v2 v1 (1 <<< (v2 &&& 31)) σ17 τ17)))
def wX11_lateSet (σ : x_S) (τ : x_L) (Q : Int32 → x_S → x_L → Prop) : Prop :=
  x_l2 (wX11_lateSet_4 Q) 0 0 σ τ
def wX11_bits_4 (Q : Int32 → x_S → x_L → Prop) (K4 : Int32 → Int32 → x_S → x_L → Prop) (v1 : Int32) (v2 : Int32) (σ : x_S) (τ : x_L) : Prop :=
  (v2 = 0 → Q v1 σ τ) ∧ (¬ v2 = 0 → K4 (v1 + 1) (v2 &&& (v2 - 1)) σ τ)
def wX11_bits (a0 : Int32) (σ : x_S) (τ : x_L) (Q : Int32 → x_S → x_L → Prop) : Prop :=
  x_l2 (wX11_bits_4 Q) 0 a0 σ τ
def wX11_platoons_68 (K7 : Int32 → Int32 → Int32 → Int32 → x_S → x_L → Prop) (K21 : Int32 → Int32 → Int32 → Int32 → Int32 → x_S → x_L → Prop) (Q : Int32 → x_S → x_L → Prop) (v1 : Int32) (v3 : Int32) (v4 : Int32) (v5 : Int32) (v6 : Int32) (s0 : Int32) (s1 : Int32) (σ : x_S) (τ : x_L) : Prop :=
  vp_in v6 120 ∧ (wX11_max v3 (σ 7 v6.toNatClampNeg) σ τ (fun r78 σ78 τ78 => K21 v1 (s0 + s1) r78 v4 (v5 + 1) σ78 τ78))
def wX11_platoons_67 (K7 : Int32 → Int32 → Int32 → Int32 → x_S → x_L → Prop) (K21 : Int32 → Int32 → Int32 → Int32 → Int32 → x_S → x_L → Prop) (Q : Int32 → x_S → x_L → Prop) (v1 : Int32) (v3 : Int32) (v4 : Int32) (v5 : Int32) (v6 : Int32) (s0 : Int32) (σ : x_S) (τ : x_L) : Prop :=
  wX11_platoons_68 K7 K21 Q v1 v3 v4 v5 v6 s0 0 σ τ
def wX11_platoons_21 (K7 : Int32 → Int32 → Int32 → Int32 → x_S → x_L → Prop) (Q : Int32 → x_S → x_L → Prop) (K21 : Int32 → Int32 → Int32 → Int32 → Int32 → x_S → x_L → Prop) (v1 : Int32) (v2 : Int32) (v3 : Int32) (v4 : Int32) (v5 : Int32) (σ : x_S) (τ : x_L) : Prop :=
  wX11_placesOf v4 σ τ (fun r26 σ26 τ26 => (r26 ≤ v5 → K7 v1 v2 v3 (v4 + 1) σ26 τ26) ∧ (¬ r26 ≤ v5 → wX11_spot v4 v5 σ26 τ26 (fun r36 σ36 τ36 => vp_in r36 120 ∧ (((σ36 7 r36.toNatClampNeg) ≤ 1 → wX11_platoons_67 K7 K21 Q v1 v3 v4 v5 r36 v2 σ36 τ36) ∧ (¬ (σ36 7 r36.toNatClampNeg) ≤ 1 → (¬ (σ36 9 r36.toNatClampNeg) = 0 → wX11_platoons_67 K7 K21 Q v1 v3 v4 v5 r36 v2 σ36 τ36) ∧ ((σ36 9 r36.toNatClampNeg) = 0 → wX11_platoons_68 K7 K21 Q v1 v3 v4 v5 r36 v2 1 σ36 τ36))))))
def wX11_platoons_103 (Q : Int32 → x_S → x_L → Prop) (s0 : Int32) (σ : x_S) (τ : x_L) : Prop :=
  Q s0 σ τ
def wX11_platoons_7 (Q : Int32 → x_S → x_L → Prop) (K7 : Int32 → Int32 → Int32 → Int32 → x_S → x_L → Prop) (v1 : Int32) (v2 : Int32) (v3 : Int32) (v4 : Int32) (σ : x_S) (τ : x_L) : Prop :=
  ((σ 3 (1 : Int32).toNatClampNeg) ≤ v4 → (v1 = 0 → wX11_platoons_103 Q v2 σ τ) ∧ (¬ v1 = 0 → wX11_platoons_103 Q v3 σ τ)) ∧ (¬ (σ 3 (1 : Int32).toNatClampNeg) ≤ v4 → x_l5 (wX11_platoons_21 K7 Q) v1 v2 v3 v4 0 σ τ)
def wX11_platoons (a1 : Int32) (σ : x_S) (τ : x_L) (Q : Int32 → x_S → x_L → Prop) : Prop :=
  x_l4 (wX11_platoons_7 Q) a1 0 0 0 σ τ
def wX11_count_64 (Q : Int32 → x_S → x_L → Prop) (v1 : Int32) (σ : x_S) (τ : x_L) : Prop :=
  vp_in v1 580 ∧ (Q (σ 3 v1.toNatClampNeg) σ τ)
def wX11_count (a1 : Int32) (σ : x_S) (τ : x_L) (Q : Int32 → x_S → x_L → Prop) : Prop :=
  wX11_lay (x_up σ 0 5 0) τ (fun σ6 τ6 => (a1 = 0 → wX11_count_64 Q a1 σ6 τ6) ∧ (a1 = 1 → wX11_count_64 Q a1 σ6 τ6) ∧ (a1 = 2 → wX11_allPlaces σ6 τ6 (fun r72 σ72 τ72 => Q r72 σ72 τ72)) ∧ (a1 = 3 → wX11_platoons 0 σ6 τ6 (fun r78 σ78 τ78 => Q r78 σ78 τ78)) ∧ (a1 = 4 → wX11_lateSet σ6 τ6 (fun r83 σ83 τ83 => wX11_bits r83 σ83 τ83 (fun r86 σ86 τ86 => Q r86 σ86 τ86))) ∧ (a1 = 5 → wX11_sumOfAll 0 σ6 τ6 (fun r92 σ92 τ92 => Q r92 σ92 τ92)) ∧ (a1 = 6 → wX11_sumOfAll 1 σ6 τ6 (fun r98 σ98 τ98 => Q r98 σ98 τ98)) ∧ (a1 = 7 → wX11_sumOfAll 2 σ6 τ6 (fun r107 σ107 τ107 => Q (300 * r107) σ107 τ107)) ∧ (a1 = 8 → Q (σ6 0 3) σ6 τ6) ∧ (a1 = 9 → wX11_platoons 1 σ6 τ6 (fun r119 σ119 τ119 => Q r119 σ119 τ119)) ∧ (¬ a1 = 0 → ¬ a1 = 1 → ¬ a1 = 2 → ¬ a1 = 3 → ¬ a1 = 4 → ¬ a1 = 5 → ¬ a1 = 6 → ¬ a1 = 7 → ¬ a1 = 8 → ¬ a1 = 9 → Q (-1) σ6 τ6))
def wX11_comesAhead_49 (Q : Int32 → x_S → x_L → Prop) (s0 : Int32) (σ : x_S) (τ : x_L) : Prop :=
  (s0 = 0 ∨ s0 = 1) ∧ Q s0 σ τ
def wX11_comesAhead (a1 : Int32) (a2 : Int32) (a3 : Int32) (a4 : Int32) (σ : x_S) (τ : x_L) (Q : Int32 → x_S → x_L → Prop) : Prop :=
  vp_in a1 120 ∧ (vp_in a2 120 ∧ (((σ 4 a1.toNatClampNeg) = (σ 4 a2.toNatClampNeg) → (a4 ≤ a3 → wX11_comesAhead_49 Q 0 σ τ) ∧ (¬ a4 ≤ a3 → wX11_comesAhead_49 Q 1 σ τ)) ∧ (¬ (σ 4 a1.toNatClampNeg) = (σ 4 a2.toNatClampNeg) → ((σ 4 a2.toNatClampNeg) ≤ (σ 4 a1.toNatClampNeg) → wX11_comesAhead_49 Q 0 σ τ) ∧ (¬ (σ 4 a2.toNatClampNeg) ≤ (σ 4 a1.toNatClampNeg) → wX11_comesAhead_49 Q 1 σ τ))))
def wX11_numberOf_113 (K5 : Int32 → Int32 → Int32 → Int32 → x_S → x_L → Prop) (K19 : Int32 → Int32 → Int32 → Int32 → Int32 → x_S → x_L → Prop) (Q : Int32 → x_S → x_L → Prop) (v1 : Int32) (v2 : Int32) (v4 : Int32) (v5 : Int32) (s0 : Int32) (s1 : Int32) (σ : x_S) (τ : x_L) : Prop :=
  K19 v1 v2 (s0 + s1) v4 (v5 + 1) σ τ
def wX11_numberOf_112 (K5 : Int32 → Int32 → Int32 → Int32 → x_S → x_L → Prop) (K19 : Int32 → Int32 → Int32 → Int32 → Int32 → x_S → x_L → Prop) (Q : Int32 → x_S → x_L → Prop) (v1 : Int32) (v2 : Int32) (v4 : Int32) (v5 : Int32) (s0 : Int32) (σ : x_S) (τ : x_L) : Prop :=
  wX11_numberOf_113 K5 K19 Q v1 v2 v4 v5 s0 0 σ τ
def wX11_numberOf_67 (K5 : Int32 → Int32 → Int32 → Int32 → x_S → x_L → Prop) (K19 : Int32 → Int32 → Int32 → Int32 → Int32 → x_S → x_L → Prop) (Q : Int32 → x_S → x_L → Prop) (v1 : Int32) (v2 : Int32) (v3 : Int32) (v4 : Int32) (v5 : Int32) (s0 : Int32) (σ : x_S) (τ : x_L) : Prop :=
  (s0 = 0 → wX11_numberOf_112 K5 K19 Q v1 v2 v4 v5 v3 σ τ) ∧ (¬ s0 = 0 → wX11_spot v4 v5 σ τ (fun r80 σ80 τ80 => wX11_spot v1 v2 σ80 τ80 (fun r85 σ85 τ85 => wX11_speedAt v4 v5 σ85 τ85 (fun r93 σ93 τ93 => wX11_speedAt v1 v2 σ93 τ93 (fun r99 σ99 τ99 => wX11_comesAhead r80 r85 r93 r99 σ99 τ99 (fun r102 σ102 τ102 => (r102 = 0 → wX11_numberOf_112 K5 K19 Q v1 v2 v4 v5 v3 σ102 τ102) ∧ (¬ r102 = 0 → wX11_numberOf_113 K5 K19 Q v1 v2 v4 v5 v3 1 σ102 τ102)))))))
def wX11_numberOf_66 (K5 : Int32 → Int32 → Int32 → Int32 → x_S → x_L → Prop) (K19 : Int32 → Int32 → Int32 → Int32 → Int32 → x_S → x_L → Prop) (Q : Int32 → x_S → x_L → Prop) (v1 : Int32) (v2 : Int32) (v3 : Int32) (v4 : Int32) (v5 : Int32) (σ : x_S) (τ : x_L) : Prop :=
  wX11_numberOf_67 K5 K19 Q v1 v2 v3 v4 v5 0 σ τ
def wX11_numberOf_19 (K5 : Int32 → Int32 → Int32 → Int32 → x_S → x_L → Prop) (Q : Int32 → x_S → x_L → Prop) (K19 : Int32 → Int32 → Int32 → Int32 → Int32 → x_S → x_L → Prop) (v1 : Int32) (v2 : Int32) (v3 : Int32) (v4 : Int32) (v5 : Int32) (σ : x_S) (τ : x_L) : Prop :=
  wX11_placesOf v4 σ τ (fun r24 σ24 τ24 => (r24 ≤ v5 → K5 v1 v2 v3 (v4 + 1) σ24 τ24) ∧ (¬ r24 ≤ v5 → wX11_roadAt v4 v5 σ24 τ24 (fun r35 σ35 τ35 => wX11_roadAt v1 v2 σ35 τ35 (fun r41 σ41 τ41 => (¬ r35 = r41 → wX11_numberOf_66 K5 K19 Q v1 v2 v3 v4 v5 σ41 τ41) ∧ (r35 = r41 → wX11_spot v4 v5 σ41 τ41 (fun r55 σ55 τ55 => vp_in r55 120 ∧ ((¬ (σ55 9 r55.toNatClampNeg) = 0 → wX11_numberOf_66 K5 K19 Q v1 v2 v3 v4 v5 σ55 τ55) ∧ ((σ55 9 r55.toNatClampNeg) = 0 → wX11_numberOf_67 K5 K19 Q v1 v2 v3 v4 v5 1 σ55 τ55))))))))
def wX11_numberOf_5 (Q : Int32 → x_S → x_L → Prop) (K5 : Int32 → Int32 → Int32 → Int32 → x_S → x_L → Prop) (v1 : Int32) (v2 : Int32) (v3 : Int32) (v4 : Int32) (σ : x_S) (τ : x_L) : Prop :=
  ((σ 3 (1 : Int32).toNatClampNeg) ≤ v4 → Q v3 σ τ) ∧ (¬ (σ 3 (1 : Int32).toNatClampNeg) ≤ v4 → x_l5 (wX11_numberOf_19 K5 Q) v1 v2 v3 v4 0 σ τ)
def wX11_numberOf (a1 : Int32) (a2 : Int32) (σ : x_S) (τ : x_L) (Q : Int32 → x_S → x_L → Prop) : Prop :=
  x_l4 (wX11_numberOf_5 Q) a1 a2 0 0 σ τ
def wX11_platoonsOn_58 (K4 : Int32 → Int32 → Int32 → x_S → x_L → Prop) (K17 : Int32 → Int32 → Int32 → Int32 → x_S → x_L → Prop) (Q : Int32 → x_S → x_L → Prop) (v1 : Int32) (v3 : Int32) (v4 : Int32) (s0 : Int32) (s1 : Int32) (σ : x_S) (τ : x_L) : Prop :=
  K17 v1 (s0 + s1) v3 (v4 + 1) σ τ
def wX11_platoonsOn_57 (K4 : Int32 → Int32 → Int32 → x_S → x_L → Prop) (K17 : Int32 → Int32 → Int32 → Int32 → x_S → x_L → Prop) (Q : Int32 → x_S → x_L → Prop) (v1 : Int32) (v3 : Int32) (v4 : Int32) (s0 : Int32) (σ : x_S) (τ : x_L) : Prop :=
  wX11_platoonsOn_58 K4 K17 Q v1 v3 v4 s0 0 σ τ
def wX11_platoonsOn_17 (K4 : Int32 → Int32 → Int32 → x_S → x_L → Prop) (Q : Int32 → x_S → x_L → Prop) (K17 : Int32 → Int32 → Int32 → Int32 → x_S → x_L → Prop) (v1 : Int32) (v2 : Int32) (v3 : Int32) (v4 : Int32) (σ : x_S) (τ : x_L) : Prop :=
  wX11_placesOf v3 σ τ (fun r21 σ21 τ21 => (r21 ≤ v4 → K4 v1 v2 (v3 + 1) σ21 τ21) ∧ (¬ r21 ≤ v4 → wX11_roadAt v3 v4 σ21 τ21 (fun r32 σ32 τ32 => (¬ r32 = v1 → wX11_platoonsOn_57 K4 K17 Q v1 v3 v4 v2 σ32 τ32) ∧ (r32 = v1 → wX11_spot v3 v4 σ32 τ32 (fun r46 σ46 τ46 => vp_in r46 120 ∧ ((¬ (σ46 9 r46.toNatClampNeg) = 0 → wX11_platoonsOn_57 K4 K17 Q v1 v3 v4 v2 σ46 τ46) ∧ ((σ46 9 r46.toNatClampNeg) = 0 → wX11_platoonsOn_58 K4 K17 Q v1 v3 v4 v2 1 σ46 τ46)))))))
def wX11_platoonsOn_4 (Q : Int32 → x_S → x_L → Prop) (K4 : Int32 → Int32 → Int32 → x_S → x_L → Prop) (v1 : Int32) (v2 : Int32) (v3 : Int32) (σ : x_S) (τ : x_L) : Prop :=
  ((σ 3 (1 : Int32).toNatClampNeg) ≤ v3 → Q v2 σ τ) ∧ (¬ (σ 3 (1 : Int32).toNatClampNeg) ≤ v3 → x_l4 (wX11_platoonsOn_17 K4 Q) v1 v2 v3 0 σ τ)
def wX11_platoonsOn (a1 : Int32) (σ : x_S) (τ : x_L) (Q : Int32 → x_S → x_L → Prop) : Prop :=
  x_l3 (wX11_platoonsOn_4 Q) a1 0 0 σ τ
def wX11_findPlatoon_91 (K5 : Int32 → Int32 → x_S → x_L → Prop) (K23 : Int32 → Int32 → x_S → x_L → Prop) (Q : Int32 → x_S → x_L → Prop) (v1 : Int32) (v2 : Int32) (σ : x_S) (τ : x_L) : Prop :=
  K23 v1 v2 (x_up σ 0 18 ((σ 0 18) + 1)) τ
def wX11_findPlatoon_23 (K5 : Int32 → Int32 → x_S → x_L → Prop) (Q : Int32 → x_S → x_L → Prop) (K23 : Int32 → Int32 → x_S → x_L → Prop) (v1 : Int32) (v2 : Int32) (σ : x_S) (τ : x_L) : Prop :=
  wX11_placesOf (σ 0 17) σ τ (fun r32 σ32 τ32 => (r32 ≤ (σ 0 18) → K5 v1 v2 (x_up σ32 0 17 ((σ32 0 17) + 1)) τ32) ∧ (¬ r32 ≤ (σ 0 18) → wX11_roadAt (σ32 0 17) (σ32 0 18) σ32 τ32 (fun r47 σ47 τ47 => (¬ r47 = v1 → wX11_findPlatoon_91 K5 K23 Q v1 v2 σ47 τ47) ∧ (r47 = v1 → wX11_spot (σ47 0 17) (σ47 0 18) σ47 τ47 (fun r66 σ66 τ66 => vp_in r66 120 ∧ ((¬ (σ66 9 r66.toNatClampNeg) = 0 → wX11_findPlatoon_91 K5 K23 Q v1 v2 σ66 τ66) ∧ ((σ66 9 r66.toNatClampNeg) = 0 → wX11_numberOf (σ66 0 17) (σ66 0 18) σ66 τ66 (fun r82 σ82 τ82 => (¬ r82 = v2 → wX11_findPlatoon_91 K5 K23 Q v1 v2 σ82 τ82) ∧ (r82 = v2 → Q 1 σ82 τ82)))))))))
def wX11_findPlatoon_5 (Q : Int32 → x_S → x_L → Prop) (K5 : Int32 → Int32 → x_S → x_L → Prop) (v1 : Int32) (v2 : Int32) (σ : x_S) (τ : x_L) : Prop :=
  ((σ 3 (1 : Int32).toNatClampNeg) ≤ (σ 0 17) → Q 0 σ τ) ∧ (¬ (σ 3 (1 : Int32).toNatClampNeg) ≤ (σ 0 17) → x_l2 (wX11_findPlatoon_23 K5 Q) v1 v2 (x_up σ 0 18 0) τ)
def wX11_findPlatoon (a1 : Int32) (a2 : Int32) (σ : x_S) (τ : x_L) (Q : Int32 → x_S → x_L → Prop) : Prop :=
  x_l2 (wX11_findPlatoon_5 Q) a1 a2 (x_up σ 0 17 0) τ
def wX11_trucksOn_48 (K4 : Int32 → Int32 → Int32 → x_S → x_L → Prop) (K20 : Int32 → Int32 → Int32 → Int32 → Int32 → x_S → x_L → Prop) (Q : Int32 → x_S → x_L → Prop) (v1 : Int32) (v2 : Int32) (v3 : Int32) (v5 : Int32) (s0 : Int32) (s1 : Int32) (σ : x_S) (τ : x_L) : Prop :=
  K20 v1 v2 v3 (s0 ||| s1) (v5 + 1) σ τ
def wX11_trucksOn_68 (K4 : Int32 → Int32 → Int32 → x_S → x_L → Prop) (Q : Int32 → x_S → x_L → Prop) (v1 : Int32) (v3 : Int32) (s0 : Int32) (s1 : Int32) (σ : x_S) (τ : x_L) : Prop :=
  K4 v1 (s0 + s1) (v3 + 1) σ τ
def wX11_trucksOn_20 (K4 : Int32 → Int32 → Int32 → x_S → x_L → Prop) (Q : Int32 → x_S → x_L → Prop) (K20 : Int32 → Int32 → Int32 → Int32 → Int32 → x_S → x_L → Prop) (v1 : Int32) (v2 : Int32) (v3 : Int32) (v4 : Int32) (v5 : Int32) (σ : x_S) (τ : x_L) : Prop :=
  wX11_placesOf v3 σ τ (fun r24 σ24 τ24 => (r24 ≤ v5 → (v4 = 0 → wX11_trucksOn_68 K4 Q v1 v3 v2 0 σ24 τ24) ∧ (¬ v4 = 0 → wX11_trucksOn_68 K4 Q v1 v3 v2 1 σ24 τ24)) ∧ (¬ r24 ≤ v5 → wX11_roadAt v3 v5 σ24 τ24 (fun r36 σ36 τ36 => (¬ r36 = v1 → wX11_trucksOn_48 K4 K20 Q v1 v2 v3 v5 v4 0 σ36 τ36) ∧ (r36 = v1 → wX11_trucksOn_48 K4 K20 Q v1 v2 v3 v5 v4 1 σ36 τ36))))
def wX11_trucksOn_4 (Q : Int32 → x_S → x_L → Prop) (K4 : Int32 → Int32 → Int32 → x_S → x_L → Prop) (v1 : Int32) (v2 : Int32) (v3 : Int32) (σ : x_S) (τ : x_L) : Prop :=
  ((σ 3 (1 : Int32).toNatClampNeg) ≤ v3 → Q v2 σ τ) ∧ (¬ (σ 3 (1 : Int32).toNatClampNeg) ≤ v3 → x_l5 (wX11_trucksOn_20 K4 Q) v1 v2 v3 0 0 σ τ)
def wX11_trucksOn (a1 : Int32) (σ : x_S) (τ : x_L) (Q : Int32 → x_S → x_L → Prop) : Prop :=
  x_l3 (wX11_trucksOn_4 Q) a1 0 0 σ τ
def wX11_road_72 (Q : Int32 → x_S → x_L → Prop) (v1 : Int32) (v2 : Int32) (σ : x_S) (τ : x_L) : Prop :=
  wX11_ofRoad v1 v2 σ τ (fun r75 σ75 τ75 => Q r75 σ75 τ75)
def wX11_road_19 (Q : Int32 → x_S → x_L → Prop) (v1 : Int32) (v2 : Int32) (s1 : Int32) (σ : x_S) (τ : x_L) : Prop :=
  wX11_throwsIf s1 1 σ τ (fun r20 σ20 τ20 => (r20 = 0 → wX11_lay σ20 τ20 (fun σ29 τ29 => (v2 = 0 → wX11_road_72 Q v1 v2 σ29 τ29) ∧ (v2 = 1 → wX11_road_72 Q v1 v2 σ29 τ29) ∧ (v2 = 2 → wX11_road_72 Q v1 v2 σ29 τ29) ∧ (v2 = 3 → wX11_road_72 Q v1 v2 σ29 τ29) ∧ (v2 = 4 → wX11_platoonsOn v1 σ29 τ29 (fun r81 σ81 τ81 => Q r81 σ81 τ81)) ∧ (v2 = 5 → wX11_trucksOn v1 σ29 τ29 (fun r87 σ87 τ87 => Q r87 σ87 τ87)) ∧ (¬ v2 = 0 → ¬ v2 = 1 → ¬ v2 = 2 → ¬ v2 = 3 → ¬ v2 = 4 → ¬ v2 = 5 → Q (-1) σ29 τ29))) ∧ (¬ r20 = 0 → Q 0 σ20 τ20))
def wX11_road (a1 : Int32) (a2 : Int32) (σ : x_S) (τ : x_L) (Q : Int32 → x_S → x_L → Prop) : Prop :=
  wX11_isRoad a1 (x_up σ 0 5 0) τ (fun r8 σ8 τ8 => (¬ r8 = 0 → wX11_road_19 Q a1 a2 0 σ8 τ8) ∧ (r8 = 0 → wX11_road_19 Q a1 a2 1 σ8 τ8))
def wX11_truck_91 (Q : Int32 → x_S → x_L → Prop) (v1 : Int32) (v2 : Int32) (σ : x_S) (τ : x_L) : Prop :=
  wX11_ofTruck v1 v2 σ τ (fun r94 σ94 τ94 => Q r94 σ94 τ94)
def wX11_truck_111 (Q : Int32 → x_S → x_L → Prop) (v1 : Int32) (v2 : Int32) (σ : x_S) (τ : x_L) : Prop :=
  wX11_sumOf v1 (v2 - 6) σ τ (fun r117 σ117 τ117 => Q r117 σ117 τ117)
def wX11_truck_19 (Q : Int32 → x_S → x_L → Prop) (v1 : Int32) (v2 : Int32) (s1 : Int32) (σ : x_S) (τ : x_L) : Prop :=
  wX11_throwsIf s1 1 σ τ (fun r20 σ20 τ20 => (r20 = 0 → wX11_lay σ20 τ20 (fun σ29 τ29 => (v2 = 0 → vp_in v1 4788 ∧ (Q (σ29 1 v1.toNatClampNeg) σ29 τ29)) ∧ (v2 = 1 → wX11_truck_91 Q v1 v2 σ29 τ29) ∧ (v2 = 2 → wX11_truck_91 Q v1 v2 σ29 τ29) ∧ (v2 = 3 → wX11_truck_91 Q v1 v2 σ29 τ29) ∧ (v2 = 4 → wX11_arrival v1 σ29 τ29 (fun r100 σ100 τ100 => Q r100 σ100 τ100)) ∧ (v2 = 5 → wX11_sumOf v1 4 σ29 τ29 (fun r107 σ107 τ107 => Q r107 σ107 τ107)) ∧ (v2 = 6 → wX11_truck_111 Q v1 v2 σ29 τ29) ∧ (v2 = 7 → wX11_truck_111 Q v1 v2 σ29 τ29) ∧ (v2 = 8 → wX11_truck_111 Q v1 v2 σ29 τ29) ∧ (¬ v2 = 0 → ¬ v2 = 1 → ¬ v2 = 2 → ¬ v2 = 3 → ¬ v2 = 4 → ¬ v2 = 5 → ¬ v2 = 6 → ¬ v2 = 7 → ¬ v2 = 8 → Q (-1) σ29 τ29))) ∧ (¬ r20 = 0 → Q 0 σ20 τ20))
def wX11_truck (a1 : Int32) (a2 : Int32) (σ : x_S) (τ : x_L) (Q : Int32 → x_S → x_L → Prop) : Prop :=
  wX11_isTruck a1 (x_up σ 0 5 0) τ (fun r8 σ8 τ8 => (¬ r8 = 0 → wX11_truck_19 Q a1 a2 0 σ8 τ8) ∧ (r8 = 0 → wX11_truck_19 Q a1 a2 1 σ8 τ8))
def wX11_noPlace_19 (Q : Int32 → x_S → x_L → Prop) (s1 : Int32) (σ : x_S) (τ : x_L) : Prop :=
  wX11_throwsIf s1 1 σ τ (fun r20 σ20 τ20 => (r20 = 0 ∨ r20 = 1) ∧ Q r20 σ20 τ20)
def wX11_noPlace (a1 : Int32) (a2 : Int32) (σ : x_S) (τ : x_L) (Q : Int32 → x_S → x_L → Prop) : Prop :=
  wX11_lay σ τ (fun σ1 τ1 => wX11_isPlace a1 a2 σ1 τ1 (fun r8 σ8 τ8 => (¬ r8 = 0 → wX11_noPlace_19 Q 0 σ8 τ8) ∧ (r8 = 0 → wX11_noPlace_19 Q 1 σ8 τ8)))
def wX11_place_165 (Q : Int32 → x_S → x_L → Prop) (s0 : Int32) (σ : x_S) (τ : x_L) : Prop :=
  Q s0 σ τ
def wX11_place (a1 : Int32) (a2 : Int32) (a3 : Int32) (σ : x_S) (τ : x_L) (Q : Int32 → x_S → x_L → Prop) : Prop :=
  wX11_noPlace a1 a2 (x_up σ 0 5 0) τ (fun r8 σ8 τ8 => (r8 = 0 → wX11_spot a1 a2 σ8 τ8 (fun r18 σ18 τ18 => (a3 = 0 → wX11_roadAt a1 a2 σ18 τ18 (fun r87 σ87 τ87 => Q r87 σ87 τ87)) ∧ (a3 = 1 → wX11_waitAt a1 a2 σ18 τ18 (fun r94 σ94 τ94 => Q r94 σ94 τ94)) ∧ (a3 = 2 → wX11_speedAt a1 a2 σ18 τ18 (fun r101 σ101 τ101 => Q r101 σ101 τ101)) ∧ (a3 = 3 → wX11_readyAt a1 a2 σ18 τ18 (fun r108 σ108 τ108 => Q r108 σ108 τ108)) ∧ (a3 = 4 → vp_in r18 120 ∧ (Q (σ18 4 r18.toNatClampNeg) σ18 τ18)) ∧ (a3 = 5 → vp_in r18 120 ∧ (Q (σ18 5 r18.toNatClampNeg) σ18 τ18)) ∧ (a3 = 6 → wX11_baseAt a1 a2 σ18 τ18 (fun r131 σ131 τ131 => Q r131 σ131 τ131)) ∧ (a3 = 7 → vp_in r18 120 ∧ (Q (σ18 11 r18.toNatClampNeg) σ18 τ18)) ∧ (a3 = 8 → wX11_fuelAt a1 a2 σ18 τ18 (fun r146 σ146 τ146 => Q r146 σ146 τ146)) ∧ (a3 = 9 → vp_in r18 120 ∧ (((σ18 12 r18.toNatClampNeg) = 0 → wX11_place_165 Q 0 σ18 τ18) ∧ (¬ (σ18 12 r18.toNatClampNeg) = 0 → wX11_place_165 Q 1 σ18 τ18))) ∧ (a3 = 10 → vp_in r18 120 ∧ (Q (σ18 10 r18.toNatClampNeg) σ18 τ18)) ∧ (¬ a3 = 0 → ¬ a3 = 1 → ¬ a3 = 2 → ¬ a3 = 3 → ¬ a3 = 4 → ¬ a3 = 5 → ¬ a3 = 6 → ¬ a3 = 7 → ¬ a3 = 8 → ¬ a3 = 9 → ¬ a3 = 10 → Q (-1) σ18 τ18))) ∧ (¬ r8 = 0 → Q 0 σ8 τ8))
def wX11_platoonOf_24 (Q : Int32 → x_S → x_L → Prop) (s0 : Int32) (σ : x_S) (τ : x_L) : Prop :=
  Q s0 σ τ
def wX11_platoonOf (a1 : Int32) (a2 : Int32) (σ : x_S) (τ : x_L) (Q : Int32 → x_S → x_L → Prop) : Prop :=
  wX11_noPlace a1 a2 (x_up σ 0 5 0) τ (fun r8 σ8 τ8 => (r8 = 0 → wX11_numberOf a1 a2 σ8 τ8 (fun r21 σ21 τ21 => wX11_platoonOf_24 Q r21 σ21 τ21)) ∧ (¬ r8 = 0 → wX11_platoonOf_24 Q 0 σ8 τ8))
def wX11_position_28 (Q : Int32 → x_S → x_L → Prop) (s0 : Int32) (σ : x_S) (τ : x_L) : Prop :=
  Q s0 σ τ
def wX11_position (a1 : Int32) (a2 : Int32) (σ : x_S) (τ : x_L) (Q : Int32 → x_S → x_L → Prop) : Prop :=
  wX11_noPlace a1 a2 (x_up σ 0 5 0) τ (fun r8 σ8 τ8 => (r8 = 0 → wX11_spot a1 a2 σ8 τ8 (fun r24 σ24 τ24 => vp_in r24 120 ∧ (wX11_position_28 Q (σ24 9 r24.toNatClampNeg) σ24 τ24))) ∧ (¬ r8 = 0 → wX11_position_28 Q 0 σ8 τ8))
def wX11_key_28 (Q : Int32 → x_S → x_L → Prop) (s0 : Int32) (σ : x_S) (τ : x_L) : Prop :=
  Q s0 σ τ
def wX11_key (a1 : Int32) (a2 : Int32) (σ : x_S) (τ : x_L) (Q : Int32 → x_S → x_L → Prop) : Prop :=
  wX11_noPlace a1 a2 (x_up σ 0 5 0) τ (fun r8 σ8 τ8 => (r8 = 0 → wX11_spot a1 a2 σ8 τ8 (fun r24 σ24 τ24 => vp_in r24 120 ∧ (wX11_key_28 Q (σ24 8 r24.toNatClampNeg) σ24 τ24))) ∧ (¬ r8 = 0 → wX11_key_28 Q 0 σ8 τ8))
def wX11_noPlatoon_27 (Q : Int32 → x_S → x_L → Prop) (s1 : Int32) (σ : x_S) (τ : x_L) : Prop :=
  wX11_throwsIf s1 1 σ τ (fun r28 σ28 τ28 => (r28 = 0 ∨ r28 = 1) ∧ Q r28 σ28 τ28)
def wX11_noPlatoon_22 (Q : Int32 → x_S → x_L → Prop) (σ : x_S) (τ : x_L) : Prop :=
  wX11_noPlatoon_27 Q 1 σ τ
def wX11_noPlatoon (a1 : Int32) (a2 : Int32) (σ : x_S) (τ : x_L) (Q : Int32 → x_S → x_L → Prop) : Prop :=
  wX11_lay σ τ (fun σ1 τ1 => wX11_isRoad a1 σ1 τ1 (fun r7 σ7 τ7 => (r7 = 0 → wX11_noPlatoon_22 Q σ7 τ7) ∧ (¬ r7 = 0 → wX11_findPlatoon a1 a2 σ7 τ7 (fun r16 σ16 τ16 => (¬ r16 = 0 → wX11_noPlatoon_27 Q 0 σ16 τ16) ∧ (r16 = 0 → wX11_noPlatoon_22 Q σ16 τ16)))))
def wX11_platoon_97 (K42 : Int32 → Int32 → Int32 → Int32 → Int32 → Int32 → x_S → x_L → Prop) (Q : Int32 → x_S → x_L → Prop) (v3 : Int32) (v4 : Int32) (v5 : Int32) (v7 : Int32) (v8 : Int32) (s0 : Int32) (s1 : Int32) (σ : x_S) (τ : x_L) : Prop :=
  vp_in v8 12 ∧ (K42 v3 v4 v5 (s0 + s1) (v7 ||| (1 <<< ((σ 13 v8.toNatClampNeg) &&& 31))) (v8 + 1) σ τ)
def wX11_platoon_42 (Q : Int32 → x_S → x_L → Prop) (K42 : Int32 → Int32 → Int32 → Int32 → Int32 → Int32 → x_S → x_L → Prop) (v3 : Int32) (v4 : Int32) (v5 : Int32) (v6 : Int32) (v7 : Int32) (v8 : Int32) (σ : x_S) (τ : x_L) : Prop :=
  (v4 ≤ v8 → (v3 = 0 → wX11_spot (σ 0 17) (σ 0 18) σ τ (fun r172 σ172 τ172 => vp_in r172 120 ∧ (Q (σ172 4 r172.toNatClampNeg) σ172 τ172))) ∧ (v3 = 1 → wX11_speedAt (σ 0 17) (σ 0 18) σ τ (fun r186 σ186 τ186 => Q r186 σ186 τ186)) ∧ (v3 = 2 → Q v4 σ τ) ∧ (v3 = 3 → Q v5 σ τ) ∧ (v3 = 4 → Q v6 σ τ) ∧ (v3 = 5 → Q v7 σ τ) ∧ (¬ v3 = 0 → ¬ v3 = 1 → ¬ v3 = 2 → ¬ v3 = 3 → ¬ v3 = 4 → ¬ v3 = 5 → Q (-1) σ τ)) ∧ (¬ v4 ≤ v8 → vp_in v8 12 ∧ (wX11_spot (σ 13 v8.toNatClampNeg) (σ 14 v8.toNatClampNeg) σ τ (fun r63 σ63 τ63 => vp_in r63 120 ∧ (((σ63 12 r63.toNatClampNeg) = 0 → wX11_platoon_97 K42 Q v3 v4 (v5 + (σ63 11 r63.toNatClampNeg)) v7 v8 v6 0 σ63 τ63) ∧ (¬ (σ63 12 r63.toNatClampNeg) = 0 → wX11_platoon_97 K42 Q v3 v4 (v5 + (σ63 11 r63.toNatClampNeg)) v7 v8 v6 1 σ63 τ63)))))
def wX11_platoon (a1 : Int32) (a2 : Int32) (a3 : Int32) (σ : x_S) (τ : x_L) (Q : Int32 → x_S → x_L → Prop) : Prop :=
  wX11_noPlatoon a1 a2 (x_up σ 0 5 0) τ (fun r8 σ8 τ8 => (r8 = 0 → wX11_layOrder (σ8 0 17) (σ8 0 18) σ8 τ8 (fun r25 σ25 τ25 => x_l6 (wX11_platoon_42 Q) a3 r25 0 0 0 0 σ25 τ25)) ∧ (¬ r8 = 0 → Q 0 σ8 τ8))
def wX11_member_31 (Q : Int32 → x_S → x_L → Prop) (σ : x_S) (τ : x_L) : Prop :=
  Q 0 σ τ
def wX11_member_24 (Q : Int32 → x_S → x_L → Prop) (v3 : Int32) (s1 : Int32) (σ : x_S) (τ : x_L) : Prop :=
  wX11_throwsIf s1 1 σ τ (fun r25 σ25 τ25 => (r25 = 0 → wX11_memberAt (σ25 0 17) (σ25 0 18) v3 σ25 τ25 (fun r43 σ43 τ43 => Q r43 σ43 τ43)) ∧ (¬ r25 = 0 → wX11_member_31 Q σ25 τ25))
def wX11_member (a1 : Int32) (a2 : Int32) (a3 : Int32) (σ : x_S) (τ : x_L) (Q : Int32 → x_S → x_L → Prop) : Prop :=
  wX11_noPlatoon a1 a2 (x_up σ 0 5 0) τ (fun r8 σ8 τ8 => (¬ r8 = 0 → wX11_member_31 Q σ8 τ8) ∧ (r8 = 0 → (0 ≤ a3 → wX11_member_24 Q a3 0 σ8 τ8) ∧ (¬ 0 ≤ a3 → wX11_member_24 Q a3 1 σ8 τ8)))
def wX11_notTwo_26 (Q : Int32 → x_S → x_L → Prop) (s1 : Int32) (σ : x_S) (τ : x_L) : Prop :=
  wX11_throwsIf s1 1 σ τ (fun r27 σ27 τ27 => (r27 = 0 ∨ r27 = 1) ∧ Q r27 σ27 τ27)
def wX11_notTwo_21 (Q : Int32 → x_S → x_L → Prop) (σ : x_S) (τ : x_L) : Prop :=
  wX11_notTwo_26 Q 1 σ τ
def wX11_notTwo (a1 : Int32) (a2 : Int32) (σ : x_S) (τ : x_L) (Q : Int32 → x_S → x_L → Prop) : Prop :=
  wX11_lay σ τ (fun σ1 τ1 => wX11_isTruck a1 σ1 τ1 (fun r7 σ7 τ7 => (r7 = 0 → wX11_notTwo_21 Q σ7 τ7) ∧ (¬ r7 = 0 → wX11_isTruck a2 σ7 τ7 (fun r15 σ15 τ15 => (¬ r15 = 0 → wX11_notTwo_26 Q 0 σ15 τ15) ∧ (r15 = 0 → wX11_notTwo_21 Q σ15 τ15)))))
def wX11_together_57 (K29 : Int32 → Int32 → Int32 → Int32 → x_S → x_L → Prop) (Q : Int32 → x_S → x_L → Prop) (v1 : Int32) (v2 : Int32) (v4 : Int32) (s0 : Int32) (s1 : Int32) (σ : x_S) (τ : x_L) : Prop :=
  K29 v1 v2 (s0 + s1) (v4 + 1) σ τ
def wX11_together_29 (Q : Int32 → x_S → x_L → Prop) (K29 : Int32 → Int32 → Int32 → Int32 → x_S → x_L → Prop) (v1 : Int32) (v2 : Int32) (v3 : Int32) (v4 : Int32) (σ : x_S) (τ : x_L) : Prop :=
  wX11_placesOf v1 σ τ (fun r33 σ33 τ33 => (r33 ≤ v4 → Q v3 σ33 τ33) ∧ (¬ r33 ≤ v4 → wX11_mateOf v1 v4 v2 σ33 τ33 (fun r45 σ45 τ45 => (r45 = (-1) → wX11_together_57 K29 Q v1 v2 v4 v3 0 σ45 τ45) ∧ (¬ r45 = (-1) → wX11_together_57 K29 Q v1 v2 v4 v3 1 σ45 τ45))))
def wX11_together (a1 : Int32) (a2 : Int32) (σ : x_S) (τ : x_L) (Q : Int32 → x_S → x_L → Prop) : Prop :=
  wX11_notTwo a1 a2 (x_up σ 0 5 0) τ (fun r8 σ8 τ8 => (r8 = 0 → (¬ a1 = a2 → x_l4 (wX11_together_29 Q) a1 a2 0 0 σ8 τ8) ∧ (a1 = a2 → Q (-3) σ8 τ8)) ∧ (¬ r8 = 0 → Q 0 σ8 τ8))
def wX11_pairSaved_159 (K29 : Int32 → Int32 → Int32 → Int32 → x_S → x_L → Prop) (Q : Int32 → x_S → x_L → Prop) (v1 : Int32) (v2 : Int32) (v3 : Int32) (v4 : Int32) (σ : x_S) (τ : x_L) : Prop :=
  K29 v1 v2 v3 (v4 + 1) σ τ
def wX11_pairSaved_156 (K29 : Int32 → Int32 → Int32 → Int32 → x_S → x_L → Prop) (Q : Int32 → x_S → x_L → Prop) (v1 : Int32) (v2 : Int32) (v4 : Int32) (s0 : Int32) (s1 : Int32) (s2 : Int32) (σ : x_S) (τ : x_L) : Prop :=
  wX11_pairSaved_159 K29 Q v1 v2 (s0 + (s1 + s2)) v4 σ τ
def wX11_pairSaved_134 (K29 : Int32 → Int32 → Int32 → Int32 → x_S → x_L → Prop) (Q : Int32 → x_S → x_L → Prop) (v1 : Int32) (v2 : Int32) (v4 : Int32) (v9 : Int32) (s0 : Int32) (s2 : Int32) (σ : x_S) (τ : x_L) : Prop :=
  vp_in s2 120 ∧ (vp_in v9 120 ∧ ((¬ (σ 9 v9.toNatClampNeg) = 0 → wX11_pairSaved_156 K29 Q v1 v2 v4 s0 (σ 11 s2.toNatClampNeg) 0 σ τ) ∧ ((σ 9 v9.toNatClampNeg) = 0 → wX11_pairSaved_156 K29 Q v1 v2 v4 s0 (σ 11 s2.toNatClampNeg) (σ 11 v9.toNatClampNeg) σ τ)))
def wX11_pairSaved_117 (K29 : Int32 → Int32 → Int32 → Int32 → x_S → x_L → Prop) (Q : Int32 → x_S → x_L → Prop) (v1 : Int32) (v2 : Int32) (v3 : Int32) (v4 : Int32) (v6 : Int32) (v7 : Int32) (v8 : Int32) (v9 : Int32) (σ : x_S) (τ : x_L) : Prop :=
  (0 ≤ v8 → wX11_pairSaved_134 K29 Q v1 v2 v4 v9 v3 v6 σ τ) ∧ (¬ 0 ≤ v8 → wX11_pairSaved_134 K29 Q v1 v2 v4 v9 v3 v7 σ τ)
def wX11_pairSaved_103 (K29 : Int32 → Int32 → Int32 → Int32 → x_S → x_L → Prop) (Q : Int32 → x_S → x_L → Prop) (v1 : Int32) (v2 : Int32) (v3 : Int32) (v4 : Int32) (v6 : Int32) (v7 : Int32) (v8 : Int32) (s0 : Int32) (σ : x_S) (τ : x_L) : Prop :=
  (v8 = 1 → wX11_pairSaved_117 K29 Q v1 v2 v3 v4 v6 v7 v8 s0 σ τ) ∧ (¬ v8 = 1 → (¬ v8 = (-1) → wX11_pairSaved_159 K29 Q v1 v2 v3 v4 σ τ) ∧ (v8 = (-1) → wX11_pairSaved_117 K29 Q v1 v2 v3 v4 v6 v7 v8 s0 σ τ))
def wX11_pairSaved_29 (Q : Int32 → x_S → x_L → Prop) (K29 : Int32 → Int32 → Int32 → Int32 → x_S → x_L → Prop) (v1 : Int32) (v2 : Int32) (v3 : Int32) (v4 : Int32) (σ : x_S) (τ : x_L) : Prop :=
  wX11_placesOf v1 σ τ (fun r33 σ33 τ33 => (r33 ≤ v4 → Q v3 σ33 τ33) ∧ (¬ r33 ≤ v4 → wX11_mateOf v1 v4 v2 σ33 τ33 (fun r44 σ44 τ44 => (¬ r44 = (-1) → wX11_spot v1 v4 σ44 τ44 (fun r61 σ61 τ61 => wX11_spot v2 r44 σ61 τ61 (fun r69 σ69 τ69 => vp_in r61 120 ∧ (vp_in r69 120 ∧ ((0 ≤ ((σ69 9 r61.toNatClampNeg) - (σ69 9 r69.toNatClampNeg)) → wX11_pairSaved_103 K29 Q v1 v2 v3 v4 r61 r69 ((σ69 9 r61.toNatClampNeg) - (σ69 9 r69.toNatClampNeg)) r69 σ69 τ69) ∧ (¬ 0 ≤ ((σ69 9 r61.toNatClampNeg) - (σ69 9 r69.toNatClampNeg)) → wX11_pairSaved_103 K29 Q v1 v2 v3 v4 r61 r69 ((σ69 9 r61.toNatClampNeg) - (σ69 9 r69.toNatClampNeg)) r61 σ69 τ69)))))) ∧ (r44 = (-1) → wX11_pairSaved_159 K29 Q v1 v2 v3 v4 σ44 τ44))))
def wX11_pairSaved (a1 : Int32) (a2 : Int32) (σ : x_S) (τ : x_L) (Q : Int32 → x_S → x_L → Prop) : Prop :=
  wX11_notTwo a1 a2 (x_up σ 0 5 0) τ (fun r8 σ8 τ8 => (r8 = 0 → (¬ a1 = a2 → x_l4 (wX11_pairSaved_29 Q) a1 a2 0 0 σ8 τ8) ∧ (a1 = a2 → Q (-3) σ8 τ8)) ∧ (¬ r8 = 0 → Q 0 σ8 τ8))
def wX11_placeOf_2 (Q : Int32 → x_S → x_L → Prop) (K2 : Int32 → Int32 → Int32 → x_S → x_L → Prop) (v1 : Int32) (v2 : Int32) (v3 : Int32) (σ : x_S) (τ : x_L) : Prop :=
  wX11_placesOf v1 σ τ (fun r5 σ5 τ5 => (r5 ≤ v3 → Q (-1) σ5 τ5) ∧ (¬ r5 ≤ v3 → wX11_roadAt v1 v3 σ5 τ5 (fun r14 σ14 τ14 => (¬ r14 = v2 → K2 v1 v2 (v3 + 1) σ14 τ14) ∧ (r14 = v2 → Q v3 σ14 τ14))))
def wX11_placeOf (a1 : Int32) (a2 : Int32) (σ : x_S) (τ : x_L) (Q : Int32 → x_S → x_L → Prop) : Prop :=
  x_l3 (wX11_placeOf_2 Q) a1 a2 0 σ τ
def wX11_layRun_116 (Q : x_S → x_L → Prop) (s1 : Int32) (σ : x_S) (τ : x_L) : Prop :=
  Q (x_up σ 0 21 s1) τ
def wX11_layRun_86 (Q : x_S → x_L → Prop) (v1 : Int32) (v2 : Int32) (s1 : Int32) (σ : x_S) (τ : x_L) : Prop :=
  (¬ ((x_up σ 0 19 s1) 0 20) = (-1) → wX11_shared v1 ((x_up σ 0 19 s1) 0 19) v2 ((x_up σ 0 19 s1) 0 20) (x_up σ 0 19 s1) τ (fun r113 σ113 τ113 => wX11_layRun_116 Q r113 σ113 τ113)) ∧ (((x_up σ 0 19 s1) 0 20) = (-1) → wX11_layRun_116 Q 0 (x_up σ 0 19 s1) τ)
def wX11_layRun_69 (Q : x_S → x_L → Prop) (v1 : Int32) (v2 : Int32) (σ : x_S) (τ : x_L) : Prop :=
  (¬ (σ 0 20) = (-1) → wX11_layRun_86 Q v1 v2 (σ 0 19) σ τ) ∧ ((σ 0 20) = (-1) → wX11_layRun_86 Q v1 v2 (-1) σ τ)
def wX11_layRun_10 (Q : x_S → x_L → Prop) (K10 : Int32 → Int32 → x_S → x_L → Prop) (v1 : Int32) (v2 : Int32) (σ : x_S) (τ : x_L) : Prop :=
  wX11_placesOf v1 σ τ (fun r16 σ16 τ16 => (r16 ≤ (σ 0 19) → wX11_layRun_69 Q v1 v2 σ16 τ16) ∧ (¬ r16 ≤ (σ 0 19) → (¬ (σ16 0 20) = (-1) → wX11_layRun_69 Q v1 v2 σ16 τ16) ∧ ((σ16 0 20) = (-1) → wX11_roadAt v1 (σ16 0 19) σ16 τ16 (fun r39 σ39 τ39 => wX11_placeOf v2 r39 σ39 τ39 (fun r42 σ42 τ42 => (¬ ((x_up σ42 0 20 r42) 0 20) = (-1) → K10 v1 v2 (x_up σ42 0 20 r42) τ42) ∧ (((x_up σ42 0 20 r42) 0 20) = (-1) → K10 v1 v2 (x_up (x_up σ42 0 20 r42) 0 19 (((x_up σ42 0 20 r42) 0 19) + 1)) τ42))))))
def wX11_layRun (a1 : Int32) (a2 : Int32) (σ : x_S) (τ : x_L) (Q : x_S → x_L → Prop) : Prop :=
  x_l2 (wX11_layRun_10 Q) a1 a2 (x_up (x_up σ 0 19 0) 0 20 (-1)) τ
def wX11_run_39 (Q : Int32 → x_S → x_L → Prop) (σ : x_S) (τ : x_L) : Prop :=
  Q 0 σ τ
def wX11_run_82 (Q : Int32 → x_S → x_L → Prop) (s0 : Int32) (σ : x_S) (τ : x_L) : Prop :=
  Q s0 σ τ
def wX11_run_32 (Q : Int32 → x_S → x_L → Prop) (v1 : Int32) (v2 : Int32) (v3 : Int32) (s1 : Int32) (σ : x_S) (τ : x_L) : Prop :=
  wX11_throwsIf s1 2 σ τ (fun r33 σ33 τ33 => (r33 = 0 → (¬ v1 = v2 → wX11_layRun v1 v2 σ33 τ33 (fun σ52 τ52 => (¬ v3 = 0 → (¬ v3 = 1 → wX11_run_82 Q (σ52 0 21) σ52 τ52) ∧ (v3 = 1 → wX11_run_82 Q (σ52 0 20) σ52 τ52)) ∧ (v3 = 0 → wX11_run_82 Q (σ52 0 19) σ52 τ52))) ∧ (v1 = v2 → Q (-3) σ33 τ33)) ∧ (¬ r33 = 0 → wX11_run_39 Q σ33 τ33))
def wX11_run (a1 : Int32) (a2 : Int32) (a3 : Int32) (σ : x_S) (τ : x_L) (Q : Int32 → x_S → x_L → Prop) : Prop :=
  wX11_notTwo a1 a2 (x_up σ 0 5 0) τ (fun r8 σ8 τ8 => (¬ r8 = 0 → wX11_run_39 Q σ8 τ8) ∧ (r8 = 0 → wX11_inRange ((a3 : Int32).toInt64) 0 2 σ8 τ8 (fun r21 σ21 τ21 => (¬ r21 = 0 → wX11_run_32 Q a1 a2 a3 0 σ21 τ21) ∧ (r21 = 0 → wX11_run_32 Q a1 a2 a3 1 σ21 τ21))))
def wX11_common_60 (K21 : Int32 → Int32 → Int32 → Int32 → x_S → x_L → Prop) (Q : Int32 → x_S → x_L → Prop) (v1 : Int32) (v2 : Int32) (v4 : Int32) (s0 : Int32) (s1 : Int32) (σ : x_S) (τ : x_L) : Prop :=
  K21 v1 v2 (s0 + s1) (v4 + 1) σ τ
def wX11_common_59 (K21 : Int32 → Int32 → Int32 → Int32 → x_S → x_L → Prop) (Q : Int32 → x_S → x_L → Prop) (v1 : Int32) (v2 : Int32) (v4 : Int32) (s0 : Int32) (σ : x_S) (τ : x_L) : Prop :=
  wX11_common_60 K21 Q v1 v2 v4 s0 0 σ τ
def wX11_common_21 (Q : Int32 → x_S → x_L → Prop) (K21 : Int32 → Int32 → Int32 → Int32 → x_S → x_L → Prop) (v1 : Int32) (v2 : Int32) (v3 : Int32) (v4 : Int32) (σ : x_S) (τ : x_L) : Prop :=
  ((σ 3 (0 : Int32).toNatClampNeg) ≤ v4 → Q v3 σ τ) ∧ (¬ (σ 3 (0 : Int32).toNatClampNeg) ≤ v4 → wX11_placeOf v1 v4 σ τ (fun r37 σ37 τ37 => (r37 = (-1) → wX11_common_59 K21 Q v1 v2 v4 v3 σ37 τ37) ∧ (¬ r37 = (-1) → wX11_placeOf v2 v4 σ37 τ37 (fun r48 σ48 τ48 => (r48 = (-1) → wX11_common_59 K21 Q v1 v2 v4 v3 σ48 τ48) ∧ (¬ r48 = (-1) → wX11_common_60 K21 Q v1 v2 v4 v3 1 σ48 τ48)))))
def wX11_common (a1 : Int32) (a2 : Int32) (σ : x_S) (τ : x_L) (Q : Int32 → x_S → x_L → Prop) : Prop :=
  wX11_notTwo a1 a2 (x_up σ 0 5 0) τ (fun r8 σ8 τ8 => (r8 = 0 → x_l4 (wX11_common_21 Q) a1 a2 0 0 σ8 τ8) ∧ (¬ r8 = 0 → Q 0 σ8 τ8))
def wX11_slack_19 (Q : Int32 → x_S → x_L → Prop) (v1 : Int32) (s1 : Int32) (σ : x_S) (τ : x_L) : Prop :=
  wX11_throwsIf s1 1 σ τ (fun r20 σ20 τ20 => (r20 = 0 → wX11_lay σ20 τ20 (fun σ29 τ29 => wX11_ofTruck v1 1 σ29 τ29 (fun r35 σ35 τ35 => wX11_arrival v1 σ35 τ35 (fun r40 σ40 τ40 => Q (r35 - r40) σ40 τ40)))) ∧ (¬ r20 = 0 → Q 0 σ20 τ20))
def wX11_slack (a1 : Int32) (σ : x_S) (τ : x_L) (Q : Int32 → x_S → x_L → Prop) : Prop :=
  wX11_isTruck a1 (x_up σ 0 5 0) τ (fun r8 σ8 τ8 => (¬ r8 = 0 → wX11_slack_19 Q a1 0 σ8 τ8) ∧ (r8 = 0 → wX11_slack_19 Q a1 1 σ8 τ8))
def wX11_neededSpeed_39 (Q : Int32 → x_S → x_L → Prop) (σ : x_S) (τ : x_L) : Prop :=
  Q 0 σ τ
def wX11_neededSpeed_45 (Q : Int32 → x_S → x_L → Prop) (K45 : Int32 → Int32 → Int32 → Int32 → x_S → x_L → Prop) (v1 : Int32) (v2 : Int32) (v3 : Int32) (v4 : Int32) (σ : x_S) (τ : x_L) : Prop :=
  wX11_limitAt v1 v2 σ τ (fun r50 σ50 τ50 => (r50 < v4 → Q (-1) σ50 τ50) ∧ (¬ r50 < v4 → wX11_spot v1 v2 σ50 τ50 (fun r62 σ62 τ62 => vp_in r62 120 ∧ (wX11_roadAt v1 v2 σ62 τ62 (fun r70 σ70 τ70 => wX11_minutes r70 v4 σ70 τ70 (fun r75 σ75 τ75 => (v3 < ((σ62 4 r62.toNatClampNeg) + r75) → K45 v1 v2 v3 (v4 + 1) σ75 τ75) ∧ (¬ v3 < ((σ62 4 r62.toNatClampNeg) + r75) → Q v4 σ75 τ75)))))))
def wX11_neededSpeed_32 (Q : Int32 → x_S → x_L → Prop) (v1 : Int32) (v2 : Int32) (v3 : Int32) (s1 : Int32) (σ : x_S) (τ : x_L) : Prop :=
  wX11_throwsIf s1 2 σ τ (fun r33 σ33 τ33 => (r33 = 0 → x_l4 (wX11_neededSpeed_45 Q) v1 v2 v3 40 σ33 τ33) ∧ (¬ r33 = 0 → wX11_neededSpeed_39 Q σ33 τ33))
def wX11_neededSpeed (a1 : Int32) (a2 : Int32) (a3 : Int32) (σ : x_S) (τ : x_L) (Q : Int32 → x_S → x_L → Prop) : Prop :=
  wX11_noPlace a1 a2 (x_up σ 0 5 0) τ (fun r8 σ8 τ8 => (¬ r8 = 0 → wX11_neededSpeed_39 Q σ8 τ8) ∧ (r8 = 0 → wX11_inRange ((a3 : Int32).toInt64) 0 20000 σ8 τ8 (fun r21 σ21 τ21 => (¬ r21 = 0 → wX11_neededSpeed_32 Q a1 a2 a3 0 σ21 τ21) ∧ (r21 = 0 → wX11_neededSpeed_32 Q a1 a2 a3 1 σ21 τ21))))
def wX11_setWaitNow (a1 : Int32) (a2 : Int32) (a3 : Int32) (σ : x_S) (τ : x_L) (Q : Int32 → x_S → x_L → Prop) : Prop :=
  wX11_keep σ τ (fun σ1 τ1 => wX11_waitAt a1 a2 σ1 τ1 (fun r7 σ7 τ7 => wX11_spot a1 a2 σ7 τ7 (fun r20 σ20 τ20 => vp_in (12 + r20) 4788 ∧ (Q r7 (x_up σ20 1 ((12 + r20).toNatClampNeg) a3) τ20))))
def wX11_setWait_63 (Q : Int32 → x_S → x_L → Prop) (s0 : Int32) (σ : x_S) (τ : x_L) : Prop :=
  Q s0 σ τ
def wX11_setWait_52 (Q : Int32 → x_S → x_L → Prop) (σ : x_S) (τ : x_L) : Prop :=
  wX11_setWait_63 Q 0 σ τ
def wX11_setWait_45 (Q : Int32 → x_S → x_L → Prop) (v1 : Int32) (v2 : Int32) (v3 : Int32) (s1 : Int32) (σ : x_S) (τ : x_L) : Prop :=
  wX11_throwsIf s1 2 σ τ (fun r46 σ46 τ46 => (r46 = 0 → wX11_setWaitNow v1 v2 v3 σ46 τ46 (fun r60 σ60 τ60 => wX11_setWait_63 Q r60 σ60 τ60)) ∧ (¬ r46 = 0 → wX11_setWait_52 Q σ46 τ46))
def wX11_setWait_20 (Q : Int32 → x_S → x_L → Prop) (v1 : Int32) (v2 : Int32) (v3 : Int32) (s1 : Int32) (σ : x_S) (τ : x_L) : Prop :=
  wX11_throwsIf s1 1 σ τ (fun r21 σ21 τ21 => (¬ r21 = 0 → wX11_setWait_52 Q σ21 τ21) ∧ (r21 = 0 → wX11_inRange ((v3 : Int32).toInt64) 0 120 σ21 τ21 (fun r34 σ34 τ34 => (¬ r34 = 0 → wX11_setWait_45 Q v1 v2 v3 0 σ34 τ34) ∧ (r34 = 0 → wX11_setWait_45 Q v1 v2 v3 1 σ34 τ34))))
def wX11_setWait (a1 : Int32) (a2 : Int32) (a3 : Int32) (σ : x_S) (τ : x_L) (Q : Int32 → x_S → x_L → Prop) : Prop :=
  wX11_isPlace a1 a2 (x_up σ 0 5 0) τ (fun r9 σ9 τ9 => (¬ r9 = 0 → wX11_setWait_20 Q a1 a2 a3 0 σ9 τ9) ∧ (r9 = 0 → wX11_setWait_20 Q a1 a2 a3 1 σ9 τ9))
def wX11_setSpeedNow (a1 : Int32) (a2 : Int32) (a3 : Int32) (σ : x_S) (τ : x_L) (Q : Int32 → x_S → x_L → Prop) : Prop :=
  wX11_keep σ τ (fun σ1 τ1 => wX11_speedAt a1 a2 σ1 τ1 (fun r7 σ7 τ7 => wX11_spot a1 a2 σ7 τ7 (fun r21 σ21 τ21 => vp_in (132 + r21) 4788 ∧ (Q r7 (x_up σ21 1 ((132 + r21).toNatClampNeg) a3) τ21))))
def wX11_setSpeed_69 (Q : Int32 → x_S → x_L → Prop) (s0 : Int32) (σ : x_S) (τ : x_L) : Prop :=
  Q s0 σ τ
def wX11_setSpeed_58 (Q : Int32 → x_S → x_L → Prop) (σ : x_S) (τ : x_L) : Prop :=
  wX11_setSpeed_69 Q 0 σ τ
def wX11_setSpeed_51 (Q : Int32 → x_S → x_L → Prop) (v1 : Int32) (v2 : Int32) (v3 : Int32) (s1 : Int32) (σ : x_S) (τ : x_L) : Prop :=
  wX11_throwsIf s1 2 σ τ (fun r52 σ52 τ52 => (r52 = 0 → wX11_setSpeedNow v1 v2 v3 σ52 τ52 (fun r66 σ66 τ66 => wX11_setSpeed_69 Q r66 σ66 τ66)) ∧ (¬ r52 = 0 → wX11_setSpeed_58 Q σ52 τ52))
def wX11_setSpeed_20 (Q : Int32 → x_S → x_L → Prop) (v1 : Int32) (v2 : Int32) (v3 : Int32) (s1 : Int32) (σ : x_S) (τ : x_L) : Prop :=
  wX11_throwsIf s1 1 σ τ (fun r21 σ21 τ21 => (¬ r21 = 0 → wX11_setSpeed_58 Q σ21 τ21) ∧ (r21 = 0 → wX11_limitAt v1 v2 σ21 τ21 (fun r36 σ36 τ36 => wX11_inRange ((v3 : Int32).toInt64) 40 ((r36 : Int32).toInt64) σ36 τ36 (fun r40 σ40 τ40 => (¬ r40 = 0 → wX11_setSpeed_51 Q v1 v2 v3 0 σ40 τ40) ∧ (r40 = 0 → wX11_setSpeed_51 Q v1 v2 v3 1 σ40 τ40)))))
def wX11_setSpeed (a1 : Int32) (a2 : Int32) (a3 : Int32) (σ : x_S) (τ : x_L) (Q : Int32 → x_S → x_L → Prop) : Prop :=
  wX11_isPlace a1 a2 (x_up σ 0 5 0) τ (fun r9 σ9 τ9 => (¬ r9 = 0 → wX11_setSpeed_20 Q a1 a2 a3 0 σ9 τ9) ∧ (r9 = 0 → wX11_setSpeed_20 Q a1 a2 a3 1 σ9 τ9))
def wX11_setStartNow (a1 : Int32) (a2 : Int32) (σ : x_S) (τ : x_L) (Q : Int32 → x_S → x_L → Prop) : Prop :=
  wX11_keep σ τ (fun σ1 τ1 => vp_in a1 4788 ∧ (Q (σ1 1 a1.toNatClampNeg) (x_up σ1 1 a1.toNatClampNeg a2) τ1))
def wX11_setStart_61 (Q : Int32 → x_S → x_L → Prop) (s0 : Int32) (σ : x_S) (τ : x_L) : Prop :=
  Q s0 σ τ
def wX11_setStart_51 (Q : Int32 → x_S → x_L → Prop) (σ : x_S) (τ : x_L) : Prop :=
  wX11_setStart_61 Q 0 σ τ
def wX11_setStart_44 (Q : Int32 → x_S → x_L → Prop) (v1 : Int32) (v2 : Int32) (s1 : Int32) (σ : x_S) (τ : x_L) : Prop :=
  wX11_throwsIf s1 2 σ τ (fun r45 σ45 τ45 => (r45 = 0 → wX11_setStartNow v1 v2 σ45 τ45 (fun r58 σ58 τ58 => wX11_setStart_61 Q r58 σ58 τ58)) ∧ (¬ r45 = 0 → wX11_setStart_51 Q σ45 τ45))
def wX11_setStart_19 (Q : Int32 → x_S → x_L → Prop) (v1 : Int32) (v2 : Int32) (s1 : Int32) (σ : x_S) (τ : x_L) : Prop :=
  wX11_throwsIf s1 1 σ τ (fun r20 σ20 τ20 => (¬ r20 = 0 → wX11_setStart_51 Q σ20 τ20) ∧ (r20 = 0 → wX11_inRange ((v2 : Int32).toInt64) 0 2000 σ20 τ20 (fun r33 σ33 τ33 => (¬ r33 = 0 → wX11_setStart_44 Q v1 v2 0 σ33 τ33) ∧ (r33 = 0 → wX11_setStart_44 Q v1 v2 1 σ33 τ33))))
def wX11_setStart (a1 : Int32) (a2 : Int32) (σ : x_S) (τ : x_L) (Q : Int32 → x_S → x_L → Prop) : Prop :=
  wX11_isTruck a1 (x_up σ 0 5 0) τ (fun r8 σ8 τ8 => (¬ r8 = 0 → wX11_setStart_19 Q a1 a2 0 σ8 τ8) ∧ (r8 = 0 → wX11_setStart_19 Q a1 a2 1 σ8 τ8))
def wX11_joinRun_159 (K23 : Int32 → Int32 → Int32 → Int32 → x_S → x_L → Prop) (Q : x_S → x_L → Prop) (v1 : Int32) (v2 : Int32) (v3 : Int32) (v4 : Int32) (s1 : Int32) (s2 : Int32) (σ : x_S) (τ : x_L) : Prop :=
  vp_in s1 4788 ∧ (K23 v1 v2 v3 (v4 + 1) (x_up σ 1 s1.toNatClampNeg s2) τ)
def wX11_joinRun_134 (K23 : Int32 → Int32 → Int32 → Int32 → x_S → x_L → Prop) (Q : x_S → x_L → Prop) (v1 : Int32) (v2 : Int32) (v3 : Int32) (v4 : Int32) (v6 : Int32) (s1 : Int32) (s2 : Int32) (σ : x_S) (τ : x_L) : Prop :=
  vp_in s1 4788 ∧ ((¬ v4 = 0 → wX11_joinRun_159 K23 Q v1 v2 v3 v4 (12 + v6) 0 (x_up σ 1 s1.toNatClampNeg s2) τ) ∧ (v4 = 0 → wX11_max (-v3) 0 (x_up σ 1 s1.toNatClampNeg s2) τ (fun r152 σ152 τ152 => wX11_joinRun_159 K23 Q v1 v2 v3 v4 (12 + v6) r152 σ152 τ152)))
def wX11_joinRun_23 (Q : x_S → x_L → Prop) (K23 : Int32 → Int32 → Int32 → Int32 → x_S → x_L → Prop) (v1 : Int32) (v2 : Int32) (v3 : Int32) (v4 : Int32) (σ : x_S) (τ : x_L) : Prop :=
  ((σ 0 21) ≤ v4 → Q σ τ) ∧ (¬ (σ 0 21) ≤ v4 → wX11_spot v1 ((σ 0 19) + v4) σ τ (fun r40 σ40 τ40 => wX11_spot v2 ((σ40 0 20) + v4) σ40 τ40 (fun r53 σ53 τ53 => vp_in (132 + r40) 4788 ∧ (vp_in (132 + r53) 4788 ∧ (wX11_min (σ53 1 (132 + r40).toNatClampNeg) (σ53 1 (132 + r53).toNatClampNeg) σ53 τ53 (fun r80 σ80 τ80 => (¬ v4 = 0 → wX11_joinRun_134 K23 Q v1 v2 v3 v4 r53 (12 + r40) 0 (x_up (x_up σ80 1 ((132 + r40).toNatClampNeg) r80) 1 ((132 + r53).toNatClampNeg) r80) τ80) ∧ (v4 = 0 → wX11_max v3 0 (x_up (x_up σ80 1 ((132 + r40).toNatClampNeg) r80) 1 ((132 + r53).toNatClampNeg) r80) τ80 (fun r127 σ127 τ127 => wX11_joinRun_134 K23 Q v1 v2 v3 v4 r53 (12 + r40) r127 σ127 τ127))))))))
def wX11_joinRun (a1 : Int32) (a2 : Int32) (σ : x_S) (τ : x_L) (Q : x_S → x_L → Prop) : Prop :=
  wX11_readyAt a2 (σ 0 20) σ τ (fun r6 σ6 τ6 => wX11_readyAt a1 (σ6 0 19) σ6 τ6 (fun r15 σ15 τ15 => x_l4 (wX11_joinRun_23 Q) a1 a2 (r6 - r15) 0 σ15 τ15))
def wX11_lateness_70 (Q : Int32 → x_S → x_L → Prop) (v1 : Int32) (v2 : Int32) (s0 : Int32) (σ : x_S) (τ : x_L) : Prop :=
  wX11_copyPlan 18 0 σ τ (fun σ76 τ76 => wX11_layTimes v1 σ76 τ76 (fun σ81 τ81 => wX11_layTimes v2 σ81 τ81 (fun σ86 τ86 => Q s0 σ86 τ86)))
def wX11_lateness_69 (Q : Int32 → x_S → x_L → Prop) (v1 : Int32) (v2 : Int32) (σ : x_S) (τ : x_L) : Prop :=
  wX11_lateness_70 Q v1 v2 0 σ τ
def wX11_lateness_52 (Q : Int32 → x_S → x_L → Prop) (v1 : Int32) (v2 : Int32) (v4 : Int32) (σ : x_S) (τ : x_L) : Prop :=
  (¬ v4 = 0 → wX11_lateness_69 Q v1 v2 σ τ) ∧ (v4 = 0 → wX11_isLate v2 σ τ (fun r59 σ59 τ59 => (r59 = 0 → wX11_lateness_69 Q v1 v2 σ59 τ59) ∧ (¬ r59 = 0 → wX11_lateness_70 Q v1 v2 5 σ59 τ59)))
def wX11_lateness (a1 : Int32) (a2 : Int32) (σ : x_S) (τ : x_L) (Q : Int32 → x_S → x_L → Prop) : Prop :=
  wX11_isLate a1 σ τ (fun r2 σ2 τ2 => wX11_isLate a2 σ2 τ2 (fun r8 σ8 τ8 => wX11_copyPlan 0 18 σ8 τ8 (fun σ17 τ17 => wX11_joinRun a1 a2 σ17 τ17 (fun σ23 τ23 => wX11_layTimes a1 σ23 τ23 (fun σ28 τ28 => wX11_layTimes a2 σ28 τ28 (fun σ33 τ33 => (¬ r2 = 0 → wX11_lateness_52 Q a1 a2 r8 σ33 τ33) ∧ (r2 = 0 → wX11_isLate a1 σ33 τ33 (fun r42 σ42 τ42 => (r42 = 0 → wX11_lateness_52 Q a1 a2 r8 σ42 τ42) ∧ (¬ r42 = 0 → wX11_lateness_70 Q a1 a2 4 σ42 τ42)))))))))
def wX11_reasonNow_64 (Q : Int32 → x_S → x_L → Prop) (s0 : Int32) (σ : x_S) (τ : x_L) : Prop :=
  Q s0 σ τ
def wX11_reasonNow (a1 : Int32) (a2 : Int32) (σ : x_S) (τ : x_L) (Q : Int32 → x_S → x_L → Prop) : Prop :=
  (¬ a1 = a2 → wX11_layRun a1 a2 σ τ (fun σ10 τ10 => (¬ (σ10 0 21) = 0 → wX11_readyAt a1 (σ10 0 19) σ10 τ10 (fun r28 σ28 τ28 => wX11_readyAt a2 (σ28 0 20) σ28 τ28 (fun r37 σ37 τ37 => wX11_inRange (((r28 - r37) : Int32).toInt64) (-120) 120 σ37 τ37 (fun r48 σ48 τ48 => (r48 = 0 → wX11_reasonNow_64 Q 3 σ48 τ48) ∧ (¬ r48 = 0 → wX11_lateness a1 a2 σ48 τ48 (fun r57 σ57 τ57 => wX11_reasonNow_64 Q r57 σ57 τ57)))))) ∧ ((σ10 0 21) = 0 → Q 2 σ10 τ10))) ∧ (a1 = a2 → Q 1 σ τ)
def wX11_reason_24 (Q : Int32 → x_S → x_L → Prop) (s0 : Int32) (σ : x_S) (τ : x_L) : Prop :=
  Q s0 σ τ
def wX11_reason (a1 : Int32) (a2 : Int32) (σ : x_S) (τ : x_L) (Q : Int32 → x_S → x_L → Prop) : Prop :=
  wX11_notTwo a1 a2 (x_up σ 0 5 0) τ (fun r8 σ8 τ8 => (r8 = 0 → wX11_reasonNow a1 a2 σ8 τ8 (fun r21 σ21 τ21 => wX11_reason_24 Q r21 σ21 τ21)) ∧ (¬ r8 = 0 → wX11_reason_24 Q 0 σ8 τ8))
def wX11_mergeNow (a1 : Int32) (a2 : Int32) (σ : x_S) (τ : x_L) (Q : Int32 → x_S → x_L → Prop) : Prop :=
  wX11_lay σ τ (fun σ1 τ1 => wX11_reasonNow a1 a2 σ1 τ1 (fun r7 σ7 τ7 => (r7 ≤ 0 → wX11_keep σ7 τ7 (fun σ17 τ17 => wX11_joinRun a1 a2 σ17 τ17 (fun σ23 τ23 => Q (σ23 0 21) σ23 τ23))) ∧ (¬ r7 ≤ 0 → Q (-3) σ7 τ7)))
def wX11_merge_24 (Q : Int32 → x_S → x_L → Prop) (s0 : Int32) (σ : x_S) (τ : x_L) : Prop :=
  Q s0 σ τ
def wX11_merge (a1 : Int32) (a2 : Int32) (σ : x_S) (τ : x_L) (Q : Int32 → x_S → x_L → Prop) : Prop :=
  wX11_notTwo a1 a2 (x_up σ 0 5 0) τ (fun r8 σ8 τ8 => (r8 = 0 → wX11_mergeNow a1 a2 σ8 τ8 (fun r21 σ21 τ21 => wX11_merge_24 Q r21 σ21 τ21)) ∧ (¬ r8 = 0 → wX11_merge_24 Q 0 σ8 τ8))
def wX11_gainNow_36 (Q : Int32 → x_S → x_L → Prop) (K36 : Int32 → Int32 → x_S → x_L → Prop) (v4 : Int32) (v5 : Int32) (σ : x_S) (τ : x_L) : Prop :=
  ((σ 3 (1 : Int32).toNatClampNeg) ≤ v5 → Q v4 σ τ) ∧ (¬ (σ 3 (1 : Int32).toNatClampNeg) ≤ v5 → wX11_layTimes v5 σ τ (fun σ50 τ50 => K36 v4 (v5 + 1) σ50 τ50))
def wX11_gainNow (a1 : Int32) (a2 : Int32) (a3 : Int32) (σ : x_S) (τ : x_L) (Q : Int32 → x_S → x_L → Prop) : Prop :=
  wX11_copyPlan 0 18 σ τ (fun σ4 τ4 => wX11_joinRun a1 a2 σ4 τ4 (fun σ10 τ10 => wX11_lay σ10 τ10 (fun σ14 τ14 => wX11_sumOfAll 0 σ14 τ14 (fun r20 σ20 τ20 => wX11_copyPlan 18 0 σ20 τ20 (fun σ30 τ30 => x_l2 (wX11_gainNow_36 Q) (a3 - r20) 0 σ30 τ30)))))
def wX11_gain_55 (Q : Int32 → x_S → x_L → Prop) (s0 : Int32) (σ : x_S) (τ : x_L) : Prop :=
  Q s0 σ τ
def wX11_gain_37 (Q : Int32 → x_S → x_L → Prop) (v1 : Int32) (v2 : Int32) (v3 : Int32) (s1 : Int32) (σ : x_S) (τ : x_L) : Prop :=
  wX11_throwsIf s1 2 σ τ (fun r38 σ38 τ38 => (r38 = 0 → wX11_gainNow v1 v2 v3 σ38 τ38 (fun r52 σ52 τ52 => wX11_gain_55 Q r52 σ52 τ52)) ∧ (¬ r38 = 0 → wX11_gain_55 Q 0 σ38 τ38))
def wX11_gain (a1 : Int32) (a2 : Int32) (σ : x_S) (τ : x_L) (Q : Int32 → x_S → x_L → Prop) : Prop :=
  wX11_notTwo a1 a2 (x_up σ 0 5 0) τ (fun r8 σ8 τ8 => (r8 = 0 → wX11_sumOfAll 0 σ8 τ8 (fun r18 σ18 τ18 => wX11_reasonNow a1 a2 σ18 τ18 (fun r26 σ26 τ26 => (r26 ≤ 0 → wX11_gain_37 Q a1 a2 r18 0 σ26 τ26) ∧ (¬ r26 ≤ 0 → wX11_gain_37 Q a1 a2 r18 1 σ26 τ26)))) ∧ (¬ r8 = 0 → Q 0 σ8 τ8))
def wX11_bestPartner_98 (K46 : Int32 → Int32 → Int32 → Int32 → Int32 → x_S → x_L → Prop) (Q : Int32 → x_S → x_L → Prop) (v1 : Int32) (v2 : Int32) (v3 : Int32) (v4 : Int32) (v5 : Int32) (σ : x_S) (τ : x_L) : Prop :=
  K46 v1 v2 v3 v4 (v5 + 1) σ τ
def wX11_bestPartner_79 (K46 : Int32 → Int32 → Int32 → Int32 → Int32 → x_S → x_L → Prop) (Q : Int32 → x_S → x_L → Prop) (v1 : Int32) (v2 : Int32) (v3 : Int32) (v4 : Int32) (v5 : Int32) (s0 : Int32) (σ : x_S) (τ : x_L) : Prop :=
  (v4 < s0 → wX11_bestPartner_98 K46 Q v1 v2 v5 s0 v5 σ τ) ∧ (¬ v4 < s0 → wX11_bestPartner_98 K46 Q v1 v2 v3 v4 v5 σ τ)
def wX11_bestPartner_46 (Q : Int32 → x_S → x_L → Prop) (K46 : Int32 → Int32 → Int32 → Int32 → Int32 → x_S → x_L → Prop) (v1 : Int32) (v2 : Int32) (v3 : Int32) (v4 : Int32) (v5 : Int32) (σ : x_S) (τ : x_L) : Prop :=
  ((σ 3 (1 : Int32).toNatClampNeg) ≤ v5 → Q v3 σ τ) ∧ (¬ (σ 3 (1 : Int32).toNatClampNeg) ≤ v5 → wX11_reasonNow v1 v5 σ τ (fun r61 σ61 τ61 => (r61 ≤ 0 → wX11_gainNow v1 v5 v2 σ61 τ61 (fun r76 σ76 τ76 => wX11_bestPartner_79 K46 Q v1 v2 v3 v4 v5 r76 σ76 τ76)) ∧ (¬ r61 ≤ 0 → wX11_bestPartner_79 K46 Q v1 v2 v3 v4 v5 0 σ61 τ61)))
def wX11_bestPartner_19 (Q : Int32 → x_S → x_L → Prop) (v1 : Int32) (s1 : Int32) (σ : x_S) (τ : x_L) : Prop :=
  wX11_throwsIf s1 1 σ τ (fun r20 σ20 τ20 => (r20 = 0 → wX11_lay σ20 τ20 (fun σ29 τ29 => wX11_sumOfAll 0 σ29 τ29 (fun r34 σ34 τ34 => x_l5 (wX11_bestPartner_46 Q) v1 r34 (-1) 0 0 σ34 τ34))) ∧ (¬ r20 = 0 → Q 0 σ20 τ20))
def wX11_bestPartner (a1 : Int32) (σ : x_S) (τ : x_L) (Q : Int32 → x_S → x_L → Prop) : Prop :=
  wX11_isTruck a1 (x_up σ 0 5 0) τ (fun r8 σ8 τ8 => (¬ r8 = 0 → wX11_bestPartner_19 Q a1 0 σ8 τ8) ∧ (r8 = 0 → wX11_bestPartner_19 Q a1 1 σ8 τ8))
def wX11_mergedBest_94 (K20 : Int32 → Int32 → Int32 → Int32 → Int32 → x_S → x_L → Prop) (K37 : Int32 → Int32 → Int32 → Int32 → Int32 → Int32 → x_S → x_L → Prop) (Q : Int32 → x_S → x_L → Prop) (v1 : Int32) (v2 : Int32) (v3 : Int32) (v4 : Int32) (v5 : Int32) (v6 : Int32) (σ : x_S) (τ : x_L) : Prop :=
  K37 v1 v2 v3 v4 v5 (v6 + 1) σ τ
def wX11_mergedBest_72 (K20 : Int32 → Int32 → Int32 → Int32 → Int32 → x_S → x_L → Prop) (K37 : Int32 → Int32 → Int32 → Int32 → Int32 → Int32 → x_S → x_L → Prop) (Q : Int32 → x_S → x_L → Prop) (v1 : Int32) (v2 : Int32) (v3 : Int32) (v4 : Int32) (v5 : Int32) (v6 : Int32) (s0 : Int32) (σ : x_S) (τ : x_L) : Prop :=
  (v4 < s0 → wX11_mergedBest_94 K20 K37 Q v1 v5 v6 s0 v5 v6 σ τ) ∧ (¬ v4 < s0 → wX11_mergedBest_94 K20 K37 Q v1 v2 v3 v4 v5 v6 σ τ)
def wX11_mergedBest_37 (K20 : Int32 → Int32 → Int32 → Int32 → Int32 → x_S → x_L → Prop) (Q : Int32 → x_S → x_L → Prop) (K37 : Int32 → Int32 → Int32 → Int32 → Int32 → Int32 → x_S → x_L → Prop) (v1 : Int32) (v2 : Int32) (v3 : Int32) (v4 : Int32) (v5 : Int32) (v6 : Int32) (σ : x_S) (τ : x_L) : Prop :=
  ((σ 3 (1 : Int32).toNatClampNeg) ≤ v6 → K20 v1 v2 v3 v4 (v5 + 1) σ τ) ∧ (¬ (σ 3 (1 : Int32).toNatClampNeg) ≤ v6 → wX11_reasonNow v5 v6 σ τ (fun r53 σ53 τ53 => (r53 ≤ 0 → wX11_gainNow v5 v6 v1 σ53 τ53 (fun r69 σ69 τ69 => wX11_mergedBest_72 K20 K37 Q v1 v2 v3 v4 v5 v6 r69 σ69 τ69)) ∧ (¬ r53 ≤ 0 → wX11_mergedBest_72 K20 K37 Q v1 v2 v3 v4 v5 v6 0 σ53 τ53)))
def wX11_mergedBest_20 (Q : Int32 → x_S → x_L → Prop) (K20 : Int32 → Int32 → Int32 → Int32 → Int32 → x_S → x_L → Prop) (v1 : Int32) (v2 : Int32) (v3 : Int32) (v4 : Int32) (v5 : Int32) (σ : x_S) (τ : x_L) : Prop :=
  ((σ 3 (1 : Int32).toNatClampNeg) ≤ v5 → (¬ v4 = 0 → wX11_layRun v2 v3 σ τ (fun σ116 τ116 => wX11_joinRun v2 v3 σ116 τ116 (fun σ122 τ122 => Q 1 σ122 τ122))) ∧ (v4 = 0 → Q 0 σ τ)) ∧ (¬ (σ 3 (1 : Int32).toNatClampNeg) ≤ v5 → x_l6 (wX11_mergedBest_37 K20 Q) v1 v2 v3 v4 v5 (v5 + 1) σ τ)
def wX11_mergedBest (σ : x_S) (τ : x_L) (Q : Int32 → x_S → x_L → Prop) : Prop :=
  wX11_lay σ τ (fun σ1 τ1 => wX11_sumOfAll 0 σ1 τ1 (fun r6 σ6 τ6 => x_l5 (wX11_mergedBest_20 Q) r6 (-1) (-1) 0 0 σ6 τ6))
def wX11_mergeAllNow_25 (Q : Int32 → x_S → x_L → Prop) (v1 : Int32) (σ : x_S) (τ : x_L) : Prop :=
  Q v1 σ τ
def wX11_mergeAllNow_6 (Q : Int32 → x_S → x_L → Prop) (K6 : Int32 → x_S → x_L → Prop) (v1 : Int32) (σ : x_S) (τ : x_L) : Prop :=
  (30 ≤ v1 → wX11_mergeAllNow_25 Q v1 σ τ) ∧ (¬ 30 ≤ v1 → wX11_mergedBest σ τ (fun r13 σ13 τ13 => (r13 = 0 → wX11_mergeAllNow_25 Q v1 σ13 τ13) ∧ (¬ r13 = 0 → K6 (v1 + 1) σ13 τ13)))
def wX11_mergeAllNow (σ : x_S) (τ : x_L) (Q : Int32 → x_S → x_L → Prop) : Prop :=
  wX11_keep σ τ (fun σ1 τ1 => x_l1 (wX11_mergeAllNow_6 Q) 0 σ1 τ1)
def wX11_mergeAll (σ : x_S) (τ : x_L) (Q : Int32 → x_S → x_L → Prop) : Prop :=
  wX11_mergeAllNow (x_up σ 0 5 0) τ (fun r6 σ6 τ6 => Q r6 σ6 τ6)
def wX11_hurryNow_51 (K13 : Int32 → Int32 → Int32 → x_S → x_L → Prop) (Q : Int32 → x_S → x_L → Prop) (v1 : Int32) (v3 : Int32) (s0 : Int32) (s1 : Int32) (σ : x_S) (τ : x_L) : Prop :=
  wX11_spot v1 v3 σ τ (fun r62 σ62 τ62 => wX11_limitAt v1 v3 σ62 τ62 (fun r69 σ69 τ69 => vp_in (132 + r62) 4788 ∧ (wX11_layTimes v1 (x_up σ69 1 ((132 + r62).toNatClampNeg) r69) τ69 (fun σ75 τ75 => K13 v1 (s0 + s1) (v3 + 1) σ75 τ75))))
def wX11_hurryNow_84 (Q : Int32 → x_S → x_L → Prop) (v2 : Int32) (σ : x_S) (τ : x_L) : Prop :=
  Q v2 σ τ
def wX11_hurryNow_13 (Q : Int32 → x_S → x_L → Prop) (K13 : Int32 → Int32 → Int32 → x_S → x_L → Prop) (v1 : Int32) (v2 : Int32) (v3 : Int32) (σ : x_S) (τ : x_L) : Prop :=
  wX11_placesOf v1 σ τ (fun r16 σ16 τ16 => (r16 ≤ v3 → wX11_hurryNow_84 Q v2 σ16 τ16) ∧ (¬ r16 ≤ v3 → wX11_isLate v1 σ16 τ16 (fun r24 σ24 τ24 => (r24 = 0 → wX11_hurryNow_84 Q v2 σ24 τ24) ∧ (¬ r24 = 0 → wX11_speedAt v1 v3 σ24 τ24 (fun r34 σ34 τ34 => wX11_limitAt v1 v3 σ34 τ34 (fun r40 σ40 τ40 => (¬ r34 = r40 → wX11_hurryNow_51 K13 Q v1 v3 v2 1 σ40 τ40) ∧ (r34 = r40 → wX11_hurryNow_51 K13 Q v1 v3 v2 0 σ40 τ40)))))))
def wX11_hurryNow (a1 : Int32) (σ : x_S) (τ : x_L) (Q : Int32 → x_S → x_L → Prop) : Prop :=
  wX11_keep σ τ (fun σ1 τ1 => wX11_layTimes a1 σ1 τ1 (fun σ8 τ8 => x_l3 (wX11_hurryNow_13 Q) a1 0 0 σ8 τ8))
def wX11_hurry_35 (Q : Int32 → x_S → x_L → Prop) (s0 : Int32) (σ : x_S) (τ : x_L) : Prop :=
  Q s0 σ τ
def wX11_hurry_19 (Q : Int32 → x_S → x_L → Prop) (v1 : Int32) (s1 : Int32) (σ : x_S) (τ : x_L) : Prop :=
  wX11_throwsIf s1 1 σ τ (fun r20 σ20 τ20 => (r20 = 0 → wX11_hurryNow v1 σ20 τ20 (fun r32 σ32 τ32 => wX11_hurry_35 Q r32 σ32 τ32)) ∧ (¬ r20 = 0 → wX11_hurry_35 Q 0 σ20 τ20))
def wX11_hurry (a1 : Int32) (σ : x_S) (τ : x_L) (Q : Int32 → x_S → x_L → Prop) : Prop :=
  wX11_isTruck a1 (x_up σ 0 5 0) τ (fun r8 σ8 τ8 => (¬ r8 = 0 → wX11_hurry_19 Q a1 0 σ8 τ8) ∧ (r8 = 0 → wX11_hurry_19 Q a1 1 σ8 τ8))
def wX11_relaxNow_109 (K14 : Int32 → Int32 → Int32 → x_S → x_L → Prop) (Q : Int32 → x_S → x_L → Prop) (v1 : Int32) (v3 : Int32) (s0 : Int32) (s1 : Int32) (σ : x_S) (τ : x_L) : Prop :=
  K14 v1 (s0 + s1) (v3 + (-1)) σ τ
def wX11_relaxNow_91 (K14 : Int32 → Int32 → Int32 → x_S → x_L → Prop) (Q : Int32 → x_S → x_L → Prop) (v1 : Int32) (v2 : Int32) (v3 : Int32) (v4 : Int32) (v5 : Int32) (σ : x_S) (τ : x_L) : Prop :=
  vp_in v4 4788 ∧ ((v5 ≤ (σ 1 v4.toNatClampNeg) → wX11_relaxNow_109 K14 Q v1 v3 v2 0 σ τ) ∧ (¬ v5 ≤ (σ 1 v4.toNatClampNeg) → wX11_relaxNow_109 K14 Q v1 v3 v2 1 σ τ))
def wX11_relaxNow_52 (K14 : Int32 → Int32 → Int32 → x_S → x_L → Prop) (Q : Int32 → x_S → x_L → Prop) (K52 : Int32 → Int32 → Int32 → Int32 → Int32 → x_S → x_L → Prop) (v1 : Int32) (v2 : Int32) (v3 : Int32) (v4 : Int32) (v5 : Int32) (σ : x_S) (τ : x_L) : Prop :=
  vp_in v4 4788 ∧ ((v5 ≤ (σ 1 v4.toNatClampNeg) → wX11_relaxNow_91 K14 Q v1 v2 v3 v4 v5 σ τ) ∧ (¬ v5 ≤ (σ 1 v4.toNatClampNeg) → wX11_isLate v1 σ τ (fun r66 σ66 τ66 => (r66 = 0 → wX11_relaxNow_91 K14 Q v1 v2 v3 v4 v5 σ66 τ66) ∧ (¬ r66 = 0 → wX11_layTimes v1 (x_up σ66 1 v4.toNatClampNeg ((σ66 1 v4.toNatClampNeg) + 1)) τ66 (fun σ85 τ85 => K52 v1 v2 v3 v4 v5 σ85 τ85)))))
def wX11_relaxNow_14 (Q : Int32 → x_S → x_L → Prop) (K14 : Int32 → Int32 → Int32 → x_S → x_L → Prop) (v1 : Int32) (v2 : Int32) (v3 : Int32) (σ : x_S) (τ : x_L) : Prop :=
  (v3 < 0 → Q v2 σ τ) ∧ (¬ v3 < 0 → wX11_spot v1 v3 σ τ (fun r23 σ23 τ23 => vp_in (132 + r23) 4788 ∧ (wX11_layTimes v1 (x_up σ23 1 ((132 + r23).toNatClampNeg) 40) τ23 (fun σ49 τ49 => x_l5 (wX11_relaxNow_52 K14 Q) v1 v2 v3 (132 + r23) (σ23 1 (132 + r23).toNatClampNeg) σ49 τ49))))
def wX11_relaxNow (a1 : Int32) (σ : x_S) (τ : x_L) (Q : Int32 → x_S → x_L → Prop) : Prop :=
  wX11_keep σ τ (fun σ1 τ1 => wX11_placesOf a1 σ1 τ1 (fun r8 σ8 τ8 => x_l3 (wX11_relaxNow_14 Q) a1 0 (r8 - 1) σ8 τ8))
def wX11_relax_35 (Q : Int32 → x_S → x_L → Prop) (s0 : Int32) (σ : x_S) (τ : x_L) : Prop :=
  Q s0 σ τ
def wX11_relax_19 (Q : Int32 → x_S → x_L → Prop) (v1 : Int32) (s1 : Int32) (σ : x_S) (τ : x_L) : Prop :=
  wX11_throwsIf s1 1 σ τ (fun r20 σ20 τ20 => (r20 = 0 → wX11_relaxNow v1 σ20 τ20 (fun r32 σ32 τ32 => wX11_relax_35 Q r32 σ32 τ32)) ∧ (¬ r20 = 0 → wX11_relax_35 Q 0 σ20 τ20))
def wX11_relax (a1 : Int32) (σ : x_S) (τ : x_L) (Q : Int32 → x_S → x_L → Prop) : Prop :=
  wX11_isTruck a1 (x_up σ 0 5 0) τ (fun r8 σ8 τ8 => (¬ r8 = 0 → wX11_relax_19 Q a1 0 σ8 τ8) ∧ (r8 = 0 → wX11_relax_19 Q a1 1 σ8 τ8))
def wX11_onRoad_115 (K37 : Int32 → Int32 → Int32 → Int32 → x_S → x_L → Prop) (K51 : Int32 → Int32 → Int32 → Int32 → Int32 → x_S → x_L → Prop) (Q : Int32 → x_S → x_L → Prop) (v1 : Int32) (v2 : Int32) (v4 : Int32) (v5 : Int32) (s0 : Int32) (s1 : Int32) (σ : x_S) (τ : x_L) : Prop :=
  K51 v1 v2 (s0 ||| s1) v4 (v5 + 1) σ τ
def wX11_onRoad_114 (K37 : Int32 → Int32 → Int32 → Int32 → x_S → x_L → Prop) (K51 : Int32 → Int32 → Int32 → Int32 → Int32 → x_S → x_L → Prop) (Q : Int32 → x_S → x_L → Prop) (v1 : Int32) (v2 : Int32) (v4 : Int32) (v5 : Int32) (s0 : Int32) (σ : x_S) (τ : x_L) : Prop :=
  wX11_onRoad_115 K37 K51 Q v1 v2 v4 v5 s0 0 σ τ
def wX11_onRoad_51 (K37 : Int32 → Int32 → Int32 → Int32 → x_S → x_L → Prop) (Q : Int32 → x_S → x_L → Prop) (K51 : Int32 → Int32 → Int32 → Int32 → Int32 → x_S → x_L → Prop) (v1 : Int32) (v2 : Int32) (v3 : Int32) (v4 : Int32) (v5 : Int32) (σ : x_S) (τ : x_L) : Prop :=
  wX11_placesOf v4 σ τ (fun r56 σ56 τ56 => (r56 ≤ v5 → K37 v1 v2 v3 (v4 + 1) σ56 τ56) ∧ (¬ r56 ≤ v5 → wX11_roadAt v4 v5 σ56 τ56 (fun r68 σ68 τ68 => (¬ r68 = v1 → wX11_onRoad_114 K37 K51 Q v1 v2 v4 v5 v3 σ68 τ68) ∧ (r68 = v1 → wX11_spot v4 v5 σ68 τ68 (fun r83 σ83 τ83 => vp_in r83 120 ∧ ((v2 < (σ83 4 r83.toNatClampNeg) → wX11_onRoad_114 K37 K51 Q v1 v2 v4 v5 v3 σ83 τ83) ∧ (¬ v2 < (σ83 4 r83.toNatClampNeg) → wX11_spot v4 v5 σ83 τ83 (fun r99 σ99 τ99 => vp_in r99 120 ∧ (((σ99 5 r99.toNatClampNeg) ≤ v2 → wX11_onRoad_114 K37 K51 Q v1 v2 v4 v5 v3 σ99 τ99) ∧ (¬ (σ99 5 r99.toNatClampNeg) ≤ v2 → wX11_onRoad_115 K37 K51 Q v1 v2 v4 v5 v3 (1 <<< (v4 &&& 31)) σ99 τ99))))))))))
def wX11_onRoad_37 (Q : Int32 → x_S → x_L → Prop) (K37 : Int32 → Int32 → Int32 → Int32 → x_S → x_L → Prop) (v1 : Int32) (v2 : Int32) (v3 : Int32) (v4 : Int32) (σ : x_S) (τ : x_L) : Prop :=
  ((σ 3 (1 : Int32).toNatClampNeg) ≤ v4 → Q v3 σ τ) ∧ (¬ (σ 3 (1 : Int32).toNatClampNeg) ≤ v4 → x_l5 (wX11_onRoad_51 K37 Q) v1 v2 v3 v4 0 σ τ)
def wX11_onRoad_19 (Q : Int32 → x_S → x_L → Prop) (v1 : Int32) (v2 : Int32) (s1 : Int32) (σ : x_S) (τ : x_L) : Prop :=
  wX11_throwsIf s1 1 σ τ (fun r20 σ20 τ20 => (r20 = 0 → wX11_lay σ20 τ20 (fun σ29 τ29 => x_l4 (wX11_onRoad_37 Q) v1 v2 0 0 σ29 τ29)) ∧ (¬ r20 = 0 → Q 0 σ20 τ20))
def wX11_onRoad (a1 : Int32) (a2 : Int32) (σ : x_S) (τ : x_L) (Q : Int32 → x_S → x_L → Prop) : Prop :=
  wX11_isRoad a1 (x_up σ 0 5 0) τ (fun r8 σ8 τ8 => (¬ r8 = 0 → wX11_onRoad_19 Q a1 a2 0 σ8 τ8) ∧ (r8 = 0 → wX11_onRoad_19 Q a1 a2 1 σ8 τ8))
def wX11_alone_59 (K13 : Int32 → Int32 → x_S → x_L → Prop) (K28 : Int32 → Int32 → Int32 → Int32 → x_S → x_L → Prop) (Q : Int32 → x_S → x_L → Prop) (v1 : Int32) (v2 : Int32) (v4 : Int32) (s0 : Int32) (s1 : Int32) (σ : x_S) (τ : x_L) : Prop :=
  K28 v1 v2 (s0 &&& s1) (v4 + 1) σ τ
def wX11_alone_79 (K13 : Int32 → Int32 → x_S → x_L → Prop) (Q : Int32 → x_S → x_L → Prop) (v2 : Int32) (s0 : Int32) (s1 : Int32) (σ : x_S) (τ : x_L) : Prop :=
  K13 (s0 ||| s1) (v2 + 1) σ τ
def wX11_alone_28 (K13 : Int32 → Int32 → x_S → x_L → Prop) (Q : Int32 → x_S → x_L → Prop) (K28 : Int32 → Int32 → Int32 → Int32 → x_S → x_L → Prop) (v1 : Int32) (v2 : Int32) (v3 : Int32) (v4 : Int32) (σ : x_S) (τ : x_L) : Prop :=
  wX11_placesOf v2 σ τ (fun r32 σ32 τ32 => (r32 ≤ v4 → (v3 = 0 → wX11_alone_79 K13 Q v2 v1 0 σ32 τ32) ∧ (¬ v3 = 0 → wX11_alone_79 K13 Q v2 v1 (1 <<< (v2 &&& 31)) σ32 τ32)) ∧ (¬ r32 ≤ v4 → wX11_spot v2 v4 σ32 τ32 (fun r46 σ46 τ46 => vp_in r46 120 ∧ ((¬ (σ46 7 r46.toNatClampNeg) = 1 → wX11_alone_59 K13 K28 Q v1 v2 v4 v3 0 σ46 τ46) ∧ ((σ46 7 r46.toNatClampNeg) = 1 → wX11_alone_59 K13 K28 Q v1 v2 v4 v3 1 σ46 τ46)))))
def wX11_alone_13 (Q : Int32 → x_S → x_L → Prop) (K13 : Int32 → Int32 → x_S → x_L → Prop) (v1 : Int32) (v2 : Int32) (σ : x_S) (τ : x_L) : Prop :=
  ((σ 3 (1 : Int32).toNatClampNeg) ≤ v2 → Q v1 σ τ) ∧ (¬ (σ 3 (1 : Int32).toNatClampNeg) ≤ v2 → x_l4 (wX11_alone_28 K13 Q) v1 v2 1 0 σ τ)
def wX11_alone (σ : x_S) (τ : x_L) (Q : Int32 → x_S → x_L → Prop) : Prop :=
  wX11_lay (x_up σ 0 5 0) τ (fun σ6 τ6 => x_l2 (wX11_alone_13 Q) 0 0 σ6 τ6)
def wX11_lateOnes (σ : x_S) (τ : x_L) (Q : Int32 → x_S → x_L → Prop) : Prop :=
  wX11_lay (x_up σ 0 5 0) τ (fun σ6 τ6 => wX11_lateSet σ6 τ6 (fun r10 σ10 τ10 => Q r10 σ10 τ10))
def wX11_savedOn_54 (K4 : Int32 → Int32 → Int32 → x_S → x_L → Prop) (K17 : Int32 → Int32 → Int32 → Int32 → x_S → x_L → Prop) (Q : Int32 → x_S → x_L → Prop) (v1 : Int32) (v3 : Int32) (v4 : Int32) (s0 : Int32) (s1 : Int32) (σ : x_S) (τ : x_L) : Prop :=
  K17 v1 (s0 + s1) v3 (v4 + 1) σ τ
def wX11_savedOn_17 (K4 : Int32 → Int32 → Int32 → x_S → x_L → Prop) (Q : Int32 → x_S → x_L → Prop) (K17 : Int32 → Int32 → Int32 → Int32 → x_S → x_L → Prop) (v1 : Int32) (v2 : Int32) (v3 : Int32) (v4 : Int32) (σ : x_S) (τ : x_L) : Prop :=
  wX11_placesOf v3 σ τ (fun r21 σ21 τ21 => (r21 ≤ v4 → K4 v1 v2 (v3 + 1) σ21 τ21) ∧ (¬ r21 ≤ v4 → wX11_roadAt v3 v4 σ21 τ21 (fun r32 σ32 τ32 => (¬ r32 = v1 → wX11_savedOn_54 K4 K17 Q v1 v3 v4 v2 0 σ32 τ32) ∧ (r32 = v1 → wX11_spot v3 v4 σ32 τ32 (fun r46 σ46 τ46 => vp_in r46 120 ∧ (wX11_savedOn_54 K4 K17 Q v1 v3 v4 v2 (σ46 11 r46.toNatClampNeg) σ46 τ46))))))
def wX11_savedOn_4 (Q : Int32 → x_S → x_L → Prop) (K4 : Int32 → Int32 → Int32 → x_S → x_L → Prop) (v1 : Int32) (v2 : Int32) (v3 : Int32) (σ : x_S) (τ : x_L) : Prop :=
  ((σ 3 (1 : Int32).toNatClampNeg) ≤ v3 → Q v2 σ τ) ∧ (¬ (σ 3 (1 : Int32).toNatClampNeg) ≤ v3 → x_l4 (wX11_savedOn_17 K4 Q) v1 v2 v3 0 σ τ)
def wX11_savedOn (a1 : Int32) (σ : x_S) (τ : x_L) (Q : Int32 → x_S → x_L → Prop) : Prop :=
  x_l3 (wX11_savedOn_4 Q) a1 0 0 σ τ
def wX11_bestRoad_45 (K15 : Int32 → Int32 → Int32 → x_S → x_L → Prop) (Q : Int32 → x_S → x_L → Prop) (v1 : Int32) (v2 : Int32) (v3 : Int32) (σ : x_S) (τ : x_L) : Prop :=
  K15 v1 v2 (v3 + 1) σ τ
def wX11_bestRoad_15 (Q : Int32 → x_S → x_L → Prop) (K15 : Int32 → Int32 → Int32 → x_S → x_L → Prop) (v1 : Int32) (v2 : Int32) (v3 : Int32) (σ : x_S) (τ : x_L) : Prop :=
  ((σ 3 (0 : Int32).toNatClampNeg) ≤ v3 → Q v1 σ τ) ∧ (¬ (σ 3 (0 : Int32).toNatClampNeg) ≤ v3 → wX11_savedOn v3 σ τ (fun r27 σ27 τ27 => (v2 < r27 → wX11_savedOn v3 σ27 τ27 (fun r41 σ41 τ41 => wX11_bestRoad_45 K15 Q v3 r41 v3 σ41 τ41)) ∧ (¬ v2 < r27 → wX11_bestRoad_45 K15 Q v1 v2 v3 σ27 τ27)))
def wX11_bestRoad (σ : x_S) (τ : x_L) (Q : Int32 → x_S → x_L → Prop) : Prop :=
  wX11_lay (x_up σ 0 5 0) τ (fun σ6 τ6 => x_l3 (wX11_bestRoad_15 Q) (-1) 0 0 σ6 τ6)
def wX11_worth_31 (K4 : Int32 → Int32 → Int32 → x_S → x_L → Prop) (Q : Int32 → x_S → x_L → Prop) (v1 : Int32) (v3 : Int32) (s0 : Int32) (s1 : Int32) (s2 : Int32) (σ : x_S) (τ : x_L) : Prop :=
  K4 v1 (s0 + (s1 - s2)) (v3 + 1) σ τ
def wX11_worth_4 (Q : Int32 → x_S → x_L → Prop) (K4 : Int32 → Int32 → Int32 → x_S → x_L → Prop) (v1 : Int32) (v2 : Int32) (v3 : Int32) (σ : x_S) (τ : x_L) : Prop :=
  (v1 ≤ v3 → Q v2 σ τ) ∧ (¬ v1 ≤ v3 → wX11_savingOf v3 v1 σ τ (fun r13 σ13 τ13 => wX11_isClosing v3 σ13 τ13 (fun r18 σ18 τ18 => (r18 = 0 → wX11_worth_31 K4 Q v1 v3 v2 r13 0 σ18 τ18) ∧ (¬ r18 = 0 → wX11_worth_31 K4 Q v1 v3 v2 r13 300 σ18 τ18))))
def wX11_worth (a1 : Int32) (σ : x_S) (τ : x_L) (Q : Int32 → x_S → x_L → Prop) : Prop :=
  x_l3 (wX11_worth_4 Q) a1 0 0 σ τ
def wX11_swapTurns (a1 : Int32) (a2 : Int32) (σ : x_S) (τ : x_L) (Q : x_S → x_L → Prop) : Prop :=
  vp_in a1 12 ∧ (vp_in a2 12 ∧ (Q (x_up (x_up σ 17 a1.toNatClampNeg (σ 17 a2.toNatClampNeg)) 17 a2.toNatClampNeg (σ 17 a1.toNatClampNeg)) τ))
def wX11_nextTurn_71 (Q : Int32 → x_S → x_L → Prop) (K71 : Int32 → Int32 → Int32 → x_S → x_L → Prop) (v1 : Int32) (v2 : Int32) (v4 : Int32) (σ : x_S) (τ : x_L) : Prop :=
  ((v1 - v4) ≤ (v2 + v4) → Q 1 σ τ) ∧ (¬ (v1 - v4) ≤ (v2 + v4) → wX11_swapTurns (v2 + v4) (v1 - v4) σ τ (fun σ91 τ91 => K71 v1 v2 (v4 + 1) σ91 τ91))
def wX11_nextTurn_41 (Q : Int32 → x_S → x_L → Prop) (K41 : Int32 → Int32 → Int32 → x_S → x_L → Prop) (v1 : Int32) (v2 : Int32) (v3 : Int32) (σ : x_S) (τ : x_L) : Prop :=
  vp_in v3 12 ∧ (vp_in v2 12 ∧ (((σ 17 v2.toNatClampNeg) ≤ (σ 17 v3.toNatClampNeg) → wX11_swapTurns v2 v3 σ τ (fun σ65 τ65 => x_l3 (wX11_nextTurn_71 Q) v1 v2 1 σ65 τ65)) ∧ (¬ (σ 17 v2.toNatClampNeg) ≤ (σ 17 v3.toNatClampNeg) → K41 v1 v2 (v3 + (-1)) σ τ)))
def wX11_nextTurn_31 (Q : Int32 → x_S → x_L → Prop) (v1 : Int32) (v2 : Int32) (σ : x_S) (τ : x_L) : Prop :=
  (0 ≤ v2 → x_l3 (wX11_nextTurn_41 Q) v1 v2 (v1 - 1) σ τ) ∧ (¬ 0 ≤ v2 → Q 0 σ τ)
def wX11_nextTurn_4 (Q : Int32 → x_S → x_L → Prop) (K4 : Int32 → Int32 → x_S → x_L → Prop) (v1 : Int32) (v2 : Int32) (σ : x_S) (τ : x_L) : Prop :=
  (v2 < 0 → wX11_nextTurn_31 Q v1 v2 σ τ) ∧ (¬ v2 < 0 → vp_in v2 12 ∧ (vp_in (v2 + 1) 12 ∧ (((σ 17 v2.toNatClampNeg) ≤ (σ 17 (v2 + 1).toNatClampNeg) → wX11_nextTurn_31 Q v1 v2 σ τ) ∧ (¬ (σ 17 v2.toNatClampNeg) ≤ (σ 17 (v2 + 1).toNatClampNeg) → K4 v1 (v2 + (-1)) σ τ))))
def wX11_nextTurn (a1 : Int32) (σ : x_S) (τ : x_L) (Q : Int32 → x_S → x_L → Prop) : Prop :=
  x_l2 (wX11_nextTurn_4 Q) a1 (a1 - 2) σ τ
def wX11_layTurns_2 (Q : x_S → x_L → Prop) (K2 : Int32 → Int32 → x_S → x_L → Prop) (v1 : Int32) (v2 : Int32) (σ : x_S) (τ : x_L) : Prop :=
  (v1 ≤ v2 → Q σ τ) ∧ (¬ v1 ≤ v2 → vp_in v2 12 ∧ (vp_in (σ 17 v2.toNatClampNeg) 12 ∧ (vp_in ((x_up σ 13 v2.toNatClampNeg (σ 15 (σ 17 v2.toNatClampNeg).toNatClampNeg)) 17 v2.toNatClampNeg) 12 ∧ (K2 v1 (v2 + 1) (x_up (x_up σ 13 v2.toNatClampNeg (σ 15 (σ 17 v2.toNatClampNeg).toNatClampNeg)) 14 v2.toNatClampNeg ((x_up σ 13 v2.toNatClampNeg (σ 15 (σ 17 v2.toNatClampNeg).toNatClampNeg)) 16 ((x_up σ 13 v2.toNatClampNeg (σ 15 (σ 17 v2.toNatClampNeg).toNatClampNeg)) 17 v2.toNatClampNeg).toNatClampNeg)) τ))))
def wX11_layTurns (a1 : Int32) (σ : x_S) (τ : x_L) (Q : x_S → x_L → Prop) : Prop :=
  x_l2 (wX11_layTurns_2 Q) a1 0 σ τ
def wX11_meetTurn_32 (Q : x_S → x_L → Prop) (K32 : Int32 → Int32 → x_S → x_L → Prop) (v1 : Int32) (v4 : Int32) (σ : x_S) (τ : x_L) : Prop :=
  (v1 ≤ v4 → Q σ τ) ∧ (¬ v1 ≤ v4 → vp_in v4 12 ∧ (K32 v1 (v4 + 1) (x_up σ 18 v4.toNatClampNeg (σ 13 v4.toNatClampNeg)) τ))
def wX11_meetTurn_24 (Q : x_S → x_L → Prop) (v1 : Int32) (v3 : Int32) (σ : x_S) (τ : x_L) : Prop :=
  x_l2 (wX11_meetTurn_32 Q) v1 0 (x_up σ 0 26 v3) τ
def wX11_meetTurn (a1 : Int32) (a2 : Int32) (σ : x_S) (τ : x_L) (Q : x_S → x_L → Prop) : Prop :=
  wX11_layTurns a1 σ τ (fun σ2 τ2 => wX11_worth a1 σ2 τ2 (fun r7 σ7 τ7 => (¬ a2 = 0 → wX11_meetTurn_24 Q a1 r7 σ7 τ7) ∧ (a2 = 0 → ((σ7 0 26) < r7 → wX11_meetTurn_24 Q a1 r7 σ7 τ7) ∧ (¬ (σ7 0 26) < r7 → Q σ7 τ7))))
def wX11_layBest_86 (K24 : Int32 → Int32 → Int32 → Int32 → x_S → x_L → Prop) (Q : Int32 → x_S → x_L → Prop) (v1 : Int32) (v2 : Int32) (v3 : Int32) (v4 : Int32) (σ : x_S) (τ : x_L) : Prop :=
  K24 v1 v2 v3 (v4 + 1) σ τ
def wX11_layBest_98 (Q : Int32 → x_S → x_L → Prop) (K98 : Int32 → Int32 → x_S → x_L → Prop) (v1 : Int32) (v2 : Int32) (σ : x_S) (τ : x_L) : Prop :=
  wX11_nextTurn v1 σ τ (fun r100 σ100 τ100 => (r100 = 0 → Q v2 σ100 τ100) ∧ (¬ r100 = 0 → wX11_meetTurn v1 0 σ100 τ100 (fun σ109 τ109 => K98 v1 v2 σ109 τ109)))
def wX11_layBest_24 (Q : Int32 → x_S → x_L → Prop) (K24 : Int32 → Int32 → Int32 → Int32 → x_S → x_L → Prop) (v1 : Int32) (v2 : Int32) (v3 : Int32) (v4 : Int32) (σ : x_S) (τ : x_L) : Prop :=
  ((σ 3 (1 : Int32).toNatClampNeg) ≤ v4 → wX11_meetTurn v1 1 σ τ (fun σ95 τ95 => x_l2 (wX11_layBest_98 Q) v1 v2 σ95 τ95)) ∧ (¬ (σ 3 (1 : Int32).toNatClampNeg) ≤ v4 → wX11_mateOf (σ 0 17) (σ 0 18) v4 σ τ (fun r46 σ46 τ46 => (¬ r46 = (-1) → vp_in v3 12 ∧ (wX11_layBest_86 K24 Q v1 v2 (v3 + 1) v4 (x_up (x_up (x_up σ46 15 v3.toNatClampNeg v4) 16 v3.toNatClampNeg r46) 17 v3.toNatClampNeg v3) τ46)) ∧ (r46 = (-1) → wX11_layBest_86 K24 Q v1 v2 v3 v4 σ46 τ46)))
def wX11_layBest (σ : x_S) (τ : x_L) (Q : Int32 → x_S → x_L → Prop) : Prop :=
  wX11_layOrder (σ 0 17) (σ 0 18) σ τ (fun r9 σ9 τ9 => wX11_worth r9 σ9 τ9 (fun r15 σ15 τ15 => x_l4 (wX11_layBest_24 Q) r9 r15 0 0 σ15 τ15))
def wX11_isLong_26 (Q : Int32 → x_S → x_L → Prop) (s0 : Int32) (σ : x_S) (τ : x_L) : Prop :=
  (s0 = 0 ∨ s0 = 1) ∧ Q s0 σ τ
def wX11_isLong (σ : x_S) (τ : x_L) (Q : Int32 → x_S → x_L → Prop) : Prop :=
  wX11_spot (σ 0 17) (σ 0 18) σ τ (fun r12 σ12 τ12 => vp_in r12 120 ∧ (((σ12 7 r12.toNatClampNeg) ≤ 6 → wX11_isLong_26 Q 0 σ12 τ12) ∧ (¬ (σ12 7 r12.toNatClampNeg) ≤ 6 → wX11_isLong_26 Q 1 σ12 τ12)))
def wX11_orderLoss_26 (Q : Int32 → x_S → x_L → Prop) (σ : x_S) (τ : x_L) : Prop :=
  Q 0 σ τ
def wX11_orderLoss (a1 : Int32) (a2 : Int32) (σ : x_S) (τ : x_L) (Q : Int32 → x_S → x_L → Prop) : Prop :=
  wX11_noPlatoon a1 a2 (x_up σ 0 5 0) τ (fun r8 σ8 τ8 => (¬ r8 = 0 → wX11_orderLoss_26 Q σ8 τ8) ∧ (r8 = 0 → wX11_isLong σ8 τ8 (fun r16 σ16 τ16 => wX11_throwsIf r16 2 σ16 τ16 (fun r20 σ20 τ20 => (r20 = 0 → wX11_layBest σ20 τ20 (fun r29 σ29 τ29 => Q ((σ29 0 26) - r29) σ29 τ29)) ∧ (¬ r20 = 0 → wX11_orderLoss_26 Q σ20 τ20)))))
def wX11_bestMember_43 (Q : Int32 → x_S → x_L → Prop) (σ : x_S) (τ : x_L) : Prop :=
  Q 0 σ τ
def wX11_bestMember_81 (Q : Int32 → x_S → x_L → Prop) (s0 : Int32) (σ : x_S) (τ : x_L) : Prop :=
  Q s0 σ τ
def wX11_bestMember_24 (Q : Int32 → x_S → x_L → Prop) (v3 : Int32) (s1 : Int32) (σ : x_S) (τ : x_L) : Prop :=
  wX11_throwsIf s1 1 σ τ (fun r25 σ25 τ25 => (¬ r25 = 0 → wX11_bestMember_43 Q σ25 τ25) ∧ (r25 = 0 → wX11_isLong σ25 τ25 (fun r33 σ33 τ33 => wX11_throwsIf r33 2 σ33 τ33 (fun r37 σ37 τ37 => (r37 = 0 → wX11_layBest σ37 τ37 (fun r46 σ46 τ46 => wX11_spot (σ46 0 17) (σ46 0 18) σ46 τ46 (fun r64 σ64 τ64 => vp_in r64 120 ∧ (((σ64 7 r64.toNatClampNeg) ≤ v3 → wX11_bestMember_81 Q (-1) σ64 τ64) ∧ (¬ (σ64 7 r64.toNatClampNeg) ≤ v3 → vp_in v3 12 ∧ (wX11_bestMember_81 Q (σ64 18 v3.toNatClampNeg) σ64 τ64)))))) ∧ (¬ r37 = 0 → wX11_bestMember_43 Q σ37 τ37)))))
def wX11_bestMember (a1 : Int32) (a2 : Int32) (a3 : Int32) (σ : x_S) (τ : x_L) (Q : Int32 → x_S → x_L → Prop) : Prop :=
  wX11_noPlatoon a1 a2 (x_up σ 0 5 0) τ (fun r8 σ8 τ8 => (¬ r8 = 0 → wX11_bestMember_43 Q σ8 τ8) ∧ (r8 = 0 → (0 ≤ a3 → wX11_bestMember_24 Q a3 0 σ8 τ8) ∧ (¬ 0 ≤ a3 → wX11_bestMember_24 Q a3 1 σ8 τ8)))
def wX11_rate_19 (Q : UInt32 → x_S → x_L → Prop) (v1 : Int32) (s1 : Int32) (σ : x_S) (τ : x_L) : Prop :=
  wX11_throwsIf s1 1 σ τ (fun r20 σ20 τ20 => (r20 = 0 → wX11_lay σ20 τ20 (fun σ29 τ29 => wX11_sumOf v1 0 σ29 τ29 (fun r35 σ35 τ35 => wX11_sumOf v1 4 σ35 τ35 (fun r42 σ42 τ42 => vf_n32 (FP.fdiv (FP.i2f r35) (FP.i2f r42)) ∧ (Q (FP.fdiv (FP.i2f r35) (FP.i2f r42)) σ42 τ42))))) ∧ (¬ r20 = 0 → Q FP.fconst0 σ20 τ20))
def wX11_rate (a1 : Int32) (σ : x_S) (τ : x_L) (Q : UInt32 → x_S → x_L → Prop) : Prop :=
  wX11_isTruck a1 (x_up σ 0 5 0) τ (fun r8 σ8 τ8 => (¬ r8 = 0 → wX11_rate_19 Q a1 0 σ8 τ8) ∧ (r8 = 0 → wX11_rate_19 Q a1 1 σ8 τ8))
def wJxf58ca_isNaN_12338_11 (Q : Int32 → x_S → x_L → Prop) (s0 : Int32) (σ : x_S) (τ : x_L) : Prop :=
  (s0 = 0 ∨ s0 = 1) ∧ Q s0 σ τ
def wJxf58ca_isNaN_12338 (a0 : UInt32) (σ : x_S) (τ : x_L) (Q : Int32 → x_S → x_L → Prop) : Prop :=
  ((Op.cmpValue (FP.fcmp a0 a0) .l) = 0 → wJxf58ca_isNaN_12338_11 Q 0 σ τ) ∧ (¬ (Op.cmpValue (FP.fcmp a0 a0) .l) = 0 → wJxf58ca_isNaN_12338_11 Q 1 σ τ)
def wJxf58ca_floatToIntBits_5c35a (a0 : UInt32) (σ : x_S) (τ : x_L) (Q : Int32 → x_S → x_L → Prop) : Prop :=
  wJxf58ca_isNaN_12338 a0 σ τ (fun r1 σ1 τ1 => (¬ r1 = 0 → Q 2143289344 σ1 τ1) ∧ (r1 = 0 → Q a0.toInt32 σ1 τ1))
def wX11_shareBits_20 (Q : Int32 → x_S → x_L → Prop) (s1 : Int32) (σ : x_S) (τ : x_L) : Prop :=
  wX11_throwsIf s1 1 σ τ (fun r21 σ21 τ21 => (r21 = 0 → wX11_lay σ21 τ21 (fun σ30 τ30 => wX11_sumOfAll 1 σ30 τ30 (fun r35 σ35 τ35 => wX11_sumOfAll 3 σ35 τ35 (fun r41 σ41 τ41 => vf_n32 (FP.fdiv (FP.i2f r35) (FP.i2f r41)) ∧ (wJxf58ca_floatToIntBits_5c35a (FP.fdiv (FP.i2f r35) (FP.i2f r41)) σ41 τ41 (fun r46 σ46 τ46 => Q r46 σ46 τ46)))))) ∧ (¬ r21 = 0 → Q 0 σ21 τ21))
def wX11_shareBits (σ : x_S) (τ : x_L) (Q : Int32 → x_S → x_L → Prop) : Prop :=
  (¬ ((x_up σ 0 5 0) 3 (1 : Int32).toNatClampNeg) = 0 → wX11_shareBits_20 Q 0 (x_up σ 0 5 0) τ) ∧ (((x_up σ 0 5 0) 3 (1 : Int32).toNatClampNeg) = 0 → wX11_shareBits_20 Q 1 (x_up σ 0 5 0) τ)
def wX11_quickest_69 (K46 : Int32 → Int32 → Int32 → x_S → x_L → Prop) (Q : Int32 → x_S → x_L → Prop) (v1 : Int32) (v2 : Int32) (v3 : Int32) (s1 : Int32) (s2 : Int32) (σ : x_S) (τ : x_L) : Prop :=
  vp_in s1 20 ∧ (K46 v1 v2 (v3 + 1) (x_up σ 19 s1.toNatClampNeg s2) τ)
def wX11_quickest_162 (K78 : Int32 → Int32 → x_S → x_L → Prop) (K87 : Int32 → Int32 → Int32 → x_S → x_L → Prop) (Q : Int32 → x_S → x_L → Prop) (v2 : Int32) (v3 : Int32) (v4 : Int32) (σ : x_S) (τ : x_L) : Prop :=
  K87 v2 v3 (v4 + 1) σ τ
def wX11_quickest_87 (K78 : Int32 → Int32 → x_S → x_L → Prop) (Q : Int32 → x_S → x_L → Prop) (K87 : Int32 → Int32 → Int32 → x_S → x_L → Prop) (v2 : Int32) (v3 : Int32) (v4 : Int32) (σ : x_S) (τ : x_L) : Prop :=
  ((σ 3 (0 : Int32).toNatClampNeg) ≤ v4 → K78 v2 v3 σ τ) ∧ (¬ (σ 3 (0 : Int32).toNatClampNeg) ≤ v4 → wX11_ofRoad v4 0 σ τ (fun r106 σ106 τ106 => vp_in r106 20 ∧ (wX11_ofRoad v4 3 σ106 τ106 (fun r117 σ117 τ117 => wX11_minutes v4 r117 σ117 τ117 (fun r120 σ120 τ120 => wX11_ofRoad v4 1 σ120 τ120 (fun r136 σ136 τ136 => vp_in r136 20 ∧ ((((σ106 19 r106.toNatClampNeg) + r120) < (σ136 19 r136.toNatClampNeg) → wX11_ofRoad v4 1 σ136 τ136 (fun r154 σ154 τ154 => vp_in r154 20 ∧ (wX11_quickest_162 K78 K87 Q v2 1 v4 (x_up σ154 19 r154.toNatClampNeg ((σ106 19 r106.toNatClampNeg) + r120)) τ154))) ∧ (¬ ((σ106 19 r106.toNatClampNeg) + r120) < (σ136 19 r136.toNatClampNeg) → wX11_quickest_162 K78 K87 Q v2 v3 v4 σ136 τ136))))))))
def wX11_quickest_193 (Q : Int32 → x_S → x_L → Prop) (s0 : Int32) (σ : x_S) (τ : x_L) : Prop :=
  Q s0 σ τ
def wX11_quickest_78 (Q : Int32 → x_S → x_L → Prop) (K78 : Int32 → Int32 → x_S → x_L → Prop) (v2 : Int32) (v3 : Int32) (σ : x_S) (τ : x_L) : Prop :=
  (v3 = 0 → vp_in v2 20 ∧ ((1000000 ≤ (σ 19 v2.toNatClampNeg) → wX11_quickest_193 Q (-1) σ τ) ∧ (¬ 1000000 ≤ (σ 19 v2.toNatClampNeg) → wX11_quickest_193 Q (σ 19 v2.toNatClampNeg) σ τ))) ∧ (¬ v3 = 0 → x_l3 (wX11_quickest_87 K78 Q) v2 0 0 σ τ)
def wX11_quickest_46 (Q : Int32 → x_S → x_L → Prop) (K46 : Int32 → Int32 → Int32 → x_S → x_L → Prop) (v1 : Int32) (v2 : Int32) (v3 : Int32) (σ : x_S) (τ : x_L) : Prop :=
  (20 ≤ v3 → x_l2 (wX11_quickest_78 Q) v2 1 σ τ) ∧ (¬ 20 ≤ v3 → (¬ v3 = v1 → wX11_quickest_69 K46 Q v1 v2 v3 v3 1000000 σ τ) ∧ (v3 = v1 → wX11_quickest_69 K46 Q v1 v2 v3 v3 0 σ τ))
def wX11_quickest_35 (Q : Int32 → x_S → x_L → Prop) (v1 : Int32) (v2 : Int32) (s1 : Int32) (σ : x_S) (τ : x_L) : Prop :=
  wX11_throwsIf s1 1 σ τ (fun r36 σ36 τ36 => (r36 = 0 → x_l3 (wX11_quickest_46 Q) v1 v2 0 σ36 τ36) ∧ (¬ r36 = 0 → Q 0 σ36 τ36))
def wX11_quickest_30 (Q : Int32 → x_S → x_L → Prop) (v1 : Int32) (v2 : Int32) (σ : x_S) (τ : x_L) : Prop :=
  wX11_quickest_35 Q v1 v2 1 σ τ
def wX11_quickest (a1 : Int32) (a2 : Int32) (σ : x_S) (τ : x_L) (Q : Int32 → x_S → x_L → Prop) : Prop :=
  wX11_inRange ((a1 : Int32).toInt64) 0 19 (x_up σ 0 5 0) τ (fun r12 σ12 τ12 => (r12 = 0 → wX11_quickest_30 Q a1 a2 σ12 τ12) ∧ (¬ r12 = 0 → wX11_inRange ((a2 : Int32).toInt64) 0 19 σ12 τ12 (fun r24 σ24 τ24 => (¬ r24 = 0 → wX11_quickest_35 Q a1 a2 0 σ24 τ24) ∧ (r24 = 0 → wX11_quickest_30 Q a1 a2 σ24 τ24))))
def wX11_digest_25 (K13 : Int32 → Int32 → x_S → x_L → Prop) (Q : Int32 → x_S → x_L → Prop) (K25 : Int32 → Int32 → Int32 → x_S → x_L → Prop) (v1 : Int32) (v2 : Int32) (v3 : Int32) (σ : x_S) (τ : x_L) : Prop :=
  wX11_placesOf v2 σ τ (fun r28 σ28 τ28 => (r28 ≤ v3 → K13 v1 (v2 + 1) σ28 τ28) ∧ (¬ r28 ≤ v3 → wX11_spot v2 v3 σ28 τ28 (fun r48 σ48 τ48 => vp_in r48 120 ∧ (wX11_speedAt v2 v3 σ48 τ48 (fun r57 σ57 τ57 => wX11_fuelAt v2 v3 σ57 τ57 (fun r65 σ65 τ65 => K25 ((31 * ((31 * ((31 * v1) + (σ48 4 r48.toNatClampNeg))) + r57)) + r65) v2 (v3 + 1) σ65 τ65))))))
def wX11_digest_13 (Q : Int32 → x_S → x_L → Prop) (K13 : Int32 → Int32 → x_S → x_L → Prop) (v1 : Int32) (v2 : Int32) (σ : x_S) (τ : x_L) : Prop :=
  ((σ 3 (1 : Int32).toNatClampNeg) ≤ v2 → Q v1 σ τ) ∧ (¬ (σ 3 (1 : Int32).toNatClampNeg) ≤ v2 → x_l3 (wX11_digest_25 K13 Q) v1 v2 0 σ τ)
def wX11_digest (σ : x_S) (τ : x_L) (Q : Int32 → x_S → x_L → Prop) : Prop :=
  wX11_lay (x_up σ 0 5 0) τ (fun σ6 τ6 => x_l2 (wX11_digest_13 Q) 1 0 σ6 τ6)
def wX11_put (a1 : Int32) (σ : x_S) (τ : x_L) (Q : x_S → x_L → Prop) : Prop :=
  vp_in (σ 0 29) 300 ∧ (Q (x_up (x_up σ 20 ((σ 0 29).toNatClampNeg) a1) 0 29 (((x_up σ 20 ((σ 0 29).toNatClampNeg) a1) 0 29) + 1)) τ)
def wX11_putNumber_18 (Q : x_S → x_L → Prop) (K18 : Int32 → Int32 → x_S → x_L → Prop) (v1 : Int32) (v2 : Int32) (σ : x_S) (τ : x_L) : Prop :=
  (v2 ≤ 0 → Q σ τ) ∧ (¬ v2 ≤ 0 → ¬ v2 = 0 ∧ (wX11_put (48 + ((v1 / v2) - (v1 / v2) / 10 * 10)) σ τ (fun σ32 τ32 => K18 v1 (v2 / 10) σ32 τ32)))
def wX11_putNumber_2 (Q : x_S → x_L → Prop) (K2 : Int32 → Int32 → x_S → x_L → Prop) (v1 : Int32) (v2 : Int32) (σ : x_S) (τ : x_L) : Prop :=
  ¬ v2 = 0 ∧ (((v1 / v2) ≤ 9 → x_l2 (wX11_putNumber_18 Q) v1 v2 σ τ) ∧ (¬ (v1 / v2) ≤ 9 → K2 v1 (v2 * 10) σ τ))
def wX11_putNumber (a1 : Int32) (σ : x_S) (τ : x_L) (Q : x_S → x_L → Prop) : Prop :=
  x_l2 (wX11_putNumber_2 Q) a1 1 σ τ
def wX11_write_119 (K39 : Int32 → Int32 → x_S → x_L → Prop) (Q : Int32 → x_S → x_L → Prop) (v1 : Int32) (v2 : Int32) (σ : x_S) (τ : x_L) : Prop :=
  K39 v1 (v2 + 1) σ τ
def wX11_write_64 (K39 : Int32 → Int32 → x_S → x_L → Prop) (Q : Int32 → x_S → x_L → Prop) (v1 : Int32) (v2 : Int32) (v3 : Int32) (σ : x_S) (τ : x_L) : Prop :=
  vp_in v3 120 ∧ (wX11_putNumber (σ 4 v3.toNatClampNeg) σ τ (fun σ71 τ71 => wX11_put 45 σ71 τ71 (fun σ77 τ77 => wX11_putNumber (σ77 5 v3.toNatClampNeg) σ77 τ77 (fun σ87 τ87 => (2 ≤ (σ87 7 v3.toNatClampNeg) → wX11_put 42 σ87 τ87 (fun σ106 τ106 => wX11_putNumber (σ106 9 v3.toNatClampNeg) σ106 τ106 (fun σ116 τ116 => wX11_write_119 K39 Q v1 v2 σ116 τ116))) ∧ (¬ 2 ≤ (σ87 7 v3.toNatClampNeg) → wX11_write_119 K39 Q v1 v2 σ87 τ87)))))
def wX11_write_39 (Q : Int32 → x_S → x_L → Prop) (K39 : Int32 → Int32 → x_S → x_L → Prop) (v1 : Int32) (v2 : Int32) (σ : x_S) (τ : x_L) : Prop :=
  wX11_placesOf v1 σ τ (fun r42 σ42 τ42 => (r42 ≤ v2 → Q (σ42 0 29) σ42 τ42) ∧ (¬ r42 ≤ v2 → wX11_spot v1 v2 σ42 τ42 (fun r50 σ50 τ50 => (v2 ≤ 0 → wX11_write_64 K39 Q v1 v2 r50 σ50 τ50) ∧ (¬ v2 ≤ 0 → wX11_put 32 σ50 τ50 (fun σ61 τ61 => wX11_write_64 K39 Q v1 v2 r50 σ61 τ61)))))
def wX11_write_19 (Q : Int32 → x_S → x_L → Prop) (v1 : Int32) (s1 : Int32) (σ : x_S) (τ : x_L) : Prop :=
  wX11_throwsIf s1 1 σ τ (fun r20 σ20 τ20 => (r20 = 0 → wX11_lay σ20 τ20 (fun σ29 τ29 => x_l2 (wX11_write_39 Q) v1 0 (x_up σ29 0 29 0) τ29)) ∧ (¬ r20 = 0 → Q 0 σ20 τ20))
def wX11_write (a1 : Int32) (σ : x_S) (τ : x_L) (Q : Int32 → x_S → x_L → Prop) : Prop :=
  wX11_isTruck a1 (x_up σ 0 5 0) τ (fun r8 σ8 τ8 => (¬ r8 = 0 → wX11_write_19 Q a1 0 σ8 τ8) ∧ (r8 = 0 → wX11_write_19 Q a1 1 σ8 τ8))
def wX11_outputByte_31 (Q : Int32 → x_S → x_L → Prop) (s0 : Int32) (σ : x_S) (τ : x_L) : Prop :=
  Q s0 σ τ
def wX11_outputByte (a1 : Int32) (σ : x_S) (τ : x_L) (Q : Int32 → x_S → x_L → Prop) : Prop :=
  wX11_inRange ((a1 : Int32).toInt64) 0 (((((x_up σ 0 5 0) 0 29) - 1) : Int32).toInt64) (x_up σ 0 5 0) τ (fun r15 σ15 τ15 => (r15 = 0 → wX11_outputByte_31 Q (-1) σ15 τ15) ∧ (¬ r15 = 0 → vp_in a1 300 ∧ (wX11_outputByte_31 Q (σ15 20 a1.toNatClampNeg) σ15 τ15)))
def wX11_appendBytes_3 (Q : x_S → x_L → Prop) (K3 : Int32 → Int32 → x_S → x_L → Prop) (v1 : Int32) (v2 : Int32) (σ : x_S) (τ : x_L) : Prop :=
  (v2 < 0 → Q σ τ) ∧ (¬ v2 < 0 → vp_in (σ 0 31) 1500 ∧ (K3 v1 (v2 + (-8)) (x_up (x_up σ 21 ((σ 0 31).toNatClampNeg) (vp_nar .byte (((v1 >>> (v2 &&& 31)) : Int32).toInt8.toInt32))) 0 31 (((x_up σ 21 ((σ 0 31).toNatClampNeg) (vp_nar .byte (((v1 >>> (v2 &&& 31)) : Int32).toInt8.toInt32))) 0 31) + 1)) τ))
def wX11_appendBytes (a1 : Int32) (σ : x_S) (τ : x_L) (Q : x_S → x_L → Prop) : Prop :=
  x_l2 (wX11_appendBytes_3 Q) a1 24 σ τ
def wX11_appendInput (a1 : Int32) (a2 : Int32) (a3 : Int32) (a4 : Int32) (a5 : Int32) (σ : x_S) (τ : x_L) (Q : Int32 → x_S → x_L → Prop) : Prop :=
  ((((x_up σ 0 5 0) 0 31) + 20) ≤ 1500 → wX11_appendBytes a1 (x_up σ 0 5 0) τ (fun σ22 τ22 => wX11_appendBytes a2 σ22 τ22 (fun σ27 τ27 => wX11_appendBytes a3 σ27 τ27 (fun σ32 τ32 => wX11_appendBytes a4 σ32 τ32 (fun σ38 τ38 => wX11_appendBytes a5 σ38 τ38 (fun σ44 τ44 => Q (σ44 0 31) σ44 τ44)))))) ∧ (¬ (((x_up σ 0 5 0) 0 31) + 20) ≤ 1500 → Q (-1) (x_up σ 0 5 0) τ)
def wX11_truncateInput (a1 : Int32) (σ : x_S) (τ : x_L) (Q : Int32 → x_S → x_L → Prop) : Prop :=
  wX11_inRange ((a1 : Int32).toInt64) 0 ((((x_up σ 0 5 0) 0 31) : Int32).toInt64) (x_up σ 0 5 0) τ (fun r13 σ13 τ13 => (¬ r13 = 0 → Q a1 (x_up σ13 0 31 a1) τ13) ∧ (r13 = 0 → Q (-1) σ13 τ13))
def wX11_errorCode (σ : x_S) (τ : x_L) (Q : Int32 → x_S → x_L → Prop) : Prop :=
  Q ((x_up σ 0 5 0) 0 33) (x_up σ 0 5 0) τ
def wX11_errorPosition (σ : x_S) (τ : x_L) (Q : Int32 → x_S → x_L → Prop) : Prop :=
  Q ((x_up σ 0 5 0) 0 34) (x_up σ 0 5 0) τ
def wX11_byteAt_22 (Q : Int32 → x_S → x_L → Prop) (s0 : Int32) (σ : x_S) (τ : x_L) : Prop :=
  Q s0 σ τ
def wX11_byteAt (a1 : Int32) (σ : x_S) (τ : x_L) (Q : Int32 → x_S → x_L → Prop) : Prop :=
  ((σ 0 31) ≤ a1 → wX11_byteAt_22 Q (-1) σ τ) ∧ (¬ (σ 0 31) ≤ a1 → vp_in a1 1500 ∧ (wX11_byteAt_22 Q ((σ 21 a1.toNatClampNeg) &&& 255) σ τ))
def wX11_isLetter (a0 : Int32) (σ : x_S) (τ : x_L) (Q : Int32 → x_S → x_L → Prop) : Prop :=
  wX11_inRange ((a0 : Int32).toInt64) 97 122 σ τ (fun r8 σ8 τ8 => (r8 = 0 ∨ r8 = 1) ∧ Q r8 σ8 τ8)
def wX11_isDigit (a0 : Int32) (σ : x_S) (τ : x_L) (Q : Int32 → x_S → x_L → Prop) : Prop :=
  wX11_inRange ((a0 : Int32).toInt64) 48 57 σ τ (fun r8 σ8 τ8 => (r8 = 0 ∨ r8 = 1) ∧ Q r8 σ8 τ8)
def wX11_advance_26 (K0 : x_S → x_L → Prop) (Q : x_S → x_L → Prop) (σ : x_S) (τ : x_L) : Prop :=
  K0 (x_up σ 0 32 ((σ 0 32) + 1)) τ
def wX11_advance_187 (K125 : x_S → x_L → Prop) (Q : x_S → x_L → Prop) (σ : x_S) (τ : x_L) : Prop :=
  K125 (x_up σ 0 32 ((σ 0 32) + 1)) τ
def wX11_advance_261 (K200 : x_S → x_L → Prop) (Q : x_S → x_L → Prop) (σ : x_S) (τ : x_L) : Prop :=
  K200 (x_up σ 0 32 ((σ 0 32) + 1)) τ
def wX11_advance_322 (Q : x_S → x_L → Prop) (σ : x_S) (τ : x_L) : Prop :=
  Q σ τ
def wX11_advance_317 (Q : x_S → x_L → Prop) (σ : x_S) (τ : x_L) : Prop :=
  wX11_advance_322 Q (x_up σ 0 35 4) τ
def wX11_advance_296 (Q : x_S → x_L → Prop) (σ : x_S) (τ : x_L) : Prop :=
  (¬ (σ 0 35) = 2 → wX11_advance_322 Q σ τ) ∧ ((σ 0 35) = 2 → (((σ 0 32) - (σ 0 36)) ≤ 5 → wX11_advance_322 Q σ τ) ∧ (¬ ((σ 0 32) - (σ 0 36)) ≤ 5 → wX11_advance_317 Q σ τ))
def wX11_advance_274 (Q : x_S → x_L → Prop) (σ : x_S) (τ : x_L) : Prop :=
  (¬ (σ 0 35) = 1 → wX11_advance_296 Q σ τ) ∧ ((σ 0 35) = 1 → (8 < ((σ 0 32) - (σ 0 36)) → wX11_advance_317 Q σ τ) ∧ (¬ 8 < ((σ 0 32) - (σ 0 36)) → wX11_advance_296 Q σ τ))
def wX11_advance_200 (Q : x_S → x_L → Prop) (K200 : x_S → x_L → Prop) (σ : x_S) (τ : x_L) : Prop :=
  (¬ (σ 0 35) = 2 → wX11_advance_274 Q σ τ) ∧ ((σ 0 35) = 2 → wX11_byteAt (σ 0 32) σ τ (fun r213 σ213 τ213 => wX11_isDigit r213 σ213 τ213 (fun r216 σ216 τ216 => (r216 = 0 → wX11_advance_274 Q σ216 τ216) ∧ (¬ r216 = 0 → (5 ≤ ((σ216 0 32) - (σ216 0 36)) → wX11_advance_261 K200 Q σ216 τ216) ∧ (¬ 5 ≤ ((σ216 0 32) - (σ216 0 36)) → wX11_byteAt (σ216 0 32) σ216 τ216 (fun r249 σ249 τ249 => wX11_advance_261 K200 Q σ249 (x_upL τ249 0 38 ((((τ216 0 38) * 10) + ((r249 : Int32).toInt64)) - 48))))))))
def wX11_advance_125 (Q : x_S → x_L → Prop) (K125 : x_S → x_L → Prop) (σ : x_S) (τ : x_L) : Prop :=
  (¬ (σ 0 35) = 1 → x_l0 (wX11_advance_200 Q) σ τ) ∧ ((σ 0 35) = 1 → wX11_byteAt (σ 0 32) σ τ (fun r138 σ138 τ138 => wX11_isLetter r138 σ138 τ138 (fun r141 σ141 τ141 => (r141 = 0 → x_l0 (wX11_advance_200 Q) σ141 τ141) ∧ (¬ r141 = 0 → (8 ≤ ((σ141 0 32) - (σ141 0 36)) → wX11_advance_187 K125 Q σ141 τ141) ∧ (¬ 8 ≤ ((σ141 0 32) - (σ141 0 36)) → wX11_byteAt (σ141 0 32) σ141 τ141 (fun r175 σ175 τ175 => wX11_advance_187 K125 Q σ175 (x_upL τ175 0 38 ((((τ141 0 38) * 32) + ((r175 : Int32).toInt64)) - 96))))))))
def wX11_advance_104 (Q : x_S → x_L → Prop) (s1 : Int32) (σ : x_S) (τ : x_L) : Prop :=
  (((x_up σ 0 35 s1) 0 35) ≤ 2 → x_l0 (wX11_advance_125 Q) (x_up σ 0 35 s1) τ) ∧ (¬ ((x_up σ 0 35 s1) 0 35) ≤ 2 → x_l0 (wX11_advance_125 Q) (x_up (x_up σ 0 35 s1) 0 32 (((x_up σ 0 35 s1) 0 32) + 1)) τ)
def wX11_advance_0 (Q : x_S → x_L → Prop) (K0 : x_S → x_L → Prop) (σ : x_S) (τ : x_L) : Prop :=
  wX11_byteAt (σ 0 32) σ τ (fun r5 σ5 τ5 => (r5 = 32 → wX11_advance_26 K0 Q σ5 τ5) ∧ (¬ r5 = 32 → wX11_byteAt (σ5 0 32) σ5 τ5 (fun r18 σ18 τ18 => (¬ r18 = 10 → wX11_byteAt ((x_up σ18 0 36 (σ18 0 32)) 0 36) (x_up σ18 0 36 (σ18 0 32)) (x_upL τ18 0 38 0) (fun r57 σ57 τ57 => (¬ r57 = (-1) → wX11_isLetter r57 σ57 τ57 (fun r72 σ72 τ72 => (r72 = 0 → wX11_isDigit r57 σ72 τ72 (fun r83 σ83 τ83 => (r83 = 0 → (¬ r57 = 59 → wX11_advance_104 Q 4 σ83 τ83) ∧ (r57 = 59 → wX11_advance_104 Q 3 σ83 τ83)) ∧ (¬ r83 = 0 → wX11_advance_104 Q 2 σ83 τ83))) ∧ (¬ r72 = 0 → wX11_advance_104 Q 1 σ72 τ72))) ∧ (r57 = (-1) → wX11_advance_104 Q 0 σ57 τ57))) ∧ (r18 = 10 → wX11_advance_26 K0 Q σ18 τ18))))
def wX11_advance (σ : x_S) (τ : x_L) (Q : x_S → x_L → Prop) : Prop :=
  x_l0 (wX11_advance_0 Q) σ τ
def wX11_beginText (σ : x_S) (τ : x_L) (Q : x_S → x_L → Prop) : Prop :=
  wX11_advance (x_up (x_up (x_up σ 0 33 0) 0 34 (-1)) 0 32 0) τ (fun σ16 τ16 => Q σ16 τ16)
def wX11_fail (a1 : Int32) (σ : x_S) (τ : x_L) (Q : Int32 → x_S → x_L → Prop) : Prop :=
  Q 0 (x_up (x_up σ 0 33 a1) 0 34 ((x_up σ 0 33 a1) 0 36)) τ
def wX11_readNumber (a1 : Int32) (a2 : Int32) (σ : x_S) (τ : x_L) (Q : Int32 → x_S → x_L → Prop) : Prop :=
  ((σ 0 35) = 2 → wX11_inRange (τ 0 38) ((a1 : Int32).toInt64) ((a2 : Int32).toInt64) σ τ (fun r22 σ22 τ22 => (¬ r22 = 0 → wX11_advance (x_up σ22 0 37 (((τ22 0 38) : Int64).toInt32)) τ22 (fun σ44 τ44 => Q 1 σ44 τ44)) ∧ (r22 = 0 → wX11_fail 2 σ22 τ22 (fun r30 σ30 τ30 => (r30 = 0 ∨ r30 = 1) ∧ Q r30 σ30 τ30)))) ∧ (¬ (σ 0 35) = 2 → wX11_fail 1 σ τ (fun r10 σ10 τ10 => (r10 = 0 ∨ r10 = 1) ∧ Q r10 σ10 τ10))
def wX11_readEnd (σ : x_S) (τ : x_L) (Q : Int32 → x_S → x_L → Prop) : Prop :=
  ((σ 0 35) = 3 → wX11_advance σ τ (fun σ15 τ15 => Q 1 σ15 τ15)) ∧ (¬ (σ 0 35) = 3 → wX11_fail 1 σ τ (fun r10 σ10 τ10 => (r10 = 0 ∨ r10 = 1) ∧ Q r10 σ10 τ10))
def wX11_pack_78 (Q : Int64 → x_S → x_L → Prop) (s0 : Int64) (σ : x_S) (τ : x_L) : Prop :=
  Q s0 σ τ
def wX11_pack_52 (Q : Int64 → x_S → x_L → Prop) (v4 : Int32) (s0 : Int64) (σ : x_S) (τ : x_L) : Prop :=
  (¬ v4 = 0 → wX11_pack_78 Q (((s0 * 32) + ((v4 : Int32).toInt64)) - 96) σ τ) ∧ (v4 = 0 → wX11_pack_78 Q s0 σ τ)
def wX11_pack (a0 : Int32) (a1 : Int32) (a2 : Int32) (a3 : Int32) (a4 : Int32) (σ : x_S) (τ : x_L) (Q : Int64 → x_S → x_L → Prop) : Prop :=
  (¬ a3 = 0 → wX11_pack_52 Q a4 ((((((((((((a0 : Int32).toInt64) - 96) * 32) + ((a1 : Int32).toInt64)) - 96) * 32) + ((a2 : Int32).toInt64)) - 96) * 32) + ((a3 : Int32).toInt64)) - 96) σ τ) ∧ (a3 = 0 → wX11_pack_52 Q a4 (((((((((a0 : Int32).toInt64) - 96) * 32) + ((a1 : Int32).toInt64)) - 96) * 32) + ((a2 : Int32).toInt64)) - 96) σ τ)
def wX11_isWord_22 (Q : Int32 → x_S → x_L → Prop) (s0 : Int32) (σ : x_S) (τ : x_L) : Prop :=
  (s0 = 0 ∨ s0 = 1) ∧ Q s0 σ τ
def wX11_isWord_21 (Q : Int32 → x_S → x_L → Prop) (σ : x_S) (τ : x_L) : Prop :=
  wX11_isWord_22 Q 0 σ τ
def wX11_isWord (a1 : Int64) (σ : x_S) (τ : x_L) (Q : Int32 → x_S → x_L → Prop) : Prop :=
  (¬ (σ 0 35) = 1 → wX11_isWord_21 Q σ τ) ∧ ((σ 0 35) = 1 → (¬ (lg_cmp (τ 0 38) a1) = 0 → wX11_isWord_21 Q σ τ) ∧ ((lg_cmp (τ 0 38) a1) = 0 → wX11_isWord_22 Q 1 σ τ))
def wX11_readInto (a1 : Int32) (a2 : Int32) (a3 : Int32) (σ : x_S) (τ : x_L) (Q : Int32 → x_S → x_L → Prop) : Prop :=
  wX11_readNumber a2 a3 σ τ (fun r3 σ3 τ3 => (¬ r3 = 0 → vp_in (290 + a1) 580 ∧ (Q 1 (x_up σ3 3 ((290 + a1).toNatClampNeg) (σ3 0 37)) τ3)) ∧ (r3 = 0 → Q 0 σ3 τ3))
def wX11_readRoad_127 (Q : Int32 → x_S → x_L → Prop) (σ : x_S) (τ : x_L) : Prop :=
  Q 0 σ τ
def wX11_readRoad_86 (Q : Int32 → x_S → x_L → Prop) (v1 : Int32) (σ : x_S) (τ : x_L) : Prop :=
  wX11_readInto (v1 + 1) 0 19 σ τ (fun r93 σ93 τ93 => (r93 = 0 → wX11_readRoad_127 Q σ93 τ93) ∧ (¬ r93 = 0 → wX11_readInto (v1 + 2) 1 300 σ93 τ93 (fun r107 σ107 τ107 => (r107 = 0 → wX11_readRoad_127 Q σ107 τ107) ∧ (¬ r107 = 0 → wX11_readInto (v1 + 3) 40 120 σ107 τ107 (fun r121 σ121 τ121 => (¬ r121 = 0 → wX11_readEnd (x_up σ121 3 ((290 : Int32).toNatClampNeg) ((σ121 3 (290 : Int32).toNatClampNeg) + 1)) τ121 (fun r142 σ142 τ142 => (r142 = 0 ∨ r142 = 1) ∧ Q r142 σ142 τ142)) ∧ (r121 = 0 → wX11_readRoad_127 Q σ121 τ121))))))
def wX11_readRoad (σ : x_S) (τ : x_L) (Q : Int32 → x_S → x_L → Prop) : Prop :=
  (¬ (σ 3 (290 : Int32).toNatClampNeg) = 30 → wX11_advance σ τ (fun σ20 τ20 => wX11_readInto ((2 + (4 * (σ20 3 (290 : Int32).toNatClampNeg))) + 0) 0 19 σ20 τ20 (fun r43 σ43 τ43 => (¬ r43 = 0 → (¬ (σ43 0 35) = 2 → wX11_readRoad_86 Q (2 + (4 * (σ20 3 (290 : Int32).toNatClampNeg))) σ43 τ43) ∧ ((σ43 0 35) = 2 → vp_in ((290 + (2 + (4 * (σ20 3 (290 : Int32).toNatClampNeg)))) + 0) 580 ∧ ((¬ (lg_cmp (τ43 0 38) (((σ43 3 ((290 + (2 + (4 * (σ20 3 (290 : Int32).toNatClampNeg)))) + 0).toNatClampNeg) : Int32).toInt64)) = 0 → wX11_readRoad_86 Q (2 + (4 * (σ20 3 (290 : Int32).toNatClampNeg))) σ43 τ43) ∧ ((lg_cmp (τ43 0 38) (((σ43 3 ((290 + (2 + (4 * (σ20 3 (290 : Int32).toNatClampNeg)))) + 0).toNatClampNeg) : Int32).toInt64)) = 0 → wX11_fail 3 σ43 τ43 (fun r82 σ82 τ82 => (r82 = 0 ∨ r82 = 1) ∧ Q r82 σ82 τ82))))) ∧ (r43 = 0 → Q 0 σ43 τ43)))) ∧ ((σ 3 (290 : Int32).toNatClampNeg) = 30 → wX11_fail 4 σ τ (fun r15 σ15 τ15 => (r15 = 0 ∨ r15 = 1) ∧ Q r15 σ15 τ15))
def wX11_toldRoad (a1 : Int32) (a2 : Int32) (σ : x_S) (τ : x_L) (Q : Int32 → x_S → x_L → Prop) : Prop :=
  vp_in ((292 + (4 * a1)) + a2) 580 ∧ (Q (σ 3 ((292 + (4 * a1)) + a2).toNatClampNeg) σ τ)
def wX11_readPlace_128 (Q : Int32 → x_S → x_L → Prop) (v1 : Int32) (s1 : Int32) (s2 : Int32) (σ : x_S) (τ : x_L) : Prop :=
  wX11_readInto (s1 + s2) 0 ((σ 3 (290 : Int32).toNatClampNeg) - 1) σ τ (fun r140 σ140 τ140 => (¬ r140 = 0 → vp_in ((290 + v1) + 3) 580 ∧ (Q 1 (x_up σ140 3 (((290 + v1) + 3).toNatClampNeg) ((σ140 3 ((290 + v1) + 3).toNatClampNeg) + 1)) τ140)) ∧ (r140 = 0 → Q 0 σ140 τ140))
def wX11_readPlace_113 (Q : Int32 → x_S → x_L → Prop) (v1 : Int32) (v2 : Int32) (σ : x_S) (τ : x_L) : Prop :=
  (10 ≤ v2 → wX11_readPlace_128 Q v1 v1 3 σ τ) ∧ (¬ 10 ≤ v2 → wX11_readPlace_128 Q v1 v1 (4 + v2) σ τ)
def wX11_readPlace_97 (Q : Int32 → x_S → x_L → Prop) (v1 : Int32) (v2 : Int32) (v3 : Int32) (σ : x_S) (τ : x_L) : Prop :=
  (v3 = 0 → wX11_readPlace_113 Q v1 v2 σ τ) ∧ (¬ v3 = 0 → (¬ v2 = 10 → wX11_readPlace_113 Q v1 v2 σ τ) ∧ (v2 = 10 → wX11_fail 4 σ τ (fun r109 σ109 τ109 => (r109 = 0 ∨ r109 = 1) ∧ Q r109 σ109 τ109)))
def wX11_readPlace_48 (Q : Int32 → x_S → x_L → Prop) (v1 : Int32) (v2 : Int32) (s0 : Int32) (σ : x_S) (τ : x_L) : Prop :=
  (s0 = 0 → wX11_readPlace_97 Q v1 v2 s0 σ τ) ∧ (¬ s0 = 0 → (v2 ≤ 0 → wX11_readPlace_97 Q v1 v2 s0 σ τ) ∧ (¬ v2 ≤ 0 → wX11_toldRoad (((τ 0 38) : Int64).toInt32) 0 σ τ (fun r64 σ64 τ64 => vp_in ((((290 + v1) + 4) + v2) - 1) 580 ∧ (wX11_toldRoad (σ64 3 ((((290 + v1) + 4) + v2) - 1).toNatClampNeg) 1 σ64 τ64 (fun r85 σ85 τ85 => (r64 = r85 → wX11_readPlace_97 Q v1 v2 s0 σ85 τ85) ∧ (¬ r64 = r85 → wX11_fail 3 σ85 τ85 (fun r93 σ93 τ93 => (r93 = 0 ∨ r93 = 1) ∧ Q r93 σ93 τ93)))))))
def wX11_readPlace_47 (Q : Int32 → x_S → x_L → Prop) (v1 : Int32) (v2 : Int32) (σ : x_S) (τ : x_L) : Prop :=
  wX11_readPlace_48 Q v1 v2 0 σ τ
def wX11_readPlace (a1 : Int32) (σ : x_S) (τ : x_L) (Q : Int32 → x_S → x_L → Prop) : Prop :=
  vp_in ((290 + a1) + 3) 580 ∧ ((¬ (σ 0 35) = 2 → wX11_readPlace_47 Q a1 (σ 3 ((290 + a1) + 3).toNatClampNeg) σ τ) ∧ ((σ 0 35) = 2 → wX11_inRange (τ 0 38) 0 ((((σ 3 (290 : Int32).toNatClampNeg) - 1) : Int32).toInt64) σ τ (fun r37 σ37 τ37 => (r37 = 0 → wX11_readPlace_47 Q a1 (σ 3 ((290 + a1) + 3).toNatClampNeg) σ37 τ37) ∧ (¬ r37 = 0 → wX11_readPlace_48 Q a1 (σ 3 ((290 + a1) + 3).toNatClampNeg) 1 σ37 τ37))))
def wX11_readTruck_92 (Q : Int32 → x_S → x_L → Prop) (σ : x_S) (τ : x_L) : Prop :=
  Q 0 σ τ
def wX11_readTruck_104 (Q : Int32 → x_S → x_L → Prop) (K104 : Int32 → x_S → x_L → Prop) (v1 : Int32) (σ : x_S) (τ : x_L) : Prop :=
  (¬ (σ 0 35) = 2 → wX11_readEnd (x_up σ 3 ((291 : Int32).toNatClampNeg) ((σ 3 (291 : Int32).toNatClampNeg) + 1)) τ (fun r135 σ135 τ135 => (r135 = 0 ∨ r135 = 1) ∧ Q r135 σ135 τ135)) ∧ ((σ 0 35) = 2 → wX11_readPlace v1 σ τ (fun r114 σ114 τ114 => (¬ r114 = 0 → K104 v1 σ114 τ114) ∧ (r114 = 0 → Q 0 σ114 τ114)))
def wX11_readTruck (σ : x_S) (τ : x_L) (Q : Int32 → x_S → x_L → Prop) : Prop :=
  (¬ (σ 3 (291 : Int32).toNatClampNeg) = 12 → wX11_advance σ τ (fun σ20 τ20 => vp_in ((290 + (122 + (14 * (σ20 3 (291 : Int32).toNatClampNeg)))) + 3) 580 ∧ (wX11_readInto ((122 + (14 * (σ20 3 (291 : Int32).toNatClampNeg))) + 0) 0 2000 (x_up σ20 3 (((290 + (122 + (14 * (σ20 3 (291 : Int32).toNatClampNeg)))) + 3).toNatClampNeg) 0) τ20 (fun r59 σ59 τ59 => (r59 = 0 → wX11_readTruck_92 Q σ59 τ59) ∧ (¬ r59 = 0 → wX11_readInto ((122 + (14 * (σ20 3 (291 : Int32).toNatClampNeg))) + 1) 0 10000 σ59 τ59 (fun r73 σ73 τ73 => (r73 = 0 → wX11_readTruck_92 Q σ73 τ73) ∧ (¬ r73 = 0 → wX11_readInto ((122 + (14 * (σ20 3 (291 : Int32).toNatClampNeg))) + 2) 5 60 σ73 τ73 (fun r86 σ86 τ86 => (¬ r86 = 0 → wX11_readPlace (122 + (14 * (σ20 3 (291 : Int32).toNatClampNeg))) σ86 τ86 (fun r96 σ96 τ96 => (¬ r96 = 0 → x_l1 (wX11_readTruck_104 Q) (122 + (14 * (σ20 3 (291 : Int32).toNatClampNeg))) σ96 τ96) ∧ (r96 = 0 → Q 0 σ96 τ96))) ∧ (r86 = 0 → wX11_readTruck_92 Q σ86 τ86))))))))) ∧ ((σ 3 (291 : Int32).toNatClampNeg) = 12 → wX11_fail 4 σ τ (fun r15 σ15 τ15 => (r15 = 0 ∨ r15 = 1) ∧ Q r15 σ15 τ15))
def wX11_readStatement_56 (Q : Int32 → x_S → x_L → Prop) (s0 : Int32) (σ : x_S) (τ : x_L) : Prop :=
  (s0 = 0 ∨ s0 = 1) ∧ Q s0 σ τ
def wX11_readStatement (σ : x_S) (τ : x_L) (Q : Int32 → x_S → x_L → Prop) : Prop :=
  wX11_pack 114 111 97 100 0 σ τ (fun r10 σ10 τ10 => wX11_isWord r10 σ10 τ10 (fun r13 σ13 τ13 => (r13 = 0 → wX11_pack 116 114 117 99 107 σ13 τ13 (fun r35 σ35 τ35 => wX11_isWord r35 σ35 τ35 (fun r38 σ38 τ38 => (r38 = 0 → wX11_fail 1 σ38 τ38 (fun r53 σ53 τ53 => wX11_readStatement_56 Q r53 σ53 τ53)) ∧ (¬ r38 = 0 → wX11_readTruck σ38 τ38 (fun r45 σ45 τ45 => wX11_readStatement_56 Q r45 σ45 τ45))))) ∧ (¬ r13 = 0 → wX11_readRoad σ13 τ13 (fun r20 σ20 τ20 => (r20 = 0 ∨ r20 = 1) ∧ Q r20 σ20 τ20))))
def wX11_load_117 (K93 : Int32 → x_S → x_L → Prop) (Q : Int32 → x_S → x_L → Prop) (K117 : Int32 → Int32 → x_S → x_L → Prop) (v2 : Int32) (v3 : Int32) (σ : x_S) (τ : x_L) : Prop :=
  wX11_placesOf v2 σ τ (fun r120 σ120 τ120 => (r120 ≤ v3 → K93 (v2 + 1) σ120 τ120) ∧ (¬ r120 ≤ v3 → wX11_spot v2 v3 σ120 τ120 (fun r134 σ134 τ134 => vp_in (12 + r134) 4788 ∧ (wX11_spot v2 v3 (x_up σ134 1 ((12 + r134).toNatClampNeg) 0) τ134 (fun r149 σ149 τ149 => wX11_limitAt v2 v3 σ149 τ149 (fun r158 σ158 τ158 => wX11_min 80 r158 σ158 τ158 (fun r161 σ161 τ161 => vp_in (132 + r149) 4788 ∧ (K117 v2 (v3 + 1) (x_up σ161 1 ((132 + r149).toNatClampNeg) r161) τ161))))))))
def wX11_load_93 (Q : Int32 → x_S → x_L → Prop) (K93 : Int32 → x_S → x_L → Prop) (v2 : Int32) (σ : x_S) (τ : x_L) : Prop :=
  ((σ 3 (1 : Int32).toNatClampNeg) ≤ v2 → Q ((x_up (x_up (x_up σ 0 3 0) 2 ((0 : Int32).toNatClampNeg) (vp_nar .boolean 0)) 2 ((1 : Int32).toNatClampNeg) (vp_nar .boolean 0)) 3 (1 : Int32).toNatClampNeg) (x_up (x_up (x_up σ 0 3 0) 2 ((0 : Int32).toNatClampNeg) (vp_nar .boolean 0)) 2 ((1 : Int32).toNatClampNeg) (vp_nar .boolean 0)) τ) ∧ (¬ (σ 3 (1 : Int32).toNatClampNeg) ≤ v2 → wX11_ofTruck v2 0 σ τ (fun r111 σ111 τ111 => vp_in v2 4788 ∧ (x_l2 (wX11_load_117 K93 Q) v2 0 (x_up σ111 1 v2.toNatClampNeg r111) τ111)))
def wX11_load_62 (Q : Int32 → x_S → x_L → Prop) (K62 : Int32 → x_S → x_L → Prop) (v2 : Int32) (σ : x_S) (τ : x_L) : Prop :=
  (290 ≤ v2 → x_l1 (wX11_load_93 Q) 0 σ τ) ∧ (¬ 290 ≤ v2 → vp_in (290 + v2) 580 ∧ (vp_in v2 580 ∧ (K62 (v2 + 1) (x_up σ 3 v2.toNatClampNeg (σ 3 (290 + v2).toNatClampNeg)) τ)))
def wX11_load_48 (Q : Int32 → x_S → x_L → Prop) (v1 : Int32) (σ : x_S) (τ : x_L) : Prop :=
  (¬ v1 = 0 → x_l1 (wX11_load_62 Q) 0 (x_up σ 0 31 0) τ) ∧ (v1 = 0 → Q (-2) (x_up σ 0 31 0) τ)
def wX11_load_29 (Q : Int32 → x_S → x_L → Prop) (K29 : Int32 → x_S → x_L → Prop) (v1 : Int32) (σ : x_S) (τ : x_L) : Prop :=
  (v1 = 0 → wX11_load_48 Q v1 σ τ) ∧ (¬ v1 = 0 → ((σ 0 35) = 0 → wX11_load_48 Q v1 σ τ) ∧ (¬ (σ 0 35) = 0 → wX11_readStatement σ τ (fun r41 σ41 τ41 => K29 r41 σ41 τ41)))
def wX11_load (σ : x_S) (τ : x_L) (Q : Int32 → x_S → x_L → Prop) : Prop :=
  wX11_beginText (x_up (x_up (x_up σ 0 5 0) 3 ((290 : Int32).toNatClampNeg) 0) 3 ((291 : Int32).toNatClampNeg) 0) τ (fun σ24 τ24 => x_l1 (wX11_load_29 Q) 1 σ24 τ24)
def wX11_commandHere_155 (Q : Int32 → x_S → x_L → Prop) (s0 : Int32) (σ : x_S) (τ : x_L) : Prop :=
  Q s0 σ τ
def wX11_commandHere (σ : x_S) (τ : x_L) (Q : Int32 → x_S → x_L → Prop) : Prop :=
  wX11_pack 119 97 105 116 0 σ τ (fun r10 σ10 τ10 => wX11_isWord r10 σ10 τ10 (fun r13 σ13 τ13 => (r13 = 0 → wX11_pack 115 112 101 101 100 σ13 τ13 (fun r32 σ32 τ32 => wX11_isWord r32 σ32 τ32 (fun r35 σ35 τ35 => (r35 = 0 → wX11_pack 115 116 97 114 116 σ35 τ35 (fun r54 σ54 τ54 => wX11_isWord r54 σ54 τ54 (fun r57 σ57 τ57 => (r57 = 0 → wX11_pack 109 101 114 103 101 σ57 τ57 (fun r76 σ76 τ76 => wX11_isWord r76 σ76 τ76 (fun r79 σ79 τ79 => (r79 = 0 → wX11_pack 104 117 114 114 121 σ79 τ79 (fun r98 σ98 τ98 => wX11_isWord r98 σ98 τ98 (fun r101 σ101 τ101 => (r101 = 0 → wX11_pack 114 101 108 97 120 σ101 τ101 (fun r120 σ120 τ120 => wX11_isWord r120 σ120 τ120 (fun r123 σ123 τ123 => (r123 = 0 → wX11_pack 97 108 108 0 0 σ123 τ123 (fun r140 σ140 τ140 => wX11_isWord r140 σ140 τ140 (fun r143 σ143 τ143 => (r143 = 0 → wX11_commandHere_155 Q (-1) σ143 τ143) ∧ (¬ r143 = 0 → wX11_commandHere_155 Q 6 σ143 τ143)))) ∧ (¬ r123 = 0 → Q 5 σ123 τ123)))) ∧ (¬ r101 = 0 → Q 4 σ101 τ101)))) ∧ (¬ r79 = 0 → Q 3 σ79 τ79)))) ∧ (¬ r57 = 0 → Q 2 σ57 τ57)))) ∧ (¬ r35 = 0 → Q 1 σ35 τ35)))) ∧ (¬ r13 = 0 → Q 0 σ13 τ13)))
def wX11_readNumberOf (a1 : Int32) (a2 : Int32) (a3 : Int32) (σ : x_S) (τ : x_L) (Q : Int32 → x_S → x_L → Prop) : Prop :=
  wX11_readNumber a2 a3 σ τ (fun r3 σ3 τ3 => (¬ r3 = 0 → vp_in ((4 * (σ3 0 40)) + a1) 120 ∧ (Q 1 (x_up σ3 22 (((4 * (σ3 0 40)) + a1).toNatClampNeg) (σ3 0 37)) τ3)) ∧ (r3 = 0 → Q 0 σ3 τ3))
def wX11_readArguments_79 (Q : Int32 → x_S → x_L → Prop) (s0 : Int32) (σ : x_S) (τ : x_L) : Prop :=
  (s0 = 0 ∨ s0 = 1) ∧ Q s0 σ τ
def wX11_readArguments_78 (Q : Int32 → x_S → x_L → Prop) (σ : x_S) (τ : x_L) : Prop :=
  wX11_readArguments_79 Q 0 σ τ
def wX11_readArguments_108 (Q : Int32 → x_S → x_L → Prop) (s0 : Int32) (σ : x_S) (τ : x_L) : Prop :=
  (s0 = 0 ∨ s0 = 1) ∧ Q s0 σ τ
def wX11_readArguments_107 (Q : Int32 → x_S → x_L → Prop) (σ : x_S) (τ : x_L) : Prop :=
  wX11_readArguments_108 Q 0 σ τ
def wX11_readArguments_19 (Q : Int32 → x_S → x_L → Prop) (v1 : Int32) (σ : x_S) (τ : x_L) : Prop :=
  (v1 = 0 → wX11_readNumberOf 2 0 9 σ τ (fun r57 σ57 τ57 => (r57 = 0 → wX11_readArguments_78 Q σ57 τ57) ∧ (¬ r57 = 0 → wX11_readNumberOf 3 0 120 σ57 τ57 (fun r68 σ68 τ68 => (r68 = 0 → wX11_readArguments_78 Q σ68 τ68) ∧ (¬ r68 = 0 → wX11_readArguments_79 Q 1 σ68 τ68))))) ∧ (v1 = 1 → wX11_readNumberOf 2 0 9 σ τ (fun r85 σ85 τ85 => (r85 = 0 → wX11_readArguments_107 Q σ85 τ85) ∧ (¬ r85 = 0 → wX11_readNumberOf 3 40 120 σ85 τ85 (fun r97 σ97 τ97 => (r97 = 0 → wX11_readArguments_107 Q σ97 τ97) ∧ (¬ r97 = 0 → wX11_readArguments_108 Q 1 σ97 τ97))))) ∧ (v1 = 2 → wX11_readNumberOf 2 0 2000 σ τ (fun r115 σ115 τ115 => (r115 = 0 ∨ r115 = 1) ∧ Q r115 σ115 τ115)) ∧ (v1 = 3 → wX11_readNumberOf 2 0 11 σ τ (fun r124 σ124 τ124 => (r124 = 0 ∨ r124 = 1) ∧ Q r124 σ124 τ124)) ∧ (¬ v1 = 0 → ¬ v1 = 1 → ¬ v1 = 2 → ¬ v1 = 3 → Q 1 σ τ)
def wX11_readArguments (a1 : Int32) (σ : x_S) (τ : x_L) (Q : Int32 → x_S → x_L → Prop) : Prop :=
  (a1 = 6 → wX11_readArguments_19 Q a1 σ τ) ∧ (¬ a1 = 6 → wX11_readNumberOf 1 0 11 σ τ (fun r11 σ11 τ11 => (¬ r11 = 0 → wX11_readArguments_19 Q a1 σ11 τ11) ∧ (r11 = 0 → Q 0 σ11 τ11)))
def wX11_readCommand (σ : x_S) (τ : x_L) (Q : Int32 → x_S → x_L → Prop) : Prop :=
  wX11_commandHere σ τ (fun r1 σ1 τ1 => (¬ r1 = (-1) → (¬ (σ1 0 40) = 30 → wX11_advance σ1 τ1 (fun σ32 τ32 => vp_in (4 * (σ32 0 40)) 120 ∧ (wX11_readArguments r1 (x_up σ32 22 ((4 * (σ32 0 40)).toNatClampNeg) r1) τ32 (fun r49 σ49 τ49 => (¬ r49 = 0 → wX11_readEnd (x_up σ49 0 40 ((σ49 0 40) + 1)) τ49 (fun r68 σ68 τ68 => (r68 = 0 ∨ r68 = 1) ∧ Q r68 σ68 τ68)) ∧ (r49 = 0 → Q 0 σ49 τ49))))) ∧ ((σ1 0 40) = 30 → wX11_fail 4 σ1 τ1 (fun r27 σ27 τ27 => (r27 = 0 ∨ r27 = 1) ∧ Q r27 σ27 τ27))) ∧ (r1 = (-1) → wX11_fail 1 σ1 τ1 (fun r12 σ12 τ12 => (r12 = 0 ∨ r12 = 1) ∧ Q r12 σ12 τ12)))
def wX11_isDone_97 (Q : Int32 → x_S → x_L → Prop) (s0 : Int32) (σ : x_S) (τ : x_L) : Prop :=
  (s0 = 0 ∨ s0 = 1) ∧ Q s0 σ τ
def wX11_isDone_96 (Q : Int32 → x_S → x_L → Prop) (σ : x_S) (τ : x_L) : Prop :=
  wX11_isDone_97 Q 0 σ τ
def wX11_isDone_134 (Q : Int32 → x_S → x_L → Prop) (s0 : Int32) (σ : x_S) (τ : x_L) : Prop :=
  (s0 = 0 ∨ s0 = 1) ∧ Q s0 σ τ
def wX11_isDone_133 (Q : Int32 → x_S → x_L → Prop) (σ : x_S) (τ : x_L) : Prop :=
  wX11_isDone_134 Q 0 σ τ
def wX11_isDone_157 (Q : Int32 → x_S → x_L → Prop) (s0 : Int32) (σ : x_S) (τ : x_L) : Prop :=
  (s0 = 0 ∨ s0 = 1) ∧ Q s0 σ τ
def wX11_isDone_156 (Q : Int32 → x_S → x_L → Prop) (σ : x_S) (τ : x_L) : Prop :=
  wX11_isDone_157 Q 0 σ τ
def wX11_isDone_188 (Q : Int32 → x_S → x_L → Prop) (s0 : Int32) (σ : x_S) (τ : x_L) : Prop :=
  (s0 = 0 ∨ s0 = 1) ∧ Q s0 σ τ
def wX11_isDone_187 (Q : Int32 → x_S → x_L → Prop) (σ : x_S) (τ : x_L) : Prop :=
  wX11_isDone_188 Q 0 σ τ
def wX11_isDone_210 (Q : Int32 → x_S → x_L → Prop) (s0 : Int32) (σ : x_S) (τ : x_L) : Prop :=
  (s0 = 0 ∨ s0 = 1) ∧ Q s0 σ τ
def wX11_isDone_209 (Q : Int32 → x_S → x_L → Prop) (σ : x_S) (τ : x_L) : Prop :=
  wX11_isDone_210 Q 0 σ τ
def wX11_isDone_232 (Q : Int32 → x_S → x_L → Prop) (s0 : Int32) (σ : x_S) (τ : x_L) : Prop :=
  (s0 = 0 ∨ s0 = 1) ∧ Q s0 σ τ
def wX11_isDone_231 (Q : Int32 → x_S → x_L → Prop) (σ : x_S) (τ : x_L) : Prop :=
  wX11_isDone_232 Q 0 σ τ
def wX11_isDone_245 (Q : Int32 → x_S → x_L → Prop) (s0 : Int32) (σ : x_S) (τ : x_L) : Prop :=
  (s0 = 0 ∨ s0 = 1) ∧ Q s0 σ τ
def wX11_isDone (a1 : Int32) (σ : x_S) (τ : x_L) (Q : Int32 → x_S → x_L → Prop) : Prop :=
  vp_in (a1 + 1) 120 ∧ (vp_in (a1 + 2) 120 ∧ (vp_in (a1 + 3) 120 ∧ (vp_in a1 120 ∧ (((σ 22 a1.toNatClampNeg) = 0 → wX11_isPlace (σ 22 (a1 + 1).toNatClampNeg) (σ 22 (a1 + 2).toNatClampNeg) σ τ (fun r75 σ75 τ75 => (r75 = 0 → wX11_isDone_96 Q σ75 τ75) ∧ (¬ r75 = 0 → wX11_setWaitNow (σ 22 (a1 + 1).toNatClampNeg) (σ 22 (a1 + 2).toNatClampNeg) (σ 22 (a1 + 3).toNatClampNeg) σ75 τ75 (fun r86 σ86 τ86 => (r86 < 0 → wX11_isDone_96 Q σ86 τ86) ∧ (¬ r86 < 0 → wX11_isDone_97 Q 1 σ86 τ86))))) ∧ ((σ 22 a1.toNatClampNeg) = 1 → wX11_isPlace (σ 22 (a1 + 1).toNatClampNeg) (σ 22 (a1 + 2).toNatClampNeg) σ τ (fun r101 σ101 τ101 => (r101 = 0 → wX11_isDone_133 Q σ101 τ101) ∧ (¬ r101 = 0 → wX11_limitAt (σ 22 (a1 + 1).toNatClampNeg) (σ 22 (a1 + 2).toNatClampNeg) σ101 τ101 (fun r112 σ112 τ112 => (r112 < (σ 22 (a1 + 3).toNatClampNeg) → wX11_isDone_133 Q σ112 τ112) ∧ (¬ r112 < (σ 22 (a1 + 3).toNatClampNeg) → wX11_setSpeedNow (σ 22 (a1 + 1).toNatClampNeg) (σ 22 (a1 + 2).toNatClampNeg) (σ 22 (a1 + 3).toNatClampNeg) σ112 τ112 (fun r123 σ123 τ123 => (r123 < 0 → wX11_isDone_133 Q σ123 τ123) ∧ (¬ r123 < 0 → wX11_isDone_134 Q 1 σ123 τ123))))))) ∧ ((σ 22 a1.toNatClampNeg) = 2 → wX11_isTruck (σ 22 (a1 + 1).toNatClampNeg) σ τ (fun r137 σ137 τ137 => (r137 = 0 → wX11_isDone_156 Q σ137 τ137) ∧ (¬ r137 = 0 → wX11_setStartNow (σ 22 (a1 + 1).toNatClampNeg) (σ 22 (a1 + 2).toNatClampNeg) σ137 τ137 (fun r146 σ146 τ146 => (r146 < 0 → wX11_isDone_156 Q σ146 τ146) ∧ (¬ r146 < 0 → wX11_isDone_157 Q 1 σ146 τ146))))) ∧ ((σ 22 a1.toNatClampNeg) = 3 → wX11_isTruck (σ 22 (a1 + 1).toNatClampNeg) σ τ (fun r160 σ160 τ160 => (r160 = 0 → wX11_isDone_187 Q σ160 τ160) ∧ (¬ r160 = 0 → wX11_isTruck (σ 22 (a1 + 2).toNatClampNeg) σ160 τ160 (fun r168 σ168 τ168 => (r168 = 0 → wX11_isDone_187 Q σ168 τ168) ∧ (¬ r168 = 0 → wX11_mergeNow (σ 22 (a1 + 1).toNatClampNeg) (σ 22 (a1 + 2).toNatClampNeg) σ168 τ168 (fun r177 σ177 τ177 => (r177 < 0 → wX11_isDone_187 Q σ177 τ177) ∧ (¬ r177 < 0 → wX11_isDone_188 Q 1 σ177 τ177))))))) ∧ ((σ 22 a1.toNatClampNeg) = 4 → wX11_isTruck (σ 22 (a1 + 1).toNatClampNeg) σ τ (fun r191 σ191 τ191 => (r191 = 0 → wX11_isDone_209 Q σ191 τ191) ∧ (¬ r191 = 0 → wX11_hurryNow (σ 22 (a1 + 1).toNatClampNeg) σ191 τ191 (fun r199 σ199 τ199 => (r199 < 0 → wX11_isDone_209 Q σ199 τ199) ∧ (¬ r199 < 0 → wX11_isDone_210 Q 1 σ199 τ199))))) ∧ ((σ 22 a1.toNatClampNeg) = 5 → wX11_isTruck (σ 22 (a1 + 1).toNatClampNeg) σ τ (fun r213 σ213 τ213 => (r213 = 0 → wX11_isDone_231 Q σ213 τ213) ∧ (¬ r213 = 0 → wX11_relaxNow (σ 22 (a1 + 1).toNatClampNeg) σ213 τ213 (fun r221 σ221 τ221 => (r221 < 0 → wX11_isDone_231 Q σ221 τ221) ∧ (¬ r221 < 0 → wX11_isDone_232 Q 1 σ221 τ221))))) ∧ (¬ (σ 22 a1.toNatClampNeg) = 0 → ¬ (σ 22 a1.toNatClampNeg) = 1 → ¬ (σ 22 a1.toNatClampNeg) = 2 → ¬ (σ 22 a1.toNatClampNeg) = 3 → ¬ (σ 22 a1.toNatClampNeg) = 4 → ¬ (σ 22 a1.toNatClampNeg) = 5 → wX11_mergeAllNow σ τ (fun r234 σ234 τ234 => (r234 < 0 → wX11_isDone_245 Q 0 σ234 τ234) ∧ (¬ r234 < 0 → wX11_isDone_245 Q 1 σ234 τ234)))))))
def wX11_play_73 (Q : Int32 → x_S → x_L → Prop) (v2 : Int32) (σ : x_S) (τ : x_L) : Prop :=
  Q v2 σ τ
def wX11_play_49 (Q : Int32 → x_S → x_L → Prop) (K49 : Int32 → x_S → x_L → Prop) (v2 : Int32) (σ : x_S) (τ : x_L) : Prop :=
  ((σ 0 40) ≤ v2 → wX11_play_73 Q v2 σ τ) ∧ (¬ (σ 0 40) ≤ v2 → wX11_isDone (4 * v2) σ τ (fun r61 σ61 τ61 => (r61 = 0 → wX11_play_73 Q v2 σ61 τ61) ∧ (¬ r61 = 0 → K49 (v2 + 1) σ61 τ61)))
def wX11_play_35 (Q : Int32 → x_S → x_L → Prop) (v1 : Int32) (σ : x_S) (τ : x_L) : Prop :=
  (¬ v1 = 0 → x_l1 (wX11_play_49 Q) 0 (x_up σ 0 31 0) τ) ∧ (v1 = 0 → Q (-2) (x_up σ 0 31 0) τ)
def wX11_play_16 (Q : Int32 → x_S → x_L → Prop) (K16 : Int32 → x_S → x_L → Prop) (v1 : Int32) (σ : x_S) (τ : x_L) : Prop :=
  (v1 = 0 → wX11_play_35 Q v1 σ τ) ∧ (¬ v1 = 0 → ((σ 0 35) = 0 → wX11_play_35 Q v1 σ τ) ∧ (¬ (σ 0 35) = 0 → wX11_readCommand σ τ (fun r28 σ28 τ28 => K16 r28 σ28 τ28)))
def wX11_play (σ : x_S) (τ : x_L) (Q : Int32 → x_S → x_L → Prop) : Prop :=
  wX11_beginText (x_up (x_up σ 0 5 0) 0 40 0) τ (fun σ11 τ11 => x_l1 (wX11_play_16 Q) 1 σ11 τ11)
