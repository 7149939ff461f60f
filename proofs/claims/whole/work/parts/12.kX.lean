theorem dX6_sortByKey_0 : decode cX6_sortByKey 0 = .ok (.iload_n 1, 1) := by decide +kernel
theorem dX6_sortByKey_1 : decode cX6_sortByKey 1 = .ok (.iconst 1, 1) := by decide +kernel
theorem dX6_sortByKey_2 : decode cX6_sortByKey 2 = .ok (.iadd, 1) := by decide +kernel
theorem dX6_sortByKey_3 : decode cX6_sortByKey 3 = .ok (.istore_n 3, 1) := by decide +kernel
theorem dX6_sortByKey_4 : decode cX6_sortByKey 4 = .ok (.iload_n 3, 1) := by decide +kernel
theorem dX6_sortByKey_5 : decode cX6_sortByKey 5 = .ok (.iload_n 2, 1) := by decide +kernel
theorem dX6_sortByKey_6 : decode cX6_sortByKey 6 = .ok (.if_icmp .ge 75, 3) := by decide +kernel
theorem dX6_sortByKey_9 : decode cX6_sortByKey 9 = .ok (.aload_n 0, 1) := by decide +kernel
theorem dX6_sortByKey_10 : decode cX6_sortByKey 10 = .ok (.getfield 27, 3) := by decide +kernel
theorem dX6_sortByKey_13 : decode cX6_sortByKey 13 = .ok (.iload_n 3, 1) := by decide +kernel
theorem dX6_sortByKey_14 : decode cX6_sortByKey 14 = .ok (.iaload, 1) := by decide +kernel
theorem dX6_sortByKey_15 : decode cX6_sortByKey 15 = .ok (.istore 4, 2) := by decide +kernel
theorem dX6_sortByKey_17 : decode cX6_sortByKey 17 = .ok (.iload_n 3, 1) := by decide +kernel
theorem dX6_sortByKey_18 : decode cX6_sortByKey 18 = .ok (.istore 5, 2) := by decide +kernel
theorem dX6_sortByKey_20 : decode cX6_sortByKey 20 = .ok (.iload 5, 2) := by decide +kernel
theorem dX6_sortByKey_22 : decode cX6_sortByKey 22 = .ok (.iload_n 1, 1) := by decide +kernel
theorem dX6_sortByKey_23 : decode cX6_sortByKey 23 = .ok (.if_icmp .le 43, 3) := by decide +kernel
theorem dX6_sortByKey_26 : decode cX6_sortByKey 26 = .ok (.aload_n 0, 1) := by decide +kernel
theorem dX6_sortByKey_27 : decode cX6_sortByKey 27 = .ok (.iload 4, 2) := by decide +kernel
theorem dX6_sortByKey_29 : decode cX6_sortByKey 29 = .ok (.aload_n 0, 1) := by decide +kernel
theorem dX6_sortByKey_30 : decode cX6_sortByKey 30 = .ok (.getfield 27, 3) := by decide +kernel
theorem dX6_sortByKey_33 : decode cX6_sortByKey 33 = .ok (.iload 5, 2) := by decide +kernel
theorem dX6_sortByKey_35 : decode cX6_sortByKey 35 = .ok (.iconst 1, 1) := by decide +kernel
theorem dX6_sortByKey_36 : decode cX6_sortByKey 36 = .ok (.isub, 1) := by decide +kernel
theorem dX6_sortByKey_37 : decode cX6_sortByKey 37 = .ok (.iaload, 1) := by decide +kernel
theorem dX6_sortByKey_38 : decode cX6_sortByKey 38 = .ok (.invokevirtual 132, 3) := by decide +kernel
theorem dX6_sortByKey_41 : decode cX6_sortByKey 41 = .ok (.ifCond .eq 25, 3) := by decide +kernel
theorem dX6_sortByKey_44 : decode cX6_sortByKey 44 = .ok (.aload_n 0, 1) := by decide +kernel
theorem dX6_sortByKey_45 : decode cX6_sortByKey 45 = .ok (.getfield 27, 3) := by decide +kernel
theorem dX6_sortByKey_48 : decode cX6_sortByKey 48 = .ok (.iload 5, 2) := by decide +kernel
theorem dX6_sortByKey_50 : decode cX6_sortByKey 50 = .ok (.aload_n 0, 1) := by decide +kernel
theorem dX6_sortByKey_51 : decode cX6_sortByKey 51 = .ok (.getfield 27, 3) := by decide +kernel
theorem dX6_sortByKey_54 : decode cX6_sortByKey 54 = .ok (.iload 5, 2) := by decide +kernel
theorem dX6_sortByKey_56 : decode cX6_sortByKey 56 = .ok (.iconst 1, 1) := by decide +kernel
theorem dX6_sortByKey_57 : decode cX6_sortByKey 57 = .ok (.isub, 1) := by decide +kernel
theorem dX6_sortByKey_58 : decode cX6_sortByKey 58 = .ok (.iaload, 1) := by decide +kernel
theorem dX6_sortByKey_59 : decode cX6_sortByKey 59 = .ok (.iastore, 1) := by decide +kernel
theorem dX6_sortByKey_60 : decode cX6_sortByKey 60 = .ok (.iinc 5 (-1), 3) := by decide +kernel
theorem dX6_sortByKey_63 : decode cX6_sortByKey 63 = .ok (.goto (-43), 3) := by decide +kernel
theorem dX6_sortByKey_66 : decode cX6_sortByKey 66 = .ok (.aload_n 0, 1) := by decide +kernel
theorem dX6_sortByKey_67 : decode cX6_sortByKey 67 = .ok (.getfield 27, 3) := by decide +kernel
theorem dX6_sortByKey_70 : decode cX6_sortByKey 70 = .ok (.iload 5, 2) := by decide +kernel
theorem dX6_sortByKey_72 : decode cX6_sortByKey 72 = .ok (.iload 4, 2) := by decide +kernel
theorem dX6_sortByKey_74 : decode cX6_sortByKey 74 = .ok (.iastore, 1) := by decide +kernel
theorem dX6_sortByKey_75 : decode cX6_sortByKey 75 = .ok (.iinc 3 1, 3) := by decide +kernel
theorem dX6_sortByKey_78 : decode cX6_sortByKey 78 = .ok (.goto (-74), 3) := by decide +kernel
theorem dX6_sortByKey_81 : decode cX6_sortByKey 81 = .ok (.return_, 1) := by decide +kernel
theorem cm_X6_sortByKey : x_CM yX6_sortByKey cX6_sortByKey 6 (Option.none : Option Jvm.ClassFile.FieldType) 2 := ⟨w_3_126, w_1_7, by decide +kernel, by decide +kernel⟩
theorem ci_X6_sortByKey : x_CI yX6_sortByKey 8 := ⟨w_3_125, wp_11, (RX6, TX6, 15), rfl, rfl⟩
set_option maxRecDepth 100000 in
set_option maxHeartbeats 4000000 in
theorem bX6_sortByKey_66 {V : x_J} {ad : Nat → Nat} {t : Nat} {Q : x_S → x_L → Prop} (X : x_Is V cX6_sortByKey 6 RX6 (Option.none : Option Jvm.ClassFile.FieldType) ad dsX 1 (x_PV Q)) (ht : x_pl t) {K4 : Int32 → Int32 → Int32 → x_S → x_L → Prop} (hK4 : ∀ v1 v2 v3 σ τ, K4 v1 v2 v3 σ τ → V σ τ 4 [(0, .ref (ad t)), (1, .int v1), (2, .int v2), (3, .int v3)] []) {v1 : Int32} {v2 : Int32} {v3 : Int32} {v4 : Int32} {v5 : Int32} {σ : x_S} {τ : x_L} (h : wX6_sortByKey_66 t K4 Q v1 v2 v3 v4 v5 σ τ) : V σ τ 66 [(0, .ref (ad t)), (1, .int v1), (2, .int v2), (3, .int v3), (4, .int v4), (5, .int v5)] [] := by
  refine x_aload_n X dX6_sortByKey_66 rfl 0 rfl ?_
  refine x_getR X (j := (t + 6)) dX6_sortByKey_67 fl_6_27 (dsX_pl ht) rfl ?_
  refine x_iload X dX6_sortByKey_70 5 rfl ?_
  refine x_iload X dX6_sortByKey_72 4 rfl ?_
  have g74 := h.1
  have h := h.2
  refine x_iast X dX6_sortByKey_74 (dsX_pl6 ht) g74 ?_
  refine x_iinc X (k := 3) (lv' := [(3, .int (v3 + 1)), (0, .ref (ad t)), (1, .int v1), (2, .int v2), (4, .int v4), (5, .int v5)]) dX6_sortByKey_75 rfl ki_1 (by decide) rfl ?_
  refine x_goto X (tgt := 4) dX6_sortByKey_78 (by decide) ?_
  refine x_sub X [1, 2, 3, 0] (lv' := [(0, .ref (ad t)), (1, .int v1), (2, .int v2), (3, .int (v3 + 1))]) rfl ?_
  exact hK4 _ _ _ _ _ h
set_option maxRecDepth 100000 in
set_option maxHeartbeats 4000000 in
theorem bX6_sortByKey_20 {V : x_J} {ad : Nat → Nat} {t : Nat} {Q : x_S → x_L → Prop} (X : x_Is V cX6_sortByKey 6 RX6 (Option.none : Option Jvm.ClassFile.FieldType) ad dsX 1 (x_PV Q)) (ht : x_pl t) {K4 : Int32 → Int32 → Int32 → x_S → x_L → Prop} {K20 : Int32 → Int32 → Int32 → Int32 → Int32 → x_S → x_L → Prop} (hK4 : ∀ v1 v2 v3 σ τ, K4 v1 v2 v3 σ τ → V σ τ 4 [(0, .ref (ad t)), (1, .int v1), (2, .int v2), (3, .int v3)] []) (hK20 : ∀ v1 v2 v3 v4 v5 σ τ, K20 v1 v2 v3 v4 v5 σ τ → V σ τ 20 [(0, .ref (ad t)), (1, .int v1), (2, .int v2), (3, .int v3), (4, .int v4), (5, .int v5)] []) {v1 : Int32} {v2 : Int32} {v3 : Int32} {v4 : Int32} {v5 : Int32} {σ : x_S} {τ : x_L} (h : wX6_sortByKey_20 t K4 Q K20 v1 v2 v3 v4 v5 σ τ) : V σ τ 20 [(0, .ref (ad t)), (1, .int v1), (2, .int v2), (3, .int v3), (4, .int v4), (5, .int v5)] [] := by
  refine x_iload X dX6_sortByKey_20 5 rfl ?_
  refine x_iload_n X dX6_sortByKey_22 rfl 1 rfl ?_
  refine x_icmp_le X 66 dX6_sortByKey_23 (by decide) (fun hc => ?_) (fun hc => ?_)
  · have h := h.1 hc
    exact bX6_sortByKey_66 X ht hK4 h
  · have h := h.2 hc
    refine x_aload_n X dX6_sortByKey_26 rfl 0 rfl ?_
    refine x_iload X dX6_sortByKey_27 4 rfl ?_
    refine x_aload_n X dX6_sortByKey_29 rfl 0 rfl ?_
    refine x_getR X (j := (t + 6)) dX6_sortByKey_30 fl_6_27 (dsX_pl ht) rfl ?_
    refine x_iload X dX6_sortByKey_33 5 rfl ?_
    refine x_iconst X dX6_sortByKey_35 ki_1 ?_
    refine x_isub X dX6_sortByKey_36 ?_
    have g37 := h.1
    have h := h.2
    refine x_iald X dX6_sortByKey_37 (dsX_pl6 ht) g37 ?_
    refine x_callVi X [.int v4, .int (σ (t + 6) (v5 - 1).toNatClampNeg)] [] dX6_sortByKey_38 (kX6_isAhead ht h) cm_X6_isAhead ci_X6_isAhead w_3_127 (dsX_pl ht) ⟨by decide, by decide⟩ rfl (Nat.le_of_ble_eq_true rfl) (fun r38 σ38 τ38 h => ?_)
    refine x_if_eq X 66 dX6_sortByKey_41 (by decide) (fun hc => ?_) (fun hc => ?_)
    · have h := h.1 hc
      exact bX6_sortByKey_66 X ht hK4 h
    · have h := h.2 hc
      refine x_aload_n X dX6_sortByKey_44 rfl 0 rfl ?_
      refine x_getR X (j := (t + 6)) dX6_sortByKey_45 fl_6_27 (dsX_pl ht) rfl ?_
      refine x_iload X dX6_sortByKey_48 5 rfl ?_
      refine x_aload_n X dX6_sortByKey_50 rfl 0 rfl ?_
      refine x_getR X (j := (t + 6)) dX6_sortByKey_51 fl_6_27 (dsX_pl ht) rfl ?_
      refine x_iload X dX6_sortByKey_54 5 rfl ?_
      refine x_iconst X dX6_sortByKey_56 ki_1 ?_
      refine x_isub X dX6_sortByKey_57 ?_
      refine x_iald X dX6_sortByKey_58 (dsX_pl6 ht) g37 ?_
      have g59 := h.1
      have h := h.2
      refine x_iast X dX6_sortByKey_59 (dsX_pl6 ht) g59 ?_
      refine x_iinc X (k := 5) (lv' := [(5, .int (v5 + (-1))), (0, .ref (ad t)), (1, .int v1), (2, .int v2), (3, .int v3), (4, .int v4)]) dX6_sortByKey_60 rfl ki_m1 (by decide) rfl ?_
      refine x_goto X (tgt := 20) dX6_sortByKey_63 (by decide) ?_
      refine x_sub X [1, 2, 3, 4, 5, 0] (lv' := [(0, .ref (ad t)), (1, .int v1), (2, .int v2), (3, .int v3), (4, .int v4), (5, .int (v5 + (-1)))]) rfl ?_
      exact hK20 _ _ _ _ _ _ _ h
set_option maxRecDepth 100000 in
set_option maxHeartbeats 4000000 in
theorem bX6_sortByKey_4 {V : x_J} {ad : Nat → Nat} {t : Nat} {Q : x_S → x_L → Prop} (X : x_Is V cX6_sortByKey 6 RX6 (Option.none : Option Jvm.ClassFile.FieldType) ad dsX 1 (x_PV Q)) (ht : x_pl t) {K4 : Int32 → Int32 → Int32 → x_S → x_L → Prop} (hK4 : ∀ v1 v2 v3 σ τ, K4 v1 v2 v3 σ τ → V σ τ 4 [(0, .ref (ad t)), (1, .int v1), (2, .int v2), (3, .int v3)] []) {v1 : Int32} {v2 : Int32} {v3 : Int32} {σ : x_S} {τ : x_L} (h : wX6_sortByKey_4 t Q K4 v1 v2 v3 σ τ) : V σ τ 4 [(0, .ref (ad t)), (1, .int v1), (2, .int v2), (3, .int v3)] [] := by
  refine x_iload_n X dX6_sortByKey_4 rfl 3 rfl ?_
  refine x_iload_n X dX6_sortByKey_5 rfl 2 rfl ?_
  refine x_icmp_ge X 81 dX6_sortByKey_6 (by decide) (fun hc => ?_) (fun hc => ?_)
  · have h := h.1 hc
    exact x_vret X dX6_sortByKey_81 ⟨rfl, h⟩
  · have h := h.2 hc
    refine x_aload_n X dX6_sortByKey_9 rfl 0 rfl ?_
    refine x_getR X (j := (t + 6)) dX6_sortByKey_10 fl_6_27 (dsX_pl ht) rfl ?_
    refine x_iload_n X dX6_sortByKey_13 rfl 3 rfl ?_
    have g14 := h.1
    have h := h.2
    refine x_iald X dX6_sortByKey_14 (dsX_pl6 ht) g14 ?_
    refine x_istore X (lv' := [(4, .int (σ (t + 6) v3.toNatClampNeg)), (0, .ref (ad t)), (1, .int v1), (2, .int v2), (3, .int v3)]) dX6_sortByKey_15 (by decide) rfl ?_
    refine x_iload_n X dX6_sortByKey_17 rfl 4 rfl ?_
    refine x_istore X (lv' := [(5, .int v3), (4, .int (σ (t + 6) v3.toNatClampNeg)), (0, .ref (ad t)), (1, .int v1), (2, .int v2), (3, .int v3)]) dX6_sortByKey_18 (by decide) rfl ?_
    refine x_sub X [2, 3, 4, 5, 1, 0] (lv' := [(0, .ref (ad t)), (1, .int v1), (2, .int v2), (3, .int v3), (4, .int (σ (t + 6) v3.toNatClampNeg)), (5, .int v3)]) rfl ?_
    exact x_l5_G (fun v1 v2 v3 v4 v5 σ τ => V σ τ 20 [(0, .ref (ad t)), (1, .int v1), (2, .int v2), (3, .int v3), (4, .int v4), (5, .int v5)] []) (fun K20 hK20 v1 v2 v3 v4 v5 σ τ h => bX6_sortByKey_20 X ht hK4 hK20 h) h
set_option maxRecDepth 100000 in
set_option maxHeartbeats 4000000 in
theorem kX6_sortByKey {ad : Nat → Nat} {t : Nat} (ht : x_pl t) {a1 : Int32} {a2 : Int32} {σ : x_S} {τ : x_L} {Q : x_S → x_L → Prop} (h : wX6_sortByKey t a1 a2 σ τ Q) : x_Met yX6_sortByKey cX6_sortByKey 6 (Option.none : Option Jvm.ClassFile.FieldType) 1 ad dsX [.ref (ad t), .int a1, .int a2] σ τ (x_PV Q) := by
  refine x_met (by decide +kernel) (Nat.le_of_ble_eq_true rfl) (fun V X => ?_)
  have X : x_Is V cX6_sortByKey 6 RX6 (Option.none : Option Jvm.ClassFile.FieldType) ad dsX 1 (x_PV Q) := X
  show V σ τ 0 [(0, .ref (ad t)), (1, .int a1), (2, .int a2)] []
  refine x_iload_n X dX6_sortByKey_0 rfl 1 rfl ?_
  refine x_iconst X dX6_sortByKey_1 ki_1 ?_
  refine x_iadd X dX6_sortByKey_2 ?_
  refine x_istore_n X (lv' := [(3, .int (a1 + 1)), (0, .ref (ad t)), (1, .int a1), (2, .int a2)]) dX6_sortByKey_3 rfl (by decide) rfl ?_
  refine x_sub X [1, 2, 3, 0] (lv' := [(0, .ref (ad t)), (1, .int a1), (2, .int a2), (3, .int (a1 + 1))]) rfl ?_
  exact x_l3_G (fun v1 v2 v3 σ τ => V σ τ 4 [(0, .ref (ad t)), (1, .int v1), (2, .int v2), (3, .int v3)] []) (fun K4 hK4 v1 v2 v3 σ τ h => bX6_sortByKey_4 X ht hK4 h) h
theorem dX6_sortByTime_0 : decode cX6_sortByTime 0 = .ok (.iload_n 1, 1) := by decide +kernel
theorem dX6_sortByTime_1 : decode cX6_sortByTime 1 = .ok (.iconst 1, 1) := by decide +kernel
theorem dX6_sortByTime_2 : decode cX6_sortByTime 2 = .ok (.iadd, 1) := by decide +kernel
theorem dX6_sortByTime_3 : decode cX6_sortByTime 3 = .ok (.istore_n 3, 1) := by decide +kernel
theorem dX6_sortByTime_4 : decode cX6_sortByTime 4 = .ok (.iload_n 3, 1) := by decide +kernel
theorem dX6_sortByTime_5 : decode cX6_sortByTime 5 = .ok (.iload_n 2, 1) := by decide +kernel
theorem dX6_sortByTime_6 : decode cX6_sortByTime 6 = .ok (.if_icmp .ge 75, 3) := by decide +kernel
theorem dX6_sortByTime_9 : decode cX6_sortByTime 9 = .ok (.aload_n 0, 1) := by decide +kernel
theorem dX6_sortByTime_10 : decode cX6_sortByTime 10 = .ok (.getfield 27, 3) := by decide +kernel
theorem dX6_sortByTime_13 : decode cX6_sortByTime 13 = .ok (.iload_n 3, 1) := by decide +kernel
theorem dX6_sortByTime_14 : decode cX6_sortByTime 14 = .ok (.iaload, 1) := by decide +kernel
theorem dX6_sortByTime_15 : decode cX6_sortByTime 15 = .ok (.istore 4, 2) := by decide +kernel
theorem dX6_sortByTime_17 : decode cX6_sortByTime 17 = .ok (.iload_n 3, 1) := by decide +kernel
theorem dX6_sortByTime_18 : decode cX6_sortByTime 18 = .ok (.istore 5, 2) := by decide +kernel
theorem dX6_sortByTime_20 : decode cX6_sortByTime 20 = .ok (.iload 5, 2) := by decide +kernel
theorem dX6_sortByTime_22 : decode cX6_sortByTime 22 = .ok (.iload_n 1, 1) := by decide +kernel
theorem dX6_sortByTime_23 : decode cX6_sortByTime 23 = .ok (.if_icmp .le 43, 3) := by decide +kernel
theorem dX6_sortByTime_26 : decode cX6_sortByTime 26 = .ok (.aload_n 0, 1) := by decide +kernel
theorem dX6_sortByTime_27 : decode cX6_sortByTime 27 = .ok (.iload 4, 2) := by decide +kernel
theorem dX6_sortByTime_29 : decode cX6_sortByTime 29 = .ok (.aload_n 0, 1) := by decide +kernel
theorem dX6_sortByTime_30 : decode cX6_sortByTime 30 = .ok (.getfield 27, 3) := by decide +kernel
theorem dX6_sortByTime_33 : decode cX6_sortByTime 33 = .ok (.iload 5, 2) := by decide +kernel
theorem dX6_sortByTime_35 : decode cX6_sortByTime 35 = .ok (.iconst 1, 1) := by decide +kernel
theorem dX6_sortByTime_36 : decode cX6_sortByTime 36 = .ok (.isub, 1) := by decide +kernel
theorem dX6_sortByTime_37 : decode cX6_sortByTime 37 = .ok (.iaload, 1) := by decide +kernel
theorem dX6_sortByTime_38 : decode cX6_sortByTime 38 = .ok (.invokevirtual 112, 3) := by decide +kernel
theorem dX6_sortByTime_41 : decode cX6_sortByTime 41 = .ok (.ifCond .eq 25, 3) := by decide +kernel
theorem dX6_sortByTime_44 : decode cX6_sortByTime 44 = .ok (.aload_n 0, 1) := by decide +kernel
theorem dX6_sortByTime_45 : decode cX6_sortByTime 45 = .ok (.getfield 27, 3) := by decide +kernel
theorem dX6_sortByTime_48 : decode cX6_sortByTime 48 = .ok (.iload 5, 2) := by decide +kernel
theorem dX6_sortByTime_50 : decode cX6_sortByTime 50 = .ok (.aload_n 0, 1) := by decide +kernel
theorem dX6_sortByTime_51 : decode cX6_sortByTime 51 = .ok (.getfield 27, 3) := by decide +kernel
theorem dX6_sortByTime_54 : decode cX6_sortByTime 54 = .ok (.iload 5, 2) := by decide +kernel
theorem dX6_sortByTime_56 : decode cX6_sortByTime 56 = .ok (.iconst 1, 1) := by decide +kernel
theorem dX6_sortByTime_57 : decode cX6_sortByTime 57 = .ok (.isub, 1) := by decide +kernel
theorem dX6_sortByTime_58 : decode cX6_sortByTime 58 = .ok (.iaload, 1) := by decide +kernel
theorem dX6_sortByTime_59 : decode cX6_sortByTime 59 = .ok (.iastore, 1) := by decide +kernel
theorem dX6_sortByTime_60 : decode cX6_sortByTime 60 = .ok (.iinc 5 (-1), 3) := by decide +kernel
theorem dX6_sortByTime_63 : decode cX6_sortByTime 63 = .ok (.goto (-43), 3) := by decide +kernel
theorem dX6_sortByTime_66 : decode cX6_sortByTime 66 = .ok (.aload_n 0, 1) := by decide +kernel
theorem dX6_sortByTime_67 : decode cX6_sortByTime 67 = .ok (.getfield 27, 3) := by decide +kernel
theorem dX6_sortByTime_70 : decode cX6_sortByTime 70 = .ok (.iload 5, 2) := by decide +kernel
theorem dX6_sortByTime_72 : decode cX6_sortByTime 72 = .ok (.iload 4, 2) := by decide +kernel
theorem dX6_sortByTime_74 : decode cX6_sortByTime 74 = .ok (.iastore, 1) := by decide +kernel
theorem dX6_sortByTime_75 : decode cX6_sortByTime 75 = .ok (.iinc 3 1, 3) := by decide +kernel
theorem dX6_sortByTime_78 : decode cX6_sortByTime 78 = .ok (.goto (-74), 3) := by decide +kernel
theorem dX6_sortByTime_81 : decode cX6_sortByTime 81 = .ok (.return_, 1) := by decide +kernel
theorem cm_X6_sortByTime : x_CM yX6_sortByTime cX6_sortByTime 6 (Option.none : Option Jvm.ClassFile.FieldType) 2 := ⟨w_3_113, w_1_7, by decide +kernel, by decide +kernel⟩
theorem ci_X6_sortByTime : x_CI yX6_sortByTime 8 := ⟨w_3_112, wp_8, (RX6, TX6, 15), rfl, rfl⟩
set_option maxRecDepth 100000 in
set_option maxHeartbeats 4000000 in
theorem bX6_sortByTime_66 {V : x_J} {ad : Nat → Nat} {t : Nat} {Q : x_S → x_L → Prop} (X : x_Is V cX6_sortByTime 6 RX6 (Option.none : Option Jvm.ClassFile.FieldType) ad dsX 1 (x_PV Q)) (ht : x_pl t) {K4 : Int32 → Int32 → Int32 → x_S → x_L → Prop} (hK4 : ∀ v1 v2 v3 σ τ, K4 v1 v2 v3 σ τ → V σ τ 4 [(0, .ref (ad t)), (1, .int v1), (2, .int v2), (3, .int v3)] []) {v1 : Int32} {v2 : Int32} {v3 : Int32} {v4 : Int32} {v5 : Int32} {σ : x_S} {τ : x_L} (h : wX6_sortByTime_66 t K4 Q v1 v2 v3 v4 v5 σ τ) : V σ τ 66 [(0, .ref (ad t)), (1, .int v1), (2, .int v2), (3, .int v3), (4, .int v4), (5, .int v5)] [] := by
  refine x_aload_n X dX6_sortByTime_66 rfl 0 rfl ?_
  refine x_getR X (j := (t + 6)) dX6_sortByTime_67 fl_6_27 (dsX_pl ht) rfl ?_
  refine x_iload X dX6_sortByTime_70 5 rfl ?_
  refine x_iload X dX6_sortByTime_72 4 rfl ?_
  have g74 := h.1
  have h := h.2
  refine x_iast X dX6_sortByTime_74 (dsX_pl6 ht) g74 ?_
  refine x_iinc X (k := 3) (lv' := [(3, .int (v3 + 1)), (0, .ref (ad t)), (1, .int v1), (2, .int v2), (4, .int v4), (5, .int v5)]) dX6_sortByTime_75 rfl ki_1 (by decide) rfl ?_
  refine x_goto X (tgt := 4) dX6_sortByTime_78 (by decide) ?_
  refine x_sub X [1, 2, 3, 0] (lv' := [(0, .ref (ad t)), (1, .int v1), (2, .int v2), (3, .int (v3 + 1))]) rfl ?_
  exact hK4 _ _ _ _ _ h
set_option maxRecDepth 100000 in
set_option maxHeartbeats 4000000 in
theorem bX6_sortByTime_20 {V : x_J} {ad : Nat → Nat} {t : Nat} {Q : x_S → x_L → Prop} (X : x_Is V cX6_sortByTime 6 RX6 (Option.none : Option Jvm.ClassFile.FieldType) ad dsX 1 (x_PV Q)) (ht : x_pl t) {K4 : Int32 → Int32 → Int32 → x_S → x_L → Prop} {K20 : Int32 → Int32 → Int32 → Int32 → Int32 → x_S → x_L → Prop} (hK4 : ∀ v1 v2 v3 σ τ, K4 v1 v2 v3 σ τ → V σ τ 4 [(0, .ref (ad t)), (1, .int v1), (2, .int v2), (3, .int v3)] []) (hK20 : ∀ v1 v2 v3 v4 v5 σ τ, K20 v1 v2 v3 v4 v5 σ τ → V σ τ 20 [(0, .ref (ad t)), (1, .int v1), (2, .int v2), (3, .int v3), (4, .int v4), (5, .int v5)] []) {v1 : Int32} {v2 : Int32} {v3 : Int32} {v4 : Int32} {v5 : Int32} {σ : x_S} {τ : x_L} (h : wX6_sortByTime_20 t K4 Q K20 v1 v2 v3 v4 v5 σ τ) : V σ τ 20 [(0, .ref (ad t)), (1, .int v1), (2, .int v2), (3, .int v3), (4, .int v4), (5, .int v5)] [] := by
  refine x_iload X dX6_sortByTime_20 5 rfl ?_
  refine x_iload_n X dX6_sortByTime_22 rfl 1 rfl ?_
  refine x_icmp_le X 66 dX6_sortByTime_23 (by decide) (fun hc => ?_) (fun hc => ?_)
  · have h := h.1 hc
    exact bX6_sortByTime_66 X ht hK4 h
  · have h := h.2 hc
    refine x_aload_n X dX6_sortByTime_26 rfl 0 rfl ?_
    refine x_iload X dX6_sortByTime_27 4 rfl ?_
    refine x_aload_n X dX6_sortByTime_29 rfl 0 rfl ?_
    refine x_getR X (j := (t + 6)) dX6_sortByTime_30 fl_6_27 (dsX_pl ht) rfl ?_
    refine x_iload X dX6_sortByTime_33 5 rfl ?_
    refine x_iconst X dX6_sortByTime_35 ki_1 ?_
    refine x_isub X dX6_sortByTime_36 ?_
    have g37 := h.1
    have h := h.2
    refine x_iald X dX6_sortByTime_37 (dsX_pl6 ht) g37 ?_
    refine x_callVi X [.int v4, .int (σ (t + 6) (v5 - 1).toNatClampNeg)] [] dX6_sortByTime_38 (kX6_isEarlier ht h) cm_X6_isEarlier ci_X6_isEarlier w_3_114 (dsX_pl ht) ⟨by decide, by decide⟩ rfl (Nat.le_of_ble_eq_true rfl) (fun r38 σ38 τ38 h => ?_)
    refine x_if_eq X 66 dX6_sortByTime_41 (by decide) (fun hc => ?_) (fun hc => ?_)
    · have h := h.1 hc
      exact bX6_sortByTime_66 X ht hK4 h
    · have h := h.2 hc
      refine x_aload_n X dX6_sortByTime_44 rfl 0 rfl ?_
      refine x_getR X (j := (t + 6)) dX6_sortByTime_45 fl_6_27 (dsX_pl ht) rfl ?_
      refine x_iload X dX6_sortByTime_48 5 rfl ?_
      refine x_aload_n X dX6_sortByTime_50 rfl 0 rfl ?_
      refine x_getR X (j := (t + 6)) dX6_sortByTime_51 fl_6_27 (dsX_pl ht) rfl ?_
      refine x_iload X dX6_sortByTime_54 5 rfl ?_
      refine x_iconst X dX6_sortByTime_56 ki_1 ?_
      refine x_isub X dX6_sortByTime_57 ?_
      refine x_iald X dX6_sortByTime_58 (dsX_pl6 ht) g37 ?_
      have g59 := h.1
      have h := h.2
      refine x_iast X dX6_sortByTime_59 (dsX_pl6 ht) g59 ?_
      refine x_iinc X (k := 5) (lv' := [(5, .int (v5 + (-1))), (0, .ref (ad t)), (1, .int v1), (2, .int v2), (3, .int v3), (4, .int v4)]) dX6_sortByTime_60 rfl ki_m1 (by decide) rfl ?_
      refine x_goto X (tgt := 20) dX6_sortByTime_63 (by decide) ?_
      refine x_sub X [1, 2, 3, 4, 5, 0] (lv' := [(0, .ref (ad t)), (1, .int v1), (2, .int v2), (3, .int v3), (4, .int v4), (5, .int (v5 + (-1)))]) rfl ?_
      exact hK20 _ _ _ _ _ _ _ h
set_option maxRecDepth 100000 in
set_option maxHeartbeats 4000000 in
theorem bX6_sortByTime_4 {V : x_J} {ad : Nat → Nat} {t : Nat} {Q : x_S → x_L → Prop} (X : x_Is V cX6_sortByTime 6 RX6 (Option.none : Option Jvm.ClassFile.FieldType) ad dsX 1 (x_PV Q)) (ht : x_pl t) {K4 : Int32 → Int32 → Int32 → x_S → x_L → Prop} (hK4 : ∀ v1 v2 v3 σ τ, K4 v1 v2 v3 σ τ → V σ τ 4 [(0, .ref (ad t)), (1, .int v1), (2, .int v2), (3, .int v3)] []) {v1 : Int32} {v2 : Int32} {v3 : Int32} {σ : x_S} {τ : x_L} (h : wX6_sortByTime_4 t Q K4 v1 v2 v3 σ τ) : V σ τ 4 [(0, .ref (ad t)), (1, .int v1), (2, .int v2), (3, .int v3)] [] := by
  refine x_iload_n X dX6_sortByTime_4 rfl 3 rfl ?_
  refine x_iload_n X dX6_sortByTime_5 rfl 2 rfl ?_
  refine x_icmp_ge X 81 dX6_sortByTime_6 (by decide) (fun hc => ?_) (fun hc => ?_)
  · have h := h.1 hc
    exact x_vret X dX6_sortByTime_81 ⟨rfl, h⟩
  · have h := h.2 hc
    refine x_aload_n X dX6_sortByTime_9 rfl 0 rfl ?_
    refine x_getR X (j := (t + 6)) dX6_sortByTime_10 fl_6_27 (dsX_pl ht) rfl ?_
    refine x_iload_n X dX6_sortByTime_13 rfl 3 rfl ?_
    have g14 := h.1
    have h := h.2
    refine x_iald X dX6_sortByTime_14 (dsX_pl6 ht) g14 ?_
    refine x_istore X (lv' := [(4, .int (σ (t + 6) v3.toNatClampNeg)), (0, .ref (ad t)), (1, .int v1), (2, .int v2), (3, .int v3)]) dX6_sortByTime_15 (by decide) rfl ?_
    refine x_iload_n X dX6_sortByTime_17 rfl 4 rfl ?_
    refine x_istore X (lv' := [(5, .int v3), (4, .int (σ (t + 6) v3.toNatClampNeg)), (0, .ref (ad t)), (1, .int v1), (2, .int v2), (3, .int v3)]) dX6_sortByTime_18 (by decide) rfl ?_
    refine x_sub X [2, 3, 4, 5, 1, 0] (lv' := [(0, .ref (ad t)), (1, .int v1), (2, .int v2), (3, .int v3), (4, .int (σ (t + 6) v3.toNatClampNeg)), (5, .int v3)]) rfl ?_
    exact x_l5_G (fun v1 v2 v3 v4 v5 σ τ => V σ τ 20 [(0, .ref (ad t)), (1, .int v1), (2, .int v2), (3, .int v3), (4, .int v4), (5, .int v5)] []) (fun K20 hK20 v1 v2 v3 v4 v5 σ τ h => bX6_sortByTime_20 X ht hK4 hK20 h) h
set_option maxRecDepth 100000 in
set_option maxHeartbeats 4000000 in
theorem kX6_sortByTime {ad : Nat → Nat} {t : Nat} (ht : x_pl t) {a1 : Int32} {a2 : Int32} {σ : x_S} {τ : x_L} {Q : x_S → x_L → Prop} (h : wX6_sortByTime t a1 a2 σ τ Q) : x_Met yX6_sortByTime cX6_sortByTime 6 (Option.none : Option Jvm.ClassFile.FieldType) 1 ad dsX [.ref (ad t), .int a1, .int a2] σ τ (x_PV Q) := by
  refine x_met (by decide +kernel) (Nat.le_of_ble_eq_true rfl) (fun V X => ?_)
  have X : x_Is V cX6_sortByTime 6 RX6 (Option.none : Option Jvm.ClassFile.FieldType) ad dsX 1 (x_PV Q) := X
  show V σ τ 0 [(0, .ref (ad t)), (1, .int a1), (2, .int a2)] []
  refine x_iload_n X dX6_sortByTime_0 rfl 1 rfl ?_
  refine x_iconst X dX6_sortByTime_1 ki_1 ?_
  refine x_iadd X dX6_sortByTime_2 ?_
  refine x_istore_n X (lv' := [(3, .int (a1 + 1)), (0, .ref (ad t)), (1, .int a1), (2, .int a2)]) dX6_sortByTime_3 rfl (by decide) rfl ?_
  refine x_sub X [1, 2, 3, 0] (lv' := [(0, .ref (ad t)), (1, .int a1), (2, .int a2), (3, .int (a1 + 1))]) rfl ?_
  exact x_l3_G (fun v1 v2 v3 σ τ => V σ τ 4 [(0, .ref (ad t)), (1, .int v1), (2, .int v2), (3, .int v3)] []) (fun K4 hK4 v1 v2 v3 σ τ h => bX6_sortByTime_4 X ht hK4 h) h
theorem dX6_arrange_0 : decode cX6_arrange 0 = .ok (.iconst 0, 1) := by decide +kernel
theorem dX6_arrange_1 : decode cX6_arrange 1 = .ok (.istore_n 1, 1) := by decide +kernel
theorem dX6_arrange_2 : decode cX6_arrange 2 = .ok (.iload_n 1, 1) := by decide +kernel
theorem dX6_arrange_3 : decode cX6_arrange 3 = .ok (.aload_n 0, 1) := by decide +kernel
theorem dX6_arrange_4 : decode cX6_arrange 4 = .ok (.getfield 53, 3) := by decide +kernel
theorem dX6_arrange_7 : decode cX6_arrange 7 = .ok (.getfield 72, 3) := by decide +kernel
theorem dX6_arrange_10 : decode cX6_arrange 10 = .ok (.if_icmp .ge 14, 3) := by decide +kernel
theorem dX6_arrange_13 : decode cX6_arrange 13 = .ok (.aload_n 0, 1) := by decide +kernel
theorem dX6_arrange_14 : decode cX6_arrange 14 = .ok (.iload_n 1, 1) := by decide +kernel
theorem dX6_arrange_15 : decode cX6_arrange 15 = .ok (.invokevirtual 98, 3) := by decide +kernel
theorem dX6_arrange_18 : decode cX6_arrange 18 = .ok (.iinc 1 1, 3) := by decide +kernel
theorem dX6_arrange_21 : decode cX6_arrange 21 = .ok (.goto (-19), 3) := by decide +kernel
theorem dX6_arrange_24 : decode cX6_arrange 24 = .ok (.aload_n 0, 1) := by decide +kernel
theorem dX6_arrange_25 : decode cX6_arrange 25 = .ok (.iconst 0, 1) := by decide +kernel
theorem dX6_arrange_26 : decode cX6_arrange 26 = .ok (.putfield 49, 3) := by decide +kernel
theorem dX6_arrange_29 : decode cX6_arrange 29 = .ok (.iconst 0, 1) := by decide +kernel
theorem dX6_arrange_30 : decode cX6_arrange 30 = .ok (.istore_n 1, 1) := by decide +kernel
theorem dX6_arrange_31 : decode cX6_arrange 31 = .ok (.iload_n 1, 1) := by decide +kernel
theorem dX6_arrange_32 : decode cX6_arrange 32 = .ok (.aload_n 0, 1) := by decide +kernel
theorem dX6_arrange_33 : decode cX6_arrange 33 = .ok (.getfield 53, 3) := by decide +kernel
theorem dX6_arrange_36 : decode cX6_arrange 36 = .ok (.getfield 102, 3) := by decide +kernel
theorem dX6_arrange_39 : decode cX6_arrange 39 = .ok (.if_icmp .ge 112, 3) := by decide +kernel
theorem dX6_arrange_42 : decode cX6_arrange 42 = .ok (.aload_n 0, 1) := by decide +kernel
theorem dX6_arrange_43 : decode cX6_arrange 43 = .ok (.getfield 57, 3) := by decide +kernel
theorem dX6_arrange_46 : decode cX6_arrange 46 = .ok (.getfield 105, 3) := by decide +kernel
theorem dX6_arrange_49 : decode cX6_arrange 49 = .ok (.iload_n 1, 1) := by decide +kernel
theorem dX6_arrange_50 : decode cX6_arrange 50 = .ok (.iaload, 1) := by decide +kernel
theorem dX6_arrange_51 : decode cX6_arrange 51 = .ok (.istore_n 2, 1) := by decide +kernel
theorem dX6_arrange_52 : decode cX6_arrange 52 = .ok (.aload_n 0, 1) := by decide +kernel
theorem dX6_arrange_53 : decode cX6_arrange 53 = .ok (.getfield 57, 3) := by decide +kernel
theorem dX6_arrange_56 : decode cX6_arrange 56 = .ok (.getfield 105, 3) := by decide +kernel
theorem dX6_arrange_59 : decode cX6_arrange 59 = .ok (.iload_n 1, 1) := by decide +kernel
theorem dX6_arrange_60 : decode cX6_arrange 60 = .ok (.iconst 1, 1) := by decide +kernel
theorem dX6_arrange_61 : decode cX6_arrange 61 = .ok (.iadd, 1) := by decide +kernel
theorem dX6_arrange_62 : decode cX6_arrange 62 = .ok (.iaload, 1) := by decide +kernel
theorem dX6_arrange_63 : decode cX6_arrange 63 = .ok (.istore_n 3, 1) := by decide +kernel
theorem dX6_arrange_64 : decode cX6_arrange 64 = .ok (.aload_n 0, 1) := by decide +kernel
theorem dX6_arrange_65 : decode cX6_arrange 65 = .ok (.iload_n 2, 1) := by decide +kernel
theorem dX6_arrange_66 : decode cX6_arrange 66 = .ok (.iload_n 3, 1) := by decide +kernel
theorem dX6_arrange_67 : decode cX6_arrange 67 = .ok (.invokevirtual 108, 3) := by decide +kernel
theorem dX6_arrange_70 : decode cX6_arrange 70 = .ok (.iconst 0, 1) := by decide +kernel
theorem dX6_arrange_71 : decode cX6_arrange 71 = .ok (.istore 4, 2) := by decide +kernel
theorem dX6_arrange_73 : decode cX6_arrange 73 = .ok (.iload_n 2, 1) := by decide +kernel
theorem dX6_arrange_74 : decode cX6_arrange 74 = .ok (.iconst 1, 1) := by decide +kernel
theorem dX6_arrange_75 : decode cX6_arrange 75 = .ok (.iadd, 1) := by decide +kernel
theorem dX6_arrange_76 : decode cX6_arrange 76 = .ok (.istore 5, 2) := by decide +kernel
theorem dX6_arrange_78 : decode cX6_arrange 78 = .ok (.iload 5, 2) := by decide +kernel
theorem dX6_arrange_80 : decode cX6_arrange 80 = .ok (.iload_n 3, 1) := by decide +kernel
theorem dX6_arrange_81 : decode cX6_arrange 81 = .ok (.if_icmp .gt 64, 3) := by decide +kernel
theorem dX6_arrange_84 : decode cX6_arrange 84 = .ok (.iload 5, 2) := by decide +kernel
theorem dX6_arrange_86 : decode cX6_arrange 86 = .ok (.iload_n 3, 1) := by decide +kernel
theorem dX6_arrange_87 : decode cX6_arrange 87 = .ok (.if_icmp .eq 23, 3) := by decide +kernel
theorem dX6_arrange_90 : decode cX6_arrange 90 = .ok (.aload_n 0, 1) := by decide +kernel
theorem dX6_arrange_91 : decode cX6_arrange 91 = .ok (.aload_n 0, 1) := by decide +kernel
theorem dX6_arrange_92 : decode cX6_arrange 92 = .ok (.getfield 27, 3) := by decide +kernel
theorem dX6_arrange_95 : decode cX6_arrange 95 = .ok (.iload_n 2, 1) := by decide +kernel
theorem dX6_arrange_96 : decode cX6_arrange 96 = .ok (.iaload, 1) := by decide +kernel
theorem dX6_arrange_97 : decode cX6_arrange 97 = .ok (.aload_n 0, 1) := by decide +kernel
theorem dX6_arrange_98 : decode cX6_arrange 98 = .ok (.getfield 27, 3) := by decide +kernel
theorem dX6_arrange_101 : decode cX6_arrange 101 = .ok (.iload 5, 2) := by decide +kernel
theorem dX6_arrange_103 : decode cX6_arrange 103 = .ok (.iaload, 1) := by decide +kernel
theorem dX6_arrange_104 : decode cX6_arrange 104 = .ok (.invokevirtual 112, 3) := by decide +kernel
theorem dX6_arrange_107 : decode cX6_arrange 107 = .ok (.ifCond .eq 32, 3) := by decide +kernel
theorem dX6_arrange_110 : decode cX6_arrange 110 = .ok (.aload_n 0, 1) := by decide +kernel
theorem dX6_arrange_111 : decode cX6_arrange 111 = .ok (.iload_n 2, 1) := by decide +kernel
theorem dX6_arrange_112 : decode cX6_arrange 112 = .ok (.iload 5, 2) := by decide +kernel
theorem dX6_arrange_114 : decode cX6_arrange 114 = .ok (.invokevirtual 116, 3) := by decide +kernel
theorem dX6_arrange_117 : decode cX6_arrange 117 = .ok (.aload_n 0, 1) := by decide +kernel
theorem dX6_arrange_118 : decode cX6_arrange 118 = .ok (.iload_n 2, 1) := by decide +kernel
theorem dX6_arrange_119 : decode cX6_arrange 119 = .ok (.iload 5, 2) := by decide +kernel
theorem dX6_arrange_121 : decode cX6_arrange 121 = .ok (.invokevirtual 119, 3) := by decide +kernel
theorem dX6_arrange_124 : decode cX6_arrange 124 = .ok (.aload_n 0, 1) := by decide +kernel
theorem dX6_arrange_125 : decode cX6_arrange 125 = .ok (.iload_n 2, 1) := by decide +kernel
theorem dX6_arrange_126 : decode cX6_arrange 126 = .ok (.iload 5, 2) := by decide +kernel
theorem dX6_arrange_128 : decode cX6_arrange 128 = .ok (.iload 4, 2) := by decide +kernel
theorem dX6_arrange_130 : decode cX6_arrange 130 = .ok (.invokevirtual 122, 3) := by decide +kernel
theorem dX6_arrange_133 : decode cX6_arrange 133 = .ok (.iinc 4 1, 3) := by decide +kernel
theorem dX6_arrange_136 : decode cX6_arrange 136 = .ok (.iload 5, 2) := by decide +kernel
theorem dX6_arrange_138 : decode cX6_arrange 138 = .ok (.istore_n 2, 1) := by decide +kernel
theorem dX6_arrange_139 : decode cX6_arrange 139 = .ok (.iinc 5 1, 3) := by decide +kernel
theorem dX6_arrange_142 : decode cX6_arrange 142 = .ok (.goto (-64), 3) := by decide +kernel
theorem dX6_arrange_145 : decode cX6_arrange 145 = .ok (.iinc 1 1, 3) := by decide +kernel
theorem dX6_arrange_148 : decode cX6_arrange 148 = .ok (.goto (-117), 3) := by decide +kernel
theorem dX6_arrange_151 : decode cX6_arrange 151 = .ok (.return_, 1) := by decide +kernel
theorem cm_X6_arrange : x_CM yX6_arrange cX6_arrange 6 (Option.none : Option Jvm.ClassFile.FieldType) 0 := ⟨w_3_101, w_1_7, by decide +kernel, by decide +kernel⟩
theorem ci_X6_arrange : x_CI yX6_arrange 8 := ⟨w_3_99, w_3_100, (RX6, TX6, 15), rfl, rfl⟩
set_option maxRecDepth 100000 in
set_option maxHeartbeats 4000000 in
theorem bX6_arrange_139 {V : x_J} {ad : Nat → Nat} {t : Nat} {Q : x_S → x_L → Prop} (X : x_Is V cX6_arrange 6 RX6 (Option.none : Option Jvm.ClassFile.FieldType) ad dsX 2 (x_PV Q)) (ht : x_pl t) {K31 : Int32 → x_S → x_L → Prop} {K78 : Int32 → Int32 → Int32 → Int32 → Int32 → x_S → x_L → Prop} (hK31 : ∀ v1 σ τ, K31 v1 σ τ → V σ τ 31 [(0, .ref (ad t)), (1, .int v1)] []) (hK78 : ∀ v1 v2 v3 v4 v5 σ τ, K78 v1 v2 v3 v4 v5 σ τ → V σ τ 78 [(0, .ref (ad t)), (1, .int v1), (2, .int v2), (3, .int v3), (4, .int v4), (5, .int v5)] []) {v1 : Int32} {v2 : Int32} {v3 : Int32} {v4 : Int32} {v5 : Int32} {σ : x_S} {τ : x_L} (h : wX6_arrange_139 t K31 K78 Q v1 v2 v3 v4 v5 σ τ) : V σ τ 139 [(0, .ref (ad t)), (1, .int v1), (2, .int v2), (3, .int v3), (4, .int v4), (5, .int v5)] [] := by
  refine x_iinc X (k := 5) (lv' := [(5, .int (v5 + 1)), (0, .ref (ad t)), (1, .int v1), (2, .int v2), (3, .int v3), (4, .int v4)]) dX6_arrange_139 rfl ki_1 (by decide) rfl ?_
  refine x_goto X (tgt := 78) dX6_arrange_142 (by decide) ?_
  refine x_sub X [1, 2, 3, 4, 5, 0] (lv' := [(0, .ref (ad t)), (1, .int v1), (2, .int v2), (3, .int v3), (4, .int v4), (5, .int (v5 + 1))]) rfl ?_
  exact hK78 _ _ _ _ _ _ _ h
set_option maxRecDepth 100000 in
set_option maxHeartbeats 4000000 in
theorem bX6_arrange_110 {V : x_J} {ad : Nat → Nat} {t : Nat} {Q : x_S → x_L → Prop} (X : x_Is V cX6_arrange 6 RX6 (Option.none : Option Jvm.ClassFile.FieldType) ad dsX 2 (x_PV Q)) (ht : x_pl t) {K31 : Int32 → x_S → x_L → Prop} {K78 : Int32 → Int32 → Int32 → Int32 → Int32 → x_S → x_L → Prop} (hK31 : ∀ v1 σ τ, K31 v1 σ τ → V σ τ 31 [(0, .ref (ad t)), (1, .int v1)] []) (hK78 : ∀ v1 v2 v3 v4 v5 σ τ, K78 v1 v2 v3 v4 v5 σ τ → V σ τ 78 [(0, .ref (ad t)), (1, .int v1), (2, .int v2), (3, .int v3), (4, .int v4), (5, .int v5)] []) {v1 : Int32} {v2 : Int32} {v3 : Int32} {v4 : Int32} {v5 : Int32} {σ : x_S} {τ : x_L} (h : wX6_arrange_110 t K31 K78 Q v1 v2 v3 v4 v5 σ τ) : V σ τ 110 [(0, .ref (ad t)), (1, .int v1), (2, .int v2), (3, .int v3), (4, .int v4), (5, .int v5)] [] := by
  refine x_aload_n X dX6_arrange_110 rfl 0 rfl ?_
  refine x_iload_n X dX6_arrange_111 rfl 2 rfl ?_
  refine x_iload X dX6_arrange_112 5 rfl ?_
  refine x_callVv X [.int v2, .int v5] [] dX6_arrange_114 (kX6_setKeys ht h) cm_X6_setKeys ci_X6_setKeys w_3_118 (dsX_pl ht) ⟨by decide, by decide⟩ rfl (Nat.le_of_ble_eq_true rfl) (fun σ114 τ114 h => ?_)
  refine x_aload_n X dX6_arrange_117 rfl 0 rfl ?_
  refine x_iload_n X dX6_arrange_118 rfl 2 rfl ?_
  refine x_iload X dX6_arrange_119 5 rfl ?_
  refine x_callVv X [.int v2, .int v5] [] dX6_arrange_121 (kX6_sortByKey ht h) cm_X6_sortByKey ci_X6_sortByKey w_3_123 (dsX_pl ht) ⟨by decide, by decide⟩ rfl (Nat.le_of_ble_eq_true rfl) (fun σ121 τ121 h => ?_)
  refine x_aload_n X dX6_arrange_124 rfl 0 rfl ?_
  refine x_iload_n X dX6_arrange_125 rfl 2 rfl ?_
  refine x_iload X dX6_arrange_126 5 rfl ?_
  refine x_iload X dX6_arrange_128 4 rfl ?_
  refine x_callVv X [.int v2, .int v5, .int v4] [] dX6_arrange_130 (kX6_setPlatoon ht h) cm_X6_setPlatoon ci_X6_setPlatoon w_3_131 (dsX_pl ht) ⟨by decide, by decide⟩ rfl (Nat.le_of_ble_eq_true rfl) (fun σ130 τ130 h => ?_)
  refine x_iinc X (k := 4) (lv' := [(4, .int (v4 + 1)), (0, .ref (ad t)), (1, .int v1), (2, .int v2), (3, .int v3), (5, .int v5)]) dX6_arrange_133 rfl ki_1 (by decide) rfl ?_
  refine x_iload X dX6_arrange_136 5 rfl ?_
  refine x_istore_n X (lv' := [(2, .int v5), (4, .int (v4 + 1)), (0, .ref (ad t)), (1, .int v1), (3, .int v3), (5, .int v5)]) dX6_arrange_138 rfl (by decide) rfl ?_
  refine x_sub X [2, 3, 0, 4, 1, 5] (lv' := [(0, .ref (ad t)), (1, .int v1), (2, .int v5), (3, .int v3), (4, .int (v4 + 1)), (5, .int v5)]) rfl ?_
  exact bX6_arrange_139 X ht hK31 hK78 h
set_option maxRecDepth 100000 in
set_option maxHeartbeats 4000000 in
theorem bX6_arrange_78 {V : x_J} {ad : Nat → Nat} {t : Nat} {Q : x_S → x_L → Prop} (X : x_Is V cX6_arrange 6 RX6 (Option.none : Option Jvm.ClassFile.FieldType) ad dsX 2 (x_PV Q)) (ht : x_pl t) {K31 : Int32 → x_S → x_L → Prop} {K78 : Int32 → Int32 → Int32 → Int32 → Int32 → x_S → x_L → Prop} (hK31 : ∀ v1 σ τ, K31 v1 σ τ → V σ τ 31 [(0, .ref (ad t)), (1, .int v1)] []) (hK78 : ∀ v1 v2 v3 v4 v5 σ τ, K78 v1 v2 v3 v4 v5 σ τ → V σ τ 78 [(0, .ref (ad t)), (1, .int v1), (2, .int v2), (3, .int v3), (4, .int v4), (5, .int v5)] []) {v1 : Int32} {v2 : Int32} {v3 : Int32} {v4 : Int32} {v5 : Int32} {σ : x_S} {τ : x_L} (h : wX6_arrange_78 t K31 Q K78 v1 v2 v3 v4 v5 σ τ) : V σ τ 78 [(0, .ref (ad t)), (1, .int v1), (2, .int v2), (3, .int v3), (4, .int v4), (5, .int v5)] [] := by
  refine x_iload X dX6_arrange_78 5 rfl ?_
  refine x_iload_n X dX6_arrange_80 rfl 3 rfl ?_
  refine x_icmp_gt X 145 dX6_arrange_81 (by decide) (fun hc => ?_) (fun hc => ?_)
  · have h := h.1 hc
    refine x_iinc X (k := 1) (lv' := [(1, .int (v1 + 1)), (0, .ref (ad t)), (2, .int v2), (3, .int v3), (4, .int v4), (5, .int v5)]) dX6_arrange_145 rfl ki_1 (by decide) rfl ?_
    refine x_goto X (tgt := 31) dX6_arrange_148 (by decide) ?_
    refine x_sub X [1, 0] (lv' := [(0, .ref (ad t)), (1, .int (v1 + 1))]) rfl ?_
    exact hK31 _ _ _ h
  · have h := h.2 hc
    refine x_iload X dX6_arrange_84 5 rfl ?_
    refine x_iload_n X dX6_arrange_86 rfl 3 rfl ?_
    refine x_icmp_eq X 110 dX6_arrange_87 (by decide) (fun hc => ?_) (fun hc => ?_)
    · have h := h.1 hc
      exact bX6_arrange_110 X ht hK31 hK78 h
    · have h := h.2 hc
      refine x_aload_n X dX6_arrange_90 rfl 0 rfl ?_
      refine x_aload_n X dX6_arrange_91 rfl 0 rfl ?_
      refine x_getR X (j := (t + 6)) dX6_arrange_92 fl_6_27 (dsX_pl ht) rfl ?_
      refine x_iload_n X dX6_arrange_95 rfl 2 rfl ?_
      have g96 := h.1
      have h := h.2
      refine x_iald X dX6_arrange_96 (dsX_pl6 ht) g96 ?_
      refine x_aload_n X dX6_arrange_97 rfl 0 rfl ?_
      refine x_getR X (j := (t + 6)) dX6_arrange_98 fl_6_27 (dsX_pl ht) rfl ?_
      refine x_iload X dX6_arrange_101 5 rfl ?_
      have g103 := h.1
      have h := h.2
      refine x_iald X dX6_arrange_103 (dsX_pl6 ht) g103 ?_
      refine x_callVi X [.int (σ (t + 6) v2.toNatClampNeg), .int (σ (t + 6) v5.toNatClampNeg)] [] dX6_arrange_104 (kX6_isEarlier ht h) cm_X6_isEarlier ci_X6_isEarlier w_3_114 (dsX_pl ht) ⟨by decide, by decide⟩ rfl (Nat.le_of_ble_eq_true rfl) (fun r104 σ104 τ104 h => ?_)
      refine x_if_eq X 139 dX6_arrange_107 (by decide) (fun hc => ?_) (fun hc => ?_)
      · have h := h.1 hc
        exact bX6_arrange_139 X ht hK31 hK78 h
      · have h := h.2 hc
        exact bX6_arrange_110 X ht hK31 hK78 h
set_option maxRecDepth 100000 in
set_option maxHeartbeats 4000000 in
theorem bX6_arrange_31 {V : x_J} {ad : Nat → Nat} {t : Nat} {Q : x_S → x_L → Prop} (X : x_Is V cX6_arrange 6 RX6 (Option.none : Option Jvm.ClassFile.FieldType) ad dsX 2 (x_PV Q)) (ht : x_pl t) {K31 : Int32 → x_S → x_L → Prop} (hK31 : ∀ v1 σ τ, K31 v1 σ τ → V σ τ 31 [(0, .ref (ad t)), (1, .int v1)] []) {v1 : Int32} {σ : x_S} {τ : x_L} (h : wX6_arrange_31 t Q K31 v1 σ τ) : V σ τ 31 [(0, .ref (ad t)), (1, .int v1)] [] := by
  refine x_iload_n X dX6_arrange_31 rfl 1 rfl ?_
  refine x_aload_n X dX6_arrange_32 rfl 0 rfl ?_
  refine x_getR X (j := 3) dX6_arrange_33 fl_6_53 (dsX_pl ht) rfl ?_
  refine x_getI X dX6_arrange_36 fl_6_102 dsX_3 rfl ?_
  refine x_icmp_ge X 151 dX6_arrange_39 (by decide) (fun hc => ?_) (fun hc => ?_)
  · have h := h.1 hc
    exact x_vret X dX6_arrange_151 ⟨rfl, h⟩
  · have h := h.2 hc
    refine x_aload_n X dX6_arrange_42 rfl 0 rfl ?_
    refine x_getR X (j := 27) dX6_arrange_43 fl_6_57 (dsX_pl ht) rfl ?_
    refine x_getR X (j := 29) dX6_arrange_46 fl_6_105 dsX_27 rfl ?_
    refine x_iload_n X dX6_arrange_49 rfl 1 rfl ?_
    have g50 := h.1
    have h := h.2
    refine x_iald X dX6_arrange_50 dsX_29 g50 ?_
    refine x_istore_n X (lv' := [(2, .int (σ 29 v1.toNatClampNeg)), (0, .ref (ad t)), (1, .int v1)]) dX6_arrange_51 rfl (by decide) rfl ?_
    refine x_aload_n X dX6_arrange_52 rfl 1 rfl ?_
    refine x_getR X (j := 27) dX6_arrange_53 fl_6_57 (dsX_pl ht) rfl ?_
    refine x_getR X (j := 29) dX6_arrange_56 fl_6_105 dsX_27 rfl ?_
    refine x_iload_n X dX6_arrange_59 rfl 2 rfl ?_
    refine x_iconst X dX6_arrange_60 ki_1 ?_
    refine x_iadd X dX6_arrange_61 ?_
    have g62 := h.1
    have h := h.2
    refine x_iald X dX6_arrange_62 dsX_29 g62 ?_
    refine x_istore_n X (lv' := [(3, .int (σ 29 (v1 + 1).toNatClampNeg)), (2, .int (σ 29 v1.toNatClampNeg)), (0, .ref (ad t)), (1, .int v1)]) dX6_arrange_63 rfl (by decide) rfl ?_
    refine x_aload_n X dX6_arrange_64 rfl 2 rfl ?_
    refine x_iload_n X dX6_arrange_65 rfl 1 rfl ?_
    refine x_iload_n X dX6_arrange_66 rfl 0 rfl ?_
    refine x_callVv X [.int (σ 29 v1.toNatClampNeg), .int (σ 29 (v1 + 1).toNatClampNeg)] [] dX6_arrange_67 (kX6_sortByTime ht h) cm_X6_sortByTime ci_X6_sortByTime w_3_110 (dsX_pl ht) ⟨by decide, by decide⟩ rfl (Nat.le_of_ble_eq_true rfl) (fun σ67 τ67 h => ?_)
    refine x_iconst X dX6_arrange_70 ki_0 ?_
    refine x_istore X (lv' := [(4, .int 0), (3, .int (σ 29 (v1 + 1).toNatClampNeg)), (2, .int (σ 29 v1.toNatClampNeg)), (0, .ref (ad t)), (1, .int v1)]) dX6_arrange_71 (by decide) rfl ?_
    refine x_iload_n X dX6_arrange_73 rfl 2 rfl ?_
    refine x_iconst X dX6_arrange_74 ki_1 ?_
    refine x_iadd X dX6_arrange_75 ?_
    refine x_istore X (lv' := [(5, .int ((σ 29 v1.toNatClampNeg) + 1)), (4, .int 0), (3, .int (σ 29 (v1 + 1).toNatClampNeg)), (2, .int (σ 29 v1.toNatClampNeg)), (0, .ref (ad t)), (1, .int v1)]) dX6_arrange_76 (by decide) rfl ?_
    refine x_sub X [4, 5, 3, 2, 1, 0] (lv' := [(0, .ref (ad t)), (1, .int v1), (2, .int (σ 29 v1.toNatClampNeg)), (3, .int (σ 29 (v1 + 1).toNatClampNeg)), (4, .int 0), (5, .int ((σ 29 v1.toNatClampNeg) + 1))]) rfl ?_
    exact x_l5_G (fun v1 v2 v3 v4 v5 σ τ => V σ τ 78 [(0, .ref (ad t)), (1, .int v1), (2, .int v2), (3, .int v3), (4, .int v4), (5, .int v5)] []) (fun K78 hK78 v1 v2 v3 v4 v5 σ τ h => bX6_arrange_78 X ht hK31 hK78 h) h
set_option maxRecDepth 100000 in
set_option maxHeartbeats 4000000 in
theorem bX6_arrange_2 {V : x_J} {ad : Nat → Nat} {t : Nat} {Q : x_S → x_L → Prop} (X : x_Is V cX6_arrange 6 RX6 (Option.none : Option Jvm.ClassFile.FieldType) ad dsX 2 (x_PV Q)) (ht : x_pl t) {K2 : Int32 → x_S → x_L → Prop} (hK2 : ∀ v1 σ τ, K2 v1 σ τ → V σ τ 2 [(0, .ref (ad t)), (1, .int v1)] []) {v1 : Int32} {σ : x_S} {τ : x_L} (h : wX6_arrange_2 t Q K2 v1 σ τ) : V σ τ 2 [(0, .ref (ad t)), (1, .int v1)] [] := by
  refine x_iload_n X dX6_arrange_2 rfl 1 rfl ?_
  refine x_aload_n X dX6_arrange_3 rfl 0 rfl ?_
  refine x_getR X (j := 3) dX6_arrange_4 fl_6_53 (dsX_pl ht) rfl ?_
  refine x_getI X dX6_arrange_7 fl_6_72 dsX_3 rfl ?_
  refine x_icmp_ge X 24 dX6_arrange_10 (by decide) (fun hc => ?_) (fun hc => ?_)
  · have h := h.1 hc
    refine x_aload_n X dX6_arrange_24 rfl 0 rfl ?_
    refine x_iconst X dX6_arrange_25 ki_0 ?_
    refine x_putI X dX6_arrange_26 fl_6_49 ft_6_14 (dsX_pl ht) rfl ?_
    refine x_iconst X dX6_arrange_29 ki_0 ?_
    refine x_istore_n X (lv' := [(1, .int 0), (0, .ref (ad t))]) dX6_arrange_30 rfl (by decide) rfl ?_
    refine x_sub X [1, 0] (lv' := [(0, .ref (ad t)), (1, .int 0)]) rfl ?_
    exact x_l1_G (fun v1 σ τ => V σ τ 31 [(0, .ref (ad t)), (1, .int v1)] []) (fun K31 hK31 v1 σ τ h => bX6_arrange_31 X ht hK31 h) h
  · have h := h.2 hc
    refine x_aload_n X dX6_arrange_13 rfl 0 rfl ?_
    refine x_iload_n X dX6_arrange_14 rfl 1 rfl ?_
    refine x_callVv X [.int v1] [] dX6_arrange_15 (kX6_setTimes ht h) cm_X6_setTimes ci_X6_setTimes w_3_102 (dsX_pl ht) ⟨by decide, by decide⟩ rfl (Nat.le_of_ble_eq_true rfl) (fun σ15 τ15 h => ?_)
    refine x_iinc X (k := 1) (lv' := [(1, .int (v1 + 1)), (0, .ref (ad t))]) dX6_arrange_18 rfl ki_1 (by decide) rfl ?_
    refine x_goto X (tgt := 2) dX6_arrange_21 (by decide) ?_
    refine x_sub X [1, 0] (lv' := [(0, .ref (ad t)), (1, .int (v1 + 1))]) rfl ?_
    exact hK2 _ _ _ h
set_option maxRecDepth 100000 in
set_option maxHeartbeats 4000000 in
theorem kX6_arrange {ad : Nat → Nat} {t : Nat} (ht : x_pl t) {σ : x_S} {τ : x_L} {Q : x_S → x_L → Prop} (h : wX6_arrange t σ τ Q) : x_Met yX6_arrange cX6_arrange 6 (Option.none : Option Jvm.ClassFile.FieldType) 2 ad dsX [.ref (ad t)] σ τ (x_PV Q) := by
  refine x_met (by decide +kernel) (Nat.le_of_ble_eq_true rfl) (fun V X => ?_)
  have X : x_Is V cX6_arrange 6 RX6 (Option.none : Option Jvm.ClassFile.FieldType) ad dsX 2 (x_PV Q) := X
  show V σ τ 0 [(0, .ref (ad t))] []
  refine x_iconst X dX6_arrange_0 ki_0 ?_
  refine x_istore_n X (lv' := [(1, .int 0), (0, .ref (ad t))]) dX6_arrange_1 rfl (by decide) rfl ?_
  refine x_sub X [1, 0] (lv' := [(0, .ref (ad t)), (1, .int 0)]) rfl ?_
  exact x_l1_G (fun v1 σ τ => V σ τ 2 [(0, .ref (ad t)), (1, .int v1)] []) (fun K2 hK2 v1 σ τ h => bX6_arrange_2 X ht hK2 h) h
theorem dX6_begin_0 : decode cX6_begin 0 = .ok (.aload_n 0, 1) := by decide +kernel
theorem dX6_begin_1 : decode cX6_begin 1 = .ok (.getfield 53, 3) := by decide +kernel
theorem dX6_begin_4 : decode cX6_begin 4 = .ok (.getfield 61, 3) := by decide +kernel
theorem dX6_begin_7 : decode cX6_begin 7 = .ok (.iconst 0, 1) := by decide +kernel
theorem dX6_begin_8 : decode cX6_begin 8 = .ok (.aload_n 0, 1) := by decide +kernel
theorem dX6_begin_9 : decode cX6_begin 9 = .ok (.getfield 9, 3) := by decide +kernel
theorem dX6_begin_12 : decode cX6_begin 12 = .ok (.iconst 0, 1) := by decide +kernel
theorem dX6_begin_13 : decode cX6_begin 13 = .ok (.bipush 12, 2) := by decide +kernel
theorem dX6_begin_15 : decode cX6_begin 15 = .ok (.invokestatic 66, 3) := by decide +kernel
theorem dX6_begin_18 : decode cX6_begin 18 = .ok (.iconst 0, 1) := by decide +kernel
theorem dX6_begin_19 : decode cX6_begin 19 = .ok (.istore_n 1, 1) := by decide +kernel
theorem dX6_begin_20 : decode cX6_begin 20 = .ok (.iload_n 1, 1) := by decide +kernel
theorem dX6_begin_21 : decode cX6_begin 21 = .ok (.aload_n 0, 1) := by decide +kernel
theorem dX6_begin_22 : decode cX6_begin 22 = .ok (.getfield 53, 3) := by decide +kernel
theorem dX6_begin_25 : decode cX6_begin 25 = .ok (.getfield 72, 3) := by decide +kernel
theorem dX6_begin_28 : decode cX6_begin 28 = .ok (.if_icmp .ge 68, 3) := by decide +kernel
theorem dX6_begin_31 : decode cX6_begin 31 = .ok (.iload_n 1, 1) := by decide +kernel
theorem dX6_begin_32 : decode cX6_begin 32 = .ok (.bipush 10, 2) := by decide +kernel
theorem dX6_begin_34 : decode cX6_begin 34 = .ok (.imul, 1) := by decide +kernel
theorem dX6_begin_35 : decode cX6_begin 35 = .ok (.istore_n 2, 1) := by decide +kernel
theorem dX6_begin_36 : decode cX6_begin 36 = .ok (.iload_n 2, 1) := by decide +kernel
theorem dX6_begin_37 : decode cX6_begin 37 = .ok (.aload_n 0, 1) := by decide +kernel
theorem dX6_begin_38 : decode cX6_begin 38 = .ok (.getfield 57, 3) := by decide +kernel
theorem dX6_begin_41 : decode cX6_begin 41 = .ok (.getfield 75, 3) := by decide +kernel
theorem dX6_begin_44 : decode cX6_begin 44 = .ok (.iload_n 1, 1) := by decide +kernel
theorem dX6_begin_45 : decode cX6_begin 45 = .ok (.iaload, 1) := by decide +kernel
theorem dX6_begin_46 : decode cX6_begin 46 = .ok (.if_icmp .ge 44, 3) := by decide +kernel
theorem dX6_begin_49 : decode cX6_begin 49 = .ok (.aload_n 0, 1) := by decide +kernel
theorem dX6_begin_50 : decode cX6_begin 50 = .ok (.getfield 15, 3) := by decide +kernel
theorem dX6_begin_53 : decode cX6_begin 53 = .ok (.iload_n 2, 1) := by decide +kernel
theorem dX6_begin_54 : decode cX6_begin 54 = .ok (.iconst 0, 1) := by decide +kernel
theorem dX6_begin_55 : decode cX6_begin 55 = .ok (.iastore, 1) := by decide +kernel
theorem dX6_begin_56 : decode cX6_begin 56 = .ok (.aload_n 0, 1) := by decide +kernel
theorem dX6_begin_57 : decode cX6_begin 57 = .ok (.getfield 18, 3) := by decide +kernel
theorem dX6_begin_60 : decode cX6_begin 60 = .ok (.iload_n 2, 1) := by decide +kernel
theorem dX6_begin_61 : decode cX6_begin 61 = .ok (.bipush 80, 2) := by decide +kernel
theorem dX6_begin_63 : decode cX6_begin 63 = .ok (.aload_n 0, 1) := by decide +kernel
theorem dX6_begin_64 : decode cX6_begin 64 = .ok (.getfield 53, 3) := by decide +kernel
theorem dX6_begin_67 : decode cX6_begin 67 = .ok (.getfield 80, 3) := by decide +kernel
theorem dX6_begin_70 : decode cX6_begin 70 = .ok (.aload_n 0, 1) := by decide +kernel
theorem dX6_begin_71 : decode cX6_begin 71 = .ok (.getfield 53, 3) := by decide +kernel
theorem dX6_begin_74 : decode cX6_begin 74 = .ok (.getfield 83, 3) := by decide +kernel
theorem dX6_begin_77 : decode cX6_begin 77 = .ok (.iload_n 2, 1) := by decide +kernel
theorem dX6_begin_78 : decode cX6_begin 78 = .ok (.iaload, 1) := by decide +kernel
theorem dX6_begin_79 : decode cX6_begin 79 = .ok (.iaload, 1) := by decide +kernel
theorem dX6_begin_80 : decode cX6_begin 80 = .ok (.invokestatic 86, 3) := by decide +kernel
theorem dX6_begin_83 : decode cX6_begin 83 = .ok (.iastore, 1) := by decide +kernel
theorem dX6_begin_84 : decode cX6_begin 84 = .ok (.iinc 2 1, 3) := by decide +kernel
theorem dX6_begin_87 : decode cX6_begin 87 = .ok (.goto (-51), 3) := by decide +kernel
theorem dX6_begin_90 : decode cX6_begin 90 = .ok (.iinc 1 1, 3) := by decide +kernel
theorem dX6_begin_93 : decode cX6_begin 93 = .ok (.goto (-73), 3) := by decide +kernel
theorem dX6_begin_96 : decode cX6_begin 96 = .ok (.aload_n 0, 1) := by decide +kernel
theorem dX6_begin_97 : decode cX6_begin 97 = .ok (.getfield 57, 3) := by decide +kernel
theorem dX6_begin_100 : decode cX6_begin 100 = .ok (.getfield 92, 3) := by decide +kernel
theorem dX6_begin_103 : decode cX6_begin 103 = .ok (.iconst 0, 1) := by decide +kernel
theorem dX6_begin_104 : decode cX6_begin 104 = .ok (.aload_n 0, 1) := by decide +kernel
theorem dX6_begin_105 : decode cX6_begin 105 = .ok (.getfield 27, 3) := by decide +kernel
theorem dX6_begin_108 : decode cX6_begin 108 = .ok (.iconst 0, 1) := by decide +kernel
theorem dX6_begin_109 : decode cX6_begin 109 = .ok (.bipush 120, 2) := by decide +kernel
theorem dX6_begin_111 : decode cX6_begin 111 = .ok (.invokestatic 66, 3) := by decide +kernel
theorem dX6_begin_114 : decode cX6_begin 114 = .ok (.aload_n 0, 1) := by decide +kernel
theorem dX6_begin_115 : decode cX6_begin 115 = .ok (.invokevirtual 95, 3) := by decide +kernel
theorem dX6_begin_118 : decode cX6_begin 118 = .ok (.return_, 1) := by decide +kernel
theorem cm_X6_begin : x_CM yX6_begin cX6_begin 3 (Option.none : Option Jvm.ClassFile.FieldType) 0 := ⟨w_3_93, w_1_7, by decide +kernel, by decide +kernel⟩
theorem ci_X6_begin : x_CI yX6_begin 8 := ⟨w_3_91, w_3_92, (RX6, TX6, 15), rfl, rfl⟩
set_option maxRecDepth 100000 in
set_option maxHeartbeats 4000000 in
theorem bX6_begin_36 {V : x_J} {ad : Nat → Nat} {t : Nat} {Q : x_S → x_L → Prop} (X : x_Is V cX6_begin 3 RX6 (Option.none : Option Jvm.ClassFile.FieldType) ad dsX 3 (x_PV Q)) (ht : x_pl t) {K20 : Int32 → x_S → x_L → Prop} {K36 : Int32 → Int32 → x_S → x_L → Prop} (hK20 : ∀ v1 σ τ, K20 v1 σ τ → V σ τ 20 [(0, .ref (ad t)), (1, .int v1)] []) (hK36 : ∀ v1 v2 σ τ, K36 v1 v2 σ τ → V σ τ 36 [(0, .ref (ad t)), (1, .int v1), (2, .int v2)] []) {v1 : Int32} {v2 : Int32} {σ : x_S} {τ : x_L} (h : wX6_begin_36 t K20 Q K36 v1 v2 σ τ) : V σ τ 36 [(0, .ref (ad t)), (1, .int v1), (2, .int v2)] [] := by
  refine x_iload_n X dX6_begin_36 rfl 2 rfl ?_
  refine x_aload_n X dX6_begin_37 rfl 0 rfl ?_
  refine x_getR X (j := 27) dX6_begin_38 fl_6_57 (dsX_pl ht) rfl ?_
  refine x_getR X (j := 30) dX6_begin_41 fl_6_75 dsX_27 rfl ?_
  refine x_iload_n X dX6_begin_44 rfl 1 rfl ?_
  have g45 := h.1
  have h := h.2
  refine x_iald X dX6_begin_45 dsX_30 g45 ?_
  refine x_icmp_ge X 90 dX6_begin_46 (by decide) (fun hc => ?_) (fun hc => ?_)
  · have h := h.1 hc
    refine x_iinc X (k := 1) (lv' := [(1, .int (v1 + 1)), (0, .ref (ad t)), (2, .int v2)]) dX6_begin_90 rfl ki_1 (by decide) rfl ?_
    refine x_goto X (tgt := 20) dX6_begin_93 (by decide) ?_
    refine x_sub X [1, 0] (lv' := [(0, .ref (ad t)), (1, .int (v1 + 1))]) rfl ?_
    exact hK20 _ _ _ h
  · have h := h.2 hc
    refine x_aload_n X dX6_begin_49 rfl 0 rfl ?_
    refine x_getR X (j := (t + 2)) dX6_begin_50 fl_6_15 (dsX_pl ht) rfl ?_
    refine x_iload_n X dX6_begin_53 rfl 2 rfl ?_
    refine x_iconst X dX6_begin_54 ki_0 ?_
    have g55 := h.1
    have h := h.2
    refine x_iast X dX6_begin_55 (dsX_pl2 ht) g55 ?_
    refine x_aload_n X dX6_begin_56 rfl 0 rfl ?_
    refine x_getR X (j := (t + 3)) dX6_begin_57 fl_6_18 (dsX_pl ht) rfl ?_
    refine x_iload_n X dX6_begin_60 rfl 2 rfl ?_
    refine x_bipush X dX6_begin_61 kb_80 ?_
    refine x_aload_n X dX6_begin_63 rfl 0 rfl ?_
    refine x_getR X (j := 3) dX6_begin_64 fl_6_53 (dsX_pl ht) rfl ?_
    refine x_getR X (j := 7) dX6_begin_67 fl_6_80 dsX_3 rfl ?_
    refine x_aload_n X dX6_begin_70 rfl 0 rfl ?_
    refine x_getR X (j := 3) dX6_begin_71 fl_6_53 (dsX_pl ht) rfl ?_
    refine x_getR X (j := 12) dX6_begin_74 fl_6_83 dsX_3 rfl ?_
    refine x_iload_n X dX6_begin_77 rfl 2 rfl ?_
    refine x_iald X dX6_begin_78 dsX_12 g55 ?_
    have g79 := h.1
    have h := h.2
    refine x_iald X dX6_begin_79 dsX_7 g79 ?_
    refine x_mmin X dX6_begin_80 w_3_95 w_3_96 w_1_18 w_3_97 (by decide) (Nat.le_of_ble_eq_true rfl) ?_
    refine x_iast X dX6_begin_83 (dsX_pl3 ht) g55 ?_
    refine x_iinc X (k := 2) (lv' := [(2, .int (v2 + 1)), (0, .ref (ad t)), (1, .int v1)]) dX6_begin_84 rfl ki_1 (by decide) rfl ?_
    refine x_goto X (tgt := 36) dX6_begin_87 (by decide) ?_
    refine x_sub X [1, 2, 0] (lv' := [(0, .ref (ad t)), (1, .int v1), (2, .int (v2 + 1))]) rfl ?_
    exact hK36 _ _ _ _ h
set_option maxRecDepth 100000 in
set_option maxHeartbeats 4000000 in
theorem bX6_begin_20 {V : x_J} {ad : Nat → Nat} {t : Nat} {Q : x_S → x_L → Prop} (X : x_Is V cX6_begin 3 RX6 (Option.none : Option Jvm.ClassFile.FieldType) ad dsX 3 (x_PV Q)) (ht : x_pl t) {K20 : Int32 → x_S → x_L → Prop} (hK20 : ∀ v1 σ τ, K20 v1 σ τ → V σ τ 20 [(0, .ref (ad t)), (1, .int v1)] []) {v1 : Int32} {σ : x_S} {τ : x_L} (h : wX6_begin_20 t Q K20 v1 σ τ) : V σ τ 20 [(0, .ref (ad t)), (1, .int v1)] [] := by
  refine x_iload_n X dX6_begin_20 rfl 1 rfl ?_
  refine x_aload_n X dX6_begin_21 rfl 0 rfl ?_
  refine x_getR X (j := 3) dX6_begin_22 fl_6_53 (dsX_pl ht) rfl ?_
  refine x_getI X dX6_begin_25 fl_6_72 dsX_3 rfl ?_
  refine x_icmp_ge X 96 dX6_begin_28 (by decide) (fun hc => ?_) (fun hc => ?_)
  · have h := h.1 hc
    refine x_aload_n X dX6_begin_96 rfl 0 rfl ?_
    refine x_getR X (j := 27) dX6_begin_97 fl_6_57 (dsX_pl ht) rfl ?_
    refine x_getR X (j := 28) dX6_begin_100 fl_6_92 dsX_27 rfl ?_
    refine x_iconst X dX6_begin_103 ki_0 ?_
    refine x_aload_n X dX6_begin_104 rfl 0 rfl ?_
    refine x_getR X (j := (t + 6)) dX6_begin_105 fl_6_27 (dsX_pl ht) rfl ?_
    refine x_iconst X dX6_begin_108 ki_0 ?_
    refine x_bipush X dX6_begin_109 kb_120 ?_
    refine x_copy X dX6_begin_111 w_3_94 w_3_68 w_3_67 w_1_17 dsX_28 (dsX_pl6 ht) (by decide) (Nat.le_of_ble_eq_true rfl) (by decide) ?_
    refine x_aload_n X dX6_begin_114 rfl 0 rfl ?_
    refine x_callVv X [] [] dX6_begin_115 (kX6_arrange ht h) cm_X6_arrange ci_X6_arrange w_3_98 (dsX_pl ht) ⟨by decide, by decide⟩ rfl (Nat.le_of_ble_eq_true rfl) (fun σ115 τ115 h => ?_)
    exact x_vret X dX6_begin_118 ⟨rfl, h⟩
  · have h := h.2 hc
    refine x_iload_n X dX6_begin_31 rfl 1 rfl ?_
    refine x_bipush X dX6_begin_32 kb_10 ?_
    refine x_imul X dX6_begin_34 ?_
    refine x_istore_n X (lv' := [(2, .int (v1 * 10)), (0, .ref (ad t)), (1, .int v1)]) dX6_begin_35 rfl (by decide) rfl ?_
    refine x_sub X [1, 2, 0] (lv' := [(0, .ref (ad t)), (1, .int v1), (2, .int (v1 * 10))]) rfl ?_
    exact x_l2_G (fun v1 v2 σ τ => V σ τ 36 [(0, .ref (ad t)), (1, .int v1), (2, .int v2)] []) (fun K36 hK36 v1 v2 σ τ h => bX6_begin_36 X ht hK20 hK36 h) h
set_option maxRecDepth 100000 in
set_option maxHeartbeats 4000000 in
theorem kX6_begin {ad : Nat → Nat} {t : Nat} (ht : x_pl t) {σ : x_S} {τ : x_L} {Q : x_S → x_L → Prop} (h : wX6_begin t σ τ Q) : x_Met yX6_begin cX6_begin 3 (Option.none : Option Jvm.ClassFile.FieldType) 3 ad dsX [.ref (ad t)] σ τ (x_PV Q) := by
  refine x_met (by decide +kernel) (Nat.le_of_ble_eq_true rfl) (fun V X => ?_)
  have X : x_Is V cX6_begin 3 RX6 (Option.none : Option Jvm.ClassFile.FieldType) ad dsX 3 (x_PV Q) := X
  show V σ τ 0 [(0, .ref (ad t))] []
  refine x_aload_n X dX6_begin_0 rfl 0 rfl ?_
  refine x_getR X (j := 3) dX6_begin_1 fl_6_53 (dsX_pl ht) rfl ?_
  refine x_getR X (j := 8) dX6_begin_4 fl_6_61 dsX_3 rfl ?_
  refine x_iconst X dX6_begin_7 ki_0 ?_
  refine x_aload_n X dX6_begin_8 rfl 0 rfl ?_
  refine x_getR X (j := (t + 1)) dX6_begin_9 fl_6_9 (dsX_pl ht) rfl ?_
  refine x_iconst X dX6_begin_12 ki_0 ?_
  refine x_bipush X dX6_begin_13 kb_12 ?_
  refine x_copy X dX6_begin_15 w_3_94 w_3_68 w_3_67 w_1_17 dsX_8 (dsX_pl1 ht) (by decide) (Nat.le_of_ble_eq_true rfl) (by decide) ?_
  refine x_iconst X dX6_begin_18 ki_0 ?_
  refine x_istore_n X (lv' := [(1, .int 0), (0, .ref (ad t))]) dX6_begin_19 rfl (by decide) rfl ?_
  refine x_sub X [1, 0] (lv' := [(0, .ref (ad t)), (1, .int 0)]) rfl ?_
  exact x_l1_G (fun v1 σ τ => V σ τ 20 [(0, .ref (ad t)), (1, .int v1)] []) (fun K20 hK20 v1 σ τ h => bX6_begin_20 X ht hK20 h) h
theorem dX6_platoonsOn_0 : decode cX6_platoonsOn 0 = .ok (.aload_n 0, 1) := by decide +kernel
theorem dX6_platoonsOn_1 : decode cX6_platoonsOn 1 = .ok (.getfield 57, 3) := by decide +kernel
theorem dX6_platoonsOn_4 : decode cX6_platoonsOn 4 = .ok (.getfield 105, 3) := by decide +kernel
theorem dX6_platoonsOn_7 : decode cX6_platoonsOn 7 = .ok (.iload_n 1, 1) := by decide +kernel
theorem dX6_platoonsOn_8 : decode cX6_platoonsOn 8 = .ok (.iconst 1, 1) := by decide +kernel
theorem dX6_platoonsOn_9 : decode cX6_platoonsOn 9 = .ok (.iadd, 1) := by decide +kernel
theorem dX6_platoonsOn_10 : decode cX6_platoonsOn 10 = .ok (.iaload, 1) := by decide +kernel
theorem dX6_platoonsOn_11 : decode cX6_platoonsOn 11 = .ok (.istore_n 2, 1) := by decide +kernel
theorem dX6_platoonsOn_12 : decode cX6_platoonsOn 12 = .ok (.iload_n 2, 1) := by decide +kernel
theorem dX6_platoonsOn_13 : decode cX6_platoonsOn 13 = .ok (.aload_n 0, 1) := by decide +kernel
theorem dX6_platoonsOn_14 : decode cX6_platoonsOn 14 = .ok (.getfield 57, 3) := by decide +kernel
theorem dX6_platoonsOn_17 : decode cX6_platoonsOn 17 = .ok (.getfield 105, 3) := by decide +kernel
theorem dX6_platoonsOn_20 : decode cX6_platoonsOn 20 = .ok (.iload_n 1, 1) := by decide +kernel
theorem dX6_platoonsOn_21 : decode cX6_platoonsOn 21 = .ok (.iaload, 1) := by decide +kernel
theorem dX6_platoonsOn_22 : decode cX6_platoonsOn 22 = .ok (.if_icmp .le 21, 3) := by decide +kernel
theorem dX6_platoonsOn_25 : decode cX6_platoonsOn 25 = .ok (.aload_n 0, 1) := by decide +kernel
theorem dX6_platoonsOn_26 : decode cX6_platoonsOn 26 = .ok (.getfield 30, 3) := by decide +kernel
theorem dX6_platoonsOn_29 : decode cX6_platoonsOn 29 = .ok (.aload_n 0, 1) := by decide +kernel
theorem dX6_platoonsOn_30 : decode cX6_platoonsOn 30 = .ok (.getfield 27, 3) := by decide +kernel
theorem dX6_platoonsOn_33 : decode cX6_platoonsOn 33 = .ok (.iload_n 2, 1) := by decide +kernel
theorem dX6_platoonsOn_34 : decode cX6_platoonsOn 34 = .ok (.iconst 1, 1) := by decide +kernel
theorem dX6_platoonsOn_35 : decode cX6_platoonsOn 35 = .ok (.isub, 1) := by decide +kernel
theorem dX6_platoonsOn_36 : decode cX6_platoonsOn 36 = .ok (.iaload, 1) := by decide +kernel
theorem dX6_platoonsOn_37 : decode cX6_platoonsOn 37 = .ok (.iaload, 1) := by decide +kernel
theorem dX6_platoonsOn_38 : decode cX6_platoonsOn 38 = .ok (.iconst 1, 1) := by decide +kernel
theorem dX6_platoonsOn_39 : decode cX6_platoonsOn 39 = .ok (.iadd, 1) := by decide +kernel
theorem dX6_platoonsOn_40 : decode cX6_platoonsOn 40 = .ok (.goto 4, 3) := by decide +kernel
theorem dX6_platoonsOn_43 : decode cX6_platoonsOn 43 = .ok (.iconst 0, 1) := by decide +kernel
theorem dX6_platoonsOn_44 : decode cX6_platoonsOn 44 = .ok (.ireturn, 1) := by decide +kernel
theorem cm_X6_platoonsOn : x_CM yX6_platoonsOn cX6_platoonsOn 3 (Option.some FieldType.int) 1 := ⟨w_5_45, w_1_7, by decide +kernel, by decide +kernel⟩
theorem ci_X6_platoonsOn : x_CI yX6_platoonsOn 8 := ⟨w_5_43, w_5_44, (RX6, TX6, 15), rfl, rfl⟩
set_option maxRecDepth 100000 in
set_option maxHeartbeats 4000000 in
theorem bX6_platoonsOn_44 {V : x_J} {ad : Nat → Nat} {t : Nat} {Q : Int32 → x_S → x_L → Prop} (X : x_Is V cX6_platoonsOn 3 RX6 (Option.some FieldType.int) ad dsX 0 (x_PI Q)) (ht : x_pl t) {s0 : Int32} {σ : x_S} {τ : x_L} (h : wX6_platoonsOn_44 t Q s0 σ τ) : V σ τ 44 [] [.int s0] := by
  exact x_iret X dX6_platoonsOn_44 ⟨_, rfl, h⟩
set_option maxRecDepth 100000 in
set_option maxHeartbeats 4000000 in
theorem kX6_platoonsOn {ad : Nat → Nat} {t : Nat} (ht : x_pl t) {a1 : Int32} {σ : x_S} {τ : x_L} {Q : Int32 → x_S → x_L → Prop} (h : wX6_platoonsOn t a1 σ τ Q) : x_Met yX6_platoonsOn cX6_platoonsOn 3 (Option.some FieldType.int) 0 ad dsX [.ref (ad t), .int a1] σ τ (x_PI Q) := by
  refine x_met (by decide +kernel) (Nat.le_of_ble_eq_true rfl) (fun V X => ?_)
  have X : x_Is V cX6_platoonsOn 3 RX6 (Option.some FieldType.int) ad dsX 0 (x_PI Q) := X
  show V σ τ 0 [(0, .ref (ad t)), (1, .int a1)] []
  refine x_aload_n X dX6_platoonsOn_0 rfl 0 rfl ?_
  refine x_getR X (j := 27) dX6_platoonsOn_1 fl_6_57 (dsX_pl ht) rfl ?_
  refine x_getR X (j := 29) dX6_platoonsOn_4 fl_6_105 dsX_27 rfl ?_
  refine x_iload_n X dX6_platoonsOn_7 rfl 1 rfl ?_
  refine x_iconst X dX6_platoonsOn_8 ki_1 ?_
  refine x_iadd X dX6_platoonsOn_9 ?_
  have g10 := h.1
  have h := h.2
  refine x_iald X dX6_platoonsOn_10 dsX_29 g10 ?_
  refine x_istore_n X (lv' := [(2, .int (σ 29 (a1 + 1).toNatClampNeg)), (0, .ref (ad t)), (1, .int a1)]) dX6_platoonsOn_11 rfl (by decide) rfl ?_
  refine x_iload_n X dX6_platoonsOn_12 rfl 0 rfl ?_
  refine x_aload_n X dX6_platoonsOn_13 rfl 1 rfl ?_
  refine x_getR X (j := 27) dX6_platoonsOn_14 fl_6_57 (dsX_pl ht) rfl ?_
  refine x_getR X (j := 29) dX6_platoonsOn_17 fl_6_105 dsX_27 rfl ?_
  refine x_iload_n X dX6_platoonsOn_20 rfl 2 rfl ?_
  have g21 := h.1
  have h := h.2
  refine x_iald X dX6_platoonsOn_21 dsX_29 g21 ?_
  refine x_icmp_le X 43 dX6_platoonsOn_22 (by decide) (fun hc => ?_) (fun hc => ?_)
  · have h := h.1 hc
    refine x_iconst X dX6_platoonsOn_43 ki_0 ?_
    refine x_sub X [] (lv' := []) rfl ?_
    exact bX6_platoonsOn_44 X ht h
  · have h := h.2 hc
    refine x_aload_n X dX6_platoonsOn_25 rfl 1 rfl ?_
    refine x_getR X (j := (t + 7)) dX6_platoonsOn_26 fl_6_30 (dsX_pl ht) rfl ?_
    refine x_aload_n X dX6_platoonsOn_29 rfl 1 rfl ?_
    refine x_getR X (j := (t + 6)) dX6_platoonsOn_30 fl_6_27 (dsX_pl ht) rfl ?_
    refine x_iload_n X dX6_platoonsOn_33 rfl 0 rfl ?_
    refine x_iconst X dX6_platoonsOn_34 ki_1 ?_
    refine x_isub X dX6_platoonsOn_35 ?_
    have g36 := h.1
    have h := h.2
    refine x_iald X dX6_platoonsOn_36 (dsX_pl6 ht) g36 ?_
    have g37 := h.1
    have h := h.2
    refine x_iald X dX6_platoonsOn_37 (dsX_pl7 ht) g37 ?_
    refine x_iconst X dX6_platoonsOn_38 ki_1 ?_
    refine x_iadd X dX6_platoonsOn_39 ?_
    refine x_goto X (tgt := 44) dX6_platoonsOn_40 (by decide) ?_
    refine x_sub X [] (lv' := []) rfl ?_
    exact bX6_platoonsOn_44 X ht h
theorem dX6_firstOf_0 : decode cX6_firstOf 0 = .ok (.aload_n 0, 1) := by decide +kernel
theorem dX6_firstOf_1 : decode cX6_firstOf 1 = .ok (.getfield 57, 3) := by decide +kernel
theorem dX6_firstOf_4 : decode cX6_firstOf 4 = .ok (.getfield 105, 3) := by decide +kernel
theorem dX6_firstOf_7 : decode cX6_firstOf 7 = .ok (.iload_n 1, 1) := by decide +kernel
theorem dX6_firstOf_8 : decode cX6_firstOf 8 = .ok (.iaload, 1) := by decide +kernel
theorem dX6_firstOf_9 : decode cX6_firstOf 9 = .ok (.istore_n 3, 1) := by decide +kernel
theorem dX6_firstOf_10 : decode cX6_firstOf 10 = .ok (.iload_n 3, 1) := by decide +kernel
theorem dX6_firstOf_11 : decode cX6_firstOf 11 = .ok (.aload_n 0, 1) := by decide +kernel
theorem dX6_firstOf_12 : decode cX6_firstOf 12 = .ok (.getfield 57, 3) := by decide +kernel
theorem dX6_firstOf_15 : decode cX6_firstOf 15 = .ok (.getfield 105, 3) := by decide +kernel
theorem dX6_firstOf_18 : decode cX6_firstOf 18 = .ok (.iload_n 1, 1) := by decide +kernel
theorem dX6_firstOf_19 : decode cX6_firstOf 19 = .ok (.iconst 1, 1) := by decide +kernel
theorem dX6_firstOf_20 : decode cX6_firstOf 20 = .ok (.iadd, 1) := by decide +kernel
theorem dX6_firstOf_21 : decode cX6_firstOf 21 = .ok (.iaload, 1) := by decide +kernel
theorem dX6_firstOf_22 : decode cX6_firstOf 22 = .ok (.if_icmp .ge 24, 3) := by decide +kernel
theorem dX6_firstOf_25 : decode cX6_firstOf 25 = .ok (.aload_n 0, 1) := by decide +kernel
theorem dX6_firstOf_26 : decode cX6_firstOf 26 = .ok (.getfield 30, 3) := by decide +kernel
theorem dX6_firstOf_29 : decode cX6_firstOf 29 = .ok (.aload_n 0, 1) := by decide +kernel
theorem dX6_firstOf_30 : decode cX6_firstOf 30 = .ok (.getfield 27, 3) := by decide +kernel
theorem dX6_firstOf_33 : decode cX6_firstOf 33 = .ok (.iload_n 3, 1) := by decide +kernel
theorem dX6_firstOf_34 : decode cX6_firstOf 34 = .ok (.iaload, 1) := by decide +kernel
theorem dX6_firstOf_35 : decode cX6_firstOf 35 = .ok (.iaload, 1) := by decide +kernel
theorem dX6_firstOf_36 : decode cX6_firstOf 36 = .ok (.iload_n 2, 1) := by decide +kernel
theorem dX6_firstOf_37 : decode cX6_firstOf 37 = .ok (.if_icmp .ge 9, 3) := by decide +kernel
theorem dX6_firstOf_40 : decode cX6_firstOf 40 = .ok (.iinc 3 1, 3) := by decide +kernel
theorem dX6_firstOf_43 : decode cX6_firstOf 43 = .ok (.goto (-33), 3) := by decide +kernel
theorem dX6_firstOf_46 : decode cX6_firstOf 46 = .ok (.iload_n 3, 1) := by decide +kernel
theorem dX6_firstOf_47 : decode cX6_firstOf 47 = .ok (.ireturn, 1) := by decide +kernel
theorem cm_X6_firstOf : x_CM yX6_firstOf cX6_firstOf 4 (Option.some FieldType.int) 2 := ⟨w_5_131, w_1_7, by decide +kernel, by decide +kernel⟩
theorem ci_X6_firstOf : x_CI yX6_firstOf 8 := ⟨w_5_129, w_5_130, (RX6, TX6, 15), rfl, rfl⟩
set_option maxRecDepth 100000 in
set_option maxHeartbeats 4000000 in
theorem bX6_firstOf_46 {V : x_J} {ad : Nat → Nat} {t : Nat} {Q : Int32 → x_S → x_L → Prop} (X : x_Is V cX6_firstOf 4 RX6 (Option.some FieldType.int) ad dsX 0 (x_PI Q)) (ht : x_pl t) {v3 : Int32} {σ : x_S} {τ : x_L} (h : wX6_firstOf_46 t Q v3 σ τ) : V σ τ 46 [(3, .int v3)] [] := by
  refine x_iload_n X dX6_firstOf_46 rfl 0 rfl ?_
  exact x_iret X dX6_firstOf_47 ⟨_, rfl, h⟩
set_option maxRecDepth 100000 in
set_option maxHeartbeats 4000000 in
theorem bX6_firstOf_10 {V : x_J} {ad : Nat → Nat} {t : Nat} {Q : Int32 → x_S → x_L → Prop} (X : x_Is V cX6_firstOf 4 RX6 (Option.some FieldType.int) ad dsX 0 (x_PI Q)) (ht : x_pl t) {K10 : Int32 → Int32 → Int32 → x_S → x_L → Prop} (hK10 : ∀ v1 v2 v3 σ τ, K10 v1 v2 v3 σ τ → V σ τ 10 [(0, .ref (ad t)), (1, .int v1), (2, .int v2), (3, .int v3)] []) {v1 : Int32} {v2 : Int32} {v3 : Int32} {σ : x_S} {τ : x_L} (h : wX6_firstOf_10 t Q K10 v1 v2 v3 σ τ) : V σ τ 10 [(0, .ref (ad t)), (1, .int v1), (2, .int v2), (3, .int v3)] [] := by
  refine x_iload_n X dX6_firstOf_10 rfl 3 rfl ?_
  refine x_aload_n X dX6_firstOf_11 rfl 0 rfl ?_
  refine x_getR X (j := 27) dX6_firstOf_12 fl_6_57 (dsX_pl ht) rfl ?_
  refine x_getR X (j := 29) dX6_firstOf_15 fl_6_105 dsX_27 rfl ?_
  refine x_iload_n X dX6_firstOf_18 rfl 1 rfl ?_
  refine x_iconst X dX6_firstOf_19 ki_1 ?_
  refine x_iadd X dX6_firstOf_20 ?_
  have g21 := h.1
  have h := h.2
  refine x_iald X dX6_firstOf_21 dsX_29 g21 ?_
  refine x_icmp_ge X 46 dX6_firstOf_22 (by decide) (fun hc => ?_) (fun hc => ?_)
  · have h := h.1 hc
    refine x_sub X [3] (lv' := [(3, .int v3)]) rfl ?_
    exact bX6_firstOf_46 X ht h
  · have h := h.2 hc
    refine x_aload_n X dX6_firstOf_25 rfl 0 rfl ?_
    refine x_getR X (j := (t + 7)) dX6_firstOf_26 fl_6_30 (dsX_pl ht) rfl ?_
    refine x_aload_n X dX6_firstOf_29 rfl 0 rfl ?_
    refine x_getR X (j := (t + 6)) dX6_firstOf_30 fl_6_27 (dsX_pl ht) rfl ?_
    refine x_iload_n X dX6_firstOf_33 rfl 3 rfl ?_
    have g34 := h.1
    have h := h.2
    refine x_iald X dX6_firstOf_34 (dsX_pl6 ht) g34 ?_
    have g35 := h.1
    have h := h.2
    refine x_iald X dX6_firstOf_35 (dsX_pl7 ht) g35 ?_
    refine x_iload_n X dX6_firstOf_36 rfl 2 rfl ?_
    refine x_icmp_ge X 46 dX6_firstOf_37 (by decide) (fun hc => ?_) (fun hc => ?_)
    · have h := h.1 hc
      refine x_sub X [3] (lv' := [(3, .int v3)]) rfl ?_
      exact bX6_firstOf_46 X ht h
    · have h := h.2 hc
      refine x_iinc X (k := 3) (lv' := [(3, .int (v3 + 1)), (0, .ref (ad t)), (1, .int v1), (2, .int v2)]) dX6_firstOf_40 rfl ki_1 (by decide) rfl ?_
      refine x_goto X (tgt := 10) dX6_firstOf_43 (by decide) ?_
      refine x_sub X [1, 2, 3, 0] (lv' := [(0, .ref (ad t)), (1, .int v1), (2, .int v2), (3, .int (v3 + 1))]) rfl ?_
      exact hK10 _ _ _ _ _ h
set_option maxRecDepth 100000 in
set_option maxHeartbeats 4000000 in
theorem kX6_firstOf {ad : Nat → Nat} {t : Nat} (ht : x_pl t) {a1 : Int32} {a2 : Int32} {σ : x_S} {τ : x_L} {Q : Int32 → x_S → x_L → Prop} (h : wX6_firstOf t a1 a2 σ τ Q) : x_Met yX6_firstOf cX6_firstOf 4 (Option.some FieldType.int) 0 ad dsX [.ref (ad t), .int a1, .int a2] σ τ (x_PI Q) := by
  refine x_met (by decide +kernel) (Nat.le_of_ble_eq_true rfl) (fun V X => ?_)
  have X : x_Is V cX6_firstOf 4 RX6 (Option.some FieldType.int) ad dsX 0 (x_PI Q) := X
  show V σ τ 0 [(0, .ref (ad t)), (1, .int a1), (2, .int a2)] []
  refine x_aload_n X dX6_firstOf_0 rfl 0 rfl ?_
  refine x_getR X (j := 27) dX6_firstOf_1 fl_6_57 (dsX_pl ht) rfl ?_
  refine x_getR X (j := 29) dX6_firstOf_4 fl_6_105 dsX_27 rfl ?_
  refine x_iload_n X dX6_firstOf_7 rfl 1 rfl ?_
  have g8 := h.1
  have h := h.2
  refine x_iald X dX6_firstOf_8 dsX_29 g8 ?_
  refine x_istore_n X (lv' := [(3, .int (σ 29 a1.toNatClampNeg)), (0, .ref (ad t)), (1, .int a1), (2, .int a2)]) dX6_firstOf_9 rfl (by decide) rfl ?_
  refine x_sub X [1, 2, 3, 0] (lv' := [(0, .ref (ad t)), (1, .int a1), (2, .int a2), (3, .int (σ 29 a1.toNatClampNeg))]) rfl ?_
  exact x_l3_G (fun v1 v2 v3 σ τ => V σ τ 10 [(0, .ref (ad t)), (1, .int v1), (2, .int v2), (3, .int v3)] []) (fun K10 hK10 v1 v2 v3 σ τ h => bX6_firstOf_10 X ht hK10 h) h
theorem dX6_afterPlatoon_0 : decode cX6_afterPlatoon 0 = .ok (.iload_n 2, 1) := by decide +kernel
theorem dX6_afterPlatoon_1 : decode cX6_afterPlatoon 1 = .ok (.istore_n 3, 1) := by decide +kernel
theorem dX6_afterPlatoon_2 : decode cX6_afterPlatoon 2 = .ok (.iload_n 3, 1) := by decide +kernel
theorem dX6_afterPlatoon_3 : decode cX6_afterPlatoon 3 = .ok (.aload_n 0, 1) := by decide +kernel
theorem dX6_afterPlatoon_4 : decode cX6_afterPlatoon 4 = .ok (.getfield 57, 3) := by decide +kernel
theorem dX6_afterPlatoon_7 : decode cX6_afterPlatoon 7 = .ok (.getfield 105, 3) := by decide +kernel
theorem dX6_afterPlatoon_10 : decode cX6_afterPlatoon 10 = .ok (.iload_n 1, 1) := by decide +kernel
theorem dX6_afterPlatoon_11 : decode cX6_afterPlatoon 11 = .ok (.iconst 1, 1) := by decide +kernel
theorem dX6_afterPlatoon_12 : decode cX6_afterPlatoon 12 = .ok (.iadd, 1) := by decide +kernel
theorem dX6_afterPlatoon_13 : decode cX6_afterPlatoon 13 = .ok (.iaload, 1) := by decide +kernel
theorem dX6_afterPlatoon_14 : decode cX6_afterPlatoon 14 = .ok (.if_icmp .ge 34, 3) := by decide +kernel
theorem dX6_afterPlatoon_17 : decode cX6_afterPlatoon 17 = .ok (.aload_n 0, 1) := by decide +kernel
theorem dX6_afterPlatoon_18 : decode cX6_afterPlatoon 18 = .ok (.getfield 30, 3) := by decide +kernel
theorem dX6_afterPlatoon_21 : decode cX6_afterPlatoon 21 = .ok (.aload_n 0, 1) := by decide +kernel
theorem dX6_afterPlatoon_22 : decode cX6_afterPlatoon 22 = .ok (.getfield 27, 3) := by decide +kernel
theorem dX6_afterPlatoon_25 : decode cX6_afterPlatoon 25 = .ok (.iload_n 3, 1) := by decide +kernel
theorem dX6_afterPlatoon_26 : decode cX6_afterPlatoon 26 = .ok (.iaload, 1) := by decide +kernel
theorem dX6_afterPlatoon_27 : decode cX6_afterPlatoon 27 = .ok (.iaload, 1) := by decide +kernel
theorem dX6_afterPlatoon_28 : decode cX6_afterPlatoon 28 = .ok (.aload_n 0, 1) := by decide +kernel
theorem dX6_afterPlatoon_29 : decode cX6_afterPlatoon 29 = .ok (.getfield 30, 3) := by decide +kernel
theorem dX6_afterPlatoon_32 : decode cX6_afterPlatoon 32 = .ok (.aload_n 0, 1) := by decide +kernel
theorem dX6_afterPlatoon_33 : decode cX6_afterPlatoon 33 = .ok (.getfield 27, 3) := by decide +kernel
theorem dX6_afterPlatoon_36 : decode cX6_afterPlatoon 36 = .ok (.iload_n 2, 1) := by decide +kernel
theorem dX6_afterPlatoon_37 : decode cX6_afterPlatoon 37 = .ok (.iaload, 1) := by decide +kernel
theorem dX6_afterPlatoon_38 : decode cX6_afterPlatoon 38 = .ok (.iaload, 1) := by decide +kernel
theorem dX6_afterPlatoon_39 : decode cX6_afterPlatoon 39 = .ok (.if_icmp .ne 9, 3) := by decide +kernel
theorem dX6_afterPlatoon_42 : decode cX6_afterPlatoon 42 = .ok (.iinc 3 1, 3) := by decide +kernel
theorem dX6_afterPlatoon_45 : decode cX6_afterPlatoon 45 = .ok (.goto (-43), 3) := by decide +kernel
theorem dX6_afterPlatoon_48 : decode cX6_afterPlatoon 48 = .ok (.iload_n 3, 1) := by decide +kernel
theorem dX6_afterPlatoon_49 : decode cX6_afterPlatoon 49 = .ok (.ireturn, 1) := by decide +kernel
theorem cm_X6_afterPlatoon : x_CM yX6_afterPlatoon cX6_afterPlatoon 4 (Option.some FieldType.int) 2 := ⟨w_5_135, w_1_7, by decide +kernel, by decide +kernel⟩
theorem ci_X6_afterPlatoon : x_CI yX6_afterPlatoon 8 := ⟨w_5_133, w_5_134, (RX6, TX6, 15), rfl, rfl⟩
set_option maxRecDepth 100000 in
set_option maxHeartbeats 4000000 in
theorem bX6_afterPlatoon_48 {V : x_J} {ad : Nat → Nat} {t : Nat} {Q : Int32 → x_S → x_L → Prop} (X : x_Is V cX6_afterPlatoon 4 RX6 (Option.some FieldType.int) ad dsX 0 (x_PI Q)) (ht : x_pl t) {v3 : Int32} {σ : x_S} {τ : x_L} (h : wX6_afterPlatoon_48 t Q v3 σ τ) : V σ τ 48 [(3, .int v3)] [] := by
  refine x_iload_n X dX6_afterPlatoon_48 rfl 0 rfl ?_
  exact x_iret X dX6_afterPlatoon_49 ⟨_, rfl, h⟩
set_option maxRecDepth 100000 in
set_option maxHeartbeats 4000000 in
theorem bX6_afterPlatoon_2 {V : x_J} {ad : Nat → Nat} {t : Nat} {Q : Int32 → x_S → x_L → Prop} (X : x_Is V cX6_afterPlatoon 4 RX6 (Option.some FieldType.int) ad dsX 0 (x_PI Q)) (ht : x_pl t) {K2 : Int32 → Int32 → Int32 → x_S → x_L → Prop} (hK2 : ∀ v1 v2 v3 σ τ, K2 v1 v2 v3 σ τ → V σ τ 2 [(0, .ref (ad t)), (1, .int v1), (2, .int v2), (3, .int v3)] []) {v1 : Int32} {v2 : Int32} {v3 : Int32} {σ : x_S} {τ : x_L} (h : wX6_afterPlatoon_2 t Q K2 v1 v2 v3 σ τ) : V σ τ 2 [(0, .ref (ad t)), (1, .int v1), (2, .int v2), (3, .int v3)] [] := by
  refine x_iload_n X dX6_afterPlatoon_2 rfl 3 rfl ?_
  refine x_aload_n X dX6_afterPlatoon_3 rfl 0 rfl ?_
  refine x_getR X (j := 27) dX6_afterPlatoon_4 fl_6_57 (dsX_pl ht) rfl ?_
  refine x_getR X (j := 29) dX6_afterPlatoon_7 fl_6_105 dsX_27 rfl ?_
  refine x_iload_n X dX6_afterPlatoon_10 rfl 1 rfl ?_
  refine x_iconst X dX6_afterPlatoon_11 ki_1 ?_
  refine x_iadd X dX6_afterPlatoon_12 ?_
  have g13 := h.1
  have h := h.2
  refine x_iald X dX6_afterPlatoon_13 dsX_29 g13 ?_
  refine x_icmp_ge X 48 dX6_afterPlatoon_14 (by decide) (fun hc => ?_) (fun hc => ?_)
  · have h := h.1 hc
    refine x_sub X [3] (lv' := [(3, .int v3)]) rfl ?_
    exact bX6_afterPlatoon_48 X ht h
  · have h := h.2 hc
    refine x_aload_n X dX6_afterPlatoon_17 rfl 0 rfl ?_
    refine x_getR X (j := (t + 7)) dX6_afterPlatoon_18 fl_6_30 (dsX_pl ht) rfl ?_
    refine x_aload_n X dX6_afterPlatoon_21 rfl 0 rfl ?_
    refine x_getR X (j := (t + 6)) dX6_afterPlatoon_22 fl_6_27 (dsX_pl ht) rfl ?_
    refine x_iload_n X dX6_afterPlatoon_25 rfl 3 rfl ?_
    have g26 := h.1
    have h := h.2
    refine x_iald X dX6_afterPlatoon_26 (dsX_pl6 ht) g26 ?_
    have g27 := h.1
    have h := h.2
    refine x_iald X dX6_afterPlatoon_27 (dsX_pl7 ht) g27 ?_
    refine x_aload_n X dX6_afterPlatoon_28 rfl 0 rfl ?_
    refine x_getR X (j := (t + 7)) dX6_afterPlatoon_29 fl_6_30 (dsX_pl ht) rfl ?_
    refine x_aload_n X dX6_afterPlatoon_32 rfl 0 rfl ?_
    refine x_getR X (j := (t + 6)) dX6_afterPlatoon_33 fl_6_27 (dsX_pl ht) rfl ?_
    refine x_iload_n X dX6_afterPlatoon_36 rfl 2 rfl ?_
    have g37 := h.1
    have h := h.2
    refine x_iald X dX6_afterPlatoon_37 (dsX_pl6 ht) g37 ?_
    have g38 := h.1
    have h := h.2
    refine x_iald X dX6_afterPlatoon_38 (dsX_pl7 ht) g38 ?_
    refine x_icmp_ne X 48 dX6_afterPlatoon_39 (by decide) (fun hc => ?_) (fun hc => ?_)
    · have h := h.1 hc
      refine x_sub X [3] (lv' := [(3, .int v3)]) rfl ?_
      exact bX6_afterPlatoon_48 X ht h
    · have h := h.2 hc
      refine x_iinc X (k := 3) (lv' := [(3, .int (v3 + 1)), (0, .ref (ad t)), (1, .int v1), (2, .int v2)]) dX6_afterPlatoon_42 rfl ki_1 (by decide) rfl ?_
      refine x_goto X (tgt := 2) dX6_afterPlatoon_45 (by decide) ?_
      refine x_sub X [1, 2, 3, 0] (lv' := [(0, .ref (ad t)), (1, .int v1), (2, .int v2), (3, .int (v3 + 1))]) rfl ?_
      exact hK2 _ _ _ _ _ h
set_option maxRecDepth 100000 in
set_option maxHeartbeats 4000000 in
theorem kX6_afterPlatoon {ad : Nat → Nat} {t : Nat} (ht : x_pl t) {a1 : Int32} {a2 : Int32} {σ : x_S} {τ : x_L} {Q : Int32 → x_S → x_L → Prop} (h : wX6_afterPlatoon t a1 a2 σ τ Q) : x_Met yX6_afterPlatoon cX6_afterPlatoon 4 (Option.some FieldType.int) 0 ad dsX [.ref (ad t), .int a1, .int a2] σ τ (x_PI Q) := by
  refine x_met (by decide +kernel) (Nat.le_of_ble_eq_true rfl) (fun V X => ?_)
  have X : x_Is V cX6_afterPlatoon 4 RX6 (Option.some FieldType.int) ad dsX 0 (x_PI Q) := X
  show V σ τ 0 [(0, .ref (ad t)), (1, .int a1), (2, .int a2)] []
  refine x_iload_n X dX6_afterPlatoon_0 rfl 2 rfl ?_
  refine x_istore_n X (lv' := [(3, .int a2), (0, .ref (ad t)), (1, .int a1), (2, .int a2)]) dX6_afterPlatoon_1 rfl (by decide) rfl ?_
  refine x_sub X [1, 2, 3, 0] (lv' := [(0, .ref (ad t)), (1, .int a1), (2, .int a2), (3, .int a2)]) rfl ?_
  exact x_l3_G (fun v1 v2 v3 σ τ => V σ τ 2 [(0, .ref (ad t)), (1, .int v1), (2, .int v2), (3, .int v3)] []) (fun K2 hK2 v1 v2 v3 σ τ h => bX6_afterPlatoon_2 X ht hK2 h) h
theorem dX6_leastTimelySpeed_0 : decode cX6_leastTimelySpeed 0 = .ok (.aload_n 0, 1) := by decide +kernel
theorem dX6_leastTimelySpeed_1 : decode cX6_leastTimelySpeed 1 = .ok (.getfield 53, 3) := by decide +kernel
theorem dX6_leastTimelySpeed_4 : decode cX6_leastTimelySpeed 4 = .ok (.getfield 83, 3) := by decide +kernel
theorem dX6_leastTimelySpeed_7 : decode cX6_leastTimelySpeed 7 = .ok (.iload_n 2, 1) := by decide +kernel
theorem dX6_leastTimelySpeed_8 : decode cX6_leastTimelySpeed 8 = .ok (.iaload, 1) := by decide +kernel
theorem dX6_leastTimelySpeed_9 : decode cX6_leastTimelySpeed 9 = .ok (.istore_n 3, 1) := by decide +kernel
theorem dX6_leastTimelySpeed_10 : decode cX6_leastTimelySpeed 10 = .ok (.aload_n 0, 1) := by decide +kernel
theorem dX6_leastTimelySpeed_11 : decode cX6_leastTimelySpeed 11 = .ok (.iload_n 1, 1) := by decide +kernel
theorem dX6_leastTimelySpeed_12 : decode cX6_leastTimelySpeed 12 = .ok (.invokevirtual 159, 3) := by decide +kernel
theorem dX6_leastTimelySpeed_15 : decode cX6_leastTimelySpeed 15 = .ok (.aload_n 0, 1) := by decide +kernel
theorem dX6_leastTimelySpeed_16 : decode cX6_leastTimelySpeed 16 = .ok (.getfield 53, 3) := by decide +kernel
theorem dX6_leastTimelySpeed_19 : decode cX6_leastTimelySpeed 19 = .ok (.iload_n 3, 1) := by decide +kernel
theorem dX6_leastTimelySpeed_20 : decode cX6_leastTimelySpeed 20 = .ok (.aload_n 0, 1) := by decide +kernel
theorem dX6_leastTimelySpeed_21 : decode cX6_leastTimelySpeed 21 = .ok (.getfield 18, 3) := by decide +kernel
theorem dX6_leastTimelySpeed_24 : decode cX6_leastTimelySpeed 24 = .ok (.iload_n 2, 1) := by decide +kernel
theorem dX6_leastTimelySpeed_25 : decode cX6_leastTimelySpeed 25 = .ok (.iaload, 1) := by decide +kernel
theorem dX6_leastTimelySpeed_26 : decode cX6_leastTimelySpeed 26 = .ok (.invokevirtual 126, 3) := by decide +kernel
theorem dX6_leastTimelySpeed_29 : decode cX6_leastTimelySpeed 29 = .ok (.isub, 1) := by decide +kernel
theorem dX6_leastTimelySpeed_30 : decode cX6_leastTimelySpeed 30 = .ok (.istore 4, 2) := by decide +kernel
theorem dX6_leastTimelySpeed_32 : decode cX6_leastTimelySpeed 32 = .ok (.bipush 40, 2) := by decide +kernel
theorem dX6_leastTimelySpeed_34 : decode cX6_leastTimelySpeed 34 = .ok (.istore 5, 2) := by decide +kernel
theorem dX6_leastTimelySpeed_36 : decode cX6_leastTimelySpeed 36 = .ok (.iload 5, 2) := by decide +kernel
theorem dX6_leastTimelySpeed_38 : decode cX6_leastTimelySpeed 38 = .ok (.aload_n 0, 1) := by decide +kernel
theorem dX6_leastTimelySpeed_39 : decode cX6_leastTimelySpeed 39 = .ok (.getfield 18, 3) := by decide +kernel
theorem dX6_leastTimelySpeed_42 : decode cX6_leastTimelySpeed 42 = .ok (.iload_n 2, 1) := by decide +kernel
theorem dX6_leastTimelySpeed_43 : decode cX6_leastTimelySpeed 43 = .ok (.iaload, 1) := by decide +kernel
theorem dX6_leastTimelySpeed_44 : decode cX6_leastTimelySpeed 44 = .ok (.if_icmp .ge 37, 3) := by decide +kernel
theorem dX6_leastTimelySpeed_47 : decode cX6_leastTimelySpeed 47 = .ok (.iload 4, 2) := by decide +kernel
theorem dX6_leastTimelySpeed_49 : decode cX6_leastTimelySpeed 49 = .ok (.aload_n 0, 1) := by decide +kernel
theorem dX6_leastTimelySpeed_50 : decode cX6_leastTimelySpeed 50 = .ok (.getfield 53, 3) := by decide +kernel
theorem dX6_leastTimelySpeed_53 : decode cX6_leastTimelySpeed 53 = .ok (.iload_n 3, 1) := by decide +kernel
theorem dX6_leastTimelySpeed_54 : decode cX6_leastTimelySpeed 54 = .ok (.iload 5, 2) := by decide +kernel
theorem dX6_leastTimelySpeed_56 : decode cX6_leastTimelySpeed 56 = .ok (.invokevirtual 126, 3) := by decide +kernel
theorem dX6_leastTimelySpeed_59 : decode cX6_leastTimelySpeed 59 = .ok (.iadd, 1) := by decide +kernel
theorem dX6_leastTimelySpeed_60 : decode cX6_leastTimelySpeed 60 = .ok (.aload_n 0, 1) := by decide +kernel
theorem dX6_leastTimelySpeed_61 : decode cX6_leastTimelySpeed 61 = .ok (.getfield 53, 3) := by decide +kernel
theorem dX6_leastTimelySpeed_64 : decode cX6_leastTimelySpeed 64 = .ok (.getfield 162, 3) := by decide +kernel
theorem dX6_leastTimelySpeed_67 : decode cX6_leastTimelySpeed 67 = .ok (.iload_n 1, 1) := by decide +kernel
theorem dX6_leastTimelySpeed_68 : decode cX6_leastTimelySpeed 68 = .ok (.iaload, 1) := by decide +kernel
theorem dX6_leastTimelySpeed_69 : decode cX6_leastTimelySpeed 69 = .ok (.if_icmp .gt 6, 3) := by decide +kernel
theorem dX6_leastTimelySpeed_72 : decode cX6_leastTimelySpeed 72 = .ok (.iload 5, 2) := by decide +kernel
theorem dX6_leastTimelySpeed_74 : decode cX6_leastTimelySpeed 74 = .ok (.ireturn, 1) := by decide +kernel
theorem dX6_leastTimelySpeed_75 : decode cX6_leastTimelySpeed 75 = .ok (.iinc 5 1, 3) := by decide +kernel
theorem dX6_leastTimelySpeed_78 : decode cX6_leastTimelySpeed 78 = .ok (.goto (-42), 3) := by decide +kernel
theorem dX6_leastTimelySpeed_81 : decode cX6_leastTimelySpeed 81 = .ok (.aload_n 0, 1) := by decide +kernel
theorem dX6_leastTimelySpeed_82 : decode cX6_leastTimelySpeed 82 = .ok (.getfield 18, 3) := by decide +kernel
theorem dX6_leastTimelySpeed_85 : decode cX6_leastTimelySpeed 85 = .ok (.iload_n 2, 1) := by decide +kernel
theorem dX6_leastTimelySpeed_86 : decode cX6_leastTimelySpeed 86 = .ok (.iaload, 1) := by decide +kernel
theorem dX6_leastTimelySpeed_87 : decode cX6_leastTimelySpeed 87 = .ok (.ireturn, 1) := by decide +kernel
theorem cm_X6_leastTimelySpeed : x_CM yX6_leastTimelySpeed cX6_leastTimelySpeed 6 (Option.some FieldType.int) 2 := ⟨w_4_140, w_1_7, by decide +kernel, by decide +kernel⟩
theorem ci_X6_leastTimelySpeed : x_CI yX6_leastTimelySpeed 8 := ⟨w_4_138, w_4_139, (RX6, TX6, 15), rfl, rfl⟩
set_option maxRecDepth 100000 in
set_option maxHeartbeats 4000000 in
theorem bX6_leastTimelySpeed_36 {V : x_J} {ad : Nat → Nat} {t : Nat} {Q : Int32 → x_S → x_L → Prop} (X : x_Is V cX6_leastTimelySpeed 6 RX6 (Option.some FieldType.int) ad dsX 1 (x_PI Q)) (ht : x_pl t) {K36 : Int32 → Int32 → Int32 → Int32 → Int32 → x_S → x_L → Prop} (hK36 : ∀ v1 v2 v3 v4 v5 σ τ, K36 v1 v2 v3 v4 v5 σ τ → V σ τ 36 [(0, .ref (ad t)), (1, .int v1), (2, .int v2), (3, .int v3), (4, .int v4), (5, .int v5)] []) {v1 : Int32} {v2 : Int32} {v3 : Int32} {v4 : Int32} {v5 : Int32} {σ : x_S} {τ : x_L} (h : wX6_leastTimelySpeed_36 t Q K36 v1 v2 v3 v4 v5 σ τ) : V σ τ 36 [(0, .ref (ad t)), (1, .int v1), (2, .int v2), (3, .int v3), (4, .int v4), (5, .int v5)] [] := by
  refine x_iload X dX6_leastTimelySpeed_36 5 rfl ?_
  refine x_aload_n X dX6_leastTimelySpeed_38 rfl 0 rfl ?_
  refine x_getR X (j := (t + 3)) dX6_leastTimelySpeed_39 fl_6_18 (dsX_pl ht) rfl ?_
  refine x_iload_n X dX6_leastTimelySpeed_42 rfl 2 rfl ?_
  have g43 := h.1
  have h := h.2
  refine x_iald X dX6_leastTimelySpeed_43 (dsX_pl3 ht) g43 ?_
  refine x_icmp_ge X 81 dX6_leastTimelySpeed_44 (by decide) (fun hc => ?_) (fun hc => ?_)
  · have h := h.1 hc
    refine x_aload_n X dX6_leastTimelySpeed_81 rfl 0 rfl ?_
    refine x_getR X (j := (t + 3)) dX6_leastTimelySpeed_82 fl_6_18 (dsX_pl ht) rfl ?_
    refine x_iload_n X dX6_leastTimelySpeed_85 rfl 2 rfl ?_
    refine x_iald X dX6_leastTimelySpeed_86 (dsX_pl3 ht) g43 ?_
    exact x_iret X dX6_leastTimelySpeed_87 ⟨_, rfl, h⟩
  · have h := h.2 hc
    refine x_iload X dX6_leastTimelySpeed_47 4 rfl ?_
    refine x_aload_n X dX6_leastTimelySpeed_49 rfl 0 rfl ?_
    refine x_getR X (j := 3) dX6_leastTimelySpeed_50 fl_6_53 (dsX_pl ht) rfl ?_
    refine x_iload_n X dX6_leastTimelySpeed_53 rfl 3 rfl ?_
    refine x_iload X dX6_leastTimelySpeed_54 5 rfl ?_
    refine x_callVi X [.int v3, .int v5] [.int v4] dX6_leastTimelySpeed_56 (kX1_minutes h) cm_X1_minutes ci_X1_minutes w_3_106 dsX_3 ⟨by decide, by decide⟩ rfl (Nat.le_of_ble_eq_true rfl) (fun r56 σ56 τ56 h => ?_)
    refine x_iadd X dX6_leastTimelySpeed_59 ?_
    refine x_aload_n X dX6_leastTimelySpeed_60 rfl 0 rfl ?_
    refine x_getR X (j := 3) dX6_leastTimelySpeed_61 fl_6_53 (dsX_pl ht) rfl ?_
    refine x_getR X (j := 9) dX6_leastTimelySpeed_64 fl_6_162 dsX_3 rfl ?_
    refine x_iload_n X dX6_leastTimelySpeed_67 rfl 1 rfl ?_
    have g68 := h.1
    have h := h.2
    refine x_iald X dX6_leastTimelySpeed_68 dsX_9 g68 ?_
    refine x_icmp_gt X 75 dX6_leastTimelySpeed_69 (by decide) (fun hc => ?_) (fun hc => ?_)
    · have h := h.1 hc
      refine x_iinc X (k := 5) (lv' := [(5, .int (v5 + 1)), (0, .ref (ad t)), (1, .int v1), (2, .int v2), (3, .int v3), (4, .int v4)]) dX6_leastTimelySpeed_75 rfl ki_1 (by decide) rfl ?_
      refine x_goto X (tgt := 36) dX6_leastTimelySpeed_78 (by decide) ?_
      refine x_sub X [1, 2, 3, 4, 5, 0] (lv' := [(0, .ref (ad t)), (1, .int v1), (2, .int v2), (3, .int v3), (4, .int v4), (5, .int (v5 + 1))]) rfl ?_
      exact hK36 _ _ _ _ _ _ _ h
    · have h := h.2 hc
      refine x_iload X dX6_leastTimelySpeed_72 5 rfl ?_
      exact x_iret X dX6_leastTimelySpeed_74 ⟨_, rfl, h⟩
set_option maxRecDepth 100000 in
set_option maxHeartbeats 4000000 in
theorem kX6_leastTimelySpeed {ad : Nat → Nat} {t : Nat} (ht : x_pl t) {a1 : Int32} {a2 : Int32} {σ : x_S} {τ : x_L} {Q : Int32 → x_S → x_L → Prop} (h : wX6_leastTimelySpeed t a1 a2 σ τ Q) : x_Met yX6_leastTimelySpeed cX6_leastTimelySpeed 6 (Option.some FieldType.int) 1 ad dsX [.ref (ad t), .int a1, .int a2] σ τ (x_PI Q) := by
  refine x_met (by decide +kernel) (Nat.le_of_ble_eq_true rfl) (fun V X => ?_)
  have X : x_Is V cX6_leastTimelySpeed 6 RX6 (Option.some FieldType.int) ad dsX 1 (x_PI Q) := X
  show V σ τ 0 [(0, .ref (ad t)), (1, .int a1), (2, .int a2)] []
  refine x_aload_n X dX6_leastTimelySpeed_0 rfl 0 rfl ?_
  refine x_getR X (j := 3) dX6_leastTimelySpeed_1 fl_6_53 (dsX_pl ht) rfl ?_
  refine x_getR X (j := 12) dX6_leastTimelySpeed_4 fl_6_83 dsX_3 rfl ?_
  refine x_iload_n X dX6_leastTimelySpeed_7 rfl 2 rfl ?_
  have g8 := h.1
  have h := h.2
  refine x_iald X dX6_leastTimelySpeed_8 dsX_12 g8 ?_
  refine x_istore_n X (lv' := [(3, .int (σ 12 a2.toNatClampNeg)), (0, .ref (ad t)), (1, .int a1), (2, .int a2)]) dX6_leastTimelySpeed_9 rfl (by decide) rfl ?_
  refine x_aload_n X dX6_leastTimelySpeed_10 rfl 1 rfl ?_
  refine x_iload_n X dX6_leastTimelySpeed_11 rfl 2 rfl ?_
  refine x_callVi X [.int a1] [] dX6_leastTimelySpeed_12 (kX6_arrival ht h) cm_X6_arrival ci_X6_arrival w_3_190 (dsX_pl ht) ⟨by decide, by decide⟩ rfl (Nat.le_of_ble_eq_true rfl) (fun r12 σ12 τ12 h => ?_)
  refine x_aload_n X dX6_leastTimelySpeed_15 rfl 1 rfl ?_
  refine x_getR X (j := 3) dX6_leastTimelySpeed_16 fl_6_53 (dsX_pl ht) rfl ?_
  refine x_iload_n X dX6_leastTimelySpeed_19 rfl 0 rfl ?_
  refine x_aload_n X dX6_leastTimelySpeed_20 rfl 1 rfl ?_
  refine x_getR X (j := (t + 3)) dX6_leastTimelySpeed_21 fl_6_18 (dsX_pl ht) rfl ?_
  refine x_iload_n X dX6_leastTimelySpeed_24 rfl 3 rfl ?_
  refine x_iald X dX6_leastTimelySpeed_25 (dsX_pl3 ht) g8 ?_
  refine x_callVi X [.int (σ 12 a2.toNatClampNeg), .int (σ12 (t + 3) a2.toNatClampNeg)] [.int r12] dX6_leastTimelySpeed_26 (kX1_minutes h) cm_X1_minutes ci_X1_minutes w_3_106 dsX_3 ⟨by decide, by decide⟩ rfl (Nat.le_of_ble_eq_true rfl) (fun r26 σ26 τ26 h => ?_)
  refine x_isub X dX6_leastTimelySpeed_29 ?_
  refine x_istore X (lv' := [(4, .int (r12 - r26)), (3, .int (σ 12 a2.toNatClampNeg)), (0, .ref (ad t)), (1, .int a1), (2, .int a2)]) dX6_leastTimelySpeed_30 (by decide) rfl ?_
  refine x_bipush X dX6_leastTimelySpeed_32 kb_40 ?_
  refine x_istore X (lv' := [(5, .int 40), (4, .int (r12 - r26)), (3, .int (σ 12 a2.toNatClampNeg)), (0, .ref (ad t)), (1, .int a1), (2, .int a2)]) dX6_leastTimelySpeed_34 (by decide) rfl ?_
  refine x_sub X [3, 4, 5, 2, 1, 0] (lv' := [(0, .ref (ad t)), (1, .int a1), (2, .int a2), (3, .int (σ 12 a2.toNatClampNeg)), (4, .int (r12 - r26)), (5, .int 40)]) rfl ?_
  exact x_l5_G (fun v1 v2 v3 v4 v5 σ τ => V σ τ 36 [(0, .ref (ad t)), (1, .int v1), (2, .int v2), (3, .int v3), (4, .int v4), (5, .int v5)] []) (fun K36 hK36 v1 v2 v3 v4 v5 σ τ h => bX6_leastTimelySpeed_36 X ht hK36 h) h
theorem dX6_fuel_0 : decode cX6_fuel 0 = .ok (.aload_n 0, 1) := by decide +kernel
theorem dX6_fuel_1 : decode cX6_fuel 1 = .ok (.iload_n 1, 1) := by decide +kernel
theorem dX6_fuel_2 : decode cX6_fuel 2 = .ok (.invokevirtual 135, 3) := by decide +kernel
theorem dX6_fuel_5 : decode cX6_fuel 5 = .ok (.aload_n 0, 1) := by decide +kernel
theorem dX6_fuel_6 : decode cX6_fuel 6 = .ok (.getfield 42, 3) := by decide +kernel
theorem dX6_fuel_9 : decode cX6_fuel 9 = .ok (.iload_n 1, 1) := by decide +kernel
theorem dX6_fuel_10 : decode cX6_fuel 10 = .ok (.iaload, 1) := by decide +kernel
theorem dX6_fuel_11 : decode cX6_fuel 11 = .ok (.isub, 1) := by decide +kernel
theorem dX6_fuel_12 : decode cX6_fuel 12 = .ok (.aload_n 0, 1) := by decide +kernel
theorem dX6_fuel_13 : decode cX6_fuel 13 = .ok (.getfield 45, 3) := by decide +kernel
theorem dX6_fuel_16 : decode cX6_fuel 16 = .ok (.iload_n 1, 1) := by decide +kernel
theorem dX6_fuel_17 : decode cX6_fuel 17 = .ok (.baload, 1) := by decide +kernel
theorem dX6_fuel_18 : decode cX6_fuel 18 = .ok (.ifCond .eq 9, 3) := by decide +kernel
theorem dX6_fuel_21 : decode cX6_fuel 21 = .ok (.sipush 300, 3) := by decide +kernel
theorem dX6_fuel_24 : decode cX6_fuel 24 = .ok (.goto 4, 3) := by decide +kernel
theorem dX6_fuel_27 : decode cX6_fuel 27 = .ok (.iconst 0, 1) := by decide +kernel
theorem dX6_fuel_28 : decode cX6_fuel 28 = .ok (.iadd, 1) := by decide +kernel
theorem dX6_fuel_29 : decode cX6_fuel 29 = .ok (.ireturn, 1) := by decide +kernel
theorem cm_X6_fuel : x_CM yX6_fuel cX6_fuel 2 (Option.some FieldType.int) 1 := ⟨w_4_160, w_1_7, by decide +kernel, by decide +kernel⟩
theorem ci_X6_fuel : x_CI yX6_fuel 8 := ⟨w_4_158, w_4_159, (RX6, TX6, 15), rfl, rfl⟩
set_option maxRecDepth 100000 in
set_option maxHeartbeats 4000000 in
theorem bX6_fuel_28 {V : x_J} {ad : Nat → Nat} {t : Nat} {Q : Int32 → x_S → x_L → Prop} (X : x_Is V cX6_fuel 2 RX6 (Option.some FieldType.int) ad dsX 1 (x_PI Q)) (ht : x_pl t) {s0 : Int32} {s1 : Int32} {σ : x_S} {τ : x_L} (h : wX6_fuel_28 t Q s0 s1 σ τ) : V σ τ 28 [] [.int s1, .int s0] := by
  refine x_iadd X dX6_fuel_28 ?_
  exact x_iret X dX6_fuel_29 ⟨_, rfl, h⟩
set_option maxRecDepth 100000 in
set_option maxHeartbeats 4000000 in
theorem kX6_fuel {ad : Nat → Nat} {t : Nat} (ht : x_pl t) {a1 : Int32} {σ : x_S} {τ : x_L} {Q : Int32 → x_S → x_L → Prop} (h : wX6_fuel t a1 σ τ Q) : x_Met yX6_fuel cX6_fuel 2 (Option.some FieldType.int) 1 ad dsX [.ref (ad t), .int a1] σ τ (x_PI Q) := by
  refine x_met (by decide +kernel) (Nat.le_of_ble_eq_true rfl) (fun V X => ?_)
  have X : x_Is V cX6_fuel 2 RX6 (Option.some FieldType.int) ad dsX 1 (x_PI Q) := X
  show V σ τ 0 [(0, .ref (ad t)), (1, .int a1)] []
  refine x_aload_n X dX6_fuel_0 rfl 0 rfl ?_
  refine x_iload_n X dX6_fuel_1 rfl 1 rfl ?_
  refine x_callVi X [.int a1] [] dX6_fuel_2 (kX6_base ht h) cm_X6_base ci_X6_base w_3_135 (dsX_pl ht) ⟨by decide, by decide⟩ rfl (Nat.le_of_ble_eq_true rfl) (fun r2 σ2 τ2 h => ?_)
  refine x_aload_n X dX6_fuel_5 rfl 0 rfl ?_
  refine x_getR X (j := (t + 11)) dX6_fuel_6 fl_6_42 (dsX_pl ht) rfl ?_
  refine x_iload_n X dX6_fuel_9 rfl 1 rfl ?_
  have g10 := h.1
  have h := h.2
  refine x_iald X dX6_fuel_10 (dsX_pl11 ht) g10 ?_
  refine x_isub X dX6_fuel_11 ?_
  refine x_aload_n X dX6_fuel_12 rfl 0 rfl ?_
  refine x_getR X (j := (t + 12)) dX6_fuel_13 fl_6_45 (dsX_pl ht) rfl ?_
  refine x_iload_n X dX6_fuel_16 rfl 1 rfl ?_
  refine x_zald X dX6_fuel_17 (dsX_pl12 ht) g10 ?_
  refine x_if_eq X 27 dX6_fuel_18 (by decide) (fun hc => ?_) (fun hc => ?_)
  · have h := h.1 hc
    refine x_iconst X dX6_fuel_27 ki_0 ?_
    refine x_sub X [] (lv' := []) rfl ?_
    exact bX6_fuel_28 X ht h
  · have h := h.2 hc
    refine x_sipush X dX6_fuel_21 ks_300 ?_
    refine x_goto X (tgt := 28) dX6_fuel_24 (by decide) ?_
    refine x_sub X [] (lv' := []) rfl ?_
    exact bX6_fuel_28 X ht h
theorem dX7_allStops_0 : decode cX7_allStops 0 = .ok (.aload_n 0, 1) := by decide +kernel
theorem dX7_allStops_1 : decode cX7_allStops 1 = .ok (.getfield 15, 3) := by decide +kernel
theorem dX7_allStops_4 : decode cX7_allStops 4 = .ok (.aload_n 0, 1) := by decide +kernel
theorem dX7_allStops_5 : decode cX7_allStops 5 = .ok (.getfield 28, 3) := by decide +kernel
theorem dX7_allStops_8 : decode cX7_allStops 8 = .ok (.getfield 55, 3) := by decide +kernel
theorem dX7_allStops_11 : decode cX7_allStops 11 = .ok (.iaload, 1) := by decide +kernel
theorem dX7_allStops_12 : decode cX7_allStops 12 = .ok (.ireturn, 1) := by decide +kernel
theorem cm_X7_allStops : x_CM yX7_allStops cX7_allStops 1 (Option.some FieldType.int) 0 := ⟨w_3_173, w_1_6, by decide +kernel, by decide +kernel⟩
theorem ci_X7_allStops : x_CI yX7_allStops 9 := ⟨w_3_171, w_3_172, (RX7, TX7, 6), rfl, rfl⟩
set_option maxRecDepth 100000 in
set_option maxHeartbeats 4000000 in
theorem kX7_allStops {ad : Nat → Nat} {σ : x_S} {τ : x_L} {Q : Int32 → x_S → x_L → Prop} (h : wX7_allStops σ τ Q) : x_Met yX7_allStops cX7_allStops 1 (Option.some FieldType.int) 0 ad dsX [.ref (ad 27)] σ τ (x_PI Q) := by
  refine x_met (by decide +kernel) (Nat.le_of_ble_eq_true rfl) (fun V X => ?_)
  have X : x_Is V cX7_allStops 1 RX7 (Option.some FieldType.int) ad dsX 0 (x_PI Q) := X
  show V σ τ 0 [(0, .ref (ad 27))] []
  refine x_aload_n X dX7_allStops_0 rfl 0 rfl ?_
  refine x_getR X (j := 29) dX7_allStops_1 fl_7_15 dsX_27 rfl ?_
  refine x_aload_n X dX7_allStops_4 rfl 0 rfl ?_
  refine x_getR X (j := 3) dX7_allStops_5 fl_7_28 dsX_27 rfl ?_
  refine x_getI X dX7_allStops_8 fl_7_55 dsX_3 rfl ?_
  have g11 := h.1
  have h := h.2
  refine x_iald X dX7_allStops_11 dsX_29 g11 ?_
  exact x_iret X dX7_allStops_12 ⟨_, rfl, h⟩
theorem dX6_allBases_0 : decode cX6_allBases 0 = .ok (.iconst 0, 1) := by decide +kernel
theorem dX6_allBases_1 : decode cX6_allBases 1 = .ok (.istore_n 1, 1) := by decide +kernel
theorem dX6_allBases_2 : decode cX6_allBases 2 = .ok (.iconst 0, 1) := by decide +kernel
theorem dX6_allBases_3 : decode cX6_allBases 3 = .ok (.istore_n 2, 1) := by decide +kernel
theorem dX6_allBases_4 : decode cX6_allBases 4 = .ok (.iload_n 2, 1) := by decide +kernel
theorem dX6_allBases_5 : decode cX6_allBases 5 = .ok (.aload_n 0, 1) := by decide +kernel
theorem dX6_allBases_6 : decode cX6_allBases 6 = .ok (.getfield 57, 3) := by decide +kernel
theorem dX6_allBases_9 : decode cX6_allBases 9 = .ok (.invokevirtual 168, 3) := by decide +kernel
theorem dX6_allBases_12 : decode cX6_allBases 12 = .ok (.if_icmp .ge 22, 3) := by decide +kernel
theorem dX6_allBases_15 : decode cX6_allBases 15 = .ok (.iload_n 1, 1) := by decide +kernel
theorem dX6_allBases_16 : decode cX6_allBases 16 = .ok (.aload_n 0, 1) := by decide +kernel
theorem dX6_allBases_17 : decode cX6_allBases 17 = .ok (.aload_n 0, 1) := by decide +kernel
theorem dX6_allBases_18 : decode cX6_allBases 18 = .ok (.getfield 27, 3) := by decide +kernel
theorem dX6_allBases_21 : decode cX6_allBases 21 = .ok (.iload_n 2, 1) := by decide +kernel
theorem dX6_allBases_22 : decode cX6_allBases 22 = .ok (.iaload, 1) := by decide +kernel
theorem dX6_allBases_23 : decode cX6_allBases 23 = .ok (.invokevirtual 135, 3) := by decide +kernel
theorem dX6_allBases_26 : decode cX6_allBases 26 = .ok (.iadd, 1) := by decide +kernel
theorem dX6_allBases_27 : decode cX6_allBases 27 = .ok (.istore_n 1, 1) := by decide +kernel
theorem dX6_allBases_28 : decode cX6_allBases 28 = .ok (.iinc 2 1, 3) := by decide +kernel
theorem dX6_allBases_31 : decode cX6_allBases 31 = .ok (.goto (-27), 3) := by decide +kernel
theorem dX6_allBases_34 : decode cX6_allBases 34 = .ok (.iload_n 1, 1) := by decide +kernel
theorem dX6_allBases_35 : decode cX6_allBases 35 = .ok (.ireturn, 1) := by decide +kernel
theorem cm_X6_allBases : x_CM yX6_allBases cX6_allBases 3 (Option.some FieldType.int) 0 := ⟨w_6_148, w_1_7, by decide +kernel, by decide +kernel⟩
theorem ci_X6_allBases : x_CI yX6_allBases 8 := ⟨w_6_146, w_6_147, (RX6, TX6, 15), rfl, rfl⟩
set_option maxRecDepth 100000 in
set_option maxHeartbeats 4000000 in
theorem bX6_allBases_4 {V : x_J} {ad : Nat → Nat} {t : Nat} {Q : Int32 → x_S → x_L → Prop} (X : x_Is V cX6_allBases 3 RX6 (Option.some FieldType.int) ad dsX 1 (x_PI Q)) (ht : x_pl t) {K4 : Int32 → Int32 → x_S → x_L → Prop} (hK4 : ∀ v1 v2 σ τ, K4 v1 v2 σ τ → V σ τ 4 [(0, .ref (ad t)), (1, .int v1), (2, .int v2)] []) {v1 : Int32} {v2 : Int32} {σ : x_S} {τ : x_L} (h : wX6_allBases_4 t Q K4 v1 v2 σ τ) : V σ τ 4 [(0, .ref (ad t)), (1, .int v1), (2, .int v2)] [] := by
  refine x_iload_n X dX6_allBases_4 rfl 2 rfl ?_
  refine x_aload_n X dX6_allBases_5 rfl 0 rfl ?_
  refine x_getR X (j := 27) dX6_allBases_6 fl_6_57 (dsX_pl ht) rfl ?_
  refine x_callVi X [] [.int v2] dX6_allBases_9 (kX7_allStops h) cm_X7_allStops ci_X7_allStops w_6_149 dsX_27 ⟨by decide, by decide⟩ rfl (Nat.le_of_ble_eq_true rfl) (fun r9 σ9 τ9 h => ?_)
  refine x_icmp_ge X 34 dX6_allBases_12 (by decide) (fun hc => ?_) (fun hc => ?_)
  · have h := h.1 hc
    refine x_iload_n X dX6_allBases_34 rfl 1 rfl ?_
    exact x_iret X dX6_allBases_35 ⟨_, rfl, h⟩
  · have h := h.2 hc
    refine x_iload_n X dX6_allBases_15 rfl 1 rfl ?_
    refine x_aload_n X dX6_allBases_16 rfl 0 rfl ?_
    refine x_aload_n X dX6_allBases_17 rfl 0 rfl ?_
    refine x_getR X (j := (t + 6)) dX6_allBases_18 fl_6_27 (dsX_pl ht) rfl ?_
    refine x_iload_n X dX6_allBases_21 rfl 2 rfl ?_
    have g22 := h.1
    have h := h.2
    refine x_iald X dX6_allBases_22 (dsX_pl6 ht) g22 ?_
    refine x_callVi X [.int (σ9 (t + 6) v2.toNatClampNeg)] [.int v1] dX6_allBases_23 (kX6_base ht h) cm_X6_base ci_X6_base w_3_135 (dsX_pl ht) ⟨by decide, by decide⟩ rfl (Nat.le_of_ble_eq_true rfl) (fun r23 σ23 τ23 h => ?_)
    refine x_iadd X dX6_allBases_26 ?_
    refine x_istore_n X (lv' := [(1, .int (v1 + r23)), (0, .ref (ad t)), (2, .int v2)]) dX6_allBases_27 rfl (by decide) rfl ?_
    refine x_iinc X (k := 2) (lv' := [(2, .int (v2 + 1)), (1, .int (v1 + r23)), (0, .ref (ad t))]) dX6_allBases_28 rfl ki_1 (by decide) rfl ?_
    refine x_goto X (tgt := 4) dX6_allBases_31 (by decide) ?_
    refine x_sub X [2, 1, 0] (lv' := [(0, .ref (ad t)), (1, .int (v1 + r23)), (2, .int (v2 + 1))]) rfl ?_
    exact hK4 _ _ _ _ h
set_option maxRecDepth 100000 in
set_option maxHeartbeats 4000000 in
theorem kX6_allBases {ad : Nat → Nat} {t : Nat} (ht : x_pl t) {σ : x_S} {τ : x_L} {Q : Int32 → x_S → x_L → Prop} (h : wX6_allBases t σ τ Q) : x_Met yX6_allBases cX6_allBases 3 (Option.some FieldType.int) 1 ad dsX [.ref (ad t)] σ τ (x_PI Q) := by
  refine x_met (by decide +kernel) (Nat.le_of_ble_eq_true rfl) (fun V X => ?_)
  have X : x_Is V cX6_allBases 3 RX6 (Option.some FieldType.int) ad dsX 1 (x_PI Q) := X
  show V σ τ 0 [(0, .ref (ad t))] []
  refine x_iconst X dX6_allBases_0 ki_0 ?_
  refine x_istore_n X (lv' := [(1, .int 0), (0, .ref (ad t))]) dX6_allBases_1 rfl (by decide) rfl ?_
  refine x_iconst X dX6_allBases_2 ki_0 ?_
  refine x_istore_n X (lv' := [(2, .int 0), (1, .int 0), (0, .ref (ad t))]) dX6_allBases_3 rfl (by decide) rfl ?_
  refine x_sub X [2, 1, 0] (lv' := [(0, .ref (ad t)), (1, .int 0), (2, .int 0)]) rfl ?_
  exact x_l2_G (fun v1 v2 σ τ => V σ τ 4 [(0, .ref (ad t)), (1, .int v1), (2, .int v2)] []) (fun K4 hK4 v1 v2 σ τ h => bX6_allBases_4 X ht hK4 h) h
theorem dX6_fuelOf_0 : decode cX6_fuelOf 0 = .ok (.iconst 0, 1) := by decide +kernel
theorem dX6_fuelOf_1 : decode cX6_fuelOf 1 = .ok (.istore_n 2, 1) := by decide +kernel
theorem dX6_fuelOf_2 : decode cX6_fuelOf 2 = .ok (.iload_n 1, 1) := by decide +kernel
theorem dX6_fuelOf_3 : decode cX6_fuelOf 3 = .ok (.bipush 10, 2) := by decide +kernel
theorem dX6_fuelOf_5 : decode cX6_fuelOf 5 = .ok (.imul, 1) := by decide +kernel
theorem dX6_fuelOf_6 : decode cX6_fuelOf 6 = .ok (.istore_n 3, 1) := by decide +kernel
theorem dX6_fuelOf_7 : decode cX6_fuelOf 7 = .ok (.iload_n 3, 1) := by decide +kernel
theorem dX6_fuelOf_8 : decode cX6_fuelOf 8 = .ok (.aload_n 0, 1) := by decide +kernel
theorem dX6_fuelOf_9 : decode cX6_fuelOf 9 = .ok (.getfield 57, 3) := by decide +kernel
theorem dX6_fuelOf_12 : decode cX6_fuelOf 12 = .ok (.getfield 75, 3) := by decide +kernel
theorem dX6_fuelOf_15 : decode cX6_fuelOf 15 = .ok (.iload_n 1, 1) := by decide +kernel
theorem dX6_fuelOf_16 : decode cX6_fuelOf 16 = .ok (.iaload, 1) := by decide +kernel
theorem dX6_fuelOf_17 : decode cX6_fuelOf 17 = .ok (.if_icmp .ge 17, 3) := by decide +kernel
theorem dX6_fuelOf_20 : decode cX6_fuelOf 20 = .ok (.iload_n 2, 1) := by decide +kernel
theorem dX6_fuelOf_21 : decode cX6_fuelOf 21 = .ok (.aload_n 0, 1) := by decide +kernel
theorem dX6_fuelOf_22 : decode cX6_fuelOf 22 = .ok (.iload_n 3, 1) := by decide +kernel
theorem dX6_fuelOf_23 : decode cX6_fuelOf 23 = .ok (.invokevirtual 172, 3) := by decide +kernel
theorem dX6_fuelOf_26 : decode cX6_fuelOf 26 = .ok (.iadd, 1) := by decide +kernel
theorem dX6_fuelOf_27 : decode cX6_fuelOf 27 = .ok (.istore_n 2, 1) := by decide +kernel
theorem dX6_fuelOf_28 : decode cX6_fuelOf 28 = .ok (.iinc 3 1, 3) := by decide +kernel
theorem dX6_fuelOf_31 : decode cX6_fuelOf 31 = .ok (.goto (-24), 3) := by decide +kernel
theorem dX6_fuelOf_34 : decode cX6_fuelOf 34 = .ok (.iload_n 2, 1) := by decide +kernel
theorem dX6_fuelOf_35 : decode cX6_fuelOf 35 = .ok (.ireturn, 1) := by decide +kernel
theorem cm_X6_fuelOf : x_CM yX6_fuelOf cX6_fuelOf 4 (Option.some FieldType.int) 1 := ⟨w_5_71, w_1_7, by decide +kernel, by decide +kernel⟩
theorem ci_X6_fuelOf : x_CI yX6_fuelOf 8 := ⟨w_5_69, w_5_70, (RX6, TX6, 15), rfl, rfl⟩
set_option maxRecDepth 100000 in
set_option maxHeartbeats 4000000 in
theorem bX6_fuelOf_7 {V : x_J} {ad : Nat → Nat} {t : Nat} {Q : Int32 → x_S → x_L → Prop} (X : x_Is V cX6_fuelOf 4 RX6 (Option.some FieldType.int) ad dsX 2 (x_PI Q)) (ht : x_pl t) {K7 : Int32 → Int32 → Int32 → x_S → x_L → Prop} (hK7 : ∀ v1 v2 v3 σ τ, K7 v1 v2 v3 σ τ → V σ τ 7 [(0, .ref (ad t)), (1, .int v1), (2, .int v2), (3, .int v3)] []) {v1 : Int32} {v2 : Int32} {v3 : Int32} {σ : x_S} {τ : x_L} (h : wX6_fuelOf_7 t Q K7 v1 v2 v3 σ τ) : V σ τ 7 [(0, .ref (ad t)), (1, .int v1), (2, .int v2), (3, .int v3)] [] := by
  refine x_iload_n X dX6_fuelOf_7 rfl 3 rfl ?_
  refine x_aload_n X dX6_fuelOf_8 rfl 0 rfl ?_
  refine x_getR X (j := 27) dX6_fuelOf_9 fl_6_57 (dsX_pl ht) rfl ?_
  refine x_getR X (j := 30) dX6_fuelOf_12 fl_6_75 dsX_27 rfl ?_
  refine x_iload_n X dX6_fuelOf_15 rfl 1 rfl ?_
  have g16 := h.1
  have h := h.2
  refine x_iald X dX6_fuelOf_16 dsX_30 g16 ?_
  refine x_icmp_ge X 34 dX6_fuelOf_17 (by decide) (fun hc => ?_) (fun hc => ?_)
  · have h := h.1 hc
    refine x_iload_n X dX6_fuelOf_34 rfl 2 rfl ?_
    exact x_iret X dX6_fuelOf_35 ⟨_, rfl, h⟩
  · have h := h.2 hc
    refine x_iload_n X dX6_fuelOf_20 rfl 2 rfl ?_
    refine x_aload_n X dX6_fuelOf_21 rfl 0 rfl ?_
    refine x_iload_n X dX6_fuelOf_22 rfl 3 rfl ?_
    refine x_callVi X [.int v3] [.int v2] dX6_fuelOf_23 (kX6_fuel ht h) cm_X6_fuel ci_X6_fuel w_5_72 (dsX_pl ht) ⟨by decide, by decide⟩ rfl (Nat.le_of_ble_eq_true rfl) (fun r23 σ23 τ23 h => ?_)
    refine x_iadd X dX6_fuelOf_26 ?_
    refine x_istore_n X (lv' := [(2, .int (v2 + r23)), (0, .ref (ad t)), (1, .int v1), (3, .int v3)]) dX6_fuelOf_27 rfl (by decide) rfl ?_
    refine x_iinc X (k := 3) (lv' := [(3, .int (v3 + 1)), (2, .int (v2 + r23)), (0, .ref (ad t)), (1, .int v1)]) dX6_fuelOf_28 rfl ki_1 (by decide) rfl ?_
    refine x_goto X (tgt := 7) dX6_fuelOf_31 (by decide) ?_
    refine x_sub X [2, 3, 1, 0] (lv' := [(0, .ref (ad t)), (1, .int v1), (2, .int (v2 + r23)), (3, .int (v3 + 1))]) rfl ?_
    exact hK7 _ _ _ _ _ h
set_option maxRecDepth 100000 in
set_option maxHeartbeats 4000000 in
theorem kX6_fuelOf {ad : Nat → Nat} {t : Nat} (ht : x_pl t) {a1 : Int32} {σ : x_S} {τ : x_L} {Q : Int32 → x_S → x_L → Prop} (h : wX6_fuelOf t a1 σ τ Q) : x_Met yX6_fuelOf cX6_fuelOf 4 (Option.some FieldType.int) 2 ad dsX [.ref (ad t), .int a1] σ τ (x_PI Q) := by
  refine x_met (by decide +kernel) (Nat.le_of_ble_eq_true rfl) (fun V X => ?_)
  have X : x_Is V cX6_fuelOf 4 RX6 (Option.some FieldType.int) ad dsX 2 (x_PI Q) := X
  show V σ τ 0 [(0, .ref (ad t)), (1, .int a1)] []
  refine x_iconst X dX6_fuelOf_0 ki_0 ?_
  refine x_istore_n X (lv' := [(2, .int 0), (0, .ref (ad t)), (1, .int a1)]) dX6_fuelOf_1 rfl (by decide) rfl ?_
  refine x_iload_n X dX6_fuelOf_2 rfl 2 rfl ?_
  refine x_bipush X dX6_fuelOf_3 kb_10 ?_
  refine x_imul X dX6_fuelOf_5 ?_
  refine x_istore_n X (lv' := [(3, .int (a1 * 10)), (2, .int 0), (0, .ref (ad t)), (1, .int a1)]) dX6_fuelOf_6 rfl (by decide) rfl ?_
  refine x_sub X [2, 3, 1, 0] (lv' := [(0, .ref (ad t)), (1, .int a1), (2, .int 0), (3, .int (a1 * 10))]) rfl ?_
  exact x_l3_G (fun v1 v2 v3 σ τ => V σ τ 7 [(0, .ref (ad t)), (1, .int v1), (2, .int v2), (3, .int v3)] []) (fun K7 hK7 v1 v2 v3 σ τ h => bX6_fuelOf_7 X ht hK7 h) h
theorem dX6_savedBy_0 : decode cX6_savedBy 0 = .ok (.iconst 0, 1) := by decide +kernel
theorem dX6_savedBy_1 : decode cX6_savedBy 1 = .ok (.istore_n 2, 1) := by decide +kernel
theorem dX6_savedBy_2 : decode cX6_savedBy 2 = .ok (.iload_n 1, 1) := by decide +kernel
theorem dX6_savedBy_3 : decode cX6_savedBy 3 = .ok (.bipush 10, 2) := by decide +kernel
theorem dX6_savedBy_5 : decode cX6_savedBy 5 = .ok (.imul, 1) := by decide +kernel
theorem dX6_savedBy_6 : decode cX6_savedBy 6 = .ok (.istore_n 3, 1) := by decide +kernel
theorem dX6_savedBy_7 : decode cX6_savedBy 7 = .ok (.iload_n 3, 1) := by decide +kernel
theorem dX6_savedBy_8 : decode cX6_savedBy 8 = .ok (.aload_n 0, 1) := by decide +kernel
theorem dX6_savedBy_9 : decode cX6_savedBy 9 = .ok (.getfield 57, 3) := by decide +kernel
theorem dX6_savedBy_12 : decode cX6_savedBy 12 = .ok (.getfield 75, 3) := by decide +kernel
theorem dX6_savedBy_15 : decode cX6_savedBy 15 = .ok (.iload_n 1, 1) := by decide +kernel
theorem dX6_savedBy_16 : decode cX6_savedBy 16 = .ok (.iaload, 1) := by decide +kernel
theorem dX6_savedBy_17 : decode cX6_savedBy 17 = .ok (.if_icmp .ge 18, 3) := by decide +kernel
theorem dX6_savedBy_20 : decode cX6_savedBy 20 = .ok (.iload_n 2, 1) := by decide +kernel
theorem dX6_savedBy_21 : decode cX6_savedBy 21 = .ok (.aload_n 0, 1) := by decide +kernel
theorem dX6_savedBy_22 : decode cX6_savedBy 22 = .ok (.getfield 42, 3) := by decide +kernel
theorem dX6_savedBy_25 : decode cX6_savedBy 25 = .ok (.iload_n 3, 1) := by decide +kernel
theorem dX6_savedBy_26 : decode cX6_savedBy 26 = .ok (.iaload, 1) := by decide +kernel
theorem dX6_savedBy_27 : decode cX6_savedBy 27 = .ok (.iadd, 1) := by decide +kernel
theorem dX6_savedBy_28 : decode cX6_savedBy 28 = .ok (.istore_n 2, 1) := by decide +kernel
theorem dX6_savedBy_29 : decode cX6_savedBy 29 = .ok (.iinc 3 1, 3) := by decide +kernel
theorem dX6_savedBy_32 : decode cX6_savedBy 32 = .ok (.goto (-25), 3) := by decide +kernel
theorem dX6_savedBy_35 : decode cX6_savedBy 35 = .ok (.iload_n 2, 1) := by decide +kernel
theorem dX6_savedBy_36 : decode cX6_savedBy 36 = .ok (.ireturn, 1) := by decide +kernel
theorem cm_X6_savedBy : x_CM yX6_savedBy cX6_savedBy 4 (Option.some FieldType.int) 1 := ⟨w_5_76, w_1_7, by decide +kernel, by decide +kernel⟩
theorem ci_X6_savedBy : x_CI yX6_savedBy 8 := ⟨w_5_74, w_5_75, (RX6, TX6, 15), rfl, rfl⟩
set_option maxRecDepth 100000 in
set_option maxHeartbeats 4000000 in
theorem bX6_savedBy_7 {V : x_J} {ad : Nat → Nat} {t : Nat} {Q : Int32 → x_S → x_L → Prop} (X : x_Is V cX6_savedBy 4 RX6 (Option.some FieldType.int) ad dsX 0 (x_PI Q)) (ht : x_pl t) {K7 : Int32 → Int32 → Int32 → x_S → x_L → Prop} (hK7 : ∀ v1 v2 v3 σ τ, K7 v1 v2 v3 σ τ → V σ τ 7 [(0, .ref (ad t)), (1, .int v1), (2, .int v2), (3, .int v3)] []) {v1 : Int32} {v2 : Int32} {v3 : Int32} {σ : x_S} {τ : x_L} (h : wX6_savedBy_7 t Q K7 v1 v2 v3 σ τ) : V σ τ 7 [(0, .ref (ad t)), (1, .int v1), (2, .int v2), (3, .int v3)] [] := by
  refine x_iload_n X dX6_savedBy_7 rfl 3 rfl ?_
  refine x_aload_n X dX6_savedBy_8 rfl 0 rfl ?_
  refine x_getR X (j := 27) dX6_savedBy_9 fl_6_57 (dsX_pl ht) rfl ?_
  refine x_getR X (j := 30) dX6_savedBy_12 fl_6_75 dsX_27 rfl ?_
  refine x_iload_n X dX6_savedBy_15 rfl 1 rfl ?_
  have g16 := h.1
  have h := h.2
  refine x_iald X dX6_savedBy_16 dsX_30 g16 ?_
  refine x_icmp_ge X 35 dX6_savedBy_17 (by decide) (fun hc => ?_) (fun hc => ?_)
  · have h := h.1 hc
    refine x_iload_n X dX6_savedBy_35 rfl 2 rfl ?_
    exact x_iret X dX6_savedBy_36 ⟨_, rfl, h⟩
  · have h := h.2 hc
    refine x_iload_n X dX6_savedBy_20 rfl 2 rfl ?_
    refine x_aload_n X dX6_savedBy_21 rfl 0 rfl ?_
    refine x_getR X (j := (t + 11)) dX6_savedBy_22 fl_6_42 (dsX_pl ht) rfl ?_
    refine x_iload_n X dX6_savedBy_25 rfl 3 rfl ?_
    have g26 := h.1
    have h := h.2
    refine x_iald X dX6_savedBy_26 (dsX_pl11 ht) g26 ?_
    refine x_iadd X dX6_savedBy_27 ?_
    refine x_istore_n X (lv' := [(2, .int (v2 + (σ (t + 11) v3.toNatClampNeg))), (0, .ref (ad t)), (1, .int v1), (3, .int v3)]) dX6_savedBy_28 rfl (by decide) rfl ?_
    refine x_iinc X (k := 3) (lv' := [(3, .int (v3 + 1)), (2, .int (v2 + (σ (t + 11) v3.toNatClampNeg))), (0, .ref (ad t)), (1, .int v1)]) dX6_savedBy_29 rfl ki_1 (by decide) rfl ?_
    refine x_goto X (tgt := 7) dX6_savedBy_32 (by decide) ?_
    refine x_sub X [2, 3, 1, 0] (lv' := [(0, .ref (ad t)), (1, .int v1), (2, .int (v2 + (σ (t + 11) v3.toNatClampNeg))), (3, .int (v3 + 1))]) rfl ?_
    exact hK7 _ _ _ _ _ h
set_option maxRecDepth 100000 in
set_option maxHeartbeats 4000000 in
theorem kX6_savedBy {ad : Nat → Nat} {t : Nat} (ht : x_pl t) {a1 : Int32} {σ : x_S} {τ : x_L} {Q : Int32 → x_S → x_L → Prop} (h : wX6_savedBy t a1 σ τ Q) : x_Met yX6_savedBy cX6_savedBy 4 (Option.some FieldType.int) 0 ad dsX [.ref (ad t), .int a1] σ τ (x_PI Q) := by
  refine x_met (by decide +kernel) (Nat.le_of_ble_eq_true rfl) (fun V X => ?_)
  have X : x_Is V cX6_savedBy 4 RX6 (Option.some FieldType.int) ad dsX 0 (x_PI Q) := X
  show V σ τ 0 [(0, .ref (ad t)), (1, .int a1)] []
  refine x_iconst X dX6_savedBy_0 ki_0 ?_
  refine x_istore_n X (lv' := [(2, .int 0), (0, .ref (ad t)), (1, .int a1)]) dX6_savedBy_1 rfl (by decide) rfl ?_
  refine x_iload_n X dX6_savedBy_2 rfl 2 rfl ?_
  refine x_bipush X dX6_savedBy_3 kb_10 ?_
  refine x_imul X dX6_savedBy_5 ?_
  refine x_istore_n X (lv' := [(3, .int (a1 * 10)), (2, .int 0), (0, .ref (ad t)), (1, .int a1)]) dX6_savedBy_6 rfl (by decide) rfl ?_
  refine x_sub X [2, 3, 1, 0] (lv' := [(0, .ref (ad t)), (1, .int a1), (2, .int 0), (3, .int (a1 * 10))]) rfl ?_
  exact x_l3_G (fun v1 v2 v3 σ τ => V σ τ 7 [(0, .ref (ad t)), (1, .int v1), (2, .int v2), (3, .int v3)] []) (fun K7 hK7 v1 v2 v3 σ τ h => bX6_savedBy_7 X ht hK7 h) h
theorem dX6_closedBy_0 : decode cX6_closedBy 0 = .ok (.iconst 0, 1) := by decide +kernel
theorem dX6_closedBy_1 : decode cX6_closedBy 1 = .ok (.istore_n 2, 1) := by decide +kernel
theorem dX6_closedBy_2 : decode cX6_closedBy 2 = .ok (.iload_n 1, 1) := by decide +kernel
theorem dX6_closedBy_3 : decode cX6_closedBy 3 = .ok (.bipush 10, 2) := by decide +kernel
theorem dX6_closedBy_5 : decode cX6_closedBy 5 = .ok (.imul, 1) := by decide +kernel
theorem dX6_closedBy_6 : decode cX6_closedBy 6 = .ok (.istore_n 3, 1) := by decide +kernel
theorem dX6_closedBy_7 : decode cX6_closedBy 7 = .ok (.iload_n 3, 1) := by decide +kernel
theorem dX6_closedBy_8 : decode cX6_closedBy 8 = .ok (.aload_n 0, 1) := by decide +kernel
theorem dX6_closedBy_9 : decode cX6_closedBy 9 = .ok (.getfield 57, 3) := by decide +kernel
theorem dX6_closedBy_12 : decode cX6_closedBy 12 = .ok (.getfield 75, 3) := by decide +kernel
theorem dX6_closedBy_15 : decode cX6_closedBy 15 = .ok (.iload_n 1, 1) := by decide +kernel
theorem dX6_closedBy_16 : decode cX6_closedBy 16 = .ok (.iaload, 1) := by decide +kernel
theorem dX6_closedBy_17 : decode cX6_closedBy 17 = .ok (.if_icmp .ge 21, 3) := by decide +kernel
theorem dX6_closedBy_20 : decode cX6_closedBy 20 = .ok (.aload_n 0, 1) := by decide +kernel
theorem dX6_closedBy_21 : decode cX6_closedBy 21 = .ok (.getfield 45, 3) := by decide +kernel
theorem dX6_closedBy_24 : decode cX6_closedBy 24 = .ok (.iload_n 3, 1) := by decide +kernel
theorem dX6_closedBy_25 : decode cX6_closedBy 25 = .ok (.baload, 1) := by decide +kernel
theorem dX6_closedBy_26 : decode cX6_closedBy 26 = .ok (.ifCond .eq 6, 3) := by decide +kernel
theorem dX6_closedBy_29 : decode cX6_closedBy 29 = .ok (.iinc 2 1, 3) := by decide +kernel
theorem dX6_closedBy_32 : decode cX6_closedBy 32 = .ok (.iinc 3 1, 3) := by decide +kernel
theorem dX6_closedBy_35 : decode cX6_closedBy 35 = .ok (.goto (-28), 3) := by decide +kernel
theorem dX6_closedBy_38 : decode cX6_closedBy 38 = .ok (.iload_n 2, 1) := by decide +kernel
theorem dX6_closedBy_39 : decode cX6_closedBy 39 = .ok (.ireturn, 1) := by decide +kernel
theorem cm_X6_closedBy : x_CM yX6_closedBy cX6_closedBy 4 (Option.some FieldType.int) 1 := ⟨w_5_80, w_1_7, by decide +kernel, by decide +kernel⟩
theorem ci_X6_closedBy : x_CI yX6_closedBy 8 := ⟨w_5_78, w_5_79, (RX6, TX6, 15), rfl, rfl⟩
set_option maxRecDepth 100000 in
set_option maxHeartbeats 4000000 in
theorem bX6_closedBy_32 {V : x_J} {ad : Nat → Nat} {t : Nat} {Q : Int32 → x_S → x_L → Prop} (X : x_Is V cX6_closedBy 4 RX6 (Option.some FieldType.int) ad dsX 0 (x_PI Q)) (ht : x_pl t) {K7 : Int32 → Int32 → Int32 → x_S → x_L → Prop} (hK7 : ∀ v1 v2 v3 σ τ, K7 v1 v2 v3 σ τ → V σ τ 7 [(0, .ref (ad t)), (1, .int v1), (2, .int v2), (3, .int v3)] []) {v1 : Int32} {v2 : Int32} {v3 : Int32} {σ : x_S} {τ : x_L} (h : wX6_closedBy_32 t K7 Q v1 v2 v3 σ τ) : V σ τ 32 [(0, .ref (ad t)), (1, .int v1), (2, .int v2), (3, .int v3)] [] := by
  refine x_iinc X (k := 3) (lv' := [(3, .int (v3 + 1)), (0, .ref (ad t)), (1, .int v1), (2, .int v2)]) dX6_closedBy_32 rfl ki_1 (by decide) rfl ?_
  refine x_goto X (tgt := 7) dX6_closedBy_35 (by decide) ?_
  refine x_sub X [1, 2, 3, 0] (lv' := [(0, .ref (ad t)), (1, .int v1), (2, .int v2), (3, .int (v3 + 1))]) rfl ?_
  exact hK7 _ _ _ _ _ h
set_option maxRecDepth 100000 in
set_option maxHeartbeats 4000000 in
theorem bX6_closedBy_7 {V : x_J} {ad : Nat → Nat} {t : Nat} {Q : Int32 → x_S → x_L → Prop} (X : x_Is V cX6_closedBy 4 RX6 (Option.some FieldType.int) ad dsX 0 (x_PI Q)) (ht : x_pl t) {K7 : Int32 → Int32 → Int32 → x_S → x_L → Prop} (hK7 : ∀ v1 v2 v3 σ τ, K7 v1 v2 v3 σ τ → V σ τ 7 [(0, .ref (ad t)), (1, .int v1), (2, .int v2), (3, .int v3)] []) {v1 : Int32} {v2 : Int32} {v3 : Int32} {σ : x_S} {τ : x_L} (h : wX6_closedBy_7 t Q K7 v1 v2 v3 σ τ) : V σ τ 7 [(0, .ref (ad t)), (1, .int v1), (2, .int v2), (3, .int v3)] [] := by
  refine x_iload_n X dX6_closedBy_7 rfl 3 rfl ?_
  refine x_aload_n X dX6_closedBy_8 rfl 0 rfl ?_
  refine x_getR X (j := 27) dX6_closedBy_9 fl_6_57 (dsX_pl ht) rfl ?_
  refine x_getR X (j := 30) dX6_closedBy_12 fl_6_75 dsX_27 rfl ?_
  refine x_iload_n X dX6_closedBy_15 rfl 1 rfl ?_
  have g16 := h.1
  have h := h.2
  refine x_iald X dX6_closedBy_16 dsX_30 g16 ?_
  refine x_icmp_ge X 38 dX6_closedBy_17 (by decide) (fun hc => ?_) (fun hc => ?_)
  · have h := h.1 hc
    refine x_iload_n X dX6_closedBy_38 rfl 2 rfl ?_
    exact x_iret X dX6_closedBy_39 ⟨_, rfl, h⟩
  · have h := h.2 hc
    refine x_aload_n X dX6_closedBy_20 rfl 0 rfl ?_
    refine x_getR X (j := (t + 12)) dX6_closedBy_21 fl_6_45 (dsX_pl ht) rfl ?_
    refine x_iload_n X dX6_closedBy_24 rfl 3 rfl ?_
    have g25 := h.1
    have h := h.2
    refine x_zald X dX6_closedBy_25 (dsX_pl12 ht) g25 ?_
    refine x_if_eq X 32 dX6_closedBy_26 (by decide) (fun hc => ?_) (fun hc => ?_)
    · have h := h.1 hc
      exact bX6_closedBy_32 X ht hK7 h
    · have h := h.2 hc
      refine x_iinc X (k := 2) (lv' := [(2, .int (v2 + 1)), (0, .ref (ad t)), (1, .int v1), (3, .int v3)]) dX6_closedBy_29 rfl ki_1 (by decide) rfl ?_
      refine x_sub X [1, 2, 0, 3] (lv' := [(0, .ref (ad t)), (1, .int v1), (2, .int (v2 + 1)), (3, .int v3)]) rfl ?_
      exact bX6_closedBy_32 X ht hK7 h
set_option maxRecDepth 100000 in
set_option maxHeartbeats 4000000 in
theorem kX6_closedBy {ad : Nat → Nat} {t : Nat} (ht : x_pl t) {a1 : Int32} {σ : x_S} {τ : x_L} {Q : Int32 → x_S → x_L → Prop} (h : wX6_closedBy t a1 σ τ Q) : x_Met yX6_closedBy cX6_closedBy 4 (Option.some FieldType.int) 0 ad dsX [.ref (ad t), .int a1] σ τ (x_PI Q) := by
  refine x_met (by decide +kernel) (Nat.le_of_ble_eq_true rfl) (fun V X => ?_)
  have X : x_Is V cX6_closedBy 4 RX6 (Option.some FieldType.int) ad dsX 0 (x_PI Q) := X
  show V σ τ 0 [(0, .ref (ad t)), (1, .int a1)] []
  refine x_iconst X dX6_closedBy_0 ki_0 ?_
  refine x_istore_n X (lv' := [(2, .int 0), (0, .ref (ad t)), (1, .int a1)]) dX6_closedBy_1 rfl (by decide) rfl ?_
  refine x_iload_n X dX6_closedBy_2 rfl 2 rfl ?_
  refine x_bipush X dX6_closedBy_3 kb_10 ?_
  refine x_imul X dX6_closedBy_5 ?_
  refine x_istore_n X (lv' := [(3, .int (a1 * 10)), (2, .int 0), (0, .ref (ad t)), (1, .int a1)]) dX6_closedBy_6 rfl (by decide) rfl ?_
  refine x_sub X [2, 3, 1, 0] (lv' := [(0, .ref (ad t)), (1, .int a1), (2, .int 0), (3, .int (a1 * 10))]) rfl ?_
  exact x_l3_G (fun v1 v2 v3 σ τ => V σ τ 7 [(0, .ref (ad t)), (1, .int v1), (2, .int v2), (3, .int v3)] []) (fun K7 hK7 v1 v2 v3 σ τ h => bX6_closedBy_7 X ht hK7 h) h
theorem dX6_savedOnRows_0 : decode cX6_savedOnRows 0 = .ok (.iconst 0, 1) := by decide +kernel
theorem dX6_savedOnRows_1 : decode cX6_savedOnRows 1 = .ok (.istore_n 3, 1) := by decide +kernel
theorem dX6_savedOnRows_2 : decode cX6_savedOnRows 2 = .ok (.iload_n 1, 1) := by decide +kernel
theorem dX6_savedOnRows_3 : decode cX6_savedOnRows 3 = .ok (.istore 4, 2) := by decide +kernel
theorem dX6_savedOnRows_5 : decode cX6_savedOnRows 5 = .ok (.iload 4, 2) := by decide +kernel
theorem dX6_savedOnRows_7 : decode cX6_savedOnRows 7 = .ok (.iload_n 2, 1) := by decide +kernel
theorem dX6_savedOnRows_8 : decode cX6_savedOnRows 8 = .ok (.if_icmp .ge 24, 3) := by decide +kernel
theorem dX6_savedOnRows_11 : decode cX6_savedOnRows 11 = .ok (.iload_n 3, 1) := by decide +kernel
theorem dX6_savedOnRows_12 : decode cX6_savedOnRows 12 = .ok (.aload_n 0, 1) := by decide +kernel
theorem dX6_savedOnRows_13 : decode cX6_savedOnRows 13 = .ok (.getfield 42, 3) := by decide +kernel
theorem dX6_savedOnRows_16 : decode cX6_savedOnRows 16 = .ok (.aload_n 0, 1) := by decide +kernel
theorem dX6_savedOnRows_17 : decode cX6_savedOnRows 17 = .ok (.getfield 27, 3) := by decide +kernel
theorem dX6_savedOnRows_20 : decode cX6_savedOnRows 20 = .ok (.iload 4, 2) := by decide +kernel
theorem dX6_savedOnRows_22 : decode cX6_savedOnRows 22 = .ok (.iaload, 1) := by decide +kernel
theorem dX6_savedOnRows_23 : decode cX6_savedOnRows 23 = .ok (.iaload, 1) := by decide +kernel
theorem dX6_savedOnRows_24 : decode cX6_savedOnRows 24 = .ok (.iadd, 1) := by decide +kernel
theorem dX6_savedOnRows_25 : decode cX6_savedOnRows 25 = .ok (.istore_n 3, 1) := by decide +kernel
theorem dX6_savedOnRows_26 : decode cX6_savedOnRows 26 = .ok (.iinc 4 1, 3) := by decide +kernel
theorem dX6_savedOnRows_29 : decode cX6_savedOnRows 29 = .ok (.goto (-24), 3) := by decide +kernel
theorem dX6_savedOnRows_32 : decode cX6_savedOnRows 32 = .ok (.iload_n 3, 1) := by decide +kernel
theorem dX6_savedOnRows_33 : decode cX6_savedOnRows 33 = .ok (.ireturn, 1) := by decide +kernel
theorem cm_X6_savedOnRows : x_CM yX6_savedOnRows cX6_savedOnRows 5 (Option.some FieldType.int) 2 := ⟨w_3_203, w_1_7, by decide +kernel, by decide +kernel⟩
theorem ci_X6_savedOnRows : x_CI yX6_savedOnRows 8 := ⟨w_3_201, w_3_202, (RX6, TX6, 15), rfl, rfl⟩
set_option maxRecDepth 100000 in
set_option maxHeartbeats 4000000 in
theorem bX6_savedOnRows_5 {V : x_J} {ad : Nat → Nat} {t : Nat} {Q : Int32 → x_S → x_L → Prop} (X : x_Is V cX6_savedOnRows 5 RX6 (Option.some FieldType.int) ad dsX 0 (x_PI Q)) (ht : x_pl t) {K5 : Int32 → Int32 → Int32 → x_S → x_L → Prop} (hK5 : ∀ v2 v3 v4 σ τ, K5 v2 v3 v4 σ τ → V σ τ 5 [(0, .ref (ad t)), (2, .int v2), (3, .int v3), (4, .int v4)] []) {v2 : Int32} {v3 : Int32} {v4 : Int32} {σ : x_S} {τ : x_L} (h : wX6_savedOnRows_5 t Q K5 v2 v3 v4 σ τ) : V σ τ 5 [(0, .ref (ad t)), (2, .int v2), (3, .int v3), (4, .int v4)] [] := by
  refine x_iload X dX6_savedOnRows_5 3 rfl ?_
  refine x_iload_n X dX6_savedOnRows_7 rfl 1 rfl ?_
  refine x_icmp_ge X 32 dX6_savedOnRows_8 (by decide) (fun hc => ?_) (fun hc => ?_)
  · have h := h.1 hc
    refine x_iload_n X dX6_savedOnRows_32 rfl 2 rfl ?_
    exact x_iret X dX6_savedOnRows_33 ⟨_, rfl, h⟩
  · have h := h.2 hc
    refine x_iload_n X dX6_savedOnRows_11 rfl 2 rfl ?_
    refine x_aload_n X dX6_savedOnRows_12 rfl 0 rfl ?_
    refine x_getR X (j := (t + 11)) dX6_savedOnRows_13 fl_6_42 (dsX_pl ht) rfl ?_
    refine x_aload_n X dX6_savedOnRows_16 rfl 0 rfl ?_
    refine x_getR X (j := (t + 6)) dX6_savedOnRows_17 fl_6_27 (dsX_pl ht) rfl ?_
    refine x_iload X dX6_savedOnRows_20 3 rfl ?_
    have g22 := h.1
    have h := h.2
    refine x_iald X dX6_savedOnRows_22 (dsX_pl6 ht) g22 ?_
    have g23 := h.1
    have h := h.2
    refine x_iald X dX6_savedOnRows_23 (dsX_pl11 ht) g23 ?_
    refine x_iadd X dX6_savedOnRows_24 ?_
    refine x_istore_n X (lv' := [(3, .int (v3 + (σ (t + 11) (σ (t + 6) v4.toNatClampNeg).toNatClampNeg))), (0, .ref (ad t)), (2, .int v2), (4, .int v4)]) dX6_savedOnRows_25 rfl (by decide) rfl ?_
    refine x_iinc X (k := 3) (lv' := [(4, .int (v4 + 1)), (3, .int (v3 + (σ (t + 11) (σ (t + 6) v4.toNatClampNeg).toNatClampNeg))), (0, .ref (ad t)), (2, .int v2)]) dX6_savedOnRows_26 rfl ki_1 (by decide) rfl ?_
    refine x_goto X (tgt := 5) dX6_savedOnRows_29 (by decide) ?_
    refine x_sub X [2, 3, 1, 0] (lv' := [(0, .ref (ad t)), (2, .int v2), (3, .int (v3 + (σ (t + 11) (σ (t + 6) v4.toNatClampNeg).toNatClampNeg))), (4, .int (v4 + 1))]) rfl ?_
    exact hK5 _ _ _ _ _ h
set_option maxRecDepth 100000 in
set_option maxHeartbeats 4000000 in
theorem kX6_savedOnRows {ad : Nat → Nat} {t : Nat} (ht : x_pl t) {a1 : Int32} {a2 : Int32} {σ : x_S} {τ : x_L} {Q : Int32 → x_S → x_L → Prop} (h : wX6_savedOnRows t a1 a2 σ τ Q) : x_Met yX6_savedOnRows cX6_savedOnRows 5 (Option.some FieldType.int) 0 ad dsX [.ref (ad t), .int a1, .int a2] σ τ (x_PI Q) := by
  refine x_met (by decide +kernel) (Nat.le_of_ble_eq_true rfl) (fun V X => ?_)
  have X : x_Is V cX6_savedOnRows 5 RX6 (Option.some FieldType.int) ad dsX 0 (x_PI Q) := X
  show V σ τ 0 [(0, .ref (ad t)), (1, .int a1), (2, .int a2)] []
  refine x_iconst X dX6_savedOnRows_0 ki_0 ?_
  refine x_istore_n X (lv' := [(3, .int 0), (0, .ref (ad t)), (1, .int a1), (2, .int a2)]) dX6_savedOnRows_1 rfl (by decide) rfl ?_
  refine x_iload_n X dX6_savedOnRows_2 rfl 2 rfl ?_
  refine x_istore X (lv' := [(4, .int a1), (3, .int 0), (0, .ref (ad t)), (1, .int a1), (2, .int a2)]) dX6_savedOnRows_3 (by decide) rfl ?_
  refine x_sub X [2, 4, 1, 0] (lv' := [(0, .ref (ad t)), (2, .int a2), (3, .int 0), (4, .int a1)]) rfl ?_
  exact x_l3_G (fun v2 v3 v4 σ τ => V σ τ 5 [(0, .ref (ad t)), (2, .int v2), (3, .int v3), (4, .int v4)] []) (fun K5 hK5 v2 v3 v4 σ τ h => bX6_savedOnRows_5 X ht hK5 h) h
theorem dX6_closedOnRows_0 : decode cX6_closedOnRows 0 = .ok (.iconst 0, 1) := by decide +kernel
theorem dX6_closedOnRows_1 : decode cX6_closedOnRows 1 = .ok (.istore_n 3, 1) := by decide +kernel
theorem dX6_closedOnRows_2 : decode cX6_closedOnRows 2 = .ok (.iload_n 1, 1) := by decide +kernel
theorem dX6_closedOnRows_3 : decode cX6_closedOnRows 3 = .ok (.istore 4, 2) := by decide +kernel
theorem dX6_closedOnRows_5 : decode cX6_closedOnRows 5 = .ok (.iload 4, 2) := by decide +kernel
theorem dX6_closedOnRows_7 : decode cX6_closedOnRows 7 = .ok (.iload_n 2, 1) := by decide +kernel
theorem dX6_closedOnRows_8 : decode cX6_closedOnRows 8 = .ok (.if_icmp .ge 27, 3) := by decide +kernel
theorem dX6_closedOnRows_11 : decode cX6_closedOnRows 11 = .ok (.aload_n 0, 1) := by decide +kernel
theorem dX6_closedOnRows_12 : decode cX6_closedOnRows 12 = .ok (.getfield 45, 3) := by decide +kernel
theorem dX6_closedOnRows_15 : decode cX6_closedOnRows 15 = .ok (.aload_n 0, 1) := by decide +kernel
theorem dX6_closedOnRows_16 : decode cX6_closedOnRows 16 = .ok (.getfield 27, 3) := by decide +kernel
theorem dX6_closedOnRows_19 : decode cX6_closedOnRows 19 = .ok (.iload 4, 2) := by decide +kernel
theorem dX6_closedOnRows_21 : decode cX6_closedOnRows 21 = .ok (.iaload, 1) := by decide +kernel
theorem dX6_closedOnRows_22 : decode cX6_closedOnRows 22 = .ok (.baload, 1) := by decide +kernel
theorem dX6_closedOnRows_23 : decode cX6_closedOnRows 23 = .ok (.ifCond .eq 6, 3) := by decide +kernel
theorem dX6_closedOnRows_26 : decode cX6_closedOnRows 26 = .ok (.iinc 3 1, 3) := by decide +kernel
theorem dX6_closedOnRows_29 : decode cX6_closedOnRows 29 = .ok (.iinc 4 1, 3) := by decide +kernel
theorem dX6_closedOnRows_32 : decode cX6_closedOnRows 32 = .ok (.goto (-27), 3) := by decide +kernel
theorem dX6_closedOnRows_35 : decode cX6_closedOnRows 35 = .ok (.iload_n 3, 1) := by decide +kernel
theorem dX6_closedOnRows_36 : decode cX6_closedOnRows 36 = .ok (.ireturn, 1) := by decide +kernel
theorem cm_X6_closedOnRows : x_CM yX6_closedOnRows cX6_closedOnRows 5 (Option.some FieldType.int) 2 := ⟨w_3_207, w_1_7, by decide +kernel, by decide +kernel⟩
theorem ci_X6_closedOnRows : x_CI yX6_closedOnRows 8 := ⟨w_3_205, w_3_206, (RX6, TX6, 15), rfl, rfl⟩
set_option maxRecDepth 100000 in
set_option maxHeartbeats 4000000 in
theorem bX6_closedOnRows_29 {V : x_J} {ad : Nat → Nat} {t : Nat} {Q : Int32 → x_S → x_L → Prop} (X : x_Is V cX6_closedOnRows 5 RX6 (Option.some FieldType.int) ad dsX 0 (x_PI Q)) (ht : x_pl t) {K5 : Int32 → Int32 → Int32 → x_S → x_L → Prop} (hK5 : ∀ v2 v3 v4 σ τ, K5 v2 v3 v4 σ τ → V σ τ 5 [(0, .ref (ad t)), (2, .int v2), (3, .int v3), (4, .int v4)] []) {v2 : Int32} {v3 : Int32} {v4 : Int32} {σ : x_S} {τ : x_L} (h : wX6_closedOnRows_29 t K5 Q v2 v3 v4 σ τ) : V σ τ 29 [(0, .ref (ad t)), (2, .int v2), (3, .int v3), (4, .int v4)] [] := by
  refine x_iinc X (k := 3) (lv' := [(4, .int (v4 + 1)), (0, .ref (ad t)), (2, .int v2), (3, .int v3)]) dX6_closedOnRows_29 rfl ki_1 (by decide) rfl ?_
  refine x_goto X (tgt := 5) dX6_closedOnRows_32 (by decide) ?_
  refine x_sub X [1, 2, 3, 0] (lv' := [(0, .ref (ad t)), (2, .int v2), (3, .int v3), (4, .int (v4 + 1))]) rfl ?_
  exact hK5 _ _ _ _ _ h
set_option maxRecDepth 100000 in
set_option maxHeartbeats 4000000 in
theorem bX6_closedOnRows_5 {V : x_J} {ad : Nat → Nat} {t : Nat} {Q : Int32 → x_S → x_L → Prop} (X : x_Is V cX6_closedOnRows 5 RX6 (Option.some FieldType.int) ad dsX 0 (x_PI Q)) (ht : x_pl t) {K5 : Int32 → Int32 → Int32 → x_S → x_L → Prop} (hK5 : ∀ v2 v3 v4 σ τ, K5 v2 v3 v4 σ τ → V σ τ 5 [(0, .ref (ad t)), (2, .int v2), (3, .int v3), (4, .int v4)] []) {v2 : Int32} {v3 : Int32} {v4 : Int32} {σ : x_S} {τ : x_L} (h : wX6_closedOnRows_5 t Q K5 v2 v3 v4 σ τ) : V σ τ 5 [(0, .ref (ad t)), (2, .int v2), (3, .int v3), (4, .int v4)] [] := by
  refine x_iload X dX6_closedOnRows_5 3 rfl ?_
  refine x_iload_n X dX6_closedOnRows_7 rfl 1 rfl ?_
  refine x_icmp_ge X 35 dX6_closedOnRows_8 (by decide) (fun hc => ?_) (fun hc => ?_)
  · have h := h.1 hc
    refine x_iload_n X dX6_closedOnRows_35 rfl 2 rfl ?_
    exact x_iret X dX6_closedOnRows_36 ⟨_, rfl, h⟩
  · have h := h.2 hc
    refine x_aload_n X dX6_closedOnRows_11 rfl 0 rfl ?_
    refine x_getR X (j := (t + 12)) dX6_closedOnRows_12 fl_6_45 (dsX_pl ht) rfl ?_
    refine x_aload_n X dX6_closedOnRows_15 rfl 0 rfl ?_
    refine x_getR X (j := (t + 6)) dX6_closedOnRows_16 fl_6_27 (dsX_pl ht) rfl ?_
    refine x_iload X dX6_closedOnRows_19 3 rfl ?_
    have g21 := h.1
    have h := h.2
    refine x_iald X dX6_closedOnRows_21 (dsX_pl6 ht) g21 ?_
    have g22 := h.1
    have h := h.2
    refine x_zald X dX6_closedOnRows_22 (dsX_pl12 ht) g22 ?_
    refine x_if_eq X 29 dX6_closedOnRows_23 (by decide) (fun hc => ?_) (fun hc => ?_)
    · have h := h.1 hc
      exact bX6_closedOnRows_29 X ht hK5 h
    · have h := h.2 hc
      refine x_iinc X (k := 2) (lv' := [(3, .int (v3 + 1)), (0, .ref (ad t)), (2, .int v2), (4, .int v4)]) dX6_closedOnRows_26 rfl ki_1 (by decide) rfl ?_
      refine x_sub X [1, 2, 0, 3] (lv' := [(0, .ref (ad t)), (2, .int v2), (3, .int (v3 + 1)), (4, .int v4)]) rfl ?_
      exact bX6_closedOnRows_29 X ht hK5 h
set_option maxRecDepth 100000 in
set_option maxHeartbeats 4000000 in
theorem kX6_closedOnRows {ad : Nat → Nat} {t : Nat} (ht : x_pl t) {a1 : Int32} {a2 : Int32} {σ : x_S} {τ : x_L} {Q : Int32 → x_S → x_L → Prop} (h : wX6_closedOnRows t a1 a2 σ τ Q) : x_Met yX6_closedOnRows cX6_closedOnRows 5 (Option.some FieldType.int) 0 ad dsX [.ref (ad t), .int a1, .int a2] σ τ (x_PI Q) := by
  refine x_met (by decide +kernel) (Nat.le_of_ble_eq_true rfl) (fun V X => ?_)
  have X : x_Is V cX6_closedOnRows 5 RX6 (Option.some FieldType.int) ad dsX 0 (x_PI Q) := X
  show V σ τ 0 [(0, .ref (ad t)), (1, .int a1), (2, .int a2)] []
  refine x_iconst X dX6_closedOnRows_0 ki_0 ?_
  refine x_istore_n X (lv' := [(3, .int 0), (0, .ref (ad t)), (1, .int a1), (2, .int a2)]) dX6_closedOnRows_1 rfl (by decide) rfl ?_
  refine x_iload_n X dX6_closedOnRows_2 rfl 2 rfl ?_
  refine x_istore X (lv' := [(4, .int a1), (3, .int 0), (0, .ref (ad t)), (1, .int a1), (2, .int a2)]) dX6_closedOnRows_3 (by decide) rfl ?_
  refine x_sub X [2, 4, 1, 0] (lv' := [(0, .ref (ad t)), (2, .int a2), (3, .int 0), (4, .int a1)]) rfl ?_
  exact x_l3_G (fun v2 v3 v4 σ τ => V σ τ 5 [(0, .ref (ad t)), (2, .int v2), (3, .int v3), (4, .int v4)] []) (fun K5 hK5 v2 v3 v4 σ τ h => bX6_closedOnRows_5 X ht hK5 h) h
theorem dX6_trucksOnRows_0 : decode cX6_trucksOnRows 0 = .ok (.iconst 0, 1) := by decide +kernel
theorem dX6_trucksOnRows_1 : decode cX6_trucksOnRows 1 = .ok (.istore_n 3, 1) := by decide +kernel
theorem dX6_trucksOnRows_2 : decode cX6_trucksOnRows 2 = .ok (.iload_n 1, 1) := by decide +kernel
theorem dX6_trucksOnRows_3 : decode cX6_trucksOnRows 3 = .ok (.istore 4, 2) := by decide +kernel
theorem dX6_trucksOnRows_5 : decode cX6_trucksOnRows 5 = .ok (.iload 4, 2) := by decide +kernel
theorem dX6_trucksOnRows_7 : decode cX6_trucksOnRows 7 = .ok (.iload_n 2, 1) := by decide +kernel
theorem dX6_trucksOnRows_8 : decode cX6_trucksOnRows 8 = .ok (.if_icmp .ge 24, 3) := by decide +kernel
theorem dX6_trucksOnRows_11 : decode cX6_trucksOnRows 11 = .ok (.iload_n 3, 1) := by decide +kernel
theorem dX6_trucksOnRows_12 : decode cX6_trucksOnRows 12 = .ok (.iconst 1, 1) := by decide +kernel
theorem dX6_trucksOnRows_13 : decode cX6_trucksOnRows 13 = .ok (.aload_n 0, 1) := by decide +kernel
theorem dX6_trucksOnRows_14 : decode cX6_trucksOnRows 14 = .ok (.getfield 27, 3) := by decide +kernel
theorem dX6_trucksOnRows_17 : decode cX6_trucksOnRows 17 = .ok (.iload 4, 2) := by decide +kernel
theorem dX6_trucksOnRows_19 : decode cX6_trucksOnRows 19 = .ok (.iaload, 1) := by decide +kernel
theorem dX6_trucksOnRows_20 : decode cX6_trucksOnRows 20 = .ok (.bipush 10, 2) := by decide +kernel
theorem dX6_trucksOnRows_22 : decode cX6_trucksOnRows 22 = .ok (.idiv, 1) := by decide +kernel
theorem dX6_trucksOnRows_23 : decode cX6_trucksOnRows 23 = .ok (.ishl, 1) := by decide +kernel
theorem dX6_trucksOnRows_24 : decode cX6_trucksOnRows 24 = .ok (.ior, 1) := by decide +kernel
theorem dX6_trucksOnRows_25 : decode cX6_trucksOnRows 25 = .ok (.istore_n 3, 1) := by decide +kernel
theorem dX6_trucksOnRows_26 : decode cX6_trucksOnRows 26 = .ok (.iinc 4 1, 3) := by decide +kernel
theorem dX6_trucksOnRows_29 : decode cX6_trucksOnRows 29 = .ok (.goto (-24), 3) := by decide +kernel
theorem dX6_trucksOnRows_32 : decode cX6_trucksOnRows 32 = .ok (.iload_n 3, 1) := by decide +kernel
theorem dX6_trucksOnRows_33 : decode cX6_trucksOnRows 33 = .ok (.ireturn, 1) := by decide +kernel
theorem cm_X6_trucksOnRows : x_CM yX6_trucksOnRows cX6_trucksOnRows 5 (Option.some FieldType.int) 2 := ⟨w_5_139, w_1_7, by decide +kernel, by decide +kernel⟩
theorem ci_X6_trucksOnRows : x_CI yX6_trucksOnRows 8 := ⟨w_5_137, w_5_138, (RX6, TX6, 15), rfl, rfl⟩
set_option maxRecDepth 100000 in
set_option maxHeartbeats 4000000 in
theorem bX6_trucksOnRows_5 {V : x_J} {ad : Nat → Nat} {t : Nat} {Q : Int32 → x_S → x_L → Prop} (X : x_Is V cX6_trucksOnRows 5 RX6 (Option.some FieldType.int) ad dsX 0 (x_PI Q)) (ht : x_pl t) {K5 : Int32 → Int32 → Int32 → x_S → x_L → Prop} (hK5 : ∀ v2 v3 v4 σ τ, K5 v2 v3 v4 σ τ → V σ τ 5 [(0, .ref (ad t)), (2, .int v2), (3, .int v3), (4, .int v4)] []) {v2 : Int32} {v3 : Int32} {v4 : Int32} {σ : x_S} {τ : x_L} (h : wX6_trucksOnRows_5 t Q K5 v2 v3 v4 σ τ) : V σ τ 5 [(0, .ref (ad t)), (2, .int v2), (3, .int v3), (4, .int v4)] [] := by
  refine x_iload X dX6_trucksOnRows_5 3 rfl ?_
  refine x_iload_n X dX6_trucksOnRows_7 rfl 1 rfl ?_
  refine x_icmp_ge X 32 dX6_trucksOnRows_8 (by decide) (fun hc => ?_) (fun hc => ?_)
  · have h := h.1 hc
    refine x_iload_n X dX6_trucksOnRows_32 rfl 2 rfl ?_
    exact x_iret X dX6_trucksOnRows_33 ⟨_, rfl, h⟩
  · have h := h.2 hc
    refine x_iload_n X dX6_trucksOnRows_11 rfl 2 rfl ?_
    refine x_iconst X dX6_trucksOnRows_12 ki_1 ?_
    refine x_aload_n X dX6_trucksOnRows_13 rfl 0 rfl ?_
    refine x_getR X (j := (t + 6)) dX6_trucksOnRows_14 fl_6_27 (dsX_pl ht) rfl ?_
    refine x_iload X dX6_trucksOnRows_17 3 rfl ?_
    have g19 := h.1
    have h := h.2
    refine x_iald X dX6_trucksOnRows_19 (dsX_pl6 ht) g19 ?_
    refine x_bipush X dX6_trucksOnRows_20 kb_10 ?_
    refine x_idiv X dX6_trucksOnRows_22 (by decide) ?_
    refine x_ishl X dX6_trucksOnRows_23 ?_
    refine x_ior X dX6_trucksOnRows_24 ?_
    refine x_istore_n X (lv' := [(3, .int (v3 ||| (1 <<< (((σ (t + 6) v4.toNatClampNeg) / 10) &&& 31)))), (0, .ref (ad t)), (2, .int v2), (4, .int v4)]) dX6_trucksOnRows_25 rfl (by decide) rfl ?_
    refine x_iinc X (k := 3) (lv' := [(4, .int (v4 + 1)), (3, .int (v3 ||| (1 <<< (((σ (t + 6) v4.toNatClampNeg) / 10) &&& 31)))), (0, .ref (ad t)), (2, .int v2)]) dX6_trucksOnRows_26 rfl ki_1 (by decide) rfl ?_
    refine x_goto X (tgt := 5) dX6_trucksOnRows_29 (by decide) ?_
    refine x_sub X [2, 3, 1, 0] (lv' := [(0, .ref (ad t)), (2, .int v2), (3, .int (v3 ||| (1 <<< (((σ (t + 6) v4.toNatClampNeg) / 10) &&& 31)))), (4, .int (v4 + 1))]) rfl ?_
    exact hK5 _ _ _ _ _ h
set_option maxRecDepth 100000 in
set_option maxHeartbeats 4000000 in
theorem kX6_trucksOnRows {ad : Nat → Nat} {t : Nat} (ht : x_pl t) {a1 : Int32} {a2 : Int32} {σ : x_S} {τ : x_L} {Q : Int32 → x_S → x_L → Prop} (h : wX6_trucksOnRows t a1 a2 σ τ Q) : x_Met yX6_trucksOnRows cX6_trucksOnRows 5 (Option.some FieldType.int) 0 ad dsX [.ref (ad t), .int a1, .int a2] σ τ (x_PI Q) := by
  refine x_met (by decide +kernel) (Nat.le_of_ble_eq_true rfl) (fun V X => ?_)
  have X : x_Is V cX6_trucksOnRows 5 RX6 (Option.some FieldType.int) ad dsX 0 (x_PI Q) := X
  show V σ τ 0 [(0, .ref (ad t)), (1, .int a1), (2, .int a2)] []
  refine x_iconst X dX6_trucksOnRows_0 ki_0 ?_
  refine x_istore_n X (lv' := [(3, .int 0), (0, .ref (ad t)), (1, .int a1), (2, .int a2)]) dX6_trucksOnRows_1 rfl (by decide) rfl ?_
  refine x_iload_n X dX6_trucksOnRows_2 rfl 2 rfl ?_
  refine x_istore X (lv' := [(4, .int a1), (3, .int 0), (0, .ref (ad t)), (1, .int a1), (2, .int a2)]) dX6_trucksOnRows_3 (by decide) rfl ?_
  refine x_sub X [2, 4, 1, 0] (lv' := [(0, .ref (ad t)), (2, .int a2), (3, .int 0), (4, .int a1)]) rfl ?_
  exact x_l3_G (fun v2 v3 v4 σ τ => V σ τ 5 [(0, .ref (ad t)), (2, .int v2), (3, .int v3), (4, .int v4)] []) (fun K5 hK5 v2 v3 v4 σ τ h => bX6_trucksOnRows_5 X ht hK5 h) h
theorem dX6_inCompany_0 : decode cX6_inCompany 0 = .ok (.aload_n 0, 1) := by decide +kernel
theorem dX6_inCompany_1 : decode cX6_inCompany 1 = .ok (.getfield 36, 3) := by decide +kernel
theorem dX6_inCompany_4 : decode cX6_inCompany 4 = .ok (.iload_n 1, 1) := by decide +kernel
theorem dX6_inCompany_5 : decode cX6_inCompany 5 = .ok (.iaload, 1) := by decide +kernel
theorem dX6_inCompany_6 : decode cX6_inCompany 6 = .ok (.ifCond .le 7, 3) := by decide +kernel
theorem dX6_inCompany_9 : decode cX6_inCompany 9 = .ok (.iconst 1, 1) := by decide +kernel
theorem dX6_inCompany_10 : decode cX6_inCompany 10 = .ok (.goto 4, 3) := by decide +kernel
theorem dX6_inCompany_13 : decode cX6_inCompany 13 = .ok (.iconst 0, 1) := by decide +kernel
theorem dX6_inCompany_14 : decode cX6_inCompany 14 = .ok (.ireturn, 1) := by decide +kernel
theorem cm_X6_inCompany : x_CM yX6_inCompany cX6_inCompany 2 (Option.some FieldType.boolean) 1 := ⟨w_3_181, w_1_7, by decide +kernel, by decide +kernel⟩
theorem ci_X6_inCompany : x_CI yX6_inCompany 8 := ⟨w_3_179, w_3_180, (RX6, TX6, 15), rfl, rfl⟩
set_option maxRecDepth 100000 in
set_option maxHeartbeats 4000000 in
theorem bX6_inCompany_14 {V : x_J} {ad : Nat → Nat} {t : Nat} {Q : Int32 → x_S → x_L → Prop} (X : x_Is V cX6_inCompany 2 RX6 (Option.some FieldType.boolean) ad dsX 0 (x_PI Q)) (ht : x_pl t) {s0 : Int32} {σ : x_S} {τ : x_L} (h : wX6_inCompany_14 t Q s0 σ τ) : V σ τ 14 [] [.int s0] := by
  exact x_zret X dX6_inCompany_14 ⟨h.1, _, rfl, h.2⟩
set_option maxRecDepth 100000 in
set_option maxHeartbeats 4000000 in
theorem kX6_inCompany {ad : Nat → Nat} {t : Nat} (ht : x_pl t) {a1 : Int32} {σ : x_S} {τ : x_L} {Q : Int32 → x_S → x_L → Prop} (h : wX6_inCompany t a1 σ τ Q) : x_Met yX6_inCompany cX6_inCompany 2 (Option.some FieldType.boolean) 0 ad dsX [.ref (ad t), .int a1] σ τ (x_PI Q) := by
  refine x_met (by decide +kernel) (Nat.le_of_ble_eq_true rfl) (fun V X => ?_)
  have X : x_Is V cX6_inCompany 2 RX6 (Option.some FieldType.boolean) ad dsX 0 (x_PI Q) := X
  show V σ τ 0 [(0, .ref (ad t)), (1, .int a1)] []
  refine x_aload_n X dX6_inCompany_0 rfl 0 rfl ?_
  refine x_getR X (j := (t + 9)) dX6_inCompany_1 fl_6_36 (dsX_pl ht) rfl ?_
  refine x_iload_n X dX6_inCompany_4 rfl 1 rfl ?_
  have g5 := h.1
  have h := h.2
  refine x_iald X dX6_inCompany_5 (dsX_pl9 ht) g5 ?_
  refine x_if_le X 13 dX6_inCompany_6 (by decide) (fun hc => ?_) (fun hc => ?_)
  · have h := h.1 hc
    refine x_iconst X dX6_inCompany_13 ki_0 ?_
    refine x_sub X [] (lv' := []) rfl ?_
    exact bX6_inCompany_14 X ht h
  · have h := h.2 hc
    refine x_iconst X dX6_inCompany_9 ki_1 ?_
    refine x_goto X (tgt := 14) dX6_inCompany_10 (by decide) ?_
    refine x_sub X [] (lv' := []) rfl ?_
    exact bX6_inCompany_14 X ht h
theorem dX6_meetsOthers_0 : decode cX6_meetsOthers 0 = .ok (.iload_n 1, 1) := by decide +kernel
theorem dX6_meetsOthers_1 : decode cX6_meetsOthers 1 = .ok (.bipush 10, 2) := by decide +kernel
theorem dX6_meetsOthers_3 : decode cX6_meetsOthers 3 = .ok (.imul, 1) := by decide +kernel
theorem dX6_meetsOthers_4 : decode cX6_meetsOthers 4 = .ok (.istore_n 2, 1) := by decide +kernel
theorem dX6_meetsOthers_5 : decode cX6_meetsOthers 5 = .ok (.iload_n 2, 1) := by decide +kernel
theorem dX6_meetsOthers_6 : decode cX6_meetsOthers 6 = .ok (.aload_n 0, 1) := by decide +kernel
theorem dX6_meetsOthers_7 : decode cX6_meetsOthers 7 = .ok (.getfield 57, 3) := by decide +kernel
theorem dX6_meetsOthers_10 : decode cX6_meetsOthers 10 = .ok (.getfield 75, 3) := by decide +kernel
theorem dX6_meetsOthers_13 : decode cX6_meetsOthers 13 = .ok (.iload_n 1, 1) := by decide +kernel
theorem dX6_meetsOthers_14 : decode cX6_meetsOthers 14 = .ok (.iaload, 1) := by decide +kernel
theorem dX6_meetsOthers_15 : decode cX6_meetsOthers 15 = .ok (.if_icmp .ge 19, 3) := by decide +kernel
theorem dX6_meetsOthers_18 : decode cX6_meetsOthers 18 = .ok (.aload_n 0, 1) := by decide +kernel
theorem dX6_meetsOthers_19 : decode cX6_meetsOthers 19 = .ok (.iload_n 2, 1) := by decide +kernel
theorem dX6_meetsOthers_20 : decode cX6_meetsOthers 20 = .ok (.invokevirtual 175, 3) := by decide +kernel
theorem dX6_meetsOthers_23 : decode cX6_meetsOthers 23 = .ok (.ifCond .eq 5, 3) := by decide +kernel
theorem dX6_meetsOthers_26 : decode cX6_meetsOthers 26 = .ok (.iconst 1, 1) := by decide +kernel
theorem dX6_meetsOthers_27 : decode cX6_meetsOthers 27 = .ok (.ireturn, 1) := by decide +kernel
theorem dX6_meetsOthers_28 : decode cX6_meetsOthers 28 = .ok (.iinc 2 1, 3) := by decide +kernel
theorem dX6_meetsOthers_31 : decode cX6_meetsOthers 31 = .ok (.goto (-26), 3) := by decide +kernel
theorem dX6_meetsOthers_34 : decode cX6_meetsOthers 34 = .ok (.iconst 0, 1) := by decide +kernel
theorem dX6_meetsOthers_35 : decode cX6_meetsOthers 35 = .ok (.ireturn, 1) := by decide +kernel
theorem cm_X6_meetsOthers : x_CM yX6_meetsOthers cX6_meetsOthers 3 (Option.some FieldType.boolean) 1 := ⟨w_4_35, w_1_7, by decide +kernel, by decide +kernel⟩
theorem ci_X6_meetsOthers : x_CI yX6_meetsOthers 8 := ⟨w_4_33, w_4_34, (RX6, TX6, 15), rfl, rfl⟩
set_option maxRecDepth 100000 in
set_option maxHeartbeats 4000000 in
theorem bX6_meetsOthers_5 {V : x_J} {ad : Nat → Nat} {t : Nat} {Q : Int32 → x_S → x_L → Prop} (X : x_Is V cX6_meetsOthers 3 RX6 (Option.some FieldType.boolean) ad dsX 1 (x_PI Q)) (ht : x_pl t) {K5 : Int32 → Int32 → x_S → x_L → Prop} (hK5 : ∀ v1 v2 σ τ, K5 v1 v2 σ τ → V σ τ 5 [(0, .ref (ad t)), (1, .int v1), (2, .int v2)] []) {v1 : Int32} {v2 : Int32} {σ : x_S} {τ : x_L} (h : wX6_meetsOthers_5 t Q K5 v1 v2 σ τ) : V σ τ 5 [(0, .ref (ad t)), (1, .int v1), (2, .int v2)] [] := by
  refine x_iload_n X dX6_meetsOthers_5 rfl 2 rfl ?_
  refine x_aload_n X dX6_meetsOthers_6 rfl 0 rfl ?_
  refine x_getR X (j := 27) dX6_meetsOthers_7 fl_6_57 (dsX_pl ht) rfl ?_
  refine x_getR X (j := 30) dX6_meetsOthers_10 fl_6_75 dsX_27 rfl ?_
  refine x_iload_n X dX6_meetsOthers_13 rfl 1 rfl ?_
  have g14 := h.1
  have h := h.2
  refine x_iald X dX6_meetsOthers_14 dsX_30 g14 ?_
  refine x_icmp_ge X 34 dX6_meetsOthers_15 (by decide) (fun hc => ?_) (fun hc => ?_)
  · have h := h.1 hc
    refine x_iconst X dX6_meetsOthers_34 ki_0 ?_
    exact x_zret X dX6_meetsOthers_35 ⟨Or.inl rfl, _, rfl, h⟩
  · have h := h.2 hc
    refine x_aload_n X dX6_meetsOthers_18 rfl 0 rfl ?_
    refine x_iload_n X dX6_meetsOthers_19 rfl 2 rfl ?_
    refine x_callVi X [.int v2] [] dX6_meetsOthers_20 (kX6_inCompany ht h) cm_X6_inCompany ci_X6_inCompany w_4_36 (dsX_pl ht) ⟨by decide, by decide⟩ rfl (Nat.le_of_ble_eq_true rfl) (fun r20 σ20 τ20 h => ?_)
    refine x_if_eq X 28 dX6_meetsOthers_23 (by decide) (fun hc => ?_) (fun hc => ?_)
    · have h := h.1 hc
      refine x_iinc X (k := 2) (lv' := [(2, .int (v2 + 1)), (0, .ref (ad t)), (1, .int v1)]) dX6_meetsOthers_28 rfl ki_1 (by decide) rfl ?_
      refine x_goto X (tgt := 5) dX6_meetsOthers_31 (by decide) ?_
      refine x_sub X [1, 2, 0] (lv' := [(0, .ref (ad t)), (1, .int v1), (2, .int (v2 + 1))]) rfl ?_
      exact hK5 _ _ _ _ h
    · have h := h.2 hc
      refine x_iconst X dX6_meetsOthers_26 ki_1 ?_
      exact x_zret X dX6_meetsOthers_27 ⟨Or.inr rfl, _, rfl, h⟩
set_option maxRecDepth 100000 in
set_option maxHeartbeats 4000000 in
theorem kX6_meetsOthers {ad : Nat → Nat} {t : Nat} (ht : x_pl t) {a1 : Int32} {σ : x_S} {τ : x_L} {Q : Int32 → x_S → x_L → Prop} (h : wX6_meetsOthers t a1 σ τ Q) : x_Met yX6_meetsOthers cX6_meetsOthers 3 (Option.some FieldType.boolean) 1 ad dsX [.ref (ad t), .int a1] σ τ (x_PI Q) := by
  refine x_met (by decide +kernel) (Nat.le_of_ble_eq_true rfl) (fun V X => ?_)
  have X : x_Is V cX6_meetsOthers 3 RX6 (Option.some FieldType.boolean) ad dsX 1 (x_PI Q) := X
  show V σ τ 0 [(0, .ref (ad t)), (1, .int a1)] []
  refine x_iload_n X dX6_meetsOthers_0 rfl 1 rfl ?_
  refine x_bipush X dX6_meetsOthers_1 kb_10 ?_
  refine x_imul X dX6_meetsOthers_3 ?_
  refine x_istore_n X (lv' := [(2, .int (a1 * 10)), (0, .ref (ad t)), (1, .int a1)]) dX6_meetsOthers_4 rfl (by decide) rfl ?_
  refine x_sub X [1, 2, 0] (lv' := [(0, .ref (ad t)), (1, .int a1), (2, .int (a1 * 10))]) rfl ?_
  exact x_l2_G (fun v1 v2 σ τ => V σ τ 5 [(0, .ref (ad t)), (1, .int v1), (2, .int v2)] []) (fun K5 hK5 v1 v2 σ τ h => bX6_meetsOthers_5 X ht hK5 h) h
theorem dX6_inOnePlatoon_0 : decode cX6_inOnePlatoon 0 = .ok (.aload_n 0, 1) := by decide +kernel
theorem dX6_inOnePlatoon_1 : decode cX6_inOnePlatoon 1 = .ok (.getfield 53, 3) := by decide +kernel
theorem dX6_inOnePlatoon_4 : decode cX6_inOnePlatoon 4 = .ok (.getfield 83, 3) := by decide +kernel
theorem dX6_inOnePlatoon_7 : decode cX6_inOnePlatoon 7 = .ok (.iload_n 1, 1) := by decide +kernel
theorem dX6_inOnePlatoon_8 : decode cX6_inOnePlatoon 8 = .ok (.iaload, 1) := by decide +kernel
theorem dX6_inOnePlatoon_9 : decode cX6_inOnePlatoon 9 = .ok (.aload_n 0, 1) := by decide +kernel
theorem dX6_inOnePlatoon_10 : decode cX6_inOnePlatoon 10 = .ok (.getfield 53, 3) := by decide +kernel
theorem dX6_inOnePlatoon_13 : decode cX6_inOnePlatoon 13 = .ok (.getfield 83, 3) := by decide +kernel
theorem dX6_inOnePlatoon_16 : decode cX6_inOnePlatoon 16 = .ok (.iload_n 2, 1) := by decide +kernel
theorem dX6_inOnePlatoon_17 : decode cX6_inOnePlatoon 17 = .ok (.iaload, 1) := by decide +kernel
theorem dX6_inOnePlatoon_18 : decode cX6_inOnePlatoon 18 = .ok (.if_icmp .ne 22, 3) := by decide +kernel
theorem dX6_inOnePlatoon_21 : decode cX6_inOnePlatoon 21 = .ok (.aload_n 0, 1) := by decide +kernel
theorem dX6_inOnePlatoon_22 : decode cX6_inOnePlatoon 22 = .ok (.getfield 30, 3) := by decide +kernel
theorem dX6_inOnePlatoon_25 : decode cX6_inOnePlatoon 25 = .ok (.iload_n 1, 1) := by decide +kernel
theorem dX6_inOnePlatoon_26 : decode cX6_inOnePlatoon 26 = .ok (.iaload, 1) := by decide +kernel
theorem dX6_inOnePlatoon_27 : decode cX6_inOnePlatoon 27 = .ok (.aload_n 0, 1) := by decide +kernel
theorem dX6_inOnePlatoon_28 : decode cX6_inOnePlatoon 28 = .ok (.getfield 30, 3) := by decide +kernel
theorem dX6_inOnePlatoon_31 : decode cX6_inOnePlatoon 31 = .ok (.iload_n 2, 1) := by decide +kernel
theorem dX6_inOnePlatoon_32 : decode cX6_inOnePlatoon 32 = .ok (.iaload, 1) := by decide +kernel
theorem dX6_inOnePlatoon_33 : decode cX6_inOnePlatoon 33 = .ok (.if_icmp .ne 7, 3) := by decide +kernel
theorem dX6_inOnePlatoon_36 : decode cX6_inOnePlatoon 36 = .ok (.iconst 1, 1) := by decide +kernel
theorem dX6_inOnePlatoon_37 : decode cX6_inOnePlatoon 37 = .ok (.goto 4, 3) := by decide +kernel
theorem dX6_inOnePlatoon_40 : decode cX6_inOnePlatoon 40 = .ok (.iconst 0, 1) := by decide +kernel
theorem dX6_inOnePlatoon_41 : decode cX6_inOnePlatoon 41 = .ok (.ireturn, 1) := by decide +kernel
theorem cm_X6_inOnePlatoon : x_CM yX6_inOnePlatoon cX6_inOnePlatoon 3 (Option.some FieldType.boolean) 2 := ⟨w_5_161, w_1_7, by decide +kernel, by decide +kernel⟩
theorem ci_X6_inOnePlatoon : x_CI yX6_inOnePlatoon 8 := ⟨w_5_159, w_5_160, (RX6, TX6, 15), rfl, rfl⟩
set_option maxRecDepth 100000 in
set_option maxHeartbeats 4000000 in
theorem bX6_inOnePlatoon_41 {V : x_J} {ad : Nat → Nat} {t : Nat} {Q : Int32 → x_S → x_L → Prop} (X : x_Is V cX6_inOnePlatoon 3 RX6 (Option.some FieldType.boolean) ad dsX 0 (x_PI Q)) (ht : x_pl t) {s0 : Int32} {σ : x_S} {τ : x_L} (h : wX6_inOnePlatoon_41 t Q s0 σ τ) : V σ τ 41 [] [.int s0] := by
  exact x_zret X dX6_inOnePlatoon_41 ⟨h.1, _, rfl, h.2⟩
set_option maxRecDepth 100000 in
set_option maxHeartbeats 4000000 in
theorem bX6_inOnePlatoon_40 {V : x_J} {ad : Nat → Nat} {t : Nat} {Q : Int32 → x_S → x_L → Prop} (X : x_Is V cX6_inOnePlatoon 3 RX6 (Option.some FieldType.boolean) ad dsX 0 (x_PI Q)) (ht : x_pl t) {σ : x_S} {τ : x_L} (h : wX6_inOnePlatoon_40 t Q σ τ) : V σ τ 40 [] [] := by
  refine x_iconst X dX6_inOnePlatoon_40 ki_0 ?_
  exact bX6_inOnePlatoon_41 X ht h
set_option maxRecDepth 100000 in
set_option maxHeartbeats 4000000 in
theorem kX6_inOnePlatoon {ad : Nat → Nat} {t : Nat} (ht : x_pl t) {a1 : Int32} {a2 : Int32} {σ : x_S} {τ : x_L} {Q : Int32 → x_S → x_L → Prop} (h : wX6_inOnePlatoon t a1 a2 σ τ Q) : x_Met yX6_inOnePlatoon cX6_inOnePlatoon 3 (Option.some FieldType.boolean) 0 ad dsX [.ref (ad t), .int a1, .int a2] σ τ (x_PI Q) := by
  refine x_met (by decide +kernel) (Nat.le_of_ble_eq_true rfl) (fun V X => ?_)
  have X : x_Is V cX6_inOnePlatoon 3 RX6 (Option.some FieldType.boolean) ad dsX 0 (x_PI Q) := X
  show V σ τ 0 [(0, .ref (ad t)), (1, .int a1), (2, .int a2)] []
  refine x_aload_n X dX6_inOnePlatoon_0 rfl 0 rfl ?_
  refine x_getR X (j := 3) dX6_inOnePlatoon_1 fl_6_53 (dsX_pl ht) rfl ?_
  refine x_getR X (j := 12) dX6_inOnePlatoon_4 fl_6_83 dsX_3 rfl ?_
  refine x_iload_n X dX6_inOnePlatoon_7 rfl 1 rfl ?_
  have g8 := h.1
  have h := h.2
  refine x_iald X dX6_inOnePlatoon_8 dsX_12 g8 ?_
  refine x_aload_n X dX6_inOnePlatoon_9 rfl 0 rfl ?_
  refine x_getR X (j := 3) dX6_inOnePlatoon_10 fl_6_53 (dsX_pl ht) rfl ?_
  refine x_getR X (j := 12) dX6_inOnePlatoon_13 fl_6_83 dsX_3 rfl ?_
  refine x_iload_n X dX6_inOnePlatoon_16 rfl 2 rfl ?_
  have g17 := h.1
  have h := h.2
  refine x_iald X dX6_inOnePlatoon_17 dsX_12 g17 ?_
  refine x_icmp_ne X 40 dX6_inOnePlatoon_18 (by decide) (fun hc => ?_) (fun hc => ?_)
  · have h := h.1 hc
    refine x_sub X [] (lv' := []) rfl ?_
    exact bX6_inOnePlatoon_40 X ht h
  · have h := h.2 hc
    refine x_aload_n X dX6_inOnePlatoon_21 rfl 0 rfl ?_
    refine x_getR X (j := (t + 7)) dX6_inOnePlatoon_22 fl_6_30 (dsX_pl ht) rfl ?_
    refine x_iload_n X dX6_inOnePlatoon_25 rfl 1 rfl ?_
    refine x_iald X dX6_inOnePlatoon_26 (dsX_pl7 ht) g8 ?_
    refine x_aload_n X dX6_inOnePlatoon_27 rfl 0 rfl ?_
    refine x_getR X (j := (t + 7)) dX6_inOnePlatoon_28 fl_6_30 (dsX_pl ht) rfl ?_
    refine x_iload_n X dX6_inOnePlatoon_31 rfl 2 rfl ?_
    refine x_iald X dX6_inOnePlatoon_32 (dsX_pl7 ht) g17 ?_
    refine x_icmp_ne X 40 dX6_inOnePlatoon_33 (by decide) (fun hc => ?_) (fun hc => ?_)
    · have h := h.1 hc
      refine x_sub X [] (lv' := []) rfl ?_
      exact bX6_inOnePlatoon_40 X ht h
    · have h := h.2 hc
      refine x_iconst X dX6_inOnePlatoon_36 ki_1 ?_
      refine x_goto X (tgt := 41) dX6_inOnePlatoon_37 (by decide) ?_
      refine x_sub X [] (lv' := []) rfl ?_
      exact bX6_inOnePlatoon_41 X ht h
theorem dX6_savedByPair_0 : decode cX6_savedByPair 0 = .ok (.aload_n 0, 1) := by decide +kernel
theorem dX6_savedByPair_1 : decode cX6_savedByPair 1 = .ok (.getfield 33, 3) := by decide +kernel
theorem dX6_savedByPair_4 : decode cX6_savedByPair 4 = .ok (.iload_n 2, 1) := by decide +kernel
theorem dX6_savedByPair_5 : decode cX6_savedByPair 5 = .ok (.iaload, 1) := by decide +kernel
theorem dX6_savedByPair_6 : decode cX6_savedByPair 6 = .ok (.aload_n 0, 1) := by decide +kernel
theorem dX6_savedByPair_7 : decode cX6_savedByPair 7 = .ok (.getfield 33, 3) := by decide +kernel
theorem dX6_savedByPair_10 : decode cX6_savedByPair 10 = .ok (.iload_n 1, 1) := by decide +kernel
theorem dX6_savedByPair_11 : decode cX6_savedByPair 11 = .ok (.iaload, 1) := by decide +kernel
theorem dX6_savedByPair_12 : decode cX6_savedByPair 12 = .ok (.isub, 1) := by decide +kernel
theorem dX6_savedByPair_13 : decode cX6_savedByPair 13 = .ok (.istore_n 3, 1) := by decide +kernel
theorem dX6_savedByPair_14 : decode cX6_savedByPair 14 = .ok (.aload_n 0, 1) := by decide +kernel
theorem dX6_savedByPair_15 : decode cX6_savedByPair 15 = .ok (.iload_n 1, 1) := by decide +kernel
theorem dX6_savedByPair_16 : decode cX6_savedByPair 16 = .ok (.iload_n 2, 1) := by decide +kernel
theorem dX6_savedByPair_17 : decode cX6_savedByPair 17 = .ok (.invokevirtual 179, 3) := by decide +kernel
theorem dX6_savedByPair_20 : decode cX6_savedByPair 20 = .ok (.ifCond .eq 13, 3) := by decide +kernel
theorem dX6_savedByPair_23 : decode cX6_savedByPair 23 = .ok (.iload_n 3, 1) := by decide +kernel
theorem dX6_savedByPair_24 : decode cX6_savedByPair 24 = .ok (.iconst 1, 1) := by decide +kernel
theorem dX6_savedByPair_25 : decode cX6_savedByPair 25 = .ok (.if_icmp .eq 10, 3) := by decide +kernel
theorem dX6_savedByPair_28 : decode cX6_savedByPair 28 = .ok (.iload_n 3, 1) := by decide +kernel
theorem dX6_savedByPair_29 : decode cX6_savedByPair 29 = .ok (.iconst (-1), 1) := by decide +kernel
theorem dX6_savedByPair_30 : decode cX6_savedByPair 30 = .ok (.if_icmp .eq 5, 3) := by decide +kernel
theorem dX6_savedByPair_33 : decode cX6_savedByPair 33 = .ok (.iconst 0, 1) := by decide +kernel
theorem dX6_savedByPair_34 : decode cX6_savedByPair 34 = .ok (.ireturn, 1) := by decide +kernel
theorem dX6_savedByPair_35 : decode cX6_savedByPair 35 = .ok (.iload_n 3, 1) := by decide +kernel
theorem dX6_savedByPair_36 : decode cX6_savedByPair 36 = .ok (.iconst 1, 1) := by decide +kernel
theorem dX6_savedByPair_37 : decode cX6_savedByPair 37 = .ok (.if_icmp .ne 7, 3) := by decide +kernel
theorem dX6_savedByPair_40 : decode cX6_savedByPair 40 = .ok (.iload_n 1, 1) := by decide +kernel
theorem dX6_savedByPair_41 : decode cX6_savedByPair 41 = .ok (.goto 4, 3) := by decide +kernel
theorem dX6_savedByPair_44 : decode cX6_savedByPair 44 = .ok (.iload_n 2, 1) := by decide +kernel
theorem dX6_savedByPair_45 : decode cX6_savedByPair 45 = .ok (.istore 4, 2) := by decide +kernel
theorem dX6_savedByPair_47 : decode cX6_savedByPair 47 = .ok (.iload_n 3, 1) := by decide +kernel
theorem dX6_savedByPair_48 : decode cX6_savedByPair 48 = .ok (.iconst 1, 1) := by decide +kernel
theorem dX6_savedByPair_49 : decode cX6_savedByPair 49 = .ok (.if_icmp .ne 7, 3) := by decide +kernel
theorem dX6_savedByPair_52 : decode cX6_savedByPair 52 = .ok (.iload_n 2, 1) := by decide +kernel
theorem dX6_savedByPair_53 : decode cX6_savedByPair 53 = .ok (.goto 4, 3) := by decide +kernel
theorem dX6_savedByPair_56 : decode cX6_savedByPair 56 = .ok (.iload_n 1, 1) := by decide +kernel
theorem dX6_savedByPair_57 : decode cX6_savedByPair 57 = .ok (.istore 5, 2) := by decide +kernel
theorem dX6_savedByPair_59 : decode cX6_savedByPair 59 = .ok (.aload_n 0, 1) := by decide +kernel
theorem dX6_savedByPair_60 : decode cX6_savedByPair 60 = .ok (.getfield 42, 3) := by decide +kernel
theorem dX6_savedByPair_63 : decode cX6_savedByPair 63 = .ok (.iload 5, 2) := by decide +kernel
theorem dX6_savedByPair_65 : decode cX6_savedByPair 65 = .ok (.iaload, 1) := by decide +kernel
theorem dX6_savedByPair_66 : decode cX6_savedByPair 66 = .ok (.aload_n 0, 1) := by decide +kernel
theorem dX6_savedByPair_67 : decode cX6_savedByPair 67 = .ok (.getfield 33, 3) := by decide +kernel
theorem dX6_savedByPair_70 : decode cX6_savedByPair 70 = .ok (.iload 4, 2) := by decide +kernel
theorem dX6_savedByPair_72 : decode cX6_savedByPair 72 = .ok (.iaload, 1) := by decide +kernel
theorem dX6_savedByPair_73 : decode cX6_savedByPair 73 = .ok (.ifCond .ne 13, 3) := by decide +kernel
theorem dX6_savedByPair_76 : decode cX6_savedByPair 76 = .ok (.aload_n 0, 1) := by decide +kernel
theorem dX6_savedByPair_77 : decode cX6_savedByPair 77 = .ok (.getfield 42, 3) := by decide +kernel
theorem dX6_savedByPair_80 : decode cX6_savedByPair 80 = .ok (.iload 4, 2) := by decide +kernel
theorem dX6_savedByPair_82 : decode cX6_savedByPair 82 = .ok (.iaload, 1) := by decide +kernel
theorem dX6_savedByPair_83 : decode cX6_savedByPair 83 = .ok (.goto 4, 3) := by decide +kernel
theorem dX6_savedByPair_86 : decode cX6_savedByPair 86 = .ok (.iconst 0, 1) := by decide +kernel
theorem dX6_savedByPair_87 : decode cX6_savedByPair 87 = .ok (.iadd, 1) := by decide +kernel
theorem dX6_savedByPair_88 : decode cX6_savedByPair 88 = .ok (.ireturn, 1) := by decide +kernel
theorem cm_X6_savedByPair : x_CM yX6_savedByPair cX6_savedByPair 6 (Option.some FieldType.int) 2 := ⟨w_5_172, w_1_7, by decide +kernel, by decide +kernel⟩
theorem ci_X6_savedByPair : x_CI yX6_savedByPair 8 := ⟨w_5_170, w_5_171, (RX6, TX6, 15), rfl, rfl⟩
set_option maxRecDepth 100000 in
set_option maxHeartbeats 4000000 in
theorem bX6_savedByPair_33 {V : x_J} {ad : Nat → Nat} {t : Nat} {Q : Int32 → x_S → x_L → Prop} (X : x_Is V cX6_savedByPair 6 RX6 (Option.some FieldType.int) ad dsX 1 (x_PI Q)) (ht : x_pl t) {σ : x_S} {τ : x_L} (h : wX6_savedByPair_33 t Q σ τ) : V σ τ 33 [] [] := by
  refine x_iconst X dX6_savedByPair_33 ki_0 ?_
  exact x_iret X dX6_savedByPair_34 ⟨_, rfl, h⟩
set_option maxRecDepth 100000 in
set_option maxHeartbeats 4000000 in
theorem bX6_savedByPair_87 {V : x_J} {ad : Nat → Nat} {t : Nat} {Q : Int32 → x_S → x_L → Prop} (X : x_Is V cX6_savedByPair 6 RX6 (Option.some FieldType.int) ad dsX 1 (x_PI Q)) (ht : x_pl t) {s0 : Int32} {s1 : Int32} {σ : x_S} {τ : x_L} (h : wX6_savedByPair_87 t Q s0 s1 σ τ) : V σ τ 87 [] [.int s1, .int s0] := by
  refine x_iadd X dX6_savedByPair_87 ?_
  exact x_iret X dX6_savedByPair_88 ⟨_, rfl, h⟩
set_option maxRecDepth 100000 in
set_option maxHeartbeats 4000000 in
theorem bX6_savedByPair_57 {V : x_J} {ad : Nat → Nat} {t : Nat} {Q : Int32 → x_S → x_L → Prop} (X : x_Is V cX6_savedByPair 6 RX6 (Option.some FieldType.int) ad dsX 1 (x_PI Q)) (ht : x_pl t) {v4 : Int32} {s0 : Int32} {σ : x_S} {τ : x_L} (h : wX6_savedByPair_57 t Q v4 s0 σ τ) : V σ τ 57 [(0, .ref (ad t)), (4, .int v4)] [.int s0] := by
  refine x_istore X (lv' := [(5, .int s0), (0, .ref (ad t)), (4, .int v4)]) dX6_savedByPair_57 (by decide) rfl ?_
  refine x_aload_n X dX6_savedByPair_59 rfl 1 rfl ?_
  refine x_getR X (j := (t + 11)) dX6_savedByPair_60 fl_6_42 (dsX_pl ht) rfl ?_
  refine x_iload X dX6_savedByPair_63 0 rfl ?_
  have g65 := h.1
  have h := h.2
  refine x_iald X dX6_savedByPair_65 (dsX_pl11 ht) g65 ?_
  refine x_aload_n X dX6_savedByPair_66 rfl 1 rfl ?_
  refine x_getR X (j := (t + 8)) dX6_savedByPair_67 fl_6_33 (dsX_pl ht) rfl ?_
  refine x_iload X dX6_savedByPair_70 2 rfl ?_
  have g72 := h.1
  have h := h.2
  refine x_iald X dX6_savedByPair_72 (dsX_pl8 ht) g72 ?_
  refine x_if_ne X 86 dX6_savedByPair_73 (by decide) (fun hc => ?_) (fun hc => ?_)
  · have h := h.1 hc
    refine x_iconst X dX6_savedByPair_86 ki_0 ?_
    refine x_sub X [] (lv' := []) rfl ?_
    exact bX6_savedByPair_87 X ht h
  · have h := h.2 hc
    refine x_aload_n X dX6_savedByPair_76 rfl 1 rfl ?_
    refine x_getR X (j := (t + 11)) dX6_savedByPair_77 fl_6_42 (dsX_pl ht) rfl ?_
    refine x_iload X dX6_savedByPair_80 2 rfl ?_
    refine x_iald X dX6_savedByPair_82 (dsX_pl11 ht) g72 ?_
    refine x_goto X (tgt := 87) dX6_savedByPair_83 (by decide) ?_
    refine x_sub X [] (lv' := []) rfl ?_
    exact bX6_savedByPair_87 X ht h
set_option maxRecDepth 100000 in
set_option maxHeartbeats 4000000 in
theorem bX6_savedByPair_45 {V : x_J} {ad : Nat → Nat} {t : Nat} {Q : Int32 → x_S → x_L → Prop} (X : x_Is V cX6_savedByPair 6 RX6 (Option.some FieldType.int) ad dsX 1 (x_PI Q)) (ht : x_pl t) {v1 : Int32} {v2 : Int32} {v3 : Int32} {s0 : Int32} {σ : x_S} {τ : x_L} (h : wX6_savedByPair_45 t Q v1 v2 v3 s0 σ τ) : V σ τ 45 [(0, .ref (ad t)), (1, .int v1), (2, .int v2), (3, .int v3)] [.int s0] := by
  refine x_istore X (lv' := [(4, .int s0), (0, .ref (ad t)), (1, .int v1), (2, .int v2), (3, .int v3)]) dX6_savedByPair_45 (by decide) rfl ?_
  refine x_iload_n X dX6_savedByPair_47 rfl 4 rfl ?_
  refine x_iconst X dX6_savedByPair_48 ki_1 ?_
  refine x_icmp_ne X 56 dX6_savedByPair_49 (by decide) (fun hc => ?_) (fun hc => ?_)
  · have h := h.1 hc
    refine x_iload_n X dX6_savedByPair_56 rfl 2 rfl ?_
    refine x_sub X [1, 0] (lv' := [(0, .ref (ad t)), (4, .int s0)]) rfl ?_
    exact bX6_savedByPair_57 X ht h
  · have h := h.2 hc
    refine x_iload_n X dX6_savedByPair_52 rfl 3 rfl ?_
    refine x_goto X (tgt := 57) dX6_savedByPair_53 (by decide) ?_
    refine x_sub X [1, 0] (lv' := [(0, .ref (ad t)), (4, .int s0)]) rfl ?_
    exact bX6_savedByPair_57 X ht h
set_option maxRecDepth 100000 in
set_option maxHeartbeats 4000000 in
theorem bX6_savedByPair_35 {V : x_J} {ad : Nat → Nat} {t : Nat} {Q : Int32 → x_S → x_L → Prop} (X : x_Is V cX6_savedByPair 6 RX6 (Option.some FieldType.int) ad dsX 1 (x_PI Q)) (ht : x_pl t) {v1 : Int32} {v2 : Int32} {v3 : Int32} {σ : x_S} {τ : x_L} (h : wX6_savedByPair_35 t Q v1 v2 v3 σ τ) : V σ τ 35 [(0, .ref (ad t)), (1, .int v1), (2, .int v2), (3, .int v3)] [] := by
  refine x_iload_n X dX6_savedByPair_35 rfl 3 rfl ?_
  refine x_iconst X dX6_savedByPair_36 ki_1 ?_
  refine x_icmp_ne X 44 dX6_savedByPair_37 (by decide) (fun hc => ?_) (fun hc => ?_)
  · have h := h.1 hc
    refine x_iload_n X dX6_savedByPair_44 rfl 2 rfl ?_
    exact bX6_savedByPair_45 X ht h
  · have h := h.2 hc
    refine x_iload_n X dX6_savedByPair_40 rfl 1 rfl ?_
    refine x_goto X (tgt := 45) dX6_savedByPair_41 (by decide) ?_
    exact bX6_savedByPair_45 X ht h
set_option maxRecDepth 100000 in
set_option maxHeartbeats 4000000 in
theorem kX6_savedByPair {ad : Nat → Nat} {t : Nat} (ht : x_pl t) {a1 : Int32} {a2 : Int32} {σ : x_S} {τ : x_L} {Q : Int32 → x_S → x_L → Prop} (h : wX6_savedByPair t a1 a2 σ τ Q) : x_Met yX6_savedByPair cX6_savedByPair 6 (Option.some FieldType.int) 1 ad dsX [.ref (ad t), .int a1, .int a2] σ τ (x_PI Q) := by
  refine x_met (by decide +kernel) (Nat.le_of_ble_eq_true rfl) (fun V X => ?_)
  have X : x_Is V cX6_savedByPair 6 RX6 (Option.some FieldType.int) ad dsX 1 (x_PI Q) := X
  show V σ τ 0 [(0, .ref (ad t)), (1, .int a1), (2, .int a2)] []
  refine x_aload_n X dX6_savedByPair_0 rfl 0 rfl ?_
  refine x_getR X (j := (t + 8)) dX6_savedByPair_1 fl_6_33 (dsX_pl ht) rfl ?_
  refine x_iload_n X dX6_savedByPair_4 rfl 2 rfl ?_
  have g5 := h.1
  have h := h.2
  refine x_iald X dX6_savedByPair_5 (dsX_pl8 ht) g5 ?_
  refine x_aload_n X dX6_savedByPair_6 rfl 0 rfl ?_
  refine x_getR X (j := (t + 8)) dX6_savedByPair_7 fl_6_33 (dsX_pl ht) rfl ?_
  refine x_iload_n X dX6_savedByPair_10 rfl 1 rfl ?_
  have g11 := h.1
  have h := h.2
  refine x_iald X dX6_savedByPair_11 (dsX_pl8 ht) g11 ?_
  refine x_isub X dX6_savedByPair_12 ?_
  refine x_istore_n X (lv' := [(3, .int ((σ (t + 8) a2.toNatClampNeg) - (σ (t + 8) a1.toNatClampNeg))), (0, .ref (ad t)), (1, .int a1), (2, .int a2)]) dX6_savedByPair_13 rfl (by decide) rfl ?_
  refine x_aload_n X dX6_savedByPair_14 rfl 1 rfl ?_
  refine x_iload_n X dX6_savedByPair_15 rfl 2 rfl ?_
  refine x_iload_n X dX6_savedByPair_16 rfl 3 rfl ?_
  refine x_callVi X [.int a1, .int a2] [] dX6_savedByPair_17 (kX6_inOnePlatoon ht h) cm_X6_inOnePlatoon ci_X6_inOnePlatoon w_5_173 (dsX_pl ht) ⟨by decide, by decide⟩ rfl (Nat.le_of_ble_eq_true rfl) (fun r17 σ17 τ17 h => ?_)
  refine x_if_eq X 33 dX6_savedByPair_20 (by decide) (fun hc => ?_) (fun hc => ?_)
  · have h := h.1 hc
    refine x_sub X [] (lv' := []) rfl ?_
    exact bX6_savedByPair_33 X ht h
  · have h := h.2 hc
    refine x_iload_n X dX6_savedByPair_23 rfl 0 rfl ?_
    refine x_iconst X dX6_savedByPair_24 ki_1 ?_
    refine x_icmp_eq X 35 dX6_savedByPair_25 (by decide) (fun hc => ?_) (fun hc => ?_)
    · have h := h.1 hc
      refine x_sub X [1, 2, 3, 0] (lv' := [(0, .ref (ad t)), (1, .int a1), (2, .int a2), (3, .int ((σ (t + 8) a2.toNatClampNeg) - (σ (t + 8) a1.toNatClampNeg)))]) rfl ?_
      exact bX6_savedByPair_35 X ht h
    · have h := h.2 hc
      refine x_iload_n X dX6_savedByPair_28 rfl 0 rfl ?_
      refine x_iconst X dX6_savedByPair_29 ki_m1 ?_
      refine x_icmp_eq X 35 dX6_savedByPair_30 (by decide) (fun hc => ?_) (fun hc => ?_)
      · have h := h.1 hc
        refine x_sub X [1, 2, 3, 0] (lv' := [(0, .ref (ad t)), (1, .int a1), (2, .int a2), (3, .int ((σ (t + 8) a2.toNatClampNeg) - (σ (t + 8) a1.toNatClampNeg)))]) rfl ?_
        exact bX6_savedByPair_35 X ht h
      · have h := h.2 hc
        refine x_sub X [] (lv' := []) rfl ?_
        exact bX6_savedByPair_33 X ht h
theorem dX7_listByRoad_0 : decode cX7_listByRoad 0 = .ok (.iconst 0, 1) := by decide +kernel
theorem dX7_listByRoad_1 : decode cX7_listByRoad 1 = .ok (.istore_n 1, 1) := by decide +kernel
theorem dX7_listByRoad_2 : decode cX7_listByRoad 2 = .ok (.iconst 0, 1) := by decide +kernel
theorem dX7_listByRoad_3 : decode cX7_listByRoad 3 = .ok (.istore_n 2, 1) := by decide +kernel
theorem dX7_listByRoad_4 : decode cX7_listByRoad 4 = .ok (.iload_n 2, 1) := by decide +kernel
theorem dX7_listByRoad_5 : decode cX7_listByRoad 5 = .ok (.aload_n 0, 1) := by decide +kernel
theorem dX7_listByRoad_6 : decode cX7_listByRoad 6 = .ok (.getfield 28, 3) := by decide +kernel
theorem dX7_listByRoad_9 : decode cX7_listByRoad 9 = .ok (.getfield 55, 3) := by decide +kernel
theorem dX7_listByRoad_12 : decode cX7_listByRoad 12 = .ok (.if_icmp .ge 83, 3) := by decide +kernel
theorem dX7_listByRoad_15 : decode cX7_listByRoad 15 = .ok (.aload_n 0, 1) := by decide +kernel
theorem dX7_listByRoad_16 : decode cX7_listByRoad 16 = .ok (.getfield 15, 3) := by decide +kernel
theorem dX7_listByRoad_19 : decode cX7_listByRoad 19 = .ok (.iload_n 2, 1) := by decide +kernel
theorem dX7_listByRoad_20 : decode cX7_listByRoad 20 = .ok (.iload_n 1, 1) := by decide +kernel
theorem dX7_listByRoad_21 : decode cX7_listByRoad 21 = .ok (.iastore, 1) := by decide +kernel
theorem dX7_listByRoad_22 : decode cX7_listByRoad 22 = .ok (.iconst 0, 1) := by decide +kernel
theorem dX7_listByRoad_23 : decode cX7_listByRoad 23 = .ok (.istore_n 3, 1) := by decide +kernel
theorem dX7_listByRoad_24 : decode cX7_listByRoad 24 = .ok (.iload_n 3, 1) := by decide +kernel
theorem dX7_listByRoad_25 : decode cX7_listByRoad 25 = .ok (.aload_n 0, 1) := by decide +kernel
theorem dX7_listByRoad_26 : decode cX7_listByRoad 26 = .ok (.getfield 28, 3) := by decide +kernel
theorem dX7_listByRoad_29 : decode cX7_listByRoad 29 = .ok (.getfield 32, 3) := by decide +kernel
theorem dX7_listByRoad_32 : decode cX7_listByRoad 32 = .ok (.if_icmp .ge 57, 3) := by decide +kernel
theorem dX7_listByRoad_35 : decode cX7_listByRoad 35 = .ok (.iload_n 3, 1) := by decide +kernel
theorem dX7_listByRoad_36 : decode cX7_listByRoad 36 = .ok (.bipush 10, 2) := by decide +kernel
theorem dX7_listByRoad_38 : decode cX7_listByRoad 38 = .ok (.imul, 1) := by decide +kernel
theorem dX7_listByRoad_39 : decode cX7_listByRoad 39 = .ok (.istore 4, 2) := by decide +kernel
theorem dX7_listByRoad_41 : decode cX7_listByRoad 41 = .ok (.iload 4, 2) := by decide +kernel
theorem dX7_listByRoad_43 : decode cX7_listByRoad 43 = .ok (.aload_n 0, 1) := by decide +kernel
theorem dX7_listByRoad_44 : decode cX7_listByRoad 44 = .ok (.getfield 18, 3) := by decide +kernel
theorem dX7_listByRoad_47 : decode cX7_listByRoad 47 = .ok (.iload_n 3, 1) := by decide +kernel
theorem dX7_listByRoad_48 : decode cX7_listByRoad 48 = .ok (.iaload, 1) := by decide +kernel
theorem dX7_listByRoad_49 : decode cX7_listByRoad 49 = .ok (.if_icmp .ge 34, 3) := by decide +kernel
theorem dX7_listByRoad_52 : decode cX7_listByRoad 52 = .ok (.aload_n 0, 1) := by decide +kernel
theorem dX7_listByRoad_53 : decode cX7_listByRoad 53 = .ok (.getfield 28, 3) := by decide +kernel
theorem dX7_listByRoad_56 : decode cX7_listByRoad 56 = .ok (.getfield 58, 3) := by decide +kernel
theorem dX7_listByRoad_59 : decode cX7_listByRoad 59 = .ok (.iload 4, 2) := by decide +kernel
theorem dX7_listByRoad_61 : decode cX7_listByRoad 61 = .ok (.iaload, 1) := by decide +kernel
theorem dX7_listByRoad_62 : decode cX7_listByRoad 62 = .ok (.iload_n 2, 1) := by decide +kernel
theorem dX7_listByRoad_63 : decode cX7_listByRoad 63 = .ok (.if_icmp .ne 14, 3) := by decide +kernel
theorem dX7_listByRoad_66 : decode cX7_listByRoad 66 = .ok (.aload_n 0, 1) := by decide +kernel
theorem dX7_listByRoad_67 : decode cX7_listByRoad 67 = .ok (.getfield 9, 3) := by decide +kernel
theorem dX7_listByRoad_70 : decode cX7_listByRoad 70 = .ok (.iload_n 1, 1) := by decide +kernel
theorem dX7_listByRoad_71 : decode cX7_listByRoad 71 = .ok (.iload 4, 2) := by decide +kernel
theorem dX7_listByRoad_73 : decode cX7_listByRoad 73 = .ok (.iastore, 1) := by decide +kernel
theorem dX7_listByRoad_74 : decode cX7_listByRoad 74 = .ok (.iinc 1 1, 3) := by decide +kernel
theorem dX7_listByRoad_77 : decode cX7_listByRoad 77 = .ok (.iinc 4 1, 3) := by decide +kernel
theorem dX7_listByRoad_80 : decode cX7_listByRoad 80 = .ok (.goto (-39), 3) := by decide +kernel
theorem dX7_listByRoad_83 : decode cX7_listByRoad 83 = .ok (.iinc 3 1, 3) := by decide +kernel
theorem dX7_listByRoad_86 : decode cX7_listByRoad 86 = .ok (.goto (-62), 3) := by decide +kernel
theorem dX7_listByRoad_89 : decode cX7_listByRoad 89 = .ok (.iinc 2 1, 3) := by decide +kernel
theorem dX7_listByRoad_92 : decode cX7_listByRoad 92 = .ok (.goto (-88), 3) := by decide +kernel
theorem dX7_listByRoad_95 : decode cX7_listByRoad 95 = .ok (.aload_n 0, 1) := by decide +kernel
theorem dX7_listByRoad_96 : decode cX7_listByRoad 96 = .ok (.getfield 15, 3) := by decide +kernel
theorem dX7_listByRoad_99 : decode cX7_listByRoad 99 = .ok (.aload_n 0, 1) := by decide +kernel
theorem dX7_listByRoad_100 : decode cX7_listByRoad 100 = .ok (.getfield 28, 3) := by decide +kernel
theorem dX7_listByRoad_103 : decode cX7_listByRoad 103 = .ok (.getfield 55, 3) := by decide +kernel
theorem dX7_listByRoad_106 : decode cX7_listByRoad 106 = .ok (.iload_n 1, 1) := by decide +kernel
theorem dX7_listByRoad_107 : decode cX7_listByRoad 107 = .ok (.iastore, 1) := by decide +kernel
theorem dX7_listByRoad_108 : decode cX7_listByRoad 108 = .ok (.return_, 1) := by decide +kernel
theorem cm_X7_listByRoad : x_CM yX7_listByRoad cX7_listByRoad 5 (Option.none : Option Jvm.ClassFile.FieldType) 0 := ⟨w_3_77, w_1_6, by decide +kernel, by decide +kernel⟩
theorem ci_X7_listByRoad : x_CI yX7_listByRoad 9 := ⟨w_3_76, wp_5, (RX7, TX7, 6), rfl, rfl⟩
set_option maxRecDepth 100000 in
set_option maxHeartbeats 4000000 in
theorem bX7_listByRoad_77 {V : x_J} {ad : Nat → Nat} {Q : x_S → x_L → Prop} (X : x_Is V cX7_listByRoad 5 RX7 (Option.none : Option Jvm.ClassFile.FieldType) ad dsX 0 (x_PV Q)) {K4 : Int32 → Int32 → x_S → x_L → Prop} {K24 : Int32 → Int32 → Int32 → x_S → x_L → Prop} {K41 : Int32 → Int32 → Int32 → Int32 → x_S → x_L → Prop} (hK4 : ∀ v1 v2 σ τ, K4 v1 v2 σ τ → V σ τ 4 [(0, .ref (ad 27)), (1, .int v1), (2, .int v2)] []) (hK24 : ∀ v1 v2 v3 σ τ, K24 v1 v2 v3 σ τ → V σ τ 24 [(0, .ref (ad 27)), (1, .int v1), (2, .int v2), (3, .int v3)] []) (hK41 : ∀ v1 v2 v3 v4 σ τ, K41 v1 v2 v3 v4 σ τ → V σ τ 41 [(0, .ref (ad 27)), (1, .int v1), (2, .int v2), (3, .int v3), (4, .int v4)] []) {v1 : Int32} {v2 : Int32} {v3 : Int32} {v4 : Int32} {σ : x_S} {τ : x_L} (h : wX7_listByRoad_77 K4 K24 K41 Q v1 v2 v3 v4 σ τ) : V σ τ 77 [(0, .ref (ad 27)), (1, .int v1), (2, .int v2), (3, .int v3), (4, .int v4)] [] := by
  refine x_iinc X (k := 4) (lv' := [(4, .int (v4 + 1)), (0, .ref (ad 27)), (1, .int v1), (2, .int v2), (3, .int v3)]) dX7_listByRoad_77 rfl ki_1 (by decide) rfl ?_
  refine x_goto X (tgt := 41) dX7_listByRoad_80 (by decide) ?_
  refine x_sub X [1, 2, 3, 4, 0] (lv' := [(0, .ref (ad 27)), (1, .int v1), (2, .int v2), (3, .int v3), (4, .int (v4 + 1))]) rfl ?_
  exact hK41 _ _ _ _ _ _ h
set_option maxRecDepth 100000 in
set_option maxHeartbeats 4000000 in
theorem bX7_listByRoad_41 {V : x_J} {ad : Nat → Nat} {Q : x_S → x_L → Prop} (X : x_Is V cX7_listByRoad 5 RX7 (Option.none : Option Jvm.ClassFile.FieldType) ad dsX 0 (x_PV Q)) {K4 : Int32 → Int32 → x_S → x_L → Prop} {K24 : Int32 → Int32 → Int32 → x_S → x_L → Prop} {K41 : Int32 → Int32 → Int32 → Int32 → x_S → x_L → Prop} (hK4 : ∀ v1 v2 σ τ, K4 v1 v2 σ τ → V σ τ 4 [(0, .ref (ad 27)), (1, .int v1), (2, .int v2)] []) (hK24 : ∀ v1 v2 v3 σ τ, K24 v1 v2 v3 σ τ → V σ τ 24 [(0, .ref (ad 27)), (1, .int v1), (2, .int v2), (3, .int v3)] []) (hK41 : ∀ v1 v2 v3 v4 σ τ, K41 v1 v2 v3 v4 σ τ → V σ τ 41 [(0, .ref (ad 27)), (1, .int v1), (2, .int v2), (3, .int v3), (4, .int v4)] []) {v1 : Int32} {v2 : Int32} {v3 : Int32} {v4 : Int32} {σ : x_S} {τ : x_L} (h : wX7_listByRoad_41 K4 K24 Q K41 v1 v2 v3 v4 σ τ) : V σ τ 41 [(0, .ref (ad 27)), (1, .int v1), (2, .int v2), (3, .int v3), (4, .int v4)] [] := by
  refine x_iload X dX7_listByRoad_41 4 rfl ?_
  refine x_aload_n X dX7_listByRoad_43 rfl 0 rfl ?_
  refine x_getR X (j := 30) dX7_listByRoad_44 fl_7_18 dsX_27 rfl ?_
  refine x_iload_n X dX7_listByRoad_47 rfl 3 rfl ?_
  have g48 := h.1
  have h := h.2
  refine x_iald X dX7_listByRoad_48 dsX_30 g48 ?_
  refine x_icmp_ge X 83 dX7_listByRoad_49 (by decide) (fun hc => ?_) (fun hc => ?_)
  · have h := h.1 hc
    refine x_iinc X (k := 3) (lv' := [(3, .int (v3 + 1)), (0, .ref (ad 27)), (1, .int v1), (2, .int v2), (4, .int v4)]) dX7_listByRoad_83 rfl ki_1 (by decide) rfl ?_
    refine x_goto X (tgt := 24) dX7_listByRoad_86 (by decide) ?_
    refine x_sub X [1, 2, 3, 0] (lv' := [(0, .ref (ad 27)), (1, .int v1), (2, .int v2), (3, .int (v3 + 1))]) rfl ?_
    exact hK24 _ _ _ _ _ h
  · have h := h.2 hc
    refine x_aload_n X dX7_listByRoad_52 rfl 0 rfl ?_
    refine x_getR X (j := 3) dX7_listByRoad_53 fl_7_28 dsX_27 rfl ?_
    refine x_getR X (j := 12) dX7_listByRoad_56 fl_7_58 dsX_3 rfl ?_
    refine x_iload X dX7_listByRoad_59 4 rfl ?_
    have g61 := h.1
    have h := h.2
    refine x_iald X dX7_listByRoad_61 dsX_12 g61 ?_
    refine x_iload_n X dX7_listByRoad_62 rfl 2 rfl ?_
    refine x_icmp_ne X 77 dX7_listByRoad_63 (by decide) (fun hc => ?_) (fun hc => ?_)
    · have h := h.1 hc
      exact bX7_listByRoad_77 X hK4 hK24 hK41 h
    · have h := h.2 hc
      refine x_aload_n X dX7_listByRoad_66 rfl 0 rfl ?_
      refine x_getR X (j := 28) dX7_listByRoad_67 fl_7_9 dsX_27 rfl ?_
      refine x_iload_n X dX7_listByRoad_70 rfl 1 rfl ?_
      refine x_iload X dX7_listByRoad_71 4 rfl ?_
      have g73 := h.1
      have h := h.2
      refine x_iast X dX7_listByRoad_73 dsX_28 g73 ?_
      refine x_iinc X (k := 1) (lv' := [(1, .int (v1 + 1)), (0, .ref (ad 27)), (2, .int v2), (3, .int v3), (4, .int v4)]) dX7_listByRoad_74 rfl ki_1 (by decide) rfl ?_
      refine x_sub X [1, 0, 2, 3, 4] (lv' := [(0, .ref (ad 27)), (1, .int (v1 + 1)), (2, .int v2), (3, .int v3), (4, .int v4)]) rfl ?_
      exact bX7_listByRoad_77 X hK4 hK24 hK41 h
set_option maxRecDepth 100000 in
set_option maxHeartbeats 4000000 in
theorem bX7_listByRoad_24 {V : x_J} {ad : Nat → Nat} {Q : x_S → x_L → Prop} (X : x_Is V cX7_listByRoad 5 RX7 (Option.none : Option Jvm.ClassFile.FieldType) ad dsX 0 (x_PV Q)) {K4 : Int32 → Int32 → x_S → x_L → Prop} {K24 : Int32 → Int32 → Int32 → x_S → x_L → Prop} (hK4 : ∀ v1 v2 σ τ, K4 v1 v2 σ τ → V σ τ 4 [(0, .ref (ad 27)), (1, .int v1), (2, .int v2)] []) (hK24 : ∀ v1 v2 v3 σ τ, K24 v1 v2 v3 σ τ → V σ τ 24 [(0, .ref (ad 27)), (1, .int v1), (2, .int v2), (3, .int v3)] []) {v1 : Int32} {v2 : Int32} {v3 : Int32} {σ : x_S} {τ : x_L} (h : wX7_listByRoad_24 K4 Q K24 v1 v2 v3 σ τ) : V σ τ 24 [(0, .ref (ad 27)), (1, .int v1), (2, .int v2), (3, .int v3)] [] := by
  refine x_iload_n X dX7_listByRoad_24 rfl 3 rfl ?_
  refine x_aload_n X dX7_listByRoad_25 rfl 0 rfl ?_
  refine x_getR X (j := 3) dX7_listByRoad_26 fl_7_28 dsX_27 rfl ?_
  refine x_getI X dX7_listByRoad_29 fl_7_32 dsX_3 rfl ?_
  refine x_icmp_ge X 89 dX7_listByRoad_32 (by decide) (fun hc => ?_) (fun hc => ?_)
  · have h := h.1 hc
    refine x_iinc X (k := 2) (lv' := [(2, .int (v2 + 1)), (0, .ref (ad 27)), (1, .int v1), (3, .int v3)]) dX7_listByRoad_89 rfl ki_1 (by decide) rfl ?_
    refine x_goto X (tgt := 4) dX7_listByRoad_92 (by decide) ?_
    refine x_sub X [1, 2, 0] (lv' := [(0, .ref (ad 27)), (1, .int v1), (2, .int (v2 + 1))]) rfl ?_
    exact hK4 _ _ _ _ h
  · have h := h.2 hc
    refine x_iload_n X dX7_listByRoad_35 rfl 3 rfl ?_
    refine x_bipush X dX7_listByRoad_36 kb_10 ?_
    refine x_imul X dX7_listByRoad_38 ?_
    refine x_istore X (lv' := [(4, .int (v3 * 10)), (0, .ref (ad 27)), (1, .int v1), (2, .int v2), (3, .int v3)]) dX7_listByRoad_39 (by decide) rfl ?_
    refine x_sub X [1, 2, 3, 4, 0] (lv' := [(0, .ref (ad 27)), (1, .int v1), (2, .int v2), (3, .int v3), (4, .int (v3 * 10))]) rfl ?_
    exact x_l4_G (fun v1 v2 v3 v4 σ τ => V σ τ 41 [(0, .ref (ad 27)), (1, .int v1), (2, .int v2), (3, .int v3), (4, .int v4)] []) (fun K41 hK41 v1 v2 v3 v4 σ τ h => bX7_listByRoad_41 X hK4 hK24 hK41 h) h
set_option maxRecDepth 100000 in
set_option maxHeartbeats 4000000 in
theorem bX7_listByRoad_4 {V : x_J} {ad : Nat → Nat} {Q : x_S → x_L → Prop} (X : x_Is V cX7_listByRoad 5 RX7 (Option.none : Option Jvm.ClassFile.FieldType) ad dsX 0 (x_PV Q)) {K4 : Int32 → Int32 → x_S → x_L → Prop} (hK4 : ∀ v1 v2 σ τ, K4 v1 v2 σ τ → V σ τ 4 [(0, .ref (ad 27)), (1, .int v1), (2, .int v2)] []) {v1 : Int32} {v2 : Int32} {σ : x_S} {τ : x_L} (h : wX7_listByRoad_4 Q K4 v1 v2 σ τ) : V σ τ 4 [(0, .ref (ad 27)), (1, .int v1), (2, .int v2)] [] := by
  refine x_iload_n X dX7_listByRoad_4 rfl 2 rfl ?_
  refine x_aload_n X dX7_listByRoad_5 rfl 0 rfl ?_
  refine x_getR X (j := 3) dX7_listByRoad_6 fl_7_28 dsX_27 rfl ?_
  refine x_getI X dX7_listByRoad_9 fl_7_55 dsX_3 rfl ?_
  refine x_icmp_ge X 95 dX7_listByRoad_12 (by decide) (fun hc => ?_) (fun hc => ?_)
  · have h := h.1 hc
    refine x_aload_n X dX7_listByRoad_95 rfl 0 rfl ?_
    refine x_getR X (j := 29) dX7_listByRoad_96 fl_7_15 dsX_27 rfl ?_
    refine x_aload_n X dX7_listByRoad_99 rfl 0 rfl ?_
    refine x_getR X (j := 3) dX7_listByRoad_100 fl_7_28 dsX_27 rfl ?_
    refine x_getI X dX7_listByRoad_103 fl_7_55 dsX_3 rfl ?_
    refine x_iload_n X dX7_listByRoad_106 rfl 1 rfl ?_
    have g107 := h.1
    have h := h.2
    refine x_iast X dX7_listByRoad_107 dsX_29 g107 ?_
    exact x_vret X dX7_listByRoad_108 ⟨rfl, h⟩
  · have h := h.2 hc
    refine x_aload_n X dX7_listByRoad_15 rfl 0 rfl ?_
    refine x_getR X (j := 29) dX7_listByRoad_16 fl_7_15 dsX_27 rfl ?_
    refine x_iload_n X dX7_listByRoad_19 rfl 2 rfl ?_
    refine x_iload_n X dX7_listByRoad_20 rfl 1 rfl ?_
    have g21 := h.1
    have h := h.2
    refine x_iast X dX7_listByRoad_21 dsX_29 g21 ?_
    refine x_iconst X dX7_listByRoad_22 ki_0 ?_
    refine x_istore_n X (lv' := [(3, .int 0), (0, .ref (ad 27)), (1, .int v1), (2, .int v2)]) dX7_listByRoad_23 rfl (by decide) rfl ?_
    refine x_sub X [1, 2, 3, 0] (lv' := [(0, .ref (ad 27)), (1, .int v1), (2, .int v2), (3, .int 0)]) rfl ?_
    exact x_l3_G (fun v1 v2 v3 σ τ => V σ τ 24 [(0, .ref (ad 27)), (1, .int v1), (2, .int v2), (3, .int v3)] []) (fun K24 hK24 v1 v2 v3 σ τ h => bX7_listByRoad_24 X hK4 hK24 h) h
set_option maxRecDepth 100000 in
set_option maxHeartbeats 4000000 in
theorem kX7_listByRoad {ad : Nat → Nat} {σ : x_S} {τ : x_L} {Q : x_S → x_L → Prop} (h : wX7_listByRoad σ τ Q) : x_Met yX7_listByRoad cX7_listByRoad 5 (Option.none : Option Jvm.ClassFile.FieldType) 0 ad dsX [.ref (ad 27)] σ τ (x_PV Q) := by
  refine x_met (by decide +kernel) (Nat.le_of_ble_eq_true rfl) (fun V X => ?_)
  have X : x_Is V cX7_listByRoad 5 RX7 (Option.none : Option Jvm.ClassFile.FieldType) ad dsX 0 (x_PV Q) := X
  show V σ τ 0 [(0, .ref (ad 27))] []
  refine x_iconst X dX7_listByRoad_0 ki_0 ?_
  refine x_istore_n X (lv' := [(1, .int 0), (0, .ref (ad 27))]) dX7_listByRoad_1 rfl (by decide) rfl ?_
  refine x_iconst X dX7_listByRoad_2 ki_0 ?_
  refine x_istore_n X (lv' := [(2, .int 0), (1, .int 0), (0, .ref (ad 27))]) dX7_listByRoad_3 rfl (by decide) rfl ?_
  refine x_sub X [2, 1, 0] (lv' := [(0, .ref (ad 27)), (1, .int 0), (2, .int 0)]) rfl ?_
  exact x_l2_G (fun v1 v2 σ τ => V σ τ 4 [(0, .ref (ad 27)), (1, .int v1), (2, .int v2)] []) (fun K4 hK4 v1 v2 σ τ h => bX7_listByRoad_4 X hK4 h) h
theorem dX7_setNext_0 : decode cX7_setNext 0 = .ok (.iconst 0, 1) := by decide +kernel
theorem dX7_setNext_1 : decode cX7_setNext 1 = .ok (.istore_n 1, 1) := by decide +kernel
theorem dX7_setNext_2 : decode cX7_setNext 2 = .ok (.iload_n 1, 1) := by decide +kernel
theorem dX7_setNext_3 : decode cX7_setNext 3 = .ok (.aload_n 0, 1) := by decide +kernel
theorem dX7_setNext_4 : decode cX7_setNext 4 = .ok (.getfield 28, 3) := by decide +kernel
theorem dX7_setNext_7 : decode cX7_setNext 7 = .ok (.getfield 32, 3) := by decide +kernel
theorem dX7_setNext_10 : decode cX7_setNext 10 = .ok (.if_icmp .ge 58, 3) := by decide +kernel
theorem dX7_setNext_13 : decode cX7_setNext 13 = .ok (.aload_n 0, 1) := by decide +kernel
theorem dX7_setNext_14 : decode cX7_setNext 14 = .ok (.getfield 18, 3) := by decide +kernel
theorem dX7_setNext_17 : decode cX7_setNext 17 = .ok (.iload_n 1, 1) := by decide +kernel
theorem dX7_setNext_18 : decode cX7_setNext 18 = .ok (.iaload, 1) := by decide +kernel
theorem dX7_setNext_19 : decode cX7_setNext 19 = .ok (.iconst 1, 1) := by decide +kernel
theorem dX7_setNext_20 : decode cX7_setNext 20 = .ok (.isub, 1) := by decide +kernel
theorem dX7_setNext_21 : decode cX7_setNext 21 = .ok (.istore_n 2, 1) := by decide +kernel
theorem dX7_setNext_22 : decode cX7_setNext 22 = .ok (.iload_n 1, 1) := by decide +kernel
theorem dX7_setNext_23 : decode cX7_setNext 23 = .ok (.bipush 10, 2) := by decide +kernel
theorem dX7_setNext_25 : decode cX7_setNext 25 = .ok (.imul, 1) := by decide +kernel
theorem dX7_setNext_26 : decode cX7_setNext 26 = .ok (.istore_n 3, 1) := by decide +kernel
theorem dX7_setNext_27 : decode cX7_setNext 27 = .ok (.iload_n 3, 1) := by decide +kernel
theorem dX7_setNext_28 : decode cX7_setNext 28 = .ok (.iload_n 2, 1) := by decide +kernel
theorem dX7_setNext_29 : decode cX7_setNext 29 = .ok (.if_icmp .ge 26, 3) := by decide +kernel
theorem dX7_setNext_32 : decode cX7_setNext 32 = .ok (.aload_n 0, 1) := by decide +kernel
theorem dX7_setNext_33 : decode cX7_setNext 33 = .ok (.getfield 21, 3) := by decide +kernel
theorem dX7_setNext_36 : decode cX7_setNext 36 = .ok (.iload_n 3, 1) := by decide +kernel
theorem dX7_setNext_37 : decode cX7_setNext 37 = .ok (.aload_n 0, 1) := by decide +kernel
theorem dX7_setNext_38 : decode cX7_setNext 38 = .ok (.getfield 28, 3) := by decide +kernel
theorem dX7_setNext_41 : decode cX7_setNext 41 = .ok (.getfield 58, 3) := by decide +kernel
theorem dX7_setNext_44 : decode cX7_setNext 44 = .ok (.iload_n 3, 1) := by decide +kernel
theorem dX7_setNext_45 : decode cX7_setNext 45 = .ok (.iconst 1, 1) := by decide +kernel
theorem dX7_setNext_46 : decode cX7_setNext 46 = .ok (.iadd, 1) := by decide +kernel
theorem dX7_setNext_47 : decode cX7_setNext 47 = .ok (.iaload, 1) := by decide +kernel
theorem dX7_setNext_48 : decode cX7_setNext 48 = .ok (.iastore, 1) := by decide +kernel
theorem dX7_setNext_49 : decode cX7_setNext 49 = .ok (.iinc 3 1, 3) := by decide +kernel
theorem dX7_setNext_52 : decode cX7_setNext 52 = .ok (.goto (-25), 3) := by decide +kernel
theorem dX7_setNext_55 : decode cX7_setNext 55 = .ok (.aload_n 0, 1) := by decide +kernel
theorem dX7_setNext_56 : decode cX7_setNext 56 = .ok (.getfield 21, 3) := by decide +kernel
theorem dX7_setNext_59 : decode cX7_setNext 59 = .ok (.iload_n 2, 1) := by decide +kernel
theorem dX7_setNext_60 : decode cX7_setNext 60 = .ok (.iconst (-1), 1) := by decide +kernel
theorem dX7_setNext_61 : decode cX7_setNext 61 = .ok (.iastore, 1) := by decide +kernel
theorem dX7_setNext_62 : decode cX7_setNext 62 = .ok (.iinc 1 1, 3) := by decide +kernel
theorem dX7_setNext_65 : decode cX7_setNext 65 = .ok (.goto (-63), 3) := by decide +kernel
theorem dX7_setNext_68 : decode cX7_setNext 68 = .ok (.return_, 1) := by decide +kernel
theorem cm_X7_setNext : x_CM yX7_setNext cX7_setNext 4 (Option.none : Option Jvm.ClassFile.FieldType) 0 := ⟨w_3_81, w_1_6, by decide +kernel, by decide +kernel⟩
theorem ci_X7_setNext : x_CI yX7_setNext 9 := ⟨w_3_80, wp_6, (RX7, TX7, 6), rfl, rfl⟩
set_option maxRecDepth 100000 in
set_option maxHeartbeats 4000000 in
theorem bX7_setNext_27 {V : x_J} {ad : Nat → Nat} {Q : x_S → x_L → Prop} (X : x_Is V cX7_setNext 4 RX7 (Option.none : Option Jvm.ClassFile.FieldType) ad dsX 0 (x_PV Q)) {K2 : Int32 → x_S → x_L → Prop} {K27 : Int32 → Int32 → Int32 → x_S → x_L → Prop} (hK2 : ∀ v1 σ τ, K2 v1 σ τ → V σ τ 2 [(0, .ref (ad 27)), (1, .int v1)] []) (hK27 : ∀ v1 v2 v3 σ τ, K27 v1 v2 v3 σ τ → V σ τ 27 [(0, .ref (ad 27)), (1, .int v1), (2, .int v2), (3, .int v3)] []) {v1 : Int32} {v2 : Int32} {v3 : Int32} {σ : x_S} {τ : x_L} (h : wX7_setNext_27 K2 Q K27 v1 v2 v3 σ τ) : V σ τ 27 [(0, .ref (ad 27)), (1, .int v1), (2, .int v2), (3, .int v3)] [] := by
  refine x_iload_n X dX7_setNext_27 rfl 3 rfl ?_
  refine x_iload_n X dX7_setNext_28 rfl 2 rfl ?_
  refine x_icmp_ge X 55 dX7_setNext_29 (by decide) (fun hc => ?_) (fun hc => ?_)
  · have h := h.1 hc
    refine x_aload_n X dX7_setNext_55 rfl 0 rfl ?_
    refine x_getR X (j := 31) dX7_setNext_56 fl_7_21 dsX_27 rfl ?_
    refine x_iload_n X dX7_setNext_59 rfl 2 rfl ?_
    refine x_iconst X dX7_setNext_60 ki_m1 ?_
    have g61 := h.1
    have h := h.2
    refine x_iast X dX7_setNext_61 dsX_31 g61 ?_
    refine x_iinc X (k := 1) (lv' := [(1, .int (v1 + 1)), (0, .ref (ad 27)), (2, .int v2), (3, .int v3)]) dX7_setNext_62 rfl ki_1 (by decide) rfl ?_
    refine x_goto X (tgt := 2) dX7_setNext_65 (by decide) ?_
    refine x_sub X [1, 0] (lv' := [(0, .ref (ad 27)), (1, .int (v1 + 1))]) rfl ?_
    exact hK2 _ _ _ h
  · have h := h.2 hc
    refine x_aload_n X dX7_setNext_32 rfl 0 rfl ?_
    refine x_getR X (j := 31) dX7_setNext_33 fl_7_21 dsX_27 rfl ?_
    refine x_iload_n X dX7_setNext_36 rfl 3 rfl ?_
    refine x_aload_n X dX7_setNext_37 rfl 0 rfl ?_
    refine x_getR X (j := 3) dX7_setNext_38 fl_7_28 dsX_27 rfl ?_
    refine x_getR X (j := 12) dX7_setNext_41 fl_7_58 dsX_3 rfl ?_
    refine x_iload_n X dX7_setNext_44 rfl 3 rfl ?_
    refine x_iconst X dX7_setNext_45 ki_1 ?_
    refine x_iadd X dX7_setNext_46 ?_
    have g47 := h.1
    have h := h.2
    refine x_iald X dX7_setNext_47 dsX_12 g47 ?_
    have g48 := h.1
    have h := h.2
    refine x_iast X dX7_setNext_48 dsX_31 g48 ?_
    refine x_iinc X (k := 3) (lv' := [(3, .int (v3 + 1)), (0, .ref (ad 27)), (1, .int v1), (2, .int v2)]) dX7_setNext_49 rfl ki_1 (by decide) rfl ?_
    refine x_goto X (tgt := 27) dX7_setNext_52 (by decide) ?_
    refine x_sub X [1, 2, 3, 0] (lv' := [(0, .ref (ad 27)), (1, .int v1), (2, .int v2), (3, .int (v3 + 1))]) rfl ?_
    exact hK27 _ _ _ _ _ h
set_option maxRecDepth 100000 in
set_option maxHeartbeats 4000000 in
theorem bX7_setNext_2 {V : x_J} {ad : Nat → Nat} {Q : x_S → x_L → Prop} (X : x_Is V cX7_setNext 4 RX7 (Option.none : Option Jvm.ClassFile.FieldType) ad dsX 0 (x_PV Q)) {K2 : Int32 → x_S → x_L → Prop} (hK2 : ∀ v1 σ τ, K2 v1 σ τ → V σ τ 2 [(0, .ref (ad 27)), (1, .int v1)] []) {v1 : Int32} {σ : x_S} {τ : x_L} (h : wX7_setNext_2 Q K2 v1 σ τ) : V σ τ 2 [(0, .ref (ad 27)), (1, .int v1)] [] := by
  refine x_iload_n X dX7_setNext_2 rfl 1 rfl ?_
  refine x_aload_n X dX7_setNext_3 rfl 0 rfl ?_
  refine x_getR X (j := 3) dX7_setNext_4 fl_7_28 dsX_27 rfl ?_
  refine x_getI X dX7_setNext_7 fl_7_32 dsX_3 rfl ?_
  refine x_icmp_ge X 68 dX7_setNext_10 (by decide) (fun hc => ?_) (fun hc => ?_)
  · have h := h.1 hc
    exact x_vret X dX7_setNext_68 ⟨rfl, h⟩
  · have h := h.2 hc
    refine x_aload_n X dX7_setNext_13 rfl 0 rfl ?_
    refine x_getR X (j := 30) dX7_setNext_14 fl_7_18 dsX_27 rfl ?_
    refine x_iload_n X dX7_setNext_17 rfl 1 rfl ?_
    have g18 := h.1
    have h := h.2
    refine x_iald X dX7_setNext_18 dsX_30 g18 ?_
    refine x_iconst X dX7_setNext_19 ki_1 ?_
    refine x_isub X dX7_setNext_20 ?_
    refine x_istore_n X (lv' := [(2, .int ((σ 30 v1.toNatClampNeg) - 1)), (0, .ref (ad 27)), (1, .int v1)]) dX7_setNext_21 rfl (by decide) rfl ?_
    refine x_iload_n X dX7_setNext_22 rfl 2 rfl ?_
    refine x_bipush X dX7_setNext_23 kb_10 ?_
    refine x_imul X dX7_setNext_25 ?_
    refine x_istore_n X (lv' := [(3, .int (v1 * 10)), (2, .int ((σ 30 v1.toNatClampNeg) - 1)), (0, .ref (ad 27)), (1, .int v1)]) dX7_setNext_26 rfl (by decide) rfl ?_
    refine x_sub X [2, 3, 1, 0] (lv' := [(0, .ref (ad 27)), (1, .int v1), (2, .int ((σ 30 v1.toNatClampNeg) - 1)), (3, .int (v1 * 10))]) rfl ?_
    exact x_l3_G (fun v1 v2 v3 σ τ => V σ τ 27 [(0, .ref (ad 27)), (1, .int v1), (2, .int v2), (3, .int v3)] []) (fun K27 hK27 v1 v2 v3 σ τ h => bX7_setNext_27 X hK2 hK27 h) h
set_option maxRecDepth 100000 in
set_option maxHeartbeats 4000000 in
theorem kX7_setNext {ad : Nat → Nat} {σ : x_S} {τ : x_L} {Q : x_S → x_L → Prop} (h : wX7_setNext σ τ Q) : x_Met yX7_setNext cX7_setNext 4 (Option.none : Option Jvm.ClassFile.FieldType) 0 ad dsX [.ref (ad 27)] σ τ (x_PV Q) := by
  refine x_met (by decide +kernel) (Nat.le_of_ble_eq_true rfl) (fun V X => ?_)
  have X : x_Is V cX7_setNext 4 RX7 (Option.none : Option Jvm.ClassFile.FieldType) ad dsX 0 (x_PV Q) := X
  show V σ τ 0 [(0, .ref (ad 27))] []
  refine x_iconst X dX7_setNext_0 ki_0 ?_
  refine x_istore_n X (lv' := [(1, .int 0), (0, .ref (ad 27))]) dX7_setNext_1 rfl (by decide) rfl ?_
  refine x_sub X [1, 0] (lv' := [(0, .ref (ad 27)), (1, .int 0)]) rfl ?_
  exact x_l1_G (fun v1 σ τ => V σ τ 2 [(0, .ref (ad 27)), (1, .int v1)] []) (fun K2 hK2 v1 σ τ h => bX7_setNext_2 X hK2 h) h
theorem dX7_setShared_0 : decode cX7_setShared 0 = .ok (.aload_n 0, 1) := by decide +kernel
theorem dX7_setShared_1 : decode cX7_setShared 1 = .ok (.getfield 18, 3) := by decide +kernel
theorem dX7_setShared_4 : decode cX7_setShared 4 = .ok (.iload_n 1, 1) := by decide +kernel
theorem dX7_setShared_5 : decode cX7_setShared 5 = .ok (.iaload, 1) := by decide +kernel
theorem dX7_setShared_6 : decode cX7_setShared 6 = .ok (.iconst 1, 1) := by decide +kernel
theorem dX7_setShared_7 : decode cX7_setShared 7 = .ok (.isub, 1) := by decide +kernel
theorem dX7_setShared_8 : decode cX7_setShared 8 = .ok (.istore_n 3, 1) := by decide +kernel
theorem dX7_setShared_9 : decode cX7_setShared 9 = .ok (.iload_n 3, 1) := by decide +kernel
theorem dX7_setShared_10 : decode cX7_setShared 10 = .ok (.iload_n 1, 1) := by decide +kernel
theorem dX7_setShared_11 : decode cX7_setShared 11 = .ok (.bipush 10, 2) := by decide +kernel
theorem dX7_setShared_13 : decode cX7_setShared 13 = .ok (.imul, 1) := by decide +kernel
theorem dX7_setShared_14 : decode cX7_setShared 14 = .ok (.if_icmp .lt 145, 3) := by decide +kernel
theorem dX7_setShared_17 : decode cX7_setShared 17 = .ok (.aload_n 0, 1) := by decide +kernel
theorem dX7_setShared_18 : decode cX7_setShared 18 = .ok (.getfield 24, 3) := by decide +kernel
theorem dX7_setShared_21 : decode cX7_setShared 21 = .ok (.iload_n 3, 1) := by decide +kernel
theorem dX7_setShared_22 : decode cX7_setShared 22 = .ok (.bipush 12, 2) := by decide +kernel
theorem dX7_setShared_24 : decode cX7_setShared 24 = .ok (.imul, 1) := by decide +kernel
theorem dX7_setShared_25 : decode cX7_setShared 25 = .ok (.iload_n 2, 1) := by decide +kernel
theorem dX7_setShared_26 : decode cX7_setShared 26 = .ok (.iadd, 1) := by decide +kernel
theorem dX7_setShared_27 : decode cX7_setShared 27 = .ok (.lconst 0, 1) := by decide +kernel
theorem dX7_setShared_28 : decode cX7_setShared 28 = .ok (.lastore, 1) := by decide +kernel
theorem dX7_setShared_29 : decode cX7_setShared 29 = .ok (.aload_n 0, 1) := by decide +kernel
theorem dX7_setShared_30 : decode cX7_setShared 30 = .ok (.getfield 18, 3) := by decide +kernel
theorem dX7_setShared_33 : decode cX7_setShared 33 = .ok (.iload_n 2, 1) := by decide +kernel
theorem dX7_setShared_34 : decode cX7_setShared 34 = .ok (.iaload, 1) := by decide +kernel
theorem dX7_setShared_35 : decode cX7_setShared 35 = .ok (.iconst 1, 1) := by decide +kernel
theorem dX7_setShared_36 : decode cX7_setShared 36 = .ok (.isub, 1) := by decide +kernel
theorem dX7_setShared_37 : decode cX7_setShared 37 = .ok (.istore 4, 2) := by decide +kernel
theorem dX7_setShared_39 : decode cX7_setShared 39 = .ok (.iload 4, 2) := by decide +kernel
theorem dX7_setShared_41 : decode cX7_setShared 41 = .ok (.iload_n 2, 1) := by decide +kernel
theorem dX7_setShared_42 : decode cX7_setShared 42 = .ok (.bipush 10, 2) := by decide +kernel
theorem dX7_setShared_44 : decode cX7_setShared 44 = .ok (.imul, 1) := by decide +kernel
theorem dX7_setShared_45 : decode cX7_setShared 45 = .ok (.if_icmp .lt 108, 3) := by decide +kernel
theorem dX7_setShared_48 : decode cX7_setShared 48 = .ok (.aload_n 0, 1) := by decide +kernel
theorem dX7_setShared_49 : decode cX7_setShared 49 = .ok (.getfield 28, 3) := by decide +kernel
theorem dX7_setShared_52 : decode cX7_setShared 52 = .ok (.getfield 58, 3) := by decide +kernel
theorem dX7_setShared_55 : decode cX7_setShared 55 = .ok (.iload_n 3, 1) := by decide +kernel
theorem dX7_setShared_56 : decode cX7_setShared 56 = .ok (.iaload, 1) := by decide +kernel
theorem dX7_setShared_57 : decode cX7_setShared 57 = .ok (.aload_n 0, 1) := by decide +kernel
theorem dX7_setShared_58 : decode cX7_setShared 58 = .ok (.getfield 28, 3) := by decide +kernel
theorem dX7_setShared_61 : decode cX7_setShared 61 = .ok (.getfield 58, 3) := by decide +kernel
theorem dX7_setShared_64 : decode cX7_setShared 64 = .ok (.iload 4, 2) := by decide +kernel
theorem dX7_setShared_66 : decode cX7_setShared 66 = .ok (.iaload, 1) := by decide +kernel
theorem dX7_setShared_67 : decode cX7_setShared 67 = .ok (.if_icmp .ne 80, 3) := by decide +kernel
theorem dX7_setShared_70 : decode cX7_setShared 70 = .ok (.aload_n 0, 1) := by decide +kernel
theorem dX7_setShared_71 : decode cX7_setShared 71 = .ok (.getfield 21, 3) := by decide +kernel
theorem dX7_setShared_74 : decode cX7_setShared 74 = .ok (.iload_n 3, 1) := by decide +kernel
theorem dX7_setShared_75 : decode cX7_setShared 75 = .ok (.iaload, 1) := by decide +kernel
theorem dX7_setShared_76 : decode cX7_setShared 76 = .ok (.iconst (-1), 1) := by decide +kernel
theorem dX7_setShared_77 : decode cX7_setShared 77 = .ok (.if_icmp .eq 18, 3) := by decide +kernel
theorem dX7_setShared_80 : decode cX7_setShared 80 = .ok (.aload_n 0, 1) := by decide +kernel
theorem dX7_setShared_81 : decode cX7_setShared 81 = .ok (.getfield 21, 3) := by decide +kernel
theorem dX7_setShared_84 : decode cX7_setShared 84 = .ok (.iload 4, 2) := by decide +kernel
theorem dX7_setShared_86 : decode cX7_setShared 86 = .ok (.iaload, 1) := by decide +kernel
theorem dX7_setShared_87 : decode cX7_setShared 87 = .ok (.iconst (-1), 1) := by decide +kernel
theorem dX7_setShared_88 : decode cX7_setShared 88 = .ok (.if_icmp .eq 7, 3) := by decide +kernel
theorem dX7_setShared_91 : decode cX7_setShared 91 = .ok (.iconst 1, 1) := by decide +kernel
theorem dX7_setShared_92 : decode cX7_setShared 92 = .ok (.goto 4, 3) := by decide +kernel
theorem dX7_setShared_95 : decode cX7_setShared 95 = .ok (.iconst 0, 1) := by decide +kernel
theorem dX7_setShared_96 : decode cX7_setShared 96 = .ok (.istore 5, 2) := by decide +kernel
theorem dX7_setShared_98 : decode cX7_setShared 98 = .ok (.iload 5, 2) := by decide +kernel
theorem dX7_setShared_100 : decode cX7_setShared 100 = .ok (.ifCond .eq 20, 3) := by decide +kernel
theorem dX7_setShared_103 : decode cX7_setShared 103 = .ok (.lconst 1, 1) := by decide +kernel
theorem dX7_setShared_104 : decode cX7_setShared 104 = .ok (.aload_n 0, 1) := by decide +kernel
theorem dX7_setShared_105 : decode cX7_setShared 105 = .ok (.iload_n 3, 1) := by decide +kernel
theorem dX7_setShared_106 : decode cX7_setShared 106 = .ok (.iconst 1, 1) := by decide +kernel
theorem dX7_setShared_107 : decode cX7_setShared 107 = .ok (.iadd, 1) := by decide +kernel
theorem dX7_setShared_108 : decode cX7_setShared 108 = .ok (.iload 4, 2) := by decide +kernel
theorem dX7_setShared_110 : decode cX7_setShared 110 = .ok (.iconst 1, 1) := by decide +kernel
theorem dX7_setShared_111 : decode cX7_setShared 111 = .ok (.iadd, 1) := by decide +kernel
theorem dX7_setShared_112 : decode cX7_setShared 112 = .ok (.invokevirtual 61, 3) := by decide +kernel
theorem dX7_setShared_115 : decode cX7_setShared 115 = .ok (.i2l, 1) := by decide +kernel
theorem dX7_setShared_116 : decode cX7_setShared 116 = .ok (.ladd, 1) := by decide +kernel
theorem dX7_setShared_117 : decode cX7_setShared 117 = .ok (.goto 4, 3) := by decide +kernel
theorem dX7_setShared_120 : decode cX7_setShared 120 = .ok (.lconst 1, 1) := by decide +kernel
theorem dX7_setShared_121 : decode cX7_setShared 121 = .ok (.lstore 6, 2) := by decide +kernel
theorem dX7_setShared_123 : decode cX7_setShared 123 = .ok (.aload_n 0, 1) := by decide +kernel
theorem dX7_setShared_124 : decode cX7_setShared 124 = .ok (.getfield 24, 3) := by decide +kernel
theorem dX7_setShared_127 : decode cX7_setShared 127 = .ok (.iload_n 3, 1) := by decide +kernel
theorem dX7_setShared_128 : decode cX7_setShared 128 = .ok (.bipush 12, 2) := by decide +kernel
theorem dX7_setShared_130 : decode cX7_setShared 130 = .ok (.imul, 1) := by decide +kernel
theorem dX7_setShared_131 : decode cX7_setShared 131 = .ok (.iload_n 2, 1) := by decide +kernel
theorem dX7_setShared_132 : decode cX7_setShared 132 = .ok (.iadd, 1) := by decide +kernel
theorem dX7_setShared_133 : decode cX7_setShared 133 = .ok (.dup2, 1) := by decide +kernel
theorem dX7_setShared_134 : decode cX7_setShared 134 = .ok (.laload, 1) := by decide +kernel
theorem dX7_setShared_135 : decode cX7_setShared 135 = .ok (.lload 6, 2) := by decide +kernel
theorem dX7_setShared_137 : decode cX7_setShared 137 = .ok (.iconst 4, 1) := by decide +kernel
theorem dX7_setShared_138 : decode cX7_setShared 138 = .ok (.iload 4, 2) := by decide +kernel
theorem dX7_setShared_140 : decode cX7_setShared 140 = .ok (.bipush 10, 2) := by decide +kernel
theorem dX7_setShared_142 : decode cX7_setShared 142 = .ok (.irem, 1) := by decide +kernel
theorem dX7_setShared_143 : decode cX7_setShared 143 = .ok (.imul, 1) := by decide +kernel
theorem dX7_setShared_144 : decode cX7_setShared 144 = .ok (.lshl, 1) := by decide +kernel
theorem dX7_setShared_145 : decode cX7_setShared 145 = .ok (.lor, 1) := by decide +kernel
theorem dX7_setShared_146 : decode cX7_setShared 146 = .ok (.lastore, 1) := by decide +kernel
theorem dX7_setShared_147 : decode cX7_setShared 147 = .ok (.iinc 4 (-1), 3) := by decide +kernel
theorem dX7_setShared_150 : decode cX7_setShared 150 = .ok (.goto (-111), 3) := by decide +kernel
theorem dX7_setShared_153 : decode cX7_setShared 153 = .ok (.iinc 3 (-1), 3) := by decide +kernel
theorem dX7_setShared_156 : decode cX7_setShared 156 = .ok (.goto (-147), 3) := by decide +kernel
theorem dX7_setShared_159 : decode cX7_setShared 159 = .ok (.return_, 1) := by decide +kernel
theorem cm_X7_setShared : x_CM yX7_setShared cX7_setShared 8 (Option.none : Option Jvm.ClassFile.FieldType) 2 := ⟨w_3_85, w_1_6, by decide +kernel, by decide +kernel⟩
theorem ci_X7_setShared : x_CI yX7_setShared 9 := ⟨w_3_84, wp_7, (RX7, TX7, 6), rfl, rfl⟩
set_option maxRecDepth 100000 in
set_option maxHeartbeats 4000000 in
theorem bX7_setShared_147 {V : x_J} {ad : Nat → Nat} {Q : x_S → x_L → Prop} (X : x_Is V cX7_setShared 8 RX7 (Option.none : Option Jvm.ClassFile.FieldType) ad dsX 1 (x_PV Q)) {K9 : Int32 → Int32 → Int32 → x_S → x_L → Prop} {K39 : Int32 → Int32 → Int32 → Int32 → x_S → x_L → Prop} (hK9 : ∀ v1 v2 v3 σ τ, K9 v1 v2 v3 σ τ → V σ τ 9 [(0, .ref (ad 27)), (1, .int v1), (2, .int v2), (3, .int v3)] []) (hK39 : ∀ v1 v2 v3 v4 σ τ, K39 v1 v2 v3 v4 σ τ → V σ τ 39 [(0, .ref (ad 27)), (1, .int v1), (2, .int v2), (3, .int v3), (4, .int v4)] []) {v1 : Int32} {v2 : Int32} {v3 : Int32} {v4 : Int32} {σ : x_S} {τ : x_L} (h : wX7_setShared_147 K9 K39 Q v1 v2 v3 v4 σ τ) : V σ τ 147 [(0, .ref (ad 27)), (1, .int v1), (2, .int v2), (3, .int v3), (4, .int v4)] [] := by
  refine x_iinc X (k := 4) (lv' := [(4, .int (v4 + (-1))), (0, .ref (ad 27)), (1, .int v1), (2, .int v2), (3, .int v3)]) dX7_setShared_147 rfl ki_m1 (by decide) rfl ?_
  refine x_goto X (tgt := 39) dX7_setShared_150 (by decide) ?_
  refine x_sub X [1, 2, 3, 4, 0] (lv' := [(0, .ref (ad 27)), (1, .int v1), (2, .int v2), (3, .int v3), (4, .int (v4 + (-1)))]) rfl ?_
  exact hK39 _ _ _ _ _ _ h
set_option maxRecDepth 100000 in
set_option maxHeartbeats 4000000 in
theorem bX7_setShared_121 {V : x_J} {ad : Nat → Nat} {Q : x_S → x_L → Prop} (X : x_Is V cX7_setShared 8 RX7 (Option.none : Option Jvm.ClassFile.FieldType) ad dsX 1 (x_PV Q)) {K9 : Int32 → Int32 → Int32 → x_S → x_L → Prop} {K39 : Int32 → Int32 → Int32 → Int32 → x_S → x_L → Prop} (hK9 : ∀ v1 v2 v3 σ τ, K9 v1 v2 v3 σ τ → V σ τ 9 [(0, .ref (ad 27)), (1, .int v1), (2, .int v2), (3, .int v3)] []) (hK39 : ∀ v1 v2 v3 v4 σ τ, K39 v1 v2 v3 v4 σ τ → V σ τ 39 [(0, .ref (ad 27)), (1, .int v1), (2, .int v2), (3, .int v3), (4, .int v4)] []) {v1 : Int32} {v2 : Int32} {v3 : Int32} {v4 : Int32} {s0 : Int64} {σ : x_S} {τ : x_L} (h : wX7_setShared_121 K9 K39 Q v1 v2 v3 v4 s0 σ τ) : V σ τ 121 [(0, .ref (ad 27)), (1, .int v1), (2, .int v2), (3, .int v3), (4, .int v4)] [.long s0] := by
  refine x_lstore X (lv' := [(6, .long s0), (0, .ref (ad 27)), (1, .int v1), (2, .int v2), (3, .int v3), (4, .int v4)]) dX7_setShared_121 (by decide) rfl ?_
  refine x_aload_n X dX7_setShared_123 rfl 1 rfl ?_
  refine x_getR X (j := 32) dX7_setShared_124 fl_7_24 dsX_27 rfl ?_
  refine x_iload_n X dX7_setShared_127 rfl 4 rfl ?_
  refine x_bipush X dX7_setShared_128 kb_12 ?_
  refine x_imul X dX7_setShared_130 ?_
  refine x_iload_n X dX7_setShared_131 rfl 3 rfl ?_
  refine x_iadd X dX7_setShared_132 ?_
  refine x_dup2 X dX7_setShared_133 rfl rfl ?_
  have g134 := h.1
  have h := h.2
  refine x_lald X dX7_setShared_134 dsX_32 g134 ?_
  refine x_lload X dX7_setShared_135 0 rfl ?_
  refine x_iconst X dX7_setShared_137 ki_4 ?_
  refine x_iload X dX7_setShared_138 5 rfl ?_
  refine x_bipush X dX7_setShared_140 kb_10 ?_
  refine x_irem X dX7_setShared_142 (by decide) ?_
  refine x_imul X dX7_setShared_143 ?_
  refine x_lshl X dX7_setShared_144 ?_
  refine x_lor X dX7_setShared_145 ?_
  refine x_last X dX7_setShared_146 dsX_32 g134 ?_
  refine x_sub X [1, 2, 3, 4, 5] (lv' := [(0, .ref (ad 27)), (1, .int v1), (2, .int v2), (3, .int v3), (4, .int v4)]) rfl ?_
  exact bX7_setShared_147 X hK9 hK39 h
set_option maxRecDepth 100000 in
set_option maxHeartbeats 4000000 in
theorem bX7_setShared_96 {V : x_J} {ad : Nat → Nat} {Q : x_S → x_L → Prop} (X : x_Is V cX7_setShared 8 RX7 (Option.none : Option Jvm.ClassFile.FieldType) ad dsX 1 (x_PV Q)) {K9 : Int32 → Int32 → Int32 → x_S → x_L → Prop} {K39 : Int32 → Int32 → Int32 → Int32 → x_S → x_L → Prop} (hK9 : ∀ v1 v2 v3 σ τ, K9 v1 v2 v3 σ τ → V σ τ 9 [(0, .ref (ad 27)), (1, .int v1), (2, .int v2), (3, .int v3)] []) (hK39 : ∀ v1 v2 v3 v4 σ τ, K39 v1 v2 v3 v4 σ τ → V σ τ 39 [(0, .ref (ad 27)), (1, .int v1), (2, .int v2), (3, .int v3), (4, .int v4)] []) {v1 : Int32} {v2 : Int32} {v3 : Int32} {v4 : Int32} {s0 : Int32} {σ : x_S} {τ : x_L} (h : wX7_setShared_96 K9 K39 Q v1 v2 v3 v4 s0 σ τ) : V σ τ 96 [(0, .ref (ad 27)), (1, .int v1), (2, .int v2), (3, .int v3), (4, .int v4)] [.int s0] := by
  refine x_istore X (lv' := [(5, .int s0), (0, .ref (ad 27)), (1, .int v1), (2, .int v2), (3, .int v3), (4, .int v4)]) dX7_setShared_96 (by decide) rfl ?_
  refine x_iload X dX7_setShared_98 0 rfl ?_
  refine x_if_eq X 120 dX7_setShared_100 (by decide) (fun hc => ?_) (fun hc => ?_)
  · have h := h.1 hc
    refine x_lconst X (v := 1) dX7_setShared_120 (by decide) ?_
    refine x_sub X [1, 2, 3, 4, 5] (lv' := [(0, .ref (ad 27)), (1, .int v1), (2, .int v2), (3, .int v3), (4, .int v4)]) rfl ?_
    exact bX7_setShared_121 X hK9 hK39 h
  · have h := h.2 hc
    refine x_lconst X (v := 1) dX7_setShared_103 (by decide) ?_
    refine x_aload_n X dX7_setShared_104 rfl 1 rfl ?_
    refine x_iload_n X dX7_setShared_105 rfl 4 rfl ?_
    refine x_iconst X dX7_setShared_106 ki_1 ?_
    refine x_iadd X dX7_setShared_107 ?_
    refine x_iload X dX7_setShared_108 5 rfl ?_
    refine x_iconst X dX7_setShared_110 ki_1 ?_
    refine x_iadd X dX7_setShared_111 ?_
    refine x_callVi X [.int (v3 + 1), .int (v4 + 1)] [.long 1] dX7_setShared_112 (kX7_sharedPlaces h) cm_X7_sharedPlaces ci_X7_sharedPlaces w_3_86 dsX_27 ⟨by decide, by decide⟩ rfl (Nat.le_of_ble_eq_true rfl) (fun r112 σ112 τ112 h => ?_)
    refine x_i2l X dX7_setShared_115 ?_
    refine x_ladd X dX7_setShared_116 ?_
    refine x_goto X (tgt := 121) dX7_setShared_117 (by decide) ?_
    refine x_sub X [1, 2, 3, 4, 5] (lv' := [(0, .ref (ad 27)), (1, .int v1), (2, .int v2), (3, .int v3), (4, .int v4)]) rfl ?_
    exact bX7_setShared_121 X hK9 hK39 h
set_option maxRecDepth 100000 in
set_option maxHeartbeats 4000000 in
theorem bX7_setShared_95 {V : x_J} {ad : Nat → Nat} {Q : x_S → x_L → Prop} (X : x_Is V cX7_setShared 8 RX7 (Option.none : Option Jvm.ClassFile.FieldType) ad dsX 1 (x_PV Q)) {K9 : Int32 → Int32 → Int32 → x_S → x_L → Prop} {K39 : Int32 → Int32 → Int32 → Int32 → x_S → x_L → Prop} (hK9 : ∀ v1 v2 v3 σ τ, K9 v1 v2 v3 σ τ → V σ τ 9 [(0, .ref (ad 27)), (1, .int v1), (2, .int v2), (3, .int v3)] []) (hK39 : ∀ v1 v2 v3 v4 σ τ, K39 v1 v2 v3 v4 σ τ → V σ τ 39 [(0, .ref (ad 27)), (1, .int v1), (2, .int v2), (3, .int v3), (4, .int v4)] []) {v1 : Int32} {v2 : Int32} {v3 : Int32} {v4 : Int32} {σ : x_S} {τ : x_L} (h : wX7_setShared_95 K9 K39 Q v1 v2 v3 v4 σ τ) : V σ τ 95 [(0, .ref (ad 27)), (1, .int v1), (2, .int v2), (3, .int v3), (4, .int v4)] [] := by
  refine x_iconst X dX7_setShared_95 ki_0 ?_
  exact bX7_setShared_96 X hK9 hK39 h
set_option maxRecDepth 100000 in
set_option maxHeartbeats 4000000 in
theorem bX7_setShared_39 {V : x_J} {ad : Nat → Nat} {Q : x_S → x_L → Prop} (X : x_Is V cX7_setShared 8 RX7 (Option.none : Option Jvm.ClassFile.FieldType) ad dsX 1 (x_PV Q)) {K9 : Int32 → Int32 → Int32 → x_S → x_L → Prop} {K39 : Int32 → Int32 → Int32 → Int32 → x_S → x_L → Prop} (hK9 : ∀ v1 v2 v3 σ τ, K9 v1 v2 v3 σ τ → V σ τ 9 [(0, .ref (ad 27)), (1, .int v1), (2, .int v2), (3, .int v3)] []) (hK39 : ∀ v1 v2 v3 v4 σ τ, K39 v1 v2 v3 v4 σ τ → V σ τ 39 [(0, .ref (ad 27)), (1, .int v1), (2, .int v2), (3, .int v3), (4, .int v4)] []) {v1 : Int32} {v2 : Int32} {v3 : Int32} {v4 : Int32} {σ : x_S} {τ : x_L} (h : wX7_setShared_39 K9 Q K39 v1 v2 v3 v4 σ τ) : V σ τ 39 [(0, .ref (ad 27)), (1, .int v1), (2, .int v2), (3, .int v3), (4, .int v4)] [] := by
  refine x_iload X dX7_setShared_39 4 rfl ?_
  refine x_iload_n X dX7_setShared_41 rfl 2 rfl ?_
  refine x_bipush X dX7_setShared_42 kb_10 ?_
  refine x_imul X dX7_setShared_44 ?_
  refine x_icmp_lt X 153 dX7_setShared_45 (by decide) (fun hc => ?_) (fun hc => ?_)
  · have h := h.1 hc
    refine x_iinc X (k := 3) (lv' := [(3, .int (v3 + (-1))), (0, .ref (ad 27)), (1, .int v1), (2, .int v2), (4, .int v4)]) dX7_setShared_153 rfl ki_m1 (by decide) rfl ?_
    refine x_goto X (tgt := 9) dX7_setShared_156 (by decide) ?_
    refine x_sub X [1, 2, 3, 0] (lv' := [(0, .ref (ad 27)), (1, .int v1), (2, .int v2), (3, .int (v3 + (-1)))]) rfl ?_
    exact hK9 _ _ _ _ _ h
  · have h := h.2 hc
    refine x_aload_n X dX7_setShared_48 rfl 0 rfl ?_
    refine x_getR X (j := 3) dX7_setShared_49 fl_7_28 dsX_27 rfl ?_
    refine x_getR X (j := 12) dX7_setShared_52 fl_7_58 dsX_3 rfl ?_
    refine x_iload_n X dX7_setShared_55 rfl 3 rfl ?_
    have g56 := h.1
    have h := h.2
    refine x_iald X dX7_setShared_56 dsX_12 g56 ?_
    refine x_aload_n X dX7_setShared_57 rfl 0 rfl ?_
    refine x_getR X (j := 3) dX7_setShared_58 fl_7_28 dsX_27 rfl ?_
    refine x_getR X (j := 12) dX7_setShared_61 fl_7_58 dsX_3 rfl ?_
    refine x_iload X dX7_setShared_64 4 rfl ?_
    have g66 := h.1
    have h := h.2
    refine x_iald X dX7_setShared_66 dsX_12 g66 ?_
    refine x_icmp_ne X 147 dX7_setShared_67 (by decide) (fun hc => ?_) (fun hc => ?_)
    · have h := h.1 hc
      exact bX7_setShared_147 X hK9 hK39 h
    · have h := h.2 hc
      refine x_aload_n X dX7_setShared_70 rfl 0 rfl ?_
      refine x_getR X (j := 31) dX7_setShared_71 fl_7_21 dsX_27 rfl ?_
      refine x_iload_n X dX7_setShared_74 rfl 3 rfl ?_
      refine x_iald X dX7_setShared_75 dsX_31 g56 ?_
      refine x_iconst X dX7_setShared_76 ki_m1 ?_
      refine x_icmp_eq X 95 dX7_setShared_77 (by decide) (fun hc => ?_) (fun hc => ?_)
      · have h := h.1 hc
        exact bX7_setShared_95 X hK9 hK39 h
      · have h := h.2 hc
        refine x_aload_n X dX7_setShared_80 rfl 0 rfl ?_
        refine x_getR X (j := 31) dX7_setShared_81 fl_7_21 dsX_27 rfl ?_
        refine x_iload X dX7_setShared_84 4 rfl ?_
        refine x_iald X dX7_setShared_86 dsX_31 g66 ?_
        refine x_iconst X dX7_setShared_87 ki_m1 ?_
        refine x_icmp_eq X 95 dX7_setShared_88 (by decide) (fun hc => ?_) (fun hc => ?_)
        · have h := h.1 hc
          exact bX7_setShared_95 X hK9 hK39 h
        · have h := h.2 hc
          refine x_iconst X dX7_setShared_91 ki_1 ?_
          refine x_goto X (tgt := 96) dX7_setShared_92 (by decide) ?_
          exact bX7_setShared_96 X hK9 hK39 h
set_option maxRecDepth 100000 in
set_option maxHeartbeats 4000000 in
theorem bX7_setShared_9 {V : x_J} {ad : Nat → Nat} {Q : x_S → x_L → Prop} (X : x_Is V cX7_setShared 8 RX7 (Option.none : Option Jvm.ClassFile.FieldType) ad dsX 1 (x_PV Q)) {K9 : Int32 → Int32 → Int32 → x_S → x_L → Prop} (hK9 : ∀ v1 v2 v3 σ τ, K9 v1 v2 v3 σ τ → V σ τ 9 [(0, .ref (ad 27)), (1, .int v1), (2, .int v2), (3, .int v3)] []) {v1 : Int32} {v2 : Int32} {v3 : Int32} {σ : x_S} {τ : x_L} (h : wX7_setShared_9 Q K9 v1 v2 v3 σ τ) : V σ τ 9 [(0, .ref (ad 27)), (1, .int v1), (2, .int v2), (3, .int v3)] [] := by
  refine x_iload_n X dX7_setShared_9 rfl 3 rfl ?_
  refine x_iload_n X dX7_setShared_10 rfl 1 rfl ?_
  refine x_bipush X dX7_setShared_11 kb_10 ?_
  refine x_imul X dX7_setShared_13 ?_
  refine x_icmp_lt X 159 dX7_setShared_14 (by decide) (fun hc => ?_) (fun hc => ?_)
  · have h := h.1 hc
    exact x_vret X dX7_setShared_159 ⟨rfl, h⟩
  · have h := h.2 hc
    refine x_aload_n X dX7_setShared_17 rfl 0 rfl ?_
    refine x_getR X (j := 32) dX7_setShared_18 fl_7_24 dsX_27 rfl ?_
    refine x_iload_n X dX7_setShared_21 rfl 3 rfl ?_
    refine x_bipush X dX7_setShared_22 kb_12 ?_
    refine x_imul X dX7_setShared_24 ?_
    refine x_iload_n X dX7_setShared_25 rfl 2 rfl ?_
    refine x_iadd X dX7_setShared_26 ?_
    refine x_lconst X (v := 0) dX7_setShared_27 (by decide) ?_
    have g28 := h.1
    have h := h.2
    refine x_last X dX7_setShared_28 dsX_32 g28 ?_
    refine x_aload_n X dX7_setShared_29 rfl 0 rfl ?_
    refine x_getR X (j := 30) dX7_setShared_30 fl_7_18 dsX_27 rfl ?_
    refine x_iload_n X dX7_setShared_33 rfl 2 rfl ?_
    have g34 := h.1
    have h := h.2
    refine x_iald X dX7_setShared_34 dsX_30 g34 ?_
    refine x_iconst X dX7_setShared_35 ki_1 ?_
    refine x_isub X dX7_setShared_36 ?_
    refine x_istore X (lv' := [(4, .int ((σ 30 v2.toNatClampNeg) - 1)), (0, .ref (ad 27)), (1, .int v1), (2, .int v2), (3, .int v3)]) dX7_setShared_37 (by decide) rfl ?_
    refine x_sub X [1, 2, 3, 4, 0] (lv' := [(0, .ref (ad 27)), (1, .int v1), (2, .int v2), (3, .int v3), (4, .int ((σ 30 v2.toNatClampNeg) - 1))]) rfl ?_
    exact x_l4_G (fun v1 v2 v3 v4 σ τ => V σ τ 39 [(0, .ref (ad 27)), (1, .int v1), (2, .int v2), (3, .int v3), (4, .int v4)] []) (fun K39 hK39 v1 v2 v3 v4 σ τ h => bX7_setShared_39 X hK9 hK39 h) h
set_option maxRecDepth 100000 in
set_option maxHeartbeats 4000000 in
theorem kX7_setShared {ad : Nat → Nat} {a1 : Int32} {a2 : Int32} {σ : x_S} {τ : x_L} {Q : x_S → x_L → Prop} (h : wX7_setShared a1 a2 σ τ Q) : x_Met yX7_setShared cX7_setShared 8 (Option.none : Option Jvm.ClassFile.FieldType) 1 ad dsX [.ref (ad 27), .int a1, .int a2] σ τ (x_PV Q) := by
  refine x_met (by decide +kernel) (Nat.le_of_ble_eq_true rfl) (fun V X => ?_)
  have X : x_Is V cX7_setShared 8 RX7 (Option.none : Option Jvm.ClassFile.FieldType) ad dsX 1 (x_PV Q) := X
  show V σ τ 0 [(0, .ref (ad 27)), (1, .int a1), (2, .int a2)] []
  refine x_aload_n X dX7_setShared_0 rfl 0 rfl ?_
  refine x_getR X (j := 30) dX7_setShared_1 fl_7_18 dsX_27 rfl ?_
  refine x_iload_n X dX7_setShared_4 rfl 1 rfl ?_
  have g5 := h.1
  have h := h.2
  refine x_iald X dX7_setShared_5 dsX_30 g5 ?_
  refine x_iconst X dX7_setShared_6 ki_1 ?_
  refine x_isub X dX7_setShared_7 ?_
  refine x_istore_n X (lv' := [(3, .int ((σ 30 a1.toNatClampNeg) - 1)), (0, .ref (ad 27)), (1, .int a1), (2, .int a2)]) dX7_setShared_8 rfl (by decide) rfl ?_
  refine x_sub X [1, 2, 3, 0] (lv' := [(0, .ref (ad 27)), (1, .int a1), (2, .int a2), (3, .int ((σ 30 a1.toNatClampNeg) - 1))]) rfl ?_
  exact x_l3_G (fun v1 v2 v3 σ τ => V σ τ 9 [(0, .ref (ad 27)), (1, .int v1), (2, .int v2), (3, .int v3)] []) (fun K9 hK9 v1 v2 v3 σ τ h => bX7_setShared_9 X hK9 h) h
theorem dX7_prepare_0 : decode cX7_prepare 0 = .ok (.iconst 0, 1) := by decide +kernel
theorem dX7_prepare_1 : decode cX7_prepare 1 = .ok (.istore_n 1, 1) := by decide +kernel
theorem dX7_prepare_2 : decode cX7_prepare 2 = .ok (.iload_n 1, 1) := by decide +kernel
theorem dX7_prepare_3 : decode cX7_prepare 3 = .ok (.aload_n 0, 1) := by decide +kernel
theorem dX7_prepare_4 : decode cX7_prepare 4 = .ok (.getfield 28, 3) := by decide +kernel
theorem dX7_prepare_7 : decode cX7_prepare 7 = .ok (.getfield 32, 3) := by decide +kernel
theorem dX7_prepare_10 : decode cX7_prepare 10 = .ok (.if_icmp .ge 28, 3) := by decide +kernel
theorem dX7_prepare_13 : decode cX7_prepare 13 = .ok (.aload_n 0, 1) := by decide +kernel
theorem dX7_prepare_14 : decode cX7_prepare 14 = .ok (.getfield 18, 3) := by decide +kernel
theorem dX7_prepare_17 : decode cX7_prepare 17 = .ok (.iload_n 1, 1) := by decide +kernel
theorem dX7_prepare_18 : decode cX7_prepare 18 = .ok (.iload_n 1, 1) := by decide +kernel
theorem dX7_prepare_19 : decode cX7_prepare 19 = .ok (.aload_n 0, 1) := by decide +kernel
theorem dX7_prepare_20 : decode cX7_prepare 20 = .ok (.getfield 28, 3) := by decide +kernel
theorem dX7_prepare_23 : decode cX7_prepare 23 = .ok (.getfield 38, 3) := by decide +kernel
theorem dX7_prepare_26 : decode cX7_prepare 26 = .ok (.iload_n 1, 1) := by decide +kernel
theorem dX7_prepare_27 : decode cX7_prepare 27 = .ok (.iaload, 1) := by decide +kernel
theorem dX7_prepare_28 : decode cX7_prepare 28 = .ok (.invokestatic 41, 3) := by decide +kernel
theorem dX7_prepare_31 : decode cX7_prepare 31 = .ok (.iastore, 1) := by decide +kernel
theorem dX7_prepare_32 : decode cX7_prepare 32 = .ok (.iinc 1 1, 3) := by decide +kernel
theorem dX7_prepare_35 : decode cX7_prepare 35 = .ok (.goto (-33), 3) := by decide +kernel
theorem dX7_prepare_38 : decode cX7_prepare 38 = .ok (.aload_n 0, 1) := by decide +kernel
theorem dX7_prepare_39 : decode cX7_prepare 39 = .ok (.invokevirtual 45, 3) := by decide +kernel
theorem dX7_prepare_42 : decode cX7_prepare 42 = .ok (.aload_n 0, 1) := by decide +kernel
theorem dX7_prepare_43 : decode cX7_prepare 43 = .ok (.invokevirtual 48, 3) := by decide +kernel
theorem dX7_prepare_46 : decode cX7_prepare 46 = .ok (.iconst 0, 1) := by decide +kernel
theorem dX7_prepare_47 : decode cX7_prepare 47 = .ok (.istore_n 1, 1) := by decide +kernel
theorem dX7_prepare_48 : decode cX7_prepare 48 = .ok (.iload_n 1, 1) := by decide +kernel
theorem dX7_prepare_49 : decode cX7_prepare 49 = .ok (.aload_n 0, 1) := by decide +kernel
theorem dX7_prepare_50 : decode cX7_prepare 50 = .ok (.getfield 28, 3) := by decide +kernel
theorem dX7_prepare_53 : decode cX7_prepare 53 = .ok (.getfield 32, 3) := by decide +kernel
theorem dX7_prepare_56 : decode cX7_prepare 56 = .ok (.if_icmp .ge 34, 3) := by decide +kernel
theorem dX7_prepare_59 : decode cX7_prepare 59 = .ok (.iconst 0, 1) := by decide +kernel
theorem dX7_prepare_60 : decode cX7_prepare 60 = .ok (.istore_n 2, 1) := by decide +kernel
theorem dX7_prepare_61 : decode cX7_prepare 61 = .ok (.iload_n 2, 1) := by decide +kernel
theorem dX7_prepare_62 : decode cX7_prepare 62 = .ok (.aload_n 0, 1) := by decide +kernel
theorem dX7_prepare_63 : decode cX7_prepare 63 = .ok (.getfield 28, 3) := by decide +kernel
theorem dX7_prepare_66 : decode cX7_prepare 66 = .ok (.getfield 32, 3) := by decide +kernel
theorem dX7_prepare_69 : decode cX7_prepare 69 = .ok (.if_icmp .ge 15, 3) := by decide +kernel
theorem dX7_prepare_72 : decode cX7_prepare 72 = .ok (.aload_n 0, 1) := by decide +kernel
theorem dX7_prepare_73 : decode cX7_prepare 73 = .ok (.iload_n 1, 1) := by decide +kernel
theorem dX7_prepare_74 : decode cX7_prepare 74 = .ok (.iload_n 2, 1) := by decide +kernel
theorem dX7_prepare_75 : decode cX7_prepare 75 = .ok (.invokevirtual 51, 3) := by decide +kernel
theorem dX7_prepare_78 : decode cX7_prepare 78 = .ok (.iinc 2 1, 3) := by decide +kernel
theorem dX7_prepare_81 : decode cX7_prepare 81 = .ok (.goto (-20), 3) := by decide +kernel
theorem dX7_prepare_84 : decode cX7_prepare 84 = .ok (.iinc 1 1, 3) := by decide +kernel
theorem dX7_prepare_87 : decode cX7_prepare 87 = .ok (.goto (-39), 3) := by decide +kernel
theorem dX7_prepare_90 : decode cX7_prepare 90 = .ok (.return_, 1) := by decide +kernel
theorem cm_X7_prepare : x_CM yX7_prepare cX7_prepare 3 (Option.none : Option Jvm.ClassFile.FieldType) 0 := ⟨w_3_72, w_1_6, by decide +kernel, by decide +kernel⟩
theorem ci_X7_prepare : x_CI yX7_prepare 9 := ⟨w_3_70, w_3_71, (RX7, TX7, 6), rfl, rfl⟩
set_option maxRecDepth 100000 in
set_option maxHeartbeats 4000000 in
theorem bX7_prepare_61 {V : x_J} {ad : Nat → Nat} {Q : x_S → x_L → Prop} (X : x_Is V cX7_prepare 3 RX7 (Option.none : Option Jvm.ClassFile.FieldType) ad dsX 2 (x_PV Q)) {K48 : Int32 → x_S → x_L → Prop} {K61 : Int32 → Int32 → x_S → x_L → Prop} (hK48 : ∀ v1 σ τ, K48 v1 σ τ → V σ τ 48 [(0, .ref (ad 27)), (1, .int v1)] []) (hK61 : ∀ v1 v2 σ τ, K61 v1 v2 σ τ → V σ τ 61 [(0, .ref (ad 27)), (1, .int v1), (2, .int v2)] []) {v1 : Int32} {v2 : Int32} {σ : x_S} {τ : x_L} (h : wX7_prepare_61 K48 Q K61 v1 v2 σ τ) : V σ τ 61 [(0, .ref (ad 27)), (1, .int v1), (2, .int v2)] [] := by
  refine x_iload_n X dX7_prepare_61 rfl 2 rfl ?_
  refine x_aload_n X dX7_prepare_62 rfl 0 rfl ?_
  refine x_getR X (j := 3) dX7_prepare_63 fl_7_28 dsX_27 rfl ?_
  refine x_getI X dX7_prepare_66 fl_7_32 dsX_3 rfl ?_
  refine x_icmp_ge X 84 dX7_prepare_69 (by decide) (fun hc => ?_) (fun hc => ?_)
  · have h := h.1 hc
    refine x_iinc X (k := 1) (lv' := [(1, .int (v1 + 1)), (0, .ref (ad 27)), (2, .int v2)]) dX7_prepare_84 rfl ki_1 (by decide) rfl ?_
    refine x_goto X (tgt := 48) dX7_prepare_87 (by decide) ?_
    refine x_sub X [1, 0] (lv' := [(0, .ref (ad 27)), (1, .int (v1 + 1))]) rfl ?_
    exact hK48 _ _ _ h
  · have h := h.2 hc
    refine x_aload_n X dX7_prepare_72 rfl 0 rfl ?_
    refine x_iload_n X dX7_prepare_73 rfl 1 rfl ?_
    refine x_iload_n X dX7_prepare_74 rfl 2 rfl ?_
    refine x_callVv X [.int v1, .int v2] [] dX7_prepare_75 (kX7_setShared h) cm_X7_setShared ci_X7_setShared w_3_82 dsX_27 ⟨by decide, by decide⟩ rfl (Nat.le_of_ble_eq_true rfl) (fun σ75 τ75 h => ?_)
    refine x_iinc X (k := 2) (lv' := [(2, .int (v2 + 1)), (0, .ref (ad 27)), (1, .int v1)]) dX7_prepare_78 rfl ki_1 (by decide) rfl ?_
    refine x_goto X (tgt := 61) dX7_prepare_81 (by decide) ?_
    refine x_sub X [1, 2, 0] (lv' := [(0, .ref (ad 27)), (1, .int v1), (2, .int (v2 + 1))]) rfl ?_
    exact hK61 _ _ _ _ h
set_option maxRecDepth 100000 in
set_option maxHeartbeats 4000000 in
theorem bX7_prepare_48 {V : x_J} {ad : Nat → Nat} {Q : x_S → x_L → Prop} (X : x_Is V cX7_prepare 3 RX7 (Option.none : Option Jvm.ClassFile.FieldType) ad dsX 2 (x_PV Q)) {K48 : Int32 → x_S → x_L → Prop} (hK48 : ∀ v1 σ τ, K48 v1 σ τ → V σ τ 48 [(0, .ref (ad 27)), (1, .int v1)] []) {v1 : Int32} {σ : x_S} {τ : x_L} (h : wX7_prepare_48 Q K48 v1 σ τ) : V σ τ 48 [(0, .ref (ad 27)), (1, .int v1)] [] := by
  refine x_iload_n X dX7_prepare_48 rfl 1 rfl ?_
  refine x_aload_n X dX7_prepare_49 rfl 0 rfl ?_
  refine x_getR X (j := 3) dX7_prepare_50 fl_7_28 dsX_27 rfl ?_
  refine x_getI X dX7_prepare_53 fl_7_32 dsX_3 rfl ?_
  refine x_icmp_ge X 90 dX7_prepare_56 (by decide) (fun hc => ?_) (fun hc => ?_)
  · have h := h.1 hc
    exact x_vret X dX7_prepare_90 ⟨rfl, h⟩
  · have h := h.2 hc
    refine x_iconst X dX7_prepare_59 ki_0 ?_
    refine x_istore_n X (lv' := [(2, .int 0), (0, .ref (ad 27)), (1, .int v1)]) dX7_prepare_60 rfl (by decide) rfl ?_
    refine x_sub X [1, 2, 0] (lv' := [(0, .ref (ad 27)), (1, .int v1), (2, .int 0)]) rfl ?_
    exact x_l2_G (fun v1 v2 σ τ => V σ τ 61 [(0, .ref (ad 27)), (1, .int v1), (2, .int v2)] []) (fun K61 hK61 v1 v2 σ τ h => bX7_prepare_61 X hK48 hK61 h) h
set_option maxRecDepth 100000 in
set_option maxHeartbeats 4000000 in
theorem bX7_prepare_2 {V : x_J} {ad : Nat → Nat} {Q : x_S → x_L → Prop} (X : x_Is V cX7_prepare 3 RX7 (Option.none : Option Jvm.ClassFile.FieldType) ad dsX 2 (x_PV Q)) {K2 : Int32 → x_S → x_L → Prop} (hK2 : ∀ v1 σ τ, K2 v1 σ τ → V σ τ 2 [(0, .ref (ad 27)), (1, .int v1)] []) {v1 : Int32} {σ : x_S} {τ : x_L} (h : wX7_prepare_2 Q K2 v1 σ τ) : V σ τ 2 [(0, .ref (ad 27)), (1, .int v1)] [] := by
  refine x_iload_n X dX7_prepare_2 rfl 1 rfl ?_
  refine x_aload_n X dX7_prepare_3 rfl 0 rfl ?_
  refine x_getR X (j := 3) dX7_prepare_4 fl_7_28 dsX_27 rfl ?_
  refine x_getI X dX7_prepare_7 fl_7_32 dsX_3 rfl ?_
  refine x_icmp_ge X 38 dX7_prepare_10 (by decide) (fun hc => ?_) (fun hc => ?_)
  · have h := h.1 hc
    refine x_aload_n X dX7_prepare_38 rfl 0 rfl ?_
    refine x_callVv X [] [] dX7_prepare_39 (kX7_listByRoad h) cm_X7_listByRoad ci_X7_listByRoad w_3_74 dsX_27 ⟨by decide, by decide⟩ rfl (Nat.le_of_ble_eq_true rfl) (fun σ39 τ39 h => ?_)
    refine x_aload_n X dX7_prepare_42 rfl 0 rfl ?_
    refine x_callVv X [] [] dX7_prepare_43 (kX7_setNext h) cm_X7_setNext ci_X7_setNext w_3_78 dsX_27 ⟨by decide, by decide⟩ rfl (Nat.le_of_ble_eq_true rfl) (fun σ43 τ43 h => ?_)
    refine x_iconst X dX7_prepare_46 ki_0 ?_
    refine x_istore_n X (lv' := [(1, .int 0), (0, .ref (ad 27))]) dX7_prepare_47 rfl (by decide) rfl ?_
    refine x_sub X [1, 0] (lv' := [(0, .ref (ad 27)), (1, .int 0)]) rfl ?_
    exact x_l1_G (fun v1 σ τ => V σ τ 48 [(0, .ref (ad 27)), (1, .int v1)] []) (fun K48 hK48 v1 σ τ h => bX7_prepare_48 X hK48 h) h
  · have h := h.2 hc
    refine x_aload_n X dX7_prepare_13 rfl 0 rfl ?_
    refine x_getR X (j := 30) dX7_prepare_14 fl_7_18 dsX_27 rfl ?_
    refine x_iload_n X dX7_prepare_17 rfl 1 rfl ?_
    refine x_iload_n X dX7_prepare_18 rfl 1 rfl ?_
    refine x_aload_n X dX7_prepare_19 rfl 0 rfl ?_
    refine x_getR X (j := 3) dX7_prepare_20 fl_7_28 dsX_27 rfl ?_
    refine x_getR X (j := 11) dX7_prepare_23 fl_7_38 dsX_3 rfl ?_
    refine x_iload_n X dX7_prepare_26 rfl 1 rfl ?_
    have g27 := h.1
    have h := h.2
    refine x_iald X dX7_prepare_27 dsX_11 g27 ?_
    refine x_callSNi X [.int v1, .int (σ 11 v1.toNatClampNeg)] [.int v1, .ref (ad 30)] dX7_prepare_28 (kX10_stopAt h) cm_X10_stopAt w_3_60 (List.mem_of_getElem? (i := 1) rfl) ⟨by decide, by decide⟩ rfl (Nat.le_of_ble_eq_true rfl) (fun r28 σ28 τ28 h => ?_)
    refine x_iast X dX7_prepare_31 dsX_30 g27 ?_
    refine x_iinc X (k := 1) (lv' := [(1, .int (v1 + 1)), (0, .ref (ad 27))]) dX7_prepare_32 rfl ki_1 (by decide) rfl ?_
    refine x_goto X (tgt := 2) dX7_prepare_35 (by decide) ?_
    refine x_sub X [1, 0] (lv' := [(0, .ref (ad 27)), (1, .int (v1 + 1))]) rfl ?_
    exact hK2 _ _ _ h
set_option maxRecDepth 100000 in
set_option maxHeartbeats 4000000 in
theorem kX7_prepare {ad : Nat → Nat} {σ : x_S} {τ : x_L} {Q : x_S → x_L → Prop} (h : wX7_prepare σ τ Q) : x_Met yX7_prepare cX7_prepare 3 (Option.none : Option Jvm.ClassFile.FieldType) 2 ad dsX [.ref (ad 27)] σ τ (x_PV Q) := by
  refine x_met (by decide +kernel) (Nat.le_of_ble_eq_true rfl) (fun V X => ?_)
  have X : x_Is V cX7_prepare 3 RX7 (Option.none : Option Jvm.ClassFile.FieldType) ad dsX 2 (x_PV Q) := X
  show V σ τ 0 [(0, .ref (ad 27))] []
  refine x_iconst X dX7_prepare_0 ki_0 ?_
  refine x_istore_n X (lv' := [(1, .int 0), (0, .ref (ad 27))]) dX7_prepare_1 rfl (by decide) rfl ?_
  refine x_sub X [1, 0] (lv' := [(0, .ref (ad 27)), (1, .int 0)]) rfl ?_
  exact x_l1_G (fun v1 σ τ => V σ τ 2 [(0, .ref (ad 27)), (1, .int v1)] []) (fun K2 hK2 v1 σ τ h => bX7_prepare_2 X hK2 h) h
