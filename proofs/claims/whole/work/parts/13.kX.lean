theorem dX10_appendInput_0 : decode cX10_appendInput 0 = .ok (.aload_n 0, 1) := by decide +kernel
theorem dX10_appendInput_1 : decode cX10_appendInput 1 = .ok (.getfield 12, 3) := by decide +kernel
theorem dX10_appendInput_4 : decode cX10_appendInput 4 = .ok (.getfield 94, 3) := by decide +kernel
theorem dX10_appendInput_7 : decode cX10_appendInput 7 = .ok (.bipush 20, 2) := by decide +kernel
theorem dX10_appendInput_9 : decode cX10_appendInput 9 = .ok (.iadd, 1) := by decide +kernel
theorem dX10_appendInput_10 : decode cX10_appendInput 10 = .ok (.sipush 1500, 3) := by decide +kernel
theorem dX10_appendInput_13 : decode cX10_appendInput 13 = .ok (.if_icmp .le 5, 3) := by decide +kernel
theorem dX10_appendInput_16 : decode cX10_appendInput 16 = .ok (.iconst (-1), 1) := by decide +kernel
theorem dX10_appendInput_17 : decode cX10_appendInput 17 = .ok (.ireturn, 1) := by decide +kernel
theorem dX10_appendInput_18 : decode cX10_appendInput 18 = .ok (.aload_n 0, 1) := by decide +kernel
theorem dX10_appendInput_19 : decode cX10_appendInput 19 = .ok (.getfield 12, 3) := by decide +kernel
theorem dX10_appendInput_22 : decode cX10_appendInput 22 = .ok (.iload_n 1, 1) := by decide +kernel
theorem dX10_appendInput_23 : decode cX10_appendInput 23 = .ok (.invokevirtual 98, 3) := by decide +kernel
theorem dX10_appendInput_26 : decode cX10_appendInput 26 = .ok (.aload_n 0, 1) := by decide +kernel
theorem dX10_appendInput_27 : decode cX10_appendInput 27 = .ok (.getfield 12, 3) := by decide +kernel
theorem dX10_appendInput_30 : decode cX10_appendInput 30 = .ok (.iload_n 2, 1) := by decide +kernel
theorem dX10_appendInput_31 : decode cX10_appendInput 31 = .ok (.invokevirtual 98, 3) := by decide +kernel
theorem dX10_appendInput_34 : decode cX10_appendInput 34 = .ok (.aload_n 0, 1) := by decide +kernel
theorem dX10_appendInput_35 : decode cX10_appendInput 35 = .ok (.getfield 12, 3) := by decide +kernel
theorem dX10_appendInput_38 : decode cX10_appendInput 38 = .ok (.iload_n 3, 1) := by decide +kernel
theorem dX10_appendInput_39 : decode cX10_appendInput 39 = .ok (.invokevirtual 98, 3) := by decide +kernel
theorem dX10_appendInput_42 : decode cX10_appendInput 42 = .ok (.aload_n 0, 1) := by decide +kernel
theorem dX10_appendInput_43 : decode cX10_appendInput 43 = .ok (.getfield 12, 3) := by decide +kernel
theorem dX10_appendInput_46 : decode cX10_appendInput 46 = .ok (.iload 4, 2) := by decide +kernel
theorem dX10_appendInput_48 : decode cX10_appendInput 48 = .ok (.invokevirtual 98, 3) := by decide +kernel
theorem dX10_appendInput_51 : decode cX10_appendInput 51 = .ok (.aload_n 0, 1) := by decide +kernel
theorem dX10_appendInput_52 : decode cX10_appendInput 52 = .ok (.getfield 12, 3) := by decide +kernel
theorem dX10_appendInput_55 : decode cX10_appendInput 55 = .ok (.iload 5, 2) := by decide +kernel
theorem dX10_appendInput_57 : decode cX10_appendInput 57 = .ok (.invokevirtual 98, 3) := by decide +kernel
theorem dX10_appendInput_60 : decode cX10_appendInput 60 = .ok (.aload_n 0, 1) := by decide +kernel
theorem dX10_appendInput_61 : decode cX10_appendInput 61 = .ok (.getfield 12, 3) := by decide +kernel
theorem dX10_appendInput_64 : decode cX10_appendInput 64 = .ok (.getfield 94, 3) := by decide +kernel
theorem dX10_appendInput_67 : decode cX10_appendInput 67 = .ok (.ireturn, 1) := by decide +kernel
theorem cm_X10_appendInput : x_CM yX10_appendInput cX10_appendInput 6 (Option.some FieldType.int) 5 := ⟨w_2_180, w_1_1, by decide +kernel, by decide +kernel⟩
theorem ci_X10_appendInput : x_CI yX10_appendInput 12 := ⟨w_2_178, w_2_179, (RX10, TX10, 12), rfl, rfl⟩
set_option maxRecDepth 100000 in
set_option maxHeartbeats 4000000 in
theorem kX10_appendInput {ad : Nat → Nat} {a1 : Int32} {a2 : Int32} {a3 : Int32} {a4 : Int32} {a5 : Int32} {σ : x_S} {τ : x_L} {Q : Int32 → x_S → x_L → Prop} (h : wX10_appendInput a1 a2 a3 a4 a5 σ τ Q) : x_Met yX10_appendInput cX10_appendInput 6 (Option.some FieldType.int) 1 ad dsX [.ref (ad 0), .int a1, .int a2, .int a3, .int a4, .int a5] σ τ (x_PI Q) := by
  refine x_met (by decide +kernel) (Nat.le_of_ble_eq_true rfl) (fun V X => ?_)
  have X : x_Is V cX10_appendInput 6 RX10 (Option.some FieldType.int) ad dsX 1 (x_PI Q) := X
  show V σ τ 0 [(0, .ref (ad 0)), (1, .int a1), (2, .int a2), (3, .int a3), (4, .int a4), (5, .int a5)] []
  refine x_aload_n X dX10_appendInput_0 rfl 0 rfl ?_
  refine x_getR X (j := 1) dX10_appendInput_1 fl_10_12 dsX_0 rfl ?_
  refine x_getI X dX10_appendInput_4 fl_10_94 dsX_1 rfl ?_
  refine x_bipush X dX10_appendInput_7 kb_20 ?_
  refine x_iadd X dX10_appendInput_9 ?_
  refine x_sipush X dX10_appendInput_10 ks_1500 ?_
  refine x_icmp_le X 18 dX10_appendInput_13 (by decide) (fun hc => ?_) (fun hc => ?_)
  · have h := h.1 hc
    refine x_aload_n X dX10_appendInput_18 rfl 0 rfl ?_
    refine x_getR X (j := 1) dX10_appendInput_19 fl_10_12 dsX_0 rfl ?_
    refine x_iload_n X dX10_appendInput_22 rfl 1 rfl ?_
    refine x_callVv X [.int a1] [] dX10_appendInput_23 (kX9_append h) cm_X9_append ci_X9_append w_2_181 dsX_1 ⟨by decide, by decide⟩ rfl (Nat.le_of_ble_eq_true rfl) (fun σ23 τ23 h => ?_)
    refine x_aload_n X dX10_appendInput_26 rfl 0 rfl ?_
    refine x_getR X (j := 1) dX10_appendInput_27 fl_10_12 dsX_0 rfl ?_
    refine x_iload_n X dX10_appendInput_30 rfl 2 rfl ?_
    refine x_callVv X [.int a2] [] dX10_appendInput_31 (kX9_append h) cm_X9_append ci_X9_append w_2_181 dsX_1 ⟨by decide, by decide⟩ rfl (Nat.le_of_ble_eq_true rfl) (fun σ31 τ31 h => ?_)
    refine x_aload_n X dX10_appendInput_34 rfl 0 rfl ?_
    refine x_getR X (j := 1) dX10_appendInput_35 fl_10_12 dsX_0 rfl ?_
    refine x_iload_n X dX10_appendInput_38 rfl 3 rfl ?_
    refine x_callVv X [.int a3] [] dX10_appendInput_39 (kX9_append h) cm_X9_append ci_X9_append w_2_181 dsX_1 ⟨by decide, by decide⟩ rfl (Nat.le_of_ble_eq_true rfl) (fun σ39 τ39 h => ?_)
    refine x_aload_n X dX10_appendInput_42 rfl 0 rfl ?_
    refine x_getR X (j := 1) dX10_appendInput_43 fl_10_12 dsX_0 rfl ?_
    refine x_iload X dX10_appendInput_46 4 rfl ?_
    refine x_callVv X [.int a4] [] dX10_appendInput_48 (kX9_append h) cm_X9_append ci_X9_append w_2_181 dsX_1 ⟨by decide, by decide⟩ rfl (Nat.le_of_ble_eq_true rfl) (fun σ48 τ48 h => ?_)
    refine x_aload_n X dX10_appendInput_51 rfl 0 rfl ?_
    refine x_getR X (j := 1) dX10_appendInput_52 fl_10_12 dsX_0 rfl ?_
    refine x_iload X dX10_appendInput_55 5 rfl ?_
    refine x_callVv X [.int a5] [] dX10_appendInput_57 (kX9_append h) cm_X9_append ci_X9_append w_2_181 dsX_1 ⟨by decide, by decide⟩ rfl (Nat.le_of_ble_eq_true rfl) (fun σ57 τ57 h => ?_)
    refine x_aload_n X dX10_appendInput_60 rfl 0 rfl ?_
    refine x_getR X (j := 1) dX10_appendInput_61 fl_10_12 dsX_0 rfl ?_
    refine x_getI X dX10_appendInput_64 fl_10_94 dsX_1 rfl ?_
    exact x_iret X dX10_appendInput_67 ⟨_, rfl, h⟩
  · have h := h.2 hc
    refine x_iconst X dX10_appendInput_16 ki_m1 ?_
    exact x_iret X dX10_appendInput_17 ⟨_, rfl, h⟩
theorem dX10_truncateInput_0 : decode cX10_truncateInput 0 = .ok (.iload_n 1, 1) := by decide +kernel
theorem dX10_truncateInput_1 : decode cX10_truncateInput 1 = .ok (.ifCond .lt 14, 3) := by decide +kernel
theorem dX10_truncateInput_4 : decode cX10_truncateInput 4 = .ok (.iload_n 1, 1) := by decide +kernel
theorem dX10_truncateInput_5 : decode cX10_truncateInput 5 = .ok (.aload_n 0, 1) := by decide +kernel
theorem dX10_truncateInput_6 : decode cX10_truncateInput 6 = .ok (.getfield 12, 3) := by decide +kernel
theorem dX10_truncateInput_9 : decode cX10_truncateInput 9 = .ok (.getfield 94, 3) := by decide +kernel
theorem dX10_truncateInput_12 : decode cX10_truncateInput 12 = .ok (.if_icmp .le 5, 3) := by decide +kernel
theorem dX10_truncateInput_15 : decode cX10_truncateInput 15 = .ok (.iconst (-1), 1) := by decide +kernel
theorem dX10_truncateInput_16 : decode cX10_truncateInput 16 = .ok (.ireturn, 1) := by decide +kernel
theorem dX10_truncateInput_17 : decode cX10_truncateInput 17 = .ok (.aload_n 0, 1) := by decide +kernel
theorem dX10_truncateInput_18 : decode cX10_truncateInput 18 = .ok (.getfield 12, 3) := by decide +kernel
theorem dX10_truncateInput_21 : decode cX10_truncateInput 21 = .ok (.iload_n 1, 1) := by decide +kernel
theorem dX10_truncateInput_22 : decode cX10_truncateInput 22 = .ok (.putfield 94, 3) := by decide +kernel
theorem dX10_truncateInput_25 : decode cX10_truncateInput 25 = .ok (.iload_n 1, 1) := by decide +kernel
theorem dX10_truncateInput_26 : decode cX10_truncateInput 26 = .ok (.ireturn, 1) := by decide +kernel
theorem cm_X10_truncateInput : x_CM yX10_truncateInput cX10_truncateInput 2 (Option.some FieldType.int) 1 := ⟨w_2_188, w_1_1, by decide +kernel, by decide +kernel⟩
theorem ci_X10_truncateInput : x_CI yX10_truncateInput 12 := ⟨w_2_186, w_2_187, (RX10, TX10, 12), rfl, rfl⟩
set_option maxRecDepth 100000 in
set_option maxHeartbeats 4000000 in
theorem bX10_truncateInput_15 {V : x_J} {ad : Nat → Nat} {Q : Int32 → x_S → x_L → Prop} (X : x_Is V cX10_truncateInput 2 RX10 (Option.some FieldType.int) ad dsX 0 (x_PI Q)) {σ : x_S} {τ : x_L} (h : wX10_truncateInput_15 Q σ τ) : V σ τ 15 [] [] := by
  refine x_iconst X dX10_truncateInput_15 ki_m1 ?_
  exact x_iret X dX10_truncateInput_16 ⟨_, rfl, h⟩
set_option maxRecDepth 100000 in
set_option maxHeartbeats 4000000 in
theorem kX10_truncateInput {ad : Nat → Nat} {a1 : Int32} {σ : x_S} {τ : x_L} {Q : Int32 → x_S → x_L → Prop} (h : wX10_truncateInput a1 σ τ Q) : x_Met yX10_truncateInput cX10_truncateInput 2 (Option.some FieldType.int) 0 ad dsX [.ref (ad 0), .int a1] σ τ (x_PI Q) := by
  refine x_met (by decide +kernel) (Nat.le_of_ble_eq_true rfl) (fun V X => ?_)
  have X : x_Is V cX10_truncateInput 2 RX10 (Option.some FieldType.int) ad dsX 0 (x_PI Q) := X
  show V σ τ 0 [(0, .ref (ad 0)), (1, .int a1)] []
  refine x_iload_n X dX10_truncateInput_0 rfl 1 rfl ?_
  refine x_if_lt X 15 dX10_truncateInput_1 (by decide) (fun hc => ?_) (fun hc => ?_)
  · have h := h.1 hc
    refine x_sub X [] (lv' := []) rfl ?_
    exact bX10_truncateInput_15 X h
  · have h := h.2 hc
    refine x_iload_n X dX10_truncateInput_4 rfl 1 rfl ?_
    refine x_aload_n X dX10_truncateInput_5 rfl 0 rfl ?_
    refine x_getR X (j := 1) dX10_truncateInput_6 fl_10_12 dsX_0 rfl ?_
    refine x_getI X dX10_truncateInput_9 fl_10_94 dsX_1 rfl ?_
    refine x_icmp_le X 17 dX10_truncateInput_12 (by decide) (fun hc => ?_) (fun hc => ?_)
    · have h := h.1 hc
      refine x_aload_n X dX10_truncateInput_17 rfl 0 rfl ?_
      refine x_getR X (j := 1) dX10_truncateInput_18 fl_10_12 dsX_0 rfl ?_
      refine x_iload_n X dX10_truncateInput_21 rfl 1 rfl ?_
      refine x_putI X dX10_truncateInput_22 fl_10_94 ft_9_1 dsX_1 rfl ?_
      refine x_iload_n X dX10_truncateInput_25 rfl 1 rfl ?_
      exact x_iret X dX10_truncateInput_26 ⟨_, rfl, h⟩
    · have h := h.2 hc
      refine x_sub X [] (lv' := []) rfl ?_
      exact bX10_truncateInput_15 X h
theorem dX10_errorCode_0 : decode cX10_errorCode 0 = .ok (.aload_n 0, 1) := by decide +kernel
theorem dX10_errorCode_1 : decode cX10_errorCode 1 = .ok (.getfield 12, 3) := by decide +kernel
theorem dX10_errorCode_4 : decode cX10_errorCode 4 = .ok (.getfield 130, 3) := by decide +kernel
theorem dX10_errorCode_7 : decode cX10_errorCode 7 = .ok (.ireturn, 1) := by decide +kernel
theorem cm_X10_errorCode : x_CM yX10_errorCode cX10_errorCode 1 (Option.some FieldType.int) 0 := ⟨w_3_161, w_1_1, by decide +kernel, by decide +kernel⟩
theorem ci_X10_errorCode : x_CI yX10_errorCode 12 := ⟨w_3_159, w_3_160, (RX10, TX10, 12), rfl, rfl⟩
set_option maxRecDepth 100000 in
set_option maxHeartbeats 4000000 in
theorem kX10_errorCode {ad : Nat → Nat} {σ : x_S} {τ : x_L} {Q : Int32 → x_S → x_L → Prop} (h : wX10_errorCode σ τ Q) : x_Met yX10_errorCode cX10_errorCode 1 (Option.some FieldType.int) 0 ad dsX [.ref (ad 0)] σ τ (x_PI Q) := by
  refine x_met (by decide +kernel) (Nat.le_of_ble_eq_true rfl) (fun V X => ?_)
  have X : x_Is V cX10_errorCode 1 RX10 (Option.some FieldType.int) ad dsX 0 (x_PI Q) := X
  show V σ τ 0 [(0, .ref (ad 0))] []
  refine x_aload_n X dX10_errorCode_0 rfl 0 rfl ?_
  refine x_getR X (j := 1) dX10_errorCode_1 fl_10_12 dsX_0 rfl ?_
  refine x_getI X dX10_errorCode_4 fl_10_130 dsX_1 rfl ?_
  exact x_iret X dX10_errorCode_7 ⟨_, rfl, h⟩
theorem dX10_errorPosition_0 : decode cX10_errorPosition 0 = .ok (.aload_n 0, 1) := by decide +kernel
theorem dX10_errorPosition_1 : decode cX10_errorPosition 1 = .ok (.getfield 12, 3) := by decide +kernel
theorem dX10_errorPosition_4 : decode cX10_errorPosition 4 = .ok (.getfield 133, 3) := by decide +kernel
theorem dX10_errorPosition_7 : decode cX10_errorPosition 7 = .ok (.ireturn, 1) := by decide +kernel
theorem cm_X10_errorPosition : x_CM yX10_errorPosition cX10_errorPosition 1 (Option.some FieldType.int) 0 := ⟨w_3_165, w_1_1, by decide +kernel, by decide +kernel⟩
theorem ci_X10_errorPosition : x_CI yX10_errorPosition 12 := ⟨w_3_163, w_3_164, (RX10, TX10, 12), rfl, rfl⟩
set_option maxRecDepth 100000 in
set_option maxHeartbeats 4000000 in
theorem kX10_errorPosition {ad : Nat → Nat} {σ : x_S} {τ : x_L} {Q : Int32 → x_S → x_L → Prop} (h : wX10_errorPosition σ τ Q) : x_Met yX10_errorPosition cX10_errorPosition 1 (Option.some FieldType.int) 0 ad dsX [.ref (ad 0)] σ τ (x_PI Q) := by
  refine x_met (by decide +kernel) (Nat.le_of_ble_eq_true rfl) (fun V X => ?_)
  have X : x_Is V cX10_errorPosition 1 RX10 (Option.some FieldType.int) ad dsX 0 (x_PI Q) := X
  show V σ τ 0 [(0, .ref (ad 0))] []
  refine x_aload_n X dX10_errorPosition_0 rfl 0 rfl ?_
  refine x_getR X (j := 1) dX10_errorPosition_1 fl_10_12 dsX_0 rfl ?_
  refine x_getI X dX10_errorPosition_4 fl_10_133 dsX_1 rfl ?_
  exact x_iret X dX10_errorPosition_7 ⟨_, rfl, h⟩
theorem dX10_companies_0 : decode cX10_companies 0 = .ok (.iconst 0, 1) := by decide +kernel
theorem dX10_companies_1 : decode cX10_companies 1 = .ok (.istore_n 1, 1) := by decide +kernel
theorem dX10_companies_2 : decode cX10_companies 2 = .ok (.iconst 0, 1) := by decide +kernel
theorem dX10_companies_3 : decode cX10_companies 3 = .ok (.istore_n 2, 1) := by decide +kernel
theorem dX10_companies_4 : decode cX10_companies 4 = .ok (.iload_n 2, 1) := by decide +kernel
theorem dX10_companies_5 : decode cX10_companies 5 = .ok (.aload_n 0, 1) := by decide +kernel
theorem dX10_companies_6 : decode cX10_companies 6 = .ok (.getfield 42, 3) := by decide +kernel
theorem dX10_companies_9 : decode cX10_companies 9 = .ok (.invokevirtual 139, 3) := by decide +kernel
theorem dX10_companies_12 : decode cX10_companies 12 = .ok (.if_icmp .ge 45, 3) := by decide +kernel
theorem dX10_companies_15 : decode cX10_companies 15 = .ok (.aload_n 0, 1) := by decide +kernel
theorem dX10_companies_16 : decode cX10_companies 16 = .ok (.getfield 51, 3) := by decide +kernel
theorem dX10_companies_19 : decode cX10_companies 19 = .ok (.getfield 171, 3) := by decide +kernel
theorem dX10_companies_22 : decode cX10_companies 22 = .ok (.iload_n 2, 1) := by decide +kernel
theorem dX10_companies_23 : decode cX10_companies 23 = .ok (.iaload, 1) := by decide +kernel
theorem dX10_companies_24 : decode cX10_companies 24 = .ok (.istore_n 3, 1) := by decide +kernel
theorem dX10_companies_25 : decode cX10_companies 25 = .ok (.aload_n 0, 1) := by decide +kernel
theorem dX10_companies_26 : decode cX10_companies 26 = .ok (.getfield 51, 3) := by decide +kernel
theorem dX10_companies_29 : decode cX10_companies 29 = .ok (.getfield 174, 3) := by decide +kernel
theorem dX10_companies_32 : decode cX10_companies 32 = .ok (.iload_n 3, 1) := by decide +kernel
theorem dX10_companies_33 : decode cX10_companies 33 = .ok (.iaload, 1) := by decide +kernel
theorem dX10_companies_34 : decode cX10_companies 34 = .ok (.ifCond .ne 17, 3) := by decide +kernel
theorem dX10_companies_37 : decode cX10_companies 37 = .ok (.aload_n 0, 1) := by decide +kernel
theorem dX10_companies_38 : decode cX10_companies 38 = .ok (.getfield 51, 3) := by decide +kernel
theorem dX10_companies_41 : decode cX10_companies 41 = .ok (.iload_n 3, 1) := by decide +kernel
theorem dX10_companies_42 : decode cX10_companies 42 = .ok (.invokevirtual 177, 3) := by decide +kernel
theorem dX10_companies_45 : decode cX10_companies 45 = .ok (.ifCond .eq 6, 3) := by decide +kernel
theorem dX10_companies_48 : decode cX10_companies 48 = .ok (.iinc 1 1, 3) := by decide +kernel
theorem dX10_companies_51 : decode cX10_companies 51 = .ok (.iinc 2 1, 3) := by decide +kernel
theorem dX10_companies_54 : decode cX10_companies 54 = .ok (.goto (-50), 3) := by decide +kernel
theorem dX10_companies_57 : decode cX10_companies 57 = .ok (.iload_n 1, 1) := by decide +kernel
theorem dX10_companies_58 : decode cX10_companies 58 = .ok (.ireturn, 1) := by decide +kernel
theorem cm_X10_companies : x_CM yX10_companies cX10_companies 4 (Option.some FieldType.int) 0 := ⟨w_3_177, w_1_1, by decide +kernel, by decide +kernel⟩
theorem ci_X10_companies : x_CI yX10_companies 12 := ⟨w_3_176, wp_16, (RX10, TX10, 12), rfl, rfl⟩
set_option maxRecDepth 100000 in
set_option maxHeartbeats 4000000 in
theorem bX10_companies_51 {V : x_J} {ad : Nat → Nat} {Q : Int32 → x_S → x_L → Prop} (X : x_Is V cX10_companies 4 RX10 (Option.some FieldType.int) ad dsX 1 (x_PI Q)) {K4 : Int32 → Int32 → x_S → x_L → Prop} (hK4 : ∀ v1 v2 σ τ, K4 v1 v2 σ τ → V σ τ 4 [(0, .ref (ad 0)), (1, .int v1), (2, .int v2)] []) {v1 : Int32} {v2 : Int32} {σ : x_S} {τ : x_L} (h : wX10_companies_51 K4 Q v1 v2 σ τ) : V σ τ 51 [(0, .ref (ad 0)), (1, .int v1), (2, .int v2)] [] := by
  refine x_iinc X (k := 2) (lv' := [(2, .int (v2 + 1)), (0, .ref (ad 0)), (1, .int v1)]) dX10_companies_51 rfl ki_1 (by decide) rfl ?_
  refine x_goto X (tgt := 4) dX10_companies_54 (by decide) ?_
  refine x_sub X [1, 2, 0] (lv' := [(0, .ref (ad 0)), (1, .int v1), (2, .int (v2 + 1))]) rfl ?_
  exact hK4 _ _ _ _ h
set_option maxRecDepth 100000 in
set_option maxHeartbeats 4000000 in
theorem bX10_companies_4 {V : x_J} {ad : Nat → Nat} {Q : Int32 → x_S → x_L → Prop} (X : x_Is V cX10_companies 4 RX10 (Option.some FieldType.int) ad dsX 1 (x_PI Q)) {K4 : Int32 → Int32 → x_S → x_L → Prop} (hK4 : ∀ v1 v2 σ τ, K4 v1 v2 σ τ → V σ τ 4 [(0, .ref (ad 0)), (1, .int v1), (2, .int v2)] []) {v1 : Int32} {v2 : Int32} {σ : x_S} {τ : x_L} (h : wX10_companies_4 Q K4 v1 v2 σ τ) : V σ τ 4 [(0, .ref (ad 0)), (1, .int v1), (2, .int v2)] [] := by
  refine x_iload_n X dX10_companies_4 rfl 2 rfl ?_
  refine x_aload_n X dX10_companies_5 rfl 0 rfl ?_
  refine x_getR X (j := 27) dX10_companies_6 fl_10_42 dsX_0 rfl ?_
  refine x_callVi X [] [.int v2] dX10_companies_9 (kX7_allStops h) cm_X7_allStops ci_X7_allStops w_3_170 dsX_27 ⟨by decide, by decide⟩ rfl (Nat.le_of_ble_eq_true rfl) (fun r9 σ9 τ9 h => ?_)
  refine x_icmp_ge X 57 dX10_companies_12 (by decide) (fun hc => ?_) (fun hc => ?_)
  · have h := h.1 hc
    refine x_iload_n X dX10_companies_57 rfl 1 rfl ?_
    exact x_iret X dX10_companies_58 ⟨_, rfl, h⟩
  · have h := h.2 hc
    refine x_aload_n X dX10_companies_15 rfl 0 rfl ?_
    refine x_getR X (j := 33) dX10_companies_16 fl_10_51 dsX_0 rfl ?_
    refine x_getR X (j := 39) dX10_companies_19 fl_10_171 dsX_33 rfl ?_
    refine x_iload_n X dX10_companies_22 rfl 2 rfl ?_
    have g23 := h.1
    have h := h.2
    refine x_iald X dX10_companies_23 dsX_39 g23 ?_
    refine x_istore_n X (lv' := [(3, .int (σ9 39 v2.toNatClampNeg)), (0, .ref (ad 0)), (1, .int v1), (2, .int v2)]) dX10_companies_24 rfl (by decide) rfl ?_
    refine x_aload_n X dX10_companies_25 rfl 1 rfl ?_
    refine x_getR X (j := 33) dX10_companies_26 fl_10_51 dsX_0 rfl ?_
    refine x_getR X (j := 41) dX10_companies_29 fl_10_174 dsX_33 rfl ?_
    refine x_iload_n X dX10_companies_32 rfl 0 rfl ?_
    have g33 := h.1
    have h := h.2
    refine x_iald X dX10_companies_33 dsX_41 g33 ?_
    refine x_if_ne X 51 dX10_companies_34 (by decide) (fun hc => ?_) (fun hc => ?_)
    · have h := h.1 hc
      refine x_sub X [1, 2, 3] (lv' := [(0, .ref (ad 0)), (1, .int v1), (2, .int v2)]) rfl ?_
      exact bX10_companies_51 X hK4 h
    · have h := h.2 hc
      refine x_aload_n X dX10_companies_37 rfl 1 rfl ?_
      refine x_getR X (j := 33) dX10_companies_38 fl_10_51 dsX_0 rfl ?_
      refine x_iload_n X dX10_companies_41 rfl 0 rfl ?_
      refine x_callVi X [.int (σ9 39 v2.toNatClampNeg)] [] dX10_companies_42 (kX6_inCompany x_pl33 h) cm_X6_inCompany ci_X6_inCompany w_3_178 dsX_33 ⟨by decide, by decide⟩ rfl (Nat.le_of_ble_eq_true rfl) (fun r42 σ42 τ42 h => ?_)
      refine x_if_eq X 51 dX10_companies_45 (by decide) (fun hc => ?_) (fun hc => ?_)
      · have h := h.1 hc
        refine x_sub X [1, 2, 3] (lv' := [(0, .ref (ad 0)), (1, .int v1), (2, .int v2)]) rfl ?_
        exact bX10_companies_51 X hK4 h
      · have h := h.2 hc
        refine x_iinc X (k := 2) (lv' := [(1, .int (v1 + 1)), (3, .int (σ9 39 v2.toNatClampNeg)), (0, .ref (ad 0)), (2, .int v2)]) dX10_companies_48 rfl ki_1 (by decide) rfl ?_
        refine x_sub X [2, 0, 3] (lv' := [(0, .ref (ad 0)), (1, .int (v1 + 1)), (2, .int v2)]) rfl ?_
        exact bX10_companies_51 X hK4 h
set_option maxRecDepth 100000 in
set_option maxHeartbeats 4000000 in
theorem kX10_companies {ad : Nat → Nat} {σ : x_S} {τ : x_L} {Q : Int32 → x_S → x_L → Prop} (h : wX10_companies σ τ Q) : x_Met yX10_companies cX10_companies 4 (Option.some FieldType.int) 1 ad dsX [.ref (ad 0)] σ τ (x_PI Q) := by
  refine x_met (by decide +kernel) (Nat.le_of_ble_eq_true rfl) (fun V X => ?_)
  have X : x_Is V cX10_companies 4 RX10 (Option.some FieldType.int) ad dsX 1 (x_PI Q) := X
  show V σ τ 0 [(0, .ref (ad 0))] []
  refine x_iconst X dX10_companies_0 ki_0 ?_
  refine x_istore_n X (lv' := [(1, .int 0), (0, .ref (ad 0))]) dX10_companies_1 rfl (by decide) rfl ?_
  refine x_iconst X dX10_companies_2 ki_0 ?_
  refine x_istore_n X (lv' := [(2, .int 0), (1, .int 0), (0, .ref (ad 0))]) dX10_companies_3 rfl (by decide) rfl ?_
  refine x_sub X [2, 1, 0] (lv' := [(0, .ref (ad 0)), (1, .int 0), (2, .int 0)]) rfl ?_
  exact x_l2_G (fun v1 v2 σ τ => V σ τ 4 [(0, .ref (ad 0)), (1, .int v1), (2, .int v2)] []) (fun K4 hK4 v1 v2 σ τ h => bX10_companies_4 X hK4 h) h
theorem dX10_greatestPlatoon_0 : decode cX10_greatestPlatoon 0 = .ok (.iconst 0, 1) := by decide +kernel
theorem dX10_greatestPlatoon_1 : decode cX10_greatestPlatoon 1 = .ok (.istore_n 1, 1) := by decide +kernel
theorem dX10_greatestPlatoon_2 : decode cX10_greatestPlatoon 2 = .ok (.iconst 0, 1) := by decide +kernel
theorem dX10_greatestPlatoon_3 : decode cX10_greatestPlatoon 3 = .ok (.istore_n 2, 1) := by decide +kernel
theorem dX10_greatestPlatoon_4 : decode cX10_greatestPlatoon 4 = .ok (.iload_n 2, 1) := by decide +kernel
theorem dX10_greatestPlatoon_5 : decode cX10_greatestPlatoon 5 = .ok (.aload_n 0, 1) := by decide +kernel
theorem dX10_greatestPlatoon_6 : decode cX10_greatestPlatoon 6 = .ok (.getfield 42, 3) := by decide +kernel
theorem dX10_greatestPlatoon_9 : decode cX10_greatestPlatoon 9 = .ok (.invokevirtual 139, 3) := by decide +kernel
theorem dX10_greatestPlatoon_12 : decode cX10_greatestPlatoon 12 = .ok (.if_icmp .ge 33, 3) := by decide +kernel
theorem dX10_greatestPlatoon_15 : decode cX10_greatestPlatoon 15 = .ok (.iload_n 1, 1) := by decide +kernel
theorem dX10_greatestPlatoon_16 : decode cX10_greatestPlatoon 16 = .ok (.aload_n 0, 1) := by decide +kernel
theorem dX10_greatestPlatoon_17 : decode cX10_greatestPlatoon 17 = .ok (.getfield 51, 3) := by decide +kernel
theorem dX10_greatestPlatoon_20 : decode cX10_greatestPlatoon 20 = .ok (.getfield 174, 3) := by decide +kernel
theorem dX10_greatestPlatoon_23 : decode cX10_greatestPlatoon 23 = .ok (.aload_n 0, 1) := by decide +kernel
theorem dX10_greatestPlatoon_24 : decode cX10_greatestPlatoon 24 = .ok (.getfield 51, 3) := by decide +kernel
theorem dX10_greatestPlatoon_27 : decode cX10_greatestPlatoon 27 = .ok (.getfield 171, 3) := by decide +kernel
theorem dX10_greatestPlatoon_30 : decode cX10_greatestPlatoon 30 = .ok (.iload_n 2, 1) := by decide +kernel
theorem dX10_greatestPlatoon_31 : decode cX10_greatestPlatoon 31 = .ok (.iaload, 1) := by decide +kernel
theorem dX10_greatestPlatoon_32 : decode cX10_greatestPlatoon 32 = .ok (.iaload, 1) := by decide +kernel
theorem dX10_greatestPlatoon_33 : decode cX10_greatestPlatoon 33 = .ok (.iconst 1, 1) := by decide +kernel
theorem dX10_greatestPlatoon_34 : decode cX10_greatestPlatoon 34 = .ok (.iadd, 1) := by decide +kernel
theorem dX10_greatestPlatoon_35 : decode cX10_greatestPlatoon 35 = .ok (.invokestatic 181, 3) := by decide +kernel
theorem dX10_greatestPlatoon_38 : decode cX10_greatestPlatoon 38 = .ok (.istore_n 1, 1) := by decide +kernel
theorem dX10_greatestPlatoon_39 : decode cX10_greatestPlatoon 39 = .ok (.iinc 2 1, 3) := by decide +kernel
theorem dX10_greatestPlatoon_42 : decode cX10_greatestPlatoon 42 = .ok (.goto (-38), 3) := by decide +kernel
theorem dX10_greatestPlatoon_45 : decode cX10_greatestPlatoon 45 = .ok (.iload_n 1, 1) := by decide +kernel
theorem dX10_greatestPlatoon_46 : decode cX10_greatestPlatoon 46 = .ok (.ireturn, 1) := by decide +kernel
theorem cm_X10_greatestPlatoon : x_CM yX10_greatestPlatoon cX10_greatestPlatoon 3 (Option.some FieldType.int) 0 := ⟨w_3_211, w_1_1, by decide +kernel, by decide +kernel⟩
theorem ci_X10_greatestPlatoon : x_CI yX10_greatestPlatoon 12 := ⟨w_3_210, wp_18, (RX10, TX10, 12), rfl, rfl⟩
set_option maxRecDepth 100000 in
set_option maxHeartbeats 4000000 in
theorem bX10_greatestPlatoon_4 {V : x_J} {ad : Nat → Nat} {Q : Int32 → x_S → x_L → Prop} (X : x_Is V cX10_greatestPlatoon 3 RX10 (Option.some FieldType.int) ad dsX 1 (x_PI Q)) {K4 : Int32 → Int32 → x_S → x_L → Prop} (hK4 : ∀ v1 v2 σ τ, K4 v1 v2 σ τ → V σ τ 4 [(0, .ref (ad 0)), (1, .int v1), (2, .int v2)] []) {v1 : Int32} {v2 : Int32} {σ : x_S} {τ : x_L} (h : wX10_greatestPlatoon_4 Q K4 v1 v2 σ τ) : V σ τ 4 [(0, .ref (ad 0)), (1, .int v1), (2, .int v2)] [] := by
  refine x_iload_n X dX10_greatestPlatoon_4 rfl 2 rfl ?_
  refine x_aload_n X dX10_greatestPlatoon_5 rfl 0 rfl ?_
  refine x_getR X (j := 27) dX10_greatestPlatoon_6 fl_10_42 dsX_0 rfl ?_
  refine x_callVi X [] [.int v2] dX10_greatestPlatoon_9 (kX7_allStops h) cm_X7_allStops ci_X7_allStops w_3_170 dsX_27 ⟨by decide, by decide⟩ rfl (Nat.le_of_ble_eq_true rfl) (fun r9 σ9 τ9 h => ?_)
  refine x_icmp_ge X 45 dX10_greatestPlatoon_12 (by decide) (fun hc => ?_) (fun hc => ?_)
  · have h := h.1 hc
    refine x_iload_n X dX10_greatestPlatoon_45 rfl 1 rfl ?_
    exact x_iret X dX10_greatestPlatoon_46 ⟨_, rfl, h⟩
  · have h := h.2 hc
    refine x_iload_n X dX10_greatestPlatoon_15 rfl 1 rfl ?_
    refine x_aload_n X dX10_greatestPlatoon_16 rfl 0 rfl ?_
    refine x_getR X (j := 33) dX10_greatestPlatoon_17 fl_10_51 dsX_0 rfl ?_
    refine x_getR X (j := 41) dX10_greatestPlatoon_20 fl_10_174 dsX_33 rfl ?_
    refine x_aload_n X dX10_greatestPlatoon_23 rfl 0 rfl ?_
    refine x_getR X (j := 33) dX10_greatestPlatoon_24 fl_10_51 dsX_0 rfl ?_
    refine x_getR X (j := 39) dX10_greatestPlatoon_27 fl_10_171 dsX_33 rfl ?_
    refine x_iload_n X dX10_greatestPlatoon_30 rfl 2 rfl ?_
    have g31 := h.1
    have h := h.2
    refine x_iald X dX10_greatestPlatoon_31 dsX_39 g31 ?_
    have g32 := h.1
    have h := h.2
    refine x_iald X dX10_greatestPlatoon_32 dsX_41 g32 ?_
    refine x_iconst X dX10_greatestPlatoon_33 ki_1 ?_
    refine x_iadd X dX10_greatestPlatoon_34 ?_
    refine x_mmax X dX10_greatestPlatoon_35 w_3_212 w_3_213 w_1_18 w_3_214 (by decide) (Nat.le_of_ble_eq_true rfl) ?_
    refine x_istore_n X (lv' := [(1, .int (if v1 < ((σ9 41 (σ9 39 v2.toNatClampNeg).toNatClampNeg) + 1) then ((σ9 41 (σ9 39 v2.toNatClampNeg).toNatClampNeg) + 1) else v1)), (0, .ref (ad 0)), (2, .int v2)]) dX10_greatestPlatoon_38 rfl (by decide) rfl ?_
    refine x_iinc X (k := 2) (lv' := [(2, .int (v2 + 1)), (1, .int (if v1 < ((σ9 41 (σ9 39 v2.toNatClampNeg).toNatClampNeg) + 1) then ((σ9 41 (σ9 39 v2.toNatClampNeg).toNatClampNeg) + 1) else v1)), (0, .ref (ad 0))]) dX10_greatestPlatoon_39 rfl ki_1 (by decide) rfl ?_
    refine x_goto X (tgt := 4) dX10_greatestPlatoon_42 (by decide) ?_
    refine x_sub X [2, 1, 0] (lv' := [(0, .ref (ad 0)), (1, .int (if v1 < ((σ9 41 (σ9 39 v2.toNatClampNeg).toNatClampNeg) + 1) then ((σ9 41 (σ9 39 v2.toNatClampNeg).toNatClampNeg) + 1) else v1)), (2, .int (v2 + 1))]) rfl ?_
    exact hK4 _ _ _ _ h
set_option maxRecDepth 100000 in
set_option maxHeartbeats 4000000 in
theorem kX10_greatestPlatoon {ad : Nat → Nat} {σ : x_S} {τ : x_L} {Q : Int32 → x_S → x_L → Prop} (h : wX10_greatestPlatoon σ τ Q) : x_Met yX10_greatestPlatoon cX10_greatestPlatoon 3 (Option.some FieldType.int) 1 ad dsX [.ref (ad 0)] σ τ (x_PI Q) := by
  refine x_met (by decide +kernel) (Nat.le_of_ble_eq_true rfl) (fun V X => ?_)
  have X : x_Is V cX10_greatestPlatoon 3 RX10 (Option.some FieldType.int) ad dsX 1 (x_PI Q) := X
  show V σ τ 0 [(0, .ref (ad 0))] []
  refine x_iconst X dX10_greatestPlatoon_0 ki_0 ?_
  refine x_istore_n X (lv' := [(1, .int 0), (0, .ref (ad 0))]) dX10_greatestPlatoon_1 rfl (by decide) rfl ?_
  refine x_iconst X dX10_greatestPlatoon_2 ki_0 ?_
  refine x_istore_n X (lv' := [(2, .int 0), (1, .int 0), (0, .ref (ad 0))]) dX10_greatestPlatoon_3 rfl (by decide) rfl ?_
  refine x_sub X [2, 1, 0] (lv' := [(0, .ref (ad 0)), (1, .int 0), (2, .int 0)]) rfl ?_
  exact x_l2_G (fun v1 v2 σ τ => V σ τ 4 [(0, .ref (ad 0)), (1, .int v1), (2, .int v2)] []) (fun K4 hK4 v1 v2 σ τ h => bX10_greatestPlatoon_4 X hK4 h) h
theorem dX10_lateSet_0 : decode cX10_lateSet 0 = .ok (.iconst 0, 1) := by decide +kernel
theorem dX10_lateSet_1 : decode cX10_lateSet 1 = .ok (.istore_n 1, 1) := by decide +kernel
theorem dX10_lateSet_2 : decode cX10_lateSet 2 = .ok (.iconst 0, 1) := by decide +kernel
theorem dX10_lateSet_3 : decode cX10_lateSet 3 = .ok (.istore_n 2, 1) := by decide +kernel
theorem dX10_lateSet_4 : decode cX10_lateSet 4 = .ok (.iload_n 2, 1) := by decide +kernel
theorem dX10_lateSet_5 : decode cX10_lateSet 5 = .ok (.aload_n 0, 1) := by decide +kernel
theorem dX10_lateSet_6 : decode cX10_lateSet 6 = .ok (.getfield 19, 3) := by decide +kernel
theorem dX10_lateSet_9 : decode cX10_lateSet 9 = .ok (.getfield 127, 3) := by decide +kernel
theorem dX10_lateSet_12 : decode cX10_lateSet 12 = .ok (.if_icmp .ge 26, 3) := by decide +kernel
theorem dX10_lateSet_15 : decode cX10_lateSet 15 = .ok (.aload_n 0, 1) := by decide +kernel
theorem dX10_lateSet_16 : decode cX10_lateSet 16 = .ok (.getfield 51, 3) := by decide +kernel
theorem dX10_lateSet_19 : decode cX10_lateSet 19 = .ok (.iload_n 2, 1) := by decide +kernel
theorem dX10_lateSet_20 : decode cX10_lateSet 20 = .ok (.invokevirtual 186, 3) := by decide +kernel
theorem dX10_lateSet_23 : decode cX10_lateSet 23 = .ok (.ifCond .eq 9, 3) := by decide +kernel
theorem dX10_lateSet_26 : decode cX10_lateSet 26 = .ok (.iload_n 1, 1) := by decide +kernel
theorem dX10_lateSet_27 : decode cX10_lateSet 27 = .ok (.iconst 1, 1) := by decide +kernel
theorem dX10_lateSet_28 : decode cX10_lateSet 28 = .ok (.iload_n 2, 1) := by decide +kernel
theorem dX10_lateSet_29 : decode cX10_lateSet 29 = .ok (.ishl, 1) := by decide +kernel
theorem dX10_lateSet_30 : decode cX10_lateSet 30 = .ok (.ior, 1) := by decide +kernel
theorem dX10_lateSet_31 : decode cX10_lateSet 31 = .ok (.istore_n 1, 1) := by decide +kernel
theorem dX10_lateSet_32 : decode cX10_lateSet 32 = .ok (.iinc 2 1, 3) := by decide +kernel
theorem dX10_lateSet_35 : decode cX10_lateSet 35 = .ok (.goto (-31), 3) := by decide +kernel
theorem dX10_lateSet_38 : decode cX10_lateSet 38 = .ok (.iload_n 1, 1) := by decide +kernel
theorem dX10_lateSet_39 : decode cX10_lateSet 39 = .ok (.ireturn, 1) := by decide +kernel
theorem cm_X10_lateSet : x_CM yX10_lateSet cX10_lateSet 3 (Option.some FieldType.int) 0 := ⟨w_3_185, w_1_1, by decide +kernel, by decide +kernel⟩
theorem ci_X10_lateSet : x_CI yX10_lateSet 12 := ⟨w_3_184, wp_17, (RX10, TX10, 12), rfl, rfl⟩
set_option maxRecDepth 100000 in
set_option maxHeartbeats 4000000 in
theorem bX10_lateSet_32 {V : x_J} {ad : Nat → Nat} {Q : Int32 → x_S → x_L → Prop} (X : x_Is V cX10_lateSet 3 RX10 (Option.some FieldType.int) ad dsX 2 (x_PI Q)) {K4 : Int32 → Int32 → x_S → x_L → Prop} (hK4 : ∀ v1 v2 σ τ, K4 v1 v2 σ τ → V σ τ 4 [(0, .ref (ad 0)), (1, .int v1), (2, .int v2)] []) {v1 : Int32} {v2 : Int32} {σ : x_S} {τ : x_L} (h : wX10_lateSet_32 K4 Q v1 v2 σ τ) : V σ τ 32 [(0, .ref (ad 0)), (1, .int v1), (2, .int v2)] [] := by
  refine x_iinc X (k := 2) (lv' := [(2, .int (v2 + 1)), (0, .ref (ad 0)), (1, .int v1)]) dX10_lateSet_32 rfl ki_1 (by decide) rfl ?_
  refine x_goto X (tgt := 4) dX10_lateSet_35 (by decide) ?_
  refine x_sub X [1, 2, 0] (lv' := [(0, .ref (ad 0)), (1, .int v1), (2, .int (v2 + 1))]) rfl ?_
  exact hK4 _ _ _ _ h
set_option maxRecDepth 100000 in
set_option maxHeartbeats 4000000 in
theorem bX10_lateSet_4 {V : x_J} {ad : Nat → Nat} {Q : Int32 → x_S → x_L → Prop} (X : x_Is V cX10_lateSet 3 RX10 (Option.some FieldType.int) ad dsX 2 (x_PI Q)) {K4 : Int32 → Int32 → x_S → x_L → Prop} (hK4 : ∀ v1 v2 σ τ, K4 v1 v2 σ τ → V σ τ 4 [(0, .ref (ad 0)), (1, .int v1), (2, .int v2)] []) {v1 : Int32} {v2 : Int32} {σ : x_S} {τ : x_L} (h : wX10_lateSet_4 Q K4 v1 v2 σ τ) : V σ τ 4 [(0, .ref (ad 0)), (1, .int v1), (2, .int v2)] [] := by
  refine x_iload_n X dX10_lateSet_4 rfl 2 rfl ?_
  refine x_aload_n X dX10_lateSet_5 rfl 0 rfl ?_
  refine x_getR X (j := 3) dX10_lateSet_6 fl_10_19 dsX_0 rfl ?_
  refine x_getI X dX10_lateSet_9 fl_10_127 dsX_3 rfl ?_
  refine x_icmp_ge X 38 dX10_lateSet_12 (by decide) (fun hc => ?_) (fun hc => ?_)
  · have h := h.1 hc
    refine x_iload_n X dX10_lateSet_38 rfl 1 rfl ?_
    exact x_iret X dX10_lateSet_39 ⟨_, rfl, h⟩
  · have h := h.2 hc
    refine x_aload_n X dX10_lateSet_15 rfl 0 rfl ?_
    refine x_getR X (j := 33) dX10_lateSet_16 fl_10_51 dsX_0 rfl ?_
    refine x_iload_n X dX10_lateSet_19 rfl 2 rfl ?_
    refine x_callVi X [.int v2] [] dX10_lateSet_20 (kX6_isLate x_pl33 h) cm_X6_isLate ci_X6_isLate w_3_186 dsX_33 ⟨by decide, by decide⟩ rfl (Nat.le_of_ble_eq_true rfl) (fun r20 σ20 τ20 h => ?_)
    refine x_if_eq X 32 dX10_lateSet_23 (by decide) (fun hc => ?_) (fun hc => ?_)
    · have h := h.1 hc
      exact bX10_lateSet_32 X hK4 h
    · have h := h.2 hc
      refine x_iload_n X dX10_lateSet_26 rfl 1 rfl ?_
      refine x_iconst X dX10_lateSet_27 ki_1 ?_
      refine x_iload_n X dX10_lateSet_28 rfl 2 rfl ?_
      refine x_ishl X dX10_lateSet_29 ?_
      refine x_ior X dX10_lateSet_30 ?_
      refine x_istore_n X (lv' := [(1, .int (v1 ||| (1 <<< (v2 &&& 31)))), (0, .ref (ad 0)), (2, .int v2)]) dX10_lateSet_31 rfl (by decide) rfl ?_
      refine x_sub X [1, 0, 2] (lv' := [(0, .ref (ad 0)), (1, .int (v1 ||| (1 <<< (v2 &&& 31)))), (2, .int v2)]) rfl ?_
      exact bX10_lateSet_32 X hK4 h
set_option maxRecDepth 100000 in
set_option maxHeartbeats 4000000 in
theorem kX10_lateSet {ad : Nat → Nat} {σ : x_S} {τ : x_L} {Q : Int32 → x_S → x_L → Prop} (h : wX10_lateSet σ τ Q) : x_Met yX10_lateSet cX10_lateSet 3 (Option.some FieldType.int) 2 ad dsX [.ref (ad 0)] σ τ (x_PI Q) := by
  refine x_met (by decide +kernel) (Nat.le_of_ble_eq_true rfl) (fun V X => ?_)
  have X : x_Is V cX10_lateSet 3 RX10 (Option.some FieldType.int) ad dsX 2 (x_PI Q) := X
  show V σ τ 0 [(0, .ref (ad 0))] []
  refine x_iconst X dX10_lateSet_0 ki_0 ?_
  refine x_istore_n X (lv' := [(1, .int 0), (0, .ref (ad 0))]) dX10_lateSet_1 rfl (by decide) rfl ?_
  refine x_iconst X dX10_lateSet_2 ki_0 ?_
  refine x_istore_n X (lv' := [(2, .int 0), (1, .int 0), (0, .ref (ad 0))]) dX10_lateSet_3 rfl (by decide) rfl ?_
  refine x_sub X [2, 1, 0] (lv' := [(0, .ref (ad 0)), (1, .int 0), (2, .int 0)]) rfl ?_
  exact x_l2_G (fun v1 v2 σ τ => V σ τ 4 [(0, .ref (ad 0)), (1, .int v1), (2, .int v2)] []) (fun K4 hK4 v1 v2 σ τ h => bX10_lateSet_4 X hK4 h) h
theorem dX10_changeWait_0 : decode cX10_changeWait 0 = .ok (.aload_n 0, 1) := by decide +kernel
theorem dX10_changeWait_1 : decode cX10_changeWait 1 = .ok (.getfield 79, 3) := by decide +kernel
theorem dX10_changeWait_4 : decode cX10_changeWait 4 = .ok (.aload_n 0, 1) := by decide +kernel
theorem dX10_changeWait_5 : decode cX10_changeWait 5 = .ok (.getfield 51, 3) := by decide +kernel
theorem dX10_changeWait_8 : decode cX10_changeWait 8 = .ok (.invokevirtual 336, 3) := by decide +kernel
theorem dX10_changeWait_11 : decode cX10_changeWait 11 = .ok (.aload_n 0, 1) := by decide +kernel
theorem dX10_changeWait_12 : decode cX10_changeWait 12 = .ok (.getfield 51, 3) := by decide +kernel
theorem dX10_changeWait_15 : decode cX10_changeWait 15 = .ok (.getfield 249, 3) := by decide +kernel
theorem dX10_changeWait_18 : decode cX10_changeWait 18 = .ok (.iload_n 1, 1) := by decide +kernel
theorem dX10_changeWait_19 : decode cX10_changeWait 19 = .ok (.iaload, 1) := by decide +kernel
theorem dX10_changeWait_20 : decode cX10_changeWait 20 = .ok (.istore_n 3, 1) := by decide +kernel
theorem dX10_changeWait_21 : decode cX10_changeWait 21 = .ok (.aload_n 0, 1) := by decide +kernel
theorem dX10_changeWait_22 : decode cX10_changeWait 22 = .ok (.getfield 51, 3) := by decide +kernel
theorem dX10_changeWait_25 : decode cX10_changeWait 25 = .ok (.getfield 249, 3) := by decide +kernel
theorem dX10_changeWait_28 : decode cX10_changeWait 28 = .ok (.iload_n 1, 1) := by decide +kernel
theorem dX10_changeWait_29 : decode cX10_changeWait 29 = .ok (.iload_n 2, 1) := by decide +kernel
theorem dX10_changeWait_30 : decode cX10_changeWait 30 = .ok (.iastore, 1) := by decide +kernel
theorem dX10_changeWait_31 : decode cX10_changeWait 31 = .ok (.aload_n 0, 1) := by decide +kernel
theorem dX10_changeWait_32 : decode cX10_changeWait 32 = .ok (.getfield 51, 3) := by decide +kernel
theorem dX10_changeWait_35 : decode cX10_changeWait 35 = .ok (.invokevirtual 339, 3) := by decide +kernel
theorem dX10_changeWait_38 : decode cX10_changeWait 38 = .ok (.iload_n 3, 1) := by decide +kernel
theorem dX10_changeWait_39 : decode cX10_changeWait 39 = .ok (.ireturn, 1) := by decide +kernel
theorem cm_X10_changeWait : x_CM yX10_changeWait cX10_changeWait 4 (Option.some FieldType.int) 2 := ⟨w_4_111, w_1_1, by decide +kernel, by decide +kernel⟩
theorem ci_X10_changeWait : x_CI yX10_changeWait 12 := ⟨w_4_110, wp_25, (RX10, TX10, 12), rfl, rfl⟩
set_option maxRecDepth 100000 in
set_option maxHeartbeats 4000000 in
theorem kX10_changeWait {ad : Nat → Nat} {a1 : Int32} {a2 : Int32} {σ : x_S} {τ : x_L} {Q : Int32 → x_S → x_L → Prop} (h : wX10_changeWait a1 a2 σ τ Q) : x_Met yX10_changeWait cX10_changeWait 4 (Option.some FieldType.int) 4 ad dsX [.ref (ad 0), .int a1, .int a2] σ τ (x_PI Q) := by
  refine x_met (by decide +kernel) (Nat.le_of_ble_eq_true rfl) (fun V X => ?_)
  have X : x_Is V cX10_changeWait 4 RX10 (Option.some FieldType.int) ad dsX 4 (x_PI Q) := X
  show V σ τ 0 [(0, .ref (ad 0)), (1, .int a1), (2, .int a2)] []
  refine x_aload_n X dX10_changeWait_0 rfl 0 rfl ?_
  refine x_getR X (j := 63) dX10_changeWait_1 fl_10_79 dsX_0 rfl ?_
  refine x_aload_n X dX10_changeWait_4 rfl 0 rfl ?_
  refine x_getR X (j := 33) dX10_changeWait_5 fl_10_51 dsX_0 rfl ?_
  refine x_callVv X [.ref (ad 33)] [] dX10_changeWait_8 (kX2_keep x_pl33 h) cm_X2_keep ci_X2_keep w_3_223 dsX_63 ⟨by decide, by decide⟩ rfl (Nat.le_of_ble_eq_true rfl) (fun σ8 τ8 h => ?_)
  refine x_aload_n X dX10_changeWait_11 rfl 0 rfl ?_
  refine x_getR X (j := 33) dX10_changeWait_12 fl_10_51 dsX_0 rfl ?_
  refine x_getR X (j := 35) dX10_changeWait_15 fl_10_249 dsX_33 rfl ?_
  refine x_iload_n X dX10_changeWait_18 rfl 1 rfl ?_
  have g19 := h.1
  have h := h.2
  refine x_iald X dX10_changeWait_19 dsX_35 g19 ?_
  refine x_istore_n X (lv' := [(3, .int (σ8 35 a1.toNatClampNeg)), (0, .ref (ad 0)), (1, .int a1), (2, .int a2)]) dX10_changeWait_20 rfl (by decide) rfl ?_
  refine x_aload_n X dX10_changeWait_21 rfl 1 rfl ?_
  refine x_getR X (j := 33) dX10_changeWait_22 fl_10_51 dsX_0 rfl ?_
  refine x_getR X (j := 35) dX10_changeWait_25 fl_10_249 dsX_33 rfl ?_
  refine x_iload_n X dX10_changeWait_28 rfl 2 rfl ?_
  refine x_iload_n X dX10_changeWait_29 rfl 3 rfl ?_
  refine x_iast X dX10_changeWait_30 dsX_35 g19 ?_
  refine x_aload_n X dX10_changeWait_31 rfl 1 rfl ?_
  refine x_getR X (j := 33) dX10_changeWait_32 fl_10_51 dsX_0 rfl ?_
  refine x_callVv X [] [] dX10_changeWait_35 (kX6_arrange x_pl33 h) cm_X6_arrange ci_X6_arrange w_4_26 dsX_33 ⟨by decide, by decide⟩ rfl (Nat.le_of_ble_eq_true rfl) (fun σ35 τ35 h => ?_)
  refine x_iload_n X dX10_changeWait_38 rfl 0 rfl ?_
  exact x_iret X dX10_changeWait_39 ⟨_, rfl, h⟩
theorem dX10_changeSpeed_0 : decode cX10_changeSpeed 0 = .ok (.aload_n 0, 1) := by decide +kernel
theorem dX10_changeSpeed_1 : decode cX10_changeSpeed 1 = .ok (.getfield 79, 3) := by decide +kernel
theorem dX10_changeSpeed_4 : decode cX10_changeSpeed 4 = .ok (.aload_n 0, 1) := by decide +kernel
theorem dX10_changeSpeed_5 : decode cX10_changeSpeed 5 = .ok (.getfield 51, 3) := by decide +kernel
theorem dX10_changeSpeed_8 : decode cX10_changeSpeed 8 = .ok (.invokevirtual 336, 3) := by decide +kernel
theorem dX10_changeSpeed_11 : decode cX10_changeSpeed 11 = .ok (.aload_n 0, 1) := by decide +kernel
theorem dX10_changeSpeed_12 : decode cX10_changeSpeed 12 = .ok (.getfield 51, 3) := by decide +kernel
theorem dX10_changeSpeed_15 : decode cX10_changeSpeed 15 = .ok (.getfield 252, 3) := by decide +kernel
theorem dX10_changeSpeed_18 : decode cX10_changeSpeed 18 = .ok (.iload_n 1, 1) := by decide +kernel
theorem dX10_changeSpeed_19 : decode cX10_changeSpeed 19 = .ok (.iaload, 1) := by decide +kernel
theorem dX10_changeSpeed_20 : decode cX10_changeSpeed 20 = .ok (.istore_n 3, 1) := by decide +kernel
theorem dX10_changeSpeed_21 : decode cX10_changeSpeed 21 = .ok (.aload_n 0, 1) := by decide +kernel
theorem dX10_changeSpeed_22 : decode cX10_changeSpeed 22 = .ok (.getfield 51, 3) := by decide +kernel
theorem dX10_changeSpeed_25 : decode cX10_changeSpeed 25 = .ok (.getfield 252, 3) := by decide +kernel
theorem dX10_changeSpeed_28 : decode cX10_changeSpeed 28 = .ok (.iload_n 1, 1) := by decide +kernel
theorem dX10_changeSpeed_29 : decode cX10_changeSpeed 29 = .ok (.iload_n 2, 1) := by decide +kernel
theorem dX10_changeSpeed_30 : decode cX10_changeSpeed 30 = .ok (.iastore, 1) := by decide +kernel
theorem dX10_changeSpeed_31 : decode cX10_changeSpeed 31 = .ok (.aload_n 0, 1) := by decide +kernel
theorem dX10_changeSpeed_32 : decode cX10_changeSpeed 32 = .ok (.getfield 51, 3) := by decide +kernel
theorem dX10_changeSpeed_35 : decode cX10_changeSpeed 35 = .ok (.invokevirtual 339, 3) := by decide +kernel
theorem dX10_changeSpeed_38 : decode cX10_changeSpeed 38 = .ok (.iload_n 3, 1) := by decide +kernel
theorem dX10_changeSpeed_39 : decode cX10_changeSpeed 39 = .ok (.ireturn, 1) := by decide +kernel
theorem cm_X10_changeSpeed : x_CM yX10_changeSpeed cX10_changeSpeed 4 (Option.some FieldType.int) 2 := ⟨w_4_119, w_1_1, by decide +kernel, by decide +kernel⟩
theorem ci_X10_changeSpeed : x_CI yX10_changeSpeed 12 := ⟨w_4_118, wp_27, (RX10, TX10, 12), rfl, rfl⟩
set_option maxRecDepth 100000 in
set_option maxHeartbeats 4000000 in
theorem kX10_changeSpeed {ad : Nat → Nat} {a1 : Int32} {a2 : Int32} {σ : x_S} {τ : x_L} {Q : Int32 → x_S → x_L → Prop} (h : wX10_changeSpeed a1 a2 σ τ Q) : x_Met yX10_changeSpeed cX10_changeSpeed 4 (Option.some FieldType.int) 4 ad dsX [.ref (ad 0), .int a1, .int a2] σ τ (x_PI Q) := by
  refine x_met (by decide +kernel) (Nat.le_of_ble_eq_true rfl) (fun V X => ?_)
  have X : x_Is V cX10_changeSpeed 4 RX10 (Option.some FieldType.int) ad dsX 4 (x_PI Q) := X
  show V σ τ 0 [(0, .ref (ad 0)), (1, .int a1), (2, .int a2)] []
  refine x_aload_n X dX10_changeSpeed_0 rfl 0 rfl ?_
  refine x_getR X (j := 63) dX10_changeSpeed_1 fl_10_79 dsX_0 rfl ?_
  refine x_aload_n X dX10_changeSpeed_4 rfl 0 rfl ?_
  refine x_getR X (j := 33) dX10_changeSpeed_5 fl_10_51 dsX_0 rfl ?_
  refine x_callVv X [.ref (ad 33)] [] dX10_changeSpeed_8 (kX2_keep x_pl33 h) cm_X2_keep ci_X2_keep w_3_223 dsX_63 ⟨by decide, by decide⟩ rfl (Nat.le_of_ble_eq_true rfl) (fun σ8 τ8 h => ?_)
  refine x_aload_n X dX10_changeSpeed_11 rfl 0 rfl ?_
  refine x_getR X (j := 33) dX10_changeSpeed_12 fl_10_51 dsX_0 rfl ?_
  refine x_getR X (j := 36) dX10_changeSpeed_15 fl_10_252 dsX_33 rfl ?_
  refine x_iload_n X dX10_changeSpeed_18 rfl 1 rfl ?_
  have g19 := h.1
  have h := h.2
  refine x_iald X dX10_changeSpeed_19 dsX_36 g19 ?_
  refine x_istore_n X (lv' := [(3, .int (σ8 36 a1.toNatClampNeg)), (0, .ref (ad 0)), (1, .int a1), (2, .int a2)]) dX10_changeSpeed_20 rfl (by decide) rfl ?_
  refine x_aload_n X dX10_changeSpeed_21 rfl 1 rfl ?_
  refine x_getR X (j := 33) dX10_changeSpeed_22 fl_10_51 dsX_0 rfl ?_
  refine x_getR X (j := 36) dX10_changeSpeed_25 fl_10_252 dsX_33 rfl ?_
  refine x_iload_n X dX10_changeSpeed_28 rfl 2 rfl ?_
  refine x_iload_n X dX10_changeSpeed_29 rfl 3 rfl ?_
  refine x_iast X dX10_changeSpeed_30 dsX_36 g19 ?_
  refine x_aload_n X dX10_changeSpeed_31 rfl 1 rfl ?_
  refine x_getR X (j := 33) dX10_changeSpeed_32 fl_10_51 dsX_0 rfl ?_
  refine x_callVv X [] [] dX10_changeSpeed_35 (kX6_arrange x_pl33 h) cm_X6_arrange ci_X6_arrange w_4_26 dsX_33 ⟨by decide, by decide⟩ rfl (Nat.le_of_ble_eq_true rfl) (fun σ35 τ35 h => ?_)
  refine x_iload_n X dX10_changeSpeed_38 rfl 0 rfl ?_
  exact x_iret X dX10_changeSpeed_39 ⟨_, rfl, h⟩
theorem dX10_changeStart_0 : decode cX10_changeStart 0 = .ok (.aload_n 0, 1) := by decide +kernel
theorem dX10_changeStart_1 : decode cX10_changeStart 1 = .ok (.getfield 79, 3) := by decide +kernel
theorem dX10_changeStart_4 : decode cX10_changeStart 4 = .ok (.aload_n 0, 1) := by decide +kernel
theorem dX10_changeStart_5 : decode cX10_changeStart 5 = .ok (.getfield 51, 3) := by decide +kernel
theorem dX10_changeStart_8 : decode cX10_changeStart 8 = .ok (.invokevirtual 336, 3) := by decide +kernel
theorem dX10_changeStart_11 : decode cX10_changeStart 11 = .ok (.aload_n 0, 1) := by decide +kernel
theorem dX10_changeStart_12 : decode cX10_changeStart 12 = .ok (.getfield 51, 3) := by decide +kernel
theorem dX10_changeStart_15 : decode cX10_changeStart 15 = .ok (.getfield 212, 3) := by decide +kernel
theorem dX10_changeStart_18 : decode cX10_changeStart 18 = .ok (.iload_n 1, 1) := by decide +kernel
theorem dX10_changeStart_19 : decode cX10_changeStart 19 = .ok (.iaload, 1) := by decide +kernel
theorem dX10_changeStart_20 : decode cX10_changeStart 20 = .ok (.istore_n 3, 1) := by decide +kernel
theorem dX10_changeStart_21 : decode cX10_changeStart 21 = .ok (.aload_n 0, 1) := by decide +kernel
theorem dX10_changeStart_22 : decode cX10_changeStart 22 = .ok (.getfield 51, 3) := by decide +kernel
theorem dX10_changeStart_25 : decode cX10_changeStart 25 = .ok (.getfield 212, 3) := by decide +kernel
theorem dX10_changeStart_28 : decode cX10_changeStart 28 = .ok (.iload_n 1, 1) := by decide +kernel
theorem dX10_changeStart_29 : decode cX10_changeStart 29 = .ok (.iload_n 2, 1) := by decide +kernel
theorem dX10_changeStart_30 : decode cX10_changeStart 30 = .ok (.iastore, 1) := by decide +kernel
theorem dX10_changeStart_31 : decode cX10_changeStart 31 = .ok (.aload_n 0, 1) := by decide +kernel
theorem dX10_changeStart_32 : decode cX10_changeStart 32 = .ok (.getfield 51, 3) := by decide +kernel
theorem dX10_changeStart_35 : decode cX10_changeStart 35 = .ok (.invokevirtual 339, 3) := by decide +kernel
theorem dX10_changeStart_38 : decode cX10_changeStart 38 = .ok (.iload_n 3, 1) := by decide +kernel
theorem dX10_changeStart_39 : decode cX10_changeStart 39 = .ok (.ireturn, 1) := by decide +kernel
theorem cm_X10_changeStart : x_CM yX10_changeStart cX10_changeStart 4 (Option.some FieldType.int) 2 := ⟨w_4_123, w_1_1, by decide +kernel, by decide +kernel⟩
theorem ci_X10_changeStart : x_CI yX10_changeStart 12 := ⟨w_4_122, wp_28, (RX10, TX10, 12), rfl, rfl⟩
set_option maxRecDepth 100000 in
set_option maxHeartbeats 4000000 in
theorem kX10_changeStart {ad : Nat → Nat} {a1 : Int32} {a2 : Int32} {σ : x_S} {τ : x_L} {Q : Int32 → x_S → x_L → Prop} (h : wX10_changeStart a1 a2 σ τ Q) : x_Met yX10_changeStart cX10_changeStart 4 (Option.some FieldType.int) 4 ad dsX [.ref (ad 0), .int a1, .int a2] σ τ (x_PI Q) := by
  refine x_met (by decide +kernel) (Nat.le_of_ble_eq_true rfl) (fun V X => ?_)
  have X : x_Is V cX10_changeStart 4 RX10 (Option.some FieldType.int) ad dsX 4 (x_PI Q) := X
  show V σ τ 0 [(0, .ref (ad 0)), (1, .int a1), (2, .int a2)] []
  refine x_aload_n X dX10_changeStart_0 rfl 0 rfl ?_
  refine x_getR X (j := 63) dX10_changeStart_1 fl_10_79 dsX_0 rfl ?_
  refine x_aload_n X dX10_changeStart_4 rfl 0 rfl ?_
  refine x_getR X (j := 33) dX10_changeStart_5 fl_10_51 dsX_0 rfl ?_
  refine x_callVv X [.ref (ad 33)] [] dX10_changeStart_8 (kX2_keep x_pl33 h) cm_X2_keep ci_X2_keep w_3_223 dsX_63 ⟨by decide, by decide⟩ rfl (Nat.le_of_ble_eq_true rfl) (fun σ8 τ8 h => ?_)
  refine x_aload_n X dX10_changeStart_11 rfl 0 rfl ?_
  refine x_getR X (j := 33) dX10_changeStart_12 fl_10_51 dsX_0 rfl ?_
  refine x_getR X (j := 34) dX10_changeStart_15 fl_10_212 dsX_33 rfl ?_
  refine x_iload_n X dX10_changeStart_18 rfl 1 rfl ?_
  have g19 := h.1
  have h := h.2
  refine x_iald X dX10_changeStart_19 dsX_34 g19 ?_
  refine x_istore_n X (lv' := [(3, .int (σ8 34 a1.toNatClampNeg)), (0, .ref (ad 0)), (1, .int a1), (2, .int a2)]) dX10_changeStart_20 rfl (by decide) rfl ?_
  refine x_aload_n X dX10_changeStart_21 rfl 1 rfl ?_
  refine x_getR X (j := 33) dX10_changeStart_22 fl_10_51 dsX_0 rfl ?_
  refine x_getR X (j := 34) dX10_changeStart_25 fl_10_212 dsX_33 rfl ?_
  refine x_iload_n X dX10_changeStart_28 rfl 2 rfl ?_
  refine x_iload_n X dX10_changeStart_29 rfl 3 rfl ?_
  refine x_iast X dX10_changeStart_30 dsX_34 g19 ?_
  refine x_aload_n X dX10_changeStart_31 rfl 1 rfl ?_
  refine x_getR X (j := 33) dX10_changeStart_32 fl_10_51 dsX_0 rfl ?_
  refine x_callVv X [] [] dX10_changeStart_35 (kX6_arrange x_pl33 h) cm_X6_arrange ci_X6_arrange w_4_26 dsX_33 ⟨by decide, by decide⟩ rfl (Nat.le_of_ble_eq_true rfl) (fun σ35 τ35 h => ?_)
  refine x_iload_n X dX10_changeStart_38 rfl 0 rfl ?_
  exact x_iret X dX10_changeStart_39 ⟨_, rfl, h⟩
theorem dX10_mergeTwo_0 : decode cX10_mergeTwo 0 = .ok (.aload_n 0, 1) := by decide +kernel
theorem dX10_mergeTwo_1 : decode cX10_mergeTwo 1 = .ok (.getfield 63, 3) := by decide +kernel
theorem dX10_mergeTwo_4 : decode cX10_mergeTwo 4 = .ok (.iload_n 1, 1) := by decide +kernel
theorem dX10_mergeTwo_5 : decode cX10_mergeTwo 5 = .ok (.iload_n 2, 1) := by decide +kernel
theorem dX10_mergeTwo_6 : decode cX10_mergeTwo 6 = .ok (.invokevirtual 348, 3) := by decide +kernel
theorem dX10_mergeTwo_9 : decode cX10_mergeTwo 9 = .ok (.ifCond .eq 6, 3) := by decide +kernel
theorem dX10_mergeTwo_12 : decode cX10_mergeTwo 12 = .ok (.bipush (-3), 2) := by decide +kernel
theorem dX10_mergeTwo_14 : decode cX10_mergeTwo 14 = .ok (.ireturn, 1) := by decide +kernel
theorem dX10_mergeTwo_15 : decode cX10_mergeTwo 15 = .ok (.aload_n 0, 1) := by decide +kernel
theorem dX10_mergeTwo_16 : decode cX10_mergeTwo 16 = .ok (.getfield 79, 3) := by decide +kernel
theorem dX10_mergeTwo_19 : decode cX10_mergeTwo 19 = .ok (.aload_n 0, 1) := by decide +kernel
theorem dX10_mergeTwo_20 : decode cX10_mergeTwo 20 = .ok (.getfield 51, 3) := by decide +kernel
theorem dX10_mergeTwo_23 : decode cX10_mergeTwo 23 = .ok (.invokevirtual 336, 3) := by decide +kernel
theorem dX10_mergeTwo_26 : decode cX10_mergeTwo 26 = .ok (.aload_n 0, 1) := by decide +kernel
theorem dX10_mergeTwo_27 : decode cX10_mergeTwo 27 = .ok (.getfield 51, 3) := by decide +kernel
theorem dX10_mergeTwo_30 : decode cX10_mergeTwo 30 = .ok (.aload_n 0, 1) := by decide +kernel
theorem dX10_mergeTwo_31 : decode cX10_mergeTwo 31 = .ok (.getfield 55, 3) := by decide +kernel
theorem dX10_mergeTwo_34 : decode cX10_mergeTwo 34 = .ok (.invokevirtual 354, 3) := by decide +kernel
theorem dX10_mergeTwo_37 : decode cX10_mergeTwo 37 = .ok (.aload_n 0, 1) := by decide +kernel
theorem dX10_mergeTwo_38 : decode cX10_mergeTwo 38 = .ok (.getfield 51, 3) := by decide +kernel
theorem dX10_mergeTwo_41 : decode cX10_mergeTwo 41 = .ok (.invokevirtual 339, 3) := by decide +kernel
theorem dX10_mergeTwo_44 : decode cX10_mergeTwo 44 = .ok (.aload_n 0, 1) := by decide +kernel
theorem dX10_mergeTwo_45 : decode cX10_mergeTwo 45 = .ok (.getfield 63, 3) := by decide +kernel
theorem dX10_mergeTwo_48 : decode cX10_mergeTwo 48 = .ok (.getfield 324, 3) := by decide +kernel
theorem dX10_mergeTwo_51 : decode cX10_mergeTwo 51 = .ok (.ireturn, 1) := by decide +kernel
theorem cm_X10_mergeTwo : x_CM yX10_mergeTwo cX10_mergeTwo 3 (Option.some FieldType.int) 2 := ⟨w_4_127, w_1_1, by decide +kernel, by decide +kernel⟩
theorem ci_X10_mergeTwo : x_CI yX10_mergeTwo 12 := ⟨w_4_126, wp_29, (RX10, TX10, 12), rfl, rfl⟩
set_option maxRecDepth 100000 in
set_option maxHeartbeats 4000000 in
theorem kX10_mergeTwo {ad : Nat → Nat} {a1 : Int32} {a2 : Int32} {σ : x_S} {τ : x_L} {Q : Int32 → x_S → x_L → Prop} (h : wX10_mergeTwo a1 a2 σ τ Q) : x_Met yX10_mergeTwo cX10_mergeTwo 3 (Option.some FieldType.int) 4 ad dsX [.ref (ad 0), .int a1, .int a2] σ τ (x_PI Q) := by
  refine x_met (by decide +kernel) (Nat.le_of_ble_eq_true rfl) (fun V X => ?_)
  have X : x_Is V cX10_mergeTwo 3 RX10 (Option.some FieldType.int) ad dsX 4 (x_PI Q) := X
  show V σ τ 0 [(0, .ref (ad 0)), (1, .int a1), (2, .int a2)] []
  refine x_aload_n X dX10_mergeTwo_0 rfl 0 rfl ?_
  refine x_getR X (j := 59) dX10_mergeTwo_1 fl_10_63 dsX_0 rfl ?_
  refine x_iload_n X dX10_mergeTwo_4 rfl 1 rfl ?_
  refine x_iload_n X dX10_mergeTwo_5 rfl 2 rfl ?_
  refine x_callVi X [.int a1, .int a2] [] dX10_mergeTwo_6 (kX4_attempt h) cm_X4_attempt ci_X4_attempt w_3_236 dsX_59 ⟨by decide, by decide⟩ rfl (Nat.le_of_ble_eq_true rfl) (fun r6 σ6 τ6 h => ?_)
  refine x_if_eq X 15 dX10_mergeTwo_9 (by decide) (fun hc => ?_) (fun hc => ?_)
  · have h := h.1 hc
    refine x_aload_n X dX10_mergeTwo_15 rfl 0 rfl ?_
    refine x_getR X (j := 63) dX10_mergeTwo_16 fl_10_79 dsX_0 rfl ?_
    refine x_aload_n X dX10_mergeTwo_19 rfl 0 rfl ?_
    refine x_getR X (j := 33) dX10_mergeTwo_20 fl_10_51 dsX_0 rfl ?_
    refine x_callVv X [.ref (ad 33)] [] dX10_mergeTwo_23 (kX2_keep x_pl33 h) cm_X2_keep ci_X2_keep w_3_223 dsX_63 ⟨by decide, by decide⟩ rfl (Nat.le_of_ble_eq_true rfl) (fun σ23 τ23 h => ?_)
    refine x_aload_n X dX10_mergeTwo_26 rfl 0 rfl ?_
    refine x_getR X (j := 33) dX10_mergeTwo_27 fl_10_51 dsX_0 rfl ?_
    refine x_aload_n X dX10_mergeTwo_30 rfl 0 rfl ?_
    refine x_getR X (j := 46) dX10_mergeTwo_31 fl_10_55 dsX_0 rfl ?_
    refine x_callVv X [.ref (ad 46)] [] dX10_mergeTwo_34 (kX6_copyChoices x_pl33 x_pl46 h) cm_X6_copyChoices ci_X6_copyChoices w_4_27 dsX_33 ⟨by decide, by decide⟩ rfl (Nat.le_of_ble_eq_true rfl) (fun σ34 τ34 h => ?_)
    refine x_aload_n X dX10_mergeTwo_37 rfl 0 rfl ?_
    refine x_getR X (j := 33) dX10_mergeTwo_38 fl_10_51 dsX_0 rfl ?_
    refine x_callVv X [] [] dX10_mergeTwo_41 (kX6_arrange x_pl33 h) cm_X6_arrange ci_X6_arrange w_4_26 dsX_33 ⟨by decide, by decide⟩ rfl (Nat.le_of_ble_eq_true rfl) (fun σ41 τ41 h => ?_)
    refine x_aload_n X dX10_mergeTwo_44 rfl 0 rfl ?_
    refine x_getR X (j := 59) dX10_mergeTwo_45 fl_10_63 dsX_0 rfl ?_
    refine x_getI X dX10_mergeTwo_48 fl_10_324 dsX_59 rfl ?_
    exact x_iret X dX10_mergeTwo_51 ⟨_, rfl, h⟩
  · have h := h.2 hc
    refine x_bipush X dX10_mergeTwo_12 kb_m3 ?_
    exact x_iret X dX10_mergeTwo_14 ⟨_, rfl, h⟩
theorem dX10_mergeBestTwo_0 : decode cX10_mergeBestTwo 0 = .ok (.aload_n 0, 1) := by decide +kernel
theorem dX10_mergeBestTwo_1 : decode cX10_mergeBestTwo 1 = .ok (.getfield 51, 3) := by decide +kernel
theorem dX10_mergeBestTwo_4 : decode cX10_mergeBestTwo 4 = .ok (.getfield 155, 3) := by decide +kernel
theorem dX10_mergeBestTwo_7 : decode cX10_mergeBestTwo 7 = .ok (.istore_n 1, 1) := by decide +kernel
theorem dX10_mergeBestTwo_8 : decode cX10_mergeBestTwo 8 = .ok (.iconst (-1), 1) := by decide +kernel
theorem dX10_mergeBestTwo_9 : decode cX10_mergeBestTwo 9 = .ok (.istore_n 2, 1) := by decide +kernel
theorem dX10_mergeBestTwo_10 : decode cX10_mergeBestTwo 10 = .ok (.iconst (-1), 1) := by decide +kernel
theorem dX10_mergeBestTwo_11 : decode cX10_mergeBestTwo 11 = .ok (.istore_n 3, 1) := by decide +kernel
theorem dX10_mergeBestTwo_12 : decode cX10_mergeBestTwo 12 = .ok (.iconst 0, 1) := by decide +kernel
theorem dX10_mergeBestTwo_13 : decode cX10_mergeBestTwo 13 = .ok (.istore 4, 2) := by decide +kernel
theorem dX10_mergeBestTwo_15 : decode cX10_mergeBestTwo 15 = .ok (.iload 4, 2) := by decide +kernel
theorem dX10_mergeBestTwo_17 : decode cX10_mergeBestTwo 17 = .ok (.aload_n 0, 1) := by decide +kernel
theorem dX10_mergeBestTwo_18 : decode cX10_mergeBestTwo 18 = .ok (.getfield 19, 3) := by decide +kernel
theorem dX10_mergeBestTwo_21 : decode cX10_mergeBestTwo 21 = .ok (.getfield 127, 3) := by decide +kernel
theorem dX10_mergeBestTwo_24 : decode cX10_mergeBestTwo 24 = .ok (.if_icmp .ge 79, 3) := by decide +kernel
theorem dX10_mergeBestTwo_27 : decode cX10_mergeBestTwo 27 = .ok (.iload 4, 2) := by decide +kernel
theorem dX10_mergeBestTwo_29 : decode cX10_mergeBestTwo 29 = .ok (.iconst 1, 1) := by decide +kernel
theorem dX10_mergeBestTwo_30 : decode cX10_mergeBestTwo 30 = .ok (.iadd, 1) := by decide +kernel
theorem dX10_mergeBestTwo_31 : decode cX10_mergeBestTwo 31 = .ok (.istore 5, 2) := by decide +kernel
theorem dX10_mergeBestTwo_33 : decode cX10_mergeBestTwo 33 = .ok (.iload 5, 2) := by decide +kernel
theorem dX10_mergeBestTwo_35 : decode cX10_mergeBestTwo 35 = .ok (.aload_n 0, 1) := by decide +kernel
theorem dX10_mergeBestTwo_36 : decode cX10_mergeBestTwo 36 = .ok (.getfield 19, 3) := by decide +kernel
theorem dX10_mergeBestTwo_39 : decode cX10_mergeBestTwo 39 = .ok (.getfield 127, 3) := by decide +kernel
theorem dX10_mergeBestTwo_42 : decode cX10_mergeBestTwo 42 = .ok (.if_icmp .ge 55, 3) := by decide +kernel
theorem dX10_mergeBestTwo_45 : decode cX10_mergeBestTwo 45 = .ok (.aload_n 0, 1) := by decide +kernel
theorem dX10_mergeBestTwo_46 : decode cX10_mergeBestTwo 46 = .ok (.getfield 63, 3) := by decide +kernel
theorem dX10_mergeBestTwo_49 : decode cX10_mergeBestTwo 49 = .ok (.iload 4, 2) := by decide +kernel
theorem dX10_mergeBestTwo_51 : decode cX10_mergeBestTwo 51 = .ok (.iload 5, 2) := by decide +kernel
theorem dX10_mergeBestTwo_53 : decode cX10_mergeBestTwo 53 = .ok (.invokevirtual 348, 3) := by decide +kernel
theorem dX10_mergeBestTwo_56 : decode cX10_mergeBestTwo 56 = .ok (.ifCond .ne 35, 3) := by decide +kernel
theorem dX10_mergeBestTwo_59 : decode cX10_mergeBestTwo 59 = .ok (.aload_n 0, 1) := by decide +kernel
theorem dX10_mergeBestTwo_60 : decode cX10_mergeBestTwo 60 = .ok (.getfield 55, 3) := by decide +kernel
theorem dX10_mergeBestTwo_63 : decode cX10_mergeBestTwo 63 = .ok (.invokevirtual 339, 3) := by decide +kernel
theorem dX10_mergeBestTwo_66 : decode cX10_mergeBestTwo 66 = .ok (.aload_n 0, 1) := by decide +kernel
theorem dX10_mergeBestTwo_67 : decode cX10_mergeBestTwo 67 = .ok (.getfield 55, 3) := by decide +kernel
theorem dX10_mergeBestTwo_70 : decode cX10_mergeBestTwo 70 = .ok (.getfield 155, 3) := by decide +kernel
theorem dX10_mergeBestTwo_73 : decode cX10_mergeBestTwo 73 = .ok (.iload_n 1, 1) := by decide +kernel
theorem dX10_mergeBestTwo_74 : decode cX10_mergeBestTwo 74 = .ok (.if_icmp .ge 17, 3) := by decide +kernel
theorem dX10_mergeBestTwo_77 : decode cX10_mergeBestTwo 77 = .ok (.aload_n 0, 1) := by decide +kernel
theorem dX10_mergeBestTwo_78 : decode cX10_mergeBestTwo 78 = .ok (.getfield 55, 3) := by decide +kernel
theorem dX10_mergeBestTwo_81 : decode cX10_mergeBestTwo 81 = .ok (.getfield 155, 3) := by decide +kernel
theorem dX10_mergeBestTwo_84 : decode cX10_mergeBestTwo 84 = .ok (.istore_n 1, 1) := by decide +kernel
theorem dX10_mergeBestTwo_85 : decode cX10_mergeBestTwo 85 = .ok (.iload 4, 2) := by decide +kernel
theorem dX10_mergeBestTwo_87 : decode cX10_mergeBestTwo 87 = .ok (.istore_n 2, 1) := by decide +kernel
theorem dX10_mergeBestTwo_88 : decode cX10_mergeBestTwo 88 = .ok (.iload 5, 2) := by decide +kernel
theorem dX10_mergeBestTwo_90 : decode cX10_mergeBestTwo 90 = .ok (.istore_n 3, 1) := by decide +kernel
theorem dX10_mergeBestTwo_91 : decode cX10_mergeBestTwo 91 = .ok (.iinc 5 1, 3) := by decide +kernel
theorem dX10_mergeBestTwo_94 : decode cX10_mergeBestTwo 94 = .ok (.goto (-61), 3) := by decide +kernel
theorem dX10_mergeBestTwo_97 : decode cX10_mergeBestTwo 97 = .ok (.iinc 4 1, 3) := by decide +kernel
theorem dX10_mergeBestTwo_100 : decode cX10_mergeBestTwo 100 = .ok (.goto (-85), 3) := by decide +kernel
theorem dX10_mergeBestTwo_103 : decode cX10_mergeBestTwo 103 = .ok (.iload_n 2, 1) := by decide +kernel
theorem dX10_mergeBestTwo_104 : decode cX10_mergeBestTwo 104 = .ok (.iconst (-1), 1) := by decide +kernel
theorem dX10_mergeBestTwo_105 : decode cX10_mergeBestTwo 105 = .ok (.if_icmp .eq 15, 3) := by decide +kernel
theorem dX10_mergeBestTwo_108 : decode cX10_mergeBestTwo 108 = .ok (.aload_n 0, 1) := by decide +kernel
theorem dX10_mergeBestTwo_109 : decode cX10_mergeBestTwo 109 = .ok (.getfield 63, 3) := by decide +kernel
theorem dX10_mergeBestTwo_112 : decode cX10_mergeBestTwo 112 = .ok (.iload_n 2, 1) := by decide +kernel
theorem dX10_mergeBestTwo_113 : decode cX10_mergeBestTwo 113 = .ok (.iload_n 3, 1) := by decide +kernel
theorem dX10_mergeBestTwo_114 : decode cX10_mergeBestTwo 114 = .ok (.invokevirtual 348, 3) := by decide +kernel
theorem dX10_mergeBestTwo_117 : decode cX10_mergeBestTwo 117 = .ok (.ifCond .eq 5, 3) := by decide +kernel
theorem dX10_mergeBestTwo_120 : decode cX10_mergeBestTwo 120 = .ok (.iconst 0, 1) := by decide +kernel
theorem dX10_mergeBestTwo_121 : decode cX10_mergeBestTwo 121 = .ok (.ireturn, 1) := by decide +kernel
theorem dX10_mergeBestTwo_122 : decode cX10_mergeBestTwo 122 = .ok (.aload_n 0, 1) := by decide +kernel
theorem dX10_mergeBestTwo_123 : decode cX10_mergeBestTwo 123 = .ok (.getfield 51, 3) := by decide +kernel
theorem dX10_mergeBestTwo_126 : decode cX10_mergeBestTwo 126 = .ok (.aload_n 0, 1) := by decide +kernel
theorem dX10_mergeBestTwo_127 : decode cX10_mergeBestTwo 127 = .ok (.getfield 55, 3) := by decide +kernel
theorem dX10_mergeBestTwo_130 : decode cX10_mergeBestTwo 130 = .ok (.invokevirtual 354, 3) := by decide +kernel
theorem dX10_mergeBestTwo_133 : decode cX10_mergeBestTwo 133 = .ok (.aload_n 0, 1) := by decide +kernel
theorem dX10_mergeBestTwo_134 : decode cX10_mergeBestTwo 134 = .ok (.getfield 51, 3) := by decide +kernel
theorem dX10_mergeBestTwo_137 : decode cX10_mergeBestTwo 137 = .ok (.invokevirtual 339, 3) := by decide +kernel
theorem dX10_mergeBestTwo_140 : decode cX10_mergeBestTwo 140 = .ok (.iconst 1, 1) := by decide +kernel
theorem dX10_mergeBestTwo_141 : decode cX10_mergeBestTwo 141 = .ok (.ireturn, 1) := by decide +kernel
theorem cm_X10_mergeBestTwo : x_CM yX10_mergeBestTwo cX10_mergeBestTwo 6 (Option.some FieldType.boolean) 0 := ⟨w_3_235, w_1_1, by decide +kernel, by decide +kernel⟩
theorem ci_X10_mergeBestTwo : x_CI yX10_mergeBestTwo 12 := ⟨w_3_234, wp_20, (RX10, TX10, 12), rfl, rfl⟩
set_option maxRecDepth 100000 in
set_option maxHeartbeats 4000000 in
theorem bX10_mergeBestTwo_91 {V : x_J} {ad : Nat → Nat} {Q : Int32 → x_S → x_L → Prop} (X : x_Is V cX10_mergeBestTwo 6 RX10 (Option.some FieldType.boolean) ad dsX 4 (x_PI Q)) {K15 : Int32 → Int32 → Int32 → Int32 → x_S → x_L → Prop} {K33 : Int32 → Int32 → Int32 → Int32 → Int32 → x_S → x_L → Prop} (hK15 : ∀ v1 v2 v3 v4 σ τ, K15 v1 v2 v3 v4 σ τ → V σ τ 15 [(0, .ref (ad 0)), (1, .int v1), (2, .int v2), (3, .int v3), (4, .int v4)] []) (hK33 : ∀ v1 v2 v3 v4 v5 σ τ, K33 v1 v2 v3 v4 v5 σ τ → V σ τ 33 [(0, .ref (ad 0)), (1, .int v1), (2, .int v2), (3, .int v3), (4, .int v4), (5, .int v5)] []) {v1 : Int32} {v2 : Int32} {v3 : Int32} {v4 : Int32} {v5 : Int32} {σ : x_S} {τ : x_L} (h : wX10_mergeBestTwo_91 K15 K33 Q v1 v2 v3 v4 v5 σ τ) : V σ τ 91 [(0, .ref (ad 0)), (1, .int v1), (2, .int v2), (3, .int v3), (4, .int v4), (5, .int v5)] [] := by
  refine x_iinc X (k := 5) (lv' := [(5, .int (v5 + 1)), (0, .ref (ad 0)), (1, .int v1), (2, .int v2), (3, .int v3), (4, .int v4)]) dX10_mergeBestTwo_91 rfl ki_1 (by decide) rfl ?_
  refine x_goto X (tgt := 33) dX10_mergeBestTwo_94 (by decide) ?_
  refine x_sub X [1, 2, 3, 4, 5, 0] (lv' := [(0, .ref (ad 0)), (1, .int v1), (2, .int v2), (3, .int v3), (4, .int v4), (5, .int (v5 + 1))]) rfl ?_
  exact hK33 _ _ _ _ _ _ _ h
set_option maxRecDepth 100000 in
set_option maxHeartbeats 4000000 in
theorem bX10_mergeBestTwo_33 {V : x_J} {ad : Nat → Nat} {Q : Int32 → x_S → x_L → Prop} (X : x_Is V cX10_mergeBestTwo 6 RX10 (Option.some FieldType.boolean) ad dsX 4 (x_PI Q)) {K15 : Int32 → Int32 → Int32 → Int32 → x_S → x_L → Prop} {K33 : Int32 → Int32 → Int32 → Int32 → Int32 → x_S → x_L → Prop} (hK15 : ∀ v1 v2 v3 v4 σ τ, K15 v1 v2 v3 v4 σ τ → V σ τ 15 [(0, .ref (ad 0)), (1, .int v1), (2, .int v2), (3, .int v3), (4, .int v4)] []) (hK33 : ∀ v1 v2 v3 v4 v5 σ τ, K33 v1 v2 v3 v4 v5 σ τ → V σ τ 33 [(0, .ref (ad 0)), (1, .int v1), (2, .int v2), (3, .int v3), (4, .int v4), (5, .int v5)] []) {v1 : Int32} {v2 : Int32} {v3 : Int32} {v4 : Int32} {v5 : Int32} {σ : x_S} {τ : x_L} (h : wX10_mergeBestTwo_33 K15 Q K33 v1 v2 v3 v4 v5 σ τ) : V σ τ 33 [(0, .ref (ad 0)), (1, .int v1), (2, .int v2), (3, .int v3), (4, .int v4), (5, .int v5)] [] := by
  refine x_iload X dX10_mergeBestTwo_33 5 rfl ?_
  refine x_aload_n X dX10_mergeBestTwo_35 rfl 0 rfl ?_
  refine x_getR X (j := 3) dX10_mergeBestTwo_36 fl_10_19 dsX_0 rfl ?_
  refine x_getI X dX10_mergeBestTwo_39 fl_10_127 dsX_3 rfl ?_
  refine x_icmp_ge X 97 dX10_mergeBestTwo_42 (by decide) (fun hc => ?_) (fun hc => ?_)
  · have h := h.1 hc
    refine x_iinc X (k := 4) (lv' := [(4, .int (v4 + 1)), (0, .ref (ad 0)), (1, .int v1), (2, .int v2), (3, .int v3), (5, .int v5)]) dX10_mergeBestTwo_97 rfl ki_1 (by decide) rfl ?_
    refine x_goto X (tgt := 15) dX10_mergeBestTwo_100 (by decide) ?_
    refine x_sub X [1, 2, 3, 4, 0] (lv' := [(0, .ref (ad 0)), (1, .int v1), (2, .int v2), (3, .int v3), (4, .int (v4 + 1))]) rfl ?_
    exact hK15 _ _ _ _ _ _ h
  · have h := h.2 hc
    refine x_aload_n X dX10_mergeBestTwo_45 rfl 0 rfl ?_
    refine x_getR X (j := 59) dX10_mergeBestTwo_46 fl_10_63 dsX_0 rfl ?_
    refine x_iload X dX10_mergeBestTwo_49 4 rfl ?_
    refine x_iload X dX10_mergeBestTwo_51 5 rfl ?_
    refine x_callVi X [.int v4, .int v5] [] dX10_mergeBestTwo_53 (kX4_attempt h) cm_X4_attempt ci_X4_attempt w_3_236 dsX_59 ⟨by decide, by decide⟩ rfl (Nat.le_of_ble_eq_true rfl) (fun r53 σ53 τ53 h => ?_)
    refine x_if_ne X 91 dX10_mergeBestTwo_56 (by decide) (fun hc => ?_) (fun hc => ?_)
    · have h := h.1 hc
      exact bX10_mergeBestTwo_91 X hK15 hK33 h
    · have h := h.2 hc
      refine x_aload_n X dX10_mergeBestTwo_59 rfl 0 rfl ?_
      refine x_getR X (j := 46) dX10_mergeBestTwo_60 fl_10_55 dsX_0 rfl ?_
      refine x_callVv X [] [] dX10_mergeBestTwo_63 (kX6_arrange x_pl46 h) cm_X6_arrange ci_X6_arrange w_4_26 dsX_46 ⟨by decide, by decide⟩ rfl (Nat.le_of_ble_eq_true rfl) (fun σ63 τ63 h => ?_)
      refine x_aload_n X dX10_mergeBestTwo_66 rfl 0 rfl ?_
      refine x_getR X (j := 46) dX10_mergeBestTwo_67 fl_10_55 dsX_0 rfl ?_
      refine x_getI X dX10_mergeBestTwo_70 fl_10_155 dsX_46 rfl ?_
      refine x_iload_n X dX10_mergeBestTwo_73 rfl 1 rfl ?_
      refine x_icmp_ge X 91 dX10_mergeBestTwo_74 (by decide) (fun hc => ?_) (fun hc => ?_)
      · have h := h.1 hc
        exact bX10_mergeBestTwo_91 X hK15 hK33 h
      · have h := h.2 hc
        refine x_aload_n X dX10_mergeBestTwo_77 rfl 0 rfl ?_
        refine x_getR X (j := 46) dX10_mergeBestTwo_78 fl_10_55 dsX_0 rfl ?_
        refine x_getI X dX10_mergeBestTwo_81 fl_10_155 dsX_46 rfl ?_
        refine x_istore_n X (lv' := [(1, .int (σ63 46 14)), (0, .ref (ad 0)), (2, .int v2), (3, .int v3), (4, .int v4), (5, .int v5)]) dX10_mergeBestTwo_84 rfl (by decide) rfl ?_
        refine x_iload X dX10_mergeBestTwo_85 4 rfl ?_
        refine x_istore_n X (lv' := [(2, .int v4), (1, .int (σ63 46 14)), (0, .ref (ad 0)), (3, .int v3), (4, .int v4), (5, .int v5)]) dX10_mergeBestTwo_87 rfl (by decide) rfl ?_
        refine x_iload X dX10_mergeBestTwo_88 5 rfl ?_
        refine x_istore_n X (lv' := [(3, .int v5), (2, .int v4), (1, .int (σ63 46 14)), (0, .ref (ad 0)), (4, .int v4), (5, .int v5)]) dX10_mergeBestTwo_90 rfl (by decide) rfl ?_
        refine x_sub X [3, 2, 1, 0, 4, 5] (lv' := [(0, .ref (ad 0)), (1, .int (σ63 46 14)), (2, .int v4), (3, .int v5), (4, .int v4), (5, .int v5)]) rfl ?_
        exact bX10_mergeBestTwo_91 X hK15 hK33 h
set_option maxRecDepth 100000 in
set_option maxHeartbeats 4000000 in
theorem bX10_mergeBestTwo_120 {V : x_J} {ad : Nat → Nat} {Q : Int32 → x_S → x_L → Prop} (X : x_Is V cX10_mergeBestTwo 6 RX10 (Option.some FieldType.boolean) ad dsX 4 (x_PI Q)) {σ : x_S} {τ : x_L} (h : wX10_mergeBestTwo_120 Q σ τ) : V σ τ 120 [] [] := by
  refine x_iconst X dX10_mergeBestTwo_120 ki_0 ?_
  exact x_zret X dX10_mergeBestTwo_121 ⟨Or.inl rfl, _, rfl, h⟩
set_option maxRecDepth 100000 in
set_option maxHeartbeats 4000000 in
theorem bX10_mergeBestTwo_15 {V : x_J} {ad : Nat → Nat} {Q : Int32 → x_S → x_L → Prop} (X : x_Is V cX10_mergeBestTwo 6 RX10 (Option.some FieldType.boolean) ad dsX 4 (x_PI Q)) {K15 : Int32 → Int32 → Int32 → Int32 → x_S → x_L → Prop} (hK15 : ∀ v1 v2 v3 v4 σ τ, K15 v1 v2 v3 v4 σ τ → V σ τ 15 [(0, .ref (ad 0)), (1, .int v1), (2, .int v2), (3, .int v3), (4, .int v4)] []) {v1 : Int32} {v2 : Int32} {v3 : Int32} {v4 : Int32} {σ : x_S} {τ : x_L} (h : wX10_mergeBestTwo_15 Q K15 v1 v2 v3 v4 σ τ) : V σ τ 15 [(0, .ref (ad 0)), (1, .int v1), (2, .int v2), (3, .int v3), (4, .int v4)] [] := by
  refine x_iload X dX10_mergeBestTwo_15 4 rfl ?_
  refine x_aload_n X dX10_mergeBestTwo_17 rfl 0 rfl ?_
  refine x_getR X (j := 3) dX10_mergeBestTwo_18 fl_10_19 dsX_0 rfl ?_
  refine x_getI X dX10_mergeBestTwo_21 fl_10_127 dsX_3 rfl ?_
  refine x_icmp_ge X 103 dX10_mergeBestTwo_24 (by decide) (fun hc => ?_) (fun hc => ?_)
  · have h := h.1 hc
    refine x_iload_n X dX10_mergeBestTwo_103 rfl 2 rfl ?_
    refine x_iconst X dX10_mergeBestTwo_104 ki_m1 ?_
    refine x_icmp_eq X 120 dX10_mergeBestTwo_105 (by decide) (fun hc => ?_) (fun hc => ?_)
    · have h := h.1 hc
      refine x_sub X [] (lv' := []) rfl ?_
      exact bX10_mergeBestTwo_120 X h
    · have h := h.2 hc
      refine x_aload_n X dX10_mergeBestTwo_108 rfl 0 rfl ?_
      refine x_getR X (j := 59) dX10_mergeBestTwo_109 fl_10_63 dsX_0 rfl ?_
      refine x_iload_n X dX10_mergeBestTwo_112 rfl 2 rfl ?_
      refine x_iload_n X dX10_mergeBestTwo_113 rfl 3 rfl ?_
      refine x_callVi X [.int v2, .int v3] [] dX10_mergeBestTwo_114 (kX4_attempt h) cm_X4_attempt ci_X4_attempt w_3_236 dsX_59 ⟨by decide, by decide⟩ rfl (Nat.le_of_ble_eq_true rfl) (fun r114 σ114 τ114 h => ?_)
      refine x_if_eq X 122 dX10_mergeBestTwo_117 (by decide) (fun hc => ?_) (fun hc => ?_)
      · have h := h.1 hc
        refine x_aload_n X dX10_mergeBestTwo_122 rfl 0 rfl ?_
        refine x_getR X (j := 33) dX10_mergeBestTwo_123 fl_10_51 dsX_0 rfl ?_
        refine x_aload_n X dX10_mergeBestTwo_126 rfl 0 rfl ?_
        refine x_getR X (j := 46) dX10_mergeBestTwo_127 fl_10_55 dsX_0 rfl ?_
        refine x_callVv X [.ref (ad 46)] [] dX10_mergeBestTwo_130 (kX6_copyChoices x_pl33 x_pl46 h) cm_X6_copyChoices ci_X6_copyChoices w_4_27 dsX_33 ⟨by decide, by decide⟩ rfl (Nat.le_of_ble_eq_true rfl) (fun σ130 τ130 h => ?_)
        refine x_aload_n X dX10_mergeBestTwo_133 rfl 0 rfl ?_
        refine x_getR X (j := 33) dX10_mergeBestTwo_134 fl_10_51 dsX_0 rfl ?_
        refine x_callVv X [] [] dX10_mergeBestTwo_137 (kX6_arrange x_pl33 h) cm_X6_arrange ci_X6_arrange w_4_26 dsX_33 ⟨by decide, by decide⟩ rfl (Nat.le_of_ble_eq_true rfl) (fun σ137 τ137 h => ?_)
        refine x_iconst X dX10_mergeBestTwo_140 ki_1 ?_
        exact x_zret X dX10_mergeBestTwo_141 ⟨Or.inr rfl, _, rfl, h⟩
      · have h := h.2 hc
        refine x_sub X [] (lv' := []) rfl ?_
        exact bX10_mergeBestTwo_120 X h
  · have h := h.2 hc
    refine x_iload X dX10_mergeBestTwo_27 4 rfl ?_
    refine x_iconst X dX10_mergeBestTwo_29 ki_1 ?_
    refine x_iadd X dX10_mergeBestTwo_30 ?_
    refine x_istore X (lv' := [(5, .int (v4 + 1)), (0, .ref (ad 0)), (1, .int v1), (2, .int v2), (3, .int v3), (4, .int v4)]) dX10_mergeBestTwo_31 (by decide) rfl ?_
    refine x_sub X [1, 2, 3, 4, 5, 0] (lv' := [(0, .ref (ad 0)), (1, .int v1), (2, .int v2), (3, .int v3), (4, .int v4), (5, .int (v4 + 1))]) rfl ?_
    exact x_l5_G (fun v1 v2 v3 v4 v5 σ τ => V σ τ 33 [(0, .ref (ad 0)), (1, .int v1), (2, .int v2), (3, .int v3), (4, .int v4), (5, .int v5)] []) (fun K33 hK33 v1 v2 v3 v4 v5 σ τ h => bX10_mergeBestTwo_33 X hK15 hK33 h) h
set_option maxRecDepth 100000 in
set_option maxHeartbeats 4000000 in
theorem kX10_mergeBestTwo {ad : Nat → Nat} {σ : x_S} {τ : x_L} {Q : Int32 → x_S → x_L → Prop} (h : wX10_mergeBestTwo σ τ Q) : x_Met yX10_mergeBestTwo cX10_mergeBestTwo 6 (Option.some FieldType.boolean) 4 ad dsX [.ref (ad 0)] σ τ (x_PI Q) := by
  refine x_met (by decide +kernel) (Nat.le_of_ble_eq_true rfl) (fun V X => ?_)
  have X : x_Is V cX10_mergeBestTwo 6 RX10 (Option.some FieldType.boolean) ad dsX 4 (x_PI Q) := X
  show V σ τ 0 [(0, .ref (ad 0))] []
  refine x_aload_n X dX10_mergeBestTwo_0 rfl 0 rfl ?_
  refine x_getR X (j := 33) dX10_mergeBestTwo_1 fl_10_51 dsX_0 rfl ?_
  refine x_getI X dX10_mergeBestTwo_4 fl_10_155 dsX_33 rfl ?_
  refine x_istore_n X (lv' := [(1, .int (σ 33 14)), (0, .ref (ad 0))]) dX10_mergeBestTwo_7 rfl (by decide) rfl ?_
  refine x_iconst X dX10_mergeBestTwo_8 ki_m1 ?_
  refine x_istore_n X (lv' := [(2, .int (-1)), (1, .int (σ 33 14)), (0, .ref (ad 0))]) dX10_mergeBestTwo_9 rfl (by decide) rfl ?_
  refine x_iconst X dX10_mergeBestTwo_10 ki_m1 ?_
  refine x_istore_n X (lv' := [(3, .int (-1)), (2, .int (-1)), (1, .int (σ 33 14)), (0, .ref (ad 0))]) dX10_mergeBestTwo_11 rfl (by decide) rfl ?_
  refine x_iconst X dX10_mergeBestTwo_12 ki_0 ?_
  refine x_istore X (lv' := [(4, .int 0), (3, .int (-1)), (2, .int (-1)), (1, .int (σ 33 14)), (0, .ref (ad 0))]) dX10_mergeBestTwo_13 (by decide) rfl ?_
  refine x_sub X [4, 3, 2, 1, 0] (lv' := [(0, .ref (ad 0)), (1, .int (σ 33 14)), (2, .int (-1)), (3, .int (-1)), (4, .int 0)]) rfl ?_
  exact x_l4_G (fun v1 v2 v3 v4 σ τ => V σ τ 15 [(0, .ref (ad 0)), (1, .int v1), (2, .int v2), (3, .int v3), (4, .int v4)] []) (fun K15 hK15 v1 v2 v3 v4 σ τ h => bX10_mergeBestTwo_15 X hK15 h) h
theorem dX10_mergeByGain_0 : decode cX10_mergeByGain 0 = .ok (.aload_n 0, 1) := by decide +kernel
theorem dX10_mergeByGain_1 : decode cX10_mergeByGain 1 = .ok (.getfield 79, 3) := by decide +kernel
theorem dX10_mergeByGain_4 : decode cX10_mergeByGain 4 = .ok (.aload_n 0, 1) := by decide +kernel
theorem dX10_mergeByGain_5 : decode cX10_mergeByGain 5 = .ok (.getfield 51, 3) := by decide +kernel
theorem dX10_mergeByGain_8 : decode cX10_mergeByGain 8 = .ok (.invokevirtual 336, 3) := by decide +kernel
theorem dX10_mergeByGain_11 : decode cX10_mergeByGain 11 = .ok (.iconst 0, 1) := by decide +kernel
theorem dX10_mergeByGain_12 : decode cX10_mergeByGain 12 = .ok (.istore_n 1, 1) := by decide +kernel
theorem dX10_mergeByGain_13 : decode cX10_mergeByGain 13 = .ok (.iload_n 1, 1) := by decide +kernel
theorem dX10_mergeByGain_14 : decode cX10_mergeByGain 14 = .ok (.bipush 30, 2) := by decide +kernel
theorem dX10_mergeByGain_16 : decode cX10_mergeByGain 16 = .ok (.if_icmp .ge 18, 3) := by decide +kernel
theorem dX10_mergeByGain_19 : decode cX10_mergeByGain 19 = .ok (.aload_n 0, 1) := by decide +kernel
theorem dX10_mergeByGain_20 : decode cX10_mergeByGain 20 = .ok (.invokevirtual 367, 3) := by decide +kernel
theorem dX10_mergeByGain_23 : decode cX10_mergeByGain 23 = .ok (.ifCond .ne 5, 3) := by decide +kernel
theorem dX10_mergeByGain_26 : decode cX10_mergeByGain 26 = .ok (.iload_n 1, 1) := by decide +kernel
theorem dX10_mergeByGain_27 : decode cX10_mergeByGain 27 = .ok (.ireturn, 1) := by decide +kernel
theorem dX10_mergeByGain_28 : decode cX10_mergeByGain 28 = .ok (.iinc 1 1, 3) := by decide +kernel
theorem dX10_mergeByGain_31 : decode cX10_mergeByGain 31 = .ok (.goto (-18), 3) := by decide +kernel
theorem dX10_mergeByGain_34 : decode cX10_mergeByGain 34 = .ok (.bipush 30, 2) := by decide +kernel
theorem dX10_mergeByGain_36 : decode cX10_mergeByGain 36 = .ok (.ireturn, 1) := by decide +kernel
theorem cm_X10_mergeByGain : x_CM yX10_mergeByGain cX10_mergeByGain 2 (Option.some FieldType.int) 0 := ⟨w_3_222, w_1_1, by decide +kernel, by decide +kernel⟩
theorem ci_X10_mergeByGain : x_CI yX10_mergeByGain 12 := ⟨w_3_221, wp_19, (RX10, TX10, 12), rfl, rfl⟩
set_option maxRecDepth 100000 in
set_option maxHeartbeats 4000000 in
theorem bX10_mergeByGain_13 {V : x_J} {ad : Nat → Nat} {Q : Int32 → x_S → x_L → Prop} (X : x_Is V cX10_mergeByGain 2 RX10 (Option.some FieldType.int) ad dsX 5 (x_PI Q)) {K13 : Int32 → x_S → x_L → Prop} (hK13 : ∀ v1 σ τ, K13 v1 σ τ → V σ τ 13 [(0, .ref (ad 0)), (1, .int v1)] []) {v1 : Int32} {σ : x_S} {τ : x_L} (h : wX10_mergeByGain_13 Q K13 v1 σ τ) : V σ τ 13 [(0, .ref (ad 0)), (1, .int v1)] [] := by
  refine x_iload_n X dX10_mergeByGain_13 rfl 1 rfl ?_
  refine x_bipush X dX10_mergeByGain_14 kb_30 ?_
  refine x_icmp_ge X 34 dX10_mergeByGain_16 (by decide) (fun hc => ?_) (fun hc => ?_)
  · have h := h.1 hc
    refine x_bipush X dX10_mergeByGain_34 kb_30 ?_
    exact x_iret X dX10_mergeByGain_36 ⟨_, rfl, h⟩
  · have h := h.2 hc
    refine x_aload_n X dX10_mergeByGain_19 rfl 0 rfl ?_
    refine x_callVi X [] [] dX10_mergeByGain_20 (kX10_mergeBestTwo h) cm_X10_mergeBestTwo ci_X10_mergeBestTwo w_3_232 dsX_0 ⟨by decide, by decide⟩ rfl (Nat.le_of_ble_eq_true rfl) (fun r20 σ20 τ20 h => ?_)
    refine x_if_ne X 28 dX10_mergeByGain_23 (by decide) (fun hc => ?_) (fun hc => ?_)
    · have h := h.1 hc
      refine x_iinc X (k := 1) (lv' := [(1, .int (v1 + 1)), (0, .ref (ad 0))]) dX10_mergeByGain_28 rfl ki_1 (by decide) rfl ?_
      refine x_goto X (tgt := 13) dX10_mergeByGain_31 (by decide) ?_
      refine x_sub X [1, 0] (lv' := [(0, .ref (ad 0)), (1, .int (v1 + 1))]) rfl ?_
      exact hK13 _ _ _ h
    · have h := h.2 hc
      refine x_iload_n X dX10_mergeByGain_26 rfl 1 rfl ?_
      exact x_iret X dX10_mergeByGain_27 ⟨_, rfl, h⟩
set_option maxRecDepth 100000 in
set_option maxHeartbeats 4000000 in
theorem kX10_mergeByGain {ad : Nat → Nat} {σ : x_S} {τ : x_L} {Q : Int32 → x_S → x_L → Prop} (h : wX10_mergeByGain σ τ Q) : x_Met yX10_mergeByGain cX10_mergeByGain 2 (Option.some FieldType.int) 5 ad dsX [.ref (ad 0)] σ τ (x_PI Q) := by
  refine x_met (by decide +kernel) (Nat.le_of_ble_eq_true rfl) (fun V X => ?_)
  have X : x_Is V cX10_mergeByGain 2 RX10 (Option.some FieldType.int) ad dsX 5 (x_PI Q) := X
  show V σ τ 0 [(0, .ref (ad 0))] []
  refine x_aload_n X dX10_mergeByGain_0 rfl 0 rfl ?_
  refine x_getR X (j := 63) dX10_mergeByGain_1 fl_10_79 dsX_0 rfl ?_
  refine x_aload_n X dX10_mergeByGain_4 rfl 0 rfl ?_
  refine x_getR X (j := 33) dX10_mergeByGain_5 fl_10_51 dsX_0 rfl ?_
  refine x_callVv X [.ref (ad 33)] [] dX10_mergeByGain_8 (kX2_keep x_pl33 h) cm_X2_keep ci_X2_keep w_3_223 dsX_63 ⟨by decide, by decide⟩ rfl (Nat.le_of_ble_eq_true rfl) (fun σ8 τ8 h => ?_)
  refine x_iconst X dX10_mergeByGain_11 ki_0 ?_
  refine x_istore_n X (lv' := [(1, .int 0), (0, .ref (ad 0))]) dX10_mergeByGain_12 rfl (by decide) rfl ?_
  refine x_sub X [1, 0] (lv' := [(0, .ref (ad 0)), (1, .int 0)]) rfl ?_
  exact x_l1_G (fun v1 σ τ => V σ τ 13 [(0, .ref (ad 0)), (1, .int v1)] []) (fun K13 hK13 v1 σ τ h => bX10_mergeByGain_13 X hK13 h) h
theorem dX10_mergeAll_0 : decode cX10_mergeAll 0 = .ok (.aload_n 0, 1) := by decide +kernel
theorem dX10_mergeAll_1 : decode cX10_mergeAll 1 = .ok (.invokevirtual 364, 3) := by decide +kernel
theorem dX10_mergeAll_4 : decode cX10_mergeAll 4 = .ok (.ireturn, 1) := by decide +kernel
theorem cm_X10_mergeAll : x_CM yX10_mergeAll cX10_mergeAll 1 (Option.some FieldType.int) 0 := ⟨w_3_218, w_1_1, by decide +kernel, by decide +kernel⟩
theorem ci_X10_mergeAll : x_CI yX10_mergeAll 12 := ⟨w_3_216, w_3_217, (RX10, TX10, 12), rfl, rfl⟩
set_option maxRecDepth 100000 in
set_option maxHeartbeats 4000000 in
theorem kX10_mergeAll {ad : Nat → Nat} {σ : x_S} {τ : x_L} {Q : Int32 → x_S → x_L → Prop} (h : wX10_mergeAll σ τ Q) : x_Met yX10_mergeAll cX10_mergeAll 1 (Option.some FieldType.int) 6 ad dsX [.ref (ad 0)] σ τ (x_PI Q) := by
  refine x_met (by decide +kernel) (Nat.le_of_ble_eq_true rfl) (fun V X => ?_)
  have X : x_Is V cX10_mergeAll 1 RX10 (Option.some FieldType.int) ad dsX 6 (x_PI Q) := X
  show V σ τ 0 [(0, .ref (ad 0))] []
  refine x_aload_n X dX10_mergeAll_0 rfl 0 rfl ?_
  refine x_callVi X [] [] dX10_mergeAll_1 (kX10_mergeByGain h) cm_X10_mergeByGain ci_X10_mergeByGain w_3_219 dsX_0 ⟨by decide, by decide⟩ rfl (Nat.le_of_ble_eq_true rfl) (fun r1 σ1 τ1 h => ?_)
  exact x_iret X dX10_mergeAll_4 ⟨_, rfl, h⟩
theorem dX10_speedUp_0 : decode cX10_speedUp 0 = .ok (.aload_n 0, 1) := by decide +kernel
theorem dX10_speedUp_1 : decode cX10_speedUp 1 = .ok (.getfield 79, 3) := by decide +kernel
theorem dX10_speedUp_4 : decode cX10_speedUp 4 = .ok (.aload_n 0, 1) := by decide +kernel
theorem dX10_speedUp_5 : decode cX10_speedUp 5 = .ok (.getfield 51, 3) := by decide +kernel
theorem dX10_speedUp_8 : decode cX10_speedUp 8 = .ok (.invokevirtual 336, 3) := by decide +kernel
theorem dX10_speedUp_11 : decode cX10_speedUp 11 = .ok (.iconst 0, 1) := by decide +kernel
theorem dX10_speedUp_12 : decode cX10_speedUp 12 = .ok (.istore_n 2, 1) := by decide +kernel
theorem dX10_speedUp_13 : decode cX10_speedUp 13 = .ok (.iload_n 1, 1) := by decide +kernel
theorem dX10_speedUp_14 : decode cX10_speedUp 14 = .ok (.bipush 10, 2) := by decide +kernel
theorem dX10_speedUp_16 : decode cX10_speedUp 16 = .ok (.imul, 1) := by decide +kernel
theorem dX10_speedUp_17 : decode cX10_speedUp 17 = .ok (.istore_n 3, 1) := by decide +kernel
theorem dX10_speedUp_18 : decode cX10_speedUp 18 = .ok (.iload_n 3, 1) := by decide +kernel
theorem dX10_speedUp_19 : decode cX10_speedUp 19 = .ok (.aload_n 0, 1) := by decide +kernel
theorem dX10_speedUp_20 : decode cX10_speedUp 20 = .ok (.getfield 42, 3) := by decide +kernel
theorem dX10_speedUp_23 : decode cX10_speedUp 23 = .ok (.getfield 301, 3) := by decide +kernel
theorem dX10_speedUp_26 : decode cX10_speedUp 26 = .ok (.iload_n 1, 1) := by decide +kernel
theorem dX10_speedUp_27 : decode cX10_speedUp 27 = .ok (.iaload, 1) := by decide +kernel
theorem dX10_speedUp_28 : decode cX10_speedUp 28 = .ok (.if_icmp .ge 75, 3) := by decide +kernel
theorem dX10_speedUp_31 : decode cX10_speedUp 31 = .ok (.aload_n 0, 1) := by decide +kernel
theorem dX10_speedUp_32 : decode cX10_speedUp 32 = .ok (.getfield 51, 3) := by decide +kernel
theorem dX10_speedUp_35 : decode cX10_speedUp 35 = .ok (.iload_n 1, 1) := by decide +kernel
theorem dX10_speedUp_36 : decode cX10_speedUp 36 = .ok (.invokevirtual 186, 3) := by decide +kernel
theorem dX10_speedUp_39 : decode cX10_speedUp 39 = .ok (.ifCond .eq 64, 3) := by decide +kernel
theorem dX10_speedUp_42 : decode cX10_speedUp 42 = .ok (.aload_n 0, 1) := by decide +kernel
theorem dX10_speedUp_43 : decode cX10_speedUp 43 = .ok (.getfield 19, 3) := by decide +kernel
theorem dX10_speedUp_46 : decode cX10_speedUp 46 = .ok (.getfield 200, 3) := by decide +kernel
theorem dX10_speedUp_49 : decode cX10_speedUp 49 = .ok (.aload_n 0, 1) := by decide +kernel
theorem dX10_speedUp_50 : decode cX10_speedUp 50 = .ok (.getfield 19, 3) := by decide +kernel
theorem dX10_speedUp_53 : decode cX10_speedUp 53 = .ok (.getfield 246, 3) := by decide +kernel
theorem dX10_speedUp_56 : decode cX10_speedUp 56 = .ok (.iload_n 3, 1) := by decide +kernel
theorem dX10_speedUp_57 : decode cX10_speedUp 57 = .ok (.iaload, 1) := by decide +kernel
theorem dX10_speedUp_58 : decode cX10_speedUp 58 = .ok (.iaload, 1) := by decide +kernel
theorem dX10_speedUp_59 : decode cX10_speedUp 59 = .ok (.istore 4, 2) := by decide +kernel
theorem dX10_speedUp_61 : decode cX10_speedUp 61 = .ok (.aload_n 0, 1) := by decide +kernel
theorem dX10_speedUp_62 : decode cX10_speedUp 62 = .ok (.getfield 51, 3) := by decide +kernel
theorem dX10_speedUp_65 : decode cX10_speedUp 65 = .ok (.getfield 252, 3) := by decide +kernel
theorem dX10_speedUp_68 : decode cX10_speedUp 68 = .ok (.iload_n 3, 1) := by decide +kernel
theorem dX10_speedUp_69 : decode cX10_speedUp 69 = .ok (.iaload, 1) := by decide +kernel
theorem dX10_speedUp_70 : decode cX10_speedUp 70 = .ok (.iload 4, 2) := by decide +kernel
theorem dX10_speedUp_72 : decode cX10_speedUp 72 = .ok (.if_icmp .eq 25, 3) := by decide +kernel
theorem dX10_speedUp_75 : decode cX10_speedUp 75 = .ok (.aload_n 0, 1) := by decide +kernel
theorem dX10_speedUp_76 : decode cX10_speedUp 76 = .ok (.getfield 51, 3) := by decide +kernel
theorem dX10_speedUp_79 : decode cX10_speedUp 79 = .ok (.getfield 252, 3) := by decide +kernel
theorem dX10_speedUp_82 : decode cX10_speedUp 82 = .ok (.iload_n 3, 1) := by decide +kernel
theorem dX10_speedUp_83 : decode cX10_speedUp 83 = .ok (.iload 4, 2) := by decide +kernel
theorem dX10_speedUp_85 : decode cX10_speedUp 85 = .ok (.iastore, 1) := by decide +kernel
theorem dX10_speedUp_86 : decode cX10_speedUp 86 = .ok (.aload_n 0, 1) := by decide +kernel
theorem dX10_speedUp_87 : decode cX10_speedUp 87 = .ok (.getfield 51, 3) := by decide +kernel
theorem dX10_speedUp_90 : decode cX10_speedUp 90 = .ok (.iload_n 1, 1) := by decide +kernel
theorem dX10_speedUp_91 : decode cX10_speedUp 91 = .ok (.invokevirtual 374, 3) := by decide +kernel
theorem dX10_speedUp_94 : decode cX10_speedUp 94 = .ok (.iinc 2 1, 3) := by decide +kernel
theorem dX10_speedUp_97 : decode cX10_speedUp 97 = .ok (.iinc 3 1, 3) := by decide +kernel
theorem dX10_speedUp_100 : decode cX10_speedUp 100 = .ok (.goto (-82), 3) := by decide +kernel
theorem dX10_speedUp_103 : decode cX10_speedUp 103 = .ok (.aload_n 0, 1) := by decide +kernel
theorem dX10_speedUp_104 : decode cX10_speedUp 104 = .ok (.getfield 51, 3) := by decide +kernel
theorem dX10_speedUp_107 : decode cX10_speedUp 107 = .ok (.invokevirtual 339, 3) := by decide +kernel
theorem dX10_speedUp_110 : decode cX10_speedUp 110 = .ok (.iload_n 2, 1) := by decide +kernel
theorem dX10_speedUp_111 : decode cX10_speedUp 111 = .ok (.ireturn, 1) := by decide +kernel
theorem cm_X10_speedUp : x_CM yX10_speedUp cX10_speedUp 5 (Option.some FieldType.int) 1 := ⟨w_4_131, w_1_1, by decide +kernel, by decide +kernel⟩
theorem ci_X10_speedUp : x_CI yX10_speedUp 12 := ⟨w_4_130, wp_30, (RX10, TX10, 12), rfl, rfl⟩
set_option maxRecDepth 100000 in
set_option maxHeartbeats 4000000 in
theorem bX10_speedUp_97 {V : x_J} {ad : Nat → Nat} {Q : Int32 → x_S → x_L → Prop} (X : x_Is V cX10_speedUp 5 RX10 (Option.some FieldType.int) ad dsX 4 (x_PI Q)) {K18 : Int32 → Int32 → Int32 → x_S → x_L → Prop} (hK18 : ∀ v1 v2 v3 σ τ, K18 v1 v2 v3 σ τ → V σ τ 18 [(0, .ref (ad 0)), (1, .int v1), (2, .int v2), (3, .int v3)] []) {v1 : Int32} {v2 : Int32} {v3 : Int32} {σ : x_S} {τ : x_L} (h : wX10_speedUp_97 K18 Q v1 v2 v3 σ τ) : V σ τ 97 [(0, .ref (ad 0)), (1, .int v1), (2, .int v2), (3, .int v3)] [] := by
  refine x_iinc X (k := 3) (lv' := [(3, .int (v3 + 1)), (0, .ref (ad 0)), (1, .int v1), (2, .int v2)]) dX10_speedUp_97 rfl ki_1 (by decide) rfl ?_
  refine x_goto X (tgt := 18) dX10_speedUp_100 (by decide) ?_
  refine x_sub X [1, 2, 3, 0] (lv' := [(0, .ref (ad 0)), (1, .int v1), (2, .int v2), (3, .int (v3 + 1))]) rfl ?_
  exact hK18 _ _ _ _ _ h
set_option maxRecDepth 100000 in
set_option maxHeartbeats 4000000 in
theorem bX10_speedUp_103 {V : x_J} {ad : Nat → Nat} {Q : Int32 → x_S → x_L → Prop} (X : x_Is V cX10_speedUp 5 RX10 (Option.some FieldType.int) ad dsX 4 (x_PI Q)) {v2 : Int32} {σ : x_S} {τ : x_L} (h : wX10_speedUp_103 Q v2 σ τ) : V σ τ 103 [(0, .ref (ad 0)), (2, .int v2)] [] := by
  refine x_aload_n X dX10_speedUp_103 rfl 0 rfl ?_
  refine x_getR X (j := 33) dX10_speedUp_104 fl_10_51 dsX_0 rfl ?_
  refine x_callVv X [] [] dX10_speedUp_107 (kX6_arrange x_pl33 h) cm_X6_arrange ci_X6_arrange w_4_26 dsX_33 ⟨by decide, by decide⟩ rfl (Nat.le_of_ble_eq_true rfl) (fun σ107 τ107 h => ?_)
  refine x_iload_n X dX10_speedUp_110 rfl 1 rfl ?_
  exact x_iret X dX10_speedUp_111 ⟨_, rfl, h⟩
set_option maxRecDepth 100000 in
set_option maxHeartbeats 4000000 in
theorem bX10_speedUp_18 {V : x_J} {ad : Nat → Nat} {Q : Int32 → x_S → x_L → Prop} (X : x_Is V cX10_speedUp 5 RX10 (Option.some FieldType.int) ad dsX 4 (x_PI Q)) {K18 : Int32 → Int32 → Int32 → x_S → x_L → Prop} (hK18 : ∀ v1 v2 v3 σ τ, K18 v1 v2 v3 σ τ → V σ τ 18 [(0, .ref (ad 0)), (1, .int v1), (2, .int v2), (3, .int v3)] []) {v1 : Int32} {v2 : Int32} {v3 : Int32} {σ : x_S} {τ : x_L} (h : wX10_speedUp_18 Q K18 v1 v2 v3 σ τ) : V σ τ 18 [(0, .ref (ad 0)), (1, .int v1), (2, .int v2), (3, .int v3)] [] := by
  refine x_iload_n X dX10_speedUp_18 rfl 3 rfl ?_
  refine x_aload_n X dX10_speedUp_19 rfl 0 rfl ?_
  refine x_getR X (j := 27) dX10_speedUp_20 fl_10_42 dsX_0 rfl ?_
  refine x_getR X (j := 30) dX10_speedUp_23 fl_10_301 dsX_27 rfl ?_
  refine x_iload_n X dX10_speedUp_26 rfl 1 rfl ?_
  have g27 := h.1
  have h := h.2
  refine x_iald X dX10_speedUp_27 dsX_30 g27 ?_
  refine x_icmp_ge X 103 dX10_speedUp_28 (by decide) (fun hc => ?_) (fun hc => ?_)
  · have h := h.1 hc
    refine x_sub X [0, 2] (lv' := [(0, .ref (ad 0)), (2, .int v2)]) rfl ?_
    exact bX10_speedUp_103 X h
  · have h := h.2 hc
    refine x_aload_n X dX10_speedUp_31 rfl 0 rfl ?_
    refine x_getR X (j := 33) dX10_speedUp_32 fl_10_51 dsX_0 rfl ?_
    refine x_iload_n X dX10_speedUp_35 rfl 1 rfl ?_
    refine x_callVi X [.int v1] [] dX10_speedUp_36 (kX6_isLate x_pl33 h) cm_X6_isLate ci_X6_isLate w_3_186 dsX_33 ⟨by decide, by decide⟩ rfl (Nat.le_of_ble_eq_true rfl) (fun r36 σ36 τ36 h => ?_)
    refine x_if_eq X 103 dX10_speedUp_39 (by decide) (fun hc => ?_) (fun hc => ?_)
    · have h := h.1 hc
      refine x_sub X [0, 2] (lv' := [(0, .ref (ad 0)), (2, .int v2)]) rfl ?_
      exact bX10_speedUp_103 X h
    · have h := h.2 hc
      refine x_aload_n X dX10_speedUp_42 rfl 0 rfl ?_
      refine x_getR X (j := 3) dX10_speedUp_43 fl_10_19 dsX_0 rfl ?_
      refine x_getR X (j := 7) dX10_speedUp_46 fl_10_200 dsX_3 rfl ?_
      refine x_aload_n X dX10_speedUp_49 rfl 0 rfl ?_
      refine x_getR X (j := 3) dX10_speedUp_50 fl_10_19 dsX_0 rfl ?_
      refine x_getR X (j := 12) dX10_speedUp_53 fl_10_246 dsX_3 rfl ?_
      refine x_iload_n X dX10_speedUp_56 rfl 3 rfl ?_
      have g57 := h.1
      have h := h.2
      refine x_iald X dX10_speedUp_57 dsX_12 g57 ?_
      have g58 := h.1
      have h := h.2
      refine x_iald X dX10_speedUp_58 dsX_7 g58 ?_
      refine x_istore X (lv' := [(4, .int (σ36 7 (σ36 12 v3.toNatClampNeg).toNatClampNeg)), (0, .ref (ad 0)), (1, .int v1), (2, .int v2), (3, .int v3)]) dX10_speedUp_59 (by decide) rfl ?_
      refine x_aload_n X dX10_speedUp_61 rfl 1 rfl ?_
      refine x_getR X (j := 33) dX10_speedUp_62 fl_10_51 dsX_0 rfl ?_
      refine x_getR X (j := 36) dX10_speedUp_65 fl_10_252 dsX_33 rfl ?_
      refine x_iload_n X dX10_speedUp_68 rfl 4 rfl ?_
      refine x_iald X dX10_speedUp_69 dsX_36 g57 ?_
      refine x_iload X dX10_speedUp_70 0 rfl ?_
      refine x_icmp_eq X 97 dX10_speedUp_72 (by decide) (fun hc => ?_) (fun hc => ?_)
      · have h := h.1 hc
        refine x_sub X [1, 2, 3, 4] (lv' := [(0, .ref (ad 0)), (1, .int v1), (2, .int v2), (3, .int v3)]) rfl ?_
        exact bX10_speedUp_97 X hK18 h
      · have h := h.2 hc
        refine x_aload_n X dX10_speedUp_75 rfl 1 rfl ?_
        refine x_getR X (j := 33) dX10_speedUp_76 fl_10_51 dsX_0 rfl ?_
        refine x_getR X (j := 36) dX10_speedUp_79 fl_10_252 dsX_33 rfl ?_
        refine x_iload_n X dX10_speedUp_82 rfl 4 rfl ?_
        refine x_iload X dX10_speedUp_83 0 rfl ?_
        refine x_iast X dX10_speedUp_85 dsX_36 g57 ?_
        refine x_aload_n X dX10_speedUp_86 rfl 1 rfl ?_
        refine x_getR X (j := 33) dX10_speedUp_87 fl_10_51 dsX_0 rfl ?_
        refine x_iload_n X dX10_speedUp_90 rfl 2 rfl ?_
        refine x_callVv X [.int v1] [] dX10_speedUp_91 (kX6_setTimes x_pl33 h) cm_X6_setTimes ci_X6_setTimes w_4_132 dsX_33 ⟨by decide, by decide⟩ rfl (Nat.le_of_ble_eq_true rfl) (fun σ91 τ91 h => ?_)
        refine x_iinc X (k := 3) (lv' := [(2, .int (v2 + 1)), (4, .int (σ36 7 (σ36 12 v3.toNatClampNeg).toNatClampNeg)), (0, .ref (ad 0)), (1, .int v1), (3, .int v3)]) dX10_speedUp_94 rfl ki_1 (by decide) rfl ?_
        refine x_sub X [2, 3, 0, 4] (lv' := [(0, .ref (ad 0)), (1, .int v1), (2, .int (v2 + 1)), (3, .int v3)]) rfl ?_
        exact bX10_speedUp_97 X hK18 h
set_option maxRecDepth 100000 in
set_option maxHeartbeats 4000000 in
theorem kX10_speedUp {ad : Nat → Nat} {a1 : Int32} {σ : x_S} {τ : x_L} {Q : Int32 → x_S → x_L → Prop} (h : wX10_speedUp a1 σ τ Q) : x_Met yX10_speedUp cX10_speedUp 5 (Option.some FieldType.int) 4 ad dsX [.ref (ad 0), .int a1] σ τ (x_PI Q) := by
  refine x_met (by decide +kernel) (Nat.le_of_ble_eq_true rfl) (fun V X => ?_)
  have X : x_Is V cX10_speedUp 5 RX10 (Option.some FieldType.int) ad dsX 4 (x_PI Q) := X
  show V σ τ 0 [(0, .ref (ad 0)), (1, .int a1)] []
  refine x_aload_n X dX10_speedUp_0 rfl 0 rfl ?_
  refine x_getR X (j := 63) dX10_speedUp_1 fl_10_79 dsX_0 rfl ?_
  refine x_aload_n X dX10_speedUp_4 rfl 0 rfl ?_
  refine x_getR X (j := 33) dX10_speedUp_5 fl_10_51 dsX_0 rfl ?_
  refine x_callVv X [.ref (ad 33)] [] dX10_speedUp_8 (kX2_keep x_pl33 h) cm_X2_keep ci_X2_keep w_3_223 dsX_63 ⟨by decide, by decide⟩ rfl (Nat.le_of_ble_eq_true rfl) (fun σ8 τ8 h => ?_)
  refine x_iconst X dX10_speedUp_11 ki_0 ?_
  refine x_istore_n X (lv' := [(2, .int 0), (0, .ref (ad 0)), (1, .int a1)]) dX10_speedUp_12 rfl (by decide) rfl ?_
  refine x_iload_n X dX10_speedUp_13 rfl 2 rfl ?_
  refine x_bipush X dX10_speedUp_14 kb_10 ?_
  refine x_imul X dX10_speedUp_16 ?_
  refine x_istore_n X (lv' := [(3, .int (a1 * 10)), (2, .int 0), (0, .ref (ad 0)), (1, .int a1)]) dX10_speedUp_17 rfl (by decide) rfl ?_
  refine x_sub X [2, 3, 1, 0] (lv' := [(0, .ref (ad 0)), (1, .int a1), (2, .int 0), (3, .int (a1 * 10))]) rfl ?_
  exact x_l3_G (fun v1 v2 v3 σ τ => V σ τ 18 [(0, .ref (ad 0)), (1, .int v1), (2, .int v2), (3, .int v3)] []) (fun K18 hK18 v1 v2 v3 σ τ h => bX10_speedUp_18 X hK18 h) h
theorem dX10_slowDown_0 : decode cX10_slowDown 0 = .ok (.aload_n 0, 1) := by decide +kernel
theorem dX10_slowDown_1 : decode cX10_slowDown 1 = .ok (.getfield 79, 3) := by decide +kernel
theorem dX10_slowDown_4 : decode cX10_slowDown 4 = .ok (.aload_n 0, 1) := by decide +kernel
theorem dX10_slowDown_5 : decode cX10_slowDown 5 = .ok (.getfield 51, 3) := by decide +kernel
theorem dX10_slowDown_8 : decode cX10_slowDown 8 = .ok (.invokevirtual 336, 3) := by decide +kernel
theorem dX10_slowDown_11 : decode cX10_slowDown 11 = .ok (.iconst 0, 1) := by decide +kernel
theorem dX10_slowDown_12 : decode cX10_slowDown 12 = .ok (.istore_n 2, 1) := by decide +kernel
theorem dX10_slowDown_13 : decode cX10_slowDown 13 = .ok (.aload_n 0, 1) := by decide +kernel
theorem dX10_slowDown_14 : decode cX10_slowDown 14 = .ok (.getfield 42, 3) := by decide +kernel
theorem dX10_slowDown_17 : decode cX10_slowDown 17 = .ok (.getfield 301, 3) := by decide +kernel
theorem dX10_slowDown_20 : decode cX10_slowDown 20 = .ok (.iload_n 1, 1) := by decide +kernel
theorem dX10_slowDown_21 : decode cX10_slowDown 21 = .ok (.iaload, 1) := by decide +kernel
theorem dX10_slowDown_22 : decode cX10_slowDown 22 = .ok (.iconst 1, 1) := by decide +kernel
theorem dX10_slowDown_23 : decode cX10_slowDown 23 = .ok (.isub, 1) := by decide +kernel
theorem dX10_slowDown_24 : decode cX10_slowDown 24 = .ok (.istore_n 3, 1) := by decide +kernel
theorem dX10_slowDown_25 : decode cX10_slowDown 25 = .ok (.iload_n 3, 1) := by decide +kernel
theorem dX10_slowDown_26 : decode cX10_slowDown 26 = .ok (.iload_n 1, 1) := by decide +kernel
theorem dX10_slowDown_27 : decode cX10_slowDown 27 = .ok (.bipush 10, 2) := by decide +kernel
theorem dX10_slowDown_29 : decode cX10_slowDown 29 = .ok (.imul, 1) := by decide +kernel
theorem dX10_slowDown_30 : decode cX10_slowDown 30 = .ok (.if_icmp .lt 56, 3) := by decide +kernel
theorem dX10_slowDown_33 : decode cX10_slowDown 33 = .ok (.aload_n 0, 1) := by decide +kernel
theorem dX10_slowDown_34 : decode cX10_slowDown 34 = .ok (.getfield 51, 3) := by decide +kernel
theorem dX10_slowDown_37 : decode cX10_slowDown 37 = .ok (.iload_n 1, 1) := by decide +kernel
theorem dX10_slowDown_38 : decode cX10_slowDown 38 = .ok (.iload_n 3, 1) := by decide +kernel
theorem dX10_slowDown_39 : decode cX10_slowDown 39 = .ok (.invokevirtual 380, 3) := by decide +kernel
theorem dX10_slowDown_42 : decode cX10_slowDown 42 = .ok (.istore 4, 2) := by decide +kernel
theorem dX10_slowDown_44 : decode cX10_slowDown 44 = .ok (.aload_n 0, 1) := by decide +kernel
theorem dX10_slowDown_45 : decode cX10_slowDown 45 = .ok (.getfield 51, 3) := by decide +kernel
theorem dX10_slowDown_48 : decode cX10_slowDown 48 = .ok (.getfield 252, 3) := by decide +kernel
theorem dX10_slowDown_51 : decode cX10_slowDown 51 = .ok (.iload_n 3, 1) := by decide +kernel
theorem dX10_slowDown_52 : decode cX10_slowDown 52 = .ok (.iaload, 1) := by decide +kernel
theorem dX10_slowDown_53 : decode cX10_slowDown 53 = .ok (.iload 4, 2) := by decide +kernel
theorem dX10_slowDown_55 : decode cX10_slowDown 55 = .ok (.if_icmp .eq 25, 3) := by decide +kernel
theorem dX10_slowDown_58 : decode cX10_slowDown 58 = .ok (.aload_n 0, 1) := by decide +kernel
theorem dX10_slowDown_59 : decode cX10_slowDown 59 = .ok (.getfield 51, 3) := by decide +kernel
theorem dX10_slowDown_62 : decode cX10_slowDown 62 = .ok (.getfield 252, 3) := by decide +kernel
theorem dX10_slowDown_65 : decode cX10_slowDown 65 = .ok (.iload_n 3, 1) := by decide +kernel
theorem dX10_slowDown_66 : decode cX10_slowDown 66 = .ok (.iload 4, 2) := by decide +kernel
theorem dX10_slowDown_68 : decode cX10_slowDown 68 = .ok (.iastore, 1) := by decide +kernel
theorem dX10_slowDown_69 : decode cX10_slowDown 69 = .ok (.aload_n 0, 1) := by decide +kernel
theorem dX10_slowDown_70 : decode cX10_slowDown 70 = .ok (.getfield 51, 3) := by decide +kernel
theorem dX10_slowDown_73 : decode cX10_slowDown 73 = .ok (.iload_n 1, 1) := by decide +kernel
theorem dX10_slowDown_74 : decode cX10_slowDown 74 = .ok (.invokevirtual 374, 3) := by decide +kernel
theorem dX10_slowDown_77 : decode cX10_slowDown 77 = .ok (.iinc 2 1, 3) := by decide +kernel
theorem dX10_slowDown_80 : decode cX10_slowDown 80 = .ok (.iinc 3 (-1), 3) := by decide +kernel
theorem dX10_slowDown_83 : decode cX10_slowDown 83 = .ok (.goto (-58), 3) := by decide +kernel
theorem dX10_slowDown_86 : decode cX10_slowDown 86 = .ok (.aload_n 0, 1) := by decide +kernel
theorem dX10_slowDown_87 : decode cX10_slowDown 87 = .ok (.getfield 51, 3) := by decide +kernel
theorem dX10_slowDown_90 : decode cX10_slowDown 90 = .ok (.invokevirtual 339, 3) := by decide +kernel
theorem dX10_slowDown_93 : decode cX10_slowDown 93 = .ok (.iload_n 2, 1) := by decide +kernel
theorem dX10_slowDown_94 : decode cX10_slowDown 94 = .ok (.ireturn, 1) := by decide +kernel
theorem cm_X10_slowDown : x_CM yX10_slowDown cX10_slowDown 5 (Option.some FieldType.int) 1 := ⟨w_4_136, w_1_1, by decide +kernel, by decide +kernel⟩
theorem ci_X10_slowDown : x_CI yX10_slowDown 12 := ⟨w_4_135, wp_31, (RX10, TX10, 12), rfl, rfl⟩
set_option maxRecDepth 100000 in
set_option maxHeartbeats 4000000 in
theorem bX10_slowDown_80 {V : x_J} {ad : Nat → Nat} {Q : Int32 → x_S → x_L → Prop} (X : x_Is V cX10_slowDown 5 RX10 (Option.some FieldType.int) ad dsX 4 (x_PI Q)) {K25 : Int32 → Int32 → Int32 → x_S → x_L → Prop} (hK25 : ∀ v1 v2 v3 σ τ, K25 v1 v2 v3 σ τ → V σ τ 25 [(0, .ref (ad 0)), (1, .int v1), (2, .int v2), (3, .int v3)] []) {v1 : Int32} {v2 : Int32} {v3 : Int32} {σ : x_S} {τ : x_L} (h : wX10_slowDown_80 K25 Q v1 v2 v3 σ τ) : V σ τ 80 [(0, .ref (ad 0)), (1, .int v1), (2, .int v2), (3, .int v3)] [] := by
  refine x_iinc X (k := 3) (lv' := [(3, .int (v3 + (-1))), (0, .ref (ad 0)), (1, .int v1), (2, .int v2)]) dX10_slowDown_80 rfl ki_m1 (by decide) rfl ?_
  refine x_goto X (tgt := 25) dX10_slowDown_83 (by decide) ?_
  refine x_sub X [1, 2, 3, 0] (lv' := [(0, .ref (ad 0)), (1, .int v1), (2, .int v2), (3, .int (v3 + (-1)))]) rfl ?_
  exact hK25 _ _ _ _ _ h
set_option maxRecDepth 100000 in
set_option maxHeartbeats 4000000 in
theorem bX10_slowDown_25 {V : x_J} {ad : Nat → Nat} {Q : Int32 → x_S → x_L → Prop} (X : x_Is V cX10_slowDown 5 RX10 (Option.some FieldType.int) ad dsX 4 (x_PI Q)) {K25 : Int32 → Int32 → Int32 → x_S → x_L → Prop} (hK25 : ∀ v1 v2 v3 σ τ, K25 v1 v2 v3 σ τ → V σ τ 25 [(0, .ref (ad 0)), (1, .int v1), (2, .int v2), (3, .int v3)] []) {v1 : Int32} {v2 : Int32} {v3 : Int32} {σ : x_S} {τ : x_L} (h : wX10_slowDown_25 Q K25 v1 v2 v3 σ τ) : V σ τ 25 [(0, .ref (ad 0)), (1, .int v1), (2, .int v2), (3, .int v3)] [] := by
  refine x_iload_n X dX10_slowDown_25 rfl 3 rfl ?_
  refine x_iload_n X dX10_slowDown_26 rfl 1 rfl ?_
  refine x_bipush X dX10_slowDown_27 kb_10 ?_
  refine x_imul X dX10_slowDown_29 ?_
  refine x_icmp_lt X 86 dX10_slowDown_30 (by decide) (fun hc => ?_) (fun hc => ?_)
  · have h := h.1 hc
    refine x_aload_n X dX10_slowDown_86 rfl 0 rfl ?_
    refine x_getR X (j := 33) dX10_slowDown_87 fl_10_51 dsX_0 rfl ?_
    refine x_callVv X [] [] dX10_slowDown_90 (kX6_arrange x_pl33 h) cm_X6_arrange ci_X6_arrange w_4_26 dsX_33 ⟨by decide, by decide⟩ rfl (Nat.le_of_ble_eq_true rfl) (fun σ90 τ90 h => ?_)
    refine x_iload_n X dX10_slowDown_93 rfl 2 rfl ?_
    exact x_iret X dX10_slowDown_94 ⟨_, rfl, h⟩
  · have h := h.2 hc
    refine x_aload_n X dX10_slowDown_33 rfl 0 rfl ?_
    refine x_getR X (j := 33) dX10_slowDown_34 fl_10_51 dsX_0 rfl ?_
    refine x_iload_n X dX10_slowDown_37 rfl 1 rfl ?_
    refine x_iload_n X dX10_slowDown_38 rfl 3 rfl ?_
    refine x_callVi X [.int v1, .int v3] [] dX10_slowDown_39 (kX6_leastTimelySpeed x_pl33 h) cm_X6_leastTimelySpeed ci_X6_leastTimelySpeed w_4_137 dsX_33 ⟨by decide, by decide⟩ rfl (Nat.le_of_ble_eq_true rfl) (fun r39 σ39 τ39 h => ?_)
    refine x_istore X (lv' := [(4, .int r39), (0, .ref (ad 0)), (1, .int v1), (2, .int v2), (3, .int v3)]) dX10_slowDown_42 (by decide) rfl ?_
    refine x_aload_n X dX10_slowDown_44 rfl 1 rfl ?_
    refine x_getR X (j := 33) dX10_slowDown_45 fl_10_51 dsX_0 rfl ?_
    refine x_getR X (j := 36) dX10_slowDown_48 fl_10_252 dsX_33 rfl ?_
    refine x_iload_n X dX10_slowDown_51 rfl 4 rfl ?_
    have g52 := h.1
    have h := h.2
    refine x_iald X dX10_slowDown_52 dsX_36 g52 ?_
    refine x_iload X dX10_slowDown_53 0 rfl ?_
    refine x_icmp_eq X 80 dX10_slowDown_55 (by decide) (fun hc => ?_) (fun hc => ?_)
    · have h := h.1 hc
      refine x_sub X [1, 2, 3, 4] (lv' := [(0, .ref (ad 0)), (1, .int v1), (2, .int v2), (3, .int v3)]) rfl ?_
      exact bX10_slowDown_80 X hK25 h
    · have h := h.2 hc
      refine x_aload_n X dX10_slowDown_58 rfl 1 rfl ?_
      refine x_getR X (j := 33) dX10_slowDown_59 fl_10_51 dsX_0 rfl ?_
      refine x_getR X (j := 36) dX10_slowDown_62 fl_10_252 dsX_33 rfl ?_
      refine x_iload_n X dX10_slowDown_65 rfl 4 rfl ?_
      refine x_iload X dX10_slowDown_66 0 rfl ?_
      refine x_iast X dX10_slowDown_68 dsX_36 g52 ?_
      refine x_aload_n X dX10_slowDown_69 rfl 1 rfl ?_
      refine x_getR X (j := 33) dX10_slowDown_70 fl_10_51 dsX_0 rfl ?_
      refine x_iload_n X dX10_slowDown_73 rfl 2 rfl ?_
      refine x_callVv X [.int v1] [] dX10_slowDown_74 (kX6_setTimes x_pl33 h) cm_X6_setTimes ci_X6_setTimes w_4_132 dsX_33 ⟨by decide, by decide⟩ rfl (Nat.le_of_ble_eq_true rfl) (fun σ74 τ74 h => ?_)
      refine x_iinc X (k := 3) (lv' := [(2, .int (v2 + 1)), (4, .int r39), (0, .ref (ad 0)), (1, .int v1), (3, .int v3)]) dX10_slowDown_77 rfl ki_1 (by decide) rfl ?_
      refine x_sub X [2, 3, 0, 4] (lv' := [(0, .ref (ad 0)), (1, .int v1), (2, .int (v2 + 1)), (3, .int v3)]) rfl ?_
      exact bX10_slowDown_80 X hK25 h
set_option maxRecDepth 100000 in
set_option maxHeartbeats 4000000 in
theorem kX10_slowDown {ad : Nat → Nat} {a1 : Int32} {σ : x_S} {τ : x_L} {Q : Int32 → x_S → x_L → Prop} (h : wX10_slowDown a1 σ τ Q) : x_Met yX10_slowDown cX10_slowDown 5 (Option.some FieldType.int) 4 ad dsX [.ref (ad 0), .int a1] σ τ (x_PI Q) := by
  refine x_met (by decide +kernel) (Nat.le_of_ble_eq_true rfl) (fun V X => ?_)
  have X : x_Is V cX10_slowDown 5 RX10 (Option.some FieldType.int) ad dsX 4 (x_PI Q) := X
  show V σ τ 0 [(0, .ref (ad 0)), (1, .int a1)] []
  refine x_aload_n X dX10_slowDown_0 rfl 0 rfl ?_
  refine x_getR X (j := 63) dX10_slowDown_1 fl_10_79 dsX_0 rfl ?_
  refine x_aload_n X dX10_slowDown_4 rfl 0 rfl ?_
  refine x_getR X (j := 33) dX10_slowDown_5 fl_10_51 dsX_0 rfl ?_
  refine x_callVv X [.ref (ad 33)] [] dX10_slowDown_8 (kX2_keep x_pl33 h) cm_X2_keep ci_X2_keep w_3_223 dsX_63 ⟨by decide, by decide⟩ rfl (Nat.le_of_ble_eq_true rfl) (fun σ8 τ8 h => ?_)
  refine x_iconst X dX10_slowDown_11 ki_0 ?_
  refine x_istore_n X (lv' := [(2, .int 0), (0, .ref (ad 0)), (1, .int a1)]) dX10_slowDown_12 rfl (by decide) rfl ?_
  refine x_aload_n X dX10_slowDown_13 rfl 1 rfl ?_
  refine x_getR X (j := 27) dX10_slowDown_14 fl_10_42 dsX_0 rfl ?_
  refine x_getR X (j := 30) dX10_slowDown_17 fl_10_301 dsX_27 rfl ?_
  refine x_iload_n X dX10_slowDown_20 rfl 2 rfl ?_
  have g21 := h.1
  have h := h.2
  refine x_iald X dX10_slowDown_21 dsX_30 g21 ?_
  refine x_iconst X dX10_slowDown_22 ki_1 ?_
  refine x_isub X dX10_slowDown_23 ?_
  refine x_istore_n X (lv' := [(3, .int ((σ8 30 a1.toNatClampNeg) - 1)), (2, .int 0), (0, .ref (ad 0)), (1, .int a1)]) dX10_slowDown_24 rfl (by decide) rfl ?_
  refine x_sub X [2, 3, 1, 0] (lv' := [(0, .ref (ad 0)), (1, .int a1), (2, .int 0), (3, .int ((σ8 30 a1.toNatClampNeg) - 1))]) rfl ?_
  exact x_l3_G (fun v1 v2 v3 σ τ => V σ τ 25 [(0, .ref (ad 0)), (1, .int v1), (2, .int v2), (3, .int v3)] []) (fun K25 hK25 v1 v2 v3 σ τ h => bX10_slowDown_25 X hK25 h) h
theorem dX10_alone_0 : decode cX10_alone 0 = .ok (.iconst 0, 1) := by decide +kernel
theorem dX10_alone_1 : decode cX10_alone 1 = .ok (.istore_n 1, 1) := by decide +kernel
theorem dX10_alone_2 : decode cX10_alone 2 = .ok (.iconst 0, 1) := by decide +kernel
theorem dX10_alone_3 : decode cX10_alone 3 = .ok (.istore_n 2, 1) := by decide +kernel
theorem dX10_alone_4 : decode cX10_alone 4 = .ok (.iload_n 2, 1) := by decide +kernel
theorem dX10_alone_5 : decode cX10_alone 5 = .ok (.aload_n 0, 1) := by decide +kernel
theorem dX10_alone_6 : decode cX10_alone 6 = .ok (.getfield 19, 3) := by decide +kernel
theorem dX10_alone_9 : decode cX10_alone 9 = .ok (.getfield 127, 3) := by decide +kernel
theorem dX10_alone_12 : decode cX10_alone 12 = .ok (.if_icmp .ge 26, 3) := by decide +kernel
theorem dX10_alone_15 : decode cX10_alone 15 = .ok (.aload_n 0, 1) := by decide +kernel
theorem dX10_alone_16 : decode cX10_alone 16 = .ok (.getfield 51, 3) := by decide +kernel
theorem dX10_alone_19 : decode cX10_alone 19 = .ok (.iload_n 2, 1) := by decide +kernel
theorem dX10_alone_20 : decode cX10_alone 20 = .ok (.invokevirtual 385, 3) := by decide +kernel
theorem dX10_alone_23 : decode cX10_alone 23 = .ok (.ifCond .ne 9, 3) := by decide +kernel
theorem dX10_alone_26 : decode cX10_alone 26 = .ok (.iload_n 1, 1) := by decide +kernel
theorem dX10_alone_27 : decode cX10_alone 27 = .ok (.iconst 1, 1) := by decide +kernel
theorem dX10_alone_28 : decode cX10_alone 28 = .ok (.iload_n 2, 1) := by decide +kernel
theorem dX10_alone_29 : decode cX10_alone 29 = .ok (.ishl, 1) := by decide +kernel
theorem dX10_alone_30 : decode cX10_alone 30 = .ok (.ior, 1) := by decide +kernel
theorem dX10_alone_31 : decode cX10_alone 31 = .ok (.istore_n 1, 1) := by decide +kernel
theorem dX10_alone_32 : decode cX10_alone 32 = .ok (.iinc 2 1, 3) := by decide +kernel
theorem dX10_alone_35 : decode cX10_alone 35 = .ok (.goto (-31), 3) := by decide +kernel
theorem dX10_alone_38 : decode cX10_alone 38 = .ok (.iload_n 1, 1) := by decide +kernel
theorem dX10_alone_39 : decode cX10_alone 39 = .ok (.ireturn, 1) := by decide +kernel
theorem cm_X10_alone : x_CM yX10_alone cX10_alone 3 (Option.some FieldType.int) 0 := ⟨w_4_31, w_1_1, by decide +kernel, by decide +kernel⟩
theorem ci_X10_alone : x_CI yX10_alone 12 := ⟨w_4_29, w_4_30, (RX10, TX10, 12), rfl, rfl⟩
set_option maxRecDepth 100000 in
set_option maxHeartbeats 4000000 in
theorem bX10_alone_32 {V : x_J} {ad : Nat → Nat} {Q : Int32 → x_S → x_L → Prop} (X : x_Is V cX10_alone 3 RX10 (Option.some FieldType.int) ad dsX 2 (x_PI Q)) {K4 : Int32 → Int32 → x_S → x_L → Prop} (hK4 : ∀ v1 v2 σ τ, K4 v1 v2 σ τ → V σ τ 4 [(0, .ref (ad 0)), (1, .int v1), (2, .int v2)] []) {v1 : Int32} {v2 : Int32} {σ : x_S} {τ : x_L} (h : wX10_alone_32 K4 Q v1 v2 σ τ) : V σ τ 32 [(0, .ref (ad 0)), (1, .int v1), (2, .int v2)] [] := by
  refine x_iinc X (k := 2) (lv' := [(2, .int (v2 + 1)), (0, .ref (ad 0)), (1, .int v1)]) dX10_alone_32 rfl ki_1 (by decide) rfl ?_
  refine x_goto X (tgt := 4) dX10_alone_35 (by decide) ?_
  refine x_sub X [1, 2, 0] (lv' := [(0, .ref (ad 0)), (1, .int v1), (2, .int (v2 + 1))]) rfl ?_
  exact hK4 _ _ _ _ h
set_option maxRecDepth 100000 in
set_option maxHeartbeats 4000000 in
theorem bX10_alone_4 {V : x_J} {ad : Nat → Nat} {Q : Int32 → x_S → x_L → Prop} (X : x_Is V cX10_alone 3 RX10 (Option.some FieldType.int) ad dsX 2 (x_PI Q)) {K4 : Int32 → Int32 → x_S → x_L → Prop} (hK4 : ∀ v1 v2 σ τ, K4 v1 v2 σ τ → V σ τ 4 [(0, .ref (ad 0)), (1, .int v1), (2, .int v2)] []) {v1 : Int32} {v2 : Int32} {σ : x_S} {τ : x_L} (h : wX10_alone_4 Q K4 v1 v2 σ τ) : V σ τ 4 [(0, .ref (ad 0)), (1, .int v1), (2, .int v2)] [] := by
  refine x_iload_n X dX10_alone_4 rfl 2 rfl ?_
  refine x_aload_n X dX10_alone_5 rfl 0 rfl ?_
  refine x_getR X (j := 3) dX10_alone_6 fl_10_19 dsX_0 rfl ?_
  refine x_getI X dX10_alone_9 fl_10_127 dsX_3 rfl ?_
  refine x_icmp_ge X 38 dX10_alone_12 (by decide) (fun hc => ?_) (fun hc => ?_)
  · have h := h.1 hc
    refine x_iload_n X dX10_alone_38 rfl 1 rfl ?_
    exact x_iret X dX10_alone_39 ⟨_, rfl, h⟩
  · have h := h.2 hc
    refine x_aload_n X dX10_alone_15 rfl 0 rfl ?_
    refine x_getR X (j := 33) dX10_alone_16 fl_10_51 dsX_0 rfl ?_
    refine x_iload_n X dX10_alone_19 rfl 2 rfl ?_
    refine x_callVi X [.int v2] [] dX10_alone_20 (kX6_meetsOthers x_pl33 h) cm_X6_meetsOthers ci_X6_meetsOthers w_4_32 dsX_33 ⟨by decide, by decide⟩ rfl (Nat.le_of_ble_eq_true rfl) (fun r20 σ20 τ20 h => ?_)
    refine x_if_ne X 32 dX10_alone_23 (by decide) (fun hc => ?_) (fun hc => ?_)
    · have h := h.1 hc
      exact bX10_alone_32 X hK4 h
    · have h := h.2 hc
      refine x_iload_n X dX10_alone_26 rfl 1 rfl ?_
      refine x_iconst X dX10_alone_27 ki_1 ?_
      refine x_iload_n X dX10_alone_28 rfl 2 rfl ?_
      refine x_ishl X dX10_alone_29 ?_
      refine x_ior X dX10_alone_30 ?_
      refine x_istore_n X (lv' := [(1, .int (v1 ||| (1 <<< (v2 &&& 31)))), (0, .ref (ad 0)), (2, .int v2)]) dX10_alone_31 rfl (by decide) rfl ?_
      refine x_sub X [1, 0, 2] (lv' := [(0, .ref (ad 0)), (1, .int (v1 ||| (1 <<< (v2 &&& 31)))), (2, .int v2)]) rfl ?_
      exact bX10_alone_32 X hK4 h
set_option maxRecDepth 100000 in
set_option maxHeartbeats 4000000 in
theorem kX10_alone {ad : Nat → Nat} {σ : x_S} {τ : x_L} {Q : Int32 → x_S → x_L → Prop} (h : wX10_alone σ τ Q) : x_Met yX10_alone cX10_alone 3 (Option.some FieldType.int) 2 ad dsX [.ref (ad 0)] σ τ (x_PI Q) := by
  refine x_met (by decide +kernel) (Nat.le_of_ble_eq_true rfl) (fun V X => ?_)
  have X : x_Is V cX10_alone 3 RX10 (Option.some FieldType.int) ad dsX 2 (x_PI Q) := X
  show V σ τ 0 [(0, .ref (ad 0))] []
  refine x_iconst X dX10_alone_0 ki_0 ?_
  refine x_istore_n X (lv' := [(1, .int 0), (0, .ref (ad 0))]) dX10_alone_1 rfl (by decide) rfl ?_
  refine x_iconst X dX10_alone_2 ki_0 ?_
  refine x_istore_n X (lv' := [(2, .int 0), (1, .int 0), (0, .ref (ad 0))]) dX10_alone_3 rfl (by decide) rfl ?_
  refine x_sub X [2, 1, 0] (lv' := [(0, .ref (ad 0)), (1, .int 0), (2, .int 0)]) rfl ?_
  exact x_l2_G (fun v1 v2 σ τ => V σ τ 4 [(0, .ref (ad 0)), (1, .int v1), (2, .int v2)] []) (fun K4 hK4 v1 v2 σ τ h => bX10_alone_4 X hK4 h) h
theorem dX10_lateOnes_0 : decode cX10_lateOnes 0 = .ok (.aload_n 0, 1) := by decide +kernel
theorem dX10_lateOnes_1 : decode cX10_lateOnes 1 = .ok (.invokevirtual 146, 3) := by decide +kernel
theorem dX10_lateOnes_4 : decode cX10_lateOnes 4 = .ok (.ireturn, 1) := by decide +kernel
theorem cm_X10_lateOnes : x_CM yX10_lateOnes cX10_lateOnes 1 (Option.some FieldType.int) 0 := ⟨w_4_40, w_1_1, by decide +kernel, by decide +kernel⟩
theorem ci_X10_lateOnes : x_CI yX10_lateOnes 12 := ⟨w_4_38, w_4_39, (RX10, TX10, 12), rfl, rfl⟩
set_option maxRecDepth 100000 in
set_option maxHeartbeats 4000000 in
theorem kX10_lateOnes {ad : Nat → Nat} {σ : x_S} {τ : x_L} {Q : Int32 → x_S → x_L → Prop} (h : wX10_lateOnes σ τ Q) : x_Met yX10_lateOnes cX10_lateOnes 1 (Option.some FieldType.int) 3 ad dsX [.ref (ad 0)] σ τ (x_PI Q) := by
  refine x_met (by decide +kernel) (Nat.le_of_ble_eq_true rfl) (fun V X => ?_)
  have X : x_Is V cX10_lateOnes 1 RX10 (Option.some FieldType.int) ad dsX 3 (x_PI Q) := X
  show V σ τ 0 [(0, .ref (ad 0))] []
  refine x_aload_n X dX10_lateOnes_0 rfl 0 rfl ?_
  refine x_callVi X [] [] dX10_lateOnes_1 (kX10_lateSet h) cm_X10_lateSet ci_X10_lateSet w_3_182 dsX_0 ⟨by decide, by decide⟩ rfl (Nat.le_of_ble_eq_true rfl) (fun r1 σ1 τ1 h => ?_)
  exact x_iret X dX10_lateOnes_4 ⟨_, rfl, h⟩
theorem dX10_bestRoad_0 : decode cX10_bestRoad 0 = .ok (.iconst (-1), 1) := by decide +kernel
theorem dX10_bestRoad_1 : decode cX10_bestRoad 1 = .ok (.istore_n 1, 1) := by decide +kernel
theorem dX10_bestRoad_2 : decode cX10_bestRoad 2 = .ok (.iconst 0, 1) := by decide +kernel
theorem dX10_bestRoad_3 : decode cX10_bestRoad 3 = .ok (.istore_n 2, 1) := by decide +kernel
theorem dX10_bestRoad_4 : decode cX10_bestRoad 4 = .ok (.iconst 0, 1) := by decide +kernel
theorem dX10_bestRoad_5 : decode cX10_bestRoad 5 = .ok (.istore_n 3, 1) := by decide +kernel
theorem dX10_bestRoad_6 : decode cX10_bestRoad 6 = .ok (.iload_n 3, 1) := by decide +kernel
theorem dX10_bestRoad_7 : decode cX10_bestRoad 7 = .ok (.aload_n 0, 1) := by decide +kernel
theorem dX10_bestRoad_8 : decode cX10_bestRoad 8 = .ok (.getfield 19, 3) := by decide +kernel
theorem dX10_bestRoad_11 : decode cX10_bestRoad 11 = .ok (.getfield 136, 3) := by decide +kernel
theorem dX10_bestRoad_14 : decode cX10_bestRoad 14 = .ok (.if_icmp .ge 49, 3) := by decide +kernel
theorem dX10_bestRoad_17 : decode cX10_bestRoad 17 = .ok (.aload_n 0, 1) := by decide +kernel
theorem dX10_bestRoad_18 : decode cX10_bestRoad 18 = .ok (.getfield 51, 3) := by decide +kernel
theorem dX10_bestRoad_21 : decode cX10_bestRoad 21 = .ok (.aload_n 0, 1) := by decide +kernel
theorem dX10_bestRoad_22 : decode cX10_bestRoad 22 = .ok (.getfield 42, 3) := by decide +kernel
theorem dX10_bestRoad_25 : decode cX10_bestRoad 25 = .ok (.getfield 383, 3) := by decide +kernel
theorem dX10_bestRoad_28 : decode cX10_bestRoad 28 = .ok (.iload_n 3, 1) := by decide +kernel
theorem dX10_bestRoad_29 : decode cX10_bestRoad 29 = .ok (.iaload, 1) := by decide +kernel
theorem dX10_bestRoad_30 : decode cX10_bestRoad 30 = .ok (.aload_n 0, 1) := by decide +kernel
theorem dX10_bestRoad_31 : decode cX10_bestRoad 31 = .ok (.getfield 42, 3) := by decide +kernel
theorem dX10_bestRoad_34 : decode cX10_bestRoad 34 = .ok (.getfield 383, 3) := by decide +kernel
theorem dX10_bestRoad_37 : decode cX10_bestRoad 37 = .ok (.iload_n 3, 1) := by decide +kernel
theorem dX10_bestRoad_38 : decode cX10_bestRoad 38 = .ok (.iconst 1, 1) := by decide +kernel
theorem dX10_bestRoad_39 : decode cX10_bestRoad 39 = .ok (.iadd, 1) := by decide +kernel
theorem dX10_bestRoad_40 : decode cX10_bestRoad 40 = .ok (.iaload, 1) := by decide +kernel
theorem dX10_bestRoad_41 : decode cX10_bestRoad 41 = .ok (.invokevirtual 158, 3) := by decide +kernel
theorem dX10_bestRoad_44 : decode cX10_bestRoad 44 = .ok (.istore 4, 2) := by decide +kernel
theorem dX10_bestRoad_46 : decode cX10_bestRoad 46 = .ok (.iload 4, 2) := by decide +kernel
theorem dX10_bestRoad_48 : decode cX10_bestRoad 48 = .ok (.iload_n 2, 1) := by decide +kernel
theorem dX10_bestRoad_49 : decode cX10_bestRoad 49 = .ok (.if_icmp .le 8, 3) := by decide +kernel
theorem dX10_bestRoad_52 : decode cX10_bestRoad 52 = .ok (.iload_n 3, 1) := by decide +kernel
theorem dX10_bestRoad_53 : decode cX10_bestRoad 53 = .ok (.istore_n 1, 1) := by decide +kernel
theorem dX10_bestRoad_54 : decode cX10_bestRoad 54 = .ok (.iload 4, 2) := by decide +kernel
theorem dX10_bestRoad_56 : decode cX10_bestRoad 56 = .ok (.istore_n 2, 1) := by decide +kernel
theorem dX10_bestRoad_57 : decode cX10_bestRoad 57 = .ok (.iinc 3 1, 3) := by decide +kernel
theorem dX10_bestRoad_60 : decode cX10_bestRoad 60 = .ok (.goto (-54), 3) := by decide +kernel
theorem dX10_bestRoad_63 : decode cX10_bestRoad 63 = .ok (.iload_n 1, 1) := by decide +kernel
theorem dX10_bestRoad_64 : decode cX10_bestRoad 64 = .ok (.ireturn, 1) := by decide +kernel
theorem cm_X10_bestRoad : x_CM yX10_bestRoad cX10_bestRoad 5 (Option.some FieldType.int) 0 := ⟨w_4_44, w_1_1, by decide +kernel, by decide +kernel⟩
theorem ci_X10_bestRoad : x_CI yX10_bestRoad 12 := ⟨w_4_42, w_4_43, (RX10, TX10, 12), rfl, rfl⟩
set_option maxRecDepth 100000 in
set_option maxHeartbeats 4000000 in
theorem bX10_bestRoad_57 {V : x_J} {ad : Nat → Nat} {Q : Int32 → x_S → x_L → Prop} (X : x_Is V cX10_bestRoad 5 RX10 (Option.some FieldType.int) ad dsX 1 (x_PI Q)) {K6 : Int32 → Int32 → Int32 → x_S → x_L → Prop} (hK6 : ∀ v1 v2 v3 σ τ, K6 v1 v2 v3 σ τ → V σ τ 6 [(0, .ref (ad 0)), (1, .int v1), (2, .int v2), (3, .int v3)] []) {v1 : Int32} {v2 : Int32} {v3 : Int32} {σ : x_S} {τ : x_L} (h : wX10_bestRoad_57 K6 Q v1 v2 v3 σ τ) : V σ τ 57 [(0, .ref (ad 0)), (1, .int v1), (2, .int v2), (3, .int v3)] [] := by
  refine x_iinc X (k := 3) (lv' := [(3, .int (v3 + 1)), (0, .ref (ad 0)), (1, .int v1), (2, .int v2)]) dX10_bestRoad_57 rfl ki_1 (by decide) rfl ?_
  refine x_goto X (tgt := 6) dX10_bestRoad_60 (by decide) ?_
  refine x_sub X [1, 2, 3, 0] (lv' := [(0, .ref (ad 0)), (1, .int v1), (2, .int v2), (3, .int (v3 + 1))]) rfl ?_
  exact hK6 _ _ _ _ _ h
set_option maxRecDepth 100000 in
set_option maxHeartbeats 4000000 in
theorem bX10_bestRoad_6 {V : x_J} {ad : Nat → Nat} {Q : Int32 → x_S → x_L → Prop} (X : x_Is V cX10_bestRoad 5 RX10 (Option.some FieldType.int) ad dsX 1 (x_PI Q)) {K6 : Int32 → Int32 → Int32 → x_S → x_L → Prop} (hK6 : ∀ v1 v2 v3 σ τ, K6 v1 v2 v3 σ τ → V σ τ 6 [(0, .ref (ad 0)), (1, .int v1), (2, .int v2), (3, .int v3)] []) {v1 : Int32} {v2 : Int32} {v3 : Int32} {σ : x_S} {τ : x_L} (h : wX10_bestRoad_6 Q K6 v1 v2 v3 σ τ) : V σ τ 6 [(0, .ref (ad 0)), (1, .int v1), (2, .int v2), (3, .int v3)] [] := by
  refine x_iload_n X dX10_bestRoad_6 rfl 3 rfl ?_
  refine x_aload_n X dX10_bestRoad_7 rfl 0 rfl ?_
  refine x_getR X (j := 3) dX10_bestRoad_8 fl_10_19 dsX_0 rfl ?_
  refine x_getI X dX10_bestRoad_11 fl_10_136 dsX_3 rfl ?_
  refine x_icmp_ge X 63 dX10_bestRoad_14 (by decide) (fun hc => ?_) (fun hc => ?_)
  · have h := h.1 hc
    refine x_iload_n X dX10_bestRoad_63 rfl 1 rfl ?_
    exact x_iret X dX10_bestRoad_64 ⟨_, rfl, h⟩
  · have h := h.2 hc
    refine x_aload_n X dX10_bestRoad_17 rfl 0 rfl ?_
    refine x_getR X (j := 33) dX10_bestRoad_18 fl_10_51 dsX_0 rfl ?_
    refine x_aload_n X dX10_bestRoad_21 rfl 0 rfl ?_
    refine x_getR X (j := 27) dX10_bestRoad_22 fl_10_42 dsX_0 rfl ?_
    refine x_getR X (j := 29) dX10_bestRoad_25 fl_10_383 dsX_27 rfl ?_
    refine x_iload_n X dX10_bestRoad_28 rfl 3 rfl ?_
    have g29 := h.1
    have h := h.2
    refine x_iald X dX10_bestRoad_29 dsX_29 g29 ?_
    refine x_aload_n X dX10_bestRoad_30 rfl 0 rfl ?_
    refine x_getR X (j := 27) dX10_bestRoad_31 fl_10_42 dsX_0 rfl ?_
    refine x_getR X (j := 29) dX10_bestRoad_34 fl_10_383 dsX_27 rfl ?_
    refine x_iload_n X dX10_bestRoad_37 rfl 3 rfl ?_
    refine x_iconst X dX10_bestRoad_38 ki_1 ?_
    refine x_iadd X dX10_bestRoad_39 ?_
    have g40 := h.1
    have h := h.2
    refine x_iald X dX10_bestRoad_40 dsX_29 g40 ?_
    refine x_callVi X [.int (σ 29 v3.toNatClampNeg), .int (σ 29 (v3 + 1).toNatClampNeg)] [] dX10_bestRoad_41 (kX6_savedOnRows x_pl33 h) cm_X6_savedOnRows ci_X6_savedOnRows w_3_200 dsX_33 ⟨by decide, by decide⟩ rfl (Nat.le_of_ble_eq_true rfl) (fun r41 σ41 τ41 h => ?_)
    refine x_istore X (lv' := [(4, .int r41), (0, .ref (ad 0)), (1, .int v1), (2, .int v2), (3, .int v3)]) dX10_bestRoad_44 (by decide) rfl ?_
    refine x_iload X dX10_bestRoad_46 0 rfl ?_
    refine x_iload_n X dX10_bestRoad_48 rfl 3 rfl ?_
    refine x_icmp_le X 57 dX10_bestRoad_49 (by decide) (fun hc => ?_) (fun hc => ?_)
    · have h := h.1 hc
      refine x_sub X [1, 2, 3, 4] (lv' := [(0, .ref (ad 0)), (1, .int v1), (2, .int v2), (3, .int v3)]) rfl ?_
      exact bX10_bestRoad_57 X hK6 h
    · have h := h.2 hc
      refine x_iload_n X dX10_bestRoad_52 rfl 4 rfl ?_
      refine x_istore_n X (lv' := [(1, .int v3), (4, .int r41), (0, .ref (ad 0)), (2, .int v2), (3, .int v3)]) dX10_bestRoad_53 rfl (by decide) rfl ?_
      refine x_iload X dX10_bestRoad_54 1 rfl ?_
      refine x_istore_n X (lv' := [(2, .int r41), (1, .int v3), (4, .int r41), (0, .ref (ad 0)), (3, .int v3)]) dX10_bestRoad_56 rfl (by decide) rfl ?_
      refine x_sub X [3, 1, 0, 4] (lv' := [(0, .ref (ad 0)), (1, .int v3), (2, .int r41), (3, .int v3)]) rfl ?_
      exact bX10_bestRoad_57 X hK6 h
set_option maxRecDepth 100000 in
set_option maxHeartbeats 4000000 in
theorem kX10_bestRoad {ad : Nat → Nat} {σ : x_S} {τ : x_L} {Q : Int32 → x_S → x_L → Prop} (h : wX10_bestRoad σ τ Q) : x_Met yX10_bestRoad cX10_bestRoad 5 (Option.some FieldType.int) 1 ad dsX [.ref (ad 0)] σ τ (x_PI Q) := by
  refine x_met (by decide +kernel) (Nat.le_of_ble_eq_true rfl) (fun V X => ?_)
  have X : x_Is V cX10_bestRoad 5 RX10 (Option.some FieldType.int) ad dsX 1 (x_PI Q) := X
  show V σ τ 0 [(0, .ref (ad 0))] []
  refine x_iconst X dX10_bestRoad_0 ki_m1 ?_
  refine x_istore_n X (lv' := [(1, .int (-1)), (0, .ref (ad 0))]) dX10_bestRoad_1 rfl (by decide) rfl ?_
  refine x_iconst X dX10_bestRoad_2 ki_0 ?_
  refine x_istore_n X (lv' := [(2, .int 0), (1, .int (-1)), (0, .ref (ad 0))]) dX10_bestRoad_3 rfl (by decide) rfl ?_
  refine x_iconst X dX10_bestRoad_4 ki_0 ?_
  refine x_istore_n X (lv' := [(3, .int 0), (2, .int 0), (1, .int (-1)), (0, .ref (ad 0))]) dX10_bestRoad_5 rfl (by decide) rfl ?_
  refine x_sub X [3, 2, 1, 0] (lv' := [(0, .ref (ad 0)), (1, .int (-1)), (2, .int 0), (3, .int 0)]) rfl ?_
  exact x_l3_G (fun v1 v2 v3 σ τ => V σ τ 6 [(0, .ref (ad 0)), (1, .int v1), (2, .int v2), (3, .int v3)] []) (fun K6 hK6 v1 v2 v3 σ τ h => bX10_bestRoad_6 X hK6 h) h
theorem dX10_reachFurther_0 : decode cX10_reachFurther 0 = .ok (.iconst 0, 1) := by decide +kernel
theorem dX10_reachFurther_1 : decode cX10_reachFurther 1 = .ok (.istore_n 1, 1) := by decide +kernel
theorem dX10_reachFurther_2 : decode cX10_reachFurther 2 = .ok (.iload_n 1, 1) := by decide +kernel
theorem dX10_reachFurther_3 : decode cX10_reachFurther 3 = .ok (.aload_n 0, 1) := by decide +kernel
theorem dX10_reachFurther_4 : decode cX10_reachFurther 4 = .ok (.getfield 19, 3) := by decide +kernel
theorem dX10_reachFurther_7 : decode cX10_reachFurther 7 = .ok (.getfield 136, 3) := by decide +kernel
theorem dX10_reachFurther_10 : decode cX10_reachFurther 10 = .ok (.if_icmp .ge 92, 3) := by decide +kernel
theorem dX10_reachFurther_13 : decode cX10_reachFurther 13 = .ok (.aload_n 0, 1) := by decide +kernel
theorem dX10_reachFurther_14 : decode cX10_reachFurther 14 = .ok (.getfield 90, 3) := by decide +kernel
theorem dX10_reachFurther_17 : decode cX10_reachFurther 17 = .ok (.aload_n 0, 1) := by decide +kernel
theorem dX10_reachFurther_18 : decode cX10_reachFurther 18 = .ok (.getfield 19, 3) := by decide +kernel
theorem dX10_reachFurther_21 : decode cX10_reachFurther 21 = .ok (.getfield 192, 3) := by decide +kernel
theorem dX10_reachFurther_24 : decode cX10_reachFurther 24 = .ok (.iload_n 1, 1) := by decide +kernel
theorem dX10_reachFurther_25 : decode cX10_reachFurther 25 = .ok (.iaload, 1) := by decide +kernel
theorem dX10_reachFurther_26 : decode cX10_reachFurther 26 = .ok (.iaload, 1) := by decide +kernel
theorem dX10_reachFurther_27 : decode cX10_reachFurther 27 = .ok (.istore_n 2, 1) := by decide +kernel
theorem dX10_reachFurther_28 : decode cX10_reachFurther 28 = .ok (.iload_n 2, 1) := by decide +kernel
theorem dX10_reachFurther_29 : decode cX10_reachFurther 29 = .ok (.iconst (-1), 1) := by decide +kernel
theorem dX10_reachFurther_30 : decode cX10_reachFurther 30 = .ok (.if_icmp .eq 66, 3) := by decide +kernel
theorem dX10_reachFurther_33 : decode cX10_reachFurther 33 = .ok (.iload_n 2, 1) := by decide +kernel
theorem dX10_reachFurther_34 : decode cX10_reachFurther 34 = .ok (.aload_n 0, 1) := by decide +kernel
theorem dX10_reachFurther_35 : decode cX10_reachFurther 35 = .ok (.getfield 19, 3) := by decide +kernel
theorem dX10_reachFurther_38 : decode cX10_reachFurther 38 = .ok (.iload_n 1, 1) := by decide +kernel
theorem dX10_reachFurther_39 : decode cX10_reachFurther 39 = .ok (.aload_n 0, 1) := by decide +kernel
theorem dX10_reachFurther_40 : decode cX10_reachFurther 40 = .ok (.getfield 19, 3) := by decide +kernel
theorem dX10_reachFurther_43 : decode cX10_reachFurther 43 = .ok (.getfield 200, 3) := by decide +kernel
theorem dX10_reachFurther_46 : decode cX10_reachFurther 46 = .ok (.iload_n 1, 1) := by decide +kernel
theorem dX10_reachFurther_47 : decode cX10_reachFurther 47 = .ok (.iaload, 1) := by decide +kernel
theorem dX10_reachFurther_48 : decode cX10_reachFurther 48 = .ok (.invokevirtual 330, 3) := by decide +kernel
theorem dX10_reachFurther_51 : decode cX10_reachFurther 51 = .ok (.iadd, 1) := by decide +kernel
theorem dX10_reachFurther_52 : decode cX10_reachFurther 52 = .ok (.istore_n 3, 1) := by decide +kernel
theorem dX10_reachFurther_53 : decode cX10_reachFurther 53 = .ok (.aload_n 0, 1) := by decide +kernel
theorem dX10_reachFurther_54 : decode cX10_reachFurther 54 = .ok (.getfield 90, 3) := by decide +kernel
theorem dX10_reachFurther_57 : decode cX10_reachFurther 57 = .ok (.aload_n 0, 1) := by decide +kernel
theorem dX10_reachFurther_58 : decode cX10_reachFurther 58 = .ok (.getfield 19, 3) := by decide +kernel
theorem dX10_reachFurther_61 : decode cX10_reachFurther 61 = .ok (.getfield 195, 3) := by decide +kernel
theorem dX10_reachFurther_64 : decode cX10_reachFurther 64 = .ok (.iload_n 1, 1) := by decide +kernel
theorem dX10_reachFurther_65 : decode cX10_reachFurther 65 = .ok (.iaload, 1) := by decide +kernel
theorem dX10_reachFurther_66 : decode cX10_reachFurther 66 = .ok (.iaload, 1) := by decide +kernel
theorem dX10_reachFurther_67 : decode cX10_reachFurther 67 = .ok (.istore 4, 2) := by decide +kernel
theorem dX10_reachFurther_69 : decode cX10_reachFurther 69 = .ok (.iload 4, 2) := by decide +kernel
theorem dX10_reachFurther_71 : decode cX10_reachFurther 71 = .ok (.iconst (-1), 1) := by decide +kernel
theorem dX10_reachFurther_72 : decode cX10_reachFurther 72 = .ok (.if_icmp .eq 9, 3) := by decide +kernel
theorem dX10_reachFurther_75 : decode cX10_reachFurther 75 = .ok (.iload_n 3, 1) := by decide +kernel
theorem dX10_reachFurther_76 : decode cX10_reachFurther 76 = .ok (.iload 4, 2) := by decide +kernel
theorem dX10_reachFurther_78 : decode cX10_reachFurther 78 = .ok (.if_icmp .ge 18, 3) := by decide +kernel
theorem dX10_reachFurther_81 : decode cX10_reachFurther 81 = .ok (.aload_n 0, 1) := by decide +kernel
theorem dX10_reachFurther_82 : decode cX10_reachFurther 82 = .ok (.getfield 90, 3) := by decide +kernel
theorem dX10_reachFurther_85 : decode cX10_reachFurther 85 = .ok (.aload_n 0, 1) := by decide +kernel
theorem dX10_reachFurther_86 : decode cX10_reachFurther 86 = .ok (.getfield 19, 3) := by decide +kernel
theorem dX10_reachFurther_89 : decode cX10_reachFurther 89 = .ok (.getfield 195, 3) := by decide +kernel
theorem dX10_reachFurther_92 : decode cX10_reachFurther 92 = .ok (.iload_n 1, 1) := by decide +kernel
theorem dX10_reachFurther_93 : decode cX10_reachFurther 93 = .ok (.iaload, 1) := by decide +kernel
theorem dX10_reachFurther_94 : decode cX10_reachFurther 94 = .ok (.iload_n 3, 1) := by decide +kernel
theorem dX10_reachFurther_95 : decode cX10_reachFurther 95 = .ok (.iastore, 1) := by decide +kernel
theorem dX10_reachFurther_96 : decode cX10_reachFurther 96 = .ok (.iinc 1 1, 3) := by decide +kernel
theorem dX10_reachFurther_99 : decode cX10_reachFurther 99 = .ok (.goto (-97), 3) := by decide +kernel
theorem dX10_reachFurther_102 : decode cX10_reachFurther 102 = .ok (.return_, 1) := by decide +kernel
theorem cm_X10_reachFurther : x_CM yX10_reachFurther cX10_reachFurther 5 (Option.none : Option Jvm.ClassFile.FieldType) 0 := ⟨w_6_167, w_1_1, by decide +kernel, by decide +kernel⟩
theorem ci_X10_reachFurther : x_CI yX10_reachFurther 12 := ⟨w_6_166, wp_40, (RX10, TX10, 12), rfl, rfl⟩
set_option maxRecDepth 100000 in
set_option maxHeartbeats 4000000 in
theorem bX10_reachFurther_96 {V : x_J} {ad : Nat → Nat} {Q : x_S → x_L → Prop} (X : x_Is V cX10_reachFurther 5 RX10 (Option.none : Option Jvm.ClassFile.FieldType) ad dsX 1 (x_PV Q)) {K2 : Int32 → x_S → x_L → Prop} (hK2 : ∀ v1 σ τ, K2 v1 σ τ → V σ τ 2 [(0, .ref (ad 0)), (1, .int v1)] []) {v1 : Int32} {σ : x_S} {τ : x_L} (h : wX10_reachFurther_96 K2 Q v1 σ τ) : V σ τ 96 [(0, .ref (ad 0)), (1, .int v1)] [] := by
  refine x_iinc X (k := 1) (lv' := [(1, .int (v1 + 1)), (0, .ref (ad 0))]) dX10_reachFurther_96 rfl ki_1 (by decide) rfl ?_
  refine x_goto X (tgt := 2) dX10_reachFurther_99 (by decide) ?_
  refine x_sub X [1, 0] (lv' := [(0, .ref (ad 0)), (1, .int (v1 + 1))]) rfl ?_
  exact hK2 _ _ _ h
set_option maxRecDepth 100000 in
set_option maxHeartbeats 4000000 in
theorem bX10_reachFurther_81 {V : x_J} {ad : Nat → Nat} {Q : x_S → x_L → Prop} (X : x_Is V cX10_reachFurther 5 RX10 (Option.none : Option Jvm.ClassFile.FieldType) ad dsX 1 (x_PV Q)) {K2 : Int32 → x_S → x_L → Prop} (hK2 : ∀ v1 σ τ, K2 v1 σ τ → V σ τ 2 [(0, .ref (ad 0)), (1, .int v1)] []) {v1 : Int32} {v3 : Int32} {σ : x_S} {τ : x_L} (h : wX10_reachFurther_81 K2 Q v1 v3 σ τ) : V σ τ 81 [(0, .ref (ad 0)), (1, .int v1), (3, .int v3)] [] := by
  refine x_aload_n X dX10_reachFurther_81 rfl 0 rfl ?_
  refine x_getR X (j := 86) dX10_reachFurther_82 fl_10_90 dsX_0 rfl ?_
  refine x_aload_n X dX10_reachFurther_85 rfl 0 rfl ?_
  refine x_getR X (j := 3) dX10_reachFurther_86 fl_10_19 dsX_0 rfl ?_
  refine x_getR X (j := 5) dX10_reachFurther_89 fl_10_195 dsX_3 rfl ?_
  refine x_iload_n X dX10_reachFurther_92 rfl 1 rfl ?_
  have g93 := h.1
  have h := h.2
  refine x_iald X dX10_reachFurther_93 dsX_5 g93 ?_
  refine x_iload_n X dX10_reachFurther_94 rfl 2 rfl ?_
  have g95 := h.1
  have h := h.2
  refine x_iast X dX10_reachFurther_95 dsX_86 g95 ?_
  refine x_sub X [0, 1] (lv' := [(0, .ref (ad 0)), (1, .int v1)]) rfl ?_
  exact bX10_reachFurther_96 X hK2 h
set_option maxRecDepth 100000 in
set_option maxHeartbeats 4000000 in
theorem bX10_reachFurther_2 {V : x_J} {ad : Nat → Nat} {Q : x_S → x_L → Prop} (X : x_Is V cX10_reachFurther 5 RX10 (Option.none : Option Jvm.ClassFile.FieldType) ad dsX 1 (x_PV Q)) {K2 : Int32 → x_S → x_L → Prop} (hK2 : ∀ v1 σ τ, K2 v1 σ τ → V σ τ 2 [(0, .ref (ad 0)), (1, .int v1)] []) {v1 : Int32} {σ : x_S} {τ : x_L} (h : wX10_reachFurther_2 Q K2 v1 σ τ) : V σ τ 2 [(0, .ref (ad 0)), (1, .int v1)] [] := by
  refine x_iload_n X dX10_reachFurther_2 rfl 1 rfl ?_
  refine x_aload_n X dX10_reachFurther_3 rfl 0 rfl ?_
  refine x_getR X (j := 3) dX10_reachFurther_4 fl_10_19 dsX_0 rfl ?_
  refine x_getI X dX10_reachFurther_7 fl_10_136 dsX_3 rfl ?_
  refine x_icmp_ge X 102 dX10_reachFurther_10 (by decide) (fun hc => ?_) (fun hc => ?_)
  · have h := h.1 hc
    exact x_vret X dX10_reachFurther_102 ⟨rfl, h⟩
  · have h := h.2 hc
    refine x_aload_n X dX10_reachFurther_13 rfl 0 rfl ?_
    refine x_getR X (j := 86) dX10_reachFurther_14 fl_10_90 dsX_0 rfl ?_
    refine x_aload_n X dX10_reachFurther_17 rfl 0 rfl ?_
    refine x_getR X (j := 3) dX10_reachFurther_18 fl_10_19 dsX_0 rfl ?_
    refine x_getR X (j := 4) dX10_reachFurther_21 fl_10_192 dsX_3 rfl ?_
    refine x_iload_n X dX10_reachFurther_24 rfl 1 rfl ?_
    have g25 := h.1
    have h := h.2
    refine x_iald X dX10_reachFurther_25 dsX_4 g25 ?_
    have g26 := h.1
    have h := h.2
    refine x_iald X dX10_reachFurther_26 dsX_86 g26 ?_
    refine x_istore_n X (lv' := [(2, .int (σ 86 (σ 4 v1.toNatClampNeg).toNatClampNeg)), (0, .ref (ad 0)), (1, .int v1)]) dX10_reachFurther_27 rfl (by decide) rfl ?_
    refine x_iload_n X dX10_reachFurther_28 rfl 0 rfl ?_
    refine x_iconst X dX10_reachFurther_29 ki_m1 ?_
    refine x_icmp_eq X 96 dX10_reachFurther_30 (by decide) (fun hc => ?_) (fun hc => ?_)
    · have h := h.1 hc
      refine x_sub X [1, 2] (lv' := [(0, .ref (ad 0)), (1, .int v1)]) rfl ?_
      exact bX10_reachFurther_96 X hK2 h
    · have h := h.2 hc
      refine x_iload_n X dX10_reachFurther_33 rfl 0 rfl ?_
      refine x_aload_n X dX10_reachFurther_34 rfl 1 rfl ?_
      refine x_getR X (j := 3) dX10_reachFurther_35 fl_10_19 dsX_0 rfl ?_
      refine x_iload_n X dX10_reachFurther_38 rfl 2 rfl ?_
      refine x_aload_n X dX10_reachFurther_39 rfl 1 rfl ?_
      refine x_getR X (j := 3) dX10_reachFurther_40 fl_10_19 dsX_0 rfl ?_
      refine x_getR X (j := 7) dX10_reachFurther_43 fl_10_200 dsX_3 rfl ?_
      refine x_iload_n X dX10_reachFurther_46 rfl 2 rfl ?_
      refine x_iald X dX10_reachFurther_47 dsX_7 g25 ?_
      refine x_callVi X [.int v1, .int (σ 7 v1.toNatClampNeg)] [.int (σ 86 (σ 4 v1.toNatClampNeg).toNatClampNeg)] dX10_reachFurther_48 (kX1_minutes h) cm_X1_minutes ci_X1_minutes w_5_228 dsX_3 ⟨by decide, by decide⟩ rfl (Nat.le_of_ble_eq_true rfl) (fun r48 σ48 τ48 h => ?_)
      refine x_iadd X dX10_reachFurther_51 ?_
      refine x_istore_n X (lv' := [(3, .int ((σ 86 (σ 4 v1.toNatClampNeg).toNatClampNeg) + r48)), (2, .int (σ 86 (σ 4 v1.toNatClampNeg).toNatClampNeg)), (0, .ref (ad 0)), (1, .int v1)]) dX10_reachFurther_52 rfl (by decide) rfl ?_
      refine x_aload_n X dX10_reachFurther_53 rfl 2 rfl ?_
      refine x_getR X (j := 86) dX10_reachFurther_54 fl_10_90 dsX_0 rfl ?_
      refine x_aload_n X dX10_reachFurther_57 rfl 2 rfl ?_
      refine x_getR X (j := 3) dX10_reachFurther_58 fl_10_19 dsX_0 rfl ?_
      refine x_getR X (j := 5) dX10_reachFurther_61 fl_10_195 dsX_3 rfl ?_
      refine x_iload_n X dX10_reachFurther_64 rfl 3 rfl ?_
      refine x_iald X dX10_reachFurther_65 dsX_5 g25 ?_
      have g66 := h.1
      have h := h.2
      refine x_iald X dX10_reachFurther_66 dsX_86 g66 ?_
      refine x_istore X (lv' := [(4, .int (σ48 86 (σ48 5 v1.toNatClampNeg).toNatClampNeg)), (3, .int ((σ 86 (σ 4 v1.toNatClampNeg).toNatClampNeg) + r48)), (2, .int (σ 86 (σ 4 v1.toNatClampNeg).toNatClampNeg)), (0, .ref (ad 0)), (1, .int v1)]) dX10_reachFurther_67 (by decide) rfl ?_
      refine x_iload X dX10_reachFurther_69 0 rfl ?_
      refine x_iconst X dX10_reachFurther_71 ki_m1 ?_
      refine x_icmp_eq X 81 dX10_reachFurther_72 (by decide) (fun hc => ?_) (fun hc => ?_)
      · have h := h.1 hc
        refine x_sub X [3, 4, 1] (lv' := [(0, .ref (ad 0)), (1, .int v1), (3, .int ((σ 86 (σ 4 v1.toNatClampNeg).toNatClampNeg) + r48))]) rfl ?_
        exact bX10_reachFurther_81 X hK2 h
      · have h := h.2 hc
        refine x_iload_n X dX10_reachFurther_75 rfl 1 rfl ?_
        refine x_iload X dX10_reachFurther_76 0 rfl ?_
        refine x_icmp_ge X 96 dX10_reachFurther_78 (by decide) (fun hc => ?_) (fun hc => ?_)
        · have h := h.1 hc
          refine x_sub X [3, 4] (lv' := [(0, .ref (ad 0)), (1, .int v1)]) rfl ?_
          exact bX10_reachFurther_96 X hK2 h
        · have h := h.2 hc
          refine x_sub X [3, 4, 1] (lv' := [(0, .ref (ad 0)), (1, .int v1), (3, .int ((σ 86 (σ 4 v1.toNatClampNeg).toNatClampNeg) + r48))]) rfl ?_
          exact bX10_reachFurther_81 X hK2 h
set_option maxRecDepth 100000 in
set_option maxHeartbeats 4000000 in
theorem kX10_reachFurther {ad : Nat → Nat} {σ : x_S} {τ : x_L} {Q : x_S → x_L → Prop} (h : wX10_reachFurther σ τ Q) : x_Met yX10_reachFurther cX10_reachFurther 5 (Option.none : Option Jvm.ClassFile.FieldType) 1 ad dsX [.ref (ad 0)] σ τ (x_PV Q) := by
  refine x_met (by decide +kernel) (Nat.le_of_ble_eq_true rfl) (fun V X => ?_)
  have X : x_Is V cX10_reachFurther 5 RX10 (Option.none : Option Jvm.ClassFile.FieldType) ad dsX 1 (x_PV Q) := X
  show V σ τ 0 [(0, .ref (ad 0))] []
  refine x_iconst X dX10_reachFurther_0 ki_0 ?_
  refine x_istore_n X (lv' := [(1, .int 0), (0, .ref (ad 0))]) dX10_reachFurther_1 rfl (by decide) rfl ?_
  refine x_sub X [1, 0] (lv' := [(0, .ref (ad 0)), (1, .int 0)]) rfl ?_
  exact x_l1_G (fun v1 σ τ => V σ τ 2 [(0, .ref (ad 0)), (1, .int v1)] []) (fun K2 hK2 v1 σ τ h => bX10_reachFurther_2 X hK2 h) h
theorem dX10_outputByte_0 : decode cX10_outputByte 0 = .ok (.iload_n 1, 1) := by decide +kernel
theorem dX10_outputByte_1 : decode cX10_outputByte 1 = .ok (.ifCond .lt 26, 3) := by decide +kernel
theorem dX10_outputByte_4 : decode cX10_outputByte 4 = .ok (.iload_n 1, 1) := by decide +kernel
theorem dX10_outputByte_5 : decode cX10_outputByte 5 = .ok (.aload_n 0, 1) := by decide +kernel
theorem dX10_outputByte_6 : decode cX10_outputByte 6 = .ok (.getfield 86, 3) := by decide +kernel
theorem dX10_outputByte_9 : decode cX10_outputByte 9 = .ok (.getfield 420, 3) := by decide +kernel
theorem dX10_outputByte_12 : decode cX10_outputByte 12 = .ok (.if_icmp .ge 15, 3) := by decide +kernel
theorem dX10_outputByte_15 : decode cX10_outputByte 15 = .ok (.aload_n 0, 1) := by decide +kernel
theorem dX10_outputByte_16 : decode cX10_outputByte 16 = .ok (.getfield 86, 3) := by decide +kernel
theorem dX10_outputByte_19 : decode cX10_outputByte 19 = .ok (.getfield 427, 3) := by decide +kernel
theorem dX10_outputByte_22 : decode cX10_outputByte 22 = .ok (.iload_n 1, 1) := by decide +kernel
theorem dX10_outputByte_23 : decode cX10_outputByte 23 = .ok (.baload, 1) := by decide +kernel
theorem dX10_outputByte_24 : decode cX10_outputByte 24 = .ok (.goto 4, 3) := by decide +kernel
theorem dX10_outputByte_27 : decode cX10_outputByte 27 = .ok (.iconst (-1), 1) := by decide +kernel
theorem dX10_outputByte_28 : decode cX10_outputByte 28 = .ok (.ireturn, 1) := by decide +kernel
theorem cm_X10_outputByte : x_CM yX10_outputByte cX10_outputByte 2 (Option.some FieldType.int) 1 := ⟨w_4_48, w_1_1, by decide +kernel, by decide +kernel⟩
theorem ci_X10_outputByte : x_CI yX10_outputByte 12 := ⟨w_4_46, w_4_47, (RX10, TX10, 12), rfl, rfl⟩
set_option maxRecDepth 100000 in
set_option maxHeartbeats 4000000 in
theorem bX10_outputByte_28 {V : x_J} {ad : Nat → Nat} {Q : Int32 → x_S → x_L → Prop} (X : x_Is V cX10_outputByte 2 RX10 (Option.some FieldType.int) ad dsX 0 (x_PI Q)) {s0 : Int32} {σ : x_S} {τ : x_L} (h : wX10_outputByte_28 Q s0 σ τ) : V σ τ 28 [] [.int s0] := by
  exact x_iret X dX10_outputByte_28 ⟨_, rfl, h⟩
set_option maxRecDepth 100000 in
set_option maxHeartbeats 4000000 in
theorem bX10_outputByte_27 {V : x_J} {ad : Nat → Nat} {Q : Int32 → x_S → x_L → Prop} (X : x_Is V cX10_outputByte 2 RX10 (Option.some FieldType.int) ad dsX 0 (x_PI Q)) {σ : x_S} {τ : x_L} (h : wX10_outputByte_27 Q σ τ) : V σ τ 27 [] [] := by
  refine x_iconst X dX10_outputByte_27 ki_m1 ?_
  exact bX10_outputByte_28 X h
set_option maxRecDepth 100000 in
set_option maxHeartbeats 4000000 in
theorem kX10_outputByte {ad : Nat → Nat} {a1 : Int32} {σ : x_S} {τ : x_L} {Q : Int32 → x_S → x_L → Prop} (h : wX10_outputByte a1 σ τ Q) : x_Met yX10_outputByte cX10_outputByte 2 (Option.some FieldType.int) 0 ad dsX [.ref (ad 0), .int a1] σ τ (x_PI Q) := by
  refine x_met (by decide +kernel) (Nat.le_of_ble_eq_true rfl) (fun V X => ?_)
  have X : x_Is V cX10_outputByte 2 RX10 (Option.some FieldType.int) ad dsX 0 (x_PI Q) := X
  show V σ τ 0 [(0, .ref (ad 0)), (1, .int a1)] []
  refine x_iload_n X dX10_outputByte_0 rfl 1 rfl ?_
  refine x_if_lt X 27 dX10_outputByte_1 (by decide) (fun hc => ?_) (fun hc => ?_)
  · have h := h.1 hc
    refine x_sub X [] (lv' := []) rfl ?_
    exact bX10_outputByte_27 X h
  · have h := h.2 hc
    refine x_iload_n X dX10_outputByte_4 rfl 1 rfl ?_
    refine x_aload_n X dX10_outputByte_5 rfl 0 rfl ?_
    refine x_getR X (j := 84) dX10_outputByte_6 fl_10_86 dsX_0 rfl ?_
    refine x_getI X dX10_outputByte_9 fl_10_420 dsX_84 rfl ?_
    refine x_icmp_ge X 27 dX10_outputByte_12 (by decide) (fun hc => ?_) (fun hc => ?_)
    · have h := h.1 hc
      refine x_sub X [] (lv' := []) rfl ?_
      exact bX10_outputByte_27 X h
    · have h := h.2 hc
      refine x_aload_n X dX10_outputByte_15 rfl 0 rfl ?_
      refine x_getR X (j := 84) dX10_outputByte_16 fl_10_86 dsX_0 rfl ?_
      refine x_getR X (j := 85) dX10_outputByte_19 fl_10_427 dsX_84 rfl ?_
      refine x_iload_n X dX10_outputByte_22 rfl 1 rfl ?_
      have g23 := h.1
      have h := h.2
      refine x_bald X dX10_outputByte_23 dsX_85 g23 ?_
      refine x_goto X (tgt := 28) dX10_outputByte_24 (by decide) ?_
      refine x_sub X [] (lv' := []) rfl ?_
      exact bX10_outputByte_28 X h
theorem dX10_performSpeed_0 : decode cX10_performSpeed 0 = .ok (.aload_n 0, 1) := by decide +kernel
theorem dX10_performSpeed_1 : decode cX10_performSpeed 1 = .ok (.getfield 19, 3) := by decide +kernel
theorem dX10_performSpeed_4 : decode cX10_performSpeed 4 = .ok (.iload_n 1, 1) := by decide +kernel
theorem dX10_performSpeed_5 : decode cX10_performSpeed 5 = .ok (.iload_n 2, 1) := by decide +kernel
theorem dX10_performSpeed_6 : decode cX10_performSpeed 6 = .ok (.invokevirtual 454, 3) := by decide +kernel
theorem dX10_performSpeed_9 : decode cX10_performSpeed 9 = .ok (.ifCond .eq 28, 3) := by decide +kernel
theorem dX10_performSpeed_12 : decode cX10_performSpeed 12 = .ok (.iload_n 3, 1) := by decide +kernel
theorem dX10_performSpeed_13 : decode cX10_performSpeed 13 = .ok (.aload_n 0, 1) := by decide +kernel
theorem dX10_performSpeed_14 : decode cX10_performSpeed 14 = .ok (.getfield 19, 3) := by decide +kernel
theorem dX10_performSpeed_17 : decode cX10_performSpeed 17 = .ok (.getfield 200, 3) := by decide +kernel
theorem dX10_performSpeed_20 : decode cX10_performSpeed 20 = .ok (.aload_n 0, 1) := by decide +kernel
theorem dX10_performSpeed_21 : decode cX10_performSpeed 21 = .ok (.getfield 19, 3) := by decide +kernel
theorem dX10_performSpeed_24 : decode cX10_performSpeed 24 = .ok (.getfield 246, 3) := by decide +kernel
theorem dX10_performSpeed_27 : decode cX10_performSpeed 27 = .ok (.iload_n 1, 1) := by decide +kernel
theorem dX10_performSpeed_28 : decode cX10_performSpeed 28 = .ok (.iload_n 2, 1) := by decide +kernel
theorem dX10_performSpeed_29 : decode cX10_performSpeed 29 = .ok (.invokestatic 243, 3) := by decide +kernel
theorem dX10_performSpeed_32 : decode cX10_performSpeed 32 = .ok (.iaload, 1) := by decide +kernel
theorem dX10_performSpeed_33 : decode cX10_performSpeed 33 = .ok (.iaload, 1) := by decide +kernel
theorem dX10_performSpeed_34 : decode cX10_performSpeed 34 = .ok (.if_icmp .le 5, 3) := by decide +kernel
theorem dX10_performSpeed_37 : decode cX10_performSpeed 37 = .ok (.iconst 0, 1) := by decide +kernel
theorem dX10_performSpeed_38 : decode cX10_performSpeed 38 = .ok (.ireturn, 1) := by decide +kernel
theorem dX10_performSpeed_39 : decode cX10_performSpeed 39 = .ok (.aload_n 0, 1) := by decide +kernel
theorem dX10_performSpeed_40 : decode cX10_performSpeed 40 = .ok (.iload_n 1, 1) := by decide +kernel
theorem dX10_performSpeed_41 : decode cX10_performSpeed 41 = .ok (.iload_n 2, 1) := by decide +kernel
theorem dX10_performSpeed_42 : decode cX10_performSpeed 42 = .ok (.invokestatic 243, 3) := by decide +kernel
theorem dX10_performSpeed_45 : decode cX10_performSpeed 45 = .ok (.iload_n 3, 1) := by decide +kernel
theorem dX10_performSpeed_46 : decode cX10_performSpeed 46 = .ok (.invokevirtual 342, 3) := by decide +kernel
theorem dX10_performSpeed_49 : decode cX10_performSpeed 49 = .ok (.pop, 1) := by decide +kernel
theorem dX10_performSpeed_50 : decode cX10_performSpeed 50 = .ok (.iconst 1, 1) := by decide +kernel
theorem dX10_performSpeed_51 : decode cX10_performSpeed 51 = .ok (.ireturn, 1) := by decide +kernel
theorem cm_X10_performSpeed : x_CM yX10_performSpeed cX10_performSpeed 4 (Option.some FieldType.boolean) 3 := ⟨w_4_115, w_1_1, by decide +kernel, by decide +kernel⟩
theorem ci_X10_performSpeed : x_CI yX10_performSpeed 12 := ⟨w_4_114, wp_26, (RX10, TX10, 12), rfl, rfl⟩
set_option maxRecDepth 100000 in
set_option maxHeartbeats 4000000 in
theorem bX10_performSpeed_37 {V : x_J} {ad : Nat → Nat} {Q : Int32 → x_S → x_L → Prop} (X : x_Is V cX10_performSpeed 4 RX10 (Option.some FieldType.boolean) ad dsX 5 (x_PI Q)) {σ : x_S} {τ : x_L} (h : wX10_performSpeed_37 Q σ τ) : V σ τ 37 [] [] := by
  refine x_iconst X dX10_performSpeed_37 ki_0 ?_
  exact x_zret X dX10_performSpeed_38 ⟨Or.inl rfl, _, rfl, h⟩
set_option maxRecDepth 100000 in
set_option maxHeartbeats 4000000 in
theorem kX10_performSpeed {ad : Nat → Nat} {a1 : Int32} {a2 : Int32} {a3 : Int32} {σ : x_S} {τ : x_L} {Q : Int32 → x_S → x_L → Prop} (h : wX10_performSpeed a1 a2 a3 σ τ Q) : x_Met yX10_performSpeed cX10_performSpeed 4 (Option.some FieldType.boolean) 5 ad dsX [.ref (ad 0), .int a1, .int a2, .int a3] σ τ (x_PI Q) := by
  refine x_met (by decide +kernel) (Nat.le_of_ble_eq_true rfl) (fun V X => ?_)
  have X : x_Is V cX10_performSpeed 4 RX10 (Option.some FieldType.boolean) ad dsX 5 (x_PI Q) := X
  show V σ τ 0 [(0, .ref (ad 0)), (1, .int a1), (2, .int a2), (3, .int a3)] []
  refine x_aload_n X dX10_performSpeed_0 rfl 0 rfl ?_
  refine x_getR X (j := 3) dX10_performSpeed_1 fl_10_19 dsX_0 rfl ?_
  refine x_iload_n X dX10_performSpeed_4 rfl 1 rfl ?_
  refine x_iload_n X dX10_performSpeed_5 rfl 2 rfl ?_
  refine x_callVi X [.int a1, .int a2] [] dX10_performSpeed_6 (kX1_hasPlace h) cm_X1_hasPlace ci_X1_hasPlace w_4_102 dsX_3 ⟨by decide, by decide⟩ rfl (Nat.le_of_ble_eq_true rfl) (fun r6 σ6 τ6 h => ?_)
  refine x_if_eq X 37 dX10_performSpeed_9 (by decide) (fun hc => ?_) (fun hc => ?_)
  · have h := h.1 hc
    refine x_sub X [] (lv' := []) rfl ?_
    exact bX10_performSpeed_37 X h
  · have h := h.2 hc
    refine x_iload_n X dX10_performSpeed_12 rfl 3 rfl ?_
    refine x_aload_n X dX10_performSpeed_13 rfl 0 rfl ?_
    refine x_getR X (j := 3) dX10_performSpeed_14 fl_10_19 dsX_0 rfl ?_
    refine x_getR X (j := 7) dX10_performSpeed_17 fl_10_200 dsX_3 rfl ?_
    refine x_aload_n X dX10_performSpeed_20 rfl 0 rfl ?_
    refine x_getR X (j := 3) dX10_performSpeed_21 fl_10_19 dsX_0 rfl ?_
    refine x_getR X (j := 12) dX10_performSpeed_24 fl_10_246 dsX_3 rfl ?_
    refine x_iload_n X dX10_performSpeed_27 rfl 1 rfl ?_
    refine x_iload_n X dX10_performSpeed_28 rfl 2 rfl ?_
    refine x_callSi X [.int a1, .int a2] [.ref (ad 12), .ref (ad 7), .int a3] dX10_performSpeed_29 (kX10_stopAt h) cm_X10_stopAt w_3_60 rfl w_4_107 ⟨by decide, by decide⟩ rfl (Nat.le_of_ble_eq_true rfl) (fun r29 σ29 τ29 h => ?_)
    have g32 := h.1
    have h := h.2
    refine x_iald X dX10_performSpeed_32 dsX_12 g32 ?_
    have g33 := h.1
    have h := h.2
    refine x_iald X dX10_performSpeed_33 dsX_7 g33 ?_
    refine x_icmp_le X 39 dX10_performSpeed_34 (by decide) (fun hc => ?_) (fun hc => ?_)
    · have h := h.1 hc
      refine x_aload_n X dX10_performSpeed_39 rfl 0 rfl ?_
      refine x_iload_n X dX10_performSpeed_40 rfl 1 rfl ?_
      refine x_iload_n X dX10_performSpeed_41 rfl 2 rfl ?_
      refine x_callSi X [.int a1, .int a2] [.ref (ad 0)] dX10_performSpeed_42 (kX10_stopAt h) cm_X10_stopAt w_3_60 rfl w_4_107 ⟨by decide, by decide⟩ rfl (Nat.le_of_ble_eq_true rfl) (fun r42 σ42 τ42 h => ?_)
      refine x_iload_n X dX10_performSpeed_45 rfl 3 rfl ?_
      refine x_callVi X [.int r42, .int a3] [] dX10_performSpeed_46 (kX10_changeSpeed h) cm_X10_changeSpeed ci_X10_changeSpeed w_4_116 dsX_0 ⟨by decide, by decide⟩ rfl (Nat.le_of_ble_eq_true rfl) (fun r46 σ46 τ46 h => ?_)
      refine x_pop X dX10_performSpeed_49 rfl ?_
      refine x_iconst X dX10_performSpeed_50 ki_1 ?_
      exact x_zret X dX10_performSpeed_51 ⟨Or.inr rfl, _, rfl, h⟩
    · have h := h.2 hc
      refine x_sub X [] (lv' := []) rfl ?_
      exact bX10_performSpeed_37 X h
theorem dX10_performWait_0 : decode cX10_performWait 0 = .ok (.aload_n 0, 1) := by decide +kernel
theorem dX10_performWait_1 : decode cX10_performWait 1 = .ok (.getfield 19, 3) := by decide +kernel
theorem dX10_performWait_4 : decode cX10_performWait 4 = .ok (.iload_n 1, 1) := by decide +kernel
theorem dX10_performWait_5 : decode cX10_performWait 5 = .ok (.iload_n 2, 1) := by decide +kernel
theorem dX10_performWait_6 : decode cX10_performWait 6 = .ok (.invokevirtual 454, 3) := by decide +kernel
theorem dX10_performWait_9 : decode cX10_performWait 9 = .ok (.ifCond .ne 5, 3) := by decide +kernel
theorem dX10_performWait_12 : decode cX10_performWait 12 = .ok (.iconst 0, 1) := by decide +kernel
theorem dX10_performWait_13 : decode cX10_performWait 13 = .ok (.ireturn, 1) := by decide +kernel
theorem dX10_performWait_14 : decode cX10_performWait 14 = .ok (.aload_n 0, 1) := by decide +kernel
theorem dX10_performWait_15 : decode cX10_performWait 15 = .ok (.iload_n 1, 1) := by decide +kernel
theorem dX10_performWait_16 : decode cX10_performWait 16 = .ok (.iload_n 2, 1) := by decide +kernel
theorem dX10_performWait_17 : decode cX10_performWait 17 = .ok (.invokestatic 243, 3) := by decide +kernel
theorem dX10_performWait_20 : decode cX10_performWait 20 = .ok (.iload_n 3, 1) := by decide +kernel
theorem dX10_performWait_21 : decode cX10_performWait 21 = .ok (.invokevirtual 333, 3) := by decide +kernel
theorem dX10_performWait_24 : decode cX10_performWait 24 = .ok (.pop, 1) := by decide +kernel
theorem dX10_performWait_25 : decode cX10_performWait 25 = .ok (.iconst 1, 1) := by decide +kernel
theorem dX10_performWait_26 : decode cX10_performWait 26 = .ok (.ireturn, 1) := by decide +kernel
theorem cm_X10_performWait : x_CM yX10_performWait cX10_performWait 4 (Option.some FieldType.boolean) 3 := ⟨w_4_101, w_1_1, by decide +kernel, by decide +kernel⟩
theorem ci_X10_performWait : x_CI yX10_performWait 12 := ⟨w_4_100, wp_24, (RX10, TX10, 12), rfl, rfl⟩
set_option maxRecDepth 100000 in
set_option maxHeartbeats 4000000 in
theorem kX10_performWait {ad : Nat → Nat} {a1 : Int32} {a2 : Int32} {a3 : Int32} {σ : x_S} {τ : x_L} {Q : Int32 → x_S → x_L → Prop} (h : wX10_performWait a1 a2 a3 σ τ Q) : x_Met yX10_performWait cX10_performWait 4 (Option.some FieldType.boolean) 5 ad dsX [.ref (ad 0), .int a1, .int a2, .int a3] σ τ (x_PI Q) := by
  refine x_met (by decide +kernel) (Nat.le_of_ble_eq_true rfl) (fun V X => ?_)
  have X : x_Is V cX10_performWait 4 RX10 (Option.some FieldType.boolean) ad dsX 5 (x_PI Q) := X
  show V σ τ 0 [(0, .ref (ad 0)), (1, .int a1), (2, .int a2), (3, .int a3)] []
  refine x_aload_n X dX10_performWait_0 rfl 0 rfl ?_
  refine x_getR X (j := 3) dX10_performWait_1 fl_10_19 dsX_0 rfl ?_
  refine x_iload_n X dX10_performWait_4 rfl 1 rfl ?_
  refine x_iload_n X dX10_performWait_5 rfl 2 rfl ?_
  refine x_callVi X [.int a1, .int a2] [] dX10_performWait_6 (kX1_hasPlace h) cm_X1_hasPlace ci_X1_hasPlace w_4_102 dsX_3 ⟨by decide, by decide⟩ rfl (Nat.le_of_ble_eq_true rfl) (fun r6 σ6 τ6 h => ?_)
  refine x_if_ne X 14 dX10_performWait_9 (by decide) (fun hc => ?_) (fun hc => ?_)
  · have h := h.1 hc
    refine x_aload_n X dX10_performWait_14 rfl 0 rfl ?_
    refine x_iload_n X dX10_performWait_15 rfl 1 rfl ?_
    refine x_iload_n X dX10_performWait_16 rfl 2 rfl ?_
    refine x_callSi X [.int a1, .int a2] [.ref (ad 0)] dX10_performWait_17 (kX10_stopAt h) cm_X10_stopAt w_3_60 rfl w_4_107 ⟨by decide, by decide⟩ rfl (Nat.le_of_ble_eq_true rfl) (fun r17 σ17 τ17 h => ?_)
    refine x_iload_n X dX10_performWait_20 rfl 3 rfl ?_
    refine x_callVi X [.int r17, .int a3] [] dX10_performWait_21 (kX10_changeWait h) cm_X10_changeWait ci_X10_changeWait w_4_108 dsX_0 ⟨by decide, by decide⟩ rfl (Nat.le_of_ble_eq_true rfl) (fun r21 σ21 τ21 h => ?_)
    refine x_pop X dX10_performWait_24 rfl ?_
    refine x_iconst X dX10_performWait_25 ki_1 ?_
    exact x_zret X dX10_performWait_26 ⟨Or.inr rfl, _, rfl, h⟩
  · have h := h.2 hc
    refine x_iconst X dX10_performWait_12 ki_0 ?_
    exact x_zret X dX10_performWait_13 ⟨Or.inl rfl, _, rfl, h⟩
theorem dX10_perform_0 : decode cX10_perform 0 = .ok (.aload_n 0, 1) := by decide +kernel
theorem dX10_perform_1 : decode cX10_perform 1 = .ok (.getfield 33, 3) := by decide +kernel
theorem dX10_perform_4 : decode cX10_perform 4 = .ok (.iload_n 1, 1) := by decide +kernel
theorem dX10_perform_5 : decode cX10_perform 5 = .ok (.invokevirtual 438, 3) := by decide +kernel
theorem dX10_perform_8 : decode cX10_perform 8 = .ok (.istore_n 2, 1) := by decide +kernel
theorem dX10_perform_9 : decode cX10_perform 9 = .ok (.aload_n 0, 1) := by decide +kernel
theorem dX10_perform_10 : decode cX10_perform 10 = .ok (.getfield 33, 3) := by decide +kernel
theorem dX10_perform_13 : decode cX10_perform 13 = .ok (.iload_n 1, 1) := by decide +kernel
theorem dX10_perform_14 : decode cX10_perform 14 = .ok (.iconst 0, 1) := by decide +kernel
theorem dX10_perform_15 : decode cX10_perform 15 = .ok (.invokevirtual 441, 3) := by decide +kernel
theorem dX10_perform_18 : decode cX10_perform 18 = .ok (.istore_n 3, 1) := by decide +kernel
theorem dX10_perform_19 : decode cX10_perform 19 = .ok (.aload_n 0, 1) := by decide +kernel
theorem dX10_perform_20 : decode cX10_perform 20 = .ok (.getfield 33, 3) := by decide +kernel
theorem dX10_perform_23 : decode cX10_perform 23 = .ok (.iload_n 1, 1) := by decide +kernel
theorem dX10_perform_24 : decode cX10_perform 24 = .ok (.iconst 1, 1) := by decide +kernel
theorem dX10_perform_25 : decode cX10_perform 25 = .ok (.invokevirtual 441, 3) := by decide +kernel
theorem dX10_perform_28 : decode cX10_perform 28 = .ok (.istore 4, 2) := by decide +kernel
theorem dX10_perform_30 : decode cX10_perform 30 = .ok (.aload_n 0, 1) := by decide +kernel
theorem dX10_perform_31 : decode cX10_perform 31 = .ok (.getfield 33, 3) := by decide +kernel
theorem dX10_perform_34 : decode cX10_perform 34 = .ok (.iload_n 1, 1) := by decide +kernel
theorem dX10_perform_35 : decode cX10_perform 35 = .ok (.iconst 2, 1) := by decide +kernel
theorem dX10_perform_36 : decode cX10_perform 36 = .ok (.invokevirtual 441, 3) := by decide +kernel
theorem dX10_perform_39 : decode cX10_perform 39 = .ok (.istore 5, 2) := by decide +kernel
theorem dX10_perform_41 : decode cX10_perform 41 = .ok (.iload_n 2, 1) := by decide +kernel
theorem dX10_perform_42 : decode cX10_perform 42 = .ok (.bipush 6, 2) := by decide +kernel
theorem dX10_perform_44 : decode cX10_perform 44 = .ok (.if_icmp .ne 10, 3) := by decide +kernel
theorem dX10_perform_47 : decode cX10_perform 47 = .ok (.aload_n 0, 1) := by decide +kernel
theorem dX10_perform_48 : decode cX10_perform 48 = .ok (.invokevirtual 364, 3) := by decide +kernel
theorem dX10_perform_51 : decode cX10_perform 51 = .ok (.pop, 1) := by decide +kernel
theorem dX10_perform_52 : decode cX10_perform 52 = .ok (.iconst 1, 1) := by decide +kernel
theorem dX10_perform_53 : decode cX10_perform 53 = .ok (.ireturn, 1) := by decide +kernel
theorem dX10_perform_54 : decode cX10_perform 54 = .ok (.aload_n 0, 1) := by decide +kernel
theorem dX10_perform_55 : decode cX10_perform 55 = .ok (.getfield 19, 3) := by decide +kernel
theorem dX10_perform_58 : decode cX10_perform 58 = .ok (.iload_n 3, 1) := by decide +kernel
theorem dX10_perform_59 : decode cX10_perform 59 = .ok (.invokevirtual 444, 3) := by decide +kernel
theorem dX10_perform_62 : decode cX10_perform 62 = .ok (.ifCond .ne 5, 3) := by decide +kernel
theorem dX10_perform_65 : decode cX10_perform 65 = .ok (.iconst 0, 1) := by decide +kernel
theorem dX10_perform_66 : decode cX10_perform 66 = .ok (.ireturn, 1) := by decide +kernel
theorem dX10_perform_67 : decode cX10_perform 67 = .ok (.iload_n 2, 1) := by decide +kernel
theorem dX10_perform_68 : decode cX10_perform 68 = .ok (.tableswitch 104 0 4 #[36, 46, 56, 66, 96], 36) := by decide +kernel
theorem dX10_perform_104 : decode cX10_perform 104 = .ok (.aload_n 0, 1) := by decide +kernel
theorem dX10_perform_105 : decode cX10_perform 105 = .ok (.iload_n 3, 1) := by decide +kernel
theorem dX10_perform_106 : decode cX10_perform 106 = .ok (.iload 4, 2) := by decide +kernel
theorem dX10_perform_108 : decode cX10_perform 108 = .ok (.iload 5, 2) := by decide +kernel
theorem dX10_perform_110 : decode cX10_perform 110 = .ok (.invokevirtual 447, 3) := by decide +kernel
theorem dX10_perform_113 : decode cX10_perform 113 = .ok (.ireturn, 1) := by decide +kernel
theorem dX10_perform_114 : decode cX10_perform 114 = .ok (.aload_n 0, 1) := by decide +kernel
theorem dX10_perform_115 : decode cX10_perform 115 = .ok (.iload_n 3, 1) := by decide +kernel
theorem dX10_perform_116 : decode cX10_perform 116 = .ok (.iload 4, 2) := by decide +kernel
theorem dX10_perform_118 : decode cX10_perform 118 = .ok (.iload 5, 2) := by decide +kernel
theorem dX10_perform_120 : decode cX10_perform 120 = .ok (.invokevirtual 451, 3) := by decide +kernel
theorem dX10_perform_123 : decode cX10_perform 123 = .ok (.ireturn, 1) := by decide +kernel
theorem dX10_perform_124 : decode cX10_perform 124 = .ok (.aload_n 0, 1) := by decide +kernel
theorem dX10_perform_125 : decode cX10_perform 125 = .ok (.iload_n 3, 1) := by decide +kernel
theorem dX10_perform_126 : decode cX10_perform 126 = .ok (.iload 4, 2) := by decide +kernel
theorem dX10_perform_128 : decode cX10_perform 128 = .ok (.invokevirtual 345, 3) := by decide +kernel
theorem dX10_perform_131 : decode cX10_perform 131 = .ok (.pop, 1) := by decide +kernel
theorem dX10_perform_132 : decode cX10_perform 132 = .ok (.iconst 1, 1) := by decide +kernel
theorem dX10_perform_133 : decode cX10_perform 133 = .ok (.ireturn, 1) := by decide +kernel
theorem dX10_perform_134 : decode cX10_perform 134 = .ok (.aload_n 0, 1) := by decide +kernel
theorem dX10_perform_135 : decode cX10_perform 135 = .ok (.getfield 19, 3) := by decide +kernel
theorem dX10_perform_138 : decode cX10_perform 138 = .ok (.iload 4, 2) := by decide +kernel
theorem dX10_perform_140 : decode cX10_perform 140 = .ok (.invokevirtual 444, 3) := by decide +kernel
theorem dX10_perform_143 : decode cX10_perform 143 = .ok (.ifCond .eq 19, 3) := by decide +kernel
theorem dX10_perform_146 : decode cX10_perform 146 = .ok (.aload_n 0, 1) := by decide +kernel
theorem dX10_perform_147 : decode cX10_perform 147 = .ok (.iload_n 3, 1) := by decide +kernel
theorem dX10_perform_148 : decode cX10_perform 148 = .ok (.iload 4, 2) := by decide +kernel
theorem dX10_perform_150 : decode cX10_perform 150 = .ok (.invokevirtual 351, 3) := by decide +kernel
theorem dX10_perform_153 : decode cX10_perform 153 = .ok (.bipush (-3), 2) := by decide +kernel
theorem dX10_perform_155 : decode cX10_perform 155 = .ok (.if_icmp .eq 7, 3) := by decide +kernel
theorem dX10_perform_158 : decode cX10_perform 158 = .ok (.iconst 1, 1) := by decide +kernel
theorem dX10_perform_159 : decode cX10_perform 159 = .ok (.goto 4, 3) := by decide +kernel
theorem dX10_perform_162 : decode cX10_perform 162 = .ok (.iconst 0, 1) := by decide +kernel
theorem dX10_perform_163 : decode cX10_perform 163 = .ok (.ireturn, 1) := by decide +kernel
theorem dX10_perform_164 : decode cX10_perform 164 = .ok (.aload_n 0, 1) := by decide +kernel
theorem dX10_perform_165 : decode cX10_perform 165 = .ok (.iload_n 3, 1) := by decide +kernel
theorem dX10_perform_166 : decode cX10_perform 166 = .ok (.invokevirtual 371, 3) := by decide +kernel
theorem dX10_perform_169 : decode cX10_perform 169 = .ok (.pop, 1) := by decide +kernel
theorem dX10_perform_170 : decode cX10_perform 170 = .ok (.iconst 1, 1) := by decide +kernel
theorem dX10_perform_171 : decode cX10_perform 171 = .ok (.ireturn, 1) := by decide +kernel
theorem dX10_perform_172 : decode cX10_perform 172 = .ok (.aload_n 0, 1) := by decide +kernel
theorem dX10_perform_173 : decode cX10_perform 173 = .ok (.iload_n 3, 1) := by decide +kernel
theorem dX10_perform_174 : decode cX10_perform 174 = .ok (.invokevirtual 377, 3) := by decide +kernel
theorem dX10_perform_177 : decode cX10_perform 177 = .ok (.pop, 1) := by decide +kernel
theorem dX10_perform_178 : decode cX10_perform 178 = .ok (.iconst 1, 1) := by decide +kernel
theorem dX10_perform_179 : decode cX10_perform 179 = .ok (.ireturn, 1) := by decide +kernel
theorem cm_X10_perform : x_CM yX10_perform cX10_perform 6 (Option.some FieldType.boolean) 1 := ⟨w_4_85, w_1_1, by decide +kernel, by decide +kernel⟩
theorem ci_X10_perform : x_CI yX10_perform 12 := ⟨w_4_84, wp_23, (RX10, TX10, 12), rfl, rfl⟩
set_option maxRecDepth 100000 in
set_option maxHeartbeats 4000000 in
theorem bX10_perform_163 {V : x_J} {ad : Nat → Nat} {Q : Int32 → x_S → x_L → Prop} (X : x_Is V cX10_perform 6 RX10 (Option.some FieldType.boolean) ad dsX 6 (x_PI Q)) {s0 : Int32} {σ : x_S} {τ : x_L} (h : wX10_perform_163 Q s0 σ τ) : V σ τ 163 [] [.int s0] := by
  exact x_zret X dX10_perform_163 ⟨h.1, _, rfl, h.2⟩
set_option maxRecDepth 100000 in
set_option maxHeartbeats 4000000 in
theorem bX10_perform_162 {V : x_J} {ad : Nat → Nat} {Q : Int32 → x_S → x_L → Prop} (X : x_Is V cX10_perform 6 RX10 (Option.some FieldType.boolean) ad dsX 6 (x_PI Q)) {σ : x_S} {τ : x_L} (h : wX10_perform_162 Q σ τ) : V σ τ 162 [] [] := by
  refine x_iconst X dX10_perform_162 ki_0 ?_
  exact bX10_perform_163 X h
set_option maxRecDepth 100000 in
set_option maxHeartbeats 4000000 in
theorem kX10_perform {ad : Nat → Nat} {a1 : Int32} {σ : x_S} {τ : x_L} {Q : Int32 → x_S → x_L → Prop} (h : wX10_perform a1 σ τ Q) : x_Met yX10_perform cX10_perform 6 (Option.some FieldType.boolean) 6 ad dsX [.ref (ad 0), .int a1] σ τ (x_PI Q) := by
  refine x_met (by decide +kernel) (Nat.le_of_ble_eq_true rfl) (fun V X => ?_)
  have X : x_Is V cX10_perform 6 RX10 (Option.some FieldType.boolean) ad dsX 6 (x_PI Q) := X
  show V σ τ 0 [(0, .ref (ad 0)), (1, .int a1)] []
  refine x_aload_n X dX10_perform_0 rfl 0 rfl ?_
  refine x_getR X (j := 24) dX10_perform_1 fl_10_33 dsX_0 rfl ?_
  refine x_iload_n X dX10_perform_4 rfl 1 rfl ?_
  refine x_callVi X [.int a1] [] dX10_perform_5 (kX8_word h) cm_X8_word ci_X8_word w_4_86 dsX_24 ⟨by decide, by decide⟩ rfl (Nat.le_of_ble_eq_true rfl) (fun r5 σ5 τ5 h => ?_)
  refine x_istore_n X (lv' := [(2, .int r5), (0, .ref (ad 0)), (1, .int a1)]) dX10_perform_8 rfl (by decide) rfl ?_
  refine x_aload_n X dX10_perform_9 rfl 1 rfl ?_
  refine x_getR X (j := 24) dX10_perform_10 fl_10_33 dsX_0 rfl ?_
  refine x_iload_n X dX10_perform_13 rfl 2 rfl ?_
  refine x_iconst X dX10_perform_14 ki_0 ?_
  refine x_callVi X [.int a1, .int 0] [] dX10_perform_15 (kX8_argument h) cm_X8_argument ci_X8_argument w_4_90 dsX_24 ⟨by decide, by decide⟩ rfl (Nat.le_of_ble_eq_true rfl) (fun r15 σ15 τ15 h => ?_)
  refine x_istore_n X (lv' := [(3, .int r15), (2, .int r5), (0, .ref (ad 0)), (1, .int a1)]) dX10_perform_18 rfl (by decide) rfl ?_
  refine x_aload_n X dX10_perform_19 rfl 2 rfl ?_
  refine x_getR X (j := 24) dX10_perform_20 fl_10_33 dsX_0 rfl ?_
  refine x_iload_n X dX10_perform_23 rfl 3 rfl ?_
  refine x_iconst X dX10_perform_24 ki_1 ?_
  refine x_callVi X [.int a1, .int 1] [] dX10_perform_25 (kX8_argument h) cm_X8_argument ci_X8_argument w_4_90 dsX_24 ⟨by decide, by decide⟩ rfl (Nat.le_of_ble_eq_true rfl) (fun r25 σ25 τ25 h => ?_)
  refine x_istore X (lv' := [(4, .int r25), (3, .int r15), (2, .int r5), (0, .ref (ad 0)), (1, .int a1)]) dX10_perform_28 (by decide) rfl ?_
  refine x_aload_n X dX10_perform_30 rfl 3 rfl ?_
  refine x_getR X (j := 24) dX10_perform_31 fl_10_33 dsX_0 rfl ?_
  refine x_iload_n X dX10_perform_34 rfl 4 rfl ?_
  refine x_iconst X dX10_perform_35 ki_2 ?_
  refine x_callVi X [.int a1, .int 2] [] dX10_perform_36 (kX8_argument h) cm_X8_argument ci_X8_argument w_4_90 dsX_24 ⟨by decide, by decide⟩ rfl (Nat.le_of_ble_eq_true rfl) (fun r36 σ36 τ36 h => ?_)
  refine x_istore X (lv' := [(5, .int r36), (4, .int r25), (3, .int r15), (2, .int r5), (0, .ref (ad 0)), (1, .int a1)]) dX10_perform_39 (by decide) rfl ?_
  refine x_iload_n X dX10_perform_41 rfl 3 rfl ?_
  refine x_bipush X dX10_perform_42 kb_6 ?_
  refine x_icmp_ne X 54 dX10_perform_44 (by decide) (fun hc => ?_) (fun hc => ?_)
  · have h := h.1 hc
    refine x_aload_n X dX10_perform_54 rfl 4 rfl ?_
    refine x_getR X (j := 3) dX10_perform_55 fl_10_19 dsX_0 rfl ?_
    refine x_iload_n X dX10_perform_58 rfl 2 rfl ?_
    refine x_callVi X [.int r15] [] dX10_perform_59 (kX1_hasTruck h) cm_X1_hasTruck ci_X1_hasTruck w_4_94 dsX_3 ⟨by decide, by decide⟩ rfl (Nat.le_of_ble_eq_true rfl) (fun r59 σ59 τ59 h => ?_)
    refine x_if_ne X 67 dX10_perform_62 (by decide) (fun hc => ?_) (fun hc => ?_)
    · have h := h.1 hc
      refine x_iload_n X dX10_perform_67 rfl 3 rfl ?_
      by_cases hc0 : r5 = 0
      · have h := h.1 hc0
        refine x_tin X 0 104 hc0 dX10_perform_68 (by decide) (by decide) (off := 36) (by decide) (by decide) ?_
        refine x_aload_n X dX10_perform_104 rfl 4 rfl ?_
        refine x_iload_n X dX10_perform_105 rfl 2 rfl ?_
        refine x_iload X dX10_perform_106 1 rfl ?_
        refine x_iload X dX10_perform_108 0 rfl ?_
        refine x_callVi X [.int r15, .int r25, .int r36] [] dX10_perform_110 (kX10_performWait h) cm_X10_performWait ci_X10_performWait w_4_98 dsX_0 ⟨by decide, by decide⟩ rfl (Nat.le_of_ble_eq_true rfl) (fun r110 σ110 τ110 h => ?_)
        exact x_zret X dX10_perform_113 ⟨h.1, _, rfl, h.2⟩
      have h := h.2
      by_cases hc1 : r5 = 1
      · have h := h.1 hc1
        refine x_tin X 1 114 hc1 dX10_perform_68 (by decide) (by decide) (off := 46) (by decide) (by decide) ?_
        refine x_aload_n X dX10_perform_114 rfl 4 rfl ?_
        refine x_iload_n X dX10_perform_115 rfl 2 rfl ?_
        refine x_iload X dX10_perform_116 1 rfl ?_
        refine x_iload X dX10_perform_118 0 rfl ?_
        refine x_callVi X [.int r15, .int r25, .int r36] [] dX10_perform_120 (kX10_performSpeed h) cm_X10_performSpeed ci_X10_performSpeed w_4_112 dsX_0 ⟨by decide, by decide⟩ rfl (Nat.le_of_ble_eq_true rfl) (fun r120 σ120 τ120 h => ?_)
        exact x_zret X dX10_perform_123 ⟨h.1, _, rfl, h.2⟩
      have h := h.2
      by_cases hc2 : r5 = 2
      · have h := h.1 hc2
        refine x_tin X 2 124 hc2 dX10_perform_68 (by decide) (by decide) (off := 56) (by decide) (by decide) ?_
        refine x_aload_n X dX10_perform_124 rfl 4 rfl ?_
        refine x_iload_n X dX10_perform_125 rfl 2 rfl ?_
        refine x_iload X dX10_perform_126 1 rfl ?_
        refine x_callVi X [.int r15, .int r25] [] dX10_perform_128 (kX10_changeStart h) cm_X10_changeStart ci_X10_changeStart w_4_120 dsX_0 ⟨by decide, by decide⟩ rfl (Nat.le_of_ble_eq_true rfl) (fun r128 σ128 τ128 h => ?_)
        refine x_pop X dX10_perform_131 rfl ?_
        refine x_iconst X dX10_perform_132 ki_1 ?_
        exact x_zret X dX10_perform_133 ⟨Or.inr rfl, _, rfl, h⟩
      have h := h.2
      by_cases hc3 : r5 = 3
      · have h := h.1 hc3
        refine x_tin X 3 134 hc3 dX10_perform_68 (by decide) (by decide) (off := 66) (by decide) (by decide) ?_
        refine x_aload_n X dX10_perform_134 rfl 4 rfl ?_
        refine x_getR X (j := 3) dX10_perform_135 fl_10_19 dsX_0 rfl ?_
        refine x_iload X dX10_perform_138 1 rfl ?_
        refine x_callVi X [.int r25] [] dX10_perform_140 (kX1_hasTruck h) cm_X1_hasTruck ci_X1_hasTruck w_4_94 dsX_3 ⟨by decide, by decide⟩ rfl (Nat.le_of_ble_eq_true rfl) (fun r140 σ140 τ140 h => ?_)
        refine x_if_eq X 162 dX10_perform_143 (by decide) (fun hc => ?_) (fun hc => ?_)
        · have h := h.1 hc
          refine x_sub X [] (lv' := []) rfl ?_
          exact bX10_perform_162 X h
        · have h := h.2 hc
          refine x_aload_n X dX10_perform_146 rfl 4 rfl ?_
          refine x_iload_n X dX10_perform_147 rfl 2 rfl ?_
          refine x_iload X dX10_perform_148 1 rfl ?_
          refine x_callVi X [.int r15, .int r25] [] dX10_perform_150 (kX10_mergeTwo h) cm_X10_mergeTwo ci_X10_mergeTwo w_4_124 dsX_0 ⟨by decide, by decide⟩ rfl (Nat.le_of_ble_eq_true rfl) (fun r150 σ150 τ150 h => ?_)
          refine x_bipush X dX10_perform_153 kb_m3 ?_
          refine x_icmp_eq X 162 dX10_perform_155 (by decide) (fun hc => ?_) (fun hc => ?_)
          · have h := h.1 hc
            refine x_sub X [] (lv' := []) rfl ?_
            exact bX10_perform_162 X h
          · have h := h.2 hc
            refine x_iconst X dX10_perform_158 ki_1 ?_
            refine x_goto X (tgt := 163) dX10_perform_159 (by decide) ?_
            refine x_sub X [] (lv' := []) rfl ?_
            exact bX10_perform_163 X h
      have h := h.2
      by_cases hc4 : r5 = 4
      · have h := h.1 hc4
        refine x_tin X 4 164 hc4 dX10_perform_68 (by decide) (by decide) (off := 96) (by decide) (by decide) ?_
        refine x_aload_n X dX10_perform_164 rfl 4 rfl ?_
        refine x_iload_n X dX10_perform_165 rfl 2 rfl ?_
        refine x_callVi X [.int r15] [] dX10_perform_166 (kX10_speedUp h) cm_X10_speedUp ci_X10_speedUp w_4_128 dsX_0 ⟨by decide, by decide⟩ rfl (Nat.le_of_ble_eq_true rfl) (fun r166 σ166 τ166 h => ?_)
        refine x_pop X dX10_perform_169 rfl ?_
        refine x_iconst X dX10_perform_170 ki_1 ?_
        exact x_zret X dX10_perform_171 ⟨Or.inr rfl, _, rfl, h⟩
      have h := h.2
      have he0 := x_toInt_ne (n := 0) hc0 (by decide)
      have he1 := x_toInt_ne (n := 1) hc1 (by decide)
      have he2 := x_toInt_ne (n := 2) hc2 (by decide)
      have he3 := x_toInt_ne (n := 3) hc3 (by decide)
      have he4 := x_toInt_ne (n := 4) hc4 (by decide)
      have h := h hc0 hc1 hc2 hc3 hc4
      refine x_tout X 172 dX10_perform_68 (by omega) (by decide) ?_
      refine x_aload_n X dX10_perform_172 rfl 4 rfl ?_
      refine x_iload_n X dX10_perform_173 rfl 2 rfl ?_
      refine x_callVi X [.int r15] [] dX10_perform_174 (kX10_slowDown h) cm_X10_slowDown ci_X10_slowDown w_4_133 dsX_0 ⟨by decide, by decide⟩ rfl (Nat.le_of_ble_eq_true rfl) (fun r174 σ174 τ174 h => ?_)
      refine x_pop X dX10_perform_177 rfl ?_
      refine x_iconst X dX10_perform_178 ki_1 ?_
      exact x_zret X dX10_perform_179 ⟨Or.inr rfl, _, rfl, h⟩
    · have h := h.2 hc
      refine x_iconst X dX10_perform_65 ki_0 ?_
      exact x_zret X dX10_perform_66 ⟨Or.inl rfl, _, rfl, h⟩
  · have h := h.2 hc
    refine x_aload_n X dX10_perform_47 rfl 4 rfl ?_
    refine x_callVi X [] [] dX10_perform_48 (kX10_mergeByGain h) cm_X10_mergeByGain ci_X10_mergeByGain w_3_219 dsX_0 ⟨by decide, by decide⟩ rfl (Nat.le_of_ble_eq_true rfl) (fun r48 σ48 τ48 h => ?_)
    refine x_pop X dX10_perform_51 rfl ?_
    refine x_iconst X dX10_perform_52 ki_1 ?_
    exact x_zret X dX10_perform_53 ⟨Or.inr rfl, _, rfl, h⟩
theorem dX10_undo_0 : decode cX10_undo 0 = .ok (.aload_n 0, 1) := by decide +kernel
theorem dX10_undo_1 : decode cX10_undo 1 = .ok (.getfield 79, 3) := by decide +kernel
theorem dX10_undo_4 : decode cX10_undo 4 = .ok (.getfield 165, 3) := by decide +kernel
theorem dX10_undo_7 : decode cX10_undo 7 = .ok (.ifCond .ne 5, 3) := by decide +kernel
theorem dX10_undo_10 : decode cX10_undo 10 = .ok (.iconst (-1), 1) := by decide +kernel
theorem dX10_undo_11 : decode cX10_undo 11 = .ok (.ireturn, 1) := by decide +kernel
theorem dX10_undo_12 : decode cX10_undo 12 = .ok (.aload_n 0, 1) := by decide +kernel
theorem dX10_undo_13 : decode cX10_undo 13 = .ok (.getfield 79, 3) := by decide +kernel
theorem dX10_undo_16 : decode cX10_undo 16 = .ok (.aload_n 0, 1) := by decide +kernel
theorem dX10_undo_17 : decode cX10_undo 17 = .ok (.getfield 51, 3) := by decide +kernel
theorem dX10_undo_20 : decode cX10_undo 20 = .ok (.invokevirtual 457, 3) := by decide +kernel
theorem dX10_undo_23 : decode cX10_undo 23 = .ok (.aload_n 0, 1) := by decide +kernel
theorem dX10_undo_24 : decode cX10_undo 24 = .ok (.getfield 51, 3) := by decide +kernel
theorem dX10_undo_27 : decode cX10_undo 27 = .ok (.invokevirtual 339, 3) := by decide +kernel
theorem dX10_undo_30 : decode cX10_undo 30 = .ok (.aload_n 0, 1) := by decide +kernel
theorem dX10_undo_31 : decode cX10_undo 31 = .ok (.getfield 79, 3) := by decide +kernel
theorem dX10_undo_34 : decode cX10_undo 34 = .ok (.getfield 165, 3) := by decide +kernel
theorem dX10_undo_37 : decode cX10_undo 37 = .ok (.ireturn, 1) := by decide +kernel
theorem cm_X10_undo : x_CM yX10_undo cX10_undo 1 (Option.some FieldType.int) 0 := ⟨w_4_144, w_1_1, by decide +kernel, by decide +kernel⟩
theorem ci_X10_undo : x_CI yX10_undo 12 := ⟨w_4_142, w_4_143, (RX10, TX10, 12), rfl, rfl⟩
set_option maxRecDepth 100000 in
set_option maxHeartbeats 4000000 in
theorem kX10_undo {ad : Nat → Nat} {σ : x_S} {τ : x_L} {Q : Int32 → x_S → x_L → Prop} (h : wX10_undo σ τ Q) : x_Met yX10_undo cX10_undo 1 (Option.some FieldType.int) 4 ad dsX [.ref (ad 0)] σ τ (x_PI Q) := by
  refine x_met (by decide +kernel) (Nat.le_of_ble_eq_true rfl) (fun V X => ?_)
  have X : x_Is V cX10_undo 1 RX10 (Option.some FieldType.int) ad dsX 4 (x_PI Q) := X
  show V σ τ 0 [(0, .ref (ad 0))] []
  refine x_aload_n X dX10_undo_0 rfl 0 rfl ?_
  refine x_getR X (j := 63) dX10_undo_1 fl_10_79 dsX_0 rfl ?_
  refine x_getI X dX10_undo_4 fl_10_165 dsX_63 rfl ?_
  refine x_if_ne X 12 dX10_undo_7 (by decide) (fun hc => ?_) (fun hc => ?_)
  · have h := h.1 hc
    refine x_aload_n X dX10_undo_12 rfl 0 rfl ?_
    refine x_getR X (j := 63) dX10_undo_13 fl_10_79 dsX_0 rfl ?_
    refine x_aload_n X dX10_undo_16 rfl 0 rfl ?_
    refine x_getR X (j := 33) dX10_undo_17 fl_10_51 dsX_0 rfl ?_
    refine x_callVv X [.ref (ad 33)] [] dX10_undo_20 (kX2_takeBack x_pl33 h) cm_X2_takeBack ci_X2_takeBack w_4_145 dsX_63 ⟨by decide, by decide⟩ rfl (Nat.le_of_ble_eq_true rfl) (fun σ20 τ20 h => ?_)
    refine x_aload_n X dX10_undo_23 rfl 0 rfl ?_
    refine x_getR X (j := 33) dX10_undo_24 fl_10_51 dsX_0 rfl ?_
    refine x_callVv X [] [] dX10_undo_27 (kX6_arrange x_pl33 h) cm_X6_arrange ci_X6_arrange w_4_26 dsX_33 ⟨by decide, by decide⟩ rfl (Nat.le_of_ble_eq_true rfl) (fun σ27 τ27 h => ?_)
    refine x_aload_n X dX10_undo_30 rfl 0 rfl ?_
    refine x_getR X (j := 63) dX10_undo_31 fl_10_79 dsX_0 rfl ?_
    refine x_getI X dX10_undo_34 fl_10_165 dsX_63 rfl ?_
    exact x_iret X dX10_undo_37 ⟨_, rfl, h⟩
  · have h := h.2 hc
    refine x_iconst X dX10_undo_10 ki_m1 ?_
    exact x_iret X dX10_undo_11 ⟨_, rfl, h⟩
theorem dX10_digest_0 : decode cX10_digest 0 = .ok (.iconst 1, 1) := by decide +kernel
theorem dX10_digest_1 : decode cX10_digest 1 = .ok (.istore_n 1, 1) := by decide +kernel
theorem dX10_digest_2 : decode cX10_digest 2 = .ok (.iconst 0, 1) := by decide +kernel
theorem dX10_digest_3 : decode cX10_digest 3 = .ok (.istore_n 2, 1) := by decide +kernel
theorem dX10_digest_4 : decode cX10_digest 4 = .ok (.iload_n 2, 1) := by decide +kernel
theorem dX10_digest_5 : decode cX10_digest 5 = .ok (.aload_n 0, 1) := by decide +kernel
theorem dX10_digest_6 : decode cX10_digest 6 = .ok (.getfield 19, 3) := by decide +kernel
theorem dX10_digest_9 : decode cX10_digest 9 = .ok (.getfield 127, 3) := by decide +kernel
theorem dX10_digest_12 : decode cX10_digest 12 = .ok (.if_icmp .ge 77, 3) := by decide +kernel
theorem dX10_digest_15 : decode cX10_digest 15 = .ok (.iload_n 2, 1) := by decide +kernel
theorem dX10_digest_16 : decode cX10_digest 16 = .ok (.bipush 10, 2) := by decide +kernel
theorem dX10_digest_18 : decode cX10_digest 18 = .ok (.imul, 1) := by decide +kernel
theorem dX10_digest_19 : decode cX10_digest 19 = .ok (.istore_n 3, 1) := by decide +kernel
theorem dX10_digest_20 : decode cX10_digest 20 = .ok (.iload_n 3, 1) := by decide +kernel
theorem dX10_digest_21 : decode cX10_digest 21 = .ok (.aload_n 0, 1) := by decide +kernel
theorem dX10_digest_22 : decode cX10_digest 22 = .ok (.getfield 42, 3) := by decide +kernel
theorem dX10_digest_25 : decode cX10_digest 25 = .ok (.getfield 301, 3) := by decide +kernel
theorem dX10_digest_28 : decode cX10_digest 28 = .ok (.iload_n 2, 1) := by decide +kernel
theorem dX10_digest_29 : decode cX10_digest 29 = .ok (.iaload, 1) := by decide +kernel
theorem dX10_digest_30 : decode cX10_digest 30 = .ok (.if_icmp .ge 53, 3) := by decide +kernel
theorem dX10_digest_33 : decode cX10_digest 33 = .ok (.bipush 31, 2) := by decide +kernel
theorem dX10_digest_35 : decode cX10_digest 35 = .ok (.iload_n 1, 1) := by decide +kernel
theorem dX10_digest_36 : decode cX10_digest 36 = .ok (.imul, 1) := by decide +kernel
theorem dX10_digest_37 : decode cX10_digest 37 = .ok (.aload_n 0, 1) := by decide +kernel
theorem dX10_digest_38 : decode cX10_digest 38 = .ok (.getfield 51, 3) := by decide +kernel
theorem dX10_digest_41 : decode cX10_digest 41 = .ok (.getfield 258, 3) := by decide +kernel
theorem dX10_digest_44 : decode cX10_digest 44 = .ok (.iload_n 3, 1) := by decide +kernel
theorem dX10_digest_45 : decode cX10_digest 45 = .ok (.iaload, 1) := by decide +kernel
theorem dX10_digest_46 : decode cX10_digest 46 = .ok (.iadd, 1) := by decide +kernel
theorem dX10_digest_47 : decode cX10_digest 47 = .ok (.istore_n 1, 1) := by decide +kernel
theorem dX10_digest_48 : decode cX10_digest 48 = .ok (.bipush 31, 2) := by decide +kernel
theorem dX10_digest_50 : decode cX10_digest 50 = .ok (.iload_n 1, 1) := by decide +kernel
theorem dX10_digest_51 : decode cX10_digest 51 = .ok (.imul, 1) := by decide +kernel
theorem dX10_digest_52 : decode cX10_digest 52 = .ok (.aload_n 0, 1) := by decide +kernel
theorem dX10_digest_53 : decode cX10_digest 53 = .ok (.getfield 51, 3) := by decide +kernel
theorem dX10_digest_56 : decode cX10_digest 56 = .ok (.getfield 252, 3) := by decide +kernel
theorem dX10_digest_59 : decode cX10_digest 59 = .ok (.iload_n 3, 1) := by decide +kernel
theorem dX10_digest_60 : decode cX10_digest 60 = .ok (.iaload, 1) := by decide +kernel
theorem dX10_digest_61 : decode cX10_digest 61 = .ok (.iadd, 1) := by decide +kernel
theorem dX10_digest_62 : decode cX10_digest 62 = .ok (.istore_n 1, 1) := by decide +kernel
theorem dX10_digest_63 : decode cX10_digest 63 = .ok (.bipush 31, 2) := by decide +kernel
theorem dX10_digest_65 : decode cX10_digest 65 = .ok (.iload_n 1, 1) := by decide +kernel
theorem dX10_digest_66 : decode cX10_digest 66 = .ok (.imul, 1) := by decide +kernel
theorem dX10_digest_67 : decode cX10_digest 67 = .ok (.aload_n 0, 1) := by decide +kernel
theorem dX10_digest_68 : decode cX10_digest 68 = .ok (.getfield 51, 3) := by decide +kernel
theorem dX10_digest_71 : decode cX10_digest 71 = .ok (.iload_n 3, 1) := by decide +kernel
theorem dX10_digest_72 : decode cX10_digest 72 = .ok (.invokevirtual 270, 3) := by decide +kernel
theorem dX10_digest_75 : decode cX10_digest 75 = .ok (.iadd, 1) := by decide +kernel
theorem dX10_digest_76 : decode cX10_digest 76 = .ok (.istore_n 1, 1) := by decide +kernel
theorem dX10_digest_77 : decode cX10_digest 77 = .ok (.iinc 3 1, 3) := by decide +kernel
theorem dX10_digest_80 : decode cX10_digest 80 = .ok (.goto (-60), 3) := by decide +kernel
theorem dX10_digest_83 : decode cX10_digest 83 = .ok (.iinc 2 1, 3) := by decide +kernel
theorem dX10_digest_86 : decode cX10_digest 86 = .ok (.goto (-82), 3) := by decide +kernel
theorem dX10_digest_89 : decode cX10_digest 89 = .ok (.iload_n 1, 1) := by decide +kernel
theorem dX10_digest_90 : decode cX10_digest 90 = .ok (.ireturn, 1) := by decide +kernel
theorem cm_X10_digest : x_CM yX10_digest cX10_digest 4 (Option.some FieldType.int) 0 := ⟨w_4_156, w_1_1, by decide +kernel, by decide +kernel⟩
theorem ci_X10_digest : x_CI yX10_digest 12 := ⟨w_4_154, w_4_155, (RX10, TX10, 12), rfl, rfl⟩
set_option maxRecDepth 100000 in
set_option maxHeartbeats 4000000 in
theorem bX10_digest_20 {V : x_J} {ad : Nat → Nat} {Q : Int32 → x_S → x_L → Prop} (X : x_Is V cX10_digest 4 RX10 (Option.some FieldType.int) ad dsX 2 (x_PI Q)) {K4 : Int32 → Int32 → x_S → x_L → Prop} {K20 : Int32 → Int32 → Int32 → x_S → x_L → Prop} (hK4 : ∀ v1 v2 σ τ, K4 v1 v2 σ τ → V σ τ 4 [(0, .ref (ad 0)), (1, .int v1), (2, .int v2)] []) (hK20 : ∀ v1 v2 v3 σ τ, K20 v1 v2 v3 σ τ → V σ τ 20 [(0, .ref (ad 0)), (1, .int v1), (2, .int v2), (3, .int v3)] []) {v1 : Int32} {v2 : Int32} {v3 : Int32} {σ : x_S} {τ : x_L} (h : wX10_digest_20 K4 Q K20 v1 v2 v3 σ τ) : V σ τ 20 [(0, .ref (ad 0)), (1, .int v1), (2, .int v2), (3, .int v3)] [] := by
  refine x_iload_n X dX10_digest_20 rfl 3 rfl ?_
  refine x_aload_n X dX10_digest_21 rfl 0 rfl ?_
  refine x_getR X (j := 27) dX10_digest_22 fl_10_42 dsX_0 rfl ?_
  refine x_getR X (j := 30) dX10_digest_25 fl_10_301 dsX_27 rfl ?_
  refine x_iload_n X dX10_digest_28 rfl 2 rfl ?_
  have g29 := h.1
  have h := h.2
  refine x_iald X dX10_digest_29 dsX_30 g29 ?_
  refine x_icmp_ge X 83 dX10_digest_30 (by decide) (fun hc => ?_) (fun hc => ?_)
  · have h := h.1 hc
    refine x_iinc X (k := 2) (lv' := [(2, .int (v2 + 1)), (0, .ref (ad 0)), (1, .int v1), (3, .int v3)]) dX10_digest_83 rfl ki_1 (by decide) rfl ?_
    refine x_goto X (tgt := 4) dX10_digest_86 (by decide) ?_
    refine x_sub X [1, 2, 0] (lv' := [(0, .ref (ad 0)), (1, .int v1), (2, .int (v2 + 1))]) rfl ?_
    exact hK4 _ _ _ _ h
  · have h := h.2 hc
    refine x_bipush X dX10_digest_33 kb_31 ?_
    refine x_iload_n X dX10_digest_35 rfl 1 rfl ?_
    refine x_imul X dX10_digest_36 ?_
    refine x_aload_n X dX10_digest_37 rfl 0 rfl ?_
    refine x_getR X (j := 33) dX10_digest_38 fl_10_51 dsX_0 rfl ?_
    refine x_getR X (j := 37) dX10_digest_41 fl_10_258 dsX_33 rfl ?_
    refine x_iload_n X dX10_digest_44 rfl 3 rfl ?_
    have g45 := h.1
    have h := h.2
    refine x_iald X dX10_digest_45 dsX_37 g45 ?_
    refine x_iadd X dX10_digest_46 ?_
    refine x_istore_n X (lv' := [(1, .int ((31 * v1) + (σ 37 v3.toNatClampNeg))), (0, .ref (ad 0)), (2, .int v2), (3, .int v3)]) dX10_digest_47 rfl (by decide) rfl ?_
    refine x_bipush X dX10_digest_48 kb_31 ?_
    refine x_iload_n X dX10_digest_50 rfl 0 rfl ?_
    refine x_imul X dX10_digest_51 ?_
    refine x_aload_n X dX10_digest_52 rfl 1 rfl ?_
    refine x_getR X (j := 33) dX10_digest_53 fl_10_51 dsX_0 rfl ?_
    refine x_getR X (j := 36) dX10_digest_56 fl_10_252 dsX_33 rfl ?_
    refine x_iload_n X dX10_digest_59 rfl 3 rfl ?_
    refine x_iald X dX10_digest_60 dsX_36 g45 ?_
    refine x_iadd X dX10_digest_61 ?_
    refine x_istore_n X (lv' := [(1, .int ((31 * ((31 * v1) + (σ 37 v3.toNatClampNeg))) + (σ 36 v3.toNatClampNeg))), (0, .ref (ad 0)), (2, .int v2), (3, .int v3)]) dX10_digest_62 rfl (by decide) rfl ?_
    refine x_bipush X dX10_digest_63 kb_31 ?_
    refine x_iload_n X dX10_digest_65 rfl 0 rfl ?_
    refine x_imul X dX10_digest_66 ?_
    refine x_aload_n X dX10_digest_67 rfl 1 rfl ?_
    refine x_getR X (j := 33) dX10_digest_68 fl_10_51 dsX_0 rfl ?_
    refine x_iload_n X dX10_digest_71 rfl 3 rfl ?_
    refine x_callVi X [.int v3] [.int (31 * ((31 * ((31 * v1) + (σ 37 v3.toNatClampNeg))) + (σ 36 v3.toNatClampNeg)))] dX10_digest_72 (kX6_fuel x_pl33 h) cm_X6_fuel ci_X6_fuel w_4_157 dsX_33 ⟨by decide, by decide⟩ rfl (Nat.le_of_ble_eq_true rfl) (fun r72 σ72 τ72 h => ?_)
    refine x_iadd X dX10_digest_75 ?_
    refine x_istore_n X (lv' := [(1, .int ((31 * ((31 * ((31 * v1) + (σ 37 v3.toNatClampNeg))) + (σ 36 v3.toNatClampNeg))) + r72)), (0, .ref (ad 0)), (2, .int v2), (3, .int v3)]) dX10_digest_76 rfl (by decide) rfl ?_
    refine x_iinc X (k := 3) (lv' := [(3, .int (v3 + 1)), (1, .int ((31 * ((31 * ((31 * v1) + (σ 37 v3.toNatClampNeg))) + (σ 36 v3.toNatClampNeg))) + r72)), (0, .ref (ad 0)), (2, .int v2)]) dX10_digest_77 rfl ki_1 (by decide) rfl ?_
    refine x_goto X (tgt := 20) dX10_digest_80 (by decide) ?_
    refine x_sub X [2, 1, 3, 0] (lv' := [(0, .ref (ad 0)), (1, .int ((31 * ((31 * ((31 * v1) + (σ 37 v3.toNatClampNeg))) + (σ 36 v3.toNatClampNeg))) + r72)), (2, .int v2), (3, .int (v3 + 1))]) rfl ?_
    exact hK20 _ _ _ _ _ h
set_option maxRecDepth 100000 in
set_option maxHeartbeats 4000000 in
theorem bX10_digest_4 {V : x_J} {ad : Nat → Nat} {Q : Int32 → x_S → x_L → Prop} (X : x_Is V cX10_digest 4 RX10 (Option.some FieldType.int) ad dsX 2 (x_PI Q)) {K4 : Int32 → Int32 → x_S → x_L → Prop} (hK4 : ∀ v1 v2 σ τ, K4 v1 v2 σ τ → V σ τ 4 [(0, .ref (ad 0)), (1, .int v1), (2, .int v2)] []) {v1 : Int32} {v2 : Int32} {σ : x_S} {τ : x_L} (h : wX10_digest_4 Q K4 v1 v2 σ τ) : V σ τ 4 [(0, .ref (ad 0)), (1, .int v1), (2, .int v2)] [] := by
  refine x_iload_n X dX10_digest_4 rfl 2 rfl ?_
  refine x_aload_n X dX10_digest_5 rfl 0 rfl ?_
  refine x_getR X (j := 3) dX10_digest_6 fl_10_19 dsX_0 rfl ?_
  refine x_getI X dX10_digest_9 fl_10_127 dsX_3 rfl ?_
  refine x_icmp_ge X 89 dX10_digest_12 (by decide) (fun hc => ?_) (fun hc => ?_)
  · have h := h.1 hc
    refine x_iload_n X dX10_digest_89 rfl 1 rfl ?_
    exact x_iret X dX10_digest_90 ⟨_, rfl, h⟩
  · have h := h.2 hc
    refine x_iload_n X dX10_digest_15 rfl 2 rfl ?_
    refine x_bipush X dX10_digest_16 kb_10 ?_
    refine x_imul X dX10_digest_18 ?_
    refine x_istore_n X (lv' := [(3, .int (v2 * 10)), (0, .ref (ad 0)), (1, .int v1), (2, .int v2)]) dX10_digest_19 rfl (by decide) rfl ?_
    refine x_sub X [1, 2, 3, 0] (lv' := [(0, .ref (ad 0)), (1, .int v1), (2, .int v2), (3, .int (v2 * 10))]) rfl ?_
    exact x_l3_G (fun v1 v2 v3 σ τ => V σ τ 20 [(0, .ref (ad 0)), (1, .int v1), (2, .int v2), (3, .int v3)] []) (fun K20 hK20 v1 v2 v3 σ τ h => bX10_digest_20 X hK4 hK20 h) h
set_option maxRecDepth 100000 in
set_option maxHeartbeats 4000000 in
theorem kX10_digest {ad : Nat → Nat} {σ : x_S} {τ : x_L} {Q : Int32 → x_S → x_L → Prop} (h : wX10_digest σ τ Q) : x_Met yX10_digest cX10_digest 4 (Option.some FieldType.int) 2 ad dsX [.ref (ad 0)] σ τ (x_PI Q) := by
  refine x_met (by decide +kernel) (Nat.le_of_ble_eq_true rfl) (fun V X => ?_)
  have X : x_Is V cX10_digest 4 RX10 (Option.some FieldType.int) ad dsX 2 (x_PI Q) := X
  show V σ τ 0 [(0, .ref (ad 0))] []
  refine x_iconst X dX10_digest_0 ki_1 ?_
  refine x_istore_n X (lv' := [(1, .int 1), (0, .ref (ad 0))]) dX10_digest_1 rfl (by decide) rfl ?_
  refine x_iconst X dX10_digest_2 ki_0 ?_
  refine x_istore_n X (lv' := [(2, .int 0), (1, .int 1), (0, .ref (ad 0))]) dX10_digest_3 rfl (by decide) rfl ?_
  refine x_sub X [2, 1, 0] (lv' := [(0, .ref (ad 0)), (1, .int 1), (2, .int 0)]) rfl ?_
  exact x_l2_G (fun v1 v2 σ τ => V σ τ 4 [(0, .ref (ad 0)), (1, .int v1), (2, .int v2)] []) (fun K4 hK4 v1 v2 σ τ h => bX10_digest_4 X hK4 h) h
theorem dX10_saveSnapshot_0 : decode cX10_saveSnapshot 0 = .ok (.iload_n 1, 1) := by decide +kernel
theorem dX10_saveSnapshot_1 : decode cX10_saveSnapshot 1 = .ok (.ifCond .lt 8, 3) := by decide +kernel
theorem dX10_saveSnapshot_4 : decode cX10_saveSnapshot 4 = .ok (.iload_n 1, 1) := by decide +kernel
theorem dX10_saveSnapshot_5 : decode cX10_saveSnapshot 5 = .ok (.iconst 2, 1) := by decide +kernel
theorem dX10_saveSnapshot_6 : decode cX10_saveSnapshot 6 = .ok (.if_icmp .lt 5, 3) := by decide +kernel
theorem dX10_saveSnapshot_9 : decode cX10_saveSnapshot 9 = .ok (.iconst 0, 1) := by decide +kernel
theorem dX10_saveSnapshot_10 : decode cX10_saveSnapshot 10 = .ok (.ireturn, 1) := by decide +kernel
theorem dX10_saveSnapshot_11 : decode cX10_saveSnapshot 11 = .ok (.aload_n 0, 1) := by decide +kernel
theorem dX10_saveSnapshot_12 : decode cX10_saveSnapshot 12 = .ok (.getfield 79, 3) := by decide +kernel
theorem dX10_saveSnapshot_15 : decode cX10_saveSnapshot 15 = .ok (.iload_n 1, 1) := by decide +kernel
theorem dX10_saveSnapshot_16 : decode cX10_saveSnapshot 16 = .ok (.aload_n 0, 1) := by decide +kernel
theorem dX10_saveSnapshot_17 : decode cX10_saveSnapshot 17 = .ok (.getfield 51, 3) := by decide +kernel
theorem dX10_saveSnapshot_20 : decode cX10_saveSnapshot 20 = .ok (.invokevirtual 460, 3) := by decide +kernel
theorem dX10_saveSnapshot_23 : decode cX10_saveSnapshot 23 = .ok (.iconst 1, 1) := by decide +kernel
theorem dX10_saveSnapshot_24 : decode cX10_saveSnapshot 24 = .ok (.ireturn, 1) := by decide +kernel
theorem cm_X10_saveSnapshot : x_CM yX10_saveSnapshot cX10_saveSnapshot 2 (Option.some FieldType.boolean) 1 := ⟨w_4_164, w_1_1, by decide +kernel, by decide +kernel⟩
theorem ci_X10_saveSnapshot : x_CI yX10_saveSnapshot 12 := ⟨w_4_162, w_4_163, (RX10, TX10, 12), rfl, rfl⟩
set_option maxRecDepth 100000 in
set_option maxHeartbeats 4000000 in
theorem bX10_saveSnapshot_9 {V : x_J} {ad : Nat → Nat} {Q : Int32 → x_S → x_L → Prop} (X : x_Is V cX10_saveSnapshot 2 RX10 (Option.some FieldType.boolean) ad dsX 4 (x_PI Q)) {σ : x_S} {τ : x_L} (h : wX10_saveSnapshot_9 Q σ τ) : V σ τ 9 [] [] := by
  refine x_iconst X dX10_saveSnapshot_9 ki_0 ?_
  exact x_zret X dX10_saveSnapshot_10 ⟨Or.inl rfl, _, rfl, h⟩
set_option maxRecDepth 100000 in
set_option maxHeartbeats 4000000 in
theorem kX10_saveSnapshot {ad : Nat → Nat} {a1 : Int32} {σ : x_S} {τ : x_L} {Q : Int32 → x_S → x_L → Prop} (h : wX10_saveSnapshot a1 σ τ Q) : x_Met yX10_saveSnapshot cX10_saveSnapshot 2 (Option.some FieldType.boolean) 4 ad dsX [.ref (ad 0), .int a1] σ τ (x_PI Q) := by
  refine x_met (by decide +kernel) (Nat.le_of_ble_eq_true rfl) (fun V X => ?_)
  have X : x_Is V cX10_saveSnapshot 2 RX10 (Option.some FieldType.boolean) ad dsX 4 (x_PI Q) := X
  show V σ τ 0 [(0, .ref (ad 0)), (1, .int a1)] []
  refine x_iload_n X dX10_saveSnapshot_0 rfl 1 rfl ?_
  refine x_if_lt X 9 dX10_saveSnapshot_1 (by decide) (fun hc => ?_) (fun hc => ?_)
  · have h := h.1 hc
    refine x_sub X [] (lv' := []) rfl ?_
    exact bX10_saveSnapshot_9 X h
  · have h := h.2 hc
    refine x_iload_n X dX10_saveSnapshot_4 rfl 1 rfl ?_
    refine x_iconst X dX10_saveSnapshot_5 ki_2 ?_
    refine x_icmp_lt X 11 dX10_saveSnapshot_6 (by decide) (fun hc => ?_) (fun hc => ?_)
    · have h := h.1 hc
      refine x_aload_n X dX10_saveSnapshot_11 rfl 0 rfl ?_
      refine x_getR X (j := 63) dX10_saveSnapshot_12 fl_10_79 dsX_0 rfl ?_
      refine x_iload_n X dX10_saveSnapshot_15 rfl 1 rfl ?_
      refine x_aload_n X dX10_saveSnapshot_16 rfl 0 rfl ?_
      refine x_getR X (j := 33) dX10_saveSnapshot_17 fl_10_51 dsX_0 rfl ?_
      refine x_callVv X [.int a1, .ref (ad 33)] [] dX10_saveSnapshot_20 (kX2_saveIn x_pl33 h) cm_X2_saveIn ci_X2_saveIn w_4_165 dsX_63 ⟨by decide, by decide⟩ rfl (Nat.le_of_ble_eq_true rfl) (fun σ20 τ20 h => ?_)
      refine x_iconst X dX10_saveSnapshot_23 ki_1 ?_
      exact x_zret X dX10_saveSnapshot_24 ⟨Or.inr rfl, _, rfl, h⟩
    · have h := h.2 hc
      refine x_sub X [] (lv' := []) rfl ?_
      exact bX10_saveSnapshot_9 X h
theorem dX10_restoreSnapshot_0 : decode cX10_restoreSnapshot 0 = .ok (.iload_n 1, 1) := by decide +kernel
theorem dX10_restoreSnapshot_1 : decode cX10_restoreSnapshot 1 = .ok (.ifCond .lt 20, 3) := by decide +kernel
theorem dX10_restoreSnapshot_4 : decode cX10_restoreSnapshot 4 = .ok (.iload_n 1, 1) := by decide +kernel
theorem dX10_restoreSnapshot_5 : decode cX10_restoreSnapshot 5 = .ok (.iconst 2, 1) := by decide +kernel
theorem dX10_restoreSnapshot_6 : decode cX10_restoreSnapshot 6 = .ok (.if_icmp .ge 15, 3) := by decide +kernel
theorem dX10_restoreSnapshot_9 : decode cX10_restoreSnapshot 9 = .ok (.aload_n 0, 1) := by decide +kernel
theorem dX10_restoreSnapshot_10 : decode cX10_restoreSnapshot 10 = .ok (.getfield 79, 3) := by decide +kernel
theorem dX10_restoreSnapshot_13 : decode cX10_restoreSnapshot 13 = .ok (.getfield 464, 3) := by decide +kernel
theorem dX10_restoreSnapshot_16 : decode cX10_restoreSnapshot 16 = .ok (.iload_n 1, 1) := by decide +kernel
theorem dX10_restoreSnapshot_17 : decode cX10_restoreSnapshot 17 = .ok (.baload, 1) := by decide +kernel
theorem dX10_restoreSnapshot_18 : decode cX10_restoreSnapshot 18 = .ok (.ifCond .ne 5, 3) := by decide +kernel
theorem dX10_restoreSnapshot_21 : decode cX10_restoreSnapshot 21 = .ok (.iconst 0, 1) := by decide +kernel
theorem dX10_restoreSnapshot_22 : decode cX10_restoreSnapshot 22 = .ok (.ireturn, 1) := by decide +kernel
theorem dX10_restoreSnapshot_23 : decode cX10_restoreSnapshot 23 = .ok (.aload_n 0, 1) := by decide +kernel
theorem dX10_restoreSnapshot_24 : decode cX10_restoreSnapshot 24 = .ok (.getfield 79, 3) := by decide +kernel
theorem dX10_restoreSnapshot_27 : decode cX10_restoreSnapshot 27 = .ok (.iload_n 1, 1) := by decide +kernel
theorem dX10_restoreSnapshot_28 : decode cX10_restoreSnapshot 28 = .ok (.aload_n 0, 1) := by decide +kernel
theorem dX10_restoreSnapshot_29 : decode cX10_restoreSnapshot 29 = .ok (.getfield 51, 3) := by decide +kernel
theorem dX10_restoreSnapshot_32 : decode cX10_restoreSnapshot 32 = .ok (.invokevirtual 467, 3) := by decide +kernel
theorem dX10_restoreSnapshot_35 : decode cX10_restoreSnapshot 35 = .ok (.aload_n 0, 1) := by decide +kernel
theorem dX10_restoreSnapshot_36 : decode cX10_restoreSnapshot 36 = .ok (.getfield 51, 3) := by decide +kernel
theorem dX10_restoreSnapshot_39 : decode cX10_restoreSnapshot 39 = .ok (.invokevirtual 339, 3) := by decide +kernel
theorem dX10_restoreSnapshot_42 : decode cX10_restoreSnapshot 42 = .ok (.aload_n 0, 1) := by decide +kernel
theorem dX10_restoreSnapshot_43 : decode cX10_restoreSnapshot 43 = .ok (.getfield 79, 3) := by decide +kernel
theorem dX10_restoreSnapshot_46 : decode cX10_restoreSnapshot 46 = .ok (.invokevirtual 121, 3) := by decide +kernel
theorem dX10_restoreSnapshot_49 : decode cX10_restoreSnapshot 49 = .ok (.iconst 1, 1) := by decide +kernel
theorem dX10_restoreSnapshot_50 : decode cX10_restoreSnapshot 50 = .ok (.ireturn, 1) := by decide +kernel
theorem cm_X10_restoreSnapshot : x_CM yX10_restoreSnapshot cX10_restoreSnapshot 2 (Option.some FieldType.boolean) 1 := ⟨w_4_172, w_1_1, by decide +kernel, by decide +kernel⟩
theorem ci_X10_restoreSnapshot : x_CI yX10_restoreSnapshot 12 := ⟨w_4_170, w_4_171, (RX10, TX10, 12), rfl, rfl⟩
set_option maxRecDepth 100000 in
set_option maxHeartbeats 4000000 in
theorem bX10_restoreSnapshot_21 {V : x_J} {ad : Nat → Nat} {Q : Int32 → x_S → x_L → Prop} (X : x_Is V cX10_restoreSnapshot 2 RX10 (Option.some FieldType.boolean) ad dsX 4 (x_PI Q)) {σ : x_S} {τ : x_L} (h : wX10_restoreSnapshot_21 Q σ τ) : V σ τ 21 [] [] := by
  refine x_iconst X dX10_restoreSnapshot_21 ki_0 ?_
  exact x_zret X dX10_restoreSnapshot_22 ⟨Or.inl rfl, _, rfl, h⟩
set_option maxRecDepth 100000 in
set_option maxHeartbeats 4000000 in
theorem kX10_restoreSnapshot {ad : Nat → Nat} {a1 : Int32} {σ : x_S} {τ : x_L} {Q : Int32 → x_S → x_L → Prop} (h : wX10_restoreSnapshot a1 σ τ Q) : x_Met yX10_restoreSnapshot cX10_restoreSnapshot 2 (Option.some FieldType.boolean) 4 ad dsX [.ref (ad 0), .int a1] σ τ (x_PI Q) := by
  refine x_met (by decide +kernel) (Nat.le_of_ble_eq_true rfl) (fun V X => ?_)
  have X : x_Is V cX10_restoreSnapshot 2 RX10 (Option.some FieldType.boolean) ad dsX 4 (x_PI Q) := X
  show V σ τ 0 [(0, .ref (ad 0)), (1, .int a1)] []
  refine x_iload_n X dX10_restoreSnapshot_0 rfl 1 rfl ?_
  refine x_if_lt X 21 dX10_restoreSnapshot_1 (by decide) (fun hc => ?_) (fun hc => ?_)
  · have h := h.1 hc
    refine x_sub X [] (lv' := []) rfl ?_
    exact bX10_restoreSnapshot_21 X h
  · have h := h.2 hc
    refine x_iload_n X dX10_restoreSnapshot_4 rfl 1 rfl ?_
    refine x_iconst X dX10_restoreSnapshot_5 ki_2 ?_
    refine x_icmp_ge X 21 dX10_restoreSnapshot_6 (by decide) (fun hc => ?_) (fun hc => ?_)
    · have h := h.1 hc
      refine x_sub X [] (lv' := []) rfl ?_
      exact bX10_restoreSnapshot_21 X h
    · have h := h.2 hc
      refine x_aload_n X dX10_restoreSnapshot_9 rfl 0 rfl ?_
      refine x_getR X (j := 63) dX10_restoreSnapshot_10 fl_10_79 dsX_0 rfl ?_
      refine x_getR X (j := 83) dX10_restoreSnapshot_13 fl_10_464 dsX_63 rfl ?_
      refine x_iload_n X dX10_restoreSnapshot_16 rfl 1 rfl ?_
      have g17 := h.1
      have h := h.2
      refine x_zald X dX10_restoreSnapshot_17 dsX_83 g17 ?_
      refine x_if_ne X 23 dX10_restoreSnapshot_18 (by decide) (fun hc => ?_) (fun hc => ?_)
      · have h := h.1 hc
        refine x_aload_n X dX10_restoreSnapshot_23 rfl 0 rfl ?_
        refine x_getR X (j := 63) dX10_restoreSnapshot_24 fl_10_79 dsX_0 rfl ?_
        refine x_iload_n X dX10_restoreSnapshot_27 rfl 1 rfl ?_
        refine x_aload_n X dX10_restoreSnapshot_28 rfl 0 rfl ?_
        refine x_getR X (j := 33) dX10_restoreSnapshot_29 fl_10_51 dsX_0 rfl ?_
        refine x_callVv X [.int a1, .ref (ad 33)] [] dX10_restoreSnapshot_32 (kX2_restoreFrom x_pl33 h) cm_X2_restoreFrom ci_X2_restoreFrom w_4_173 dsX_63 ⟨by decide, by decide⟩ rfl (Nat.le_of_ble_eq_true rfl) (fun σ32 τ32 h => ?_)
        refine x_aload_n X dX10_restoreSnapshot_35 rfl 0 rfl ?_
        refine x_getR X (j := 33) dX10_restoreSnapshot_36 fl_10_51 dsX_0 rfl ?_
        refine x_callVv X [] [] dX10_restoreSnapshot_39 (kX6_arrange x_pl33 h) cm_X6_arrange ci_X6_arrange w_4_26 dsX_33 ⟨by decide, by decide⟩ rfl (Nat.le_of_ble_eq_true rfl) (fun σ39 τ39 h => ?_)
        refine x_aload_n X dX10_restoreSnapshot_42 rfl 0 rfl ?_
        refine x_getR X (j := 63) dX10_restoreSnapshot_43 fl_10_79 dsX_0 rfl ?_
        refine x_callVv X [] [] dX10_restoreSnapshot_46 (kX2_forgetEdits h) cm_X2_forgetEdits ci_X2_forgetEdits w_3_150 dsX_63 ⟨by decide, by decide⟩ rfl (Nat.le_of_ble_eq_true rfl) (fun σ46 τ46 h => ?_)
        refine x_iconst X dX10_restoreSnapshot_49 ki_1 ?_
        exact x_zret X dX10_restoreSnapshot_50 ⟨Or.inr rfl, _, rfl, h⟩
      · have h := h.2 hc
        refine x_sub X [] (lv' := []) rfl ?_
        exact bX10_restoreSnapshot_21 X h
