theorem dX10_floatBits_0 : decode cX10_floatBits 0 = .ok (.fload_n 0, 1) := by decide +kernel
theorem dX10_floatBits_1 : decode cX10_floatBits 1 = .ok (.fconst 0, 1) := by decide +kernel
theorem dX10_floatBits_2 : decode cX10_floatBits 2 = .ok (.fcmp .g, 1) := by decide +kernel
theorem dX10_floatBits_3 : decode cX10_floatBits 3 = .ok (.ifCond .gt 5, 3) := by decide +kernel
theorem dX10_floatBits_6 : decode cX10_floatBits 6 = .ok (.iconst 0, 1) := by decide +kernel
theorem dX10_floatBits_7 : decode cX10_floatBits 7 = .ok (.ireturn, 1) := by decide +kernel
theorem dX10_floatBits_8 : decode cX10_floatBits 8 = .ok (.fload_n 0, 1) := by decide +kernel
theorem dX10_floatBits_9 : decode cX10_floatBits 9 = .ok (.fstore_n 1, 1) := by decide +kernel
theorem dX10_floatBits_10 : decode cX10_floatBits 10 = .ok (.bipush 127, 2) := by decide +kernel
theorem dX10_floatBits_12 : decode cX10_floatBits 12 = .ok (.istore_n 2, 1) := by decide +kernel
theorem dX10_floatBits_13 : decode cX10_floatBits 13 = .ok (.iconst 0, 1) := by decide +kernel
theorem dX10_floatBits_14 : decode cX10_floatBits 14 = .ok (.istore_n 3, 1) := by decide +kernel
theorem dX10_floatBits_15 : decode cX10_floatBits 15 = .ok (.iload_n 3, 1) := by decide +kernel
theorem dX10_floatBits_16 : decode cX10_floatBits 16 = .ok (.bipush 100, 2) := by decide +kernel
theorem dX10_floatBits_18 : decode cX10_floatBits 18 = .ok (.if_icmp .ge 22, 3) := by decide +kernel
theorem dX10_floatBits_21 : decode cX10_floatBits 21 = .ok (.fload_n 1, 1) := by decide +kernel
theorem dX10_floatBits_22 : decode cX10_floatBits 22 = .ok (.fconst 1, 1) := by decide +kernel
theorem dX10_floatBits_23 : decode cX10_floatBits 23 = .ok (.fcmp .g, 1) := by decide +kernel
theorem dX10_floatBits_24 : decode cX10_floatBits 24 = .ok (.ifCond .ge 16, 3) := by decide +kernel
theorem dX10_floatBits_27 : decode cX10_floatBits 27 = .ok (.fload_n 1, 1) := by decide +kernel
theorem dX10_floatBits_28 : decode cX10_floatBits 28 = .ok (.fconst 2, 1) := by decide +kernel
theorem dX10_floatBits_29 : decode cX10_floatBits 29 = .ok (.fmul, 1) := by decide +kernel
theorem dX10_floatBits_30 : decode cX10_floatBits 30 = .ok (.fstore_n 1, 1) := by decide +kernel
theorem dX10_floatBits_31 : decode cX10_floatBits 31 = .ok (.iinc 2 (-1), 3) := by decide +kernel
theorem dX10_floatBits_34 : decode cX10_floatBits 34 = .ok (.iinc 3 1, 3) := by decide +kernel
theorem dX10_floatBits_37 : decode cX10_floatBits 37 = .ok (.goto (-22), 3) := by decide +kernel
theorem dX10_floatBits_40 : decode cX10_floatBits 40 = .ok (.iload_n 2, 1) := by decide +kernel
theorem dX10_floatBits_41 : decode cX10_floatBits 41 = .ok (.bipush 23, 2) := by decide +kernel
theorem dX10_floatBits_43 : decode cX10_floatBits 43 = .ok (.ishl, 1) := by decide +kernel
theorem dX10_floatBits_44 : decode cX10_floatBits 44 = .ok (.fload_n 1, 1) := by decide +kernel
theorem dX10_floatBits_45 : decode cX10_floatBits 45 = .ok (.fconst 1, 1) := by decide +kernel
theorem dX10_floatBits_46 : decode cX10_floatBits 46 = .ok (.fsub, 1) := by decide +kernel
theorem dX10_floatBits_47 : decode cX10_floatBits 47 = .ok (.ldc_w 416, 3) := by decide +kernel
theorem dX10_floatBits_50 : decode cX10_floatBits 50 = .ok (.fmul, 1) := by decide +kernel
theorem dX10_floatBits_51 : decode cX10_floatBits 51 = .ok (.f2i, 1) := by decide +kernel
theorem dX10_floatBits_52 : decode cX10_floatBits 52 = .ok (.iadd, 1) := by decide +kernel
theorem dX10_floatBits_53 : decode cX10_floatBits 53 = .ok (.ireturn, 1) := by decide +kernel
theorem cm_X10_floatBits : x_CM yX10_floatBits cX10_floatBits 4 (Option.some FieldType.int) 1 := ⟨w_6_155, w_1_1, by decide +kernel, by decide +kernel⟩
set_option maxRecDepth 100000 in
set_option maxHeartbeats 4000000 in
theorem bX10_floatBits_40 {V : x_J} {ad : Nat → Nat} {Q : Int32 → x_S → x_L → Prop} (X : x_Is V cX10_floatBits 4 RX10 (Option.some FieldType.int) ad dsX 0 (x_PI Q)) {v1 : UInt32} {v2 : Int32} {σ : x_S} {τ : x_L} (h : wX10_floatBits_40 Q v1 v2 σ τ) : V σ τ 40 [(1, .float v1), (2, .int v2)] [] := by
  refine x_iload_n X dX10_floatBits_40 rfl 1 rfl ?_
  refine x_bipush X dX10_floatBits_41 kb_23 ?_
  refine x_ishl X dX10_floatBits_43 ?_
  refine x_fload_n X dX10_floatBits_44 rfl 0 rfl ?_
  refine x_fconst1 X dX10_floatBits_45 ?_
  refine x_fsub X dX10_floatBits_46 h.1 ?_
  have h := h.2
  refine x_ldcwF X dX10_floatBits_47 w_6_156 ?_
  refine x_fmul X dX10_floatBits_50 h.1 ?_
  have h := h.2
  refine x_f2i X dX10_floatBits_51 ?_
  refine x_iadd X dX10_floatBits_52 ?_
  exact x_iret X dX10_floatBits_53 ⟨_, rfl, h⟩
set_option maxRecDepth 100000 in
set_option maxHeartbeats 4000000 in
theorem bX10_floatBits_15 {V : x_J} {ad : Nat → Nat} {Q : Int32 → x_S → x_L → Prop} (X : x_Is V cX10_floatBits 4 RX10 (Option.some FieldType.int) ad dsX 0 (x_PI Q)) {K15 : UInt32 → Int32 → Int32 → x_S → x_L → Prop} (hK15 : ∀ v1 v2 v3 σ τ, K15 v1 v2 v3 σ τ → V σ τ 15 [(1, .float v1), (2, .int v2), (3, .int v3)] []) {v1 : UInt32} {v2 : Int32} {v3 : Int32} {σ : x_S} {τ : x_L} (h : wX10_floatBits_15 Q K15 v1 v2 v3 σ τ) : V σ τ 15 [(1, .float v1), (2, .int v2), (3, .int v3)] [] := by
  refine x_iload_n X dX10_floatBits_15 rfl 2 rfl ?_
  refine x_bipush X dX10_floatBits_16 kb_100 ?_
  refine x_icmp_ge X 40 dX10_floatBits_18 (by decide) (fun hc => ?_) (fun hc => ?_)
  · have h := h.1 hc
    refine x_sub X [0, 1] (lv' := [(1, .float v1), (2, .int v2)]) rfl ?_
    exact bX10_floatBits_40 X h
  · have h := h.2 hc
    refine x_fload_n X dX10_floatBits_21 rfl 0 rfl ?_
    refine x_fconst1 X dX10_floatBits_22 ?_
    refine x_fcmp X dX10_floatBits_23 ?_
    refine x_if_ge X 40 dX10_floatBits_24 (by decide) (fun hc => ?_) (fun hc => ?_)
    · have h := h.1 hc
      refine x_sub X [0, 1] (lv' := [(1, .float v1), (2, .int v2)]) rfl ?_
      exact bX10_floatBits_40 X h
    · have h := h.2 hc
      refine x_fload_n X dX10_floatBits_27 rfl 0 rfl ?_
      refine x_fconst2 X dX10_floatBits_28 ?_
      refine x_fmul X dX10_floatBits_29 h.1 ?_
      have h := h.2
      refine x_fstore_n X (lv' := [(1, .float (FP.fmul v1 FP.fconst2)), (2, .int v2), (3, .int v3)]) dX10_floatBits_30 rfl (by decide) rfl ?_
      refine x_iinc X (k := 1) (lv' := [(2, .int (v2 + (-1))), (1, .float (FP.fmul v1 FP.fconst2)), (3, .int v3)]) dX10_floatBits_31 rfl ki_m1 (by decide) rfl ?_
      refine x_iinc X (k := 2) (lv' := [(3, .int (v3 + 1)), (2, .int (v2 + (-1))), (1, .float (FP.fmul v1 FP.fconst2))]) dX10_floatBits_34 rfl ki_1 (by decide) rfl ?_
      refine x_goto X (tgt := 15) dX10_floatBits_37 (by decide) ?_
      refine x_sub X [2, 1, 0] (lv' := [(1, .float (FP.fmul v1 FP.fconst2)), (2, .int (v2 + (-1))), (3, .int (v3 + 1))]) rfl ?_
      exact hK15 _ _ _ _ _ h
set_option maxRecDepth 100000 in
set_option maxHeartbeats 4000000 in
theorem kX10_floatBits {ad : Nat → Nat} {a0 : UInt32} {σ : x_S} {τ : x_L} {Q : Int32 → x_S → x_L → Prop} (h : wX10_floatBits a0 σ τ Q) : x_Met yX10_floatBits cX10_floatBits 4 (Option.some FieldType.int) 0 ad dsX [.float a0] σ τ (x_PI Q) := by
  refine x_met (by decide +kernel) (Nat.le_of_ble_eq_true rfl) (fun V X => ?_)
  have X : x_Is V cX10_floatBits 4 RX10 (Option.some FieldType.int) ad dsX 0 (x_PI Q) := X
  show V σ τ 0 [(0, .float a0)] []
  refine x_fload_n X dX10_floatBits_0 rfl 0 rfl ?_
  refine x_fconst0 X dX10_floatBits_1 ?_
  refine x_fcmp X dX10_floatBits_2 ?_
  refine x_if_gt X 8 dX10_floatBits_3 (by decide) (fun hc => ?_) (fun hc => ?_)
  · have h := h.1 hc
    refine x_fload_n X dX10_floatBits_8 rfl 0 rfl ?_
    refine x_fstore_n X (lv' := [(1, .float a0), (0, .float a0)]) dX10_floatBits_9 rfl (by decide) rfl ?_
    refine x_bipush X dX10_floatBits_10 kb_127 ?_
    refine x_istore_n X (lv' := [(2, .int 127), (1, .float a0), (0, .float a0)]) dX10_floatBits_12 rfl (by decide) rfl ?_
    refine x_iconst X dX10_floatBits_13 ki_0 ?_
    refine x_istore_n X (lv' := [(3, .int 0), (2, .int 127), (1, .float a0), (0, .float a0)]) dX10_floatBits_14 rfl (by decide) rfl ?_
    refine x_sub X [2, 1, 0] (lv' := [(1, .float a0), (2, .int 127), (3, .int 0)]) rfl ?_
    exact x_l3_G (fun v1 v2 v3 σ τ => V σ τ 15 [(1, .float v1), (2, .int v2), (3, .int v3)] []) (fun K15 hK15 v1 v2 v3 σ τ h => bX10_floatBits_15 X hK15 h) h
  · have h := h.2 hc
    refine x_iconst X dX10_floatBits_6 ki_0 ?_
    exact x_iret X dX10_floatBits_7 ⟨_, rfl, h⟩
theorem dX10_shareBits_0 : decode cX10_shareBits 0 = .ok (.aload_n 0, 1) := by decide +kernel
theorem dX10_shareBits_1 : decode cX10_shareBits 1 = .ok (.getfield 51, 3) := by decide +kernel
theorem dX10_shareBits_4 : decode cX10_shareBits 4 = .ok (.invokevirtual 404, 3) := by decide +kernel
theorem dX10_shareBits_7 : decode cX10_shareBits 7 = .ok (.istore_n 1, 1) := by decide +kernel
theorem dX10_shareBits_8 : decode cX10_shareBits 8 = .ok (.iload_n 1, 1) := by decide +kernel
theorem dX10_shareBits_9 : decode cX10_shareBits 9 = .ok (.ifCond .ne 14, 3) := by decide +kernel
theorem dX10_shareBits_12 : decode cX10_shareBits 12 = .ok (.new 407, 3) := by decide +kernel
theorem dX10_shareBits_15 : decode cX10_shareBits 15 = .ok (.dup, 1) := by decide +kernel
theorem dX10_shareBits_16 : decode cX10_shareBits 16 = .ok (.ldc_w 409, 3) := by decide +kernel
theorem dX10_shareBits_19 : decode cX10_shareBits 19 = .ok (.invokespecial 411, 3) := by decide +kernel
theorem dX10_shareBits_22 : decode cX10_shareBits 22 = .ok (.athrow, 1) := by decide +kernel
theorem dX10_shareBits_23 : decode cX10_shareBits 23 = .ok (.aload_n 0, 1) := by decide +kernel
theorem dX10_shareBits_24 : decode cX10_shareBits 24 = .ok (.getfield 51, 3) := by decide +kernel
theorem dX10_shareBits_27 : decode cX10_shareBits 27 = .ok (.iconst 0, 1) := by decide +kernel
theorem dX10_shareBits_28 : decode cX10_shareBits 28 = .ok (.aload_n 0, 1) := by decide +kernel
theorem dX10_shareBits_29 : decode cX10_shareBits 29 = .ok (.getfield 42, 3) := by decide +kernel
theorem dX10_shareBits_32 : decode cX10_shareBits 32 = .ok (.invokevirtual 139, 3) := by decide +kernel
theorem dX10_shareBits_35 : decode cX10_shareBits 35 = .ok (.invokevirtual 158, 3) := by decide +kernel
theorem dX10_shareBits_38 : decode cX10_shareBits 38 = .ok (.i2f, 1) := by decide +kernel
theorem dX10_shareBits_39 : decode cX10_shareBits 39 = .ok (.iload_n 1, 1) := by decide +kernel
theorem dX10_shareBits_40 : decode cX10_shareBits 40 = .ok (.i2f, 1) := by decide +kernel
theorem dX10_shareBits_41 : decode cX10_shareBits 41 = .ok (.fdiv, 1) := by decide +kernel
theorem dX10_shareBits_42 : decode cX10_shareBits 42 = .ok (.invokestatic 412, 3) := by decide +kernel
theorem dX10_shareBits_45 : decode cX10_shareBits 45 = .ok (.ireturn, 1) := by decide +kernel
theorem cm_X10_shareBits : x_CM yX10_shareBits cX10_shareBits 2 (Option.some FieldType.int) 0 := ⟨w_6_144, w_1_1, by decide +kernel, by decide +kernel⟩
theorem ci_X10_shareBits : x_CI yX10_shareBits 12 := ⟨w_6_142, w_6_143, (RX10, TX10, 12), rfl, rfl⟩
set_option maxRecDepth 100000 in
set_option maxHeartbeats 4000000 in
theorem kX10_shareBits {ad : Nat → Nat} {σ : x_S} {τ : x_L} {Q : Int32 → x_S → x_L → Prop} {QX : x_PE} (h : wX10_shareBits σ τ Q QX) : x_MetX yX10_shareBits cX10_shareBits 2 (Option.some FieldType.int) 6 4 ad dsX [.ref (ad 0)] σ τ (x_PI Q) QX := by
  refine x_metX (by decide +kernel) (Nat.le_of_ble_eq_true rfl) (fun V Y => ?_)
  have Y : x_IsX V cX10_shareBits 2 RX10 (Option.some FieldType.int) ad dsX 6 (x_PI Q) QX 0 4 := Y
  have X := x_isX Y
  show V σ τ 0 [(0, .ref (ad 0))] []
  refine x_aload_n X dX10_shareBits_0 rfl 0 rfl ?_
  refine x_getR X (j := 33) dX10_shareBits_1 fl_10_51 dsX_0 rfl ?_
  refine x_callVi X [] [] dX10_shareBits_4 (kX6_allBases x_pl33 h) cm_X6_allBases ci_X6_allBases w_6_145 dsX_33 ⟨by decide, by decide⟩ rfl (Nat.le_of_ble_eq_true rfl) (fun r4 σ4 τ4 h => ?_)
  refine x_istore_n X (lv' := [(1, .int r4), (0, .ref (ad 0))]) dX10_shareBits_7 rfl (by decide) rfl ?_
  refine x_iload_n X dX10_shareBits_8 rfl 0 rfl ?_
  refine x_if_ne X 23 dX10_shareBits_9 (by decide) (fun hc => ?_) (fun hc => ?_)
  · have h := h.1 hc
    refine x_aload_n X dX10_shareBits_23 rfl 1 rfl ?_
    refine x_getR X (j := 33) dX10_shareBits_24 fl_10_51 dsX_0 rfl ?_
    refine x_iconst X dX10_shareBits_27 ki_0 ?_
    refine x_aload_n X dX10_shareBits_28 rfl 1 rfl ?_
    refine x_getR X (j := 27) dX10_shareBits_29 fl_10_42 dsX_0 rfl ?_
    refine x_callVi X [] [.int 0, .ref (ad 33)] dX10_shareBits_32 (kX7_allStops h) cm_X7_allStops ci_X7_allStops w_3_170 dsX_27 ⟨by decide, by decide⟩ rfl (Nat.le_of_ble_eq_true rfl) (fun r32 σ32 τ32 h => ?_)
    refine x_callVi X [.int 0, .int r32] [] dX10_shareBits_35 (kX6_savedOnRows x_pl33 h) cm_X6_savedOnRows ci_X6_savedOnRows w_3_200 dsX_33 ⟨by decide, by decide⟩ rfl (Nat.le_of_ble_eq_true rfl) (fun r35 σ35 τ35 h => ?_)
    refine x_i2f X dX10_shareBits_38 ?_
    refine x_iload_n X dX10_shareBits_39 rfl 0 rfl ?_
    refine x_i2f X dX10_shareBits_40 ?_
    refine x_fdiv X dX10_shareBits_41 h.1 ?_
    have h := h.2
    refine x_callSi X [.float (FP.fdiv (FP.i2f r35) (FP.i2f r4))] [] dX10_shareBits_42 (kX10_floatBits h) cm_X10_floatBits w_6_154 rfl w_6_153 ⟨by decide, by decide⟩ rfl (Nat.le_of_ble_eq_true rfl) (fun r42 σ42 τ42 h => ?_)
    exact x_iret X dX10_shareBits_45 ⟨_, rfl, h⟩
  · have h := h.2 hc
    exact x_throw Y (i := 17) dX10_shareBits_12 dX10_shareBits_15 dX10_shareBits_16 dX10_shareBits_19 dX10_shareBits_22 (by decide +kernel) w_6_150 w_1_27 (List.mem_of_getElem? (i := 3) rfl) (List.mem_of_getElem? (i := 17) rfl) x_exAr x_exAr_b x_exAr_c (by decide) (by decide) (Nat.le_of_ble_eq_true rfl) h
theorem dX10_reachFurther_0 : decode cX10_reachFurther 0 = .ok (.iconst 0, 1) := by decide +kernel
theorem dX10_reachFurther_1 : decode cX10_reachFurther 1 = .ok (.istore_n 1, 1) := by decide +kernel
theorem dX10_reachFurther_2 : decode cX10_reachFurther 2 = .ok (.iload_n 1, 1) := by decide +kernel
theorem dX10_reachFurther_3 : decode cX10_reachFurther 3 = .ok (.aload_n 0, 1) := by decide +kernel
theorem dX10_reachFurther_4 : decode cX10_reachFurther 4 = .ok (.getfield 19, 3) := by decide +kernel
theorem dX10_reachFurther_7 : decode cX10_reachFurther 7 = .ok (.getfield 136, 3) := by decide +kernel
theorem dX10_reachFurther_10 : decode cX10_reachFurther 10 = .ok (.if_icmp .ge 92, 3) := by decide +kernel
theorem dX10_reachFurther_13 : decode cX10_reachFurther 13 = .ok (.aload_n 0, 1) := by decide +kernel
theorem dX10_reachFurther_14 : decode cX10_reachFurther 14 = .ok (.getfield 90, 3) := by decide +kernel
theorem dX10_reachFurther_17 : decode cX10_reachFurther 17 = .ok (.aload_n 0, 1) := by decide +kernel
theorem dX10_reachFurther_18 : decode cX10_reachFurther 18 = .ok (.getfield 19, 3) := by decide +kernel
theorem dX10_reachFurther_21 : decode cX10_reachFurther 21 = .ok (.getfield 192, 3) := by decide +kernel
theorem dX10_reachFurther_24 : decode cX10_reachFurther 24 = .ok (.iload_n 1, 1) := by decide +kernel
theorem dX10_reachFurther_25 : decode cX10_reachFurther 25 = .ok (.iaload, 1) := by decide +kernel
theorem dX10_reachFurther_26 : decode cX10_reachFurther 26 = .ok (.iaload, 1) := by decide +kernel
theorem dX10_reachFurther_27 : decode cX10_reachFurther 27 = .ok (.istore_n 2, 1) := by decide +kernel
theorem dX10_reachFurther_28 : decode cX10_reachFurther 28 = .ok (.iload_n 2, 1) := by decide +kernel
theorem dX10_reachFurther_29 : decode cX10_reachFurther 29 = .ok (.iconst (-1), 1) := by decide +kernel
theorem dX10_reachFurther_30 : decode cX10_reachFurther 30 = .ok (.if_icmp .eq 66, 3) := by decide +kernel
theorem dX10_reachFurther_33 : decode cX10_reachFurther 33 = .ok (.iload_n 2, 1) := by decide +kernel
theorem dX10_reachFurther_34 : decode cX10_reachFurther 34 = .ok (.aload_n 0, 1) := by decide +kernel
theorem dX10_reachFurther_35 : decode cX10_reachFurther 35 = .ok (.getfield 19, 3) := by decide +kernel
theorem dX10_reachFurther_38 : decode cX10_reachFurther 38 = .ok (.iload_n 1, 1) := by decide +kernel
theorem dX10_reachFurther_39 : decode cX10_reachFurther 39 = .ok (.aload_n 0, 1) := by decide +kernel
theorem dX10_reachFurther_40 : decode cX10_reachFurther 40 = .ok (.getfield 19, 3) := by decide +kernel
theorem dX10_reachFurther_43 : decode cX10_reachFurther 43 = .ok (.getfield 200, 3) := by decide +kernel
theorem dX10_reachFurther_46 : decode cX10_reachFurther 46 = .ok (.iload_n 1, 1) := by decide +kernel
theorem dX10_reachFurther_47 : decode cX10_reachFurther 47 = .ok (.iaload, 1) := by decide +kernel
theorem dX10_reachFurther_48 : decode cX10_reachFurther 48 = .ok (.invokevirtual 330, 3) := by decide +kernel
theorem dX10_reachFurther_51 : decode cX10_reachFurther 51 = .ok (.iadd, 1) := by decide +kernel
theorem dX10_reachFurther_52 : decode cX10_reachFurther 52 = .ok (.istore_n 3, 1) := by decide +kernel
theorem dX10_reachFurther_53 : decode cX10_reachFurther 53 = .ok (.aload_n 0, 1) := by decide +kernel
theorem dX10_reachFurther_54 : decode cX10_reachFurther 54 = .ok (.getfield 90, 3) := by decide +kernel
theorem dX10_reachFurther_57 : decode cX10_reachFurther 57 = .ok (.aload_n 0, 1) := by decide +kernel
theorem dX10_reachFurther_58 : decode cX10_reachFurther 58 = .ok (.getfield 19, 3) := by decide +kernel
theorem dX10_reachFurther_61 : decode cX10_reachFurther 61 = .ok (.getfield 195, 3) := by decide +kernel
theorem dX10_reachFurther_64 : decode cX10_reachFurther 64 = .ok (.iload_n 1, 1) := by decide +kernel
theorem dX10_reachFurther_65 : decode cX10_reachFurther 65 = .ok (.iaload, 1) := by decide +kernel
theorem dX10_reachFurther_66 : decode cX10_reachFurther 66 = .ok (.iaload, 1) := by decide +kernel
theorem dX10_reachFurther_67 : decode cX10_reachFurther 67 = .ok (.istore 4, 2) := by decide +kernel
theorem dX10_reachFurther_69 : decode cX10_reachFurther 69 = .ok (.iload 4, 2) := by decide +kernel
theorem dX10_reachFurther_71 : decode cX10_reachFurther 71 = .ok (.iconst (-1), 1) := by decide +kernel
theorem dX10_reachFurther_72 : decode cX10_reachFurther 72 = .ok (.if_icmp .eq 9, 3) := by decide +kernel
theorem dX10_reachFurther_75 : decode cX10_reachFurther 75 = .ok (.iload_n 3, 1) := by decide +kernel
theorem dX10_reachFurther_76 : decode cX10_reachFurther 76 = .ok (.iload 4, 2) := by decide +kernel
theorem dX10_reachFurther_78 : decode cX10_reachFurther 78 = .ok (.if_icmp .ge 18, 3) := by decide +kernel
theorem dX10_reachFurther_81 : decode cX10_reachFurther 81 = .ok (.aload_n 0, 1) := by decide +kernel
theorem dX10_reachFurther_82 : decode cX10_reachFurther 82 = .ok (.getfield 90, 3) := by decide +kernel
theorem dX10_reachFurther_85 : decode cX10_reachFurther 85 = .ok (.aload_n 0, 1) := by decide +kernel
theorem dX10_reachFurther_86 : decode cX10_reachFurther 86 = .ok (.getfield 19, 3) := by decide +kernel
theorem dX10_reachFurther_89 : decode cX10_reachFurther 89 = .ok (.getfield 195, 3) := by decide +kernel
theorem dX10_reachFurther_92 : decode cX10_reachFurther 92 = .ok (.iload_n 1, 1) := by decide +kernel
theorem dX10_reachFurther_93 : decode cX10_reachFurther 93 = .ok (.iaload, 1) := by decide +kernel
theorem dX10_reachFurther_94 : decode cX10_reachFurther 94 = .ok (.iload_n 3, 1) := by decide +kernel
theorem dX10_reachFurther_95 : decode cX10_reachFurther 95 = .ok (.iastore, 1) := by decide +kernel
theorem dX10_reachFurther_96 : decode cX10_reachFurther 96 = .ok (.iinc 1 1, 3) := by decide +kernel
theorem dX10_reachFurther_99 : decode cX10_reachFurther 99 = .ok (.goto (-97), 3) := by decide +kernel
theorem dX10_reachFurther_102 : decode cX10_reachFurther 102 = .ok (.return_, 1) := by decide +kernel
theorem cm_X10_reachFurther : x_CM yX10_reachFurther cX10_reachFurther 5 (Option.none : Option Jvm.ClassFile.FieldType) 0 := ⟨w_6_167, w_1_1, by decide +kernel, by decide +kernel⟩
theorem ci_X10_reachFurther : x_CI yX10_reachFurther 12 := ⟨w_6_166, wp_40, (RX10, TX10, 12), rfl, rfl⟩
set_option maxRecDepth 100000 in
set_option maxHeartbeats 4000000 in
theorem bX10_reachFurther_96 {V : x_J} {ad : Nat → Nat} {Q : x_S → x_L → Prop} (X : x_Is V cX10_reachFurther 5 RX10 (Option.none : Option Jvm.ClassFile.FieldType) ad dsX 1 (x_PV Q)) {K2 : Int32 → x_S → x_L → Prop} (hK2 : ∀ v1 σ τ, K2 v1 σ τ → V σ τ 2 [(0, .ref (ad 0)), (1, .int v1)] []) {v1 : Int32} {σ : x_S} {τ : x_L} (h : wX10_reachFurther_96 K2 Q v1 σ τ) : V σ τ 96 [(0, .ref (ad 0)), (1, .int v1)] [] := by
  refine x_iinc X (k := 1) (lv' := [(1, .int (v1 + 1)), (0, .ref (ad 0))]) dX10_reachFurther_96 rfl ki_1 (by decide) rfl ?_
  refine x_goto X (tgt := 2) dX10_reachFurther_99 (by decide) ?_
  refine x_sub X [1, 0] (lv' := [(0, .ref (ad 0)), (1, .int (v1 + 1))]) rfl ?_
  exact hK2 _ _ _ h
set_option maxRecDepth 100000 in
set_option maxHeartbeats 4000000 in
theorem bX10_reachFurther_81 {V : x_J} {ad : Nat → Nat} {Q : x_S → x_L → Prop} (X : x_Is V cX10_reachFurther 5 RX10 (Option.none : Option Jvm.ClassFile.FieldType) ad dsX 1 (x_PV Q)) {K2 : Int32 → x_S → x_L → Prop} (hK2 : ∀ v1 σ τ, K2 v1 σ τ → V σ τ 2 [(0, .ref (ad 0)), (1, .int v1)] []) {v1 : Int32} {v3 : Int32} {σ : x_S} {τ : x_L} (h : wX10_reachFurther_81 K2 Q v1 v3 σ τ) : V σ τ 81 [(0, .ref (ad 0)), (1, .int v1), (3, .int v3)] [] := by
  refine x_aload_n X dX10_reachFurther_81 rfl 0 rfl ?_
  refine x_getR X (j := 86) dX10_reachFurther_82 fl_10_90 dsX_0 rfl ?_
  refine x_aload_n X dX10_reachFurther_85 rfl 0 rfl ?_
  refine x_getR X (j := 3) dX10_reachFurther_86 fl_10_19 dsX_0 rfl ?_
  refine x_getR X (j := 5) dX10_reachFurther_89 fl_10_195 dsX_3 rfl ?_
  refine x_iload_n X dX10_reachFurther_92 rfl 1 rfl ?_
  have g93 := h.1
  have h := h.2
  refine x_iald X dX10_reachFurther_93 dsX_5 g93 ?_
  refine x_iload_n X dX10_reachFurther_94 rfl 2 rfl ?_
  have g95 := h.1
  have h := h.2
  refine x_iast X dX10_reachFurther_95 dsX_86 g95 ?_
  refine x_sub X [0, 1] (lv' := [(0, .ref (ad 0)), (1, .int v1)]) rfl ?_
  exact bX10_reachFurther_96 X hK2 h
set_option maxRecDepth 100000 in
set_option maxHeartbeats 4000000 in
theorem bX10_reachFurther_2 {V : x_J} {ad : Nat → Nat} {Q : x_S → x_L → Prop} (X : x_Is V cX10_reachFurther 5 RX10 (Option.none : Option Jvm.ClassFile.FieldType) ad dsX 1 (x_PV Q)) {K2 : Int32 → x_S → x_L → Prop} (hK2 : ∀ v1 σ τ, K2 v1 σ τ → V σ τ 2 [(0, .ref (ad 0)), (1, .int v1)] []) {v1 : Int32} {σ : x_S} {τ : x_L} (h : wX10_reachFurther_2 Q K2 v1 σ τ) : V σ τ 2 [(0, .ref (ad 0)), (1, .int v1)] [] := by
  refine x_iload_n X dX10_reachFurther_2 rfl 1 rfl ?_
  refine x_aload_n X dX10_reachFurther_3 rfl 0 rfl ?_
  refine x_getR X (j := 3) dX10_reachFurther_4 fl_10_19 dsX_0 rfl ?_
  refine x_getI X dX10_reachFurther_7 fl_10_136 dsX_3 rfl ?_
  refine x_icmp_ge X 102 dX10_reachFurther_10 (by decide) (fun hc => ?_) (fun hc => ?_)
  · have h := h.1 hc
    exact x_vret X dX10_reachFurther_102 ⟨rfl, h⟩
  · have h := h.2 hc
    refine x_aload_n X dX10_reachFurther_13 rfl 0 rfl ?_
    refine x_getR X (j := 86) dX10_reachFurther_14 fl_10_90 dsX_0 rfl ?_
    refine x_aload_n X dX10_reachFurther_17 rfl 0 rfl ?_
    refine x_getR X (j := 3) dX10_reachFurther_18 fl_10_19 dsX_0 rfl ?_
    refine x_getR X (j := 4) dX10_reachFurther_21 fl_10_192 dsX_3 rfl ?_
    refine x_iload_n X dX10_reachFurther_24 rfl 1 rfl ?_
    have g25 := h.1
    have h := h.2
    refine x_iald X dX10_reachFurther_25 dsX_4 g25 ?_
    have g26 := h.1
    have h := h.2
    refine x_iald X dX10_reachFurther_26 dsX_86 g26 ?_
    refine x_istore_n X (lv' := [(2, .int (σ 86 (σ 4 v1.toNatClampNeg).toNatClampNeg)), (0, .ref (ad 0)), (1, .int v1)]) dX10_reachFurther_27 rfl (by decide) rfl ?_
    refine x_iload_n X dX10_reachFurther_28 rfl 0 rfl ?_
    refine x_iconst X dX10_reachFurther_29 ki_m1 ?_
    refine x_icmp_eq X 96 dX10_reachFurther_30 (by decide) (fun hc => ?_) (fun hc => ?_)
    · have h := h.1 hc
      refine x_sub X [1, 2] (lv' := [(0, .ref (ad 0)), (1, .int v1)]) rfl ?_
      exact bX10_reachFurther_96 X hK2 h
    · have h := h.2 hc
      refine x_iload_n X dX10_reachFurther_33 rfl 0 rfl ?_
      refine x_aload_n X dX10_reachFurther_34 rfl 1 rfl ?_
      refine x_getR X (j := 3) dX10_reachFurther_35 fl_10_19 dsX_0 rfl ?_
      refine x_iload_n X dX10_reachFurther_38 rfl 2 rfl ?_
      refine x_aload_n X dX10_reachFurther_39 rfl 1 rfl ?_
      refine x_getR X (j := 3) dX10_reachFurther_40 fl_10_19 dsX_0 rfl ?_
      refine x_getR X (j := 7) dX10_reachFurther_43 fl_10_200 dsX_3 rfl ?_
      refine x_iload_n X dX10_reachFurther_46 rfl 2 rfl ?_
      refine x_iald X dX10_reachFurther_47 dsX_7 g25 ?_
      refine x_callVi X [.int v1, .int (σ 7 v1.toNatClampNeg)] [.int (σ 86 (σ 4 v1.toNatClampNeg).toNatClampNeg)] dX10_reachFurther_48 (kX1_minutes h) cm_X1_minutes ci_X1_minutes w_5_228 dsX_3 ⟨by decide, by decide⟩ rfl (Nat.le_of_ble_eq_true rfl) (fun r48 σ48 τ48 h => ?_)
      refine x_iadd X dX10_reachFurther_51 ?_
      refine x_istore_n X (lv' := [(3, .int ((σ 86 (σ 4 v1.toNatClampNeg).toNatClampNeg) + r48)), (2, .int (σ 86 (σ 4 v1.toNatClampNeg).toNatClampNeg)), (0, .ref (ad 0)), (1, .int v1)]) dX10_reachFurther_52 rfl (by decide) rfl ?_
      refine x_aload_n X dX10_reachFurther_53 rfl 2 rfl ?_
      refine x_getR X (j := 86) dX10_reachFurther_54 fl_10_90 dsX_0 rfl ?_
      refine x_aload_n X dX10_reachFurther_57 rfl 2 rfl ?_
      refine x_getR X (j := 3) dX10_reachFurther_58 fl_10_19 dsX_0 rfl ?_
      refine x_getR X (j := 5) dX10_reachFurther_61 fl_10_195 dsX_3 rfl ?_
      refine x_iload_n X dX10_reachFurther_64 rfl 3 rfl ?_
      refine x_iald X dX10_reachFurther_65 dsX_5 g25 ?_
      have g66 := h.1
      have h := h.2
      refine x_iald X dX10_reachFurther_66 dsX_86 g66 ?_
      refine x_istore X (lv' := [(4, .int (σ48 86 (σ48 5 v1.toNatClampNeg).toNatClampNeg)), (3, .int ((σ 86 (σ 4 v1.toNatClampNeg).toNatClampNeg) + r48)), (2, .int (σ 86 (σ 4 v1.toNatClampNeg).toNatClampNeg)), (0, .ref (ad 0)), (1, .int v1)]) dX10_reachFurther_67 (by decide) rfl ?_
      refine x_iload X dX10_reachFurther_69 0 rfl ?_
      refine x_iconst X dX10_reachFurther_71 ki_m1 ?_
      refine x_icmp_eq X 81 dX10_reachFurther_72 (by decide) (fun hc => ?_) (fun hc => ?_)
      · have h := h.1 hc
        refine x_sub X [3, 4, 1] (lv' := [(0, .ref (ad 0)), (1, .int v1), (3, .int ((σ 86 (σ 4 v1.toNatClampNeg).toNatClampNeg) + r48))]) rfl ?_
        exact bX10_reachFurther_81 X hK2 h
      · have h := h.2 hc
        refine x_iload_n X dX10_reachFurther_75 rfl 1 rfl ?_
        refine x_iload X dX10_reachFurther_76 0 rfl ?_
        refine x_icmp_ge X 96 dX10_reachFurther_78 (by decide) (fun hc => ?_) (fun hc => ?_)
        · have h := h.1 hc
          refine x_sub X [3, 4] (lv' := [(0, .ref (ad 0)), (1, .int v1)]) rfl ?_
          exact bX10_reachFurther_96 X hK2 h
        · have h := h.2 hc
          refine x_sub X [3, 4, 1] (lv' := [(0, .ref (ad 0)), (1, .int v1), (3, .int ((σ 86 (σ 4 v1.toNatClampNeg).toNatClampNeg) + r48))]) rfl ?_
          exact bX10_reachFurther_81 X hK2 h
set_option maxRecDepth 100000 in
set_option maxHeartbeats 4000000 in
theorem kX10_reachFurther {ad : Nat → Nat} {σ : x_S} {τ : x_L} {Q : x_S → x_L → Prop} (h : wX10_reachFurther σ τ Q) : x_Met yX10_reachFurther cX10_reachFurther 5 (Option.none : Option Jvm.ClassFile.FieldType) 1 ad dsX [.ref (ad 0)] σ τ (x_PV Q) := by
  refine x_met (by decide +kernel) (Nat.le_of_ble_eq_true rfl) (fun V X => ?_)
  have X : x_Is V cX10_reachFurther 5 RX10 (Option.none : Option Jvm.ClassFile.FieldType) ad dsX 1 (x_PV Q) := X
  show V σ τ 0 [(0, .ref (ad 0))] []
  refine x_iconst X dX10_reachFurther_0 ki_0 ?_
  refine x_istore_n X (lv' := [(1, .int 0), (0, .ref (ad 0))]) dX10_reachFurther_1 rfl (by decide) rfl ?_
  refine x_sub X [1, 0] (lv' := [(0, .ref (ad 0)), (1, .int 0)]) rfl ?_
  exact x_l1_G (fun v1 σ τ => V σ τ 2 [(0, .ref (ad 0)), (1, .int v1)] []) (fun K2 hK2 v1 σ τ h => bX10_reachFurther_2 X hK2 h) h
theorem dX10_quickest_0 : decode cX10_quickest 0 = .ok (.iload_n 1, 1) := by decide +kernel
theorem dX10_quickest_1 : decode cX10_quickest 1 = .ok (.iconst 0, 1) := by decide +kernel
theorem dX10_quickest_2 : decode cX10_quickest 2 = .ok (.bipush 19, 2) := by decide +kernel
theorem dX10_quickest_4 : decode cX10_quickest 4 = .ok (.invokestatic 311, 3) := by decide +kernel
theorem dX10_quickest_7 : decode cX10_quickest 7 = .ok (.iload_n 2, 1) := by decide +kernel
theorem dX10_quickest_8 : decode cX10_quickest 8 = .ok (.iconst 0, 1) := by decide +kernel
theorem dX10_quickest_9 : decode cX10_quickest 9 = .ok (.bipush 19, 2) := by decide +kernel
theorem dX10_quickest_11 : decode cX10_quickest 11 = .ok (.invokestatic 311, 3) := by decide +kernel
theorem dX10_quickest_14 : decode cX10_quickest 14 = .ok (.iconst 0, 1) := by decide +kernel
theorem dX10_quickest_15 : decode cX10_quickest 15 = .ok (.istore_n 3, 1) := by decide +kernel
theorem dX10_quickest_16 : decode cX10_quickest 16 = .ok (.iload_n 3, 1) := by decide +kernel
theorem dX10_quickest_17 : decode cX10_quickest 17 = .ok (.bipush 20, 2) := by decide +kernel
theorem dX10_quickest_19 : decode cX10_quickest 19 = .ok (.if_icmp .ge 16, 3) := by decide +kernel
theorem dX10_quickest_22 : decode cX10_quickest 22 = .ok (.aload_n 0, 1) := by decide +kernel
theorem dX10_quickest_23 : decode cX10_quickest 23 = .ok (.getfield 90, 3) := by decide +kernel
theorem dX10_quickest_26 : decode cX10_quickest 26 = .ok (.iload_n 3, 1) := by decide +kernel
theorem dX10_quickest_27 : decode cX10_quickest 27 = .ok (.iconst (-1), 1) := by decide +kernel
theorem dX10_quickest_28 : decode cX10_quickest 28 = .ok (.iastore, 1) := by decide +kernel
theorem dX10_quickest_29 : decode cX10_quickest 29 = .ok (.iinc 3 1, 3) := by decide +kernel
theorem dX10_quickest_32 : decode cX10_quickest 32 = .ok (.goto (-16), 3) := by decide +kernel
theorem dX10_quickest_35 : decode cX10_quickest 35 = .ok (.aload_n 0, 1) := by decide +kernel
theorem dX10_quickest_36 : decode cX10_quickest 36 = .ok (.getfield 90, 3) := by decide +kernel
theorem dX10_quickest_39 : decode cX10_quickest 39 = .ok (.iload_n 1, 1) := by decide +kernel
theorem dX10_quickest_40 : decode cX10_quickest 40 = .ok (.iconst 0, 1) := by decide +kernel
theorem dX10_quickest_41 : decode cX10_quickest 41 = .ok (.iastore, 1) := by decide +kernel
theorem dX10_quickest_42 : decode cX10_quickest 42 = .ok (.iconst 1, 1) := by decide +kernel
theorem dX10_quickest_43 : decode cX10_quickest 43 = .ok (.istore_n 3, 1) := by decide +kernel
theorem dX10_quickest_44 : decode cX10_quickest 44 = .ok (.iload_n 3, 1) := by decide +kernel
theorem dX10_quickest_45 : decode cX10_quickest 45 = .ok (.bipush 20, 2) := by decide +kernel
theorem dX10_quickest_47 : decode cX10_quickest 47 = .ok (.if_icmp .ge 13, 3) := by decide +kernel
theorem dX10_quickest_50 : decode cX10_quickest 50 = .ok (.aload_n 0, 1) := by decide +kernel
theorem dX10_quickest_51 : decode cX10_quickest 51 = .ok (.invokevirtual 417, 3) := by decide +kernel
theorem dX10_quickest_54 : decode cX10_quickest 54 = .ok (.iinc 3 1, 3) := by decide +kernel
theorem dX10_quickest_57 : decode cX10_quickest 57 = .ok (.goto (-13), 3) := by decide +kernel
theorem dX10_quickest_60 : decode cX10_quickest 60 = .ok (.aload_n 0, 1) := by decide +kernel
theorem dX10_quickest_61 : decode cX10_quickest 61 = .ok (.getfield 90, 3) := by decide +kernel
theorem dX10_quickest_64 : decode cX10_quickest 64 = .ok (.iload_n 2, 1) := by decide +kernel
theorem dX10_quickest_65 : decode cX10_quickest 65 = .ok (.iaload, 1) := by decide +kernel
theorem dX10_quickest_66 : decode cX10_quickest 66 = .ok (.ireturn, 1) := by decide +kernel
theorem cm_X10_quickest : x_CM yX10_quickest cX10_quickest 4 (Option.some FieldType.int) 2 := ⟨w_6_163, w_1_1, by decide +kernel, by decide +kernel⟩
theorem ci_X10_quickest : x_CI yX10_quickest 12 := ⟨w_6_161, w_6_162, (RX10, TX10, 12), rfl, rfl⟩
set_option maxRecDepth 100000 in
set_option maxHeartbeats 4000000 in
theorem bX10_quickest_44 {V : x_J} {ad : Nat → Nat} {Q : Int32 → x_S → x_L → Prop} {QX : x_PE} (Y : x_IsX V cX10_quickest 4 RX10 (Option.some FieldType.int) ad dsX 7 (x_PI Q) QX 2 4) {K44 : Int32 → Int32 → x_S → x_L → Prop} (hK44 : ∀ v2 v3 σ τ, K44 v2 v3 σ τ → V σ τ 44 [(0, .ref (ad 0)), (2, .int v2), (3, .int v3)] []) {v2 : Int32} {v3 : Int32} {σ : x_S} {τ : x_L} (h : wX10_quickest_44 Q QX K44 v2 v3 σ τ) : V σ τ 44 [(0, .ref (ad 0)), (2, .int v2), (3, .int v3)] [] := by
  have X := x_isX Y
  refine x_iload_n X dX10_quickest_44 rfl 2 rfl ?_
  refine x_bipush X dX10_quickest_45 kb_20 ?_
  refine x_icmp_ge X 60 dX10_quickest_47 (by decide) (fun hc => ?_) (fun hc => ?_)
  · have h := h.1 hc
    refine x_aload_n X dX10_quickest_60 rfl 0 rfl ?_
    refine x_getR X (j := 86) dX10_quickest_61 fl_10_90 dsX_0 rfl ?_
    refine x_iload_n X dX10_quickest_64 rfl 1 rfl ?_
    have g65 := h.1
    have h := h.2
    refine x_iald X dX10_quickest_65 dsX_86 g65 ?_
    exact x_iret X dX10_quickest_66 ⟨_, rfl, h⟩
  · have h := h.2 hc
    refine x_aload_n X dX10_quickest_50 rfl 0 rfl ?_
    refine x_callVv X [] [] dX10_quickest_51 (kX10_reachFurther h) cm_X10_reachFurther ci_X10_reachFurther w_6_164 dsX_0 ⟨by decide, by decide⟩ rfl (Nat.le_of_ble_eq_true rfl) (fun σ51 τ51 h => ?_)
    refine x_iinc X (k := 2) (lv' := [(3, .int (v3 + 1)), (0, .ref (ad 0)), (2, .int v2)]) dX10_quickest_54 rfl ki_1 (by decide) rfl ?_
    refine x_goto X (tgt := 44) dX10_quickest_57 (by decide) ?_
    refine x_sub X [1, 2, 0] (lv' := [(0, .ref (ad 0)), (2, .int v2), (3, .int (v3 + 1))]) rfl ?_
    exact hK44 _ _ _ _ h
set_option maxRecDepth 100000 in
set_option maxHeartbeats 4000000 in
theorem bX10_quickest_16 {V : x_J} {ad : Nat → Nat} {Q : Int32 → x_S → x_L → Prop} {QX : x_PE} (Y : x_IsX V cX10_quickest 4 RX10 (Option.some FieldType.int) ad dsX 7 (x_PI Q) QX 2 4) {K16 : Int32 → Int32 → Int32 → x_S → x_L → Prop} (hK16 : ∀ v1 v2 v3 σ τ, K16 v1 v2 v3 σ τ → V σ τ 16 [(0, .ref (ad 0)), (1, .int v1), (2, .int v2), (3, .int v3)] []) {v1 : Int32} {v2 : Int32} {v3 : Int32} {σ : x_S} {τ : x_L} (h : wX10_quickest_16 Q QX K16 v1 v2 v3 σ τ) : V σ τ 16 [(0, .ref (ad 0)), (1, .int v1), (2, .int v2), (3, .int v3)] [] := by
  have X := x_isX Y
  refine x_iload_n X dX10_quickest_16 rfl 3 rfl ?_
  refine x_bipush X dX10_quickest_17 kb_20 ?_
  refine x_icmp_ge X 35 dX10_quickest_19 (by decide) (fun hc => ?_) (fun hc => ?_)
  · have h := h.1 hc
    refine x_aload_n X dX10_quickest_35 rfl 0 rfl ?_
    refine x_getR X (j := 86) dX10_quickest_36 fl_10_90 dsX_0 rfl ?_
    refine x_iload_n X dX10_quickest_39 rfl 1 rfl ?_
    refine x_iconst X dX10_quickest_40 ki_0 ?_
    have g41 := h.1
    have h := h.2
    refine x_iast X dX10_quickest_41 dsX_86 g41 ?_
    refine x_iconst X dX10_quickest_42 ki_1 ?_
    refine x_istore_n X (lv' := [(3, .int 1), (0, .ref (ad 0)), (1, .int v1), (2, .int v2)]) dX10_quickest_43 rfl (by decide) rfl ?_
    refine x_sub X [1, 3, 0] (lv' := [(0, .ref (ad 0)), (2, .int v2), (3, .int 1)]) rfl ?_
    exact x_l2_G (fun v2 v3 σ τ => V σ τ 44 [(0, .ref (ad 0)), (2, .int v2), (3, .int v3)] []) (fun K44 hK44 v2 v3 σ τ h => bX10_quickest_44 Y hK44 h) h
  · have h := h.2 hc
    refine x_aload_n X dX10_quickest_22 rfl 0 rfl ?_
    refine x_getR X (j := 86) dX10_quickest_23 fl_10_90 dsX_0 rfl ?_
    refine x_iload_n X dX10_quickest_26 rfl 3 rfl ?_
    refine x_iconst X dX10_quickest_27 ki_m1 ?_
    have g28 := h.1
    have h := h.2
    refine x_iast X dX10_quickest_28 dsX_86 g28 ?_
    refine x_iinc X (k := 3) (lv' := [(3, .int (v3 + 1)), (0, .ref (ad 0)), (1, .int v1), (2, .int v2)]) dX10_quickest_29 rfl ki_1 (by decide) rfl ?_
    refine x_goto X (tgt := 16) dX10_quickest_32 (by decide) ?_
    refine x_sub X [1, 2, 3, 0] (lv' := [(0, .ref (ad 0)), (1, .int v1), (2, .int v2), (3, .int (v3 + 1))]) rfl ?_
    exact hK16 _ _ _ _ _ h
set_option maxRecDepth 100000 in
set_option maxHeartbeats 4000000 in
theorem kX10_quickest {ad : Nat → Nat} {a1 : Int32} {a2 : Int32} {σ : x_S} {τ : x_L} {Q : Int32 → x_S → x_L → Prop} {QX : x_PE} (h : wX10_quickest a1 a2 σ τ Q QX) : x_MetX yX10_quickest cX10_quickest 4 (Option.some FieldType.int) 7 4 ad dsX [.ref (ad 0), .int a1, .int a2] σ τ (x_PI Q) QX := by
  refine x_metX (by decide +kernel) (Nat.le_of_ble_eq_true rfl) (fun V Y => ?_)
  have Y : x_IsX V cX10_quickest 4 RX10 (Option.some FieldType.int) ad dsX 7 (x_PI Q) QX 0 4 := Y
  have X := x_isX Y
  show V σ τ 0 [(0, .ref (ad 0)), (1, .int a1), (2, .int a2)] []
  refine x_iload_n X dX10_quickest_0 rfl 1 rfl ?_
  refine x_iconst X dX10_quickest_1 ki_0 ?_
  refine x_bipush X dX10_quickest_2 kb_19 ?_
  refine x_callSXv Y [.int a1, .int 0, .int 19] [] dX10_quickest_4 (kX10_checkRange h) cm_X10_checkRange w_5_183 rfl w_5_182 ⟨by decide, by decide⟩ (by decide) rfl (Nat.le_of_ble_eq_true rfl) (fun V σ4 τ4 Y h => ?_)
  have X := x_isX Y
  refine x_iload_n X dX10_quickest_7 rfl 2 rfl ?_
  refine x_iconst X dX10_quickest_8 ki_0 ?_
  refine x_bipush X dX10_quickest_9 kb_19 ?_
  refine x_callSXv Y [.int a2, .int 0, .int 19] [] dX10_quickest_11 (kX10_checkRange h) cm_X10_checkRange w_5_183 rfl w_5_182 ⟨by decide, by decide⟩ (by decide) rfl (Nat.le_of_ble_eq_true rfl) (fun V σ11 τ11 Y h => ?_)
  have X := x_isX Y
  refine x_iconst X dX10_quickest_14 ki_0 ?_
  refine x_istore_n X (lv' := [(3, .int 0), (0, .ref (ad 0)), (1, .int a1), (2, .int a2)]) dX10_quickest_15 rfl (by decide) rfl ?_
  refine x_sub X [1, 2, 3, 0] (lv' := [(0, .ref (ad 0)), (1, .int a1), (2, .int a2), (3, .int 0)]) rfl ?_
  exact x_l3_G (fun v1 v2 v3 σ τ => V σ τ 16 [(0, .ref (ad 0)), (1, .int v1), (2, .int v2), (3, .int v3)] []) (fun K16 hK16 v1 v2 v3 σ τ h => bX10_quickest_16 Y hK16 h) h
theorem dX10_write_0 : decode cX10_write 0 = .ok (.aload_n 0, 1) := by decide +kernel
theorem dX10_write_1 : decode cX10_write 1 = .ok (.iload_n 1, 1) := by decide +kernel
theorem dX10_write_2 : decode cX10_write 2 = .ok (.invokevirtual 209, 3) := by decide +kernel
theorem dX10_write_5 : decode cX10_write 5 = .ok (.aload_n 0, 1) := by decide +kernel
theorem dX10_write_6 : decode cX10_write 6 = .ok (.getfield 86, 3) := by decide +kernel
theorem dX10_write_9 : decode cX10_write 9 = .ok (.iconst 0, 1) := by decide +kernel
theorem dX10_write_10 : decode cX10_write 10 = .ok (.putfield 420, 3) := by decide +kernel
theorem dX10_write_13 : decode cX10_write 13 = .ok (.iconst 0, 1) := by decide +kernel
theorem dX10_write_14 : decode cX10_write 14 = .ok (.istore_n 2, 1) := by decide +kernel
theorem dX10_write_15 : decode cX10_write 15 = .ok (.iload_n 2, 1) := by decide +kernel
theorem dX10_write_16 : decode cX10_write 16 = .ok (.aload_n 0, 1) := by decide +kernel
theorem dX10_write_17 : decode cX10_write 17 = .ok (.getfield 19, 3) := by decide +kernel
theorem dX10_write_20 : decode cX10_write 20 = .ok (.getfield 221, 3) := by decide +kernel
theorem dX10_write_23 : decode cX10_write 23 = .ok (.iload_n 1, 1) := by decide +kernel
theorem dX10_write_24 : decode cX10_write 24 = .ok (.iaload, 1) := by decide +kernel
theorem dX10_write_25 : decode cX10_write 25 = .ok (.if_icmp .ge 105, 3) := by decide +kernel
theorem dX10_write_28 : decode cX10_write 28 = .ok (.iload_n 1, 1) := by decide +kernel
theorem dX10_write_29 : decode cX10_write 29 = .ok (.iload_n 2, 1) := by decide +kernel
theorem dX10_write_30 : decode cX10_write 30 = .ok (.invokestatic 243, 3) := by decide +kernel
theorem dX10_write_33 : decode cX10_write 33 = .ok (.istore_n 3, 1) := by decide +kernel
theorem dX10_write_34 : decode cX10_write 34 = .ok (.iload_n 2, 1) := by decide +kernel
theorem dX10_write_35 : decode cX10_write 35 = .ok (.ifCond .le 12, 3) := by decide +kernel
theorem dX10_write_38 : decode cX10_write 38 = .ok (.aload_n 0, 1) := by decide +kernel
theorem dX10_write_39 : decode cX10_write 39 = .ok (.getfield 86, 3) := by decide +kernel
theorem dX10_write_42 : decode cX10_write 42 = .ok (.bipush 32, 2) := by decide +kernel
theorem dX10_write_44 : decode cX10_write 44 = .ok (.invokevirtual 421, 3) := by decide +kernel
theorem dX10_write_47 : decode cX10_write 47 = .ok (.aload_n 0, 1) := by decide +kernel
theorem dX10_write_48 : decode cX10_write 48 = .ok (.getfield 86, 3) := by decide +kernel
theorem dX10_write_51 : decode cX10_write 51 = .ok (.aload_n 0, 1) := by decide +kernel
theorem dX10_write_52 : decode cX10_write 52 = .ok (.getfield 51, 3) := by decide +kernel
theorem dX10_write_55 : decode cX10_write 55 = .ok (.getfield 258, 3) := by decide +kernel
theorem dX10_write_58 : decode cX10_write 58 = .ok (.iload_n 3, 1) := by decide +kernel
theorem dX10_write_59 : decode cX10_write 59 = .ok (.iaload, 1) := by decide +kernel
theorem dX10_write_60 : decode cX10_write 60 = .ok (.invokevirtual 424, 3) := by decide +kernel
theorem dX10_write_63 : decode cX10_write 63 = .ok (.aload_n 0, 1) := by decide +kernel
theorem dX10_write_64 : decode cX10_write 64 = .ok (.getfield 86, 3) := by decide +kernel
theorem dX10_write_67 : decode cX10_write 67 = .ok (.bipush 45, 2) := by decide +kernel
theorem dX10_write_69 : decode cX10_write 69 = .ok (.invokevirtual 421, 3) := by decide +kernel
theorem dX10_write_72 : decode cX10_write 72 = .ok (.aload_n 0, 1) := by decide +kernel
theorem dX10_write_73 : decode cX10_write 73 = .ok (.getfield 86, 3) := by decide +kernel
theorem dX10_write_76 : decode cX10_write 76 = .ok (.aload_n 0, 1) := by decide +kernel
theorem dX10_write_77 : decode cX10_write 77 = .ok (.getfield 51, 3) := by decide +kernel
theorem dX10_write_80 : decode cX10_write 80 = .ok (.getfield 261, 3) := by decide +kernel
theorem dX10_write_83 : decode cX10_write 83 = .ok (.iload_n 3, 1) := by decide +kernel
theorem dX10_write_84 : decode cX10_write 84 = .ok (.iaload, 1) := by decide +kernel
theorem dX10_write_85 : decode cX10_write 85 = .ok (.invokevirtual 424, 3) := by decide +kernel
theorem dX10_write_88 : decode cX10_write 88 = .ok (.aload_n 0, 1) := by decide +kernel
theorem dX10_write_89 : decode cX10_write 89 = .ok (.getfield 51, 3) := by decide +kernel
theorem dX10_write_92 : decode cX10_write 92 = .ok (.iload_n 3, 1) := by decide +kernel
theorem dX10_write_93 : decode cX10_write 93 = .ok (.invokevirtual 177, 3) := by decide +kernel
theorem dX10_write_96 : decode cX10_write 96 = .ok (.ifCond .eq 28, 3) := by decide +kernel
theorem dX10_write_99 : decode cX10_write 99 = .ok (.aload_n 0, 1) := by decide +kernel
theorem dX10_write_100 : decode cX10_write 100 = .ok (.getfield 86, 3) := by decide +kernel
theorem dX10_write_103 : decode cX10_write 103 = .ok (.bipush 42, 2) := by decide +kernel
theorem dX10_write_105 : decode cX10_write 105 = .ok (.invokevirtual 421, 3) := by decide +kernel
theorem dX10_write_108 : decode cX10_write 108 = .ok (.aload_n 0, 1) := by decide +kernel
theorem dX10_write_109 : decode cX10_write 109 = .ok (.getfield 86, 3) := by decide +kernel
theorem dX10_write_112 : decode cX10_write 112 = .ok (.aload_n 0, 1) := by decide +kernel
theorem dX10_write_113 : decode cX10_write 113 = .ok (.getfield 51, 3) := by decide +kernel
theorem dX10_write_116 : decode cX10_write 116 = .ok (.getfield 174, 3) := by decide +kernel
theorem dX10_write_119 : decode cX10_write 119 = .ok (.iload_n 3, 1) := by decide +kernel
theorem dX10_write_120 : decode cX10_write 120 = .ok (.iaload, 1) := by decide +kernel
theorem dX10_write_121 : decode cX10_write 121 = .ok (.invokevirtual 424, 3) := by decide +kernel
theorem dX10_write_124 : decode cX10_write 124 = .ok (.iinc 2 1, 3) := by decide +kernel
theorem dX10_write_127 : decode cX10_write 127 = .ok (.goto (-112), 3) := by decide +kernel
theorem dX10_write_130 : decode cX10_write 130 = .ok (.aload_n 0, 1) := by decide +kernel
theorem dX10_write_131 : decode cX10_write 131 = .ok (.getfield 86, 3) := by decide +kernel
theorem dX10_write_134 : decode cX10_write 134 = .ok (.getfield 420, 3) := by decide +kernel
theorem dX10_write_137 : decode cX10_write 137 = .ok (.ireturn, 1) := by decide +kernel
theorem cm_X10_write : x_CM yX10_write cX10_write 4 (Option.some FieldType.int) 1 := ⟨w_6_174, w_1_1, by decide +kernel, by decide +kernel⟩
theorem ci_X10_write : x_CI yX10_write 12 := ⟨w_6_172, w_6_173, (RX10, TX10, 12), rfl, rfl⟩
set_option maxRecDepth 100000 in
set_option maxHeartbeats 4000000 in
theorem bX10_write_124 {V : x_J} {ad : Nat → Nat} {Q : Int32 → x_S → x_L → Prop} {QX : x_PE} (Y : x_IsX V cX10_write 4 RX10 (Option.some FieldType.int) ad dsX 7 (x_PI Q) QX 1 4) {K15 : Int32 → Int32 → x_S → x_L → Prop} (hK15 : ∀ v1 v2 σ τ, K15 v1 v2 σ τ → V σ τ 15 [(0, .ref (ad 0)), (1, .int v1), (2, .int v2)] []) {v1 : Int32} {v2 : Int32} {σ : x_S} {τ : x_L} (h : wX10_write_124 K15 Q QX v1 v2 σ τ) : V σ τ 124 [(0, .ref (ad 0)), (1, .int v1), (2, .int v2)] [] := by
  have X := x_isX Y
  refine x_iinc X (k := 2) (lv' := [(2, .int (v2 + 1)), (0, .ref (ad 0)), (1, .int v1)]) dX10_write_124 rfl ki_1 (by decide) rfl ?_
  refine x_goto X (tgt := 15) dX10_write_127 (by decide) ?_
  refine x_sub X [1, 2, 0] (lv' := [(0, .ref (ad 0)), (1, .int v1), (2, .int (v2 + 1))]) rfl ?_
  exact hK15 _ _ _ _ h
set_option maxRecDepth 100000 in
set_option maxHeartbeats 4000000 in
theorem bX10_write_47 {V : x_J} {ad : Nat → Nat} {Q : Int32 → x_S → x_L → Prop} {QX : x_PE} (Y : x_IsX V cX10_write 4 RX10 (Option.some FieldType.int) ad dsX 7 (x_PI Q) QX 1 4) {K15 : Int32 → Int32 → x_S → x_L → Prop} (hK15 : ∀ v1 v2 σ τ, K15 v1 v2 σ τ → V σ τ 15 [(0, .ref (ad 0)), (1, .int v1), (2, .int v2)] []) {v1 : Int32} {v2 : Int32} {v3 : Int32} {σ : x_S} {τ : x_L} (h : wX10_write_47 K15 Q QX v1 v2 v3 σ τ) : V σ τ 47 [(0, .ref (ad 0)), (1, .int v1), (2, .int v2), (3, .int v3)] [] := by
  have X := x_isX Y
  refine x_aload_n X dX10_write_47 rfl 0 rfl ?_
  refine x_getR X (j := 84) dX10_write_48 fl_10_86 dsX_0 rfl ?_
  refine x_aload_n X dX10_write_51 rfl 0 rfl ?_
  refine x_getR X (j := 33) dX10_write_52 fl_10_51 dsX_0 rfl ?_
  refine x_getR X (j := 37) dX10_write_55 fl_10_258 dsX_33 rfl ?_
  refine x_iload_n X dX10_write_58 rfl 3 rfl ?_
  have g59 := h.1
  have h := h.2
  refine x_iald X dX10_write_59 dsX_37 g59 ?_
  refine x_callVv X [.int (σ 37 v3.toNatClampNeg)] [] dX10_write_60 (kX5_putNumber h) cm_X5_putNumber ci_X5_putNumber w_6_179 dsX_84 ⟨by decide, by decide⟩ rfl (Nat.le_of_ble_eq_true rfl) (fun σ60 τ60 h => ?_)
  refine x_aload_n X dX10_write_63 rfl 0 rfl ?_
  refine x_getR X (j := 84) dX10_write_64 fl_10_86 dsX_0 rfl ?_
  refine x_bipush X dX10_write_67 kb_45 ?_
  refine x_callVv X [.int 45] [] dX10_write_69 (kX5_put h) cm_X5_put ci_X5_put w_6_175 dsX_84 ⟨by decide, by decide⟩ rfl (Nat.le_of_ble_eq_true rfl) (fun σ69 τ69 h => ?_)
  refine x_aload_n X dX10_write_72 rfl 0 rfl ?_
  refine x_getR X (j := 84) dX10_write_73 fl_10_86 dsX_0 rfl ?_
  refine x_aload_n X dX10_write_76 rfl 0 rfl ?_
  refine x_getR X (j := 33) dX10_write_77 fl_10_51 dsX_0 rfl ?_
  refine x_getR X (j := 38) dX10_write_80 fl_10_261 dsX_33 rfl ?_
  refine x_iload_n X dX10_write_83 rfl 3 rfl ?_
  refine x_iald X dX10_write_84 dsX_38 g59 ?_
  refine x_callVv X [.int (σ69 38 v3.toNatClampNeg)] [] dX10_write_85 (kX5_putNumber h) cm_X5_putNumber ci_X5_putNumber w_6_179 dsX_84 ⟨by decide, by decide⟩ rfl (Nat.le_of_ble_eq_true rfl) (fun σ85 τ85 h => ?_)
  refine x_aload_n X dX10_write_88 rfl 0 rfl ?_
  refine x_getR X (j := 33) dX10_write_89 fl_10_51 dsX_0 rfl ?_
  refine x_iload_n X dX10_write_92 rfl 3 rfl ?_
  refine x_callVi X [.int v3] [] dX10_write_93 (kX6_inCompany x_pl33 h) cm_X6_inCompany ci_X6_inCompany w_3_178 dsX_33 ⟨by decide, by decide⟩ rfl (Nat.le_of_ble_eq_true rfl) (fun r93 σ93 τ93 h => ?_)
  refine x_if_eq X 124 dX10_write_96 (by decide) (fun hc => ?_) (fun hc => ?_)
  · have h := h.1 hc
    refine x_sub X [0, 1, 2] (lv' := [(0, .ref (ad 0)), (1, .int v1), (2, .int v2)]) rfl ?_
    exact bX10_write_124 Y hK15 h
  · have h := h.2 hc
    refine x_aload_n X dX10_write_99 rfl 0 rfl ?_
    refine x_getR X (j := 84) dX10_write_100 fl_10_86 dsX_0 rfl ?_
    refine x_bipush X dX10_write_103 kb_42 ?_
    refine x_callVv X [.int 42] [] dX10_write_105 (kX5_put h) cm_X5_put ci_X5_put w_6_175 dsX_84 ⟨by decide, by decide⟩ rfl (Nat.le_of_ble_eq_true rfl) (fun σ105 τ105 h => ?_)
    refine x_aload_n X dX10_write_108 rfl 0 rfl ?_
    refine x_getR X (j := 84) dX10_write_109 fl_10_86 dsX_0 rfl ?_
    refine x_aload_n X dX10_write_112 rfl 0 rfl ?_
    refine x_getR X (j := 33) dX10_write_113 fl_10_51 dsX_0 rfl ?_
    refine x_getR X (j := 41) dX10_write_116 fl_10_174 dsX_33 rfl ?_
    refine x_iload_n X dX10_write_119 rfl 3 rfl ?_
    refine x_iald X dX10_write_120 dsX_41 g59 ?_
    refine x_callVv X [.int (σ105 41 v3.toNatClampNeg)] [] dX10_write_121 (kX5_putNumber h) cm_X5_putNumber ci_X5_putNumber w_6_179 dsX_84 ⟨by decide, by decide⟩ rfl (Nat.le_of_ble_eq_true rfl) (fun σ121 τ121 h => ?_)
    refine x_sub X [0, 1, 2] (lv' := [(0, .ref (ad 0)), (1, .int v1), (2, .int v2)]) rfl ?_
    exact bX10_write_124 Y hK15 h
set_option maxRecDepth 100000 in
set_option maxHeartbeats 4000000 in
theorem bX10_write_15 {V : x_J} {ad : Nat → Nat} {Q : Int32 → x_S → x_L → Prop} {QX : x_PE} (Y : x_IsX V cX10_write 4 RX10 (Option.some FieldType.int) ad dsX 7 (x_PI Q) QX 1 4) {K15 : Int32 → Int32 → x_S → x_L → Prop} (hK15 : ∀ v1 v2 σ τ, K15 v1 v2 σ τ → V σ τ 15 [(0, .ref (ad 0)), (1, .int v1), (2, .int v2)] []) {v1 : Int32} {v2 : Int32} {σ : x_S} {τ : x_L} (h : wX10_write_15 Q QX K15 v1 v2 σ τ) : V σ τ 15 [(0, .ref (ad 0)), (1, .int v1), (2, .int v2)] [] := by
  have X := x_isX Y
  refine x_iload_n X dX10_write_15 rfl 2 rfl ?_
  refine x_aload_n X dX10_write_16 rfl 0 rfl ?_
  refine x_getR X (j := 3) dX10_write_17 fl_10_19 dsX_0 rfl ?_
  refine x_getR X (j := 11) dX10_write_20 fl_10_221 dsX_3 rfl ?_
  refine x_iload_n X dX10_write_23 rfl 1 rfl ?_
  have g24 := h.1
  have h := h.2
  refine x_iald X dX10_write_24 dsX_11 g24 ?_
  refine x_icmp_ge X 130 dX10_write_25 (by decide) (fun hc => ?_) (fun hc => ?_)
  · have h := h.1 hc
    refine x_aload_n X dX10_write_130 rfl 0 rfl ?_
    refine x_getR X (j := 84) dX10_write_131 fl_10_86 dsX_0 rfl ?_
    refine x_getI X dX10_write_134 fl_10_420 dsX_84 rfl ?_
    exact x_iret X dX10_write_137 ⟨_, rfl, h⟩
  · have h := h.2 hc
    refine x_iload_n X dX10_write_28 rfl 1 rfl ?_
    refine x_iload_n X dX10_write_29 rfl 2 rfl ?_
    refine x_callSi X [.int v1, .int v2] [] dX10_write_30 (kX10_stopAt h) cm_X10_stopAt w_3_60 rfl w_4_107 ⟨by decide, by decide⟩ rfl (Nat.le_of_ble_eq_true rfl) (fun r30 σ30 τ30 h => ?_)
    refine x_istore_n X (lv' := [(3, .int r30), (0, .ref (ad 0)), (1, .int v1), (2, .int v2)]) dX10_write_33 rfl (by decide) rfl ?_
    refine x_iload_n X dX10_write_34 rfl 3 rfl ?_
    refine x_if_le X 47 dX10_write_35 (by decide) (fun hc => ?_) (fun hc => ?_)
    · have h := h.1 hc
      refine x_sub X [1, 2, 3, 0] (lv' := [(0, .ref (ad 0)), (1, .int v1), (2, .int v2), (3, .int r30)]) rfl ?_
      exact bX10_write_47 Y hK15 h
    · have h := h.2 hc
      refine x_aload_n X dX10_write_38 rfl 1 rfl ?_
      refine x_getR X (j := 84) dX10_write_39 fl_10_86 dsX_0 rfl ?_
      refine x_bipush X dX10_write_42 kb_32 ?_
      refine x_callVv X [.int 32] [] dX10_write_44 (kX5_put h) cm_X5_put ci_X5_put w_6_175 dsX_84 ⟨by decide, by decide⟩ rfl (Nat.le_of_ble_eq_true rfl) (fun σ44 τ44 h => ?_)
      refine x_sub X [1, 2, 3, 0] (lv' := [(0, .ref (ad 0)), (1, .int v1), (2, .int v2), (3, .int r30)]) rfl ?_
      exact bX10_write_47 Y hK15 h
set_option maxRecDepth 100000 in
set_option maxHeartbeats 4000000 in
theorem kX10_write {ad : Nat → Nat} {a1 : Int32} {σ : x_S} {τ : x_L} {Q : Int32 → x_S → x_L → Prop} {QX : x_PE} (h : wX10_write a1 σ τ Q QX) : x_MetX yX10_write cX10_write 4 (Option.some FieldType.int) 7 4 ad dsX [.ref (ad 0), .int a1] σ τ (x_PI Q) QX := by
  refine x_metX (by decide +kernel) (Nat.le_of_ble_eq_true rfl) (fun V Y => ?_)
  have Y : x_IsX V cX10_write 4 RX10 (Option.some FieldType.int) ad dsX 7 (x_PI Q) QX 0 4 := Y
  have X := x_isX Y
  show V σ τ 0 [(0, .ref (ad 0)), (1, .int a1)] []
  refine x_aload_n X dX10_write_0 rfl 0 rfl ?_
  refine x_iload_n X dX10_write_1 rfl 1 rfl ?_
  refine x_callVXv Y [.int a1] [] dX10_write_2 (kX10_checkTruck h) cm_X10_checkTruck ci_X10_checkTruck w_5_57 dsX_0 ⟨by decide, by decide⟩ (by decide) rfl (Nat.le_of_ble_eq_true rfl) (fun V σ2 τ2 Y h => ?_)
  have X := x_isX Y
  refine x_aload_n X dX10_write_5 rfl 0 rfl ?_
  refine x_getR X (j := 84) dX10_write_6 fl_10_86 dsX_0 rfl ?_
  refine x_iconst X dX10_write_9 ki_0 ?_
  refine x_putI X dX10_write_10 fl_10_420 ft_5_1 dsX_84 rfl ?_
  refine x_iconst X dX10_write_13 ki_0 ?_
  refine x_istore_n X (lv' := [(2, .int 0), (0, .ref (ad 0)), (1, .int a1)]) dX10_write_14 rfl (by decide) rfl ?_
  refine x_sub X [1, 2, 0] (lv' := [(0, .ref (ad 0)), (1, .int a1), (2, .int 0)]) rfl ?_
  exact x_l2_G (fun v1 v2 σ τ => V σ τ 15 [(0, .ref (ad 0)), (1, .int v1), (2, .int v2)] []) (fun K15 hK15 v1 v2 σ τ h => bX10_write_15 Y hK15 h) h
theorem dX10_outputByte_0 : decode cX10_outputByte 0 = .ok (.iload_n 1, 1) := by decide +kernel
theorem dX10_outputByte_1 : decode cX10_outputByte 1 = .ok (.ifCond .lt 26, 3) := by decide +kernel
theorem dX10_outputByte_4 : decode cX10_outputByte 4 = .ok (.iload_n 1, 1) := by decide +kernel
theorem dX10_outputByte_5 : decode cX10_outputByte 5 = .ok (.aload_n 0, 1) := by decide +kernel
theorem dX10_outputByte_6 : decode cX10_outputByte 6 = .ok (.getfield 86, 3) := by decide +kernel
theorem dX10_outputByte_9 : decode cX10_outputByte 9 = .ok (.getfield 420, 3) := by decide +kernel
theorem dX10_outputByte_12 : decode cX10_outputByte 12 = .ok (.if_icmp .ge 15, 3) := by decide +kernel
theorem dX10_outputByte_15 : decode cX10_outputByte 15 = .ok (.aload_n 0, 1) := by decide +kernel
theorem dX10_outputByte_16 : decode cX10_outputByte 16 = .ok (.getfield 86, 3) := by decide +kernel
theorem dX10_outputByte_19 : decode cX10_outputByte 19 = .ok (.getfield 427, 3) := by decide +kernel
theorem dX10_outputByte_22 : decode cX10_outputByte 22 = .ok (.iload_n 1, 1) := by decide +kernel
theorem dX10_outputByte_23 : decode cX10_outputByte 23 = .ok (.baload, 1) := by decide +kernel
theorem dX10_outputByte_24 : decode cX10_outputByte 24 = .ok (.goto 4, 3) := by decide +kernel
theorem dX10_outputByte_27 : decode cX10_outputByte 27 = .ok (.iconst (-1), 1) := by decide +kernel
theorem dX10_outputByte_28 : decode cX10_outputByte 28 = .ok (.ireturn, 1) := by decide +kernel
theorem cm_X10_outputByte : x_CM yX10_outputByte cX10_outputByte 2 (Option.some FieldType.int) 1 := ⟨w_4_48, w_1_1, by decide +kernel, by decide +kernel⟩
theorem ci_X10_outputByte : x_CI yX10_outputByte 12 := ⟨w_4_46, w_4_47, (RX10, TX10, 12), rfl, rfl⟩
set_option maxRecDepth 100000 in
set_option maxHeartbeats 4000000 in
theorem bX10_outputByte_28 {V : x_J} {ad : Nat → Nat} {Q : Int32 → x_S → x_L → Prop} (X : x_Is V cX10_outputByte 2 RX10 (Option.some FieldType.int) ad dsX 0 (x_PI Q)) {s0 : Int32} {σ : x_S} {τ : x_L} (h : wX10_outputByte_28 Q s0 σ τ) : V σ τ 28 [] [.int s0] := by
  exact x_iret X dX10_outputByte_28 ⟨_, rfl, h⟩
set_option maxRecDepth 100000 in
set_option maxHeartbeats 4000000 in
theorem bX10_outputByte_27 {V : x_J} {ad : Nat → Nat} {Q : Int32 → x_S → x_L → Prop} (X : x_Is V cX10_outputByte 2 RX10 (Option.some FieldType.int) ad dsX 0 (x_PI Q)) {σ : x_S} {τ : x_L} (h : wX10_outputByte_27 Q σ τ) : V σ τ 27 [] [] := by
  refine x_iconst X dX10_outputByte_27 ki_m1 ?_
  exact bX10_outputByte_28 X h
set_option maxRecDepth 100000 in
set_option maxHeartbeats 4000000 in
theorem kX10_outputByte {ad : Nat → Nat} {a1 : Int32} {σ : x_S} {τ : x_L} {Q : Int32 → x_S → x_L → Prop} (h : wX10_outputByte a1 σ τ Q) : x_Met yX10_outputByte cX10_outputByte 2 (Option.some FieldType.int) 0 ad dsX [.ref (ad 0), .int a1] σ τ (x_PI Q) := by
  refine x_met (by decide +kernel) (Nat.le_of_ble_eq_true rfl) (fun V X => ?_)
  have X : x_Is V cX10_outputByte 2 RX10 (Option.some FieldType.int) ad dsX 0 (x_PI Q) := X
  show V σ τ 0 [(0, .ref (ad 0)), (1, .int a1)] []
  refine x_iload_n X dX10_outputByte_0 rfl 1 rfl ?_
  refine x_if_lt X 27 dX10_outputByte_1 (by decide) (fun hc => ?_) (fun hc => ?_)
  · have h := h.1 hc
    refine x_sub X [] (lv' := []) rfl ?_
    exact bX10_outputByte_27 X h
  · have h := h.2 hc
    refine x_iload_n X dX10_outputByte_4 rfl 1 rfl ?_
    refine x_aload_n X dX10_outputByte_5 rfl 0 rfl ?_
    refine x_getR X (j := 84) dX10_outputByte_6 fl_10_86 dsX_0 rfl ?_
    refine x_getI X dX10_outputByte_9 fl_10_420 dsX_84 rfl ?_
    refine x_icmp_ge X 27 dX10_outputByte_12 (by decide) (fun hc => ?_) (fun hc => ?_)
    · have h := h.1 hc
      refine x_sub X [] (lv' := []) rfl ?_
      exact bX10_outputByte_27 X h
    · have h := h.2 hc
      refine x_aload_n X dX10_outputByte_15 rfl 0 rfl ?_
      refine x_getR X (j := 84) dX10_outputByte_16 fl_10_86 dsX_0 rfl ?_
      refine x_getR X (j := 85) dX10_outputByte_19 fl_10_427 dsX_84 rfl ?_
      refine x_iload_n X dX10_outputByte_22 rfl 1 rfl ?_
      have g23 := h.1
      have h := h.2
      refine x_bald X dX10_outputByte_23 dsX_85 g23 ?_
      refine x_goto X (tgt := 28) dX10_outputByte_24 (by decide) ?_
      refine x_sub X [] (lv' := []) rfl ?_
      exact bX10_outputByte_28 X h
theorem dX10_performSpeed_0 : decode cX10_performSpeed 0 = .ok (.aload_n 0, 1) := by decide +kernel
theorem dX10_performSpeed_1 : decode cX10_performSpeed 1 = .ok (.getfield 19, 3) := by decide +kernel
theorem dX10_performSpeed_4 : decode cX10_performSpeed 4 = .ok (.iload_n 1, 1) := by decide +kernel
theorem dX10_performSpeed_5 : decode cX10_performSpeed 5 = .ok (.iload_n 2, 1) := by decide +kernel
theorem dX10_performSpeed_6 : decode cX10_performSpeed 6 = .ok (.invokevirtual 454, 3) := by decide +kernel
theorem dX10_performSpeed_9 : decode cX10_performSpeed 9 = .ok (.ifCond .eq 28, 3) := by decide +kernel
theorem dX10_performSpeed_12 : decode cX10_performSpeed 12 = .ok (.iload_n 3, 1) := by decide +kernel
theorem dX10_performSpeed_13 : decode cX10_performSpeed 13 = .ok (.aload_n 0, 1) := by decide +kernel
theorem dX10_performSpeed_14 : decode cX10_performSpeed 14 = .ok (.getfield 19, 3) := by decide +kernel
theorem dX10_performSpeed_17 : decode cX10_performSpeed 17 = .ok (.getfield 200, 3) := by decide +kernel
theorem dX10_performSpeed_20 : decode cX10_performSpeed 20 = .ok (.aload_n 0, 1) := by decide +kernel
theorem dX10_performSpeed_21 : decode cX10_performSpeed 21 = .ok (.getfield 19, 3) := by decide +kernel
theorem dX10_performSpeed_24 : decode cX10_performSpeed 24 = .ok (.getfield 246, 3) := by decide +kernel
theorem dX10_performSpeed_27 : decode cX10_performSpeed 27 = .ok (.iload_n 1, 1) := by decide +kernel
theorem dX10_performSpeed_28 : decode cX10_performSpeed 28 = .ok (.iload_n 2, 1) := by decide +kernel
theorem dX10_performSpeed_29 : decode cX10_performSpeed 29 = .ok (.invokestatic 243, 3) := by decide +kernel
theorem dX10_performSpeed_32 : decode cX10_performSpeed 32 = .ok (.iaload, 1) := by decide +kernel
theorem dX10_performSpeed_33 : decode cX10_performSpeed 33 = .ok (.iaload, 1) := by decide +kernel
theorem dX10_performSpeed_34 : decode cX10_performSpeed 34 = .ok (.if_icmp .le 5, 3) := by decide +kernel
theorem dX10_performSpeed_37 : decode cX10_performSpeed 37 = .ok (.iconst 0, 1) := by decide +kernel
theorem dX10_performSpeed_38 : decode cX10_performSpeed 38 = .ok (.ireturn, 1) := by decide +kernel
theorem dX10_performSpeed_39 : decode cX10_performSpeed 39 = .ok (.aload_n 0, 1) := by decide +kernel
theorem dX10_performSpeed_40 : decode cX10_performSpeed 40 = .ok (.iload_n 1, 1) := by decide +kernel
theorem dX10_performSpeed_41 : decode cX10_performSpeed 41 = .ok (.iload_n 2, 1) := by decide +kernel
theorem dX10_performSpeed_42 : decode cX10_performSpeed 42 = .ok (.invokestatic 243, 3) := by decide +kernel
theorem dX10_performSpeed_45 : decode cX10_performSpeed 45 = .ok (.iload_n 3, 1) := by decide +kernel
theorem dX10_performSpeed_46 : decode cX10_performSpeed 46 = .ok (.invokevirtual 342, 3) := by decide +kernel
theorem dX10_performSpeed_49 : decode cX10_performSpeed 49 = .ok (.pop, 1) := by decide +kernel
theorem dX10_performSpeed_50 : decode cX10_performSpeed 50 = .ok (.iconst 1, 1) := by decide +kernel
theorem dX10_performSpeed_51 : decode cX10_performSpeed 51 = .ok (.ireturn, 1) := by decide +kernel
theorem cm_X10_performSpeed : x_CM yX10_performSpeed cX10_performSpeed 4 (Option.some FieldType.boolean) 3 := ⟨w_4_115, w_1_1, by decide +kernel, by decide +kernel⟩
theorem ci_X10_performSpeed : x_CI yX10_performSpeed 12 := ⟨w_4_114, wp_26, (RX10, TX10, 12), rfl, rfl⟩
set_option maxRecDepth 100000 in
set_option maxHeartbeats 4000000 in
theorem bX10_performSpeed_37 {V : x_J} {ad : Nat → Nat} {Q : Int32 → x_S → x_L → Prop} (X : x_Is V cX10_performSpeed 4 RX10 (Option.some FieldType.boolean) ad dsX 5 (x_PI Q)) {σ : x_S} {τ : x_L} (h : wX10_performSpeed_37 Q σ τ) : V σ τ 37 [] [] := by
  refine x_iconst X dX10_performSpeed_37 ki_0 ?_
  exact x_zret X dX10_performSpeed_38 ⟨Or.inl rfl, _, rfl, h⟩
set_option maxRecDepth 100000 in
set_option maxHeartbeats 4000000 in
theorem kX10_performSpeed {ad : Nat → Nat} {a1 : Int32} {a2 : Int32} {a3 : Int32} {σ : x_S} {τ : x_L} {Q : Int32 → x_S → x_L → Prop} (h : wX10_performSpeed a1 a2 a3 σ τ Q) : x_Met yX10_performSpeed cX10_performSpeed 4 (Option.some FieldType.boolean) 5 ad dsX [.ref (ad 0), .int a1, .int a2, .int a3] σ τ (x_PI Q) := by
  refine x_met (by decide +kernel) (Nat.le_of_ble_eq_true rfl) (fun V X => ?_)
  have X : x_Is V cX10_performSpeed 4 RX10 (Option.some FieldType.boolean) ad dsX 5 (x_PI Q) := X
  show V σ τ 0 [(0, .ref (ad 0)), (1, .int a1), (2, .int a2), (3, .int a3)] []
  refine x_aload_n X dX10_performSpeed_0 rfl 0 rfl ?_
  refine x_getR X (j := 3) dX10_performSpeed_1 fl_10_19 dsX_0 rfl ?_
  refine x_iload_n X dX10_performSpeed_4 rfl 1 rfl ?_
  refine x_iload_n X dX10_performSpeed_5 rfl 2 rfl ?_
  refine x_callVi X [.int a1, .int a2] [] dX10_performSpeed_6 (kX1_hasPlace h) cm_X1_hasPlace ci_X1_hasPlace w_4_102 dsX_3 ⟨by decide, by decide⟩ rfl (Nat.le_of_ble_eq_true rfl) (fun r6 σ6 τ6 h => ?_)
  refine x_if_eq X 37 dX10_performSpeed_9 (by decide) (fun hc => ?_) (fun hc => ?_)
  · have h := h.1 hc
    refine x_sub X [] (lv' := []) rfl ?_
    exact bX10_performSpeed_37 X h
  · have h := h.2 hc
    refine x_iload_n X dX10_performSpeed_12 rfl 3 rfl ?_
    refine x_aload_n X dX10_performSpeed_13 rfl 0 rfl ?_
    refine x_getR X (j := 3) dX10_performSpeed_14 fl_10_19 dsX_0 rfl ?_
    refine x_getR X (j := 7) dX10_performSpeed_17 fl_10_200 dsX_3 rfl ?_
    refine x_aload_n X dX10_performSpeed_20 rfl 0 rfl ?_
    refine x_getR X (j := 3) dX10_performSpeed_21 fl_10_19 dsX_0 rfl ?_
    refine x_getR X (j := 12) dX10_performSpeed_24 fl_10_246 dsX_3 rfl ?_
    refine x_iload_n X dX10_performSpeed_27 rfl 1 rfl ?_
    refine x_iload_n X dX10_performSpeed_28 rfl 2 rfl ?_
    refine x_callSi X [.int a1, .int a2] [.ref (ad 12), .ref (ad 7), .int a3] dX10_performSpeed_29 (kX10_stopAt h) cm_X10_stopAt w_3_60 rfl w_4_107 ⟨by decide, by decide⟩ rfl (Nat.le_of_ble_eq_true rfl) (fun r29 σ29 τ29 h => ?_)
    have g32 := h.1
    have h := h.2
    refine x_iald X dX10_performSpeed_32 dsX_12 g32 ?_
    have g33 := h.1
    have h := h.2
    refine x_iald X dX10_performSpeed_33 dsX_7 g33 ?_
    refine x_icmp_le X 39 dX10_performSpeed_34 (by decide) (fun hc => ?_) (fun hc => ?_)
    · have h := h.1 hc
      refine x_aload_n X dX10_performSpeed_39 rfl 0 rfl ?_
      refine x_iload_n X dX10_performSpeed_40 rfl 1 rfl ?_
      refine x_iload_n X dX10_performSpeed_41 rfl 2 rfl ?_
      refine x_callSi X [.int a1, .int a2] [.ref (ad 0)] dX10_performSpeed_42 (kX10_stopAt h) cm_X10_stopAt w_3_60 rfl w_4_107 ⟨by decide, by decide⟩ rfl (Nat.le_of_ble_eq_true rfl) (fun r42 σ42 τ42 h => ?_)
      refine x_iload_n X dX10_performSpeed_45 rfl 3 rfl ?_
      refine x_callVi X [.int r42, .int a3] [] dX10_performSpeed_46 (kX10_changeSpeed h) cm_X10_changeSpeed ci_X10_changeSpeed w_4_116 dsX_0 ⟨by decide, by decide⟩ rfl (Nat.le_of_ble_eq_true rfl) (fun r46 σ46 τ46 h => ?_)
      refine x_pop X dX10_performSpeed_49 rfl ?_
      refine x_iconst X dX10_performSpeed_50 ki_1 ?_
      exact x_zret X dX10_performSpeed_51 ⟨Or.inr rfl, _, rfl, h⟩
    · have h := h.2 hc
      refine x_sub X [] (lv' := []) rfl ?_
      exact bX10_performSpeed_37 X h
theorem dX10_performWait_0 : decode cX10_performWait 0 = .ok (.aload_n 0, 1) := by decide +kernel
theorem dX10_performWait_1 : decode cX10_performWait 1 = .ok (.getfield 19, 3) := by decide +kernel
theorem dX10_performWait_4 : decode cX10_performWait 4 = .ok (.iload_n 1, 1) := by decide +kernel
theorem dX10_performWait_5 : decode cX10_performWait 5 = .ok (.iload_n 2, 1) := by decide +kernel
theorem dX10_performWait_6 : decode cX10_performWait 6 = .ok (.invokevirtual 454, 3) := by decide +kernel
theorem dX10_performWait_9 : decode cX10_performWait 9 = .ok (.ifCond .ne 5, 3) := by decide +kernel
theorem dX10_performWait_12 : decode cX10_performWait 12 = .ok (.iconst 0, 1) := by decide +kernel
theorem dX10_performWait_13 : decode cX10_performWait 13 = .ok (.ireturn, 1) := by decide +kernel
theorem dX10_performWait_14 : decode cX10_performWait 14 = .ok (.aload_n 0, 1) := by decide +kernel
theorem dX10_performWait_15 : decode cX10_performWait 15 = .ok (.iload_n 1, 1) := by decide +kernel
theorem dX10_performWait_16 : decode cX10_performWait 16 = .ok (.iload_n 2, 1) := by decide +kernel
theorem dX10_performWait_17 : decode cX10_performWait 17 = .ok (.invokestatic 243, 3) := by decide +kernel
theorem dX10_performWait_20 : decode cX10_performWait 20 = .ok (.iload_n 3, 1) := by decide +kernel
theorem dX10_performWait_21 : decode cX10_performWait 21 = .ok (.invokevirtual 333, 3) := by decide +kernel
theorem dX10_performWait_24 : decode cX10_performWait 24 = .ok (.pop, 1) := by decide +kernel
theorem dX10_performWait_25 : decode cX10_performWait 25 = .ok (.iconst 1, 1) := by decide +kernel
theorem dX10_performWait_26 : decode cX10_performWait 26 = .ok (.ireturn, 1) := by decide +kernel
theorem cm_X10_performWait : x_CM yX10_performWait cX10_performWait 4 (Option.some FieldType.boolean) 3 := ⟨w_4_101, w_1_1, by decide +kernel, by decide +kernel⟩
theorem ci_X10_performWait : x_CI yX10_performWait 12 := ⟨w_4_100, wp_24, (RX10, TX10, 12), rfl, rfl⟩
set_option maxRecDepth 100000 in
set_option maxHeartbeats 4000000 in
theorem kX10_performWait {ad : Nat → Nat} {a1 : Int32} {a2 : Int32} {a3 : Int32} {σ : x_S} {τ : x_L} {Q : Int32 → x_S → x_L → Prop} (h : wX10_performWait a1 a2 a3 σ τ Q) : x_Met yX10_performWait cX10_performWait 4 (Option.some FieldType.boolean) 5 ad dsX [.ref (ad 0), .int a1, .int a2, .int a3] σ τ (x_PI Q) := by
  refine x_met (by decide +kernel) (Nat.le_of_ble_eq_true rfl) (fun V X => ?_)
  have X : x_Is V cX10_performWait 4 RX10 (Option.some FieldType.boolean) ad dsX 5 (x_PI Q) := X
  show V σ τ 0 [(0, .ref (ad 0)), (1, .int a1), (2, .int a2), (3, .int a3)] []
  refine x_aload_n X dX10_performWait_0 rfl 0 rfl ?_
  refine x_getR X (j := 3) dX10_performWait_1 fl_10_19 dsX_0 rfl ?_
  refine x_iload_n X dX10_performWait_4 rfl 1 rfl ?_
  refine x_iload_n X dX10_performWait_5 rfl 2 rfl ?_
  refine x_callVi X [.int a1, .int a2] [] dX10_performWait_6 (kX1_hasPlace h) cm_X1_hasPlace ci_X1_hasPlace w_4_102 dsX_3 ⟨by decide, by decide⟩ rfl (Nat.le_of_ble_eq_true rfl) (fun r6 σ6 τ6 h => ?_)
  refine x_if_ne X 14 dX10_performWait_9 (by decide) (fun hc => ?_) (fun hc => ?_)
  · have h := h.1 hc
    refine x_aload_n X dX10_performWait_14 rfl 0 rfl ?_
    refine x_iload_n X dX10_performWait_15 rfl 1 rfl ?_
    refine x_iload_n X dX10_performWait_16 rfl 2 rfl ?_
    refine x_callSi X [.int a1, .int a2] [.ref (ad 0)] dX10_performWait_17 (kX10_stopAt h) cm_X10_stopAt w_3_60 rfl w_4_107 ⟨by decide, by decide⟩ rfl (Nat.le_of_ble_eq_true rfl) (fun r17 σ17 τ17 h => ?_)
    refine x_iload_n X dX10_performWait_20 rfl 3 rfl ?_
    refine x_callVi X [.int r17, .int a3] [] dX10_performWait_21 (kX10_changeWait h) cm_X10_changeWait ci_X10_changeWait w_4_108 dsX_0 ⟨by decide, by decide⟩ rfl (Nat.le_of_ble_eq_true rfl) (fun r21 σ21 τ21 h => ?_)
    refine x_pop X dX10_performWait_24 rfl ?_
    refine x_iconst X dX10_performWait_25 ki_1 ?_
    exact x_zret X dX10_performWait_26 ⟨Or.inr rfl, _, rfl, h⟩
  · have h := h.2 hc
    refine x_iconst X dX10_performWait_12 ki_0 ?_
    exact x_zret X dX10_performWait_13 ⟨Or.inl rfl, _, rfl, h⟩
theorem dX10_perform_0 : decode cX10_perform 0 = .ok (.aload_n 0, 1) := by decide +kernel
theorem dX10_perform_1 : decode cX10_perform 1 = .ok (.getfield 33, 3) := by decide +kernel
theorem dX10_perform_4 : decode cX10_perform 4 = .ok (.iload_n 1, 1) := by decide +kernel
theorem dX10_perform_5 : decode cX10_perform 5 = .ok (.invokevirtual 438, 3) := by decide +kernel
theorem dX10_perform_8 : decode cX10_perform 8 = .ok (.istore_n 2, 1) := by decide +kernel
theorem dX10_perform_9 : decode cX10_perform 9 = .ok (.aload_n 0, 1) := by decide +kernel
theorem dX10_perform_10 : decode cX10_perform 10 = .ok (.getfield 33, 3) := by decide +kernel
theorem dX10_perform_13 : decode cX10_perform 13 = .ok (.iload_n 1, 1) := by decide +kernel
theorem dX10_perform_14 : decode cX10_perform 14 = .ok (.iconst 0, 1) := by decide +kernel
theorem dX10_perform_15 : decode cX10_perform 15 = .ok (.invokevirtual 441, 3) := by decide +kernel
theorem dX10_perform_18 : decode cX10_perform 18 = .ok (.istore_n 3, 1) := by decide +kernel
theorem dX10_perform_19 : decode cX10_perform 19 = .ok (.aload_n 0, 1) := by decide +kernel
theorem dX10_perform_20 : decode cX10_perform 20 = .ok (.getfield 33, 3) := by decide +kernel
theorem dX10_perform_23 : decode cX10_perform 23 = .ok (.iload_n 1, 1) := by decide +kernel
theorem dX10_perform_24 : decode cX10_perform 24 = .ok (.iconst 1, 1) := by decide +kernel
theorem dX10_perform_25 : decode cX10_perform 25 = .ok (.invokevirtual 441, 3) := by decide +kernel
theorem dX10_perform_28 : decode cX10_perform 28 = .ok (.istore 4, 2) := by decide +kernel
theorem dX10_perform_30 : decode cX10_perform 30 = .ok (.aload_n 0, 1) := by decide +kernel
theorem dX10_perform_31 : decode cX10_perform 31 = .ok (.getfield 33, 3) := by decide +kernel
theorem dX10_perform_34 : decode cX10_perform 34 = .ok (.iload_n 1, 1) := by decide +kernel
theorem dX10_perform_35 : decode cX10_perform 35 = .ok (.iconst 2, 1) := by decide +kernel
theorem dX10_perform_36 : decode cX10_perform 36 = .ok (.invokevirtual 441, 3) := by decide +kernel
theorem dX10_perform_39 : decode cX10_perform 39 = .ok (.istore 5, 2) := by decide +kernel
theorem dX10_perform_41 : decode cX10_perform 41 = .ok (.iload_n 2, 1) := by decide +kernel
theorem dX10_perform_42 : decode cX10_perform 42 = .ok (.bipush 6, 2) := by decide +kernel
theorem dX10_perform_44 : decode cX10_perform 44 = .ok (.if_icmp .ne 10, 3) := by decide +kernel
theorem dX10_perform_47 : decode cX10_perform 47 = .ok (.aload_n 0, 1) := by decide +kernel
theorem dX10_perform_48 : decode cX10_perform 48 = .ok (.invokevirtual 364, 3) := by decide +kernel
theorem dX10_perform_51 : decode cX10_perform 51 = .ok (.pop, 1) := by decide +kernel
theorem dX10_perform_52 : decode cX10_perform 52 = .ok (.iconst 1, 1) := by decide +kernel
theorem dX10_perform_53 : decode cX10_perform 53 = .ok (.ireturn, 1) := by decide +kernel
theorem dX10_perform_54 : decode cX10_perform 54 = .ok (.aload_n 0, 1) := by decide +kernel
theorem dX10_perform_55 : decode cX10_perform 55 = .ok (.getfield 19, 3) := by decide +kernel
theorem dX10_perform_58 : decode cX10_perform 58 = .ok (.iload_n 3, 1) := by decide +kernel
theorem dX10_perform_59 : decode cX10_perform 59 = .ok (.invokevirtual 444, 3) := by decide +kernel
theorem dX10_perform_62 : decode cX10_perform 62 = .ok (.ifCond .ne 5, 3) := by decide +kernel
theorem dX10_perform_65 : decode cX10_perform 65 = .ok (.iconst 0, 1) := by decide +kernel
theorem dX10_perform_66 : decode cX10_perform 66 = .ok (.ireturn, 1) := by decide +kernel
theorem dX10_perform_67 : decode cX10_perform 67 = .ok (.iload_n 2, 1) := by decide +kernel
theorem dX10_perform_68 : decode cX10_perform 68 = .ok (.tableswitch 104 0 4 #[36, 46, 56, 66, 96], 36) := by decide +kernel
theorem dX10_perform_104 : decode cX10_perform 104 = .ok (.aload_n 0, 1) := by decide +kernel
theorem dX10_perform_105 : decode cX10_perform 105 = .ok (.iload_n 3, 1) := by decide +kernel
theorem dX10_perform_106 : decode cX10_perform 106 = .ok (.iload 4, 2) := by decide +kernel
theorem dX10_perform_108 : decode cX10_perform 108 = .ok (.iload 5, 2) := by decide +kernel
theorem dX10_perform_110 : decode cX10_perform 110 = .ok (.invokevirtual 447, 3) := by decide +kernel
theorem dX10_perform_113 : decode cX10_perform 113 = .ok (.ireturn, 1) := by decide +kernel
theorem dX10_perform_114 : decode cX10_perform 114 = .ok (.aload_n 0, 1) := by decide +kernel
theorem dX10_perform_115 : decode cX10_perform 115 = .ok (.iload_n 3, 1) := by decide +kernel
theorem dX10_perform_116 : decode cX10_perform 116 = .ok (.iload 4, 2) := by decide +kernel
theorem dX10_perform_118 : decode cX10_perform 118 = .ok (.iload 5, 2) := by decide +kernel
theorem dX10_perform_120 : decode cX10_perform 120 = .ok (.invokevirtual 451, 3) := by decide +kernel
theorem dX10_perform_123 : decode cX10_perform 123 = .ok (.ireturn, 1) := by decide +kernel
theorem dX10_perform_124 : decode cX10_perform 124 = .ok (.aload_n 0, 1) := by decide +kernel
theorem dX10_perform_125 : decode cX10_perform 125 = .ok (.iload_n 3, 1) := by decide +kernel
theorem dX10_perform_126 : decode cX10_perform 126 = .ok (.iload 4, 2) := by decide +kernel
theorem dX10_perform_128 : decode cX10_perform 128 = .ok (.invokevirtual 345, 3) := by decide +kernel
theorem dX10_perform_131 : decode cX10_perform 131 = .ok (.pop, 1) := by decide +kernel
theorem dX10_perform_132 : decode cX10_perform 132 = .ok (.iconst 1, 1) := by decide +kernel
theorem dX10_perform_133 : decode cX10_perform 133 = .ok (.ireturn, 1) := by decide +kernel
theorem dX10_perform_134 : decode cX10_perform 134 = .ok (.aload_n 0, 1) := by decide +kernel
theorem dX10_perform_135 : decode cX10_perform 135 = .ok (.getfield 19, 3) := by decide +kernel
theorem dX10_perform_138 : decode cX10_perform 138 = .ok (.iload 4, 2) := by decide +kernel
theorem dX10_perform_140 : decode cX10_perform 140 = .ok (.invokevirtual 444, 3) := by decide +kernel
theorem dX10_perform_143 : decode cX10_perform 143 = .ok (.ifCond .eq 19, 3) := by decide +kernel
theorem dX10_perform_146 : decode cX10_perform 146 = .ok (.aload_n 0, 1) := by decide +kernel
theorem dX10_perform_147 : decode cX10_perform 147 = .ok (.iload_n 3, 1) := by decide +kernel
theorem dX10_perform_148 : decode cX10_perform 148 = .ok (.iload 4, 2) := by decide +kernel
theorem dX10_perform_150 : decode cX10_perform 150 = .ok (.invokevirtual 351, 3) := by decide +kernel
theorem dX10_perform_153 : decode cX10_perform 153 = .ok (.bipush (-3), 2) := by decide +kernel
theorem dX10_perform_155 : decode cX10_perform 155 = .ok (.if_icmp .eq 7, 3) := by decide +kernel
theorem dX10_perform_158 : decode cX10_perform 158 = .ok (.iconst 1, 1) := by decide +kernel
theorem dX10_perform_159 : decode cX10_perform 159 = .ok (.goto 4, 3) := by decide +kernel
theorem dX10_perform_162 : decode cX10_perform 162 = .ok (.iconst 0, 1) := by decide +kernel
theorem dX10_perform_163 : decode cX10_perform 163 = .ok (.ireturn, 1) := by decide +kernel
theorem dX10_perform_164 : decode cX10_perform 164 = .ok (.aload_n 0, 1) := by decide +kernel
theorem dX10_perform_165 : decode cX10_perform 165 = .ok (.iload_n 3, 1) := by decide +kernel
theorem dX10_perform_166 : decode cX10_perform 166 = .ok (.invokevirtual 371, 3) := by decide +kernel
theorem dX10_perform_169 : decode cX10_perform 169 = .ok (.pop, 1) := by decide +kernel
theorem dX10_perform_170 : decode cX10_perform 170 = .ok (.iconst 1, 1) := by decide +kernel
theorem dX10_perform_171 : decode cX10_perform 171 = .ok (.ireturn, 1) := by decide +kernel
theorem dX10_perform_172 : decode cX10_perform 172 = .ok (.aload_n 0, 1) := by decide +kernel
theorem dX10_perform_173 : decode cX10_perform 173 = .ok (.iload_n 3, 1) := by decide +kernel
theorem dX10_perform_174 : decode cX10_perform 174 = .ok (.invokevirtual 377, 3) := by decide +kernel
theorem dX10_perform_177 : decode cX10_perform 177 = .ok (.pop, 1) := by decide +kernel
theorem dX10_perform_178 : decode cX10_perform 178 = .ok (.iconst 1, 1) := by decide +kernel
theorem dX10_perform_179 : decode cX10_perform 179 = .ok (.ireturn, 1) := by decide +kernel
theorem cm_X10_perform : x_CM yX10_perform cX10_perform 6 (Option.some FieldType.boolean) 1 := ⟨w_4_85, w_1_1, by decide +kernel, by decide +kernel⟩
theorem ci_X10_perform : x_CI yX10_perform 12 := ⟨w_4_84, wp_23, (RX10, TX10, 12), rfl, rfl⟩
set_option maxRecDepth 100000 in
set_option maxHeartbeats 4000000 in
theorem bX10_perform_163 {V : x_J} {ad : Nat → Nat} {Q : Int32 → x_S → x_L → Prop} (X : x_Is V cX10_perform 6 RX10 (Option.some FieldType.boolean) ad dsX 6 (x_PI Q)) {s0 : Int32} {σ : x_S} {τ : x_L} (h : wX10_perform_163 Q s0 σ τ) : V σ τ 163 [] [.int s0] := by
  exact x_zret X dX10_perform_163 ⟨h.1, _, rfl, h.2⟩
set_option maxRecDepth 100000 in
set_option maxHeartbeats 4000000 in
theorem bX10_perform_162 {V : x_J} {ad : Nat → Nat} {Q : Int32 → x_S → x_L → Prop} (X : x_Is V cX10_perform 6 RX10 (Option.some FieldType.boolean) ad dsX 6 (x_PI Q)) {σ : x_S} {τ : x_L} (h : wX10_perform_162 Q σ τ) : V σ τ 162 [] [] := by
  refine x_iconst X dX10_perform_162 ki_0 ?_
  exact bX10_perform_163 X h
set_option maxRecDepth 100000 in
set_option maxHeartbeats 4000000 in
theorem kX10_perform {ad : Nat → Nat} {a1 : Int32} {σ : x_S} {τ : x_L} {Q : Int32 → x_S → x_L → Prop} (h : wX10_perform a1 σ τ Q) : x_Met yX10_perform cX10_perform 6 (Option.some FieldType.boolean) 6 ad dsX [.ref (ad 0), .int a1] σ τ (x_PI Q) := by
  refine x_met (by decide +kernel) (Nat.le_of_ble_eq_true rfl) (fun V X => ?_)
  have X : x_Is V cX10_perform 6 RX10 (Option.some FieldType.boolean) ad dsX 6 (x_PI Q) := X
  show V σ τ 0 [(0, .ref (ad 0)), (1, .int a1)] []
  refine x_aload_n X dX10_perform_0 rfl 0 rfl ?_
  refine x_getR X (j := 24) dX10_perform_1 fl_10_33 dsX_0 rfl ?_
  refine x_iload_n X dX10_perform_4 rfl 1 rfl ?_
  refine x_callVi X [.int a1] [] dX10_perform_5 (kX8_word h) cm_X8_word ci_X8_word w_4_86 dsX_24 ⟨by decide, by decide⟩ rfl (Nat.le_of_ble_eq_true rfl) (fun r5 σ5 τ5 h => ?_)
  refine x_istore_n X (lv' := [(2, .int r5), (0, .ref (ad 0)), (1, .int a1)]) dX10_perform_8 rfl (by decide) rfl ?_
  refine x_aload_n X dX10_perform_9 rfl 1 rfl ?_
  refine x_getR X (j := 24) dX10_perform_10 fl_10_33 dsX_0 rfl ?_
  refine x_iload_n X dX10_perform_13 rfl 2 rfl ?_
  refine x_iconst X dX10_perform_14 ki_0 ?_
  refine x_callVi X [.int a1, .int 0] [] dX10_perform_15 (kX8_argument h) cm_X8_argument ci_X8_argument w_4_90 dsX_24 ⟨by decide, by decide⟩ rfl (Nat.le_of_ble_eq_true rfl) (fun r15 σ15 τ15 h => ?_)
  refine x_istore_n X (lv' := [(3, .int r15), (2, .int r5), (0, .ref (ad 0)), (1, .int a1)]) dX10_perform_18 rfl (by decide) rfl ?_
  refine x_aload_n X dX10_perform_19 rfl 2 rfl ?_
  refine x_getR X (j := 24) dX10_perform_20 fl_10_33 dsX_0 rfl ?_
  refine x_iload_n X dX10_perform_23 rfl 3 rfl ?_
  refine x_iconst X dX10_perform_24 ki_1 ?_
  refine x_callVi X [.int a1, .int 1] [] dX10_perform_25 (kX8_argument h) cm_X8_argument ci_X8_argument w_4_90 dsX_24 ⟨by decide, by decide⟩ rfl (Nat.le_of_ble_eq_true rfl) (fun r25 σ25 τ25 h => ?_)
  refine x_istore X (lv' := [(4, .int r25), (3, .int r15), (2, .int r5), (0, .ref (ad 0)), (1, .int a1)]) dX10_perform_28 (by decide) rfl ?_
  refine x_aload_n X dX10_perform_30 rfl 3 rfl ?_
  refine x_getR X (j := 24) dX10_perform_31 fl_10_33 dsX_0 rfl ?_
  refine x_iload_n X dX10_perform_34 rfl 4 rfl ?_
  refine x_iconst X dX10_perform_35 ki_2 ?_
  refine x_callVi X [.int a1, .int 2] [] dX10_perform_36 (kX8_argument h) cm_X8_argument ci_X8_argument w_4_90 dsX_24 ⟨by decide, by decide⟩ rfl (Nat.le_of_ble_eq_true rfl) (fun r36 σ36 τ36 h => ?_)
  refine x_istore X (lv' := [(5, .int r36), (4, .int r25), (3, .int r15), (2, .int r5), (0, .ref (ad 0)), (1, .int a1)]) dX10_perform_39 (by decide) rfl ?_
  refine x_iload_n X dX10_perform_41 rfl 3 rfl ?_
  refine x_bipush X dX10_perform_42 kb_6 ?_
  refine x_icmp_ne X 54 dX10_perform_44 (by decide) (fun hc => ?_) (fun hc => ?_)
  · have h := h.1 hc
    refine x_aload_n X dX10_perform_54 rfl 4 rfl ?_
    refine x_getR X (j := 3) dX10_perform_55 fl_10_19 dsX_0 rfl ?_
    refine x_iload_n X dX10_perform_58 rfl 2 rfl ?_
    refine x_callVi X [.int r15] [] dX10_perform_59 (kX1_hasTruck h) cm_X1_hasTruck ci_X1_hasTruck w_4_94 dsX_3 ⟨by decide, by decide⟩ rfl (Nat.le_of_ble_eq_true rfl) (fun r59 σ59 τ59 h => ?_)
    refine x_if_ne X 67 dX10_perform_62 (by decide) (fun hc => ?_) (fun hc => ?_)
    · have h := h.1 hc
      refine x_iload_n X dX10_perform_67 rfl 3 rfl ?_
      by_cases hc0 : r5 = 0
      · have h := h.1 hc0
        refine x_tin X 0 104 hc0 dX10_perform_68 (by decide) (by decide) (off := 36) (by decide) (by decide) ?_
        refine x_aload_n X dX10_perform_104 rfl 4 rfl ?_
        refine x_iload_n X dX10_perform_105 rfl 2 rfl ?_
        refine x_iload X dX10_perform_106 1 rfl ?_
        refine x_iload X dX10_perform_108 0 rfl ?_
        refine x_callVi X [.int r15, .int r25, .int r36] [] dX10_perform_110 (kX10_performWait h) cm_X10_performWait ci_X10_performWait w_4_98 dsX_0 ⟨by decide, by decide⟩ rfl (Nat.le_of_ble_eq_true rfl) (fun r110 σ110 τ110 h => ?_)
        exact x_zret X dX10_perform_113 ⟨h.1, _, rfl, h.2⟩
      have h := h.2
      by_cases hc1 : r5 = 1
      · have h := h.1 hc1
        refine x_tin X 1 114 hc1 dX10_perform_68 (by decide) (by decide) (off := 46) (by decide) (by decide) ?_
        refine x_aload_n X dX10_perform_114 rfl 4 rfl ?_
        refine x_iload_n X dX10_perform_115 rfl 2 rfl ?_
        refine x_iload X dX10_perform_116 1 rfl ?_
        refine x_iload X dX10_perform_118 0 rfl ?_
        refine x_callVi X [.int r15, .int r25, .int r36] [] dX10_perform_120 (kX10_performSpeed h) cm_X10_performSpeed ci_X10_performSpeed w_4_112 dsX_0 ⟨by decide, by decide⟩ rfl (Nat.le_of_ble_eq_true rfl) (fun r120 σ120 τ120 h => ?_)
        exact x_zret X dX10_perform_123 ⟨h.1, _, rfl, h.2⟩
      have h := h.2
      by_cases hc2 : r5 = 2
      · have h := h.1 hc2
        refine x_tin X 2 124 hc2 dX10_perform_68 (by decide) (by decide) (off := 56) (by decide) (by decide) ?_
        refine x_aload_n X dX10_perform_124 rfl 4 rfl ?_
        refine x_iload_n X dX10_perform_125 rfl 2 rfl ?_
        refine x_iload X dX10_perform_126 1 rfl ?_
        refine x_callVi X [.int r15, .int r25] [] dX10_perform_128 (kX10_changeStart h) cm_X10_changeStart ci_X10_changeStart w_4_120 dsX_0 ⟨by decide, by decide⟩ rfl (Nat.le_of_ble_eq_true rfl) (fun r128 σ128 τ128 h => ?_)
        refine x_pop X dX10_perform_131 rfl ?_
        refine x_iconst X dX10_perform_132 ki_1 ?_
        exact x_zret X dX10_perform_133 ⟨Or.inr rfl, _, rfl, h⟩
      have h := h.2
      by_cases hc3 : r5 = 3
      · have h := h.1 hc3
        refine x_tin X 3 134 hc3 dX10_perform_68 (by decide) (by decide) (off := 66) (by decide) (by decide) ?_
        refine x_aload_n X dX10_perform_134 rfl 4 rfl ?_
        refine x_getR X (j := 3) dX10_perform_135 fl_10_19 dsX_0 rfl ?_
        refine x_iload X dX10_perform_138 1 rfl ?_
        refine x_callVi X [.int r25] [] dX10_perform_140 (kX1_hasTruck h) cm_X1_hasTruck ci_X1_hasTruck w_4_94 dsX_3 ⟨by decide, by decide⟩ rfl (Nat.le_of_ble_eq_true rfl) (fun r140 σ140 τ140 h => ?_)
        refine x_if_eq X 162 dX10_perform_143 (by decide) (fun hc => ?_) (fun hc => ?_)
        · have h := h.1 hc
          refine x_sub X [] (lv' := []) rfl ?_
          exact bX10_perform_162 X h
        · have h := h.2 hc
          refine x_aload_n X dX10_perform_146 rfl 4 rfl ?_
          refine x_iload_n X dX10_perform_147 rfl 2 rfl ?_
          refine x_iload X dX10_perform_148 1 rfl ?_
          refine x_callVi X [.int r15, .int r25] [] dX10_perform_150 (kX10_mergeTwo h) cm_X10_mergeTwo ci_X10_mergeTwo w_4_124 dsX_0 ⟨by decide, by decide⟩ rfl (Nat.le_of_ble_eq_true rfl) (fun r150 σ150 τ150 h => ?_)
          refine x_bipush X dX10_perform_153 kb_m3 ?_
          refine x_icmp_eq X 162 dX10_perform_155 (by decide) (fun hc => ?_) (fun hc => ?_)
          · have h := h.1 hc
            refine x_sub X [] (lv' := []) rfl ?_
            exact bX10_perform_162 X h
          · have h := h.2 hc
            refine x_iconst X dX10_perform_158 ki_1 ?_
            refine x_goto X (tgt := 163) dX10_perform_159 (by decide) ?_
            refine x_sub X [] (lv' := []) rfl ?_
            exact bX10_perform_163 X h
      have h := h.2
      by_cases hc4 : r5 = 4
      · have h := h.1 hc4
        refine x_tin X 4 164 hc4 dX10_perform_68 (by decide) (by decide) (off := 96) (by decide) (by decide) ?_
        refine x_aload_n X dX10_perform_164 rfl 4 rfl ?_
        refine x_iload_n X dX10_perform_165 rfl 2 rfl ?_
        refine x_callVi X [.int r15] [] dX10_perform_166 (kX10_speedUp h) cm_X10_speedUp ci_X10_speedUp w_4_128 dsX_0 ⟨by decide, by decide⟩ rfl (Nat.le_of_ble_eq_true rfl) (fun r166 σ166 τ166 h => ?_)
        refine x_pop X dX10_perform_169 rfl ?_
        refine x_iconst X dX10_perform_170 ki_1 ?_
        exact x_zret X dX10_perform_171 ⟨Or.inr rfl, _, rfl, h⟩
      have h := h.2
      have he0 := x_toInt_ne (n := 0) hc0 (by decide)
      have he1 := x_toInt_ne (n := 1) hc1 (by decide)
      have he2 := x_toInt_ne (n := 2) hc2 (by decide)
      have he3 := x_toInt_ne (n := 3) hc3 (by decide)
      have he4 := x_toInt_ne (n := 4) hc4 (by decide)
      have h := h hc0 hc1 hc2 hc3 hc4
      refine x_tout X 172 dX10_perform_68 (by omega) (by decide) ?_
      refine x_aload_n X dX10_perform_172 rfl 4 rfl ?_
      refine x_iload_n X dX10_perform_173 rfl 2 rfl ?_
      refine x_callVi X [.int r15] [] dX10_perform_174 (kX10_slowDown h) cm_X10_slowDown ci_X10_slowDown w_4_133 dsX_0 ⟨by decide, by decide⟩ rfl (Nat.le_of_ble_eq_true rfl) (fun r174 σ174 τ174 h => ?_)
      refine x_pop X dX10_perform_177 rfl ?_
      refine x_iconst X dX10_perform_178 ki_1 ?_
      exact x_zret X dX10_perform_179 ⟨Or.inr rfl, _, rfl, h⟩
    · have h := h.2 hc
      refine x_iconst X dX10_perform_65 ki_0 ?_
      exact x_zret X dX10_perform_66 ⟨Or.inl rfl, _, rfl, h⟩
  · have h := h.2 hc
    refine x_aload_n X dX10_perform_47 rfl 4 rfl ?_
    refine x_callVi X [] [] dX10_perform_48 (kX10_mergeByGain h) cm_X10_mergeByGain ci_X10_mergeByGain w_3_219 dsX_0 ⟨by decide, by decide⟩ rfl (Nat.le_of_ble_eq_true rfl) (fun r48 σ48 τ48 h => ?_)
    refine x_pop X dX10_perform_51 rfl ?_
    refine x_iconst X dX10_perform_52 ki_1 ?_
    exact x_zret X dX10_perform_53 ⟨Or.inr rfl, _, rfl, h⟩
theorem dX10_play_0 : decode cX10_play 0 = .ok (.aload_n 0, 1) := by decide +kernel
theorem dX10_play_1 : decode cX10_play 1 = .ok (.getfield 12, 3) := by decide +kernel
theorem dX10_play_4 : decode cX10_play 4 = .ok (.invokevirtual 102, 3) := by decide +kernel
theorem dX10_play_7 : decode cX10_play 7 = .ok (.aload_n 0, 1) := by decide +kernel
theorem dX10_play_8 : decode cX10_play 8 = .ok (.getfield 33, 3) := by decide +kernel
theorem dX10_play_11 : decode cX10_play 11 = .ok (.aload_n 0, 1) := by decide +kernel
theorem dX10_play_12 : decode cX10_play 12 = .ok (.getfield 12, 3) := by decide +kernel
theorem dX10_play_15 : decode cX10_play 15 = .ok (.invokevirtual 431, 3) := by decide +kernel
theorem dX10_play_18 : decode cX10_play 18 = .ok (.istore_n 1, 1) := by decide +kernel
theorem dX10_play_19 : decode cX10_play 19 = .ok (.aload_n 0, 1) := by decide +kernel
theorem dX10_play_20 : decode cX10_play 20 = .ok (.getfield 12, 3) := by decide +kernel
theorem dX10_play_23 : decode cX10_play 23 = .ok (.iconst 0, 1) := by decide +kernel
theorem dX10_play_24 : decode cX10_play 24 = .ok (.putfield 94, 3) := by decide +kernel
theorem dX10_play_27 : decode cX10_play 27 = .ok (.iload_n 1, 1) := by decide +kernel
theorem dX10_play_28 : decode cX10_play 28 = .ok (.ifCond .ne 6, 3) := by decide +kernel
theorem dX10_play_31 : decode cX10_play 31 = .ok (.bipush (-2), 2) := by decide +kernel
theorem dX10_play_33 : decode cX10_play 33 = .ok (.ireturn, 1) := by decide +kernel
theorem dX10_play_34 : decode cX10_play 34 = .ok (.iconst 0, 1) := by decide +kernel
theorem dX10_play_35 : decode cX10_play 35 = .ok (.istore_n 2, 1) := by decide +kernel
theorem dX10_play_36 : decode cX10_play 36 = .ok (.iload_n 2, 1) := by decide +kernel
theorem dX10_play_37 : decode cX10_play 37 = .ok (.aload_n 0, 1) := by decide +kernel
theorem dX10_play_38 : decode cX10_play 38 = .ok (.getfield 33, 3) := by decide +kernel
theorem dX10_play_41 : decode cX10_play 41 = .ok (.getfield 432, 3) := by decide +kernel
theorem dX10_play_44 : decode cX10_play 44 = .ok (.if_icmp .ge 19, 3) := by decide +kernel
theorem dX10_play_47 : decode cX10_play 47 = .ok (.aload_n 0, 1) := by decide +kernel
theorem dX10_play_48 : decode cX10_play 48 = .ok (.iload_n 2, 1) := by decide +kernel
theorem dX10_play_49 : decode cX10_play 49 = .ok (.invokevirtual 435, 3) := by decide +kernel
theorem dX10_play_52 : decode cX10_play 52 = .ok (.ifCond .ne 5, 3) := by decide +kernel
theorem dX10_play_55 : decode cX10_play 55 = .ok (.iload_n 2, 1) := by decide +kernel
theorem dX10_play_56 : decode cX10_play 56 = .ok (.ireturn, 1) := by decide +kernel
theorem dX10_play_57 : decode cX10_play 57 = .ok (.iinc 2 1, 3) := by decide +kernel
theorem dX10_play_60 : decode cX10_play 60 = .ok (.goto (-24), 3) := by decide +kernel
theorem dX10_play_63 : decode cX10_play 63 = .ok (.aload_n 0, 1) := by decide +kernel
theorem dX10_play_64 : decode cX10_play 64 = .ok (.getfield 33, 3) := by decide +kernel
theorem dX10_play_67 : decode cX10_play 67 = .ok (.getfield 432, 3) := by decide +kernel
theorem dX10_play_70 : decode cX10_play 70 = .ok (.ireturn, 1) := by decide +kernel
theorem cm_X10_play : x_CM yX10_play cX10_play 3 (Option.some FieldType.int) 0 := ⟨w_4_52, w_1_1, by decide +kernel, by decide +kernel⟩
theorem ci_X10_play : x_CI yX10_play 12 := ⟨w_4_50, w_4_51, (RX10, TX10, 12), rfl, rfl⟩
set_option maxRecDepth 100000 in
set_option maxHeartbeats 4000000 in
theorem bX10_play_36 {V : x_J} {ad : Nat → Nat} {Q : Int32 → x_S → x_L → Prop} (X : x_Is V cX10_play 3 RX10 (Option.some FieldType.int) ad dsX 7 (x_PI Q)) {K36 : Int32 → x_S → x_L → Prop} (hK36 : ∀ v2 σ τ, K36 v2 σ τ → V σ τ 36 [(0, .ref (ad 0)), (2, .int v2)] []) {v2 : Int32} {σ : x_S} {τ : x_L} (h : wX10_play_36 Q K36 v2 σ τ) : V σ τ 36 [(0, .ref (ad 0)), (2, .int v2)] [] := by
  refine x_iload_n X dX10_play_36 rfl 1 rfl ?_
  refine x_aload_n X dX10_play_37 rfl 0 rfl ?_
  refine x_getR X (j := 24) dX10_play_38 fl_10_33 dsX_0 rfl ?_
  refine x_getI X dX10_play_41 fl_10_432 dsX_24 rfl ?_
  refine x_icmp_ge X 63 dX10_play_44 (by decide) (fun hc => ?_) (fun hc => ?_)
  · have h := h.1 hc
    refine x_aload_n X dX10_play_63 rfl 0 rfl ?_
    refine x_getR X (j := 24) dX10_play_64 fl_10_33 dsX_0 rfl ?_
    refine x_getI X dX10_play_67 fl_10_432 dsX_24 rfl ?_
    exact x_iret X dX10_play_70 ⟨_, rfl, h⟩
  · have h := h.2 hc
    refine x_aload_n X dX10_play_47 rfl 0 rfl ?_
    refine x_iload_n X dX10_play_48 rfl 1 rfl ?_
    refine x_callVi X [.int v2] [] dX10_play_49 (kX10_perform h) cm_X10_perform ci_X10_perform w_4_82 dsX_0 ⟨by decide, by decide⟩ rfl (Nat.le_of_ble_eq_true rfl) (fun r49 σ49 τ49 h => ?_)
    refine x_if_ne X 57 dX10_play_52 (by decide) (fun hc => ?_) (fun hc => ?_)
    · have h := h.1 hc
      refine x_iinc X (k := 1) (lv' := [(2, .int (v2 + 1)), (0, .ref (ad 0))]) dX10_play_57 rfl ki_1 (by decide) rfl ?_
      refine x_goto X (tgt := 36) dX10_play_60 (by decide) ?_
      refine x_sub X [1, 0] (lv' := [(0, .ref (ad 0)), (2, .int (v2 + 1))]) rfl ?_
      exact hK36 _ _ _ h
    · have h := h.2 hc
      refine x_iload_n X dX10_play_55 rfl 1 rfl ?_
      exact x_iret X dX10_play_56 ⟨_, rfl, h⟩
set_option maxRecDepth 100000 in
set_option maxHeartbeats 4000000 in
theorem kX10_play {ad : Nat → Nat} {σ : x_S} {τ : x_L} {Q : Int32 → x_S → x_L → Prop} (h : wX10_play σ τ Q) : x_Met yX10_play cX10_play 3 (Option.some FieldType.int) 7 ad dsX [.ref (ad 0)] σ τ (x_PI Q) := by
  refine x_met (by decide +kernel) (Nat.le_of_ble_eq_true rfl) (fun V X => ?_)
  have X : x_Is V cX10_play 3 RX10 (Option.some FieldType.int) ad dsX 7 (x_PI Q) := X
  show V σ τ 0 [(0, .ref (ad 0))] []
  refine x_aload_n X dX10_play_0 rfl 0 rfl ?_
  refine x_getR X (j := 1) dX10_play_1 fl_10_12 dsX_0 rfl ?_
  refine x_callVv X [] [] dX10_play_4 (kX9_open h) cm_X9_open ci_X9_open w_2_193 dsX_1 ⟨by decide, by decide⟩ rfl (Nat.le_of_ble_eq_true rfl) (fun σ4 τ4 h => ?_)
  refine x_aload_n X dX10_play_7 rfl 0 rfl ?_
  refine x_getR X (j := 24) dX10_play_8 fl_10_33 dsX_0 rfl ?_
  refine x_aload_n X dX10_play_11 rfl 0 rfl ?_
  refine x_getR X (j := 1) dX10_play_12 fl_10_12 dsX_0 rfl ?_
  refine x_callVi X [.ref (ad 1)] [] dX10_play_15 (kX8_read h) cm_X8_read ci_X8_read w_4_53 dsX_24 ⟨by decide, by decide⟩ rfl (Nat.le_of_ble_eq_true rfl) (fun r15 σ15 τ15 h => ?_)
  refine x_istore_n X (lv' := [(1, .int r15), (0, .ref (ad 0))]) dX10_play_18 rfl (by decide) rfl ?_
  refine x_aload_n X dX10_play_19 rfl 1 rfl ?_
  refine x_getR X (j := 1) dX10_play_20 fl_10_12 dsX_0 rfl ?_
  refine x_iconst X dX10_play_23 ki_0 ?_
  refine x_putI X dX10_play_24 fl_10_94 ft_9_1 dsX_1 rfl ?_
  refine x_iload_n X dX10_play_27 rfl 0 rfl ?_
  refine x_if_ne X 34 dX10_play_28 (by decide) (fun hc => ?_) (fun hc => ?_)
  · have h := h.1 hc
    refine x_iconst X dX10_play_34 ki_0 ?_
    refine x_istore_n X (lv' := [(2, .int 0), (1, .int r15), (0, .ref (ad 0))]) dX10_play_35 rfl (by decide) rfl ?_
    refine x_sub X [2, 0] (lv' := [(0, .ref (ad 0)), (2, .int 0)]) rfl ?_
    exact x_l1_G (fun v2 σ τ => V σ τ 36 [(0, .ref (ad 0)), (2, .int v2)] []) (fun K36 hK36 v2 σ τ h => bX10_play_36 X hK36 h) h
  · have h := h.2 hc
    refine x_bipush X dX10_play_31 kb_m2 ?_
    exact x_iret X dX10_play_33 ⟨_, rfl, h⟩
theorem dX10_undo_0 : decode cX10_undo 0 = .ok (.aload_n 0, 1) := by decide +kernel
theorem dX10_undo_1 : decode cX10_undo 1 = .ok (.getfield 79, 3) := by decide +kernel
theorem dX10_undo_4 : decode cX10_undo 4 = .ok (.getfield 165, 3) := by decide +kernel
theorem dX10_undo_7 : decode cX10_undo 7 = .ok (.ifCond .ne 5, 3) := by decide +kernel
theorem dX10_undo_10 : decode cX10_undo 10 = .ok (.iconst (-1), 1) := by decide +kernel
theorem dX10_undo_11 : decode cX10_undo 11 = .ok (.ireturn, 1) := by decide +kernel
theorem dX10_undo_12 : decode cX10_undo 12 = .ok (.aload_n 0, 1) := by decide +kernel
theorem dX10_undo_13 : decode cX10_undo 13 = .ok (.getfield 79, 3) := by decide +kernel
theorem dX10_undo_16 : decode cX10_undo 16 = .ok (.aload_n 0, 1) := by decide +kernel
theorem dX10_undo_17 : decode cX10_undo 17 = .ok (.getfield 51, 3) := by decide +kernel
theorem dX10_undo_20 : decode cX10_undo 20 = .ok (.invokevirtual 457, 3) := by decide +kernel
theorem dX10_undo_23 : decode cX10_undo 23 = .ok (.aload_n 0, 1) := by decide +kernel
theorem dX10_undo_24 : decode cX10_undo 24 = .ok (.getfield 51, 3) := by decide +kernel
theorem dX10_undo_27 : decode cX10_undo 27 = .ok (.invokevirtual 339, 3) := by decide +kernel
theorem dX10_undo_30 : decode cX10_undo 30 = .ok (.aload_n 0, 1) := by decide +kernel
theorem dX10_undo_31 : decode cX10_undo 31 = .ok (.getfield 79, 3) := by decide +kernel
theorem dX10_undo_34 : decode cX10_undo 34 = .ok (.getfield 165, 3) := by decide +kernel
theorem dX10_undo_37 : decode cX10_undo 37 = .ok (.ireturn, 1) := by decide +kernel
theorem cm_X10_undo : x_CM yX10_undo cX10_undo 1 (Option.some FieldType.int) 0 := ⟨w_4_144, w_1_1, by decide +kernel, by decide +kernel⟩
theorem ci_X10_undo : x_CI yX10_undo 12 := ⟨w_4_142, w_4_143, (RX10, TX10, 12), rfl, rfl⟩
set_option maxRecDepth 100000 in
set_option maxHeartbeats 4000000 in
theorem kX10_undo {ad : Nat → Nat} {σ : x_S} {τ : x_L} {Q : Int32 → x_S → x_L → Prop} (h : wX10_undo σ τ Q) : x_Met yX10_undo cX10_undo 1 (Option.some FieldType.int) 4 ad dsX [.ref (ad 0)] σ τ (x_PI Q) := by
  refine x_met (by decide +kernel) (Nat.le_of_ble_eq_true rfl) (fun V X => ?_)
  have X : x_Is V cX10_undo 1 RX10 (Option.some FieldType.int) ad dsX 4 (x_PI Q) := X
  show V σ τ 0 [(0, .ref (ad 0))] []
  refine x_aload_n X dX10_undo_0 rfl 0 rfl ?_
  refine x_getR X (j := 63) dX10_undo_1 fl_10_79 dsX_0 rfl ?_
  refine x_getI X dX10_undo_4 fl_10_165 dsX_63 rfl ?_
  refine x_if_ne X 12 dX10_undo_7 (by decide) (fun hc => ?_) (fun hc => ?_)
  · have h := h.1 hc
    refine x_aload_n X dX10_undo_12 rfl 0 rfl ?_
    refine x_getR X (j := 63) dX10_undo_13 fl_10_79 dsX_0 rfl ?_
    refine x_aload_n X dX10_undo_16 rfl 0 rfl ?_
    refine x_getR X (j := 33) dX10_undo_17 fl_10_51 dsX_0 rfl ?_
    refine x_callVv X [.ref (ad 33)] [] dX10_undo_20 (kX2_takeBack x_pl33 h) cm_X2_takeBack ci_X2_takeBack w_4_145 dsX_63 ⟨by decide, by decide⟩ rfl (Nat.le_of_ble_eq_true rfl) (fun σ20 τ20 h => ?_)
    refine x_aload_n X dX10_undo_23 rfl 0 rfl ?_
    refine x_getR X (j := 33) dX10_undo_24 fl_10_51 dsX_0 rfl ?_
    refine x_callVv X [] [] dX10_undo_27 (kX6_arrange x_pl33 h) cm_X6_arrange ci_X6_arrange w_4_26 dsX_33 ⟨by decide, by decide⟩ rfl (Nat.le_of_ble_eq_true rfl) (fun σ27 τ27 h => ?_)
    refine x_aload_n X dX10_undo_30 rfl 0 rfl ?_
    refine x_getR X (j := 63) dX10_undo_31 fl_10_79 dsX_0 rfl ?_
    refine x_getI X dX10_undo_34 fl_10_165 dsX_63 rfl ?_
    exact x_iret X dX10_undo_37 ⟨_, rfl, h⟩
  · have h := h.2 hc
    refine x_iconst X dX10_undo_10 ki_m1 ?_
    exact x_iret X dX10_undo_11 ⟨_, rfl, h⟩
theorem dX10_digest_0 : decode cX10_digest 0 = .ok (.iconst 1, 1) := by decide +kernel
theorem dX10_digest_1 : decode cX10_digest 1 = .ok (.istore_n 1, 1) := by decide +kernel
theorem dX10_digest_2 : decode cX10_digest 2 = .ok (.iconst 0, 1) := by decide +kernel
theorem dX10_digest_3 : decode cX10_digest 3 = .ok (.istore_n 2, 1) := by decide +kernel
theorem dX10_digest_4 : decode cX10_digest 4 = .ok (.iload_n 2, 1) := by decide +kernel
theorem dX10_digest_5 : decode cX10_digest 5 = .ok (.aload_n 0, 1) := by decide +kernel
theorem dX10_digest_6 : decode cX10_digest 6 = .ok (.getfield 19, 3) := by decide +kernel
theorem dX10_digest_9 : decode cX10_digest 9 = .ok (.getfield 127, 3) := by decide +kernel
theorem dX10_digest_12 : decode cX10_digest 12 = .ok (.if_icmp .ge 77, 3) := by decide +kernel
theorem dX10_digest_15 : decode cX10_digest 15 = .ok (.iload_n 2, 1) := by decide +kernel
theorem dX10_digest_16 : decode cX10_digest 16 = .ok (.bipush 10, 2) := by decide +kernel
theorem dX10_digest_18 : decode cX10_digest 18 = .ok (.imul, 1) := by decide +kernel
theorem dX10_digest_19 : decode cX10_digest 19 = .ok (.istore_n 3, 1) := by decide +kernel
theorem dX10_digest_20 : decode cX10_digest 20 = .ok (.iload_n 3, 1) := by decide +kernel
theorem dX10_digest_21 : decode cX10_digest 21 = .ok (.aload_n 0, 1) := by decide +kernel
theorem dX10_digest_22 : decode cX10_digest 22 = .ok (.getfield 42, 3) := by decide +kernel
theorem dX10_digest_25 : decode cX10_digest 25 = .ok (.getfield 301, 3) := by decide +kernel
theorem dX10_digest_28 : decode cX10_digest 28 = .ok (.iload_n 2, 1) := by decide +kernel
theorem dX10_digest_29 : decode cX10_digest 29 = .ok (.iaload, 1) := by decide +kernel
theorem dX10_digest_30 : decode cX10_digest 30 = .ok (.if_icmp .ge 53, 3) := by decide +kernel
theorem dX10_digest_33 : decode cX10_digest 33 = .ok (.bipush 31, 2) := by decide +kernel
theorem dX10_digest_35 : decode cX10_digest 35 = .ok (.iload_n 1, 1) := by decide +kernel
theorem dX10_digest_36 : decode cX10_digest 36 = .ok (.imul, 1) := by decide +kernel
theorem dX10_digest_37 : decode cX10_digest 37 = .ok (.aload_n 0, 1) := by decide +kernel
theorem dX10_digest_38 : decode cX10_digest 38 = .ok (.getfield 51, 3) := by decide +kernel
theorem dX10_digest_41 : decode cX10_digest 41 = .ok (.getfield 258, 3) := by decide +kernel
theorem dX10_digest_44 : decode cX10_digest 44 = .ok (.iload_n 3, 1) := by decide +kernel
theorem dX10_digest_45 : decode cX10_digest 45 = .ok (.iaload, 1) := by decide +kernel
theorem dX10_digest_46 : decode cX10_digest 46 = .ok (.iadd, 1) := by decide +kernel
theorem dX10_digest_47 : decode cX10_digest 47 = .ok (.istore_n 1, 1) := by decide +kernel
theorem dX10_digest_48 : decode cX10_digest 48 = .ok (.bipush 31, 2) := by decide +kernel
theorem dX10_digest_50 : decode cX10_digest 50 = .ok (.iload_n 1, 1) := by decide +kernel
theorem dX10_digest_51 : decode cX10_digest 51 = .ok (.imul, 1) := by decide +kernel
theorem dX10_digest_52 : decode cX10_digest 52 = .ok (.aload_n 0, 1) := by decide +kernel
theorem dX10_digest_53 : decode cX10_digest 53 = .ok (.getfield 51, 3) := by decide +kernel
theorem dX10_digest_56 : decode cX10_digest 56 = .ok (.getfield 252, 3) := by decide +kernel
theorem dX10_digest_59 : decode cX10_digest 59 = .ok (.iload_n 3, 1) := by decide +kernel
theorem dX10_digest_60 : decode cX10_digest 60 = .ok (.iaload, 1) := by decide +kernel
theorem dX10_digest_61 : decode cX10_digest 61 = .ok (.iadd, 1) := by decide +kernel
theorem dX10_digest_62 : decode cX10_digest 62 = .ok (.istore_n 1, 1) := by decide +kernel
theorem dX10_digest_63 : decode cX10_digest 63 = .ok (.bipush 31, 2) := by decide +kernel
theorem dX10_digest_65 : decode cX10_digest 65 = .ok (.iload_n 1, 1) := by decide +kernel
theorem dX10_digest_66 : decode cX10_digest 66 = .ok (.imul, 1) := by decide +kernel
theorem dX10_digest_67 : decode cX10_digest 67 = .ok (.aload_n 0, 1) := by decide +kernel
theorem dX10_digest_68 : decode cX10_digest 68 = .ok (.getfield 51, 3) := by decide +kernel
theorem dX10_digest_71 : decode cX10_digest 71 = .ok (.iload_n 3, 1) := by decide +kernel
theorem dX10_digest_72 : decode cX10_digest 72 = .ok (.invokevirtual 270, 3) := by decide +kernel
theorem dX10_digest_75 : decode cX10_digest 75 = .ok (.iadd, 1) := by decide +kernel
theorem dX10_digest_76 : decode cX10_digest 76 = .ok (.istore_n 1, 1) := by decide +kernel
theorem dX10_digest_77 : decode cX10_digest 77 = .ok (.iinc 3 1, 3) := by decide +kernel
theorem dX10_digest_80 : decode cX10_digest 80 = .ok (.goto (-60), 3) := by decide +kernel
theorem dX10_digest_83 : decode cX10_digest 83 = .ok (.iinc 2 1, 3) := by decide +kernel
theorem dX10_digest_86 : decode cX10_digest 86 = .ok (.goto (-82), 3) := by decide +kernel
theorem dX10_digest_89 : decode cX10_digest 89 = .ok (.iload_n 1, 1) := by decide +kernel
theorem dX10_digest_90 : decode cX10_digest 90 = .ok (.ireturn, 1) := by decide +kernel
theorem cm_X10_digest : x_CM yX10_digest cX10_digest 4 (Option.some FieldType.int) 0 := ⟨w_4_156, w_1_1, by decide +kernel, by decide +kernel⟩
theorem ci_X10_digest : x_CI yX10_digest 12 := ⟨w_4_154, w_4_155, (RX10, TX10, 12), rfl, rfl⟩
set_option maxRecDepth 100000 in
set_option maxHeartbeats 4000000 in
theorem bX10_digest_20 {V : x_J} {ad : Nat → Nat} {Q : Int32 → x_S → x_L → Prop} (X : x_Is V cX10_digest 4 RX10 (Option.some FieldType.int) ad dsX 2 (x_PI Q)) {K4 : Int32 → Int32 → x_S → x_L → Prop} {K20 : Int32 → Int32 → Int32 → x_S → x_L → Prop} (hK4 : ∀ v1 v2 σ τ, K4 v1 v2 σ τ → V σ τ 4 [(0, .ref (ad 0)), (1, .int v1), (2, .int v2)] []) (hK20 : ∀ v1 v2 v3 σ τ, K20 v1 v2 v3 σ τ → V σ τ 20 [(0, .ref (ad 0)), (1, .int v1), (2, .int v2), (3, .int v3)] []) {v1 : Int32} {v2 : Int32} {v3 : Int32} {σ : x_S} {τ : x_L} (h : wX10_digest_20 K4 Q K20 v1 v2 v3 σ τ) : V σ τ 20 [(0, .ref (ad 0)), (1, .int v1), (2, .int v2), (3, .int v3)] [] := by
  refine x_iload_n X dX10_digest_20 rfl 3 rfl ?_
  refine x_aload_n X dX10_digest_21 rfl 0 rfl ?_
  refine x_getR X (j := 27) dX10_digest_22 fl_10_42 dsX_0 rfl ?_
  refine x_getR X (j := 30) dX10_digest_25 fl_10_301 dsX_27 rfl ?_
  refine x_iload_n X dX10_digest_28 rfl 2 rfl ?_
  have g29 := h.1
  have h := h.2
  refine x_iald X dX10_digest_29 dsX_30 g29 ?_
  refine x_icmp_ge X 83 dX10_digest_30 (by decide) (fun hc => ?_) (fun hc => ?_)
  · have h := h.1 hc
    refine x_iinc X (k := 2) (lv' := [(2, .int (v2 + 1)), (0, .ref (ad 0)), (1, .int v1), (3, .int v3)]) dX10_digest_83 rfl ki_1 (by decide) rfl ?_
    refine x_goto X (tgt := 4) dX10_digest_86 (by decide) ?_
    refine x_sub X [1, 2, 0] (lv' := [(0, .ref (ad 0)), (1, .int v1), (2, .int (v2 + 1))]) rfl ?_
    exact hK4 _ _ _ _ h
  · have h := h.2 hc
    refine x_bipush X dX10_digest_33 kb_31 ?_
    refine x_iload_n X dX10_digest_35 rfl 1 rfl ?_
    refine x_imul X dX10_digest_36 ?_
    refine x_aload_n X dX10_digest_37 rfl 0 rfl ?_
    refine x_getR X (j := 33) dX10_digest_38 fl_10_51 dsX_0 rfl ?_
    refine x_getR X (j := 37) dX10_digest_41 fl_10_258 dsX_33 rfl ?_
    refine x_iload_n X dX10_digest_44 rfl 3 rfl ?_
    have g45 := h.1
    have h := h.2
    refine x_iald X dX10_digest_45 dsX_37 g45 ?_
    refine x_iadd X dX10_digest_46 ?_
    refine x_istore_n X (lv' := [(1, .int ((31 * v1) + (σ 37 v3.toNatClampNeg))), (0, .ref (ad 0)), (2, .int v2), (3, .int v3)]) dX10_digest_47 rfl (by decide) rfl ?_
    refine x_bipush X dX10_digest_48 kb_31 ?_
    refine x_iload_n X dX10_digest_50 rfl 0 rfl ?_
    refine x_imul X dX10_digest_51 ?_
    refine x_aload_n X dX10_digest_52 rfl 1 rfl ?_
    refine x_getR X (j := 33) dX10_digest_53 fl_10_51 dsX_0 rfl ?_
    refine x_getR X (j := 36) dX10_digest_56 fl_10_252 dsX_33 rfl ?_
    refine x_iload_n X dX10_digest_59 rfl 3 rfl ?_
    refine x_iald X dX10_digest_60 dsX_36 g45 ?_
    refine x_iadd X dX10_digest_61 ?_
    refine x_istore_n X (lv' := [(1, .int ((31 * ((31 * v1) + (σ 37 v3.toNatClampNeg))) + (σ 36 v3.toNatClampNeg))), (0, .ref (ad 0)), (2, .int v2), (3, .int v3)]) dX10_digest_62 rfl (by decide) rfl ?_
    refine x_bipush X dX10_digest_63 kb_31 ?_
    refine x_iload_n X dX10_digest_65 rfl 0 rfl ?_
    refine x_imul X dX10_digest_66 ?_
    refine x_aload_n X dX10_digest_67 rfl 1 rfl ?_
    refine x_getR X (j := 33) dX10_digest_68 fl_10_51 dsX_0 rfl ?_
    refine x_iload_n X dX10_digest_71 rfl 3 rfl ?_
    refine x_callVi X [.int v3] [.int (31 * ((31 * ((31 * v1) + (σ 37 v3.toNatClampNeg))) + (σ 36 v3.toNatClampNeg)))] dX10_digest_72 (kX6_fuel x_pl33 h) cm_X6_fuel ci_X6_fuel w_4_157 dsX_33 ⟨by decide, by decide⟩ rfl (Nat.le_of_ble_eq_true rfl) (fun r72 σ72 τ72 h => ?_)
    refine x_iadd X dX10_digest_75 ?_
    refine x_istore_n X (lv' := [(1, .int ((31 * ((31 * ((31 * v1) + (σ 37 v3.toNatClampNeg))) + (σ 36 v3.toNatClampNeg))) + r72)), (0, .ref (ad 0)), (2, .int v2), (3, .int v3)]) dX10_digest_76 rfl (by decide) rfl ?_
    refine x_iinc X (k := 3) (lv' := [(3, .int (v3 + 1)), (1, .int ((31 * ((31 * ((31 * v1) + (σ 37 v3.toNatClampNeg))) + (σ 36 v3.toNatClampNeg))) + r72)), (0, .ref (ad 0)), (2, .int v2)]) dX10_digest_77 rfl ki_1 (by decide) rfl ?_
    refine x_goto X (tgt := 20) dX10_digest_80 (by decide) ?_
    refine x_sub X [2, 1, 3, 0] (lv' := [(0, .ref (ad 0)), (1, .int ((31 * ((31 * ((31 * v1) + (σ 37 v3.toNatClampNeg))) + (σ 36 v3.toNatClampNeg))) + r72)), (2, .int v2), (3, .int (v3 + 1))]) rfl ?_
    exact hK20 _ _ _ _ _ h
set_option maxRecDepth 100000 in
set_option maxHeartbeats 4000000 in
theorem bX10_digest_4 {V : x_J} {ad : Nat → Nat} {Q : Int32 → x_S → x_L → Prop} (X : x_Is V cX10_digest 4 RX10 (Option.some FieldType.int) ad dsX 2 (x_PI Q)) {K4 : Int32 → Int32 → x_S → x_L → Prop} (hK4 : ∀ v1 v2 σ τ, K4 v1 v2 σ τ → V σ τ 4 [(0, .ref (ad 0)), (1, .int v1), (2, .int v2)] []) {v1 : Int32} {v2 : Int32} {σ : x_S} {τ : x_L} (h : wX10_digest_4 Q K4 v1 v2 σ τ) : V σ τ 4 [(0, .ref (ad 0)), (1, .int v1), (2, .int v2)] [] := by
  refine x_iload_n X dX10_digest_4 rfl 2 rfl ?_
  refine x_aload_n X dX10_digest_5 rfl 0 rfl ?_
  refine x_getR X (j := 3) dX10_digest_6 fl_10_19 dsX_0 rfl ?_
  refine x_getI X dX10_digest_9 fl_10_127 dsX_3 rfl ?_
  refine x_icmp_ge X 89 dX10_digest_12 (by decide) (fun hc => ?_) (fun hc => ?_)
  · have h := h.1 hc
    refine x_iload_n X dX10_digest_89 rfl 1 rfl ?_
    exact x_iret X dX10_digest_90 ⟨_, rfl, h⟩
  · have h := h.2 hc
    refine x_iload_n X dX10_digest_15 rfl 2 rfl ?_
    refine x_bipush X dX10_digest_16 kb_10 ?_
    refine x_imul X dX10_digest_18 ?_
    refine x_istore_n X (lv' := [(3, .int (v2 * 10)), (0, .ref (ad 0)), (1, .int v1), (2, .int v2)]) dX10_digest_19 rfl (by decide) rfl ?_
    refine x_sub X [1, 2, 3, 0] (lv' := [(0, .ref (ad 0)), (1, .int v1), (2, .int v2), (3, .int (v2 * 10))]) rfl ?_
    exact x_l3_G (fun v1 v2 v3 σ τ => V σ τ 20 [(0, .ref (ad 0)), (1, .int v1), (2, .int v2), (3, .int v3)] []) (fun K20 hK20 v1 v2 v3 σ τ h => bX10_digest_20 X hK4 hK20 h) h
set_option maxRecDepth 100000 in
set_option maxHeartbeats 4000000 in
theorem kX10_digest {ad : Nat → Nat} {σ : x_S} {τ : x_L} {Q : Int32 → x_S → x_L → Prop} (h : wX10_digest σ τ Q) : x_Met yX10_digest cX10_digest 4 (Option.some FieldType.int) 2 ad dsX [.ref (ad 0)] σ τ (x_PI Q) := by
  refine x_met (by decide +kernel) (Nat.le_of_ble_eq_true rfl) (fun V X => ?_)
  have X : x_Is V cX10_digest 4 RX10 (Option.some FieldType.int) ad dsX 2 (x_PI Q) := X
  show V σ τ 0 [(0, .ref (ad 0))] []
  refine x_iconst X dX10_digest_0 ki_1 ?_
  refine x_istore_n X (lv' := [(1, .int 1), (0, .ref (ad 0))]) dX10_digest_1 rfl (by decide) rfl ?_
  refine x_iconst X dX10_digest_2 ki_0 ?_
  refine x_istore_n X (lv' := [(2, .int 0), (1, .int 1), (0, .ref (ad 0))]) dX10_digest_3 rfl (by decide) rfl ?_
  refine x_sub X [2, 1, 0] (lv' := [(0, .ref (ad 0)), (1, .int 1), (2, .int 0)]) rfl ?_
  exact x_l2_G (fun v1 v2 σ τ => V σ τ 4 [(0, .ref (ad 0)), (1, .int v1), (2, .int v2)] []) (fun K4 hK4 v1 v2 σ τ h => bX10_digest_4 X hK4 h) h
theorem dX10_saveSnapshot_0 : decode cX10_saveSnapshot 0 = .ok (.iload_n 1, 1) := by decide +kernel
theorem dX10_saveSnapshot_1 : decode cX10_saveSnapshot 1 = .ok (.ifCond .lt 8, 3) := by decide +kernel
theorem dX10_saveSnapshot_4 : decode cX10_saveSnapshot 4 = .ok (.iload_n 1, 1) := by decide +kernel
theorem dX10_saveSnapshot_5 : decode cX10_saveSnapshot 5 = .ok (.iconst 2, 1) := by decide +kernel
theorem dX10_saveSnapshot_6 : decode cX10_saveSnapshot 6 = .ok (.if_icmp .lt 5, 3) := by decide +kernel
theorem dX10_saveSnapshot_9 : decode cX10_saveSnapshot 9 = .ok (.iconst 0, 1) := by decide +kernel
theorem dX10_saveSnapshot_10 : decode cX10_saveSnapshot 10 = .ok (.ireturn, 1) := by decide +kernel
theorem dX10_saveSnapshot_11 : decode cX10_saveSnapshot 11 = .ok (.aload_n 0, 1) := by decide +kernel
theorem dX10_saveSnapshot_12 : decode cX10_saveSnapshot 12 = .ok (.getfield 79, 3) := by decide +kernel
theorem dX10_saveSnapshot_15 : decode cX10_saveSnapshot 15 = .ok (.iload_n 1, 1) := by decide +kernel
theorem dX10_saveSnapshot_16 : decode cX10_saveSnapshot 16 = .ok (.aload_n 0, 1) := by decide +kernel
theorem dX10_saveSnapshot_17 : decode cX10_saveSnapshot 17 = .ok (.getfield 51, 3) := by decide +kernel
theorem dX10_saveSnapshot_20 : decode cX10_saveSnapshot 20 = .ok (.invokevirtual 460, 3) := by decide +kernel
theorem dX10_saveSnapshot_23 : decode cX10_saveSnapshot 23 = .ok (.iconst 1, 1) := by decide +kernel
theorem dX10_saveSnapshot_24 : decode cX10_saveSnapshot 24 = .ok (.ireturn, 1) := by decide +kernel
theorem cm_X10_saveSnapshot : x_CM yX10_saveSnapshot cX10_saveSnapshot 2 (Option.some FieldType.boolean) 1 := ⟨w_4_164, w_1_1, by decide +kernel, by decide +kernel⟩
theorem ci_X10_saveSnapshot : x_CI yX10_saveSnapshot 12 := ⟨w_4_162, w_4_163, (RX10, TX10, 12), rfl, rfl⟩
set_option maxRecDepth 100000 in
set_option maxHeartbeats 4000000 in
theorem bX10_saveSnapshot_9 {V : x_J} {ad : Nat → Nat} {Q : Int32 → x_S → x_L → Prop} (X : x_Is V cX10_saveSnapshot 2 RX10 (Option.some FieldType.boolean) ad dsX 4 (x_PI Q)) {σ : x_S} {τ : x_L} (h : wX10_saveSnapshot_9 Q σ τ) : V σ τ 9 [] [] := by
  refine x_iconst X dX10_saveSnapshot_9 ki_0 ?_
  exact x_zret X dX10_saveSnapshot_10 ⟨Or.inl rfl, _, rfl, h⟩
set_option maxRecDepth 100000 in
set_option maxHeartbeats 4000000 in
theorem kX10_saveSnapshot {ad : Nat → Nat} {a1 : Int32} {σ : x_S} {τ : x_L} {Q : Int32 → x_S → x_L → Prop} (h : wX10_saveSnapshot a1 σ τ Q) : x_Met yX10_saveSnapshot cX10_saveSnapshot 2 (Option.some FieldType.boolean) 4 ad dsX [.ref (ad 0), .int a1] σ τ (x_PI Q) := by
  refine x_met (by decide +kernel) (Nat.le_of_ble_eq_true rfl) (fun V X => ?_)
  have X : x_Is V cX10_saveSnapshot 2 RX10 (Option.some FieldType.boolean) ad dsX 4 (x_PI Q) := X
  show V σ τ 0 [(0, .ref (ad 0)), (1, .int a1)] []
  refine x_iload_n X dX10_saveSnapshot_0 rfl 1 rfl ?_
  refine x_if_lt X 9 dX10_saveSnapshot_1 (by decide) (fun hc => ?_) (fun hc => ?_)
  · have h := h.1 hc
    refine x_sub X [] (lv' := []) rfl ?_
    exact bX10_saveSnapshot_9 X h
  · have h := h.2 hc
    refine x_iload_n X dX10_saveSnapshot_4 rfl 1 rfl ?_
    refine x_iconst X dX10_saveSnapshot_5 ki_2 ?_
    refine x_icmp_lt X 11 dX10_saveSnapshot_6 (by decide) (fun hc => ?_) (fun hc => ?_)
    · have h := h.1 hc
      refine x_aload_n X dX10_saveSnapshot_11 rfl 0 rfl ?_
      refine x_getR X (j := 63) dX10_saveSnapshot_12 fl_10_79 dsX_0 rfl ?_
      refine x_iload_n X dX10_saveSnapshot_15 rfl 1 rfl ?_
      refine x_aload_n X dX10_saveSnapshot_16 rfl 0 rfl ?_
      refine x_getR X (j := 33) dX10_saveSnapshot_17 fl_10_51 dsX_0 rfl ?_
      refine x_callVv X [.int a1, .ref (ad 33)] [] dX10_saveSnapshot_20 (kX2_saveIn x_pl33 h) cm_X2_saveIn ci_X2_saveIn w_4_165 dsX_63 ⟨by decide, by decide⟩ rfl (Nat.le_of_ble_eq_true rfl) (fun σ20 τ20 h => ?_)
      refine x_iconst X dX10_saveSnapshot_23 ki_1 ?_
      exact x_zret X dX10_saveSnapshot_24 ⟨Or.inr rfl, _, rfl, h⟩
    · have h := h.2 hc
      refine x_sub X [] (lv' := []) rfl ?_
      exact bX10_saveSnapshot_9 X h
theorem dX10_restoreSnapshot_0 : decode cX10_restoreSnapshot 0 = .ok (.iload_n 1, 1) := by decide +kernel
theorem dX10_restoreSnapshot_1 : decode cX10_restoreSnapshot 1 = .ok (.ifCond .lt 20, 3) := by decide +kernel
theorem dX10_restoreSnapshot_4 : decode cX10_restoreSnapshot 4 = .ok (.iload_n 1, 1) := by decide +kernel
theorem dX10_restoreSnapshot_5 : decode cX10_restoreSnapshot 5 = .ok (.iconst 2, 1) := by decide +kernel
theorem dX10_restoreSnapshot_6 : decode cX10_restoreSnapshot 6 = .ok (.if_icmp .ge 15, 3) := by decide +kernel
theorem dX10_restoreSnapshot_9 : decode cX10_restoreSnapshot 9 = .ok (.aload_n 0, 1) := by decide +kernel
theorem dX10_restoreSnapshot_10 : decode cX10_restoreSnapshot 10 = .ok (.getfield 79, 3) := by decide +kernel
theorem dX10_restoreSnapshot_13 : decode cX10_restoreSnapshot 13 = .ok (.getfield 464, 3) := by decide +kernel
theorem dX10_restoreSnapshot_16 : decode cX10_restoreSnapshot 16 = .ok (.iload_n 1, 1) := by decide +kernel
theorem dX10_restoreSnapshot_17 : decode cX10_restoreSnapshot 17 = .ok (.baload, 1) := by decide +kernel
theorem dX10_restoreSnapshot_18 : decode cX10_restoreSnapshot 18 = .ok (.ifCond .ne 5, 3) := by decide +kernel
theorem dX10_restoreSnapshot_21 : decode cX10_restoreSnapshot 21 = .ok (.iconst 0, 1) := by decide +kernel
theorem dX10_restoreSnapshot_22 : decode cX10_restoreSnapshot 22 = .ok (.ireturn, 1) := by decide +kernel
theorem dX10_restoreSnapshot_23 : decode cX10_restoreSnapshot 23 = .ok (.aload_n 0, 1) := by decide +kernel
theorem dX10_restoreSnapshot_24 : decode cX10_restoreSnapshot 24 = .ok (.getfield 79, 3) := by decide +kernel
theorem dX10_restoreSnapshot_27 : decode cX10_restoreSnapshot 27 = .ok (.iload_n 1, 1) := by decide +kernel
theorem dX10_restoreSnapshot_28 : decode cX10_restoreSnapshot 28 = .ok (.aload_n 0, 1) := by decide +kernel
theorem dX10_restoreSnapshot_29 : decode cX10_restoreSnapshot 29 = .ok (.getfield 51, 3) := by decide +kernel
theorem dX10_restoreSnapshot_32 : decode cX10_restoreSnapshot 32 = .ok (.invokevirtual 467, 3) := by decide +kernel
theorem dX10_restoreSnapshot_35 : decode cX10_restoreSnapshot 35 = .ok (.aload_n 0, 1) := by decide +kernel
theorem dX10_restoreSnapshot_36 : decode cX10_restoreSnapshot 36 = .ok (.getfield 51, 3) := by decide +kernel
theorem dX10_restoreSnapshot_39 : decode cX10_restoreSnapshot 39 = .ok (.invokevirtual 339, 3) := by decide +kernel
theorem dX10_restoreSnapshot_42 : decode cX10_restoreSnapshot 42 = .ok (.aload_n 0, 1) := by decide +kernel
theorem dX10_restoreSnapshot_43 : decode cX10_restoreSnapshot 43 = .ok (.getfield 79, 3) := by decide +kernel
theorem dX10_restoreSnapshot_46 : decode cX10_restoreSnapshot 46 = .ok (.invokevirtual 121, 3) := by decide +kernel
theorem dX10_restoreSnapshot_49 : decode cX10_restoreSnapshot 49 = .ok (.iconst 1, 1) := by decide +kernel
theorem dX10_restoreSnapshot_50 : decode cX10_restoreSnapshot 50 = .ok (.ireturn, 1) := by decide +kernel
theorem cm_X10_restoreSnapshot : x_CM yX10_restoreSnapshot cX10_restoreSnapshot 2 (Option.some FieldType.boolean) 1 := ⟨w_4_172, w_1_1, by decide +kernel, by decide +kernel⟩
theorem ci_X10_restoreSnapshot : x_CI yX10_restoreSnapshot 12 := ⟨w_4_170, w_4_171, (RX10, TX10, 12), rfl, rfl⟩
set_option maxRecDepth 100000 in
set_option maxHeartbeats 4000000 in
theorem bX10_restoreSnapshot_21 {V : x_J} {ad : Nat → Nat} {Q : Int32 → x_S → x_L → Prop} (X : x_Is V cX10_restoreSnapshot 2 RX10 (Option.some FieldType.boolean) ad dsX 4 (x_PI Q)) {σ : x_S} {τ : x_L} (h : wX10_restoreSnapshot_21 Q σ τ) : V σ τ 21 [] [] := by
  refine x_iconst X dX10_restoreSnapshot_21 ki_0 ?_
  exact x_zret X dX10_restoreSnapshot_22 ⟨Or.inl rfl, _, rfl, h⟩
set_option maxRecDepth 100000 in
set_option maxHeartbeats 4000000 in
theorem kX10_restoreSnapshot {ad : Nat → Nat} {a1 : Int32} {σ : x_S} {τ : x_L} {Q : Int32 → x_S → x_L → Prop} (h : wX10_restoreSnapshot a1 σ τ Q) : x_Met yX10_restoreSnapshot cX10_restoreSnapshot 2 (Option.some FieldType.boolean) 4 ad dsX [.ref (ad 0), .int a1] σ τ (x_PI Q) := by
  refine x_met (by decide +kernel) (Nat.le_of_ble_eq_true rfl) (fun V X => ?_)
  have X : x_Is V cX10_restoreSnapshot 2 RX10 (Option.some FieldType.boolean) ad dsX 4 (x_PI Q) := X
  show V σ τ 0 [(0, .ref (ad 0)), (1, .int a1)] []
  refine x_iload_n X dX10_restoreSnapshot_0 rfl 1 rfl ?_
  refine x_if_lt X 21 dX10_restoreSnapshot_1 (by decide) (fun hc => ?_) (fun hc => ?_)
  · have h := h.1 hc
    refine x_sub X [] (lv' := []) rfl ?_
    exact bX10_restoreSnapshot_21 X h
  · have h := h.2 hc
    refine x_iload_n X dX10_restoreSnapshot_4 rfl 1 rfl ?_
    refine x_iconst X dX10_restoreSnapshot_5 ki_2 ?_
    refine x_icmp_ge X 21 dX10_restoreSnapshot_6 (by decide) (fun hc => ?_) (fun hc => ?_)
    · have h := h.1 hc
      refine x_sub X [] (lv' := []) rfl ?_
      exact bX10_restoreSnapshot_21 X h
    · have h := h.2 hc
      refine x_aload_n X dX10_restoreSnapshot_9 rfl 0 rfl ?_
      refine x_getR X (j := 63) dX10_restoreSnapshot_10 fl_10_79 dsX_0 rfl ?_
      refine x_getR X (j := 83) dX10_restoreSnapshot_13 fl_10_464 dsX_63 rfl ?_
      refine x_iload_n X dX10_restoreSnapshot_16 rfl 1 rfl ?_
      have g17 := h.1
      have h := h.2
      refine x_zald X dX10_restoreSnapshot_17 dsX_83 g17 ?_
      refine x_if_ne X 23 dX10_restoreSnapshot_18 (by decide) (fun hc => ?_) (fun hc => ?_)
      · have h := h.1 hc
        refine x_aload_n X dX10_restoreSnapshot_23 rfl 0 rfl ?_
        refine x_getR X (j := 63) dX10_restoreSnapshot_24 fl_10_79 dsX_0 rfl ?_
        refine x_iload_n X dX10_restoreSnapshot_27 rfl 1 rfl ?_
        refine x_aload_n X dX10_restoreSnapshot_28 rfl 0 rfl ?_
        refine x_getR X (j := 33) dX10_restoreSnapshot_29 fl_10_51 dsX_0 rfl ?_
        refine x_callVv X [.int a1, .ref (ad 33)] [] dX10_restoreSnapshot_32 (kX2_restoreFrom x_pl33 h) cm_X2_restoreFrom ci_X2_restoreFrom w_4_173 dsX_63 ⟨by decide, by decide⟩ rfl (Nat.le_of_ble_eq_true rfl) (fun σ32 τ32 h => ?_)
        refine x_aload_n X dX10_restoreSnapshot_35 rfl 0 rfl ?_
        refine x_getR X (j := 33) dX10_restoreSnapshot_36 fl_10_51 dsX_0 rfl ?_
        refine x_callVv X [] [] dX10_restoreSnapshot_39 (kX6_arrange x_pl33 h) cm_X6_arrange ci_X6_arrange w_4_26 dsX_33 ⟨by decide, by decide⟩ rfl (Nat.le_of_ble_eq_true rfl) (fun σ39 τ39 h => ?_)
        refine x_aload_n X dX10_restoreSnapshot_42 rfl 0 rfl ?_
        refine x_getR X (j := 63) dX10_restoreSnapshot_43 fl_10_79 dsX_0 rfl ?_
        refine x_callVv X [] [] dX10_restoreSnapshot_46 (kX2_forgetEdits h) cm_X2_forgetEdits ci_X2_forgetEdits w_3_150 dsX_63 ⟨by decide, by decide⟩ rfl (Nat.le_of_ble_eq_true rfl) (fun σ46 τ46 h => ?_)
        refine x_iconst X dX10_restoreSnapshot_49 ki_1 ?_
        exact x_zret X dX10_restoreSnapshot_50 ⟨Or.inr rfl, _, rfl, h⟩
      · have h := h.2 hc
        refine x_sub X [] (lv' := []) rfl ?_
        exact bX10_restoreSnapshot_21 X h
