theorem dX7_trucksOn_0 : decode cX7_trucksOn 0 = .ok (.iconst 0, 1) := by decide +kernel
theorem dX7_trucksOn_1 : decode cX7_trucksOn 1 = .ok (.istore_n 2, 1) := by decide +kernel
theorem dX7_trucksOn_2 : decode cX7_trucksOn 2 = .ok (.aload_n 0, 1) := by decide +kernel
theorem dX7_trucksOn_3 : decode cX7_trucksOn 3 = .ok (.getfield 15, 3) := by decide +kernel
theorem dX7_trucksOn_6 : decode cX7_trucksOn 6 = .ok (.iload_n 1, 1) := by decide +kernel
theorem dX7_trucksOn_7 : decode cX7_trucksOn 7 = .ok (.iaload, 1) := by decide +kernel
theorem dX7_trucksOn_8 : decode cX7_trucksOn 8 = .ok (.istore_n 3, 1) := by decide +kernel
theorem dX7_trucksOn_9 : decode cX7_trucksOn 9 = .ok (.iload_n 3, 1) := by decide +kernel
theorem dX7_trucksOn_10 : decode cX7_trucksOn 10 = .ok (.aload_n 0, 1) := by decide +kernel
theorem dX7_trucksOn_11 : decode cX7_trucksOn 11 = .ok (.getfield 15, 3) := by decide +kernel
theorem dX7_trucksOn_14 : decode cX7_trucksOn 14 = .ok (.iload_n 1, 1) := by decide +kernel
theorem dX7_trucksOn_15 : decode cX7_trucksOn 15 = .ok (.iconst 1, 1) := by decide +kernel
theorem dX7_trucksOn_16 : decode cX7_trucksOn 16 = .ok (.iadd, 1) := by decide +kernel
theorem dX7_trucksOn_17 : decode cX7_trucksOn 17 = .ok (.iaload, 1) := by decide +kernel
theorem dX7_trucksOn_18 : decode cX7_trucksOn 18 = .ok (.if_icmp .ge 23, 3) := by decide +kernel
theorem dX7_trucksOn_21 : decode cX7_trucksOn 21 = .ok (.iload_n 2, 1) := by decide +kernel
theorem dX7_trucksOn_22 : decode cX7_trucksOn 22 = .ok (.iconst 1, 1) := by decide +kernel
theorem dX7_trucksOn_23 : decode cX7_trucksOn 23 = .ok (.aload_n 0, 1) := by decide +kernel
theorem dX7_trucksOn_24 : decode cX7_trucksOn 24 = .ok (.getfield 9, 3) := by decide +kernel
theorem dX7_trucksOn_27 : decode cX7_trucksOn 27 = .ok (.iload_n 3, 1) := by decide +kernel
theorem dX7_trucksOn_28 : decode cX7_trucksOn 28 = .ok (.iaload, 1) := by decide +kernel
theorem dX7_trucksOn_29 : decode cX7_trucksOn 29 = .ok (.bipush 10, 2) := by decide +kernel
theorem dX7_trucksOn_31 : decode cX7_trucksOn 31 = .ok (.idiv, 1) := by decide +kernel
theorem dX7_trucksOn_32 : decode cX7_trucksOn 32 = .ok (.ishl, 1) := by decide +kernel
theorem dX7_trucksOn_33 : decode cX7_trucksOn 33 = .ok (.ior, 1) := by decide +kernel
theorem dX7_trucksOn_34 : decode cX7_trucksOn 34 = .ok (.istore_n 2, 1) := by decide +kernel
theorem dX7_trucksOn_35 : decode cX7_trucksOn 35 = .ok (.iinc 3 1, 3) := by decide +kernel
theorem dX7_trucksOn_38 : decode cX7_trucksOn 38 = .ok (.goto (-29), 3) := by decide +kernel
theorem dX7_trucksOn_41 : decode cX7_trucksOn 41 = .ok (.iload_n 2, 1) := by decide +kernel
theorem dX7_trucksOn_42 : decode cX7_trucksOn 42 = .ok (.ireturn, 1) := by decide +kernel
theorem cm_X7_trucksOn : x_CM yX7_trucksOn cX7_trucksOn 4 (Option.some FieldType.int) 1 := ⟨w_5_49, w_1_6, by decide +kernel, by decide +kernel⟩
theorem ci_X7_trucksOn : x_CI yX7_trucksOn 9 := ⟨w_5_47, w_5_48, (RX7, TX7, 6), rfl, rfl⟩
set_option maxRecDepth 100000 in
set_option maxHeartbeats 4000000 in
theorem bX7_trucksOn_9 {V : x_J} {ad : Nat → Nat} {Q : Int32 → x_S → x_L → Prop} (X : x_Is V cX7_trucksOn 4 RX7 (Option.some FieldType.int) ad dsX 0 (x_PI Q)) {K9 : Int32 → Int32 → Int32 → x_S → x_L → Prop} (hK9 : ∀ v1 v2 v3 σ τ, K9 v1 v2 v3 σ τ → V σ τ 9 [(0, .ref (ad 27)), (1, .int v1), (2, .int v2), (3, .int v3)] []) {v1 : Int32} {v2 : Int32} {v3 : Int32} {σ : x_S} {τ : x_L} (h : wX7_trucksOn_9 Q K9 v1 v2 v3 σ τ) : V σ τ 9 [(0, .ref (ad 27)), (1, .int v1), (2, .int v2), (3, .int v3)] [] := by
  refine x_iload_n X dX7_trucksOn_9 rfl 3 rfl ?_
  refine x_aload_n X dX7_trucksOn_10 rfl 0 rfl ?_
  refine x_getR X (j := 29) dX7_trucksOn_11 fl_7_15 dsX_27 rfl ?_
  refine x_iload_n X dX7_trucksOn_14 rfl 1 rfl ?_
  refine x_iconst X dX7_trucksOn_15 ki_1 ?_
  refine x_iadd X dX7_trucksOn_16 ?_
  have g17 := h.1
  have h := h.2
  refine x_iald X dX7_trucksOn_17 dsX_29 g17 ?_
  refine x_icmp_ge X 41 dX7_trucksOn_18 (by decide) (fun hc => ?_) (fun hc => ?_)
  · have h := h.1 hc
    refine x_iload_n X dX7_trucksOn_41 rfl 2 rfl ?_
    exact x_iret X dX7_trucksOn_42 ⟨_, rfl, h⟩
  · have h := h.2 hc
    refine x_iload_n X dX7_trucksOn_21 rfl 2 rfl ?_
    refine x_iconst X dX7_trucksOn_22 ki_1 ?_
    refine x_aload_n X dX7_trucksOn_23 rfl 0 rfl ?_
    refine x_getR X (j := 28) dX7_trucksOn_24 fl_7_9 dsX_27 rfl ?_
    refine x_iload_n X dX7_trucksOn_27 rfl 3 rfl ?_
    have g28 := h.1
    have h := h.2
    refine x_iald X dX7_trucksOn_28 dsX_28 g28 ?_
    refine x_bipush X dX7_trucksOn_29 kb_10 ?_
    refine x_idiv X dX7_trucksOn_31 (by decide) ?_
    refine x_ishl X dX7_trucksOn_32 ?_
    refine x_ior X dX7_trucksOn_33 ?_
    refine x_istore_n X (lv' := [(2, .int (v2 ||| (1 <<< (((σ 28 v3.toNatClampNeg) / 10) &&& 31)))), (0, .ref (ad 27)), (1, .int v1), (3, .int v3)]) dX7_trucksOn_34 rfl (by decide) rfl ?_
    refine x_iinc X (k := 3) (lv' := [(3, .int (v3 + 1)), (2, .int (v2 ||| (1 <<< (((σ 28 v3.toNatClampNeg) / 10) &&& 31)))), (0, .ref (ad 27)), (1, .int v1)]) dX7_trucksOn_35 rfl ki_1 (by decide) rfl ?_
    refine x_goto X (tgt := 9) dX7_trucksOn_38 (by decide) ?_
    refine x_sub X [2, 3, 1, 0] (lv' := [(0, .ref (ad 27)), (1, .int v1), (2, .int (v2 ||| (1 <<< (((σ 28 v3.toNatClampNeg) / 10) &&& 31)))), (3, .int (v3 + 1))]) rfl ?_
    exact hK9 _ _ _ _ _ h
set_option maxRecDepth 100000 in
set_option maxHeartbeats 4000000 in
theorem kX7_trucksOn {ad : Nat → Nat} {a1 : Int32} {σ : x_S} {τ : x_L} {Q : Int32 → x_S → x_L → Prop} (h : wX7_trucksOn a1 σ τ Q) : x_Met yX7_trucksOn cX7_trucksOn 4 (Option.some FieldType.int) 0 ad dsX [.ref (ad 27), .int a1] σ τ (x_PI Q) := by
  refine x_met (by decide +kernel) (Nat.le_of_ble_eq_true rfl) (fun V X => ?_)
  have X : x_Is V cX7_trucksOn 4 RX7 (Option.some FieldType.int) ad dsX 0 (x_PI Q) := X
  show V σ τ 0 [(0, .ref (ad 27)), (1, .int a1)] []
  refine x_iconst X dX7_trucksOn_0 ki_0 ?_
  refine x_istore_n X (lv' := [(2, .int 0), (0, .ref (ad 27)), (1, .int a1)]) dX7_trucksOn_1 rfl (by decide) rfl ?_
  refine x_aload_n X dX7_trucksOn_2 rfl 1 rfl ?_
  refine x_getR X (j := 29) dX7_trucksOn_3 fl_7_15 dsX_27 rfl ?_
  refine x_iload_n X dX7_trucksOn_6 rfl 2 rfl ?_
  have g7 := h.1
  have h := h.2
  refine x_iald X dX7_trucksOn_7 dsX_29 g7 ?_
  refine x_istore_n X (lv' := [(3, .int (σ 29 a1.toNatClampNeg)), (2, .int 0), (0, .ref (ad 27)), (1, .int a1)]) dX7_trucksOn_8 rfl (by decide) rfl ?_
  refine x_sub X [2, 3, 1, 0] (lv' := [(0, .ref (ad 27)), (1, .int a1), (2, .int 0), (3, .int (σ 29 a1.toNatClampNeg))]) rfl ?_
  exact x_l3_G (fun v1 v2 v3 σ τ => V σ τ 9 [(0, .ref (ad 27)), (1, .int v1), (2, .int v2), (3, .int v3)] []) (fun K9 hK9 v1 v2 v3 σ τ h => bX7_trucksOn_9 X hK9 h) h
theorem dX7_isOn_0 : decode cX7_isOn 0 = .ok (.aload_n 0, 1) := by decide +kernel
theorem dX7_isOn_1 : decode cX7_isOn 1 = .ok (.iload_n 2, 1) := by decide +kernel
theorem dX7_isOn_2 : decode cX7_isOn 2 = .ok (.invokevirtual 64, 3) := by decide +kernel
theorem dX7_isOn_5 : decode cX7_isOn 5 = .ok (.iload_n 1, 1) := by decide +kernel
theorem dX7_isOn_6 : decode cX7_isOn 6 = .ok (.ishr, 1) := by decide +kernel
theorem dX7_isOn_7 : decode cX7_isOn 7 = .ok (.iconst 1, 1) := by decide +kernel
theorem dX7_isOn_8 : decode cX7_isOn 8 = .ok (.iand, 1) := by decide +kernel
theorem dX7_isOn_9 : decode cX7_isOn 9 = .ok (.ifCond .eq 7, 3) := by decide +kernel
theorem dX7_isOn_12 : decode cX7_isOn 12 = .ok (.iconst 1, 1) := by decide +kernel
theorem dX7_isOn_13 : decode cX7_isOn 13 = .ok (.goto 4, 3) := by decide +kernel
theorem dX7_isOn_16 : decode cX7_isOn 16 = .ok (.iconst 0, 1) := by decide +kernel
theorem dX7_isOn_17 : decode cX7_isOn 17 = .ok (.ireturn, 1) := by decide +kernel
theorem cm_X7_isOn : x_CM yX7_isOn cX7_isOn 3 (Option.some FieldType.boolean) 2 := ⟨w_5_212, w_1_6, by decide +kernel, by decide +kernel⟩
theorem ci_X7_isOn : x_CI yX7_isOn 9 := ⟨w_5_210, w_5_211, (RX7, TX7, 6), rfl, rfl⟩
set_option maxRecDepth 100000 in
set_option maxHeartbeats 4000000 in
theorem bX7_isOn_17 {V : x_J} {ad : Nat → Nat} {Q : Int32 → x_S → x_L → Prop} (X : x_Is V cX7_isOn 3 RX7 (Option.some FieldType.boolean) ad dsX 1 (x_PI Q)) {s0 : Int32} {σ : x_S} {τ : x_L} (h : wX7_isOn_17 Q s0 σ τ) : V σ τ 17 [] [.int s0] := by
  exact x_zret X dX7_isOn_17 ⟨h.1, _, rfl, h.2⟩
set_option maxRecDepth 100000 in
set_option maxHeartbeats 4000000 in
theorem kX7_isOn {ad : Nat → Nat} {a1 : Int32} {a2 : Int32} {σ : x_S} {τ : x_L} {Q : Int32 → x_S → x_L → Prop} (h : wX7_isOn a1 a2 σ τ Q) : x_Met yX7_isOn cX7_isOn 3 (Option.some FieldType.boolean) 1 ad dsX [.ref (ad 27), .int a1, .int a2] σ τ (x_PI Q) := by
  refine x_met (by decide +kernel) (Nat.le_of_ble_eq_true rfl) (fun V X => ?_)
  have X : x_Is V cX7_isOn 3 RX7 (Option.some FieldType.boolean) ad dsX 1 (x_PI Q) := X
  show V σ τ 0 [(0, .ref (ad 27)), (1, .int a1), (2, .int a2)] []
  refine x_aload_n X dX7_isOn_0 rfl 0 rfl ?_
  refine x_iload_n X dX7_isOn_1 rfl 2 rfl ?_
  refine x_callVi X [.int a2] [] dX7_isOn_2 (kX7_trucksOn h) cm_X7_trucksOn ci_X7_trucksOn w_5_213 dsX_27 ⟨by decide, by decide⟩ rfl (Nat.le_of_ble_eq_true rfl) (fun r2 σ2 τ2 h => ?_)
  refine x_iload_n X dX7_isOn_5 rfl 1 rfl ?_
  refine x_ishr X dX7_isOn_6 ?_
  refine x_iconst X dX7_isOn_7 ki_1 ?_
  refine x_iand X dX7_isOn_8 ?_
  refine x_if_eq X 16 dX7_isOn_9 (by decide) (fun hc => ?_) (fun hc => ?_)
  · have h := h.1 hc
    refine x_iconst X dX7_isOn_16 ki_0 ?_
    refine x_sub X [] (lv' := []) rfl ?_
    exact bX7_isOn_17 X h
  · have h := h.2 hc
    refine x_iconst X dX7_isOn_12 ki_1 ?_
    refine x_goto X (tgt := 17) dX7_isOn_13 (by decide) ?_
    refine x_sub X [] (lv' := []) rfl ?_
    exact bX7_isOn_17 X h
theorem dX8_word_0 : decode cX8_word 0 = .ok (.aload_n 0, 1) := by decide +kernel
theorem dX8_word_1 : decode cX8_word 1 = .ok (.getfield 15, 3) := by decide +kernel
theorem dX8_word_4 : decode cX8_word 4 = .ok (.iload_n 1, 1) := by decide +kernel
theorem dX8_word_5 : decode cX8_word 5 = .ok (.iaload, 1) := by decide +kernel
theorem dX8_word_6 : decode cX8_word 6 = .ok (.ireturn, 1) := by decide +kernel
theorem cm_X8_word : x_CM yX8_word cX8_word 2 (Option.some FieldType.int) 1 := ⟨w_4_89, w_1_5, by decide +kernel, by decide +kernel⟩
theorem ci_X8_word : x_CI yX8_word 10 := ⟨w_4_87, w_4_88, (RX8, TX8, 3), rfl, rfl⟩
set_option maxRecDepth 100000 in
set_option maxHeartbeats 4000000 in
theorem kX8_word {ad : Nat → Nat} {a1 : Int32} {σ : x_S} {τ : x_L} {Q : Int32 → x_S → x_L → Prop} (h : wX8_word a1 σ τ Q) : x_Met yX8_word cX8_word 2 (Option.some FieldType.int) 0 ad dsX [.ref (ad 24), .int a1] σ τ (x_PI Q) := by
  refine x_met (by decide +kernel) (Nat.le_of_ble_eq_true rfl) (fun V X => ?_)
  have X : x_Is V cX8_word 2 RX8 (Option.some FieldType.int) ad dsX 0 (x_PI Q) := X
  show V σ τ 0 [(0, .ref (ad 24)), (1, .int a1)] []
  refine x_aload_n X dX8_word_0 rfl 0 rfl ?_
  refine x_getR X (j := 25) dX8_word_1 fl_8_15 dsX_24 rfl ?_
  refine x_iload_n X dX8_word_4 rfl 1 rfl ?_
  have g5 := h.1
  have h := h.2
  refine x_iald X dX8_word_5 dsX_25 g5 ?_
  exact x_iret X dX8_word_6 ⟨_, rfl, h⟩
theorem dX8_argument_0 : decode cX8_argument 0 = .ok (.aload_n 0, 1) := by decide +kernel
theorem dX8_argument_1 : decode cX8_argument 1 = .ok (.getfield 19, 3) := by decide +kernel
theorem dX8_argument_4 : decode cX8_argument 4 = .ok (.iload_n 1, 1) := by decide +kernel
theorem dX8_argument_5 : decode cX8_argument 5 = .ok (.iconst 3, 1) := by decide +kernel
theorem dX8_argument_6 : decode cX8_argument 6 = .ok (.imul, 1) := by decide +kernel
theorem dX8_argument_7 : decode cX8_argument 7 = .ok (.iload_n 2, 1) := by decide +kernel
theorem dX8_argument_8 : decode cX8_argument 8 = .ok (.iadd, 1) := by decide +kernel
theorem dX8_argument_9 : decode cX8_argument 9 = .ok (.iaload, 1) := by decide +kernel
theorem dX8_argument_10 : decode cX8_argument 10 = .ok (.ireturn, 1) := by decide +kernel
theorem cm_X8_argument : x_CM yX8_argument cX8_argument 3 (Option.some FieldType.int) 2 := ⟨w_4_93, w_1_5, by decide +kernel, by decide +kernel⟩
theorem ci_X8_argument : x_CI yX8_argument 10 := ⟨w_4_91, w_4_92, (RX8, TX8, 3), rfl, rfl⟩
set_option maxRecDepth 100000 in
set_option maxHeartbeats 4000000 in
theorem kX8_argument {ad : Nat → Nat} {a1 : Int32} {a2 : Int32} {σ : x_S} {τ : x_L} {Q : Int32 → x_S → x_L → Prop} (h : wX8_argument a1 a2 σ τ Q) : x_Met yX8_argument cX8_argument 3 (Option.some FieldType.int) 0 ad dsX [.ref (ad 24), .int a1, .int a2] σ τ (x_PI Q) := by
  refine x_met (by decide +kernel) (Nat.le_of_ble_eq_true rfl) (fun V X => ?_)
  have X : x_Is V cX8_argument 3 RX8 (Option.some FieldType.int) ad dsX 0 (x_PI Q) := X
  show V σ τ 0 [(0, .ref (ad 24)), (1, .int a1), (2, .int a2)] []
  refine x_aload_n X dX8_argument_0 rfl 0 rfl ?_
  refine x_getR X (j := 26) dX8_argument_1 fl_8_19 dsX_24 rfl ?_
  refine x_iload_n X dX8_argument_4 rfl 1 rfl ?_
  refine x_iconst X dX8_argument_5 ki_3 ?_
  refine x_imul X dX8_argument_6 ?_
  refine x_iload_n X dX8_argument_7 rfl 2 rfl ?_
  refine x_iadd X dX8_argument_8 ?_
  have g9 := h.1
  have h := h.2
  refine x_iald X dX8_argument_9 dsX_26 g9 ?_
  exact x_iret X dX8_argument_10 ⟨_, rfl, h⟩
theorem dX8_commandWord_0 : decode cX8_commandWord 0 = .ok (.aload_n 0, 1) := by decide +kernel
theorem dX8_commandWord_1 : decode cX8_commandWord 1 = .ok (.ldc 46, 2) := by decide +kernel
theorem dX8_commandWord_3 : decode cX8_commandWord 3 = .ok (.invokevirtual 48, 3) := by decide +kernel
theorem dX8_commandWord_6 : decode cX8_commandWord 6 = .ok (.ifCond .eq 5, 3) := by decide +kernel
theorem dX8_commandWord_9 : decode cX8_commandWord 9 = .ok (.iconst 0, 1) := by decide +kernel
theorem dX8_commandWord_10 : decode cX8_commandWord 10 = .ok (.ireturn, 1) := by decide +kernel
theorem dX8_commandWord_11 : decode cX8_commandWord 11 = .ok (.aload_n 0, 1) := by decide +kernel
theorem dX8_commandWord_12 : decode cX8_commandWord 12 = .ok (.ldc 52, 2) := by decide +kernel
theorem dX8_commandWord_14 : decode cX8_commandWord 14 = .ok (.invokevirtual 48, 3) := by decide +kernel
theorem dX8_commandWord_17 : decode cX8_commandWord 17 = .ok (.ifCond .eq 5, 3) := by decide +kernel
theorem dX8_commandWord_20 : decode cX8_commandWord 20 = .ok (.iconst 1, 1) := by decide +kernel
theorem dX8_commandWord_21 : decode cX8_commandWord 21 = .ok (.ireturn, 1) := by decide +kernel
theorem dX8_commandWord_22 : decode cX8_commandWord 22 = .ok (.aload_n 0, 1) := by decide +kernel
theorem dX8_commandWord_23 : decode cX8_commandWord 23 = .ok (.ldc 54, 2) := by decide +kernel
theorem dX8_commandWord_25 : decode cX8_commandWord 25 = .ok (.invokevirtual 48, 3) := by decide +kernel
theorem dX8_commandWord_28 : decode cX8_commandWord 28 = .ok (.ifCond .eq 5, 3) := by decide +kernel
theorem dX8_commandWord_31 : decode cX8_commandWord 31 = .ok (.iconst 2, 1) := by decide +kernel
theorem dX8_commandWord_32 : decode cX8_commandWord 32 = .ok (.ireturn, 1) := by decide +kernel
theorem dX8_commandWord_33 : decode cX8_commandWord 33 = .ok (.aload_n 0, 1) := by decide +kernel
theorem dX8_commandWord_34 : decode cX8_commandWord 34 = .ok (.ldc 56, 2) := by decide +kernel
theorem dX8_commandWord_36 : decode cX8_commandWord 36 = .ok (.invokevirtual 48, 3) := by decide +kernel
theorem dX8_commandWord_39 : decode cX8_commandWord 39 = .ok (.ifCond .eq 5, 3) := by decide +kernel
theorem dX8_commandWord_42 : decode cX8_commandWord 42 = .ok (.iconst 3, 1) := by decide +kernel
theorem dX8_commandWord_43 : decode cX8_commandWord 43 = .ok (.ireturn, 1) := by decide +kernel
theorem dX8_commandWord_44 : decode cX8_commandWord 44 = .ok (.aload_n 0, 1) := by decide +kernel
theorem dX8_commandWord_45 : decode cX8_commandWord 45 = .ok (.ldc 58, 2) := by decide +kernel
theorem dX8_commandWord_47 : decode cX8_commandWord 47 = .ok (.invokevirtual 48, 3) := by decide +kernel
theorem dX8_commandWord_50 : decode cX8_commandWord 50 = .ok (.ifCond .eq 5, 3) := by decide +kernel
theorem dX8_commandWord_53 : decode cX8_commandWord 53 = .ok (.iconst 4, 1) := by decide +kernel
theorem dX8_commandWord_54 : decode cX8_commandWord 54 = .ok (.ireturn, 1) := by decide +kernel
theorem dX8_commandWord_55 : decode cX8_commandWord 55 = .ok (.aload_n 0, 1) := by decide +kernel
theorem dX8_commandWord_56 : decode cX8_commandWord 56 = .ok (.ldc 60, 2) := by decide +kernel
theorem dX8_commandWord_58 : decode cX8_commandWord 58 = .ok (.invokevirtual 48, 3) := by decide +kernel
theorem dX8_commandWord_61 : decode cX8_commandWord 61 = .ok (.ifCond .eq 5, 3) := by decide +kernel
theorem dX8_commandWord_64 : decode cX8_commandWord 64 = .ok (.iconst 5, 1) := by decide +kernel
theorem dX8_commandWord_65 : decode cX8_commandWord 65 = .ok (.ireturn, 1) := by decide +kernel
theorem dX8_commandWord_66 : decode cX8_commandWord 66 = .ok (.aload_n 0, 1) := by decide +kernel
theorem dX8_commandWord_67 : decode cX8_commandWord 67 = .ok (.ldc 62, 2) := by decide +kernel
theorem dX8_commandWord_69 : decode cX8_commandWord 69 = .ok (.invokevirtual 48, 3) := by decide +kernel
theorem dX8_commandWord_72 : decode cX8_commandWord 72 = .ok (.ifCond .eq 8, 3) := by decide +kernel
theorem dX8_commandWord_75 : decode cX8_commandWord 75 = .ok (.bipush 6, 2) := by decide +kernel
theorem dX8_commandWord_77 : decode cX8_commandWord 77 = .ok (.goto 4, 3) := by decide +kernel
theorem dX8_commandWord_80 : decode cX8_commandWord 80 = .ok (.iconst (-1), 1) := by decide +kernel
theorem dX8_commandWord_81 : decode cX8_commandWord 81 = .ok (.ireturn, 1) := by decide +kernel
theorem cm_X8_commandWord : x_CM yX8_commandWord cX8_commandWord 1 (Option.some FieldType.int) 1 := ⟨w_4_60, w_1_5, by decide +kernel, by decide +kernel⟩
set_option maxRecDepth 100000 in
set_option maxHeartbeats 4000000 in
theorem bX8_commandWord_81 {V : x_J} {ad : Nat → Nat} {Q : Int32 → x_S → x_L → Prop} (X : x_Is V cX8_commandWord 1 RX8 (Option.some FieldType.int) ad dsX 5 (x_PI Q)) {s0 : Int32} {σ : x_S} {τ : x_L} (h : wX8_commandWord_81 Q s0 σ τ) : V σ τ 81 [] [.int s0] := by
  exact x_iret X dX8_commandWord_81 ⟨_, rfl, h⟩
set_option maxRecDepth 100000 in
set_option maxHeartbeats 4000000 in
theorem kX8_commandWord {ad : Nat → Nat} {σ : x_S} {τ : x_L} {Q : Int32 → x_S → x_L → Prop} (h : wX8_commandWord σ τ Q) : x_Met yX8_commandWord cX8_commandWord 1 (Option.some FieldType.int) 5 ad dsX [.ref (ad 1)] σ τ (x_PI Q) := by
  refine x_met (by decide +kernel) (Nat.le_of_ble_eq_true rfl) (fun V X => ?_)
  have X : x_Is V cX8_commandWord 1 RX8 (Option.some FieldType.int) ad dsX 5 (x_PI Q) := X
  show V σ τ 0 [(0, .ref (ad 1))] []
  refine x_aload_n X dX8_commandWord_0 rfl 0 rfl ?_
  refine x_ldcS X (i := 2) dX8_commandWord_1 (List.mem_of_getElem? (i := 2) rfl) ?_
  refine x_callVi X [.ref (ad (1000 + 2))] [] dX8_commandWord_3 (kX9_isWord (by decide) h) cm_X9_isWord ci_X9_isWord w_4_62 dsX_1 ⟨by decide, by decide⟩ rfl (Nat.le_of_ble_eq_true rfl) (fun r3 σ3 τ3 h => ?_)
  refine x_if_eq X 11 dX8_commandWord_6 (by decide) (fun hc => ?_) (fun hc => ?_)
  · have h := h.1 hc
    refine x_aload_n X dX8_commandWord_11 rfl 0 rfl ?_
    refine x_ldcS X (i := 3) dX8_commandWord_12 (List.mem_of_getElem? (i := 3) rfl) ?_
    refine x_callVi X [.ref (ad (1000 + 3))] [] dX8_commandWord_14 (kX9_isWord (by decide) h) cm_X9_isWord ci_X9_isWord w_4_62 dsX_1 ⟨by decide, by decide⟩ rfl (Nat.le_of_ble_eq_true rfl) (fun r14 σ14 τ14 h => ?_)
    refine x_if_eq X 22 dX8_commandWord_17 (by decide) (fun hc => ?_) (fun hc => ?_)
    · have h := h.1 hc
      refine x_aload_n X dX8_commandWord_22 rfl 0 rfl ?_
      refine x_ldcS X (i := 4) dX8_commandWord_23 (List.mem_of_getElem? (i := 4) rfl) ?_
      refine x_callVi X [.ref (ad (1000 + 4))] [] dX8_commandWord_25 (kX9_isWord (by decide) h) cm_X9_isWord ci_X9_isWord w_4_62 dsX_1 ⟨by decide, by decide⟩ rfl (Nat.le_of_ble_eq_true rfl) (fun r25 σ25 τ25 h => ?_)
      refine x_if_eq X 33 dX8_commandWord_28 (by decide) (fun hc => ?_) (fun hc => ?_)
      · have h := h.1 hc
        refine x_aload_n X dX8_commandWord_33 rfl 0 rfl ?_
        refine x_ldcS X (i := 5) dX8_commandWord_34 (List.mem_of_getElem? (i := 5) rfl) ?_
        refine x_callVi X [.ref (ad (1000 + 5))] [] dX8_commandWord_36 (kX9_isWord (by decide) h) cm_X9_isWord ci_X9_isWord w_4_62 dsX_1 ⟨by decide, by decide⟩ rfl (Nat.le_of_ble_eq_true rfl) (fun r36 σ36 τ36 h => ?_)
        refine x_if_eq X 44 dX8_commandWord_39 (by decide) (fun hc => ?_) (fun hc => ?_)
        · have h := h.1 hc
          refine x_aload_n X dX8_commandWord_44 rfl 0 rfl ?_
          refine x_ldcS X (i := 6) dX8_commandWord_45 (List.mem_of_getElem? (i := 6) rfl) ?_
          refine x_callVi X [.ref (ad (1000 + 6))] [] dX8_commandWord_47 (kX9_isWord (by decide) h) cm_X9_isWord ci_X9_isWord w_4_62 dsX_1 ⟨by decide, by decide⟩ rfl (Nat.le_of_ble_eq_true rfl) (fun r47 σ47 τ47 h => ?_)
          refine x_if_eq X 55 dX8_commandWord_50 (by decide) (fun hc => ?_) (fun hc => ?_)
          · have h := h.1 hc
            refine x_aload_n X dX8_commandWord_55 rfl 0 rfl ?_
            refine x_ldcS X (i := 7) dX8_commandWord_56 (List.mem_of_getElem? (i := 7) rfl) ?_
            refine x_callVi X [.ref (ad (1000 + 7))] [] dX8_commandWord_58 (kX9_isWord (by decide) h) cm_X9_isWord ci_X9_isWord w_4_62 dsX_1 ⟨by decide, by decide⟩ rfl (Nat.le_of_ble_eq_true rfl) (fun r58 σ58 τ58 h => ?_)
            refine x_if_eq X 66 dX8_commandWord_61 (by decide) (fun hc => ?_) (fun hc => ?_)
            · have h := h.1 hc
              refine x_aload_n X dX8_commandWord_66 rfl 0 rfl ?_
              refine x_ldcS X (i := 8) dX8_commandWord_67 (List.mem_of_getElem? (i := 8) rfl) ?_
              refine x_callVi X [.ref (ad (1000 + 8))] [] dX8_commandWord_69 (kX9_isWord (by decide) h) cm_X9_isWord ci_X9_isWord w_4_62 dsX_1 ⟨by decide, by decide⟩ rfl (Nat.le_of_ble_eq_true rfl) (fun r69 σ69 τ69 h => ?_)
              refine x_if_eq X 80 dX8_commandWord_72 (by decide) (fun hc => ?_) (fun hc => ?_)
              · have h := h.1 hc
                refine x_iconst X dX8_commandWord_80 ki_m1 ?_
                refine x_sub X [] (lv' := []) rfl ?_
                exact bX8_commandWord_81 X h
              · have h := h.2 hc
                refine x_bipush X dX8_commandWord_75 kb_6 ?_
                refine x_goto X (tgt := 81) dX8_commandWord_77 (by decide) ?_
                refine x_sub X [] (lv' := []) rfl ?_
                exact bX8_commandWord_81 X h
            · have h := h.2 hc
              refine x_iconst X dX8_commandWord_64 ki_5 ?_
              exact x_iret X dX8_commandWord_65 ⟨_, rfl, h⟩
          · have h := h.2 hc
            refine x_iconst X dX8_commandWord_53 ki_4 ?_
            exact x_iret X dX8_commandWord_54 ⟨_, rfl, h⟩
        · have h := h.2 hc
          refine x_iconst X dX8_commandWord_42 ki_3 ?_
          exact x_iret X dX8_commandWord_43 ⟨_, rfl, h⟩
      · have h := h.2 hc
        refine x_iconst X dX8_commandWord_31 ki_2 ?_
        exact x_iret X dX8_commandWord_32 ⟨_, rfl, h⟩
    · have h := h.2 hc
      refine x_iconst X dX8_commandWord_20 ki_1 ?_
      exact x_iret X dX8_commandWord_21 ⟨_, rfl, h⟩
  · have h := h.2 hc
    refine x_iconst X dX8_commandWord_9 ki_0 ?_
    exact x_iret X dX8_commandWord_10 ⟨_, rfl, h⟩
theorem dX8_argumentsOf_0 : decode cX8_argumentsOf 0 = .ok (.iload_n 0, 1) := by decide +kernel
theorem dX8_argumentsOf_1 : decode cX8_argumentsOf 1 = .ok (.tableswitch 45 0 5 #[39, 39, 41, 41, 43, 43], 39) := by decide +kernel
theorem dX8_argumentsOf_40 : decode cX8_argumentsOf 40 = .ok (.iconst 3, 1) := by decide +kernel
theorem dX8_argumentsOf_41 : decode cX8_argumentsOf 41 = .ok (.ireturn, 1) := by decide +kernel
theorem dX8_argumentsOf_42 : decode cX8_argumentsOf 42 = .ok (.iconst 2, 1) := by decide +kernel
theorem dX8_argumentsOf_43 : decode cX8_argumentsOf 43 = .ok (.ireturn, 1) := by decide +kernel
theorem dX8_argumentsOf_44 : decode cX8_argumentsOf 44 = .ok (.iconst 1, 1) := by decide +kernel
theorem dX8_argumentsOf_45 : decode cX8_argumentsOf 45 = .ok (.ireturn, 1) := by decide +kernel
theorem dX8_argumentsOf_46 : decode cX8_argumentsOf 46 = .ok (.iconst 0, 1) := by decide +kernel
theorem dX8_argumentsOf_47 : decode cX8_argumentsOf 47 = .ok (.ireturn, 1) := by decide +kernel
theorem cm_X8_argumentsOf : x_CM yX8_argumentsOf cX8_argumentsOf 1 (Option.some FieldType.int) 1 := ⟨w_4_76, w_1_5, by decide +kernel, by decide +kernel⟩
set_option maxRecDepth 100000 in
set_option maxHeartbeats 4000000 in
theorem bX8_argumentsOf_40 {V : x_J} {ad : Nat → Nat} {Q : Int32 → x_S → x_L → Prop} (X : x_Is V cX8_argumentsOf 1 RX8 (Option.some FieldType.int) ad dsX 0 (x_PI Q)) {σ : x_S} {τ : x_L} (h : wX8_argumentsOf_40 Q σ τ) : V σ τ 40 [] [] := by
  refine x_iconst X dX8_argumentsOf_40 ki_3 ?_
  exact x_iret X dX8_argumentsOf_41 ⟨_, rfl, h⟩
set_option maxRecDepth 100000 in
set_option maxHeartbeats 4000000 in
theorem bX8_argumentsOf_42 {V : x_J} {ad : Nat → Nat} {Q : Int32 → x_S → x_L → Prop} (X : x_Is V cX8_argumentsOf 1 RX8 (Option.some FieldType.int) ad dsX 0 (x_PI Q)) {σ : x_S} {τ : x_L} (h : wX8_argumentsOf_42 Q σ τ) : V σ τ 42 [] [] := by
  refine x_iconst X dX8_argumentsOf_42 ki_2 ?_
  exact x_iret X dX8_argumentsOf_43 ⟨_, rfl, h⟩
set_option maxRecDepth 100000 in
set_option maxHeartbeats 4000000 in
theorem bX8_argumentsOf_44 {V : x_J} {ad : Nat → Nat} {Q : Int32 → x_S → x_L → Prop} (X : x_Is V cX8_argumentsOf 1 RX8 (Option.some FieldType.int) ad dsX 0 (x_PI Q)) {σ : x_S} {τ : x_L} (h : wX8_argumentsOf_44 Q σ τ) : V σ τ 44 [] [] := by
  refine x_iconst X dX8_argumentsOf_44 ki_1 ?_
  exact x_iret X dX8_argumentsOf_45 ⟨_, rfl, h⟩
set_option maxRecDepth 100000 in
set_option maxHeartbeats 4000000 in
theorem kX8_argumentsOf {ad : Nat → Nat} {a0 : Int32} {σ : x_S} {τ : x_L} {Q : Int32 → x_S → x_L → Prop} (h : wX8_argumentsOf a0 σ τ Q) : x_Met yX8_argumentsOf cX8_argumentsOf 1 (Option.some FieldType.int) 0 ad dsX [.int a0] σ τ (x_PI Q) := by
  refine x_met (by decide +kernel) (Nat.le_of_ble_eq_true rfl) (fun V X => ?_)
  have X : x_Is V cX8_argumentsOf 1 RX8 (Option.some FieldType.int) ad dsX 0 (x_PI Q) := X
  show V σ τ 0 [(0, .int a0)] []
  refine x_iload_n X dX8_argumentsOf_0 rfl 0 rfl ?_
  by_cases hc0 : a0 = 0
  · have h := h.1 hc0
    refine x_tin X 0 40 hc0 dX8_argumentsOf_1 (by decide) (by decide) (off := 39) (by decide) (by decide) ?_
    refine x_sub X [] (lv' := []) rfl ?_
    exact bX8_argumentsOf_40 X h
  have h := h.2
  by_cases hc1 : a0 = 1
  · have h := h.1 hc1
    refine x_tin X 1 40 hc1 dX8_argumentsOf_1 (by decide) (by decide) (off := 39) (by decide) (by decide) ?_
    refine x_sub X [] (lv' := []) rfl ?_
    exact bX8_argumentsOf_40 X h
  have h := h.2
  by_cases hc2 : a0 = 2
  · have h := h.1 hc2
    refine x_tin X 2 42 hc2 dX8_argumentsOf_1 (by decide) (by decide) (off := 41) (by decide) (by decide) ?_
    refine x_sub X [] (lv' := []) rfl ?_
    exact bX8_argumentsOf_42 X h
  have h := h.2
  by_cases hc3 : a0 = 3
  · have h := h.1 hc3
    refine x_tin X 3 42 hc3 dX8_argumentsOf_1 (by decide) (by decide) (off := 41) (by decide) (by decide) ?_
    refine x_sub X [] (lv' := []) rfl ?_
    exact bX8_argumentsOf_42 X h
  have h := h.2
  by_cases hc4 : a0 = 4
  · have h := h.1 hc4
    refine x_tin X 4 44 hc4 dX8_argumentsOf_1 (by decide) (by decide) (off := 43) (by decide) (by decide) ?_
    refine x_sub X [] (lv' := []) rfl ?_
    exact bX8_argumentsOf_44 X h
  have h := h.2
  by_cases hc5 : a0 = 5
  · have h := h.1 hc5
    refine x_tin X 5 44 hc5 dX8_argumentsOf_1 (by decide) (by decide) (off := 43) (by decide) (by decide) ?_
    refine x_sub X [] (lv' := []) rfl ?_
    exact bX8_argumentsOf_44 X h
  have h := h.2
  have he0 := x_toInt_ne (n := 0) hc0 (by decide)
  have he1 := x_toInt_ne (n := 1) hc1 (by decide)
  have he2 := x_toInt_ne (n := 2) hc2 (by decide)
  have he3 := x_toInt_ne (n := 3) hc3 (by decide)
  have he4 := x_toInt_ne (n := 4) hc4 (by decide)
  have he5 := x_toInt_ne (n := 5) hc5 (by decide)
  have h := h hc0 hc1 hc2 hc3 hc4 hc5
  refine x_tout X 46 dX8_argumentsOf_1 (by omega) (by decide) ?_
  refine x_iconst X dX8_argumentsOf_46 ki_0 ?_
  exact x_iret X dX8_argumentsOf_47 ⟨_, rfl, h⟩
theorem dX8_mostOf_0 : decode cX8_mostOf 0 = .ok (.iload_n 1, 1) := by decide +kernel
theorem dX8_mostOf_1 : decode cX8_mostOf 1 = .ok (.ifCond .eq 8, 3) := by decide +kernel
theorem dX8_mostOf_4 : decode cX8_mostOf 4 = .ok (.iload_n 0, 1) := by decide +kernel
theorem dX8_mostOf_5 : decode cX8_mostOf 5 = .ok (.iconst 3, 1) := by decide +kernel
theorem dX8_mostOf_6 : decode cX8_mostOf 6 = .ok (.if_icmp .ne 6, 3) := by decide +kernel
theorem dX8_mostOf_9 : decode cX8_mostOf 9 = .ok (.bipush 11, 2) := by decide +kernel
theorem dX8_mostOf_11 : decode cX8_mostOf 11 = .ok (.ireturn, 1) := by decide +kernel
theorem dX8_mostOf_12 : decode cX8_mostOf 12 = .ok (.iload_n 0, 1) := by decide +kernel
theorem dX8_mostOf_13 : decode cX8_mostOf 13 = .ok (.iconst 2, 1) := by decide +kernel
theorem dX8_mostOf_14 : decode cX8_mostOf 14 = .ok (.if_icmp .ne 7, 3) := by decide +kernel
theorem dX8_mostOf_17 : decode cX8_mostOf 17 = .ok (.sipush 2000, 3) := by decide +kernel
theorem dX8_mostOf_20 : decode cX8_mostOf 20 = .ok (.ireturn, 1) := by decide +kernel
theorem dX8_mostOf_21 : decode cX8_mostOf 21 = .ok (.iload_n 1, 1) := by decide +kernel
theorem dX8_mostOf_22 : decode cX8_mostOf 22 = .ok (.iconst 1, 1) := by decide +kernel
theorem dX8_mostOf_23 : decode cX8_mostOf 23 = .ok (.if_icmp .ne 6, 3) := by decide +kernel
theorem dX8_mostOf_26 : decode cX8_mostOf 26 = .ok (.bipush 9, 2) := by decide +kernel
theorem dX8_mostOf_28 : decode cX8_mostOf 28 = .ok (.ireturn, 1) := by decide +kernel
theorem dX8_mostOf_29 : decode cX8_mostOf 29 = .ok (.iload_n 0, 1) := by decide +kernel
theorem dX8_mostOf_30 : decode cX8_mostOf 30 = .ok (.ifCond .ne 8, 3) := by decide +kernel
theorem dX8_mostOf_33 : decode cX8_mostOf 33 = .ok (.bipush 120, 2) := by decide +kernel
theorem dX8_mostOf_35 : decode cX8_mostOf 35 = .ok (.goto 5, 3) := by decide +kernel
theorem dX8_mostOf_38 : decode cX8_mostOf 38 = .ok (.bipush 120, 2) := by decide +kernel
theorem dX8_mostOf_40 : decode cX8_mostOf 40 = .ok (.ireturn, 1) := by decide +kernel
theorem cm_X8_mostOf : x_CM yX8_mostOf cX8_mostOf 2 (Option.some FieldType.int) 2 := ⟨w_4_79, w_1_5, by decide +kernel, by decide +kernel⟩
set_option maxRecDepth 100000 in
set_option maxHeartbeats 4000000 in
theorem bX8_mostOf_9 {V : x_J} {ad : Nat → Nat} {Q : Int32 → x_S → x_L → Prop} (X : x_Is V cX8_mostOf 2 RX8 (Option.some FieldType.int) ad dsX 0 (x_PI Q)) {σ : x_S} {τ : x_L} (h : wX8_mostOf_9 Q σ τ) : V σ τ 9 [] [] := by
  refine x_bipush X dX8_mostOf_9 kb_11 ?_
  exact x_iret X dX8_mostOf_11 ⟨_, rfl, h⟩
set_option maxRecDepth 100000 in
set_option maxHeartbeats 4000000 in
theorem bX8_mostOf_40 {V : x_J} {ad : Nat → Nat} {Q : Int32 → x_S → x_L → Prop} (X : x_Is V cX8_mostOf 2 RX8 (Option.some FieldType.int) ad dsX 0 (x_PI Q)) {s0 : Int32} {σ : x_S} {τ : x_L} (h : wX8_mostOf_40 Q s0 σ τ) : V σ τ 40 [] [.int s0] := by
  exact x_iret X dX8_mostOf_40 ⟨_, rfl, h⟩
set_option maxRecDepth 100000 in
set_option maxHeartbeats 4000000 in
theorem kX8_mostOf {ad : Nat → Nat} {a0 : Int32} {a1 : Int32} {σ : x_S} {τ : x_L} {Q : Int32 → x_S → x_L → Prop} (h : wX8_mostOf a0 a1 σ τ Q) : x_Met yX8_mostOf cX8_mostOf 2 (Option.some FieldType.int) 0 ad dsX [.int a0, .int a1] σ τ (x_PI Q) := by
  refine x_met (by decide +kernel) (Nat.le_of_ble_eq_true rfl) (fun V X => ?_)
  have X : x_Is V cX8_mostOf 2 RX8 (Option.some FieldType.int) ad dsX 0 (x_PI Q) := X
  show V σ τ 0 [(0, .int a0), (1, .int a1)] []
  refine x_iload_n X dX8_mostOf_0 rfl 1 rfl ?_
  refine x_if_eq X 9 dX8_mostOf_1 (by decide) (fun hc => ?_) (fun hc => ?_)
  · have h := h.1 hc
    refine x_sub X [] (lv' := []) rfl ?_
    exact bX8_mostOf_9 X h
  · have h := h.2 hc
    refine x_iload_n X dX8_mostOf_4 rfl 0 rfl ?_
    refine x_iconst X dX8_mostOf_5 ki_3 ?_
    refine x_icmp_ne X 12 dX8_mostOf_6 (by decide) (fun hc => ?_) (fun hc => ?_)
    · have h := h.1 hc
      refine x_iload_n X dX8_mostOf_12 rfl 0 rfl ?_
      refine x_iconst X dX8_mostOf_13 ki_2 ?_
      refine x_icmp_ne X 21 dX8_mostOf_14 (by decide) (fun hc => ?_) (fun hc => ?_)
      · have h := h.1 hc
        refine x_iload_n X dX8_mostOf_21 rfl 1 rfl ?_
        refine x_iconst X dX8_mostOf_22 ki_1 ?_
        refine x_icmp_ne X 29 dX8_mostOf_23 (by decide) (fun hc => ?_) (fun hc => ?_)
        · have h := h.1 hc
          refine x_iload_n X dX8_mostOf_29 rfl 0 rfl ?_
          refine x_if_ne X 38 dX8_mostOf_30 (by decide) (fun hc => ?_) (fun hc => ?_)
          · have h := h.1 hc
            refine x_bipush X dX8_mostOf_38 kb_120 ?_
            refine x_sub X [] (lv' := []) rfl ?_
            exact bX8_mostOf_40 X h
          · have h := h.2 hc
            refine x_bipush X dX8_mostOf_33 kb_120 ?_
            refine x_goto X (tgt := 40) dX8_mostOf_35 (by decide) ?_
            refine x_sub X [] (lv' := []) rfl ?_
            exact bX8_mostOf_40 X h
        · have h := h.2 hc
          refine x_bipush X dX8_mostOf_26 kb_9 ?_
          exact x_iret X dX8_mostOf_28 ⟨_, rfl, h⟩
      · have h := h.2 hc
        refine x_sipush X dX8_mostOf_17 ks_2000 ?_
        exact x_iret X dX8_mostOf_20 ⟨_, rfl, h⟩
    · have h := h.2 hc
      refine x_sub X [] (lv' := []) rfl ?_
      exact bX8_mostOf_9 X h
theorem dX8_readArguments_0 : decode cX8_readArguments 0 = .ok (.aload_n 0, 1) := by decide +kernel
theorem dX8_readArguments_1 : decode cX8_readArguments 1 = .ok (.getfield 15, 3) := by decide +kernel
theorem dX8_readArguments_4 : decode cX8_readArguments 4 = .ok (.iload_n 2, 1) := by decide +kernel
theorem dX8_readArguments_5 : decode cX8_readArguments 5 = .ok (.iaload, 1) := by decide +kernel
theorem dX8_readArguments_6 : decode cX8_readArguments 6 = .ok (.istore_n 3, 1) := by decide +kernel
theorem dX8_readArguments_7 : decode cX8_readArguments 7 = .ok (.iconst 0, 1) := by decide +kernel
theorem dX8_readArguments_8 : decode cX8_readArguments 8 = .ok (.istore 4, 2) := by decide +kernel
theorem dX8_readArguments_10 : decode cX8_readArguments 10 = .ok (.iload 4, 2) := by decide +kernel
theorem dX8_readArguments_12 : decode cX8_readArguments 12 = .ok (.iload_n 3, 1) := by decide +kernel
theorem dX8_readArguments_13 : decode cX8_readArguments 13 = .ok (.invokestatic 64, 3) := by decide +kernel
theorem dX8_readArguments_16 : decode cX8_readArguments 16 = .ok (.if_icmp .ge 60, 3) := by decide +kernel
theorem dX8_readArguments_19 : decode cX8_readArguments 19 = .ok (.iload_n 3, 1) := by decide +kernel
theorem dX8_readArguments_20 : decode cX8_readArguments 20 = .ok (.iconst 1, 1) := by decide +kernel
theorem dX8_readArguments_21 : decode cX8_readArguments 21 = .ok (.if_icmp .ne 14, 3) := by decide +kernel
theorem dX8_readArguments_24 : decode cX8_readArguments 24 = .ok (.iload 4, 2) := by decide +kernel
theorem dX8_readArguments_26 : decode cX8_readArguments 26 = .ok (.iconst 2, 1) := by decide +kernel
theorem dX8_readArguments_27 : decode cX8_readArguments 27 = .ok (.if_icmp .ne 8, 3) := by decide +kernel
theorem dX8_readArguments_30 : decode cX8_readArguments 30 = .ok (.bipush 40, 2) := by decide +kernel
theorem dX8_readArguments_32 : decode cX8_readArguments 32 = .ok (.goto 4, 3) := by decide +kernel
theorem dX8_readArguments_35 : decode cX8_readArguments 35 = .ok (.iconst 0, 1) := by decide +kernel
theorem dX8_readArguments_36 : decode cX8_readArguments 36 = .ok (.istore 5, 2) := by decide +kernel
theorem dX8_readArguments_38 : decode cX8_readArguments 38 = .ok (.aload_n 1, 1) := by decide +kernel
theorem dX8_readArguments_39 : decode cX8_readArguments 39 = .ok (.iload 5, 2) := by decide +kernel
theorem dX8_readArguments_41 : decode cX8_readArguments 41 = .ok (.iload_n 3, 1) := by decide +kernel
theorem dX8_readArguments_42 : decode cX8_readArguments 42 = .ok (.iload 4, 2) := by decide +kernel
theorem dX8_readArguments_44 : decode cX8_readArguments 44 = .ok (.invokestatic 68, 3) := by decide +kernel
theorem dX8_readArguments_47 : decode cX8_readArguments 47 = .ok (.invokevirtual 72, 3) := by decide +kernel
theorem dX8_readArguments_50 : decode cX8_readArguments 50 = .ok (.ifCond .ne 5, 3) := by decide +kernel
theorem dX8_readArguments_53 : decode cX8_readArguments 53 = .ok (.iconst 0, 1) := by decide +kernel
theorem dX8_readArguments_54 : decode cX8_readArguments 54 = .ok (.ireturn, 1) := by decide +kernel
theorem dX8_readArguments_55 : decode cX8_readArguments 55 = .ok (.aload_n 0, 1) := by decide +kernel
theorem dX8_readArguments_56 : decode cX8_readArguments 56 = .ok (.getfield 19, 3) := by decide +kernel
theorem dX8_readArguments_59 : decode cX8_readArguments 59 = .ok (.iload_n 2, 1) := by decide +kernel
theorem dX8_readArguments_60 : decode cX8_readArguments 60 = .ok (.iconst 3, 1) := by decide +kernel
theorem dX8_readArguments_61 : decode cX8_readArguments 61 = .ok (.imul, 1) := by decide +kernel
theorem dX8_readArguments_62 : decode cX8_readArguments 62 = .ok (.iload 4, 2) := by decide +kernel
theorem dX8_readArguments_64 : decode cX8_readArguments 64 = .ok (.iadd, 1) := by decide +kernel
theorem dX8_readArguments_65 : decode cX8_readArguments 65 = .ok (.aload_n 1, 1) := by decide +kernel
theorem dX8_readArguments_66 : decode cX8_readArguments 66 = .ok (.getfield 76, 3) := by decide +kernel
theorem dX8_readArguments_69 : decode cX8_readArguments 69 = .ok (.iastore, 1) := by decide +kernel
theorem dX8_readArguments_70 : decode cX8_readArguments 70 = .ok (.iinc 4 1, 3) := by decide +kernel
theorem dX8_readArguments_73 : decode cX8_readArguments 73 = .ok (.goto (-63), 3) := by decide +kernel
theorem dX8_readArguments_76 : decode cX8_readArguments 76 = .ok (.iconst 1, 1) := by decide +kernel
theorem dX8_readArguments_77 : decode cX8_readArguments 77 = .ok (.ireturn, 1) := by decide +kernel
theorem cm_X8_readArguments : x_CM yX8_readArguments cX8_readArguments 6 (Option.some FieldType.boolean) 2 := ⟨w_4_73, w_1_5, by decide +kernel, by decide +kernel⟩
theorem ci_X8_readArguments : x_CI yX8_readArguments 10 := ⟨w_4_72, wp_22, (RX8, TX8, 3), rfl, rfl⟩
set_option maxRecDepth 100000 in
set_option maxHeartbeats 4000000 in
theorem bX8_readArguments_36 {V : x_J} {ad : Nat → Nat} {Q : Int32 → x_S → x_L → Prop} (X : x_Is V cX8_readArguments 6 RX8 (Option.some FieldType.boolean) ad dsX 4 (x_PI Q)) {K10 : Int32 → Int32 → Int32 → x_S → x_L → Prop} (hK10 : ∀ v2 v3 v4 σ τ, K10 v2 v3 v4 σ τ → V σ τ 10 [(0, .ref (ad 24)), (1, .ref (ad 1)), (2, .int v2), (3, .int v3), (4, .int v4)] []) {v2 : Int32} {v3 : Int32} {v4 : Int32} {s0 : Int32} {σ : x_S} {τ : x_L} (h : wX8_readArguments_36 K10 Q v2 v3 v4 s0 σ τ) : V σ τ 36 [(0, .ref (ad 24)), (1, .ref (ad 1)), (2, .int v2), (3, .int v3), (4, .int v4)] [.int s0] := by
  refine x_istore X (lv' := [(5, .int s0), (0, .ref (ad 24)), (1, .ref (ad 1)), (2, .int v2), (3, .int v3), (4, .int v4)]) dX8_readArguments_36 (by decide) rfl ?_
  refine x_aload_n X dX8_readArguments_38 rfl 2 rfl ?_
  refine x_iload X dX8_readArguments_39 0 rfl ?_
  refine x_iload_n X dX8_readArguments_41 rfl 4 rfl ?_
  refine x_iload X dX8_readArguments_42 5 rfl ?_
  refine x_callSi X [.int v3, .int v4] [.int s0, .ref (ad 1)] dX8_readArguments_44 (kX8_mostOf h) cm_X8_mostOf w_4_78 rfl w_4_77 ⟨by decide, by decide⟩ rfl (Nat.le_of_ble_eq_true rfl) (fun r44 σ44 τ44 h => ?_)
  refine x_callVi X [.int s0, .int r44] [] dX8_readArguments_47 (kX9_readNumber h) cm_X9_readNumber ci_X9_readNumber w_4_80 dsX_1 ⟨by decide, by decide⟩ rfl (Nat.le_of_ble_eq_true rfl) (fun r47 σ47 τ47 h => ?_)
  refine x_if_ne X 55 dX8_readArguments_50 (by decide) (fun hc => ?_) (fun hc => ?_)
  · have h := h.1 hc
    refine x_aload_n X dX8_readArguments_55 rfl 1 rfl ?_
    refine x_getR X (j := 26) dX8_readArguments_56 fl_8_19 dsX_24 rfl ?_
    refine x_iload_n X dX8_readArguments_59 rfl 3 rfl ?_
    refine x_iconst X dX8_readArguments_60 ki_3 ?_
    refine x_imul X dX8_readArguments_61 ?_
    refine x_iload X dX8_readArguments_62 5 rfl ?_
    refine x_iadd X dX8_readArguments_64 ?_
    refine x_aload_n X dX8_readArguments_65 rfl 2 rfl ?_
    refine x_getI X dX8_readArguments_66 fl_8_76 dsX_1 rfl ?_
    have g69 := h.1
    have h := h.2
    refine x_iast X dX8_readArguments_69 dsX_26 g69 ?_
    refine x_iinc X (k := 5) (lv' := [(4, .int (v4 + 1)), (5, .int s0), (0, .ref (ad 24)), (1, .ref (ad 1)), (2, .int v2), (3, .int v3)]) dX8_readArguments_70 rfl ki_1 (by decide) rfl ?_
    refine x_goto X (tgt := 10) dX8_readArguments_73 (by decide) ?_
    refine x_sub X [2, 3, 4, 5, 0] (lv' := [(0, .ref (ad 24)), (1, .ref (ad 1)), (2, .int v2), (3, .int v3), (4, .int (v4 + 1))]) rfl ?_
    exact hK10 _ _ _ _ _ h
  · have h := h.2 hc
    refine x_iconst X dX8_readArguments_53 ki_0 ?_
    exact x_zret X dX8_readArguments_54 ⟨Or.inl rfl, _, rfl, h⟩
set_option maxRecDepth 100000 in
set_option maxHeartbeats 4000000 in
theorem bX8_readArguments_35 {V : x_J} {ad : Nat → Nat} {Q : Int32 → x_S → x_L → Prop} (X : x_Is V cX8_readArguments 6 RX8 (Option.some FieldType.boolean) ad dsX 4 (x_PI Q)) {K10 : Int32 → Int32 → Int32 → x_S → x_L → Prop} (hK10 : ∀ v2 v3 v4 σ τ, K10 v2 v3 v4 σ τ → V σ τ 10 [(0, .ref (ad 24)), (1, .ref (ad 1)), (2, .int v2), (3, .int v3), (4, .int v4)] []) {v2 : Int32} {v3 : Int32} {v4 : Int32} {σ : x_S} {τ : x_L} (h : wX8_readArguments_35 K10 Q v2 v3 v4 σ τ) : V σ τ 35 [(0, .ref (ad 24)), (1, .ref (ad 1)), (2, .int v2), (3, .int v3), (4, .int v4)] [] := by
  refine x_iconst X dX8_readArguments_35 ki_0 ?_
  exact bX8_readArguments_36 X hK10 h
set_option maxRecDepth 100000 in
set_option maxHeartbeats 4000000 in
theorem bX8_readArguments_10 {V : x_J} {ad : Nat → Nat} {Q : Int32 → x_S → x_L → Prop} (X : x_Is V cX8_readArguments 6 RX8 (Option.some FieldType.boolean) ad dsX 4 (x_PI Q)) {K10 : Int32 → Int32 → Int32 → x_S → x_L → Prop} (hK10 : ∀ v2 v3 v4 σ τ, K10 v2 v3 v4 σ τ → V σ τ 10 [(0, .ref (ad 24)), (1, .ref (ad 1)), (2, .int v2), (3, .int v3), (4, .int v4)] []) {v2 : Int32} {v3 : Int32} {v4 : Int32} {σ : x_S} {τ : x_L} (h : wX8_readArguments_10 Q K10 v2 v3 v4 σ τ) : V σ τ 10 [(0, .ref (ad 24)), (1, .ref (ad 1)), (2, .int v2), (3, .int v3), (4, .int v4)] [] := by
  refine x_iload X dX8_readArguments_10 4 rfl ?_
  refine x_iload_n X dX8_readArguments_12 rfl 3 rfl ?_
  refine x_callSi X [.int v3] [.int v4] dX8_readArguments_13 (kX8_argumentsOf h) cm_X8_argumentsOf w_4_75 rfl w_4_74 ⟨by decide, by decide⟩ rfl (Nat.le_of_ble_eq_true rfl) (fun r13 σ13 τ13 h => ?_)
  refine x_icmp_ge X 76 dX8_readArguments_16 (by decide) (fun hc => ?_) (fun hc => ?_)
  · have h := h.1 hc
    refine x_iconst X dX8_readArguments_76 ki_1 ?_
    exact x_zret X dX8_readArguments_77 ⟨Or.inr rfl, _, rfl, h⟩
  · have h := h.2 hc
    refine x_iload_n X dX8_readArguments_19 rfl 3 rfl ?_
    refine x_iconst X dX8_readArguments_20 ki_1 ?_
    refine x_icmp_ne X 35 dX8_readArguments_21 (by decide) (fun hc => ?_) (fun hc => ?_)
    · have h := h.1 hc
      exact bX8_readArguments_35 X hK10 h
    · have h := h.2 hc
      refine x_iload X dX8_readArguments_24 4 rfl ?_
      refine x_iconst X dX8_readArguments_26 ki_2 ?_
      refine x_icmp_ne X 35 dX8_readArguments_27 (by decide) (fun hc => ?_) (fun hc => ?_)
      · have h := h.1 hc
        exact bX8_readArguments_35 X hK10 h
      · have h := h.2 hc
        refine x_bipush X dX8_readArguments_30 kb_40 ?_
        refine x_goto X (tgt := 36) dX8_readArguments_32 (by decide) ?_
        exact bX8_readArguments_36 X hK10 h
set_option maxRecDepth 100000 in
set_option maxHeartbeats 4000000 in
theorem kX8_readArguments {ad : Nat → Nat} {a2 : Int32} {σ : x_S} {τ : x_L} {Q : Int32 → x_S → x_L → Prop} (h : wX8_readArguments a2 σ τ Q) : x_Met yX8_readArguments cX8_readArguments 6 (Option.some FieldType.boolean) 4 ad dsX [.ref (ad 24), .ref (ad 1), .int a2] σ τ (x_PI Q) := by
  refine x_met (by decide +kernel) (Nat.le_of_ble_eq_true rfl) (fun V X => ?_)
  have X : x_Is V cX8_readArguments 6 RX8 (Option.some FieldType.boolean) ad dsX 4 (x_PI Q) := X
  show V σ τ 0 [(0, .ref (ad 24)), (1, .ref (ad 1)), (2, .int a2)] []
  refine x_aload_n X dX8_readArguments_0 rfl 0 rfl ?_
  refine x_getR X (j := 25) dX8_readArguments_1 fl_8_15 dsX_24 rfl ?_
  refine x_iload_n X dX8_readArguments_4 rfl 2 rfl ?_
  have g5 := h.1
  have h := h.2
  refine x_iald X dX8_readArguments_5 dsX_25 g5 ?_
  refine x_istore_n X (lv' := [(3, .int (σ 25 a2.toNatClampNeg)), (0, .ref (ad 24)), (1, .ref (ad 1)), (2, .int a2)]) dX8_readArguments_6 rfl (by decide) rfl ?_
  refine x_iconst X dX8_readArguments_7 ki_0 ?_
  refine x_istore X (lv' := [(4, .int 0), (3, .int (σ 25 a2.toNatClampNeg)), (0, .ref (ad 24)), (1, .ref (ad 1)), (2, .int a2)]) dX8_readArguments_8 (by decide) rfl ?_
  refine x_sub X [2, 3, 4, 1, 0] (lv' := [(0, .ref (ad 24)), (1, .ref (ad 1)), (2, .int a2), (3, .int (σ 25 a2.toNatClampNeg)), (4, .int 0)]) rfl ?_
  exact x_l3_G (fun v2 v3 v4 σ τ => V σ τ 10 [(0, .ref (ad 24)), (1, .ref (ad 1)), (2, .int v2), (3, .int v3), (4, .int v4)] []) (fun K10 hK10 v2 v3 v4 σ τ h => bX8_readArguments_10 X hK10 h) h
theorem dX8_read_0 : decode cX8_read 0 = .ok (.aload_n 0, 1) := by decide +kernel
theorem dX8_read_1 : decode cX8_read 1 = .ok (.iconst 0, 1) := by decide +kernel
theorem dX8_read_2 : decode cX8_read 2 = .ok (.putfield 9, 3) := by decide +kernel
theorem dX8_read_5 : decode cX8_read 5 = .ok (.iconst 0, 1) := by decide +kernel
theorem dX8_read_6 : decode cX8_read 6 = .ok (.istore_n 2, 1) := by decide +kernel
theorem dX8_read_7 : decode cX8_read 7 = .ok (.iload_n 2, 1) := by decide +kernel
theorem dX8_read_8 : decode cX8_read 8 = .ok (.bipush 30, 2) := by decide +kernel
theorem dX8_read_10 : decode cX8_read 10 = .ok (.if_icmp .gt 82, 3) := by decide +kernel
theorem dX8_read_13 : decode cX8_read 13 = .ok (.aload_n 1, 1) := by decide +kernel
theorem dX8_read_14 : decode cX8_read 14 = .ok (.invokevirtual 22, 3) := by decide +kernel
theorem dX8_read_17 : decode cX8_read 17 = .ok (.aload_n 1, 1) := by decide +kernel
theorem dX8_read_18 : decode cX8_read 18 = .ok (.getfield 27, 3) := by decide +kernel
theorem dX8_read_21 : decode cX8_read 21 = .ok (.ifCond .ne 5, 3) := by decide +kernel
theorem dX8_read_24 : decode cX8_read 24 = .ok (.iconst 1, 1) := by decide +kernel
theorem dX8_read_25 : decode cX8_read 25 = .ok (.ireturn, 1) := by decide +kernel
theorem dX8_read_26 : decode cX8_read 26 = .ok (.aload_n 1, 1) := by decide +kernel
theorem dX8_read_27 : decode cX8_read 27 = .ok (.invokestatic 30, 3) := by decide +kernel
theorem dX8_read_30 : decode cX8_read 30 = .ok (.istore_n 3, 1) := by decide +kernel
theorem dX8_read_31 : decode cX8_read 31 = .ok (.iload_n 3, 1) := by decide +kernel
theorem dX8_read_32 : decode cX8_read 32 = .ok (.iconst (-1), 1) := by decide +kernel
theorem dX8_read_33 : decode cX8_read 33 = .ok (.if_icmp .ne 9, 3) := by decide +kernel
theorem dX8_read_36 : decode cX8_read 36 = .ok (.aload_n 1, 1) := by decide +kernel
theorem dX8_read_37 : decode cX8_read 37 = .ok (.iconst 1, 1) := by decide +kernel
theorem dX8_read_38 : decode cX8_read 38 = .ok (.invokevirtual 34, 3) := by decide +kernel
theorem dX8_read_41 : decode cX8_read 41 = .ok (.ireturn, 1) := by decide +kernel
theorem dX8_read_42 : decode cX8_read 42 = .ok (.iload_n 2, 1) := by decide +kernel
theorem dX8_read_43 : decode cX8_read 43 = .ok (.bipush 30, 2) := by decide +kernel
theorem dX8_read_45 : decode cX8_read 45 = .ok (.if_icmp .ne 9, 3) := by decide +kernel
theorem dX8_read_48 : decode cX8_read 48 = .ok (.aload_n 1, 1) := by decide +kernel
theorem dX8_read_49 : decode cX8_read 49 = .ok (.iconst 4, 1) := by decide +kernel
theorem dX8_read_50 : decode cX8_read 50 = .ok (.invokevirtual 34, 3) := by decide +kernel
theorem dX8_read_53 : decode cX8_read 53 = .ok (.ireturn, 1) := by decide +kernel
theorem dX8_read_54 : decode cX8_read 54 = .ok (.aload_n 0, 1) := by decide +kernel
theorem dX8_read_55 : decode cX8_read 55 = .ok (.getfield 15, 3) := by decide +kernel
theorem dX8_read_58 : decode cX8_read 58 = .ok (.iload_n 2, 1) := by decide +kernel
theorem dX8_read_59 : decode cX8_read 59 = .ok (.iload_n 3, 1) := by decide +kernel
theorem dX8_read_60 : decode cX8_read 60 = .ok (.iastore, 1) := by decide +kernel
theorem dX8_read_61 : decode cX8_read 61 = .ok (.aload_n 0, 1) := by decide +kernel
theorem dX8_read_62 : decode cX8_read 62 = .ok (.aload_n 1, 1) := by decide +kernel
theorem dX8_read_63 : decode cX8_read 63 = .ok (.iload_n 2, 1) := by decide +kernel
theorem dX8_read_64 : decode cX8_read 64 = .ok (.invokevirtual 38, 3) := by decide +kernel
theorem dX8_read_67 : decode cX8_read 67 = .ok (.ifCond .eq 10, 3) := by decide +kernel
theorem dX8_read_70 : decode cX8_read 70 = .ok (.aload_n 1, 1) := by decide +kernel
theorem dX8_read_71 : decode cX8_read 71 = .ok (.invokevirtual 42, 3) := by decide +kernel
theorem dX8_read_74 : decode cX8_read 74 = .ok (.ifCond .ne 5, 3) := by decide +kernel
theorem dX8_read_77 : decode cX8_read 77 = .ok (.iconst 0, 1) := by decide +kernel
theorem dX8_read_78 : decode cX8_read 78 = .ok (.ireturn, 1) := by decide +kernel
theorem dX8_read_79 : decode cX8_read 79 = .ok (.aload_n 0, 1) := by decide +kernel
theorem dX8_read_80 : decode cX8_read 80 = .ok (.iload_n 2, 1) := by decide +kernel
theorem dX8_read_81 : decode cX8_read 81 = .ok (.iconst 1, 1) := by decide +kernel
theorem dX8_read_82 : decode cX8_read 82 = .ok (.iadd, 1) := by decide +kernel
theorem dX8_read_83 : decode cX8_read 83 = .ok (.putfield 9, 3) := by decide +kernel
theorem dX8_read_86 : decode cX8_read 86 = .ok (.iinc 2 1, 3) := by decide +kernel
theorem dX8_read_89 : decode cX8_read 89 = .ok (.goto (-82), 3) := by decide +kernel
theorem dX8_read_92 : decode cX8_read 92 = .ok (.iconst 0, 1) := by decide +kernel
theorem dX8_read_93 : decode cX8_read 93 = .ok (.ireturn, 1) := by decide +kernel
theorem cm_X8_read : x_CM yX8_read cX8_read 4 (Option.some FieldType.boolean) 1 := ⟨w_4_56, w_1_5, by decide +kernel, by decide +kernel⟩
theorem ci_X8_read : x_CI yX8_read 10 := ⟨w_4_54, w_4_55, (RX8, TX8, 3), rfl, rfl⟩
set_option maxRecDepth 100000 in
set_option maxHeartbeats 4000000 in
theorem bX8_read_77 {V : x_J} {ad : Nat → Nat} {Q : Int32 → x_S → x_L → Prop} (X : x_Is V cX8_read 4 RX8 (Option.some FieldType.boolean) ad dsX 6 (x_PI Q)) {σ : x_S} {τ : x_L} (h : wX8_read_77 Q σ τ) : V σ τ 77 [] [] := by
  refine x_iconst X dX8_read_77 ki_0 ?_
  exact x_zret X dX8_read_78 ⟨Or.inl rfl, _, rfl, h⟩
set_option maxRecDepth 100000 in
set_option maxHeartbeats 4000000 in
theorem bX8_read_7 {V : x_J} {ad : Nat → Nat} {Q : Int32 → x_S → x_L → Prop} (X : x_Is V cX8_read 4 RX8 (Option.some FieldType.boolean) ad dsX 6 (x_PI Q)) {K7 : Int32 → x_S → x_L → Prop} (hK7 : ∀ v2 σ τ, K7 v2 σ τ → V σ τ 7 [(0, .ref (ad 24)), (1, .ref (ad 1)), (2, .int v2)] []) {v2 : Int32} {σ : x_S} {τ : x_L} (h : wX8_read_7 Q K7 v2 σ τ) : V σ τ 7 [(0, .ref (ad 24)), (1, .ref (ad 1)), (2, .int v2)] [] := by
  refine x_iload_n X dX8_read_7 rfl 2 rfl ?_
  refine x_bipush X dX8_read_8 kb_30 ?_
  refine x_icmp_gt X 92 dX8_read_10 (by decide) (fun hc => ?_) (fun hc => ?_)
  · have h := h.1 hc
    refine x_iconst X dX8_read_92 ki_0 ?_
    exact x_zret X dX8_read_93 ⟨Or.inl rfl, _, rfl, h⟩
  · have h := h.2 hc
    refine x_aload_n X dX8_read_13 rfl 1 rfl ?_
    refine x_callVv X [] [] dX8_read_14 (kX9_next h) cm_X9_next ci_X9_next w_4_57 dsX_1 ⟨by decide, by decide⟩ rfl (Nat.le_of_ble_eq_true rfl) (fun σ14 τ14 h => ?_)
    refine x_aload_n X dX8_read_17 rfl 1 rfl ?_
    refine x_getI X dX8_read_18 fl_8_27 dsX_1 rfl ?_
    refine x_if_ne X 26 dX8_read_21 (by decide) (fun hc => ?_) (fun hc => ?_)
    · have h := h.1 hc
      refine x_aload_n X dX8_read_26 rfl 1 rfl ?_
      refine x_callSi X [.ref (ad 1)] [] dX8_read_27 (kX8_commandWord h) cm_X8_commandWord w_4_59 rfl w_4_58 ⟨by decide, by decide⟩ rfl (Nat.le_of_ble_eq_true rfl) (fun r27 σ27 τ27 h => ?_)
      refine x_istore_n X (lv' := [(3, .int r27), (0, .ref (ad 24)), (1, .ref (ad 1)), (2, .int v2)]) dX8_read_30 rfl (by decide) rfl ?_
      refine x_iload_n X dX8_read_31 rfl 0 rfl ?_
      refine x_iconst X dX8_read_32 ki_m1 ?_
      refine x_icmp_ne X 42 dX8_read_33 (by decide) (fun hc => ?_) (fun hc => ?_)
      · have h := h.1 hc
        refine x_iload_n X dX8_read_42 rfl 3 rfl ?_
        refine x_bipush X dX8_read_43 kb_30 ?_
        refine x_icmp_ne X 54 dX8_read_45 (by decide) (fun hc => ?_) (fun hc => ?_)
        · have h := h.1 hc
          refine x_aload_n X dX8_read_54 rfl 1 rfl ?_
          refine x_getR X (j := 25) dX8_read_55 fl_8_15 dsX_24 rfl ?_
          refine x_iload_n X dX8_read_58 rfl 3 rfl ?_
          refine x_iload_n X dX8_read_59 rfl 0 rfl ?_
          have g60 := h.1
          have h := h.2
          refine x_iast X dX8_read_60 dsX_25 g60 ?_
          refine x_aload_n X dX8_read_61 rfl 1 rfl ?_
          refine x_aload_n X dX8_read_62 rfl 2 rfl ?_
          refine x_iload_n X dX8_read_63 rfl 3 rfl ?_
          refine x_callVi X [.ref (ad 1), .int v2] [] dX8_read_64 (kX8_readArguments h) cm_X8_readArguments ci_X8_readArguments w_4_70 dsX_24 ⟨by decide, by decide⟩ rfl (Nat.le_of_ble_eq_true rfl) (fun r64 σ64 τ64 h => ?_)
          refine x_if_eq X 77 dX8_read_67 (by decide) (fun hc => ?_) (fun hc => ?_)
          · have h := h.1 hc
            refine x_sub X [] (lv' := []) rfl ?_
            exact bX8_read_77 X h
          · have h := h.2 hc
            refine x_aload_n X dX8_read_70 rfl 2 rfl ?_
            refine x_callVi X [] [] dX8_read_71 (kX9_readSemicolon h) cm_X9_readSemicolon ci_X9_readSemicolon w_4_81 dsX_1 ⟨by decide, by decide⟩ rfl (Nat.le_of_ble_eq_true rfl) (fun r71 σ71 τ71 h => ?_)
            refine x_if_ne X 79 dX8_read_74 (by decide) (fun hc => ?_) (fun hc => ?_)
            · have h := h.1 hc
              refine x_aload_n X dX8_read_79 rfl 1 rfl ?_
              refine x_iload_n X dX8_read_80 rfl 3 rfl ?_
              refine x_iconst X dX8_read_81 ki_1 ?_
              refine x_iadd X dX8_read_82 ?_
              refine x_putI X dX8_read_83 fl_8_9 ft_8_0 dsX_24 rfl ?_
              refine x_iinc X (k := 3) (lv' := [(2, .int (v2 + 1)), (3, .int r27), (0, .ref (ad 24)), (1, .ref (ad 1))]) dX8_read_86 rfl ki_1 (by decide) rfl ?_
              refine x_goto X (tgt := 7) dX8_read_89 (by decide) ?_
              refine x_sub X [2, 3, 0] (lv' := [(0, .ref (ad 24)), (1, .ref (ad 1)), (2, .int (v2 + 1))]) rfl ?_
              exact hK7 _ _ _ h
            · have h := h.2 hc
              refine x_sub X [] (lv' := []) rfl ?_
              exact bX8_read_77 X h
        · have h := h.2 hc
          refine x_aload_n X dX8_read_48 rfl 2 rfl ?_
          refine x_iconst X dX8_read_49 ki_4 ?_
          refine x_callVi X [.int 4] [] dX8_read_50 (kX9_fail h) cm_X9_fail ci_X9_fail w_4_69 dsX_1 ⟨by decide, by decide⟩ rfl (Nat.le_of_ble_eq_true rfl) (fun r50 σ50 τ50 h => ?_)
          exact x_zret X dX8_read_53 ⟨h.1, _, rfl, h.2⟩
      · have h := h.2 hc
        refine x_aload_n X dX8_read_36 rfl 2 rfl ?_
        refine x_iconst X dX8_read_37 ki_1 ?_
        refine x_callVi X [.int 1] [] dX8_read_38 (kX9_fail h) cm_X9_fail ci_X9_fail w_4_69 dsX_1 ⟨by decide, by decide⟩ rfl (Nat.le_of_ble_eq_true rfl) (fun r38 σ38 τ38 h => ?_)
        exact x_zret X dX8_read_41 ⟨h.1, _, rfl, h.2⟩
    · have h := h.2 hc
      refine x_iconst X dX8_read_24 ki_1 ?_
      exact x_zret X dX8_read_25 ⟨Or.inr rfl, _, rfl, h⟩
set_option maxRecDepth 100000 in
set_option maxHeartbeats 4000000 in
theorem kX8_read {ad : Nat → Nat} {σ : x_S} {τ : x_L} {Q : Int32 → x_S → x_L → Prop} (h : wX8_read σ τ Q) : x_Met yX8_read cX8_read 4 (Option.some FieldType.boolean) 6 ad dsX [.ref (ad 24), .ref (ad 1)] σ τ (x_PI Q) := by
  refine x_met (by decide +kernel) (Nat.le_of_ble_eq_true rfl) (fun V X => ?_)
  have X : x_Is V cX8_read 4 RX8 (Option.some FieldType.boolean) ad dsX 6 (x_PI Q) := X
  show V σ τ 0 [(0, .ref (ad 24)), (1, .ref (ad 1))] []
  refine x_aload_n X dX8_read_0 rfl 0 rfl ?_
  refine x_iconst X dX8_read_1 ki_0 ?_
  refine x_putI X dX8_read_2 fl_8_9 ft_8_0 dsX_24 rfl ?_
  refine x_iconst X dX8_read_5 ki_0 ?_
  refine x_istore_n X (lv' := [(2, .int 0), (0, .ref (ad 24)), (1, .ref (ad 1))]) dX8_read_6 rfl (by decide) rfl ?_
  refine x_sub X [1, 2, 0] (lv' := [(0, .ref (ad 24)), (1, .ref (ad 1)), (2, .int 0)]) rfl ?_
  exact x_l1_G (fun v2 σ τ => V σ τ 7 [(0, .ref (ad 24)), (1, .ref (ad 1)), (2, .int v2)] []) (fun K7 hK7 v2 σ τ h => bX8_read_7 X hK7 h) h
theorem dX9_append_0 : decode cX9_append 0 = .ok (.bipush 24, 2) := by decide +kernel
theorem dX9_append_2 : decode cX9_append 2 = .ok (.istore_n 2, 1) := by decide +kernel
theorem dX9_append_3 : decode cX9_append 3 = .ok (.iload_n 2, 1) := by decide +kernel
theorem dX9_append_4 : decode cX9_append 4 = .ok (.ifCond .lt 42, 3) := by decide +kernel
theorem dX9_append_7 : decode cX9_append 7 = .ok (.aload_n 0, 1) := by decide +kernel
theorem dX9_append_8 : decode cX9_append 8 = .ok (.getfield 15, 3) := by decide +kernel
theorem dX9_append_11 : decode cX9_append 11 = .ok (.sipush 1500, 3) := by decide +kernel
theorem dX9_append_14 : decode cX9_append 14 = .ok (.if_icmp .ge 32, 3) := by decide +kernel
theorem dX9_append_17 : decode cX9_append 17 = .ok (.aload_n 0, 1) := by decide +kernel
theorem dX9_append_18 : decode cX9_append 18 = .ok (.getfield 11, 3) := by decide +kernel
theorem dX9_append_21 : decode cX9_append 21 = .ok (.aload_n 0, 1) := by decide +kernel
theorem dX9_append_22 : decode cX9_append 22 = .ok (.getfield 15, 3) := by decide +kernel
theorem dX9_append_25 : decode cX9_append 25 = .ok (.iload_n 1, 1) := by decide +kernel
theorem dX9_append_26 : decode cX9_append 26 = .ok (.iload_n 2, 1) := by decide +kernel
theorem dX9_append_27 : decode cX9_append 27 = .ok (.ishr, 1) := by decide +kernel
theorem dX9_append_28 : decode cX9_append 28 = .ok (.i2b, 1) := by decide +kernel
theorem dX9_append_29 : decode cX9_append 29 = .ok (.bastore, 1) := by decide +kernel
theorem dX9_append_30 : decode cX9_append 30 = .ok (.aload_n 0, 1) := by decide +kernel
theorem dX9_append_31 : decode cX9_append 31 = .ok (.dup, 1) := by decide +kernel
theorem dX9_append_32 : decode cX9_append 32 = .ok (.getfield 15, 3) := by decide +kernel
theorem dX9_append_35 : decode cX9_append 35 = .ok (.iconst 1, 1) := by decide +kernel
theorem dX9_append_36 : decode cX9_append 36 = .ok (.iadd, 1) := by decide +kernel
theorem dX9_append_37 : decode cX9_append 37 = .ok (.putfield 15, 3) := by decide +kernel
theorem dX9_append_40 : decode cX9_append 40 = .ok (.iinc 2 (-8), 3) := by decide +kernel
theorem dX9_append_43 : decode cX9_append 43 = .ok (.goto (-40), 3) := by decide +kernel
theorem dX9_append_46 : decode cX9_append 46 = .ok (.return_, 1) := by decide +kernel
theorem cm_X9_append : x_CM yX9_append cX9_append 3 (Option.none : Option Jvm.ClassFile.FieldType) 1 := ⟨w_2_184, w_1_2, by decide +kernel, by decide +kernel⟩
theorem ci_X9_append : x_CI yX9_append 11 := ⟨w_2_182, w_2_183, (RX9, TX9, 8), rfl, rfl⟩
set_option maxRecDepth 100000 in
set_option maxHeartbeats 4000000 in
theorem bX9_append_46 {V : x_J} {ad : Nat → Nat} {Q : x_S → x_L → Prop} (X : x_Is V cX9_append 3 RX9 (Option.none : Option Jvm.ClassFile.FieldType) ad dsX 0 (x_PV Q)) {σ : x_S} {τ : x_L} (h : wX9_append_46 Q σ τ) : V σ τ 46 [] [] := by
  exact x_vret X dX9_append_46 ⟨rfl, h⟩
set_option maxRecDepth 100000 in
set_option maxHeartbeats 4000000 in
theorem bX9_append_3 {V : x_J} {ad : Nat → Nat} {Q : x_S → x_L → Prop} (X : x_Is V cX9_append 3 RX9 (Option.none : Option Jvm.ClassFile.FieldType) ad dsX 0 (x_PV Q)) {K3 : Int32 → Int32 → x_S → x_L → Prop} (hK3 : ∀ v1 v2 σ τ, K3 v1 v2 σ τ → V σ τ 3 [(0, .ref (ad 1)), (1, .int v1), (2, .int v2)] []) {v1 : Int32} {v2 : Int32} {σ : x_S} {τ : x_L} (h : wX9_append_3 Q K3 v1 v2 σ τ) : V σ τ 3 [(0, .ref (ad 1)), (1, .int v1), (2, .int v2)] [] := by
  refine x_iload_n X dX9_append_3 rfl 2 rfl ?_
  refine x_if_lt X 46 dX9_append_4 (by decide) (fun hc => ?_) (fun hc => ?_)
  · have h := h.1 hc
    refine x_sub X [] (lv' := []) rfl ?_
    exact bX9_append_46 X h
  · have h := h.2 hc
    refine x_aload_n X dX9_append_7 rfl 0 rfl ?_
    refine x_getI X dX9_append_8 fl_9_15 dsX_1 rfl ?_
    refine x_sipush X dX9_append_11 ks_1500 ?_
    refine x_icmp_ge X 46 dX9_append_14 (by decide) (fun hc => ?_) (fun hc => ?_)
    · have h := h.1 hc
      refine x_sub X [] (lv' := []) rfl ?_
      exact bX9_append_46 X h
    · have h := h.2 hc
      refine x_aload_n X dX9_append_17 rfl 0 rfl ?_
      refine x_getR X (j := 2) dX9_append_18 fl_9_11 dsX_1 rfl ?_
      refine x_aload_n X dX9_append_21 rfl 0 rfl ?_
      refine x_getI X dX9_append_22 fl_9_15 dsX_1 rfl ?_
      refine x_iload_n X dX9_append_25 rfl 1 rfl ?_
      refine x_iload_n X dX9_append_26 rfl 2 rfl ?_
      refine x_ishr X dX9_append_27 ?_
      refine x_i2b X dX9_append_28 ?_
      have g29 := h.1
      have h := h.2
      refine x_bast X dX9_append_29 dsX_2 g29 ?_
      refine x_aload_n X dX9_append_30 rfl 0 rfl ?_
      refine x_dup X dX9_append_31 rfl ?_
      refine x_getI X dX9_append_32 fl_9_15 dsX_1 rfl ?_
      refine x_iconst X dX9_append_35 ki_1 ?_
      refine x_iadd X dX9_append_36 ?_
      refine x_putI X dX9_append_37 fl_9_15 ft_9_1 dsX_1 rfl ?_
      refine x_iinc X (k := 2) (lv' := [(2, .int (v2 + (-8))), (0, .ref (ad 1)), (1, .int v1)]) dX9_append_40 rfl ki_m8 (by decide) rfl ?_
      refine x_goto X (tgt := 3) dX9_append_43 (by decide) ?_
      refine x_sub X [1, 2, 0] (lv' := [(0, .ref (ad 1)), (1, .int v1), (2, .int (v2 + (-8)))]) rfl ?_
      exact hK3 _ _ _ _ h
set_option maxRecDepth 100000 in
set_option maxHeartbeats 4000000 in
theorem kX9_append {ad : Nat → Nat} {a1 : Int32} {σ : x_S} {τ : x_L} {Q : x_S → x_L → Prop} (h : wX9_append a1 σ τ Q) : x_Met yX9_append cX9_append 3 (Option.none : Option Jvm.ClassFile.FieldType) 0 ad dsX [.ref (ad 1), .int a1] σ τ (x_PV Q) := by
  refine x_met (by decide +kernel) (Nat.le_of_ble_eq_true rfl) (fun V X => ?_)
  have X : x_Is V cX9_append 3 RX9 (Option.none : Option Jvm.ClassFile.FieldType) ad dsX 0 (x_PV Q) := X
  show V σ τ 0 [(0, .ref (ad 1)), (1, .int a1)] []
  refine x_bipush X dX9_append_0 kb_24 ?_
  refine x_istore_n X (lv' := [(2, .int 24), (0, .ref (ad 1)), (1, .int a1)]) dX9_append_2 rfl (by decide) rfl ?_
  refine x_sub X [1, 2, 0] (lv' := [(0, .ref (ad 1)), (1, .int a1), (2, .int 24)]) rfl ?_
  exact x_l2_G (fun v1 v2 σ τ => V σ τ 3 [(0, .ref (ad 1)), (1, .int v1), (2, .int v2)] []) (fun K3 hK3 v1 v2 σ τ h => bX9_append_3 X hK3 h) h
theorem dX9_open_0 : decode cX9_open 0 = .ok (.aload_n 0, 1) := by decide +kernel
theorem dX9_open_1 : decode cX9_open 1 = .ok (.iconst 0, 1) := by decide +kernel
theorem dX9_open_2 : decode cX9_open 2 = .ok (.putfield 31, 3) := by decide +kernel
theorem dX9_open_5 : decode cX9_open 5 = .ok (.aload_n 0, 1) := by decide +kernel
theorem dX9_open_6 : decode cX9_open 6 = .ok (.iconst 0, 1) := by decide +kernel
theorem dX9_open_7 : decode cX9_open 7 = .ok (.putfield 19, 3) := by decide +kernel
theorem dX9_open_10 : decode cX9_open 10 = .ok (.aload_n 0, 1) := by decide +kernel
theorem dX9_open_11 : decode cX9_open 11 = .ok (.iconst (-1), 1) := by decide +kernel
theorem dX9_open_12 : decode cX9_open 12 = .ok (.putfield 22, 3) := by decide +kernel
theorem dX9_open_15 : decode cX9_open 15 = .ok (.return_, 1) := by decide +kernel
theorem cm_X9_open : x_CM yX9_open cX9_open 1 (Option.none : Option Jvm.ClassFile.FieldType) 0 := ⟨w_2_196, w_1_2, by decide +kernel, by decide +kernel⟩
theorem ci_X9_open : x_CI yX9_open 11 := ⟨w_2_194, w_2_195, (RX9, TX9, 8), rfl, rfl⟩
set_option maxRecDepth 100000 in
set_option maxHeartbeats 4000000 in
theorem kX9_open {ad : Nat → Nat} {σ : x_S} {τ : x_L} {Q : x_S → x_L → Prop} (h : wX9_open σ τ Q) : x_Met yX9_open cX9_open 1 (Option.none : Option Jvm.ClassFile.FieldType) 0 ad dsX [.ref (ad 1)] σ τ (x_PV Q) := by
  refine x_met (by decide +kernel) (Nat.le_of_ble_eq_true rfl) (fun V X => ?_)
  have X : x_Is V cX9_open 1 RX9 (Option.none : Option Jvm.ClassFile.FieldType) ad dsX 0 (x_PV Q) := X
  show V σ τ 0 [(0, .ref (ad 1))] []
  refine x_aload_n X dX9_open_0 rfl 0 rfl ?_
  refine x_iconst X dX9_open_1 ki_0 ?_
  refine x_putI X dX9_open_2 fl_9_31 ft_9_6 dsX_1 rfl ?_
  refine x_aload_n X dX9_open_5 rfl 0 rfl ?_
  refine x_iconst X dX9_open_6 ki_0 ?_
  refine x_putI X dX9_open_7 fl_9_19 ft_9_2 dsX_1 rfl ?_
  refine x_aload_n X dX9_open_10 rfl 0 rfl ?_
  refine x_iconst X dX9_open_11 ki_m1 ?_
  refine x_putI X dX9_open_12 fl_9_22 ft_9_3 dsX_1 rfl ?_
  exact x_vret X dX9_open_15 ⟨rfl, h⟩
theorem dX10_appendInput_0 : decode cX10_appendInput 0 = .ok (.aload_n 0, 1) := by decide +kernel
theorem dX10_appendInput_1 : decode cX10_appendInput 1 = .ok (.getfield 12, 3) := by decide +kernel
theorem dX10_appendInput_4 : decode cX10_appendInput 4 = .ok (.getfield 94, 3) := by decide +kernel
theorem dX10_appendInput_7 : decode cX10_appendInput 7 = .ok (.bipush 20, 2) := by decide +kernel
theorem dX10_appendInput_9 : decode cX10_appendInput 9 = .ok (.iadd, 1) := by decide +kernel
theorem dX10_appendInput_10 : decode cX10_appendInput 10 = .ok (.sipush 1500, 3) := by decide +kernel
theorem dX10_appendInput_13 : decode cX10_appendInput 13 = .ok (.if_icmp .le 5, 3) := by decide +kernel
theorem dX10_appendInput_16 : decode cX10_appendInput 16 = .ok (.iconst (-1), 1) := by decide +kernel
theorem dX10_appendInput_17 : decode cX10_appendInput 17 = .ok (.ireturn, 1) := by decide +kernel
theorem dX10_appendInput_18 : decode cX10_appendInput 18 = .ok (.aload_n 0, 1) := by decide +kernel
theorem dX10_appendInput_19 : decode cX10_appendInput 19 = .ok (.getfield 12, 3) := by decide +kernel
theorem dX10_appendInput_22 : decode cX10_appendInput 22 = .ok (.iload_n 1, 1) := by decide +kernel
theorem dX10_appendInput_23 : decode cX10_appendInput 23 = .ok (.invokevirtual 98, 3) := by decide +kernel
theorem dX10_appendInput_26 : decode cX10_appendInput 26 = .ok (.aload_n 0, 1) := by decide +kernel
theorem dX10_appendInput_27 : decode cX10_appendInput 27 = .ok (.getfield 12, 3) := by decide +kernel
theorem dX10_appendInput_30 : decode cX10_appendInput 30 = .ok (.iload_n 2, 1) := by decide +kernel
theorem dX10_appendInput_31 : decode cX10_appendInput 31 = .ok (.invokevirtual 98, 3) := by decide +kernel
theorem dX10_appendInput_34 : decode cX10_appendInput 34 = .ok (.aload_n 0, 1) := by decide +kernel
theorem dX10_appendInput_35 : decode cX10_appendInput 35 = .ok (.getfield 12, 3) := by decide +kernel
theorem dX10_appendInput_38 : decode cX10_appendInput 38 = .ok (.iload_n 3, 1) := by decide +kernel
theorem dX10_appendInput_39 : decode cX10_appendInput 39 = .ok (.invokevirtual 98, 3) := by decide +kernel
theorem dX10_appendInput_42 : decode cX10_appendInput 42 = .ok (.aload_n 0, 1) := by decide +kernel
theorem dX10_appendInput_43 : decode cX10_appendInput 43 = .ok (.getfield 12, 3) := by decide +kernel
theorem dX10_appendInput_46 : decode cX10_appendInput 46 = .ok (.iload 4, 2) := by decide +kernel
theorem dX10_appendInput_48 : decode cX10_appendInput 48 = .ok (.invokevirtual 98, 3) := by decide +kernel
theorem dX10_appendInput_51 : decode cX10_appendInput 51 = .ok (.aload_n 0, 1) := by decide +kernel
theorem dX10_appendInput_52 : decode cX10_appendInput 52 = .ok (.getfield 12, 3) := by decide +kernel
theorem dX10_appendInput_55 : decode cX10_appendInput 55 = .ok (.iload 5, 2) := by decide +kernel
theorem dX10_appendInput_57 : decode cX10_appendInput 57 = .ok (.invokevirtual 98, 3) := by decide +kernel
theorem dX10_appendInput_60 : decode cX10_appendInput 60 = .ok (.aload_n 0, 1) := by decide +kernel
theorem dX10_appendInput_61 : decode cX10_appendInput 61 = .ok (.getfield 12, 3) := by decide +kernel
theorem dX10_appendInput_64 : decode cX10_appendInput 64 = .ok (.getfield 94, 3) := by decide +kernel
theorem dX10_appendInput_67 : decode cX10_appendInput 67 = .ok (.ireturn, 1) := by decide +kernel
theorem cm_X10_appendInput : x_CM yX10_appendInput cX10_appendInput 6 (Option.some FieldType.int) 5 := ⟨w_2_180, w_1_1, by decide +kernel, by decide +kernel⟩
theorem ci_X10_appendInput : x_CI yX10_appendInput 12 := ⟨w_2_178, w_2_179, (RX10, TX10, 12), rfl, rfl⟩
set_option maxRecDepth 100000 in
set_option maxHeartbeats 4000000 in
theorem kX10_appendInput {ad : Nat → Nat} {a1 : Int32} {a2 : Int32} {a3 : Int32} {a4 : Int32} {a5 : Int32} {σ : x_S} {τ : x_L} {Q : Int32 → x_S → x_L → Prop} (h : wX10_appendInput a1 a2 a3 a4 a5 σ τ Q) : x_Met yX10_appendInput cX10_appendInput 6 (Option.some FieldType.int) 1 ad dsX [.ref (ad 0), .int a1, .int a2, .int a3, .int a4, .int a5] σ τ (x_PI Q) := by
  refine x_met (by decide +kernel) (Nat.le_of_ble_eq_true rfl) (fun V X => ?_)
  have X : x_Is V cX10_appendInput 6 RX10 (Option.some FieldType.int) ad dsX 1 (x_PI Q) := X
  show V σ τ 0 [(0, .ref (ad 0)), (1, .int a1), (2, .int a2), (3, .int a3), (4, .int a4), (5, .int a5)] []
  refine x_aload_n X dX10_appendInput_0 rfl 0 rfl ?_
  refine x_getR X (j := 1) dX10_appendInput_1 fl_10_12 dsX_0 rfl ?_
  refine x_getI X dX10_appendInput_4 fl_10_94 dsX_1 rfl ?_
  refine x_bipush X dX10_appendInput_7 kb_20 ?_
  refine x_iadd X dX10_appendInput_9 ?_
  refine x_sipush X dX10_appendInput_10 ks_1500 ?_
  refine x_icmp_le X 18 dX10_appendInput_13 (by decide) (fun hc => ?_) (fun hc => ?_)
  · have h := h.1 hc
    refine x_aload_n X dX10_appendInput_18 rfl 0 rfl ?_
    refine x_getR X (j := 1) dX10_appendInput_19 fl_10_12 dsX_0 rfl ?_
    refine x_iload_n X dX10_appendInput_22 rfl 1 rfl ?_
    refine x_callVv X [.int a1] [] dX10_appendInput_23 (kX9_append h) cm_X9_append ci_X9_append w_2_181 dsX_1 ⟨by decide, by decide⟩ rfl (Nat.le_of_ble_eq_true rfl) (fun σ23 τ23 h => ?_)
    refine x_aload_n X dX10_appendInput_26 rfl 0 rfl ?_
    refine x_getR X (j := 1) dX10_appendInput_27 fl_10_12 dsX_0 rfl ?_
    refine x_iload_n X dX10_appendInput_30 rfl 2 rfl ?_
    refine x_callVv X [.int a2] [] dX10_appendInput_31 (kX9_append h) cm_X9_append ci_X9_append w_2_181 dsX_1 ⟨by decide, by decide⟩ rfl (Nat.le_of_ble_eq_true rfl) (fun σ31 τ31 h => ?_)
    refine x_aload_n X dX10_appendInput_34 rfl 0 rfl ?_
    refine x_getR X (j := 1) dX10_appendInput_35 fl_10_12 dsX_0 rfl ?_
    refine x_iload_n X dX10_appendInput_38 rfl 3 rfl ?_
    refine x_callVv X [.int a3] [] dX10_appendInput_39 (kX9_append h) cm_X9_append ci_X9_append w_2_181 dsX_1 ⟨by decide, by decide⟩ rfl (Nat.le_of_ble_eq_true rfl) (fun σ39 τ39 h => ?_)
    refine x_aload_n X dX10_appendInput_42 rfl 0 rfl ?_
    refine x_getR X (j := 1) dX10_appendInput_43 fl_10_12 dsX_0 rfl ?_
    refine x_iload X dX10_appendInput_46 4 rfl ?_
    refine x_callVv X [.int a4] [] dX10_appendInput_48 (kX9_append h) cm_X9_append ci_X9_append w_2_181 dsX_1 ⟨by decide, by decide⟩ rfl (Nat.le_of_ble_eq_true rfl) (fun σ48 τ48 h => ?_)
    refine x_aload_n X dX10_appendInput_51 rfl 0 rfl ?_
    refine x_getR X (j := 1) dX10_appendInput_52 fl_10_12 dsX_0 rfl ?_
    refine x_iload X dX10_appendInput_55 5 rfl ?_
    refine x_callVv X [.int a5] [] dX10_appendInput_57 (kX9_append h) cm_X9_append ci_X9_append w_2_181 dsX_1 ⟨by decide, by decide⟩ rfl (Nat.le_of_ble_eq_true rfl) (fun σ57 τ57 h => ?_)
    refine x_aload_n X dX10_appendInput_60 rfl 0 rfl ?_
    refine x_getR X (j := 1) dX10_appendInput_61 fl_10_12 dsX_0 rfl ?_
    refine x_getI X dX10_appendInput_64 fl_10_94 dsX_1 rfl ?_
    exact x_iret X dX10_appendInput_67 ⟨_, rfl, h⟩
  · have h := h.2 hc
    refine x_iconst X dX10_appendInput_16 ki_m1 ?_
    exact x_iret X dX10_appendInput_17 ⟨_, rfl, h⟩
theorem dX10_truncateInput_0 : decode cX10_truncateInput 0 = .ok (.iload_n 1, 1) := by decide +kernel
theorem dX10_truncateInput_1 : decode cX10_truncateInput 1 = .ok (.ifCond .lt 14, 3) := by decide +kernel
theorem dX10_truncateInput_4 : decode cX10_truncateInput 4 = .ok (.iload_n 1, 1) := by decide +kernel
theorem dX10_truncateInput_5 : decode cX10_truncateInput 5 = .ok (.aload_n 0, 1) := by decide +kernel
theorem dX10_truncateInput_6 : decode cX10_truncateInput 6 = .ok (.getfield 12, 3) := by decide +kernel
theorem dX10_truncateInput_9 : decode cX10_truncateInput 9 = .ok (.getfield 94, 3) := by decide +kernel
theorem dX10_truncateInput_12 : decode cX10_truncateInput 12 = .ok (.if_icmp .le 5, 3) := by decide +kernel
theorem dX10_truncateInput_15 : decode cX10_truncateInput 15 = .ok (.iconst (-1), 1) := by decide +kernel
theorem dX10_truncateInput_16 : decode cX10_truncateInput 16 = .ok (.ireturn, 1) := by decide +kernel
theorem dX10_truncateInput_17 : decode cX10_truncateInput 17 = .ok (.aload_n 0, 1) := by decide +kernel
theorem dX10_truncateInput_18 : decode cX10_truncateInput 18 = .ok (.getfield 12, 3) := by decide +kernel
theorem dX10_truncateInput_21 : decode cX10_truncateInput 21 = .ok (.iload_n 1, 1) := by decide +kernel
theorem dX10_truncateInput_22 : decode cX10_truncateInput 22 = .ok (.putfield 94, 3) := by decide +kernel
theorem dX10_truncateInput_25 : decode cX10_truncateInput 25 = .ok (.iload_n 1, 1) := by decide +kernel
theorem dX10_truncateInput_26 : decode cX10_truncateInput 26 = .ok (.ireturn, 1) := by decide +kernel
theorem cm_X10_truncateInput : x_CM yX10_truncateInput cX10_truncateInput 2 (Option.some FieldType.int) 1 := ⟨w_2_188, w_1_1, by decide +kernel, by decide +kernel⟩
theorem ci_X10_truncateInput : x_CI yX10_truncateInput 12 := ⟨w_2_186, w_2_187, (RX10, TX10, 12), rfl, rfl⟩
set_option maxRecDepth 100000 in
set_option maxHeartbeats 4000000 in
theorem bX10_truncateInput_15 {V : x_J} {ad : Nat → Nat} {Q : Int32 → x_S → x_L → Prop} (X : x_Is V cX10_truncateInput 2 RX10 (Option.some FieldType.int) ad dsX 0 (x_PI Q)) {σ : x_S} {τ : x_L} (h : wX10_truncateInput_15 Q σ τ) : V σ τ 15 [] [] := by
  refine x_iconst X dX10_truncateInput_15 ki_m1 ?_
  exact x_iret X dX10_truncateInput_16 ⟨_, rfl, h⟩
set_option maxRecDepth 100000 in
set_option maxHeartbeats 4000000 in
theorem kX10_truncateInput {ad : Nat → Nat} {a1 : Int32} {σ : x_S} {τ : x_L} {Q : Int32 → x_S → x_L → Prop} (h : wX10_truncateInput a1 σ τ Q) : x_Met yX10_truncateInput cX10_truncateInput 2 (Option.some FieldType.int) 0 ad dsX [.ref (ad 0), .int a1] σ τ (x_PI Q) := by
  refine x_met (by decide +kernel) (Nat.le_of_ble_eq_true rfl) (fun V X => ?_)
  have X : x_Is V cX10_truncateInput 2 RX10 (Option.some FieldType.int) ad dsX 0 (x_PI Q) := X
  show V σ τ 0 [(0, .ref (ad 0)), (1, .int a1)] []
  refine x_iload_n X dX10_truncateInput_0 rfl 1 rfl ?_
  refine x_if_lt X 15 dX10_truncateInput_1 (by decide) (fun hc => ?_) (fun hc => ?_)
  · have h := h.1 hc
    refine x_sub X [] (lv' := []) rfl ?_
    exact bX10_truncateInput_15 X h
  · have h := h.2 hc
    refine x_iload_n X dX10_truncateInput_4 rfl 1 rfl ?_
    refine x_aload_n X dX10_truncateInput_5 rfl 0 rfl ?_
    refine x_getR X (j := 1) dX10_truncateInput_6 fl_10_12 dsX_0 rfl ?_
    refine x_getI X dX10_truncateInput_9 fl_10_94 dsX_1 rfl ?_
    refine x_icmp_le X 17 dX10_truncateInput_12 (by decide) (fun hc => ?_) (fun hc => ?_)
    · have h := h.1 hc
      refine x_aload_n X dX10_truncateInput_17 rfl 0 rfl ?_
      refine x_getR X (j := 1) dX10_truncateInput_18 fl_10_12 dsX_0 rfl ?_
      refine x_iload_n X dX10_truncateInput_21 rfl 1 rfl ?_
      refine x_putI X dX10_truncateInput_22 fl_10_94 ft_9_1 dsX_1 rfl ?_
      refine x_iload_n X dX10_truncateInput_25 rfl 1 rfl ?_
      exact x_iret X dX10_truncateInput_26 ⟨_, rfl, h⟩
    · have h := h.2 hc
      refine x_sub X [] (lv' := []) rfl ?_
      exact bX10_truncateInput_15 X h
theorem dX10_load_0 : decode cX10_load 0 = .ok (.aload_n 0, 1) := by decide +kernel
theorem dX10_load_1 : decode cX10_load 1 = .ok (.getfield 12, 3) := by decide +kernel
theorem dX10_load_4 : decode cX10_load 4 = .ok (.invokevirtual 102, 3) := by decide +kernel
theorem dX10_load_7 : decode cX10_load 7 = .ok (.aload_n 0, 1) := by decide +kernel
theorem dX10_load_8 : decode cX10_load 8 = .ok (.getfield 26, 3) := by decide +kernel
theorem dX10_load_11 : decode cX10_load 11 = .ok (.aload_n 0, 1) := by decide +kernel
theorem dX10_load_12 : decode cX10_load 12 = .ok (.getfield 12, 3) := by decide +kernel
theorem dX10_load_15 : decode cX10_load 15 = .ok (.invokevirtual 105, 3) := by decide +kernel
theorem dX10_load_18 : decode cX10_load 18 = .ok (.istore_n 1, 1) := by decide +kernel
theorem dX10_load_19 : decode cX10_load 19 = .ok (.aload_n 0, 1) := by decide +kernel
theorem dX10_load_20 : decode cX10_load 20 = .ok (.getfield 12, 3) := by decide +kernel
theorem dX10_load_23 : decode cX10_load 23 = .ok (.iconst 0, 1) := by decide +kernel
theorem dX10_load_24 : decode cX10_load 24 = .ok (.putfield 94, 3) := by decide +kernel
theorem dX10_load_27 : decode cX10_load 27 = .ok (.iload_n 1, 1) := by decide +kernel
theorem dX10_load_28 : decode cX10_load 28 = .ok (.ifCond .ne 6, 3) := by decide +kernel
theorem dX10_load_31 : decode cX10_load 31 = .ok (.bipush (-2), 2) := by decide +kernel
theorem dX10_load_33 : decode cX10_load 33 = .ok (.ireturn, 1) := by decide +kernel
theorem dX10_load_34 : decode cX10_load 34 = .ok (.aload_n 0, 1) := by decide +kernel
theorem dX10_load_35 : decode cX10_load 35 = .ok (.getfield 19, 3) := by decide +kernel
theorem dX10_load_38 : decode cX10_load 38 = .ok (.aload_n 0, 1) := by decide +kernel
theorem dX10_load_39 : decode cX10_load 39 = .ok (.getfield 26, 3) := by decide +kernel
theorem dX10_load_42 : decode cX10_load 42 = .ok (.getfield 109, 3) := by decide +kernel
theorem dX10_load_45 : decode cX10_load 45 = .ok (.invokevirtual 112, 3) := by decide +kernel
theorem dX10_load_48 : decode cX10_load 48 = .ok (.aload_n 0, 1) := by decide +kernel
theorem dX10_load_49 : decode cX10_load 49 = .ok (.getfield 42, 3) := by decide +kernel
theorem dX10_load_52 : decode cX10_load 52 = .ok (.invokevirtual 115, 3) := by decide +kernel
theorem dX10_load_55 : decode cX10_load 55 = .ok (.aload_n 0, 1) := by decide +kernel
theorem dX10_load_56 : decode cX10_load 56 = .ok (.getfield 51, 3) := by decide +kernel
theorem dX10_load_59 : decode cX10_load 59 = .ok (.invokevirtual 118, 3) := by decide +kernel
theorem dX10_load_62 : decode cX10_load 62 = .ok (.aload_n 0, 1) := by decide +kernel
theorem dX10_load_63 : decode cX10_load 63 = .ok (.getfield 79, 3) := by decide +kernel
theorem dX10_load_66 : decode cX10_load 66 = .ok (.invokevirtual 121, 3) := by decide +kernel
theorem dX10_load_69 : decode cX10_load 69 = .ok (.aload_n 0, 1) := by decide +kernel
theorem dX10_load_70 : decode cX10_load 70 = .ok (.getfield 79, 3) := by decide +kernel
theorem dX10_load_73 : decode cX10_load 73 = .ok (.invokevirtual 124, 3) := by decide +kernel
theorem dX10_load_76 : decode cX10_load 76 = .ok (.aload_n 0, 1) := by decide +kernel
theorem dX10_load_77 : decode cX10_load 77 = .ok (.getfield 19, 3) := by decide +kernel
theorem dX10_load_80 : decode cX10_load 80 = .ok (.getfield 127, 3) := by decide +kernel
theorem dX10_load_83 : decode cX10_load 83 = .ok (.ireturn, 1) := by decide +kernel
theorem cm_X10_load : x_CM yX10_load cX10_load 2 (Option.some FieldType.int) 0 := ⟨w_2_192, w_1_1, by decide +kernel, by decide +kernel⟩
theorem ci_X10_load : x_CI yX10_load 12 := ⟨w_2_190, w_2_191, (RX10, TX10, 12), rfl, rfl⟩
set_option maxRecDepth 100000 in
set_option maxHeartbeats 4000000 in
theorem kX10_load {ad : Nat → Nat} {σ : x_S} {τ : x_L} {Q : Int32 → x_S → x_L → Prop} (h : wX10_load σ τ Q) : x_Met yX10_load cX10_load 2 (Option.some FieldType.int) 6 ad dsX [.ref (ad 0)] σ τ (x_PI Q) := by
  refine x_met (by decide +kernel) (Nat.le_of_ble_eq_true rfl) (fun V X => ?_)
  have X : x_Is V cX10_load 2 RX10 (Option.some FieldType.int) ad dsX 6 (x_PI Q) := X
  show V σ τ 0 [(0, .ref (ad 0))] []
  refine x_aload_n X dX10_load_0 rfl 0 rfl ?_
  refine x_getR X (j := 1) dX10_load_1 fl_10_12 dsX_0 rfl ?_
  refine x_callVv X [] [] dX10_load_4 (kX9_open h) cm_X9_open ci_X9_open w_2_193 dsX_1 ⟨by decide, by decide⟩ rfl (Nat.le_of_ble_eq_true rfl) (fun σ4 τ4 h => ?_)
  refine x_aload_n X dX10_load_7 rfl 0 rfl ?_
  refine x_getR X (j := 13) dX10_load_8 fl_10_26 dsX_0 rfl ?_
  refine x_aload_n X dX10_load_11 rfl 0 rfl ?_
  refine x_getR X (j := 1) dX10_load_12 fl_10_12 dsX_0 rfl ?_
  refine x_callVi X [.ref (ad 1)] [] dX10_load_15 (kX3_read h) cm_X3_read ci_X3_read w_2_197 dsX_13 ⟨by decide, by decide⟩ rfl (Nat.le_of_ble_eq_true rfl) (fun r15 σ15 τ15 h => ?_)
  refine x_istore_n X (lv' := [(1, .int r15), (0, .ref (ad 0))]) dX10_load_18 rfl (by decide) rfl ?_
  refine x_aload_n X dX10_load_19 rfl 1 rfl ?_
  refine x_getR X (j := 1) dX10_load_20 fl_10_12 dsX_0 rfl ?_
  refine x_iconst X dX10_load_23 ki_0 ?_
  refine x_putI X dX10_load_24 fl_10_94 ft_9_1 dsX_1 rfl ?_
  refine x_iload_n X dX10_load_27 rfl 0 rfl ?_
  refine x_if_ne X 34 dX10_load_28 (by decide) (fun hc => ?_) (fun hc => ?_)
  · have h := h.1 hc
    refine x_aload_n X dX10_load_34 rfl 1 rfl ?_
    refine x_getR X (j := 3) dX10_load_35 fl_10_19 dsX_0 rfl ?_
    refine x_aload_n X dX10_load_38 rfl 1 rfl ?_
    refine x_getR X (j := 13) dX10_load_39 fl_10_26 dsX_0 rfl ?_
    refine x_getR X (j := 14) dX10_load_42 fl_10_109 dsX_13 rfl ?_
    refine x_callVv X [.ref (ad 14)] [] dX10_load_45 (kX1_copy h) cm_X1_copy ci_X1_copy w_3_62 dsX_3 ⟨by decide, by decide⟩ rfl (Nat.le_of_ble_eq_true rfl) (fun σ45 τ45 h => ?_)
    refine x_aload_n X dX10_load_48 rfl 1 rfl ?_
    refine x_getR X (j := 27) dX10_load_49 fl_10_42 dsX_0 rfl ?_
    refine x_callVv X [] [] dX10_load_52 (kX7_prepare h) cm_X7_prepare ci_X7_prepare w_3_69 dsX_27 ⟨by decide, by decide⟩ rfl (Nat.le_of_ble_eq_true rfl) (fun σ52 τ52 h => ?_)
    refine x_aload_n X dX10_load_55 rfl 1 rfl ?_
    refine x_getR X (j := 33) dX10_load_56 fl_10_51 dsX_0 rfl ?_
    refine x_callVv X [] [] dX10_load_59 (kX6_begin x_pl33 h) cm_X6_begin ci_X6_begin w_3_90 dsX_33 ⟨by decide, by decide⟩ rfl (Nat.le_of_ble_eq_true rfl) (fun σ59 τ59 h => ?_)
    refine x_aload_n X dX10_load_62 rfl 1 rfl ?_
    refine x_getR X (j := 63) dX10_load_63 fl_10_79 dsX_0 rfl ?_
    refine x_callVv X [] [] dX10_load_66 (kX2_forgetEdits h) cm_X2_forgetEdits ci_X2_forgetEdits w_3_150 dsX_63 ⟨by decide, by decide⟩ rfl (Nat.le_of_ble_eq_true rfl) (fun σ66 τ66 h => ?_)
    refine x_aload_n X dX10_load_69 rfl 1 rfl ?_
    refine x_getR X (j := 63) dX10_load_70 fl_10_79 dsX_0 rfl ?_
    refine x_callVv X [] [] dX10_load_73 (kX2_forgetSnapshots h) cm_X2_forgetSnapshots ci_X2_forgetSnapshots w_3_154 dsX_63 ⟨by decide, by decide⟩ rfl (Nat.le_of_ble_eq_true rfl) (fun σ73 τ73 h => ?_)
    refine x_aload_n X dX10_load_76 rfl 1 rfl ?_
    refine x_getR X (j := 3) dX10_load_77 fl_10_19 dsX_0 rfl ?_
    refine x_getI X dX10_load_80 fl_10_127 dsX_3 rfl ?_
    exact x_iret X dX10_load_83 ⟨_, rfl, h⟩
  · have h := h.2 hc
    refine x_bipush X dX10_load_31 kb_m2 ?_
    exact x_iret X dX10_load_33 ⟨_, rfl, h⟩
theorem dX10_errorCode_0 : decode cX10_errorCode 0 = .ok (.aload_n 0, 1) := by decide +kernel
theorem dX10_errorCode_1 : decode cX10_errorCode 1 = .ok (.getfield 12, 3) := by decide +kernel
theorem dX10_errorCode_4 : decode cX10_errorCode 4 = .ok (.getfield 130, 3) := by decide +kernel
theorem dX10_errorCode_7 : decode cX10_errorCode 7 = .ok (.ireturn, 1) := by decide +kernel
theorem cm_X10_errorCode : x_CM yX10_errorCode cX10_errorCode 1 (Option.some FieldType.int) 0 := ⟨w_3_161, w_1_1, by decide +kernel, by decide +kernel⟩
theorem ci_X10_errorCode : x_CI yX10_errorCode 12 := ⟨w_3_159, w_3_160, (RX10, TX10, 12), rfl, rfl⟩
set_option maxRecDepth 100000 in
set_option maxHeartbeats 4000000 in
theorem kX10_errorCode {ad : Nat → Nat} {σ : x_S} {τ : x_L} {Q : Int32 → x_S → x_L → Prop} (h : wX10_errorCode σ τ Q) : x_Met yX10_errorCode cX10_errorCode 1 (Option.some FieldType.int) 0 ad dsX [.ref (ad 0)] σ τ (x_PI Q) := by
  refine x_met (by decide +kernel) (Nat.le_of_ble_eq_true rfl) (fun V X => ?_)
  have X : x_Is V cX10_errorCode 1 RX10 (Option.some FieldType.int) ad dsX 0 (x_PI Q) := X
  show V σ τ 0 [(0, .ref (ad 0))] []
  refine x_aload_n X dX10_errorCode_0 rfl 0 rfl ?_
  refine x_getR X (j := 1) dX10_errorCode_1 fl_10_12 dsX_0 rfl ?_
  refine x_getI X dX10_errorCode_4 fl_10_130 dsX_1 rfl ?_
  exact x_iret X dX10_errorCode_7 ⟨_, rfl, h⟩
theorem dX10_errorPosition_0 : decode cX10_errorPosition 0 = .ok (.aload_n 0, 1) := by decide +kernel
theorem dX10_errorPosition_1 : decode cX10_errorPosition 1 = .ok (.getfield 12, 3) := by decide +kernel
theorem dX10_errorPosition_4 : decode cX10_errorPosition 4 = .ok (.getfield 133, 3) := by decide +kernel
theorem dX10_errorPosition_7 : decode cX10_errorPosition 7 = .ok (.ireturn, 1) := by decide +kernel
theorem cm_X10_errorPosition : x_CM yX10_errorPosition cX10_errorPosition 1 (Option.some FieldType.int) 0 := ⟨w_3_165, w_1_1, by decide +kernel, by decide +kernel⟩
theorem ci_X10_errorPosition : x_CI yX10_errorPosition 12 := ⟨w_3_163, w_3_164, (RX10, TX10, 12), rfl, rfl⟩
set_option maxRecDepth 100000 in
set_option maxHeartbeats 4000000 in
theorem kX10_errorPosition {ad : Nat → Nat} {σ : x_S} {τ : x_L} {Q : Int32 → x_S → x_L → Prop} (h : wX10_errorPosition σ τ Q) : x_Met yX10_errorPosition cX10_errorPosition 1 (Option.some FieldType.int) 0 ad dsX [.ref (ad 0)] σ τ (x_PI Q) := by
  refine x_met (by decide +kernel) (Nat.le_of_ble_eq_true rfl) (fun V X => ?_)
  have X : x_Is V cX10_errorPosition 1 RX10 (Option.some FieldType.int) ad dsX 0 (x_PI Q) := X
  show V σ τ 0 [(0, .ref (ad 0))] []
  refine x_aload_n X dX10_errorPosition_0 rfl 0 rfl ?_
  refine x_getR X (j := 1) dX10_errorPosition_1 fl_10_12 dsX_0 rfl ?_
  refine x_getI X dX10_errorPosition_4 fl_10_133 dsX_1 rfl ?_
  exact x_iret X dX10_errorPosition_7 ⟨_, rfl, h⟩
theorem cm_J6_bitCount_0f7a4 : x_CM yJ6_bitCount_0f7a4 cJ6_bitCount_0f7a4 1 (Option.some FieldType.int) 1 := ⟨w_3_196, w_1_19, by decide +kernel, by decide +kernel⟩
set_option maxRecDepth 100000 in
set_option maxHeartbeats 4000000 in
theorem kJ6_bitCount_0f7a4 {ad : Nat → Nat} {a0 : Int32} {σ : x_S} {τ : x_L} {Q : Int32 → x_S → x_L → Prop} (h : wJ6_bitCount_0f7a4 a0 σ τ Q) : x_Met yJ6_bitCount_0f7a4 cJ6_bitCount_0f7a4 1 (Option.some FieldType.int) 0 ad dsX [.int a0] σ τ (x_PI Q) := by
  refine x_metF (by decide +kernel) (Nat.le_of_ble_eq_true rfl) (fun V X => ?_)
  have X : x_Is V cJ6_bitCount_0f7a4 1 RJ6 (Option.some FieldType.int) ad dsX 0 (x_PI Q) := X
  show V σ τ 0 [(0, .int a0)] []
  refine x_iload_n X dJ6_bitCount_0f7a4_0 rfl 0 rfl ?_
  refine x_iload_n X dJ6_bitCount_0f7a4_1 rfl 0 rfl ?_
  refine x_iconst X dJ6_bitCount_0f7a4_2 ki_1 ?_
  refine x_iushr X dJ6_bitCount_0f7a4_3 ?_
  refine x_ldcw X dJ6_bitCount_0f7a4_4 w_3_197 ?_
  refine x_iand X dJ6_bitCount_0f7a4_7 ?_
  refine x_isub X dJ6_bitCount_0f7a4_8 ?_
  refine x_istore_n X (lv' := [(0, .int (a0 - ((((a0 : Int32).toUInt32 >>> ((1 : Int32).toUInt32 &&& Int32.toUInt32 31)).toInt32) &&& 1431655765)))]) dJ6_bitCount_0f7a4_9 rfl (by decide) rfl ?_
  refine x_iload_n X dJ6_bitCount_0f7a4_10 rfl 0 rfl ?_
  refine x_ldcw X dJ6_bitCount_0f7a4_11 w_3_198 ?_
  refine x_iand X dJ6_bitCount_0f7a4_14 ?_
  refine x_iload_n X dJ6_bitCount_0f7a4_15 rfl 0 rfl ?_
  refine x_iconst X dJ6_bitCount_0f7a4_16 ki_2 ?_
  refine x_iushr X dJ6_bitCount_0f7a4_17 ?_
  refine x_ldcw X dJ6_bitCount_0f7a4_18 w_3_198 ?_
  refine x_iand X dJ6_bitCount_0f7a4_21 ?_
  refine x_iadd X dJ6_bitCount_0f7a4_22 ?_
  refine x_istore_n X (lv' := [(0, .int (((a0 - ((((a0 : Int32).toUInt32 >>> ((1 : Int32).toUInt32 &&& Int32.toUInt32 31)).toInt32) &&& 1431655765)) &&& 858993459) + (((((a0 - ((((a0 : Int32).toUInt32 >>> ((1 : Int32).toUInt32 &&& Int32.toUInt32 31)).toInt32) &&& 1431655765)) : Int32).toUInt32 >>> ((2 : Int32).toUInt32 &&& Int32.toUInt32 31)).toInt32) &&& 858993459)))]) dJ6_bitCount_0f7a4_23 rfl (by decide) rfl ?_
  refine x_iload_n X dJ6_bitCount_0f7a4_24 rfl 0 rfl ?_
  refine x_iload_n X dJ6_bitCount_0f7a4_25 rfl 0 rfl ?_
  refine x_iconst X dJ6_bitCount_0f7a4_26 ki_4 ?_
  refine x_iushr X dJ6_bitCount_0f7a4_27 ?_
  refine x_iadd X dJ6_bitCount_0f7a4_28 ?_
  refine x_ldcw X dJ6_bitCount_0f7a4_29 w_3_199 ?_
  refine x_iand X dJ6_bitCount_0f7a4_32 ?_
  refine x_istore_n X (lv' := [(0, .int (((((a0 - ((((a0 : Int32).toUInt32 >>> ((1 : Int32).toUInt32 &&& Int32.toUInt32 31)).toInt32) &&& 1431655765)) &&& 858993459) + (((((a0 - ((((a0 : Int32).toUInt32 >>> ((1 : Int32).toUInt32 &&& Int32.toUInt32 31)).toInt32) &&& 1431655765)) : Int32).toUInt32 >>> ((2 : Int32).toUInt32 &&& Int32.toUInt32 31)).toInt32) &&& 858993459)) + ((((((a0 - ((((a0 : Int32).toUInt32 >>> ((1 : Int32).toUInt32 &&& Int32.toUInt32 31)).toInt32) &&& 1431655765)) &&& 858993459) + (((((a0 - ((((a0 : Int32).toUInt32 >>> ((1 : Int32).toUInt32 &&& Int32.toUInt32 31)).toInt32) &&& 1431655765)) : Int32).toUInt32 >>> ((2 : Int32).toUInt32 &&& Int32.toUInt32 31)).toInt32) &&& 858993459)) : Int32).toUInt32 >>> ((4 : Int32).toUInt32 &&& Int32.toUInt32 31)).toInt32)) &&& 252645135))]) dJ6_bitCount_0f7a4_33 rfl (by decide) rfl ?_
  refine x_iload_n X dJ6_bitCount_0f7a4_34 rfl 0 rfl ?_
  refine x_iload_n X dJ6_bitCount_0f7a4_35 rfl 0 rfl ?_
  refine x_bipush X dJ6_bitCount_0f7a4_36 kb_8 ?_
  refine x_iushr X dJ6_bitCount_0f7a4_38 ?_
  refine x_iadd X dJ6_bitCount_0f7a4_39 ?_
  refine x_istore_n X (lv' := [(0, .int ((((((a0 - ((((a0 : Int32).toUInt32 >>> ((1 : Int32).toUInt32 &&& Int32.toUInt32 31)).toInt32) &&& 1431655765)) &&& 858993459) + (((((a0 - ((((a0 : Int32).toUInt32 >>> ((1 : Int32).toUInt32 &&& Int32.toUInt32 31)).toInt32) &&& 1431655765)) : Int32).toUInt32 >>> ((2 : Int32).toUInt32 &&& Int32.toUInt32 31)).toInt32) &&& 858993459)) + ((((((a0 - ((((a0 : Int32).toUInt32 >>> ((1 : Int32).toUInt32 &&& Int32.toUInt32 31)).toInt32) &&& 1431655765)) &&& 858993459) + (((((a0 - ((((a0 : Int32).toUInt32 >>> ((1 : Int32).toUInt32 &&& Int32.toUInt32 31)).toInt32) &&& 1431655765)) : Int32).toUInt32 >>> ((2 : Int32).toUInt32 &&& Int32.toUInt32 31)).toInt32) &&& 858993459)) : Int32).toUInt32 >>> ((4 : Int32).toUInt32 &&& Int32.toUInt32 31)).toInt32)) &&& 252645135) + ((((((((a0 - ((((a0 : Int32).toUInt32 >>> ((1 : Int32).toUInt32 &&& Int32.toUInt32 31)).toInt32) &&& 1431655765)) &&& 858993459) + (((((a0 - ((((a0 : Int32).toUInt32 >>> ((1 : Int32).toUInt32 &&& Int32.toUInt32 31)).toInt32) &&& 1431655765)) : Int32).toUInt32 >>> ((2 : Int32).toUInt32 &&& Int32.toUInt32 31)).toInt32) &&& 858993459)) + ((((((a0 - ((((a0 : Int32).toUInt32 >>> ((1 : Int32).toUInt32 &&& Int32.toUInt32 31)).toInt32) &&& 1431655765)) &&& 858993459) + (((((a0 - ((((a0 : Int32).toUInt32 >>> ((1 : Int32).toUInt32 &&& Int32.toUInt32 31)).toInt32) &&& 1431655765)) : Int32).toUInt32 >>> ((2 : Int32).toUInt32 &&& Int32.toUInt32 31)).toInt32) &&& 858993459)) : Int32).toUInt32 >>> ((4 : Int32).toUInt32 &&& Int32.toUInt32 31)).toInt32)) &&& 252645135) : Int32).toUInt32 >>> ((8 : Int32).toUInt32 &&& Int32.toUInt32 31)).toInt32)))]) dJ6_bitCount_0f7a4_40 rfl (by decide) rfl ?_
  refine x_iload_n X dJ6_bitCount_0f7a4_41 rfl 0 rfl ?_
  refine x_iload_n X dJ6_bitCount_0f7a4_42 rfl 0 rfl ?_
  refine x_bipush X dJ6_bitCount_0f7a4_43 kb_16 ?_
  refine x_iushr X dJ6_bitCount_0f7a4_45 ?_
  refine x_iadd X dJ6_bitCount_0f7a4_46 ?_
  refine x_istore_n X (lv' := [(0, .int (((((((a0 - ((((a0 : Int32).toUInt32 >>> ((1 : Int32).toUInt32 &&& Int32.toUInt32 31)).toInt32) &&& 1431655765)) &&& 858993459) + (((((a0 - ((((a0 : Int32).toUInt32 >>> ((1 : Int32).toUInt32 &&& Int32.toUInt32 31)).toInt32) &&& 1431655765)) : Int32).toUInt32 >>> ((2 : Int32).toUInt32 &&& Int32.toUInt32 31)).toInt32) &&& 858993459)) + ((((((a0 - ((((a0 : Int32).toUInt32 >>> ((1 : Int32).toUInt32 &&& Int32.toUInt32 31)).toInt32) &&& 1431655765)) &&& 858993459) + (((((a0 - ((((a0 : Int32).toUInt32 >>> ((1 : Int32).toUInt32 &&& Int32.toUInt32 31)).toInt32) &&& 1431655765)) : Int32).toUInt32 >>> ((2 : Int32).toUInt32 &&& Int32.toUInt32 31)).toInt32) &&& 858993459)) : Int32).toUInt32 >>> ((4 : Int32).toUInt32 &&& Int32.toUInt32 31)).toInt32)) &&& 252645135) + ((((((((a0 - ((((a0 : Int32).toUInt32 >>> ((1 : Int32).toUInt32 &&& Int32.toUInt32 31)).toInt32) &&& 1431655765)) &&& 858993459) + (((((a0 - ((((a0 : Int32).toUInt32 >>> ((1 : Int32).toUInt32 &&& Int32.toUInt32 31)).toInt32) &&& 1431655765)) : Int32).toUInt32 >>> ((2 : Int32).toUInt32 &&& Int32.toUInt32 31)).toInt32) &&& 858993459)) + ((((((a0 - ((((a0 : Int32).toUInt32 >>> ((1 : Int32).toUInt32 &&& Int32.toUInt32 31)).toInt32) &&& 1431655765)) &&& 858993459) + (((((a0 - ((((a0 : Int32).toUInt32 >>> ((1 : Int32).toUInt32 &&& Int32.toUInt32 31)).toInt32) &&& 1431655765)) : Int32).toUInt32 >>> ((2 : Int32).toUInt32 &&& Int32.toUInt32 31)).toInt32) &&& 858993459)) : Int32).toUInt32 >>> ((4 : Int32).toUInt32 &&& Int32.toUInt32 31)).toInt32)) &&& 252645135) : Int32).toUInt32 >>> ((8 : Int32).toUInt32 &&& Int32.toUInt32 31)).toInt32)) + (((((((((a0 - ((((a0 : Int32).toUInt32 >>> ((1 : Int32).toUInt32 &&& Int32.toUInt32 31)).toInt32) &&& 1431655765)) &&& 858993459) + (((((a0 - ((((a0 : Int32).toUInt32 >>> ((1 : Int32).toUInt32 &&& Int32.toUInt32 31)).toInt32) &&& 1431655765)) : Int32).toUInt32 >>> ((2 : Int32).toUInt32 &&& Int32.toUInt32 31)).toInt32) &&& 858993459)) + ((((((a0 - ((((a0 : Int32).toUInt32 >>> ((1 : Int32).toUInt32 &&& Int32.toUInt32 31)).toInt32) &&& 1431655765)) &&& 858993459) + (((((a0 - ((((a0 : Int32).toUInt32 >>> ((1 : Int32).toUInt32 &&& Int32.toUInt32 31)).toInt32) &&& 1431655765)) : Int32).toUInt32 >>> ((2 : Int32).toUInt32 &&& Int32.toUInt32 31)).toInt32) &&& 858993459)) : Int32).toUInt32 >>> ((4 : Int32).toUInt32 &&& Int32.toUInt32 31)).toInt32)) &&& 252645135) + ((((((((a0 - ((((a0 : Int32).toUInt32 >>> ((1 : Int32).toUInt32 &&& Int32.toUInt32 31)).toInt32) &&& 1431655765)) &&& 858993459) + (((((a0 - ((((a0 : Int32).toUInt32 >>> ((1 : Int32).toUInt32 &&& Int32.toUInt32 31)).toInt32) &&& 1431655765)) : Int32).toUInt32 >>> ((2 : Int32).toUInt32 &&& Int32.toUInt32 31)).toInt32) &&& 858993459)) + ((((((a0 - ((((a0 : Int32).toUInt32 >>> ((1 : Int32).toUInt32 &&& Int32.toUInt32 31)).toInt32) &&& 1431655765)) &&& 858993459) + (((((a0 - ((((a0 : Int32).toUInt32 >>> ((1 : Int32).toUInt32 &&& Int32.toUInt32 31)).toInt32) &&& 1431655765)) : Int32).toUInt32 >>> ((2 : Int32).toUInt32 &&& Int32.toUInt32 31)).toInt32) &&& 858993459)) : Int32).toUInt32 >>> ((4 : Int32).toUInt32 &&& Int32.toUInt32 31)).toInt32)) &&& 252645135) : Int32).toUInt32 >>> ((8 : Int32).toUInt32 &&& Int32.toUInt32 31)).toInt32)) : Int32).toUInt32 >>> ((16 : Int32).toUInt32 &&& Int32.toUInt32 31)).toInt32)))]) dJ6_bitCount_0f7a4_47 rfl (by decide) rfl ?_
  refine x_iload_n X dJ6_bitCount_0f7a4_48 rfl 0 rfl ?_
  refine x_bipush X dJ6_bitCount_0f7a4_49 kb_63 ?_
  refine x_iand X dJ6_bitCount_0f7a4_51 ?_
  exact x_iret X dJ6_bitCount_0f7a4_52 ⟨_, rfl, h⟩
theorem dX10_companies_0 : decode cX10_companies 0 = .ok (.iconst 0, 1) := by decide +kernel
theorem dX10_companies_1 : decode cX10_companies 1 = .ok (.istore_n 1, 1) := by decide +kernel
theorem dX10_companies_2 : decode cX10_companies 2 = .ok (.iconst 0, 1) := by decide +kernel
theorem dX10_companies_3 : decode cX10_companies 3 = .ok (.istore_n 2, 1) := by decide +kernel
theorem dX10_companies_4 : decode cX10_companies 4 = .ok (.iload_n 2, 1) := by decide +kernel
theorem dX10_companies_5 : decode cX10_companies 5 = .ok (.aload_n 0, 1) := by decide +kernel
theorem dX10_companies_6 : decode cX10_companies 6 = .ok (.getfield 42, 3) := by decide +kernel
theorem dX10_companies_9 : decode cX10_companies 9 = .ok (.invokevirtual 139, 3) := by decide +kernel
theorem dX10_companies_12 : decode cX10_companies 12 = .ok (.if_icmp .ge 45, 3) := by decide +kernel
theorem dX10_companies_15 : decode cX10_companies 15 = .ok (.aload_n 0, 1) := by decide +kernel
theorem dX10_companies_16 : decode cX10_companies 16 = .ok (.getfield 51, 3) := by decide +kernel
theorem dX10_companies_19 : decode cX10_companies 19 = .ok (.getfield 171, 3) := by decide +kernel
theorem dX10_companies_22 : decode cX10_companies 22 = .ok (.iload_n 2, 1) := by decide +kernel
theorem dX10_companies_23 : decode cX10_companies 23 = .ok (.iaload, 1) := by decide +kernel
theorem dX10_companies_24 : decode cX10_companies 24 = .ok (.istore_n 3, 1) := by decide +kernel
theorem dX10_companies_25 : decode cX10_companies 25 = .ok (.aload_n 0, 1) := by decide +kernel
theorem dX10_companies_26 : decode cX10_companies 26 = .ok (.getfield 51, 3) := by decide +kernel
theorem dX10_companies_29 : decode cX10_companies 29 = .ok (.getfield 174, 3) := by decide +kernel
theorem dX10_companies_32 : decode cX10_companies 32 = .ok (.iload_n 3, 1) := by decide +kernel
theorem dX10_companies_33 : decode cX10_companies 33 = .ok (.iaload, 1) := by decide +kernel
theorem dX10_companies_34 : decode cX10_companies 34 = .ok (.ifCond .ne 17, 3) := by decide +kernel
theorem dX10_companies_37 : decode cX10_companies 37 = .ok (.aload_n 0, 1) := by decide +kernel
theorem dX10_companies_38 : decode cX10_companies 38 = .ok (.getfield 51, 3) := by decide +kernel
theorem dX10_companies_41 : decode cX10_companies 41 = .ok (.iload_n 3, 1) := by decide +kernel
theorem dX10_companies_42 : decode cX10_companies 42 = .ok (.invokevirtual 177, 3) := by decide +kernel
theorem dX10_companies_45 : decode cX10_companies 45 = .ok (.ifCond .eq 6, 3) := by decide +kernel
theorem dX10_companies_48 : decode cX10_companies 48 = .ok (.iinc 1 1, 3) := by decide +kernel
theorem dX10_companies_51 : decode cX10_companies 51 = .ok (.iinc 2 1, 3) := by decide +kernel
theorem dX10_companies_54 : decode cX10_companies 54 = .ok (.goto (-50), 3) := by decide +kernel
theorem dX10_companies_57 : decode cX10_companies 57 = .ok (.iload_n 1, 1) := by decide +kernel
theorem dX10_companies_58 : decode cX10_companies 58 = .ok (.ireturn, 1) := by decide +kernel
theorem cm_X10_companies : x_CM yX10_companies cX10_companies 4 (Option.some FieldType.int) 0 := ⟨w_3_177, w_1_1, by decide +kernel, by decide +kernel⟩
theorem ci_X10_companies : x_CI yX10_companies 12 := ⟨w_3_176, wp_16, (RX10, TX10, 12), rfl, rfl⟩
set_option maxRecDepth 100000 in
set_option maxHeartbeats 4000000 in
theorem bX10_companies_51 {V : x_J} {ad : Nat → Nat} {Q : Int32 → x_S → x_L → Prop} (X : x_Is V cX10_companies 4 RX10 (Option.some FieldType.int) ad dsX 1 (x_PI Q)) {K4 : Int32 → Int32 → x_S → x_L → Prop} (hK4 : ∀ v1 v2 σ τ, K4 v1 v2 σ τ → V σ τ 4 [(0, .ref (ad 0)), (1, .int v1), (2, .int v2)] []) {v1 : Int32} {v2 : Int32} {σ : x_S} {τ : x_L} (h : wX10_companies_51 K4 Q v1 v2 σ τ) : V σ τ 51 [(0, .ref (ad 0)), (1, .int v1), (2, .int v2)] [] := by
  refine x_iinc X (k := 2) (lv' := [(2, .int (v2 + 1)), (0, .ref (ad 0)), (1, .int v1)]) dX10_companies_51 rfl ki_1 (by decide) rfl ?_
  refine x_goto X (tgt := 4) dX10_companies_54 (by decide) ?_
  refine x_sub X [1, 2, 0] (lv' := [(0, .ref (ad 0)), (1, .int v1), (2, .int (v2 + 1))]) rfl ?_
  exact hK4 _ _ _ _ h
set_option maxRecDepth 100000 in
set_option maxHeartbeats 4000000 in
theorem bX10_companies_4 {V : x_J} {ad : Nat → Nat} {Q : Int32 → x_S → x_L → Prop} (X : x_Is V cX10_companies 4 RX10 (Option.some FieldType.int) ad dsX 1 (x_PI Q)) {K4 : Int32 → Int32 → x_S → x_L → Prop} (hK4 : ∀ v1 v2 σ τ, K4 v1 v2 σ τ → V σ τ 4 [(0, .ref (ad 0)), (1, .int v1), (2, .int v2)] []) {v1 : Int32} {v2 : Int32} {σ : x_S} {τ : x_L} (h : wX10_companies_4 Q K4 v1 v2 σ τ) : V σ τ 4 [(0, .ref (ad 0)), (1, .int v1), (2, .int v2)] [] := by
  refine x_iload_n X dX10_companies_4 rfl 2 rfl ?_
  refine x_aload_n X dX10_companies_5 rfl 0 rfl ?_
  refine x_getR X (j := 27) dX10_companies_6 fl_10_42 dsX_0 rfl ?_
  refine x_callVi X [] [.int v2] dX10_companies_9 (kX7_allStops h) cm_X7_allStops ci_X7_allStops w_3_170 dsX_27 ⟨by decide, by decide⟩ rfl (Nat.le_of_ble_eq_true rfl) (fun r9 σ9 τ9 h => ?_)
  refine x_icmp_ge X 57 dX10_companies_12 (by decide) (fun hc => ?_) (fun hc => ?_)
  · have h := h.1 hc
    refine x_iload_n X dX10_companies_57 rfl 1 rfl ?_
    exact x_iret X dX10_companies_58 ⟨_, rfl, h⟩
  · have h := h.2 hc
    refine x_aload_n X dX10_companies_15 rfl 0 rfl ?_
    refine x_getR X (j := 33) dX10_companies_16 fl_10_51 dsX_0 rfl ?_
    refine x_getR X (j := 39) dX10_companies_19 fl_10_171 dsX_33 rfl ?_
    refine x_iload_n X dX10_companies_22 rfl 2 rfl ?_
    have g23 := h.1
    have h := h.2
    refine x_iald X dX10_companies_23 dsX_39 g23 ?_
    refine x_istore_n X (lv' := [(3, .int (σ9 39 v2.toNatClampNeg)), (0, .ref (ad 0)), (1, .int v1), (2, .int v2)]) dX10_companies_24 rfl (by decide) rfl ?_
    refine x_aload_n X dX10_companies_25 rfl 1 rfl ?_
    refine x_getR X (j := 33) dX10_companies_26 fl_10_51 dsX_0 rfl ?_
    refine x_getR X (j := 41) dX10_companies_29 fl_10_174 dsX_33 rfl ?_
    refine x_iload_n X dX10_companies_32 rfl 0 rfl ?_
    have g33 := h.1
    have h := h.2
    refine x_iald X dX10_companies_33 dsX_41 g33 ?_
    refine x_if_ne X 51 dX10_companies_34 (by decide) (fun hc => ?_) (fun hc => ?_)
    · have h := h.1 hc
      refine x_sub X [1, 2, 3] (lv' := [(0, .ref (ad 0)), (1, .int v1), (2, .int v2)]) rfl ?_
      exact bX10_companies_51 X hK4 h
    · have h := h.2 hc
      refine x_aload_n X dX10_companies_37 rfl 1 rfl ?_
      refine x_getR X (j := 33) dX10_companies_38 fl_10_51 dsX_0 rfl ?_
      refine x_iload_n X dX10_companies_41 rfl 0 rfl ?_
      refine x_callVi X [.int (σ9 39 v2.toNatClampNeg)] [] dX10_companies_42 (kX6_inCompany x_pl33 h) cm_X6_inCompany ci_X6_inCompany w_3_178 dsX_33 ⟨by decide, by decide⟩ rfl (Nat.le_of_ble_eq_true rfl) (fun r42 σ42 τ42 h => ?_)
      refine x_if_eq X 51 dX10_companies_45 (by decide) (fun hc => ?_) (fun hc => ?_)
      · have h := h.1 hc
        refine x_sub X [1, 2, 3] (lv' := [(0, .ref (ad 0)), (1, .int v1), (2, .int v2)]) rfl ?_
        exact bX10_companies_51 X hK4 h
      · have h := h.2 hc
        refine x_iinc X (k := 2) (lv' := [(1, .int (v1 + 1)), (3, .int (σ9 39 v2.toNatClampNeg)), (0, .ref (ad 0)), (2, .int v2)]) dX10_companies_48 rfl ki_1 (by decide) rfl ?_
        refine x_sub X [2, 0, 3] (lv' := [(0, .ref (ad 0)), (1, .int (v1 + 1)), (2, .int v2)]) rfl ?_
        exact bX10_companies_51 X hK4 h
set_option maxRecDepth 100000 in
set_option maxHeartbeats 4000000 in
theorem kX10_companies {ad : Nat → Nat} {σ : x_S} {τ : x_L} {Q : Int32 → x_S → x_L → Prop} (h : wX10_companies σ τ Q) : x_Met yX10_companies cX10_companies 4 (Option.some FieldType.int) 1 ad dsX [.ref (ad 0)] σ τ (x_PI Q) := by
  refine x_met (by decide +kernel) (Nat.le_of_ble_eq_true rfl) (fun V X => ?_)
  have X : x_Is V cX10_companies 4 RX10 (Option.some FieldType.int) ad dsX 1 (x_PI Q) := X
  show V σ τ 0 [(0, .ref (ad 0))] []
  refine x_iconst X dX10_companies_0 ki_0 ?_
  refine x_istore_n X (lv' := [(1, .int 0), (0, .ref (ad 0))]) dX10_companies_1 rfl (by decide) rfl ?_
  refine x_iconst X dX10_companies_2 ki_0 ?_
  refine x_istore_n X (lv' := [(2, .int 0), (1, .int 0), (0, .ref (ad 0))]) dX10_companies_3 rfl (by decide) rfl ?_
  refine x_sub X [2, 1, 0] (lv' := [(0, .ref (ad 0)), (1, .int 0), (2, .int 0)]) rfl ?_
  exact x_l2_G (fun v1 v2 σ τ => V σ τ 4 [(0, .ref (ad 0)), (1, .int v1), (2, .int v2)] []) (fun K4 hK4 v1 v2 σ τ h => bX10_companies_4 X hK4 h) h
theorem dX10_greatestPlatoon_0 : decode cX10_greatestPlatoon 0 = .ok (.iconst 0, 1) := by decide +kernel
theorem dX10_greatestPlatoon_1 : decode cX10_greatestPlatoon 1 = .ok (.istore_n 1, 1) := by decide +kernel
theorem dX10_greatestPlatoon_2 : decode cX10_greatestPlatoon 2 = .ok (.iconst 0, 1) := by decide +kernel
theorem dX10_greatestPlatoon_3 : decode cX10_greatestPlatoon 3 = .ok (.istore_n 2, 1) := by decide +kernel
theorem dX10_greatestPlatoon_4 : decode cX10_greatestPlatoon 4 = .ok (.iload_n 2, 1) := by decide +kernel
theorem dX10_greatestPlatoon_5 : decode cX10_greatestPlatoon 5 = .ok (.aload_n 0, 1) := by decide +kernel
theorem dX10_greatestPlatoon_6 : decode cX10_greatestPlatoon 6 = .ok (.getfield 42, 3) := by decide +kernel
theorem dX10_greatestPlatoon_9 : decode cX10_greatestPlatoon 9 = .ok (.invokevirtual 139, 3) := by decide +kernel
theorem dX10_greatestPlatoon_12 : decode cX10_greatestPlatoon 12 = .ok (.if_icmp .ge 33, 3) := by decide +kernel
theorem dX10_greatestPlatoon_15 : decode cX10_greatestPlatoon 15 = .ok (.iload_n 1, 1) := by decide +kernel
theorem dX10_greatestPlatoon_16 : decode cX10_greatestPlatoon 16 = .ok (.aload_n 0, 1) := by decide +kernel
theorem dX10_greatestPlatoon_17 : decode cX10_greatestPlatoon 17 = .ok (.getfield 51, 3) := by decide +kernel
theorem dX10_greatestPlatoon_20 : decode cX10_greatestPlatoon 20 = .ok (.getfield 174, 3) := by decide +kernel
theorem dX10_greatestPlatoon_23 : decode cX10_greatestPlatoon 23 = .ok (.aload_n 0, 1) := by decide +kernel
theorem dX10_greatestPlatoon_24 : decode cX10_greatestPlatoon 24 = .ok (.getfield 51, 3) := by decide +kernel
theorem dX10_greatestPlatoon_27 : decode cX10_greatestPlatoon 27 = .ok (.getfield 171, 3) := by decide +kernel
theorem dX10_greatestPlatoon_30 : decode cX10_greatestPlatoon 30 = .ok (.iload_n 2, 1) := by decide +kernel
theorem dX10_greatestPlatoon_31 : decode cX10_greatestPlatoon 31 = .ok (.iaload, 1) := by decide +kernel
theorem dX10_greatestPlatoon_32 : decode cX10_greatestPlatoon 32 = .ok (.iaload, 1) := by decide +kernel
theorem dX10_greatestPlatoon_33 : decode cX10_greatestPlatoon 33 = .ok (.iconst 1, 1) := by decide +kernel
theorem dX10_greatestPlatoon_34 : decode cX10_greatestPlatoon 34 = .ok (.iadd, 1) := by decide +kernel
theorem dX10_greatestPlatoon_35 : decode cX10_greatestPlatoon 35 = .ok (.invokestatic 181, 3) := by decide +kernel
theorem dX10_greatestPlatoon_38 : decode cX10_greatestPlatoon 38 = .ok (.istore_n 1, 1) := by decide +kernel
theorem dX10_greatestPlatoon_39 : decode cX10_greatestPlatoon 39 = .ok (.iinc 2 1, 3) := by decide +kernel
theorem dX10_greatestPlatoon_42 : decode cX10_greatestPlatoon 42 = .ok (.goto (-38), 3) := by decide +kernel
theorem dX10_greatestPlatoon_45 : decode cX10_greatestPlatoon 45 = .ok (.iload_n 1, 1) := by decide +kernel
theorem dX10_greatestPlatoon_46 : decode cX10_greatestPlatoon 46 = .ok (.ireturn, 1) := by decide +kernel
theorem cm_X10_greatestPlatoon : x_CM yX10_greatestPlatoon cX10_greatestPlatoon 3 (Option.some FieldType.int) 0 := ⟨w_3_211, w_1_1, by decide +kernel, by decide +kernel⟩
theorem ci_X10_greatestPlatoon : x_CI yX10_greatestPlatoon 12 := ⟨w_3_210, wp_18, (RX10, TX10, 12), rfl, rfl⟩
set_option maxRecDepth 100000 in
set_option maxHeartbeats 4000000 in
theorem bX10_greatestPlatoon_4 {V : x_J} {ad : Nat → Nat} {Q : Int32 → x_S → x_L → Prop} (X : x_Is V cX10_greatestPlatoon 3 RX10 (Option.some FieldType.int) ad dsX 1 (x_PI Q)) {K4 : Int32 → Int32 → x_S → x_L → Prop} (hK4 : ∀ v1 v2 σ τ, K4 v1 v2 σ τ → V σ τ 4 [(0, .ref (ad 0)), (1, .int v1), (2, .int v2)] []) {v1 : Int32} {v2 : Int32} {σ : x_S} {τ : x_L} (h : wX10_greatestPlatoon_4 Q K4 v1 v2 σ τ) : V σ τ 4 [(0, .ref (ad 0)), (1, .int v1), (2, .int v2)] [] := by
  refine x_iload_n X dX10_greatestPlatoon_4 rfl 2 rfl ?_
  refine x_aload_n X dX10_greatestPlatoon_5 rfl 0 rfl ?_
  refine x_getR X (j := 27) dX10_greatestPlatoon_6 fl_10_42 dsX_0 rfl ?_
  refine x_callVi X [] [.int v2] dX10_greatestPlatoon_9 (kX7_allStops h) cm_X7_allStops ci_X7_allStops w_3_170 dsX_27 ⟨by decide, by decide⟩ rfl (Nat.le_of_ble_eq_true rfl) (fun r9 σ9 τ9 h => ?_)
  refine x_icmp_ge X 45 dX10_greatestPlatoon_12 (by decide) (fun hc => ?_) (fun hc => ?_)
  · have h := h.1 hc
    refine x_iload_n X dX10_greatestPlatoon_45 rfl 1 rfl ?_
    exact x_iret X dX10_greatestPlatoon_46 ⟨_, rfl, h⟩
  · have h := h.2 hc
    refine x_iload_n X dX10_greatestPlatoon_15 rfl 1 rfl ?_
    refine x_aload_n X dX10_greatestPlatoon_16 rfl 0 rfl ?_
    refine x_getR X (j := 33) dX10_greatestPlatoon_17 fl_10_51 dsX_0 rfl ?_
    refine x_getR X (j := 41) dX10_greatestPlatoon_20 fl_10_174 dsX_33 rfl ?_
    refine x_aload_n X dX10_greatestPlatoon_23 rfl 0 rfl ?_
    refine x_getR X (j := 33) dX10_greatestPlatoon_24 fl_10_51 dsX_0 rfl ?_
    refine x_getR X (j := 39) dX10_greatestPlatoon_27 fl_10_171 dsX_33 rfl ?_
    refine x_iload_n X dX10_greatestPlatoon_30 rfl 2 rfl ?_
    have g31 := h.1
    have h := h.2
    refine x_iald X dX10_greatestPlatoon_31 dsX_39 g31 ?_
    have g32 := h.1
    have h := h.2
    refine x_iald X dX10_greatestPlatoon_32 dsX_41 g32 ?_
    refine x_iconst X dX10_greatestPlatoon_33 ki_1 ?_
    refine x_iadd X dX10_greatestPlatoon_34 ?_
    refine x_mmax X dX10_greatestPlatoon_35 w_3_212 w_3_213 w_1_18 w_3_214 (by decide) (Nat.le_of_ble_eq_true rfl) ?_
    refine x_istore_n X (lv' := [(1, .int (if v1 < ((σ9 41 (σ9 39 v2.toNatClampNeg).toNatClampNeg) + 1) then ((σ9 41 (σ9 39 v2.toNatClampNeg).toNatClampNeg) + 1) else v1)), (0, .ref (ad 0)), (2, .int v2)]) dX10_greatestPlatoon_38 rfl (by decide) rfl ?_
    refine x_iinc X (k := 2) (lv' := [(2, .int (v2 + 1)), (1, .int (if v1 < ((σ9 41 (σ9 39 v2.toNatClampNeg).toNatClampNeg) + 1) then ((σ9 41 (σ9 39 v2.toNatClampNeg).toNatClampNeg) + 1) else v1)), (0, .ref (ad 0))]) dX10_greatestPlatoon_39 rfl ki_1 (by decide) rfl ?_
    refine x_goto X (tgt := 4) dX10_greatestPlatoon_42 (by decide) ?_
    refine x_sub X [2, 1, 0] (lv' := [(0, .ref (ad 0)), (1, .int (if v1 < ((σ9 41 (σ9 39 v2.toNatClampNeg).toNatClampNeg) + 1) then ((σ9 41 (σ9 39 v2.toNatClampNeg).toNatClampNeg) + 1) else v1)), (2, .int (v2 + 1))]) rfl ?_
    exact hK4 _ _ _ _ h
set_option maxRecDepth 100000 in
set_option maxHeartbeats 4000000 in
theorem kX10_greatestPlatoon {ad : Nat → Nat} {σ : x_S} {τ : x_L} {Q : Int32 → x_S → x_L → Prop} (h : wX10_greatestPlatoon σ τ Q) : x_Met yX10_greatestPlatoon cX10_greatestPlatoon 3 (Option.some FieldType.int) 1 ad dsX [.ref (ad 0)] σ τ (x_PI Q) := by
  refine x_met (by decide +kernel) (Nat.le_of_ble_eq_true rfl) (fun V X => ?_)
  have X : x_Is V cX10_greatestPlatoon 3 RX10 (Option.some FieldType.int) ad dsX 1 (x_PI Q) := X
  show V σ τ 0 [(0, .ref (ad 0))] []
  refine x_iconst X dX10_greatestPlatoon_0 ki_0 ?_
  refine x_istore_n X (lv' := [(1, .int 0), (0, .ref (ad 0))]) dX10_greatestPlatoon_1 rfl (by decide) rfl ?_
  refine x_iconst X dX10_greatestPlatoon_2 ki_0 ?_
  refine x_istore_n X (lv' := [(2, .int 0), (1, .int 0), (0, .ref (ad 0))]) dX10_greatestPlatoon_3 rfl (by decide) rfl ?_
  refine x_sub X [2, 1, 0] (lv' := [(0, .ref (ad 0)), (1, .int 0), (2, .int 0)]) rfl ?_
  exact x_l2_G (fun v1 v2 σ τ => V σ τ 4 [(0, .ref (ad 0)), (1, .int v1), (2, .int v2)] []) (fun K4 hK4 v1 v2 σ τ h => bX10_greatestPlatoon_4 X hK4 h) h
theorem dX10_lateSet_0 : decode cX10_lateSet 0 = .ok (.iconst 0, 1) := by decide +kernel
theorem dX10_lateSet_1 : decode cX10_lateSet 1 = .ok (.istore_n 1, 1) := by decide +kernel
theorem dX10_lateSet_2 : decode cX10_lateSet 2 = .ok (.iconst 0, 1) := by decide +kernel
theorem dX10_lateSet_3 : decode cX10_lateSet 3 = .ok (.istore_n 2, 1) := by decide +kernel
theorem dX10_lateSet_4 : decode cX10_lateSet 4 = .ok (.iload_n 2, 1) := by decide +kernel
theorem dX10_lateSet_5 : decode cX10_lateSet 5 = .ok (.aload_n 0, 1) := by decide +kernel
theorem dX10_lateSet_6 : decode cX10_lateSet 6 = .ok (.getfield 19, 3) := by decide +kernel
theorem dX10_lateSet_9 : decode cX10_lateSet 9 = .ok (.getfield 127, 3) := by decide +kernel
theorem dX10_lateSet_12 : decode cX10_lateSet 12 = .ok (.if_icmp .ge 26, 3) := by decide +kernel
theorem dX10_lateSet_15 : decode cX10_lateSet 15 = .ok (.aload_n 0, 1) := by decide +kernel
theorem dX10_lateSet_16 : decode cX10_lateSet 16 = .ok (.getfield 51, 3) := by decide +kernel
theorem dX10_lateSet_19 : decode cX10_lateSet 19 = .ok (.iload_n 2, 1) := by decide +kernel
theorem dX10_lateSet_20 : decode cX10_lateSet 20 = .ok (.invokevirtual 186, 3) := by decide +kernel
theorem dX10_lateSet_23 : decode cX10_lateSet 23 = .ok (.ifCond .eq 9, 3) := by decide +kernel
theorem dX10_lateSet_26 : decode cX10_lateSet 26 = .ok (.iload_n 1, 1) := by decide +kernel
theorem dX10_lateSet_27 : decode cX10_lateSet 27 = .ok (.iconst 1, 1) := by decide +kernel
theorem dX10_lateSet_28 : decode cX10_lateSet 28 = .ok (.iload_n 2, 1) := by decide +kernel
theorem dX10_lateSet_29 : decode cX10_lateSet 29 = .ok (.ishl, 1) := by decide +kernel
theorem dX10_lateSet_30 : decode cX10_lateSet 30 = .ok (.ior, 1) := by decide +kernel
theorem dX10_lateSet_31 : decode cX10_lateSet 31 = .ok (.istore_n 1, 1) := by decide +kernel
theorem dX10_lateSet_32 : decode cX10_lateSet 32 = .ok (.iinc 2 1, 3) := by decide +kernel
theorem dX10_lateSet_35 : decode cX10_lateSet 35 = .ok (.goto (-31), 3) := by decide +kernel
theorem dX10_lateSet_38 : decode cX10_lateSet 38 = .ok (.iload_n 1, 1) := by decide +kernel
theorem dX10_lateSet_39 : decode cX10_lateSet 39 = .ok (.ireturn, 1) := by decide +kernel
theorem cm_X10_lateSet : x_CM yX10_lateSet cX10_lateSet 3 (Option.some FieldType.int) 0 := ⟨w_3_185, w_1_1, by decide +kernel, by decide +kernel⟩
theorem ci_X10_lateSet : x_CI yX10_lateSet 12 := ⟨w_3_184, wp_17, (RX10, TX10, 12), rfl, rfl⟩
set_option maxRecDepth 100000 in
set_option maxHeartbeats 4000000 in
theorem bX10_lateSet_32 {V : x_J} {ad : Nat → Nat} {Q : Int32 → x_S → x_L → Prop} (X : x_Is V cX10_lateSet 3 RX10 (Option.some FieldType.int) ad dsX 2 (x_PI Q)) {K4 : Int32 → Int32 → x_S → x_L → Prop} (hK4 : ∀ v1 v2 σ τ, K4 v1 v2 σ τ → V σ τ 4 [(0, .ref (ad 0)), (1, .int v1), (2, .int v2)] []) {v1 : Int32} {v2 : Int32} {σ : x_S} {τ : x_L} (h : wX10_lateSet_32 K4 Q v1 v2 σ τ) : V σ τ 32 [(0, .ref (ad 0)), (1, .int v1), (2, .int v2)] [] := by
  refine x_iinc X (k := 2) (lv' := [(2, .int (v2 + 1)), (0, .ref (ad 0)), (1, .int v1)]) dX10_lateSet_32 rfl ki_1 (by decide) rfl ?_
  refine x_goto X (tgt := 4) dX10_lateSet_35 (by decide) ?_
  refine x_sub X [1, 2, 0] (lv' := [(0, .ref (ad 0)), (1, .int v1), (2, .int (v2 + 1))]) rfl ?_
  exact hK4 _ _ _ _ h
set_option maxRecDepth 100000 in
set_option maxHeartbeats 4000000 in
theorem bX10_lateSet_4 {V : x_J} {ad : Nat → Nat} {Q : Int32 → x_S → x_L → Prop} (X : x_Is V cX10_lateSet 3 RX10 (Option.some FieldType.int) ad dsX 2 (x_PI Q)) {K4 : Int32 → Int32 → x_S → x_L → Prop} (hK4 : ∀ v1 v2 σ τ, K4 v1 v2 σ τ → V σ τ 4 [(0, .ref (ad 0)), (1, .int v1), (2, .int v2)] []) {v1 : Int32} {v2 : Int32} {σ : x_S} {τ : x_L} (h : wX10_lateSet_4 Q K4 v1 v2 σ τ) : V σ τ 4 [(0, .ref (ad 0)), (1, .int v1), (2, .int v2)] [] := by
  refine x_iload_n X dX10_lateSet_4 rfl 2 rfl ?_
  refine x_aload_n X dX10_lateSet_5 rfl 0 rfl ?_
  refine x_getR X (j := 3) dX10_lateSet_6 fl_10_19 dsX_0 rfl ?_
  refine x_getI X dX10_lateSet_9 fl_10_127 dsX_3 rfl ?_
  refine x_icmp_ge X 38 dX10_lateSet_12 (by decide) (fun hc => ?_) (fun hc => ?_)
  · have h := h.1 hc
    refine x_iload_n X dX10_lateSet_38 rfl 1 rfl ?_
    exact x_iret X dX10_lateSet_39 ⟨_, rfl, h⟩
  · have h := h.2 hc
    refine x_aload_n X dX10_lateSet_15 rfl 0 rfl ?_
    refine x_getR X (j := 33) dX10_lateSet_16 fl_10_51 dsX_0 rfl ?_
    refine x_iload_n X dX10_lateSet_19 rfl 2 rfl ?_
    refine x_callVi X [.int v2] [] dX10_lateSet_20 (kX6_isLate x_pl33 h) cm_X6_isLate ci_X6_isLate w_3_186 dsX_33 ⟨by decide, by decide⟩ rfl (Nat.le_of_ble_eq_true rfl) (fun r20 σ20 τ20 h => ?_)
    refine x_if_eq X 32 dX10_lateSet_23 (by decide) (fun hc => ?_) (fun hc => ?_)
    · have h := h.1 hc
      exact bX10_lateSet_32 X hK4 h
    · have h := h.2 hc
      refine x_iload_n X dX10_lateSet_26 rfl 1 rfl ?_
      refine x_iconst X dX10_lateSet_27 ki_1 ?_
      refine x_iload_n X dX10_lateSet_28 rfl 2 rfl ?_
      refine x_ishl X dX10_lateSet_29 ?_
      refine x_ior X dX10_lateSet_30 ?_
      refine x_istore_n X (lv' := [(1, .int (v1 ||| (1 <<< (v2 &&& 31)))), (0, .ref (ad 0)), (2, .int v2)]) dX10_lateSet_31 rfl (by decide) rfl ?_
      refine x_sub X [1, 0, 2] (lv' := [(0, .ref (ad 0)), (1, .int (v1 ||| (1 <<< (v2 &&& 31)))), (2, .int v2)]) rfl ?_
      exact bX10_lateSet_32 X hK4 h
set_option maxRecDepth 100000 in
set_option maxHeartbeats 4000000 in
theorem kX10_lateSet {ad : Nat → Nat} {σ : x_S} {τ : x_L} {Q : Int32 → x_S → x_L → Prop} (h : wX10_lateSet σ τ Q) : x_Met yX10_lateSet cX10_lateSet 3 (Option.some FieldType.int) 2 ad dsX [.ref (ad 0)] σ τ (x_PI Q) := by
  refine x_met (by decide +kernel) (Nat.le_of_ble_eq_true rfl) (fun V X => ?_)
  have X : x_Is V cX10_lateSet 3 RX10 (Option.some FieldType.int) ad dsX 2 (x_PI Q) := X
  show V σ τ 0 [(0, .ref (ad 0))] []
  refine x_iconst X dX10_lateSet_0 ki_0 ?_
  refine x_istore_n X (lv' := [(1, .int 0), (0, .ref (ad 0))]) dX10_lateSet_1 rfl (by decide) rfl ?_
  refine x_iconst X dX10_lateSet_2 ki_0 ?_
  refine x_istore_n X (lv' := [(2, .int 0), (1, .int 0), (0, .ref (ad 0))]) dX10_lateSet_3 rfl (by decide) rfl ?_
  refine x_sub X [2, 1, 0] (lv' := [(0, .ref (ad 0)), (1, .int 0), (2, .int 0)]) rfl ?_
  exact x_l2_G (fun v1 v2 σ τ => V σ τ 4 [(0, .ref (ad 0)), (1, .int v1), (2, .int v2)] []) (fun K4 hK4 v1 v2 σ τ h => bX10_lateSet_4 X hK4 h) h
theorem dX10_count_0 : decode cX10_count 0 = .ok (.iload_n 1, 1) := by decide +kernel
theorem dX10_count_1 : decode cX10_count 1 = .ok (.tableswitch 149 0 9 #[55, 63, 71, 79, 84, 92, 100, 116, 136, 144], 55) := by decide +kernel
theorem dX10_count_56 : decode cX10_count 56 = .ok (.aload_n 0, 1) := by decide +kernel
theorem dX10_count_57 : decode cX10_count 57 = .ok (.getfield 19, 3) := by decide +kernel
theorem dX10_count_60 : decode cX10_count 60 = .ok (.getfield 136, 3) := by decide +kernel
theorem dX10_count_63 : decode cX10_count 63 = .ok (.ireturn, 1) := by decide +kernel
theorem dX10_count_64 : decode cX10_count 64 = .ok (.aload_n 0, 1) := by decide +kernel
theorem dX10_count_65 : decode cX10_count 65 = .ok (.getfield 19, 3) := by decide +kernel
theorem dX10_count_68 : decode cX10_count 68 = .ok (.getfield 127, 3) := by decide +kernel
theorem dX10_count_71 : decode cX10_count 71 = .ok (.ireturn, 1) := by decide +kernel
theorem dX10_count_72 : decode cX10_count 72 = .ok (.aload_n 0, 1) := by decide +kernel
theorem dX10_count_73 : decode cX10_count 73 = .ok (.getfield 42, 3) := by decide +kernel
theorem dX10_count_76 : decode cX10_count 76 = .ok (.invokevirtual 139, 3) := by decide +kernel
theorem dX10_count_79 : decode cX10_count 79 = .ok (.ireturn, 1) := by decide +kernel
theorem dX10_count_80 : decode cX10_count 80 = .ok (.aload_n 0, 1) := by decide +kernel
theorem dX10_count_81 : decode cX10_count 81 = .ok (.invokevirtual 143, 3) := by decide +kernel
theorem dX10_count_84 : decode cX10_count 84 = .ok (.ireturn, 1) := by decide +kernel
theorem dX10_count_85 : decode cX10_count 85 = .ok (.aload_n 0, 1) := by decide +kernel
theorem dX10_count_86 : decode cX10_count 86 = .ok (.invokevirtual 146, 3) := by decide +kernel
theorem dX10_count_89 : decode cX10_count 89 = .ok (.invokestatic 149, 3) := by decide +kernel
theorem dX10_count_92 : decode cX10_count 92 = .ok (.ireturn, 1) := by decide +kernel
theorem dX10_count_93 : decode cX10_count 93 = .ok (.aload_n 0, 1) := by decide +kernel
theorem dX10_count_94 : decode cX10_count 94 = .ok (.getfield 51, 3) := by decide +kernel
theorem dX10_count_97 : decode cX10_count 97 = .ok (.getfield 155, 3) := by decide +kernel
theorem dX10_count_100 : decode cX10_count 100 = .ok (.ireturn, 1) := by decide +kernel
theorem dX10_count_101 : decode cX10_count 101 = .ok (.aload_n 0, 1) := by decide +kernel
theorem dX10_count_102 : decode cX10_count 102 = .ok (.getfield 51, 3) := by decide +kernel
theorem dX10_count_105 : decode cX10_count 105 = .ok (.iconst 0, 1) := by decide +kernel
theorem dX10_count_106 : decode cX10_count 106 = .ok (.aload_n 0, 1) := by decide +kernel
theorem dX10_count_107 : decode cX10_count 107 = .ok (.getfield 42, 3) := by decide +kernel
theorem dX10_count_110 : decode cX10_count 110 = .ok (.invokevirtual 139, 3) := by decide +kernel
theorem dX10_count_113 : decode cX10_count 113 = .ok (.invokevirtual 158, 3) := by decide +kernel
theorem dX10_count_116 : decode cX10_count 116 = .ok (.ireturn, 1) := by decide +kernel
theorem dX10_count_117 : decode cX10_count 117 = .ok (.aload_n 0, 1) := by decide +kernel
theorem dX10_count_118 : decode cX10_count 118 = .ok (.getfield 51, 3) := by decide +kernel
theorem dX10_count_121 : decode cX10_count 121 = .ok (.iconst 0, 1) := by decide +kernel
theorem dX10_count_122 : decode cX10_count 122 = .ok (.aload_n 0, 1) := by decide +kernel
theorem dX10_count_123 : decode cX10_count 123 = .ok (.getfield 42, 3) := by decide +kernel
theorem dX10_count_126 : decode cX10_count 126 = .ok (.invokevirtual 139, 3) := by decide +kernel
theorem dX10_count_129 : decode cX10_count 129 = .ok (.invokevirtual 162, 3) := by decide +kernel
theorem dX10_count_132 : decode cX10_count 132 = .ok (.sipush 300, 3) := by decide +kernel
theorem dX10_count_135 : decode cX10_count 135 = .ok (.imul, 1) := by decide +kernel
theorem dX10_count_136 : decode cX10_count 136 = .ok (.ireturn, 1) := by decide +kernel
theorem dX10_count_137 : decode cX10_count 137 = .ok (.aload_n 0, 1) := by decide +kernel
theorem dX10_count_138 : decode cX10_count 138 = .ok (.getfield 79, 3) := by decide +kernel
theorem dX10_count_141 : decode cX10_count 141 = .ok (.getfield 165, 3) := by decide +kernel
theorem dX10_count_144 : decode cX10_count 144 = .ok (.ireturn, 1) := by decide +kernel
theorem dX10_count_145 : decode cX10_count 145 = .ok (.aload_n 0, 1) := by decide +kernel
theorem dX10_count_146 : decode cX10_count 146 = .ok (.invokevirtual 168, 3) := by decide +kernel
theorem dX10_count_149 : decode cX10_count 149 = .ok (.ireturn, 1) := by decide +kernel
theorem dX10_count_150 : decode cX10_count 150 = .ok (.iconst (-1), 1) := by decide +kernel
theorem dX10_count_151 : decode cX10_count 151 = .ok (.ireturn, 1) := by decide +kernel
theorem cm_X10_count : x_CM yX10_count cX10_count 2 (Option.some FieldType.int) 1 := ⟨w_3_169, w_1_1, by decide +kernel, by decide +kernel⟩
theorem ci_X10_count : x_CI yX10_count 12 := ⟨w_3_167, w_3_168, (RX10, TX10, 12), rfl, rfl⟩
set_option maxRecDepth 100000 in
set_option maxHeartbeats 4000000 in
theorem kX10_count {ad : Nat → Nat} {a1 : Int32} {σ : x_S} {τ : x_L} {Q : Int32 → x_S → x_L → Prop} (h : wX10_count a1 σ τ Q) : x_Met yX10_count cX10_count 2 (Option.some FieldType.int) 3 ad dsX [.ref (ad 0), .int a1] σ τ (x_PI Q) := by
  refine x_met (by decide +kernel) (Nat.le_of_ble_eq_true rfl) (fun V X => ?_)
  have X : x_Is V cX10_count 2 RX10 (Option.some FieldType.int) ad dsX 3 (x_PI Q) := X
  show V σ τ 0 [(0, .ref (ad 0)), (1, .int a1)] []
  refine x_iload_n X dX10_count_0 rfl 1 rfl ?_
  by_cases hc0 : a1 = 0
  · have h := h.1 hc0
    refine x_tin X 0 56 hc0 dX10_count_1 (by decide) (by decide) (off := 55) (by decide) (by decide) ?_
    refine x_aload_n X dX10_count_56 rfl 0 rfl ?_
    refine x_getR X (j := 3) dX10_count_57 fl_10_19 dsX_0 rfl ?_
    refine x_getI X dX10_count_60 fl_10_136 dsX_3 rfl ?_
    exact x_iret X dX10_count_63 ⟨_, rfl, h⟩
  have h := h.2
  by_cases hc1 : a1 = 1
  · have h := h.1 hc1
    refine x_tin X 1 64 hc1 dX10_count_1 (by decide) (by decide) (off := 63) (by decide) (by decide) ?_
    refine x_aload_n X dX10_count_64 rfl 0 rfl ?_
    refine x_getR X (j := 3) dX10_count_65 fl_10_19 dsX_0 rfl ?_
    refine x_getI X dX10_count_68 fl_10_127 dsX_3 rfl ?_
    exact x_iret X dX10_count_71 ⟨_, rfl, h⟩
  have h := h.2
  by_cases hc2 : a1 = 2
  · have h := h.1 hc2
    refine x_tin X 2 72 hc2 dX10_count_1 (by decide) (by decide) (off := 71) (by decide) (by decide) ?_
    refine x_aload_n X dX10_count_72 rfl 0 rfl ?_
    refine x_getR X (j := 27) dX10_count_73 fl_10_42 dsX_0 rfl ?_
    refine x_callVi X [] [] dX10_count_76 (kX7_allStops h) cm_X7_allStops ci_X7_allStops w_3_170 dsX_27 ⟨by decide, by decide⟩ rfl (Nat.le_of_ble_eq_true rfl) (fun r76 σ76 τ76 h => ?_)
    exact x_iret X dX10_count_79 ⟨_, rfl, h⟩
  have h := h.2
  by_cases hc3 : a1 = 3
  · have h := h.1 hc3
    refine x_tin X 3 80 hc3 dX10_count_1 (by decide) (by decide) (off := 79) (by decide) (by decide) ?_
    refine x_aload_n X dX10_count_80 rfl 0 rfl ?_
    refine x_callVi X [] [] dX10_count_81 (kX10_companies h) cm_X10_companies ci_X10_companies w_3_174 dsX_0 ⟨by decide, by decide⟩ rfl (Nat.le_of_ble_eq_true rfl) (fun r81 σ81 τ81 h => ?_)
    exact x_iret X dX10_count_84 ⟨_, rfl, h⟩
  have h := h.2
  by_cases hc4 : a1 = 4
  · have h := h.1 hc4
    refine x_tin X 4 85 hc4 dX10_count_1 (by decide) (by decide) (off := 84) (by decide) (by decide) ?_
    refine x_aload_n X dX10_count_85 rfl 0 rfl ?_
    refine x_callVi X [] [] dX10_count_86 (kX10_lateSet h) cm_X10_lateSet ci_X10_lateSet w_3_182 dsX_0 ⟨by decide, by decide⟩ rfl (Nat.le_of_ble_eq_true rfl) (fun r86 σ86 τ86 h => ?_)
    refine x_callSOi X [.int r86] [] dX10_count_89 (kJ6_bitCount_0f7a4 h) cm_J6_bitCount_0f7a4 w_3_195 w_3_194 ⟨by decide, by decide⟩ rfl (Nat.le_of_ble_eq_true rfl) (fun r89 σ89 τ89 h => ?_)
    exact x_iret X dX10_count_92 ⟨_, rfl, h⟩
  have h := h.2
  by_cases hc5 : a1 = 5
  · have h := h.1 hc5
    refine x_tin X 5 93 hc5 dX10_count_1 (by decide) (by decide) (off := 92) (by decide) (by decide) ?_
    refine x_aload_n X dX10_count_93 rfl 0 rfl ?_
    refine x_getR X (j := 33) dX10_count_94 fl_10_51 dsX_0 rfl ?_
    refine x_getI X dX10_count_97 fl_10_155 dsX_33 rfl ?_
    exact x_iret X dX10_count_100 ⟨_, rfl, h⟩
  have h := h.2
  by_cases hc6 : a1 = 6
  · have h := h.1 hc6
    refine x_tin X 6 101 hc6 dX10_count_1 (by decide) (by decide) (off := 100) (by decide) (by decide) ?_
    refine x_aload_n X dX10_count_101 rfl 0 rfl ?_
    refine x_getR X (j := 33) dX10_count_102 fl_10_51 dsX_0 rfl ?_
    refine x_iconst X dX10_count_105 ki_0 ?_
    refine x_aload_n X dX10_count_106 rfl 0 rfl ?_
    refine x_getR X (j := 27) dX10_count_107 fl_10_42 dsX_0 rfl ?_
    refine x_callVi X [] [.int 0, .ref (ad 33)] dX10_count_110 (kX7_allStops h) cm_X7_allStops ci_X7_allStops w_3_170 dsX_27 ⟨by decide, by decide⟩ rfl (Nat.le_of_ble_eq_true rfl) (fun r110 σ110 τ110 h => ?_)
    refine x_callVi X [.int 0, .int r110] [] dX10_count_113 (kX6_savedOnRows x_pl33 h) cm_X6_savedOnRows ci_X6_savedOnRows w_3_200 dsX_33 ⟨by decide, by decide⟩ rfl (Nat.le_of_ble_eq_true rfl) (fun r113 σ113 τ113 h => ?_)
    exact x_iret X dX10_count_116 ⟨_, rfl, h⟩
  have h := h.2
  by_cases hc7 : a1 = 7
  · have h := h.1 hc7
    refine x_tin X 7 117 hc7 dX10_count_1 (by decide) (by decide) (off := 116) (by decide) (by decide) ?_
    refine x_aload_n X dX10_count_117 rfl 0 rfl ?_
    refine x_getR X (j := 33) dX10_count_118 fl_10_51 dsX_0 rfl ?_
    refine x_iconst X dX10_count_121 ki_0 ?_
    refine x_aload_n X dX10_count_122 rfl 0 rfl ?_
    refine x_getR X (j := 27) dX10_count_123 fl_10_42 dsX_0 rfl ?_
    refine x_callVi X [] [.int 0, .ref (ad 33)] dX10_count_126 (kX7_allStops h) cm_X7_allStops ci_X7_allStops w_3_170 dsX_27 ⟨by decide, by decide⟩ rfl (Nat.le_of_ble_eq_true rfl) (fun r126 σ126 τ126 h => ?_)
    refine x_callVi X [.int 0, .int r126] [] dX10_count_129 (kX6_closedOnRows x_pl33 h) cm_X6_closedOnRows ci_X6_closedOnRows w_3_204 dsX_33 ⟨by decide, by decide⟩ rfl (Nat.le_of_ble_eq_true rfl) (fun r129 σ129 τ129 h => ?_)
    refine x_sipush X dX10_count_132 ks_300 ?_
    refine x_imul X dX10_count_135 ?_
    exact x_iret X dX10_count_136 ⟨_, rfl, h⟩
  have h := h.2
  by_cases hc8 : a1 = 8
  · have h := h.1 hc8
    refine x_tin X 8 137 hc8 dX10_count_1 (by decide) (by decide) (off := 136) (by decide) (by decide) ?_
    refine x_aload_n X dX10_count_137 rfl 0 rfl ?_
    refine x_getR X (j := 63) dX10_count_138 fl_10_79 dsX_0 rfl ?_
    refine x_getI X dX10_count_141 fl_10_165 dsX_63 rfl ?_
    exact x_iret X dX10_count_144 ⟨_, rfl, h⟩
  have h := h.2
  by_cases hc9 : a1 = 9
  · have h := h.1 hc9
    refine x_tin X 9 145 hc9 dX10_count_1 (by decide) (by decide) (off := 144) (by decide) (by decide) ?_
    refine x_aload_n X dX10_count_145 rfl 0 rfl ?_
    refine x_callVi X [] [] dX10_count_146 (kX10_greatestPlatoon h) cm_X10_greatestPlatoon ci_X10_greatestPlatoon w_3_208 dsX_0 ⟨by decide, by decide⟩ rfl (Nat.le_of_ble_eq_true rfl) (fun r146 σ146 τ146 h => ?_)
    exact x_iret X dX10_count_149 ⟨_, rfl, h⟩
  have h := h.2
  have he0 := x_toInt_ne (n := 0) hc0 (by decide)
  have he1 := x_toInt_ne (n := 1) hc1 (by decide)
  have he2 := x_toInt_ne (n := 2) hc2 (by decide)
  have he3 := x_toInt_ne (n := 3) hc3 (by decide)
  have he4 := x_toInt_ne (n := 4) hc4 (by decide)
  have he5 := x_toInt_ne (n := 5) hc5 (by decide)
  have he6 := x_toInt_ne (n := 6) hc6 (by decide)
  have he7 := x_toInt_ne (n := 7) hc7 (by decide)
  have he8 := x_toInt_ne (n := 8) hc8 (by decide)
  have he9 := x_toInt_ne (n := 9) hc9 (by decide)
  have h := h hc0 hc1 hc2 hc3 hc4 hc5 hc6 hc7 hc8 hc9
  refine x_tout X 150 dX10_count_1 (by omega) (by decide) ?_
  refine x_iconst X dX10_count_150 ki_m1 ?_
  exact x_iret X dX10_count_151 ⟨_, rfl, h⟩
theorem dX10_checkRoad_0 : decode cX10_checkRoad 0 = .ok (.aload_n 0, 1) := by decide +kernel
theorem dX10_checkRoad_1 : decode cX10_checkRoad 1 = .ok (.getfield 19, 3) := by decide +kernel
theorem dX10_checkRoad_4 : decode cX10_checkRoad 4 = .ok (.iload_n 1, 1) := by decide +kernel
theorem dX10_checkRoad_5 : decode cX10_checkRoad 5 = .ok (.invokevirtual 470, 3) := by decide +kernel
theorem dX10_checkRoad_8 : decode cX10_checkRoad 8 = .ok (.ifCond .ne 14, 3) := by decide +kernel
theorem dX10_checkRoad_11 : decode cX10_checkRoad 11 = .ok (.new 473, 3) := by decide +kernel
theorem dX10_checkRoad_14 : decode cX10_checkRoad 14 = .ok (.dup, 1) := by decide +kernel
theorem dX10_checkRoad_15 : decode cX10_checkRoad 15 = .ok (.ldc_w 475, 3) := by decide +kernel
theorem dX10_checkRoad_18 : decode cX10_checkRoad 18 = .ok (.invokespecial 477, 3) := by decide +kernel
theorem dX10_checkRoad_21 : decode cX10_checkRoad 21 = .ok (.athrow, 1) := by decide +kernel
theorem dX10_checkRoad_22 : decode cX10_checkRoad 22 = .ok (.return_, 1) := by decide +kernel
theorem cm_X10_checkRoad : x_CM yX10_checkRoad cX10_checkRoad 2 (Option.none : Option Jvm.ClassFile.FieldType) 1 := ⟨w_5_24, w_1_1, by decide +kernel, by decide +kernel⟩
theorem ci_X10_checkRoad : x_CI yX10_checkRoad 12 := ⟨w_5_23, wp_33, (RX10, TX10, 12), rfl, rfl⟩
set_option maxRecDepth 100000 in
set_option maxHeartbeats 4000000 in
theorem kX10_checkRoad {ad : Nat → Nat} {a1 : Int32} {σ : x_S} {τ : x_L} {Q : x_S → x_L → Prop} {QX : x_PE} (h : wX10_checkRoad a1 σ τ Q QX) : x_MetX yX10_checkRoad cX10_checkRoad 2 (Option.none : Option Jvm.ClassFile.FieldType) 6 1 ad dsX [.ref (ad 0), .int a1] σ τ (x_PV Q) QX := by
  refine x_metX (by decide +kernel) (Nat.le_of_ble_eq_true rfl) (fun V Y => ?_)
  have Y : x_IsX V cX10_checkRoad 2 RX10 (Option.none : Option Jvm.ClassFile.FieldType) ad dsX 6 (x_PV Q) QX 0 1 := Y
  have X := x_isX Y
  show V σ τ 0 [(0, .ref (ad 0)), (1, .int a1)] []
  refine x_aload_n X dX10_checkRoad_0 rfl 0 rfl ?_
  refine x_getR X (j := 3) dX10_checkRoad_1 fl_10_19 dsX_0 rfl ?_
  refine x_iload_n X dX10_checkRoad_4 rfl 1 rfl ?_
  refine x_callVi X [.int a1] [] dX10_checkRoad_5 (kX1_hasRoad h) cm_X1_hasRoad ci_X1_hasRoad w_5_25 dsX_3 ⟨by decide, by decide⟩ rfl (Nat.le_of_ble_eq_true rfl) (fun r5 σ5 τ5 h => ?_)
  refine x_if_ne X 22 dX10_checkRoad_8 (by decide) (fun hc => ?_) (fun hc => ?_)
  · have h := h.1 hc
    exact x_vret X dX10_checkRoad_22 ⟨rfl, h⟩
  · have h := h.2 hc
    exact x_throw Y (i := 9) dX10_checkRoad_11 dX10_checkRoad_14 dX10_checkRoad_15 dX10_checkRoad_18 dX10_checkRoad_21 (by decide +kernel) w_5_29 w_1_23 (List.mem_of_getElem? (i := 0) rfl) (List.mem_of_getElem? (i := 9) rfl) x_exIO x_exIO_b x_exIO_c (by decide) (by decide) (Nat.le_of_ble_eq_true rfl) h
theorem dX10_road_0 : decode cX10_road 0 = .ok (.aload_n 0, 1) := by decide +kernel
theorem dX10_road_1 : decode cX10_road 1 = .ok (.iload_n 1, 1) := by decide +kernel
theorem dX10_road_2 : decode cX10_road 2 = .ok (.invokevirtual 189, 3) := by decide +kernel
theorem dX10_road_5 : decode cX10_road 5 = .ok (.iload_n 2, 1) := by decide +kernel
theorem dX10_road_6 : decode cX10_road 6 = .ok (.tableswitch 99 0 5 #[38, 48, 58, 68, 78, 87], 38) := by decide +kernel
theorem dX10_road_44 : decode cX10_road 44 = .ok (.aload_n 0, 1) := by decide +kernel
theorem dX10_road_45 : decode cX10_road 45 = .ok (.getfield 19, 3) := by decide +kernel
theorem dX10_road_48 : decode cX10_road 48 = .ok (.getfield 192, 3) := by decide +kernel
theorem dX10_road_51 : decode cX10_road 51 = .ok (.iload_n 1, 1) := by decide +kernel
theorem dX10_road_52 : decode cX10_road 52 = .ok (.iaload, 1) := by decide +kernel
theorem dX10_road_53 : decode cX10_road 53 = .ok (.ireturn, 1) := by decide +kernel
theorem dX10_road_54 : decode cX10_road 54 = .ok (.aload_n 0, 1) := by decide +kernel
theorem dX10_road_55 : decode cX10_road 55 = .ok (.getfield 19, 3) := by decide +kernel
theorem dX10_road_58 : decode cX10_road 58 = .ok (.getfield 195, 3) := by decide +kernel
theorem dX10_road_61 : decode cX10_road 61 = .ok (.iload_n 1, 1) := by decide +kernel
theorem dX10_road_62 : decode cX10_road 62 = .ok (.iaload, 1) := by decide +kernel
theorem dX10_road_63 : decode cX10_road 63 = .ok (.ireturn, 1) := by decide +kernel
theorem dX10_road_64 : decode cX10_road 64 = .ok (.aload_n 0, 1) := by decide +kernel
theorem dX10_road_65 : decode cX10_road 65 = .ok (.getfield 19, 3) := by decide +kernel
theorem dX10_road_68 : decode cX10_road 68 = .ok (.getfield 198, 3) := by decide +kernel
theorem dX10_road_71 : decode cX10_road 71 = .ok (.iload_n 1, 1) := by decide +kernel
theorem dX10_road_72 : decode cX10_road 72 = .ok (.iaload, 1) := by decide +kernel
theorem dX10_road_73 : decode cX10_road 73 = .ok (.ireturn, 1) := by decide +kernel
theorem dX10_road_74 : decode cX10_road 74 = .ok (.aload_n 0, 1) := by decide +kernel
theorem dX10_road_75 : decode cX10_road 75 = .ok (.getfield 19, 3) := by decide +kernel
theorem dX10_road_78 : decode cX10_road 78 = .ok (.getfield 200, 3) := by decide +kernel
theorem dX10_road_81 : decode cX10_road 81 = .ok (.iload_n 1, 1) := by decide +kernel
theorem dX10_road_82 : decode cX10_road 82 = .ok (.iaload, 1) := by decide +kernel
theorem dX10_road_83 : decode cX10_road 83 = .ok (.ireturn, 1) := by decide +kernel
theorem dX10_road_84 : decode cX10_road 84 = .ok (.aload_n 0, 1) := by decide +kernel
theorem dX10_road_85 : decode cX10_road 85 = .ok (.getfield 51, 3) := by decide +kernel
theorem dX10_road_88 : decode cX10_road 88 = .ok (.iload_n 1, 1) := by decide +kernel
theorem dX10_road_89 : decode cX10_road 89 = .ok (.invokevirtual 203, 3) := by decide +kernel
theorem dX10_road_92 : decode cX10_road 92 = .ok (.ireturn, 1) := by decide +kernel
theorem dX10_road_93 : decode cX10_road 93 = .ok (.aload_n 0, 1) := by decide +kernel
theorem dX10_road_94 : decode cX10_road 94 = .ok (.getfield 42, 3) := by decide +kernel
theorem dX10_road_97 : decode cX10_road 97 = .ok (.iload_n 1, 1) := by decide +kernel
theorem dX10_road_98 : decode cX10_road 98 = .ok (.invokevirtual 206, 3) := by decide +kernel
theorem dX10_road_101 : decode cX10_road 101 = .ok (.invokestatic 149, 3) := by decide +kernel
theorem dX10_road_104 : decode cX10_road 104 = .ok (.ireturn, 1) := by decide +kernel
theorem dX10_road_105 : decode cX10_road 105 = .ok (.iconst (-1), 1) := by decide +kernel
theorem dX10_road_106 : decode cX10_road 106 = .ok (.ireturn, 1) := by decide +kernel
theorem cm_X10_road : x_CM yX10_road cX10_road 3 (Option.some FieldType.int) 2 := ⟨w_5_20, w_1_1, by decide +kernel, by decide +kernel⟩
theorem ci_X10_road : x_CI yX10_road 12 := ⟨w_5_18, w_5_19, (RX10, TX10, 12), rfl, rfl⟩
set_option maxRecDepth 100000 in
set_option maxHeartbeats 4000000 in
theorem kX10_road {ad : Nat → Nat} {a1 : Int32} {a2 : Int32} {σ : x_S} {τ : x_L} {Q : Int32 → x_S → x_L → Prop} {QX : x_PE} (h : wX10_road a1 a2 σ τ Q QX) : x_MetX yX10_road cX10_road 3 (Option.some FieldType.int) 7 4 ad dsX [.ref (ad 0), .int a1, .int a2] σ τ (x_PI Q) QX := by
  refine x_metX (by decide +kernel) (Nat.le_of_ble_eq_true rfl) (fun V Y => ?_)
  have Y : x_IsX V cX10_road 3 RX10 (Option.some FieldType.int) ad dsX 7 (x_PI Q) QX 0 4 := Y
  have X := x_isX Y
  show V σ τ 0 [(0, .ref (ad 0)), (1, .int a1), (2, .int a2)] []
  refine x_aload_n X dX10_road_0 rfl 0 rfl ?_
  refine x_iload_n X dX10_road_1 rfl 1 rfl ?_
  refine x_callVXv Y [.int a1] [] dX10_road_2 (kX10_checkRoad h) cm_X10_checkRoad ci_X10_checkRoad w_5_21 dsX_0 ⟨by decide, by decide⟩ (by decide) rfl (Nat.le_of_ble_eq_true rfl) (fun V σ2 τ2 Y h => ?_)
  have X := x_isX Y
  refine x_iload_n X dX10_road_5 rfl 2 rfl ?_
  by_cases hc0 : a2 = 0
  · have h := h.1 hc0
    refine x_tin X 0 44 hc0 dX10_road_6 (by decide) (by decide) (off := 38) (by decide) (by decide) ?_
    refine x_aload_n X dX10_road_44 rfl 0 rfl ?_
    refine x_getR X (j := 3) dX10_road_45 fl_10_19 dsX_0 rfl ?_
    refine x_getR X (j := 4) dX10_road_48 fl_10_192 dsX_3 rfl ?_
    refine x_iload_n X dX10_road_51 rfl 1 rfl ?_
    have g52 := h.1
    have h := h.2
    refine x_iald X dX10_road_52 dsX_4 g52 ?_
    exact x_iret X dX10_road_53 ⟨_, rfl, h⟩
  have h := h.2
  by_cases hc1 : a2 = 1
  · have h := h.1 hc1
    refine x_tin X 1 54 hc1 dX10_road_6 (by decide) (by decide) (off := 48) (by decide) (by decide) ?_
    refine x_aload_n X dX10_road_54 rfl 0 rfl ?_
    refine x_getR X (j := 3) dX10_road_55 fl_10_19 dsX_0 rfl ?_
    refine x_getR X (j := 5) dX10_road_58 fl_10_195 dsX_3 rfl ?_
    refine x_iload_n X dX10_road_61 rfl 1 rfl ?_
    have g62 := h.1
    have h := h.2
    refine x_iald X dX10_road_62 dsX_5 g62 ?_
    exact x_iret X dX10_road_63 ⟨_, rfl, h⟩
  have h := h.2
  by_cases hc2 : a2 = 2
  · have h := h.1 hc2
    refine x_tin X 2 64 hc2 dX10_road_6 (by decide) (by decide) (off := 58) (by decide) (by decide) ?_
    refine x_aload_n X dX10_road_64 rfl 0 rfl ?_
    refine x_getR X (j := 3) dX10_road_65 fl_10_19 dsX_0 rfl ?_
    refine x_getR X (j := 6) dX10_road_68 fl_10_198 dsX_3 rfl ?_
    refine x_iload_n X dX10_road_71 rfl 1 rfl ?_
    have g72 := h.1
    have h := h.2
    refine x_iald X dX10_road_72 dsX_6 g72 ?_
    exact x_iret X dX10_road_73 ⟨_, rfl, h⟩
  have h := h.2
  by_cases hc3 : a2 = 3
  · have h := h.1 hc3
    refine x_tin X 3 74 hc3 dX10_road_6 (by decide) (by decide) (off := 68) (by decide) (by decide) ?_
    refine x_aload_n X dX10_road_74 rfl 0 rfl ?_
    refine x_getR X (j := 3) dX10_road_75 fl_10_19 dsX_0 rfl ?_
    refine x_getR X (j := 7) dX10_road_78 fl_10_200 dsX_3 rfl ?_
    refine x_iload_n X dX10_road_81 rfl 1 rfl ?_
    have g82 := h.1
    have h := h.2
    refine x_iald X dX10_road_82 dsX_7 g82 ?_
    exact x_iret X dX10_road_83 ⟨_, rfl, h⟩
  have h := h.2
  by_cases hc4 : a2 = 4
  · have h := h.1 hc4
    refine x_tin X 4 84 hc4 dX10_road_6 (by decide) (by decide) (off := 78) (by decide) (by decide) ?_
    refine x_aload_n X dX10_road_84 rfl 0 rfl ?_
    refine x_getR X (j := 33) dX10_road_85 fl_10_51 dsX_0 rfl ?_
    refine x_iload_n X dX10_road_88 rfl 1 rfl ?_
    refine x_callVi X [.int a1] [] dX10_road_89 (kX6_platoonsOn x_pl33 h) cm_X6_platoonsOn ci_X6_platoonsOn w_5_42 dsX_33 ⟨by decide, by decide⟩ rfl (Nat.le_of_ble_eq_true rfl) (fun r89 σ89 τ89 h => ?_)
    exact x_iret X dX10_road_92 ⟨_, rfl, h⟩
  have h := h.2
  by_cases hc5 : a2 = 5
  · have h := h.1 hc5
    refine x_tin X 5 93 hc5 dX10_road_6 (by decide) (by decide) (off := 87) (by decide) (by decide) ?_
    refine x_aload_n X dX10_road_93 rfl 0 rfl ?_
    refine x_getR X (j := 27) dX10_road_94 fl_10_42 dsX_0 rfl ?_
    refine x_iload_n X dX10_road_97 rfl 1 rfl ?_
    refine x_callVi X [.int a1] [] dX10_road_98 (kX7_trucksOn h) cm_X7_trucksOn ci_X7_trucksOn w_5_46 dsX_27 ⟨by decide, by decide⟩ rfl (Nat.le_of_ble_eq_true rfl) (fun r98 σ98 τ98 h => ?_)
    refine x_callSOi X [.int r98] [] dX10_road_101 (kJ6_bitCount_0f7a4 h) cm_J6_bitCount_0f7a4 w_3_195 w_3_194 ⟨by decide, by decide⟩ rfl (Nat.le_of_ble_eq_true rfl) (fun r101 σ101 τ101 h => ?_)
    exact x_iret X dX10_road_104 ⟨_, rfl, h⟩
  have h := h.2
  have he0 := x_toInt_ne (n := 0) hc0 (by decide)
  have he1 := x_toInt_ne (n := 1) hc1 (by decide)
  have he2 := x_toInt_ne (n := 2) hc2 (by decide)
  have he3 := x_toInt_ne (n := 3) hc3 (by decide)
  have he4 := x_toInt_ne (n := 4) hc4 (by decide)
  have he5 := x_toInt_ne (n := 5) hc5 (by decide)
  have h := h hc0 hc1 hc2 hc3 hc4 hc5
  refine x_tout X 105 dX10_road_6 (by omega) (by decide) ?_
  refine x_iconst X dX10_road_105 ki_m1 ?_
  exact x_iret X dX10_road_106 ⟨_, rfl, h⟩
theorem dX10_checkTruck_0 : decode cX10_checkTruck 0 = .ok (.aload_n 0, 1) := by decide +kernel
theorem dX10_checkTruck_1 : decode cX10_checkTruck 1 = .ok (.getfield 19, 3) := by decide +kernel
theorem dX10_checkTruck_4 : decode cX10_checkTruck 4 = .ok (.iload_n 1, 1) := by decide +kernel
theorem dX10_checkTruck_5 : decode cX10_checkTruck 5 = .ok (.invokevirtual 444, 3) := by decide +kernel
theorem dX10_checkTruck_8 : decode cX10_checkTruck 8 = .ok (.ifCond .ne 14, 3) := by decide +kernel
theorem dX10_checkTruck_11 : decode cX10_checkTruck 11 = .ok (.new 473, 3) := by decide +kernel
theorem dX10_checkTruck_14 : decode cX10_checkTruck 14 = .ok (.dup, 1) := by decide +kernel
theorem dX10_checkTruck_15 : decode cX10_checkTruck 15 = .ok (.ldc_w 478, 3) := by decide +kernel
theorem dX10_checkTruck_18 : decode cX10_checkTruck 18 = .ok (.invokespecial 477, 3) := by decide +kernel
theorem dX10_checkTruck_21 : decode cX10_checkTruck 21 = .ok (.athrow, 1) := by decide +kernel
theorem dX10_checkTruck_22 : decode cX10_checkTruck 22 = .ok (.return_, 1) := by decide +kernel
theorem cm_X10_checkTruck : x_CM yX10_checkTruck cX10_checkTruck 2 (Option.none : Option Jvm.ClassFile.FieldType) 1 := ⟨w_5_60, w_1_1, by decide +kernel, by decide +kernel⟩
theorem ci_X10_checkTruck : x_CI yX10_checkTruck 12 := ⟨w_5_59, wp_34, (RX10, TX10, 12), rfl, rfl⟩
set_option maxRecDepth 100000 in
set_option maxHeartbeats 4000000 in
theorem kX10_checkTruck {ad : Nat → Nat} {a1 : Int32} {σ : x_S} {τ : x_L} {Q : x_S → x_L → Prop} {QX : x_PE} (h : wX10_checkTruck a1 σ τ Q QX) : x_MetX yX10_checkTruck cX10_checkTruck 2 (Option.none : Option Jvm.ClassFile.FieldType) 6 1 ad dsX [.ref (ad 0), .int a1] σ τ (x_PV Q) QX := by
  refine x_metX (by decide +kernel) (Nat.le_of_ble_eq_true rfl) (fun V Y => ?_)
  have Y : x_IsX V cX10_checkTruck 2 RX10 (Option.none : Option Jvm.ClassFile.FieldType) ad dsX 6 (x_PV Q) QX 0 1 := Y
  have X := x_isX Y
  show V σ τ 0 [(0, .ref (ad 0)), (1, .int a1)] []
  refine x_aload_n X dX10_checkTruck_0 rfl 0 rfl ?_
  refine x_getR X (j := 3) dX10_checkTruck_1 fl_10_19 dsX_0 rfl ?_
  refine x_iload_n X dX10_checkTruck_4 rfl 1 rfl ?_
  refine x_callVi X [.int a1] [] dX10_checkTruck_5 (kX1_hasTruck h) cm_X1_hasTruck ci_X1_hasTruck w_4_94 dsX_3 ⟨by decide, by decide⟩ rfl (Nat.le_of_ble_eq_true rfl) (fun r5 σ5 τ5 h => ?_)
  refine x_if_ne X 22 dX10_checkTruck_8 (by decide) (fun hc => ?_) (fun hc => ?_)
  · have h := h.1 hc
    exact x_vret X dX10_checkTruck_22 ⟨rfl, h⟩
  · have h := h.2 hc
    exact x_throw Y (i := 10) dX10_checkTruck_11 dX10_checkTruck_14 dX10_checkTruck_15 dX10_checkTruck_18 dX10_checkTruck_21 (by decide +kernel) w_5_29 w_1_23 (List.mem_of_getElem? (i := 0) rfl) (List.mem_of_getElem? (i := 10) rfl) x_exIO x_exIO_b x_exIO_c (by decide) (by decide) (Nat.le_of_ble_eq_true rfl) h
theorem dX10_truck_0 : decode cX10_truck 0 = .ok (.aload_n 0, 1) := by decide +kernel
theorem dX10_truck_1 : decode cX10_truck 1 = .ok (.iload_n 1, 1) := by decide +kernel
theorem dX10_truck_2 : decode cX10_truck 2 = .ok (.invokevirtual 209, 3) := by decide +kernel
theorem dX10_truck_5 : decode cX10_truck 5 = .ok (.iload_n 2, 1) := by decide +kernel
theorem dX10_truck_6 : decode cX10_truck 6 = .ok (.tableswitch 135 0 8 #[50, 60, 70, 80, 90, 99, 108, 117, 126], 50) := by decide +kernel
theorem dX10_truck_56 : decode cX10_truck 56 = .ok (.aload_n 0, 1) := by decide +kernel
theorem dX10_truck_57 : decode cX10_truck 57 = .ok (.getfield 51, 3) := by decide +kernel
theorem dX10_truck_60 : decode cX10_truck 60 = .ok (.getfield 212, 3) := by decide +kernel
theorem dX10_truck_63 : decode cX10_truck 63 = .ok (.iload_n 1, 1) := by decide +kernel
theorem dX10_truck_64 : decode cX10_truck 64 = .ok (.iaload, 1) := by decide +kernel
theorem dX10_truck_65 : decode cX10_truck 65 = .ok (.ireturn, 1) := by decide +kernel
theorem dX10_truck_66 : decode cX10_truck 66 = .ok (.aload_n 0, 1) := by decide +kernel
theorem dX10_truck_67 : decode cX10_truck 67 = .ok (.getfield 19, 3) := by decide +kernel
theorem dX10_truck_70 : decode cX10_truck 70 = .ok (.getfield 215, 3) := by decide +kernel
theorem dX10_truck_73 : decode cX10_truck 73 = .ok (.iload_n 1, 1) := by decide +kernel
theorem dX10_truck_74 : decode cX10_truck 74 = .ok (.iaload, 1) := by decide +kernel
theorem dX10_truck_75 : decode cX10_truck 75 = .ok (.ireturn, 1) := by decide +kernel
theorem dX10_truck_76 : decode cX10_truck 76 = .ok (.aload_n 0, 1) := by decide +kernel
theorem dX10_truck_77 : decode cX10_truck 77 = .ok (.getfield 19, 3) := by decide +kernel
theorem dX10_truck_80 : decode cX10_truck 80 = .ok (.getfield 218, 3) := by decide +kernel
theorem dX10_truck_83 : decode cX10_truck 83 = .ok (.iload_n 1, 1) := by decide +kernel
theorem dX10_truck_84 : decode cX10_truck 84 = .ok (.iaload, 1) := by decide +kernel
theorem dX10_truck_85 : decode cX10_truck 85 = .ok (.ireturn, 1) := by decide +kernel
theorem dX10_truck_86 : decode cX10_truck 86 = .ok (.aload_n 0, 1) := by decide +kernel
theorem dX10_truck_87 : decode cX10_truck 87 = .ok (.getfield 19, 3) := by decide +kernel
theorem dX10_truck_90 : decode cX10_truck 90 = .ok (.getfield 221, 3) := by decide +kernel
theorem dX10_truck_93 : decode cX10_truck 93 = .ok (.iload_n 1, 1) := by decide +kernel
theorem dX10_truck_94 : decode cX10_truck 94 = .ok (.iaload, 1) := by decide +kernel
theorem dX10_truck_95 : decode cX10_truck 95 = .ok (.ireturn, 1) := by decide +kernel
theorem dX10_truck_96 : decode cX10_truck 96 = .ok (.aload_n 0, 1) := by decide +kernel
theorem dX10_truck_97 : decode cX10_truck 97 = .ok (.getfield 51, 3) := by decide +kernel
theorem dX10_truck_100 : decode cX10_truck 100 = .ok (.iload_n 1, 1) := by decide +kernel
theorem dX10_truck_101 : decode cX10_truck 101 = .ok (.invokevirtual 224, 3) := by decide +kernel
theorem dX10_truck_104 : decode cX10_truck 104 = .ok (.ireturn, 1) := by decide +kernel
theorem dX10_truck_105 : decode cX10_truck 105 = .ok (.aload_n 0, 1) := by decide +kernel
theorem dX10_truck_106 : decode cX10_truck 106 = .ok (.getfield 19, 3) := by decide +kernel
theorem dX10_truck_109 : decode cX10_truck 109 = .ok (.iload_n 1, 1) := by decide +kernel
theorem dX10_truck_110 : decode cX10_truck 110 = .ok (.invokevirtual 227, 3) := by decide +kernel
theorem dX10_truck_113 : decode cX10_truck 113 = .ok (.ireturn, 1) := by decide +kernel
theorem dX10_truck_114 : decode cX10_truck 114 = .ok (.aload_n 0, 1) := by decide +kernel
theorem dX10_truck_115 : decode cX10_truck 115 = .ok (.getfield 51, 3) := by decide +kernel
theorem dX10_truck_118 : decode cX10_truck 118 = .ok (.iload_n 1, 1) := by decide +kernel
theorem dX10_truck_119 : decode cX10_truck 119 = .ok (.invokevirtual 230, 3) := by decide +kernel
theorem dX10_truck_122 : decode cX10_truck 122 = .ok (.ireturn, 1) := by decide +kernel
theorem dX10_truck_123 : decode cX10_truck 123 = .ok (.aload_n 0, 1) := by decide +kernel
theorem dX10_truck_124 : decode cX10_truck 124 = .ok (.getfield 51, 3) := by decide +kernel
theorem dX10_truck_127 : decode cX10_truck 127 = .ok (.iload_n 1, 1) := by decide +kernel
theorem dX10_truck_128 : decode cX10_truck 128 = .ok (.invokevirtual 233, 3) := by decide +kernel
theorem dX10_truck_131 : decode cX10_truck 131 = .ok (.ireturn, 1) := by decide +kernel
theorem dX10_truck_132 : decode cX10_truck 132 = .ok (.aload_n 0, 1) := by decide +kernel
theorem dX10_truck_133 : decode cX10_truck 133 = .ok (.getfield 51, 3) := by decide +kernel
theorem dX10_truck_136 : decode cX10_truck 136 = .ok (.iload_n 1, 1) := by decide +kernel
theorem dX10_truck_137 : decode cX10_truck 137 = .ok (.invokevirtual 236, 3) := by decide +kernel
theorem dX10_truck_140 : decode cX10_truck 140 = .ok (.ireturn, 1) := by decide +kernel
theorem dX10_truck_141 : decode cX10_truck 141 = .ok (.iconst (-1), 1) := by decide +kernel
theorem dX10_truck_142 : decode cX10_truck 142 = .ok (.ireturn, 1) := by decide +kernel
theorem cm_X10_truck : x_CM yX10_truck cX10_truck 3 (Option.some FieldType.int) 2 := ⟨w_5_56, w_1_1, by decide +kernel, by decide +kernel⟩
theorem ci_X10_truck : x_CI yX10_truck 12 := ⟨w_5_54, w_5_55, (RX10, TX10, 12), rfl, rfl⟩
set_option maxRecDepth 100000 in
set_option maxHeartbeats 4000000 in
theorem kX10_truck {ad : Nat → Nat} {a1 : Int32} {a2 : Int32} {σ : x_S} {τ : x_L} {Q : Int32 → x_S → x_L → Prop} {QX : x_PE} (h : wX10_truck a1 a2 σ τ Q QX) : x_MetX yX10_truck cX10_truck 3 (Option.some FieldType.int) 7 4 ad dsX [.ref (ad 0), .int a1, .int a2] σ τ (x_PI Q) QX := by
  refine x_metX (by decide +kernel) (Nat.le_of_ble_eq_true rfl) (fun V Y => ?_)
  have Y : x_IsX V cX10_truck 3 RX10 (Option.some FieldType.int) ad dsX 7 (x_PI Q) QX 0 4 := Y
  have X := x_isX Y
  show V σ τ 0 [(0, .ref (ad 0)), (1, .int a1), (2, .int a2)] []
  refine x_aload_n X dX10_truck_0 rfl 0 rfl ?_
  refine x_iload_n X dX10_truck_1 rfl 1 rfl ?_
  refine x_callVXv Y [.int a1] [] dX10_truck_2 (kX10_checkTruck h) cm_X10_checkTruck ci_X10_checkTruck w_5_57 dsX_0 ⟨by decide, by decide⟩ (by decide) rfl (Nat.le_of_ble_eq_true rfl) (fun V σ2 τ2 Y h => ?_)
  have X := x_isX Y
  refine x_iload_n X dX10_truck_5 rfl 2 rfl ?_
  by_cases hc0 : a2 = 0
  · have h := h.1 hc0
    refine x_tin X 0 56 hc0 dX10_truck_6 (by decide) (by decide) (off := 50) (by decide) (by decide) ?_
    refine x_aload_n X dX10_truck_56 rfl 0 rfl ?_
    refine x_getR X (j := 33) dX10_truck_57 fl_10_51 dsX_0 rfl ?_
    refine x_getR X (j := 34) dX10_truck_60 fl_10_212 dsX_33 rfl ?_
    refine x_iload_n X dX10_truck_63 rfl 1 rfl ?_
    have g64 := h.1
    have h := h.2
    refine x_iald X dX10_truck_64 dsX_34 g64 ?_
    exact x_iret X dX10_truck_65 ⟨_, rfl, h⟩
  have h := h.2
  by_cases hc1 : a2 = 1
  · have h := h.1 hc1
    refine x_tin X 1 66 hc1 dX10_truck_6 (by decide) (by decide) (off := 60) (by decide) (by decide) ?_
    refine x_aload_n X dX10_truck_66 rfl 0 rfl ?_
    refine x_getR X (j := 3) dX10_truck_67 fl_10_19 dsX_0 rfl ?_
    refine x_getR X (j := 9) dX10_truck_70 fl_10_215 dsX_3 rfl ?_
    refine x_iload_n X dX10_truck_73 rfl 1 rfl ?_
    have g74 := h.1
    have h := h.2
    refine x_iald X dX10_truck_74 dsX_9 g74 ?_
    exact x_iret X dX10_truck_75 ⟨_, rfl, h⟩
  have h := h.2
  by_cases hc2 : a2 = 2
  · have h := h.1 hc2
    refine x_tin X 2 76 hc2 dX10_truck_6 (by decide) (by decide) (off := 70) (by decide) (by decide) ?_
    refine x_aload_n X dX10_truck_76 rfl 0 rfl ?_
    refine x_getR X (j := 3) dX10_truck_77 fl_10_19 dsX_0 rfl ?_
    refine x_getR X (j := 10) dX10_truck_80 fl_10_218 dsX_3 rfl ?_
    refine x_iload_n X dX10_truck_83 rfl 1 rfl ?_
    have g84 := h.1
    have h := h.2
    refine x_iald X dX10_truck_84 dsX_10 g84 ?_
    exact x_iret X dX10_truck_85 ⟨_, rfl, h⟩
  have h := h.2
  by_cases hc3 : a2 = 3
  · have h := h.1 hc3
    refine x_tin X 3 86 hc3 dX10_truck_6 (by decide) (by decide) (off := 80) (by decide) (by decide) ?_
    refine x_aload_n X dX10_truck_86 rfl 0 rfl ?_
    refine x_getR X (j := 3) dX10_truck_87 fl_10_19 dsX_0 rfl ?_
    refine x_getR X (j := 11) dX10_truck_90 fl_10_221 dsX_3 rfl ?_
    refine x_iload_n X dX10_truck_93 rfl 1 rfl ?_
    have g94 := h.1
    have h := h.2
    refine x_iald X dX10_truck_94 dsX_11 g94 ?_
    exact x_iret X dX10_truck_95 ⟨_, rfl, h⟩
  have h := h.2
  by_cases hc4 : a2 = 4
  · have h := h.1 hc4
    refine x_tin X 4 96 hc4 dX10_truck_6 (by decide) (by decide) (off := 90) (by decide) (by decide) ?_
    refine x_aload_n X dX10_truck_96 rfl 0 rfl ?_
    refine x_getR X (j := 33) dX10_truck_97 fl_10_51 dsX_0 rfl ?_
    refine x_iload_n X dX10_truck_100 rfl 1 rfl ?_
    refine x_callVi X [.int a1] [] dX10_truck_101 (kX6_arrival x_pl33 h) cm_X6_arrival ci_X6_arrival w_5_62 dsX_33 ⟨by decide, by decide⟩ rfl (Nat.le_of_ble_eq_true rfl) (fun r101 σ101 τ101 h => ?_)
    exact x_iret X dX10_truck_104 ⟨_, rfl, h⟩
  have h := h.2
  by_cases hc5 : a2 = 5
  · have h := h.1 hc5
    refine x_tin X 5 105 hc5 dX10_truck_6 (by decide) (by decide) (off := 99) (by decide) (by decide) ?_
    refine x_aload_n X dX10_truck_105 rfl 0 rfl ?_
    refine x_getR X (j := 3) dX10_truck_106 fl_10_19 dsX_0 rfl ?_
    refine x_iload_n X dX10_truck_109 rfl 1 rfl ?_
    refine x_callVi X [.int a1] [] dX10_truck_110 (kX1_kilometers h) cm_X1_kilometers ci_X1_kilometers w_5_63 dsX_3 ⟨by decide, by decide⟩ rfl (Nat.le_of_ble_eq_true rfl) (fun r110 σ110 τ110 h => ?_)
    exact x_iret X dX10_truck_113 ⟨_, rfl, h⟩
  have h := h.2
  by_cases hc6 : a2 = 6
  · have h := h.1 hc6
    refine x_tin X 6 114 hc6 dX10_truck_6 (by decide) (by decide) (off := 108) (by decide) (by decide) ?_
    refine x_aload_n X dX10_truck_114 rfl 0 rfl ?_
    refine x_getR X (j := 33) dX10_truck_115 fl_10_51 dsX_0 rfl ?_
    refine x_iload_n X dX10_truck_118 rfl 1 rfl ?_
    refine x_callVi X [.int a1] [] dX10_truck_119 (kX6_fuelOf x_pl33 h) cm_X6_fuelOf ci_X6_fuelOf w_5_68 dsX_33 ⟨by decide, by decide⟩ rfl (Nat.le_of_ble_eq_true rfl) (fun r119 σ119 τ119 h => ?_)
    exact x_iret X dX10_truck_122 ⟨_, rfl, h⟩
  have h := h.2
  by_cases hc7 : a2 = 7
  · have h := h.1 hc7
    refine x_tin X 7 123 hc7 dX10_truck_6 (by decide) (by decide) (off := 117) (by decide) (by decide) ?_
    refine x_aload_n X dX10_truck_123 rfl 0 rfl ?_
    refine x_getR X (j := 33) dX10_truck_124 fl_10_51 dsX_0 rfl ?_
    refine x_iload_n X dX10_truck_127 rfl 1 rfl ?_
    refine x_callVi X [.int a1] [] dX10_truck_128 (kX6_savedBy x_pl33 h) cm_X6_savedBy ci_X6_savedBy w_5_73 dsX_33 ⟨by decide, by decide⟩ rfl (Nat.le_of_ble_eq_true rfl) (fun r128 σ128 τ128 h => ?_)
    exact x_iret X dX10_truck_131 ⟨_, rfl, h⟩
  have h := h.2
  by_cases hc8 : a2 = 8
  · have h := h.1 hc8
    refine x_tin X 8 132 hc8 dX10_truck_6 (by decide) (by decide) (off := 126) (by decide) (by decide) ?_
    refine x_aload_n X dX10_truck_132 rfl 0 rfl ?_
    refine x_getR X (j := 33) dX10_truck_133 fl_10_51 dsX_0 rfl ?_
    refine x_iload_n X dX10_truck_136 rfl 1 rfl ?_
    refine x_callVi X [.int a1] [] dX10_truck_137 (kX6_closedBy x_pl33 h) cm_X6_closedBy ci_X6_closedBy w_5_77 dsX_33 ⟨by decide, by decide⟩ rfl (Nat.le_of_ble_eq_true rfl) (fun r137 σ137 τ137 h => ?_)
    exact x_iret X dX10_truck_140 ⟨_, rfl, h⟩
  have h := h.2
  have he0 := x_toInt_ne (n := 0) hc0 (by decide)
  have he1 := x_toInt_ne (n := 1) hc1 (by decide)
  have he2 := x_toInt_ne (n := 2) hc2 (by decide)
  have he3 := x_toInt_ne (n := 3) hc3 (by decide)
  have he4 := x_toInt_ne (n := 4) hc4 (by decide)
  have he5 := x_toInt_ne (n := 5) hc5 (by decide)
  have he6 := x_toInt_ne (n := 6) hc6 (by decide)
  have he7 := x_toInt_ne (n := 7) hc7 (by decide)
  have he8 := x_toInt_ne (n := 8) hc8 (by decide)
  have h := h hc0 hc1 hc2 hc3 hc4 hc5 hc6 hc7 hc8
  refine x_tout X 141 dX10_truck_6 (by omega) (by decide) ?_
  refine x_iconst X dX10_truck_141 ki_m1 ?_
  exact x_iret X dX10_truck_142 ⟨_, rfl, h⟩
theorem dX10_checkPlace_0 : decode cX10_checkPlace 0 = .ok (.aload_n 0, 1) := by decide +kernel
theorem dX10_checkPlace_1 : decode cX10_checkPlace 1 = .ok (.getfield 19, 3) := by decide +kernel
theorem dX10_checkPlace_4 : decode cX10_checkPlace 4 = .ok (.iload_n 1, 1) := by decide +kernel
theorem dX10_checkPlace_5 : decode cX10_checkPlace 5 = .ok (.iload_n 2, 1) := by decide +kernel
theorem dX10_checkPlace_6 : decode cX10_checkPlace 6 = .ok (.invokevirtual 454, 3) := by decide +kernel
theorem dX10_checkPlace_9 : decode cX10_checkPlace 9 = .ok (.ifCond .ne 14, 3) := by decide +kernel
theorem dX10_checkPlace_12 : decode cX10_checkPlace 12 = .ok (.new 473, 3) := by decide +kernel
theorem dX10_checkPlace_15 : decode cX10_checkPlace 15 = .ok (.dup, 1) := by decide +kernel
theorem dX10_checkPlace_16 : decode cX10_checkPlace 16 = .ok (.ldc_w 480, 3) := by decide +kernel
theorem dX10_checkPlace_19 : decode cX10_checkPlace 19 = .ok (.invokespecial 477, 3) := by decide +kernel
theorem dX10_checkPlace_22 : decode cX10_checkPlace 22 = .ok (.athrow, 1) := by decide +kernel
theorem dX10_checkPlace_23 : decode cX10_checkPlace 23 = .ok (.return_, 1) := by decide +kernel
theorem cm_X10_checkPlace : x_CM yX10_checkPlace cX10_checkPlace 3 (Option.none : Option Jvm.ClassFile.FieldType) 2 := ⟨w_5_91, w_1_1, by decide +kernel, by decide +kernel⟩
theorem ci_X10_checkPlace : x_CI yX10_checkPlace 12 := ⟨w_5_90, wp_35, (RX10, TX10, 12), rfl, rfl⟩
set_option maxRecDepth 100000 in
set_option maxHeartbeats 4000000 in
theorem kX10_checkPlace {ad : Nat → Nat} {a1 : Int32} {a2 : Int32} {σ : x_S} {τ : x_L} {Q : x_S → x_L → Prop} {QX : x_PE} (h : wX10_checkPlace a1 a2 σ τ Q QX) : x_MetX yX10_checkPlace cX10_checkPlace 3 (Option.none : Option Jvm.ClassFile.FieldType) 6 1 ad dsX [.ref (ad 0), .int a1, .int a2] σ τ (x_PV Q) QX := by
  refine x_metX (by decide +kernel) (Nat.le_of_ble_eq_true rfl) (fun V Y => ?_)
  have Y : x_IsX V cX10_checkPlace 3 RX10 (Option.none : Option Jvm.ClassFile.FieldType) ad dsX 6 (x_PV Q) QX 0 1 := Y
  have X := x_isX Y
  show V σ τ 0 [(0, .ref (ad 0)), (1, .int a1), (2, .int a2)] []
  refine x_aload_n X dX10_checkPlace_0 rfl 0 rfl ?_
  refine x_getR X (j := 3) dX10_checkPlace_1 fl_10_19 dsX_0 rfl ?_
  refine x_iload_n X dX10_checkPlace_4 rfl 1 rfl ?_
  refine x_iload_n X dX10_checkPlace_5 rfl 2 rfl ?_
  refine x_callVi X [.int a1, .int a2] [] dX10_checkPlace_6 (kX1_hasPlace h) cm_X1_hasPlace ci_X1_hasPlace w_4_102 dsX_3 ⟨by decide, by decide⟩ rfl (Nat.le_of_ble_eq_true rfl) (fun r6 σ6 τ6 h => ?_)
  refine x_if_ne X 23 dX10_checkPlace_9 (by decide) (fun hc => ?_) (fun hc => ?_)
  · have h := h.1 hc
    exact x_vret X dX10_checkPlace_23 ⟨rfl, h⟩
  · have h := h.2 hc
    exact x_throw Y (i := 11) dX10_checkPlace_12 dX10_checkPlace_15 dX10_checkPlace_16 dX10_checkPlace_19 dX10_checkPlace_22 (by decide +kernel) w_5_29 w_1_23 (List.mem_of_getElem? (i := 0) rfl) (List.mem_of_getElem? (i := 11) rfl) x_exIO x_exIO_b x_exIO_c (by decide) (by decide) (Nat.le_of_ble_eq_true rfl) h
theorem dX10_place_0 : decode cX10_place 0 = .ok (.aload_n 0, 1) := by decide +kernel
theorem dX10_place_1 : decode cX10_place 1 = .ok (.iload_n 1, 1) := by decide +kernel
theorem dX10_place_2 : decode cX10_place 2 = .ok (.iload_n 2, 1) := by decide +kernel
theorem dX10_place_3 : decode cX10_place 3 = .ok (.invokevirtual 239, 3) := by decide +kernel
theorem dX10_place_6 : decode cX10_place 6 = .ok (.iload_n 1, 1) := by decide +kernel
theorem dX10_place_7 : decode cX10_place 7 = .ok (.iload_n 2, 1) := by decide +kernel
theorem dX10_place_8 : decode cX10_place 8 = .ok (.invokestatic 243, 3) := by decide +kernel
theorem dX10_place_11 : decode cX10_place 11 = .ok (.istore 4, 2) := by decide +kernel
theorem dX10_place_13 : decode cX10_place 13 = .ok (.iload_n 3, 1) := by decide +kernel
theorem dX10_place_14 : decode cX10_place 14 = .ok (.tableswitch 184 0 10 #[58, 69, 80, 91, 101, 112, 123, 133, 144, 154, 173], 58) := by decide +kernel
theorem dX10_place_72 : decode cX10_place 72 = .ok (.aload_n 0, 1) := by decide +kernel
theorem dX10_place_73 : decode cX10_place 73 = .ok (.getfield 19, 3) := by decide +kernel
theorem dX10_place_76 : decode cX10_place 76 = .ok (.getfield 246, 3) := by decide +kernel
theorem dX10_place_79 : decode cX10_place 79 = .ok (.iload 4, 2) := by decide +kernel
theorem dX10_place_81 : decode cX10_place 81 = .ok (.iaload, 1) := by decide +kernel
theorem dX10_place_82 : decode cX10_place 82 = .ok (.ireturn, 1) := by decide +kernel
theorem dX10_place_83 : decode cX10_place 83 = .ok (.aload_n 0, 1) := by decide +kernel
theorem dX10_place_84 : decode cX10_place 84 = .ok (.getfield 51, 3) := by decide +kernel
theorem dX10_place_87 : decode cX10_place 87 = .ok (.getfield 249, 3) := by decide +kernel
theorem dX10_place_90 : decode cX10_place 90 = .ok (.iload 4, 2) := by decide +kernel
theorem dX10_place_92 : decode cX10_place 92 = .ok (.iaload, 1) := by decide +kernel
theorem dX10_place_93 : decode cX10_place 93 = .ok (.ireturn, 1) := by decide +kernel
theorem dX10_place_94 : decode cX10_place 94 = .ok (.aload_n 0, 1) := by decide +kernel
theorem dX10_place_95 : decode cX10_place 95 = .ok (.getfield 51, 3) := by decide +kernel
theorem dX10_place_98 : decode cX10_place 98 = .ok (.getfield 252, 3) := by decide +kernel
theorem dX10_place_101 : decode cX10_place 101 = .ok (.iload 4, 2) := by decide +kernel
theorem dX10_place_103 : decode cX10_place 103 = .ok (.iaload, 1) := by decide +kernel
theorem dX10_place_104 : decode cX10_place 104 = .ok (.ireturn, 1) := by decide +kernel
theorem dX10_place_105 : decode cX10_place 105 = .ok (.aload_n 0, 1) := by decide +kernel
theorem dX10_place_106 : decode cX10_place 106 = .ok (.getfield 51, 3) := by decide +kernel
theorem dX10_place_109 : decode cX10_place 109 = .ok (.iload_n 1, 1) := by decide +kernel
theorem dX10_place_110 : decode cX10_place 110 = .ok (.iload_n 2, 1) := by decide +kernel
theorem dX10_place_111 : decode cX10_place 111 = .ok (.invokevirtual 255, 3) := by decide +kernel
theorem dX10_place_114 : decode cX10_place 114 = .ok (.ireturn, 1) := by decide +kernel
theorem dX10_place_115 : decode cX10_place 115 = .ok (.aload_n 0, 1) := by decide +kernel
theorem dX10_place_116 : decode cX10_place 116 = .ok (.getfield 51, 3) := by decide +kernel
theorem dX10_place_119 : decode cX10_place 119 = .ok (.getfield 258, 3) := by decide +kernel
theorem dX10_place_122 : decode cX10_place 122 = .ok (.iload 4, 2) := by decide +kernel
theorem dX10_place_124 : decode cX10_place 124 = .ok (.iaload, 1) := by decide +kernel
theorem dX10_place_125 : decode cX10_place 125 = .ok (.ireturn, 1) := by decide +kernel
theorem dX10_place_126 : decode cX10_place 126 = .ok (.aload_n 0, 1) := by decide +kernel
theorem dX10_place_127 : decode cX10_place 127 = .ok (.getfield 51, 3) := by decide +kernel
theorem dX10_place_130 : decode cX10_place 130 = .ok (.getfield 261, 3) := by decide +kernel
theorem dX10_place_133 : decode cX10_place 133 = .ok (.iload 4, 2) := by decide +kernel
theorem dX10_place_135 : decode cX10_place 135 = .ok (.iaload, 1) := by decide +kernel
theorem dX10_place_136 : decode cX10_place 136 = .ok (.ireturn, 1) := by decide +kernel
theorem dX10_place_137 : decode cX10_place 137 = .ok (.aload_n 0, 1) := by decide +kernel
theorem dX10_place_138 : decode cX10_place 138 = .ok (.getfield 51, 3) := by decide +kernel
theorem dX10_place_141 : decode cX10_place 141 = .ok (.iload 4, 2) := by decide +kernel
theorem dX10_place_143 : decode cX10_place 143 = .ok (.invokevirtual 264, 3) := by decide +kernel
theorem dX10_place_146 : decode cX10_place 146 = .ok (.ireturn, 1) := by decide +kernel
theorem dX10_place_147 : decode cX10_place 147 = .ok (.aload_n 0, 1) := by decide +kernel
theorem dX10_place_148 : decode cX10_place 148 = .ok (.getfield 51, 3) := by decide +kernel
theorem dX10_place_151 : decode cX10_place 151 = .ok (.getfield 267, 3) := by decide +kernel
theorem dX10_place_154 : decode cX10_place 154 = .ok (.iload 4, 2) := by decide +kernel
theorem dX10_place_156 : decode cX10_place 156 = .ok (.iaload, 1) := by decide +kernel
theorem dX10_place_157 : decode cX10_place 157 = .ok (.ireturn, 1) := by decide +kernel
theorem dX10_place_158 : decode cX10_place 158 = .ok (.aload_n 0, 1) := by decide +kernel
theorem dX10_place_159 : decode cX10_place 159 = .ok (.getfield 51, 3) := by decide +kernel
theorem dX10_place_162 : decode cX10_place 162 = .ok (.iload 4, 2) := by decide +kernel
theorem dX10_place_164 : decode cX10_place 164 = .ok (.invokevirtual 270, 3) := by decide +kernel
theorem dX10_place_167 : decode cX10_place 167 = .ok (.ireturn, 1) := by decide +kernel
theorem dX10_place_168 : decode cX10_place 168 = .ok (.aload_n 0, 1) := by decide +kernel
theorem dX10_place_169 : decode cX10_place 169 = .ok (.getfield 51, 3) := by decide +kernel
theorem dX10_place_172 : decode cX10_place 172 = .ok (.getfield 273, 3) := by decide +kernel
theorem dX10_place_175 : decode cX10_place 175 = .ok (.iload 4, 2) := by decide +kernel
theorem dX10_place_177 : decode cX10_place 177 = .ok (.baload, 1) := by decide +kernel
theorem dX10_place_178 : decode cX10_place 178 = .ok (.ifCond .eq 7, 3) := by decide +kernel
theorem dX10_place_181 : decode cX10_place 181 = .ok (.iconst 1, 1) := by decide +kernel
theorem dX10_place_182 : decode cX10_place 182 = .ok (.goto 4, 3) := by decide +kernel
theorem dX10_place_185 : decode cX10_place 185 = .ok (.iconst 0, 1) := by decide +kernel
theorem dX10_place_186 : decode cX10_place 186 = .ok (.ireturn, 1) := by decide +kernel
theorem dX10_place_187 : decode cX10_place 187 = .ok (.aload_n 0, 1) := by decide +kernel
theorem dX10_place_188 : decode cX10_place 188 = .ok (.getfield 51, 3) := by decide +kernel
theorem dX10_place_191 : decode cX10_place 191 = .ok (.getfield 277, 3) := by decide +kernel
theorem dX10_place_194 : decode cX10_place 194 = .ok (.iload 4, 2) := by decide +kernel
theorem dX10_place_196 : decode cX10_place 196 = .ok (.iaload, 1) := by decide +kernel
theorem dX10_place_197 : decode cX10_place 197 = .ok (.ireturn, 1) := by decide +kernel
theorem dX10_place_198 : decode cX10_place 198 = .ok (.iconst (-1), 1) := by decide +kernel
theorem dX10_place_199 : decode cX10_place 199 = .ok (.ireturn, 1) := by decide +kernel
theorem cm_X10_place : x_CM yX10_place cX10_place 5 (Option.some FieldType.int) 3 := ⟨w_5_87, w_1_1, by decide +kernel, by decide +kernel⟩
theorem ci_X10_place : x_CI yX10_place 12 := ⟨w_5_85, w_5_86, (RX10, TX10, 12), rfl, rfl⟩
set_option maxRecDepth 100000 in
set_option maxHeartbeats 4000000 in
theorem bX10_place_186 {V : x_J} {ad : Nat → Nat} {Q : Int32 → x_S → x_L → Prop} {QX : x_PE} (Y : x_IsX V cX10_place 5 RX10 (Option.some FieldType.int) ad dsX 7 (x_PI Q) QX 1 4) {s0 : Int32} {σ : x_S} {τ : x_L} (h : wX10_place_186 Q QX s0 σ τ) : V σ τ 186 [] [.int s0] := by
  have X := x_isX Y
  exact x_iret X dX10_place_186 ⟨_, rfl, h⟩
set_option maxRecDepth 100000 in
set_option maxHeartbeats 4000000 in
theorem kX10_place {ad : Nat → Nat} {a1 : Int32} {a2 : Int32} {a3 : Int32} {σ : x_S} {τ : x_L} {Q : Int32 → x_S → x_L → Prop} {QX : x_PE} (h : wX10_place a1 a2 a3 σ τ Q QX) : x_MetX yX10_place cX10_place 5 (Option.some FieldType.int) 7 4 ad dsX [.ref (ad 0), .int a1, .int a2, .int a3] σ τ (x_PI Q) QX := by
  refine x_metX (by decide +kernel) (Nat.le_of_ble_eq_true rfl) (fun V Y => ?_)
  have Y : x_IsX V cX10_place 5 RX10 (Option.some FieldType.int) ad dsX 7 (x_PI Q) QX 0 4 := Y
  have X := x_isX Y
  show V σ τ 0 [(0, .ref (ad 0)), (1, .int a1), (2, .int a2), (3, .int a3)] []
  refine x_aload_n X dX10_place_0 rfl 0 rfl ?_
  refine x_iload_n X dX10_place_1 rfl 1 rfl ?_
  refine x_iload_n X dX10_place_2 rfl 2 rfl ?_
  refine x_callVXv Y [.int a1, .int a2] [] dX10_place_3 (kX10_checkPlace h) cm_X10_checkPlace ci_X10_checkPlace w_5_88 dsX_0 ⟨by decide, by decide⟩ (by decide) rfl (Nat.le_of_ble_eq_true rfl) (fun V σ3 τ3 Y h => ?_)
  have X := x_isX Y
  refine x_iload_n X dX10_place_6 rfl 1 rfl ?_
  refine x_iload_n X dX10_place_7 rfl 2 rfl ?_
  refine x_callSi X [.int a1, .int a2] [] dX10_place_8 (kX10_stopAt h) cm_X10_stopAt w_3_60 rfl w_4_107 ⟨by decide, by decide⟩ rfl (Nat.le_of_ble_eq_true rfl) (fun r8 σ8 τ8 h => ?_)
  refine x_istore X (lv' := [(4, .int r8), (0, .ref (ad 0)), (1, .int a1), (2, .int a2), (3, .int a3)]) dX10_place_11 (by decide) rfl ?_
  refine x_iload_n X dX10_place_13 rfl 4 rfl ?_
  by_cases hc0 : a3 = 0
  · have h := h.1 hc0
    refine x_tin X 0 72 hc0 dX10_place_14 (by decide) (by decide) (off := 58) (by decide) (by decide) ?_
    refine x_aload_n X dX10_place_72 rfl 1 rfl ?_
    refine x_getR X (j := 3) dX10_place_73 fl_10_19 dsX_0 rfl ?_
    refine x_getR X (j := 12) dX10_place_76 fl_10_246 dsX_3 rfl ?_
    refine x_iload X dX10_place_79 0 rfl ?_
    have g81 := h.1
    have h := h.2
    refine x_iald X dX10_place_81 dsX_12 g81 ?_
    exact x_iret X dX10_place_82 ⟨_, rfl, h⟩
  have h := h.2
  by_cases hc1 : a3 = 1
  · have h := h.1 hc1
    refine x_tin X 1 83 hc1 dX10_place_14 (by decide) (by decide) (off := 69) (by decide) (by decide) ?_
    refine x_aload_n X dX10_place_83 rfl 1 rfl ?_
    refine x_getR X (j := 33) dX10_place_84 fl_10_51 dsX_0 rfl ?_
    refine x_getR X (j := 35) dX10_place_87 fl_10_249 dsX_33 rfl ?_
    refine x_iload X dX10_place_90 0 rfl ?_
    have g92 := h.1
    have h := h.2
    refine x_iald X dX10_place_92 dsX_35 g92 ?_
    exact x_iret X dX10_place_93 ⟨_, rfl, h⟩
  have h := h.2
  by_cases hc2 : a3 = 2
  · have h := h.1 hc2
    refine x_tin X 2 94 hc2 dX10_place_14 (by decide) (by decide) (off := 80) (by decide) (by decide) ?_
    refine x_aload_n X dX10_place_94 rfl 1 rfl ?_
    refine x_getR X (j := 33) dX10_place_95 fl_10_51 dsX_0 rfl ?_
    refine x_getR X (j := 36) dX10_place_98 fl_10_252 dsX_33 rfl ?_
    refine x_iload X dX10_place_101 0 rfl ?_
    have g103 := h.1
    have h := h.2
    refine x_iald X dX10_place_103 dsX_36 g103 ?_
    exact x_iret X dX10_place_104 ⟨_, rfl, h⟩
  have h := h.2
  by_cases hc3 : a3 = 3
  · have h := h.1 hc3
    refine x_tin X 3 105 hc3 dX10_place_14 (by decide) (by decide) (off := 91) (by decide) (by decide) ?_
    refine x_aload_n X dX10_place_105 rfl 1 rfl ?_
    refine x_getR X (j := 33) dX10_place_106 fl_10_51 dsX_0 rfl ?_
    refine x_iload_n X dX10_place_109 rfl 2 rfl ?_
    refine x_iload_n X dX10_place_110 rfl 3 rfl ?_
    refine x_callVi X [.int a1, .int a2] [] dX10_place_111 (kX6_ready x_pl33 h) cm_X6_ready ci_X6_ready w_5_93 dsX_33 ⟨by decide, by decide⟩ rfl (Nat.le_of_ble_eq_true rfl) (fun r111 σ111 τ111 h => ?_)
    exact x_iret X dX10_place_114 ⟨_, rfl, h⟩
  have h := h.2
  by_cases hc4 : a3 = 4
  · have h := h.1 hc4
    refine x_tin X 4 115 hc4 dX10_place_14 (by decide) (by decide) (off := 101) (by decide) (by decide) ?_
    refine x_aload_n X dX10_place_115 rfl 1 rfl ?_
    refine x_getR X (j := 33) dX10_place_116 fl_10_51 dsX_0 rfl ?_
    refine x_getR X (j := 37) dX10_place_119 fl_10_258 dsX_33 rfl ?_
    refine x_iload X dX10_place_122 0 rfl ?_
    have g124 := h.1
    have h := h.2
    refine x_iald X dX10_place_124 dsX_37 g124 ?_
    exact x_iret X dX10_place_125 ⟨_, rfl, h⟩
  have h := h.2
  by_cases hc5 : a3 = 5
  · have h := h.1 hc5
    refine x_tin X 5 126 hc5 dX10_place_14 (by decide) (by decide) (off := 112) (by decide) (by decide) ?_
    refine x_aload_n X dX10_place_126 rfl 1 rfl ?_
    refine x_getR X (j := 33) dX10_place_127 fl_10_51 dsX_0 rfl ?_
    refine x_getR X (j := 38) dX10_place_130 fl_10_261 dsX_33 rfl ?_
    refine x_iload X dX10_place_133 0 rfl ?_
    have g135 := h.1
    have h := h.2
    refine x_iald X dX10_place_135 dsX_38 g135 ?_
    exact x_iret X dX10_place_136 ⟨_, rfl, h⟩
  have h := h.2
  by_cases hc6 : a3 = 6
  · have h := h.1 hc6
    refine x_tin X 6 137 hc6 dX10_place_14 (by decide) (by decide) (off := 123) (by decide) (by decide) ?_
    refine x_aload_n X dX10_place_137 rfl 1 rfl ?_
    refine x_getR X (j := 33) dX10_place_138 fl_10_51 dsX_0 rfl ?_
    refine x_iload X dX10_place_141 0 rfl ?_
    refine x_callVi X [.int r8] [] dX10_place_143 (kX6_base x_pl33 h) cm_X6_base ci_X6_base w_5_94 dsX_33 ⟨by decide, by decide⟩ rfl (Nat.le_of_ble_eq_true rfl) (fun r143 σ143 τ143 h => ?_)
    exact x_iret X dX10_place_146 ⟨_, rfl, h⟩
  have h := h.2
  by_cases hc7 : a3 = 7
  · have h := h.1 hc7
    refine x_tin X 7 147 hc7 dX10_place_14 (by decide) (by decide) (off := 133) (by decide) (by decide) ?_
    refine x_aload_n X dX10_place_147 rfl 1 rfl ?_
    refine x_getR X (j := 33) dX10_place_148 fl_10_51 dsX_0 rfl ?_
    refine x_getR X (j := 44) dX10_place_151 fl_10_267 dsX_33 rfl ?_
    refine x_iload X dX10_place_154 0 rfl ?_
    have g156 := h.1
    have h := h.2
    refine x_iald X dX10_place_156 dsX_44 g156 ?_
    exact x_iret X dX10_place_157 ⟨_, rfl, h⟩
  have h := h.2
  by_cases hc8 : a3 = 8
  · have h := h.1 hc8
    refine x_tin X 8 158 hc8 dX10_place_14 (by decide) (by decide) (off := 144) (by decide) (by decide) ?_
    refine x_aload_n X dX10_place_158 rfl 1 rfl ?_
    refine x_getR X (j := 33) dX10_place_159 fl_10_51 dsX_0 rfl ?_
    refine x_iload X dX10_place_162 0 rfl ?_
    refine x_callVi X [.int r8] [] dX10_place_164 (kX6_fuel x_pl33 h) cm_X6_fuel ci_X6_fuel w_4_157 dsX_33 ⟨by decide, by decide⟩ rfl (Nat.le_of_ble_eq_true rfl) (fun r164 σ164 τ164 h => ?_)
    exact x_iret X dX10_place_167 ⟨_, rfl, h⟩
  have h := h.2
  by_cases hc9 : a3 = 9
  · have h := h.1 hc9
    refine x_tin X 9 168 hc9 dX10_place_14 (by decide) (by decide) (off := 154) (by decide) (by decide) ?_
    refine x_aload_n X dX10_place_168 rfl 1 rfl ?_
    refine x_getR X (j := 33) dX10_place_169 fl_10_51 dsX_0 rfl ?_
    refine x_getR X (j := 45) dX10_place_172 fl_10_273 dsX_33 rfl ?_
    refine x_iload X dX10_place_175 0 rfl ?_
    have g177 := h.1
    have h := h.2
    refine x_zald X dX10_place_177 dsX_45 g177 ?_
    refine x_if_eq X 185 dX10_place_178 (by decide) (fun hc => ?_) (fun hc => ?_)
    · have h := h.1 hc
      refine x_iconst X dX10_place_185 ki_0 ?_
      refine x_sub X [] (lv' := []) rfl ?_
      exact bX10_place_186 Y h
    · have h := h.2 hc
      refine x_iconst X dX10_place_181 ki_1 ?_
      refine x_goto X (tgt := 186) dX10_place_182 (by decide) ?_
      refine x_sub X [] (lv' := []) rfl ?_
      exact bX10_place_186 Y h
  have h := h.2
  by_cases hc10 : a3 = 10
  · have h := h.1 hc10
    refine x_tin X 10 187 hc10 dX10_place_14 (by decide) (by decide) (off := 173) (by decide) (by decide) ?_
    refine x_aload_n X dX10_place_187 rfl 1 rfl ?_
    refine x_getR X (j := 33) dX10_place_188 fl_10_51 dsX_0 rfl ?_
    refine x_getR X (j := 43) dX10_place_191 fl_10_277 dsX_33 rfl ?_
    refine x_iload X dX10_place_194 0 rfl ?_
    have g196 := h.1
    have h := h.2
    refine x_iald X dX10_place_196 dsX_43 g196 ?_
    exact x_iret X dX10_place_197 ⟨_, rfl, h⟩
  have h := h.2
  have he0 := x_toInt_ne (n := 0) hc0 (by decide)
  have he1 := x_toInt_ne (n := 1) hc1 (by decide)
  have he2 := x_toInt_ne (n := 2) hc2 (by decide)
  have he3 := x_toInt_ne (n := 3) hc3 (by decide)
  have he4 := x_toInt_ne (n := 4) hc4 (by decide)
  have he5 := x_toInt_ne (n := 5) hc5 (by decide)
  have he6 := x_toInt_ne (n := 6) hc6 (by decide)
  have he7 := x_toInt_ne (n := 7) hc7 (by decide)
  have he8 := x_toInt_ne (n := 8) hc8 (by decide)
  have he9 := x_toInt_ne (n := 9) hc9 (by decide)
  have he10 := x_toInt_ne (n := 10) hc10 (by decide)
  have h := h hc0 hc1 hc2 hc3 hc4 hc5 hc6 hc7 hc8 hc9 hc10
  refine x_tout X 198 dX10_place_14 (by omega) (by decide) ?_
  refine x_iconst X dX10_place_198 ki_m1 ?_
  exact x_iret X dX10_place_199 ⟨_, rfl, h⟩
theorem dX10_platoonOf_0 : decode cX10_platoonOf 0 = .ok (.aload_n 0, 1) := by decide +kernel
theorem dX10_platoonOf_1 : decode cX10_platoonOf 1 = .ok (.iload_n 1, 1) := by decide +kernel
theorem dX10_platoonOf_2 : decode cX10_platoonOf 2 = .ok (.iload_n 2, 1) := by decide +kernel
theorem dX10_platoonOf_3 : decode cX10_platoonOf 3 = .ok (.invokevirtual 239, 3) := by decide +kernel
theorem dX10_platoonOf_6 : decode cX10_platoonOf 6 = .ok (.aload_n 0, 1) := by decide +kernel
theorem dX10_platoonOf_7 : decode cX10_platoonOf 7 = .ok (.getfield 51, 3) := by decide +kernel
theorem dX10_platoonOf_10 : decode cX10_platoonOf 10 = .ok (.getfield 280, 3) := by decide +kernel
theorem dX10_platoonOf_13 : decode cX10_platoonOf 13 = .ok (.iload_n 1, 1) := by decide +kernel
theorem dX10_platoonOf_14 : decode cX10_platoonOf 14 = .ok (.iload_n 2, 1) := by decide +kernel
theorem dX10_platoonOf_15 : decode cX10_platoonOf 15 = .ok (.invokestatic 243, 3) := by decide +kernel
theorem dX10_platoonOf_18 : decode cX10_platoonOf 18 = .ok (.iaload, 1) := by decide +kernel
theorem dX10_platoonOf_19 : decode cX10_platoonOf 19 = .ok (.ireturn, 1) := by decide +kernel
theorem cm_X10_platoonOf : x_CM yX10_platoonOf cX10_platoonOf 3 (Option.some FieldType.int) 2 := ⟨w_5_101, w_1_1, by decide +kernel, by decide +kernel⟩
theorem ci_X10_platoonOf : x_CI yX10_platoonOf 12 := ⟨w_5_99, w_5_100, (RX10, TX10, 12), rfl, rfl⟩
set_option maxRecDepth 100000 in
set_option maxHeartbeats 4000000 in
theorem kX10_platoonOf {ad : Nat → Nat} {a1 : Int32} {a2 : Int32} {σ : x_S} {τ : x_L} {Q : Int32 → x_S → x_L → Prop} {QX : x_PE} (h : wX10_platoonOf a1 a2 σ τ Q QX) : x_MetX yX10_platoonOf cX10_platoonOf 3 (Option.some FieldType.int) 7 4 ad dsX [.ref (ad 0), .int a1, .int a2] σ τ (x_PI Q) QX := by
  refine x_metX (by decide +kernel) (Nat.le_of_ble_eq_true rfl) (fun V Y => ?_)
  have Y : x_IsX V cX10_platoonOf 3 RX10 (Option.some FieldType.int) ad dsX 7 (x_PI Q) QX 0 4 := Y
  have X := x_isX Y
  show V σ τ 0 [(0, .ref (ad 0)), (1, .int a1), (2, .int a2)] []
  refine x_aload_n X dX10_platoonOf_0 rfl 0 rfl ?_
  refine x_iload_n X dX10_platoonOf_1 rfl 1 rfl ?_
  refine x_iload_n X dX10_platoonOf_2 rfl 2 rfl ?_
  refine x_callVXv Y [.int a1, .int a2] [] dX10_platoonOf_3 (kX10_checkPlace h) cm_X10_checkPlace ci_X10_checkPlace w_5_88 dsX_0 ⟨by decide, by decide⟩ (by decide) rfl (Nat.le_of_ble_eq_true rfl) (fun V σ3 τ3 Y h => ?_)
  have X := x_isX Y
  refine x_aload_n X dX10_platoonOf_6 rfl 0 rfl ?_
  refine x_getR X (j := 33) dX10_platoonOf_7 fl_10_51 dsX_0 rfl ?_
  refine x_getR X (j := 40) dX10_platoonOf_10 fl_10_280 dsX_33 rfl ?_
  refine x_iload_n X dX10_platoonOf_13 rfl 1 rfl ?_
  refine x_iload_n X dX10_platoonOf_14 rfl 2 rfl ?_
  refine x_callSi X [.int a1, .int a2] [.ref (ad 40)] dX10_platoonOf_15 (kX10_stopAt h) cm_X10_stopAt w_3_60 rfl w_4_107 ⟨by decide, by decide⟩ rfl (Nat.le_of_ble_eq_true rfl) (fun r15 σ15 τ15 h => ?_)
  have g18 := h.1
  have h := h.2
  refine x_iald X dX10_platoonOf_18 dsX_40 g18 ?_
  exact x_iret X dX10_platoonOf_19 ⟨_, rfl, h⟩
theorem dX10_position_0 : decode cX10_position 0 = .ok (.aload_n 0, 1) := by decide +kernel
theorem dX10_position_1 : decode cX10_position 1 = .ok (.iload_n 1, 1) := by decide +kernel
theorem dX10_position_2 : decode cX10_position 2 = .ok (.iload_n 2, 1) := by decide +kernel
theorem dX10_position_3 : decode cX10_position 3 = .ok (.invokevirtual 239, 3) := by decide +kernel
theorem dX10_position_6 : decode cX10_position 6 = .ok (.aload_n 0, 1) := by decide +kernel
theorem dX10_position_7 : decode cX10_position 7 = .ok (.getfield 51, 3) := by decide +kernel
theorem dX10_position_10 : decode cX10_position 10 = .ok (.getfield 174, 3) := by decide +kernel
theorem dX10_position_13 : decode cX10_position 13 = .ok (.iload_n 1, 1) := by decide +kernel
theorem dX10_position_14 : decode cX10_position 14 = .ok (.iload_n 2, 1) := by decide +kernel
theorem dX10_position_15 : decode cX10_position 15 = .ok (.invokestatic 243, 3) := by decide +kernel
theorem dX10_position_18 : decode cX10_position 18 = .ok (.iaload, 1) := by decide +kernel
theorem dX10_position_19 : decode cX10_position 19 = .ok (.ireturn, 1) := by decide +kernel
theorem cm_X10_position : x_CM yX10_position cX10_position 3 (Option.some FieldType.int) 2 := ⟨w_5_108, w_1_1, by decide +kernel, by decide +kernel⟩
theorem ci_X10_position : x_CI yX10_position 12 := ⟨w_5_106, w_5_107, (RX10, TX10, 12), rfl, rfl⟩
set_option maxRecDepth 100000 in
set_option maxHeartbeats 4000000 in
theorem kX10_position {ad : Nat → Nat} {a1 : Int32} {a2 : Int32} {σ : x_S} {τ : x_L} {Q : Int32 → x_S → x_L → Prop} {QX : x_PE} (h : wX10_position a1 a2 σ τ Q QX) : x_MetX yX10_position cX10_position 3 (Option.some FieldType.int) 7 4 ad dsX [.ref (ad 0), .int a1, .int a2] σ τ (x_PI Q) QX := by
  refine x_metX (by decide +kernel) (Nat.le_of_ble_eq_true rfl) (fun V Y => ?_)
  have Y : x_IsX V cX10_position 3 RX10 (Option.some FieldType.int) ad dsX 7 (x_PI Q) QX 0 4 := Y
  have X := x_isX Y
  show V σ τ 0 [(0, .ref (ad 0)), (1, .int a1), (2, .int a2)] []
  refine x_aload_n X dX10_position_0 rfl 0 rfl ?_
  refine x_iload_n X dX10_position_1 rfl 1 rfl ?_
  refine x_iload_n X dX10_position_2 rfl 2 rfl ?_
  refine x_callVXv Y [.int a1, .int a2] [] dX10_position_3 (kX10_checkPlace h) cm_X10_checkPlace ci_X10_checkPlace w_5_88 dsX_0 ⟨by decide, by decide⟩ (by decide) rfl (Nat.le_of_ble_eq_true rfl) (fun V σ3 τ3 Y h => ?_)
  have X := x_isX Y
  refine x_aload_n X dX10_position_6 rfl 0 rfl ?_
  refine x_getR X (j := 33) dX10_position_7 fl_10_51 dsX_0 rfl ?_
  refine x_getR X (j := 41) dX10_position_10 fl_10_174 dsX_33 rfl ?_
  refine x_iload_n X dX10_position_13 rfl 1 rfl ?_
  refine x_iload_n X dX10_position_14 rfl 2 rfl ?_
  refine x_callSi X [.int a1, .int a2] [.ref (ad 41)] dX10_position_15 (kX10_stopAt h) cm_X10_stopAt w_3_60 rfl w_4_107 ⟨by decide, by decide⟩ rfl (Nat.le_of_ble_eq_true rfl) (fun r15 σ15 τ15 h => ?_)
  have g18 := h.1
  have h := h.2
  refine x_iald X dX10_position_18 dsX_41 g18 ?_
  exact x_iret X dX10_position_19 ⟨_, rfl, h⟩
theorem dX10_key_0 : decode cX10_key 0 = .ok (.aload_n 0, 1) := by decide +kernel
theorem dX10_key_1 : decode cX10_key 1 = .ok (.iload_n 1, 1) := by decide +kernel
theorem dX10_key_2 : decode cX10_key 2 = .ok (.iload_n 2, 1) := by decide +kernel
theorem dX10_key_3 : decode cX10_key 3 = .ok (.invokevirtual 239, 3) := by decide +kernel
theorem dX10_key_6 : decode cX10_key 6 = .ok (.aload_n 0, 1) := by decide +kernel
theorem dX10_key_7 : decode cX10_key 7 = .ok (.getfield 51, 3) := by decide +kernel
theorem dX10_key_10 : decode cX10_key 10 = .ok (.getfield 283, 3) := by decide +kernel
theorem dX10_key_13 : decode cX10_key 13 = .ok (.iload_n 1, 1) := by decide +kernel
theorem dX10_key_14 : decode cX10_key 14 = .ok (.iload_n 2, 1) := by decide +kernel
theorem dX10_key_15 : decode cX10_key 15 = .ok (.invokestatic 243, 3) := by decide +kernel
theorem dX10_key_18 : decode cX10_key 18 = .ok (.iaload, 1) := by decide +kernel
theorem dX10_key_19 : decode cX10_key 19 = .ok (.ireturn, 1) := by decide +kernel
theorem cm_X10_key : x_CM yX10_key cX10_key 3 (Option.some FieldType.int) 2 := ⟨w_5_115, w_1_1, by decide +kernel, by decide +kernel⟩
theorem ci_X10_key : x_CI yX10_key 12 := ⟨w_5_113, w_5_114, (RX10, TX10, 12), rfl, rfl⟩
set_option maxRecDepth 100000 in
set_option maxHeartbeats 4000000 in
theorem kX10_key {ad : Nat → Nat} {a1 : Int32} {a2 : Int32} {σ : x_S} {τ : x_L} {Q : Int32 → x_S → x_L → Prop} {QX : x_PE} (h : wX10_key a1 a2 σ τ Q QX) : x_MetX yX10_key cX10_key 3 (Option.some FieldType.int) 7 4 ad dsX [.ref (ad 0), .int a1, .int a2] σ τ (x_PI Q) QX := by
  refine x_metX (by decide +kernel) (Nat.le_of_ble_eq_true rfl) (fun V Y => ?_)
  have Y : x_IsX V cX10_key 3 RX10 (Option.some FieldType.int) ad dsX 7 (x_PI Q) QX 0 4 := Y
  have X := x_isX Y
  show V σ τ 0 [(0, .ref (ad 0)), (1, .int a1), (2, .int a2)] []
  refine x_aload_n X dX10_key_0 rfl 0 rfl ?_
  refine x_iload_n X dX10_key_1 rfl 1 rfl ?_
  refine x_iload_n X dX10_key_2 rfl 2 rfl ?_
  refine x_callVXv Y [.int a1, .int a2] [] dX10_key_3 (kX10_checkPlace h) cm_X10_checkPlace ci_X10_checkPlace w_5_88 dsX_0 ⟨by decide, by decide⟩ (by decide) rfl (Nat.le_of_ble_eq_true rfl) (fun V σ3 τ3 Y h => ?_)
  have X := x_isX Y
  refine x_aload_n X dX10_key_6 rfl 0 rfl ?_
  refine x_getR X (j := 33) dX10_key_7 fl_10_51 dsX_0 rfl ?_
  refine x_getR X (j := 42) dX10_key_10 fl_10_283 dsX_33 rfl ?_
  refine x_iload_n X dX10_key_13 rfl 1 rfl ?_
  refine x_iload_n X dX10_key_14 rfl 2 rfl ?_
  refine x_callSi X [.int a1, .int a2] [.ref (ad 42)] dX10_key_15 (kX10_stopAt h) cm_X10_stopAt w_3_60 rfl w_4_107 ⟨by decide, by decide⟩ rfl (Nat.le_of_ble_eq_true rfl) (fun r15 σ15 τ15 h => ?_)
  have g18 := h.1
  have h := h.2
  refine x_iald X dX10_key_18 dsX_42 g18 ?_
  exact x_iret X dX10_key_19 ⟨_, rfl, h⟩
theorem dX10_checkPlatoon_0 : decode cX10_checkPlatoon 0 = .ok (.aload_n 0, 1) := by decide +kernel
theorem dX10_checkPlatoon_1 : decode cX10_checkPlatoon 1 = .ok (.getfield 19, 3) := by decide +kernel
theorem dX10_checkPlatoon_4 : decode cX10_checkPlatoon 4 = .ok (.iload_n 1, 1) := by decide +kernel
theorem dX10_checkPlatoon_5 : decode cX10_checkPlatoon 5 = .ok (.invokevirtual 470, 3) := by decide +kernel
theorem dX10_checkPlatoon_8 : decode cX10_checkPlatoon 8 = .ok (.ifCond .eq 19, 3) := by decide +kernel
theorem dX10_checkPlatoon_11 : decode cX10_checkPlatoon 11 = .ok (.iload_n 2, 1) := by decide +kernel
theorem dX10_checkPlatoon_12 : decode cX10_checkPlatoon 12 = .ok (.ifCond .lt 15, 3) := by decide +kernel
theorem dX10_checkPlatoon_15 : decode cX10_checkPlatoon 15 = .ok (.iload_n 2, 1) := by decide +kernel
theorem dX10_checkPlatoon_16 : decode cX10_checkPlatoon 16 = .ok (.aload_n 0, 1) := by decide +kernel
theorem dX10_checkPlatoon_17 : decode cX10_checkPlatoon 17 = .ok (.getfield 51, 3) := by decide +kernel
theorem dX10_checkPlatoon_20 : decode cX10_checkPlatoon 20 = .ok (.iload_n 1, 1) := by decide +kernel
theorem dX10_checkPlatoon_21 : decode cX10_checkPlatoon 21 = .ok (.invokevirtual 203, 3) := by decide +kernel
theorem dX10_checkPlatoon_24 : decode cX10_checkPlatoon 24 = .ok (.if_icmp .lt 14, 3) := by decide +kernel
theorem dX10_checkPlatoon_27 : decode cX10_checkPlatoon 27 = .ok (.new 473, 3) := by decide +kernel
theorem dX10_checkPlatoon_30 : decode cX10_checkPlatoon 30 = .ok (.dup, 1) := by decide +kernel
theorem dX10_checkPlatoon_31 : decode cX10_checkPlatoon 31 = .ok (.ldc_w 482, 3) := by decide +kernel
theorem dX10_checkPlatoon_34 : decode cX10_checkPlatoon 34 = .ok (.invokespecial 477, 3) := by decide +kernel
theorem dX10_checkPlatoon_37 : decode cX10_checkPlatoon 37 = .ok (.athrow, 1) := by decide +kernel
theorem dX10_checkPlatoon_38 : decode cX10_checkPlatoon 38 = .ok (.return_, 1) := by decide +kernel
theorem cm_X10_checkPlatoon : x_CM yX10_checkPlatoon cX10_checkPlatoon 3 (Option.none : Option Jvm.ClassFile.FieldType) 2 := ⟨w_5_126, w_1_1, by decide +kernel, by decide +kernel⟩
theorem ci_X10_checkPlatoon : x_CI yX10_checkPlatoon 12 := ⟨w_5_125, wp_36, (RX10, TX10, 12), rfl, rfl⟩
set_option maxRecDepth 100000 in
set_option maxHeartbeats 4000000 in
theorem bX10_checkPlatoon_27 {V : x_J} {ad : Nat → Nat} {Q : x_S → x_L → Prop} {QX : x_PE} (Y : x_IsX V cX10_checkPlatoon 3 RX10 (Option.none : Option Jvm.ClassFile.FieldType) ad dsX 6 (x_PV Q) QX 0 1) {σ : x_S} {τ : x_L} (h : wX10_checkPlatoon_27 Q QX σ τ) : V σ τ 27 [] [] := by
  have X := x_isX Y
  exact x_throw Y (i := 12) dX10_checkPlatoon_27 dX10_checkPlatoon_30 dX10_checkPlatoon_31 dX10_checkPlatoon_34 dX10_checkPlatoon_37 (by decide +kernel) w_5_29 w_1_23 (List.mem_of_getElem? (i := 0) rfl) (List.mem_of_getElem? (i := 12) rfl) x_exIO x_exIO_b x_exIO_c (by decide) (by decide) (Nat.le_of_ble_eq_true rfl) h
set_option maxRecDepth 100000 in
set_option maxHeartbeats 4000000 in
theorem kX10_checkPlatoon {ad : Nat → Nat} {a1 : Int32} {a2 : Int32} {σ : x_S} {τ : x_L} {Q : x_S → x_L → Prop} {QX : x_PE} (h : wX10_checkPlatoon a1 a2 σ τ Q QX) : x_MetX yX10_checkPlatoon cX10_checkPlatoon 3 (Option.none : Option Jvm.ClassFile.FieldType) 6 1 ad dsX [.ref (ad 0), .int a1, .int a2] σ τ (x_PV Q) QX := by
  refine x_metX (by decide +kernel) (Nat.le_of_ble_eq_true rfl) (fun V Y => ?_)
  have Y : x_IsX V cX10_checkPlatoon 3 RX10 (Option.none : Option Jvm.ClassFile.FieldType) ad dsX 6 (x_PV Q) QX 0 1 := Y
  have X := x_isX Y
  show V σ τ 0 [(0, .ref (ad 0)), (1, .int a1), (2, .int a2)] []
  refine x_aload_n X dX10_checkPlatoon_0 rfl 0 rfl ?_
  refine x_getR X (j := 3) dX10_checkPlatoon_1 fl_10_19 dsX_0 rfl ?_
  refine x_iload_n X dX10_checkPlatoon_4 rfl 1 rfl ?_
  refine x_callVi X [.int a1] [] dX10_checkPlatoon_5 (kX1_hasRoad h) cm_X1_hasRoad ci_X1_hasRoad w_5_25 dsX_3 ⟨by decide, by decide⟩ rfl (Nat.le_of_ble_eq_true rfl) (fun r5 σ5 τ5 h => ?_)
  refine x_if_eq X 27 dX10_checkPlatoon_8 (by decide) (fun hc => ?_) (fun hc => ?_)
  · have h := h.1 hc
    refine x_sub X [] (lv' := []) rfl ?_
    exact bX10_checkPlatoon_27 Y h
  · have h := h.2 hc
    refine x_iload_n X dX10_checkPlatoon_11 rfl 2 rfl ?_
    refine x_if_lt X 27 dX10_checkPlatoon_12 (by decide) (fun hc => ?_) (fun hc => ?_)
    · have h := h.1 hc
      refine x_sub X [] (lv' := []) rfl ?_
      exact bX10_checkPlatoon_27 Y h
    · have h := h.2 hc
      refine x_iload_n X dX10_checkPlatoon_15 rfl 2 rfl ?_
      refine x_aload_n X dX10_checkPlatoon_16 rfl 0 rfl ?_
      refine x_getR X (j := 33) dX10_checkPlatoon_17 fl_10_51 dsX_0 rfl ?_
      refine x_iload_n X dX10_checkPlatoon_20 rfl 1 rfl ?_
      refine x_callVi X [.int a1] [.int a2] dX10_checkPlatoon_21 (kX6_platoonsOn x_pl33 h) cm_X6_platoonsOn ci_X6_platoonsOn w_5_42 dsX_33 ⟨by decide, by decide⟩ rfl (Nat.le_of_ble_eq_true rfl) (fun r21 σ21 τ21 h => ?_)
      refine x_icmp_lt X 38 dX10_checkPlatoon_24 (by decide) (fun hc => ?_) (fun hc => ?_)
      · have h := h.1 hc
        exact x_vret X dX10_checkPlatoon_38 ⟨rfl, h⟩
      · have h := h.2 hc
        refine x_sub X [] (lv' := []) rfl ?_
        exact bX10_checkPlatoon_27 Y h
theorem dX10_platoon_0 : decode cX10_platoon 0 = .ok (.aload_n 0, 1) := by decide +kernel
theorem dX10_platoon_1 : decode cX10_platoon 1 = .ok (.iload_n 1, 1) := by decide +kernel
theorem dX10_platoon_2 : decode cX10_platoon 2 = .ok (.iload_n 2, 1) := by decide +kernel
theorem dX10_platoon_3 : decode cX10_platoon 3 = .ok (.invokevirtual 286, 3) := by decide +kernel
theorem dX10_platoon_6 : decode cX10_platoon 6 = .ok (.aload_n 0, 1) := by decide +kernel
theorem dX10_platoon_7 : decode cX10_platoon 7 = .ok (.getfield 51, 3) := by decide +kernel
theorem dX10_platoon_10 : decode cX10_platoon 10 = .ok (.iload_n 1, 1) := by decide +kernel
theorem dX10_platoon_11 : decode cX10_platoon 11 = .ok (.iload_n 2, 1) := by decide +kernel
theorem dX10_platoon_12 : decode cX10_platoon 12 = .ok (.invokevirtual 289, 3) := by decide +kernel
theorem dX10_platoon_15 : decode cX10_platoon 15 = .ok (.istore 4, 2) := by decide +kernel
theorem dX10_platoon_17 : decode cX10_platoon 17 = .ok (.aload_n 0, 1) := by decide +kernel
theorem dX10_platoon_18 : decode cX10_platoon 18 = .ok (.getfield 51, 3) := by decide +kernel
theorem dX10_platoon_21 : decode cX10_platoon 21 = .ok (.iload_n 1, 1) := by decide +kernel
theorem dX10_platoon_22 : decode cX10_platoon 22 = .ok (.iload 4, 2) := by decide +kernel
theorem dX10_platoon_24 : decode cX10_platoon 24 = .ok (.invokevirtual 292, 3) := by decide +kernel
theorem dX10_platoon_27 : decode cX10_platoon 27 = .ok (.istore 5, 2) := by decide +kernel
theorem dX10_platoon_29 : decode cX10_platoon 29 = .ok (.iload_n 3, 1) := by decide +kernel
theorem dX10_platoon_30 : decode cX10_platoon 30 = .ok (.tableswitch 118 0 5 #[38, 57, 76, 82, 94, 106], 38) := by decide +kernel
theorem dX10_platoon_68 : decode cX10_platoon 68 = .ok (.aload_n 0, 1) := by decide +kernel
theorem dX10_platoon_69 : decode cX10_platoon 69 = .ok (.getfield 51, 3) := by decide +kernel
theorem dX10_platoon_72 : decode cX10_platoon 72 = .ok (.getfield 258, 3) := by decide +kernel
theorem dX10_platoon_75 : decode cX10_platoon 75 = .ok (.aload_n 0, 1) := by decide +kernel
theorem dX10_platoon_76 : decode cX10_platoon 76 = .ok (.getfield 51, 3) := by decide +kernel
theorem dX10_platoon_79 : decode cX10_platoon 79 = .ok (.getfield 171, 3) := by decide +kernel
theorem dX10_platoon_82 : decode cX10_platoon 82 = .ok (.iload 4, 2) := by decide +kernel
theorem dX10_platoon_84 : decode cX10_platoon 84 = .ok (.iaload, 1) := by decide +kernel
theorem dX10_platoon_85 : decode cX10_platoon 85 = .ok (.iaload, 1) := by decide +kernel
theorem dX10_platoon_86 : decode cX10_platoon 86 = .ok (.ireturn, 1) := by decide +kernel
theorem dX10_platoon_87 : decode cX10_platoon 87 = .ok (.aload_n 0, 1) := by decide +kernel
theorem dX10_platoon_88 : decode cX10_platoon 88 = .ok (.getfield 51, 3) := by decide +kernel
theorem dX10_platoon_91 : decode cX10_platoon 91 = .ok (.getfield 252, 3) := by decide +kernel
theorem dX10_platoon_94 : decode cX10_platoon 94 = .ok (.aload_n 0, 1) := by decide +kernel
theorem dX10_platoon_95 : decode cX10_platoon 95 = .ok (.getfield 51, 3) := by decide +kernel
theorem dX10_platoon_98 : decode cX10_platoon 98 = .ok (.getfield 171, 3) := by decide +kernel
theorem dX10_platoon_101 : decode cX10_platoon 101 = .ok (.iload 4, 2) := by decide +kernel
theorem dX10_platoon_103 : decode cX10_platoon 103 = .ok (.iaload, 1) := by decide +kernel
theorem dX10_platoon_104 : decode cX10_platoon 104 = .ok (.iaload, 1) := by decide +kernel
theorem dX10_platoon_105 : decode cX10_platoon 105 = .ok (.ireturn, 1) := by decide +kernel
theorem dX10_platoon_106 : decode cX10_platoon 106 = .ok (.iload 5, 2) := by decide +kernel
theorem dX10_platoon_108 : decode cX10_platoon 108 = .ok (.iload 4, 2) := by decide +kernel
theorem dX10_platoon_110 : decode cX10_platoon 110 = .ok (.isub, 1) := by decide +kernel
theorem dX10_platoon_111 : decode cX10_platoon 111 = .ok (.ireturn, 1) := by decide +kernel
theorem dX10_platoon_112 : decode cX10_platoon 112 = .ok (.aload_n 0, 1) := by decide +kernel
theorem dX10_platoon_113 : decode cX10_platoon 113 = .ok (.getfield 51, 3) := by decide +kernel
theorem dX10_platoon_116 : decode cX10_platoon 116 = .ok (.iload 4, 2) := by decide +kernel
theorem dX10_platoon_118 : decode cX10_platoon 118 = .ok (.iload 5, 2) := by decide +kernel
theorem dX10_platoon_120 : decode cX10_platoon 120 = .ok (.invokevirtual 158, 3) := by decide +kernel
theorem dX10_platoon_123 : decode cX10_platoon 123 = .ok (.ireturn, 1) := by decide +kernel
theorem dX10_platoon_124 : decode cX10_platoon 124 = .ok (.aload_n 0, 1) := by decide +kernel
theorem dX10_platoon_125 : decode cX10_platoon 125 = .ok (.getfield 51, 3) := by decide +kernel
theorem dX10_platoon_128 : decode cX10_platoon 128 = .ok (.iload 4, 2) := by decide +kernel
theorem dX10_platoon_130 : decode cX10_platoon 130 = .ok (.iload 5, 2) := by decide +kernel
theorem dX10_platoon_132 : decode cX10_platoon 132 = .ok (.invokevirtual 162, 3) := by decide +kernel
theorem dX10_platoon_135 : decode cX10_platoon 135 = .ok (.ireturn, 1) := by decide +kernel
theorem dX10_platoon_136 : decode cX10_platoon 136 = .ok (.aload_n 0, 1) := by decide +kernel
theorem dX10_platoon_137 : decode cX10_platoon 137 = .ok (.getfield 51, 3) := by decide +kernel
theorem dX10_platoon_140 : decode cX10_platoon 140 = .ok (.iload 4, 2) := by decide +kernel
theorem dX10_platoon_142 : decode cX10_platoon 142 = .ok (.iload 5, 2) := by decide +kernel
theorem dX10_platoon_144 : decode cX10_platoon 144 = .ok (.invokevirtual 295, 3) := by decide +kernel
theorem dX10_platoon_147 : decode cX10_platoon 147 = .ok (.ireturn, 1) := by decide +kernel
theorem dX10_platoon_148 : decode cX10_platoon 148 = .ok (.iconst (-1), 1) := by decide +kernel
theorem dX10_platoon_149 : decode cX10_platoon 149 = .ok (.ireturn, 1) := by decide +kernel
theorem cm_X10_platoon : x_CM yX10_platoon cX10_platoon 6 (Option.some FieldType.int) 3 := ⟨w_5_122, w_1_1, by decide +kernel, by decide +kernel⟩
theorem ci_X10_platoon : x_CI yX10_platoon 12 := ⟨w_5_120, w_5_121, (RX10, TX10, 12), rfl, rfl⟩
set_option maxRecDepth 100000 in
set_option maxHeartbeats 4000000 in
theorem kX10_platoon {ad : Nat → Nat} {a1 : Int32} {a2 : Int32} {a3 : Int32} {σ : x_S} {τ : x_L} {Q : Int32 → x_S → x_L → Prop} {QX : x_PE} (h : wX10_platoon a1 a2 a3 σ τ Q QX) : x_MetX yX10_platoon cX10_platoon 6 (Option.some FieldType.int) 7 4 ad dsX [.ref (ad 0), .int a1, .int a2, .int a3] σ τ (x_PI Q) QX := by
  refine x_metX (by decide +kernel) (Nat.le_of_ble_eq_true rfl) (fun V Y => ?_)
  have Y : x_IsX V cX10_platoon 6 RX10 (Option.some FieldType.int) ad dsX 7 (x_PI Q) QX 0 4 := Y
  have X := x_isX Y
  show V σ τ 0 [(0, .ref (ad 0)), (1, .int a1), (2, .int a2), (3, .int a3)] []
  refine x_aload_n X dX10_platoon_0 rfl 0 rfl ?_
  refine x_iload_n X dX10_platoon_1 rfl 1 rfl ?_
  refine x_iload_n X dX10_platoon_2 rfl 2 rfl ?_
  refine x_callVXv Y [.int a1, .int a2] [] dX10_platoon_3 (kX10_checkPlatoon h) cm_X10_checkPlatoon ci_X10_checkPlatoon w_5_123 dsX_0 ⟨by decide, by decide⟩ (by decide) rfl (Nat.le_of_ble_eq_true rfl) (fun V σ3 τ3 Y h => ?_)
  have X := x_isX Y
  refine x_aload_n X dX10_platoon_6 rfl 0 rfl ?_
  refine x_getR X (j := 33) dX10_platoon_7 fl_10_51 dsX_0 rfl ?_
  refine x_iload_n X dX10_platoon_10 rfl 1 rfl ?_
  refine x_iload_n X dX10_platoon_11 rfl 2 rfl ?_
  refine x_callVi X [.int a1, .int a2] [] dX10_platoon_12 (kX6_firstOf x_pl33 h) cm_X6_firstOf ci_X6_firstOf w_5_128 dsX_33 ⟨by decide, by decide⟩ rfl (Nat.le_of_ble_eq_true rfl) (fun r12 σ12 τ12 h => ?_)
  refine x_istore X (lv' := [(4, .int r12), (0, .ref (ad 0)), (1, .int a1), (2, .int a2), (3, .int a3)]) dX10_platoon_15 (by decide) rfl ?_
  refine x_aload_n X dX10_platoon_17 rfl 1 rfl ?_
  refine x_getR X (j := 33) dX10_platoon_18 fl_10_51 dsX_0 rfl ?_
  refine x_iload_n X dX10_platoon_21 rfl 2 rfl ?_
  refine x_iload X dX10_platoon_22 0 rfl ?_
  refine x_callVi X [.int a1, .int r12] [] dX10_platoon_24 (kX6_afterPlatoon x_pl33 h) cm_X6_afterPlatoon ci_X6_afterPlatoon w_5_132 dsX_33 ⟨by decide, by decide⟩ rfl (Nat.le_of_ble_eq_true rfl) (fun r24 σ24 τ24 h => ?_)
  refine x_istore X (lv' := [(5, .int r24), (4, .int r12), (0, .ref (ad 0)), (1, .int a1), (2, .int a2), (3, .int a3)]) dX10_platoon_27 (by decide) rfl ?_
  refine x_iload_n X dX10_platoon_29 rfl 5 rfl ?_
  by_cases hc0 : a3 = 0
  · have h := h.1 hc0
    refine x_tin X 0 68 hc0 dX10_platoon_30 (by decide) (by decide) (off := 38) (by decide) (by decide) ?_
    refine x_aload_n X dX10_platoon_68 rfl 2 rfl ?_
    refine x_getR X (j := 33) dX10_platoon_69 fl_10_51 dsX_0 rfl ?_
    refine x_getR X (j := 37) dX10_platoon_72 fl_10_258 dsX_33 rfl ?_
    refine x_aload_n X dX10_platoon_75 rfl 2 rfl ?_
    refine x_getR X (j := 33) dX10_platoon_76 fl_10_51 dsX_0 rfl ?_
    refine x_getR X (j := 39) dX10_platoon_79 fl_10_171 dsX_33 rfl ?_
    refine x_iload X dX10_platoon_82 1 rfl ?_
    have g84 := h.1
    have h := h.2
    refine x_iald X dX10_platoon_84 dsX_39 g84 ?_
    have g85 := h.1
    have h := h.2
    refine x_iald X dX10_platoon_85 dsX_37 g85 ?_
    exact x_iret X dX10_platoon_86 ⟨_, rfl, h⟩
  have h := h.2
  by_cases hc1 : a3 = 1
  · have h := h.1 hc1
    refine x_tin X 1 87 hc1 dX10_platoon_30 (by decide) (by decide) (off := 57) (by decide) (by decide) ?_
    refine x_aload_n X dX10_platoon_87 rfl 2 rfl ?_
    refine x_getR X (j := 33) dX10_platoon_88 fl_10_51 dsX_0 rfl ?_
    refine x_getR X (j := 36) dX10_platoon_91 fl_10_252 dsX_33 rfl ?_
    refine x_aload_n X dX10_platoon_94 rfl 2 rfl ?_
    refine x_getR X (j := 33) dX10_platoon_95 fl_10_51 dsX_0 rfl ?_
    refine x_getR X (j := 39) dX10_platoon_98 fl_10_171 dsX_33 rfl ?_
    refine x_iload X dX10_platoon_101 1 rfl ?_
    have g103 := h.1
    have h := h.2
    refine x_iald X dX10_platoon_103 dsX_39 g103 ?_
    have g104 := h.1
    have h := h.2
    refine x_iald X dX10_platoon_104 dsX_36 g104 ?_
    exact x_iret X dX10_platoon_105 ⟨_, rfl, h⟩
  have h := h.2
  by_cases hc2 : a3 = 2
  · have h := h.1 hc2
    refine x_tin X 2 106 hc2 dX10_platoon_30 (by decide) (by decide) (off := 76) (by decide) (by decide) ?_
    refine x_iload X dX10_platoon_106 0 rfl ?_
    refine x_iload X dX10_platoon_108 1 rfl ?_
    refine x_isub X dX10_platoon_110 ?_
    exact x_iret X dX10_platoon_111 ⟨_, rfl, h⟩
  have h := h.2
  by_cases hc3 : a3 = 3
  · have h := h.1 hc3
    refine x_tin X 3 112 hc3 dX10_platoon_30 (by decide) (by decide) (off := 82) (by decide) (by decide) ?_
    refine x_aload_n X dX10_platoon_112 rfl 2 rfl ?_
    refine x_getR X (j := 33) dX10_platoon_113 fl_10_51 dsX_0 rfl ?_
    refine x_iload X dX10_platoon_116 1 rfl ?_
    refine x_iload X dX10_platoon_118 0 rfl ?_
    refine x_callVi X [.int r12, .int r24] [] dX10_platoon_120 (kX6_savedOnRows x_pl33 h) cm_X6_savedOnRows ci_X6_savedOnRows w_3_200 dsX_33 ⟨by decide, by decide⟩ rfl (Nat.le_of_ble_eq_true rfl) (fun r120 σ120 τ120 h => ?_)
    exact x_iret X dX10_platoon_123 ⟨_, rfl, h⟩
  have h := h.2
  by_cases hc4 : a3 = 4
  · have h := h.1 hc4
    refine x_tin X 4 124 hc4 dX10_platoon_30 (by decide) (by decide) (off := 94) (by decide) (by decide) ?_
    refine x_aload_n X dX10_platoon_124 rfl 2 rfl ?_
    refine x_getR X (j := 33) dX10_platoon_125 fl_10_51 dsX_0 rfl ?_
    refine x_iload X dX10_platoon_128 1 rfl ?_
    refine x_iload X dX10_platoon_130 0 rfl ?_
    refine x_callVi X [.int r12, .int r24] [] dX10_platoon_132 (kX6_closedOnRows x_pl33 h) cm_X6_closedOnRows ci_X6_closedOnRows w_3_204 dsX_33 ⟨by decide, by decide⟩ rfl (Nat.le_of_ble_eq_true rfl) (fun r132 σ132 τ132 h => ?_)
    exact x_iret X dX10_platoon_135 ⟨_, rfl, h⟩
  have h := h.2
  by_cases hc5 : a3 = 5
  · have h := h.1 hc5
    refine x_tin X 5 136 hc5 dX10_platoon_30 (by decide) (by decide) (off := 106) (by decide) (by decide) ?_
    refine x_aload_n X dX10_platoon_136 rfl 2 rfl ?_
    refine x_getR X (j := 33) dX10_platoon_137 fl_10_51 dsX_0 rfl ?_
    refine x_iload X dX10_platoon_140 1 rfl ?_
    refine x_iload X dX10_platoon_142 0 rfl ?_
    refine x_callVi X [.int r12, .int r24] [] dX10_platoon_144 (kX6_trucksOnRows x_pl33 h) cm_X6_trucksOnRows ci_X6_trucksOnRows w_5_136 dsX_33 ⟨by decide, by decide⟩ rfl (Nat.le_of_ble_eq_true rfl) (fun r144 σ144 τ144 h => ?_)
    exact x_iret X dX10_platoon_147 ⟨_, rfl, h⟩
  have h := h.2
  have he0 := x_toInt_ne (n := 0) hc0 (by decide)
  have he1 := x_toInt_ne (n := 1) hc1 (by decide)
  have he2 := x_toInt_ne (n := 2) hc2 (by decide)
  have he3 := x_toInt_ne (n := 3) hc3 (by decide)
  have he4 := x_toInt_ne (n := 4) hc4 (by decide)
  have he5 := x_toInt_ne (n := 5) hc5 (by decide)
  have h := h hc0 hc1 hc2 hc3 hc4 hc5
  refine x_tout X 148 dX10_platoon_30 (by omega) (by decide) ?_
  refine x_iconst X dX10_platoon_148 ki_m1 ?_
  exact x_iret X dX10_platoon_149 ⟨_, rfl, h⟩
theorem dX10_checkPosition_0 : decode cX10_checkPosition 0 = .ok (.iload_n 0, 1) := by decide +kernel
theorem dX10_checkPosition_1 : decode cX10_checkPosition 1 = .ok (.ifCond .ge 14, 3) := by decide +kernel
theorem dX10_checkPosition_4 : decode cX10_checkPosition 4 = .ok (.new 473, 3) := by decide +kernel
theorem dX10_checkPosition_7 : decode cX10_checkPosition 7 = .ok (.dup, 1) := by decide +kernel
theorem dX10_checkPosition_8 : decode cX10_checkPosition 8 = .ok (.ldc_w 484, 3) := by decide +kernel
theorem dX10_checkPosition_11 : decode cX10_checkPosition 11 = .ok (.invokespecial 477, 3) := by decide +kernel
theorem dX10_checkPosition_14 : decode cX10_checkPosition 14 = .ok (.athrow, 1) := by decide +kernel
theorem dX10_checkPosition_15 : decode cX10_checkPosition 15 = .ok (.return_, 1) := by decide +kernel
theorem cm_X10_checkPosition : x_CM yX10_checkPosition cX10_checkPosition 1 (Option.none : Option Jvm.ClassFile.FieldType) 1 := ⟨w_5_149, w_1_1, by decide +kernel, by decide +kernel⟩
set_option maxRecDepth 100000 in
set_option maxHeartbeats 4000000 in
theorem kX10_checkPosition {ad : Nat → Nat} {a0 : Int32} {σ : x_S} {τ : x_L} {Q : x_S → x_L → Prop} {QX : x_PE} (h : wX10_checkPosition a0 σ τ Q QX) : x_MetX yX10_checkPosition cX10_checkPosition 1 (Option.none : Option Jvm.ClassFile.FieldType) 6 1 ad dsX [.int a0] σ τ (x_PV Q) QX := by
  refine x_metX (by decide +kernel) (Nat.le_of_ble_eq_true rfl) (fun V Y => ?_)
  have Y : x_IsX V cX10_checkPosition 1 RX10 (Option.none : Option Jvm.ClassFile.FieldType) ad dsX 6 (x_PV Q) QX 0 1 := Y
  have X := x_isX Y
  show V σ τ 0 [(0, .int a0)] []
  refine x_iload_n X dX10_checkPosition_0 rfl 0 rfl ?_
  refine x_if_ge X 15 dX10_checkPosition_1 (by decide) (fun hc => ?_) (fun hc => ?_)
  · have h := h.1 hc
    exact x_vret X dX10_checkPosition_15 ⟨rfl, h⟩
  · have h := h.2 hc
    exact x_throw Y (i := 13) dX10_checkPosition_4 dX10_checkPosition_7 dX10_checkPosition_8 dX10_checkPosition_11 dX10_checkPosition_14 (by decide +kernel) w_5_29 w_1_23 (List.mem_of_getElem? (i := 0) rfl) (List.mem_of_getElem? (i := 13) rfl) x_exIO x_exIO_b x_exIO_c (by decide) (by decide) (Nat.le_of_ble_eq_true rfl) h
theorem dX10_member_0 : decode cX10_member 0 = .ok (.aload_n 0, 1) := by decide +kernel
theorem dX10_member_1 : decode cX10_member 1 = .ok (.iload_n 1, 1) := by decide +kernel
theorem dX10_member_2 : decode cX10_member 2 = .ok (.iload_n 2, 1) := by decide +kernel
theorem dX10_member_3 : decode cX10_member 3 = .ok (.invokevirtual 286, 3) := by decide +kernel
theorem dX10_member_6 : decode cX10_member 6 = .ok (.iload_n 3, 1) := by decide +kernel
theorem dX10_member_7 : decode cX10_member 7 = .ok (.invokestatic 298, 3) := by decide +kernel
theorem dX10_member_10 : decode cX10_member 10 = .ok (.aload_n 0, 1) := by decide +kernel
theorem dX10_member_11 : decode cX10_member 11 = .ok (.getfield 51, 3) := by decide +kernel
theorem dX10_member_14 : decode cX10_member 14 = .ok (.iload_n 1, 1) := by decide +kernel
theorem dX10_member_15 : decode cX10_member 15 = .ok (.iload_n 2, 1) := by decide +kernel
theorem dX10_member_16 : decode cX10_member 16 = .ok (.invokevirtual 289, 3) := by decide +kernel
theorem dX10_member_19 : decode cX10_member 19 = .ok (.istore 4, 2) := by decide +kernel
theorem dX10_member_21 : decode cX10_member 21 = .ok (.aload_n 0, 1) := by decide +kernel
theorem dX10_member_22 : decode cX10_member 22 = .ok (.getfield 51, 3) := by decide +kernel
theorem dX10_member_25 : decode cX10_member 25 = .ok (.iload_n 1, 1) := by decide +kernel
theorem dX10_member_26 : decode cX10_member 26 = .ok (.iload 4, 2) := by decide +kernel
theorem dX10_member_28 : decode cX10_member 28 = .ok (.invokevirtual 292, 3) := by decide +kernel
theorem dX10_member_31 : decode cX10_member 31 = .ok (.iload 4, 2) := by decide +kernel
theorem dX10_member_33 : decode cX10_member 33 = .ok (.isub, 1) := by decide +kernel
theorem dX10_member_34 : decode cX10_member 34 = .ok (.istore 5, 2) := by decide +kernel
theorem dX10_member_36 : decode cX10_member 36 = .ok (.iload_n 3, 1) := by decide +kernel
theorem dX10_member_37 : decode cX10_member 37 = .ok (.iload 5, 2) := by decide +kernel
theorem dX10_member_39 : decode cX10_member 39 = .ok (.if_icmp .ge 21, 3) := by decide +kernel
theorem dX10_member_42 : decode cX10_member 42 = .ok (.aload_n 0, 1) := by decide +kernel
theorem dX10_member_43 : decode cX10_member 43 = .ok (.getfield 51, 3) := by decide +kernel
theorem dX10_member_46 : decode cX10_member 46 = .ok (.getfield 171, 3) := by decide +kernel
theorem dX10_member_49 : decode cX10_member 49 = .ok (.iload 4, 2) := by decide +kernel
theorem dX10_member_51 : decode cX10_member 51 = .ok (.iload_n 3, 1) := by decide +kernel
theorem dX10_member_52 : decode cX10_member 52 = .ok (.iadd, 1) := by decide +kernel
theorem dX10_member_53 : decode cX10_member 53 = .ok (.iaload, 1) := by decide +kernel
theorem dX10_member_54 : decode cX10_member 54 = .ok (.bipush 10, 2) := by decide +kernel
theorem dX10_member_56 : decode cX10_member 56 = .ok (.idiv, 1) := by decide +kernel
theorem dX10_member_57 : decode cX10_member 57 = .ok (.goto 4, 3) := by decide +kernel
theorem dX10_member_60 : decode cX10_member 60 = .ok (.iconst (-1), 1) := by decide +kernel
theorem dX10_member_61 : decode cX10_member 61 = .ok (.ireturn, 1) := by decide +kernel
theorem cm_X10_member : x_CM yX10_member cX10_member 6 (Option.some FieldType.int) 3 := ⟨w_5_146, w_1_1, by decide +kernel, by decide +kernel⟩
theorem ci_X10_member : x_CI yX10_member 12 := ⟨w_5_144, w_5_145, (RX10, TX10, 12), rfl, rfl⟩
set_option maxRecDepth 100000 in
set_option maxHeartbeats 4000000 in
theorem bX10_member_61 {V : x_J} {ad : Nat → Nat} {Q : Int32 → x_S → x_L → Prop} {QX : x_PE} (Y : x_IsX V cX10_member 6 RX10 (Option.some FieldType.int) ad dsX 7 (x_PI Q) QX 2 4) {s0 : Int32} {σ : x_S} {τ : x_L} (h : wX10_member_61 Q QX s0 σ τ) : V σ τ 61 [] [.int s0] := by
  have X := x_isX Y
  exact x_iret X dX10_member_61 ⟨_, rfl, h⟩
set_option maxRecDepth 100000 in
set_option maxHeartbeats 4000000 in
theorem kX10_member {ad : Nat → Nat} {a1 : Int32} {a2 : Int32} {a3 : Int32} {σ : x_S} {τ : x_L} {Q : Int32 → x_S → x_L → Prop} {QX : x_PE} (h : wX10_member a1 a2 a3 σ τ Q QX) : x_MetX yX10_member cX10_member 6 (Option.some FieldType.int) 7 4 ad dsX [.ref (ad 0), .int a1, .int a2, .int a3] σ τ (x_PI Q) QX := by
  refine x_metX (by decide +kernel) (Nat.le_of_ble_eq_true rfl) (fun V Y => ?_)
  have Y : x_IsX V cX10_member 6 RX10 (Option.some FieldType.int) ad dsX 7 (x_PI Q) QX 0 4 := Y
  have X := x_isX Y
  show V σ τ 0 [(0, .ref (ad 0)), (1, .int a1), (2, .int a2), (3, .int a3)] []
  refine x_aload_n X dX10_member_0 rfl 0 rfl ?_
  refine x_iload_n X dX10_member_1 rfl 1 rfl ?_
  refine x_iload_n X dX10_member_2 rfl 2 rfl ?_
  refine x_callVXv Y [.int a1, .int a2] [] dX10_member_3 (kX10_checkPlatoon h) cm_X10_checkPlatoon ci_X10_checkPlatoon w_5_123 dsX_0 ⟨by decide, by decide⟩ (by decide) rfl (Nat.le_of_ble_eq_true rfl) (fun V σ3 τ3 Y h => ?_)
  have X := x_isX Y
  refine x_iload_n X dX10_member_6 rfl 3 rfl ?_
  refine x_callSXv Y [.int a3] [] dX10_member_7 (kX10_checkPosition h) cm_X10_checkPosition w_5_148 rfl w_5_147 ⟨by decide, by decide⟩ (by decide) rfl (Nat.le_of_ble_eq_true rfl) (fun V σ7 τ7 Y h => ?_)
  have X := x_isX Y
  refine x_aload_n X dX10_member_10 rfl 0 rfl ?_
  refine x_getR X (j := 33) dX10_member_11 fl_10_51 dsX_0 rfl ?_
  refine x_iload_n X dX10_member_14 rfl 1 rfl ?_
  refine x_iload_n X dX10_member_15 rfl 2 rfl ?_
  refine x_callVi X [.int a1, .int a2] [] dX10_member_16 (kX6_firstOf x_pl33 h) cm_X6_firstOf ci_X6_firstOf w_5_128 dsX_33 ⟨by decide, by decide⟩ rfl (Nat.le_of_ble_eq_true rfl) (fun r16 σ16 τ16 h => ?_)
  refine x_istore X (lv' := [(4, .int r16), (0, .ref (ad 0)), (1, .int a1), (2, .int a2), (3, .int a3)]) dX10_member_19 (by decide) rfl ?_
  refine x_aload_n X dX10_member_21 rfl 1 rfl ?_
  refine x_getR X (j := 33) dX10_member_22 fl_10_51 dsX_0 rfl ?_
  refine x_iload_n X dX10_member_25 rfl 2 rfl ?_
  refine x_iload X dX10_member_26 0 rfl ?_
  refine x_callVi X [.int a1, .int r16] [] dX10_member_28 (kX6_afterPlatoon x_pl33 h) cm_X6_afterPlatoon ci_X6_afterPlatoon w_5_132 dsX_33 ⟨by decide, by decide⟩ rfl (Nat.le_of_ble_eq_true rfl) (fun r28 σ28 τ28 h => ?_)
  refine x_iload X dX10_member_31 0 rfl ?_
  refine x_isub X dX10_member_33 ?_
  refine x_istore X (lv' := [(5, .int (r28 - r16)), (4, .int r16), (0, .ref (ad 0)), (1, .int a1), (2, .int a2), (3, .int a3)]) dX10_member_34 (by decide) rfl ?_
  refine x_iload_n X dX10_member_36 rfl 5 rfl ?_
  refine x_iload X dX10_member_37 0 rfl ?_
  refine x_icmp_ge X 60 dX10_member_39 (by decide) (fun hc => ?_) (fun hc => ?_)
  · have h := h.1 hc
    refine x_iconst X dX10_member_60 ki_m1 ?_
    refine x_sub X [] (lv' := []) rfl ?_
    exact bX10_member_61 Y h
  · have h := h.2 hc
    refine x_aload_n X dX10_member_42 rfl 2 rfl ?_
    refine x_getR X (j := 33) dX10_member_43 fl_10_51 dsX_0 rfl ?_
    refine x_getR X (j := 39) dX10_member_46 fl_10_171 dsX_33 rfl ?_
    refine x_iload X dX10_member_49 1 rfl ?_
    refine x_iload_n X dX10_member_51 rfl 5 rfl ?_
    refine x_iadd X dX10_member_52 ?_
    have g53 := h.1
    have h := h.2
    refine x_iald X dX10_member_53 dsX_39 g53 ?_
    refine x_bipush X dX10_member_54 kb_10 ?_
    refine x_idiv X dX10_member_56 (by decide) ?_
    refine x_goto X (tgt := 61) dX10_member_57 (by decide) ?_
    refine x_sub X [] (lv' := []) rfl ?_
    exact bX10_member_61 Y h
