theorem dX11_thrown_0 : decode cX11_thrown 0 = .ok (.aload_n 0, 1) := by decide +kernel
theorem dX11_thrown_1 : decode cX11_thrown 1 = .ok (.getfield 82, 3) := by decide +kernel
theorem dX11_thrown_4 : decode cX11_thrown 4 = .ok (.ireturn, 1) := by decide +kernel
theorem cm_X11_thrown : x_CM yX11_thrown cX11_thrown 1 (Option.some FieldType.int) 0 := ⟨w_7_77, w_1_12, by decide +kernel, by decide +kernel⟩
theorem ci_X11_thrown : x_CI yX11_thrown 13 := ⟨w_7_75, w_7_76, (RX11, TX11, 41), rfl, rfl⟩
set_option maxRecDepth 100000 in
set_option maxHeartbeats 4000000 in
theorem kX11_thrown {ad : Nat → Nat} {σ : x_S} {τ : x_L} {Q : Int32 → x_S → x_L → Prop} (h : wX11_thrown σ τ Q) : x_Met yX11_thrown cX11_thrown 1 (Option.some FieldType.int) 0 ad dsM [.ref (ad 0)] σ τ (x_PI Q) := by
  refine x_met (by decide +kernel) (Nat.le_of_ble_eq_true rfl) (fun V X => ?_)
  have X : x_Is V cX11_thrown 1 RX11 (Option.some FieldType.int) ad dsM 0 (x_PI Q) := X
  show V σ τ 0 [(0, .ref (ad 0))] []
  refine x_aload_n X dX11_thrown_0 rfl 0 rfl ?_
  refine x_getI X dX11_thrown_1 fl_11_82 dsM_0 rfl ?_
  exact x_iret X dX11_thrown_4 ⟨_, rfl, h⟩
theorem dX11_throwsIf_0 : decode cX11_throwsIf 0 = .ok (.iload_n 1, 1) := by decide +kernel
theorem dX11_throwsIf_1 : decode cX11_throwsIf 1 = .ok (.ifCond .eq 8, 3) := by decide +kernel
theorem dX11_throwsIf_4 : decode cX11_throwsIf 4 = .ok (.aload_n 0, 1) := by decide +kernel
theorem dX11_throwsIf_5 : decode cX11_throwsIf 5 = .ok (.iload_n 2, 1) := by decide +kernel
theorem dX11_throwsIf_6 : decode cX11_throwsIf 6 = .ok (.putfield 82, 3) := by decide +kernel
theorem dX11_throwsIf_9 : decode cX11_throwsIf 9 = .ok (.iload_n 1, 1) := by decide +kernel
theorem dX11_throwsIf_10 : decode cX11_throwsIf 10 = .ok (.ireturn, 1) := by decide +kernel
theorem cm_X11_throwsIf : x_CM yX11_throwsIf cX11_throwsIf 3 (Option.some FieldType.boolean) 2 := ⟨w_8_13, w_1_12, by decide +kernel, by decide +kernel⟩
theorem ci_X11_throwsIf : x_CI yX11_throwsIf 13 := ⟨w_8_12, wp_76, (RX11, TX11, 41), rfl, rfl⟩
set_option maxRecDepth 100000 in
set_option maxHeartbeats 4000000 in
theorem bX11_throwsIf_9 {V : x_J} {ad : Nat → Nat} {Q : Int32 → x_S → x_L → Prop} (X : x_Is V cX11_throwsIf 3 RX11 (Option.some FieldType.boolean) ad dsM 0 (x_PI Q)) {v1 : Int32} {σ : x_S} {τ : x_L} (h : wX11_throwsIf_9 Q v1 σ τ) : V σ τ 9 [(1, .int v1)] [] := by
  refine x_iload_n X dX11_throwsIf_9 rfl 0 rfl ?_
  exact x_zret X dX11_throwsIf_10 ⟨h.1, _, rfl, h.2⟩
set_option maxRecDepth 100000 in
set_option maxHeartbeats 4000000 in
theorem kX11_throwsIf {ad : Nat → Nat} {a1 : Int32} {a2 : Int32} {σ : x_S} {τ : x_L} {Q : Int32 → x_S → x_L → Prop} (h : wX11_throwsIf a1 a2 σ τ Q) : x_Met yX11_throwsIf cX11_throwsIf 3 (Option.some FieldType.boolean) 0 ad dsM [.ref (ad 0), .int a1, .int a2] σ τ (x_PI Q) := by
  refine x_met (by decide +kernel) (Nat.le_of_ble_eq_true rfl) (fun V X => ?_)
  have X : x_Is V cX11_throwsIf 3 RX11 (Option.some FieldType.boolean) ad dsM 0 (x_PI Q) := X
  show V σ τ 0 [(0, .ref (ad 0)), (1, .int a1), (2, .int a2)] []
  refine x_iload_n X dX11_throwsIf_0 rfl 1 rfl ?_
  refine x_if_eq X 9 dX11_throwsIf_1 (by decide) (fun hc => ?_) (fun hc => ?_)
  · have h := h.1 hc
    refine x_sub X [1] (lv' := [(1, .int a1)]) rfl ?_
    exact bX11_throwsIf_9 X h
  · have h := h.2 hc
    refine x_aload_n X dX11_throwsIf_4 rfl 0 rfl ?_
    refine x_iload_n X dX11_throwsIf_5 rfl 2 rfl ?_
    refine x_putI X dX11_throwsIf_6 fl_11_82 ft_11_5 dsM_0 rfl ?_
    refine x_sub X [1] (lv' := [(1, .int a1)]) rfl ?_
    exact bX11_throwsIf_9 X h
theorem dX11_inRange_0 : decode cX11_inRange 0 = .ok (.lload_n 0, 1) := by decide +kernel
theorem dX11_inRange_1 : decode cX11_inRange 1 = .ok (.lload_n 2, 1) := by decide +kernel
theorem dX11_inRange_2 : decode cX11_inRange 2 = .ok (.lcmp, 1) := by decide +kernel
theorem dX11_inRange_3 : decode cX11_inRange 3 = .ok (.ifCond .lt 14, 3) := by decide +kernel
theorem dX11_inRange_6 : decode cX11_inRange 6 = .ok (.lload_n 0, 1) := by decide +kernel
theorem dX11_inRange_7 : decode cX11_inRange 7 = .ok (.lload 4, 2) := by decide +kernel
theorem dX11_inRange_9 : decode cX11_inRange 9 = .ok (.lcmp, 1) := by decide +kernel
theorem dX11_inRange_10 : decode cX11_inRange 10 = .ok (.ifCond .gt 7, 3) := by decide +kernel
theorem dX11_inRange_13 : decode cX11_inRange 13 = .ok (.iconst 1, 1) := by decide +kernel
theorem dX11_inRange_14 : decode cX11_inRange 14 = .ok (.goto 4, 3) := by decide +kernel
theorem dX11_inRange_17 : decode cX11_inRange 17 = .ok (.iconst 0, 1) := by decide +kernel
theorem dX11_inRange_18 : decode cX11_inRange 18 = .ok (.ireturn, 1) := by decide +kernel
theorem cm_X11_inRange : x_CM yX11_inRange cX11_inRange 6 (Option.some FieldType.boolean) 3 := ⟨w_7_92, w_1_12, by decide +kernel, by decide +kernel⟩
set_option maxRecDepth 100000 in
set_option maxHeartbeats 4000000 in
theorem bX11_inRange_18 {V : x_J} {ad : Nat → Nat} {Q : Int32 → x_S → x_L → Prop} (X : x_Is V cX11_inRange 6 RX11 (Option.some FieldType.boolean) ad dsM 0 (x_PI Q)) {s0 : Int32} {σ : x_S} {τ : x_L} (h : wX11_inRange_18 Q s0 σ τ) : V σ τ 18 [] [.int s0] := by
  exact x_zret X dX11_inRange_18 ⟨h.1, _, rfl, h.2⟩
set_option maxRecDepth 100000 in
set_option maxHeartbeats 4000000 in
theorem bX11_inRange_17 {V : x_J} {ad : Nat → Nat} {Q : Int32 → x_S → x_L → Prop} (X : x_Is V cX11_inRange 6 RX11 (Option.some FieldType.boolean) ad dsM 0 (x_PI Q)) {σ : x_S} {τ : x_L} (h : wX11_inRange_17 Q σ τ) : V σ τ 17 [] [] := by
  refine x_iconst X dX11_inRange_17 ki_0 ?_
  exact bX11_inRange_18 X h
set_option maxRecDepth 100000 in
set_option maxHeartbeats 4000000 in
theorem kX11_inRange {ad : Nat → Nat} {a0 : Int64} {a2 : Int64} {a4 : Int64} {σ : x_S} {τ : x_L} {Q : Int32 → x_S → x_L → Prop} (h : wX11_inRange a0 a2 a4 σ τ Q) : x_Met yX11_inRange cX11_inRange 6 (Option.some FieldType.boolean) 0 ad dsM [.long a0, .long a2, .long a4] σ τ (x_PI Q) := by
  refine x_met (by decide +kernel) (Nat.le_of_ble_eq_true rfl) (fun V X => ?_)
  have X : x_Is V cX11_inRange 6 RX11 (Option.some FieldType.boolean) ad dsM 0 (x_PI Q) := X
  show V σ τ 0 [(0, .long a0), (2, .long a2), (4, .long a4)] []
  refine x_lload_n X dX11_inRange_0 rfl 0 rfl ?_
  refine x_lload_n X dX11_inRange_1 rfl 1 rfl ?_
  refine x_lcmp X dX11_inRange_2 ?_
  refine x_if_lt X 17 dX11_inRange_3 (by decide) (fun hc => ?_) (fun hc => ?_)
  · have h := h.1 hc
    refine x_sub X [] (lv' := []) rfl ?_
    exact bX11_inRange_17 X h
  · have h := h.2 hc
    refine x_lload_n X dX11_inRange_6 rfl 0 rfl ?_
    refine x_lload X dX11_inRange_7 2 rfl ?_
    refine x_lcmp X dX11_inRange_9 ?_
    refine x_if_gt X 17 dX11_inRange_10 (by decide) (fun hc => ?_) (fun hc => ?_)
    · have h := h.1 hc
      refine x_sub X [] (lv' := []) rfl ?_
      exact bX11_inRange_17 X h
    · have h := h.2 hc
      refine x_iconst X dX11_inRange_13 ki_1 ?_
      refine x_goto X (tgt := 18) dX11_inRange_14 (by decide) ?_
      refine x_sub X [] (lv' := []) rfl ?_
      exact bX11_inRange_18 X h
theorem dX11_max_0 : decode cX11_max 0 = .ok (.iload_n 0, 1) := by decide +kernel
theorem dX11_max_1 : decode cX11_max 1 = .ok (.iload_n 1, 1) := by decide +kernel
theorem dX11_max_2 : decode cX11_max 2 = .ok (.if_icmp .le 7, 3) := by decide +kernel
theorem dX11_max_5 : decode cX11_max 5 = .ok (.iload_n 0, 1) := by decide +kernel
theorem dX11_max_6 : decode cX11_max 6 = .ok (.goto 4, 3) := by decide +kernel
theorem dX11_max_9 : decode cX11_max 9 = .ok (.iload_n 1, 1) := by decide +kernel
theorem dX11_max_10 : decode cX11_max 10 = .ok (.ireturn, 1) := by decide +kernel
theorem cm_X11_max : x_CM yX11_max cX11_max 2 (Option.some FieldType.int) 2 := ⟨w_7_166, w_1_12, by decide +kernel, by decide +kernel⟩
set_option maxRecDepth 100000 in
set_option maxHeartbeats 4000000 in
theorem bX11_max_10 {V : x_J} {ad : Nat → Nat} {Q : Int32 → x_S → x_L → Prop} (X : x_Is V cX11_max 2 RX11 (Option.some FieldType.int) ad dsM 0 (x_PI Q)) {s0 : Int32} {σ : x_S} {τ : x_L} (h : wX11_max_10 Q s0 σ τ) : V σ τ 10 [] [.int s0] := by
  exact x_iret X dX11_max_10 ⟨_, rfl, h⟩
set_option maxRecDepth 100000 in
set_option maxHeartbeats 4000000 in
theorem kX11_max {ad : Nat → Nat} {a0 : Int32} {a1 : Int32} {σ : x_S} {τ : x_L} {Q : Int32 → x_S → x_L → Prop} (h : wX11_max a0 a1 σ τ Q) : x_Met yX11_max cX11_max 2 (Option.some FieldType.int) 0 ad dsM [.int a0, .int a1] σ τ (x_PI Q) := by
  refine x_met (by decide +kernel) (Nat.le_of_ble_eq_true rfl) (fun V X => ?_)
  have X : x_Is V cX11_max 2 RX11 (Option.some FieldType.int) ad dsM 0 (x_PI Q) := X
  show V σ τ 0 [(0, .int a0), (1, .int a1)] []
  refine x_iload_n X dX11_max_0 rfl 0 rfl ?_
  refine x_iload_n X dX11_max_1 rfl 1 rfl ?_
  refine x_icmp_le X 9 dX11_max_2 (by decide) (fun hc => ?_) (fun hc => ?_)
  · have h := h.1 hc
    refine x_iload_n X dX11_max_9 rfl 1 rfl ?_
    refine x_sub X [] (lv' := []) rfl ?_
    exact bX11_max_10 X h
  · have h := h.2 hc
    refine x_iload_n X dX11_max_5 rfl 0 rfl ?_
    refine x_goto X (tgt := 10) dX11_max_6 (by decide) ?_
    refine x_sub X [] (lv' := []) rfl ?_
    exact bX11_max_10 X h
theorem dX11_min_0 : decode cX11_min 0 = .ok (.iload_n 0, 1) := by decide +kernel
theorem dX11_min_1 : decode cX11_min 1 = .ok (.iload_n 1, 1) := by decide +kernel
theorem dX11_min_2 : decode cX11_min 2 = .ok (.if_icmp .ge 7, 3) := by decide +kernel
theorem dX11_min_5 : decode cX11_min 5 = .ok (.iload_n 0, 1) := by decide +kernel
theorem dX11_min_6 : decode cX11_min 6 = .ok (.goto 4, 3) := by decide +kernel
theorem dX11_min_9 : decode cX11_min 9 = .ok (.iload_n 1, 1) := by decide +kernel
theorem dX11_min_10 : decode cX11_min 10 = .ok (.ireturn, 1) := by decide +kernel
theorem cm_X11_min : x_CM yX11_min cX11_min 2 (Option.some FieldType.int) 2 := ⟨w_8_174, w_1_12, by decide +kernel, by decide +kernel⟩
set_option maxRecDepth 100000 in
set_option maxHeartbeats 4000000 in
theorem bX11_min_10 {V : x_J} {ad : Nat → Nat} {Q : Int32 → x_S → x_L → Prop} (X : x_Is V cX11_min 2 RX11 (Option.some FieldType.int) ad dsM 0 (x_PI Q)) {s0 : Int32} {σ : x_S} {τ : x_L} (h : wX11_min_10 Q s0 σ τ) : V σ τ 10 [] [.int s0] := by
  exact x_iret X dX11_min_10 ⟨_, rfl, h⟩
set_option maxRecDepth 100000 in
set_option maxHeartbeats 4000000 in
theorem kX11_min {ad : Nat → Nat} {a0 : Int32} {a1 : Int32} {σ : x_S} {τ : x_L} {Q : Int32 → x_S → x_L → Prop} (h : wX11_min a0 a1 σ τ Q) : x_Met yX11_min cX11_min 2 (Option.some FieldType.int) 0 ad dsM [.int a0, .int a1] σ τ (x_PI Q) := by
  refine x_met (by decide +kernel) (Nat.le_of_ble_eq_true rfl) (fun V X => ?_)
  have X : x_Is V cX11_min 2 RX11 (Option.some FieldType.int) ad dsM 0 (x_PI Q) := X
  show V σ τ 0 [(0, .int a0), (1, .int a1)] []
  refine x_iload_n X dX11_min_0 rfl 0 rfl ?_
  refine x_iload_n X dX11_min_1 rfl 1 rfl ?_
  refine x_icmp_ge X 9 dX11_min_2 (by decide) (fun hc => ?_) (fun hc => ?_)
  · have h := h.1 hc
    refine x_iload_n X dX11_min_9 rfl 1 rfl ?_
    refine x_sub X [] (lv' := []) rfl ?_
    exact bX11_min_10 X h
  · have h := h.2 hc
    refine x_iload_n X dX11_min_5 rfl 0 rfl ?_
    refine x_goto X (tgt := 10) dX11_min_6 (by decide) ?_
    refine x_sub X [] (lv' := []) rfl ?_
    exact bX11_min_10 X h
theorem dX11_copyPlan_0 : decode cX11_copyPlan 0 = .ok (.iconst 0, 1) := by decide +kernel
theorem dX11_copyPlan_1 : decode cX11_copyPlan 1 = .ok (.istore_n 3, 1) := by decide +kernel
theorem dX11_copyPlan_2 : decode cX11_copyPlan 2 = .ok (.iload_n 3, 1) := by decide +kernel
theorem dX11_copyPlan_3 : decode cX11_copyPlan 3 = .ok (.sipush 252, 3) := by decide +kernel
theorem dX11_copyPlan_6 : decode cX11_copyPlan 6 = .ok (.if_icmp .ge 33, 3) := by decide +kernel
theorem dX11_copyPlan_9 : decode cX11_copyPlan 9 = .ok (.aload_n 0, 1) := by decide +kernel
theorem dX11_copyPlan_10 : decode cX11_copyPlan 10 = .ok (.getfield 9, 3) := by decide +kernel
theorem dX11_copyPlan_13 : decode cX11_copyPlan 13 = .ok (.sipush 252, 3) := by decide +kernel
theorem dX11_copyPlan_16 : decode cX11_copyPlan 16 = .ok (.iload_n 2, 1) := by decide +kernel
theorem dX11_copyPlan_17 : decode cX11_copyPlan 17 = .ok (.imul, 1) := by decide +kernel
theorem dX11_copyPlan_18 : decode cX11_copyPlan 18 = .ok (.iload_n 3, 1) := by decide +kernel
theorem dX11_copyPlan_19 : decode cX11_copyPlan 19 = .ok (.iadd, 1) := by decide +kernel
theorem dX11_copyPlan_20 : decode cX11_copyPlan 20 = .ok (.aload_n 0, 1) := by decide +kernel
theorem dX11_copyPlan_21 : decode cX11_copyPlan 21 = .ok (.getfield 9, 3) := by decide +kernel
theorem dX11_copyPlan_24 : decode cX11_copyPlan 24 = .ok (.sipush 252, 3) := by decide +kernel
theorem dX11_copyPlan_27 : decode cX11_copyPlan 27 = .ok (.iload_n 1, 1) := by decide +kernel
theorem dX11_copyPlan_28 : decode cX11_copyPlan 28 = .ok (.imul, 1) := by decide +kernel
theorem dX11_copyPlan_29 : decode cX11_copyPlan 29 = .ok (.iload_n 3, 1) := by decide +kernel
theorem dX11_copyPlan_30 : decode cX11_copyPlan 30 = .ok (.iadd, 1) := by decide +kernel
theorem dX11_copyPlan_31 : decode cX11_copyPlan 31 = .ok (.iaload, 1) := by decide +kernel
theorem dX11_copyPlan_32 : decode cX11_copyPlan 32 = .ok (.iastore, 1) := by decide +kernel
theorem dX11_copyPlan_33 : decode cX11_copyPlan 33 = .ok (.iinc 3 1, 3) := by decide +kernel
theorem dX11_copyPlan_36 : decode cX11_copyPlan 36 = .ok (.goto (-34), 3) := by decide +kernel
theorem dX11_copyPlan_39 : decode cX11_copyPlan 39 = .ok (.return_, 1) := by decide +kernel
theorem cm_X11_copyPlan : x_CM yX11_copyPlan cX11_copyPlan 4 (Option.none : Option Jvm.ClassFile.FieldType) 2 := ⟨w_7_85, w_1_12, by decide +kernel, by decide +kernel⟩
theorem ci_X11_copyPlan : x_CI yX11_copyPlan 13 := ⟨w_7_84, wp_41, (RX11, TX11, 41), rfl, rfl⟩
set_option maxRecDepth 100000 in
set_option maxHeartbeats 4000000 in
theorem bX11_copyPlan_2 {V : x_J} {ad : Nat → Nat} {Q : x_S → x_L → Prop} (X : x_Is V cX11_copyPlan 4 RX11 (Option.none : Option Jvm.ClassFile.FieldType) ad dsM 0 (x_PV Q)) {K2 : Int32 → Int32 → Int32 → x_S → x_L → Prop} (hK2 : ∀ v1 v2 v3 σ τ, K2 v1 v2 v3 σ τ → V σ τ 2 [(0, .ref (ad 0)), (1, .int v1), (2, .int v2), (3, .int v3)] []) {v1 : Int32} {v2 : Int32} {v3 : Int32} {σ : x_S} {τ : x_L} (h : wX11_copyPlan_2 Q K2 v1 v2 v3 σ τ) : V σ τ 2 [(0, .ref (ad 0)), (1, .int v1), (2, .int v2), (3, .int v3)] [] := by
  refine x_iload_n X dX11_copyPlan_2 rfl 3 rfl ?_
  refine x_sipush X dX11_copyPlan_3 ks_252 ?_
  refine x_icmp_ge X 39 dX11_copyPlan_6 (by decide) (fun hc => ?_) (fun hc => ?_)
  · have h := h.1 hc
    exact x_vret X dX11_copyPlan_39 ⟨rfl, h⟩
  · have h := h.2 hc
    refine x_aload_n X dX11_copyPlan_9 rfl 0 rfl ?_
    refine x_getR X (j := 1) dX11_copyPlan_10 fl_11_9 dsM_0 rfl ?_
    refine x_sipush X dX11_copyPlan_13 ks_252 ?_
    refine x_iload_n X dX11_copyPlan_16 rfl 2 rfl ?_
    refine x_imul X dX11_copyPlan_17 ?_
    refine x_iload_n X dX11_copyPlan_18 rfl 3 rfl ?_
    refine x_iadd X dX11_copyPlan_19 ?_
    refine x_aload_n X dX11_copyPlan_20 rfl 0 rfl ?_
    refine x_getR X (j := 1) dX11_copyPlan_21 fl_11_9 dsM_0 rfl ?_
    refine x_sipush X dX11_copyPlan_24 ks_252 ?_
    refine x_iload_n X dX11_copyPlan_27 rfl 1 rfl ?_
    refine x_imul X dX11_copyPlan_28 ?_
    refine x_iload_n X dX11_copyPlan_29 rfl 3 rfl ?_
    refine x_iadd X dX11_copyPlan_30 ?_
    have g31 := h.1
    have h := h.2
    refine x_iald X dX11_copyPlan_31 dsM_1 g31 ?_
    have g32 := h.1
    have h := h.2
    refine x_iast X dX11_copyPlan_32 dsM_1 g32 ?_
    refine x_iinc X (k := 3) (lv' := [(3, .int (v3 + 1)), (0, .ref (ad 0)), (1, .int v1), (2, .int v2)]) dX11_copyPlan_33 rfl ki_1 (by decide) rfl ?_
    refine x_goto X (tgt := 2) dX11_copyPlan_36 (by decide) ?_
    refine x_sub X [1, 2, 3, 0] (lv' := [(0, .ref (ad 0)), (1, .int v1), (2, .int v2), (3, .int (v3 + 1))]) rfl ?_
    exact hK2 _ _ _ _ _ h
set_option maxRecDepth 100000 in
set_option maxHeartbeats 4000000 in
theorem kX11_copyPlan {ad : Nat → Nat} {a1 : Int32} {a2 : Int32} {σ : x_S} {τ : x_L} {Q : x_S → x_L → Prop} (h : wX11_copyPlan a1 a2 σ τ Q) : x_Met yX11_copyPlan cX11_copyPlan 4 (Option.none : Option Jvm.ClassFile.FieldType) 0 ad dsM [.ref (ad 0), .int a1, .int a2] σ τ (x_PV Q) := by
  refine x_met (by decide +kernel) (Nat.le_of_ble_eq_true rfl) (fun V X => ?_)
  have X : x_Is V cX11_copyPlan 4 RX11 (Option.none : Option Jvm.ClassFile.FieldType) ad dsM 0 (x_PV Q) := X
  show V σ τ 0 [(0, .ref (ad 0)), (1, .int a1), (2, .int a2)] []
  refine x_iconst X dX11_copyPlan_0 ki_0 ?_
  refine x_istore_n X (lv' := [(3, .int 0), (0, .ref (ad 0)), (1, .int a1), (2, .int a2)]) dX11_copyPlan_1 rfl (by decide) rfl ?_
  refine x_sub X [1, 2, 3, 0] (lv' := [(0, .ref (ad 0)), (1, .int a1), (2, .int a2), (3, .int 0)]) rfl ?_
  exact x_l3_G (fun v1 v2 v3 σ τ => V σ τ 2 [(0, .ref (ad 0)), (1, .int v1), (2, .int v2), (3, .int v3)] []) (fun K2 hK2 v1 v2 v3 σ τ h => bX11_copyPlan_2 X hK2 h) h
theorem dX11_keep_0 : decode cX11_keep 0 = .ok (.aload_n 0, 1) := by decide +kernel
theorem dX11_keep_1 : decode cX11_keep 1 = .ok (.getfield 85, 3) := by decide +kernel
theorem dX11_keep_4 : decode cX11_keep 4 = .ok (.bipush 15, 2) := by decide +kernel
theorem dX11_keep_6 : decode cX11_keep 6 = .ok (.if_icmp .ne 26, 3) := by decide +kernel
theorem dX11_keep_9 : decode cX11_keep 9 = .ok (.aload_n 0, 1) := by decide +kernel
theorem dX11_keep_10 : decode cX11_keep 10 = .ok (.aload_n 0, 1) := by decide +kernel
theorem dX11_keep_11 : decode cX11_keep 11 = .ok (.getfield 88, 3) := by decide +kernel
theorem dX11_keep_14 : decode cX11_keep 14 = .ok (.iconst 1, 1) := by decide +kernel
theorem dX11_keep_15 : decode cX11_keep 15 = .ok (.iadd, 1) := by decide +kernel
theorem dX11_keep_16 : decode cX11_keep 16 = .ok (.bipush 15, 2) := by decide +kernel
theorem dX11_keep_18 : decode cX11_keep 18 = .ok (.irem, 1) := by decide +kernel
theorem dX11_keep_19 : decode cX11_keep 19 = .ok (.putfield 88, 3) := by decide +kernel
theorem dX11_keep_22 : decode cX11_keep 22 = .ok (.aload_n 0, 1) := by decide +kernel
theorem dX11_keep_23 : decode cX11_keep 23 = .ok (.dup, 1) := by decide +kernel
theorem dX11_keep_24 : decode cX11_keep 24 = .ok (.getfield 85, 3) := by decide +kernel
theorem dX11_keep_27 : decode cX11_keep 27 = .ok (.iconst 1, 1) := by decide +kernel
theorem dX11_keep_28 : decode cX11_keep 28 = .ok (.isub, 1) := by decide +kernel
theorem dX11_keep_29 : decode cX11_keep 29 = .ok (.putfield 85, 3) := by decide +kernel
theorem dX11_keep_32 : decode cX11_keep 32 = .ok (.aload_n 0, 1) := by decide +kernel
theorem dX11_keep_33 : decode cX11_keep 33 = .ok (.iconst 0, 1) := by decide +kernel
theorem dX11_keep_34 : decode cX11_keep 34 = .ok (.iconst 3, 1) := by decide +kernel
theorem dX11_keep_35 : decode cX11_keep 35 = .ok (.aload_n 0, 1) := by decide +kernel
theorem dX11_keep_36 : decode cX11_keep 36 = .ok (.getfield 88, 3) := by decide +kernel
theorem dX11_keep_39 : decode cX11_keep 39 = .ok (.aload_n 0, 1) := by decide +kernel
theorem dX11_keep_40 : decode cX11_keep 40 = .ok (.getfield 85, 3) := by decide +kernel
theorem dX11_keep_43 : decode cX11_keep 43 = .ok (.iadd, 1) := by decide +kernel
theorem dX11_keep_44 : decode cX11_keep 44 = .ok (.bipush 15, 2) := by decide +kernel
theorem dX11_keep_46 : decode cX11_keep 46 = .ok (.irem, 1) := by decide +kernel
theorem dX11_keep_47 : decode cX11_keep 47 = .ok (.iadd, 1) := by decide +kernel
theorem dX11_keep_48 : decode cX11_keep 48 = .ok (.invokevirtual 91, 3) := by decide +kernel
theorem dX11_keep_51 : decode cX11_keep 51 = .ok (.aload_n 0, 1) := by decide +kernel
theorem dX11_keep_52 : decode cX11_keep 52 = .ok (.dup, 1) := by decide +kernel
theorem dX11_keep_53 : decode cX11_keep 53 = .ok (.getfield 85, 3) := by decide +kernel
theorem dX11_keep_56 : decode cX11_keep 56 = .ok (.iconst 1, 1) := by decide +kernel
theorem dX11_keep_57 : decode cX11_keep 57 = .ok (.iadd, 1) := by decide +kernel
theorem dX11_keep_58 : decode cX11_keep 58 = .ok (.putfield 85, 3) := by decide +kernel
theorem dX11_keep_61 : decode cX11_keep 61 = .ok (.return_, 1) := by decide +kernel
theorem cm_X11_keep : x_CM yX11_keep cX11_keep 1 (Option.none : Option Jvm.ClassFile.FieldType) 0 := ⟨w_8_136, w_1_12, by decide +kernel, by decide +kernel⟩
theorem ci_X11_keep : x_CI yX11_keep 13 := ⟨w_8_135, wp_92, (RX11, TX11, 41), rfl, rfl⟩
set_option maxRecDepth 100000 in
set_option maxHeartbeats 4000000 in
theorem bX11_keep_32 {V : x_J} {ad : Nat → Nat} {Q : x_S → x_L → Prop} (X : x_Is V cX11_keep 1 RX11 (Option.none : Option Jvm.ClassFile.FieldType) ad dsM 1 (x_PV Q)) {σ : x_S} {τ : x_L} (h : wX11_keep_32 Q σ τ) : V σ τ 32 [(0, .ref (ad 0))] [] := by
  refine x_aload_n X dX11_keep_32 rfl 0 rfl ?_
  refine x_iconst X dX11_keep_33 ki_0 ?_
  refine x_iconst X dX11_keep_34 ki_3 ?_
  refine x_aload_n X dX11_keep_35 rfl 0 rfl ?_
  refine x_getI X dX11_keep_36 fl_11_88 dsM_0 rfl ?_
  refine x_aload_n X dX11_keep_39 rfl 0 rfl ?_
  refine x_getI X dX11_keep_40 fl_11_85 dsM_0 rfl ?_
  refine x_iadd X dX11_keep_43 ?_
  refine x_bipush X dX11_keep_44 kb_15 ?_
  refine x_irem X dX11_keep_46 (by decide) ?_
  refine x_iadd X dX11_keep_47 ?_
  refine x_callVv X [.int 0, .int (3 + (((σ 0 2) + (σ 0 3)) - ((σ 0 2) + (σ 0 3)) / 15 * 15))] [] dX11_keep_48 (kX11_copyPlan h) cm_X11_copyPlan ci_X11_copyPlan w_7_82 dsM_0 ⟨by decide, by decide⟩ rfl (Nat.le_of_ble_eq_true rfl) (fun σ48 τ48 h => ?_)
  refine x_aload_n X dX11_keep_51 rfl 0 rfl ?_
  refine x_dup X dX11_keep_52 rfl ?_
  refine x_getI X dX11_keep_53 fl_11_85 dsM_0 rfl ?_
  refine x_iconst X dX11_keep_56 ki_1 ?_
  refine x_iadd X dX11_keep_57 ?_
  refine x_putI X dX11_keep_58 fl_11_85 ft_11_3 dsM_0 rfl ?_
  exact x_vret X dX11_keep_61 ⟨rfl, h⟩
set_option maxRecDepth 100000 in
set_option maxHeartbeats 4000000 in
theorem kX11_keep {ad : Nat → Nat} {σ : x_S} {τ : x_L} {Q : x_S → x_L → Prop} (h : wX11_keep σ τ Q) : x_Met yX11_keep cX11_keep 1 (Option.none : Option Jvm.ClassFile.FieldType) 1 ad dsM [.ref (ad 0)] σ τ (x_PV Q) := by
  refine x_met (by decide +kernel) (Nat.le_of_ble_eq_true rfl) (fun V X => ?_)
  have X : x_Is V cX11_keep 1 RX11 (Option.none : Option Jvm.ClassFile.FieldType) ad dsM 1 (x_PV Q) := X
  show V σ τ 0 [(0, .ref (ad 0))] []
  refine x_aload_n X dX11_keep_0 rfl 0 rfl ?_
  refine x_getI X dX11_keep_1 fl_11_85 dsM_0 rfl ?_
  refine x_bipush X dX11_keep_4 kb_15 ?_
  refine x_icmp_ne X 32 dX11_keep_6 (by decide) (fun hc => ?_) (fun hc => ?_)
  · have h := h.1 hc
    exact bX11_keep_32 X h
  · have h := h.2 hc
    refine x_aload_n X dX11_keep_9 rfl 0 rfl ?_
    refine x_aload_n X dX11_keep_10 rfl 0 rfl ?_
    refine x_getI X dX11_keep_11 fl_11_88 dsM_0 rfl ?_
    refine x_iconst X dX11_keep_14 ki_1 ?_
    refine x_iadd X dX11_keep_15 ?_
    refine x_bipush X dX11_keep_16 kb_15 ?_
    refine x_irem X dX11_keep_18 (by decide) ?_
    refine x_putI X dX11_keep_19 fl_11_88 ft_11_2 dsM_0 rfl ?_
    refine x_aload_n X dX11_keep_22 rfl 0 rfl ?_
    refine x_dup X dX11_keep_23 rfl ?_
    refine x_getI X dX11_keep_24 fl_11_85 dsM_0 rfl ?_
    refine x_iconst X dX11_keep_27 ki_1 ?_
    refine x_isub X dX11_keep_28 ?_
    refine x_putI X dX11_keep_29 fl_11_85 ft_11_3 dsM_0 rfl ?_
    exact bX11_keep_32 X h
theorem dX11_undo_0 : decode cX11_undo 0 = .ok (.aload_n 0, 1) := by decide +kernel
theorem dX11_undo_1 : decode cX11_undo 1 = .ok (.iconst 0, 1) := by decide +kernel
theorem dX11_undo_2 : decode cX11_undo 2 = .ok (.putfield 82, 3) := by decide +kernel
theorem dX11_undo_5 : decode cX11_undo 5 = .ok (.aload_n 0, 1) := by decide +kernel
theorem dX11_undo_6 : decode cX11_undo 6 = .ok (.getfield 85, 3) := by decide +kernel
theorem dX11_undo_9 : decode cX11_undo 9 = .ok (.ifCond .ne 5, 3) := by decide +kernel
theorem dX11_undo_12 : decode cX11_undo 12 = .ok (.iconst (-1), 1) := by decide +kernel
theorem dX11_undo_13 : decode cX11_undo 13 = .ok (.ireturn, 1) := by decide +kernel
theorem dX11_undo_14 : decode cX11_undo 14 = .ok (.aload_n 0, 1) := by decide +kernel
theorem dX11_undo_15 : decode cX11_undo 15 = .ok (.dup, 1) := by decide +kernel
theorem dX11_undo_16 : decode cX11_undo 16 = .ok (.getfield 85, 3) := by decide +kernel
theorem dX11_undo_19 : decode cX11_undo 19 = .ok (.iconst 1, 1) := by decide +kernel
theorem dX11_undo_20 : decode cX11_undo 20 = .ok (.isub, 1) := by decide +kernel
theorem dX11_undo_21 : decode cX11_undo 21 = .ok (.putfield 85, 3) := by decide +kernel
theorem dX11_undo_24 : decode cX11_undo 24 = .ok (.aload_n 0, 1) := by decide +kernel
theorem dX11_undo_25 : decode cX11_undo 25 = .ok (.iconst 3, 1) := by decide +kernel
theorem dX11_undo_26 : decode cX11_undo 26 = .ok (.aload_n 0, 1) := by decide +kernel
theorem dX11_undo_27 : decode cX11_undo 27 = .ok (.getfield 88, 3) := by decide +kernel
theorem dX11_undo_30 : decode cX11_undo 30 = .ok (.aload_n 0, 1) := by decide +kernel
theorem dX11_undo_31 : decode cX11_undo 31 = .ok (.getfield 85, 3) := by decide +kernel
theorem dX11_undo_34 : decode cX11_undo 34 = .ok (.iadd, 1) := by decide +kernel
theorem dX11_undo_35 : decode cX11_undo 35 = .ok (.bipush 15, 2) := by decide +kernel
theorem dX11_undo_37 : decode cX11_undo 37 = .ok (.irem, 1) := by decide +kernel
theorem dX11_undo_38 : decode cX11_undo 38 = .ok (.iadd, 1) := by decide +kernel
theorem dX11_undo_39 : decode cX11_undo 39 = .ok (.iconst 0, 1) := by decide +kernel
theorem dX11_undo_40 : decode cX11_undo 40 = .ok (.invokevirtual 91, 3) := by decide +kernel
theorem dX11_undo_43 : decode cX11_undo 43 = .ok (.aload_n 0, 1) := by decide +kernel
theorem dX11_undo_44 : decode cX11_undo 44 = .ok (.getfield 85, 3) := by decide +kernel
theorem dX11_undo_47 : decode cX11_undo 47 = .ok (.ireturn, 1) := by decide +kernel
theorem cm_X11_undo : x_CM yX11_undo cX11_undo 1 (Option.some FieldType.int) 0 := ⟨w_7_81, w_1_12, by decide +kernel, by decide +kernel⟩
theorem ci_X11_undo : x_CI yX11_undo 13 := ⟨w_7_79, w_7_80, (RX11, TX11, 41), rfl, rfl⟩
set_option maxRecDepth 100000 in
set_option maxHeartbeats 4000000 in
theorem kX11_undo {ad : Nat → Nat} {σ : x_S} {τ : x_L} {Q : Int32 → x_S → x_L → Prop} (h : wX11_undo σ τ Q) : x_Met yX11_undo cX11_undo 1 (Option.some FieldType.int) 1 ad dsM [.ref (ad 0)] σ τ (x_PI Q) := by
  refine x_met (by decide +kernel) (Nat.le_of_ble_eq_true rfl) (fun V X => ?_)
  have X : x_Is V cX11_undo 1 RX11 (Option.some FieldType.int) ad dsM 1 (x_PI Q) := X
  show V σ τ 0 [(0, .ref (ad 0))] []
  refine x_aload_n X dX11_undo_0 rfl 0 rfl ?_
  refine x_iconst X dX11_undo_1 ki_0 ?_
  refine x_putI X dX11_undo_2 fl_11_82 ft_11_5 dsM_0 rfl ?_
  refine x_aload_n X dX11_undo_5 rfl 0 rfl ?_
  refine x_getI X dX11_undo_6 fl_11_85 dsM_0 rfl ?_
  refine x_if_ne X 14 dX11_undo_9 (by decide) (fun hc => ?_) (fun hc => ?_)
  · have h := h.1 hc
    refine x_aload_n X dX11_undo_14 rfl 0 rfl ?_
    refine x_dup X dX11_undo_15 rfl ?_
    refine x_getI X dX11_undo_16 fl_11_85 dsM_0 rfl ?_
    refine x_iconst X dX11_undo_19 ki_1 ?_
    refine x_isub X dX11_undo_20 ?_
    refine x_putI X dX11_undo_21 fl_11_85 ft_11_3 dsM_0 rfl ?_
    refine x_aload_n X dX11_undo_24 rfl 0 rfl ?_
    refine x_iconst X dX11_undo_25 ki_3 ?_
    refine x_aload_n X dX11_undo_26 rfl 0 rfl ?_
    refine x_getI X dX11_undo_27 fl_11_88 dsM_0 rfl ?_
    refine x_aload_n X dX11_undo_30 rfl 0 rfl ?_
    refine x_getI X dX11_undo_31 fl_11_85 dsM_0 rfl ?_
    refine x_iadd X dX11_undo_34 ?_
    refine x_bipush X dX11_undo_35 kb_15 ?_
    refine x_irem X dX11_undo_37 (by decide) ?_
    refine x_iadd X dX11_undo_38 ?_
    refine x_iconst X dX11_undo_39 ki_0 ?_
    refine x_callVv X [.int (3 + ((((x_up (x_up σ 0 5 0) 0 3 (((x_up σ 0 5 0) 0 3) - 1)) 0 2) + ((x_up (x_up σ 0 5 0) 0 3 (((x_up σ 0 5 0) 0 3) - 1)) 0 3)) - (((x_up (x_up σ 0 5 0) 0 3 (((x_up σ 0 5 0) 0 3) - 1)) 0 2) + ((x_up (x_up σ 0 5 0) 0 3 (((x_up σ 0 5 0) 0 3) - 1)) 0 3)) / 15 * 15)), .int 0] [] dX11_undo_40 (kX11_copyPlan h) cm_X11_copyPlan ci_X11_copyPlan w_7_82 dsM_0 ⟨by decide, by decide⟩ rfl (Nat.le_of_ble_eq_true rfl) (fun σ40 τ40 h => ?_)
    refine x_aload_n X dX11_undo_43 rfl 0 rfl ?_
    refine x_getI X dX11_undo_44 fl_11_85 dsM_0 rfl ?_
    exact x_iret X dX11_undo_47 ⟨_, rfl, h⟩
  · have h := h.2 hc
    refine x_iconst X dX11_undo_12 ki_m1 ?_
    exact x_iret X dX11_undo_13 ⟨_, rfl, h⟩
theorem dX11_saveSnapshot_0 : decode cX11_saveSnapshot 0 = .ok (.aload_n 0, 1) := by decide +kernel
theorem dX11_saveSnapshot_1 : decode cX11_saveSnapshot 1 = .ok (.iconst 0, 1) := by decide +kernel
theorem dX11_saveSnapshot_2 : decode cX11_saveSnapshot 2 = .ok (.putfield 82, 3) := by decide +kernel
theorem dX11_saveSnapshot_5 : decode cX11_saveSnapshot 5 = .ok (.iload_n 1, 1) := by decide +kernel
theorem dX11_saveSnapshot_6 : decode cX11_saveSnapshot 6 = .ok (.i2l, 1) := by decide +kernel
theorem dX11_saveSnapshot_7 : decode cX11_saveSnapshot 7 = .ok (.lconst 0, 1) := by decide +kernel
theorem dX11_saveSnapshot_8 : decode cX11_saveSnapshot 8 = .ok (.lconst 1, 1) := by decide +kernel
theorem dX11_saveSnapshot_9 : decode cX11_saveSnapshot 9 = .ok (.invokestatic 95, 3) := by decide +kernel
theorem dX11_saveSnapshot_12 : decode cX11_saveSnapshot 12 = .ok (.ifCond .ne 5, 3) := by decide +kernel
theorem dX11_saveSnapshot_15 : decode cX11_saveSnapshot 15 = .ok (.iconst 0, 1) := by decide +kernel
theorem dX11_saveSnapshot_16 : decode cX11_saveSnapshot 16 = .ok (.ireturn, 1) := by decide +kernel
theorem dX11_saveSnapshot_17 : decode cX11_saveSnapshot 17 = .ok (.aload_n 0, 1) := by decide +kernel
theorem dX11_saveSnapshot_18 : decode cX11_saveSnapshot 18 = .ok (.iconst 0, 1) := by decide +kernel
theorem dX11_saveSnapshot_19 : decode cX11_saveSnapshot 19 = .ok (.iconst 1, 1) := by decide +kernel
theorem dX11_saveSnapshot_20 : decode cX11_saveSnapshot 20 = .ok (.iload_n 1, 1) := by decide +kernel
theorem dX11_saveSnapshot_21 : decode cX11_saveSnapshot 21 = .ok (.iadd, 1) := by decide +kernel
theorem dX11_saveSnapshot_22 : decode cX11_saveSnapshot 22 = .ok (.invokevirtual 91, 3) := by decide +kernel
theorem dX11_saveSnapshot_25 : decode cX11_saveSnapshot 25 = .ok (.aload_n 0, 1) := by decide +kernel
theorem dX11_saveSnapshot_26 : decode cX11_saveSnapshot 26 = .ok (.getfield 13, 3) := by decide +kernel
theorem dX11_saveSnapshot_29 : decode cX11_saveSnapshot 29 = .ok (.iload_n 1, 1) := by decide +kernel
theorem dX11_saveSnapshot_30 : decode cX11_saveSnapshot 30 = .ok (.iconst 1, 1) := by decide +kernel
theorem dX11_saveSnapshot_31 : decode cX11_saveSnapshot 31 = .ok (.bastore, 1) := by decide +kernel
theorem dX11_saveSnapshot_32 : decode cX11_saveSnapshot 32 = .ok (.iconst 1, 1) := by decide +kernel
theorem dX11_saveSnapshot_33 : decode cX11_saveSnapshot 33 = .ok (.ireturn, 1) := by decide +kernel
theorem cm_X11_saveSnapshot : x_CM yX11_saveSnapshot cX11_saveSnapshot 2 (Option.some FieldType.boolean) 1 := ⟨w_7_89, w_1_12, by decide +kernel, by decide +kernel⟩
theorem ci_X11_saveSnapshot : x_CI yX11_saveSnapshot 13 := ⟨w_7_87, w_7_88, (RX11, TX11, 41), rfl, rfl⟩
set_option maxRecDepth 100000 in
set_option maxHeartbeats 4000000 in
theorem kX11_saveSnapshot {ad : Nat → Nat} {a1 : Int32} {σ : x_S} {τ : x_L} {Q : Int32 → x_S → x_L → Prop} (h : wX11_saveSnapshot a1 σ τ Q) : x_Met yX11_saveSnapshot cX11_saveSnapshot 2 (Option.some FieldType.boolean) 1 ad dsM [.ref (ad 0), .int a1] σ τ (x_PI Q) := by
  refine x_met (by decide +kernel) (Nat.le_of_ble_eq_true rfl) (fun V X => ?_)
  have X : x_Is V cX11_saveSnapshot 2 RX11 (Option.some FieldType.boolean) ad dsM 1 (x_PI Q) := X
  show V σ τ 0 [(0, .ref (ad 0)), (1, .int a1)] []
  refine x_aload_n X dX11_saveSnapshot_0 rfl 0 rfl ?_
  refine x_iconst X dX11_saveSnapshot_1 ki_0 ?_
  refine x_putI X dX11_saveSnapshot_2 fl_11_82 ft_11_5 dsM_0 rfl ?_
  refine x_iload_n X dX11_saveSnapshot_5 rfl 1 rfl ?_
  refine x_i2l X dX11_saveSnapshot_6 ?_
  refine x_lconst X (v := 0) dX11_saveSnapshot_7 (by decide) ?_
  refine x_lconst X (v := 1) dX11_saveSnapshot_8 (by decide) ?_
  refine x_callSi X [.long ((a1 : Int32).toInt64), .long 0, .long 1] [] dX11_saveSnapshot_9 (kX11_inRange h) cm_X11_inRange w_7_91 rfl w_7_90 ⟨by decide, by decide⟩ rfl (Nat.le_of_ble_eq_true rfl) (fun r9 σ9 τ9 h => ?_)
  refine x_if_ne X 17 dX11_saveSnapshot_12 (by decide) (fun hc => ?_) (fun hc => ?_)
  · have h := h.1 hc
    refine x_aload_n X dX11_saveSnapshot_17 rfl 0 rfl ?_
    refine x_iconst X dX11_saveSnapshot_18 ki_0 ?_
    refine x_iconst X dX11_saveSnapshot_19 ki_1 ?_
    refine x_iload_n X dX11_saveSnapshot_20 rfl 1 rfl ?_
    refine x_iadd X dX11_saveSnapshot_21 ?_
    refine x_callVv X [.int 0, .int (1 + a1)] [] dX11_saveSnapshot_22 (kX11_copyPlan h) cm_X11_copyPlan ci_X11_copyPlan w_7_82 dsM_0 ⟨by decide, by decide⟩ rfl (Nat.le_of_ble_eq_true rfl) (fun σ22 τ22 h => ?_)
    refine x_aload_n X dX11_saveSnapshot_25 rfl 0 rfl ?_
    refine x_getR X (j := 2) dX11_saveSnapshot_26 fl_11_13 dsM_0 rfl ?_
    refine x_iload_n X dX11_saveSnapshot_29 rfl 1 rfl ?_
    refine x_iconst X dX11_saveSnapshot_30 ki_1 ?_
    have g31 := h.1
    have h := h.2
    refine x_zast X dX11_saveSnapshot_31 dsM_2 g31 ?_
    refine x_iconst X dX11_saveSnapshot_32 ki_1 ?_
    exact x_zret X dX11_saveSnapshot_33 ⟨Or.inr rfl, _, rfl, h⟩
  · have h := h.2 hc
    refine x_iconst X dX11_saveSnapshot_15 ki_0 ?_
    exact x_zret X dX11_saveSnapshot_16 ⟨Or.inl rfl, _, rfl, h⟩
theorem dX11_restoreSnapshot_0 : decode cX11_restoreSnapshot 0 = .ok (.aload_n 0, 1) := by decide +kernel
theorem dX11_restoreSnapshot_1 : decode cX11_restoreSnapshot 1 = .ok (.iconst 0, 1) := by decide +kernel
theorem dX11_restoreSnapshot_2 : decode cX11_restoreSnapshot 2 = .ok (.putfield 82, 3) := by decide +kernel
theorem dX11_restoreSnapshot_5 : decode cX11_restoreSnapshot 5 = .ok (.iload_n 1, 1) := by decide +kernel
theorem dX11_restoreSnapshot_6 : decode cX11_restoreSnapshot 6 = .ok (.i2l, 1) := by decide +kernel
theorem dX11_restoreSnapshot_7 : decode cX11_restoreSnapshot 7 = .ok (.lconst 0, 1) := by decide +kernel
theorem dX11_restoreSnapshot_8 : decode cX11_restoreSnapshot 8 = .ok (.lconst 1, 1) := by decide +kernel
theorem dX11_restoreSnapshot_9 : decode cX11_restoreSnapshot 9 = .ok (.invokestatic 95, 3) := by decide +kernel
theorem dX11_restoreSnapshot_12 : decode cX11_restoreSnapshot 12 = .ok (.ifCond .eq 12, 3) := by decide +kernel
theorem dX11_restoreSnapshot_15 : decode cX11_restoreSnapshot 15 = .ok (.aload_n 0, 1) := by decide +kernel
theorem dX11_restoreSnapshot_16 : decode cX11_restoreSnapshot 16 = .ok (.getfield 13, 3) := by decide +kernel
theorem dX11_restoreSnapshot_19 : decode cX11_restoreSnapshot 19 = .ok (.iload_n 1, 1) := by decide +kernel
theorem dX11_restoreSnapshot_20 : decode cX11_restoreSnapshot 20 = .ok (.baload, 1) := by decide +kernel
theorem dX11_restoreSnapshot_21 : decode cX11_restoreSnapshot 21 = .ok (.ifCond .ne 5, 3) := by decide +kernel
theorem dX11_restoreSnapshot_24 : decode cX11_restoreSnapshot 24 = .ok (.iconst 0, 1) := by decide +kernel
theorem dX11_restoreSnapshot_25 : decode cX11_restoreSnapshot 25 = .ok (.ireturn, 1) := by decide +kernel
theorem dX11_restoreSnapshot_26 : decode cX11_restoreSnapshot 26 = .ok (.aload_n 0, 1) := by decide +kernel
theorem dX11_restoreSnapshot_27 : decode cX11_restoreSnapshot 27 = .ok (.iconst 1, 1) := by decide +kernel
theorem dX11_restoreSnapshot_28 : decode cX11_restoreSnapshot 28 = .ok (.iload_n 1, 1) := by decide +kernel
theorem dX11_restoreSnapshot_29 : decode cX11_restoreSnapshot 29 = .ok (.iadd, 1) := by decide +kernel
theorem dX11_restoreSnapshot_30 : decode cX11_restoreSnapshot 30 = .ok (.iconst 0, 1) := by decide +kernel
theorem dX11_restoreSnapshot_31 : decode cX11_restoreSnapshot 31 = .ok (.invokevirtual 91, 3) := by decide +kernel
theorem dX11_restoreSnapshot_34 : decode cX11_restoreSnapshot 34 = .ok (.aload_n 0, 1) := by decide +kernel
theorem dX11_restoreSnapshot_35 : decode cX11_restoreSnapshot 35 = .ok (.iconst 0, 1) := by decide +kernel
theorem dX11_restoreSnapshot_36 : decode cX11_restoreSnapshot 36 = .ok (.putfield 85, 3) := by decide +kernel
theorem dX11_restoreSnapshot_39 : decode cX11_restoreSnapshot 39 = .ok (.iconst 1, 1) := by decide +kernel
theorem dX11_restoreSnapshot_40 : decode cX11_restoreSnapshot 40 = .ok (.ireturn, 1) := by decide +kernel
theorem cm_X11_restoreSnapshot : x_CM yX11_restoreSnapshot cX11_restoreSnapshot 2 (Option.some FieldType.boolean) 1 := ⟨w_7_96, w_1_12, by decide +kernel, by decide +kernel⟩
theorem ci_X11_restoreSnapshot : x_CI yX11_restoreSnapshot 13 := ⟨w_7_94, w_7_95, (RX11, TX11, 41), rfl, rfl⟩
set_option maxRecDepth 100000 in
set_option maxHeartbeats 4000000 in
theorem bX11_restoreSnapshot_24 {V : x_J} {ad : Nat → Nat} {Q : Int32 → x_S → x_L → Prop} (X : x_Is V cX11_restoreSnapshot 2 RX11 (Option.some FieldType.boolean) ad dsM 1 (x_PI Q)) {σ : x_S} {τ : x_L} (h : wX11_restoreSnapshot_24 Q σ τ) : V σ τ 24 [] [] := by
  refine x_iconst X dX11_restoreSnapshot_24 ki_0 ?_
  exact x_zret X dX11_restoreSnapshot_25 ⟨Or.inl rfl, _, rfl, h⟩
set_option maxRecDepth 100000 in
set_option maxHeartbeats 4000000 in
theorem kX11_restoreSnapshot {ad : Nat → Nat} {a1 : Int32} {σ : x_S} {τ : x_L} {Q : Int32 → x_S → x_L → Prop} (h : wX11_restoreSnapshot a1 σ τ Q) : x_Met yX11_restoreSnapshot cX11_restoreSnapshot 2 (Option.some FieldType.boolean) 1 ad dsM [.ref (ad 0), .int a1] σ τ (x_PI Q) := by
  refine x_met (by decide +kernel) (Nat.le_of_ble_eq_true rfl) (fun V X => ?_)
  have X : x_Is V cX11_restoreSnapshot 2 RX11 (Option.some FieldType.boolean) ad dsM 1 (x_PI Q) := X
  show V σ τ 0 [(0, .ref (ad 0)), (1, .int a1)] []
  refine x_aload_n X dX11_restoreSnapshot_0 rfl 0 rfl ?_
  refine x_iconst X dX11_restoreSnapshot_1 ki_0 ?_
  refine x_putI X dX11_restoreSnapshot_2 fl_11_82 ft_11_5 dsM_0 rfl ?_
  refine x_iload_n X dX11_restoreSnapshot_5 rfl 1 rfl ?_
  refine x_i2l X dX11_restoreSnapshot_6 ?_
  refine x_lconst X (v := 0) dX11_restoreSnapshot_7 (by decide) ?_
  refine x_lconst X (v := 1) dX11_restoreSnapshot_8 (by decide) ?_
  refine x_callSi X [.long ((a1 : Int32).toInt64), .long 0, .long 1] [] dX11_restoreSnapshot_9 (kX11_inRange h) cm_X11_inRange w_7_91 rfl w_7_90 ⟨by decide, by decide⟩ rfl (Nat.le_of_ble_eq_true rfl) (fun r9 σ9 τ9 h => ?_)
  refine x_if_eq X 24 dX11_restoreSnapshot_12 (by decide) (fun hc => ?_) (fun hc => ?_)
  · have h := h.1 hc
    refine x_sub X [] (lv' := []) rfl ?_
    exact bX11_restoreSnapshot_24 X h
  · have h := h.2 hc
    refine x_aload_n X dX11_restoreSnapshot_15 rfl 0 rfl ?_
    refine x_getR X (j := 2) dX11_restoreSnapshot_16 fl_11_13 dsM_0 rfl ?_
    refine x_iload_n X dX11_restoreSnapshot_19 rfl 1 rfl ?_
    have g20 := h.1
    have h := h.2
    refine x_zald X dX11_restoreSnapshot_20 dsM_2 g20 ?_
    refine x_if_ne X 26 dX11_restoreSnapshot_21 (by decide) (fun hc => ?_) (fun hc => ?_)
    · have h := h.1 hc
      refine x_aload_n X dX11_restoreSnapshot_26 rfl 0 rfl ?_
      refine x_iconst X dX11_restoreSnapshot_27 ki_1 ?_
      refine x_iload_n X dX11_restoreSnapshot_28 rfl 1 rfl ?_
      refine x_iadd X dX11_restoreSnapshot_29 ?_
      refine x_iconst X dX11_restoreSnapshot_30 ki_0 ?_
      refine x_callVv X [.int (1 + a1), .int 0] [] dX11_restoreSnapshot_31 (kX11_copyPlan h) cm_X11_copyPlan ci_X11_copyPlan w_7_82 dsM_0 ⟨by decide, by decide⟩ rfl (Nat.le_of_ble_eq_true rfl) (fun σ31 τ31 h => ?_)
      refine x_aload_n X dX11_restoreSnapshot_34 rfl 0 rfl ?_
      refine x_iconst X dX11_restoreSnapshot_35 ki_0 ?_
      refine x_putI X dX11_restoreSnapshot_36 fl_11_85 ft_11_3 dsM_0 rfl ?_
      refine x_iconst X dX11_restoreSnapshot_39 ki_1 ?_
      exact x_zret X dX11_restoreSnapshot_40 ⟨Or.inr rfl, _, rfl, h⟩
    · have h := h.2 hc
      refine x_sub X [] (lv' := []) rfl ?_
      exact bX11_restoreSnapshot_24 X h
theorem dX11_ofRoad_0 : decode cX11_ofRoad 0 = .ok (.aload_n 0, 1) := by decide +kernel
theorem dX11_ofRoad_1 : decode cX11_ofRoad 1 = .ok (.getfield 17, 3) := by decide +kernel
theorem dX11_ofRoad_4 : decode cX11_ofRoad 4 = .ok (.iconst 2, 1) := by decide +kernel
theorem dX11_ofRoad_5 : decode cX11_ofRoad 5 = .ok (.iconst 4, 1) := by decide +kernel
theorem dX11_ofRoad_6 : decode cX11_ofRoad 6 = .ok (.iload_n 1, 1) := by decide +kernel
theorem dX11_ofRoad_7 : decode cX11_ofRoad 7 = .ok (.imul, 1) := by decide +kernel
theorem dX11_ofRoad_8 : decode cX11_ofRoad 8 = .ok (.iadd, 1) := by decide +kernel
theorem dX11_ofRoad_9 : decode cX11_ofRoad 9 = .ok (.iload_n 2, 1) := by decide +kernel
theorem dX11_ofRoad_10 : decode cX11_ofRoad 10 = .ok (.iadd, 1) := by decide +kernel
theorem dX11_ofRoad_11 : decode cX11_ofRoad 11 = .ok (.iaload, 1) := by decide +kernel
theorem dX11_ofRoad_12 : decode cX11_ofRoad 12 = .ok (.ireturn, 1) := by decide +kernel
theorem cm_X11_ofRoad : x_CM yX11_ofRoad cX11_ofRoad 3 (Option.some FieldType.int) 2 := ⟨w_7_139, w_1_12, by decide +kernel, by decide +kernel⟩
theorem ci_X11_ofRoad : x_CI yX11_ofRoad 13 := ⟨w_7_138, wp_50, (RX11, TX11, 41), rfl, rfl⟩
set_option maxRecDepth 100000 in
set_option maxHeartbeats 4000000 in
theorem kX11_ofRoad {ad : Nat → Nat} {a1 : Int32} {a2 : Int32} {σ : x_S} {τ : x_L} {Q : Int32 → x_S → x_L → Prop} (h : wX11_ofRoad a1 a2 σ τ Q) : x_Met yX11_ofRoad cX11_ofRoad 3 (Option.some FieldType.int) 0 ad dsM [.ref (ad 0), .int a1, .int a2] σ τ (x_PI Q) := by
  refine x_met (by decide +kernel) (Nat.le_of_ble_eq_true rfl) (fun V X => ?_)
  have X : x_Is V cX11_ofRoad 3 RX11 (Option.some FieldType.int) ad dsM 0 (x_PI Q) := X
  show V σ τ 0 [(0, .ref (ad 0)), (1, .int a1), (2, .int a2)] []
  refine x_aload_n X dX11_ofRoad_0 rfl 0 rfl ?_
  refine x_getR X (j := 3) dX11_ofRoad_1 fl_11_17 dsM_0 rfl ?_
  refine x_iconst X dX11_ofRoad_4 ki_2 ?_
  refine x_iconst X dX11_ofRoad_5 ki_4 ?_
  refine x_iload_n X dX11_ofRoad_6 rfl 1 rfl ?_
  refine x_imul X dX11_ofRoad_7 ?_
  refine x_iadd X dX11_ofRoad_8 ?_
  refine x_iload_n X dX11_ofRoad_9 rfl 2 rfl ?_
  refine x_iadd X dX11_ofRoad_10 ?_
  have g11 := h.1
  have h := h.2
  refine x_iald X dX11_ofRoad_11 dsM_3 g11 ?_
  exact x_iret X dX11_ofRoad_12 ⟨_, rfl, h⟩
theorem dX11_ofTruck_0 : decode cX11_ofTruck 0 = .ok (.aload_n 0, 1) := by decide +kernel
theorem dX11_ofTruck_1 : decode cX11_ofTruck 1 = .ok (.getfield 17, 3) := by decide +kernel
theorem dX11_ofTruck_4 : decode cX11_ofTruck 4 = .ok (.bipush 122, 2) := by decide +kernel
theorem dX11_ofTruck_6 : decode cX11_ofTruck 6 = .ok (.bipush 14, 2) := by decide +kernel
theorem dX11_ofTruck_8 : decode cX11_ofTruck 8 = .ok (.iload_n 1, 1) := by decide +kernel
theorem dX11_ofTruck_9 : decode cX11_ofTruck 9 = .ok (.imul, 1) := by decide +kernel
theorem dX11_ofTruck_10 : decode cX11_ofTruck 10 = .ok (.iadd, 1) := by decide +kernel
theorem dX11_ofTruck_11 : decode cX11_ofTruck 11 = .ok (.iload_n 2, 1) := by decide +kernel
theorem dX11_ofTruck_12 : decode cX11_ofTruck 12 = .ok (.iadd, 1) := by decide +kernel
theorem dX11_ofTruck_13 : decode cX11_ofTruck 13 = .ok (.iaload, 1) := by decide +kernel
theorem dX11_ofTruck_14 : decode cX11_ofTruck 14 = .ok (.ireturn, 1) := by decide +kernel
theorem cm_X11_ofTruck : x_CM yX11_ofTruck cX11_ofTruck 3 (Option.some FieldType.int) 2 := ⟨w_7_116, w_1_12, by decide +kernel, by decide +kernel⟩
theorem ci_X11_ofTruck : x_CI yX11_ofTruck 13 := ⟨w_7_115, wp_45, (RX11, TX11, 41), rfl, rfl⟩
set_option maxRecDepth 100000 in
set_option maxHeartbeats 4000000 in
theorem kX11_ofTruck {ad : Nat → Nat} {a1 : Int32} {a2 : Int32} {σ : x_S} {τ : x_L} {Q : Int32 → x_S → x_L → Prop} (h : wX11_ofTruck a1 a2 σ τ Q) : x_Met yX11_ofTruck cX11_ofTruck 3 (Option.some FieldType.int) 0 ad dsM [.ref (ad 0), .int a1, .int a2] σ τ (x_PI Q) := by
  refine x_met (by decide +kernel) (Nat.le_of_ble_eq_true rfl) (fun V X => ?_)
  have X : x_Is V cX11_ofTruck 3 RX11 (Option.some FieldType.int) ad dsM 0 (x_PI Q) := X
  show V σ τ 0 [(0, .ref (ad 0)), (1, .int a1), (2, .int a2)] []
  refine x_aload_n X dX11_ofTruck_0 rfl 0 rfl ?_
  refine x_getR X (j := 3) dX11_ofTruck_1 fl_11_17 dsM_0 rfl ?_
  refine x_bipush X dX11_ofTruck_4 kb_122 ?_
  refine x_bipush X dX11_ofTruck_6 kb_14 ?_
  refine x_iload_n X dX11_ofTruck_8 rfl 1 rfl ?_
  refine x_imul X dX11_ofTruck_9 ?_
  refine x_iadd X dX11_ofTruck_10 ?_
  refine x_iload_n X dX11_ofTruck_11 rfl 2 rfl ?_
  refine x_iadd X dX11_ofTruck_12 ?_
  have g13 := h.1
  have h := h.2
  refine x_iald X dX11_ofTruck_13 dsM_3 g13 ?_
  exact x_iret X dX11_ofTruck_14 ⟨_, rfl, h⟩
theorem dX11_placesOf_0 : decode cX11_placesOf 0 = .ok (.aload_n 0, 1) := by decide +kernel
theorem dX11_placesOf_1 : decode cX11_placesOf 1 = .ok (.iload_n 1, 1) := by decide +kernel
theorem dX11_placesOf_2 : decode cX11_placesOf 2 = .ok (.iconst 3, 1) := by decide +kernel
theorem dX11_placesOf_3 : decode cX11_placesOf 3 = .ok (.invokevirtual 99, 3) := by decide +kernel
theorem dX11_placesOf_6 : decode cX11_placesOf 6 = .ok (.ireturn, 1) := by decide +kernel
theorem cm_X11_placesOf : x_CM yX11_placesOf cX11_placesOf 2 (Option.some FieldType.int) 1 := ⟨w_7_112, w_1_12, by decide +kernel, by decide +kernel⟩
theorem ci_X11_placesOf : x_CI yX11_placesOf 13 := ⟨w_7_111, wp_44, (RX11, TX11, 41), rfl, rfl⟩
set_option maxRecDepth 100000 in
set_option maxHeartbeats 4000000 in
theorem kX11_placesOf {ad : Nat → Nat} {a1 : Int32} {σ : x_S} {τ : x_L} {Q : Int32 → x_S → x_L → Prop} (h : wX11_placesOf a1 σ τ Q) : x_Met yX11_placesOf cX11_placesOf 2 (Option.some FieldType.int) 1 ad dsM [.ref (ad 0), .int a1] σ τ (x_PI Q) := by
  refine x_met (by decide +kernel) (Nat.le_of_ble_eq_true rfl) (fun V X => ?_)
  have X : x_Is V cX11_placesOf 2 RX11 (Option.some FieldType.int) ad dsM 1 (x_PI Q) := X
  show V σ τ 0 [(0, .ref (ad 0)), (1, .int a1)] []
  refine x_aload_n X dX11_placesOf_0 rfl 0 rfl ?_
  refine x_iload_n X dX11_placesOf_1 rfl 1 rfl ?_
  refine x_iconst X dX11_placesOf_2 ki_3 ?_
  refine x_callVi X [.int a1, .int 3] [] dX11_placesOf_3 (kX11_ofTruck h) cm_X11_ofTruck ci_X11_ofTruck w_7_113 dsM_0 ⟨by decide, by decide⟩ rfl (Nat.le_of_ble_eq_true rfl) (fun r3 σ3 τ3 h => ?_)
  exact x_iret X dX11_placesOf_6 ⟨_, rfl, h⟩
theorem dX11_roadAt_0 : decode cX11_roadAt 0 = .ok (.aload_n 0, 1) := by decide +kernel
theorem dX11_roadAt_1 : decode cX11_roadAt 1 = .ok (.iload_n 1, 1) := by decide +kernel
theorem dX11_roadAt_2 : decode cX11_roadAt 2 = .ok (.iconst 4, 1) := by decide +kernel
theorem dX11_roadAt_3 : decode cX11_roadAt 3 = .ok (.iload_n 2, 1) := by decide +kernel
theorem dX11_roadAt_4 : decode cX11_roadAt 4 = .ok (.iadd, 1) := by decide +kernel
theorem dX11_roadAt_5 : decode cX11_roadAt 5 = .ok (.invokevirtual 99, 3) := by decide +kernel
theorem dX11_roadAt_8 : decode cX11_roadAt 8 = .ok (.ireturn, 1) := by decide +kernel
theorem cm_X11_roadAt : x_CM yX11_roadAt cX11_roadAt 3 (Option.some FieldType.int) 2 := ⟨w_7_127, w_1_12, by decide +kernel, by decide +kernel⟩
theorem ci_X11_roadAt : x_CI yX11_roadAt 13 := ⟨w_7_126, wp_47, (RX11, TX11, 41), rfl, rfl⟩
set_option maxRecDepth 100000 in
set_option maxHeartbeats 4000000 in
theorem kX11_roadAt {ad : Nat → Nat} {a1 : Int32} {a2 : Int32} {σ : x_S} {τ : x_L} {Q : Int32 → x_S → x_L → Prop} (h : wX11_roadAt a1 a2 σ τ Q) : x_Met yX11_roadAt cX11_roadAt 3 (Option.some FieldType.int) 1 ad dsM [.ref (ad 0), .int a1, .int a2] σ τ (x_PI Q) := by
  refine x_met (by decide +kernel) (Nat.le_of_ble_eq_true rfl) (fun V X => ?_)
  have X : x_Is V cX11_roadAt 3 RX11 (Option.some FieldType.int) ad dsM 1 (x_PI Q) := X
  show V σ τ 0 [(0, .ref (ad 0)), (1, .int a1), (2, .int a2)] []
  refine x_aload_n X dX11_roadAt_0 rfl 0 rfl ?_
  refine x_iload_n X dX11_roadAt_1 rfl 1 rfl ?_
  refine x_iconst X dX11_roadAt_2 ki_4 ?_
  refine x_iload_n X dX11_roadAt_3 rfl 2 rfl ?_
  refine x_iadd X dX11_roadAt_4 ?_
  refine x_callVi X [.int a1, .int (4 + a2)] [] dX11_roadAt_5 (kX11_ofTruck h) cm_X11_ofTruck ci_X11_ofTruck w_7_113 dsM_0 ⟨by decide, by decide⟩ rfl (Nat.le_of_ble_eq_true rfl) (fun r5 σ5 τ5 h => ?_)
  exact x_iret X dX11_roadAt_8 ⟨_, rfl, h⟩
theorem dX11_isRoad_0 : decode cX11_isRoad 0 = .ok (.iload_n 1, 1) := by decide +kernel
theorem dX11_isRoad_1 : decode cX11_isRoad 1 = .ok (.i2l, 1) := by decide +kernel
theorem dX11_isRoad_2 : decode cX11_isRoad 2 = .ok (.lconst 0, 1) := by decide +kernel
theorem dX11_isRoad_3 : decode cX11_isRoad 3 = .ok (.aload_n 0, 1) := by decide +kernel
theorem dX11_isRoad_4 : decode cX11_isRoad 4 = .ok (.getfield 17, 3) := by decide +kernel
theorem dX11_isRoad_7 : decode cX11_isRoad 7 = .ok (.iconst 0, 1) := by decide +kernel
theorem dX11_isRoad_8 : decode cX11_isRoad 8 = .ok (.iaload, 1) := by decide +kernel
theorem dX11_isRoad_9 : decode cX11_isRoad 9 = .ok (.iconst 1, 1) := by decide +kernel
theorem dX11_isRoad_10 : decode cX11_isRoad 10 = .ok (.isub, 1) := by decide +kernel
theorem dX11_isRoad_11 : decode cX11_isRoad 11 = .ok (.i2l, 1) := by decide +kernel
theorem dX11_isRoad_12 : decode cX11_isRoad 12 = .ok (.invokestatic 95, 3) := by decide +kernel
theorem dX11_isRoad_15 : decode cX11_isRoad 15 = .ok (.ireturn, 1) := by decide +kernel
theorem cm_X11_isRoad : x_CM yX11_isRoad cX11_isRoad 2 (Option.some FieldType.boolean) 1 := ⟨w_8_9, w_1_12, by decide +kernel, by decide +kernel⟩
theorem ci_X11_isRoad : x_CI yX11_isRoad 13 := ⟨w_8_8, wp_75, (RX11, TX11, 41), rfl, rfl⟩
set_option maxRecDepth 100000 in
set_option maxHeartbeats 4000000 in
theorem kX11_isRoad {ad : Nat → Nat} {a1 : Int32} {σ : x_S} {τ : x_L} {Q : Int32 → x_S → x_L → Prop} (h : wX11_isRoad a1 σ τ Q) : x_Met yX11_isRoad cX11_isRoad 2 (Option.some FieldType.boolean) 1 ad dsM [.ref (ad 0), .int a1] σ τ (x_PI Q) := by
  refine x_met (by decide +kernel) (Nat.le_of_ble_eq_true rfl) (fun V X => ?_)
  have X : x_Is V cX11_isRoad 2 RX11 (Option.some FieldType.boolean) ad dsM 1 (x_PI Q) := X
  show V σ τ 0 [(0, .ref (ad 0)), (1, .int a1)] []
  refine x_iload_n X dX11_isRoad_0 rfl 1 rfl ?_
  refine x_i2l X dX11_isRoad_1 ?_
  refine x_lconst X (v := 0) dX11_isRoad_2 (by decide) ?_
  refine x_aload_n X dX11_isRoad_3 rfl 0 rfl ?_
  refine x_getR X (j := 3) dX11_isRoad_4 fl_11_17 dsM_0 rfl ?_
  refine x_iconst X dX11_isRoad_7 ki_0 ?_
  refine x_iald X dX11_isRoad_8 dsM_3 (x_inl (by decide)) ?_
  refine x_iconst X dX11_isRoad_9 ki_1 ?_
  refine x_isub X dX11_isRoad_10 ?_
  refine x_i2l X dX11_isRoad_11 ?_
  refine x_callSi X [.long ((a1 : Int32).toInt64), .long 0, .long ((((σ 3 (0 : Int32).toNatClampNeg) - 1) : Int32).toInt64)] [] dX11_isRoad_12 (kX11_inRange h) cm_X11_inRange w_7_91 rfl w_7_90 ⟨by decide, by decide⟩ rfl (Nat.le_of_ble_eq_true rfl) (fun r12 σ12 τ12 h => ?_)
  exact x_zret X dX11_isRoad_15 ⟨h.1, _, rfl, h.2⟩
theorem dX11_isTruck_0 : decode cX11_isTruck 0 = .ok (.iload_n 1, 1) := by decide +kernel
theorem dX11_isTruck_1 : decode cX11_isTruck 1 = .ok (.i2l, 1) := by decide +kernel
theorem dX11_isTruck_2 : decode cX11_isTruck 2 = .ok (.lconst 0, 1) := by decide +kernel
theorem dX11_isTruck_3 : decode cX11_isTruck 3 = .ok (.aload_n 0, 1) := by decide +kernel
theorem dX11_isTruck_4 : decode cX11_isTruck 4 = .ok (.getfield 17, 3) := by decide +kernel
theorem dX11_isTruck_7 : decode cX11_isTruck 7 = .ok (.iconst 1, 1) := by decide +kernel
theorem dX11_isTruck_8 : decode cX11_isTruck 8 = .ok (.iaload, 1) := by decide +kernel
theorem dX11_isTruck_9 : decode cX11_isTruck 9 = .ok (.iconst 1, 1) := by decide +kernel
theorem dX11_isTruck_10 : decode cX11_isTruck 10 = .ok (.isub, 1) := by decide +kernel
theorem dX11_isTruck_11 : decode cX11_isTruck 11 = .ok (.i2l, 1) := by decide +kernel
theorem dX11_isTruck_12 : decode cX11_isTruck 12 = .ok (.invokestatic 95, 3) := by decide +kernel
theorem dX11_isTruck_15 : decode cX11_isTruck 15 = .ok (.ireturn, 1) := by decide +kernel
theorem cm_X11_isTruck : x_CM yX11_isTruck cX11_isTruck 2 (Option.some FieldType.boolean) 1 := ⟨w_8_29, w_1_12, by decide +kernel, by decide +kernel⟩
theorem ci_X11_isTruck : x_CI yX11_isTruck 13 := ⟨w_8_28, wp_79, (RX11, TX11, 41), rfl, rfl⟩
set_option maxRecDepth 100000 in
set_option maxHeartbeats 4000000 in
theorem kX11_isTruck {ad : Nat → Nat} {a1 : Int32} {σ : x_S} {τ : x_L} {Q : Int32 → x_S → x_L → Prop} (h : wX11_isTruck a1 σ τ Q) : x_Met yX11_isTruck cX11_isTruck 2 (Option.some FieldType.boolean) 1 ad dsM [.ref (ad 0), .int a1] σ τ (x_PI Q) := by
  refine x_met (by decide +kernel) (Nat.le_of_ble_eq_true rfl) (fun V X => ?_)
  have X : x_Is V cX11_isTruck 2 RX11 (Option.some FieldType.boolean) ad dsM 1 (x_PI Q) := X
  show V σ τ 0 [(0, .ref (ad 0)), (1, .int a1)] []
  refine x_iload_n X dX11_isTruck_0 rfl 1 rfl ?_
  refine x_i2l X dX11_isTruck_1 ?_
  refine x_lconst X (v := 0) dX11_isTruck_2 (by decide) ?_
  refine x_aload_n X dX11_isTruck_3 rfl 0 rfl ?_
  refine x_getR X (j := 3) dX11_isTruck_4 fl_11_17 dsM_0 rfl ?_
  refine x_iconst X dX11_isTruck_7 ki_1 ?_
  refine x_iald X dX11_isTruck_8 dsM_3 (x_inl (by decide)) ?_
  refine x_iconst X dX11_isTruck_9 ki_1 ?_
  refine x_isub X dX11_isTruck_10 ?_
  refine x_i2l X dX11_isTruck_11 ?_
  refine x_callSi X [.long ((a1 : Int32).toInt64), .long 0, .long ((((σ 3 (1 : Int32).toNatClampNeg) - 1) : Int32).toInt64)] [] dX11_isTruck_12 (kX11_inRange h) cm_X11_inRange w_7_91 rfl w_7_90 ⟨by decide, by decide⟩ rfl (Nat.le_of_ble_eq_true rfl) (fun r12 σ12 τ12 h => ?_)
  exact x_zret X dX11_isTruck_15 ⟨h.1, _, rfl, h.2⟩
theorem dX11_isPlace_0 : decode cX11_isPlace 0 = .ok (.aload_n 0, 1) := by decide +kernel
theorem dX11_isPlace_1 : decode cX11_isPlace 1 = .ok (.iload_n 1, 1) := by decide +kernel
theorem dX11_isPlace_2 : decode cX11_isPlace 2 = .ok (.invokevirtual 103, 3) := by decide +kernel
theorem dX11_isPlace_5 : decode cX11_isPlace 5 = .ok (.ifCond .eq 24, 3) := by decide +kernel
theorem dX11_isPlace_8 : decode cX11_isPlace 8 = .ok (.iload_n 2, 1) := by decide +kernel
theorem dX11_isPlace_9 : decode cX11_isPlace 9 = .ok (.i2l, 1) := by decide +kernel
theorem dX11_isPlace_10 : decode cX11_isPlace 10 = .ok (.lconst 0, 1) := by decide +kernel
theorem dX11_isPlace_11 : decode cX11_isPlace 11 = .ok (.aload_n 0, 1) := by decide +kernel
theorem dX11_isPlace_12 : decode cX11_isPlace 12 = .ok (.iload_n 1, 1) := by decide +kernel
theorem dX11_isPlace_13 : decode cX11_isPlace 13 = .ok (.invokevirtual 107, 3) := by decide +kernel
theorem dX11_isPlace_16 : decode cX11_isPlace 16 = .ok (.iconst 1, 1) := by decide +kernel
theorem dX11_isPlace_17 : decode cX11_isPlace 17 = .ok (.isub, 1) := by decide +kernel
theorem dX11_isPlace_18 : decode cX11_isPlace 18 = .ok (.i2l, 1) := by decide +kernel
theorem dX11_isPlace_19 : decode cX11_isPlace 19 = .ok (.invokestatic 95, 3) := by decide +kernel
theorem dX11_isPlace_22 : decode cX11_isPlace 22 = .ok (.ifCond .eq 7, 3) := by decide +kernel
theorem dX11_isPlace_25 : decode cX11_isPlace 25 = .ok (.iconst 1, 1) := by decide +kernel
theorem dX11_isPlace_26 : decode cX11_isPlace 26 = .ok (.goto 4, 3) := by decide +kernel
theorem dX11_isPlace_29 : decode cX11_isPlace 29 = .ok (.iconst 0, 1) := by decide +kernel
theorem dX11_isPlace_30 : decode cX11_isPlace 30 = .ok (.ireturn, 1) := by decide +kernel
theorem cm_X11_isPlace : x_CM yX11_isPlace cX11_isPlace 3 (Option.some FieldType.boolean) 2 := ⟨w_8_41, w_1_12, by decide +kernel, by decide +kernel⟩
theorem ci_X11_isPlace : x_CI yX11_isPlace 13 := ⟨w_8_40, wp_81, (RX11, TX11, 41), rfl, rfl⟩
set_option maxRecDepth 100000 in
set_option maxHeartbeats 4000000 in
theorem bX11_isPlace_30 {V : x_J} {ad : Nat → Nat} {Q : Int32 → x_S → x_L → Prop} (X : x_Is V cX11_isPlace 3 RX11 (Option.some FieldType.boolean) ad dsM 2 (x_PI Q)) {s0 : Int32} {σ : x_S} {τ : x_L} (h : wX11_isPlace_30 Q s0 σ τ) : V σ τ 30 [] [.int s0] := by
  exact x_zret X dX11_isPlace_30 ⟨h.1, _, rfl, h.2⟩
set_option maxRecDepth 100000 in
set_option maxHeartbeats 4000000 in
theorem bX11_isPlace_29 {V : x_J} {ad : Nat → Nat} {Q : Int32 → x_S → x_L → Prop} (X : x_Is V cX11_isPlace 3 RX11 (Option.some FieldType.boolean) ad dsM 2 (x_PI Q)) {σ : x_S} {τ : x_L} (h : wX11_isPlace_29 Q σ τ) : V σ τ 29 [] [] := by
  refine x_iconst X dX11_isPlace_29 ki_0 ?_
  exact bX11_isPlace_30 X h
set_option maxRecDepth 100000 in
set_option maxHeartbeats 4000000 in
theorem kX11_isPlace {ad : Nat → Nat} {a1 : Int32} {a2 : Int32} {σ : x_S} {τ : x_L} {Q : Int32 → x_S → x_L → Prop} (h : wX11_isPlace a1 a2 σ τ Q) : x_Met yX11_isPlace cX11_isPlace 3 (Option.some FieldType.boolean) 2 ad dsM [.ref (ad 0), .int a1, .int a2] σ τ (x_PI Q) := by
  refine x_met (by decide +kernel) (Nat.le_of_ble_eq_true rfl) (fun V X => ?_)
  have X : x_Is V cX11_isPlace 3 RX11 (Option.some FieldType.boolean) ad dsM 2 (x_PI Q) := X
  show V σ τ 0 [(0, .ref (ad 0)), (1, .int a1), (2, .int a2)] []
  refine x_aload_n X dX11_isPlace_0 rfl 0 rfl ?_
  refine x_iload_n X dX11_isPlace_1 rfl 1 rfl ?_
  refine x_callVi X [.int a1] [] dX11_isPlace_2 (kX11_isTruck h) cm_X11_isTruck ci_X11_isTruck w_8_26 dsM_0 ⟨by decide, by decide⟩ rfl (Nat.le_of_ble_eq_true rfl) (fun r2 σ2 τ2 h => ?_)
  refine x_if_eq X 29 dX11_isPlace_5 (by decide) (fun hc => ?_) (fun hc => ?_)
  · have h := h.1 hc
    refine x_sub X [] (lv' := []) rfl ?_
    exact bX11_isPlace_29 X h
  · have h := h.2 hc
    refine x_iload_n X dX11_isPlace_8 rfl 2 rfl ?_
    refine x_i2l X dX11_isPlace_9 ?_
    refine x_lconst X (v := 0) dX11_isPlace_10 (by decide) ?_
    refine x_aload_n X dX11_isPlace_11 rfl 0 rfl ?_
    refine x_iload_n X dX11_isPlace_12 rfl 1 rfl ?_
    refine x_callVi X [.int a1] [.long 0, .long ((a2 : Int32).toInt64)] dX11_isPlace_13 (kX11_placesOf h) cm_X11_placesOf ci_X11_placesOf w_7_109 dsM_0 ⟨by decide, by decide⟩ rfl (Nat.le_of_ble_eq_true rfl) (fun r13 σ13 τ13 h => ?_)
    refine x_iconst X dX11_isPlace_16 ki_1 ?_
    refine x_isub X dX11_isPlace_17 ?_
    refine x_i2l X dX11_isPlace_18 ?_
    refine x_callSi X [.long ((a2 : Int32).toInt64), .long 0, .long (((r13 - 1) : Int32).toInt64)] [] dX11_isPlace_19 (kX11_inRange h) cm_X11_inRange w_7_91 rfl w_7_90 ⟨by decide, by decide⟩ rfl (Nat.le_of_ble_eq_true rfl) (fun r19 σ19 τ19 h => ?_)
    refine x_if_eq X 29 dX11_isPlace_22 (by decide) (fun hc => ?_) (fun hc => ?_)
    · have h := h.1 hc
      refine x_sub X [] (lv' := []) rfl ?_
      exact bX11_isPlace_29 X h
    · have h := h.2 hc
      refine x_iconst X dX11_isPlace_25 ki_1 ?_
      refine x_goto X (tgt := 30) dX11_isPlace_26 (by decide) ?_
      refine x_sub X [] (lv' := []) rfl ?_
      exact bX11_isPlace_30 X h
theorem dX11_spot_0 : decode cX11_spot 0 = .ok (.bipush 10, 2) := by decide +kernel
theorem dX11_spot_2 : decode cX11_spot 2 = .ok (.iload_n 0, 1) := by decide +kernel
theorem dX11_spot_3 : decode cX11_spot 3 = .ok (.imul, 1) := by decide +kernel
theorem dX11_spot_4 : decode cX11_spot 4 = .ok (.iload_n 1, 1) := by decide +kernel
theorem dX11_spot_5 : decode cX11_spot 5 = .ok (.iadd, 1) := by decide +kernel
theorem dX11_spot_6 : decode cX11_spot 6 = .ok (.ireturn, 1) := by decide +kernel
theorem cm_X11_spot : x_CM yX11_spot cX11_spot 2 (Option.some FieldType.int) 2 := ⟨w_7_119, w_1_12, by decide +kernel, by decide +kernel⟩
set_option maxRecDepth 100000 in
set_option maxHeartbeats 4000000 in
theorem kX11_spot {ad : Nat → Nat} {a0 : Int32} {a1 : Int32} {σ : x_S} {τ : x_L} {Q : Int32 → x_S → x_L → Prop} (h : wX11_spot a0 a1 σ τ Q) : x_Met yX11_spot cX11_spot 2 (Option.some FieldType.int) 0 ad dsM [.int a0, .int a1] σ τ (x_PI Q) := by
  refine x_met (by decide +kernel) (Nat.le_of_ble_eq_true rfl) (fun V X => ?_)
  have X : x_Is V cX11_spot 2 RX11 (Option.some FieldType.int) ad dsM 0 (x_PI Q) := X
  show V σ τ 0 [(0, .int a0), (1, .int a1)] []
  refine x_bipush X dX11_spot_0 kb_10 ?_
  refine x_iload_n X dX11_spot_2 rfl 0 rfl ?_
  refine x_imul X dX11_spot_3 ?_
  refine x_iload_n X dX11_spot_4 rfl 1 rfl ?_
  refine x_iadd X dX11_spot_5 ?_
  exact x_iret X dX11_spot_6 ⟨_, rfl, h⟩
theorem dX11_waitAt_0 : decode cX11_waitAt 0 = .ok (.aload_n 0, 1) := by decide +kernel
theorem dX11_waitAt_1 : decode cX11_waitAt 1 = .ok (.getfield 9, 3) := by decide +kernel
theorem dX11_waitAt_4 : decode cX11_waitAt 4 = .ok (.bipush 12, 2) := by decide +kernel
theorem dX11_waitAt_6 : decode cX11_waitAt 6 = .ok (.iload_n 1, 1) := by decide +kernel
theorem dX11_waitAt_7 : decode cX11_waitAt 7 = .ok (.iload_n 2, 1) := by decide +kernel
theorem dX11_waitAt_8 : decode cX11_waitAt 8 = .ok (.invokestatic 111, 3) := by decide +kernel
theorem dX11_waitAt_11 : decode cX11_waitAt 11 = .ok (.iadd, 1) := by decide +kernel
theorem dX11_waitAt_12 : decode cX11_waitAt 12 = .ok (.iaload, 1) := by decide +kernel
theorem dX11_waitAt_13 : decode cX11_waitAt 13 = .ok (.ireturn, 1) := by decide +kernel
theorem cm_X11_waitAt : x_CM yX11_waitAt cX11_waitAt 3 (Option.some FieldType.int) 2 := ⟨w_7_123, w_1_12, by decide +kernel, by decide +kernel⟩
theorem ci_X11_waitAt : x_CI yX11_waitAt 13 := ⟨w_7_122, wp_46, (RX11, TX11, 41), rfl, rfl⟩
set_option maxRecDepth 100000 in
set_option maxHeartbeats 4000000 in
theorem kX11_waitAt {ad : Nat → Nat} {a1 : Int32} {a2 : Int32} {σ : x_S} {τ : x_L} {Q : Int32 → x_S → x_L → Prop} (h : wX11_waitAt a1 a2 σ τ Q) : x_Met yX11_waitAt cX11_waitAt 3 (Option.some FieldType.int) 1 ad dsM [.ref (ad 0), .int a1, .int a2] σ τ (x_PI Q) := by
  refine x_met (by decide +kernel) (Nat.le_of_ble_eq_true rfl) (fun V X => ?_)
  have X : x_Is V cX11_waitAt 3 RX11 (Option.some FieldType.int) ad dsM 1 (x_PI Q) := X
  show V σ τ 0 [(0, .ref (ad 0)), (1, .int a1), (2, .int a2)] []
  refine x_aload_n X dX11_waitAt_0 rfl 0 rfl ?_
  refine x_getR X (j := 1) dX11_waitAt_1 fl_11_9 dsM_0 rfl ?_
  refine x_bipush X dX11_waitAt_4 kb_12 ?_
  refine x_iload_n X dX11_waitAt_6 rfl 1 rfl ?_
  refine x_iload_n X dX11_waitAt_7 rfl 2 rfl ?_
  refine x_callSi X [.int a1, .int a2] [.int 12, .ref (ad 1)] dX11_waitAt_8 (kX11_spot h) cm_X11_spot w_7_118 rfl w_7_117 ⟨by decide, by decide⟩ rfl (Nat.le_of_ble_eq_true rfl) (fun r8 σ8 τ8 h => ?_)
  refine x_iadd X dX11_waitAt_11 ?_
  have g12 := h.1
  have h := h.2
  refine x_iald X dX11_waitAt_12 dsM_1 g12 ?_
  exact x_iret X dX11_waitAt_13 ⟨_, rfl, h⟩
theorem dX11_speedAt_0 : decode cX11_speedAt 0 = .ok (.aload_n 0, 1) := by decide +kernel
theorem dX11_speedAt_1 : decode cX11_speedAt 1 = .ok (.getfield 9, 3) := by decide +kernel
theorem dX11_speedAt_4 : decode cX11_speedAt 4 = .ok (.sipush 132, 3) := by decide +kernel
theorem dX11_speedAt_7 : decode cX11_speedAt 7 = .ok (.iload_n 1, 1) := by decide +kernel
theorem dX11_speedAt_8 : decode cX11_speedAt 8 = .ok (.iload_n 2, 1) := by decide +kernel
theorem dX11_speedAt_9 : decode cX11_speedAt 9 = .ok (.invokestatic 111, 3) := by decide +kernel
theorem dX11_speedAt_12 : decode cX11_speedAt 12 = .ok (.iadd, 1) := by decide +kernel
theorem dX11_speedAt_13 : decode cX11_speedAt 13 = .ok (.iaload, 1) := by decide +kernel
theorem dX11_speedAt_14 : decode cX11_speedAt 14 = .ok (.ireturn, 1) := by decide +kernel
theorem cm_X11_speedAt : x_CM yX11_speedAt cX11_speedAt 3 (Option.some FieldType.int) 2 := ⟨w_7_131, w_1_12, by decide +kernel, by decide +kernel⟩
theorem ci_X11_speedAt : x_CI yX11_speedAt 13 := ⟨w_7_130, wp_48, (RX11, TX11, 41), rfl, rfl⟩
set_option maxRecDepth 100000 in
set_option maxHeartbeats 4000000 in
theorem kX11_speedAt {ad : Nat → Nat} {a1 : Int32} {a2 : Int32} {σ : x_S} {τ : x_L} {Q : Int32 → x_S → x_L → Prop} (h : wX11_speedAt a1 a2 σ τ Q) : x_Met yX11_speedAt cX11_speedAt 3 (Option.some FieldType.int) 1 ad dsM [.ref (ad 0), .int a1, .int a2] σ τ (x_PI Q) := by
  refine x_met (by decide +kernel) (Nat.le_of_ble_eq_true rfl) (fun V X => ?_)
  have X : x_Is V cX11_speedAt 3 RX11 (Option.some FieldType.int) ad dsM 1 (x_PI Q) := X
  show V σ τ 0 [(0, .ref (ad 0)), (1, .int a1), (2, .int a2)] []
  refine x_aload_n X dX11_speedAt_0 rfl 0 rfl ?_
  refine x_getR X (j := 1) dX11_speedAt_1 fl_11_9 dsM_0 rfl ?_
  refine x_sipush X dX11_speedAt_4 ks_132 ?_
  refine x_iload_n X dX11_speedAt_7 rfl 1 rfl ?_
  refine x_iload_n X dX11_speedAt_8 rfl 2 rfl ?_
  refine x_callSi X [.int a1, .int a2] [.int 132, .ref (ad 1)] dX11_speedAt_9 (kX11_spot h) cm_X11_spot w_7_118 rfl w_7_117 ⟨by decide, by decide⟩ rfl (Nat.le_of_ble_eq_true rfl) (fun r9 σ9 τ9 h => ?_)
  refine x_iadd X dX11_speedAt_12 ?_
  have g13 := h.1
  have h := h.2
  refine x_iald X dX11_speedAt_13 dsM_1 g13 ?_
  exact x_iret X dX11_speedAt_14 ⟨_, rfl, h⟩
theorem dX11_limitAt_0 : decode cX11_limitAt 0 = .ok (.aload_n 0, 1) := by decide +kernel
theorem dX11_limitAt_1 : decode cX11_limitAt 1 = .ok (.aload_n 0, 1) := by decide +kernel
theorem dX11_limitAt_2 : decode cX11_limitAt 2 = .ok (.iload_n 1, 1) := by decide +kernel
theorem dX11_limitAt_3 : decode cX11_limitAt 3 = .ok (.iload_n 2, 1) := by decide +kernel
theorem dX11_limitAt_4 : decode cX11_limitAt 4 = .ok (.invokevirtual 114, 3) := by decide +kernel
theorem dX11_limitAt_7 : decode cX11_limitAt 7 = .ok (.iconst 3, 1) := by decide +kernel
theorem dX11_limitAt_8 : decode cX11_limitAt 8 = .ok (.invokevirtual 117, 3) := by decide +kernel
theorem dX11_limitAt_11 : decode cX11_limitAt 11 = .ok (.ireturn, 1) := by decide +kernel
theorem cm_X11_limitAt : x_CM yX11_limitAt cX11_limitAt 3 (Option.some FieldType.int) 2 := ⟨w_8_123, w_1_12, by decide +kernel, by decide +kernel⟩
theorem ci_X11_limitAt : x_CI yX11_limitAt 13 := ⟨w_8_122, wp_90, (RX11, TX11, 41), rfl, rfl⟩
set_option maxRecDepth 100000 in
set_option maxHeartbeats 4000000 in
theorem kX11_limitAt {ad : Nat → Nat} {a1 : Int32} {a2 : Int32} {σ : x_S} {τ : x_L} {Q : Int32 → x_S → x_L → Prop} (h : wX11_limitAt a1 a2 σ τ Q) : x_Met yX11_limitAt cX11_limitAt 3 (Option.some FieldType.int) 2 ad dsM [.ref (ad 0), .int a1, .int a2] σ τ (x_PI Q) := by
  refine x_met (by decide +kernel) (Nat.le_of_ble_eq_true rfl) (fun V X => ?_)
  have X : x_Is V cX11_limitAt 3 RX11 (Option.some FieldType.int) ad dsM 2 (x_PI Q) := X
  show V σ τ 0 [(0, .ref (ad 0)), (1, .int a1), (2, .int a2)] []
  refine x_aload_n X dX11_limitAt_0 rfl 0 rfl ?_
  refine x_aload_n X dX11_limitAt_1 rfl 0 rfl ?_
  refine x_iload_n X dX11_limitAt_2 rfl 1 rfl ?_
  refine x_iload_n X dX11_limitAt_3 rfl 2 rfl ?_
  refine x_callVi X [.int a1, .int a2] [.ref (ad 0)] dX11_limitAt_4 (kX11_roadAt h) cm_X11_roadAt ci_X11_roadAt w_7_124 dsM_0 ⟨by decide, by decide⟩ rfl (Nat.le_of_ble_eq_true rfl) (fun r4 σ4 τ4 h => ?_)
  refine x_iconst X dX11_limitAt_7 ki_3 ?_
  refine x_callVi X [.int r4, .int 3] [] dX11_limitAt_8 (kX11_ofRoad h) cm_X11_ofRoad ci_X11_ofRoad w_7_136 dsM_0 ⟨by decide, by decide⟩ rfl (Nat.le_of_ble_eq_true rfl) (fun r8 σ8 τ8 h => ?_)
  exact x_iret X dX11_limitAt_11 ⟨_, rfl, h⟩
theorem dX11_nextRoad_0 : decode cX11_nextRoad 0 = .ok (.iload_n 2, 1) := by decide +kernel
theorem dX11_nextRoad_1 : decode cX11_nextRoad 1 = .ok (.iconst 1, 1) := by decide +kernel
theorem dX11_nextRoad_2 : decode cX11_nextRoad 2 = .ok (.iadd, 1) := by decide +kernel
theorem dX11_nextRoad_3 : decode cX11_nextRoad 3 = .ok (.aload_n 0, 1) := by decide +kernel
theorem dX11_nextRoad_4 : decode cX11_nextRoad 4 = .ok (.iload_n 1, 1) := by decide +kernel
theorem dX11_nextRoad_5 : decode cX11_nextRoad 5 = .ok (.invokevirtual 107, 3) := by decide +kernel
theorem dX11_nextRoad_8 : decode cX11_nextRoad 8 = .ok (.if_icmp .ge 14, 3) := by decide +kernel
theorem dX11_nextRoad_11 : decode cX11_nextRoad 11 = .ok (.aload_n 0, 1) := by decide +kernel
theorem dX11_nextRoad_12 : decode cX11_nextRoad 12 = .ok (.iload_n 1, 1) := by decide +kernel
theorem dX11_nextRoad_13 : decode cX11_nextRoad 13 = .ok (.iload_n 2, 1) := by decide +kernel
theorem dX11_nextRoad_14 : decode cX11_nextRoad 14 = .ok (.iconst 1, 1) := by decide +kernel
theorem dX11_nextRoad_15 : decode cX11_nextRoad 15 = .ok (.iadd, 1) := by decide +kernel
theorem dX11_nextRoad_16 : decode cX11_nextRoad 16 = .ok (.invokevirtual 114, 3) := by decide +kernel
theorem dX11_nextRoad_19 : decode cX11_nextRoad 19 = .ok (.goto 4, 3) := by decide +kernel
theorem dX11_nextRoad_22 : decode cX11_nextRoad 22 = .ok (.iconst (-1), 1) := by decide +kernel
theorem dX11_nextRoad_23 : decode cX11_nextRoad 23 = .ok (.ireturn, 1) := by decide +kernel
theorem cm_X11_nextRoad : x_CM yX11_nextRoad cX11_nextRoad 3 (Option.some FieldType.int) 2 := ⟨w_7_206, w_1_12, by decide +kernel, by decide +kernel⟩
theorem ci_X11_nextRoad : x_CI yX11_nextRoad 13 := ⟨w_7_205, wp_66, (RX11, TX11, 41), rfl, rfl⟩
set_option maxRecDepth 100000 in
set_option maxHeartbeats 4000000 in
theorem bX11_nextRoad_23 {V : x_J} {ad : Nat → Nat} {Q : Int32 → x_S → x_L → Prop} (X : x_Is V cX11_nextRoad 3 RX11 (Option.some FieldType.int) ad dsM 2 (x_PI Q)) {s0 : Int32} {σ : x_S} {τ : x_L} (h : wX11_nextRoad_23 Q s0 σ τ) : V σ τ 23 [] [.int s0] := by
  exact x_iret X dX11_nextRoad_23 ⟨_, rfl, h⟩
set_option maxRecDepth 100000 in
set_option maxHeartbeats 4000000 in
theorem kX11_nextRoad {ad : Nat → Nat} {a1 : Int32} {a2 : Int32} {σ : x_S} {τ : x_L} {Q : Int32 → x_S → x_L → Prop} (h : wX11_nextRoad a1 a2 σ τ Q) : x_Met yX11_nextRoad cX11_nextRoad 3 (Option.some FieldType.int) 2 ad dsM [.ref (ad 0), .int a1, .int a2] σ τ (x_PI Q) := by
  refine x_met (by decide +kernel) (Nat.le_of_ble_eq_true rfl) (fun V X => ?_)
  have X : x_Is V cX11_nextRoad 3 RX11 (Option.some FieldType.int) ad dsM 2 (x_PI Q) := X
  show V σ τ 0 [(0, .ref (ad 0)), (1, .int a1), (2, .int a2)] []
  refine x_iload_n X dX11_nextRoad_0 rfl 2 rfl ?_
  refine x_iconst X dX11_nextRoad_1 ki_1 ?_
  refine x_iadd X dX11_nextRoad_2 ?_
  refine x_aload_n X dX11_nextRoad_3 rfl 0 rfl ?_
  refine x_iload_n X dX11_nextRoad_4 rfl 1 rfl ?_
  refine x_callVi X [.int a1] [.int (a2 + 1)] dX11_nextRoad_5 (kX11_placesOf h) cm_X11_placesOf ci_X11_placesOf w_7_109 dsM_0 ⟨by decide, by decide⟩ rfl (Nat.le_of_ble_eq_true rfl) (fun r5 σ5 τ5 h => ?_)
  refine x_icmp_ge X 22 dX11_nextRoad_8 (by decide) (fun hc => ?_) (fun hc => ?_)
  · have h := h.1 hc
    refine x_iconst X dX11_nextRoad_22 ki_m1 ?_
    refine x_sub X [] (lv' := []) rfl ?_
    exact bX11_nextRoad_23 X h
  · have h := h.2 hc
    refine x_aload_n X dX11_nextRoad_11 rfl 0 rfl ?_
    refine x_iload_n X dX11_nextRoad_12 rfl 1 rfl ?_
    refine x_iload_n X dX11_nextRoad_13 rfl 2 rfl ?_
    refine x_iconst X dX11_nextRoad_14 ki_1 ?_
    refine x_iadd X dX11_nextRoad_15 ?_
    refine x_callVi X [.int a1, .int (a2 + 1)] [] dX11_nextRoad_16 (kX11_roadAt h) cm_X11_roadAt ci_X11_roadAt w_7_124 dsM_0 ⟨by decide, by decide⟩ rfl (Nat.le_of_ble_eq_true rfl) (fun r16 σ16 τ16 h => ?_)
    refine x_goto X (tgt := 23) dX11_nextRoad_19 (by decide) ?_
    refine x_sub X [] (lv' := []) rfl ?_
    exact bX11_nextRoad_23 X h
theorem dX11_minutes_0 : decode cX11_minutes 0 = .ok (.aload_n 0, 1) := by decide +kernel
theorem dX11_minutes_1 : decode cX11_minutes 1 = .ok (.iload_n 1, 1) := by decide +kernel
theorem dX11_minutes_2 : decode cX11_minutes 2 = .ok (.iconst 2, 1) := by decide +kernel
theorem dX11_minutes_3 : decode cX11_minutes 3 = .ok (.invokevirtual 117, 3) := by decide +kernel
theorem dX11_minutes_6 : decode cX11_minutes 6 = .ok (.bipush 60, 2) := by decide +kernel
theorem dX11_minutes_8 : decode cX11_minutes 8 = .ok (.imul, 1) := by decide +kernel
theorem dX11_minutes_9 : decode cX11_minutes 9 = .ok (.iload_n 2, 1) := by decide +kernel
theorem dX11_minutes_10 : decode cX11_minutes 10 = .ok (.iadd, 1) := by decide +kernel
theorem dX11_minutes_11 : decode cX11_minutes 11 = .ok (.iconst 1, 1) := by decide +kernel
theorem dX11_minutes_12 : decode cX11_minutes 12 = .ok (.isub, 1) := by decide +kernel
theorem dX11_minutes_13 : decode cX11_minutes 13 = .ok (.iload_n 2, 1) := by decide +kernel
theorem dX11_minutes_14 : decode cX11_minutes 14 = .ok (.idiv, 1) := by decide +kernel
theorem dX11_minutes_15 : decode cX11_minutes 15 = .ok (.ireturn, 1) := by decide +kernel
theorem cm_X11_minutes : x_CM yX11_minutes cX11_minutes 3 (Option.some FieldType.int) 2 := ⟨w_7_135, w_1_12, by decide +kernel, by decide +kernel⟩
theorem ci_X11_minutes : x_CI yX11_minutes 13 := ⟨w_7_134, wp_49, (RX11, TX11, 41), rfl, rfl⟩
set_option maxRecDepth 100000 in
set_option maxHeartbeats 4000000 in
theorem kX11_minutes {ad : Nat → Nat} {a1 : Int32} {a2 : Int32} {σ : x_S} {τ : x_L} {Q : Int32 → x_S → x_L → Prop} (h : wX11_minutes a1 a2 σ τ Q) : x_Met yX11_minutes cX11_minutes 3 (Option.some FieldType.int) 1 ad dsM [.ref (ad 0), .int a1, .int a2] σ τ (x_PI Q) := by
  refine x_met (by decide +kernel) (Nat.le_of_ble_eq_true rfl) (fun V X => ?_)
  have X : x_Is V cX11_minutes 3 RX11 (Option.some FieldType.int) ad dsM 1 (x_PI Q) := X
  show V σ τ 0 [(0, .ref (ad 0)), (1, .int a1), (2, .int a2)] []
  refine x_aload_n X dX11_minutes_0 rfl 0 rfl ?_
  refine x_iload_n X dX11_minutes_1 rfl 1 rfl ?_
  refine x_iconst X dX11_minutes_2 ki_2 ?_
  refine x_callVi X [.int a1, .int 2] [] dX11_minutes_3 (kX11_ofRoad h) cm_X11_ofRoad ci_X11_ofRoad w_7_136 dsM_0 ⟨by decide, by decide⟩ rfl (Nat.le_of_ble_eq_true rfl) (fun r3 σ3 τ3 h => ?_)
  refine x_bipush X dX11_minutes_6 kb_60 ?_
  refine x_imul X dX11_minutes_8 ?_
  refine x_iload_n X dX11_minutes_9 rfl 2 rfl ?_
  refine x_iadd X dX11_minutes_10 ?_
  refine x_iconst X dX11_minutes_11 ki_1 ?_
  refine x_isub X dX11_minutes_12 ?_
  refine x_iload_n X dX11_minutes_13 rfl 2 rfl ?_
  refine x_idiv X dX11_minutes_14 h.1 ?_
  have h := h.2
  exact x_iret X dX11_minutes_15 ⟨_, rfl, h⟩
theorem dX11_baseAt_0 : decode cX11_baseAt 0 = .ok (.aload_n 0, 1) := by decide +kernel
theorem dX11_baseAt_1 : decode cX11_baseAt 1 = .ok (.iload_n 1, 1) := by decide +kernel
theorem dX11_baseAt_2 : decode cX11_baseAt 2 = .ok (.iload_n 2, 1) := by decide +kernel
theorem dX11_baseAt_3 : decode cX11_baseAt 3 = .ok (.invokevirtual 120, 3) := by decide +kernel
theorem dX11_baseAt_6 : decode cX11_baseAt 6 = .ok (.istore_n 3, 1) := by decide +kernel
theorem dX11_baseAt_7 : decode cX11_baseAt 7 = .ok (.aload_n 0, 1) := by decide +kernel
theorem dX11_baseAt_8 : decode cX11_baseAt 8 = .ok (.aload_n 0, 1) := by decide +kernel
theorem dX11_baseAt_9 : decode cX11_baseAt 9 = .ok (.iload_n 1, 1) := by decide +kernel
theorem dX11_baseAt_10 : decode cX11_baseAt 10 = .ok (.iload_n 2, 1) := by decide +kernel
theorem dX11_baseAt_11 : decode cX11_baseAt 11 = .ok (.invokevirtual 114, 3) := by decide +kernel
theorem dX11_baseAt_14 : decode cX11_baseAt 14 = .ok (.iconst 2, 1) := by decide +kernel
theorem dX11_baseAt_15 : decode cX11_baseAt 15 = .ok (.invokevirtual 117, 3) := by decide +kernel
theorem dX11_baseAt_18 : decode cX11_baseAt 18 = .ok (.sipush 150, 3) := by decide +kernel
theorem dX11_baseAt_21 : decode cX11_baseAt 21 = .ok (.iload_n 3, 1) := by decide +kernel
theorem dX11_baseAt_22 : decode cX11_baseAt 22 = .ok (.iload_n 3, 1) := by decide +kernel
theorem dX11_baseAt_23 : decode cX11_baseAt 23 = .ok (.imul, 1) := by decide +kernel
theorem dX11_baseAt_24 : decode cX11_baseAt 24 = .ok (.bipush 40, 2) := by decide +kernel
theorem dX11_baseAt_26 : decode cX11_baseAt 26 = .ok (.idiv, 1) := by decide +kernel
theorem dX11_baseAt_27 : decode cX11_baseAt 27 = .ok (.iadd, 1) := by decide +kernel
theorem dX11_baseAt_28 : decode cX11_baseAt 28 = .ok (.imul, 1) := by decide +kernel
theorem dX11_baseAt_29 : decode cX11_baseAt 29 = .ok (.ireturn, 1) := by decide +kernel
theorem cm_X11_baseAt : x_CM yX11_baseAt cX11_baseAt 4 (Option.some FieldType.int) 2 := ⟨w_7_194, w_1_12, by decide +kernel, by decide +kernel⟩
theorem ci_X11_baseAt : x_CI yX11_baseAt 13 := ⟨w_7_193, wp_63, (RX11, TX11, 41), rfl, rfl⟩
set_option maxRecDepth 100000 in
set_option maxHeartbeats 4000000 in
theorem kX11_baseAt {ad : Nat → Nat} {a1 : Int32} {a2 : Int32} {σ : x_S} {τ : x_L} {Q : Int32 → x_S → x_L → Prop} (h : wX11_baseAt a1 a2 σ τ Q) : x_Met yX11_baseAt cX11_baseAt 4 (Option.some FieldType.int) 2 ad dsM [.ref (ad 0), .int a1, .int a2] σ τ (x_PI Q) := by
  refine x_met (by decide +kernel) (Nat.le_of_ble_eq_true rfl) (fun V X => ?_)
  have X : x_Is V cX11_baseAt 4 RX11 (Option.some FieldType.int) ad dsM 2 (x_PI Q) := X
  show V σ τ 0 [(0, .ref (ad 0)), (1, .int a1), (2, .int a2)] []
  refine x_aload_n X dX11_baseAt_0 rfl 0 rfl ?_
  refine x_iload_n X dX11_baseAt_1 rfl 1 rfl ?_
  refine x_iload_n X dX11_baseAt_2 rfl 2 rfl ?_
  refine x_callVi X [.int a1, .int a2] [] dX11_baseAt_3 (kX11_speedAt h) cm_X11_speedAt ci_X11_speedAt w_7_128 dsM_0 ⟨by decide, by decide⟩ rfl (Nat.le_of_ble_eq_true rfl) (fun r3 σ3 τ3 h => ?_)
  refine x_istore_n X (lv' := [(3, .int r3), (0, .ref (ad 0)), (1, .int a1), (2, .int a2)]) dX11_baseAt_6 rfl (by decide) rfl ?_
  refine x_aload_n X dX11_baseAt_7 rfl 1 rfl ?_
  refine x_aload_n X dX11_baseAt_8 rfl 1 rfl ?_
  refine x_iload_n X dX11_baseAt_9 rfl 2 rfl ?_
  refine x_iload_n X dX11_baseAt_10 rfl 3 rfl ?_
  refine x_callVi X [.int a1, .int a2] [.ref (ad 0)] dX11_baseAt_11 (kX11_roadAt h) cm_X11_roadAt ci_X11_roadAt w_7_124 dsM_0 ⟨by decide, by decide⟩ rfl (Nat.le_of_ble_eq_true rfl) (fun r11 σ11 τ11 h => ?_)
  refine x_iconst X dX11_baseAt_14 ki_2 ?_
  refine x_callVi X [.int r11, .int 2] [] dX11_baseAt_15 (kX11_ofRoad h) cm_X11_ofRoad ci_X11_ofRoad w_7_136 dsM_0 ⟨by decide, by decide⟩ rfl (Nat.le_of_ble_eq_true rfl) (fun r15 σ15 τ15 h => ?_)
  refine x_sipush X dX11_baseAt_18 ks_150 ?_
  refine x_iload_n X dX11_baseAt_21 rfl 0 rfl ?_
  refine x_iload_n X dX11_baseAt_22 rfl 0 rfl ?_
  refine x_imul X dX11_baseAt_23 ?_
  refine x_bipush X dX11_baseAt_24 kb_40 ?_
  refine x_idiv X dX11_baseAt_26 (by decide) ?_
  refine x_iadd X dX11_baseAt_27 ?_
  refine x_imul X dX11_baseAt_28 ?_
  exact x_iret X dX11_baseAt_29 ⟨_, rfl, h⟩
theorem dX11_layTimes_0 : decode cX11_layTimes 0 = .ok (.aload_n 0, 1) := by decide +kernel
theorem dX11_layTimes_1 : decode cX11_layTimes 1 = .ok (.getfield 9, 3) := by decide +kernel
theorem dX11_layTimes_4 : decode cX11_layTimes 4 = .ok (.iload_n 1, 1) := by decide +kernel
theorem dX11_layTimes_5 : decode cX11_layTimes 5 = .ok (.iaload, 1) := by decide +kernel
theorem dX11_layTimes_6 : decode cX11_layTimes 6 = .ok (.istore_n 2, 1) := by decide +kernel
theorem dX11_layTimes_7 : decode cX11_layTimes 7 = .ok (.iconst 0, 1) := by decide +kernel
theorem dX11_layTimes_8 : decode cX11_layTimes 8 = .ok (.istore_n 3, 1) := by decide +kernel
theorem dX11_layTimes_9 : decode cX11_layTimes 9 = .ok (.iload_n 3, 1) := by decide +kernel
theorem dX11_layTimes_10 : decode cX11_layTimes 10 = .ok (.aload_n 0, 1) := by decide +kernel
theorem dX11_layTimes_11 : decode cX11_layTimes 11 = .ok (.iload_n 1, 1) := by decide +kernel
theorem dX11_layTimes_12 : decode cX11_layTimes 12 = .ok (.invokevirtual 107, 3) := by decide +kernel
theorem dX11_layTimes_15 : decode cX11_layTimes 15 = .ok (.if_icmp .ge 66, 3) := by decide +kernel
theorem dX11_layTimes_18 : decode cX11_layTimes 18 = .ok (.aload_n 0, 1) := by decide +kernel
theorem dX11_layTimes_19 : decode cX11_layTimes 19 = .ok (.getfield 20, 3) := by decide +kernel
theorem dX11_layTimes_22 : decode cX11_layTimes 22 = .ok (.iload_n 1, 1) := by decide +kernel
theorem dX11_layTimes_23 : decode cX11_layTimes 23 = .ok (.iload_n 3, 1) := by decide +kernel
theorem dX11_layTimes_24 : decode cX11_layTimes 24 = .ok (.invokestatic 111, 3) := by decide +kernel
theorem dX11_layTimes_27 : decode cX11_layTimes 27 = .ok (.iload_n 2, 1) := by decide +kernel
theorem dX11_layTimes_28 : decode cX11_layTimes 28 = .ok (.aload_n 0, 1) := by decide +kernel
theorem dX11_layTimes_29 : decode cX11_layTimes 29 = .ok (.iload_n 1, 1) := by decide +kernel
theorem dX11_layTimes_30 : decode cX11_layTimes 30 = .ok (.iload_n 3, 1) := by decide +kernel
theorem dX11_layTimes_31 : decode cX11_layTimes 31 = .ok (.invokevirtual 123, 3) := by decide +kernel
theorem dX11_layTimes_34 : decode cX11_layTimes 34 = .ok (.iadd, 1) := by decide +kernel
theorem dX11_layTimes_35 : decode cX11_layTimes 35 = .ok (.iastore, 1) := by decide +kernel
theorem dX11_layTimes_36 : decode cX11_layTimes 36 = .ok (.aload_n 0, 1) := by decide +kernel
theorem dX11_layTimes_37 : decode cX11_layTimes 37 = .ok (.getfield 20, 3) := by decide +kernel
theorem dX11_layTimes_40 : decode cX11_layTimes 40 = .ok (.iload_n 1, 1) := by decide +kernel
theorem dX11_layTimes_41 : decode cX11_layTimes 41 = .ok (.iload_n 3, 1) := by decide +kernel
theorem dX11_layTimes_42 : decode cX11_layTimes 42 = .ok (.invokestatic 111, 3) := by decide +kernel
theorem dX11_layTimes_45 : decode cX11_layTimes 45 = .ok (.iaload, 1) := by decide +kernel
theorem dX11_layTimes_46 : decode cX11_layTimes 46 = .ok (.aload_n 0, 1) := by decide +kernel
theorem dX11_layTimes_47 : decode cX11_layTimes 47 = .ok (.aload_n 0, 1) := by decide +kernel
theorem dX11_layTimes_48 : decode cX11_layTimes 48 = .ok (.iload_n 1, 1) := by decide +kernel
theorem dX11_layTimes_49 : decode cX11_layTimes 49 = .ok (.iload_n 3, 1) := by decide +kernel
theorem dX11_layTimes_50 : decode cX11_layTimes 50 = .ok (.invokevirtual 114, 3) := by decide +kernel
theorem dX11_layTimes_53 : decode cX11_layTimes 53 = .ok (.aload_n 0, 1) := by decide +kernel
theorem dX11_layTimes_54 : decode cX11_layTimes 54 = .ok (.iload_n 1, 1) := by decide +kernel
theorem dX11_layTimes_55 : decode cX11_layTimes 55 = .ok (.iload_n 3, 1) := by decide +kernel
theorem dX11_layTimes_56 : decode cX11_layTimes 56 = .ok (.invokevirtual 120, 3) := by decide +kernel
theorem dX11_layTimes_59 : decode cX11_layTimes 59 = .ok (.invokevirtual 126, 3) := by decide +kernel
theorem dX11_layTimes_62 : decode cX11_layTimes 62 = .ok (.iadd, 1) := by decide +kernel
theorem dX11_layTimes_63 : decode cX11_layTimes 63 = .ok (.istore_n 2, 1) := by decide +kernel
theorem dX11_layTimes_64 : decode cX11_layTimes 64 = .ok (.aload_n 0, 1) := by decide +kernel
theorem dX11_layTimes_65 : decode cX11_layTimes 65 = .ok (.getfield 23, 3) := by decide +kernel
theorem dX11_layTimes_68 : decode cX11_layTimes 68 = .ok (.iload_n 1, 1) := by decide +kernel
theorem dX11_layTimes_69 : decode cX11_layTimes 69 = .ok (.iload_n 3, 1) := by decide +kernel
theorem dX11_layTimes_70 : decode cX11_layTimes 70 = .ok (.invokestatic 111, 3) := by decide +kernel
theorem dX11_layTimes_73 : decode cX11_layTimes 73 = .ok (.iload_n 2, 1) := by decide +kernel
theorem dX11_layTimes_74 : decode cX11_layTimes 74 = .ok (.iastore, 1) := by decide +kernel
theorem dX11_layTimes_75 : decode cX11_layTimes 75 = .ok (.iinc 3 1, 3) := by decide +kernel
theorem dX11_layTimes_78 : decode cX11_layTimes 78 = .ok (.goto (-69), 3) := by decide +kernel
theorem dX11_layTimes_81 : decode cX11_layTimes 81 = .ok (.return_, 1) := by decide +kernel
theorem cm_X11_layTimes : x_CM yX11_layTimes cX11_layTimes 4 (Option.none : Option Jvm.ClassFile.FieldType) 1 := ⟨w_7_108, w_1_12, by decide +kernel, by decide +kernel⟩
theorem ci_X11_layTimes : x_CI yX11_layTimes 13 := ⟨w_7_107, wp_43, (RX11, TX11, 41), rfl, rfl⟩
set_option maxRecDepth 100000 in
set_option maxHeartbeats 4000000 in
theorem bX11_layTimes_9 {V : x_J} {ad : Nat → Nat} {Q : x_S → x_L → Prop} (X : x_Is V cX11_layTimes 4 RX11 (Option.none : Option Jvm.ClassFile.FieldType) ad dsM 2 (x_PV Q)) {K9 : Int32 → Int32 → Int32 → x_S → x_L → Prop} (hK9 : ∀ v1 v2 v3 σ τ, K9 v1 v2 v3 σ τ → V σ τ 9 [(0, .ref (ad 0)), (1, .int v1), (2, .int v2), (3, .int v3)] []) {v1 : Int32} {v2 : Int32} {v3 : Int32} {σ : x_S} {τ : x_L} (h : wX11_layTimes_9 Q K9 v1 v2 v3 σ τ) : V σ τ 9 [(0, .ref (ad 0)), (1, .int v1), (2, .int v2), (3, .int v3)] [] := by
  refine x_iload_n X dX11_layTimes_9 rfl 3 rfl ?_
  refine x_aload_n X dX11_layTimes_10 rfl 0 rfl ?_
  refine x_iload_n X dX11_layTimes_11 rfl 1 rfl ?_
  refine x_callVi X [.int v1] [.int v3] dX11_layTimes_12 (kX11_placesOf h) cm_X11_placesOf ci_X11_placesOf w_7_109 dsM_0 ⟨by decide, by decide⟩ rfl (Nat.le_of_ble_eq_true rfl) (fun r12 σ12 τ12 h => ?_)
  refine x_icmp_ge X 81 dX11_layTimes_15 (by decide) (fun hc => ?_) (fun hc => ?_)
  · have h := h.1 hc
    exact x_vret X dX11_layTimes_81 ⟨rfl, h⟩
  · have h := h.2 hc
    refine x_aload_n X dX11_layTimes_18 rfl 0 rfl ?_
    refine x_getR X (j := 4) dX11_layTimes_19 fl_11_20 dsM_0 rfl ?_
    refine x_iload_n X dX11_layTimes_22 rfl 1 rfl ?_
    refine x_iload_n X dX11_layTimes_23 rfl 3 rfl ?_
    refine x_callSi X [.int v1, .int v3] [.ref (ad 4)] dX11_layTimes_24 (kX11_spot h) cm_X11_spot w_7_118 rfl w_7_117 ⟨by decide, by decide⟩ rfl (Nat.le_of_ble_eq_true rfl) (fun r24 σ24 τ24 h => ?_)
    refine x_iload_n X dX11_layTimes_27 rfl 2 rfl ?_
    refine x_aload_n X dX11_layTimes_28 rfl 0 rfl ?_
    refine x_iload_n X dX11_layTimes_29 rfl 1 rfl ?_
    refine x_iload_n X dX11_layTimes_30 rfl 3 rfl ?_
    refine x_callVi X [.int v1, .int v3] [.int v2, .int r24, .ref (ad 4)] dX11_layTimes_31 (kX11_waitAt h) cm_X11_waitAt ci_X11_waitAt w_7_120 dsM_0 ⟨by decide, by decide⟩ rfl (Nat.le_of_ble_eq_true rfl) (fun r31 σ31 τ31 h => ?_)
    refine x_iadd X dX11_layTimes_34 ?_
    have g35 := h.1
    have h := h.2
    refine x_iast X dX11_layTimes_35 dsM_4 g35 ?_
    refine x_aload_n X dX11_layTimes_36 rfl 0 rfl ?_
    refine x_getR X (j := 4) dX11_layTimes_37 fl_11_20 dsM_0 rfl ?_
    refine x_iload_n X dX11_layTimes_40 rfl 1 rfl ?_
    refine x_iload_n X dX11_layTimes_41 rfl 3 rfl ?_
    refine x_callSi X [.int v1, .int v3] [.ref (ad 4)] dX11_layTimes_42 (kX11_spot h) cm_X11_spot w_7_118 rfl w_7_117 ⟨by decide, by decide⟩ rfl (Nat.le_of_ble_eq_true rfl) (fun r42 σ42 τ42 h => ?_)
    have g45 := h.1
    have h := h.2
    refine x_iald X dX11_layTimes_45 dsM_4 g45 ?_
    refine x_aload_n X dX11_layTimes_46 rfl 0 rfl ?_
    refine x_aload_n X dX11_layTimes_47 rfl 0 rfl ?_
    refine x_iload_n X dX11_layTimes_48 rfl 1 rfl ?_
    refine x_iload_n X dX11_layTimes_49 rfl 3 rfl ?_
    refine x_callVi X [.int v1, .int v3] [.ref (ad 0), .int (σ42 4 r42.toNatClampNeg)] dX11_layTimes_50 (kX11_roadAt h) cm_X11_roadAt ci_X11_roadAt w_7_124 dsM_0 ⟨by decide, by decide⟩ rfl (Nat.le_of_ble_eq_true rfl) (fun r50 σ50 τ50 h => ?_)
    refine x_aload_n X dX11_layTimes_53 rfl 0 rfl ?_
    refine x_iload_n X dX11_layTimes_54 rfl 1 rfl ?_
    refine x_iload_n X dX11_layTimes_55 rfl 3 rfl ?_
    refine x_callVi X [.int v1, .int v3] [.int r50, .ref (ad 0), .int (σ42 4 r42.toNatClampNeg)] dX11_layTimes_56 (kX11_speedAt h) cm_X11_speedAt ci_X11_speedAt w_7_128 dsM_0 ⟨by decide, by decide⟩ rfl (Nat.le_of_ble_eq_true rfl) (fun r56 σ56 τ56 h => ?_)
    refine x_callVi X [.int r50, .int r56] [.int (σ42 4 r42.toNatClampNeg)] dX11_layTimes_59 (kX11_minutes h) cm_X11_minutes ci_X11_minutes w_7_132 dsM_0 ⟨by decide, by decide⟩ rfl (Nat.le_of_ble_eq_true rfl) (fun r59 σ59 τ59 h => ?_)
    refine x_iadd X dX11_layTimes_62 ?_
    refine x_istore_n X (lv' := [(2, .int ((σ42 4 r42.toNatClampNeg) + r59)), (0, .ref (ad 0)), (1, .int v1), (3, .int v3)]) dX11_layTimes_63 rfl (by decide) rfl ?_
    refine x_aload_n X dX11_layTimes_64 rfl 1 rfl ?_
    refine x_getR X (j := 5) dX11_layTimes_65 fl_11_23 dsM_0 rfl ?_
    refine x_iload_n X dX11_layTimes_68 rfl 2 rfl ?_
    refine x_iload_n X dX11_layTimes_69 rfl 3 rfl ?_
    refine x_callSi X [.int v1, .int v3] [.ref (ad 5)] dX11_layTimes_70 (kX11_spot h) cm_X11_spot w_7_118 rfl w_7_117 ⟨by decide, by decide⟩ rfl (Nat.le_of_ble_eq_true rfl) (fun r70 σ70 τ70 h => ?_)
    refine x_iload_n X dX11_layTimes_73 rfl 0 rfl ?_
    have g74 := h.1
    have h := h.2
    refine x_iast X dX11_layTimes_74 dsM_5 g74 ?_
    refine x_iinc X (k := 3) (lv' := [(3, .int (v3 + 1)), (2, .int ((σ42 4 r42.toNatClampNeg) + r59)), (0, .ref (ad 0)), (1, .int v1)]) dX11_layTimes_75 rfl ki_1 (by decide) rfl ?_
    refine x_goto X (tgt := 9) dX11_layTimes_78 (by decide) ?_
    refine x_sub X [2, 3, 1, 0] (lv' := [(0, .ref (ad 0)), (1, .int v1), (2, .int ((σ42 4 r42.toNatClampNeg) + r59)), (3, .int (v3 + 1))]) rfl ?_
    exact hK9 _ _ _ _ _ h
set_option maxRecDepth 100000 in
set_option maxHeartbeats 4000000 in
theorem kX11_layTimes {ad : Nat → Nat} {a1 : Int32} {σ : x_S} {τ : x_L} {Q : x_S → x_L → Prop} (h : wX11_layTimes a1 σ τ Q) : x_Met yX11_layTimes cX11_layTimes 4 (Option.none : Option Jvm.ClassFile.FieldType) 2 ad dsM [.ref (ad 0), .int a1] σ τ (x_PV Q) := by
  refine x_met (by decide +kernel) (Nat.le_of_ble_eq_true rfl) (fun V X => ?_)
  have X : x_Is V cX11_layTimes 4 RX11 (Option.none : Option Jvm.ClassFile.FieldType) ad dsM 2 (x_PV Q) := X
  show V σ τ 0 [(0, .ref (ad 0)), (1, .int a1)] []
  refine x_aload_n X dX11_layTimes_0 rfl 0 rfl ?_
  refine x_getR X (j := 1) dX11_layTimes_1 fl_11_9 dsM_0 rfl ?_
  refine x_iload_n X dX11_layTimes_4 rfl 1 rfl ?_
  have g5 := h.1
  have h := h.2
  refine x_iald X dX11_layTimes_5 dsM_1 g5 ?_
  refine x_istore_n X (lv' := [(2, .int (σ 1 a1.toNatClampNeg)), (0, .ref (ad 0)), (1, .int a1)]) dX11_layTimes_6 rfl (by decide) rfl ?_
  refine x_iconst X dX11_layTimes_7 ki_0 ?_
  refine x_istore_n X (lv' := [(3, .int 0), (2, .int (σ 1 a1.toNatClampNeg)), (0, .ref (ad 0)), (1, .int a1)]) dX11_layTimes_8 rfl (by decide) rfl ?_
  refine x_sub X [2, 3, 1, 0] (lv' := [(0, .ref (ad 0)), (1, .int a1), (2, .int (σ 1 a1.toNatClampNeg)), (3, .int 0)]) rfl ?_
  exact x_l3_G (fun v1 v2 v3 σ τ => V σ τ 9 [(0, .ref (ad 0)), (1, .int v1), (2, .int v2), (3, .int v3)] []) (fun K9 hK9 v1 v2 v3 σ τ h => bX11_layTimes_9 X hK9 h) h
theorem dX11_areMates_0 : decode cX11_areMates 0 = .ok (.aload_n 0, 1) := by decide +kernel
theorem dX11_areMates_1 : decode cX11_areMates 1 = .ok (.iload_n 1, 1) := by decide +kernel
theorem dX11_areMates_2 : decode cX11_areMates 2 = .ok (.iload_n 2, 1) := by decide +kernel
theorem dX11_areMates_3 : decode cX11_areMates 3 = .ok (.invokevirtual 114, 3) := by decide +kernel
theorem dX11_areMates_6 : decode cX11_areMates 6 = .ok (.aload_n 0, 1) := by decide +kernel
theorem dX11_areMates_7 : decode cX11_areMates 7 = .ok (.iload_n 3, 1) := by decide +kernel
theorem dX11_areMates_8 : decode cX11_areMates 8 = .ok (.iload 4, 2) := by decide +kernel
theorem dX11_areMates_10 : decode cX11_areMates 10 = .ok (.invokevirtual 114, 3) := by decide +kernel
theorem dX11_areMates_13 : decode cX11_areMates 13 = .ok (.if_icmp .ne 47, 3) := by decide +kernel
theorem dX11_areMates_16 : decode cX11_areMates 16 = .ok (.aload_n 0, 1) := by decide +kernel
theorem dX11_areMates_17 : decode cX11_areMates 17 = .ok (.getfield 20, 3) := by decide +kernel
theorem dX11_areMates_20 : decode cX11_areMates 20 = .ok (.iload_n 1, 1) := by decide +kernel
theorem dX11_areMates_21 : decode cX11_areMates 21 = .ok (.iload_n 2, 1) := by decide +kernel
theorem dX11_areMates_22 : decode cX11_areMates 22 = .ok (.invokestatic 111, 3) := by decide +kernel
theorem dX11_areMates_25 : decode cX11_areMates 25 = .ok (.iaload, 1) := by decide +kernel
theorem dX11_areMates_26 : decode cX11_areMates 26 = .ok (.aload_n 0, 1) := by decide +kernel
theorem dX11_areMates_27 : decode cX11_areMates 27 = .ok (.getfield 20, 3) := by decide +kernel
theorem dX11_areMates_30 : decode cX11_areMates 30 = .ok (.iload_n 3, 1) := by decide +kernel
theorem dX11_areMates_31 : decode cX11_areMates 31 = .ok (.iload 4, 2) := by decide +kernel
theorem dX11_areMates_33 : decode cX11_areMates 33 = .ok (.invokestatic 111, 3) := by decide +kernel
theorem dX11_areMates_36 : decode cX11_areMates 36 = .ok (.iaload, 1) := by decide +kernel
theorem dX11_areMates_37 : decode cX11_areMates 37 = .ok (.if_icmp .ne 23, 3) := by decide +kernel
theorem dX11_areMates_40 : decode cX11_areMates 40 = .ok (.aload_n 0, 1) := by decide +kernel
theorem dX11_areMates_41 : decode cX11_areMates 41 = .ok (.iload_n 1, 1) := by decide +kernel
theorem dX11_areMates_42 : decode cX11_areMates 42 = .ok (.iload_n 2, 1) := by decide +kernel
theorem dX11_areMates_43 : decode cX11_areMates 43 = .ok (.invokevirtual 120, 3) := by decide +kernel
theorem dX11_areMates_46 : decode cX11_areMates 46 = .ok (.aload_n 0, 1) := by decide +kernel
theorem dX11_areMates_47 : decode cX11_areMates 47 = .ok (.iload_n 3, 1) := by decide +kernel
theorem dX11_areMates_48 : decode cX11_areMates 48 = .ok (.iload 4, 2) := by decide +kernel
theorem dX11_areMates_50 : decode cX11_areMates 50 = .ok (.invokevirtual 120, 3) := by decide +kernel
theorem dX11_areMates_53 : decode cX11_areMates 53 = .ok (.if_icmp .ne 7, 3) := by decide +kernel
theorem dX11_areMates_56 : decode cX11_areMates 56 = .ok (.iconst 1, 1) := by decide +kernel
theorem dX11_areMates_57 : decode cX11_areMates 57 = .ok (.goto 4, 3) := by decide +kernel
theorem dX11_areMates_60 : decode cX11_areMates 60 = .ok (.iconst 0, 1) := by decide +kernel
theorem dX11_areMates_61 : decode cX11_areMates 61 = .ok (.ireturn, 1) := by decide +kernel
theorem cm_X11_areMates : x_CM yX11_areMates cX11_areMates 5 (Option.some FieldType.boolean) 4 := ⟨w_7_151, w_1_12, by decide +kernel, by decide +kernel⟩
theorem ci_X11_areMates : x_CI yX11_areMates 13 := ⟨w_7_150, wp_53, (RX11, TX11, 41), rfl, rfl⟩
set_option maxRecDepth 100000 in
set_option maxHeartbeats 4000000 in
theorem bX11_areMates_61 {V : x_J} {ad : Nat → Nat} {Q : Int32 → x_S → x_L → Prop} (X : x_Is V cX11_areMates 5 RX11 (Option.some FieldType.boolean) ad dsM 2 (x_PI Q)) {s0 : Int32} {σ : x_S} {τ : x_L} (h : wX11_areMates_61 Q s0 σ τ) : V σ τ 61 [] [.int s0] := by
  exact x_zret X dX11_areMates_61 ⟨h.1, _, rfl, h.2⟩
set_option maxRecDepth 100000 in
set_option maxHeartbeats 4000000 in
theorem bX11_areMates_60 {V : x_J} {ad : Nat → Nat} {Q : Int32 → x_S → x_L → Prop} (X : x_Is V cX11_areMates 5 RX11 (Option.some FieldType.boolean) ad dsM 2 (x_PI Q)) {σ : x_S} {τ : x_L} (h : wX11_areMates_60 Q σ τ) : V σ τ 60 [] [] := by
  refine x_iconst X dX11_areMates_60 ki_0 ?_
  exact bX11_areMates_61 X h
set_option maxRecDepth 100000 in
set_option maxHeartbeats 4000000 in
theorem kX11_areMates {ad : Nat → Nat} {a1 : Int32} {a2 : Int32} {a3 : Int32} {a4 : Int32} {σ : x_S} {τ : x_L} {Q : Int32 → x_S → x_L → Prop} (h : wX11_areMates a1 a2 a3 a4 σ τ Q) : x_Met yX11_areMates cX11_areMates 5 (Option.some FieldType.boolean) 2 ad dsM [.ref (ad 0), .int a1, .int a2, .int a3, .int a4] σ τ (x_PI Q) := by
  refine x_met (by decide +kernel) (Nat.le_of_ble_eq_true rfl) (fun V X => ?_)
  have X : x_Is V cX11_areMates 5 RX11 (Option.some FieldType.boolean) ad dsM 2 (x_PI Q) := X
  show V σ τ 0 [(0, .ref (ad 0)), (1, .int a1), (2, .int a2), (3, .int a3), (4, .int a4)] []
  refine x_aload_n X dX11_areMates_0 rfl 0 rfl ?_
  refine x_iload_n X dX11_areMates_1 rfl 1 rfl ?_
  refine x_iload_n X dX11_areMates_2 rfl 2 rfl ?_
  refine x_callVi X [.int a1, .int a2] [] dX11_areMates_3 (kX11_roadAt h) cm_X11_roadAt ci_X11_roadAt w_7_124 dsM_0 ⟨by decide, by decide⟩ rfl (Nat.le_of_ble_eq_true rfl) (fun r3 σ3 τ3 h => ?_)
  refine x_aload_n X dX11_areMates_6 rfl 0 rfl ?_
  refine x_iload_n X dX11_areMates_7 rfl 3 rfl ?_
  refine x_iload X dX11_areMates_8 4 rfl ?_
  refine x_callVi X [.int a3, .int a4] [.int r3] dX11_areMates_10 (kX11_roadAt h) cm_X11_roadAt ci_X11_roadAt w_7_124 dsM_0 ⟨by decide, by decide⟩ rfl (Nat.le_of_ble_eq_true rfl) (fun r10 σ10 τ10 h => ?_)
  refine x_icmp_ne X 60 dX11_areMates_13 (by decide) (fun hc => ?_) (fun hc => ?_)
  · have h := h.1 hc
    refine x_sub X [] (lv' := []) rfl ?_
    exact bX11_areMates_60 X h
  · have h := h.2 hc
    refine x_aload_n X dX11_areMates_16 rfl 0 rfl ?_
    refine x_getR X (j := 4) dX11_areMates_17 fl_11_20 dsM_0 rfl ?_
    refine x_iload_n X dX11_areMates_20 rfl 1 rfl ?_
    refine x_iload_n X dX11_areMates_21 rfl 2 rfl ?_
    refine x_callSi X [.int a1, .int a2] [.ref (ad 4)] dX11_areMates_22 (kX11_spot h) cm_X11_spot w_7_118 rfl w_7_117 ⟨by decide, by decide⟩ rfl (Nat.le_of_ble_eq_true rfl) (fun r22 σ22 τ22 h => ?_)
    have g25 := h.1
    have h := h.2
    refine x_iald X dX11_areMates_25 dsM_4 g25 ?_
    refine x_aload_n X dX11_areMates_26 rfl 0 rfl ?_
    refine x_getR X (j := 4) dX11_areMates_27 fl_11_20 dsM_0 rfl ?_
    refine x_iload_n X dX11_areMates_30 rfl 3 rfl ?_
    refine x_iload X dX11_areMates_31 4 rfl ?_
    refine x_callSi X [.int a3, .int a4] [.ref (ad 4), .int (σ22 4 r22.toNatClampNeg)] dX11_areMates_33 (kX11_spot h) cm_X11_spot w_7_118 rfl w_7_117 ⟨by decide, by decide⟩ rfl (Nat.le_of_ble_eq_true rfl) (fun r33 σ33 τ33 h => ?_)
    have g36 := h.1
    have h := h.2
    refine x_iald X dX11_areMates_36 dsM_4 g36 ?_
    refine x_icmp_ne X 60 dX11_areMates_37 (by decide) (fun hc => ?_) (fun hc => ?_)
    · have h := h.1 hc
      refine x_sub X [] (lv' := []) rfl ?_
      exact bX11_areMates_60 X h
    · have h := h.2 hc
      refine x_aload_n X dX11_areMates_40 rfl 0 rfl ?_
      refine x_iload_n X dX11_areMates_41 rfl 1 rfl ?_
      refine x_iload_n X dX11_areMates_42 rfl 2 rfl ?_
      refine x_callVi X [.int a1, .int a2] [] dX11_areMates_43 (kX11_speedAt h) cm_X11_speedAt ci_X11_speedAt w_7_128 dsM_0 ⟨by decide, by decide⟩ rfl (Nat.le_of_ble_eq_true rfl) (fun r43 σ43 τ43 h => ?_)
      refine x_aload_n X dX11_areMates_46 rfl 0 rfl ?_
      refine x_iload_n X dX11_areMates_47 rfl 3 rfl ?_
      refine x_iload X dX11_areMates_48 4 rfl ?_
      refine x_callVi X [.int a3, .int a4] [.int r43] dX11_areMates_50 (kX11_speedAt h) cm_X11_speedAt ci_X11_speedAt w_7_128 dsM_0 ⟨by decide, by decide⟩ rfl (Nat.le_of_ble_eq_true rfl) (fun r50 σ50 τ50 h => ?_)
      refine x_icmp_ne X 60 dX11_areMates_53 (by decide) (fun hc => ?_) (fun hc => ?_)
      · have h := h.1 hc
        refine x_sub X [] (lv' := []) rfl ?_
        exact bX11_areMates_60 X h
      · have h := h.2 hc
        refine x_iconst X dX11_areMates_56 ki_1 ?_
        refine x_goto X (tgt := 61) dX11_areMates_57 (by decide) ?_
        refine x_sub X [] (lv' := []) rfl ?_
        exact bX11_areMates_61 X h
theorem dX11_mateOf_0 : decode cX11_mateOf 0 = .ok (.aload_n 0, 1) := by decide +kernel
theorem dX11_mateOf_1 : decode cX11_mateOf 1 = .ok (.getfield 26, 3) := by decide +kernel
theorem dX11_mateOf_4 : decode cX11_mateOf 4 = .ok (.bipush 12, 2) := by decide +kernel
theorem dX11_mateOf_6 : decode cX11_mateOf 6 = .ok (.iload_n 1, 1) := by decide +kernel
theorem dX11_mateOf_7 : decode cX11_mateOf 7 = .ok (.iload_n 2, 1) := by decide +kernel
theorem dX11_mateOf_8 : decode cX11_mateOf 8 = .ok (.invokestatic 111, 3) := by decide +kernel
theorem dX11_mateOf_11 : decode cX11_mateOf 11 = .ok (.imul, 1) := by decide +kernel
theorem dX11_mateOf_12 : decode cX11_mateOf 12 = .ok (.iload_n 3, 1) := by decide +kernel
theorem dX11_mateOf_13 : decode cX11_mateOf 13 = .ok (.iadd, 1) := by decide +kernel
theorem dX11_mateOf_14 : decode cX11_mateOf 14 = .ok (.iaload, 1) := by decide +kernel
theorem dX11_mateOf_15 : decode cX11_mateOf 15 = .ok (.ireturn, 1) := by decide +kernel
theorem cm_X11_mateOf : x_CM yX11_mateOf cX11_mateOf 4 (Option.some FieldType.int) 3 := ⟨w_7_159, w_1_12, by decide +kernel, by decide +kernel⟩
theorem ci_X11_mateOf : x_CI yX11_mateOf 13 := ⟨w_7_158, wp_55, (RX11, TX11, 41), rfl, rfl⟩
set_option maxRecDepth 100000 in
set_option maxHeartbeats 4000000 in
theorem kX11_mateOf {ad : Nat → Nat} {a1 : Int32} {a2 : Int32} {a3 : Int32} {σ : x_S} {τ : x_L} {Q : Int32 → x_S → x_L → Prop} (h : wX11_mateOf a1 a2 a3 σ τ Q) : x_Met yX11_mateOf cX11_mateOf 4 (Option.some FieldType.int) 1 ad dsM [.ref (ad 0), .int a1, .int a2, .int a3] σ τ (x_PI Q) := by
  refine x_met (by decide +kernel) (Nat.le_of_ble_eq_true rfl) (fun V X => ?_)
  have X : x_Is V cX11_mateOf 4 RX11 (Option.some FieldType.int) ad dsM 1 (x_PI Q) := X
  show V σ τ 0 [(0, .ref (ad 0)), (1, .int a1), (2, .int a2), (3, .int a3)] []
  refine x_aload_n X dX11_mateOf_0 rfl 0 rfl ?_
  refine x_getR X (j := 6) dX11_mateOf_1 fl_11_26 dsM_0 rfl ?_
  refine x_bipush X dX11_mateOf_4 kb_12 ?_
  refine x_iload_n X dX11_mateOf_6 rfl 1 rfl ?_
  refine x_iload_n X dX11_mateOf_7 rfl 2 rfl ?_
  refine x_callSi X [.int a1, .int a2] [.int 12, .ref (ad 6)] dX11_mateOf_8 (kX11_spot h) cm_X11_spot w_7_118 rfl w_7_117 ⟨by decide, by decide⟩ rfl (Nat.le_of_ble_eq_true rfl) (fun r8 σ8 τ8 h => ?_)
  refine x_imul X dX11_mateOf_11 ?_
  refine x_iload_n X dX11_mateOf_12 rfl 3 rfl ?_
  refine x_iadd X dX11_mateOf_13 ?_
  have g14 := h.1
  have h := h.2
  refine x_iald X dX11_mateOf_14 dsM_6 g14 ?_
  exact x_iret X dX11_mateOf_15 ⟨_, rfl, h⟩
theorem dX11_setMate_0 : decode cX11_setMate 0 = .ok (.aload_n 0, 1) := by decide +kernel
theorem dX11_setMate_1 : decode cX11_setMate 1 = .ok (.getfield 26, 3) := by decide +kernel
theorem dX11_setMate_4 : decode cX11_setMate 4 = .ok (.bipush 12, 2) := by decide +kernel
theorem dX11_setMate_6 : decode cX11_setMate 6 = .ok (.iload_n 1, 1) := by decide +kernel
theorem dX11_setMate_7 : decode cX11_setMate 7 = .ok (.iload_n 2, 1) := by decide +kernel
theorem dX11_setMate_8 : decode cX11_setMate 8 = .ok (.invokestatic 111, 3) := by decide +kernel
theorem dX11_setMate_11 : decode cX11_setMate 11 = .ok (.imul, 1) := by decide +kernel
theorem dX11_setMate_12 : decode cX11_setMate 12 = .ok (.iload_n 3, 1) := by decide +kernel
theorem dX11_setMate_13 : decode cX11_setMate 13 = .ok (.iadd, 1) := by decide +kernel
theorem dX11_setMate_14 : decode cX11_setMate 14 = .ok (.iload 4, 2) := by decide +kernel
theorem dX11_setMate_16 : decode cX11_setMate 16 = .ok (.iastore, 1) := by decide +kernel
theorem dX11_setMate_17 : decode cX11_setMate 17 = .ok (.return_, 1) := by decide +kernel
theorem cm_X11_setMate : x_CM yX11_setMate cX11_setMate 5 (Option.none : Option Jvm.ClassFile.FieldType) 4 := ⟨w_7_147, w_1_12, by decide +kernel, by decide +kernel⟩
theorem ci_X11_setMate : x_CI yX11_setMate 13 := ⟨w_7_146, wp_52, (RX11, TX11, 41), rfl, rfl⟩
set_option maxRecDepth 100000 in
set_option maxHeartbeats 4000000 in
theorem kX11_setMate {ad : Nat → Nat} {a1 : Int32} {a2 : Int32} {a3 : Int32} {a4 : Int32} {σ : x_S} {τ : x_L} {Q : x_S → x_L → Prop} (h : wX11_setMate a1 a2 a3 a4 σ τ Q) : x_Met yX11_setMate cX11_setMate 5 (Option.none : Option Jvm.ClassFile.FieldType) 1 ad dsM [.ref (ad 0), .int a1, .int a2, .int a3, .int a4] σ τ (x_PV Q) := by
  refine x_met (by decide +kernel) (Nat.le_of_ble_eq_true rfl) (fun V X => ?_)
  have X : x_Is V cX11_setMate 5 RX11 (Option.none : Option Jvm.ClassFile.FieldType) ad dsM 1 (x_PV Q) := X
  show V σ τ 0 [(0, .ref (ad 0)), (1, .int a1), (2, .int a2), (3, .int a3), (4, .int a4)] []
  refine x_aload_n X dX11_setMate_0 rfl 0 rfl ?_
  refine x_getR X (j := 6) dX11_setMate_1 fl_11_26 dsM_0 rfl ?_
  refine x_bipush X dX11_setMate_4 kb_12 ?_
  refine x_iload_n X dX11_setMate_6 rfl 1 rfl ?_
  refine x_iload_n X dX11_setMate_7 rfl 2 rfl ?_
  refine x_callSi X [.int a1, .int a2] [.int 12, .ref (ad 6)] dX11_setMate_8 (kX11_spot h) cm_X11_spot w_7_118 rfl w_7_117 ⟨by decide, by decide⟩ rfl (Nat.le_of_ble_eq_true rfl) (fun r8 σ8 τ8 h => ?_)
  refine x_imul X dX11_setMate_11 ?_
  refine x_iload_n X dX11_setMate_12 rfl 3 rfl ?_
  refine x_iadd X dX11_setMate_13 ?_
  refine x_iload X dX11_setMate_14 4 rfl ?_
  have g16 := h.1
  have h := h.2
  refine x_iast X dX11_setMate_16 dsM_6 g16 ?_
  exact x_vret X dX11_setMate_17 ⟨rfl, h⟩
theorem dX11_layMates_0 : decode cX11_layMates 0 = .ok (.iconst 0, 1) := by decide +kernel
theorem dX11_layMates_1 : decode cX11_layMates 1 = .ok (.istore_n 1, 1) := by decide +kernel
theorem dX11_layMates_2 : decode cX11_layMates 2 = .ok (.iload_n 1, 1) := by decide +kernel
theorem dX11_layMates_3 : decode cX11_layMates 3 = .ok (.sipush 1440, 3) := by decide +kernel
theorem dX11_layMates_6 : decode cX11_layMates 6 = .ok (.if_icmp .ge 16, 3) := by decide +kernel
theorem dX11_layMates_9 : decode cX11_layMates 9 = .ok (.aload_n 0, 1) := by decide +kernel
theorem dX11_layMates_10 : decode cX11_layMates 10 = .ok (.getfield 26, 3) := by decide +kernel
theorem dX11_layMates_13 : decode cX11_layMates 13 = .ok (.iload_n 1, 1) := by decide +kernel
theorem dX11_layMates_14 : decode cX11_layMates 14 = .ok (.iconst (-1), 1) := by decide +kernel
theorem dX11_layMates_15 : decode cX11_layMates 15 = .ok (.iastore, 1) := by decide +kernel
theorem dX11_layMates_16 : decode cX11_layMates 16 = .ok (.iinc 1 1, 3) := by decide +kernel
theorem dX11_layMates_19 : decode cX11_layMates 19 = .ok (.goto (-17), 3) := by decide +kernel
theorem dX11_layMates_22 : decode cX11_layMates 22 = .ok (.iconst 0, 1) := by decide +kernel
theorem dX11_layMates_23 : decode cX11_layMates 23 = .ok (.istore_n 1, 1) := by decide +kernel
theorem dX11_layMates_24 : decode cX11_layMates 24 = .ok (.iload_n 1, 1) := by decide +kernel
theorem dX11_layMates_25 : decode cX11_layMates 25 = .ok (.aload_n 0, 1) := by decide +kernel
theorem dX11_layMates_26 : decode cX11_layMates 26 = .ok (.getfield 17, 3) := by decide +kernel
theorem dX11_layMates_29 : decode cX11_layMates 29 = .ok (.iconst 1, 1) := by decide +kernel
theorem dX11_layMates_30 : decode cX11_layMates 30 = .ok (.iaload, 1) := by decide +kernel
theorem dX11_layMates_31 : decode cX11_layMates 31 = .ok (.if_icmp .ge 106, 3) := by decide +kernel
theorem dX11_layMates_34 : decode cX11_layMates 34 = .ok (.iconst 0, 1) := by decide +kernel
theorem dX11_layMates_35 : decode cX11_layMates 35 = .ok (.istore_n 2, 1) := by decide +kernel
theorem dX11_layMates_36 : decode cX11_layMates 36 = .ok (.iload_n 2, 1) := by decide +kernel
theorem dX11_layMates_37 : decode cX11_layMates 37 = .ok (.aload_n 0, 1) := by decide +kernel
theorem dX11_layMates_38 : decode cX11_layMates 38 = .ok (.iload_n 1, 1) := by decide +kernel
theorem dX11_layMates_39 : decode cX11_layMates 39 = .ok (.invokevirtual 107, 3) := by decide +kernel
theorem dX11_layMates_42 : decode cX11_layMates 42 = .ok (.if_icmp .ge 89, 3) := by decide +kernel
theorem dX11_layMates_45 : decode cX11_layMates 45 = .ok (.aload_n 0, 1) := by decide +kernel
theorem dX11_layMates_46 : decode cX11_layMates 46 = .ok (.iload_n 1, 1) := by decide +kernel
theorem dX11_layMates_47 : decode cX11_layMates 47 = .ok (.iload_n 2, 1) := by decide +kernel
theorem dX11_layMates_48 : decode cX11_layMates 48 = .ok (.iload_n 1, 1) := by decide +kernel
theorem dX11_layMates_49 : decode cX11_layMates 49 = .ok (.iload_n 2, 1) := by decide +kernel
theorem dX11_layMates_50 : decode cX11_layMates 50 = .ok (.invokevirtual 129, 3) := by decide +kernel
theorem dX11_layMates_53 : decode cX11_layMates 53 = .ok (.iload_n 1, 1) := by decide +kernel
theorem dX11_layMates_54 : decode cX11_layMates 54 = .ok (.iconst 1, 1) := by decide +kernel
theorem dX11_layMates_55 : decode cX11_layMates 55 = .ok (.iadd, 1) := by decide +kernel
theorem dX11_layMates_56 : decode cX11_layMates 56 = .ok (.istore_n 3, 1) := by decide +kernel
theorem dX11_layMates_57 : decode cX11_layMates 57 = .ok (.iload_n 3, 1) := by decide +kernel
theorem dX11_layMates_58 : decode cX11_layMates 58 = .ok (.aload_n 0, 1) := by decide +kernel
theorem dX11_layMates_59 : decode cX11_layMates 59 = .ok (.getfield 17, 3) := by decide +kernel
theorem dX11_layMates_62 : decode cX11_layMates 62 = .ok (.iconst 1, 1) := by decide +kernel
theorem dX11_layMates_63 : decode cX11_layMates 63 = .ok (.iaload, 1) := by decide +kernel
theorem dX11_layMates_64 : decode cX11_layMates 64 = .ok (.if_icmp .ge 61, 3) := by decide +kernel
theorem dX11_layMates_67 : decode cX11_layMates 67 = .ok (.iconst 0, 1) := by decide +kernel
theorem dX11_layMates_68 : decode cX11_layMates 68 = .ok (.istore 4, 2) := by decide +kernel
theorem dX11_layMates_70 : decode cX11_layMates 70 = .ok (.iload 4, 2) := by decide +kernel
theorem dX11_layMates_72 : decode cX11_layMates 72 = .ok (.aload_n 0, 1) := by decide +kernel
theorem dX11_layMates_73 : decode cX11_layMates 73 = .ok (.iload_n 3, 1) := by decide +kernel
theorem dX11_layMates_74 : decode cX11_layMates 74 = .ok (.invokevirtual 107, 3) := by decide +kernel
theorem dX11_layMates_77 : decode cX11_layMates 77 = .ok (.if_icmp .ge 42, 3) := by decide +kernel
theorem dX11_layMates_80 : decode cX11_layMates 80 = .ok (.aload_n 0, 1) := by decide +kernel
theorem dX11_layMates_81 : decode cX11_layMates 81 = .ok (.iload_n 1, 1) := by decide +kernel
theorem dX11_layMates_82 : decode cX11_layMates 82 = .ok (.iload_n 2, 1) := by decide +kernel
theorem dX11_layMates_83 : decode cX11_layMates 83 = .ok (.iload_n 3, 1) := by decide +kernel
theorem dX11_layMates_84 : decode cX11_layMates 84 = .ok (.iload 4, 2) := by decide +kernel
theorem dX11_layMates_86 : decode cX11_layMates 86 = .ok (.invokevirtual 133, 3) := by decide +kernel
theorem dX11_layMates_89 : decode cX11_layMates 89 = .ok (.ifCond .ne 6, 3) := by decide +kernel
theorem dX11_layMates_92 : decode cX11_layMates 92 = .ok (.goto 21, 3) := by decide +kernel
theorem dX11_layMates_95 : decode cX11_layMates 95 = .ok (.aload_n 0, 1) := by decide +kernel
theorem dX11_layMates_96 : decode cX11_layMates 96 = .ok (.iload_n 1, 1) := by decide +kernel
theorem dX11_layMates_97 : decode cX11_layMates 97 = .ok (.iload_n 2, 1) := by decide +kernel
theorem dX11_layMates_98 : decode cX11_layMates 98 = .ok (.iload_n 3, 1) := by decide +kernel
theorem dX11_layMates_99 : decode cX11_layMates 99 = .ok (.iload 4, 2) := by decide +kernel
theorem dX11_layMates_101 : decode cX11_layMates 101 = .ok (.invokevirtual 129, 3) := by decide +kernel
theorem dX11_layMates_104 : decode cX11_layMates 104 = .ok (.aload_n 0, 1) := by decide +kernel
theorem dX11_layMates_105 : decode cX11_layMates 105 = .ok (.iload_n 3, 1) := by decide +kernel
theorem dX11_layMates_106 : decode cX11_layMates 106 = .ok (.iload 4, 2) := by decide +kernel
theorem dX11_layMates_108 : decode cX11_layMates 108 = .ok (.iload_n 1, 1) := by decide +kernel
theorem dX11_layMates_109 : decode cX11_layMates 109 = .ok (.iload_n 2, 1) := by decide +kernel
theorem dX11_layMates_110 : decode cX11_layMates 110 = .ok (.invokevirtual 129, 3) := by decide +kernel
theorem dX11_layMates_113 : decode cX11_layMates 113 = .ok (.iinc 4 1, 3) := by decide +kernel
theorem dX11_layMates_116 : decode cX11_layMates 116 = .ok (.goto (-46), 3) := by decide +kernel
theorem dX11_layMates_119 : decode cX11_layMates 119 = .ok (.iinc 3 1, 3) := by decide +kernel
theorem dX11_layMates_122 : decode cX11_layMates 122 = .ok (.goto (-65), 3) := by decide +kernel
theorem dX11_layMates_125 : decode cX11_layMates 125 = .ok (.iinc 2 1, 3) := by decide +kernel
theorem dX11_layMates_128 : decode cX11_layMates 128 = .ok (.goto (-92), 3) := by decide +kernel
theorem dX11_layMates_131 : decode cX11_layMates 131 = .ok (.iinc 1 1, 3) := by decide +kernel
theorem dX11_layMates_134 : decode cX11_layMates 134 = .ok (.goto (-110), 3) := by decide +kernel
theorem dX11_layMates_137 : decode cX11_layMates 137 = .ok (.return_, 1) := by decide +kernel
theorem cm_X11_layMates : x_CM yX11_layMates cX11_layMates 5 (Option.none : Option Jvm.ClassFile.FieldType) 0 := ⟨w_7_143, w_1_12, by decide +kernel, by decide +kernel⟩
theorem ci_X11_layMates : x_CI yX11_layMates 13 := ⟨w_7_142, wp_51, (RX11, TX11, 41), rfl, rfl⟩
set_option maxRecDepth 100000 in
set_option maxHeartbeats 4000000 in
theorem bX11_layMates_113 {V : x_J} {ad : Nat → Nat} {Q : x_S → x_L → Prop} (X : x_Is V cX11_layMates 5 RX11 (Option.none : Option Jvm.ClassFile.FieldType) ad dsM 3 (x_PV Q)) {K24 : Int32 → x_S → x_L → Prop} {K36 : Int32 → Int32 → x_S → x_L → Prop} {K57 : Int32 → Int32 → Int32 → x_S → x_L → Prop} {K70 : Int32 → Int32 → Int32 → Int32 → x_S → x_L → Prop} (hK24 : ∀ v1 σ τ, K24 v1 σ τ → V σ τ 24 [(0, .ref (ad 0)), (1, .int v1)] []) (hK36 : ∀ v1 v2 σ τ, K36 v1 v2 σ τ → V σ τ 36 [(0, .ref (ad 0)), (1, .int v1), (2, .int v2)] []) (hK57 : ∀ v1 v2 v3 σ τ, K57 v1 v2 v3 σ τ → V σ τ 57 [(0, .ref (ad 0)), (1, .int v1), (2, .int v2), (3, .int v3)] []) (hK70 : ∀ v1 v2 v3 v4 σ τ, K70 v1 v2 v3 v4 σ τ → V σ τ 70 [(0, .ref (ad 0)), (1, .int v1), (2, .int v2), (3, .int v3), (4, .int v4)] []) {v1 : Int32} {v2 : Int32} {v3 : Int32} {v4 : Int32} {σ : x_S} {τ : x_L} (h : wX11_layMates_113 K24 K36 K57 K70 Q v1 v2 v3 v4 σ τ) : V σ τ 113 [(0, .ref (ad 0)), (1, .int v1), (2, .int v2), (3, .int v3), (4, .int v4)] [] := by
  refine x_iinc X (k := 4) (lv' := [(4, .int (v4 + 1)), (0, .ref (ad 0)), (1, .int v1), (2, .int v2), (3, .int v3)]) dX11_layMates_113 rfl ki_1 (by decide) rfl ?_
  refine x_goto X (tgt := 70) dX11_layMates_116 (by decide) ?_
  refine x_sub X [1, 2, 3, 4, 0] (lv' := [(0, .ref (ad 0)), (1, .int v1), (2, .int v2), (3, .int v3), (4, .int (v4 + 1))]) rfl ?_
  exact hK70 _ _ _ _ _ _ h
set_option maxRecDepth 100000 in
set_option maxHeartbeats 4000000 in
theorem bX11_layMates_70 {V : x_J} {ad : Nat → Nat} {Q : x_S → x_L → Prop} (X : x_Is V cX11_layMates 5 RX11 (Option.none : Option Jvm.ClassFile.FieldType) ad dsM 3 (x_PV Q)) {K24 : Int32 → x_S → x_L → Prop} {K36 : Int32 → Int32 → x_S → x_L → Prop} {K57 : Int32 → Int32 → Int32 → x_S → x_L → Prop} {K70 : Int32 → Int32 → Int32 → Int32 → x_S → x_L → Prop} (hK24 : ∀ v1 σ τ, K24 v1 σ τ → V σ τ 24 [(0, .ref (ad 0)), (1, .int v1)] []) (hK36 : ∀ v1 v2 σ τ, K36 v1 v2 σ τ → V σ τ 36 [(0, .ref (ad 0)), (1, .int v1), (2, .int v2)] []) (hK57 : ∀ v1 v2 v3 σ τ, K57 v1 v2 v3 σ τ → V σ τ 57 [(0, .ref (ad 0)), (1, .int v1), (2, .int v2), (3, .int v3)] []) (hK70 : ∀ v1 v2 v3 v4 σ τ, K70 v1 v2 v3 v4 σ τ → V σ τ 70 [(0, .ref (ad 0)), (1, .int v1), (2, .int v2), (3, .int v3), (4, .int v4)] []) {v1 : Int32} {v2 : Int32} {v3 : Int32} {v4 : Int32} {σ : x_S} {τ : x_L} (h : wX11_layMates_70 K24 K36 K57 Q K70 v1 v2 v3 v4 σ τ) : V σ τ 70 [(0, .ref (ad 0)), (1, .int v1), (2, .int v2), (3, .int v3), (4, .int v4)] [] := by
  refine x_iload X dX11_layMates_70 4 rfl ?_
  refine x_aload_n X dX11_layMates_72 rfl 0 rfl ?_
  refine x_iload_n X dX11_layMates_73 rfl 3 rfl ?_
  refine x_callVi X [.int v3] [.int v4] dX11_layMates_74 (kX11_placesOf h) cm_X11_placesOf ci_X11_placesOf w_7_109 dsM_0 ⟨by decide, by decide⟩ rfl (Nat.le_of_ble_eq_true rfl) (fun r74 σ74 τ74 h => ?_)
  refine x_icmp_ge X 119 dX11_layMates_77 (by decide) (fun hc => ?_) (fun hc => ?_)
  · have h := h.1 hc
    refine x_iinc X (k := 3) (lv' := [(3, .int (v3 + 1)), (0, .ref (ad 0)), (1, .int v1), (2, .int v2), (4, .int v4)]) dX11_layMates_119 rfl ki_1 (by decide) rfl ?_
    refine x_goto X (tgt := 57) dX11_layMates_122 (by decide) ?_
    refine x_sub X [1, 2, 3, 0] (lv' := [(0, .ref (ad 0)), (1, .int v1), (2, .int v2), (3, .int (v3 + 1))]) rfl ?_
    exact hK57 _ _ _ _ _ h
  · have h := h.2 hc
    refine x_aload_n X dX11_layMates_80 rfl 0 rfl ?_
    refine x_iload_n X dX11_layMates_81 rfl 1 rfl ?_
    refine x_iload_n X dX11_layMates_82 rfl 2 rfl ?_
    refine x_iload_n X dX11_layMates_83 rfl 3 rfl ?_
    refine x_iload X dX11_layMates_84 4 rfl ?_
    refine x_callVi X [.int v1, .int v2, .int v3, .int v4] [] dX11_layMates_86 (kX11_areMates h) cm_X11_areMates ci_X11_areMates w_7_148 dsM_0 ⟨by decide, by decide⟩ rfl (Nat.le_of_ble_eq_true rfl) (fun r86 σ86 τ86 h => ?_)
    refine x_if_ne X 95 dX11_layMates_89 (by decide) (fun hc => ?_) (fun hc => ?_)
    · have h := h.1 hc
      refine x_aload_n X dX11_layMates_95 rfl 0 rfl ?_
      refine x_iload_n X dX11_layMates_96 rfl 1 rfl ?_
      refine x_iload_n X dX11_layMates_97 rfl 2 rfl ?_
      refine x_iload_n X dX11_layMates_98 rfl 3 rfl ?_
      refine x_iload X dX11_layMates_99 4 rfl ?_
      refine x_callVv X [.int v1, .int v2, .int v3, .int v4] [] dX11_layMates_101 (kX11_setMate h) cm_X11_setMate ci_X11_setMate w_7_144 dsM_0 ⟨by decide, by decide⟩ rfl (Nat.le_of_ble_eq_true rfl) (fun σ101 τ101 h => ?_)
      refine x_aload_n X dX11_layMates_104 rfl 0 rfl ?_
      refine x_iload_n X dX11_layMates_105 rfl 3 rfl ?_
      refine x_iload X dX11_layMates_106 4 rfl ?_
      refine x_iload_n X dX11_layMates_108 rfl 1 rfl ?_
      refine x_iload_n X dX11_layMates_109 rfl 2 rfl ?_
      refine x_callVv X [.int v3, .int v4, .int v1, .int v2] [] dX11_layMates_110 (kX11_setMate h) cm_X11_setMate ci_X11_setMate w_7_144 dsM_0 ⟨by decide, by decide⟩ rfl (Nat.le_of_ble_eq_true rfl) (fun σ110 τ110 h => ?_)
      exact bX11_layMates_113 X hK24 hK36 hK57 hK70 h
    · have h := h.2 hc
      refine x_goto X (tgt := 113) dX11_layMates_92 (by decide) ?_
      exact bX11_layMates_113 X hK24 hK36 hK57 hK70 h
set_option maxRecDepth 100000 in
set_option maxHeartbeats 4000000 in
theorem bX11_layMates_57 {V : x_J} {ad : Nat → Nat} {Q : x_S → x_L → Prop} (X : x_Is V cX11_layMates 5 RX11 (Option.none : Option Jvm.ClassFile.FieldType) ad dsM 3 (x_PV Q)) {K24 : Int32 → x_S → x_L → Prop} {K36 : Int32 → Int32 → x_S → x_L → Prop} {K57 : Int32 → Int32 → Int32 → x_S → x_L → Prop} (hK24 : ∀ v1 σ τ, K24 v1 σ τ → V σ τ 24 [(0, .ref (ad 0)), (1, .int v1)] []) (hK36 : ∀ v1 v2 σ τ, K36 v1 v2 σ τ → V σ τ 36 [(0, .ref (ad 0)), (1, .int v1), (2, .int v2)] []) (hK57 : ∀ v1 v2 v3 σ τ, K57 v1 v2 v3 σ τ → V σ τ 57 [(0, .ref (ad 0)), (1, .int v1), (2, .int v2), (3, .int v3)] []) {v1 : Int32} {v2 : Int32} {v3 : Int32} {σ : x_S} {τ : x_L} (h : wX11_layMates_57 K24 K36 Q K57 v1 v2 v3 σ τ) : V σ τ 57 [(0, .ref (ad 0)), (1, .int v1), (2, .int v2), (3, .int v3)] [] := by
  refine x_iload_n X dX11_layMates_57 rfl 3 rfl ?_
  refine x_aload_n X dX11_layMates_58 rfl 0 rfl ?_
  refine x_getR X (j := 3) dX11_layMates_59 fl_11_17 dsM_0 rfl ?_
  refine x_iconst X dX11_layMates_62 ki_1 ?_
  refine x_iald X dX11_layMates_63 dsM_3 (x_inl (by decide)) ?_
  refine x_icmp_ge X 125 dX11_layMates_64 (by decide) (fun hc => ?_) (fun hc => ?_)
  · have h := h.1 hc
    refine x_iinc X (k := 2) (lv' := [(2, .int (v2 + 1)), (0, .ref (ad 0)), (1, .int v1), (3, .int v3)]) dX11_layMates_125 rfl ki_1 (by decide) rfl ?_
    refine x_goto X (tgt := 36) dX11_layMates_128 (by decide) ?_
    refine x_sub X [1, 2, 0] (lv' := [(0, .ref (ad 0)), (1, .int v1), (2, .int (v2 + 1))]) rfl ?_
    exact hK36 _ _ _ _ h
  · have h := h.2 hc
    refine x_iconst X dX11_layMates_67 ki_0 ?_
    refine x_istore X (lv' := [(4, .int 0), (0, .ref (ad 0)), (1, .int v1), (2, .int v2), (3, .int v3)]) dX11_layMates_68 (by decide) rfl ?_
    refine x_sub X [1, 2, 3, 4, 0] (lv' := [(0, .ref (ad 0)), (1, .int v1), (2, .int v2), (3, .int v3), (4, .int 0)]) rfl ?_
    exact x_l4_G (fun v1 v2 v3 v4 σ τ => V σ τ 70 [(0, .ref (ad 0)), (1, .int v1), (2, .int v2), (3, .int v3), (4, .int v4)] []) (fun K70 hK70 v1 v2 v3 v4 σ τ h => bX11_layMates_70 X hK24 hK36 hK57 hK70 h) h
set_option maxRecDepth 100000 in
set_option maxHeartbeats 4000000 in
theorem bX11_layMates_36 {V : x_J} {ad : Nat → Nat} {Q : x_S → x_L → Prop} (X : x_Is V cX11_layMates 5 RX11 (Option.none : Option Jvm.ClassFile.FieldType) ad dsM 3 (x_PV Q)) {K24 : Int32 → x_S → x_L → Prop} {K36 : Int32 → Int32 → x_S → x_L → Prop} (hK24 : ∀ v1 σ τ, K24 v1 σ τ → V σ τ 24 [(0, .ref (ad 0)), (1, .int v1)] []) (hK36 : ∀ v1 v2 σ τ, K36 v1 v2 σ τ → V σ τ 36 [(0, .ref (ad 0)), (1, .int v1), (2, .int v2)] []) {v1 : Int32} {v2 : Int32} {σ : x_S} {τ : x_L} (h : wX11_layMates_36 K24 Q K36 v1 v2 σ τ) : V σ τ 36 [(0, .ref (ad 0)), (1, .int v1), (2, .int v2)] [] := by
  refine x_iload_n X dX11_layMates_36 rfl 2 rfl ?_
  refine x_aload_n X dX11_layMates_37 rfl 0 rfl ?_
  refine x_iload_n X dX11_layMates_38 rfl 1 rfl ?_
  refine x_callVi X [.int v1] [.int v2] dX11_layMates_39 (kX11_placesOf h) cm_X11_placesOf ci_X11_placesOf w_7_109 dsM_0 ⟨by decide, by decide⟩ rfl (Nat.le_of_ble_eq_true rfl) (fun r39 σ39 τ39 h => ?_)
  refine x_icmp_ge X 131 dX11_layMates_42 (by decide) (fun hc => ?_) (fun hc => ?_)
  · have h := h.1 hc
    refine x_iinc X (k := 1) (lv' := [(1, .int (v1 + 1)), (0, .ref (ad 0)), (2, .int v2)]) dX11_layMates_131 rfl ki_1 (by decide) rfl ?_
    refine x_goto X (tgt := 24) dX11_layMates_134 (by decide) ?_
    refine x_sub X [1, 0] (lv' := [(0, .ref (ad 0)), (1, .int (v1 + 1))]) rfl ?_
    exact hK24 _ _ _ h
  · have h := h.2 hc
    refine x_aload_n X dX11_layMates_45 rfl 0 rfl ?_
    refine x_iload_n X dX11_layMates_46 rfl 1 rfl ?_
    refine x_iload_n X dX11_layMates_47 rfl 2 rfl ?_
    refine x_iload_n X dX11_layMates_48 rfl 1 rfl ?_
    refine x_iload_n X dX11_layMates_49 rfl 2 rfl ?_
    refine x_callVv X [.int v1, .int v2, .int v1, .int v2] [] dX11_layMates_50 (kX11_setMate h) cm_X11_setMate ci_X11_setMate w_7_144 dsM_0 ⟨by decide, by decide⟩ rfl (Nat.le_of_ble_eq_true rfl) (fun σ50 τ50 h => ?_)
    refine x_iload_n X dX11_layMates_53 rfl 1 rfl ?_
    refine x_iconst X dX11_layMates_54 ki_1 ?_
    refine x_iadd X dX11_layMates_55 ?_
    refine x_istore_n X (lv' := [(3, .int (v1 + 1)), (0, .ref (ad 0)), (1, .int v1), (2, .int v2)]) dX11_layMates_56 rfl (by decide) rfl ?_
    refine x_sub X [1, 2, 3, 0] (lv' := [(0, .ref (ad 0)), (1, .int v1), (2, .int v2), (3, .int (v1 + 1))]) rfl ?_
    exact x_l3_G (fun v1 v2 v3 σ τ => V σ τ 57 [(0, .ref (ad 0)), (1, .int v1), (2, .int v2), (3, .int v3)] []) (fun K57 hK57 v1 v2 v3 σ τ h => bX11_layMates_57 X hK24 hK36 hK57 h) h
set_option maxRecDepth 100000 in
set_option maxHeartbeats 4000000 in
theorem bX11_layMates_24 {V : x_J} {ad : Nat → Nat} {Q : x_S → x_L → Prop} (X : x_Is V cX11_layMates 5 RX11 (Option.none : Option Jvm.ClassFile.FieldType) ad dsM 3 (x_PV Q)) {K24 : Int32 → x_S → x_L → Prop} (hK24 : ∀ v1 σ τ, K24 v1 σ τ → V σ τ 24 [(0, .ref (ad 0)), (1, .int v1)] []) {v1 : Int32} {σ : x_S} {τ : x_L} (h : wX11_layMates_24 Q K24 v1 σ τ) : V σ τ 24 [(0, .ref (ad 0)), (1, .int v1)] [] := by
  refine x_iload_n X dX11_layMates_24 rfl 1 rfl ?_
  refine x_aload_n X dX11_layMates_25 rfl 0 rfl ?_
  refine x_getR X (j := 3) dX11_layMates_26 fl_11_17 dsM_0 rfl ?_
  refine x_iconst X dX11_layMates_29 ki_1 ?_
  refine x_iald X dX11_layMates_30 dsM_3 (x_inl (by decide)) ?_
  refine x_icmp_ge X 137 dX11_layMates_31 (by decide) (fun hc => ?_) (fun hc => ?_)
  · have h := h.1 hc
    exact x_vret X dX11_layMates_137 ⟨rfl, h⟩
  · have h := h.2 hc
    refine x_iconst X dX11_layMates_34 ki_0 ?_
    refine x_istore_n X (lv' := [(2, .int 0), (0, .ref (ad 0)), (1, .int v1)]) dX11_layMates_35 rfl (by decide) rfl ?_
    refine x_sub X [1, 2, 0] (lv' := [(0, .ref (ad 0)), (1, .int v1), (2, .int 0)]) rfl ?_
    exact x_l2_G (fun v1 v2 σ τ => V σ τ 36 [(0, .ref (ad 0)), (1, .int v1), (2, .int v2)] []) (fun K36 hK36 v1 v2 σ τ h => bX11_layMates_36 X hK24 hK36 h) h
set_option maxRecDepth 100000 in
set_option maxHeartbeats 4000000 in
theorem bX11_layMates_2 {V : x_J} {ad : Nat → Nat} {Q : x_S → x_L → Prop} (X : x_Is V cX11_layMates 5 RX11 (Option.none : Option Jvm.ClassFile.FieldType) ad dsM 3 (x_PV Q)) {K2 : Int32 → x_S → x_L → Prop} (hK2 : ∀ v1 σ τ, K2 v1 σ τ → V σ τ 2 [(0, .ref (ad 0)), (1, .int v1)] []) {v1 : Int32} {σ : x_S} {τ : x_L} (h : wX11_layMates_2 Q K2 v1 σ τ) : V σ τ 2 [(0, .ref (ad 0)), (1, .int v1)] [] := by
  refine x_iload_n X dX11_layMates_2 rfl 1 rfl ?_
  refine x_sipush X dX11_layMates_3 ks_1440 ?_
  refine x_icmp_ge X 22 dX11_layMates_6 (by decide) (fun hc => ?_) (fun hc => ?_)
  · have h := h.1 hc
    refine x_iconst X dX11_layMates_22 ki_0 ?_
    refine x_istore_n X (lv' := [(1, .int 0), (0, .ref (ad 0))]) dX11_layMates_23 rfl (by decide) rfl ?_
    refine x_sub X [1, 0] (lv' := [(0, .ref (ad 0)), (1, .int 0)]) rfl ?_
    exact x_l1_G (fun v1 σ τ => V σ τ 24 [(0, .ref (ad 0)), (1, .int v1)] []) (fun K24 hK24 v1 σ τ h => bX11_layMates_24 X hK24 h) h
  · have h := h.2 hc
    refine x_aload_n X dX11_layMates_9 rfl 0 rfl ?_
    refine x_getR X (j := 6) dX11_layMates_10 fl_11_26 dsM_0 rfl ?_
    refine x_iload_n X dX11_layMates_13 rfl 1 rfl ?_
    refine x_iconst X dX11_layMates_14 ki_m1 ?_
    have g15 := h.1
    have h := h.2
    refine x_iast X dX11_layMates_15 dsM_6 g15 ?_
    refine x_iinc X (k := 1) (lv' := [(1, .int (v1 + 1)), (0, .ref (ad 0))]) dX11_layMates_16 rfl ki_1 (by decide) rfl ?_
    refine x_goto X (tgt := 2) dX11_layMates_19 (by decide) ?_
    refine x_sub X [1, 0] (lv' := [(0, .ref (ad 0)), (1, .int (v1 + 1))]) rfl ?_
    exact hK2 _ _ _ h
set_option maxRecDepth 100000 in
set_option maxHeartbeats 4000000 in
theorem kX11_layMates {ad : Nat → Nat} {σ : x_S} {τ : x_L} {Q : x_S → x_L → Prop} (h : wX11_layMates σ τ Q) : x_Met yX11_layMates cX11_layMates 5 (Option.none : Option Jvm.ClassFile.FieldType) 3 ad dsM [.ref (ad 0)] σ τ (x_PV Q) := by
  refine x_met (by decide +kernel) (Nat.le_of_ble_eq_true rfl) (fun V X => ?_)
  have X : x_Is V cX11_layMates 5 RX11 (Option.none : Option Jvm.ClassFile.FieldType) ad dsM 3 (x_PV Q) := X
  show V σ τ 0 [(0, .ref (ad 0))] []
  refine x_iconst X dX11_layMates_0 ki_0 ?_
  refine x_istore_n X (lv' := [(1, .int 0), (0, .ref (ad 0))]) dX11_layMates_1 rfl (by decide) rfl ?_
  refine x_sub X [1, 0] (lv' := [(0, .ref (ad 0)), (1, .int 0)]) rfl ?_
  exact x_l1_G (fun v1 σ τ => V σ τ 2 [(0, .ref (ad 0)), (1, .int v1)] []) (fun K2 hK2 v1 σ τ h => bX11_layMates_2 X hK2 h) h
theorem dX11_shared_0 : decode cX11_shared 0 = .ok (.iconst 0, 1) := by decide +kernel
theorem dX11_shared_1 : decode cX11_shared 1 = .ok (.istore 5, 2) := by decide +kernel
theorem dX11_shared_3 : decode cX11_shared 3 = .ok (.iload_n 2, 1) := by decide +kernel
theorem dX11_shared_4 : decode cX11_shared 4 = .ok (.iload 5, 2) := by decide +kernel
theorem dX11_shared_6 : decode cX11_shared 6 = .ok (.iadd, 1) := by decide +kernel
theorem dX11_shared_7 : decode cX11_shared 7 = .ok (.aload_n 0, 1) := by decide +kernel
theorem dX11_shared_8 : decode cX11_shared 8 = .ok (.iload_n 1, 1) := by decide +kernel
theorem dX11_shared_9 : decode cX11_shared 9 = .ok (.invokevirtual 107, 3) := by decide +kernel
theorem dX11_shared_12 : decode cX11_shared 12 = .ok (.if_icmp .ge 44, 3) := by decide +kernel
theorem dX11_shared_15 : decode cX11_shared 15 = .ok (.iload 4, 2) := by decide +kernel
theorem dX11_shared_17 : decode cX11_shared 17 = .ok (.iload 5, 2) := by decide +kernel
theorem dX11_shared_19 : decode cX11_shared 19 = .ok (.iadd, 1) := by decide +kernel
theorem dX11_shared_20 : decode cX11_shared 20 = .ok (.aload_n 0, 1) := by decide +kernel
theorem dX11_shared_21 : decode cX11_shared 21 = .ok (.iload_n 3, 1) := by decide +kernel
theorem dX11_shared_22 : decode cX11_shared 22 = .ok (.invokevirtual 107, 3) := by decide +kernel
theorem dX11_shared_25 : decode cX11_shared 25 = .ok (.if_icmp .ge 31, 3) := by decide +kernel
theorem dX11_shared_28 : decode cX11_shared 28 = .ok (.aload_n 0, 1) := by decide +kernel
theorem dX11_shared_29 : decode cX11_shared 29 = .ok (.iload_n 1, 1) := by decide +kernel
theorem dX11_shared_30 : decode cX11_shared 30 = .ok (.iload_n 2, 1) := by decide +kernel
theorem dX11_shared_31 : decode cX11_shared 31 = .ok (.iload 5, 2) := by decide +kernel
theorem dX11_shared_33 : decode cX11_shared 33 = .ok (.iadd, 1) := by decide +kernel
theorem dX11_shared_34 : decode cX11_shared 34 = .ok (.invokevirtual 114, 3) := by decide +kernel
theorem dX11_shared_37 : decode cX11_shared 37 = .ok (.aload_n 0, 1) := by decide +kernel
theorem dX11_shared_38 : decode cX11_shared 38 = .ok (.iload_n 3, 1) := by decide +kernel
theorem dX11_shared_39 : decode cX11_shared 39 = .ok (.iload 4, 2) := by decide +kernel
theorem dX11_shared_41 : decode cX11_shared 41 = .ok (.iload 5, 2) := by decide +kernel
theorem dX11_shared_43 : decode cX11_shared 43 = .ok (.iadd, 1) := by decide +kernel
theorem dX11_shared_44 : decode cX11_shared 44 = .ok (.invokevirtual 114, 3) := by decide +kernel
theorem dX11_shared_47 : decode cX11_shared 47 = .ok (.if_icmp .ne 9, 3) := by decide +kernel
theorem dX11_shared_50 : decode cX11_shared 50 = .ok (.iinc 5 1, 3) := by decide +kernel
theorem dX11_shared_53 : decode cX11_shared 53 = .ok (.goto (-50), 3) := by decide +kernel
theorem dX11_shared_56 : decode cX11_shared 56 = .ok (.iload 5, 2) := by decide +kernel
theorem dX11_shared_58 : decode cX11_shared 58 = .ok (.ireturn, 1) := by decide +kernel
theorem cm_X11_shared : x_CM yX11_shared cX11_shared 6 (Option.some FieldType.int) 4 := ⟨w_7_163, w_1_12, by decide +kernel, by decide +kernel⟩
theorem ci_X11_shared : x_CI yX11_shared 13 := ⟨w_7_162, wp_56, (RX11, TX11, 41), rfl, rfl⟩
set_option maxRecDepth 100000 in
set_option maxHeartbeats 4000000 in
theorem bX11_shared_56 {V : x_J} {ad : Nat → Nat} {Q : Int32 → x_S → x_L → Prop} (X : x_Is V cX11_shared 6 RX11 (Option.some FieldType.int) ad dsM 2 (x_PI Q)) {v5 : Int32} {σ : x_S} {τ : x_L} (h : wX11_shared_56 Q v5 σ τ) : V σ τ 56 [(5, .int v5)] [] := by
  refine x_iload X dX11_shared_56 0 rfl ?_
  exact x_iret X dX11_shared_58 ⟨_, rfl, h⟩
set_option maxRecDepth 100000 in
set_option maxHeartbeats 4000000 in
theorem bX11_shared_3 {V : x_J} {ad : Nat → Nat} {Q : Int32 → x_S → x_L → Prop} (X : x_Is V cX11_shared 6 RX11 (Option.some FieldType.int) ad dsM 2 (x_PI Q)) {K3 : Int32 → Int32 → Int32 → Int32 → Int32 → x_S → x_L → Prop} (hK3 : ∀ v1 v2 v3 v4 v5 σ τ, K3 v1 v2 v3 v4 v5 σ τ → V σ τ 3 [(0, .ref (ad 0)), (1, .int v1), (2, .int v2), (3, .int v3), (4, .int v4), (5, .int v5)] []) {v1 : Int32} {v2 : Int32} {v3 : Int32} {v4 : Int32} {v5 : Int32} {σ : x_S} {τ : x_L} (h : wX11_shared_3 Q K3 v1 v2 v3 v4 v5 σ τ) : V σ τ 3 [(0, .ref (ad 0)), (1, .int v1), (2, .int v2), (3, .int v3), (4, .int v4), (5, .int v5)] [] := by
  refine x_iload_n X dX11_shared_3 rfl 2 rfl ?_
  refine x_iload X dX11_shared_4 5 rfl ?_
  refine x_iadd X dX11_shared_6 ?_
  refine x_aload_n X dX11_shared_7 rfl 0 rfl ?_
  refine x_iload_n X dX11_shared_8 rfl 1 rfl ?_
  refine x_callVi X [.int v1] [.int (v2 + v5)] dX11_shared_9 (kX11_placesOf h) cm_X11_placesOf ci_X11_placesOf w_7_109 dsM_0 ⟨by decide, by decide⟩ rfl (Nat.le_of_ble_eq_true rfl) (fun r9 σ9 τ9 h => ?_)
  refine x_icmp_ge X 56 dX11_shared_12 (by decide) (fun hc => ?_) (fun hc => ?_)
  · have h := h.1 hc
    refine x_sub X [5] (lv' := [(5, .int v5)]) rfl ?_
    exact bX11_shared_56 X h
  · have h := h.2 hc
    refine x_iload X dX11_shared_15 4 rfl ?_
    refine x_iload X dX11_shared_17 5 rfl ?_
    refine x_iadd X dX11_shared_19 ?_
    refine x_aload_n X dX11_shared_20 rfl 0 rfl ?_
    refine x_iload_n X dX11_shared_21 rfl 3 rfl ?_
    refine x_callVi X [.int v3] [.int (v4 + v5)] dX11_shared_22 (kX11_placesOf h) cm_X11_placesOf ci_X11_placesOf w_7_109 dsM_0 ⟨by decide, by decide⟩ rfl (Nat.le_of_ble_eq_true rfl) (fun r22 σ22 τ22 h => ?_)
    refine x_icmp_ge X 56 dX11_shared_25 (by decide) (fun hc => ?_) (fun hc => ?_)
    · have h := h.1 hc
      refine x_sub X [5] (lv' := [(5, .int v5)]) rfl ?_
      exact bX11_shared_56 X h
    · have h := h.2 hc
      refine x_aload_n X dX11_shared_28 rfl 0 rfl ?_
      refine x_iload_n X dX11_shared_29 rfl 1 rfl ?_
      refine x_iload_n X dX11_shared_30 rfl 2 rfl ?_
      refine x_iload X dX11_shared_31 5 rfl ?_
      refine x_iadd X dX11_shared_33 ?_
      refine x_callVi X [.int v1, .int (v2 + v5)] [] dX11_shared_34 (kX11_roadAt h) cm_X11_roadAt ci_X11_roadAt w_7_124 dsM_0 ⟨by decide, by decide⟩ rfl (Nat.le_of_ble_eq_true rfl) (fun r34 σ34 τ34 h => ?_)
      refine x_aload_n X dX11_shared_37 rfl 0 rfl ?_
      refine x_iload_n X dX11_shared_38 rfl 3 rfl ?_
      refine x_iload X dX11_shared_39 4 rfl ?_
      refine x_iload X dX11_shared_41 5 rfl ?_
      refine x_iadd X dX11_shared_43 ?_
      refine x_callVi X [.int v3, .int (v4 + v5)] [.int r34] dX11_shared_44 (kX11_roadAt h) cm_X11_roadAt ci_X11_roadAt w_7_124 dsM_0 ⟨by decide, by decide⟩ rfl (Nat.le_of_ble_eq_true rfl) (fun r44 σ44 τ44 h => ?_)
      refine x_icmp_ne X 56 dX11_shared_47 (by decide) (fun hc => ?_) (fun hc => ?_)
      · have h := h.1 hc
        refine x_sub X [5] (lv' := [(5, .int v5)]) rfl ?_
        exact bX11_shared_56 X h
      · have h := h.2 hc
        refine x_iinc X (k := 5) (lv' := [(5, .int (v5 + 1)), (0, .ref (ad 0)), (1, .int v1), (2, .int v2), (3, .int v3), (4, .int v4)]) dX11_shared_50 rfl ki_1 (by decide) rfl ?_
        refine x_goto X (tgt := 3) dX11_shared_53 (by decide) ?_
        refine x_sub X [1, 2, 3, 4, 5, 0] (lv' := [(0, .ref (ad 0)), (1, .int v1), (2, .int v2), (3, .int v3), (4, .int v4), (5, .int (v5 + 1))]) rfl ?_
        exact hK3 _ _ _ _ _ _ _ h
set_option maxRecDepth 100000 in
set_option maxHeartbeats 4000000 in
theorem kX11_shared {ad : Nat → Nat} {a1 : Int32} {a2 : Int32} {a3 : Int32} {a4 : Int32} {σ : x_S} {τ : x_L} {Q : Int32 → x_S → x_L → Prop} (h : wX11_shared a1 a2 a3 a4 σ τ Q) : x_Met yX11_shared cX11_shared 6 (Option.some FieldType.int) 2 ad dsM [.ref (ad 0), .int a1, .int a2, .int a3, .int a4] σ τ (x_PI Q) := by
  refine x_met (by decide +kernel) (Nat.le_of_ble_eq_true rfl) (fun V X => ?_)
  have X : x_Is V cX11_shared 6 RX11 (Option.some FieldType.int) ad dsM 2 (x_PI Q) := X
  show V σ τ 0 [(0, .ref (ad 0)), (1, .int a1), (2, .int a2), (3, .int a3), (4, .int a4)] []
  refine x_iconst X dX11_shared_0 ki_0 ?_
  refine x_istore X (lv' := [(5, .int 0), (0, .ref (ad 0)), (1, .int a1), (2, .int a2), (3, .int a3), (4, .int a4)]) dX11_shared_1 (by decide) rfl ?_
  refine x_sub X [1, 2, 3, 4, 5, 0] (lv' := [(0, .ref (ad 0)), (1, .int a1), (2, .int a2), (3, .int a3), (4, .int a4), (5, .int 0)]) rfl ?_
  exact x_l5_G (fun v1 v2 v3 v4 v5 σ τ => V σ τ 3 [(0, .ref (ad 0)), (1, .int v1), (2, .int v2), (3, .int v3), (4, .int v4), (5, .int v5)] []) (fun K3 hK3 v1 v2 v3 v4 v5 σ τ h => bX11_shared_3 X hK3 h) h
theorem dX11_layKey_0 : decode cX11_layKey 0 = .ok (.iconst 0, 1) := by decide +kernel
theorem dX11_layKey_1 : decode cX11_layKey 1 = .ok (.istore_n 3, 1) := by decide +kernel
theorem dX11_layKey_2 : decode cX11_layKey 2 = .ok (.iconst 0, 1) := by decide +kernel
theorem dX11_layKey_3 : decode cX11_layKey 3 = .ok (.istore 4, 2) := by decide +kernel
theorem dX11_layKey_5 : decode cX11_layKey 5 = .ok (.iconst 0, 1) := by decide +kernel
theorem dX11_layKey_6 : decode cX11_layKey 6 = .ok (.istore 5, 2) := by decide +kernel
theorem dX11_layKey_8 : decode cX11_layKey 8 = .ok (.iload 5, 2) := by decide +kernel
theorem dX11_layKey_10 : decode cX11_layKey 10 = .ok (.aload_n 0, 1) := by decide +kernel
theorem dX11_layKey_11 : decode cX11_layKey 11 = .ok (.getfield 17, 3) := by decide +kernel
theorem dX11_layKey_14 : decode cX11_layKey 14 = .ok (.iconst 1, 1) := by decide +kernel
theorem dX11_layKey_15 : decode cX11_layKey 15 = .ok (.iaload, 1) := by decide +kernel
theorem dX11_layKey_16 : decode cX11_layKey 16 = .ok (.if_icmp .ge 56, 3) := by decide +kernel
theorem dX11_layKey_19 : decode cX11_layKey 19 = .ok (.aload_n 0, 1) := by decide +kernel
theorem dX11_layKey_20 : decode cX11_layKey 20 = .ok (.iload_n 1, 1) := by decide +kernel
theorem dX11_layKey_21 : decode cX11_layKey 21 = .ok (.iload_n 2, 1) := by decide +kernel
theorem dX11_layKey_22 : decode cX11_layKey 22 = .ok (.iload 5, 2) := by decide +kernel
theorem dX11_layKey_24 : decode cX11_layKey 24 = .ok (.invokevirtual 137, 3) := by decide +kernel
theorem dX11_layKey_27 : decode cX11_layKey 27 = .ok (.istore 6, 2) := by decide +kernel
theorem dX11_layKey_29 : decode cX11_layKey 29 = .ok (.iload 6, 2) := by decide +kernel
theorem dX11_layKey_31 : decode cX11_layKey 31 = .ok (.iconst (-1), 1) := by decide +kernel
theorem dX11_layKey_32 : decode cX11_layKey 32 = .ok (.if_icmp .ne 6, 3) := by decide +kernel
theorem dX11_layKey_35 : decode cX11_layKey 35 = .ok (.goto 31, 3) := by decide +kernel
theorem dX11_layKey_38 : decode cX11_layKey 38 = .ok (.iinc 4 1, 3) := by decide +kernel
theorem dX11_layKey_41 : decode cX11_layKey 41 = .ok (.iload 5, 2) := by decide +kernel
theorem dX11_layKey_43 : decode cX11_layKey 43 = .ok (.iload_n 1, 1) := by decide +kernel
theorem dX11_layKey_44 : decode cX11_layKey 44 = .ok (.if_icmp .ne 7, 3) := by decide +kernel
theorem dX11_layKey_47 : decode cX11_layKey 47 = .ok (.iload_n 3, 1) := by decide +kernel
theorem dX11_layKey_48 : decode cX11_layKey 48 = .ok (.goto 17, 3) := by decide +kernel
theorem dX11_layKey_51 : decode cX11_layKey 51 = .ok (.iload_n 3, 1) := by decide +kernel
theorem dX11_layKey_52 : decode cX11_layKey 52 = .ok (.aload_n 0, 1) := by decide +kernel
theorem dX11_layKey_53 : decode cX11_layKey 53 = .ok (.iload_n 1, 1) := by decide +kernel
theorem dX11_layKey_54 : decode cX11_layKey 54 = .ok (.iload_n 2, 1) := by decide +kernel
theorem dX11_layKey_55 : decode cX11_layKey 55 = .ok (.iload 5, 2) := by decide +kernel
theorem dX11_layKey_57 : decode cX11_layKey 57 = .ok (.iload 6, 2) := by decide +kernel
theorem dX11_layKey_59 : decode cX11_layKey 59 = .ok (.invokevirtual 141, 3) := by decide +kernel
theorem dX11_layKey_62 : decode cX11_layKey 62 = .ok (.invokestatic 145, 3) := by decide +kernel
theorem dX11_layKey_65 : decode cX11_layKey 65 = .ok (.istore_n 3, 1) := by decide +kernel
theorem dX11_layKey_66 : decode cX11_layKey 66 = .ok (.iinc 5 1, 3) := by decide +kernel
theorem dX11_layKey_69 : decode cX11_layKey 69 = .ok (.goto (-61), 3) := by decide +kernel
theorem dX11_layKey_72 : decode cX11_layKey 72 = .ok (.aload_n 0, 1) := by decide +kernel
theorem dX11_layKey_73 : decode cX11_layKey 73 = .ok (.getfield 32, 3) := by decide +kernel
theorem dX11_layKey_76 : decode cX11_layKey 76 = .ok (.iload_n 1, 1) := by decide +kernel
theorem dX11_layKey_77 : decode cX11_layKey 77 = .ok (.iload_n 2, 1) := by decide +kernel
theorem dX11_layKey_78 : decode cX11_layKey 78 = .ok (.invokestatic 111, 3) := by decide +kernel
theorem dX11_layKey_81 : decode cX11_layKey 81 = .ok (.iload_n 3, 1) := by decide +kernel
theorem dX11_layKey_82 : decode cX11_layKey 82 = .ok (.iastore, 1) := by decide +kernel
theorem dX11_layKey_83 : decode cX11_layKey 83 = .ok (.aload_n 0, 1) := by decide +kernel
theorem dX11_layKey_84 : decode cX11_layKey 84 = .ok (.getfield 29, 3) := by decide +kernel
theorem dX11_layKey_87 : decode cX11_layKey 87 = .ok (.iload_n 1, 1) := by decide +kernel
theorem dX11_layKey_88 : decode cX11_layKey 88 = .ok (.iload_n 2, 1) := by decide +kernel
theorem dX11_layKey_89 : decode cX11_layKey 89 = .ok (.invokestatic 111, 3) := by decide +kernel
theorem dX11_layKey_92 : decode cX11_layKey 92 = .ok (.iload 4, 2) := by decide +kernel
theorem dX11_layKey_94 : decode cX11_layKey 94 = .ok (.iastore, 1) := by decide +kernel
theorem dX11_layKey_95 : decode cX11_layKey 95 = .ok (.return_, 1) := by decide +kernel
theorem cm_X11_layKey : x_CM yX11_layKey cX11_layKey 7 (Option.none : Option Jvm.ClassFile.FieldType) 2 := ⟨w_7_155, w_1_12, by decide +kernel, by decide +kernel⟩
theorem ci_X11_layKey : x_CI yX11_layKey 13 := ⟨w_7_154, wp_54, (RX11, TX11, 41), rfl, rfl⟩
set_option maxRecDepth 100000 in
set_option maxHeartbeats 4000000 in
theorem bX11_layKey_66 {V : x_J} {ad : Nat → Nat} {Q : x_S → x_L → Prop} (X : x_Is V cX11_layKey 7 RX11 (Option.none : Option Jvm.ClassFile.FieldType) ad dsM 3 (x_PV Q)) {K8 : Int32 → Int32 → Int32 → Int32 → Int32 → x_S → x_L → Prop} (hK8 : ∀ v1 v2 v3 v4 v5 σ τ, K8 v1 v2 v3 v4 v5 σ τ → V σ τ 8 [(0, .ref (ad 0)), (1, .int v1), (2, .int v2), (3, .int v3), (4, .int v4), (5, .int v5)] []) {v1 : Int32} {v2 : Int32} {v3 : Int32} {v4 : Int32} {v5 : Int32} {σ : x_S} {τ : x_L} (h : wX11_layKey_66 K8 Q v1 v2 v3 v4 v5 σ τ) : V σ τ 66 [(0, .ref (ad 0)), (1, .int v1), (2, .int v2), (3, .int v3), (4, .int v4), (5, .int v5)] [] := by
  refine x_iinc X (k := 5) (lv' := [(5, .int (v5 + 1)), (0, .ref (ad 0)), (1, .int v1), (2, .int v2), (3, .int v3), (4, .int v4)]) dX11_layKey_66 rfl ki_1 (by decide) rfl ?_
  refine x_goto X (tgt := 8) dX11_layKey_69 (by decide) ?_
  refine x_sub X [1, 2, 3, 4, 5, 0] (lv' := [(0, .ref (ad 0)), (1, .int v1), (2, .int v2), (3, .int v3), (4, .int v4), (5, .int (v5 + 1))]) rfl ?_
  exact hK8 _ _ _ _ _ _ _ h
set_option maxRecDepth 100000 in
set_option maxHeartbeats 4000000 in
theorem bX11_layKey_65 {V : x_J} {ad : Nat → Nat} {Q : x_S → x_L → Prop} (X : x_Is V cX11_layKey 7 RX11 (Option.none : Option Jvm.ClassFile.FieldType) ad dsM 3 (x_PV Q)) {K8 : Int32 → Int32 → Int32 → Int32 → Int32 → x_S → x_L → Prop} (hK8 : ∀ v1 v2 v3 v4 v5 σ τ, K8 v1 v2 v3 v4 v5 σ τ → V σ τ 8 [(0, .ref (ad 0)), (1, .int v1), (2, .int v2), (3, .int v3), (4, .int v4), (5, .int v5)] []) {v1 : Int32} {v2 : Int32} {v4 : Int32} {v5 : Int32} {s0 : Int32} {σ : x_S} {τ : x_L} (h : wX11_layKey_65 K8 Q v1 v2 v4 v5 s0 σ τ) : V σ τ 65 [(0, .ref (ad 0)), (1, .int v1), (2, .int v2), (4, .int v4), (5, .int v5)] [.int s0] := by
  refine x_istore_n X (lv' := [(3, .int s0), (0, .ref (ad 0)), (1, .int v1), (2, .int v2), (4, .int v4), (5, .int v5)]) dX11_layKey_65 rfl (by decide) rfl ?_
  refine x_sub X [1, 2, 3, 0, 4, 5] (lv' := [(0, .ref (ad 0)), (1, .int v1), (2, .int v2), (3, .int s0), (4, .int v4), (5, .int v5)]) rfl ?_
  exact bX11_layKey_66 X hK8 h
set_option maxRecDepth 100000 in
set_option maxHeartbeats 4000000 in
theorem bX11_layKey_8 {V : x_J} {ad : Nat → Nat} {Q : x_S → x_L → Prop} (X : x_Is V cX11_layKey 7 RX11 (Option.none : Option Jvm.ClassFile.FieldType) ad dsM 3 (x_PV Q)) {K8 : Int32 → Int32 → Int32 → Int32 → Int32 → x_S → x_L → Prop} (hK8 : ∀ v1 v2 v3 v4 v5 σ τ, K8 v1 v2 v3 v4 v5 σ τ → V σ τ 8 [(0, .ref (ad 0)), (1, .int v1), (2, .int v2), (3, .int v3), (4, .int v4), (5, .int v5)] []) {v1 : Int32} {v2 : Int32} {v3 : Int32} {v4 : Int32} {v5 : Int32} {σ : x_S} {τ : x_L} (h : wX11_layKey_8 Q K8 v1 v2 v3 v4 v5 σ τ) : V σ τ 8 [(0, .ref (ad 0)), (1, .int v1), (2, .int v2), (3, .int v3), (4, .int v4), (5, .int v5)] [] := by
  refine x_iload X dX11_layKey_8 5 rfl ?_
  refine x_aload_n X dX11_layKey_10 rfl 0 rfl ?_
  refine x_getR X (j := 3) dX11_layKey_11 fl_11_17 dsM_0 rfl ?_
  refine x_iconst X dX11_layKey_14 ki_1 ?_
  refine x_iald X dX11_layKey_15 dsM_3 (x_inl (by decide)) ?_
  refine x_icmp_ge X 72 dX11_layKey_16 (by decide) (fun hc => ?_) (fun hc => ?_)
  · have h := h.1 hc
    refine x_aload_n X dX11_layKey_72 rfl 0 rfl ?_
    refine x_getR X (j := 8) dX11_layKey_73 fl_11_32 dsM_0 rfl ?_
    refine x_iload_n X dX11_layKey_76 rfl 1 rfl ?_
    refine x_iload_n X dX11_layKey_77 rfl 2 rfl ?_
    refine x_callSi X [.int v1, .int v2] [.ref (ad 8)] dX11_layKey_78 (kX11_spot h) cm_X11_spot w_7_118 rfl w_7_117 ⟨by decide, by decide⟩ rfl (Nat.le_of_ble_eq_true rfl) (fun r78 σ78 τ78 h => ?_)
    refine x_iload_n X dX11_layKey_81 rfl 3 rfl ?_
    have g82 := h.1
    have h := h.2
    refine x_iast X dX11_layKey_82 dsM_8 g82 ?_
    refine x_aload_n X dX11_layKey_83 rfl 0 rfl ?_
    refine x_getR X (j := 7) dX11_layKey_84 fl_11_29 dsM_0 rfl ?_
    refine x_iload_n X dX11_layKey_87 rfl 1 rfl ?_
    refine x_iload_n X dX11_layKey_88 rfl 2 rfl ?_
    refine x_callSi X [.int v1, .int v2] [.ref (ad 7)] dX11_layKey_89 (kX11_spot h) cm_X11_spot w_7_118 rfl w_7_117 ⟨by decide, by decide⟩ rfl (Nat.le_of_ble_eq_true rfl) (fun r89 σ89 τ89 h => ?_)
    refine x_iload X dX11_layKey_92 4 rfl ?_
    have g94 := h.1
    have h := h.2
    refine x_iast X dX11_layKey_94 dsM_7 g94 ?_
    exact x_vret X dX11_layKey_95 ⟨rfl, h⟩
  · have h := h.2 hc
    refine x_aload_n X dX11_layKey_19 rfl 0 rfl ?_
    refine x_iload_n X dX11_layKey_20 rfl 1 rfl ?_
    refine x_iload_n X dX11_layKey_21 rfl 2 rfl ?_
    refine x_iload X dX11_layKey_22 5 rfl ?_
    refine x_callVi X [.int v1, .int v2, .int v5] [] dX11_layKey_24 (kX11_mateOf h) cm_X11_mateOf ci_X11_mateOf w_7_156 dsM_0 ⟨by decide, by decide⟩ rfl (Nat.le_of_ble_eq_true rfl) (fun r24 σ24 τ24 h => ?_)
    refine x_istore X (lv' := [(6, .int r24), (0, .ref (ad 0)), (1, .int v1), (2, .int v2), (3, .int v3), (4, .int v4), (5, .int v5)]) dX11_layKey_27 (by decide) rfl ?_
    refine x_iload X dX11_layKey_29 0 rfl ?_
    refine x_iconst X dX11_layKey_31 ki_m1 ?_
    refine x_icmp_ne X 38 dX11_layKey_32 (by decide) (fun hc => ?_) (fun hc => ?_)
    · have h := h.1 hc
      refine x_iinc X (k := 5) (lv' := [(4, .int (v4 + 1)), (6, .int r24), (0, .ref (ad 0)), (1, .int v1), (2, .int v2), (3, .int v3), (5, .int v5)]) dX11_layKey_38 rfl ki_1 (by decide) rfl ?_
      refine x_iload X dX11_layKey_41 6 rfl ?_
      refine x_iload_n X dX11_layKey_43 rfl 3 rfl ?_
      refine x_icmp_ne X 51 dX11_layKey_44 (by decide) (fun hc => ?_) (fun hc => ?_)
      · have h := h.1 hc
        refine x_iload_n X dX11_layKey_51 rfl 5 rfl ?_
        refine x_aload_n X dX11_layKey_52 rfl 2 rfl ?_
        refine x_iload_n X dX11_layKey_53 rfl 3 rfl ?_
        refine x_iload_n X dX11_layKey_54 rfl 4 rfl ?_
        refine x_iload X dX11_layKey_55 6 rfl ?_
        refine x_iload X dX11_layKey_57 1 rfl ?_
        refine x_callVi X [.int v1, .int v2, .int v5, .int r24] [.int v3] dX11_layKey_59 (kX11_shared h) cm_X11_shared ci_X11_shared w_7_160 dsM_0 ⟨by decide, by decide⟩ rfl (Nat.le_of_ble_eq_true rfl) (fun r59 σ59 τ59 h => ?_)
        refine x_callSi X [.int v3, .int r59] [] dX11_layKey_62 (kX11_max h) cm_X11_max w_7_165 rfl w_7_164 ⟨by decide, by decide⟩ rfl (Nat.le_of_ble_eq_true rfl) (fun r62 σ62 τ62 h => ?_)
        refine x_sub X [2, 3, 4, 0, 6] (lv' := [(0, .ref (ad 0)), (1, .int v1), (2, .int v2), (4, .int (v4 + 1)), (5, .int v5)]) rfl ?_
        exact bX11_layKey_65 X hK8 h
      · have h := h.2 hc
        refine x_iload_n X dX11_layKey_47 rfl 5 rfl ?_
        refine x_goto X (tgt := 65) dX11_layKey_48 (by decide) ?_
        refine x_sub X [2, 3, 4, 0, 6] (lv' := [(0, .ref (ad 0)), (1, .int v1), (2, .int v2), (4, .int (v4 + 1)), (5, .int v5)]) rfl ?_
        exact bX11_layKey_65 X hK8 h
    · have h := h.2 hc
      refine x_goto X (tgt := 66) dX11_layKey_35 (by decide) ?_
      refine x_sub X [1, 2, 3, 4, 5, 6] (lv' := [(0, .ref (ad 0)), (1, .int v1), (2, .int v2), (3, .int v3), (4, .int v4), (5, .int v5)]) rfl ?_
      exact bX11_layKey_66 X hK8 h
set_option maxRecDepth 100000 in
set_option maxHeartbeats 4000000 in
theorem kX11_layKey {ad : Nat → Nat} {a1 : Int32} {a2 : Int32} {σ : x_S} {τ : x_L} {Q : x_S → x_L → Prop} (h : wX11_layKey a1 a2 σ τ Q) : x_Met yX11_layKey cX11_layKey 7 (Option.none : Option Jvm.ClassFile.FieldType) 3 ad dsM [.ref (ad 0), .int a1, .int a2] σ τ (x_PV Q) := by
  refine x_met (by decide +kernel) (Nat.le_of_ble_eq_true rfl) (fun V X => ?_)
  have X : x_Is V cX11_layKey 7 RX11 (Option.none : Option Jvm.ClassFile.FieldType) ad dsM 3 (x_PV Q) := X
  show V σ τ 0 [(0, .ref (ad 0)), (1, .int a1), (2, .int a2)] []
  refine x_iconst X dX11_layKey_0 ki_0 ?_
  refine x_istore_n X (lv' := [(3, .int 0), (0, .ref (ad 0)), (1, .int a1), (2, .int a2)]) dX11_layKey_1 rfl (by decide) rfl ?_
  refine x_iconst X dX11_layKey_2 ki_0 ?_
  refine x_istore X (lv' := [(4, .int 0), (3, .int 0), (0, .ref (ad 0)), (1, .int a1), (2, .int a2)]) dX11_layKey_3 (by decide) rfl ?_
  refine x_iconst X dX11_layKey_5 ki_0 ?_
  refine x_istore X (lv' := [(5, .int 0), (4, .int 0), (3, .int 0), (0, .ref (ad 0)), (1, .int a1), (2, .int a2)]) dX11_layKey_6 (by decide) rfl ?_
  refine x_sub X [3, 4, 5, 2, 1, 0] (lv' := [(0, .ref (ad 0)), (1, .int a1), (2, .int a2), (3, .int 0), (4, .int 0), (5, .int 0)]) rfl ?_
  exact x_l5_G (fun v1 v2 v3 v4 v5 σ τ => V σ τ 8 [(0, .ref (ad 0)), (1, .int v1), (2, .int v2), (3, .int v3), (4, .int v4), (5, .int v5)] []) (fun K8 hK8 v1 v2 v3 v4 v5 σ τ h => bX11_layKey_8 X hK8 h) h
theorem dX11_layPosition_0 : decode cX11_layPosition 0 = .ok (.aload_n 0, 1) := by decide +kernel
theorem dX11_layPosition_1 : decode cX11_layPosition 1 = .ok (.getfield 32, 3) := by decide +kernel
theorem dX11_layPosition_4 : decode cX11_layPosition 4 = .ok (.iload_n 1, 1) := by decide +kernel
theorem dX11_layPosition_5 : decode cX11_layPosition 5 = .ok (.iload_n 2, 1) := by decide +kernel
theorem dX11_layPosition_6 : decode cX11_layPosition 6 = .ok (.invokestatic 111, 3) := by decide +kernel
theorem dX11_layPosition_9 : decode cX11_layPosition 9 = .ok (.iaload, 1) := by decide +kernel
theorem dX11_layPosition_10 : decode cX11_layPosition 10 = .ok (.istore_n 3, 1) := by decide +kernel
theorem dX11_layPosition_11 : decode cX11_layPosition 11 = .ok (.iconst 0, 1) := by decide +kernel
theorem dX11_layPosition_12 : decode cX11_layPosition 12 = .ok (.istore 4, 2) := by decide +kernel
theorem dX11_layPosition_14 : decode cX11_layPosition 14 = .ok (.iconst 0, 1) := by decide +kernel
theorem dX11_layPosition_15 : decode cX11_layPosition 15 = .ok (.istore 5, 2) := by decide +kernel
theorem dX11_layPosition_17 : decode cX11_layPosition 17 = .ok (.iload 5, 2) := by decide +kernel
theorem dX11_layPosition_19 : decode cX11_layPosition 19 = .ok (.aload_n 0, 1) := by decide +kernel
theorem dX11_layPosition_20 : decode cX11_layPosition 20 = .ok (.getfield 17, 3) := by decide +kernel
theorem dX11_layPosition_23 : decode cX11_layPosition 23 = .ok (.iconst 1, 1) := by decide +kernel
theorem dX11_layPosition_24 : decode cX11_layPosition 24 = .ok (.iaload, 1) := by decide +kernel
theorem dX11_layPosition_25 : decode cX11_layPosition 25 = .ok (.if_icmp .ge 76, 3) := by decide +kernel
theorem dX11_layPosition_28 : decode cX11_layPosition 28 = .ok (.aload_n 0, 1) := by decide +kernel
theorem dX11_layPosition_29 : decode cX11_layPosition 29 = .ok (.iload_n 1, 1) := by decide +kernel
theorem dX11_layPosition_30 : decode cX11_layPosition 30 = .ok (.iload_n 2, 1) := by decide +kernel
theorem dX11_layPosition_31 : decode cX11_layPosition 31 = .ok (.iload 5, 2) := by decide +kernel
theorem dX11_layPosition_33 : decode cX11_layPosition 33 = .ok (.invokevirtual 137, 3) := by decide +kernel
theorem dX11_layPosition_36 : decode cX11_layPosition 36 = .ok (.istore 6, 2) := by decide +kernel
theorem dX11_layPosition_38 : decode cX11_layPosition 38 = .ok (.iload 6, 2) := by decide +kernel
theorem dX11_layPosition_40 : decode cX11_layPosition 40 = .ok (.iconst (-1), 1) := by decide +kernel
theorem dX11_layPosition_41 : decode cX11_layPosition 41 = .ok (.if_icmp .eq 54, 3) := by decide +kernel
theorem dX11_layPosition_44 : decode cX11_layPosition 44 = .ok (.iload 5, 2) := by decide +kernel
theorem dX11_layPosition_46 : decode cX11_layPosition 46 = .ok (.iload_n 1, 1) := by decide +kernel
theorem dX11_layPosition_47 : decode cX11_layPosition 47 = .ok (.if_icmp .ne 6, 3) := by decide +kernel
theorem dX11_layPosition_50 : decode cX11_layPosition 50 = .ok (.goto 45, 3) := by decide +kernel
theorem dX11_layPosition_53 : decode cX11_layPosition 53 = .ok (.aload_n 0, 1) := by decide +kernel
theorem dX11_layPosition_54 : decode cX11_layPosition 54 = .ok (.getfield 32, 3) := by decide +kernel
theorem dX11_layPosition_57 : decode cX11_layPosition 57 = .ok (.iload 5, 2) := by decide +kernel
theorem dX11_layPosition_59 : decode cX11_layPosition 59 = .ok (.iload 6, 2) := by decide +kernel
theorem dX11_layPosition_61 : decode cX11_layPosition 61 = .ok (.invokestatic 111, 3) := by decide +kernel
theorem dX11_layPosition_64 : decode cX11_layPosition 64 = .ok (.iaload, 1) := by decide +kernel
theorem dX11_layPosition_65 : decode cX11_layPosition 65 = .ok (.istore 7, 2) := by decide +kernel
theorem dX11_layPosition_67 : decode cX11_layPosition 67 = .ok (.iload 4, 2) := by decide +kernel
theorem dX11_layPosition_69 : decode cX11_layPosition 69 = .ok (.iload 7, 2) := by decide +kernel
theorem dX11_layPosition_71 : decode cX11_layPosition 71 = .ok (.iload_n 3, 1) := by decide +kernel
theorem dX11_layPosition_72 : decode cX11_layPosition 72 = .ok (.if_icmp .gt 15, 3) := by decide +kernel
theorem dX11_layPosition_75 : decode cX11_layPosition 75 = .ok (.iload 7, 2) := by decide +kernel
theorem dX11_layPosition_77 : decode cX11_layPosition 77 = .ok (.iload_n 3, 1) := by decide +kernel
theorem dX11_layPosition_78 : decode cX11_layPosition 78 = .ok (.if_icmp .ne 13, 3) := by decide +kernel
theorem dX11_layPosition_81 : decode cX11_layPosition 81 = .ok (.iload 5, 2) := by decide +kernel
theorem dX11_layPosition_83 : decode cX11_layPosition 83 = .ok (.iload_n 1, 1) := by decide +kernel
theorem dX11_layPosition_84 : decode cX11_layPosition 84 = .ok (.if_icmp .ge 7, 3) := by decide +kernel
theorem dX11_layPosition_87 : decode cX11_layPosition 87 = .ok (.iconst 1, 1) := by decide +kernel
theorem dX11_layPosition_88 : decode cX11_layPosition 88 = .ok (.goto 4, 3) := by decide +kernel
theorem dX11_layPosition_91 : decode cX11_layPosition 91 = .ok (.iconst 0, 1) := by decide +kernel
theorem dX11_layPosition_92 : decode cX11_layPosition 92 = .ok (.iadd, 1) := by decide +kernel
theorem dX11_layPosition_93 : decode cX11_layPosition 93 = .ok (.istore 4, 2) := by decide +kernel
theorem dX11_layPosition_95 : decode cX11_layPosition 95 = .ok (.iinc 5 1, 3) := by decide +kernel
theorem dX11_layPosition_98 : decode cX11_layPosition 98 = .ok (.goto (-81), 3) := by decide +kernel
theorem dX11_layPosition_101 : decode cX11_layPosition 101 = .ok (.aload_n 0, 1) := by decide +kernel
theorem dX11_layPosition_102 : decode cX11_layPosition 102 = .ok (.getfield 35, 3) := by decide +kernel
theorem dX11_layPosition_105 : decode cX11_layPosition 105 = .ok (.iload_n 1, 1) := by decide +kernel
theorem dX11_layPosition_106 : decode cX11_layPosition 106 = .ok (.iload_n 2, 1) := by decide +kernel
theorem dX11_layPosition_107 : decode cX11_layPosition 107 = .ok (.invokestatic 111, 3) := by decide +kernel
theorem dX11_layPosition_110 : decode cX11_layPosition 110 = .ok (.iload 4, 2) := by decide +kernel
theorem dX11_layPosition_112 : decode cX11_layPosition 112 = .ok (.iastore, 1) := by decide +kernel
theorem dX11_layPosition_113 : decode cX11_layPosition 113 = .ok (.return_, 1) := by decide +kernel
theorem cm_X11_layPosition : x_CM yX11_layPosition cX11_layPosition 8 (Option.none : Option Jvm.ClassFile.FieldType) 2 := ⟨w_7_170, w_1_12, by decide +kernel, by decide +kernel⟩
theorem ci_X11_layPosition : x_CI yX11_layPosition 13 := ⟨w_7_169, wp_57, (RX11, TX11, 41), rfl, rfl⟩
set_option maxRecDepth 100000 in
set_option maxHeartbeats 4000000 in
theorem bX11_layPosition_95 {V : x_J} {ad : Nat → Nat} {Q : x_S → x_L → Prop} (X : x_Is V cX11_layPosition 8 RX11 (Option.none : Option Jvm.ClassFile.FieldType) ad dsM 2 (x_PV Q)) {K17 : Int32 → Int32 → Int32 → Int32 → Int32 → x_S → x_L → Prop} (hK17 : ∀ v1 v2 v3 v4 v5 σ τ, K17 v1 v2 v3 v4 v5 σ τ → V σ τ 17 [(0, .ref (ad 0)), (1, .int v1), (2, .int v2), (3, .int v3), (4, .int v4), (5, .int v5)] []) {v1 : Int32} {v2 : Int32} {v3 : Int32} {v4 : Int32} {v5 : Int32} {σ : x_S} {τ : x_L} (h : wX11_layPosition_95 K17 Q v1 v2 v3 v4 v5 σ τ) : V σ τ 95 [(0, .ref (ad 0)), (1, .int v1), (2, .int v2), (3, .int v3), (4, .int v4), (5, .int v5)] [] := by
  refine x_iinc X (k := 5) (lv' := [(5, .int (v5 + 1)), (0, .ref (ad 0)), (1, .int v1), (2, .int v2), (3, .int v3), (4, .int v4)]) dX11_layPosition_95 rfl ki_1 (by decide) rfl ?_
  refine x_goto X (tgt := 17) dX11_layPosition_98 (by decide) ?_
  refine x_sub X [1, 2, 3, 4, 5, 0] (lv' := [(0, .ref (ad 0)), (1, .int v1), (2, .int v2), (3, .int v3), (4, .int v4), (5, .int (v5 + 1))]) rfl ?_
  exact hK17 _ _ _ _ _ _ _ h
set_option maxRecDepth 100000 in
set_option maxHeartbeats 4000000 in
theorem bX11_layPosition_92 {V : x_J} {ad : Nat → Nat} {Q : x_S → x_L → Prop} (X : x_Is V cX11_layPosition 8 RX11 (Option.none : Option Jvm.ClassFile.FieldType) ad dsM 2 (x_PV Q)) {K17 : Int32 → Int32 → Int32 → Int32 → Int32 → x_S → x_L → Prop} (hK17 : ∀ v1 v2 v3 v4 v5 σ τ, K17 v1 v2 v3 v4 v5 σ τ → V σ τ 17 [(0, .ref (ad 0)), (1, .int v1), (2, .int v2), (3, .int v3), (4, .int v4), (5, .int v5)] []) {v1 : Int32} {v2 : Int32} {v3 : Int32} {v5 : Int32} {s0 : Int32} {s1 : Int32} {σ : x_S} {τ : x_L} (h : wX11_layPosition_92 K17 Q v1 v2 v3 v5 s0 s1 σ τ) : V σ τ 92 [(0, .ref (ad 0)), (1, .int v1), (2, .int v2), (3, .int v3), (5, .int v5)] [.int s1, .int s0] := by
  refine x_iadd X dX11_layPosition_92 ?_
  refine x_istore X (lv' := [(4, .int (s0 + s1)), (0, .ref (ad 0)), (1, .int v1), (2, .int v2), (3, .int v3), (5, .int v5)]) dX11_layPosition_93 (by decide) rfl ?_
  refine x_sub X [1, 2, 3, 4, 0, 5] (lv' := [(0, .ref (ad 0)), (1, .int v1), (2, .int v2), (3, .int v3), (4, .int (s0 + s1)), (5, .int v5)]) rfl ?_
  exact bX11_layPosition_95 X hK17 h
set_option maxRecDepth 100000 in
set_option maxHeartbeats 4000000 in
theorem bX11_layPosition_87 {V : x_J} {ad : Nat → Nat} {Q : x_S → x_L → Prop} (X : x_Is V cX11_layPosition 8 RX11 (Option.none : Option Jvm.ClassFile.FieldType) ad dsM 2 (x_PV Q)) {K17 : Int32 → Int32 → Int32 → Int32 → Int32 → x_S → x_L → Prop} (hK17 : ∀ v1 v2 v3 v4 v5 σ τ, K17 v1 v2 v3 v4 v5 σ τ → V σ τ 17 [(0, .ref (ad 0)), (1, .int v1), (2, .int v2), (3, .int v3), (4, .int v4), (5, .int v5)] []) {v1 : Int32} {v2 : Int32} {v3 : Int32} {v5 : Int32} {s0 : Int32} {σ : x_S} {τ : x_L} (h : wX11_layPosition_87 K17 Q v1 v2 v3 v5 s0 σ τ) : V σ τ 87 [(0, .ref (ad 0)), (1, .int v1), (2, .int v2), (3, .int v3), (5, .int v5)] [.int s0] := by
  refine x_iconst X dX11_layPosition_87 ki_1 ?_
  refine x_goto X (tgt := 92) dX11_layPosition_88 (by decide) ?_
  exact bX11_layPosition_92 X hK17 h
set_option maxRecDepth 100000 in
set_option maxHeartbeats 4000000 in
theorem bX11_layPosition_91 {V : x_J} {ad : Nat → Nat} {Q : x_S → x_L → Prop} (X : x_Is V cX11_layPosition 8 RX11 (Option.none : Option Jvm.ClassFile.FieldType) ad dsM 2 (x_PV Q)) {K17 : Int32 → Int32 → Int32 → Int32 → Int32 → x_S → x_L → Prop} (hK17 : ∀ v1 v2 v3 v4 v5 σ τ, K17 v1 v2 v3 v4 v5 σ τ → V σ τ 17 [(0, .ref (ad 0)), (1, .int v1), (2, .int v2), (3, .int v3), (4, .int v4), (5, .int v5)] []) {v1 : Int32} {v2 : Int32} {v3 : Int32} {v5 : Int32} {s0 : Int32} {σ : x_S} {τ : x_L} (h : wX11_layPosition_91 K17 Q v1 v2 v3 v5 s0 σ τ) : V σ τ 91 [(0, .ref (ad 0)), (1, .int v1), (2, .int v2), (3, .int v3), (5, .int v5)] [.int s0] := by
  refine x_iconst X dX11_layPosition_91 ki_0 ?_
  exact bX11_layPosition_92 X hK17 h
set_option maxRecDepth 100000 in
set_option maxHeartbeats 4000000 in
theorem bX11_layPosition_17 {V : x_J} {ad : Nat → Nat} {Q : x_S → x_L → Prop} (X : x_Is V cX11_layPosition 8 RX11 (Option.none : Option Jvm.ClassFile.FieldType) ad dsM 2 (x_PV Q)) {K17 : Int32 → Int32 → Int32 → Int32 → Int32 → x_S → x_L → Prop} (hK17 : ∀ v1 v2 v3 v4 v5 σ τ, K17 v1 v2 v3 v4 v5 σ τ → V σ τ 17 [(0, .ref (ad 0)), (1, .int v1), (2, .int v2), (3, .int v3), (4, .int v4), (5, .int v5)] []) {v1 : Int32} {v2 : Int32} {v3 : Int32} {v4 : Int32} {v5 : Int32} {σ : x_S} {τ : x_L} (h : wX11_layPosition_17 Q K17 v1 v2 v3 v4 v5 σ τ) : V σ τ 17 [(0, .ref (ad 0)), (1, .int v1), (2, .int v2), (3, .int v3), (4, .int v4), (5, .int v5)] [] := by
  refine x_iload X dX11_layPosition_17 5 rfl ?_
  refine x_aload_n X dX11_layPosition_19 rfl 0 rfl ?_
  refine x_getR X (j := 3) dX11_layPosition_20 fl_11_17 dsM_0 rfl ?_
  refine x_iconst X dX11_layPosition_23 ki_1 ?_
  refine x_iald X dX11_layPosition_24 dsM_3 (x_inl (by decide)) ?_
  refine x_icmp_ge X 101 dX11_layPosition_25 (by decide) (fun hc => ?_) (fun hc => ?_)
  · have h := h.1 hc
    refine x_aload_n X dX11_layPosition_101 rfl 0 rfl ?_
    refine x_getR X (j := 9) dX11_layPosition_102 fl_11_35 dsM_0 rfl ?_
    refine x_iload_n X dX11_layPosition_105 rfl 1 rfl ?_
    refine x_iload_n X dX11_layPosition_106 rfl 2 rfl ?_
    refine x_callSi X [.int v1, .int v2] [.ref (ad 9)] dX11_layPosition_107 (kX11_spot h) cm_X11_spot w_7_118 rfl w_7_117 ⟨by decide, by decide⟩ rfl (Nat.le_of_ble_eq_true rfl) (fun r107 σ107 τ107 h => ?_)
    refine x_iload X dX11_layPosition_110 4 rfl ?_
    have g112 := h.1
    have h := h.2
    refine x_iast X dX11_layPosition_112 dsM_9 g112 ?_
    exact x_vret X dX11_layPosition_113 ⟨rfl, h⟩
  · have h := h.2 hc
    refine x_aload_n X dX11_layPosition_28 rfl 0 rfl ?_
    refine x_iload_n X dX11_layPosition_29 rfl 1 rfl ?_
    refine x_iload_n X dX11_layPosition_30 rfl 2 rfl ?_
    refine x_iload X dX11_layPosition_31 5 rfl ?_
    refine x_callVi X [.int v1, .int v2, .int v5] [] dX11_layPosition_33 (kX11_mateOf h) cm_X11_mateOf ci_X11_mateOf w_7_156 dsM_0 ⟨by decide, by decide⟩ rfl (Nat.le_of_ble_eq_true rfl) (fun r33 σ33 τ33 h => ?_)
    refine x_istore X (lv' := [(6, .int r33), (0, .ref (ad 0)), (1, .int v1), (2, .int v2), (3, .int v3), (4, .int v4), (5, .int v5)]) dX11_layPosition_36 (by decide) rfl ?_
    refine x_iload X dX11_layPosition_38 0 rfl ?_
    refine x_iconst X dX11_layPosition_40 ki_m1 ?_
    refine x_icmp_eq X 95 dX11_layPosition_41 (by decide) (fun hc => ?_) (fun hc => ?_)
    · have h := h.1 hc
      refine x_sub X [1, 2, 3, 4, 5, 6] (lv' := [(0, .ref (ad 0)), (1, .int v1), (2, .int v2), (3, .int v3), (4, .int v4), (5, .int v5)]) rfl ?_
      exact bX11_layPosition_95 X hK17 h
    · have h := h.2 hc
      refine x_iload X dX11_layPosition_44 6 rfl ?_
      refine x_iload_n X dX11_layPosition_46 rfl 2 rfl ?_
      refine x_icmp_ne X 53 dX11_layPosition_47 (by decide) (fun hc => ?_) (fun hc => ?_)
      · have h := h.1 hc
        refine x_aload_n X dX11_layPosition_53 rfl 1 rfl ?_
        refine x_getR X (j := 8) dX11_layPosition_54 fl_11_32 dsM_0 rfl ?_
        refine x_iload X dX11_layPosition_57 6 rfl ?_
        refine x_iload X dX11_layPosition_59 0 rfl ?_
        refine x_callSi X [.int v5, .int r33] [.ref (ad 8)] dX11_layPosition_61 (kX11_spot h) cm_X11_spot w_7_118 rfl w_7_117 ⟨by decide, by decide⟩ rfl (Nat.le_of_ble_eq_true rfl) (fun r61 σ61 τ61 h => ?_)
        have g64 := h.1
        have h := h.2
        refine x_iald X dX11_layPosition_64 dsM_8 g64 ?_
        refine x_istore X (lv' := [(7, .int (σ61 8 r61.toNatClampNeg)), (6, .int r33), (0, .ref (ad 0)), (1, .int v1), (2, .int v2), (3, .int v3), (4, .int v4), (5, .int v5)]) dX11_layPosition_65 (by decide) rfl ?_
        refine x_iload X dX11_layPosition_67 6 rfl ?_
        refine x_iload X dX11_layPosition_69 0 rfl ?_
        refine x_iload_n X dX11_layPosition_71 rfl 5 rfl ?_
        refine x_icmp_gt X 87 dX11_layPosition_72 (by decide) (fun hc => ?_) (fun hc => ?_)
        · have h := h.1 hc
          refine x_sub X [2, 3, 4, 5, 7] (lv' := [(0, .ref (ad 0)), (1, .int v1), (2, .int v2), (3, .int v3), (5, .int v5)]) rfl ?_
          exact bX11_layPosition_87 X hK17 h
        · have h := h.2 hc
          refine x_iload X dX11_layPosition_75 0 rfl ?_
          refine x_iload_n X dX11_layPosition_77 rfl 5 rfl ?_
          refine x_icmp_ne X 91 dX11_layPosition_78 (by decide) (fun hc => ?_) (fun hc => ?_)
          · have h := h.1 hc
            refine x_sub X [2, 3, 4, 5, 7] (lv' := [(0, .ref (ad 0)), (1, .int v1), (2, .int v2), (3, .int v3), (5, .int v5)]) rfl ?_
            exact bX11_layPosition_91 X hK17 h
          · have h := h.2 hc
            refine x_iload X dX11_layPosition_81 7 rfl ?_
            refine x_iload_n X dX11_layPosition_83 rfl 3 rfl ?_
            refine x_icmp_ge X 91 dX11_layPosition_84 (by decide) (fun hc => ?_) (fun hc => ?_)
            · have h := h.1 hc
              refine x_sub X [2, 3, 4, 5, 7] (lv' := [(0, .ref (ad 0)), (1, .int v1), (2, .int v2), (3, .int v3), (5, .int v5)]) rfl ?_
              exact bX11_layPosition_91 X hK17 h
            · have h := h.2 hc
              refine x_sub X [2, 3, 4, 5, 7] (lv' := [(0, .ref (ad 0)), (1, .int v1), (2, .int v2), (3, .int v3), (5, .int v5)]) rfl ?_
              exact bX11_layPosition_87 X hK17 h
      · have h := h.2 hc
        refine x_goto X (tgt := 95) dX11_layPosition_50 (by decide) ?_
        refine x_sub X [1, 2, 3, 4, 5, 6] (lv' := [(0, .ref (ad 0)), (1, .int v1), (2, .int v2), (3, .int v3), (4, .int v4), (5, .int v5)]) rfl ?_
        exact bX11_layPosition_95 X hK17 h
set_option maxRecDepth 100000 in
set_option maxHeartbeats 4000000 in
theorem kX11_layPosition {ad : Nat → Nat} {a1 : Int32} {a2 : Int32} {σ : x_S} {τ : x_L} {Q : x_S → x_L → Prop} (h : wX11_layPosition a1 a2 σ τ Q) : x_Met yX11_layPosition cX11_layPosition 8 (Option.none : Option Jvm.ClassFile.FieldType) 2 ad dsM [.ref (ad 0), .int a1, .int a2] σ τ (x_PV Q) := by
  refine x_met (by decide +kernel) (Nat.le_of_ble_eq_true rfl) (fun V X => ?_)
  have X : x_Is V cX11_layPosition 8 RX11 (Option.none : Option Jvm.ClassFile.FieldType) ad dsM 2 (x_PV Q) := X
  show V σ τ 0 [(0, .ref (ad 0)), (1, .int a1), (2, .int a2)] []
  refine x_aload_n X dX11_layPosition_0 rfl 0 rfl ?_
  refine x_getR X (j := 8) dX11_layPosition_1 fl_11_32 dsM_0 rfl ?_
  refine x_iload_n X dX11_layPosition_4 rfl 1 rfl ?_
  refine x_iload_n X dX11_layPosition_5 rfl 2 rfl ?_
  refine x_callSi X [.int a1, .int a2] [.ref (ad 8)] dX11_layPosition_6 (kX11_spot h) cm_X11_spot w_7_118 rfl w_7_117 ⟨by decide, by decide⟩ rfl (Nat.le_of_ble_eq_true rfl) (fun r6 σ6 τ6 h => ?_)
  have g9 := h.1
  have h := h.2
  refine x_iald X dX11_layPosition_9 dsM_8 g9 ?_
  refine x_istore_n X (lv' := [(3, .int (σ6 8 r6.toNatClampNeg)), (0, .ref (ad 0)), (1, .int a1), (2, .int a2)]) dX11_layPosition_10 rfl (by decide) rfl ?_
  refine x_iconst X dX11_layPosition_11 ki_0 ?_
  refine x_istore X (lv' := [(4, .int 0), (3, .int (σ6 8 r6.toNatClampNeg)), (0, .ref (ad 0)), (1, .int a1), (2, .int a2)]) dX11_layPosition_12 (by decide) rfl ?_
  refine x_iconst X dX11_layPosition_14 ki_0 ?_
  refine x_istore X (lv' := [(5, .int 0), (4, .int 0), (3, .int (σ6 8 r6.toNatClampNeg)), (0, .ref (ad 0)), (1, .int a1), (2, .int a2)]) dX11_layPosition_15 (by decide) rfl ?_
  refine x_sub X [3, 4, 5, 2, 1, 0] (lv' := [(0, .ref (ad 0)), (1, .int a1), (2, .int a2), (3, .int (σ6 8 r6.toNatClampNeg)), (4, .int 0), (5, .int 0)]) rfl ?_
  exact x_l5_G (fun v1 v2 v3 v4 v5 σ τ => V σ τ 17 [(0, .ref (ad 0)), (1, .int v1), (2, .int v2), (3, .int v3), (4, .int v4), (5, .int v5)] []) (fun K17 hK17 v1 v2 v3 v4 v5 σ τ h => bX11_layPosition_17 X hK17 h) h
theorem dX11_memberAt_0 : decode cX11_memberAt 0 = .ok (.iconst 0, 1) := by decide +kernel
theorem dX11_memberAt_1 : decode cX11_memberAt 1 = .ok (.istore 4, 2) := by decide +kernel
theorem dX11_memberAt_3 : decode cX11_memberAt 3 = .ok (.iload 4, 2) := by decide +kernel
theorem dX11_memberAt_5 : decode cX11_memberAt 5 = .ok (.aload_n 0, 1) := by decide +kernel
theorem dX11_memberAt_6 : decode cX11_memberAt 6 = .ok (.getfield 17, 3) := by decide +kernel
theorem dX11_memberAt_9 : decode cX11_memberAt 9 = .ok (.iconst 1, 1) := by decide +kernel
theorem dX11_memberAt_10 : decode cX11_memberAt 10 = .ok (.iaload, 1) := by decide +kernel
theorem dX11_memberAt_11 : decode cX11_memberAt 11 = .ok (.if_icmp .ge 44, 3) := by decide +kernel
theorem dX11_memberAt_14 : decode cX11_memberAt 14 = .ok (.aload_n 0, 1) := by decide +kernel
theorem dX11_memberAt_15 : decode cX11_memberAt 15 = .ok (.iload_n 1, 1) := by decide +kernel
theorem dX11_memberAt_16 : decode cX11_memberAt 16 = .ok (.iload_n 2, 1) := by decide +kernel
theorem dX11_memberAt_17 : decode cX11_memberAt 17 = .ok (.iload 4, 2) := by decide +kernel
theorem dX11_memberAt_19 : decode cX11_memberAt 19 = .ok (.invokevirtual 137, 3) := by decide +kernel
theorem dX11_memberAt_22 : decode cX11_memberAt 22 = .ok (.istore 5, 2) := by decide +kernel
theorem dX11_memberAt_24 : decode cX11_memberAt 24 = .ok (.iload 5, 2) := by decide +kernel
theorem dX11_memberAt_26 : decode cX11_memberAt 26 = .ok (.iconst (-1), 1) := by decide +kernel
theorem dX11_memberAt_27 : decode cX11_memberAt 27 = .ok (.if_icmp .eq 22, 3) := by decide +kernel
theorem dX11_memberAt_30 : decode cX11_memberAt 30 = .ok (.aload_n 0, 1) := by decide +kernel
theorem dX11_memberAt_31 : decode cX11_memberAt 31 = .ok (.getfield 35, 3) := by decide +kernel
theorem dX11_memberAt_34 : decode cX11_memberAt 34 = .ok (.iload 4, 2) := by decide +kernel
theorem dX11_memberAt_36 : decode cX11_memberAt 36 = .ok (.iload 5, 2) := by decide +kernel
theorem dX11_memberAt_38 : decode cX11_memberAt 38 = .ok (.invokestatic 111, 3) := by decide +kernel
theorem dX11_memberAt_41 : decode cX11_memberAt 41 = .ok (.iaload, 1) := by decide +kernel
theorem dX11_memberAt_42 : decode cX11_memberAt 42 = .ok (.iload_n 3, 1) := by decide +kernel
theorem dX11_memberAt_43 : decode cX11_memberAt 43 = .ok (.if_icmp .ne 6, 3) := by decide +kernel
theorem dX11_memberAt_46 : decode cX11_memberAt 46 = .ok (.iload 4, 2) := by decide +kernel
theorem dX11_memberAt_48 : decode cX11_memberAt 48 = .ok (.ireturn, 1) := by decide +kernel
theorem dX11_memberAt_49 : decode cX11_memberAt 49 = .ok (.iinc 4 1, 3) := by decide +kernel
theorem dX11_memberAt_52 : decode cX11_memberAt 52 = .ok (.goto (-49), 3) := by decide +kernel
theorem dX11_memberAt_55 : decode cX11_memberAt 55 = .ok (.iconst (-1), 1) := by decide +kernel
theorem dX11_memberAt_56 : decode cX11_memberAt 56 = .ok (.ireturn, 1) := by decide +kernel
theorem cm_X11_memberAt : x_CM yX11_memberAt cX11_memberAt 6 (Option.some FieldType.int) 3 := ⟨w_7_182, w_1_12, by decide +kernel, by decide +kernel⟩
theorem ci_X11_memberAt : x_CI yX11_memberAt 13 := ⟨w_7_181, wp_60, (RX11, TX11, 41), rfl, rfl⟩
set_option maxRecDepth 100000 in
set_option maxHeartbeats 4000000 in
theorem bX11_memberAt_49 {V : x_J} {ad : Nat → Nat} {Q : Int32 → x_S → x_L → Prop} (X : x_Is V cX11_memberAt 6 RX11 (Option.some FieldType.int) ad dsM 2 (x_PI Q)) {K3 : Int32 → Int32 → Int32 → Int32 → x_S → x_L → Prop} (hK3 : ∀ v1 v2 v3 v4 σ τ, K3 v1 v2 v3 v4 σ τ → V σ τ 3 [(0, .ref (ad 0)), (1, .int v1), (2, .int v2), (3, .int v3), (4, .int v4)] []) {v1 : Int32} {v2 : Int32} {v3 : Int32} {v4 : Int32} {σ : x_S} {τ : x_L} (h : wX11_memberAt_49 K3 Q v1 v2 v3 v4 σ τ) : V σ τ 49 [(0, .ref (ad 0)), (1, .int v1), (2, .int v2), (3, .int v3), (4, .int v4)] [] := by
  refine x_iinc X (k := 4) (lv' := [(4, .int (v4 + 1)), (0, .ref (ad 0)), (1, .int v1), (2, .int v2), (3, .int v3)]) dX11_memberAt_49 rfl ki_1 (by decide) rfl ?_
  refine x_goto X (tgt := 3) dX11_memberAt_52 (by decide) ?_
  refine x_sub X [1, 2, 3, 4, 0] (lv' := [(0, .ref (ad 0)), (1, .int v1), (2, .int v2), (3, .int v3), (4, .int (v4 + 1))]) rfl ?_
  exact hK3 _ _ _ _ _ _ h
set_option maxRecDepth 100000 in
set_option maxHeartbeats 4000000 in
theorem bX11_memberAt_3 {V : x_J} {ad : Nat → Nat} {Q : Int32 → x_S → x_L → Prop} (X : x_Is V cX11_memberAt 6 RX11 (Option.some FieldType.int) ad dsM 2 (x_PI Q)) {K3 : Int32 → Int32 → Int32 → Int32 → x_S → x_L → Prop} (hK3 : ∀ v1 v2 v3 v4 σ τ, K3 v1 v2 v3 v4 σ τ → V σ τ 3 [(0, .ref (ad 0)), (1, .int v1), (2, .int v2), (3, .int v3), (4, .int v4)] []) {v1 : Int32} {v2 : Int32} {v3 : Int32} {v4 : Int32} {σ : x_S} {τ : x_L} (h : wX11_memberAt_3 Q K3 v1 v2 v3 v4 σ τ) : V σ τ 3 [(0, .ref (ad 0)), (1, .int v1), (2, .int v2), (3, .int v3), (4, .int v4)] [] := by
  refine x_iload X dX11_memberAt_3 4 rfl ?_
  refine x_aload_n X dX11_memberAt_5 rfl 0 rfl ?_
  refine x_getR X (j := 3) dX11_memberAt_6 fl_11_17 dsM_0 rfl ?_
  refine x_iconst X dX11_memberAt_9 ki_1 ?_
  refine x_iald X dX11_memberAt_10 dsM_3 (x_inl (by decide)) ?_
  refine x_icmp_ge X 55 dX11_memberAt_11 (by decide) (fun hc => ?_) (fun hc => ?_)
  · have h := h.1 hc
    refine x_iconst X dX11_memberAt_55 ki_m1 ?_
    exact x_iret X dX11_memberAt_56 ⟨_, rfl, h⟩
  · have h := h.2 hc
    refine x_aload_n X dX11_memberAt_14 rfl 0 rfl ?_
    refine x_iload_n X dX11_memberAt_15 rfl 1 rfl ?_
    refine x_iload_n X dX11_memberAt_16 rfl 2 rfl ?_
    refine x_iload X dX11_memberAt_17 4 rfl ?_
    refine x_callVi X [.int v1, .int v2, .int v4] [] dX11_memberAt_19 (kX11_mateOf h) cm_X11_mateOf ci_X11_mateOf w_7_156 dsM_0 ⟨by decide, by decide⟩ rfl (Nat.le_of_ble_eq_true rfl) (fun r19 σ19 τ19 h => ?_)
    refine x_istore X (lv' := [(5, .int r19), (0, .ref (ad 0)), (1, .int v1), (2, .int v2), (3, .int v3), (4, .int v4)]) dX11_memberAt_22 (by decide) rfl ?_
    refine x_iload X dX11_memberAt_24 0 rfl ?_
    refine x_iconst X dX11_memberAt_26 ki_m1 ?_
    refine x_icmp_eq X 49 dX11_memberAt_27 (by decide) (fun hc => ?_) (fun hc => ?_)
    · have h := h.1 hc
      refine x_sub X [1, 2, 3, 4, 5] (lv' := [(0, .ref (ad 0)), (1, .int v1), (2, .int v2), (3, .int v3), (4, .int v4)]) rfl ?_
      exact bX11_memberAt_49 X hK3 h
    · have h := h.2 hc
      refine x_aload_n X dX11_memberAt_30 rfl 1 rfl ?_
      refine x_getR X (j := 9) dX11_memberAt_31 fl_11_35 dsM_0 rfl ?_
      refine x_iload X dX11_memberAt_34 5 rfl ?_
      refine x_iload X dX11_memberAt_36 0 rfl ?_
      refine x_callSi X [.int v4, .int r19] [.ref (ad 9)] dX11_memberAt_38 (kX11_spot h) cm_X11_spot w_7_118 rfl w_7_117 ⟨by decide, by decide⟩ rfl (Nat.le_of_ble_eq_true rfl) (fun r38 σ38 τ38 h => ?_)
      have g41 := h.1
      have h := h.2
      refine x_iald X dX11_memberAt_41 dsM_9 g41 ?_
      refine x_iload_n X dX11_memberAt_42 rfl 4 rfl ?_
      refine x_icmp_ne X 49 dX11_memberAt_43 (by decide) (fun hc => ?_) (fun hc => ?_)
      · have h := h.1 hc
        refine x_sub X [1, 2, 3, 4, 5] (lv' := [(0, .ref (ad 0)), (1, .int v1), (2, .int v2), (3, .int v3), (4, .int v4)]) rfl ?_
        exact bX11_memberAt_49 X hK3 h
      · have h := h.2 hc
        refine x_iload X dX11_memberAt_46 5 rfl ?_
        exact x_iret X dX11_memberAt_48 ⟨_, rfl, h⟩
set_option maxRecDepth 100000 in
set_option maxHeartbeats 4000000 in
theorem kX11_memberAt {ad : Nat → Nat} {a1 : Int32} {a2 : Int32} {a3 : Int32} {σ : x_S} {τ : x_L} {Q : Int32 → x_S → x_L → Prop} (h : wX11_memberAt a1 a2 a3 σ τ Q) : x_Met yX11_memberAt cX11_memberAt 6 (Option.some FieldType.int) 2 ad dsM [.ref (ad 0), .int a1, .int a2, .int a3] σ τ (x_PI Q) := by
  refine x_met (by decide +kernel) (Nat.le_of_ble_eq_true rfl) (fun V X => ?_)
  have X : x_Is V cX11_memberAt 6 RX11 (Option.some FieldType.int) ad dsM 2 (x_PI Q) := X
  show V σ τ 0 [(0, .ref (ad 0)), (1, .int a1), (2, .int a2), (3, .int a3)] []
  refine x_iconst X dX11_memberAt_0 ki_0 ?_
  refine x_istore X (lv' := [(4, .int 0), (0, .ref (ad 0)), (1, .int a1), (2, .int a2), (3, .int a3)]) dX11_memberAt_1 (by decide) rfl ?_
  refine x_sub X [1, 2, 3, 4, 0] (lv' := [(0, .ref (ad 0)), (1, .int a1), (2, .int a2), (3, .int a3), (4, .int 0)]) rfl ?_
  exact x_l4_G (fun v1 v2 v3 v4 σ τ => V σ τ 3 [(0, .ref (ad 0)), (1, .int v1), (2, .int v2), (3, .int v3), (4, .int v4)] []) (fun K3 hK3 v1 v2 v3 v4 σ τ h => bX11_memberAt_3 X hK3 h) h
theorem dX11_distanceBehind_0 : decode cX11_distanceBehind 0 = .ok (.aload_n 0, 1) := by decide +kernel
theorem dX11_distanceBehind_1 : decode cX11_distanceBehind 1 = .ok (.aload_n 0, 1) := by decide +kernel
theorem dX11_distanceBehind_2 : decode cX11_distanceBehind 2 = .ok (.getfield 47, 3) := by decide +kernel
theorem dX11_distanceBehind_5 : decode cX11_distanceBehind 5 = .ok (.iload_n 1, 1) := by decide +kernel
theorem dX11_distanceBehind_6 : decode cX11_distanceBehind 6 = .ok (.iaload, 1) := by decide +kernel
theorem dX11_distanceBehind_7 : decode cX11_distanceBehind 7 = .ok (.iconst 2, 1) := by decide +kernel
theorem dX11_distanceBehind_8 : decode cX11_distanceBehind 8 = .ok (.invokevirtual 99, 3) := by decide +kernel
theorem dX11_distanceBehind_11 : decode cX11_distanceBehind 11 = .ok (.aload_n 0, 1) := by decide +kernel
theorem dX11_distanceBehind_12 : decode cX11_distanceBehind 12 = .ok (.aload_n 0, 1) := by decide +kernel
theorem dX11_distanceBehind_13 : decode cX11_distanceBehind 13 = .ok (.getfield 47, 3) := by decide +kernel
theorem dX11_distanceBehind_16 : decode cX11_distanceBehind 16 = .ok (.iload_n 1, 1) := by decide +kernel
theorem dX11_distanceBehind_17 : decode cX11_distanceBehind 17 = .ok (.iconst 1, 1) := by decide +kernel
theorem dX11_distanceBehind_18 : decode cX11_distanceBehind 18 = .ok (.isub, 1) := by decide +kernel
theorem dX11_distanceBehind_19 : decode cX11_distanceBehind 19 = .ok (.iaload, 1) := by decide +kernel
theorem dX11_distanceBehind_20 : decode cX11_distanceBehind 20 = .ok (.iconst 2, 1) := by decide +kernel
theorem dX11_distanceBehind_21 : decode cX11_distanceBehind 21 = .ok (.invokevirtual 99, 3) := by decide +kernel
theorem dX11_distanceBehind_24 : decode cX11_distanceBehind 24 = .ok (.invokestatic 145, 3) := by decide +kernel
theorem dX11_distanceBehind_27 : decode cX11_distanceBehind 27 = .ok (.ireturn, 1) := by decide +kernel
theorem cm_X11_distanceBehind : x_CM yX11_distanceBehind cX11_distanceBehind 2 (Option.some FieldType.int) 1 := ⟨w_7_186, w_1_12, by decide +kernel, by decide +kernel⟩
theorem ci_X11_distanceBehind : x_CI yX11_distanceBehind 13 := ⟨w_7_185, wp_61, (RX11, TX11, 41), rfl, rfl⟩
set_option maxRecDepth 100000 in
set_option maxHeartbeats 4000000 in
theorem kX11_distanceBehind {ad : Nat → Nat} {a1 : Int32} {σ : x_S} {τ : x_L} {Q : Int32 → x_S → x_L → Prop} (h : wX11_distanceBehind a1 σ τ Q) : x_Met yX11_distanceBehind cX11_distanceBehind 2 (Option.some FieldType.int) 1 ad dsM [.ref (ad 0), .int a1] σ τ (x_PI Q) := by
  refine x_met (by decide +kernel) (Nat.le_of_ble_eq_true rfl) (fun V X => ?_)
  have X : x_Is V cX11_distanceBehind 2 RX11 (Option.some FieldType.int) ad dsM 1 (x_PI Q) := X
  show V σ τ 0 [(0, .ref (ad 0)), (1, .int a1)] []
  refine x_aload_n X dX11_distanceBehind_0 rfl 0 rfl ?_
  refine x_aload_n X dX11_distanceBehind_1 rfl 0 rfl ?_
  refine x_getR X (j := 13) dX11_distanceBehind_2 fl_11_47 dsM_0 rfl ?_
  refine x_iload_n X dX11_distanceBehind_5 rfl 1 rfl ?_
  have g6 := h.1
  have h := h.2
  refine x_iald X dX11_distanceBehind_6 dsM_13 g6 ?_
  refine x_iconst X dX11_distanceBehind_7 ki_2 ?_
  refine x_callVi X [.int (σ 13 a1.toNatClampNeg), .int 2] [] dX11_distanceBehind_8 (kX11_ofTruck h) cm_X11_ofTruck ci_X11_ofTruck w_7_113 dsM_0 ⟨by decide, by decide⟩ rfl (Nat.le_of_ble_eq_true rfl) (fun r8 σ8 τ8 h => ?_)
  refine x_aload_n X dX11_distanceBehind_11 rfl 0 rfl ?_
  refine x_aload_n X dX11_distanceBehind_12 rfl 0 rfl ?_
  refine x_getR X (j := 13) dX11_distanceBehind_13 fl_11_47 dsM_0 rfl ?_
  refine x_iload_n X dX11_distanceBehind_16 rfl 1 rfl ?_
  refine x_iconst X dX11_distanceBehind_17 ki_1 ?_
  refine x_isub X dX11_distanceBehind_18 ?_
  have g19 := h.1
  have h := h.2
  refine x_iald X dX11_distanceBehind_19 dsM_13 g19 ?_
  refine x_iconst X dX11_distanceBehind_20 ki_2 ?_
  refine x_callVi X [.int (σ8 13 (a1 - 1).toNatClampNeg), .int 2] [.int r8] dX11_distanceBehind_21 (kX11_ofTruck h) cm_X11_ofTruck ci_X11_ofTruck w_7_113 dsM_0 ⟨by decide, by decide⟩ rfl (Nat.le_of_ble_eq_true rfl) (fun r21 σ21 τ21 h => ?_)
  refine x_callSi X [.int r8, .int r21] [] dX11_distanceBehind_24 (kX11_max h) cm_X11_max w_7_165 rfl w_7_164 ⟨by decide, by decide⟩ rfl (Nat.le_of_ble_eq_true rfl) (fun r24 σ24 τ24 h => ?_)
  exact x_iret X dX11_distanceBehind_27 ⟨_, rfl, h⟩
theorem dX11_shareOf_0 : decode cX11_shareOf 0 = .ok (.iconst 0, 1) := by decide +kernel
theorem dX11_shareOf_1 : decode cX11_shareOf 1 = .ok (.sipush 150, 3) := by decide +kernel
theorem dX11_shareOf_4 : decode cX11_shareOf 4 = .ok (.iconst 3, 1) := by decide +kernel
theorem dX11_shareOf_5 : decode cX11_shareOf 5 = .ok (.aload_n 0, 1) := by decide +kernel
theorem dX11_shareOf_6 : decode cX11_shareOf 6 = .ok (.iload_n 1, 1) := by decide +kernel
theorem dX11_shareOf_7 : decode cX11_shareOf 7 = .ok (.invokevirtual 148, 3) := by decide +kernel
theorem dX11_shareOf_10 : decode cX11_shareOf 10 = .ok (.imul, 1) := by decide +kernel
theorem dX11_shareOf_11 : decode cX11_shareOf 11 = .ok (.isub, 1) := by decide +kernel
theorem dX11_shareOf_12 : decode cX11_shareOf 12 = .ok (.invokestatic 145, 3) := by decide +kernel
theorem dX11_shareOf_15 : decode cX11_shareOf 15 = .ok (.ireturn, 1) := by decide +kernel
theorem cm_X11_shareOf : x_CM yX11_shareOf cX11_shareOf 2 (Option.some FieldType.int) 1 := ⟨w_7_198, w_1_12, by decide +kernel, by decide +kernel⟩
theorem ci_X11_shareOf : x_CI yX11_shareOf 13 := ⟨w_7_197, wp_64, (RX11, TX11, 41), rfl, rfl⟩
set_option maxRecDepth 100000 in
set_option maxHeartbeats 4000000 in
theorem kX11_shareOf {ad : Nat → Nat} {a1 : Int32} {σ : x_S} {τ : x_L} {Q : Int32 → x_S → x_L → Prop} (h : wX11_shareOf a1 σ τ Q) : x_Met yX11_shareOf cX11_shareOf 2 (Option.some FieldType.int) 2 ad dsM [.ref (ad 0), .int a1] σ τ (x_PI Q) := by
  refine x_met (by decide +kernel) (Nat.le_of_ble_eq_true rfl) (fun V X => ?_)
  have X : x_Is V cX11_shareOf 2 RX11 (Option.some FieldType.int) ad dsM 2 (x_PI Q) := X
  show V σ τ 0 [(0, .ref (ad 0)), (1, .int a1)] []
  refine x_iconst X dX11_shareOf_0 ki_0 ?_
  refine x_sipush X dX11_shareOf_1 ks_150 ?_
  refine x_iconst X dX11_shareOf_4 ki_3 ?_
  refine x_aload_n X dX11_shareOf_5 rfl 0 rfl ?_
  refine x_iload_n X dX11_shareOf_6 rfl 1 rfl ?_
  refine x_callVi X [.int a1] [.int 3, .int 150, .int 0] dX11_shareOf_7 (kX11_distanceBehind h) cm_X11_distanceBehind ci_X11_distanceBehind w_7_183 dsM_0 ⟨by decide, by decide⟩ rfl (Nat.le_of_ble_eq_true rfl) (fun r7 σ7 τ7 h => ?_)
  refine x_imul X dX11_shareOf_10 ?_
  refine x_isub X dX11_shareOf_11 ?_
  refine x_callSi X [.int 0, .int (150 - (3 * r7))] [] dX11_shareOf_12 (kX11_max h) cm_X11_max w_7_165 rfl w_7_164 ⟨by decide, by decide⟩ rfl (Nat.le_of_ble_eq_true rfl) (fun r12 σ12 τ12 h => ?_)
  exact x_iret X dX11_shareOf_15 ⟨_, rfl, h⟩
theorem dX11_savingOf_0 : decode cX11_savingOf 0 = .ok (.aload_n 0, 1) := by decide +kernel
theorem dX11_savingOf_1 : decode cX11_savingOf 1 = .ok (.aload_n 0, 1) := by decide +kernel
theorem dX11_savingOf_2 : decode cX11_savingOf 2 = .ok (.getfield 47, 3) := by decide +kernel
theorem dX11_savingOf_5 : decode cX11_savingOf 5 = .ok (.iload_n 1, 1) := by decide +kernel
theorem dX11_savingOf_6 : decode cX11_savingOf 6 = .ok (.iaload, 1) := by decide +kernel
theorem dX11_savingOf_7 : decode cX11_savingOf 7 = .ok (.aload_n 0, 1) := by decide +kernel
theorem dX11_savingOf_8 : decode cX11_savingOf 8 = .ok (.getfield 50, 3) := by decide +kernel
theorem dX11_savingOf_11 : decode cX11_savingOf 11 = .ok (.iload_n 1, 1) := by decide +kernel
theorem dX11_savingOf_12 : decode cX11_savingOf 12 = .ok (.iaload, 1) := by decide +kernel
theorem dX11_savingOf_13 : decode cX11_savingOf 13 = .ok (.invokevirtual 151, 3) := by decide +kernel
theorem dX11_savingOf_16 : decode cX11_savingOf 16 = .ok (.istore_n 3, 1) := by decide +kernel
theorem dX11_savingOf_17 : decode cX11_savingOf 17 = .ok (.iload_n 1, 1) := by decide +kernel
theorem dX11_savingOf_18 : decode cX11_savingOf 18 = .ok (.ifCond .le 15, 3) := by decide +kernel
theorem dX11_savingOf_21 : decode cX11_savingOf 21 = .ok (.iload_n 3, 1) := by decide +kernel
theorem dX11_savingOf_22 : decode cX11_savingOf 22 = .ok (.aload_n 0, 1) := by decide +kernel
theorem dX11_savingOf_23 : decode cX11_savingOf 23 = .ok (.iload_n 1, 1) := by decide +kernel
theorem dX11_savingOf_24 : decode cX11_savingOf 24 = .ok (.invokevirtual 154, 3) := by decide +kernel
theorem dX11_savingOf_27 : decode cX11_savingOf 27 = .ok (.imul, 1) := by decide +kernel
theorem dX11_savingOf_28 : decode cX11_savingOf 28 = .ok (.sipush 1000, 3) := by decide +kernel
theorem dX11_savingOf_31 : decode cX11_savingOf 31 = .ok (.idiv, 1) := by decide +kernel
theorem dX11_savingOf_32 : decode cX11_savingOf 32 = .ok (.ireturn, 1) := by decide +kernel
theorem dX11_savingOf_33 : decode cX11_savingOf 33 = .ok (.iload_n 2, 1) := by decide +kernel
theorem dX11_savingOf_34 : decode cX11_savingOf 34 = .ok (.iconst 1, 1) := by decide +kernel
theorem dX11_savingOf_35 : decode cX11_savingOf 35 = .ok (.if_icmp .le 19, 3) := by decide +kernel
theorem dX11_savingOf_38 : decode cX11_savingOf 38 = .ok (.iload_n 3, 1) := by decide +kernel
theorem dX11_savingOf_39 : decode cX11_savingOf 39 = .ok (.aload_n 0, 1) := by decide +kernel
theorem dX11_savingOf_40 : decode cX11_savingOf 40 = .ok (.iconst 1, 1) := by decide +kernel
theorem dX11_savingOf_41 : decode cX11_savingOf 41 = .ok (.invokevirtual 154, 3) := by decide +kernel
theorem dX11_savingOf_44 : decode cX11_savingOf 44 = .ok (.iconst 4, 1) := by decide +kernel
theorem dX11_savingOf_45 : decode cX11_savingOf 45 = .ok (.idiv, 1) := by decide +kernel
theorem dX11_savingOf_46 : decode cX11_savingOf 46 = .ok (.imul, 1) := by decide +kernel
theorem dX11_savingOf_47 : decode cX11_savingOf 47 = .ok (.sipush 1000, 3) := by decide +kernel
theorem dX11_savingOf_50 : decode cX11_savingOf 50 = .ok (.idiv, 1) := by decide +kernel
theorem dX11_savingOf_51 : decode cX11_savingOf 51 = .ok (.goto 4, 3) := by decide +kernel
theorem dX11_savingOf_54 : decode cX11_savingOf 54 = .ok (.iconst 0, 1) := by decide +kernel
theorem dX11_savingOf_55 : decode cX11_savingOf 55 = .ok (.ireturn, 1) := by decide +kernel
theorem cm_X11_savingOf : x_CM yX11_savingOf cX11_savingOf 4 (Option.some FieldType.int) 2 := ⟨w_7_190, w_1_12, by decide +kernel, by decide +kernel⟩
theorem ci_X11_savingOf : x_CI yX11_savingOf 13 := ⟨w_7_189, wp_62, (RX11, TX11, 41), rfl, rfl⟩
set_option maxRecDepth 100000 in
set_option maxHeartbeats 4000000 in
theorem bX11_savingOf_55 {V : x_J} {ad : Nat → Nat} {Q : Int32 → x_S → x_L → Prop} (X : x_Is V cX11_savingOf 4 RX11 (Option.some FieldType.int) ad dsM 3 (x_PI Q)) {s0 : Int32} {σ : x_S} {τ : x_L} (h : wX11_savingOf_55 Q s0 σ τ) : V σ τ 55 [] [.int s0] := by
  exact x_iret X dX11_savingOf_55 ⟨_, rfl, h⟩
set_option maxRecDepth 100000 in
set_option maxHeartbeats 4000000 in
theorem kX11_savingOf {ad : Nat → Nat} {a1 : Int32} {a2 : Int32} {σ : x_S} {τ : x_L} {Q : Int32 → x_S → x_L → Prop} (h : wX11_savingOf a1 a2 σ τ Q) : x_Met yX11_savingOf cX11_savingOf 4 (Option.some FieldType.int) 3 ad dsM [.ref (ad 0), .int a1, .int a2] σ τ (x_PI Q) := by
  refine x_met (by decide +kernel) (Nat.le_of_ble_eq_true rfl) (fun V X => ?_)
  have X : x_Is V cX11_savingOf 4 RX11 (Option.some FieldType.int) ad dsM 3 (x_PI Q) := X
  show V σ τ 0 [(0, .ref (ad 0)), (1, .int a1), (2, .int a2)] []
  refine x_aload_n X dX11_savingOf_0 rfl 0 rfl ?_
  refine x_aload_n X dX11_savingOf_1 rfl 0 rfl ?_
  refine x_getR X (j := 13) dX11_savingOf_2 fl_11_47 dsM_0 rfl ?_
  refine x_iload_n X dX11_savingOf_5 rfl 1 rfl ?_
  have g6 := h.1
  have h := h.2
  refine x_iald X dX11_savingOf_6 dsM_13 g6 ?_
  refine x_aload_n X dX11_savingOf_7 rfl 0 rfl ?_
  refine x_getR X (j := 14) dX11_savingOf_8 fl_11_50 dsM_0 rfl ?_
  refine x_iload_n X dX11_savingOf_11 rfl 1 rfl ?_
  refine x_iald X dX11_savingOf_12 dsM_14 g6 ?_
  refine x_callVi X [.int (σ 13 a1.toNatClampNeg), .int (σ 14 a1.toNatClampNeg)] [] dX11_savingOf_13 (kX11_baseAt h) cm_X11_baseAt ci_X11_baseAt w_7_191 dsM_0 ⟨by decide, by decide⟩ rfl (Nat.le_of_ble_eq_true rfl) (fun r13 σ13 τ13 h => ?_)
  refine x_istore_n X (lv' := [(3, .int r13), (0, .ref (ad 0)), (1, .int a1), (2, .int a2)]) dX11_savingOf_16 rfl (by decide) rfl ?_
  refine x_iload_n X dX11_savingOf_17 rfl 2 rfl ?_
  refine x_if_le X 33 dX11_savingOf_18 (by decide) (fun hc => ?_) (fun hc => ?_)
  · have h := h.1 hc
    refine x_iload_n X dX11_savingOf_33 rfl 3 rfl ?_
    refine x_iconst X dX11_savingOf_34 ki_1 ?_
    refine x_icmp_le X 54 dX11_savingOf_35 (by decide) (fun hc => ?_) (fun hc => ?_)
    · have h := h.1 hc
      refine x_iconst X dX11_savingOf_54 ki_0 ?_
      refine x_sub X [] (lv' := []) rfl ?_
      exact bX11_savingOf_55 X h
    · have h := h.2 hc
      refine x_iload_n X dX11_savingOf_38 rfl 0 rfl ?_
      refine x_aload_n X dX11_savingOf_39 rfl 1 rfl ?_
      refine x_iconst X dX11_savingOf_40 ki_1 ?_
      refine x_callVi X [.int 1] [.int r13] dX11_savingOf_41 (kX11_shareOf h) cm_X11_shareOf ci_X11_shareOf w_7_195 dsM_0 ⟨by decide, by decide⟩ rfl (Nat.le_of_ble_eq_true rfl) (fun r41 σ41 τ41 h => ?_)
      refine x_iconst X dX11_savingOf_44 ki_4 ?_
      refine x_idiv X dX11_savingOf_45 (by decide) ?_
      refine x_imul X dX11_savingOf_46 ?_
      refine x_sipush X dX11_savingOf_47 ks_1000 ?_
      refine x_idiv X dX11_savingOf_50 (by decide) ?_
      refine x_goto X (tgt := 55) dX11_savingOf_51 (by decide) ?_
      refine x_sub X [] (lv' := []) rfl ?_
      exact bX11_savingOf_55 X h
  · have h := h.2 hc
    refine x_iload_n X dX11_savingOf_21 rfl 0 rfl ?_
    refine x_aload_n X dX11_savingOf_22 rfl 1 rfl ?_
    refine x_iload_n X dX11_savingOf_23 rfl 2 rfl ?_
    refine x_callVi X [.int a1] [.int r13] dX11_savingOf_24 (kX11_shareOf h) cm_X11_shareOf ci_X11_shareOf w_7_195 dsM_0 ⟨by decide, by decide⟩ rfl (Nat.le_of_ble_eq_true rfl) (fun r24 σ24 τ24 h => ?_)
    refine x_imul X dX11_savingOf_27 ?_
    refine x_sipush X dX11_savingOf_28 ks_1000 ?_
    refine x_idiv X dX11_savingOf_31 (by decide) ?_
    exact x_iret X dX11_savingOf_32 ⟨_, rfl, h⟩
theorem dX11_isClosing_0 : decode cX11_isClosing 0 = .ok (.aload_n 0, 1) := by decide +kernel
theorem dX11_isClosing_1 : decode cX11_isClosing 1 = .ok (.aload_n 0, 1) := by decide +kernel
theorem dX11_isClosing_2 : decode cX11_isClosing 2 = .ok (.getfield 47, 3) := by decide +kernel
theorem dX11_isClosing_5 : decode cX11_isClosing 5 = .ok (.iload_n 1, 1) := by decide +kernel
theorem dX11_isClosing_6 : decode cX11_isClosing 6 = .ok (.iaload, 1) := by decide +kernel
theorem dX11_isClosing_7 : decode cX11_isClosing 7 = .ok (.aload_n 0, 1) := by decide +kernel
theorem dX11_isClosing_8 : decode cX11_isClosing 8 = .ok (.getfield 50, 3) := by decide +kernel
theorem dX11_isClosing_11 : decode cX11_isClosing 11 = .ok (.iload_n 1, 1) := by decide +kernel
theorem dX11_isClosing_12 : decode cX11_isClosing 12 = .ok (.iaload, 1) := by decide +kernel
theorem dX11_isClosing_13 : decode cX11_isClosing 13 = .ok (.invokevirtual 157, 3) := by decide +kernel
theorem dX11_isClosing_16 : decode cX11_isClosing 16 = .ok (.istore_n 2, 1) := by decide +kernel
theorem dX11_isClosing_17 : decode cX11_isClosing 17 = .ok (.iload_n 1, 1) := by decide +kernel
theorem dX11_isClosing_18 : decode cX11_isClosing 18 = .ok (.ifCond .eq 32, 3) := by decide +kernel
theorem dX11_isClosing_21 : decode cX11_isClosing 21 = .ok (.iload_n 2, 1) := by decide +kernel
theorem dX11_isClosing_22 : decode cX11_isClosing 22 = .ok (.iconst (-1), 1) := by decide +kernel
theorem dX11_isClosing_23 : decode cX11_isClosing 23 = .ok (.if_icmp .eq 27, 3) := by decide +kernel
theorem dX11_isClosing_26 : decode cX11_isClosing 26 = .ok (.aload_n 0, 1) := by decide +kernel
theorem dX11_isClosing_27 : decode cX11_isClosing 27 = .ok (.aload_n 0, 1) := by decide +kernel
theorem dX11_isClosing_28 : decode cX11_isClosing 28 = .ok (.getfield 47, 3) := by decide +kernel
theorem dX11_isClosing_31 : decode cX11_isClosing 31 = .ok (.iload_n 1, 1) := by decide +kernel
theorem dX11_isClosing_32 : decode cX11_isClosing 32 = .ok (.iconst 1, 1) := by decide +kernel
theorem dX11_isClosing_33 : decode cX11_isClosing 33 = .ok (.isub, 1) := by decide +kernel
theorem dX11_isClosing_34 : decode cX11_isClosing 34 = .ok (.iaload, 1) := by decide +kernel
theorem dX11_isClosing_35 : decode cX11_isClosing 35 = .ok (.aload_n 0, 1) := by decide +kernel
theorem dX11_isClosing_36 : decode cX11_isClosing 36 = .ok (.getfield 50, 3) := by decide +kernel
theorem dX11_isClosing_39 : decode cX11_isClosing 39 = .ok (.iload_n 1, 1) := by decide +kernel
theorem dX11_isClosing_40 : decode cX11_isClosing 40 = .ok (.iconst 1, 1) := by decide +kernel
theorem dX11_isClosing_41 : decode cX11_isClosing 41 = .ok (.isub, 1) := by decide +kernel
theorem dX11_isClosing_42 : decode cX11_isClosing 42 = .ok (.iaload, 1) := by decide +kernel
theorem dX11_isClosing_43 : decode cX11_isClosing 43 = .ok (.invokevirtual 157, 3) := by decide +kernel
theorem dX11_isClosing_46 : decode cX11_isClosing 46 = .ok (.iload_n 2, 1) := by decide +kernel
theorem dX11_isClosing_47 : decode cX11_isClosing 47 = .ok (.if_icmp .ne 5, 3) := by decide +kernel
theorem dX11_isClosing_50 : decode cX11_isClosing 50 = .ok (.iconst 0, 1) := by decide +kernel
theorem dX11_isClosing_51 : decode cX11_isClosing 51 = .ok (.ireturn, 1) := by decide +kernel
theorem dX11_isClosing_52 : decode cX11_isClosing 52 = .ok (.iconst 0, 1) := by decide +kernel
theorem dX11_isClosing_53 : decode cX11_isClosing 53 = .ok (.istore_n 3, 1) := by decide +kernel
theorem dX11_isClosing_54 : decode cX11_isClosing 54 = .ok (.iconst 0, 1) := by decide +kernel
theorem dX11_isClosing_55 : decode cX11_isClosing 55 = .ok (.istore 4, 2) := by decide +kernel
theorem dX11_isClosing_57 : decode cX11_isClosing 57 = .ok (.iload 4, 2) := by decide +kernel
theorem dX11_isClosing_59 : decode cX11_isClosing 59 = .ok (.iload_n 1, 1) := by decide +kernel
theorem dX11_isClosing_60 : decode cX11_isClosing 60 = .ok (.iconst 1, 1) := by decide +kernel
theorem dX11_isClosing_61 : decode cX11_isClosing 61 = .ok (.isub, 1) := by decide +kernel
theorem dX11_isClosing_62 : decode cX11_isClosing 62 = .ok (.if_icmp .ge 39, 3) := by decide +kernel
theorem dX11_isClosing_65 : decode cX11_isClosing 65 = .ok (.iload_n 3, 1) := by decide +kernel
theorem dX11_isClosing_66 : decode cX11_isClosing 66 = .ok (.aload_n 0, 1) := by decide +kernel
theorem dX11_isClosing_67 : decode cX11_isClosing 67 = .ok (.aload_n 0, 1) := by decide +kernel
theorem dX11_isClosing_68 : decode cX11_isClosing 68 = .ok (.getfield 47, 3) := by decide +kernel
theorem dX11_isClosing_71 : decode cX11_isClosing 71 = .ok (.iload 4, 2) := by decide +kernel
theorem dX11_isClosing_73 : decode cX11_isClosing 73 = .ok (.iaload, 1) := by decide +kernel
theorem dX11_isClosing_74 : decode cX11_isClosing 74 = .ok (.aload_n 0, 1) := by decide +kernel
theorem dX11_isClosing_75 : decode cX11_isClosing 75 = .ok (.getfield 50, 3) := by decide +kernel
theorem dX11_isClosing_78 : decode cX11_isClosing 78 = .ok (.iload 4, 2) := by decide +kernel
theorem dX11_isClosing_80 : decode cX11_isClosing 80 = .ok (.iaload, 1) := by decide +kernel
theorem dX11_isClosing_81 : decode cX11_isClosing 81 = .ok (.invokevirtual 157, 3) := by decide +kernel
theorem dX11_isClosing_84 : decode cX11_isClosing 84 = .ok (.iload_n 2, 1) := by decide +kernel
theorem dX11_isClosing_85 : decode cX11_isClosing 85 = .ok (.if_icmp .ne 7, 3) := by decide +kernel
theorem dX11_isClosing_88 : decode cX11_isClosing 88 = .ok (.iconst 1, 1) := by decide +kernel
theorem dX11_isClosing_89 : decode cX11_isClosing 89 = .ok (.goto 4, 3) := by decide +kernel
theorem dX11_isClosing_92 : decode cX11_isClosing 92 = .ok (.iconst 0, 1) := by decide +kernel
theorem dX11_isClosing_93 : decode cX11_isClosing 93 = .ok (.ior, 1) := by decide +kernel
theorem dX11_isClosing_94 : decode cX11_isClosing 94 = .ok (.istore_n 3, 1) := by decide +kernel
theorem dX11_isClosing_95 : decode cX11_isClosing 95 = .ok (.iinc 4 1, 3) := by decide +kernel
theorem dX11_isClosing_98 : decode cX11_isClosing 98 = .ok (.goto (-41), 3) := by decide +kernel
theorem dX11_isClosing_101 : decode cX11_isClosing 101 = .ok (.iload_n 3, 1) := by decide +kernel
theorem dX11_isClosing_102 : decode cX11_isClosing 102 = .ok (.ireturn, 1) := by decide +kernel
theorem cm_X11_isClosing : x_CM yX11_isClosing cX11_isClosing 5 (Option.some FieldType.boolean) 1 := ⟨w_7_202, w_1_12, by decide +kernel, by decide +kernel⟩
theorem ci_X11_isClosing : x_CI yX11_isClosing 13 := ⟨w_7_201, wp_65, (RX11, TX11, 41), rfl, rfl⟩
set_option maxRecDepth 100000 in
set_option maxHeartbeats 4000000 in
theorem bX11_isClosing_50 {V : x_J} {ad : Nat → Nat} {Q : Int32 → x_S → x_L → Prop} (X : x_Is V cX11_isClosing 5 RX11 (Option.some FieldType.boolean) ad dsM 3 (x_PI Q)) {σ : x_S} {τ : x_L} (h : wX11_isClosing_50 Q σ τ) : V σ τ 50 [] [] := by
  refine x_iconst X dX11_isClosing_50 ki_0 ?_
  exact x_zret X dX11_isClosing_51 ⟨Or.inl rfl, _, rfl, h⟩
set_option maxRecDepth 100000 in
set_option maxHeartbeats 4000000 in
theorem bX11_isClosing_93 {V : x_J} {ad : Nat → Nat} {Q : Int32 → x_S → x_L → Prop} (X : x_Is V cX11_isClosing 5 RX11 (Option.some FieldType.boolean) ad dsM 3 (x_PI Q)) {K57 : Int32 → Int32 → Int32 → Int32 → x_S → x_L → Prop} (hK57 : ∀ v1 v2 v3 v4 σ τ, K57 v1 v2 v3 v4 σ τ → V σ τ 57 [(0, .ref (ad 0)), (1, .int v1), (2, .int v2), (3, .int v3), (4, .int v4)] []) {v1 : Int32} {v2 : Int32} {v4 : Int32} {s0 : Int32} {s1 : Int32} {σ : x_S} {τ : x_L} (h : wX11_isClosing_93 K57 Q v1 v2 v4 s0 s1 σ τ) : V σ τ 93 [(0, .ref (ad 0)), (1, .int v1), (2, .int v2), (4, .int v4)] [.int s1, .int s0] := by
  refine x_ior X dX11_isClosing_93 ?_
  refine x_istore_n X (lv' := [(3, .int (s0 ||| s1)), (0, .ref (ad 0)), (1, .int v1), (2, .int v2), (4, .int v4)]) dX11_isClosing_94 rfl (by decide) rfl ?_
  refine x_iinc X (k := 4) (lv' := [(4, .int (v4 + 1)), (3, .int (s0 ||| s1)), (0, .ref (ad 0)), (1, .int v1), (2, .int v2)]) dX11_isClosing_95 rfl ki_1 (by decide) rfl ?_
  refine x_goto X (tgt := 57) dX11_isClosing_98 (by decide) ?_
  refine x_sub X [2, 3, 4, 1, 0] (lv' := [(0, .ref (ad 0)), (1, .int v1), (2, .int v2), (3, .int (s0 ||| s1)), (4, .int (v4 + 1))]) rfl ?_
  exact hK57 _ _ _ _ _ _ h
set_option maxRecDepth 100000 in
set_option maxHeartbeats 4000000 in
theorem bX11_isClosing_57 {V : x_J} {ad : Nat → Nat} {Q : Int32 → x_S → x_L → Prop} (X : x_Is V cX11_isClosing 5 RX11 (Option.some FieldType.boolean) ad dsM 3 (x_PI Q)) {K57 : Int32 → Int32 → Int32 → Int32 → x_S → x_L → Prop} (hK57 : ∀ v1 v2 v3 v4 σ τ, K57 v1 v2 v3 v4 σ τ → V σ τ 57 [(0, .ref (ad 0)), (1, .int v1), (2, .int v2), (3, .int v3), (4, .int v4)] []) {v1 : Int32} {v2 : Int32} {v3 : Int32} {v4 : Int32} {σ : x_S} {τ : x_L} (h : wX11_isClosing_57 Q K57 v1 v2 v3 v4 σ τ) : V σ τ 57 [(0, .ref (ad 0)), (1, .int v1), (2, .int v2), (3, .int v3), (4, .int v4)] [] := by
  refine x_iload X dX11_isClosing_57 4 rfl ?_
  refine x_iload_n X dX11_isClosing_59 rfl 1 rfl ?_
  refine x_iconst X dX11_isClosing_60 ki_1 ?_
  refine x_isub X dX11_isClosing_61 ?_
  refine x_icmp_ge X 101 dX11_isClosing_62 (by decide) (fun hc => ?_) (fun hc => ?_)
  · have h := h.1 hc
    refine x_iload_n X dX11_isClosing_101 rfl 3 rfl ?_
    exact x_zret X dX11_isClosing_102 ⟨h.1, _, rfl, h.2⟩
  · have h := h.2 hc
    refine x_iload_n X dX11_isClosing_65 rfl 3 rfl ?_
    refine x_aload_n X dX11_isClosing_66 rfl 0 rfl ?_
    refine x_aload_n X dX11_isClosing_67 rfl 0 rfl ?_
    refine x_getR X (j := 13) dX11_isClosing_68 fl_11_47 dsM_0 rfl ?_
    refine x_iload X dX11_isClosing_71 4 rfl ?_
    have g73 := h.1
    have h := h.2
    refine x_iald X dX11_isClosing_73 dsM_13 g73 ?_
    refine x_aload_n X dX11_isClosing_74 rfl 0 rfl ?_
    refine x_getR X (j := 14) dX11_isClosing_75 fl_11_50 dsM_0 rfl ?_
    refine x_iload X dX11_isClosing_78 4 rfl ?_
    refine x_iald X dX11_isClosing_80 dsM_14 g73 ?_
    refine x_callVi X [.int (σ 13 v4.toNatClampNeg), .int (σ 14 v4.toNatClampNeg)] [.int v3] dX11_isClosing_81 (kX11_nextRoad h) cm_X11_nextRoad ci_X11_nextRoad w_7_203 dsM_0 ⟨by decide, by decide⟩ rfl (Nat.le_of_ble_eq_true rfl) (fun r81 σ81 τ81 h => ?_)
    refine x_iload_n X dX11_isClosing_84 rfl 2 rfl ?_
    refine x_icmp_ne X 92 dX11_isClosing_85 (by decide) (fun hc => ?_) (fun hc => ?_)
    · have h := h.1 hc
      refine x_iconst X dX11_isClosing_92 ki_0 ?_
      refine x_sub X [0, 1, 2, 4] (lv' := [(0, .ref (ad 0)), (1, .int v1), (2, .int v2), (4, .int v4)]) rfl ?_
      exact bX11_isClosing_93 X hK57 h
    · have h := h.2 hc
      refine x_iconst X dX11_isClosing_88 ki_1 ?_
      refine x_goto X (tgt := 93) dX11_isClosing_89 (by decide) ?_
      refine x_sub X [0, 1, 2, 4] (lv' := [(0, .ref (ad 0)), (1, .int v1), (2, .int v2), (4, .int v4)]) rfl ?_
      exact bX11_isClosing_93 X hK57 h
set_option maxRecDepth 100000 in
set_option maxHeartbeats 4000000 in
theorem kX11_isClosing {ad : Nat → Nat} {a1 : Int32} {σ : x_S} {τ : x_L} {Q : Int32 → x_S → x_L → Prop} (h : wX11_isClosing a1 σ τ Q) : x_Met yX11_isClosing cX11_isClosing 5 (Option.some FieldType.boolean) 3 ad dsM [.ref (ad 0), .int a1] σ τ (x_PI Q) := by
  refine x_met (by decide +kernel) (Nat.le_of_ble_eq_true rfl) (fun V X => ?_)
  have X : x_Is V cX11_isClosing 5 RX11 (Option.some FieldType.boolean) ad dsM 3 (x_PI Q) := X
  show V σ τ 0 [(0, .ref (ad 0)), (1, .int a1)] []
  refine x_aload_n X dX11_isClosing_0 rfl 0 rfl ?_
  refine x_aload_n X dX11_isClosing_1 rfl 0 rfl ?_
  refine x_getR X (j := 13) dX11_isClosing_2 fl_11_47 dsM_0 rfl ?_
  refine x_iload_n X dX11_isClosing_5 rfl 1 rfl ?_
  have g6 := h.1
  have h := h.2
  refine x_iald X dX11_isClosing_6 dsM_13 g6 ?_
  refine x_aload_n X dX11_isClosing_7 rfl 0 rfl ?_
  refine x_getR X (j := 14) dX11_isClosing_8 fl_11_50 dsM_0 rfl ?_
  refine x_iload_n X dX11_isClosing_11 rfl 1 rfl ?_
  refine x_iald X dX11_isClosing_12 dsM_14 g6 ?_
  refine x_callVi X [.int (σ 13 a1.toNatClampNeg), .int (σ 14 a1.toNatClampNeg)] [] dX11_isClosing_13 (kX11_nextRoad h) cm_X11_nextRoad ci_X11_nextRoad w_7_203 dsM_0 ⟨by decide, by decide⟩ rfl (Nat.le_of_ble_eq_true rfl) (fun r13 σ13 τ13 h => ?_)
  refine x_istore_n X (lv' := [(2, .int r13), (0, .ref (ad 0)), (1, .int a1)]) dX11_isClosing_16 rfl (by decide) rfl ?_
  refine x_iload_n X dX11_isClosing_17 rfl 2 rfl ?_
  refine x_if_eq X 50 dX11_isClosing_18 (by decide) (fun hc => ?_) (fun hc => ?_)
  · have h := h.1 hc
    refine x_sub X [] (lv' := []) rfl ?_
    exact bX11_isClosing_50 X h
  · have h := h.2 hc
    refine x_iload_n X dX11_isClosing_21 rfl 0 rfl ?_
    refine x_iconst X dX11_isClosing_22 ki_m1 ?_
    refine x_icmp_eq X 50 dX11_isClosing_23 (by decide) (fun hc => ?_) (fun hc => ?_)
    · have h := h.1 hc
      refine x_sub X [] (lv' := []) rfl ?_
      exact bX11_isClosing_50 X h
    · have h := h.2 hc
      refine x_aload_n X dX11_isClosing_26 rfl 1 rfl ?_
      refine x_aload_n X dX11_isClosing_27 rfl 1 rfl ?_
      refine x_getR X (j := 13) dX11_isClosing_28 fl_11_47 dsM_0 rfl ?_
      refine x_iload_n X dX11_isClosing_31 rfl 2 rfl ?_
      refine x_iconst X dX11_isClosing_32 ki_1 ?_
      refine x_isub X dX11_isClosing_33 ?_
      have g34 := h.1
      have h := h.2
      refine x_iald X dX11_isClosing_34 dsM_13 g34 ?_
      refine x_aload_n X dX11_isClosing_35 rfl 1 rfl ?_
      refine x_getR X (j := 14) dX11_isClosing_36 fl_11_50 dsM_0 rfl ?_
      refine x_iload_n X dX11_isClosing_39 rfl 2 rfl ?_
      refine x_iconst X dX11_isClosing_40 ki_1 ?_
      refine x_isub X dX11_isClosing_41 ?_
      refine x_iald X dX11_isClosing_42 dsM_14 g34 ?_
      refine x_callVi X [.int (σ13 13 (a1 - 1).toNatClampNeg), .int (σ13 14 (a1 - 1).toNatClampNeg)] [] dX11_isClosing_43 (kX11_nextRoad h) cm_X11_nextRoad ci_X11_nextRoad w_7_203 dsM_0 ⟨by decide, by decide⟩ rfl (Nat.le_of_ble_eq_true rfl) (fun r43 σ43 τ43 h => ?_)
      refine x_iload_n X dX11_isClosing_46 rfl 0 rfl ?_
      refine x_icmp_ne X 52 dX11_isClosing_47 (by decide) (fun hc => ?_) (fun hc => ?_)
      · have h := h.1 hc
        refine x_iconst X dX11_isClosing_52 ki_0 ?_
        refine x_istore_n X (lv' := [(3, .int 0), (2, .int r13), (0, .ref (ad 0)), (1, .int a1)]) dX11_isClosing_53 rfl (by decide) rfl ?_
        refine x_iconst X dX11_isClosing_54 ki_0 ?_
        refine x_istore X (lv' := [(4, .int 0), (3, .int 0), (2, .int r13), (0, .ref (ad 0)), (1, .int a1)]) dX11_isClosing_55 (by decide) rfl ?_
        refine x_sub X [3, 4, 2, 1, 0] (lv' := [(0, .ref (ad 0)), (1, .int a1), (2, .int r13), (3, .int 0), (4, .int 0)]) rfl ?_
        exact x_l4_G (fun v1 v2 v3 v4 σ τ => V σ τ 57 [(0, .ref (ad 0)), (1, .int v1), (2, .int v2), (3, .int v3), (4, .int v4)] []) (fun K57 hK57 v1 v2 v3 v4 σ τ h => bX11_isClosing_57 X hK57 h) h
      · have h := h.2 hc
        refine x_sub X [] (lv' := []) rfl ?_
        exact bX11_isClosing_50 X h
theorem dX11_layOrder_0 : decode cX11_layOrder 0 = .ok (.aload_n 0, 1) := by decide +kernel
theorem dX11_layOrder_1 : decode cX11_layOrder 1 = .ok (.getfield 29, 3) := by decide +kernel
theorem dX11_layOrder_4 : decode cX11_layOrder 4 = .ok (.iload_n 1, 1) := by decide +kernel
theorem dX11_layOrder_5 : decode cX11_layOrder 5 = .ok (.iload_n 2, 1) := by decide +kernel
theorem dX11_layOrder_6 : decode cX11_layOrder 6 = .ok (.invokestatic 111, 3) := by decide +kernel
theorem dX11_layOrder_9 : decode cX11_layOrder 9 = .ok (.iaload, 1) := by decide +kernel
theorem dX11_layOrder_10 : decode cX11_layOrder 10 = .ok (.istore_n 3, 1) := by decide +kernel
theorem dX11_layOrder_11 : decode cX11_layOrder 11 = .ok (.iconst 0, 1) := by decide +kernel
theorem dX11_layOrder_12 : decode cX11_layOrder 12 = .ok (.istore 4, 2) := by decide +kernel
theorem dX11_layOrder_14 : decode cX11_layOrder 14 = .ok (.iload 4, 2) := by decide +kernel
theorem dX11_layOrder_16 : decode cX11_layOrder 16 = .ok (.iload_n 3, 1) := by decide +kernel
theorem dX11_layOrder_17 : decode cX11_layOrder 17 = .ok (.if_icmp .ge 44, 3) := by decide +kernel
theorem dX11_layOrder_20 : decode cX11_layOrder 20 = .ok (.aload_n 0, 1) := by decide +kernel
theorem dX11_layOrder_21 : decode cX11_layOrder 21 = .ok (.getfield 47, 3) := by decide +kernel
theorem dX11_layOrder_24 : decode cX11_layOrder 24 = .ok (.iload 4, 2) := by decide +kernel
theorem dX11_layOrder_26 : decode cX11_layOrder 26 = .ok (.aload_n 0, 1) := by decide +kernel
theorem dX11_layOrder_27 : decode cX11_layOrder 27 = .ok (.iload_n 1, 1) := by decide +kernel
theorem dX11_layOrder_28 : decode cX11_layOrder 28 = .ok (.iload_n 2, 1) := by decide +kernel
theorem dX11_layOrder_29 : decode cX11_layOrder 29 = .ok (.iload 4, 2) := by decide +kernel
theorem dX11_layOrder_31 : decode cX11_layOrder 31 = .ok (.invokevirtual 160, 3) := by decide +kernel
theorem dX11_layOrder_34 : decode cX11_layOrder 34 = .ok (.iastore, 1) := by decide +kernel
theorem dX11_layOrder_35 : decode cX11_layOrder 35 = .ok (.aload_n 0, 1) := by decide +kernel
theorem dX11_layOrder_36 : decode cX11_layOrder 36 = .ok (.getfield 50, 3) := by decide +kernel
theorem dX11_layOrder_39 : decode cX11_layOrder 39 = .ok (.iload 4, 2) := by decide +kernel
theorem dX11_layOrder_41 : decode cX11_layOrder 41 = .ok (.aload_n 0, 1) := by decide +kernel
theorem dX11_layOrder_42 : decode cX11_layOrder 42 = .ok (.iload_n 1, 1) := by decide +kernel
theorem dX11_layOrder_43 : decode cX11_layOrder 43 = .ok (.iload_n 2, 1) := by decide +kernel
theorem dX11_layOrder_44 : decode cX11_layOrder 44 = .ok (.aload_n 0, 1) := by decide +kernel
theorem dX11_layOrder_45 : decode cX11_layOrder 45 = .ok (.getfield 47, 3) := by decide +kernel
theorem dX11_layOrder_48 : decode cX11_layOrder 48 = .ok (.iload 4, 2) := by decide +kernel
theorem dX11_layOrder_50 : decode cX11_layOrder 50 = .ok (.iaload, 1) := by decide +kernel
theorem dX11_layOrder_51 : decode cX11_layOrder 51 = .ok (.invokevirtual 137, 3) := by decide +kernel
theorem dX11_layOrder_54 : decode cX11_layOrder 54 = .ok (.iastore, 1) := by decide +kernel
theorem dX11_layOrder_55 : decode cX11_layOrder 55 = .ok (.iinc 4 1, 3) := by decide +kernel
theorem dX11_layOrder_58 : decode cX11_layOrder 58 = .ok (.goto (-44), 3) := by decide +kernel
theorem dX11_layOrder_61 : decode cX11_layOrder 61 = .ok (.iload_n 3, 1) := by decide +kernel
theorem dX11_layOrder_62 : decode cX11_layOrder 62 = .ok (.ireturn, 1) := by decide +kernel
theorem cm_X11_layOrder : x_CM yX11_layOrder cX11_layOrder 5 (Option.some FieldType.int) 2 := ⟨w_7_178, w_1_12, by decide +kernel, by decide +kernel⟩
theorem ci_X11_layOrder : x_CI yX11_layOrder 13 := ⟨w_7_177, wp_59, (RX11, TX11, 41), rfl, rfl⟩
set_option maxRecDepth 100000 in
set_option maxHeartbeats 4000000 in
theorem bX11_layOrder_14 {V : x_J} {ad : Nat → Nat} {Q : Int32 → x_S → x_L → Prop} (X : x_Is V cX11_layOrder 5 RX11 (Option.some FieldType.int) ad dsM 3 (x_PI Q)) {K14 : Int32 → Int32 → Int32 → Int32 → x_S → x_L → Prop} (hK14 : ∀ v1 v2 v3 v4 σ τ, K14 v1 v2 v3 v4 σ τ → V σ τ 14 [(0, .ref (ad 0)), (1, .int v1), (2, .int v2), (3, .int v3), (4, .int v4)] []) {v1 : Int32} {v2 : Int32} {v3 : Int32} {v4 : Int32} {σ : x_S} {τ : x_L} (h : wX11_layOrder_14 Q K14 v1 v2 v3 v4 σ τ) : V σ τ 14 [(0, .ref (ad 0)), (1, .int v1), (2, .int v2), (3, .int v3), (4, .int v4)] [] := by
  refine x_iload X dX11_layOrder_14 4 rfl ?_
  refine x_iload_n X dX11_layOrder_16 rfl 3 rfl ?_
  refine x_icmp_ge X 61 dX11_layOrder_17 (by decide) (fun hc => ?_) (fun hc => ?_)
  · have h := h.1 hc
    refine x_iload_n X dX11_layOrder_61 rfl 3 rfl ?_
    exact x_iret X dX11_layOrder_62 ⟨_, rfl, h⟩
  · have h := h.2 hc
    refine x_aload_n X dX11_layOrder_20 rfl 0 rfl ?_
    refine x_getR X (j := 13) dX11_layOrder_21 fl_11_47 dsM_0 rfl ?_
    refine x_iload X dX11_layOrder_24 4 rfl ?_
    refine x_aload_n X dX11_layOrder_26 rfl 0 rfl ?_
    refine x_iload_n X dX11_layOrder_27 rfl 1 rfl ?_
    refine x_iload_n X dX11_layOrder_28 rfl 2 rfl ?_
    refine x_iload X dX11_layOrder_29 4 rfl ?_
    refine x_callVi X [.int v1, .int v2, .int v4] [.int v4, .ref (ad 13)] dX11_layOrder_31 (kX11_memberAt h) cm_X11_memberAt ci_X11_memberAt w_7_179 dsM_0 ⟨by decide, by decide⟩ rfl (Nat.le_of_ble_eq_true rfl) (fun r31 σ31 τ31 h => ?_)
    have g34 := h.1
    have h := h.2
    refine x_iast X dX11_layOrder_34 dsM_13 g34 ?_
    refine x_aload_n X dX11_layOrder_35 rfl 0 rfl ?_
    refine x_getR X (j := 14) dX11_layOrder_36 fl_11_50 dsM_0 rfl ?_
    refine x_iload X dX11_layOrder_39 4 rfl ?_
    refine x_aload_n X dX11_layOrder_41 rfl 0 rfl ?_
    refine x_iload_n X dX11_layOrder_42 rfl 1 rfl ?_
    refine x_iload_n X dX11_layOrder_43 rfl 2 rfl ?_
    refine x_aload_n X dX11_layOrder_44 rfl 0 rfl ?_
    refine x_getR X (j := 13) dX11_layOrder_45 fl_11_47 dsM_0 rfl ?_
    refine x_iload X dX11_layOrder_48 4 rfl ?_
    refine x_iald X dX11_layOrder_50 dsM_13 g34 ?_
    refine x_callVi X [.int v1, .int v2, .int ((x_up σ31 13 v4.toNatClampNeg r31) 13 v4.toNatClampNeg)] [.int v4, .ref (ad 14)] dX11_layOrder_51 (kX11_mateOf h) cm_X11_mateOf ci_X11_mateOf w_7_156 dsM_0 ⟨by decide, by decide⟩ rfl (Nat.le_of_ble_eq_true rfl) (fun r51 σ51 τ51 h => ?_)
    refine x_iast X dX11_layOrder_54 dsM_14 g34 ?_
    refine x_iinc X (k := 4) (lv' := [(4, .int (v4 + 1)), (0, .ref (ad 0)), (1, .int v1), (2, .int v2), (3, .int v3)]) dX11_layOrder_55 rfl ki_1 (by decide) rfl ?_
    refine x_goto X (tgt := 14) dX11_layOrder_58 (by decide) ?_
    refine x_sub X [1, 2, 3, 4, 0] (lv' := [(0, .ref (ad 0)), (1, .int v1), (2, .int v2), (3, .int v3), (4, .int (v4 + 1))]) rfl ?_
    exact hK14 _ _ _ _ _ _ h
set_option maxRecDepth 100000 in
set_option maxHeartbeats 4000000 in
theorem kX11_layOrder {ad : Nat → Nat} {a1 : Int32} {a2 : Int32} {σ : x_S} {τ : x_L} {Q : Int32 → x_S → x_L → Prop} (h : wX11_layOrder a1 a2 σ τ Q) : x_Met yX11_layOrder cX11_layOrder 5 (Option.some FieldType.int) 3 ad dsM [.ref (ad 0), .int a1, .int a2] σ τ (x_PI Q) := by
  refine x_met (by decide +kernel) (Nat.le_of_ble_eq_true rfl) (fun V X => ?_)
  have X : x_Is V cX11_layOrder 5 RX11 (Option.some FieldType.int) ad dsM 3 (x_PI Q) := X
  show V σ τ 0 [(0, .ref (ad 0)), (1, .int a1), (2, .int a2)] []
  refine x_aload_n X dX11_layOrder_0 rfl 0 rfl ?_
  refine x_getR X (j := 7) dX11_layOrder_1 fl_11_29 dsM_0 rfl ?_
  refine x_iload_n X dX11_layOrder_4 rfl 1 rfl ?_
  refine x_iload_n X dX11_layOrder_5 rfl 2 rfl ?_
  refine x_callSi X [.int a1, .int a2] [.ref (ad 7)] dX11_layOrder_6 (kX11_spot h) cm_X11_spot w_7_118 rfl w_7_117 ⟨by decide, by decide⟩ rfl (Nat.le_of_ble_eq_true rfl) (fun r6 σ6 τ6 h => ?_)
  have g9 := h.1
  have h := h.2
  refine x_iald X dX11_layOrder_9 dsM_7 g9 ?_
  refine x_istore_n X (lv' := [(3, .int (σ6 7 r6.toNatClampNeg)), (0, .ref (ad 0)), (1, .int a1), (2, .int a2)]) dX11_layOrder_10 rfl (by decide) rfl ?_
  refine x_iconst X dX11_layOrder_11 ki_0 ?_
  refine x_istore X (lv' := [(4, .int 0), (3, .int (σ6 7 r6.toNatClampNeg)), (0, .ref (ad 0)), (1, .int a1), (2, .int a2)]) dX11_layOrder_12 (by decide) rfl ?_
  refine x_sub X [2, 3, 4, 1, 0] (lv' := [(0, .ref (ad 0)), (1, .int a1), (2, .int a2), (3, .int (σ6 7 r6.toNatClampNeg)), (4, .int 0)]) rfl ?_
  exact x_l4_G (fun v1 v2 v3 v4 σ τ => V σ τ 14 [(0, .ref (ad 0)), (1, .int v1), (2, .int v2), (3, .int v3), (4, .int v4)] []) (fun K14 hK14 v1 v2 v3 v4 σ τ h => bX11_layOrder_14 X hK14 h) h
theorem dX11_layPlatoon_0 : decode cX11_layPlatoon 0 = .ok (.aload_n 0, 1) := by decide +kernel
theorem dX11_layPlatoon_1 : decode cX11_layPlatoon 1 = .ok (.iload_n 1, 1) := by decide +kernel
theorem dX11_layPlatoon_2 : decode cX11_layPlatoon 2 = .ok (.iload_n 2, 1) := by decide +kernel
theorem dX11_layPlatoon_3 : decode cX11_layPlatoon 3 = .ok (.invokevirtual 163, 3) := by decide +kernel
theorem dX11_layPlatoon_6 : decode cX11_layPlatoon 6 = .ok (.istore_n 3, 1) := by decide +kernel
theorem dX11_layPlatoon_7 : decode cX11_layPlatoon 7 = .ok (.iconst 0, 1) := by decide +kernel
theorem dX11_layPlatoon_8 : decode cX11_layPlatoon 8 = .ok (.istore 4, 2) := by decide +kernel
theorem dX11_layPlatoon_10 : decode cX11_layPlatoon 10 = .ok (.iload 4, 2) := by decide +kernel
theorem dX11_layPlatoon_12 : decode cX11_layPlatoon 12 = .ok (.iload_n 3, 1) := by decide +kernel
theorem dX11_layPlatoon_13 : decode cX11_layPlatoon 13 = .ok (.if_icmp .ge 77, 3) := by decide +kernel
theorem dX11_layPlatoon_16 : decode cX11_layPlatoon 16 = .ok (.aload_n 0, 1) := by decide +kernel
theorem dX11_layPlatoon_17 : decode cX11_layPlatoon 17 = .ok (.getfield 47, 3) := by decide +kernel
theorem dX11_layPlatoon_20 : decode cX11_layPlatoon 20 = .ok (.iload 4, 2) := by decide +kernel
theorem dX11_layPlatoon_22 : decode cX11_layPlatoon 22 = .ok (.iaload, 1) := by decide +kernel
theorem dX11_layPlatoon_23 : decode cX11_layPlatoon 23 = .ok (.aload_n 0, 1) := by decide +kernel
theorem dX11_layPlatoon_24 : decode cX11_layPlatoon 24 = .ok (.getfield 50, 3) := by decide +kernel
theorem dX11_layPlatoon_27 : decode cX11_layPlatoon 27 = .ok (.iload 4, 2) := by decide +kernel
theorem dX11_layPlatoon_29 : decode cX11_layPlatoon 29 = .ok (.iaload, 1) := by decide +kernel
theorem dX11_layPlatoon_30 : decode cX11_layPlatoon 30 = .ok (.invokestatic 111, 3) := by decide +kernel
theorem dX11_layPlatoon_33 : decode cX11_layPlatoon 33 = .ok (.istore 5, 2) := by decide +kernel
theorem dX11_layPlatoon_35 : decode cX11_layPlatoon 35 = .ok (.aload_n 0, 1) := by decide +kernel
theorem dX11_layPlatoon_36 : decode cX11_layPlatoon 36 = .ok (.getfield 38, 3) := by decide +kernel
theorem dX11_layPlatoon_39 : decode cX11_layPlatoon 39 = .ok (.iload 5, 2) := by decide +kernel
theorem dX11_layPlatoon_41 : decode cX11_layPlatoon 41 = .ok (.iload 4, 2) := by decide +kernel
theorem dX11_layPlatoon_43 : decode cX11_layPlatoon 43 = .ok (.ifCond .ne 7, 3) := by decide +kernel
theorem dX11_layPlatoon_46 : decode cX11_layPlatoon 46 = .ok (.iconst 0, 1) := by decide +kernel
theorem dX11_layPlatoon_47 : decode cX11_layPlatoon 47 = .ok (.goto 9, 3) := by decide +kernel
theorem dX11_layPlatoon_50 : decode cX11_layPlatoon 50 = .ok (.aload_n 0, 1) := by decide +kernel
theorem dX11_layPlatoon_51 : decode cX11_layPlatoon 51 = .ok (.iload 4, 2) := by decide +kernel
theorem dX11_layPlatoon_53 : decode cX11_layPlatoon 53 = .ok (.invokevirtual 148, 3) := by decide +kernel
theorem dX11_layPlatoon_56 : decode cX11_layPlatoon 56 = .ok (.iastore, 1) := by decide +kernel
theorem dX11_layPlatoon_57 : decode cX11_layPlatoon 57 = .ok (.aload_n 0, 1) := by decide +kernel
theorem dX11_layPlatoon_58 : decode cX11_layPlatoon 58 = .ok (.getfield 41, 3) := by decide +kernel
theorem dX11_layPlatoon_61 : decode cX11_layPlatoon 61 = .ok (.iload 5, 2) := by decide +kernel
theorem dX11_layPlatoon_63 : decode cX11_layPlatoon 63 = .ok (.aload_n 0, 1) := by decide +kernel
theorem dX11_layPlatoon_64 : decode cX11_layPlatoon 64 = .ok (.iload 4, 2) := by decide +kernel
theorem dX11_layPlatoon_66 : decode cX11_layPlatoon 66 = .ok (.iload_n 3, 1) := by decide +kernel
theorem dX11_layPlatoon_67 : decode cX11_layPlatoon 67 = .ok (.invokevirtual 166, 3) := by decide +kernel
theorem dX11_layPlatoon_70 : decode cX11_layPlatoon 70 = .ok (.iastore, 1) := by decide +kernel
theorem dX11_layPlatoon_71 : decode cX11_layPlatoon 71 = .ok (.aload_n 0, 1) := by decide +kernel
theorem dX11_layPlatoon_72 : decode cX11_layPlatoon 72 = .ok (.getfield 44, 3) := by decide +kernel
theorem dX11_layPlatoon_75 : decode cX11_layPlatoon 75 = .ok (.iload 5, 2) := by decide +kernel
theorem dX11_layPlatoon_77 : decode cX11_layPlatoon 77 = .ok (.aload_n 0, 1) := by decide +kernel
theorem dX11_layPlatoon_78 : decode cX11_layPlatoon 78 = .ok (.iload 4, 2) := by decide +kernel
theorem dX11_layPlatoon_80 : decode cX11_layPlatoon 80 = .ok (.invokevirtual 169, 3) := by decide +kernel
theorem dX11_layPlatoon_83 : decode cX11_layPlatoon 83 = .ok (.bastore, 1) := by decide +kernel
theorem dX11_layPlatoon_84 : decode cX11_layPlatoon 84 = .ok (.iinc 4 1, 3) := by decide +kernel
theorem dX11_layPlatoon_87 : decode cX11_layPlatoon 87 = .ok (.goto (-77), 3) := by decide +kernel
theorem dX11_layPlatoon_90 : decode cX11_layPlatoon 90 = .ok (.return_, 1) := by decide +kernel
theorem cm_X11_layPlatoon : x_CM yX11_layPlatoon cX11_layPlatoon 6 (Option.none : Option Jvm.ClassFile.FieldType) 2 := ⟨w_7_174, w_1_12, by decide +kernel, by decide +kernel⟩
theorem ci_X11_layPlatoon : x_CI yX11_layPlatoon 13 := ⟨w_7_173, wp_58, (RX11, TX11, 41), rfl, rfl⟩
set_option maxRecDepth 100000 in
set_option maxHeartbeats 4000000 in
theorem bX11_layPlatoon_56 {V : x_J} {ad : Nat → Nat} {Q : x_S → x_L → Prop} (X : x_Is V cX11_layPlatoon 6 RX11 (Option.none : Option Jvm.ClassFile.FieldType) ad dsM 4 (x_PV Q)) {K10 : Int32 → Int32 → x_S → x_L → Prop} (hK10 : ∀ v3 v4 σ τ, K10 v3 v4 σ τ → V σ τ 10 [(0, .ref (ad 0)), (3, .int v3), (4, .int v4)] []) {v3 : Int32} {v4 : Int32} {v5 : Int32} {s1 : Int32} {s2 : Int32} {σ : x_S} {τ : x_L} (h : wX11_layPlatoon_56 K10 Q v3 v4 v5 s1 s2 σ τ) : V σ τ 56 [(0, .ref (ad 0)), (3, .int v3), (4, .int v4), (5, .int v5)] [.int s2, .int s1, .ref (ad 10)] := by
  have g56 := h.1
  have h := h.2
  refine x_iast X dX11_layPlatoon_56 dsM_10 g56 ?_
  refine x_aload_n X dX11_layPlatoon_57 rfl 0 rfl ?_
  refine x_getR X (j := 11) dX11_layPlatoon_58 fl_11_41 dsM_0 rfl ?_
  refine x_iload X dX11_layPlatoon_61 3 rfl ?_
  refine x_aload_n X dX11_layPlatoon_63 rfl 0 rfl ?_
  refine x_iload X dX11_layPlatoon_64 2 rfl ?_
  refine x_iload_n X dX11_layPlatoon_66 rfl 1 rfl ?_
  refine x_callVi X [.int v4, .int v3] [.int v5, .ref (ad 11)] dX11_layPlatoon_67 (kX11_savingOf h) cm_X11_savingOf ci_X11_savingOf w_7_187 dsM_0 ⟨by decide, by decide⟩ rfl (Nat.le_of_ble_eq_true rfl) (fun r67 σ67 τ67 h => ?_)
  have g70 := h.1
  have h := h.2
  refine x_iast X dX11_layPlatoon_70 dsM_11 g70 ?_
  refine x_aload_n X dX11_layPlatoon_71 rfl 0 rfl ?_
  refine x_getR X (j := 12) dX11_layPlatoon_72 fl_11_44 dsM_0 rfl ?_
  refine x_iload X dX11_layPlatoon_75 3 rfl ?_
  refine x_aload_n X dX11_layPlatoon_77 rfl 0 rfl ?_
  refine x_iload X dX11_layPlatoon_78 2 rfl ?_
  refine x_callVi X [.int v4] [.int v5, .ref (ad 12)] dX11_layPlatoon_80 (kX11_isClosing h) cm_X11_isClosing ci_X11_isClosing w_7_199 dsM_0 ⟨by decide, by decide⟩ rfl (Nat.le_of_ble_eq_true rfl) (fun r80 σ80 τ80 h => ?_)
  refine x_zast X dX11_layPlatoon_83 dsM_12 g70 ?_
  refine x_iinc X (k := 2) (lv' := [(4, .int (v4 + 1)), (0, .ref (ad 0)), (3, .int v3), (5, .int v5)]) dX11_layPlatoon_84 rfl ki_1 (by decide) rfl ?_
  refine x_goto X (tgt := 10) dX11_layPlatoon_87 (by decide) ?_
  refine x_sub X [1, 2, 0] (lv' := [(0, .ref (ad 0)), (3, .int v3), (4, .int (v4 + 1))]) rfl ?_
  exact hK10 _ _ _ _ h
set_option maxRecDepth 100000 in
set_option maxHeartbeats 4000000 in
theorem bX11_layPlatoon_10 {V : x_J} {ad : Nat → Nat} {Q : x_S → x_L → Prop} (X : x_Is V cX11_layPlatoon 6 RX11 (Option.none : Option Jvm.ClassFile.FieldType) ad dsM 4 (x_PV Q)) {K10 : Int32 → Int32 → x_S → x_L → Prop} (hK10 : ∀ v3 v4 σ τ, K10 v3 v4 σ τ → V σ τ 10 [(0, .ref (ad 0)), (3, .int v3), (4, .int v4)] []) {v3 : Int32} {v4 : Int32} {σ : x_S} {τ : x_L} (h : wX11_layPlatoon_10 Q K10 v3 v4 σ τ) : V σ τ 10 [(0, .ref (ad 0)), (3, .int v3), (4, .int v4)] [] := by
  refine x_iload X dX11_layPlatoon_10 2 rfl ?_
  refine x_iload_n X dX11_layPlatoon_12 rfl 1 rfl ?_
  refine x_icmp_ge X 90 dX11_layPlatoon_13 (by decide) (fun hc => ?_) (fun hc => ?_)
  · have h := h.1 hc
    exact x_vret X dX11_layPlatoon_90 ⟨rfl, h⟩
  · have h := h.2 hc
    refine x_aload_n X dX11_layPlatoon_16 rfl 0 rfl ?_
    refine x_getR X (j := 13) dX11_layPlatoon_17 fl_11_47 dsM_0 rfl ?_
    refine x_iload X dX11_layPlatoon_20 2 rfl ?_
    have g22 := h.1
    have h := h.2
    refine x_iald X dX11_layPlatoon_22 dsM_13 g22 ?_
    refine x_aload_n X dX11_layPlatoon_23 rfl 0 rfl ?_
    refine x_getR X (j := 14) dX11_layPlatoon_24 fl_11_50 dsM_0 rfl ?_
    refine x_iload X dX11_layPlatoon_27 2 rfl ?_
    refine x_iald X dX11_layPlatoon_29 dsM_14 g22 ?_
    refine x_callSi X [.int (σ 13 v4.toNatClampNeg), .int (σ 14 v4.toNatClampNeg)] [] dX11_layPlatoon_30 (kX11_spot h) cm_X11_spot w_7_118 rfl w_7_117 ⟨by decide, by decide⟩ rfl (Nat.le_of_ble_eq_true rfl) (fun r30 σ30 τ30 h => ?_)
    refine x_istore X (lv' := [(5, .int r30), (0, .ref (ad 0)), (3, .int v3), (4, .int v4)]) dX11_layPlatoon_33 (by decide) rfl ?_
    refine x_aload_n X dX11_layPlatoon_35 rfl 1 rfl ?_
    refine x_getR X (j := 10) dX11_layPlatoon_36 fl_11_38 dsM_0 rfl ?_
    refine x_iload X dX11_layPlatoon_39 0 rfl ?_
    refine x_iload X dX11_layPlatoon_41 3 rfl ?_
    refine x_if_ne X 50 dX11_layPlatoon_43 (by decide) (fun hc => ?_) (fun hc => ?_)
    · have h := h.1 hc
      refine x_aload_n X dX11_layPlatoon_50 rfl 1 rfl ?_
      refine x_iload X dX11_layPlatoon_51 3 rfl ?_
      refine x_callVi X [.int v4] [.int r30, .ref (ad 10)] dX11_layPlatoon_53 (kX11_distanceBehind h) cm_X11_distanceBehind ci_X11_distanceBehind w_7_183 dsM_0 ⟨by decide, by decide⟩ rfl (Nat.le_of_ble_eq_true rfl) (fun r53 σ53 τ53 h => ?_)
      refine x_sub X [1, 2, 3, 0] (lv' := [(0, .ref (ad 0)), (3, .int v3), (4, .int v4), (5, .int r30)]) rfl ?_
      exact bX11_layPlatoon_56 X hK10 h
    · have h := h.2 hc
      refine x_iconst X dX11_layPlatoon_46 ki_0 ?_
      refine x_goto X (tgt := 56) dX11_layPlatoon_47 (by decide) ?_
      refine x_sub X [1, 2, 3, 0] (lv' := [(0, .ref (ad 0)), (3, .int v3), (4, .int v4), (5, .int r30)]) rfl ?_
      exact bX11_layPlatoon_56 X hK10 h
set_option maxRecDepth 100000 in
set_option maxHeartbeats 4000000 in
theorem kX11_layPlatoon {ad : Nat → Nat} {a1 : Int32} {a2 : Int32} {σ : x_S} {τ : x_L} {Q : x_S → x_L → Prop} (h : wX11_layPlatoon a1 a2 σ τ Q) : x_Met yX11_layPlatoon cX11_layPlatoon 6 (Option.none : Option Jvm.ClassFile.FieldType) 4 ad dsM [.ref (ad 0), .int a1, .int a2] σ τ (x_PV Q) := by
  refine x_met (by decide +kernel) (Nat.le_of_ble_eq_true rfl) (fun V X => ?_)
  have X : x_Is V cX11_layPlatoon 6 RX11 (Option.none : Option Jvm.ClassFile.FieldType) ad dsM 4 (x_PV Q) := X
  show V σ τ 0 [(0, .ref (ad 0)), (1, .int a1), (2, .int a2)] []
  refine x_aload_n X dX11_layPlatoon_0 rfl 0 rfl ?_
  refine x_iload_n X dX11_layPlatoon_1 rfl 1 rfl ?_
  refine x_iload_n X dX11_layPlatoon_2 rfl 2 rfl ?_
  refine x_callVi X [.int a1, .int a2] [] dX11_layPlatoon_3 (kX11_layOrder h) cm_X11_layOrder ci_X11_layOrder w_7_175 dsM_0 ⟨by decide, by decide⟩ rfl (Nat.le_of_ble_eq_true rfl) (fun r3 σ3 τ3 h => ?_)
  refine x_istore_n X (lv' := [(3, .int r3), (0, .ref (ad 0)), (1, .int a1), (2, .int a2)]) dX11_layPlatoon_6 rfl (by decide) rfl ?_
  refine x_iconst X dX11_layPlatoon_7 ki_0 ?_
  refine x_istore X (lv' := [(4, .int 0), (3, .int r3), (0, .ref (ad 0)), (1, .int a1), (2, .int a2)]) dX11_layPlatoon_8 (by decide) rfl ?_
  refine x_sub X [2, 1, 0] (lv' := [(0, .ref (ad 0)), (3, .int r3), (4, .int 0)]) rfl ?_
  exact x_l2_G (fun v3 v4 σ τ => V σ τ 10 [(0, .ref (ad 0)), (3, .int v3), (4, .int v4)] []) (fun K10 hK10 v3 v4 σ τ h => bX11_layPlatoon_10 X hK10 h) h
