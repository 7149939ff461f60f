theorem dX11_member_0 : decode cX11_member 0 = .ok (.aload_n 0, 1) := by decide +kernel
theorem dX11_member_1 : decode cX11_member 1 = .ok (.iconst 0, 1) := by decide +kernel
theorem dX11_member_2 : decode cX11_member 2 = .ok (.putfield 82, 3) := by decide +kernel
theorem dX11_member_5 : decode cX11_member 5 = .ok (.aload_n 0, 1) := by decide +kernel
theorem dX11_member_6 : decode cX11_member 6 = .ok (.iload_n 1, 1) := by decide +kernel
theorem dX11_member_7 : decode cX11_member 7 = .ok (.iload_n 2, 1) := by decide +kernel
theorem dX11_member_8 : decode cX11_member 8 = .ok (.invokevirtual 258, 3) := by decide +kernel
theorem dX11_member_11 : decode cX11_member 11 = .ok (.ifCond .ne 20, 3) := by decide +kernel
theorem dX11_member_14 : decode cX11_member 14 = .ok (.aload_n 0, 1) := by decide +kernel
theorem dX11_member_15 : decode cX11_member 15 = .ok (.iload_n 3, 1) := by decide +kernel
theorem dX11_member_16 : decode cX11_member 16 = .ok (.ifCond .ge 7, 3) := by decide +kernel
theorem dX11_member_19 : decode cX11_member 19 = .ok (.iconst 1, 1) := by decide +kernel
theorem dX11_member_20 : decode cX11_member 20 = .ok (.goto 4, 3) := by decide +kernel
theorem dX11_member_23 : decode cX11_member 23 = .ok (.iconst 0, 1) := by decide +kernel
theorem dX11_member_24 : decode cX11_member 24 = .ok (.iconst 1, 1) := by decide +kernel
theorem dX11_member_25 : decode cX11_member 25 = .ok (.invokevirtual 235, 3) := by decide +kernel
theorem dX11_member_28 : decode cX11_member 28 = .ok (.ifCond .eq 5, 3) := by decide +kernel
theorem dX11_member_31 : decode cX11_member 31 = .ok (.iconst 0, 1) := by decide +kernel
theorem dX11_member_32 : decode cX11_member 32 = .ok (.ireturn, 1) := by decide +kernel
theorem dX11_member_33 : decode cX11_member 33 = .ok (.aload_n 0, 1) := by decide +kernel
theorem dX11_member_34 : decode cX11_member 34 = .ok (.aload_n 0, 1) := by decide +kernel
theorem dX11_member_35 : decode cX11_member 35 = .ok (.getfield 223, 3) := by decide +kernel
theorem dX11_member_38 : decode cX11_member 38 = .ok (.aload_n 0, 1) := by decide +kernel
theorem dX11_member_39 : decode cX11_member 39 = .ok (.getfield 226, 3) := by decide +kernel
theorem dX11_member_42 : decode cX11_member 42 = .ok (.iload_n 3, 1) := by decide +kernel
theorem dX11_member_43 : decode cX11_member 43 = .ok (.invokevirtual 160, 3) := by decide +kernel
theorem dX11_member_46 : decode cX11_member 46 = .ok (.ireturn, 1) := by decide +kernel
theorem cm_X11_member : x_CM yX11_member cX11_member 4 (Option.some FieldType.int) 3 := ⟨w_8_81, w_1_12, by decide +kernel, by decide +kernel⟩
theorem ci_X11_member : x_CI yX11_member 13 := ⟨w_8_79, w_8_80, (RX11, TX11, 41), rfl, rfl⟩
set_option maxRecDepth 100000 in
set_option maxHeartbeats 4000000 in
theorem bX11_member_31 {V : x_J} {ad : Nat → Nat} {Q : Int32 → x_S → x_L → Prop} (X : x_Is V cX11_member 4 RX11 (Option.some FieldType.int) ad dsM 7 (x_PI Q)) {σ : x_S} {τ : x_L} (h : wX11_member_31 Q σ τ) : V σ τ 31 [] [] := by
  refine x_iconst X dX11_member_31 ki_0 ?_
  exact x_iret X dX11_member_32 ⟨_, rfl, h⟩
set_option maxRecDepth 100000 in
set_option maxHeartbeats 4000000 in
theorem bX11_member_24 {V : x_J} {ad : Nat → Nat} {Q : Int32 → x_S → x_L → Prop} (X : x_Is V cX11_member 4 RX11 (Option.some FieldType.int) ad dsM 7 (x_PI Q)) {v3 : Int32} {s1 : Int32} {σ : x_S} {τ : x_L} (h : wX11_member_24 Q v3 s1 σ τ) : V σ τ 24 [(0, .ref (ad 0)), (3, .int v3)] [.int s1, .ref (ad 0)] := by
  refine x_iconst X dX11_member_24 ki_1 ?_
  refine x_callVi X [.int s1, .int 1] [] dX11_member_25 (kX11_throwsIf h) cm_X11_throwsIf ci_X11_throwsIf w_8_10 dsM_0 ⟨by decide, by decide⟩ rfl (Nat.le_of_ble_eq_true rfl) (fun r25 σ25 τ25 h => ?_)
  refine x_if_eq X 33 dX11_member_28 (by decide) (fun hc => ?_) (fun hc => ?_)
  · have h := h.1 hc
    refine x_aload_n X dX11_member_33 rfl 0 rfl ?_
    refine x_aload_n X dX11_member_34 rfl 0 rfl ?_
    refine x_getI X dX11_member_35 fl_11_223 dsM_0 rfl ?_
    refine x_aload_n X dX11_member_38 rfl 0 rfl ?_
    refine x_getI X dX11_member_39 fl_11_226 dsM_0 rfl ?_
    refine x_iload_n X dX11_member_42 rfl 1 rfl ?_
    refine x_callVi X [.int (σ25 0 17), .int (σ25 0 18), .int v3] [] dX11_member_43 (kX11_memberAt h) cm_X11_memberAt ci_X11_memberAt w_7_179 dsM_0 ⟨by decide, by decide⟩ rfl (Nat.le_of_ble_eq_true rfl) (fun r43 σ43 τ43 h => ?_)
    exact x_iret X dX11_member_46 ⟨_, rfl, h⟩
  · have h := h.2 hc
    refine x_sub X [] (lv' := []) rfl ?_
    exact bX11_member_31 X h
set_option maxRecDepth 100000 in
set_option maxHeartbeats 4000000 in
theorem kX11_member {ad : Nat → Nat} {a1 : Int32} {a2 : Int32} {a3 : Int32} {σ : x_S} {τ : x_L} {Q : Int32 → x_S → x_L → Prop} (h : wX11_member a1 a2 a3 σ τ Q) : x_Met yX11_member cX11_member 4 (Option.some FieldType.int) 7 ad dsM [.ref (ad 0), .int a1, .int a2, .int a3] σ τ (x_PI Q) := by
  refine x_met (by decide +kernel) (Nat.le_of_ble_eq_true rfl) (fun V X => ?_)
  have X : x_Is V cX11_member 4 RX11 (Option.some FieldType.int) ad dsM 7 (x_PI Q) := X
  show V σ τ 0 [(0, .ref (ad 0)), (1, .int a1), (2, .int a2), (3, .int a3)] []
  refine x_aload_n X dX11_member_0 rfl 0 rfl ?_
  refine x_iconst X dX11_member_1 ki_0 ?_
  refine x_putI X dX11_member_2 fl_11_82 ft_11_5 dsM_0 rfl ?_
  refine x_aload_n X dX11_member_5 rfl 0 rfl ?_
  refine x_iload_n X dX11_member_6 rfl 1 rfl ?_
  refine x_iload_n X dX11_member_7 rfl 2 rfl ?_
  refine x_callVi X [.int a1, .int a2] [] dX11_member_8 (kX11_noPlatoon h) cm_X11_noPlatoon ci_X11_noPlatoon w_8_70 dsM_0 ⟨by decide, by decide⟩ rfl (Nat.le_of_ble_eq_true rfl) (fun r8 σ8 τ8 h => ?_)
  refine x_if_ne X 31 dX11_member_11 (by decide) (fun hc => ?_) (fun hc => ?_)
  · have h := h.1 hc
    refine x_sub X [] (lv' := []) rfl ?_
    exact bX11_member_31 X h
  · have h := h.2 hc
    refine x_aload_n X dX11_member_14 rfl 0 rfl ?_
    refine x_iload_n X dX11_member_15 rfl 3 rfl ?_
    refine x_if_ge X 23 dX11_member_16 (by decide) (fun hc => ?_) (fun hc => ?_)
    · have h := h.1 hc
      refine x_iconst X dX11_member_23 ki_0 ?_
      refine x_sub X [0, 3] (lv' := [(0, .ref (ad 0)), (3, .int a3)]) rfl ?_
      exact bX11_member_24 X h
    · have h := h.2 hc
      refine x_iconst X dX11_member_19 ki_1 ?_
      refine x_goto X (tgt := 24) dX11_member_20 (by decide) ?_
      refine x_sub X [0, 3] (lv' := [(0, .ref (ad 0)), (3, .int a3)]) rfl ?_
      exact bX11_member_24 X h
theorem dX11_notTwo_0 : decode cX11_notTwo 0 = .ok (.aload_n 0, 1) := by decide +kernel
theorem dX11_notTwo_1 : decode cX11_notTwo 1 = .ok (.invokevirtual 200, 3) := by decide +kernel
theorem dX11_notTwo_4 : decode cX11_notTwo 4 = .ok (.aload_n 0, 1) := by decide +kernel
theorem dX11_notTwo_5 : decode cX11_notTwo 5 = .ok (.aload_n 0, 1) := by decide +kernel
theorem dX11_notTwo_6 : decode cX11_notTwo 6 = .ok (.iload_n 1, 1) := by decide +kernel
theorem dX11_notTwo_7 : decode cX11_notTwo 7 = .ok (.invokevirtual 103, 3) := by decide +kernel
theorem dX11_notTwo_10 : decode cX11_notTwo 10 = .ok (.ifCond .eq 11, 3) := by decide +kernel
theorem dX11_notTwo_13 : decode cX11_notTwo 13 = .ok (.aload_n 0, 1) := by decide +kernel
theorem dX11_notTwo_14 : decode cX11_notTwo 14 = .ok (.iload_n 2, 1) := by decide +kernel
theorem dX11_notTwo_15 : decode cX11_notTwo 15 = .ok (.invokevirtual 103, 3) := by decide +kernel
theorem dX11_notTwo_18 : decode cX11_notTwo 18 = .ok (.ifCond .ne 7, 3) := by decide +kernel
theorem dX11_notTwo_21 : decode cX11_notTwo 21 = .ok (.iconst 1, 1) := by decide +kernel
theorem dX11_notTwo_22 : decode cX11_notTwo 22 = .ok (.goto 4, 3) := by decide +kernel
theorem dX11_notTwo_25 : decode cX11_notTwo 25 = .ok (.iconst 0, 1) := by decide +kernel
theorem dX11_notTwo_26 : decode cX11_notTwo 26 = .ok (.iconst 1, 1) := by decide +kernel
theorem dX11_notTwo_27 : decode cX11_notTwo 27 = .ok (.invokevirtual 235, 3) := by decide +kernel
theorem dX11_notTwo_30 : decode cX11_notTwo 30 = .ok (.ireturn, 1) := by decide +kernel
theorem cm_X11_notTwo : x_CM yX11_notTwo cX11_notTwo 3 (Option.some FieldType.boolean) 2 := ⟨w_8_89, w_1_12, by decide +kernel, by decide +kernel⟩
theorem ci_X11_notTwo : x_CI yX11_notTwo 13 := ⟨w_8_88, wp_87, (RX11, TX11, 41), rfl, rfl⟩
set_option maxRecDepth 100000 in
set_option maxHeartbeats 4000000 in
theorem bX11_notTwo_26 {V : x_J} {ad : Nat → Nat} {Q : Int32 → x_S → x_L → Prop} (X : x_Is V cX11_notTwo 3 RX11 (Option.some FieldType.boolean) ad dsM 6 (x_PI Q)) {s1 : Int32} {σ : x_S} {τ : x_L} (h : wX11_notTwo_26 Q s1 σ τ) : V σ τ 26 [] [.int s1, .ref (ad 0)] := by
  refine x_iconst X dX11_notTwo_26 ki_1 ?_
  refine x_callVi X [.int s1, .int 1] [] dX11_notTwo_27 (kX11_throwsIf h) cm_X11_throwsIf ci_X11_throwsIf w_8_10 dsM_0 ⟨by decide, by decide⟩ rfl (Nat.le_of_ble_eq_true rfl) (fun r27 σ27 τ27 h => ?_)
  exact x_zret X dX11_notTwo_30 ⟨h.1, _, rfl, h.2⟩
set_option maxRecDepth 100000 in
set_option maxHeartbeats 4000000 in
theorem bX11_notTwo_21 {V : x_J} {ad : Nat → Nat} {Q : Int32 → x_S → x_L → Prop} (X : x_Is V cX11_notTwo 3 RX11 (Option.some FieldType.boolean) ad dsM 6 (x_PI Q)) {σ : x_S} {τ : x_L} (h : wX11_notTwo_21 Q σ τ) : V σ τ 21 [] [.ref (ad 0)] := by
  refine x_iconst X dX11_notTwo_21 ki_1 ?_
  refine x_goto X (tgt := 26) dX11_notTwo_22 (by decide) ?_
  exact bX11_notTwo_26 X h
set_option maxRecDepth 100000 in
set_option maxHeartbeats 4000000 in
theorem kX11_notTwo {ad : Nat → Nat} {a1 : Int32} {a2 : Int32} {σ : x_S} {τ : x_L} {Q : Int32 → x_S → x_L → Prop} (h : wX11_notTwo a1 a2 σ τ Q) : x_Met yX11_notTwo cX11_notTwo 3 (Option.some FieldType.boolean) 6 ad dsM [.ref (ad 0), .int a1, .int a2] σ τ (x_PI Q) := by
  refine x_met (by decide +kernel) (Nat.le_of_ble_eq_true rfl) (fun V X => ?_)
  have X : x_Is V cX11_notTwo 3 RX11 (Option.some FieldType.boolean) ad dsM 6 (x_PI Q) := X
  show V σ τ 0 [(0, .ref (ad 0)), (1, .int a1), (2, .int a2)] []
  refine x_aload_n X dX11_notTwo_0 rfl 0 rfl ?_
  refine x_callVv X [] [] dX11_notTwo_1 (kX11_lay h) cm_X11_lay ci_X11_lay w_7_101 dsM_0 ⟨by decide, by decide⟩ rfl (Nat.le_of_ble_eq_true rfl) (fun σ1 τ1 h => ?_)
  refine x_aload_n X dX11_notTwo_4 rfl 0 rfl ?_
  refine x_aload_n X dX11_notTwo_5 rfl 0 rfl ?_
  refine x_iload_n X dX11_notTwo_6 rfl 1 rfl ?_
  refine x_callVi X [.int a1] [.ref (ad 0)] dX11_notTwo_7 (kX11_isTruck h) cm_X11_isTruck ci_X11_isTruck w_8_26 dsM_0 ⟨by decide, by decide⟩ rfl (Nat.le_of_ble_eq_true rfl) (fun r7 σ7 τ7 h => ?_)
  refine x_if_eq X 21 dX11_notTwo_10 (by decide) (fun hc => ?_) (fun hc => ?_)
  · have h := h.1 hc
    refine x_sub X [] (lv' := []) rfl ?_
    exact bX11_notTwo_21 X h
  · have h := h.2 hc
    refine x_aload_n X dX11_notTwo_13 rfl 0 rfl ?_
    refine x_iload_n X dX11_notTwo_14 rfl 2 rfl ?_
    refine x_callVi X [.int a2] [.ref (ad 0)] dX11_notTwo_15 (kX11_isTruck h) cm_X11_isTruck ci_X11_isTruck w_8_26 dsM_0 ⟨by decide, by decide⟩ rfl (Nat.le_of_ble_eq_true rfl) (fun r15 σ15 τ15 h => ?_)
    refine x_if_ne X 25 dX11_notTwo_18 (by decide) (fun hc => ?_) (fun hc => ?_)
    · have h := h.1 hc
      refine x_iconst X dX11_notTwo_25 ki_0 ?_
      refine x_sub X [] (lv' := []) rfl ?_
      exact bX11_notTwo_26 X h
    · have h := h.2 hc
      refine x_sub X [] (lv' := []) rfl ?_
      exact bX11_notTwo_21 X h
theorem dX11_together_0 : decode cX11_together 0 = .ok (.aload_n 0, 1) := by decide +kernel
theorem dX11_together_1 : decode cX11_together 1 = .ok (.iconst 0, 1) := by decide +kernel
theorem dX11_together_2 : decode cX11_together 2 = .ok (.putfield 82, 3) := by decide +kernel
theorem dX11_together_5 : decode cX11_together 5 = .ok (.aload_n 0, 1) := by decide +kernel
theorem dX11_together_6 : decode cX11_together 6 = .ok (.iload_n 1, 1) := by decide +kernel
theorem dX11_together_7 : decode cX11_together 7 = .ok (.iload_n 2, 1) := by decide +kernel
theorem dX11_together_8 : decode cX11_together 8 = .ok (.invokevirtual 261, 3) := by decide +kernel
theorem dX11_together_11 : decode cX11_together 11 = .ok (.ifCond .eq 5, 3) := by decide +kernel
theorem dX11_together_14 : decode cX11_together 14 = .ok (.iconst 0, 1) := by decide +kernel
theorem dX11_together_15 : decode cX11_together 15 = .ok (.ireturn, 1) := by decide +kernel
theorem dX11_together_16 : decode cX11_together 16 = .ok (.iload_n 1, 1) := by decide +kernel
theorem dX11_together_17 : decode cX11_together 17 = .ok (.iload_n 2, 1) := by decide +kernel
theorem dX11_together_18 : decode cX11_together 18 = .ok (.if_icmp .ne 6, 3) := by decide +kernel
theorem dX11_together_21 : decode cX11_together 21 = .ok (.bipush (-3), 2) := by decide +kernel
theorem dX11_together_23 : decode cX11_together 23 = .ok (.ireturn, 1) := by decide +kernel
theorem dX11_together_24 : decode cX11_together 24 = .ok (.iconst 0, 1) := by decide +kernel
theorem dX11_together_25 : decode cX11_together 25 = .ok (.istore_n 3, 1) := by decide +kernel
theorem dX11_together_26 : decode cX11_together 26 = .ok (.iconst 0, 1) := by decide +kernel
theorem dX11_together_27 : decode cX11_together 27 = .ok (.istore 4, 2) := by decide +kernel
theorem dX11_together_29 : decode cX11_together 29 = .ok (.iload 4, 2) := by decide +kernel
theorem dX11_together_31 : decode cX11_together 31 = .ok (.aload_n 0, 1) := by decide +kernel
theorem dX11_together_32 : decode cX11_together 32 = .ok (.iload_n 1, 1) := by decide +kernel
theorem dX11_together_33 : decode cX11_together 33 = .ok (.invokevirtual 107, 3) := by decide +kernel
theorem dX11_together_36 : decode cX11_together 36 = .ok (.if_icmp .ge 29, 3) := by decide +kernel
theorem dX11_together_39 : decode cX11_together 39 = .ok (.iload_n 3, 1) := by decide +kernel
theorem dX11_together_40 : decode cX11_together 40 = .ok (.aload_n 0, 1) := by decide +kernel
theorem dX11_together_41 : decode cX11_together 41 = .ok (.iload_n 1, 1) := by decide +kernel
theorem dX11_together_42 : decode cX11_together 42 = .ok (.iload 4, 2) := by decide +kernel
theorem dX11_together_44 : decode cX11_together 44 = .ok (.iload_n 2, 1) := by decide +kernel
theorem dX11_together_45 : decode cX11_together 45 = .ok (.invokevirtual 137, 3) := by decide +kernel
theorem dX11_together_48 : decode cX11_together 48 = .ok (.iconst (-1), 1) := by decide +kernel
theorem dX11_together_49 : decode cX11_together 49 = .ok (.if_icmp .eq 7, 3) := by decide +kernel
theorem dX11_together_52 : decode cX11_together 52 = .ok (.iconst 1, 1) := by decide +kernel
theorem dX11_together_53 : decode cX11_together 53 = .ok (.goto 4, 3) := by decide +kernel
theorem dX11_together_56 : decode cX11_together 56 = .ok (.iconst 0, 1) := by decide +kernel
theorem dX11_together_57 : decode cX11_together 57 = .ok (.iadd, 1) := by decide +kernel
theorem dX11_together_58 : decode cX11_together 58 = .ok (.istore_n 3, 1) := by decide +kernel
theorem dX11_together_59 : decode cX11_together 59 = .ok (.iinc 4 1, 3) := by decide +kernel
theorem dX11_together_62 : decode cX11_together 62 = .ok (.goto (-33), 3) := by decide +kernel
theorem dX11_together_65 : decode cX11_together 65 = .ok (.iload_n 3, 1) := by decide +kernel
theorem dX11_together_66 : decode cX11_together 66 = .ok (.ireturn, 1) := by decide +kernel
theorem cm_X11_together : x_CM yX11_together cX11_together 5 (Option.some FieldType.int) 2 := ⟨w_8_85, w_1_12, by decide +kernel, by decide +kernel⟩
theorem ci_X11_together : x_CI yX11_together 13 := ⟨w_8_83, w_8_84, (RX11, TX11, 41), rfl, rfl⟩
set_option maxRecDepth 100000 in
set_option maxHeartbeats 4000000 in
theorem bX11_together_57 {V : x_J} {ad : Nat → Nat} {Q : Int32 → x_S → x_L → Prop} (X : x_Is V cX11_together 5 RX11 (Option.some FieldType.int) ad dsM 7 (x_PI Q)) {K29 : Int32 → Int32 → Int32 → Int32 → x_S → x_L → Prop} (hK29 : ∀ v1 v2 v3 v4 σ τ, K29 v1 v2 v3 v4 σ τ → V σ τ 29 [(0, .ref (ad 0)), (1, .int v1), (2, .int v2), (3, .int v3), (4, .int v4)] []) {v1 : Int32} {v2 : Int32} {v4 : Int32} {s0 : Int32} {s1 : Int32} {σ : x_S} {τ : x_L} (h : wX11_together_57 K29 Q v1 v2 v4 s0 s1 σ τ) : V σ τ 57 [(0, .ref (ad 0)), (1, .int v1), (2, .int v2), (4, .int v4)] [.int s1, .int s0] := by
  refine x_iadd X dX11_together_57 ?_
  refine x_istore_n X (lv' := [(3, .int (s0 + s1)), (0, .ref (ad 0)), (1, .int v1), (2, .int v2), (4, .int v4)]) dX11_together_58 rfl (by decide) rfl ?_
  refine x_iinc X (k := 4) (lv' := [(4, .int (v4 + 1)), (3, .int (s0 + s1)), (0, .ref (ad 0)), (1, .int v1), (2, .int v2)]) dX11_together_59 rfl ki_1 (by decide) rfl ?_
  refine x_goto X (tgt := 29) dX11_together_62 (by decide) ?_
  refine x_sub X [2, 3, 4, 1, 0] (lv' := [(0, .ref (ad 0)), (1, .int v1), (2, .int v2), (3, .int (s0 + s1)), (4, .int (v4 + 1))]) rfl ?_
  exact hK29 _ _ _ _ _ _ h
set_option maxRecDepth 100000 in
set_option maxHeartbeats 4000000 in
theorem bX11_together_29 {V : x_J} {ad : Nat → Nat} {Q : Int32 → x_S → x_L → Prop} (X : x_Is V cX11_together 5 RX11 (Option.some FieldType.int) ad dsM 7 (x_PI Q)) {K29 : Int32 → Int32 → Int32 → Int32 → x_S → x_L → Prop} (hK29 : ∀ v1 v2 v3 v4 σ τ, K29 v1 v2 v3 v4 σ τ → V σ τ 29 [(0, .ref (ad 0)), (1, .int v1), (2, .int v2), (3, .int v3), (4, .int v4)] []) {v1 : Int32} {v2 : Int32} {v3 : Int32} {v4 : Int32} {σ : x_S} {τ : x_L} (h : wX11_together_29 Q K29 v1 v2 v3 v4 σ τ) : V σ τ 29 [(0, .ref (ad 0)), (1, .int v1), (2, .int v2), (3, .int v3), (4, .int v4)] [] := by
  refine x_iload X dX11_together_29 4 rfl ?_
  refine x_aload_n X dX11_together_31 rfl 0 rfl ?_
  refine x_iload_n X dX11_together_32 rfl 1 rfl ?_
  refine x_callVi X [.int v1] [.int v4] dX11_together_33 (kX11_placesOf h) cm_X11_placesOf ci_X11_placesOf w_7_109 dsM_0 ⟨by decide, by decide⟩ rfl (Nat.le_of_ble_eq_true rfl) (fun r33 σ33 τ33 h => ?_)
  refine x_icmp_ge X 65 dX11_together_36 (by decide) (fun hc => ?_) (fun hc => ?_)
  · have h := h.1 hc
    refine x_iload_n X dX11_together_65 rfl 3 rfl ?_
    exact x_iret X dX11_together_66 ⟨_, rfl, h⟩
  · have h := h.2 hc
    refine x_iload_n X dX11_together_39 rfl 3 rfl ?_
    refine x_aload_n X dX11_together_40 rfl 0 rfl ?_
    refine x_iload_n X dX11_together_41 rfl 1 rfl ?_
    refine x_iload X dX11_together_42 4 rfl ?_
    refine x_iload_n X dX11_together_44 rfl 2 rfl ?_
    refine x_callVi X [.int v1, .int v4, .int v2] [.int v3] dX11_together_45 (kX11_mateOf h) cm_X11_mateOf ci_X11_mateOf w_7_156 dsM_0 ⟨by decide, by decide⟩ rfl (Nat.le_of_ble_eq_true rfl) (fun r45 σ45 τ45 h => ?_)
    refine x_iconst X dX11_together_48 ki_m1 ?_
    refine x_icmp_eq X 56 dX11_together_49 (by decide) (fun hc => ?_) (fun hc => ?_)
    · have h := h.1 hc
      refine x_iconst X dX11_together_56 ki_0 ?_
      refine x_sub X [0, 1, 2, 4] (lv' := [(0, .ref (ad 0)), (1, .int v1), (2, .int v2), (4, .int v4)]) rfl ?_
      exact bX11_together_57 X hK29 h
    · have h := h.2 hc
      refine x_iconst X dX11_together_52 ki_1 ?_
      refine x_goto X (tgt := 57) dX11_together_53 (by decide) ?_
      refine x_sub X [0, 1, 2, 4] (lv' := [(0, .ref (ad 0)), (1, .int v1), (2, .int v2), (4, .int v4)]) rfl ?_
      exact bX11_together_57 X hK29 h
set_option maxRecDepth 100000 in
set_option maxHeartbeats 4000000 in
theorem kX11_together {ad : Nat → Nat} {a1 : Int32} {a2 : Int32} {σ : x_S} {τ : x_L} {Q : Int32 → x_S → x_L → Prop} (h : wX11_together a1 a2 σ τ Q) : x_Met yX11_together cX11_together 5 (Option.some FieldType.int) 7 ad dsM [.ref (ad 0), .int a1, .int a2] σ τ (x_PI Q) := by
  refine x_met (by decide +kernel) (Nat.le_of_ble_eq_true rfl) (fun V X => ?_)
  have X : x_Is V cX11_together 5 RX11 (Option.some FieldType.int) ad dsM 7 (x_PI Q) := X
  show V σ τ 0 [(0, .ref (ad 0)), (1, .int a1), (2, .int a2)] []
  refine x_aload_n X dX11_together_0 rfl 0 rfl ?_
  refine x_iconst X dX11_together_1 ki_0 ?_
  refine x_putI X dX11_together_2 fl_11_82 ft_11_5 dsM_0 rfl ?_
  refine x_aload_n X dX11_together_5 rfl 0 rfl ?_
  refine x_iload_n X dX11_together_6 rfl 1 rfl ?_
  refine x_iload_n X dX11_together_7 rfl 2 rfl ?_
  refine x_callVi X [.int a1, .int a2] [] dX11_together_8 (kX11_notTwo h) cm_X11_notTwo ci_X11_notTwo w_8_86 dsM_0 ⟨by decide, by decide⟩ rfl (Nat.le_of_ble_eq_true rfl) (fun r8 σ8 τ8 h => ?_)
  refine x_if_eq X 16 dX11_together_11 (by decide) (fun hc => ?_) (fun hc => ?_)
  · have h := h.1 hc
    refine x_iload_n X dX11_together_16 rfl 1 rfl ?_
    refine x_iload_n X dX11_together_17 rfl 2 rfl ?_
    refine x_icmp_ne X 24 dX11_together_18 (by decide) (fun hc => ?_) (fun hc => ?_)
    · have h := h.1 hc
      refine x_iconst X dX11_together_24 ki_0 ?_
      refine x_istore_n X (lv' := [(3, .int 0), (0, .ref (ad 0)), (1, .int a1), (2, .int a2)]) dX11_together_25 rfl (by decide) rfl ?_
      refine x_iconst X dX11_together_26 ki_0 ?_
      refine x_istore X (lv' := [(4, .int 0), (3, .int 0), (0, .ref (ad 0)), (1, .int a1), (2, .int a2)]) dX11_together_27 (by decide) rfl ?_
      refine x_sub X [2, 3, 4, 1, 0] (lv' := [(0, .ref (ad 0)), (1, .int a1), (2, .int a2), (3, .int 0), (4, .int 0)]) rfl ?_
      exact x_l4_G (fun v1 v2 v3 v4 σ τ => V σ τ 29 [(0, .ref (ad 0)), (1, .int v1), (2, .int v2), (3, .int v3), (4, .int v4)] []) (fun K29 hK29 v1 v2 v3 v4 σ τ h => bX11_together_29 X hK29 h) h
    · have h := h.2 hc
      refine x_bipush X dX11_together_21 kb_m3 ?_
      exact x_iret X dX11_together_23 ⟨_, rfl, h⟩
  · have h := h.2 hc
    refine x_iconst X dX11_together_14 ki_0 ?_
    exact x_iret X dX11_together_15 ⟨_, rfl, h⟩
theorem dX11_pairSaved_0 : decode cX11_pairSaved 0 = .ok (.aload_n 0, 1) := by decide +kernel
theorem dX11_pairSaved_1 : decode cX11_pairSaved 1 = .ok (.iconst 0, 1) := by decide +kernel
theorem dX11_pairSaved_2 : decode cX11_pairSaved 2 = .ok (.putfield 82, 3) := by decide +kernel
theorem dX11_pairSaved_5 : decode cX11_pairSaved 5 = .ok (.aload_n 0, 1) := by decide +kernel
theorem dX11_pairSaved_6 : decode cX11_pairSaved 6 = .ok (.iload_n 1, 1) := by decide +kernel
theorem dX11_pairSaved_7 : decode cX11_pairSaved 7 = .ok (.iload_n 2, 1) := by decide +kernel
theorem dX11_pairSaved_8 : decode cX11_pairSaved 8 = .ok (.invokevirtual 261, 3) := by decide +kernel
theorem dX11_pairSaved_11 : decode cX11_pairSaved 11 = .ok (.ifCond .eq 5, 3) := by decide +kernel
theorem dX11_pairSaved_14 : decode cX11_pairSaved 14 = .ok (.iconst 0, 1) := by decide +kernel
theorem dX11_pairSaved_15 : decode cX11_pairSaved 15 = .ok (.ireturn, 1) := by decide +kernel
theorem dX11_pairSaved_16 : decode cX11_pairSaved 16 = .ok (.iload_n 1, 1) := by decide +kernel
theorem dX11_pairSaved_17 : decode cX11_pairSaved 17 = .ok (.iload_n 2, 1) := by decide +kernel
theorem dX11_pairSaved_18 : decode cX11_pairSaved 18 = .ok (.if_icmp .ne 6, 3) := by decide +kernel
theorem dX11_pairSaved_21 : decode cX11_pairSaved 21 = .ok (.bipush (-3), 2) := by decide +kernel
theorem dX11_pairSaved_23 : decode cX11_pairSaved 23 = .ok (.ireturn, 1) := by decide +kernel
theorem dX11_pairSaved_24 : decode cX11_pairSaved 24 = .ok (.iconst 0, 1) := by decide +kernel
theorem dX11_pairSaved_25 : decode cX11_pairSaved 25 = .ok (.istore_n 3, 1) := by decide +kernel
theorem dX11_pairSaved_26 : decode cX11_pairSaved 26 = .ok (.iconst 0, 1) := by decide +kernel
theorem dX11_pairSaved_27 : decode cX11_pairSaved 27 = .ok (.istore 4, 2) := by decide +kernel
theorem dX11_pairSaved_29 : decode cX11_pairSaved 29 = .ok (.iload 4, 2) := by decide +kernel
theorem dX11_pairSaved_31 : decode cX11_pairSaved 31 = .ok (.aload_n 0, 1) := by decide +kernel
theorem dX11_pairSaved_32 : decode cX11_pairSaved 32 = .ok (.iload_n 1, 1) := by decide +kernel
theorem dX11_pairSaved_33 : decode cX11_pairSaved 33 = .ok (.invokevirtual 107, 3) := by decide +kernel
theorem dX11_pairSaved_36 : decode cX11_pairSaved 36 = .ok (.if_icmp .ge 129, 3) := by decide +kernel
theorem dX11_pairSaved_39 : decode cX11_pairSaved 39 = .ok (.aload_n 0, 1) := by decide +kernel
theorem dX11_pairSaved_40 : decode cX11_pairSaved 40 = .ok (.iload_n 1, 1) := by decide +kernel
theorem dX11_pairSaved_41 : decode cX11_pairSaved 41 = .ok (.iload 4, 2) := by decide +kernel
theorem dX11_pairSaved_43 : decode cX11_pairSaved 43 = .ok (.iload_n 2, 1) := by decide +kernel
theorem dX11_pairSaved_44 : decode cX11_pairSaved 44 = .ok (.invokevirtual 137, 3) := by decide +kernel
theorem dX11_pairSaved_47 : decode cX11_pairSaved 47 = .ok (.istore 5, 2) := by decide +kernel
theorem dX11_pairSaved_49 : decode cX11_pairSaved 49 = .ok (.iload 5, 2) := by decide +kernel
theorem dX11_pairSaved_51 : decode cX11_pairSaved 51 = .ok (.iconst (-1), 1) := by decide +kernel
theorem dX11_pairSaved_52 : decode cX11_pairSaved 52 = .ok (.if_icmp .ne 6, 3) := by decide +kernel
theorem dX11_pairSaved_55 : decode cX11_pairSaved 55 = .ok (.goto 104, 3) := by decide +kernel
theorem dX11_pairSaved_58 : decode cX11_pairSaved 58 = .ok (.iload_n 1, 1) := by decide +kernel
theorem dX11_pairSaved_59 : decode cX11_pairSaved 59 = .ok (.iload 4, 2) := by decide +kernel
theorem dX11_pairSaved_61 : decode cX11_pairSaved 61 = .ok (.invokestatic 111, 3) := by decide +kernel
theorem dX11_pairSaved_64 : decode cX11_pairSaved 64 = .ok (.istore 6, 2) := by decide +kernel
theorem dX11_pairSaved_66 : decode cX11_pairSaved 66 = .ok (.iload_n 2, 1) := by decide +kernel
theorem dX11_pairSaved_67 : decode cX11_pairSaved 67 = .ok (.iload 5, 2) := by decide +kernel
theorem dX11_pairSaved_69 : decode cX11_pairSaved 69 = .ok (.invokestatic 111, 3) := by decide +kernel
theorem dX11_pairSaved_72 : decode cX11_pairSaved 72 = .ok (.istore 7, 2) := by decide +kernel
theorem dX11_pairSaved_74 : decode cX11_pairSaved 74 = .ok (.aload_n 0, 1) := by decide +kernel
theorem dX11_pairSaved_75 : decode cX11_pairSaved 75 = .ok (.getfield 35, 3) := by decide +kernel
theorem dX11_pairSaved_78 : decode cX11_pairSaved 78 = .ok (.iload 6, 2) := by decide +kernel
theorem dX11_pairSaved_80 : decode cX11_pairSaved 80 = .ok (.iaload, 1) := by decide +kernel
theorem dX11_pairSaved_81 : decode cX11_pairSaved 81 = .ok (.aload_n 0, 1) := by decide +kernel
theorem dX11_pairSaved_82 : decode cX11_pairSaved 82 = .ok (.getfield 35, 3) := by decide +kernel
theorem dX11_pairSaved_85 : decode cX11_pairSaved 85 = .ok (.iload 7, 2) := by decide +kernel
theorem dX11_pairSaved_87 : decode cX11_pairSaved 87 = .ok (.iaload, 1) := by decide +kernel
theorem dX11_pairSaved_88 : decode cX11_pairSaved 88 = .ok (.isub, 1) := by decide +kernel
theorem dX11_pairSaved_89 : decode cX11_pairSaved 89 = .ok (.istore 8, 2) := by decide +kernel
theorem dX11_pairSaved_91 : decode cX11_pairSaved 91 = .ok (.iload 8, 2) := by decide +kernel
theorem dX11_pairSaved_93 : decode cX11_pairSaved 93 = .ok (.ifCond .ge 8, 3) := by decide +kernel
theorem dX11_pairSaved_96 : decode cX11_pairSaved 96 = .ok (.iload 6, 2) := by decide +kernel
theorem dX11_pairSaved_98 : decode cX11_pairSaved 98 = .ok (.goto 5, 3) := by decide +kernel
theorem dX11_pairSaved_101 : decode cX11_pairSaved 101 = .ok (.iload 7, 2) := by decide +kernel
theorem dX11_pairSaved_103 : decode cX11_pairSaved 103 = .ok (.istore 9, 2) := by decide +kernel
theorem dX11_pairSaved_105 : decode cX11_pairSaved 105 = .ok (.iload 8, 2) := by decide +kernel
theorem dX11_pairSaved_107 : decode cX11_pairSaved 107 = .ok (.iconst 1, 1) := by decide +kernel
theorem dX11_pairSaved_108 : decode cX11_pairSaved 108 = .ok (.if_icmp .eq 9, 3) := by decide +kernel
theorem dX11_pairSaved_111 : decode cX11_pairSaved 111 = .ok (.iload 8, 2) := by decide +kernel
theorem dX11_pairSaved_113 : decode cX11_pairSaved 113 = .ok (.iconst (-1), 1) := by decide +kernel
theorem dX11_pairSaved_114 : decode cX11_pairSaved 114 = .ok (.if_icmp .ne 45, 3) := by decide +kernel
theorem dX11_pairSaved_117 : decode cX11_pairSaved 117 = .ok (.iload_n 3, 1) := by decide +kernel
theorem dX11_pairSaved_118 : decode cX11_pairSaved 118 = .ok (.aload_n 0, 1) := by decide +kernel
theorem dX11_pairSaved_119 : decode cX11_pairSaved 119 = .ok (.getfield 41, 3) := by decide +kernel
theorem dX11_pairSaved_122 : decode cX11_pairSaved 122 = .ok (.iload 8, 2) := by decide +kernel
theorem dX11_pairSaved_124 : decode cX11_pairSaved 124 = .ok (.ifCond .ge 8, 3) := by decide +kernel
theorem dX11_pairSaved_127 : decode cX11_pairSaved 127 = .ok (.iload 7, 2) := by decide +kernel
theorem dX11_pairSaved_129 : decode cX11_pairSaved 129 = .ok (.goto 5, 3) := by decide +kernel
theorem dX11_pairSaved_132 : decode cX11_pairSaved 132 = .ok (.iload 6, 2) := by decide +kernel
theorem dX11_pairSaved_134 : decode cX11_pairSaved 134 = .ok (.iaload, 1) := by decide +kernel
theorem dX11_pairSaved_135 : decode cX11_pairSaved 135 = .ok (.aload_n 0, 1) := by decide +kernel
theorem dX11_pairSaved_136 : decode cX11_pairSaved 136 = .ok (.getfield 35, 3) := by decide +kernel
theorem dX11_pairSaved_139 : decode cX11_pairSaved 139 = .ok (.iload 9, 2) := by decide +kernel
theorem dX11_pairSaved_141 : decode cX11_pairSaved 141 = .ok (.iaload, 1) := by decide +kernel
theorem dX11_pairSaved_142 : decode cX11_pairSaved 142 = .ok (.ifCond .ne 13, 3) := by decide +kernel
theorem dX11_pairSaved_145 : decode cX11_pairSaved 145 = .ok (.aload_n 0, 1) := by decide +kernel
theorem dX11_pairSaved_146 : decode cX11_pairSaved 146 = .ok (.getfield 41, 3) := by decide +kernel
theorem dX11_pairSaved_149 : decode cX11_pairSaved 149 = .ok (.iload 9, 2) := by decide +kernel
theorem dX11_pairSaved_151 : decode cX11_pairSaved 151 = .ok (.iaload, 1) := by decide +kernel
theorem dX11_pairSaved_152 : decode cX11_pairSaved 152 = .ok (.goto 4, 3) := by decide +kernel
theorem dX11_pairSaved_155 : decode cX11_pairSaved 155 = .ok (.iconst 0, 1) := by decide +kernel
theorem dX11_pairSaved_156 : decode cX11_pairSaved 156 = .ok (.iadd, 1) := by decide +kernel
theorem dX11_pairSaved_157 : decode cX11_pairSaved 157 = .ok (.iadd, 1) := by decide +kernel
theorem dX11_pairSaved_158 : decode cX11_pairSaved 158 = .ok (.istore_n 3, 1) := by decide +kernel
theorem dX11_pairSaved_159 : decode cX11_pairSaved 159 = .ok (.iinc 4 1, 3) := by decide +kernel
theorem dX11_pairSaved_162 : decode cX11_pairSaved 162 = .ok (.goto (-133), 3) := by decide +kernel
theorem dX11_pairSaved_165 : decode cX11_pairSaved 165 = .ok (.iload_n 3, 1) := by decide +kernel
theorem dX11_pairSaved_166 : decode cX11_pairSaved 166 = .ok (.ireturn, 1) := by decide +kernel
theorem cm_X11_pairSaved : x_CM yX11_pairSaved cX11_pairSaved 10 (Option.some FieldType.int) 2 := ⟨w_8_93, w_1_12, by decide +kernel, by decide +kernel⟩
theorem ci_X11_pairSaved : x_CI yX11_pairSaved 13 := ⟨w_8_91, w_8_92, (RX11, TX11, 41), rfl, rfl⟩
set_option maxRecDepth 100000 in
set_option maxHeartbeats 4000000 in
theorem bX11_pairSaved_159 {V : x_J} {ad : Nat → Nat} {Q : Int32 → x_S → x_L → Prop} (X : x_Is V cX11_pairSaved 10 RX11 (Option.some FieldType.int) ad dsM 7 (x_PI Q)) {K29 : Int32 → Int32 → Int32 → Int32 → x_S → x_L → Prop} (hK29 : ∀ v1 v2 v3 v4 σ τ, K29 v1 v2 v3 v4 σ τ → V σ τ 29 [(0, .ref (ad 0)), (1, .int v1), (2, .int v2), (3, .int v3), (4, .int v4)] []) {v1 : Int32} {v2 : Int32} {v3 : Int32} {v4 : Int32} {σ : x_S} {τ : x_L} (h : wX11_pairSaved_159 K29 Q v1 v2 v3 v4 σ τ) : V σ τ 159 [(0, .ref (ad 0)), (1, .int v1), (2, .int v2), (3, .int v3), (4, .int v4)] [] := by
  refine x_iinc X (k := 4) (lv' := [(4, .int (v4 + 1)), (0, .ref (ad 0)), (1, .int v1), (2, .int v2), (3, .int v3)]) dX11_pairSaved_159 rfl ki_1 (by decide) rfl ?_
  refine x_goto X (tgt := 29) dX11_pairSaved_162 (by decide) ?_
  refine x_sub X [1, 2, 3, 4, 0] (lv' := [(0, .ref (ad 0)), (1, .int v1), (2, .int v2), (3, .int v3), (4, .int (v4 + 1))]) rfl ?_
  exact hK29 _ _ _ _ _ _ h
set_option maxRecDepth 100000 in
set_option maxHeartbeats 4000000 in
theorem bX11_pairSaved_156 {V : x_J} {ad : Nat → Nat} {Q : Int32 → x_S → x_L → Prop} (X : x_Is V cX11_pairSaved 10 RX11 (Option.some FieldType.int) ad dsM 7 (x_PI Q)) {K29 : Int32 → Int32 → Int32 → Int32 → x_S → x_L → Prop} (hK29 : ∀ v1 v2 v3 v4 σ τ, K29 v1 v2 v3 v4 σ τ → V σ τ 29 [(0, .ref (ad 0)), (1, .int v1), (2, .int v2), (3, .int v3), (4, .int v4)] []) {v1 : Int32} {v2 : Int32} {v4 : Int32} {s0 : Int32} {s1 : Int32} {s2 : Int32} {σ : x_S} {τ : x_L} (h : wX11_pairSaved_156 K29 Q v1 v2 v4 s0 s1 s2 σ τ) : V σ τ 156 [(0, .ref (ad 0)), (1, .int v1), (2, .int v2), (4, .int v4)] [.int s2, .int s1, .int s0] := by
  refine x_iadd X dX11_pairSaved_156 ?_
  refine x_iadd X dX11_pairSaved_157 ?_
  refine x_istore_n X (lv' := [(3, .int (s0 + (s1 + s2))), (0, .ref (ad 0)), (1, .int v1), (2, .int v2), (4, .int v4)]) dX11_pairSaved_158 rfl (by decide) rfl ?_
  refine x_sub X [1, 2, 3, 0, 4] (lv' := [(0, .ref (ad 0)), (1, .int v1), (2, .int v2), (3, .int (s0 + (s1 + s2))), (4, .int v4)]) rfl ?_
  exact bX11_pairSaved_159 X hK29 h
set_option maxRecDepth 100000 in
set_option maxHeartbeats 4000000 in
theorem bX11_pairSaved_134 {V : x_J} {ad : Nat → Nat} {Q : Int32 → x_S → x_L → Prop} (X : x_Is V cX11_pairSaved 10 RX11 (Option.some FieldType.int) ad dsM 7 (x_PI Q)) {K29 : Int32 → Int32 → Int32 → Int32 → x_S → x_L → Prop} (hK29 : ∀ v1 v2 v3 v4 σ τ, K29 v1 v2 v3 v4 σ τ → V σ τ 29 [(0, .ref (ad 0)), (1, .int v1), (2, .int v2), (3, .int v3), (4, .int v4)] []) {v1 : Int32} {v2 : Int32} {v4 : Int32} {v9 : Int32} {s0 : Int32} {s2 : Int32} {σ : x_S} {τ : x_L} (h : wX11_pairSaved_134 K29 Q v1 v2 v4 v9 s0 s2 σ τ) : V σ τ 134 [(0, .ref (ad 0)), (1, .int v1), (2, .int v2), (4, .int v4), (9, .int v9)] [.int s2, .ref (ad 11), .int s0] := by
  have g134 := h.1
  have h := h.2
  refine x_iald X dX11_pairSaved_134 dsM_11 g134 ?_
  refine x_aload_n X dX11_pairSaved_135 rfl 0 rfl ?_
  refine x_getR X (j := 9) dX11_pairSaved_136 fl_11_35 dsM_0 rfl ?_
  refine x_iload X dX11_pairSaved_139 4 rfl ?_
  have g141 := h.1
  have h := h.2
  refine x_iald X dX11_pairSaved_141 dsM_9 g141 ?_
  refine x_if_ne X 155 dX11_pairSaved_142 (by decide) (fun hc => ?_) (fun hc => ?_)
  · have h := h.1 hc
    refine x_iconst X dX11_pairSaved_155 ki_0 ?_
    refine x_sub X [0, 1, 2, 3] (lv' := [(0, .ref (ad 0)), (1, .int v1), (2, .int v2), (4, .int v4)]) rfl ?_
    exact bX11_pairSaved_156 X hK29 h
  · have h := h.2 hc
    refine x_aload_n X dX11_pairSaved_145 rfl 0 rfl ?_
    refine x_getR X (j := 11) dX11_pairSaved_146 fl_11_41 dsM_0 rfl ?_
    refine x_iload X dX11_pairSaved_149 4 rfl ?_
    refine x_iald X dX11_pairSaved_151 dsM_11 g141 ?_
    refine x_goto X (tgt := 156) dX11_pairSaved_152 (by decide) ?_
    refine x_sub X [0, 1, 2, 3] (lv' := [(0, .ref (ad 0)), (1, .int v1), (2, .int v2), (4, .int v4)]) rfl ?_
    exact bX11_pairSaved_156 X hK29 h
set_option maxRecDepth 100000 in
set_option maxHeartbeats 4000000 in
theorem bX11_pairSaved_117 {V : x_J} {ad : Nat → Nat} {Q : Int32 → x_S → x_L → Prop} (X : x_Is V cX11_pairSaved 10 RX11 (Option.some FieldType.int) ad dsM 7 (x_PI Q)) {K29 : Int32 → Int32 → Int32 → Int32 → x_S → x_L → Prop} (hK29 : ∀ v1 v2 v3 v4 σ τ, K29 v1 v2 v3 v4 σ τ → V σ τ 29 [(0, .ref (ad 0)), (1, .int v1), (2, .int v2), (3, .int v3), (4, .int v4)] []) {v1 : Int32} {v2 : Int32} {v3 : Int32} {v4 : Int32} {v6 : Int32} {v7 : Int32} {v8 : Int32} {v9 : Int32} {σ : x_S} {τ : x_L} (h : wX11_pairSaved_117 K29 Q v1 v2 v3 v4 v6 v7 v8 v9 σ τ) : V σ τ 117 [(0, .ref (ad 0)), (1, .int v1), (2, .int v2), (3, .int v3), (4, .int v4), (6, .int v6), (7, .int v7), (8, .int v8), (9, .int v9)] [] := by
  refine x_iload_n X dX11_pairSaved_117 rfl 3 rfl ?_
  refine x_aload_n X dX11_pairSaved_118 rfl 0 rfl ?_
  refine x_getR X (j := 11) dX11_pairSaved_119 fl_11_41 dsM_0 rfl ?_
  refine x_iload X dX11_pairSaved_122 7 rfl ?_
  refine x_if_ge X 132 dX11_pairSaved_124 (by decide) (fun hc => ?_) (fun hc => ?_)
  · have h := h.1 hc
    refine x_iload X dX11_pairSaved_132 5 rfl ?_
    refine x_sub X [0, 1, 2, 4, 8] (lv' := [(0, .ref (ad 0)), (1, .int v1), (2, .int v2), (4, .int v4), (9, .int v9)]) rfl ?_
    exact bX11_pairSaved_134 X hK29 h
  · have h := h.2 hc
    refine x_iload X dX11_pairSaved_127 6 rfl ?_
    refine x_goto X (tgt := 134) dX11_pairSaved_129 (by decide) ?_
    refine x_sub X [0, 1, 2, 4, 8] (lv' := [(0, .ref (ad 0)), (1, .int v1), (2, .int v2), (4, .int v4), (9, .int v9)]) rfl ?_
    exact bX11_pairSaved_134 X hK29 h
set_option maxRecDepth 100000 in
set_option maxHeartbeats 4000000 in
theorem bX11_pairSaved_103 {V : x_J} {ad : Nat → Nat} {Q : Int32 → x_S → x_L → Prop} (X : x_Is V cX11_pairSaved 10 RX11 (Option.some FieldType.int) ad dsM 7 (x_PI Q)) {K29 : Int32 → Int32 → Int32 → Int32 → x_S → x_L → Prop} (hK29 : ∀ v1 v2 v3 v4 σ τ, K29 v1 v2 v3 v4 σ τ → V σ τ 29 [(0, .ref (ad 0)), (1, .int v1), (2, .int v2), (3, .int v3), (4, .int v4)] []) {v1 : Int32} {v2 : Int32} {v3 : Int32} {v4 : Int32} {v6 : Int32} {v7 : Int32} {v8 : Int32} {s0 : Int32} {σ : x_S} {τ : x_L} (h : wX11_pairSaved_103 K29 Q v1 v2 v3 v4 v6 v7 v8 s0 σ τ) : V σ τ 103 [(0, .ref (ad 0)), (1, .int v1), (2, .int v2), (3, .int v3), (4, .int v4), (6, .int v6), (7, .int v7), (8, .int v8)] [.int s0] := by
  refine x_istore X (lv' := [(9, .int s0), (0, .ref (ad 0)), (1, .int v1), (2, .int v2), (3, .int v3), (4, .int v4), (6, .int v6), (7, .int v7), (8, .int v8)]) dX11_pairSaved_103 (by decide) rfl ?_
  refine x_iload X dX11_pairSaved_105 8 rfl ?_
  refine x_iconst X dX11_pairSaved_107 ki_1 ?_
  refine x_icmp_eq X 117 dX11_pairSaved_108 (by decide) (fun hc => ?_) (fun hc => ?_)
  · have h := h.1 hc
    refine x_sub X [1, 2, 3, 4, 5, 6, 7, 8, 0] (lv' := [(0, .ref (ad 0)), (1, .int v1), (2, .int v2), (3, .int v3), (4, .int v4), (6, .int v6), (7, .int v7), (8, .int v8), (9, .int s0)]) rfl ?_
    exact bX11_pairSaved_117 X hK29 h
  · have h := h.2 hc
    refine x_iload X dX11_pairSaved_111 8 rfl ?_
    refine x_iconst X dX11_pairSaved_113 ki_m1 ?_
    refine x_icmp_ne X 159 dX11_pairSaved_114 (by decide) (fun hc => ?_) (fun hc => ?_)
    · have h := h.1 hc
      refine x_sub X [1, 2, 3, 4, 5] (lv' := [(0, .ref (ad 0)), (1, .int v1), (2, .int v2), (3, .int v3), (4, .int v4)]) rfl ?_
      exact bX11_pairSaved_159 X hK29 h
    · have h := h.2 hc
      refine x_sub X [1, 2, 3, 4, 5, 6, 7, 8, 0] (lv' := [(0, .ref (ad 0)), (1, .int v1), (2, .int v2), (3, .int v3), (4, .int v4), (6, .int v6), (7, .int v7), (8, .int v8), (9, .int s0)]) rfl ?_
      exact bX11_pairSaved_117 X hK29 h
set_option maxRecDepth 100000 in
set_option maxHeartbeats 4000000 in
theorem bX11_pairSaved_29 {V : x_J} {ad : Nat → Nat} {Q : Int32 → x_S → x_L → Prop} (X : x_Is V cX11_pairSaved 10 RX11 (Option.some FieldType.int) ad dsM 7 (x_PI Q)) {K29 : Int32 → Int32 → Int32 → Int32 → x_S → x_L → Prop} (hK29 : ∀ v1 v2 v3 v4 σ τ, K29 v1 v2 v3 v4 σ τ → V σ τ 29 [(0, .ref (ad 0)), (1, .int v1), (2, .int v2), (3, .int v3), (4, .int v4)] []) {v1 : Int32} {v2 : Int32} {v3 : Int32} {v4 : Int32} {σ : x_S} {τ : x_L} (h : wX11_pairSaved_29 Q K29 v1 v2 v3 v4 σ τ) : V σ τ 29 [(0, .ref (ad 0)), (1, .int v1), (2, .int v2), (3, .int v3), (4, .int v4)] [] := by
  refine x_iload X dX11_pairSaved_29 4 rfl ?_
  refine x_aload_n X dX11_pairSaved_31 rfl 0 rfl ?_
  refine x_iload_n X dX11_pairSaved_32 rfl 1 rfl ?_
  refine x_callVi X [.int v1] [.int v4] dX11_pairSaved_33 (kX11_placesOf h) cm_X11_placesOf ci_X11_placesOf w_7_109 dsM_0 ⟨by decide, by decide⟩ rfl (Nat.le_of_ble_eq_true rfl) (fun r33 σ33 τ33 h => ?_)
  refine x_icmp_ge X 165 dX11_pairSaved_36 (by decide) (fun hc => ?_) (fun hc => ?_)
  · have h := h.1 hc
    refine x_iload_n X dX11_pairSaved_165 rfl 3 rfl ?_
    exact x_iret X dX11_pairSaved_166 ⟨_, rfl, h⟩
  · have h := h.2 hc
    refine x_aload_n X dX11_pairSaved_39 rfl 0 rfl ?_
    refine x_iload_n X dX11_pairSaved_40 rfl 1 rfl ?_
    refine x_iload X dX11_pairSaved_41 4 rfl ?_
    refine x_iload_n X dX11_pairSaved_43 rfl 2 rfl ?_
    refine x_callVi X [.int v1, .int v4, .int v2] [] dX11_pairSaved_44 (kX11_mateOf h) cm_X11_mateOf ci_X11_mateOf w_7_156 dsM_0 ⟨by decide, by decide⟩ rfl (Nat.le_of_ble_eq_true rfl) (fun r44 σ44 τ44 h => ?_)
    refine x_istore X (lv' := [(5, .int r44), (0, .ref (ad 0)), (1, .int v1), (2, .int v2), (3, .int v3), (4, .int v4)]) dX11_pairSaved_47 (by decide) rfl ?_
    refine x_iload X dX11_pairSaved_49 0 rfl ?_
    refine x_iconst X dX11_pairSaved_51 ki_m1 ?_
    refine x_icmp_ne X 58 dX11_pairSaved_52 (by decide) (fun hc => ?_) (fun hc => ?_)
    · have h := h.1 hc
      refine x_iload_n X dX11_pairSaved_58 rfl 2 rfl ?_
      refine x_iload X dX11_pairSaved_59 5 rfl ?_
      refine x_callSi X [.int v1, .int v4] [] dX11_pairSaved_61 (kX11_spot h) cm_X11_spot w_7_118 rfl w_7_117 ⟨by decide, by decide⟩ rfl (Nat.le_of_ble_eq_true rfl) (fun r61 σ61 τ61 h => ?_)
      refine x_istore X (lv' := [(6, .int r61), (5, .int r44), (0, .ref (ad 0)), (1, .int v1), (2, .int v2), (3, .int v3), (4, .int v4)]) dX11_pairSaved_64 (by decide) rfl ?_
      refine x_iload_n X dX11_pairSaved_66 rfl 4 rfl ?_
      refine x_iload X dX11_pairSaved_67 1 rfl ?_
      refine x_callSi X [.int v2, .int r44] [] dX11_pairSaved_69 (kX11_spot h) cm_X11_spot w_7_118 rfl w_7_117 ⟨by decide, by decide⟩ rfl (Nat.le_of_ble_eq_true rfl) (fun r69 σ69 τ69 h => ?_)
      refine x_istore X (lv' := [(7, .int r69), (6, .int r61), (5, .int r44), (0, .ref (ad 0)), (1, .int v1), (2, .int v2), (3, .int v3), (4, .int v4)]) dX11_pairSaved_72 (by decide) rfl ?_
      refine x_aload_n X dX11_pairSaved_74 rfl 3 rfl ?_
      refine x_getR X (j := 9) dX11_pairSaved_75 fl_11_35 dsM_0 rfl ?_
      refine x_iload X dX11_pairSaved_78 1 rfl ?_
      have g80 := h.1
      have h := h.2
      refine x_iald X dX11_pairSaved_80 dsM_9 g80 ?_
      refine x_aload_n X dX11_pairSaved_81 rfl 3 rfl ?_
      refine x_getR X (j := 9) dX11_pairSaved_82 fl_11_35 dsM_0 rfl ?_
      refine x_iload X dX11_pairSaved_85 0 rfl ?_
      have g87 := h.1
      have h := h.2
      refine x_iald X dX11_pairSaved_87 dsM_9 g87 ?_
      refine x_isub X dX11_pairSaved_88 ?_
      refine x_istore X (lv' := [(8, .int ((σ69 9 r61.toNatClampNeg) - (σ69 9 r69.toNatClampNeg))), (7, .int r69), (6, .int r61), (5, .int r44), (0, .ref (ad 0)), (1, .int v1), (2, .int v2), (3, .int v3), (4, .int v4)]) dX11_pairSaved_89 (by decide) rfl ?_
      refine x_iload X dX11_pairSaved_91 0 rfl ?_
      refine x_if_ge X 101 dX11_pairSaved_93 (by decide) (fun hc => ?_) (fun hc => ?_)
      · have h := h.1 hc
        refine x_iload X dX11_pairSaved_101 1 rfl ?_
        refine x_sub X [4, 5, 6, 7, 8, 2, 1, 0] (lv' := [(0, .ref (ad 0)), (1, .int v1), (2, .int v2), (3, .int v3), (4, .int v4), (6, .int r61), (7, .int r69), (8, .int ((σ69 9 r61.toNatClampNeg) - (σ69 9 r69.toNatClampNeg)))]) rfl ?_
        exact bX11_pairSaved_103 X hK29 h
      · have h := h.2 hc
        refine x_iload X dX11_pairSaved_96 2 rfl ?_
        refine x_goto X (tgt := 103) dX11_pairSaved_98 (by decide) ?_
        refine x_sub X [4, 5, 6, 7, 8, 2, 1, 0] (lv' := [(0, .ref (ad 0)), (1, .int v1), (2, .int v2), (3, .int v3), (4, .int v4), (6, .int r61), (7, .int r69), (8, .int ((σ69 9 r61.toNatClampNeg) - (σ69 9 r69.toNatClampNeg)))]) rfl ?_
        exact bX11_pairSaved_103 X hK29 h
    · have h := h.2 hc
      refine x_goto X (tgt := 159) dX11_pairSaved_55 (by decide) ?_
      refine x_sub X [1, 2, 3, 4, 5] (lv' := [(0, .ref (ad 0)), (1, .int v1), (2, .int v2), (3, .int v3), (4, .int v4)]) rfl ?_
      exact bX11_pairSaved_159 X hK29 h
set_option maxRecDepth 100000 in
set_option maxHeartbeats 4000000 in
theorem kX11_pairSaved {ad : Nat → Nat} {a1 : Int32} {a2 : Int32} {σ : x_S} {τ : x_L} {Q : Int32 → x_S → x_L → Prop} (h : wX11_pairSaved a1 a2 σ τ Q) : x_Met yX11_pairSaved cX11_pairSaved 10 (Option.some FieldType.int) 7 ad dsM [.ref (ad 0), .int a1, .int a2] σ τ (x_PI Q) := by
  refine x_met (by decide +kernel) (Nat.le_of_ble_eq_true rfl) (fun V X => ?_)
  have X : x_Is V cX11_pairSaved 10 RX11 (Option.some FieldType.int) ad dsM 7 (x_PI Q) := X
  show V σ τ 0 [(0, .ref (ad 0)), (1, .int a1), (2, .int a2)] []
  refine x_aload_n X dX11_pairSaved_0 rfl 0 rfl ?_
  refine x_iconst X dX11_pairSaved_1 ki_0 ?_
  refine x_putI X dX11_pairSaved_2 fl_11_82 ft_11_5 dsM_0 rfl ?_
  refine x_aload_n X dX11_pairSaved_5 rfl 0 rfl ?_
  refine x_iload_n X dX11_pairSaved_6 rfl 1 rfl ?_
  refine x_iload_n X dX11_pairSaved_7 rfl 2 rfl ?_
  refine x_callVi X [.int a1, .int a2] [] dX11_pairSaved_8 (kX11_notTwo h) cm_X11_notTwo ci_X11_notTwo w_8_86 dsM_0 ⟨by decide, by decide⟩ rfl (Nat.le_of_ble_eq_true rfl) (fun r8 σ8 τ8 h => ?_)
  refine x_if_eq X 16 dX11_pairSaved_11 (by decide) (fun hc => ?_) (fun hc => ?_)
  · have h := h.1 hc
    refine x_iload_n X dX11_pairSaved_16 rfl 1 rfl ?_
    refine x_iload_n X dX11_pairSaved_17 rfl 2 rfl ?_
    refine x_icmp_ne X 24 dX11_pairSaved_18 (by decide) (fun hc => ?_) (fun hc => ?_)
    · have h := h.1 hc
      refine x_iconst X dX11_pairSaved_24 ki_0 ?_
      refine x_istore_n X (lv' := [(3, .int 0), (0, .ref (ad 0)), (1, .int a1), (2, .int a2)]) dX11_pairSaved_25 rfl (by decide) rfl ?_
      refine x_iconst X dX11_pairSaved_26 ki_0 ?_
      refine x_istore X (lv' := [(4, .int 0), (3, .int 0), (0, .ref (ad 0)), (1, .int a1), (2, .int a2)]) dX11_pairSaved_27 (by decide) rfl ?_
      refine x_sub X [2, 3, 4, 1, 0] (lv' := [(0, .ref (ad 0)), (1, .int a1), (2, .int a2), (3, .int 0), (4, .int 0)]) rfl ?_
      exact x_l4_G (fun v1 v2 v3 v4 σ τ => V σ τ 29 [(0, .ref (ad 0)), (1, .int v1), (2, .int v2), (3, .int v3), (4, .int v4)] []) (fun K29 hK29 v1 v2 v3 v4 σ τ h => bX11_pairSaved_29 X hK29 h) h
    · have h := h.2 hc
      refine x_bipush X dX11_pairSaved_21 kb_m3 ?_
      exact x_iret X dX11_pairSaved_23 ⟨_, rfl, h⟩
  · have h := h.2 hc
    refine x_iconst X dX11_pairSaved_14 ki_0 ?_
    exact x_iret X dX11_pairSaved_15 ⟨_, rfl, h⟩
theorem dX11_placeOf_0 : decode cX11_placeOf 0 = .ok (.iconst 0, 1) := by decide +kernel
theorem dX11_placeOf_1 : decode cX11_placeOf 1 = .ok (.istore_n 3, 1) := by decide +kernel
theorem dX11_placeOf_2 : decode cX11_placeOf 2 = .ok (.iload_n 3, 1) := by decide +kernel
theorem dX11_placeOf_3 : decode cX11_placeOf 3 = .ok (.aload_n 0, 1) := by decide +kernel
theorem dX11_placeOf_4 : decode cX11_placeOf 4 = .ok (.iload_n 1, 1) := by decide +kernel
theorem dX11_placeOf_5 : decode cX11_placeOf 5 = .ok (.invokevirtual 107, 3) := by decide +kernel
theorem dX11_placeOf_8 : decode cX11_placeOf 8 = .ok (.if_icmp .ge 21, 3) := by decide +kernel
theorem dX11_placeOf_11 : decode cX11_placeOf 11 = .ok (.aload_n 0, 1) := by decide +kernel
theorem dX11_placeOf_12 : decode cX11_placeOf 12 = .ok (.iload_n 1, 1) := by decide +kernel
theorem dX11_placeOf_13 : decode cX11_placeOf 13 = .ok (.iload_n 3, 1) := by decide +kernel
theorem dX11_placeOf_14 : decode cX11_placeOf 14 = .ok (.invokevirtual 114, 3) := by decide +kernel
theorem dX11_placeOf_17 : decode cX11_placeOf 17 = .ok (.iload_n 2, 1) := by decide +kernel
theorem dX11_placeOf_18 : decode cX11_placeOf 18 = .ok (.if_icmp .ne 5, 3) := by decide +kernel
theorem dX11_placeOf_21 : decode cX11_placeOf 21 = .ok (.iload_n 3, 1) := by decide +kernel
theorem dX11_placeOf_22 : decode cX11_placeOf 22 = .ok (.ireturn, 1) := by decide +kernel
theorem dX11_placeOf_23 : decode cX11_placeOf 23 = .ok (.iinc 3 1, 3) := by decide +kernel
theorem dX11_placeOf_26 : decode cX11_placeOf 26 = .ok (.goto (-24), 3) := by decide +kernel
theorem dX11_placeOf_29 : decode cX11_placeOf 29 = .ok (.iconst (-1), 1) := by decide +kernel
theorem dX11_placeOf_30 : decode cX11_placeOf 30 = .ok (.ireturn, 1) := by decide +kernel
theorem cm_X11_placeOf : x_CM yX11_placeOf cX11_placeOf 4 (Option.some FieldType.int) 2 := ⟨w_8_106, w_1_12, by decide +kernel, by decide +kernel⟩
theorem ci_X11_placeOf : x_CI yX11_placeOf 13 := ⟨w_8_105, wp_89, (RX11, TX11, 41), rfl, rfl⟩
set_option maxRecDepth 100000 in
set_option maxHeartbeats 4000000 in
theorem bX11_placeOf_2 {V : x_J} {ad : Nat → Nat} {Q : Int32 → x_S → x_L → Prop} (X : x_Is V cX11_placeOf 4 RX11 (Option.some FieldType.int) ad dsM 2 (x_PI Q)) {K2 : Int32 → Int32 → Int32 → x_S → x_L → Prop} (hK2 : ∀ v1 v2 v3 σ τ, K2 v1 v2 v3 σ τ → V σ τ 2 [(0, .ref (ad 0)), (1, .int v1), (2, .int v2), (3, .int v3)] []) {v1 : Int32} {v2 : Int32} {v3 : Int32} {σ : x_S} {τ : x_L} (h : wX11_placeOf_2 Q K2 v1 v2 v3 σ τ) : V σ τ 2 [(0, .ref (ad 0)), (1, .int v1), (2, .int v2), (3, .int v3)] [] := by
  refine x_iload_n X dX11_placeOf_2 rfl 3 rfl ?_
  refine x_aload_n X dX11_placeOf_3 rfl 0 rfl ?_
  refine x_iload_n X dX11_placeOf_4 rfl 1 rfl ?_
  refine x_callVi X [.int v1] [.int v3] dX11_placeOf_5 (kX11_placesOf h) cm_X11_placesOf ci_X11_placesOf w_7_109 dsM_0 ⟨by decide, by decide⟩ rfl (Nat.le_of_ble_eq_true rfl) (fun r5 σ5 τ5 h => ?_)
  refine x_icmp_ge X 29 dX11_placeOf_8 (by decide) (fun hc => ?_) (fun hc => ?_)
  · have h := h.1 hc
    refine x_iconst X dX11_placeOf_29 ki_m1 ?_
    exact x_iret X dX11_placeOf_30 ⟨_, rfl, h⟩
  · have h := h.2 hc
    refine x_aload_n X dX11_placeOf_11 rfl 0 rfl ?_
    refine x_iload_n X dX11_placeOf_12 rfl 1 rfl ?_
    refine x_iload_n X dX11_placeOf_13 rfl 3 rfl ?_
    refine x_callVi X [.int v1, .int v3] [] dX11_placeOf_14 (kX11_roadAt h) cm_X11_roadAt ci_X11_roadAt w_7_124 dsM_0 ⟨by decide, by decide⟩ rfl (Nat.le_of_ble_eq_true rfl) (fun r14 σ14 τ14 h => ?_)
    refine x_iload_n X dX11_placeOf_17 rfl 2 rfl ?_
    refine x_icmp_ne X 23 dX11_placeOf_18 (by decide) (fun hc => ?_) (fun hc => ?_)
    · have h := h.1 hc
      refine x_iinc X (k := 3) (lv' := [(3, .int (v3 + 1)), (0, .ref (ad 0)), (1, .int v1), (2, .int v2)]) dX11_placeOf_23 rfl ki_1 (by decide) rfl ?_
      refine x_goto X (tgt := 2) dX11_placeOf_26 (by decide) ?_
      refine x_sub X [1, 2, 3, 0] (lv' := [(0, .ref (ad 0)), (1, .int v1), (2, .int v2), (3, .int (v3 + 1))]) rfl ?_
      exact hK2 _ _ _ _ _ h
    · have h := h.2 hc
      refine x_iload_n X dX11_placeOf_21 rfl 3 rfl ?_
      exact x_iret X dX11_placeOf_22 ⟨_, rfl, h⟩
set_option maxRecDepth 100000 in
set_option maxHeartbeats 4000000 in
theorem kX11_placeOf {ad : Nat → Nat} {a1 : Int32} {a2 : Int32} {σ : x_S} {τ : x_L} {Q : Int32 → x_S → x_L → Prop} (h : wX11_placeOf a1 a2 σ τ Q) : x_Met yX11_placeOf cX11_placeOf 4 (Option.some FieldType.int) 2 ad dsM [.ref (ad 0), .int a1, .int a2] σ τ (x_PI Q) := by
  refine x_met (by decide +kernel) (Nat.le_of_ble_eq_true rfl) (fun V X => ?_)
  have X : x_Is V cX11_placeOf 4 RX11 (Option.some FieldType.int) ad dsM 2 (x_PI Q) := X
  show V σ τ 0 [(0, .ref (ad 0)), (1, .int a1), (2, .int a2)] []
  refine x_iconst X dX11_placeOf_0 ki_0 ?_
  refine x_istore_n X (lv' := [(3, .int 0), (0, .ref (ad 0)), (1, .int a1), (2, .int a2)]) dX11_placeOf_1 rfl (by decide) rfl ?_
  refine x_sub X [1, 2, 3, 0] (lv' := [(0, .ref (ad 0)), (1, .int a1), (2, .int a2), (3, .int 0)]) rfl ?_
  exact x_l3_G (fun v1 v2 v3 σ τ => V σ τ 2 [(0, .ref (ad 0)), (1, .int v1), (2, .int v2), (3, .int v3)] []) (fun K2 hK2 v1 v2 v3 σ τ h => bX11_placeOf_2 X hK2 h) h
theorem dX11_layRun_0 : decode cX11_layRun 0 = .ok (.aload_n 0, 1) := by decide +kernel
theorem dX11_layRun_1 : decode cX11_layRun 1 = .ok (.iconst 0, 1) := by decide +kernel
theorem dX11_layRun_2 : decode cX11_layRun 2 = .ok (.putfield 264, 3) := by decide +kernel
theorem dX11_layRun_5 : decode cX11_layRun 5 = .ok (.aload_n 0, 1) := by decide +kernel
theorem dX11_layRun_6 : decode cX11_layRun 6 = .ok (.iconst (-1), 1) := by decide +kernel
theorem dX11_layRun_7 : decode cX11_layRun 7 = .ok (.putfield 267, 3) := by decide +kernel
theorem dX11_layRun_10 : decode cX11_layRun 10 = .ok (.aload_n 0, 1) := by decide +kernel
theorem dX11_layRun_11 : decode cX11_layRun 11 = .ok (.getfield 264, 3) := by decide +kernel
theorem dX11_layRun_14 : decode cX11_layRun 14 = .ok (.aload_n 0, 1) := by decide +kernel
theorem dX11_layRun_15 : decode cX11_layRun 15 = .ok (.iload_n 1, 1) := by decide +kernel
theorem dX11_layRun_16 : decode cX11_layRun 16 = .ok (.invokevirtual 107, 3) := by decide +kernel
theorem dX11_layRun_19 : decode cX11_layRun 19 = .ok (.if_icmp .ge 50, 3) := by decide +kernel
theorem dX11_layRun_22 : decode cX11_layRun 22 = .ok (.aload_n 0, 1) := by decide +kernel
theorem dX11_layRun_23 : decode cX11_layRun 23 = .ok (.getfield 267, 3) := by decide +kernel
theorem dX11_layRun_26 : decode cX11_layRun 26 = .ok (.iconst (-1), 1) := by decide +kernel
theorem dX11_layRun_27 : decode cX11_layRun 27 = .ok (.if_icmp .ne 42, 3) := by decide +kernel
theorem dX11_layRun_30 : decode cX11_layRun 30 = .ok (.aload_n 0, 1) := by decide +kernel
theorem dX11_layRun_31 : decode cX11_layRun 31 = .ok (.aload_n 0, 1) := by decide +kernel
theorem dX11_layRun_32 : decode cX11_layRun 32 = .ok (.iload_n 2, 1) := by decide +kernel
theorem dX11_layRun_33 : decode cX11_layRun 33 = .ok (.aload_n 0, 1) := by decide +kernel
theorem dX11_layRun_34 : decode cX11_layRun 34 = .ok (.iload_n 1, 1) := by decide +kernel
theorem dX11_layRun_35 : decode cX11_layRun 35 = .ok (.aload_n 0, 1) := by decide +kernel
theorem dX11_layRun_36 : decode cX11_layRun 36 = .ok (.getfield 264, 3) := by decide +kernel
theorem dX11_layRun_39 : decode cX11_layRun 39 = .ok (.invokevirtual 114, 3) := by decide +kernel
theorem dX11_layRun_42 : decode cX11_layRun 42 = .ok (.invokevirtual 270, 3) := by decide +kernel
theorem dX11_layRun_45 : decode cX11_layRun 45 = .ok (.putfield 267, 3) := by decide +kernel
theorem dX11_layRun_48 : decode cX11_layRun 48 = .ok (.aload_n 0, 1) := by decide +kernel
theorem dX11_layRun_49 : decode cX11_layRun 49 = .ok (.getfield 267, 3) := by decide +kernel
theorem dX11_layRun_52 : decode cX11_layRun 52 = .ok (.iconst (-1), 1) := by decide +kernel
theorem dX11_layRun_53 : decode cX11_layRun 53 = .ok (.if_icmp .ne (-43), 3) := by decide +kernel
theorem dX11_layRun_56 : decode cX11_layRun 56 = .ok (.aload_n 0, 1) := by decide +kernel
theorem dX11_layRun_57 : decode cX11_layRun 57 = .ok (.dup, 1) := by decide +kernel
theorem dX11_layRun_58 : decode cX11_layRun 58 = .ok (.getfield 264, 3) := by decide +kernel
theorem dX11_layRun_61 : decode cX11_layRun 61 = .ok (.iconst 1, 1) := by decide +kernel
theorem dX11_layRun_62 : decode cX11_layRun 62 = .ok (.iadd, 1) := by decide +kernel
theorem dX11_layRun_63 : decode cX11_layRun 63 = .ok (.putfield 264, 3) := by decide +kernel
theorem dX11_layRun_66 : decode cX11_layRun 66 = .ok (.goto (-56), 3) := by decide +kernel
theorem dX11_layRun_69 : decode cX11_layRun 69 = .ok (.aload_n 0, 1) := by decide +kernel
theorem dX11_layRun_70 : decode cX11_layRun 70 = .ok (.aload_n 0, 1) := by decide +kernel
theorem dX11_layRun_71 : decode cX11_layRun 71 = .ok (.getfield 267, 3) := by decide +kernel
theorem dX11_layRun_74 : decode cX11_layRun 74 = .ok (.iconst (-1), 1) := by decide +kernel
theorem dX11_layRun_75 : decode cX11_layRun 75 = .ok (.if_icmp .ne 7, 3) := by decide +kernel
theorem dX11_layRun_78 : decode cX11_layRun 78 = .ok (.iconst (-1), 1) := by decide +kernel
theorem dX11_layRun_79 : decode cX11_layRun 79 = .ok (.goto 7, 3) := by decide +kernel
theorem dX11_layRun_82 : decode cX11_layRun 82 = .ok (.aload_n 0, 1) := by decide +kernel
theorem dX11_layRun_83 : decode cX11_layRun 83 = .ok (.getfield 264, 3) := by decide +kernel
theorem dX11_layRun_86 : decode cX11_layRun 86 = .ok (.putfield 264, 3) := by decide +kernel
theorem dX11_layRun_89 : decode cX11_layRun 89 = .ok (.aload_n 0, 1) := by decide +kernel
theorem dX11_layRun_90 : decode cX11_layRun 90 = .ok (.aload_n 0, 1) := by decide +kernel
theorem dX11_layRun_91 : decode cX11_layRun 91 = .ok (.getfield 267, 3) := by decide +kernel
theorem dX11_layRun_94 : decode cX11_layRun 94 = .ok (.iconst (-1), 1) := by decide +kernel
theorem dX11_layRun_95 : decode cX11_layRun 95 = .ok (.if_icmp .ne 7, 3) := by decide +kernel
theorem dX11_layRun_98 : decode cX11_layRun 98 = .ok (.iconst 0, 1) := by decide +kernel
theorem dX11_layRun_99 : decode cX11_layRun 99 = .ok (.goto 17, 3) := by decide +kernel
theorem dX11_layRun_102 : decode cX11_layRun 102 = .ok (.aload_n 0, 1) := by decide +kernel
theorem dX11_layRun_103 : decode cX11_layRun 103 = .ok (.iload_n 1, 1) := by decide +kernel
theorem dX11_layRun_104 : decode cX11_layRun 104 = .ok (.aload_n 0, 1) := by decide +kernel
theorem dX11_layRun_105 : decode cX11_layRun 105 = .ok (.getfield 264, 3) := by decide +kernel
theorem dX11_layRun_108 : decode cX11_layRun 108 = .ok (.iload_n 2, 1) := by decide +kernel
theorem dX11_layRun_109 : decode cX11_layRun 109 = .ok (.aload_n 0, 1) := by decide +kernel
theorem dX11_layRun_110 : decode cX11_layRun 110 = .ok (.getfield 267, 3) := by decide +kernel
theorem dX11_layRun_113 : decode cX11_layRun 113 = .ok (.invokevirtual 141, 3) := by decide +kernel
theorem dX11_layRun_116 : decode cX11_layRun 116 = .ok (.putfield 273, 3) := by decide +kernel
theorem dX11_layRun_119 : decode cX11_layRun 119 = .ok (.return_, 1) := by decide +kernel
theorem cm_X11_layRun : x_CM yX11_layRun cX11_layRun 3 (Option.none : Option Jvm.ClassFile.FieldType) 2 := ⟨w_8_102, w_1_12, by decide +kernel, by decide +kernel⟩
theorem ci_X11_layRun : x_CI yX11_layRun 13 := ⟨w_8_101, wp_88, (RX11, TX11, 41), rfl, rfl⟩
set_option maxRecDepth 100000 in
set_option maxHeartbeats 4000000 in
theorem bX11_layRun_116 {V : x_J} {ad : Nat → Nat} {Q : x_S → x_L → Prop} (X : x_Is V cX11_layRun 3 RX11 (Option.none : Option Jvm.ClassFile.FieldType) ad dsM 3 (x_PV Q)) {s1 : Int32} {σ : x_S} {τ : x_L} (h : wX11_layRun_116 Q s1 σ τ) : V σ τ 116 [] [.int s1, .ref (ad 0)] := by
  refine x_putI X dX11_layRun_116 fl_11_273 ft_11_21 dsM_0 rfl ?_
  exact x_vret X dX11_layRun_119 ⟨rfl, h⟩
set_option maxRecDepth 100000 in
set_option maxHeartbeats 4000000 in
theorem bX11_layRun_86 {V : x_J} {ad : Nat → Nat} {Q : x_S → x_L → Prop} (X : x_Is V cX11_layRun 3 RX11 (Option.none : Option Jvm.ClassFile.FieldType) ad dsM 3 (x_PV Q)) {v1 : Int32} {v2 : Int32} {s1 : Int32} {σ : x_S} {τ : x_L} (h : wX11_layRun_86 Q v1 v2 s1 σ τ) : V σ τ 86 [(0, .ref (ad 0)), (1, .int v1), (2, .int v2)] [.int s1, .ref (ad 0)] := by
  refine x_putI X dX11_layRun_86 fl_11_264 ft_11_19 dsM_0 rfl ?_
  refine x_aload_n X dX11_layRun_89 rfl 0 rfl ?_
  refine x_aload_n X dX11_layRun_90 rfl 0 rfl ?_
  refine x_getI X dX11_layRun_91 fl_11_267 dsM_0 rfl ?_
  refine x_iconst X dX11_layRun_94 ki_m1 ?_
  refine x_icmp_ne X 102 dX11_layRun_95 (by decide) (fun hc => ?_) (fun hc => ?_)
  · have h := h.1 hc
    refine x_aload_n X dX11_layRun_102 rfl 0 rfl ?_
    refine x_iload_n X dX11_layRun_103 rfl 1 rfl ?_
    refine x_aload_n X dX11_layRun_104 rfl 0 rfl ?_
    refine x_getI X dX11_layRun_105 fl_11_264 dsM_0 rfl ?_
    refine x_iload_n X dX11_layRun_108 rfl 2 rfl ?_
    refine x_aload_n X dX11_layRun_109 rfl 0 rfl ?_
    refine x_getI X dX11_layRun_110 fl_11_267 dsM_0 rfl ?_
    refine x_callVi X [.int v1, .int ((x_up σ 0 19 s1) 0 19), .int v2, .int ((x_up σ 0 19 s1) 0 20)] [.ref (ad 0)] dX11_layRun_113 (kX11_shared h) cm_X11_shared ci_X11_shared w_7_160 dsM_0 ⟨by decide, by decide⟩ rfl (Nat.le_of_ble_eq_true rfl) (fun r113 σ113 τ113 h => ?_)
    refine x_sub X [] (lv' := []) rfl ?_
    exact bX11_layRun_116 X h
  · have h := h.2 hc
    refine x_iconst X dX11_layRun_98 ki_0 ?_
    refine x_goto X (tgt := 116) dX11_layRun_99 (by decide) ?_
    refine x_sub X [] (lv' := []) rfl ?_
    exact bX11_layRun_116 X h
set_option maxRecDepth 100000 in
set_option maxHeartbeats 4000000 in
theorem bX11_layRun_69 {V : x_J} {ad : Nat → Nat} {Q : x_S → x_L → Prop} (X : x_Is V cX11_layRun 3 RX11 (Option.none : Option Jvm.ClassFile.FieldType) ad dsM 3 (x_PV Q)) {v1 : Int32} {v2 : Int32} {σ : x_S} {τ : x_L} (h : wX11_layRun_69 Q v1 v2 σ τ) : V σ τ 69 [(0, .ref (ad 0)), (1, .int v1), (2, .int v2)] [] := by
  refine x_aload_n X dX11_layRun_69 rfl 0 rfl ?_
  refine x_aload_n X dX11_layRun_70 rfl 0 rfl ?_
  refine x_getI X dX11_layRun_71 fl_11_267 dsM_0 rfl ?_
  refine x_iconst X dX11_layRun_74 ki_m1 ?_
  refine x_icmp_ne X 82 dX11_layRun_75 (by decide) (fun hc => ?_) (fun hc => ?_)
  · have h := h.1 hc
    refine x_aload_n X dX11_layRun_82 rfl 0 rfl ?_
    refine x_getI X dX11_layRun_83 fl_11_264 dsM_0 rfl ?_
    exact bX11_layRun_86 X h
  · have h := h.2 hc
    refine x_iconst X dX11_layRun_78 ki_m1 ?_
    refine x_goto X (tgt := 86) dX11_layRun_79 (by decide) ?_
    exact bX11_layRun_86 X h
set_option maxRecDepth 100000 in
set_option maxHeartbeats 4000000 in
theorem bX11_layRun_10 {V : x_J} {ad : Nat → Nat} {Q : x_S → x_L → Prop} (X : x_Is V cX11_layRun 3 RX11 (Option.none : Option Jvm.ClassFile.FieldType) ad dsM 3 (x_PV Q)) {K10 : Int32 → Int32 → x_S → x_L → Prop} (hK10 : ∀ v1 v2 σ τ, K10 v1 v2 σ τ → V σ τ 10 [(0, .ref (ad 0)), (1, .int v1), (2, .int v2)] []) {v1 : Int32} {v2 : Int32} {σ : x_S} {τ : x_L} (h : wX11_layRun_10 Q K10 v1 v2 σ τ) : V σ τ 10 [(0, .ref (ad 0)), (1, .int v1), (2, .int v2)] [] := by
  refine x_aload_n X dX11_layRun_10 rfl 0 rfl ?_
  refine x_getI X dX11_layRun_11 fl_11_264 dsM_0 rfl ?_
  refine x_aload_n X dX11_layRun_14 rfl 0 rfl ?_
  refine x_iload_n X dX11_layRun_15 rfl 1 rfl ?_
  refine x_callVi X [.int v1] [.int (σ 0 19)] dX11_layRun_16 (kX11_placesOf h) cm_X11_placesOf ci_X11_placesOf w_7_109 dsM_0 ⟨by decide, by decide⟩ rfl (Nat.le_of_ble_eq_true rfl) (fun r16 σ16 τ16 h => ?_)
  refine x_icmp_ge X 69 dX11_layRun_19 (by decide) (fun hc => ?_) (fun hc => ?_)
  · have h := h.1 hc
    exact bX11_layRun_69 X h
  · have h := h.2 hc
    refine x_aload_n X dX11_layRun_22 rfl 0 rfl ?_
    refine x_getI X dX11_layRun_23 fl_11_267 dsM_0 rfl ?_
    refine x_iconst X dX11_layRun_26 ki_m1 ?_
    refine x_icmp_ne X 69 dX11_layRun_27 (by decide) (fun hc => ?_) (fun hc => ?_)
    · have h := h.1 hc
      exact bX11_layRun_69 X h
    · have h := h.2 hc
      refine x_aload_n X dX11_layRun_30 rfl 0 rfl ?_
      refine x_aload_n X dX11_layRun_31 rfl 0 rfl ?_
      refine x_iload_n X dX11_layRun_32 rfl 2 rfl ?_
      refine x_aload_n X dX11_layRun_33 rfl 0 rfl ?_
      refine x_iload_n X dX11_layRun_34 rfl 1 rfl ?_
      refine x_aload_n X dX11_layRun_35 rfl 0 rfl ?_
      refine x_getI X dX11_layRun_36 fl_11_264 dsM_0 rfl ?_
      refine x_callVi X [.int v1, .int (σ16 0 19)] [.int v2, .ref (ad 0), .ref (ad 0)] dX11_layRun_39 (kX11_roadAt h) cm_X11_roadAt ci_X11_roadAt w_7_124 dsM_0 ⟨by decide, by decide⟩ rfl (Nat.le_of_ble_eq_true rfl) (fun r39 σ39 τ39 h => ?_)
      refine x_callVi X [.int v2, .int r39] [.ref (ad 0)] dX11_layRun_42 (kX11_placeOf h) cm_X11_placeOf ci_X11_placeOf w_8_103 dsM_0 ⟨by decide, by decide⟩ rfl (Nat.le_of_ble_eq_true rfl) (fun r42 σ42 τ42 h => ?_)
      refine x_putI X dX11_layRun_45 fl_11_267 ft_11_20 dsM_0 rfl ?_
      refine x_aload_n X dX11_layRun_48 rfl 0 rfl ?_
      refine x_getI X dX11_layRun_49 fl_11_267 dsM_0 rfl ?_
      refine x_iconst X dX11_layRun_52 ki_m1 ?_
      refine x_icmp_ne X 10 dX11_layRun_53 (by decide) (fun hc => ?_) (fun hc => ?_)
      · have h := h.1 hc
        exact hK10 _ _ _ _ h
      · have h := h.2 hc
        refine x_aload_n X dX11_layRun_56 rfl 0 rfl ?_
        refine x_dup X dX11_layRun_57 rfl ?_
        refine x_getI X dX11_layRun_58 fl_11_264 dsM_0 rfl ?_
        refine x_iconst X dX11_layRun_61 ki_1 ?_
        refine x_iadd X dX11_layRun_62 ?_
        refine x_putI X dX11_layRun_63 fl_11_264 ft_11_19 dsM_0 rfl ?_
        refine x_goto X (tgt := 10) dX11_layRun_66 (by decide) ?_
        exact hK10 _ _ _ _ h
set_option maxRecDepth 100000 in
set_option maxHeartbeats 4000000 in
theorem kX11_layRun {ad : Nat → Nat} {a1 : Int32} {a2 : Int32} {σ : x_S} {τ : x_L} {Q : x_S → x_L → Prop} (h : wX11_layRun a1 a2 σ τ Q) : x_Met yX11_layRun cX11_layRun 3 (Option.none : Option Jvm.ClassFile.FieldType) 3 ad dsM [.ref (ad 0), .int a1, .int a2] σ τ (x_PV Q) := by
  refine x_met (by decide +kernel) (Nat.le_of_ble_eq_true rfl) (fun V X => ?_)
  have X : x_Is V cX11_layRun 3 RX11 (Option.none : Option Jvm.ClassFile.FieldType) ad dsM 3 (x_PV Q) := X
  show V σ τ 0 [(0, .ref (ad 0)), (1, .int a1), (2, .int a2)] []
  refine x_aload_n X dX11_layRun_0 rfl 0 rfl ?_
  refine x_iconst X dX11_layRun_1 ki_0 ?_
  refine x_putI X dX11_layRun_2 fl_11_264 ft_11_19 dsM_0 rfl ?_
  refine x_aload_n X dX11_layRun_5 rfl 0 rfl ?_
  refine x_iconst X dX11_layRun_6 ki_m1 ?_
  refine x_putI X dX11_layRun_7 fl_11_267 ft_11_20 dsM_0 rfl ?_
  exact x_l2_G (fun v1 v2 σ τ => V σ τ 10 [(0, .ref (ad 0)), (1, .int v1), (2, .int v2)] []) (fun K10 hK10 v1 v2 σ τ h => bX11_layRun_10 X hK10 h) h
theorem dX11_run_0 : decode cX11_run 0 = .ok (.aload_n 0, 1) := by decide +kernel
theorem dX11_run_1 : decode cX11_run 1 = .ok (.iconst 0, 1) := by decide +kernel
theorem dX11_run_2 : decode cX11_run 2 = .ok (.putfield 82, 3) := by decide +kernel
theorem dX11_run_5 : decode cX11_run 5 = .ok (.aload_n 0, 1) := by decide +kernel
theorem dX11_run_6 : decode cX11_run 6 = .ok (.iload_n 1, 1) := by decide +kernel
theorem dX11_run_7 : decode cX11_run 7 = .ok (.iload_n 2, 1) := by decide +kernel
theorem dX11_run_8 : decode cX11_run 8 = .ok (.invokevirtual 261, 3) := by decide +kernel
theorem dX11_run_11 : decode cX11_run 11 = .ok (.ifCond .ne 28, 3) := by decide +kernel
theorem dX11_run_14 : decode cX11_run 14 = .ok (.aload_n 0, 1) := by decide +kernel
theorem dX11_run_15 : decode cX11_run 15 = .ok (.iload_n 3, 1) := by decide +kernel
theorem dX11_run_16 : decode cX11_run 16 = .ok (.i2l, 1) := by decide +kernel
theorem dX11_run_17 : decode cX11_run 17 = .ok (.lconst 0, 1) := by decide +kernel
theorem dX11_run_18 : decode cX11_run 18 = .ok (.ldc2_w 276, 3) := by decide +kernel
theorem dX11_run_21 : decode cX11_run 21 = .ok (.invokestatic 95, 3) := by decide +kernel
theorem dX11_run_24 : decode cX11_run 24 = .ok (.ifCond .ne 7, 3) := by decide +kernel
theorem dX11_run_27 : decode cX11_run 27 = .ok (.iconst 1, 1) := by decide +kernel
theorem dX11_run_28 : decode cX11_run 28 = .ok (.goto 4, 3) := by decide +kernel
theorem dX11_run_31 : decode cX11_run 31 = .ok (.iconst 0, 1) := by decide +kernel
theorem dX11_run_32 : decode cX11_run 32 = .ok (.iconst 2, 1) := by decide +kernel
theorem dX11_run_33 : decode cX11_run 33 = .ok (.invokevirtual 235, 3) := by decide +kernel
theorem dX11_run_36 : decode cX11_run 36 = .ok (.ifCond .eq 5, 3) := by decide +kernel
theorem dX11_run_39 : decode cX11_run 39 = .ok (.iconst 0, 1) := by decide +kernel
theorem dX11_run_40 : decode cX11_run 40 = .ok (.ireturn, 1) := by decide +kernel
theorem dX11_run_41 : decode cX11_run 41 = .ok (.iload_n 1, 1) := by decide +kernel
theorem dX11_run_42 : decode cX11_run 42 = .ok (.iload_n 2, 1) := by decide +kernel
theorem dX11_run_43 : decode cX11_run 43 = .ok (.if_icmp .ne 6, 3) := by decide +kernel
theorem dX11_run_46 : decode cX11_run 46 = .ok (.bipush (-3), 2) := by decide +kernel
theorem dX11_run_48 : decode cX11_run 48 = .ok (.ireturn, 1) := by decide +kernel
theorem dX11_run_49 : decode cX11_run 49 = .ok (.aload_n 0, 1) := by decide +kernel
theorem dX11_run_50 : decode cX11_run 50 = .ok (.iload_n 1, 1) := by decide +kernel
theorem dX11_run_51 : decode cX11_run 51 = .ok (.iload_n 2, 1) := by decide +kernel
theorem dX11_run_52 : decode cX11_run 52 = .ok (.invokevirtual 278, 3) := by decide +kernel
theorem dX11_run_55 : decode cX11_run 55 = .ok (.iload_n 3, 1) := by decide +kernel
theorem dX11_run_56 : decode cX11_run 56 = .ok (.ifCond .ne 10, 3) := by decide +kernel
theorem dX11_run_59 : decode cX11_run 59 = .ok (.aload_n 0, 1) := by decide +kernel
theorem dX11_run_60 : decode cX11_run 60 = .ok (.getfield 264, 3) := by decide +kernel
theorem dX11_run_63 : decode cX11_run 63 = .ok (.goto 19, 3) := by decide +kernel
theorem dX11_run_66 : decode cX11_run 66 = .ok (.iload_n 3, 1) := by decide +kernel
theorem dX11_run_67 : decode cX11_run 67 = .ok (.iconst 1, 1) := by decide +kernel
theorem dX11_run_68 : decode cX11_run 68 = .ok (.if_icmp .ne 10, 3) := by decide +kernel
theorem dX11_run_71 : decode cX11_run 71 = .ok (.aload_n 0, 1) := by decide +kernel
theorem dX11_run_72 : decode cX11_run 72 = .ok (.getfield 267, 3) := by decide +kernel
theorem dX11_run_75 : decode cX11_run 75 = .ok (.goto 7, 3) := by decide +kernel
theorem dX11_run_78 : decode cX11_run 78 = .ok (.aload_n 0, 1) := by decide +kernel
theorem dX11_run_79 : decode cX11_run 79 = .ok (.getfield 273, 3) := by decide +kernel
theorem dX11_run_82 : decode cX11_run 82 = .ok (.ireturn, 1) := by decide +kernel
theorem cm_X11_run : x_CM yX11_run cX11_run 4 (Option.some FieldType.int) 3 := ⟨w_8_97, w_1_12, by decide +kernel, by decide +kernel⟩
theorem ci_X11_run : x_CI yX11_run 13 := ⟨w_8_95, w_8_96, (RX11, TX11, 41), rfl, rfl⟩
set_option maxRecDepth 100000 in
set_option maxHeartbeats 4000000 in
theorem bX11_run_39 {V : x_J} {ad : Nat → Nat} {Q : Int32 → x_S → x_L → Prop} (X : x_Is V cX11_run 4 RX11 (Option.some FieldType.int) ad dsM 7 (x_PI Q)) {σ : x_S} {τ : x_L} (h : wX11_run_39 Q σ τ) : V σ τ 39 [] [] := by
  refine x_iconst X dX11_run_39 ki_0 ?_
  exact x_iret X dX11_run_40 ⟨_, rfl, h⟩
set_option maxRecDepth 100000 in
set_option maxHeartbeats 4000000 in
theorem bX11_run_82 {V : x_J} {ad : Nat → Nat} {Q : Int32 → x_S → x_L → Prop} (X : x_Is V cX11_run 4 RX11 (Option.some FieldType.int) ad dsM 7 (x_PI Q)) {s0 : Int32} {σ : x_S} {τ : x_L} (h : wX11_run_82 Q s0 σ τ) : V σ τ 82 [] [.int s0] := by
  exact x_iret X dX11_run_82 ⟨_, rfl, h⟩
set_option maxRecDepth 100000 in
set_option maxHeartbeats 4000000 in
theorem bX11_run_32 {V : x_J} {ad : Nat → Nat} {Q : Int32 → x_S → x_L → Prop} (X : x_Is V cX11_run 4 RX11 (Option.some FieldType.int) ad dsM 7 (x_PI Q)) {v1 : Int32} {v2 : Int32} {v3 : Int32} {s1 : Int32} {σ : x_S} {τ : x_L} (h : wX11_run_32 Q v1 v2 v3 s1 σ τ) : V σ τ 32 [(0, .ref (ad 0)), (1, .int v1), (2, .int v2), (3, .int v3)] [.int s1, .ref (ad 0)] := by
  refine x_iconst X dX11_run_32 ki_2 ?_
  refine x_callVi X [.int s1, .int 2] [] dX11_run_33 (kX11_throwsIf h) cm_X11_throwsIf ci_X11_throwsIf w_8_10 dsM_0 ⟨by decide, by decide⟩ rfl (Nat.le_of_ble_eq_true rfl) (fun r33 σ33 τ33 h => ?_)
  refine x_if_eq X 41 dX11_run_36 (by decide) (fun hc => ?_) (fun hc => ?_)
  · have h := h.1 hc
    refine x_iload_n X dX11_run_41 rfl 1 rfl ?_
    refine x_iload_n X dX11_run_42 rfl 2 rfl ?_
    refine x_icmp_ne X 49 dX11_run_43 (by decide) (fun hc => ?_) (fun hc => ?_)
    · have h := h.1 hc
      refine x_aload_n X dX11_run_49 rfl 0 rfl ?_
      refine x_iload_n X dX11_run_50 rfl 1 rfl ?_
      refine x_iload_n X dX11_run_51 rfl 2 rfl ?_
      refine x_callVv X [.int v1, .int v2] [] dX11_run_52 (kX11_layRun h) cm_X11_layRun ci_X11_layRun w_8_99 dsM_0 ⟨by decide, by decide⟩ rfl (Nat.le_of_ble_eq_true rfl) (fun σ52 τ52 h => ?_)
      refine x_iload_n X dX11_run_55 rfl 3 rfl ?_
      refine x_if_ne X 66 dX11_run_56 (by decide) (fun hc => ?_) (fun hc => ?_)
      · have h := h.1 hc
        refine x_iload_n X dX11_run_66 rfl 3 rfl ?_
        refine x_iconst X dX11_run_67 ki_1 ?_
        refine x_icmp_ne X 78 dX11_run_68 (by decide) (fun hc => ?_) (fun hc => ?_)
        · have h := h.1 hc
          refine x_aload_n X dX11_run_78 rfl 0 rfl ?_
          refine x_getI X dX11_run_79 fl_11_273 dsM_0 rfl ?_
          refine x_sub X [] (lv' := []) rfl ?_
          exact bX11_run_82 X h
        · have h := h.2 hc
          refine x_aload_n X dX11_run_71 rfl 0 rfl ?_
          refine x_getI X dX11_run_72 fl_11_267 dsM_0 rfl ?_
          refine x_goto X (tgt := 82) dX11_run_75 (by decide) ?_
          refine x_sub X [] (lv' := []) rfl ?_
          exact bX11_run_82 X h
      · have h := h.2 hc
        refine x_aload_n X dX11_run_59 rfl 0 rfl ?_
        refine x_getI X dX11_run_60 fl_11_264 dsM_0 rfl ?_
        refine x_goto X (tgt := 82) dX11_run_63 (by decide) ?_
        refine x_sub X [] (lv' := []) rfl ?_
        exact bX11_run_82 X h
    · have h := h.2 hc
      refine x_bipush X dX11_run_46 kb_m3 ?_
      exact x_iret X dX11_run_48 ⟨_, rfl, h⟩
  · have h := h.2 hc
    refine x_sub X [] (lv' := []) rfl ?_
    exact bX11_run_39 X h
set_option maxRecDepth 100000 in
set_option maxHeartbeats 4000000 in
theorem kX11_run {ad : Nat → Nat} {a1 : Int32} {a2 : Int32} {a3 : Int32} {σ : x_S} {τ : x_L} {Q : Int32 → x_S → x_L → Prop} (h : wX11_run a1 a2 a3 σ τ Q) : x_Met yX11_run cX11_run 4 (Option.some FieldType.int) 7 ad dsM [.ref (ad 0), .int a1, .int a2, .int a3] σ τ (x_PI Q) := by
  refine x_met (by decide +kernel) (Nat.le_of_ble_eq_true rfl) (fun V X => ?_)
  have X : x_Is V cX11_run 4 RX11 (Option.some FieldType.int) ad dsM 7 (x_PI Q) := X
  show V σ τ 0 [(0, .ref (ad 0)), (1, .int a1), (2, .int a2), (3, .int a3)] []
  refine x_aload_n X dX11_run_0 rfl 0 rfl ?_
  refine x_iconst X dX11_run_1 ki_0 ?_
  refine x_putI X dX11_run_2 fl_11_82 ft_11_5 dsM_0 rfl ?_
  refine x_aload_n X dX11_run_5 rfl 0 rfl ?_
  refine x_iload_n X dX11_run_6 rfl 1 rfl ?_
  refine x_iload_n X dX11_run_7 rfl 2 rfl ?_
  refine x_callVi X [.int a1, .int a2] [] dX11_run_8 (kX11_notTwo h) cm_X11_notTwo ci_X11_notTwo w_8_86 dsM_0 ⟨by decide, by decide⟩ rfl (Nat.le_of_ble_eq_true rfl) (fun r8 σ8 τ8 h => ?_)
  refine x_if_ne X 39 dX11_run_11 (by decide) (fun hc => ?_) (fun hc => ?_)
  · have h := h.1 hc
    refine x_sub X [] (lv' := []) rfl ?_
    exact bX11_run_39 X h
  · have h := h.2 hc
    refine x_aload_n X dX11_run_14 rfl 0 rfl ?_
    refine x_iload_n X dX11_run_15 rfl 3 rfl ?_
    refine x_i2l X dX11_run_16 ?_
    refine x_lconst X (v := 0) dX11_run_17 (by decide) ?_
    refine x_ldc2 X dX11_run_18 w_8_98 ?_
    refine x_callSi X [.long ((a3 : Int32).toInt64), .long 0, .long 2] [.ref (ad 0)] dX11_run_21 (kX11_inRange h) cm_X11_inRange w_7_91 rfl w_7_90 ⟨by decide, by decide⟩ rfl (Nat.le_of_ble_eq_true rfl) (fun r21 σ21 τ21 h => ?_)
    refine x_if_ne X 31 dX11_run_24 (by decide) (fun hc => ?_) (fun hc => ?_)
    · have h := h.1 hc
      refine x_iconst X dX11_run_31 ki_0 ?_
      exact bX11_run_32 X h
    · have h := h.2 hc
      refine x_iconst X dX11_run_27 ki_1 ?_
      refine x_goto X (tgt := 32) dX11_run_28 (by decide) ?_
      exact bX11_run_32 X h
theorem dX11_common_0 : decode cX11_common 0 = .ok (.aload_n 0, 1) := by decide +kernel
theorem dX11_common_1 : decode cX11_common 1 = .ok (.iconst 0, 1) := by decide +kernel
theorem dX11_common_2 : decode cX11_common 2 = .ok (.putfield 82, 3) := by decide +kernel
theorem dX11_common_5 : decode cX11_common 5 = .ok (.aload_n 0, 1) := by decide +kernel
theorem dX11_common_6 : decode cX11_common 6 = .ok (.iload_n 1, 1) := by decide +kernel
theorem dX11_common_7 : decode cX11_common 7 = .ok (.iload_n 2, 1) := by decide +kernel
theorem dX11_common_8 : decode cX11_common 8 = .ok (.invokevirtual 261, 3) := by decide +kernel
theorem dX11_common_11 : decode cX11_common 11 = .ok (.ifCond .eq 5, 3) := by decide +kernel
theorem dX11_common_14 : decode cX11_common 14 = .ok (.iconst 0, 1) := by decide +kernel
theorem dX11_common_15 : decode cX11_common 15 = .ok (.ireturn, 1) := by decide +kernel
theorem dX11_common_16 : decode cX11_common 16 = .ok (.iconst 0, 1) := by decide +kernel
theorem dX11_common_17 : decode cX11_common 17 = .ok (.istore_n 3, 1) := by decide +kernel
theorem dX11_common_18 : decode cX11_common 18 = .ok (.iconst 0, 1) := by decide +kernel
theorem dX11_common_19 : decode cX11_common 19 = .ok (.istore 4, 2) := by decide +kernel
theorem dX11_common_21 : decode cX11_common 21 = .ok (.iload 4, 2) := by decide +kernel
theorem dX11_common_23 : decode cX11_common 23 = .ok (.aload_n 0, 1) := by decide +kernel
theorem dX11_common_24 : decode cX11_common 24 = .ok (.getfield 17, 3) := by decide +kernel
theorem dX11_common_27 : decode cX11_common 27 = .ok (.iconst 0, 1) := by decide +kernel
theorem dX11_common_28 : decode cX11_common 28 = .ok (.iaload, 1) := by decide +kernel
theorem dX11_common_29 : decode cX11_common 29 = .ok (.if_icmp .ge 39, 3) := by decide +kernel
theorem dX11_common_32 : decode cX11_common 32 = .ok (.iload_n 3, 1) := by decide +kernel
theorem dX11_common_33 : decode cX11_common 33 = .ok (.aload_n 0, 1) := by decide +kernel
theorem dX11_common_34 : decode cX11_common 34 = .ok (.iload_n 1, 1) := by decide +kernel
theorem dX11_common_35 : decode cX11_common 35 = .ok (.iload 4, 2) := by decide +kernel
theorem dX11_common_37 : decode cX11_common 37 = .ok (.invokevirtual 270, 3) := by decide +kernel
theorem dX11_common_40 : decode cX11_common 40 = .ok (.iconst (-1), 1) := by decide +kernel
theorem dX11_common_41 : decode cX11_common 41 = .ok (.if_icmp .eq 18, 3) := by decide +kernel
theorem dX11_common_44 : decode cX11_common 44 = .ok (.aload_n 0, 1) := by decide +kernel
theorem dX11_common_45 : decode cX11_common 45 = .ok (.iload_n 2, 1) := by decide +kernel
theorem dX11_common_46 : decode cX11_common 46 = .ok (.iload 4, 2) := by decide +kernel
theorem dX11_common_48 : decode cX11_common 48 = .ok (.invokevirtual 270, 3) := by decide +kernel
theorem dX11_common_51 : decode cX11_common 51 = .ok (.iconst (-1), 1) := by decide +kernel
theorem dX11_common_52 : decode cX11_common 52 = .ok (.if_icmp .eq 7, 3) := by decide +kernel
theorem dX11_common_55 : decode cX11_common 55 = .ok (.iconst 1, 1) := by decide +kernel
theorem dX11_common_56 : decode cX11_common 56 = .ok (.goto 4, 3) := by decide +kernel
theorem dX11_common_59 : decode cX11_common 59 = .ok (.iconst 0, 1) := by decide +kernel
theorem dX11_common_60 : decode cX11_common 60 = .ok (.iadd, 1) := by decide +kernel
theorem dX11_common_61 : decode cX11_common 61 = .ok (.istore_n 3, 1) := by decide +kernel
theorem dX11_common_62 : decode cX11_common 62 = .ok (.iinc 4 1, 3) := by decide +kernel
theorem dX11_common_65 : decode cX11_common 65 = .ok (.goto (-44), 3) := by decide +kernel
theorem dX11_common_68 : decode cX11_common 68 = .ok (.iload_n 3, 1) := by decide +kernel
theorem dX11_common_69 : decode cX11_common 69 = .ok (.ireturn, 1) := by decide +kernel
theorem cm_X11_common : x_CM yX11_common cX11_common 5 (Option.some FieldType.int) 2 := ⟨w_8_110, w_1_12, by decide +kernel, by decide +kernel⟩
theorem ci_X11_common : x_CI yX11_common 13 := ⟨w_8_108, w_8_109, (RX11, TX11, 41), rfl, rfl⟩
set_option maxRecDepth 100000 in
set_option maxHeartbeats 4000000 in
theorem bX11_common_60 {V : x_J} {ad : Nat → Nat} {Q : Int32 → x_S → x_L → Prop} (X : x_Is V cX11_common 5 RX11 (Option.some FieldType.int) ad dsM 7 (x_PI Q)) {K21 : Int32 → Int32 → Int32 → Int32 → x_S → x_L → Prop} (hK21 : ∀ v1 v2 v3 v4 σ τ, K21 v1 v2 v3 v4 σ τ → V σ τ 21 [(0, .ref (ad 0)), (1, .int v1), (2, .int v2), (3, .int v3), (4, .int v4)] []) {v1 : Int32} {v2 : Int32} {v4 : Int32} {s0 : Int32} {s1 : Int32} {σ : x_S} {τ : x_L} (h : wX11_common_60 K21 Q v1 v2 v4 s0 s1 σ τ) : V σ τ 60 [(0, .ref (ad 0)), (1, .int v1), (2, .int v2), (4, .int v4)] [.int s1, .int s0] := by
  refine x_iadd X dX11_common_60 ?_
  refine x_istore_n X (lv' := [(3, .int (s0 + s1)), (0, .ref (ad 0)), (1, .int v1), (2, .int v2), (4, .int v4)]) dX11_common_61 rfl (by decide) rfl ?_
  refine x_iinc X (k := 4) (lv' := [(4, .int (v4 + 1)), (3, .int (s0 + s1)), (0, .ref (ad 0)), (1, .int v1), (2, .int v2)]) dX11_common_62 rfl ki_1 (by decide) rfl ?_
  refine x_goto X (tgt := 21) dX11_common_65 (by decide) ?_
  refine x_sub X [2, 3, 4, 1, 0] (lv' := [(0, .ref (ad 0)), (1, .int v1), (2, .int v2), (3, .int (s0 + s1)), (4, .int (v4 + 1))]) rfl ?_
  exact hK21 _ _ _ _ _ _ h
set_option maxRecDepth 100000 in
set_option maxHeartbeats 4000000 in
theorem bX11_common_59 {V : x_J} {ad : Nat → Nat} {Q : Int32 → x_S → x_L → Prop} (X : x_Is V cX11_common 5 RX11 (Option.some FieldType.int) ad dsM 7 (x_PI Q)) {K21 : Int32 → Int32 → Int32 → Int32 → x_S → x_L → Prop} (hK21 : ∀ v1 v2 v3 v4 σ τ, K21 v1 v2 v3 v4 σ τ → V σ τ 21 [(0, .ref (ad 0)), (1, .int v1), (2, .int v2), (3, .int v3), (4, .int v4)] []) {v1 : Int32} {v2 : Int32} {v4 : Int32} {s0 : Int32} {σ : x_S} {τ : x_L} (h : wX11_common_59 K21 Q v1 v2 v4 s0 σ τ) : V σ τ 59 [(0, .ref (ad 0)), (1, .int v1), (2, .int v2), (4, .int v4)] [.int s0] := by
  refine x_iconst X dX11_common_59 ki_0 ?_
  exact bX11_common_60 X hK21 h
set_option maxRecDepth 100000 in
set_option maxHeartbeats 4000000 in
theorem bX11_common_21 {V : x_J} {ad : Nat → Nat} {Q : Int32 → x_S → x_L → Prop} (X : x_Is V cX11_common 5 RX11 (Option.some FieldType.int) ad dsM 7 (x_PI Q)) {K21 : Int32 → Int32 → Int32 → Int32 → x_S → x_L → Prop} (hK21 : ∀ v1 v2 v3 v4 σ τ, K21 v1 v2 v3 v4 σ τ → V σ τ 21 [(0, .ref (ad 0)), (1, .int v1), (2, .int v2), (3, .int v3), (4, .int v4)] []) {v1 : Int32} {v2 : Int32} {v3 : Int32} {v4 : Int32} {σ : x_S} {τ : x_L} (h : wX11_common_21 Q K21 v1 v2 v3 v4 σ τ) : V σ τ 21 [(0, .ref (ad 0)), (1, .int v1), (2, .int v2), (3, .int v3), (4, .int v4)] [] := by
  refine x_iload X dX11_common_21 4 rfl ?_
  refine x_aload_n X dX11_common_23 rfl 0 rfl ?_
  refine x_getR X (j := 3) dX11_common_24 fl_11_17 dsM_0 rfl ?_
  refine x_iconst X dX11_common_27 ki_0 ?_
  refine x_iald X dX11_common_28 dsM_3 (x_inl (by decide)) ?_
  refine x_icmp_ge X 68 dX11_common_29 (by decide) (fun hc => ?_) (fun hc => ?_)
  · have h := h.1 hc
    refine x_iload_n X dX11_common_68 rfl 3 rfl ?_
    exact x_iret X dX11_common_69 ⟨_, rfl, h⟩
  · have h := h.2 hc
    refine x_iload_n X dX11_common_32 rfl 3 rfl ?_
    refine x_aload_n X dX11_common_33 rfl 0 rfl ?_
    refine x_iload_n X dX11_common_34 rfl 1 rfl ?_
    refine x_iload X dX11_common_35 4 rfl ?_
    refine x_callVi X [.int v1, .int v4] [.int v3] dX11_common_37 (kX11_placeOf h) cm_X11_placeOf ci_X11_placeOf w_8_103 dsM_0 ⟨by decide, by decide⟩ rfl (Nat.le_of_ble_eq_true rfl) (fun r37 σ37 τ37 h => ?_)
    refine x_iconst X dX11_common_40 ki_m1 ?_
    refine x_icmp_eq X 59 dX11_common_41 (by decide) (fun hc => ?_) (fun hc => ?_)
    · have h := h.1 hc
      refine x_sub X [0, 1, 2, 4] (lv' := [(0, .ref (ad 0)), (1, .int v1), (2, .int v2), (4, .int v4)]) rfl ?_
      exact bX11_common_59 X hK21 h
    · have h := h.2 hc
      refine x_aload_n X dX11_common_44 rfl 0 rfl ?_
      refine x_iload_n X dX11_common_45 rfl 2 rfl ?_
      refine x_iload X dX11_common_46 4 rfl ?_
      refine x_callVi X [.int v2, .int v4] [.int v3] dX11_common_48 (kX11_placeOf h) cm_X11_placeOf ci_X11_placeOf w_8_103 dsM_0 ⟨by decide, by decide⟩ rfl (Nat.le_of_ble_eq_true rfl) (fun r48 σ48 τ48 h => ?_)
      refine x_iconst X dX11_common_51 ki_m1 ?_
      refine x_icmp_eq X 59 dX11_common_52 (by decide) (fun hc => ?_) (fun hc => ?_)
      · have h := h.1 hc
        refine x_sub X [0, 1, 2, 4] (lv' := [(0, .ref (ad 0)), (1, .int v1), (2, .int v2), (4, .int v4)]) rfl ?_
        exact bX11_common_59 X hK21 h
      · have h := h.2 hc
        refine x_iconst X dX11_common_55 ki_1 ?_
        refine x_goto X (tgt := 60) dX11_common_56 (by decide) ?_
        refine x_sub X [0, 1, 2, 4] (lv' := [(0, .ref (ad 0)), (1, .int v1), (2, .int v2), (4, .int v4)]) rfl ?_
        exact bX11_common_60 X hK21 h
set_option maxRecDepth 100000 in
set_option maxHeartbeats 4000000 in
theorem kX11_common {ad : Nat → Nat} {a1 : Int32} {a2 : Int32} {σ : x_S} {τ : x_L} {Q : Int32 → x_S → x_L → Prop} (h : wX11_common a1 a2 σ τ Q) : x_Met yX11_common cX11_common 5 (Option.some FieldType.int) 7 ad dsM [.ref (ad 0), .int a1, .int a2] σ τ (x_PI Q) := by
  refine x_met (by decide +kernel) (Nat.le_of_ble_eq_true rfl) (fun V X => ?_)
  have X : x_Is V cX11_common 5 RX11 (Option.some FieldType.int) ad dsM 7 (x_PI Q) := X
  show V σ τ 0 [(0, .ref (ad 0)), (1, .int a1), (2, .int a2)] []
  refine x_aload_n X dX11_common_0 rfl 0 rfl ?_
  refine x_iconst X dX11_common_1 ki_0 ?_
  refine x_putI X dX11_common_2 fl_11_82 ft_11_5 dsM_0 rfl ?_
  refine x_aload_n X dX11_common_5 rfl 0 rfl ?_
  refine x_iload_n X dX11_common_6 rfl 1 rfl ?_
  refine x_iload_n X dX11_common_7 rfl 2 rfl ?_
  refine x_callVi X [.int a1, .int a2] [] dX11_common_8 (kX11_notTwo h) cm_X11_notTwo ci_X11_notTwo w_8_86 dsM_0 ⟨by decide, by decide⟩ rfl (Nat.le_of_ble_eq_true rfl) (fun r8 σ8 τ8 h => ?_)
  refine x_if_eq X 16 dX11_common_11 (by decide) (fun hc => ?_) (fun hc => ?_)
  · have h := h.1 hc
    refine x_iconst X dX11_common_16 ki_0 ?_
    refine x_istore_n X (lv' := [(3, .int 0), (0, .ref (ad 0)), (1, .int a1), (2, .int a2)]) dX11_common_17 rfl (by decide) rfl ?_
    refine x_iconst X dX11_common_18 ki_0 ?_
    refine x_istore X (lv' := [(4, .int 0), (3, .int 0), (0, .ref (ad 0)), (1, .int a1), (2, .int a2)]) dX11_common_19 (by decide) rfl ?_
    refine x_sub X [2, 3, 4, 1, 0] (lv' := [(0, .ref (ad 0)), (1, .int a1), (2, .int a2), (3, .int 0), (4, .int 0)]) rfl ?_
    exact x_l4_G (fun v1 v2 v3 v4 σ τ => V σ τ 21 [(0, .ref (ad 0)), (1, .int v1), (2, .int v2), (3, .int v3), (4, .int v4)] []) (fun K21 hK21 v1 v2 v3 v4 σ τ h => bX11_common_21 X hK21 h) h
  · have h := h.2 hc
    refine x_iconst X dX11_common_14 ki_0 ?_
    exact x_iret X dX11_common_15 ⟨_, rfl, h⟩
theorem dX11_slack_0 : decode cX11_slack 0 = .ok (.aload_n 0, 1) := by decide +kernel
theorem dX11_slack_1 : decode cX11_slack 1 = .ok (.iconst 0, 1) := by decide +kernel
theorem dX11_slack_2 : decode cX11_slack 2 = .ok (.putfield 82, 3) := by decide +kernel
theorem dX11_slack_5 : decode cX11_slack 5 = .ok (.aload_n 0, 1) := by decide +kernel
theorem dX11_slack_6 : decode cX11_slack 6 = .ok (.aload_n 0, 1) := by decide +kernel
theorem dX11_slack_7 : decode cX11_slack 7 = .ok (.iload_n 1, 1) := by decide +kernel
theorem dX11_slack_8 : decode cX11_slack 8 = .ok (.invokevirtual 103, 3) := by decide +kernel
theorem dX11_slack_11 : decode cX11_slack 11 = .ok (.ifCond .ne 7, 3) := by decide +kernel
theorem dX11_slack_14 : decode cX11_slack 14 = .ok (.iconst 1, 1) := by decide +kernel
theorem dX11_slack_15 : decode cX11_slack 15 = .ok (.goto 4, 3) := by decide +kernel
theorem dX11_slack_18 : decode cX11_slack 18 = .ok (.iconst 0, 1) := by decide +kernel
theorem dX11_slack_19 : decode cX11_slack 19 = .ok (.iconst 1, 1) := by decide +kernel
theorem dX11_slack_20 : decode cX11_slack 20 = .ok (.invokevirtual 235, 3) := by decide +kernel
theorem dX11_slack_23 : decode cX11_slack 23 = .ok (.ifCond .eq 5, 3) := by decide +kernel
theorem dX11_slack_26 : decode cX11_slack 26 = .ok (.iconst 0, 1) := by decide +kernel
theorem dX11_slack_27 : decode cX11_slack 27 = .ok (.ireturn, 1) := by decide +kernel
theorem dX11_slack_28 : decode cX11_slack 28 = .ok (.aload_n 0, 1) := by decide +kernel
theorem dX11_slack_29 : decode cX11_slack 29 = .ok (.invokevirtual 200, 3) := by decide +kernel
theorem dX11_slack_32 : decode cX11_slack 32 = .ok (.aload_n 0, 1) := by decide +kernel
theorem dX11_slack_33 : decode cX11_slack 33 = .ok (.iload_n 1, 1) := by decide +kernel
theorem dX11_slack_34 : decode cX11_slack 34 = .ok (.iconst 1, 1) := by decide +kernel
theorem dX11_slack_35 : decode cX11_slack 35 = .ok (.invokevirtual 99, 3) := by decide +kernel
theorem dX11_slack_38 : decode cX11_slack 38 = .ok (.aload_n 0, 1) := by decide +kernel
theorem dX11_slack_39 : decode cX11_slack 39 = .ok (.iload_n 1, 1) := by decide +kernel
theorem dX11_slack_40 : decode cX11_slack 40 = .ok (.invokevirtual 194, 3) := by decide +kernel
theorem dX11_slack_43 : decode cX11_slack 43 = .ok (.isub, 1) := by decide +kernel
theorem dX11_slack_44 : decode cX11_slack 44 = .ok (.ireturn, 1) := by decide +kernel
theorem cm_X11_slack : x_CM yX11_slack cX11_slack 2 (Option.some FieldType.int) 1 := ⟨w_8_114, w_1_12, by decide +kernel, by decide +kernel⟩
theorem ci_X11_slack : x_CI yX11_slack 13 := ⟨w_8_112, w_8_113, (RX11, TX11, 41), rfl, rfl⟩
set_option maxRecDepth 100000 in
set_option maxHeartbeats 4000000 in
theorem bX11_slack_19 {V : x_J} {ad : Nat → Nat} {Q : Int32 → x_S → x_L → Prop} (X : x_Is V cX11_slack 2 RX11 (Option.some FieldType.int) ad dsM 6 (x_PI Q)) {v1 : Int32} {s1 : Int32} {σ : x_S} {τ : x_L} (h : wX11_slack_19 Q v1 s1 σ τ) : V σ τ 19 [(0, .ref (ad 0)), (1, .int v1)] [.int s1, .ref (ad 0)] := by
  refine x_iconst X dX11_slack_19 ki_1 ?_
  refine x_callVi X [.int s1, .int 1] [] dX11_slack_20 (kX11_throwsIf h) cm_X11_throwsIf ci_X11_throwsIf w_8_10 dsM_0 ⟨by decide, by decide⟩ rfl (Nat.le_of_ble_eq_true rfl) (fun r20 σ20 τ20 h => ?_)
  refine x_if_eq X 28 dX11_slack_23 (by decide) (fun hc => ?_) (fun hc => ?_)
  · have h := h.1 hc
    refine x_aload_n X dX11_slack_28 rfl 0 rfl ?_
    refine x_callVv X [] [] dX11_slack_29 (kX11_lay h) cm_X11_lay ci_X11_lay w_7_101 dsM_0 ⟨by decide, by decide⟩ rfl (Nat.le_of_ble_eq_true rfl) (fun σ29 τ29 h => ?_)
    refine x_aload_n X dX11_slack_32 rfl 0 rfl ?_
    refine x_iload_n X dX11_slack_33 rfl 1 rfl ?_
    refine x_iconst X dX11_slack_34 ki_1 ?_
    refine x_callVi X [.int v1, .int 1] [] dX11_slack_35 (kX11_ofTruck h) cm_X11_ofTruck ci_X11_ofTruck w_7_113 dsM_0 ⟨by decide, by decide⟩ rfl (Nat.le_of_ble_eq_true rfl) (fun r35 σ35 τ35 h => ?_)
    refine x_aload_n X dX11_slack_38 rfl 0 rfl ?_
    refine x_iload_n X dX11_slack_39 rfl 1 rfl ?_
    refine x_callVi X [.int v1] [.int r35] dX11_slack_40 (kX11_arrival h) cm_X11_arrival ci_X11_arrival w_7_223 dsM_0 ⟨by decide, by decide⟩ rfl (Nat.le_of_ble_eq_true rfl) (fun r40 σ40 τ40 h => ?_)
    refine x_isub X dX11_slack_43 ?_
    exact x_iret X dX11_slack_44 ⟨_, rfl, h⟩
  · have h := h.2 hc
    refine x_iconst X dX11_slack_26 ki_0 ?_
    exact x_iret X dX11_slack_27 ⟨_, rfl, h⟩
set_option maxRecDepth 100000 in
set_option maxHeartbeats 4000000 in
theorem kX11_slack {ad : Nat → Nat} {a1 : Int32} {σ : x_S} {τ : x_L} {Q : Int32 → x_S → x_L → Prop} (h : wX11_slack a1 σ τ Q) : x_Met yX11_slack cX11_slack 2 (Option.some FieldType.int) 6 ad dsM [.ref (ad 0), .int a1] σ τ (x_PI Q) := by
  refine x_met (by decide +kernel) (Nat.le_of_ble_eq_true rfl) (fun V X => ?_)
  have X : x_Is V cX11_slack 2 RX11 (Option.some FieldType.int) ad dsM 6 (x_PI Q) := X
  show V σ τ 0 [(0, .ref (ad 0)), (1, .int a1)] []
  refine x_aload_n X dX11_slack_0 rfl 0 rfl ?_
  refine x_iconst X dX11_slack_1 ki_0 ?_
  refine x_putI X dX11_slack_2 fl_11_82 ft_11_5 dsM_0 rfl ?_
  refine x_aload_n X dX11_slack_5 rfl 0 rfl ?_
  refine x_aload_n X dX11_slack_6 rfl 0 rfl ?_
  refine x_iload_n X dX11_slack_7 rfl 1 rfl ?_
  refine x_callVi X [.int a1] [.ref (ad 0)] dX11_slack_8 (kX11_isTruck h) cm_X11_isTruck ci_X11_isTruck w_8_26 dsM_0 ⟨by decide, by decide⟩ rfl (Nat.le_of_ble_eq_true rfl) (fun r8 σ8 τ8 h => ?_)
  refine x_if_ne X 18 dX11_slack_11 (by decide) (fun hc => ?_) (fun hc => ?_)
  · have h := h.1 hc
    refine x_iconst X dX11_slack_18 ki_0 ?_
    exact bX11_slack_19 X h
  · have h := h.2 hc
    refine x_iconst X dX11_slack_14 ki_1 ?_
    refine x_goto X (tgt := 19) dX11_slack_15 (by decide) ?_
    exact bX11_slack_19 X h
theorem dX11_neededSpeed_0 : decode cX11_neededSpeed 0 = .ok (.aload_n 0, 1) := by decide +kernel
theorem dX11_neededSpeed_1 : decode cX11_neededSpeed 1 = .ok (.iconst 0, 1) := by decide +kernel
theorem dX11_neededSpeed_2 : decode cX11_neededSpeed 2 = .ok (.putfield 82, 3) := by decide +kernel
theorem dX11_neededSpeed_5 : decode cX11_neededSpeed 5 = .ok (.aload_n 0, 1) := by decide +kernel
theorem dX11_neededSpeed_6 : decode cX11_neededSpeed 6 = .ok (.iload_n 1, 1) := by decide +kernel
theorem dX11_neededSpeed_7 : decode cX11_neededSpeed 7 = .ok (.iload_n 2, 1) := by decide +kernel
theorem dX11_neededSpeed_8 : decode cX11_neededSpeed 8 = .ok (.invokevirtual 249, 3) := by decide +kernel
theorem dX11_neededSpeed_11 : decode cX11_neededSpeed 11 = .ok (.ifCond .ne 28, 3) := by decide +kernel
theorem dX11_neededSpeed_14 : decode cX11_neededSpeed 14 = .ok (.aload_n 0, 1) := by decide +kernel
theorem dX11_neededSpeed_15 : decode cX11_neededSpeed 15 = .ok (.iload_n 3, 1) := by decide +kernel
theorem dX11_neededSpeed_16 : decode cX11_neededSpeed 16 = .ok (.i2l, 1) := by decide +kernel
theorem dX11_neededSpeed_17 : decode cX11_neededSpeed 17 = .ok (.lconst 0, 1) := by decide +kernel
theorem dX11_neededSpeed_18 : decode cX11_neededSpeed 18 = .ok (.ldc2_w 281, 3) := by decide +kernel
theorem dX11_neededSpeed_21 : decode cX11_neededSpeed 21 = .ok (.invokestatic 95, 3) := by decide +kernel
theorem dX11_neededSpeed_24 : decode cX11_neededSpeed 24 = .ok (.ifCond .ne 7, 3) := by decide +kernel
theorem dX11_neededSpeed_27 : decode cX11_neededSpeed 27 = .ok (.iconst 1, 1) := by decide +kernel
theorem dX11_neededSpeed_28 : decode cX11_neededSpeed 28 = .ok (.goto 4, 3) := by decide +kernel
theorem dX11_neededSpeed_31 : decode cX11_neededSpeed 31 = .ok (.iconst 0, 1) := by decide +kernel
theorem dX11_neededSpeed_32 : decode cX11_neededSpeed 32 = .ok (.iconst 2, 1) := by decide +kernel
theorem dX11_neededSpeed_33 : decode cX11_neededSpeed 33 = .ok (.invokevirtual 235, 3) := by decide +kernel
theorem dX11_neededSpeed_36 : decode cX11_neededSpeed 36 = .ok (.ifCond .eq 5, 3) := by decide +kernel
theorem dX11_neededSpeed_39 : decode cX11_neededSpeed 39 = .ok (.iconst 0, 1) := by decide +kernel
theorem dX11_neededSpeed_40 : decode cX11_neededSpeed 40 = .ok (.ireturn, 1) := by decide +kernel
theorem dX11_neededSpeed_41 : decode cX11_neededSpeed 41 = .ok (.bipush 40, 2) := by decide +kernel
theorem dX11_neededSpeed_43 : decode cX11_neededSpeed 43 = .ok (.istore 4, 2) := by decide +kernel
theorem dX11_neededSpeed_45 : decode cX11_neededSpeed 45 = .ok (.iload 4, 2) := by decide +kernel
theorem dX11_neededSpeed_47 : decode cX11_neededSpeed 47 = .ok (.aload_n 0, 1) := by decide +kernel
theorem dX11_neededSpeed_48 : decode cX11_neededSpeed 48 = .ok (.iload_n 1, 1) := by decide +kernel
theorem dX11_neededSpeed_49 : decode cX11_neededSpeed 49 = .ok (.iload_n 2, 1) := by decide +kernel
theorem dX11_neededSpeed_50 : decode cX11_neededSpeed 50 = .ok (.invokevirtual 283, 3) := by decide +kernel
theorem dX11_neededSpeed_53 : decode cX11_neededSpeed 53 = .ok (.if_icmp .gt 39, 3) := by decide +kernel
theorem dX11_neededSpeed_56 : decode cX11_neededSpeed 56 = .ok (.aload_n 0, 1) := by decide +kernel
theorem dX11_neededSpeed_57 : decode cX11_neededSpeed 57 = .ok (.getfield 20, 3) := by decide +kernel
theorem dX11_neededSpeed_60 : decode cX11_neededSpeed 60 = .ok (.iload_n 1, 1) := by decide +kernel
theorem dX11_neededSpeed_61 : decode cX11_neededSpeed 61 = .ok (.iload_n 2, 1) := by decide +kernel
theorem dX11_neededSpeed_62 : decode cX11_neededSpeed 62 = .ok (.invokestatic 111, 3) := by decide +kernel
theorem dX11_neededSpeed_65 : decode cX11_neededSpeed 65 = .ok (.iaload, 1) := by decide +kernel
theorem dX11_neededSpeed_66 : decode cX11_neededSpeed 66 = .ok (.aload_n 0, 1) := by decide +kernel
theorem dX11_neededSpeed_67 : decode cX11_neededSpeed 67 = .ok (.aload_n 0, 1) := by decide +kernel
theorem dX11_neededSpeed_68 : decode cX11_neededSpeed 68 = .ok (.iload_n 1, 1) := by decide +kernel
theorem dX11_neededSpeed_69 : decode cX11_neededSpeed 69 = .ok (.iload_n 2, 1) := by decide +kernel
theorem dX11_neededSpeed_70 : decode cX11_neededSpeed 70 = .ok (.invokevirtual 114, 3) := by decide +kernel
theorem dX11_neededSpeed_73 : decode cX11_neededSpeed 73 = .ok (.iload 4, 2) := by decide +kernel
theorem dX11_neededSpeed_75 : decode cX11_neededSpeed 75 = .ok (.invokevirtual 126, 3) := by decide +kernel
theorem dX11_neededSpeed_78 : decode cX11_neededSpeed 78 = .ok (.iadd, 1) := by decide +kernel
theorem dX11_neededSpeed_79 : decode cX11_neededSpeed 79 = .ok (.iload_n 3, 1) := by decide +kernel
theorem dX11_neededSpeed_80 : decode cX11_neededSpeed 80 = .ok (.if_icmp .gt 6, 3) := by decide +kernel
theorem dX11_neededSpeed_83 : decode cX11_neededSpeed 83 = .ok (.iload 4, 2) := by decide +kernel
theorem dX11_neededSpeed_85 : decode cX11_neededSpeed 85 = .ok (.ireturn, 1) := by decide +kernel
theorem dX11_neededSpeed_86 : decode cX11_neededSpeed 86 = .ok (.iinc 4 1, 3) := by decide +kernel
theorem dX11_neededSpeed_89 : decode cX11_neededSpeed 89 = .ok (.goto (-44), 3) := by decide +kernel
theorem dX11_neededSpeed_92 : decode cX11_neededSpeed 92 = .ok (.iconst (-1), 1) := by decide +kernel
theorem dX11_neededSpeed_93 : decode cX11_neededSpeed 93 = .ok (.ireturn, 1) := by decide +kernel
theorem cm_X11_neededSpeed : x_CM yX11_neededSpeed cX11_neededSpeed 5 (Option.some FieldType.int) 3 := ⟨w_8_118, w_1_12, by decide +kernel, by decide +kernel⟩
theorem ci_X11_neededSpeed : x_CI yX11_neededSpeed 13 := ⟨w_8_116, w_8_117, (RX11, TX11, 41), rfl, rfl⟩
set_option maxRecDepth 100000 in
set_option maxHeartbeats 4000000 in
theorem bX11_neededSpeed_39 {V : x_J} {ad : Nat → Nat} {Q : Int32 → x_S → x_L → Prop} (X : x_Is V cX11_neededSpeed 5 RX11 (Option.some FieldType.int) ad dsM 7 (x_PI Q)) {σ : x_S} {τ : x_L} (h : wX11_neededSpeed_39 Q σ τ) : V σ τ 39 [] [] := by
  refine x_iconst X dX11_neededSpeed_39 ki_0 ?_
  exact x_iret X dX11_neededSpeed_40 ⟨_, rfl, h⟩
set_option maxRecDepth 100000 in
set_option maxHeartbeats 4000000 in
theorem bX11_neededSpeed_45 {V : x_J} {ad : Nat → Nat} {Q : Int32 → x_S → x_L → Prop} (X : x_Is V cX11_neededSpeed 5 RX11 (Option.some FieldType.int) ad dsM 7 (x_PI Q)) {K45 : Int32 → Int32 → Int32 → Int32 → x_S → x_L → Prop} (hK45 : ∀ v1 v2 v3 v4 σ τ, K45 v1 v2 v3 v4 σ τ → V σ τ 45 [(0, .ref (ad 0)), (1, .int v1), (2, .int v2), (3, .int v3), (4, .int v4)] []) {v1 : Int32} {v2 : Int32} {v3 : Int32} {v4 : Int32} {σ : x_S} {τ : x_L} (h : wX11_neededSpeed_45 Q K45 v1 v2 v3 v4 σ τ) : V σ τ 45 [(0, .ref (ad 0)), (1, .int v1), (2, .int v2), (3, .int v3), (4, .int v4)] [] := by
  refine x_iload X dX11_neededSpeed_45 4 rfl ?_
  refine x_aload_n X dX11_neededSpeed_47 rfl 0 rfl ?_
  refine x_iload_n X dX11_neededSpeed_48 rfl 1 rfl ?_
  refine x_iload_n X dX11_neededSpeed_49 rfl 2 rfl ?_
  refine x_callVi X [.int v1, .int v2] [.int v4] dX11_neededSpeed_50 (kX11_limitAt h) cm_X11_limitAt ci_X11_limitAt w_8_120 dsM_0 ⟨by decide, by decide⟩ rfl (Nat.le_of_ble_eq_true rfl) (fun r50 σ50 τ50 h => ?_)
  refine x_icmp_gt X 92 dX11_neededSpeed_53 (by decide) (fun hc => ?_) (fun hc => ?_)
  · have h := h.1 hc
    refine x_iconst X dX11_neededSpeed_92 ki_m1 ?_
    exact x_iret X dX11_neededSpeed_93 ⟨_, rfl, h⟩
  · have h := h.2 hc
    refine x_aload_n X dX11_neededSpeed_56 rfl 0 rfl ?_
    refine x_getR X (j := 4) dX11_neededSpeed_57 fl_11_20 dsM_0 rfl ?_
    refine x_iload_n X dX11_neededSpeed_60 rfl 1 rfl ?_
    refine x_iload_n X dX11_neededSpeed_61 rfl 2 rfl ?_
    refine x_callSi X [.int v1, .int v2] [.ref (ad 4)] dX11_neededSpeed_62 (kX11_spot h) cm_X11_spot w_7_118 rfl w_7_117 ⟨by decide, by decide⟩ rfl (Nat.le_of_ble_eq_true rfl) (fun r62 σ62 τ62 h => ?_)
    have g65 := h.1
    have h := h.2
    refine x_iald X dX11_neededSpeed_65 dsM_4 g65 ?_
    refine x_aload_n X dX11_neededSpeed_66 rfl 0 rfl ?_
    refine x_aload_n X dX11_neededSpeed_67 rfl 0 rfl ?_
    refine x_iload_n X dX11_neededSpeed_68 rfl 1 rfl ?_
    refine x_iload_n X dX11_neededSpeed_69 rfl 2 rfl ?_
    refine x_callVi X [.int v1, .int v2] [.ref (ad 0), .int (σ62 4 r62.toNatClampNeg)] dX11_neededSpeed_70 (kX11_roadAt h) cm_X11_roadAt ci_X11_roadAt w_7_124 dsM_0 ⟨by decide, by decide⟩ rfl (Nat.le_of_ble_eq_true rfl) (fun r70 σ70 τ70 h => ?_)
    refine x_iload X dX11_neededSpeed_73 4 rfl ?_
    refine x_callVi X [.int r70, .int v4] [.int (σ62 4 r62.toNatClampNeg)] dX11_neededSpeed_75 (kX11_minutes h) cm_X11_minutes ci_X11_minutes w_7_132 dsM_0 ⟨by decide, by decide⟩ rfl (Nat.le_of_ble_eq_true rfl) (fun r75 σ75 τ75 h => ?_)
    refine x_iadd X dX11_neededSpeed_78 ?_
    refine x_iload_n X dX11_neededSpeed_79 rfl 3 rfl ?_
    refine x_icmp_gt X 86 dX11_neededSpeed_80 (by decide) (fun hc => ?_) (fun hc => ?_)
    · have h := h.1 hc
      refine x_iinc X (k := 4) (lv' := [(4, .int (v4 + 1)), (0, .ref (ad 0)), (1, .int v1), (2, .int v2), (3, .int v3)]) dX11_neededSpeed_86 rfl ki_1 (by decide) rfl ?_
      refine x_goto X (tgt := 45) dX11_neededSpeed_89 (by decide) ?_
      refine x_sub X [1, 2, 3, 4, 0] (lv' := [(0, .ref (ad 0)), (1, .int v1), (2, .int v2), (3, .int v3), (4, .int (v4 + 1))]) rfl ?_
      exact hK45 _ _ _ _ _ _ h
    · have h := h.2 hc
      refine x_iload X dX11_neededSpeed_83 4 rfl ?_
      exact x_iret X dX11_neededSpeed_85 ⟨_, rfl, h⟩
set_option maxRecDepth 100000 in
set_option maxHeartbeats 4000000 in
theorem bX11_neededSpeed_32 {V : x_J} {ad : Nat → Nat} {Q : Int32 → x_S → x_L → Prop} (X : x_Is V cX11_neededSpeed 5 RX11 (Option.some FieldType.int) ad dsM 7 (x_PI Q)) {v1 : Int32} {v2 : Int32} {v3 : Int32} {s1 : Int32} {σ : x_S} {τ : x_L} (h : wX11_neededSpeed_32 Q v1 v2 v3 s1 σ τ) : V σ τ 32 [(0, .ref (ad 0)), (1, .int v1), (2, .int v2), (3, .int v3)] [.int s1, .ref (ad 0)] := by
  refine x_iconst X dX11_neededSpeed_32 ki_2 ?_
  refine x_callVi X [.int s1, .int 2] [] dX11_neededSpeed_33 (kX11_throwsIf h) cm_X11_throwsIf ci_X11_throwsIf w_8_10 dsM_0 ⟨by decide, by decide⟩ rfl (Nat.le_of_ble_eq_true rfl) (fun r33 σ33 τ33 h => ?_)
  refine x_if_eq X 41 dX11_neededSpeed_36 (by decide) (fun hc => ?_) (fun hc => ?_)
  · have h := h.1 hc
    refine x_bipush X dX11_neededSpeed_41 kb_40 ?_
    refine x_istore X (lv' := [(4, .int 40), (0, .ref (ad 0)), (1, .int v1), (2, .int v2), (3, .int v3)]) dX11_neededSpeed_43 (by decide) rfl ?_
    refine x_sub X [1, 2, 3, 4, 0] (lv' := [(0, .ref (ad 0)), (1, .int v1), (2, .int v2), (3, .int v3), (4, .int 40)]) rfl ?_
    exact x_l4_G (fun v1 v2 v3 v4 σ τ => V σ τ 45 [(0, .ref (ad 0)), (1, .int v1), (2, .int v2), (3, .int v3), (4, .int v4)] []) (fun K45 hK45 v1 v2 v3 v4 σ τ h => bX11_neededSpeed_45 X hK45 h) h
  · have h := h.2 hc
    refine x_sub X [] (lv' := []) rfl ?_
    exact bX11_neededSpeed_39 X h
set_option maxRecDepth 100000 in
set_option maxHeartbeats 4000000 in
theorem kX11_neededSpeed {ad : Nat → Nat} {a1 : Int32} {a2 : Int32} {a3 : Int32} {σ : x_S} {τ : x_L} {Q : Int32 → x_S → x_L → Prop} (h : wX11_neededSpeed a1 a2 a3 σ τ Q) : x_Met yX11_neededSpeed cX11_neededSpeed 5 (Option.some FieldType.int) 7 ad dsM [.ref (ad 0), .int a1, .int a2, .int a3] σ τ (x_PI Q) := by
  refine x_met (by decide +kernel) (Nat.le_of_ble_eq_true rfl) (fun V X => ?_)
  have X : x_Is V cX11_neededSpeed 5 RX11 (Option.some FieldType.int) ad dsM 7 (x_PI Q) := X
  show V σ τ 0 [(0, .ref (ad 0)), (1, .int a1), (2, .int a2), (3, .int a3)] []
  refine x_aload_n X dX11_neededSpeed_0 rfl 0 rfl ?_
  refine x_iconst X dX11_neededSpeed_1 ki_0 ?_
  refine x_putI X dX11_neededSpeed_2 fl_11_82 ft_11_5 dsM_0 rfl ?_
  refine x_aload_n X dX11_neededSpeed_5 rfl 0 rfl ?_
  refine x_iload_n X dX11_neededSpeed_6 rfl 1 rfl ?_
  refine x_iload_n X dX11_neededSpeed_7 rfl 2 rfl ?_
  refine x_callVi X [.int a1, .int a2] [] dX11_neededSpeed_8 (kX11_noPlace h) cm_X11_noPlace ci_X11_noPlace w_8_34 dsM_0 ⟨by decide, by decide⟩ rfl (Nat.le_of_ble_eq_true rfl) (fun r8 σ8 τ8 h => ?_)
  refine x_if_ne X 39 dX11_neededSpeed_11 (by decide) (fun hc => ?_) (fun hc => ?_)
  · have h := h.1 hc
    refine x_sub X [] (lv' := []) rfl ?_
    exact bX11_neededSpeed_39 X h
  · have h := h.2 hc
    refine x_aload_n X dX11_neededSpeed_14 rfl 0 rfl ?_
    refine x_iload_n X dX11_neededSpeed_15 rfl 3 rfl ?_
    refine x_i2l X dX11_neededSpeed_16 ?_
    refine x_lconst X (v := 0) dX11_neededSpeed_17 (by decide) ?_
    refine x_ldc2 X dX11_neededSpeed_18 w_8_119 ?_
    refine x_callSi X [.long ((a3 : Int32).toInt64), .long 0, .long 20000] [.ref (ad 0)] dX11_neededSpeed_21 (kX11_inRange h) cm_X11_inRange w_7_91 rfl w_7_90 ⟨by decide, by decide⟩ rfl (Nat.le_of_ble_eq_true rfl) (fun r21 σ21 τ21 h => ?_)
    refine x_if_ne X 31 dX11_neededSpeed_24 (by decide) (fun hc => ?_) (fun hc => ?_)
    · have h := h.1 hc
      refine x_iconst X dX11_neededSpeed_31 ki_0 ?_
      exact bX11_neededSpeed_32 X h
    · have h := h.2 hc
      refine x_iconst X dX11_neededSpeed_27 ki_1 ?_
      refine x_goto X (tgt := 32) dX11_neededSpeed_28 (by decide) ?_
      exact bX11_neededSpeed_32 X h
theorem dX11_setWaitNow_0 : decode cX11_setWaitNow 0 = .ok (.aload_n 0, 1) := by decide +kernel
theorem dX11_setWaitNow_1 : decode cX11_setWaitNow 1 = .ok (.invokevirtual 286, 3) := by decide +kernel
theorem dX11_setWaitNow_4 : decode cX11_setWaitNow 4 = .ok (.aload_n 0, 1) := by decide +kernel
theorem dX11_setWaitNow_5 : decode cX11_setWaitNow 5 = .ok (.iload_n 1, 1) := by decide +kernel
theorem dX11_setWaitNow_6 : decode cX11_setWaitNow 6 = .ok (.iload_n 2, 1) := by decide +kernel
theorem dX11_setWaitNow_7 : decode cX11_setWaitNow 7 = .ok (.invokevirtual 123, 3) := by decide +kernel
theorem dX11_setWaitNow_10 : decode cX11_setWaitNow 10 = .ok (.istore 4, 2) := by decide +kernel
theorem dX11_setWaitNow_12 : decode cX11_setWaitNow 12 = .ok (.aload_n 0, 1) := by decide +kernel
theorem dX11_setWaitNow_13 : decode cX11_setWaitNow 13 = .ok (.getfield 9, 3) := by decide +kernel
theorem dX11_setWaitNow_16 : decode cX11_setWaitNow 16 = .ok (.bipush 12, 2) := by decide +kernel
theorem dX11_setWaitNow_18 : decode cX11_setWaitNow 18 = .ok (.iload_n 1, 1) := by decide +kernel
theorem dX11_setWaitNow_19 : decode cX11_setWaitNow 19 = .ok (.iload_n 2, 1) := by decide +kernel
theorem dX11_setWaitNow_20 : decode cX11_setWaitNow 20 = .ok (.invokestatic 111, 3) := by decide +kernel
theorem dX11_setWaitNow_23 : decode cX11_setWaitNow 23 = .ok (.iadd, 1) := by decide +kernel
theorem dX11_setWaitNow_24 : decode cX11_setWaitNow 24 = .ok (.iload_n 3, 1) := by decide +kernel
theorem dX11_setWaitNow_25 : decode cX11_setWaitNow 25 = .ok (.iastore, 1) := by decide +kernel
theorem dX11_setWaitNow_26 : decode cX11_setWaitNow 26 = .ok (.iload 4, 2) := by decide +kernel
theorem dX11_setWaitNow_28 : decode cX11_setWaitNow 28 = .ok (.ireturn, 1) := by decide +kernel
theorem cm_X11_setWaitNow : x_CM yX11_setWaitNow cX11_setWaitNow 5 (Option.some FieldType.int) 3 := ⟨w_8_132, w_1_12, by decide +kernel, by decide +kernel⟩
theorem ci_X11_setWaitNow : x_CI yX11_setWaitNow 13 := ⟨w_8_131, wp_91, (RX11, TX11, 41), rfl, rfl⟩
set_option maxRecDepth 100000 in
set_option maxHeartbeats 4000000 in
theorem kX11_setWaitNow {ad : Nat → Nat} {a1 : Int32} {a2 : Int32} {a3 : Int32} {σ : x_S} {τ : x_L} {Q : Int32 → x_S → x_L → Prop} (h : wX11_setWaitNow a1 a2 a3 σ τ Q) : x_Met yX11_setWaitNow cX11_setWaitNow 5 (Option.some FieldType.int) 2 ad dsM [.ref (ad 0), .int a1, .int a2, .int a3] σ τ (x_PI Q) := by
  refine x_met (by decide +kernel) (Nat.le_of_ble_eq_true rfl) (fun V X => ?_)
  have X : x_Is V cX11_setWaitNow 5 RX11 (Option.some FieldType.int) ad dsM 2 (x_PI Q) := X
  show V σ τ 0 [(0, .ref (ad 0)), (1, .int a1), (2, .int a2), (3, .int a3)] []
  refine x_aload_n X dX11_setWaitNow_0 rfl 0 rfl ?_
  refine x_callVv X [] [] dX11_setWaitNow_1 (kX11_keep h) cm_X11_keep ci_X11_keep w_8_133 dsM_0 ⟨by decide, by decide⟩ rfl (Nat.le_of_ble_eq_true rfl) (fun σ1 τ1 h => ?_)
  refine x_aload_n X dX11_setWaitNow_4 rfl 0 rfl ?_
  refine x_iload_n X dX11_setWaitNow_5 rfl 1 rfl ?_
  refine x_iload_n X dX11_setWaitNow_6 rfl 2 rfl ?_
  refine x_callVi X [.int a1, .int a2] [] dX11_setWaitNow_7 (kX11_waitAt h) cm_X11_waitAt ci_X11_waitAt w_7_120 dsM_0 ⟨by decide, by decide⟩ rfl (Nat.le_of_ble_eq_true rfl) (fun r7 σ7 τ7 h => ?_)
  refine x_istore X (lv' := [(4, .int r7), (0, .ref (ad 0)), (1, .int a1), (2, .int a2), (3, .int a3)]) dX11_setWaitNow_10 (by decide) rfl ?_
  refine x_aload_n X dX11_setWaitNow_12 rfl 1 rfl ?_
  refine x_getR X (j := 1) dX11_setWaitNow_13 fl_11_9 dsM_0 rfl ?_
  refine x_bipush X dX11_setWaitNow_16 kb_12 ?_
  refine x_iload_n X dX11_setWaitNow_18 rfl 2 rfl ?_
  refine x_iload_n X dX11_setWaitNow_19 rfl 3 rfl ?_
  refine x_callSi X [.int a1, .int a2] [.int 12, .ref (ad 1)] dX11_setWaitNow_20 (kX11_spot h) cm_X11_spot w_7_118 rfl w_7_117 ⟨by decide, by decide⟩ rfl (Nat.le_of_ble_eq_true rfl) (fun r20 σ20 τ20 h => ?_)
  refine x_iadd X dX11_setWaitNow_23 ?_
  refine x_iload_n X dX11_setWaitNow_24 rfl 4 rfl ?_
  have g25 := h.1
  have h := h.2
  refine x_iast X dX11_setWaitNow_25 dsM_1 g25 ?_
  refine x_iload X dX11_setWaitNow_26 0 rfl ?_
  exact x_iret X dX11_setWaitNow_28 ⟨_, rfl, h⟩
theorem dX11_setWait_0 : decode cX11_setWait 0 = .ok (.aload_n 0, 1) := by decide +kernel
theorem dX11_setWait_1 : decode cX11_setWait 1 = .ok (.iconst 0, 1) := by decide +kernel
theorem dX11_setWait_2 : decode cX11_setWait 2 = .ok (.putfield 82, 3) := by decide +kernel
theorem dX11_setWait_5 : decode cX11_setWait 5 = .ok (.aload_n 0, 1) := by decide +kernel
theorem dX11_setWait_6 : decode cX11_setWait 6 = .ok (.aload_n 0, 1) := by decide +kernel
theorem dX11_setWait_7 : decode cX11_setWait 7 = .ok (.iload_n 1, 1) := by decide +kernel
theorem dX11_setWait_8 : decode cX11_setWait 8 = .ok (.iload_n 2, 1) := by decide +kernel
theorem dX11_setWait_9 : decode cX11_setWait 9 = .ok (.invokevirtual 245, 3) := by decide +kernel
theorem dX11_setWait_12 : decode cX11_setWait 12 = .ok (.ifCond .ne 7, 3) := by decide +kernel
theorem dX11_setWait_15 : decode cX11_setWait 15 = .ok (.iconst 1, 1) := by decide +kernel
theorem dX11_setWait_16 : decode cX11_setWait 16 = .ok (.goto 4, 3) := by decide +kernel
theorem dX11_setWait_19 : decode cX11_setWait 19 = .ok (.iconst 0, 1) := by decide +kernel
theorem dX11_setWait_20 : decode cX11_setWait 20 = .ok (.iconst 1, 1) := by decide +kernel
theorem dX11_setWait_21 : decode cX11_setWait 21 = .ok (.invokevirtual 235, 3) := by decide +kernel
theorem dX11_setWait_24 : decode cX11_setWait 24 = .ok (.ifCond .ne 28, 3) := by decide +kernel
theorem dX11_setWait_27 : decode cX11_setWait 27 = .ok (.aload_n 0, 1) := by decide +kernel
theorem dX11_setWait_28 : decode cX11_setWait 28 = .ok (.iload_n 3, 1) := by decide +kernel
theorem dX11_setWait_29 : decode cX11_setWait 29 = .ok (.i2l, 1) := by decide +kernel
theorem dX11_setWait_30 : decode cX11_setWait 30 = .ok (.lconst 0, 1) := by decide +kernel
theorem dX11_setWait_31 : decode cX11_setWait 31 = .ok (.ldc2_w 289, 3) := by decide +kernel
theorem dX11_setWait_34 : decode cX11_setWait 34 = .ok (.invokestatic 95, 3) := by decide +kernel
theorem dX11_setWait_37 : decode cX11_setWait 37 = .ok (.ifCond .ne 7, 3) := by decide +kernel
theorem dX11_setWait_40 : decode cX11_setWait 40 = .ok (.iconst 1, 1) := by decide +kernel
theorem dX11_setWait_41 : decode cX11_setWait 41 = .ok (.goto 4, 3) := by decide +kernel
theorem dX11_setWait_44 : decode cX11_setWait 44 = .ok (.iconst 0, 1) := by decide +kernel
theorem dX11_setWait_45 : decode cX11_setWait 45 = .ok (.iconst 2, 1) := by decide +kernel
theorem dX11_setWait_46 : decode cX11_setWait 46 = .ok (.invokevirtual 235, 3) := by decide +kernel
theorem dX11_setWait_49 : decode cX11_setWait 49 = .ok (.ifCond .eq 7, 3) := by decide +kernel
theorem dX11_setWait_52 : decode cX11_setWait 52 = .ok (.iconst 0, 1) := by decide +kernel
theorem dX11_setWait_53 : decode cX11_setWait 53 = .ok (.goto 10, 3) := by decide +kernel
theorem dX11_setWait_56 : decode cX11_setWait 56 = .ok (.aload_n 0, 1) := by decide +kernel
theorem dX11_setWait_57 : decode cX11_setWait 57 = .ok (.iload_n 1, 1) := by decide +kernel
theorem dX11_setWait_58 : decode cX11_setWait 58 = .ok (.iload_n 2, 1) := by decide +kernel
theorem dX11_setWait_59 : decode cX11_setWait 59 = .ok (.iload_n 3, 1) := by decide +kernel
theorem dX11_setWait_60 : decode cX11_setWait 60 = .ok (.invokevirtual 291, 3) := by decide +kernel
theorem dX11_setWait_63 : decode cX11_setWait 63 = .ok (.ireturn, 1) := by decide +kernel
theorem cm_X11_setWait : x_CM yX11_setWait cX11_setWait 4 (Option.some FieldType.int) 3 := ⟨w_8_127, w_1_12, by decide +kernel, by decide +kernel⟩
theorem ci_X11_setWait : x_CI yX11_setWait 13 := ⟨w_8_125, w_8_126, (RX11, TX11, 41), rfl, rfl⟩
set_option maxRecDepth 100000 in
set_option maxHeartbeats 4000000 in
theorem bX11_setWait_63 {V : x_J} {ad : Nat → Nat} {Q : Int32 → x_S → x_L → Prop} (X : x_Is V cX11_setWait 4 RX11 (Option.some FieldType.int) ad dsM 3 (x_PI Q)) {s0 : Int32} {σ : x_S} {τ : x_L} (h : wX11_setWait_63 Q s0 σ τ) : V σ τ 63 [] [.int s0] := by
  exact x_iret X dX11_setWait_63 ⟨_, rfl, h⟩
set_option maxRecDepth 100000 in
set_option maxHeartbeats 4000000 in
theorem bX11_setWait_52 {V : x_J} {ad : Nat → Nat} {Q : Int32 → x_S → x_L → Prop} (X : x_Is V cX11_setWait 4 RX11 (Option.some FieldType.int) ad dsM 3 (x_PI Q)) {σ : x_S} {τ : x_L} (h : wX11_setWait_52 Q σ τ) : V σ τ 52 [] [] := by
  refine x_iconst X dX11_setWait_52 ki_0 ?_
  refine x_goto X (tgt := 63) dX11_setWait_53 (by decide) ?_
  exact bX11_setWait_63 X h
set_option maxRecDepth 100000 in
set_option maxHeartbeats 4000000 in
theorem bX11_setWait_45 {V : x_J} {ad : Nat → Nat} {Q : Int32 → x_S → x_L → Prop} (X : x_Is V cX11_setWait 4 RX11 (Option.some FieldType.int) ad dsM 3 (x_PI Q)) {v1 : Int32} {v2 : Int32} {v3 : Int32} {s1 : Int32} {σ : x_S} {τ : x_L} (h : wX11_setWait_45 Q v1 v2 v3 s1 σ τ) : V σ τ 45 [(0, .ref (ad 0)), (1, .int v1), (2, .int v2), (3, .int v3)] [.int s1, .ref (ad 0)] := by
  refine x_iconst X dX11_setWait_45 ki_2 ?_
  refine x_callVi X [.int s1, .int 2] [] dX11_setWait_46 (kX11_throwsIf h) cm_X11_throwsIf ci_X11_throwsIf w_8_10 dsM_0 ⟨by decide, by decide⟩ rfl (Nat.le_of_ble_eq_true rfl) (fun r46 σ46 τ46 h => ?_)
  refine x_if_eq X 56 dX11_setWait_49 (by decide) (fun hc => ?_) (fun hc => ?_)
  · have h := h.1 hc
    refine x_aload_n X dX11_setWait_56 rfl 0 rfl ?_
    refine x_iload_n X dX11_setWait_57 rfl 1 rfl ?_
    refine x_iload_n X dX11_setWait_58 rfl 2 rfl ?_
    refine x_iload_n X dX11_setWait_59 rfl 3 rfl ?_
    refine x_callVi X [.int v1, .int v2, .int v3] [] dX11_setWait_60 (kX11_setWaitNow h) cm_X11_setWaitNow ci_X11_setWaitNow w_8_129 dsM_0 ⟨by decide, by decide⟩ rfl (Nat.le_of_ble_eq_true rfl) (fun r60 σ60 τ60 h => ?_)
    refine x_sub X [] (lv' := []) rfl ?_
    exact bX11_setWait_63 X h
  · have h := h.2 hc
    refine x_sub X [] (lv' := []) rfl ?_
    exact bX11_setWait_52 X h
set_option maxRecDepth 100000 in
set_option maxHeartbeats 4000000 in
theorem bX11_setWait_20 {V : x_J} {ad : Nat → Nat} {Q : Int32 → x_S → x_L → Prop} (X : x_Is V cX11_setWait 4 RX11 (Option.some FieldType.int) ad dsM 3 (x_PI Q)) {v1 : Int32} {v2 : Int32} {v3 : Int32} {s1 : Int32} {σ : x_S} {τ : x_L} (h : wX11_setWait_20 Q v1 v2 v3 s1 σ τ) : V σ τ 20 [(0, .ref (ad 0)), (1, .int v1), (2, .int v2), (3, .int v3)] [.int s1, .ref (ad 0)] := by
  refine x_iconst X dX11_setWait_20 ki_1 ?_
  refine x_callVi X [.int s1, .int 1] [] dX11_setWait_21 (kX11_throwsIf h) cm_X11_throwsIf ci_X11_throwsIf w_8_10 dsM_0 ⟨by decide, by decide⟩ rfl (Nat.le_of_ble_eq_true rfl) (fun r21 σ21 τ21 h => ?_)
  refine x_if_ne X 52 dX11_setWait_24 (by decide) (fun hc => ?_) (fun hc => ?_)
  · have h := h.1 hc
    refine x_sub X [] (lv' := []) rfl ?_
    exact bX11_setWait_52 X h
  · have h := h.2 hc
    refine x_aload_n X dX11_setWait_27 rfl 0 rfl ?_
    refine x_iload_n X dX11_setWait_28 rfl 3 rfl ?_
    refine x_i2l X dX11_setWait_29 ?_
    refine x_lconst X (v := 0) dX11_setWait_30 (by decide) ?_
    refine x_ldc2 X dX11_setWait_31 w_8_128 ?_
    refine x_callSi X [.long ((v3 : Int32).toInt64), .long 0, .long 120] [.ref (ad 0)] dX11_setWait_34 (kX11_inRange h) cm_X11_inRange w_7_91 rfl w_7_90 ⟨by decide, by decide⟩ rfl (Nat.le_of_ble_eq_true rfl) (fun r34 σ34 τ34 h => ?_)
    refine x_if_ne X 44 dX11_setWait_37 (by decide) (fun hc => ?_) (fun hc => ?_)
    · have h := h.1 hc
      refine x_iconst X dX11_setWait_44 ki_0 ?_
      exact bX11_setWait_45 X h
    · have h := h.2 hc
      refine x_iconst X dX11_setWait_40 ki_1 ?_
      refine x_goto X (tgt := 45) dX11_setWait_41 (by decide) ?_
      exact bX11_setWait_45 X h
set_option maxRecDepth 100000 in
set_option maxHeartbeats 4000000 in
theorem kX11_setWait {ad : Nat → Nat} {a1 : Int32} {a2 : Int32} {a3 : Int32} {σ : x_S} {τ : x_L} {Q : Int32 → x_S → x_L → Prop} (h : wX11_setWait a1 a2 a3 σ τ Q) : x_Met yX11_setWait cX11_setWait 4 (Option.some FieldType.int) 3 ad dsM [.ref (ad 0), .int a1, .int a2, .int a3] σ τ (x_PI Q) := by
  refine x_met (by decide +kernel) (Nat.le_of_ble_eq_true rfl) (fun V X => ?_)
  have X : x_Is V cX11_setWait 4 RX11 (Option.some FieldType.int) ad dsM 3 (x_PI Q) := X
  show V σ τ 0 [(0, .ref (ad 0)), (1, .int a1), (2, .int a2), (3, .int a3)] []
  refine x_aload_n X dX11_setWait_0 rfl 0 rfl ?_
  refine x_iconst X dX11_setWait_1 ki_0 ?_
  refine x_putI X dX11_setWait_2 fl_11_82 ft_11_5 dsM_0 rfl ?_
  refine x_aload_n X dX11_setWait_5 rfl 0 rfl ?_
  refine x_aload_n X dX11_setWait_6 rfl 0 rfl ?_
  refine x_iload_n X dX11_setWait_7 rfl 1 rfl ?_
  refine x_iload_n X dX11_setWait_8 rfl 2 rfl ?_
  refine x_callVi X [.int a1, .int a2] [.ref (ad 0)] dX11_setWait_9 (kX11_isPlace h) cm_X11_isPlace ci_X11_isPlace w_8_38 dsM_0 ⟨by decide, by decide⟩ rfl (Nat.le_of_ble_eq_true rfl) (fun r9 σ9 τ9 h => ?_)
  refine x_if_ne X 19 dX11_setWait_12 (by decide) (fun hc => ?_) (fun hc => ?_)
  · have h := h.1 hc
    refine x_iconst X dX11_setWait_19 ki_0 ?_
    exact bX11_setWait_20 X h
  · have h := h.2 hc
    refine x_iconst X dX11_setWait_15 ki_1 ?_
    refine x_goto X (tgt := 20) dX11_setWait_16 (by decide) ?_
    exact bX11_setWait_20 X h
theorem dX11_setSpeedNow_0 : decode cX11_setSpeedNow 0 = .ok (.aload_n 0, 1) := by decide +kernel
theorem dX11_setSpeedNow_1 : decode cX11_setSpeedNow 1 = .ok (.invokevirtual 286, 3) := by decide +kernel
theorem dX11_setSpeedNow_4 : decode cX11_setSpeedNow 4 = .ok (.aload_n 0, 1) := by decide +kernel
theorem dX11_setSpeedNow_5 : decode cX11_setSpeedNow 5 = .ok (.iload_n 1, 1) := by decide +kernel
theorem dX11_setSpeedNow_6 : decode cX11_setSpeedNow 6 = .ok (.iload_n 2, 1) := by decide +kernel
theorem dX11_setSpeedNow_7 : decode cX11_setSpeedNow 7 = .ok (.invokevirtual 120, 3) := by decide +kernel
theorem dX11_setSpeedNow_10 : decode cX11_setSpeedNow 10 = .ok (.istore 4, 2) := by decide +kernel
theorem dX11_setSpeedNow_12 : decode cX11_setSpeedNow 12 = .ok (.aload_n 0, 1) := by decide +kernel
theorem dX11_setSpeedNow_13 : decode cX11_setSpeedNow 13 = .ok (.getfield 9, 3) := by decide +kernel
theorem dX11_setSpeedNow_16 : decode cX11_setSpeedNow 16 = .ok (.sipush 132, 3) := by decide +kernel
theorem dX11_setSpeedNow_19 : decode cX11_setSpeedNow 19 = .ok (.iload_n 1, 1) := by decide +kernel
theorem dX11_setSpeedNow_20 : decode cX11_setSpeedNow 20 = .ok (.iload_n 2, 1) := by decide +kernel
theorem dX11_setSpeedNow_21 : decode cX11_setSpeedNow 21 = .ok (.invokestatic 111, 3) := by decide +kernel
theorem dX11_setSpeedNow_24 : decode cX11_setSpeedNow 24 = .ok (.iadd, 1) := by decide +kernel
theorem dX11_setSpeedNow_25 : decode cX11_setSpeedNow 25 = .ok (.iload_n 3, 1) := by decide +kernel
theorem dX11_setSpeedNow_26 : decode cX11_setSpeedNow 26 = .ok (.iastore, 1) := by decide +kernel
theorem dX11_setSpeedNow_27 : decode cX11_setSpeedNow 27 = .ok (.iload 4, 2) := by decide +kernel
theorem dX11_setSpeedNow_29 : decode cX11_setSpeedNow 29 = .ok (.ireturn, 1) := by decide +kernel
theorem cm_X11_setSpeedNow : x_CM yX11_setSpeedNow cX11_setSpeedNow 5 (Option.some FieldType.int) 3 := ⟨w_8_145, w_1_12, by decide +kernel, by decide +kernel⟩
theorem ci_X11_setSpeedNow : x_CI yX11_setSpeedNow 13 := ⟨w_8_144, wp_93, (RX11, TX11, 41), rfl, rfl⟩
set_option maxRecDepth 100000 in
set_option maxHeartbeats 4000000 in
theorem kX11_setSpeedNow {ad : Nat → Nat} {a1 : Int32} {a2 : Int32} {a3 : Int32} {σ : x_S} {τ : x_L} {Q : Int32 → x_S → x_L → Prop} (h : wX11_setSpeedNow a1 a2 a3 σ τ Q) : x_Met yX11_setSpeedNow cX11_setSpeedNow 5 (Option.some FieldType.int) 2 ad dsM [.ref (ad 0), .int a1, .int a2, .int a3] σ τ (x_PI Q) := by
  refine x_met (by decide +kernel) (Nat.le_of_ble_eq_true rfl) (fun V X => ?_)
  have X : x_Is V cX11_setSpeedNow 5 RX11 (Option.some FieldType.int) ad dsM 2 (x_PI Q) := X
  show V σ τ 0 [(0, .ref (ad 0)), (1, .int a1), (2, .int a2), (3, .int a3)] []
  refine x_aload_n X dX11_setSpeedNow_0 rfl 0 rfl ?_
  refine x_callVv X [] [] dX11_setSpeedNow_1 (kX11_keep h) cm_X11_keep ci_X11_keep w_8_133 dsM_0 ⟨by decide, by decide⟩ rfl (Nat.le_of_ble_eq_true rfl) (fun σ1 τ1 h => ?_)
  refine x_aload_n X dX11_setSpeedNow_4 rfl 0 rfl ?_
  refine x_iload_n X dX11_setSpeedNow_5 rfl 1 rfl ?_
  refine x_iload_n X dX11_setSpeedNow_6 rfl 2 rfl ?_
  refine x_callVi X [.int a1, .int a2] [] dX11_setSpeedNow_7 (kX11_speedAt h) cm_X11_speedAt ci_X11_speedAt w_7_128 dsM_0 ⟨by decide, by decide⟩ rfl (Nat.le_of_ble_eq_true rfl) (fun r7 σ7 τ7 h => ?_)
  refine x_istore X (lv' := [(4, .int r7), (0, .ref (ad 0)), (1, .int a1), (2, .int a2), (3, .int a3)]) dX11_setSpeedNow_10 (by decide) rfl ?_
  refine x_aload_n X dX11_setSpeedNow_12 rfl 1 rfl ?_
  refine x_getR X (j := 1) dX11_setSpeedNow_13 fl_11_9 dsM_0 rfl ?_
  refine x_sipush X dX11_setSpeedNow_16 ks_132 ?_
  refine x_iload_n X dX11_setSpeedNow_19 rfl 2 rfl ?_
  refine x_iload_n X dX11_setSpeedNow_20 rfl 3 rfl ?_
  refine x_callSi X [.int a1, .int a2] [.int 132, .ref (ad 1)] dX11_setSpeedNow_21 (kX11_spot h) cm_X11_spot w_7_118 rfl w_7_117 ⟨by decide, by decide⟩ rfl (Nat.le_of_ble_eq_true rfl) (fun r21 σ21 τ21 h => ?_)
  refine x_iadd X dX11_setSpeedNow_24 ?_
  refine x_iload_n X dX11_setSpeedNow_25 rfl 4 rfl ?_
  have g26 := h.1
  have h := h.2
  refine x_iast X dX11_setSpeedNow_26 dsM_1 g26 ?_
  refine x_iload X dX11_setSpeedNow_27 0 rfl ?_
  exact x_iret X dX11_setSpeedNow_29 ⟨_, rfl, h⟩
theorem dX11_setSpeed_0 : decode cX11_setSpeed 0 = .ok (.aload_n 0, 1) := by decide +kernel
theorem dX11_setSpeed_1 : decode cX11_setSpeed 1 = .ok (.iconst 0, 1) := by decide +kernel
theorem dX11_setSpeed_2 : decode cX11_setSpeed 2 = .ok (.putfield 82, 3) := by decide +kernel
theorem dX11_setSpeed_5 : decode cX11_setSpeed 5 = .ok (.aload_n 0, 1) := by decide +kernel
theorem dX11_setSpeed_6 : decode cX11_setSpeed 6 = .ok (.aload_n 0, 1) := by decide +kernel
theorem dX11_setSpeed_7 : decode cX11_setSpeed 7 = .ok (.iload_n 1, 1) := by decide +kernel
theorem dX11_setSpeed_8 : decode cX11_setSpeed 8 = .ok (.iload_n 2, 1) := by decide +kernel
theorem dX11_setSpeed_9 : decode cX11_setSpeed 9 = .ok (.invokevirtual 245, 3) := by decide +kernel
theorem dX11_setSpeed_12 : decode cX11_setSpeed 12 = .ok (.ifCond .ne 7, 3) := by decide +kernel
theorem dX11_setSpeed_15 : decode cX11_setSpeed 15 = .ok (.iconst 1, 1) := by decide +kernel
theorem dX11_setSpeed_16 : decode cX11_setSpeed 16 = .ok (.goto 4, 3) := by decide +kernel
theorem dX11_setSpeed_19 : decode cX11_setSpeed 19 = .ok (.iconst 0, 1) := by decide +kernel
theorem dX11_setSpeed_20 : decode cX11_setSpeed 20 = .ok (.iconst 1, 1) := by decide +kernel
theorem dX11_setSpeed_21 : decode cX11_setSpeed 21 = .ok (.invokevirtual 235, 3) := by decide +kernel
theorem dX11_setSpeed_24 : decode cX11_setSpeed 24 = .ok (.ifCond .ne 34, 3) := by decide +kernel
theorem dX11_setSpeed_27 : decode cX11_setSpeed 27 = .ok (.aload_n 0, 1) := by decide +kernel
theorem dX11_setSpeed_28 : decode cX11_setSpeed 28 = .ok (.iload_n 3, 1) := by decide +kernel
theorem dX11_setSpeed_29 : decode cX11_setSpeed 29 = .ok (.i2l, 1) := by decide +kernel
theorem dX11_setSpeed_30 : decode cX11_setSpeed 30 = .ok (.ldc2_w 294, 3) := by decide +kernel
theorem dX11_setSpeed_33 : decode cX11_setSpeed 33 = .ok (.aload_n 0, 1) := by decide +kernel
theorem dX11_setSpeed_34 : decode cX11_setSpeed 34 = .ok (.iload_n 1, 1) := by decide +kernel
theorem dX11_setSpeed_35 : decode cX11_setSpeed 35 = .ok (.iload_n 2, 1) := by decide +kernel
theorem dX11_setSpeed_36 : decode cX11_setSpeed 36 = .ok (.invokevirtual 283, 3) := by decide +kernel
theorem dX11_setSpeed_39 : decode cX11_setSpeed 39 = .ok (.i2l, 1) := by decide +kernel
theorem dX11_setSpeed_40 : decode cX11_setSpeed 40 = .ok (.invokestatic 95, 3) := by decide +kernel
theorem dX11_setSpeed_43 : decode cX11_setSpeed 43 = .ok (.ifCond .ne 7, 3) := by decide +kernel
theorem dX11_setSpeed_46 : decode cX11_setSpeed 46 = .ok (.iconst 1, 1) := by decide +kernel
theorem dX11_setSpeed_47 : decode cX11_setSpeed 47 = .ok (.goto 4, 3) := by decide +kernel
theorem dX11_setSpeed_50 : decode cX11_setSpeed 50 = .ok (.iconst 0, 1) := by decide +kernel
theorem dX11_setSpeed_51 : decode cX11_setSpeed 51 = .ok (.iconst 2, 1) := by decide +kernel
theorem dX11_setSpeed_52 : decode cX11_setSpeed 52 = .ok (.invokevirtual 235, 3) := by decide +kernel
theorem dX11_setSpeed_55 : decode cX11_setSpeed 55 = .ok (.ifCond .eq 7, 3) := by decide +kernel
theorem dX11_setSpeed_58 : decode cX11_setSpeed 58 = .ok (.iconst 0, 1) := by decide +kernel
theorem dX11_setSpeed_59 : decode cX11_setSpeed 59 = .ok (.goto 10, 3) := by decide +kernel
theorem dX11_setSpeed_62 : decode cX11_setSpeed 62 = .ok (.aload_n 0, 1) := by decide +kernel
theorem dX11_setSpeed_63 : decode cX11_setSpeed 63 = .ok (.iload_n 1, 1) := by decide +kernel
theorem dX11_setSpeed_64 : decode cX11_setSpeed 64 = .ok (.iload_n 2, 1) := by decide +kernel
theorem dX11_setSpeed_65 : decode cX11_setSpeed 65 = .ok (.iload_n 3, 1) := by decide +kernel
theorem dX11_setSpeed_66 : decode cX11_setSpeed 66 = .ok (.invokevirtual 296, 3) := by decide +kernel
theorem dX11_setSpeed_69 : decode cX11_setSpeed 69 = .ok (.ireturn, 1) := by decide +kernel
theorem cm_X11_setSpeed : x_CM yX11_setSpeed cX11_setSpeed 4 (Option.some FieldType.int) 3 := ⟨w_8_140, w_1_12, by decide +kernel, by decide +kernel⟩
theorem ci_X11_setSpeed : x_CI yX11_setSpeed 13 := ⟨w_8_138, w_8_139, (RX11, TX11, 41), rfl, rfl⟩
set_option maxRecDepth 100000 in
set_option maxHeartbeats 4000000 in
theorem bX11_setSpeed_69 {V : x_J} {ad : Nat → Nat} {Q : Int32 → x_S → x_L → Prop} (X : x_Is V cX11_setSpeed 4 RX11 (Option.some FieldType.int) ad dsM 3 (x_PI Q)) {s0 : Int32} {σ : x_S} {τ : x_L} (h : wX11_setSpeed_69 Q s0 σ τ) : V σ τ 69 [] [.int s0] := by
  exact x_iret X dX11_setSpeed_69 ⟨_, rfl, h⟩
set_option maxRecDepth 100000 in
set_option maxHeartbeats 4000000 in
theorem bX11_setSpeed_58 {V : x_J} {ad : Nat → Nat} {Q : Int32 → x_S → x_L → Prop} (X : x_Is V cX11_setSpeed 4 RX11 (Option.some FieldType.int) ad dsM 3 (x_PI Q)) {σ : x_S} {τ : x_L} (h : wX11_setSpeed_58 Q σ τ) : V σ τ 58 [] [] := by
  refine x_iconst X dX11_setSpeed_58 ki_0 ?_
  refine x_goto X (tgt := 69) dX11_setSpeed_59 (by decide) ?_
  exact bX11_setSpeed_69 X h
set_option maxRecDepth 100000 in
set_option maxHeartbeats 4000000 in
theorem bX11_setSpeed_51 {V : x_J} {ad : Nat → Nat} {Q : Int32 → x_S → x_L → Prop} (X : x_Is V cX11_setSpeed 4 RX11 (Option.some FieldType.int) ad dsM 3 (x_PI Q)) {v1 : Int32} {v2 : Int32} {v3 : Int32} {s1 : Int32} {σ : x_S} {τ : x_L} (h : wX11_setSpeed_51 Q v1 v2 v3 s1 σ τ) : V σ τ 51 [(0, .ref (ad 0)), (1, .int v1), (2, .int v2), (3, .int v3)] [.int s1, .ref (ad 0)] := by
  refine x_iconst X dX11_setSpeed_51 ki_2 ?_
  refine x_callVi X [.int s1, .int 2] [] dX11_setSpeed_52 (kX11_throwsIf h) cm_X11_throwsIf ci_X11_throwsIf w_8_10 dsM_0 ⟨by decide, by decide⟩ rfl (Nat.le_of_ble_eq_true rfl) (fun r52 σ52 τ52 h => ?_)
  refine x_if_eq X 62 dX11_setSpeed_55 (by decide) (fun hc => ?_) (fun hc => ?_)
  · have h := h.1 hc
    refine x_aload_n X dX11_setSpeed_62 rfl 0 rfl ?_
    refine x_iload_n X dX11_setSpeed_63 rfl 1 rfl ?_
    refine x_iload_n X dX11_setSpeed_64 rfl 2 rfl ?_
    refine x_iload_n X dX11_setSpeed_65 rfl 3 rfl ?_
    refine x_callVi X [.int v1, .int v2, .int v3] [] dX11_setSpeed_66 (kX11_setSpeedNow h) cm_X11_setSpeedNow ci_X11_setSpeedNow w_8_142 dsM_0 ⟨by decide, by decide⟩ rfl (Nat.le_of_ble_eq_true rfl) (fun r66 σ66 τ66 h => ?_)
    refine x_sub X [] (lv' := []) rfl ?_
    exact bX11_setSpeed_69 X h
  · have h := h.2 hc
    refine x_sub X [] (lv' := []) rfl ?_
    exact bX11_setSpeed_58 X h
set_option maxRecDepth 100000 in
set_option maxHeartbeats 4000000 in
theorem bX11_setSpeed_20 {V : x_J} {ad : Nat → Nat} {Q : Int32 → x_S → x_L → Prop} (X : x_Is V cX11_setSpeed 4 RX11 (Option.some FieldType.int) ad dsM 3 (x_PI Q)) {v1 : Int32} {v2 : Int32} {v3 : Int32} {s1 : Int32} {σ : x_S} {τ : x_L} (h : wX11_setSpeed_20 Q v1 v2 v3 s1 σ τ) : V σ τ 20 [(0, .ref (ad 0)), (1, .int v1), (2, .int v2), (3, .int v3)] [.int s1, .ref (ad 0)] := by
  refine x_iconst X dX11_setSpeed_20 ki_1 ?_
  refine x_callVi X [.int s1, .int 1] [] dX11_setSpeed_21 (kX11_throwsIf h) cm_X11_throwsIf ci_X11_throwsIf w_8_10 dsM_0 ⟨by decide, by decide⟩ rfl (Nat.le_of_ble_eq_true rfl) (fun r21 σ21 τ21 h => ?_)
  refine x_if_ne X 58 dX11_setSpeed_24 (by decide) (fun hc => ?_) (fun hc => ?_)
  · have h := h.1 hc
    refine x_sub X [] (lv' := []) rfl ?_
    exact bX11_setSpeed_58 X h
  · have h := h.2 hc
    refine x_aload_n X dX11_setSpeed_27 rfl 0 rfl ?_
    refine x_iload_n X dX11_setSpeed_28 rfl 3 rfl ?_
    refine x_i2l X dX11_setSpeed_29 ?_
    refine x_ldc2 X dX11_setSpeed_30 w_8_141 ?_
    refine x_aload_n X dX11_setSpeed_33 rfl 0 rfl ?_
    refine x_iload_n X dX11_setSpeed_34 rfl 1 rfl ?_
    refine x_iload_n X dX11_setSpeed_35 rfl 2 rfl ?_
    refine x_callVi X [.int v1, .int v2] [.long 40, .long ((v3 : Int32).toInt64), .ref (ad 0)] dX11_setSpeed_36 (kX11_limitAt h) cm_X11_limitAt ci_X11_limitAt w_8_120 dsM_0 ⟨by decide, by decide⟩ rfl (Nat.le_of_ble_eq_true rfl) (fun r36 σ36 τ36 h => ?_)
    refine x_i2l X dX11_setSpeed_39 ?_
    refine x_callSi X [.long ((v3 : Int32).toInt64), .long 40, .long ((r36 : Int32).toInt64)] [.ref (ad 0)] dX11_setSpeed_40 (kX11_inRange h) cm_X11_inRange w_7_91 rfl w_7_90 ⟨by decide, by decide⟩ rfl (Nat.le_of_ble_eq_true rfl) (fun r40 σ40 τ40 h => ?_)
    refine x_if_ne X 50 dX11_setSpeed_43 (by decide) (fun hc => ?_) (fun hc => ?_)
    · have h := h.1 hc
      refine x_iconst X dX11_setSpeed_50 ki_0 ?_
      exact bX11_setSpeed_51 X h
    · have h := h.2 hc
      refine x_iconst X dX11_setSpeed_46 ki_1 ?_
      refine x_goto X (tgt := 51) dX11_setSpeed_47 (by decide) ?_
      exact bX11_setSpeed_51 X h
set_option maxRecDepth 100000 in
set_option maxHeartbeats 4000000 in
theorem kX11_setSpeed {ad : Nat → Nat} {a1 : Int32} {a2 : Int32} {a3 : Int32} {σ : x_S} {τ : x_L} {Q : Int32 → x_S → x_L → Prop} (h : wX11_setSpeed a1 a2 a3 σ τ Q) : x_Met yX11_setSpeed cX11_setSpeed 4 (Option.some FieldType.int) 3 ad dsM [.ref (ad 0), .int a1, .int a2, .int a3] σ τ (x_PI Q) := by
  refine x_met (by decide +kernel) (Nat.le_of_ble_eq_true rfl) (fun V X => ?_)
  have X : x_Is V cX11_setSpeed 4 RX11 (Option.some FieldType.int) ad dsM 3 (x_PI Q) := X
  show V σ τ 0 [(0, .ref (ad 0)), (1, .int a1), (2, .int a2), (3, .int a3)] []
  refine x_aload_n X dX11_setSpeed_0 rfl 0 rfl ?_
  refine x_iconst X dX11_setSpeed_1 ki_0 ?_
  refine x_putI X dX11_setSpeed_2 fl_11_82 ft_11_5 dsM_0 rfl ?_
  refine x_aload_n X dX11_setSpeed_5 rfl 0 rfl ?_
  refine x_aload_n X dX11_setSpeed_6 rfl 0 rfl ?_
  refine x_iload_n X dX11_setSpeed_7 rfl 1 rfl ?_
  refine x_iload_n X dX11_setSpeed_8 rfl 2 rfl ?_
  refine x_callVi X [.int a1, .int a2] [.ref (ad 0)] dX11_setSpeed_9 (kX11_isPlace h) cm_X11_isPlace ci_X11_isPlace w_8_38 dsM_0 ⟨by decide, by decide⟩ rfl (Nat.le_of_ble_eq_true rfl) (fun r9 σ9 τ9 h => ?_)
  refine x_if_ne X 19 dX11_setSpeed_12 (by decide) (fun hc => ?_) (fun hc => ?_)
  · have h := h.1 hc
    refine x_iconst X dX11_setSpeed_19 ki_0 ?_
    exact bX11_setSpeed_20 X h
  · have h := h.2 hc
    refine x_iconst X dX11_setSpeed_15 ki_1 ?_
    refine x_goto X (tgt := 20) dX11_setSpeed_16 (by decide) ?_
    exact bX11_setSpeed_20 X h
theorem dX11_setStartNow_0 : decode cX11_setStartNow 0 = .ok (.aload_n 0, 1) := by decide +kernel
theorem dX11_setStartNow_1 : decode cX11_setStartNow 1 = .ok (.invokevirtual 286, 3) := by decide +kernel
theorem dX11_setStartNow_4 : decode cX11_setStartNow 4 = .ok (.aload_n 0, 1) := by decide +kernel
theorem dX11_setStartNow_5 : decode cX11_setStartNow 5 = .ok (.getfield 9, 3) := by decide +kernel
theorem dX11_setStartNow_8 : decode cX11_setStartNow 8 = .ok (.iload_n 1, 1) := by decide +kernel
theorem dX11_setStartNow_9 : decode cX11_setStartNow 9 = .ok (.iaload, 1) := by decide +kernel
theorem dX11_setStartNow_10 : decode cX11_setStartNow 10 = .ok (.istore_n 3, 1) := by decide +kernel
theorem dX11_setStartNow_11 : decode cX11_setStartNow 11 = .ok (.aload_n 0, 1) := by decide +kernel
theorem dX11_setStartNow_12 : decode cX11_setStartNow 12 = .ok (.getfield 9, 3) := by decide +kernel
theorem dX11_setStartNow_15 : decode cX11_setStartNow 15 = .ok (.iload_n 1, 1) := by decide +kernel
theorem dX11_setStartNow_16 : decode cX11_setStartNow 16 = .ok (.iload_n 2, 1) := by decide +kernel
theorem dX11_setStartNow_17 : decode cX11_setStartNow 17 = .ok (.iastore, 1) := by decide +kernel
theorem dX11_setStartNow_18 : decode cX11_setStartNow 18 = .ok (.iload_n 3, 1) := by decide +kernel
theorem dX11_setStartNow_19 : decode cX11_setStartNow 19 = .ok (.ireturn, 1) := by decide +kernel
theorem cm_X11_setStartNow : x_CM yX11_setStartNow cX11_setStartNow 4 (Option.some FieldType.int) 2 := ⟨w_8_154, w_1_12, by decide +kernel, by decide +kernel⟩
theorem ci_X11_setStartNow : x_CI yX11_setStartNow 13 := ⟨w_8_153, wp_94, (RX11, TX11, 41), rfl, rfl⟩
set_option maxRecDepth 100000 in
set_option maxHeartbeats 4000000 in
theorem kX11_setStartNow {ad : Nat → Nat} {a1 : Int32} {a2 : Int32} {σ : x_S} {τ : x_L} {Q : Int32 → x_S → x_L → Prop} (h : wX11_setStartNow a1 a2 σ τ Q) : x_Met yX11_setStartNow cX11_setStartNow 4 (Option.some FieldType.int) 2 ad dsM [.ref (ad 0), .int a1, .int a2] σ τ (x_PI Q) := by
  refine x_met (by decide +kernel) (Nat.le_of_ble_eq_true rfl) (fun V X => ?_)
  have X : x_Is V cX11_setStartNow 4 RX11 (Option.some FieldType.int) ad dsM 2 (x_PI Q) := X
  show V σ τ 0 [(0, .ref (ad 0)), (1, .int a1), (2, .int a2)] []
  refine x_aload_n X dX11_setStartNow_0 rfl 0 rfl ?_
  refine x_callVv X [] [] dX11_setStartNow_1 (kX11_keep h) cm_X11_keep ci_X11_keep w_8_133 dsM_0 ⟨by decide, by decide⟩ rfl (Nat.le_of_ble_eq_true rfl) (fun σ1 τ1 h => ?_)
  refine x_aload_n X dX11_setStartNow_4 rfl 0 rfl ?_
  refine x_getR X (j := 1) dX11_setStartNow_5 fl_11_9 dsM_0 rfl ?_
  refine x_iload_n X dX11_setStartNow_8 rfl 1 rfl ?_
  have g9 := h.1
  have h := h.2
  refine x_iald X dX11_setStartNow_9 dsM_1 g9 ?_
  refine x_istore_n X (lv' := [(3, .int (σ1 1 a1.toNatClampNeg)), (0, .ref (ad 0)), (1, .int a1), (2, .int a2)]) dX11_setStartNow_10 rfl (by decide) rfl ?_
  refine x_aload_n X dX11_setStartNow_11 rfl 1 rfl ?_
  refine x_getR X (j := 1) dX11_setStartNow_12 fl_11_9 dsM_0 rfl ?_
  refine x_iload_n X dX11_setStartNow_15 rfl 2 rfl ?_
  refine x_iload_n X dX11_setStartNow_16 rfl 3 rfl ?_
  refine x_iast X dX11_setStartNow_17 dsM_1 g9 ?_
  refine x_iload_n X dX11_setStartNow_18 rfl 0 rfl ?_
  exact x_iret X dX11_setStartNow_19 ⟨_, rfl, h⟩
theorem dX11_setStart_0 : decode cX11_setStart 0 = .ok (.aload_n 0, 1) := by decide +kernel
theorem dX11_setStart_1 : decode cX11_setStart 1 = .ok (.iconst 0, 1) := by decide +kernel
theorem dX11_setStart_2 : decode cX11_setStart 2 = .ok (.putfield 82, 3) := by decide +kernel
theorem dX11_setStart_5 : decode cX11_setStart 5 = .ok (.aload_n 0, 1) := by decide +kernel
theorem dX11_setStart_6 : decode cX11_setStart 6 = .ok (.aload_n 0, 1) := by decide +kernel
theorem dX11_setStart_7 : decode cX11_setStart 7 = .ok (.iload_n 1, 1) := by decide +kernel
theorem dX11_setStart_8 : decode cX11_setStart 8 = .ok (.invokevirtual 103, 3) := by decide +kernel
theorem dX11_setStart_11 : decode cX11_setStart 11 = .ok (.ifCond .ne 7, 3) := by decide +kernel
theorem dX11_setStart_14 : decode cX11_setStart 14 = .ok (.iconst 1, 1) := by decide +kernel
theorem dX11_setStart_15 : decode cX11_setStart 15 = .ok (.goto 4, 3) := by decide +kernel
theorem dX11_setStart_18 : decode cX11_setStart 18 = .ok (.iconst 0, 1) := by decide +kernel
theorem dX11_setStart_19 : decode cX11_setStart 19 = .ok (.iconst 1, 1) := by decide +kernel
theorem dX11_setStart_20 : decode cX11_setStart 20 = .ok (.invokevirtual 235, 3) := by decide +kernel
theorem dX11_setStart_23 : decode cX11_setStart 23 = .ok (.ifCond .ne 28, 3) := by decide +kernel
theorem dX11_setStart_26 : decode cX11_setStart 26 = .ok (.aload_n 0, 1) := by decide +kernel
theorem dX11_setStart_27 : decode cX11_setStart 27 = .ok (.iload_n 2, 1) := by decide +kernel
theorem dX11_setStart_28 : decode cX11_setStart 28 = .ok (.i2l, 1) := by decide +kernel
theorem dX11_setStart_29 : decode cX11_setStart 29 = .ok (.lconst 0, 1) := by decide +kernel
theorem dX11_setStart_30 : decode cX11_setStart 30 = .ok (.ldc2_w 299, 3) := by decide +kernel
theorem dX11_setStart_33 : decode cX11_setStart 33 = .ok (.invokestatic 95, 3) := by decide +kernel
theorem dX11_setStart_36 : decode cX11_setStart 36 = .ok (.ifCond .ne 7, 3) := by decide +kernel
theorem dX11_setStart_39 : decode cX11_setStart 39 = .ok (.iconst 1, 1) := by decide +kernel
theorem dX11_setStart_40 : decode cX11_setStart 40 = .ok (.goto 4, 3) := by decide +kernel
theorem dX11_setStart_43 : decode cX11_setStart 43 = .ok (.iconst 0, 1) := by decide +kernel
theorem dX11_setStart_44 : decode cX11_setStart 44 = .ok (.iconst 2, 1) := by decide +kernel
theorem dX11_setStart_45 : decode cX11_setStart 45 = .ok (.invokevirtual 235, 3) := by decide +kernel
theorem dX11_setStart_48 : decode cX11_setStart 48 = .ok (.ifCond .eq 7, 3) := by decide +kernel
theorem dX11_setStart_51 : decode cX11_setStart 51 = .ok (.iconst 0, 1) := by decide +kernel
theorem dX11_setStart_52 : decode cX11_setStart 52 = .ok (.goto 9, 3) := by decide +kernel
theorem dX11_setStart_55 : decode cX11_setStart 55 = .ok (.aload_n 0, 1) := by decide +kernel
theorem dX11_setStart_56 : decode cX11_setStart 56 = .ok (.iload_n 1, 1) := by decide +kernel
theorem dX11_setStart_57 : decode cX11_setStart 57 = .ok (.iload_n 2, 1) := by decide +kernel
theorem dX11_setStart_58 : decode cX11_setStart 58 = .ok (.invokevirtual 301, 3) := by decide +kernel
theorem dX11_setStart_61 : decode cX11_setStart 61 = .ok (.ireturn, 1) := by decide +kernel
theorem cm_X11_setStart : x_CM yX11_setStart cX11_setStart 3 (Option.some FieldType.int) 2 := ⟨w_8_149, w_1_12, by decide +kernel, by decide +kernel⟩
theorem ci_X11_setStart : x_CI yX11_setStart 13 := ⟨w_8_147, w_8_148, (RX11, TX11, 41), rfl, rfl⟩
set_option maxRecDepth 100000 in
set_option maxHeartbeats 4000000 in
theorem bX11_setStart_61 {V : x_J} {ad : Nat → Nat} {Q : Int32 → x_S → x_L → Prop} (X : x_Is V cX11_setStart 3 RX11 (Option.some FieldType.int) ad dsM 3 (x_PI Q)) {s0 : Int32} {σ : x_S} {τ : x_L} (h : wX11_setStart_61 Q s0 σ τ) : V σ τ 61 [] [.int s0] := by
  exact x_iret X dX11_setStart_61 ⟨_, rfl, h⟩
set_option maxRecDepth 100000 in
set_option maxHeartbeats 4000000 in
theorem bX11_setStart_51 {V : x_J} {ad : Nat → Nat} {Q : Int32 → x_S → x_L → Prop} (X : x_Is V cX11_setStart 3 RX11 (Option.some FieldType.int) ad dsM 3 (x_PI Q)) {σ : x_S} {τ : x_L} (h : wX11_setStart_51 Q σ τ) : V σ τ 51 [] [] := by
  refine x_iconst X dX11_setStart_51 ki_0 ?_
  refine x_goto X (tgt := 61) dX11_setStart_52 (by decide) ?_
  exact bX11_setStart_61 X h
set_option maxRecDepth 100000 in
set_option maxHeartbeats 4000000 in
theorem bX11_setStart_44 {V : x_J} {ad : Nat → Nat} {Q : Int32 → x_S → x_L → Prop} (X : x_Is V cX11_setStart 3 RX11 (Option.some FieldType.int) ad dsM 3 (x_PI Q)) {v1 : Int32} {v2 : Int32} {s1 : Int32} {σ : x_S} {τ : x_L} (h : wX11_setStart_44 Q v1 v2 s1 σ τ) : V σ τ 44 [(0, .ref (ad 0)), (1, .int v1), (2, .int v2)] [.int s1, .ref (ad 0)] := by
  refine x_iconst X dX11_setStart_44 ki_2 ?_
  refine x_callVi X [.int s1, .int 2] [] dX11_setStart_45 (kX11_throwsIf h) cm_X11_throwsIf ci_X11_throwsIf w_8_10 dsM_0 ⟨by decide, by decide⟩ rfl (Nat.le_of_ble_eq_true rfl) (fun r45 σ45 τ45 h => ?_)
  refine x_if_eq X 55 dX11_setStart_48 (by decide) (fun hc => ?_) (fun hc => ?_)
  · have h := h.1 hc
    refine x_aload_n X dX11_setStart_55 rfl 0 rfl ?_
    refine x_iload_n X dX11_setStart_56 rfl 1 rfl ?_
    refine x_iload_n X dX11_setStart_57 rfl 2 rfl ?_
    refine x_callVi X [.int v1, .int v2] [] dX11_setStart_58 (kX11_setStartNow h) cm_X11_setStartNow ci_X11_setStartNow w_8_151 dsM_0 ⟨by decide, by decide⟩ rfl (Nat.le_of_ble_eq_true rfl) (fun r58 σ58 τ58 h => ?_)
    refine x_sub X [] (lv' := []) rfl ?_
    exact bX11_setStart_61 X h
  · have h := h.2 hc
    refine x_sub X [] (lv' := []) rfl ?_
    exact bX11_setStart_51 X h
set_option maxRecDepth 100000 in
set_option maxHeartbeats 4000000 in
theorem bX11_setStart_19 {V : x_J} {ad : Nat → Nat} {Q : Int32 → x_S → x_L → Prop} (X : x_Is V cX11_setStart 3 RX11 (Option.some FieldType.int) ad dsM 3 (x_PI Q)) {v1 : Int32} {v2 : Int32} {s1 : Int32} {σ : x_S} {τ : x_L} (h : wX11_setStart_19 Q v1 v2 s1 σ τ) : V σ τ 19 [(0, .ref (ad 0)), (1, .int v1), (2, .int v2)] [.int s1, .ref (ad 0)] := by
  refine x_iconst X dX11_setStart_19 ki_1 ?_
  refine x_callVi X [.int s1, .int 1] [] dX11_setStart_20 (kX11_throwsIf h) cm_X11_throwsIf ci_X11_throwsIf w_8_10 dsM_0 ⟨by decide, by decide⟩ rfl (Nat.le_of_ble_eq_true rfl) (fun r20 σ20 τ20 h => ?_)
  refine x_if_ne X 51 dX11_setStart_23 (by decide) (fun hc => ?_) (fun hc => ?_)
  · have h := h.1 hc
    refine x_sub X [] (lv' := []) rfl ?_
    exact bX11_setStart_51 X h
  · have h := h.2 hc
    refine x_aload_n X dX11_setStart_26 rfl 0 rfl ?_
    refine x_iload_n X dX11_setStart_27 rfl 2 rfl ?_
    refine x_i2l X dX11_setStart_28 ?_
    refine x_lconst X (v := 0) dX11_setStart_29 (by decide) ?_
    refine x_ldc2 X dX11_setStart_30 w_8_150 ?_
    refine x_callSi X [.long ((v2 : Int32).toInt64), .long 0, .long 2000] [.ref (ad 0)] dX11_setStart_33 (kX11_inRange h) cm_X11_inRange w_7_91 rfl w_7_90 ⟨by decide, by decide⟩ rfl (Nat.le_of_ble_eq_true rfl) (fun r33 σ33 τ33 h => ?_)
    refine x_if_ne X 43 dX11_setStart_36 (by decide) (fun hc => ?_) (fun hc => ?_)
    · have h := h.1 hc
      refine x_iconst X dX11_setStart_43 ki_0 ?_
      exact bX11_setStart_44 X h
    · have h := h.2 hc
      refine x_iconst X dX11_setStart_39 ki_1 ?_
      refine x_goto X (tgt := 44) dX11_setStart_40 (by decide) ?_
      exact bX11_setStart_44 X h
set_option maxRecDepth 100000 in
set_option maxHeartbeats 4000000 in
theorem kX11_setStart {ad : Nat → Nat} {a1 : Int32} {a2 : Int32} {σ : x_S} {τ : x_L} {Q : Int32 → x_S → x_L → Prop} (h : wX11_setStart a1 a2 σ τ Q) : x_Met yX11_setStart cX11_setStart 3 (Option.some FieldType.int) 3 ad dsM [.ref (ad 0), .int a1, .int a2] σ τ (x_PI Q) := by
  refine x_met (by decide +kernel) (Nat.le_of_ble_eq_true rfl) (fun V X => ?_)
  have X : x_Is V cX11_setStart 3 RX11 (Option.some FieldType.int) ad dsM 3 (x_PI Q) := X
  show V σ τ 0 [(0, .ref (ad 0)), (1, .int a1), (2, .int a2)] []
  refine x_aload_n X dX11_setStart_0 rfl 0 rfl ?_
  refine x_iconst X dX11_setStart_1 ki_0 ?_
  refine x_putI X dX11_setStart_2 fl_11_82 ft_11_5 dsM_0 rfl ?_
  refine x_aload_n X dX11_setStart_5 rfl 0 rfl ?_
  refine x_aload_n X dX11_setStart_6 rfl 0 rfl ?_
  refine x_iload_n X dX11_setStart_7 rfl 1 rfl ?_
  refine x_callVi X [.int a1] [.ref (ad 0)] dX11_setStart_8 (kX11_isTruck h) cm_X11_isTruck ci_X11_isTruck w_8_26 dsM_0 ⟨by decide, by decide⟩ rfl (Nat.le_of_ble_eq_true rfl) (fun r8 σ8 τ8 h => ?_)
  refine x_if_ne X 18 dX11_setStart_11 (by decide) (fun hc => ?_) (fun hc => ?_)
  · have h := h.1 hc
    refine x_iconst X dX11_setStart_18 ki_0 ?_
    exact bX11_setStart_19 X h
  · have h := h.2 hc
    refine x_iconst X dX11_setStart_14 ki_1 ?_
    refine x_goto X (tgt := 19) dX11_setStart_15 (by decide) ?_
    exact bX11_setStart_19 X h
theorem dX11_joinRun_0 : decode cX11_joinRun 0 = .ok (.aload_n 0, 1) := by decide +kernel
theorem dX11_joinRun_1 : decode cX11_joinRun 1 = .ok (.iload_n 2, 1) := by decide +kernel
theorem dX11_joinRun_2 : decode cX11_joinRun 2 = .ok (.aload_n 0, 1) := by decide +kernel
theorem dX11_joinRun_3 : decode cX11_joinRun 3 = .ok (.getfield 267, 3) := by decide +kernel
theorem dX11_joinRun_6 : decode cX11_joinRun 6 = .ok (.invokevirtual 252, 3) := by decide +kernel
theorem dX11_joinRun_9 : decode cX11_joinRun 9 = .ok (.aload_n 0, 1) := by decide +kernel
theorem dX11_joinRun_10 : decode cX11_joinRun 10 = .ok (.iload_n 1, 1) := by decide +kernel
theorem dX11_joinRun_11 : decode cX11_joinRun 11 = .ok (.aload_n 0, 1) := by decide +kernel
theorem dX11_joinRun_12 : decode cX11_joinRun 12 = .ok (.getfield 264, 3) := by decide +kernel
theorem dX11_joinRun_15 : decode cX11_joinRun 15 = .ok (.invokevirtual 252, 3) := by decide +kernel
theorem dX11_joinRun_18 : decode cX11_joinRun 18 = .ok (.isub, 1) := by decide +kernel
theorem dX11_joinRun_19 : decode cX11_joinRun 19 = .ok (.istore_n 3, 1) := by decide +kernel
theorem dX11_joinRun_20 : decode cX11_joinRun 20 = .ok (.iconst 0, 1) := by decide +kernel
theorem dX11_joinRun_21 : decode cX11_joinRun 21 = .ok (.istore 4, 2) := by decide +kernel
theorem dX11_joinRun_23 : decode cX11_joinRun 23 = .ok (.iload 4, 2) := by decide +kernel
theorem dX11_joinRun_25 : decode cX11_joinRun 25 = .ok (.aload_n 0, 1) := by decide +kernel
theorem dX11_joinRun_26 : decode cX11_joinRun 26 = .ok (.getfield 273, 3) := by decide +kernel
theorem dX11_joinRun_29 : decode cX11_joinRun 29 = .ok (.if_icmp .ge 137, 3) := by decide +kernel
theorem dX11_joinRun_32 : decode cX11_joinRun 32 = .ok (.iload_n 1, 1) := by decide +kernel
theorem dX11_joinRun_33 : decode cX11_joinRun 33 = .ok (.aload_n 0, 1) := by decide +kernel
theorem dX11_joinRun_34 : decode cX11_joinRun 34 = .ok (.getfield 264, 3) := by decide +kernel
theorem dX11_joinRun_37 : decode cX11_joinRun 37 = .ok (.iload 4, 2) := by decide +kernel
theorem dX11_joinRun_39 : decode cX11_joinRun 39 = .ok (.iadd, 1) := by decide +kernel
theorem dX11_joinRun_40 : decode cX11_joinRun 40 = .ok (.invokestatic 111, 3) := by decide +kernel
theorem dX11_joinRun_43 : decode cX11_joinRun 43 = .ok (.istore 5, 2) := by decide +kernel
theorem dX11_joinRun_45 : decode cX11_joinRun 45 = .ok (.iload_n 2, 1) := by decide +kernel
theorem dX11_joinRun_46 : decode cX11_joinRun 46 = .ok (.aload_n 0, 1) := by decide +kernel
theorem dX11_joinRun_47 : decode cX11_joinRun 47 = .ok (.getfield 267, 3) := by decide +kernel
theorem dX11_joinRun_50 : decode cX11_joinRun 50 = .ok (.iload 4, 2) := by decide +kernel
theorem dX11_joinRun_52 : decode cX11_joinRun 52 = .ok (.iadd, 1) := by decide +kernel
theorem dX11_joinRun_53 : decode cX11_joinRun 53 = .ok (.invokestatic 111, 3) := by decide +kernel
theorem dX11_joinRun_56 : decode cX11_joinRun 56 = .ok (.istore 6, 2) := by decide +kernel
theorem dX11_joinRun_58 : decode cX11_joinRun 58 = .ok (.aload_n 0, 1) := by decide +kernel
theorem dX11_joinRun_59 : decode cX11_joinRun 59 = .ok (.getfield 9, 3) := by decide +kernel
theorem dX11_joinRun_62 : decode cX11_joinRun 62 = .ok (.sipush 132, 3) := by decide +kernel
theorem dX11_joinRun_65 : decode cX11_joinRun 65 = .ok (.iload 5, 2) := by decide +kernel
theorem dX11_joinRun_67 : decode cX11_joinRun 67 = .ok (.iadd, 1) := by decide +kernel
theorem dX11_joinRun_68 : decode cX11_joinRun 68 = .ok (.iaload, 1) := by decide +kernel
theorem dX11_joinRun_69 : decode cX11_joinRun 69 = .ok (.aload_n 0, 1) := by decide +kernel
theorem dX11_joinRun_70 : decode cX11_joinRun 70 = .ok (.getfield 9, 3) := by decide +kernel
theorem dX11_joinRun_73 : decode cX11_joinRun 73 = .ok (.sipush 132, 3) := by decide +kernel
theorem dX11_joinRun_76 : decode cX11_joinRun 76 = .ok (.iload 6, 2) := by decide +kernel
theorem dX11_joinRun_78 : decode cX11_joinRun 78 = .ok (.iadd, 1) := by decide +kernel
theorem dX11_joinRun_79 : decode cX11_joinRun 79 = .ok (.iaload, 1) := by decide +kernel
theorem dX11_joinRun_80 : decode cX11_joinRun 80 = .ok (.invokestatic 304, 3) := by decide +kernel
theorem dX11_joinRun_83 : decode cX11_joinRun 83 = .ok (.istore 7, 2) := by decide +kernel
theorem dX11_joinRun_85 : decode cX11_joinRun 85 = .ok (.aload_n 0, 1) := by decide +kernel
theorem dX11_joinRun_86 : decode cX11_joinRun 86 = .ok (.getfield 9, 3) := by decide +kernel
theorem dX11_joinRun_89 : decode cX11_joinRun 89 = .ok (.sipush 132, 3) := by decide +kernel
theorem dX11_joinRun_92 : decode cX11_joinRun 92 = .ok (.iload 5, 2) := by decide +kernel
theorem dX11_joinRun_94 : decode cX11_joinRun 94 = .ok (.iadd, 1) := by decide +kernel
theorem dX11_joinRun_95 : decode cX11_joinRun 95 = .ok (.iload 7, 2) := by decide +kernel
theorem dX11_joinRun_97 : decode cX11_joinRun 97 = .ok (.iastore, 1) := by decide +kernel
theorem dX11_joinRun_98 : decode cX11_joinRun 98 = .ok (.aload_n 0, 1) := by decide +kernel
theorem dX11_joinRun_99 : decode cX11_joinRun 99 = .ok (.getfield 9, 3) := by decide +kernel
theorem dX11_joinRun_102 : decode cX11_joinRun 102 = .ok (.sipush 132, 3) := by decide +kernel
theorem dX11_joinRun_105 : decode cX11_joinRun 105 = .ok (.iload 6, 2) := by decide +kernel
theorem dX11_joinRun_107 : decode cX11_joinRun 107 = .ok (.iadd, 1) := by decide +kernel
theorem dX11_joinRun_108 : decode cX11_joinRun 108 = .ok (.iload 7, 2) := by decide +kernel
theorem dX11_joinRun_110 : decode cX11_joinRun 110 = .ok (.iastore, 1) := by decide +kernel
theorem dX11_joinRun_111 : decode cX11_joinRun 111 = .ok (.aload_n 0, 1) := by decide +kernel
theorem dX11_joinRun_112 : decode cX11_joinRun 112 = .ok (.getfield 9, 3) := by decide +kernel
theorem dX11_joinRun_115 : decode cX11_joinRun 115 = .ok (.bipush 12, 2) := by decide +kernel
theorem dX11_joinRun_117 : decode cX11_joinRun 117 = .ok (.iload 5, 2) := by decide +kernel
theorem dX11_joinRun_119 : decode cX11_joinRun 119 = .ok (.iadd, 1) := by decide +kernel
theorem dX11_joinRun_120 : decode cX11_joinRun 120 = .ok (.iload 4, 2) := by decide +kernel
theorem dX11_joinRun_122 : decode cX11_joinRun 122 = .ok (.ifCond .ne 11, 3) := by decide +kernel
theorem dX11_joinRun_125 : decode cX11_joinRun 125 = .ok (.iload_n 3, 1) := by decide +kernel
theorem dX11_joinRun_126 : decode cX11_joinRun 126 = .ok (.iconst 0, 1) := by decide +kernel
theorem dX11_joinRun_127 : decode cX11_joinRun 127 = .ok (.invokestatic 145, 3) := by decide +kernel
theorem dX11_joinRun_130 : decode cX11_joinRun 130 = .ok (.goto 4, 3) := by decide +kernel
theorem dX11_joinRun_133 : decode cX11_joinRun 133 = .ok (.iconst 0, 1) := by decide +kernel
theorem dX11_joinRun_134 : decode cX11_joinRun 134 = .ok (.iastore, 1) := by decide +kernel
theorem dX11_joinRun_135 : decode cX11_joinRun 135 = .ok (.aload_n 0, 1) := by decide +kernel
theorem dX11_joinRun_136 : decode cX11_joinRun 136 = .ok (.getfield 9, 3) := by decide +kernel
theorem dX11_joinRun_139 : decode cX11_joinRun 139 = .ok (.bipush 12, 2) := by decide +kernel
theorem dX11_joinRun_141 : decode cX11_joinRun 141 = .ok (.iload 6, 2) := by decide +kernel
theorem dX11_joinRun_143 : decode cX11_joinRun 143 = .ok (.iadd, 1) := by decide +kernel
theorem dX11_joinRun_144 : decode cX11_joinRun 144 = .ok (.iload 4, 2) := by decide +kernel
theorem dX11_joinRun_146 : decode cX11_joinRun 146 = .ok (.ifCond .ne 12, 3) := by decide +kernel
theorem dX11_joinRun_149 : decode cX11_joinRun 149 = .ok (.iload_n 3, 1) := by decide +kernel
theorem dX11_joinRun_150 : decode cX11_joinRun 150 = .ok (.ineg, 1) := by decide +kernel
theorem dX11_joinRun_151 : decode cX11_joinRun 151 = .ok (.iconst 0, 1) := by decide +kernel
theorem dX11_joinRun_152 : decode cX11_joinRun 152 = .ok (.invokestatic 145, 3) := by decide +kernel
theorem dX11_joinRun_155 : decode cX11_joinRun 155 = .ok (.goto 4, 3) := by decide +kernel
theorem dX11_joinRun_158 : decode cX11_joinRun 158 = .ok (.iconst 0, 1) := by decide +kernel
theorem dX11_joinRun_159 : decode cX11_joinRun 159 = .ok (.iastore, 1) := by decide +kernel
theorem dX11_joinRun_160 : decode cX11_joinRun 160 = .ok (.iinc 4 1, 3) := by decide +kernel
theorem dX11_joinRun_163 : decode cX11_joinRun 163 = .ok (.goto (-140), 3) := by decide +kernel
theorem dX11_joinRun_166 : decode cX11_joinRun 166 = .ok (.return_, 1) := by decide +kernel
theorem cm_X11_joinRun : x_CM yX11_joinRun cX11_joinRun 8 (Option.none : Option Jvm.ClassFile.FieldType) 2 := ⟨w_8_171, w_1_12, by decide +kernel, by decide +kernel⟩
theorem ci_X11_joinRun : x_CI yX11_joinRun 13 := ⟨w_8_170, wp_97, (RX11, TX11, 41), rfl, rfl⟩
set_option maxRecDepth 100000 in
set_option maxHeartbeats 4000000 in
theorem bX11_joinRun_159 {V : x_J} {ad : Nat → Nat} {Q : x_S → x_L → Prop} (X : x_Is V cX11_joinRun 8 RX11 (Option.none : Option Jvm.ClassFile.FieldType) ad dsM 2 (x_PV Q)) {K23 : Int32 → Int32 → Int32 → Int32 → x_S → x_L → Prop} (hK23 : ∀ v1 v2 v3 v4 σ τ, K23 v1 v2 v3 v4 σ τ → V σ τ 23 [(0, .ref (ad 0)), (1, .int v1), (2, .int v2), (3, .int v3), (4, .int v4)] []) {v1 : Int32} {v2 : Int32} {v3 : Int32} {v4 : Int32} {s1 : Int32} {s2 : Int32} {σ : x_S} {τ : x_L} (h : wX11_joinRun_159 K23 Q v1 v2 v3 v4 s1 s2 σ τ) : V σ τ 159 [(0, .ref (ad 0)), (1, .int v1), (2, .int v2), (3, .int v3), (4, .int v4)] [.int s2, .int s1, .ref (ad 1)] := by
  have g159 := h.1
  have h := h.2
  refine x_iast X dX11_joinRun_159 dsM_1 g159 ?_
  refine x_iinc X (k := 4) (lv' := [(4, .int (v4 + 1)), (0, .ref (ad 0)), (1, .int v1), (2, .int v2), (3, .int v3)]) dX11_joinRun_160 rfl ki_1 (by decide) rfl ?_
  refine x_goto X (tgt := 23) dX11_joinRun_163 (by decide) ?_
  refine x_sub X [1, 2, 3, 4, 0] (lv' := [(0, .ref (ad 0)), (1, .int v1), (2, .int v2), (3, .int v3), (4, .int (v4 + 1))]) rfl ?_
  exact hK23 _ _ _ _ _ _ h
set_option maxRecDepth 100000 in
set_option maxHeartbeats 4000000 in
theorem bX11_joinRun_134 {V : x_J} {ad : Nat → Nat} {Q : x_S → x_L → Prop} (X : x_Is V cX11_joinRun 8 RX11 (Option.none : Option Jvm.ClassFile.FieldType) ad dsM 2 (x_PV Q)) {K23 : Int32 → Int32 → Int32 → Int32 → x_S → x_L → Prop} (hK23 : ∀ v1 v2 v3 v4 σ τ, K23 v1 v2 v3 v4 σ τ → V σ τ 23 [(0, .ref (ad 0)), (1, .int v1), (2, .int v2), (3, .int v3), (4, .int v4)] []) {v1 : Int32} {v2 : Int32} {v3 : Int32} {v4 : Int32} {v6 : Int32} {s1 : Int32} {s2 : Int32} {σ : x_S} {τ : x_L} (h : wX11_joinRun_134 K23 Q v1 v2 v3 v4 v6 s1 s2 σ τ) : V σ τ 134 [(0, .ref (ad 0)), (1, .int v1), (2, .int v2), (3, .int v3), (4, .int v4), (6, .int v6)] [.int s2, .int s1, .ref (ad 1)] := by
  have g134 := h.1
  have h := h.2
  refine x_iast X dX11_joinRun_134 dsM_1 g134 ?_
  refine x_aload_n X dX11_joinRun_135 rfl 0 rfl ?_
  refine x_getR X (j := 1) dX11_joinRun_136 fl_11_9 dsM_0 rfl ?_
  refine x_bipush X dX11_joinRun_139 kb_12 ?_
  refine x_iload X dX11_joinRun_141 5 rfl ?_
  refine x_iadd X dX11_joinRun_143 ?_
  refine x_iload X dX11_joinRun_144 4 rfl ?_
  refine x_if_ne X 158 dX11_joinRun_146 (by decide) (fun hc => ?_) (fun hc => ?_)
  · have h := h.1 hc
    refine x_iconst X dX11_joinRun_158 ki_0 ?_
    refine x_sub X [0, 1, 2, 3, 4] (lv' := [(0, .ref (ad 0)), (1, .int v1), (2, .int v2), (3, .int v3), (4, .int v4)]) rfl ?_
    exact bX11_joinRun_159 X hK23 h
  · have h := h.2 hc
    refine x_iload_n X dX11_joinRun_149 rfl 3 rfl ?_
    refine x_ineg X dX11_joinRun_150 ?_
    refine x_iconst X dX11_joinRun_151 ki_0 ?_
    refine x_callSi X [.int (-v3), .int 0] [.int (12 + v6), .ref (ad 1)] dX11_joinRun_152 (kX11_max h) cm_X11_max w_7_165 rfl w_7_164 ⟨by decide, by decide⟩ rfl (Nat.le_of_ble_eq_true rfl) (fun r152 σ152 τ152 h => ?_)
    refine x_goto X (tgt := 159) dX11_joinRun_155 (by decide) ?_
    refine x_sub X [0, 1, 2, 3, 4] (lv' := [(0, .ref (ad 0)), (1, .int v1), (2, .int v2), (3, .int v3), (4, .int v4)]) rfl ?_
    exact bX11_joinRun_159 X hK23 h
set_option maxRecDepth 100000 in
set_option maxHeartbeats 4000000 in
theorem bX11_joinRun_23 {V : x_J} {ad : Nat → Nat} {Q : x_S → x_L → Prop} (X : x_Is V cX11_joinRun 8 RX11 (Option.none : Option Jvm.ClassFile.FieldType) ad dsM 2 (x_PV Q)) {K23 : Int32 → Int32 → Int32 → Int32 → x_S → x_L → Prop} (hK23 : ∀ v1 v2 v3 v4 σ τ, K23 v1 v2 v3 v4 σ τ → V σ τ 23 [(0, .ref (ad 0)), (1, .int v1), (2, .int v2), (3, .int v3), (4, .int v4)] []) {v1 : Int32} {v2 : Int32} {v3 : Int32} {v4 : Int32} {σ : x_S} {τ : x_L} (h : wX11_joinRun_23 Q K23 v1 v2 v3 v4 σ τ) : V σ τ 23 [(0, .ref (ad 0)), (1, .int v1), (2, .int v2), (3, .int v3), (4, .int v4)] [] := by
  refine x_iload X dX11_joinRun_23 4 rfl ?_
  refine x_aload_n X dX11_joinRun_25 rfl 0 rfl ?_
  refine x_getI X dX11_joinRun_26 fl_11_273 dsM_0 rfl ?_
  refine x_icmp_ge X 166 dX11_joinRun_29 (by decide) (fun hc => ?_) (fun hc => ?_)
  · have h := h.1 hc
    exact x_vret X dX11_joinRun_166 ⟨rfl, h⟩
  · have h := h.2 hc
    refine x_iload_n X dX11_joinRun_32 rfl 1 rfl ?_
    refine x_aload_n X dX11_joinRun_33 rfl 0 rfl ?_
    refine x_getI X dX11_joinRun_34 fl_11_264 dsM_0 rfl ?_
    refine x_iload X dX11_joinRun_37 4 rfl ?_
    refine x_iadd X dX11_joinRun_39 ?_
    refine x_callSi X [.int v1, .int ((σ 0 19) + v4)] [] dX11_joinRun_40 (kX11_spot h) cm_X11_spot w_7_118 rfl w_7_117 ⟨by decide, by decide⟩ rfl (Nat.le_of_ble_eq_true rfl) (fun r40 σ40 τ40 h => ?_)
    refine x_istore X (lv' := [(5, .int r40), (0, .ref (ad 0)), (1, .int v1), (2, .int v2), (3, .int v3), (4, .int v4)]) dX11_joinRun_43 (by decide) rfl ?_
    refine x_iload_n X dX11_joinRun_45 rfl 3 rfl ?_
    refine x_aload_n X dX11_joinRun_46 rfl 1 rfl ?_
    refine x_getI X dX11_joinRun_47 fl_11_267 dsM_0 rfl ?_
    refine x_iload X dX11_joinRun_50 5 rfl ?_
    refine x_iadd X dX11_joinRun_52 ?_
    refine x_callSi X [.int v2, .int ((σ40 0 20) + v4)] [] dX11_joinRun_53 (kX11_spot h) cm_X11_spot w_7_118 rfl w_7_117 ⟨by decide, by decide⟩ rfl (Nat.le_of_ble_eq_true rfl) (fun r53 σ53 τ53 h => ?_)
    refine x_istore X (lv' := [(6, .int r53), (5, .int r40), (0, .ref (ad 0)), (1, .int v1), (2, .int v2), (3, .int v3), (4, .int v4)]) dX11_joinRun_56 (by decide) rfl ?_
    refine x_aload_n X dX11_joinRun_58 rfl 2 rfl ?_
    refine x_getR X (j := 1) dX11_joinRun_59 fl_11_9 dsM_0 rfl ?_
    refine x_sipush X dX11_joinRun_62 ks_132 ?_
    refine x_iload X dX11_joinRun_65 1 rfl ?_
    refine x_iadd X dX11_joinRun_67 ?_
    have g68 := h.1
    have h := h.2
    refine x_iald X dX11_joinRun_68 dsM_1 g68 ?_
    refine x_aload_n X dX11_joinRun_69 rfl 2 rfl ?_
    refine x_getR X (j := 1) dX11_joinRun_70 fl_11_9 dsM_0 rfl ?_
    refine x_sipush X dX11_joinRun_73 ks_132 ?_
    refine x_iload X dX11_joinRun_76 0 rfl ?_
    refine x_iadd X dX11_joinRun_78 ?_
    have g79 := h.1
    have h := h.2
    refine x_iald X dX11_joinRun_79 dsM_1 g79 ?_
    refine x_callSi X [.int (σ53 1 (132 + r40).toNatClampNeg), .int (σ53 1 (132 + r53).toNatClampNeg)] [] dX11_joinRun_80 (kX11_min h) cm_X11_min w_8_173 rfl w_8_172 ⟨by decide, by decide⟩ rfl (Nat.le_of_ble_eq_true rfl) (fun r80 σ80 τ80 h => ?_)
    refine x_istore X (lv' := [(7, .int r80), (6, .int r53), (5, .int r40), (0, .ref (ad 0)), (1, .int v1), (2, .int v2), (3, .int v3), (4, .int v4)]) dX11_joinRun_83 (by decide) rfl ?_
    refine x_aload_n X dX11_joinRun_85 rfl 3 rfl ?_
    refine x_getR X (j := 1) dX11_joinRun_86 fl_11_9 dsM_0 rfl ?_
    refine x_sipush X dX11_joinRun_89 ks_132 ?_
    refine x_iload X dX11_joinRun_92 2 rfl ?_
    refine x_iadd X dX11_joinRun_94 ?_
    refine x_iload X dX11_joinRun_95 0 rfl ?_
    refine x_iast X dX11_joinRun_97 dsM_1 g68 ?_
    refine x_aload_n X dX11_joinRun_98 rfl 3 rfl ?_
    refine x_getR X (j := 1) dX11_joinRun_99 fl_11_9 dsM_0 rfl ?_
    refine x_sipush X dX11_joinRun_102 ks_132 ?_
    refine x_iload X dX11_joinRun_105 1 rfl ?_
    refine x_iadd X dX11_joinRun_107 ?_
    refine x_iload X dX11_joinRun_108 0 rfl ?_
    refine x_iast X dX11_joinRun_110 dsM_1 g79 ?_
    refine x_aload_n X dX11_joinRun_111 rfl 3 rfl ?_
    refine x_getR X (j := 1) dX11_joinRun_112 fl_11_9 dsM_0 rfl ?_
    refine x_bipush X dX11_joinRun_115 kb_12 ?_
    refine x_iload X dX11_joinRun_117 2 rfl ?_
    refine x_iadd X dX11_joinRun_119 ?_
    refine x_iload X dX11_joinRun_120 7 rfl ?_
    refine x_if_ne X 133 dX11_joinRun_122 (by decide) (fun hc => ?_) (fun hc => ?_)
    · have h := h.1 hc
      refine x_iconst X dX11_joinRun_133 ki_0 ?_
      refine x_sub X [3, 4, 5, 6, 7, 1] (lv' := [(0, .ref (ad 0)), (1, .int v1), (2, .int v2), (3, .int v3), (4, .int v4), (6, .int r53)]) rfl ?_
      exact bX11_joinRun_134 X hK23 h
    · have h := h.2 hc
      refine x_iload_n X dX11_joinRun_125 rfl 6 rfl ?_
      refine x_iconst X dX11_joinRun_126 ki_0 ?_
      refine x_callSi X [.int v3, .int 0] [.int (12 + r40), .ref (ad 1)] dX11_joinRun_127 (kX11_max h) cm_X11_max w_7_165 rfl w_7_164 ⟨by decide, by decide⟩ rfl (Nat.le_of_ble_eq_true rfl) (fun r127 σ127 τ127 h => ?_)
      refine x_goto X (tgt := 134) dX11_joinRun_130 (by decide) ?_
      refine x_sub X [3, 4, 5, 6, 7, 1] (lv' := [(0, .ref (ad 0)), (1, .int v1), (2, .int v2), (3, .int v3), (4, .int v4), (6, .int r53)]) rfl ?_
      exact bX11_joinRun_134 X hK23 h
set_option maxRecDepth 100000 in
set_option maxHeartbeats 4000000 in
theorem kX11_joinRun {ad : Nat → Nat} {a1 : Int32} {a2 : Int32} {σ : x_S} {τ : x_L} {Q : x_S → x_L → Prop} (h : wX11_joinRun a1 a2 σ τ Q) : x_Met yX11_joinRun cX11_joinRun 8 (Option.none : Option Jvm.ClassFile.FieldType) 2 ad dsM [.ref (ad 0), .int a1, .int a2] σ τ (x_PV Q) := by
  refine x_met (by decide +kernel) (Nat.le_of_ble_eq_true rfl) (fun V X => ?_)
  have X : x_Is V cX11_joinRun 8 RX11 (Option.none : Option Jvm.ClassFile.FieldType) ad dsM 2 (x_PV Q) := X
  show V σ τ 0 [(0, .ref (ad 0)), (1, .int a1), (2, .int a2)] []
  refine x_aload_n X dX11_joinRun_0 rfl 0 rfl ?_
  refine x_iload_n X dX11_joinRun_1 rfl 2 rfl ?_
  refine x_aload_n X dX11_joinRun_2 rfl 0 rfl ?_
  refine x_getI X dX11_joinRun_3 fl_11_267 dsM_0 rfl ?_
  refine x_callVi X [.int a2, .int (σ 0 20)] [] dX11_joinRun_6 (kX11_readyAt h) cm_X11_readyAt ci_X11_readyAt w_8_42 dsM_0 ⟨by decide, by decide⟩ rfl (Nat.le_of_ble_eq_true rfl) (fun r6 σ6 τ6 h => ?_)
  refine x_aload_n X dX11_joinRun_9 rfl 0 rfl ?_
  refine x_iload_n X dX11_joinRun_10 rfl 1 rfl ?_
  refine x_aload_n X dX11_joinRun_11 rfl 0 rfl ?_
  refine x_getI X dX11_joinRun_12 fl_11_264 dsM_0 rfl ?_
  refine x_callVi X [.int a1, .int (σ6 0 19)] [.int r6] dX11_joinRun_15 (kX11_readyAt h) cm_X11_readyAt ci_X11_readyAt w_8_42 dsM_0 ⟨by decide, by decide⟩ rfl (Nat.le_of_ble_eq_true rfl) (fun r15 σ15 τ15 h => ?_)
  refine x_isub X dX11_joinRun_18 ?_
  refine x_istore_n X (lv' := [(3, .int (r6 - r15)), (0, .ref (ad 0)), (1, .int a1), (2, .int a2)]) dX11_joinRun_19 rfl (by decide) rfl ?_
  refine x_iconst X dX11_joinRun_20 ki_0 ?_
  refine x_istore X (lv' := [(4, .int 0), (3, .int (r6 - r15)), (0, .ref (ad 0)), (1, .int a1), (2, .int a2)]) dX11_joinRun_21 (by decide) rfl ?_
  refine x_sub X [2, 3, 4, 1, 0] (lv' := [(0, .ref (ad 0)), (1, .int a1), (2, .int a2), (3, .int (r6 - r15)), (4, .int 0)]) rfl ?_
  exact x_l4_G (fun v1 v2 v3 v4 σ τ => V σ τ 23 [(0, .ref (ad 0)), (1, .int v1), (2, .int v2), (3, .int v3), (4, .int v4)] []) (fun K23 hK23 v1 v2 v3 v4 σ τ h => bX11_joinRun_23 X hK23 h) h
theorem dX11_lateness_0 : decode cX11_lateness 0 = .ok (.aload_n 0, 1) := by decide +kernel
theorem dX11_lateness_1 : decode cX11_lateness 1 = .ok (.iload_n 1, 1) := by decide +kernel
theorem dX11_lateness_2 : decode cX11_lateness 2 = .ok (.invokevirtual 197, 3) := by decide +kernel
theorem dX11_lateness_5 : decode cX11_lateness 5 = .ok (.istore_n 3, 1) := by decide +kernel
theorem dX11_lateness_6 : decode cX11_lateness 6 = .ok (.aload_n 0, 1) := by decide +kernel
theorem dX11_lateness_7 : decode cX11_lateness 7 = .ok (.iload_n 2, 1) := by decide +kernel
theorem dX11_lateness_8 : decode cX11_lateness 8 = .ok (.invokevirtual 197, 3) := by decide +kernel
theorem dX11_lateness_11 : decode cX11_lateness 11 = .ok (.istore 4, 2) := by decide +kernel
theorem dX11_lateness_13 : decode cX11_lateness 13 = .ok (.aload_n 0, 1) := by decide +kernel
theorem dX11_lateness_14 : decode cX11_lateness 14 = .ok (.iconst 0, 1) := by decide +kernel
theorem dX11_lateness_15 : decode cX11_lateness 15 = .ok (.bipush 18, 2) := by decide +kernel
theorem dX11_lateness_17 : decode cX11_lateness 17 = .ok (.invokevirtual 91, 3) := by decide +kernel
theorem dX11_lateness_20 : decode cX11_lateness 20 = .ok (.aload_n 0, 1) := by decide +kernel
theorem dX11_lateness_21 : decode cX11_lateness 21 = .ok (.iload_n 1, 1) := by decide +kernel
theorem dX11_lateness_22 : decode cX11_lateness 22 = .ok (.iload_n 2, 1) := by decide +kernel
theorem dX11_lateness_23 : decode cX11_lateness 23 = .ok (.invokevirtual 307, 3) := by decide +kernel
theorem dX11_lateness_26 : decode cX11_lateness 26 = .ok (.aload_n 0, 1) := by decide +kernel
theorem dX11_lateness_27 : decode cX11_lateness 27 = .ok (.iload_n 1, 1) := by decide +kernel
theorem dX11_lateness_28 : decode cX11_lateness 28 = .ok (.invokevirtual 172, 3) := by decide +kernel
theorem dX11_lateness_31 : decode cX11_lateness 31 = .ok (.aload_n 0, 1) := by decide +kernel
theorem dX11_lateness_32 : decode cX11_lateness 32 = .ok (.iload_n 2, 1) := by decide +kernel
theorem dX11_lateness_33 : decode cX11_lateness 33 = .ok (.invokevirtual 172, 3) := by decide +kernel
theorem dX11_lateness_36 : decode cX11_lateness 36 = .ok (.iload_n 3, 1) := by decide +kernel
theorem dX11_lateness_37 : decode cX11_lateness 37 = .ok (.ifCond .ne 15, 3) := by decide +kernel
theorem dX11_lateness_40 : decode cX11_lateness 40 = .ok (.aload_n 0, 1) := by decide +kernel
theorem dX11_lateness_41 : decode cX11_lateness 41 = .ok (.iload_n 1, 1) := by decide +kernel
theorem dX11_lateness_42 : decode cX11_lateness 42 = .ok (.invokevirtual 197, 3) := by decide +kernel
theorem dX11_lateness_45 : decode cX11_lateness 45 = .ok (.ifCond .eq 7, 3) := by decide +kernel
theorem dX11_lateness_48 : decode cX11_lateness 48 = .ok (.iconst 4, 1) := by decide +kernel
theorem dX11_lateness_49 : decode cX11_lateness 49 = .ok (.goto 21, 3) := by decide +kernel
theorem dX11_lateness_52 : decode cX11_lateness 52 = .ok (.iload 4, 2) := by decide +kernel
theorem dX11_lateness_54 : decode cX11_lateness 54 = .ok (.ifCond .ne 15, 3) := by decide +kernel
theorem dX11_lateness_57 : decode cX11_lateness 57 = .ok (.aload_n 0, 1) := by decide +kernel
theorem dX11_lateness_58 : decode cX11_lateness 58 = .ok (.iload_n 2, 1) := by decide +kernel
theorem dX11_lateness_59 : decode cX11_lateness 59 = .ok (.invokevirtual 197, 3) := by decide +kernel
theorem dX11_lateness_62 : decode cX11_lateness 62 = .ok (.ifCond .eq 7, 3) := by decide +kernel
theorem dX11_lateness_65 : decode cX11_lateness 65 = .ok (.iconst 5, 1) := by decide +kernel
theorem dX11_lateness_66 : decode cX11_lateness 66 = .ok (.goto 4, 3) := by decide +kernel
theorem dX11_lateness_69 : decode cX11_lateness 69 = .ok (.iconst 0, 1) := by decide +kernel
theorem dX11_lateness_70 : decode cX11_lateness 70 = .ok (.istore 5, 2) := by decide +kernel
theorem dX11_lateness_72 : decode cX11_lateness 72 = .ok (.aload_n 0, 1) := by decide +kernel
theorem dX11_lateness_73 : decode cX11_lateness 73 = .ok (.bipush 18, 2) := by decide +kernel
theorem dX11_lateness_75 : decode cX11_lateness 75 = .ok (.iconst 0, 1) := by decide +kernel
theorem dX11_lateness_76 : decode cX11_lateness 76 = .ok (.invokevirtual 91, 3) := by decide +kernel
theorem dX11_lateness_79 : decode cX11_lateness 79 = .ok (.aload_n 0, 1) := by decide +kernel
theorem dX11_lateness_80 : decode cX11_lateness 80 = .ok (.iload_n 1, 1) := by decide +kernel
theorem dX11_lateness_81 : decode cX11_lateness 81 = .ok (.invokevirtual 172, 3) := by decide +kernel
theorem dX11_lateness_84 : decode cX11_lateness 84 = .ok (.aload_n 0, 1) := by decide +kernel
theorem dX11_lateness_85 : decode cX11_lateness 85 = .ok (.iload_n 2, 1) := by decide +kernel
theorem dX11_lateness_86 : decode cX11_lateness 86 = .ok (.invokevirtual 172, 3) := by decide +kernel
theorem dX11_lateness_89 : decode cX11_lateness 89 = .ok (.iload 5, 2) := by decide +kernel
theorem dX11_lateness_91 : decode cX11_lateness 91 = .ok (.ireturn, 1) := by decide +kernel
theorem cm_X11_lateness : x_CM yX11_lateness cX11_lateness 6 (Option.some FieldType.int) 2 := ⟨w_8_167, w_1_12, by decide +kernel, by decide +kernel⟩
theorem ci_X11_lateness : x_CI yX11_lateness 13 := ⟨w_8_166, wp_96, (RX11, TX11, 41), rfl, rfl⟩
set_option maxRecDepth 100000 in
set_option maxHeartbeats 4000000 in
theorem bX11_lateness_70 {V : x_J} {ad : Nat → Nat} {Q : Int32 → x_S → x_L → Prop} (X : x_Is V cX11_lateness 6 RX11 (Option.some FieldType.int) ad dsM 4 (x_PI Q)) {v1 : Int32} {v2 : Int32} {s0 : Int32} {σ : x_S} {τ : x_L} (h : wX11_lateness_70 Q v1 v2 s0 σ τ) : V σ τ 70 [(0, .ref (ad 0)), (1, .int v1), (2, .int v2)] [.int s0] := by
  refine x_istore X (lv' := [(5, .int s0), (0, .ref (ad 0)), (1, .int v1), (2, .int v2)]) dX11_lateness_70 (by decide) rfl ?_
  refine x_aload_n X dX11_lateness_72 rfl 1 rfl ?_
  refine x_bipush X dX11_lateness_73 kb_18 ?_
  refine x_iconst X dX11_lateness_75 ki_0 ?_
  refine x_callVv X [.int 18, .int 0] [] dX11_lateness_76 (kX11_copyPlan h) cm_X11_copyPlan ci_X11_copyPlan w_7_82 dsM_0 ⟨by decide, by decide⟩ rfl (Nat.le_of_ble_eq_true rfl) (fun σ76 τ76 h => ?_)
  refine x_aload_n X dX11_lateness_79 rfl 1 rfl ?_
  refine x_iload_n X dX11_lateness_80 rfl 2 rfl ?_
  refine x_callVv X [.int v1] [] dX11_lateness_81 (kX11_layTimes h) cm_X11_layTimes ci_X11_layTimes w_7_105 dsM_0 ⟨by decide, by decide⟩ rfl (Nat.le_of_ble_eq_true rfl) (fun σ81 τ81 h => ?_)
  refine x_aload_n X dX11_lateness_84 rfl 1 rfl ?_
  refine x_iload_n X dX11_lateness_85 rfl 3 rfl ?_
  refine x_callVv X [.int v2] [] dX11_lateness_86 (kX11_layTimes h) cm_X11_layTimes ci_X11_layTimes w_7_105 dsM_0 ⟨by decide, by decide⟩ rfl (Nat.le_of_ble_eq_true rfl) (fun σ86 τ86 h => ?_)
  refine x_iload X dX11_lateness_89 0 rfl ?_
  exact x_iret X dX11_lateness_91 ⟨_, rfl, h⟩
set_option maxRecDepth 100000 in
set_option maxHeartbeats 4000000 in
theorem bX11_lateness_69 {V : x_J} {ad : Nat → Nat} {Q : Int32 → x_S → x_L → Prop} (X : x_Is V cX11_lateness 6 RX11 (Option.some FieldType.int) ad dsM 4 (x_PI Q)) {v1 : Int32} {v2 : Int32} {σ : x_S} {τ : x_L} (h : wX11_lateness_69 Q v1 v2 σ τ) : V σ τ 69 [(0, .ref (ad 0)), (1, .int v1), (2, .int v2)] [] := by
  refine x_iconst X dX11_lateness_69 ki_0 ?_
  exact bX11_lateness_70 X h
set_option maxRecDepth 100000 in
set_option maxHeartbeats 4000000 in
theorem bX11_lateness_52 {V : x_J} {ad : Nat → Nat} {Q : Int32 → x_S → x_L → Prop} (X : x_Is V cX11_lateness 6 RX11 (Option.some FieldType.int) ad dsM 4 (x_PI Q)) {v1 : Int32} {v2 : Int32} {v4 : Int32} {σ : x_S} {τ : x_L} (h : wX11_lateness_52 Q v1 v2 v4 σ τ) : V σ τ 52 [(0, .ref (ad 0)), (1, .int v1), (2, .int v2), (4, .int v4)] [] := by
  refine x_iload X dX11_lateness_52 3 rfl ?_
  refine x_if_ne X 69 dX11_lateness_54 (by decide) (fun hc => ?_) (fun hc => ?_)
  · have h := h.1 hc
    refine x_sub X [0, 1, 2] (lv' := [(0, .ref (ad 0)), (1, .int v1), (2, .int v2)]) rfl ?_
    exact bX11_lateness_69 X h
  · have h := h.2 hc
    refine x_aload_n X dX11_lateness_57 rfl 0 rfl ?_
    refine x_iload_n X dX11_lateness_58 rfl 2 rfl ?_
    refine x_callVi X [.int v2] [] dX11_lateness_59 (kX11_isLate h) cm_X11_isLate ci_X11_isLate w_7_219 dsM_0 ⟨by decide, by decide⟩ rfl (Nat.le_of_ble_eq_true rfl) (fun r59 σ59 τ59 h => ?_)
    refine x_if_eq X 69 dX11_lateness_62 (by decide) (fun hc => ?_) (fun hc => ?_)
    · have h := h.1 hc
      refine x_sub X [0, 1, 2] (lv' := [(0, .ref (ad 0)), (1, .int v1), (2, .int v2)]) rfl ?_
      exact bX11_lateness_69 X h
    · have h := h.2 hc
      refine x_iconst X dX11_lateness_65 ki_5 ?_
      refine x_goto X (tgt := 70) dX11_lateness_66 (by decide) ?_
      refine x_sub X [0, 1, 2] (lv' := [(0, .ref (ad 0)), (1, .int v1), (2, .int v2)]) rfl ?_
      exact bX11_lateness_70 X h
set_option maxRecDepth 100000 in
set_option maxHeartbeats 4000000 in
theorem kX11_lateness {ad : Nat → Nat} {a1 : Int32} {a2 : Int32} {σ : x_S} {τ : x_L} {Q : Int32 → x_S → x_L → Prop} (h : wX11_lateness a1 a2 σ τ Q) : x_Met yX11_lateness cX11_lateness 6 (Option.some FieldType.int) 4 ad dsM [.ref (ad 0), .int a1, .int a2] σ τ (x_PI Q) := by
  refine x_met (by decide +kernel) (Nat.le_of_ble_eq_true rfl) (fun V X => ?_)
  have X : x_Is V cX11_lateness 6 RX11 (Option.some FieldType.int) ad dsM 4 (x_PI Q) := X
  show V σ τ 0 [(0, .ref (ad 0)), (1, .int a1), (2, .int a2)] []
  refine x_aload_n X dX11_lateness_0 rfl 0 rfl ?_
  refine x_iload_n X dX11_lateness_1 rfl 1 rfl ?_
  refine x_callVi X [.int a1] [] dX11_lateness_2 (kX11_isLate h) cm_X11_isLate ci_X11_isLate w_7_219 dsM_0 ⟨by decide, by decide⟩ rfl (Nat.le_of_ble_eq_true rfl) (fun r2 σ2 τ2 h => ?_)
  refine x_istore_n X (lv' := [(3, .int r2), (0, .ref (ad 0)), (1, .int a1), (2, .int a2)]) dX11_lateness_5 rfl (by decide) rfl ?_
  refine x_aload_n X dX11_lateness_6 rfl 1 rfl ?_
  refine x_iload_n X dX11_lateness_7 rfl 3 rfl ?_
  refine x_callVi X [.int a2] [] dX11_lateness_8 (kX11_isLate h) cm_X11_isLate ci_X11_isLate w_7_219 dsM_0 ⟨by decide, by decide⟩ rfl (Nat.le_of_ble_eq_true rfl) (fun r8 σ8 τ8 h => ?_)
  refine x_istore X (lv' := [(4, .int r8), (3, .int r2), (0, .ref (ad 0)), (1, .int a1), (2, .int a2)]) dX11_lateness_11 (by decide) rfl ?_
  refine x_aload_n X dX11_lateness_13 rfl 2 rfl ?_
  refine x_iconst X dX11_lateness_14 ki_0 ?_
  refine x_bipush X dX11_lateness_15 kb_18 ?_
  refine x_callVv X [.int 0, .int 18] [] dX11_lateness_17 (kX11_copyPlan h) cm_X11_copyPlan ci_X11_copyPlan w_7_82 dsM_0 ⟨by decide, by decide⟩ rfl (Nat.le_of_ble_eq_true rfl) (fun σ17 τ17 h => ?_)
  refine x_aload_n X dX11_lateness_20 rfl 2 rfl ?_
  refine x_iload_n X dX11_lateness_21 rfl 3 rfl ?_
  refine x_iload_n X dX11_lateness_22 rfl 4 rfl ?_
  refine x_callVv X [.int a1, .int a2] [] dX11_lateness_23 (kX11_joinRun h) cm_X11_joinRun ci_X11_joinRun w_8_168 dsM_0 ⟨by decide, by decide⟩ rfl (Nat.le_of_ble_eq_true rfl) (fun σ23 τ23 h => ?_)
  refine x_aload_n X dX11_lateness_26 rfl 2 rfl ?_
  refine x_iload_n X dX11_lateness_27 rfl 3 rfl ?_
  refine x_callVv X [.int a1] [] dX11_lateness_28 (kX11_layTimes h) cm_X11_layTimes ci_X11_layTimes w_7_105 dsM_0 ⟨by decide, by decide⟩ rfl (Nat.le_of_ble_eq_true rfl) (fun σ28 τ28 h => ?_)
  refine x_aload_n X dX11_lateness_31 rfl 2 rfl ?_
  refine x_iload_n X dX11_lateness_32 rfl 4 rfl ?_
  refine x_callVv X [.int a2] [] dX11_lateness_33 (kX11_layTimes h) cm_X11_layTimes ci_X11_layTimes w_7_105 dsM_0 ⟨by decide, by decide⟩ rfl (Nat.le_of_ble_eq_true rfl) (fun σ33 τ33 h => ?_)
  refine x_iload_n X dX11_lateness_36 rfl 1 rfl ?_
  refine x_if_ne X 52 dX11_lateness_37 (by decide) (fun hc => ?_) (fun hc => ?_)
  · have h := h.1 hc
    refine x_sub X [2, 3, 4, 0] (lv' := [(0, .ref (ad 0)), (1, .int a1), (2, .int a2), (4, .int r8)]) rfl ?_
    exact bX11_lateness_52 X h
  · have h := h.2 hc
    refine x_aload_n X dX11_lateness_40 rfl 2 rfl ?_
    refine x_iload_n X dX11_lateness_41 rfl 3 rfl ?_
    refine x_callVi X [.int a1] [] dX11_lateness_42 (kX11_isLate h) cm_X11_isLate ci_X11_isLate w_7_219 dsM_0 ⟨by decide, by decide⟩ rfl (Nat.le_of_ble_eq_true rfl) (fun r42 σ42 τ42 h => ?_)
    refine x_if_eq X 52 dX11_lateness_45 (by decide) (fun hc => ?_) (fun hc => ?_)
    · have h := h.1 hc
      refine x_sub X [2, 3, 4, 0] (lv' := [(0, .ref (ad 0)), (1, .int a1), (2, .int a2), (4, .int r8)]) rfl ?_
      exact bX11_lateness_52 X h
    · have h := h.2 hc
      refine x_iconst X dX11_lateness_48 ki_4 ?_
      refine x_goto X (tgt := 70) dX11_lateness_49 (by decide) ?_
      refine x_sub X [2, 3, 4] (lv' := [(0, .ref (ad 0)), (1, .int a1), (2, .int a2)]) rfl ?_
      exact bX11_lateness_70 X h
theorem dX11_reasonNow_0 : decode cX11_reasonNow 0 = .ok (.iload_n 1, 1) := by decide +kernel
theorem dX11_reasonNow_1 : decode cX11_reasonNow 1 = .ok (.iload_n 2, 1) := by decide +kernel
theorem dX11_reasonNow_2 : decode cX11_reasonNow 2 = .ok (.if_icmp .ne 5, 3) := by decide +kernel
theorem dX11_reasonNow_5 : decode cX11_reasonNow 5 = .ok (.iconst 1, 1) := by decide +kernel
theorem dX11_reasonNow_6 : decode cX11_reasonNow 6 = .ok (.ireturn, 1) := by decide +kernel
theorem dX11_reasonNow_7 : decode cX11_reasonNow 7 = .ok (.aload_n 0, 1) := by decide +kernel
theorem dX11_reasonNow_8 : decode cX11_reasonNow 8 = .ok (.iload_n 1, 1) := by decide +kernel
theorem dX11_reasonNow_9 : decode cX11_reasonNow 9 = .ok (.iload_n 2, 1) := by decide +kernel
theorem dX11_reasonNow_10 : decode cX11_reasonNow 10 = .ok (.invokevirtual 278, 3) := by decide +kernel
theorem dX11_reasonNow_13 : decode cX11_reasonNow 13 = .ok (.aload_n 0, 1) := by decide +kernel
theorem dX11_reasonNow_14 : decode cX11_reasonNow 14 = .ok (.getfield 273, 3) := by decide +kernel
theorem dX11_reasonNow_17 : decode cX11_reasonNow 17 = .ok (.ifCond .ne 5, 3) := by decide +kernel
theorem dX11_reasonNow_20 : decode cX11_reasonNow 20 = .ok (.iconst 2, 1) := by decide +kernel
theorem dX11_reasonNow_21 : decode cX11_reasonNow 21 = .ok (.ireturn, 1) := by decide +kernel
theorem dX11_reasonNow_22 : decode cX11_reasonNow 22 = .ok (.aload_n 0, 1) := by decide +kernel
theorem dX11_reasonNow_23 : decode cX11_reasonNow 23 = .ok (.iload_n 1, 1) := by decide +kernel
theorem dX11_reasonNow_24 : decode cX11_reasonNow 24 = .ok (.aload_n 0, 1) := by decide +kernel
theorem dX11_reasonNow_25 : decode cX11_reasonNow 25 = .ok (.getfield 264, 3) := by decide +kernel
theorem dX11_reasonNow_28 : decode cX11_reasonNow 28 = .ok (.invokevirtual 252, 3) := by decide +kernel
theorem dX11_reasonNow_31 : decode cX11_reasonNow 31 = .ok (.aload_n 0, 1) := by decide +kernel
theorem dX11_reasonNow_32 : decode cX11_reasonNow 32 = .ok (.iload_n 2, 1) := by decide +kernel
theorem dX11_reasonNow_33 : decode cX11_reasonNow 33 = .ok (.aload_n 0, 1) := by decide +kernel
theorem dX11_reasonNow_34 : decode cX11_reasonNow 34 = .ok (.getfield 267, 3) := by decide +kernel
theorem dX11_reasonNow_37 : decode cX11_reasonNow 37 = .ok (.invokevirtual 252, 3) := by decide +kernel
theorem dX11_reasonNow_40 : decode cX11_reasonNow 40 = .ok (.isub, 1) := by decide +kernel
theorem dX11_reasonNow_41 : decode cX11_reasonNow 41 = .ok (.i2l, 1) := by decide +kernel
theorem dX11_reasonNow_42 : decode cX11_reasonNow 42 = .ok (.ldc2_w 310, 3) := by decide +kernel
theorem dX11_reasonNow_45 : decode cX11_reasonNow 45 = .ok (.ldc2_w 289, 3) := by decide +kernel
theorem dX11_reasonNow_48 : decode cX11_reasonNow 48 = .ok (.invokestatic 95, 3) := by decide +kernel
theorem dX11_reasonNow_51 : decode cX11_reasonNow 51 = .ok (.ifCond .eq 12, 3) := by decide +kernel
theorem dX11_reasonNow_54 : decode cX11_reasonNow 54 = .ok (.aload_n 0, 1) := by decide +kernel
theorem dX11_reasonNow_55 : decode cX11_reasonNow 55 = .ok (.iload_n 1, 1) := by decide +kernel
theorem dX11_reasonNow_56 : decode cX11_reasonNow 56 = .ok (.iload_n 2, 1) := by decide +kernel
theorem dX11_reasonNow_57 : decode cX11_reasonNow 57 = .ok (.invokevirtual 312, 3) := by decide +kernel
theorem dX11_reasonNow_60 : decode cX11_reasonNow 60 = .ok (.goto 4, 3) := by decide +kernel
theorem dX11_reasonNow_63 : decode cX11_reasonNow 63 = .ok (.iconst 3, 1) := by decide +kernel
theorem dX11_reasonNow_64 : decode cX11_reasonNow 64 = .ok (.ireturn, 1) := by decide +kernel
theorem cm_X11_reasonNow : x_CM yX11_reasonNow cX11_reasonNow 3 (Option.some FieldType.int) 2 := ⟨w_8_162, w_1_12, by decide +kernel, by decide +kernel⟩
theorem ci_X11_reasonNow : x_CI yX11_reasonNow 13 := ⟨w_8_161, wp_95, (RX11, TX11, 41), rfl, rfl⟩
set_option maxRecDepth 100000 in
set_option maxHeartbeats 4000000 in
theorem bX11_reasonNow_64 {V : x_J} {ad : Nat → Nat} {Q : Int32 → x_S → x_L → Prop} (X : x_Is V cX11_reasonNow 3 RX11 (Option.some FieldType.int) ad dsM 5 (x_PI Q)) {s0 : Int32} {σ : x_S} {τ : x_L} (h : wX11_reasonNow_64 Q s0 σ τ) : V σ τ 64 [] [.int s0] := by
  exact x_iret X dX11_reasonNow_64 ⟨_, rfl, h⟩
set_option maxRecDepth 100000 in
set_option maxHeartbeats 4000000 in
theorem kX11_reasonNow {ad : Nat → Nat} {a1 : Int32} {a2 : Int32} {σ : x_S} {τ : x_L} {Q : Int32 → x_S → x_L → Prop} (h : wX11_reasonNow a1 a2 σ τ Q) : x_Met yX11_reasonNow cX11_reasonNow 3 (Option.some FieldType.int) 5 ad dsM [.ref (ad 0), .int a1, .int a2] σ τ (x_PI Q) := by
  refine x_met (by decide +kernel) (Nat.le_of_ble_eq_true rfl) (fun V X => ?_)
  have X : x_Is V cX11_reasonNow 3 RX11 (Option.some FieldType.int) ad dsM 5 (x_PI Q) := X
  show V σ τ 0 [(0, .ref (ad 0)), (1, .int a1), (2, .int a2)] []
  refine x_iload_n X dX11_reasonNow_0 rfl 1 rfl ?_
  refine x_iload_n X dX11_reasonNow_1 rfl 2 rfl ?_
  refine x_icmp_ne X 7 dX11_reasonNow_2 (by decide) (fun hc => ?_) (fun hc => ?_)
  · have h := h.1 hc
    refine x_aload_n X dX11_reasonNow_7 rfl 0 rfl ?_
    refine x_iload_n X dX11_reasonNow_8 rfl 1 rfl ?_
    refine x_iload_n X dX11_reasonNow_9 rfl 2 rfl ?_
    refine x_callVv X [.int a1, .int a2] [] dX11_reasonNow_10 (kX11_layRun h) cm_X11_layRun ci_X11_layRun w_8_99 dsM_0 ⟨by decide, by decide⟩ rfl (Nat.le_of_ble_eq_true rfl) (fun σ10 τ10 h => ?_)
    refine x_aload_n X dX11_reasonNow_13 rfl 0 rfl ?_
    refine x_getI X dX11_reasonNow_14 fl_11_273 dsM_0 rfl ?_
    refine x_if_ne X 22 dX11_reasonNow_17 (by decide) (fun hc => ?_) (fun hc => ?_)
    · have h := h.1 hc
      refine x_aload_n X dX11_reasonNow_22 rfl 0 rfl ?_
      refine x_iload_n X dX11_reasonNow_23 rfl 1 rfl ?_
      refine x_aload_n X dX11_reasonNow_24 rfl 0 rfl ?_
      refine x_getI X dX11_reasonNow_25 fl_11_264 dsM_0 rfl ?_
      refine x_callVi X [.int a1, .int (σ10 0 19)] [] dX11_reasonNow_28 (kX11_readyAt h) cm_X11_readyAt ci_X11_readyAt w_8_42 dsM_0 ⟨by decide, by decide⟩ rfl (Nat.le_of_ble_eq_true rfl) (fun r28 σ28 τ28 h => ?_)
      refine x_aload_n X dX11_reasonNow_31 rfl 0 rfl ?_
      refine x_iload_n X dX11_reasonNow_32 rfl 2 rfl ?_
      refine x_aload_n X dX11_reasonNow_33 rfl 0 rfl ?_
      refine x_getI X dX11_reasonNow_34 fl_11_267 dsM_0 rfl ?_
      refine x_callVi X [.int a2, .int (σ28 0 20)] [.int r28] dX11_reasonNow_37 (kX11_readyAt h) cm_X11_readyAt ci_X11_readyAt w_8_42 dsM_0 ⟨by decide, by decide⟩ rfl (Nat.le_of_ble_eq_true rfl) (fun r37 σ37 τ37 h => ?_)
      refine x_isub X dX11_reasonNow_40 ?_
      refine x_i2l X dX11_reasonNow_41 ?_
      refine x_ldc2 X dX11_reasonNow_42 w_8_163 ?_
      refine x_ldc2 X dX11_reasonNow_45 w_8_128 ?_
      refine x_callSi X [.long (((r28 - r37) : Int32).toInt64), .long (-120), .long 120] [] dX11_reasonNow_48 (kX11_inRange h) cm_X11_inRange w_7_91 rfl w_7_90 ⟨by decide, by decide⟩ rfl (Nat.le_of_ble_eq_true rfl) (fun r48 σ48 τ48 h => ?_)
      refine x_if_eq X 63 dX11_reasonNow_51 (by decide) (fun hc => ?_) (fun hc => ?_)
      · have h := h.1 hc
        refine x_iconst X dX11_reasonNow_63 ki_3 ?_
        refine x_sub X [] (lv' := []) rfl ?_
        exact bX11_reasonNow_64 X h
      · have h := h.2 hc
        refine x_aload_n X dX11_reasonNow_54 rfl 0 rfl ?_
        refine x_iload_n X dX11_reasonNow_55 rfl 1 rfl ?_
        refine x_iload_n X dX11_reasonNow_56 rfl 2 rfl ?_
        refine x_callVi X [.int a1, .int a2] [] dX11_reasonNow_57 (kX11_lateness h) cm_X11_lateness ci_X11_lateness w_8_164 dsM_0 ⟨by decide, by decide⟩ rfl (Nat.le_of_ble_eq_true rfl) (fun r57 σ57 τ57 h => ?_)
        refine x_goto X (tgt := 64) dX11_reasonNow_60 (by decide) ?_
        refine x_sub X [] (lv' := []) rfl ?_
        exact bX11_reasonNow_64 X h
    · have h := h.2 hc
      refine x_iconst X dX11_reasonNow_20 ki_2 ?_
      exact x_iret X dX11_reasonNow_21 ⟨_, rfl, h⟩
  · have h := h.2 hc
    refine x_iconst X dX11_reasonNow_5 ki_1 ?_
    exact x_iret X dX11_reasonNow_6 ⟨_, rfl, h⟩
theorem dX11_reason_0 : decode cX11_reason 0 = .ok (.aload_n 0, 1) := by decide +kernel
theorem dX11_reason_1 : decode cX11_reason 1 = .ok (.iconst 0, 1) := by decide +kernel
theorem dX11_reason_2 : decode cX11_reason 2 = .ok (.putfield 82, 3) := by decide +kernel
theorem dX11_reason_5 : decode cX11_reason 5 = .ok (.aload_n 0, 1) := by decide +kernel
theorem dX11_reason_6 : decode cX11_reason 6 = .ok (.iload_n 1, 1) := by decide +kernel
theorem dX11_reason_7 : decode cX11_reason 7 = .ok (.iload_n 2, 1) := by decide +kernel
theorem dX11_reason_8 : decode cX11_reason 8 = .ok (.invokevirtual 261, 3) := by decide +kernel
theorem dX11_reason_11 : decode cX11_reason 11 = .ok (.ifCond .eq 7, 3) := by decide +kernel
theorem dX11_reason_14 : decode cX11_reason 14 = .ok (.iconst 0, 1) := by decide +kernel
theorem dX11_reason_15 : decode cX11_reason 15 = .ok (.goto 9, 3) := by decide +kernel
theorem dX11_reason_18 : decode cX11_reason 18 = .ok (.aload_n 0, 1) := by decide +kernel
theorem dX11_reason_19 : decode cX11_reason 19 = .ok (.iload_n 1, 1) := by decide +kernel
theorem dX11_reason_20 : decode cX11_reason 20 = .ok (.iload_n 2, 1) := by decide +kernel
theorem dX11_reason_21 : decode cX11_reason 21 = .ok (.invokevirtual 315, 3) := by decide +kernel
theorem dX11_reason_24 : decode cX11_reason 24 = .ok (.ireturn, 1) := by decide +kernel
theorem cm_X11_reason : x_CM yX11_reason cX11_reason 3 (Option.some FieldType.int) 2 := ⟨w_8_158, w_1_12, by decide +kernel, by decide +kernel⟩
theorem ci_X11_reason : x_CI yX11_reason 13 := ⟨w_8_156, w_8_157, (RX11, TX11, 41), rfl, rfl⟩
set_option maxRecDepth 100000 in
set_option maxHeartbeats 4000000 in
theorem bX11_reason_24 {V : x_J} {ad : Nat → Nat} {Q : Int32 → x_S → x_L → Prop} (X : x_Is V cX11_reason 3 RX11 (Option.some FieldType.int) ad dsM 7 (x_PI Q)) {s0 : Int32} {σ : x_S} {τ : x_L} (h : wX11_reason_24 Q s0 σ τ) : V σ τ 24 [] [.int s0] := by
  exact x_iret X dX11_reason_24 ⟨_, rfl, h⟩
set_option maxRecDepth 100000 in
set_option maxHeartbeats 4000000 in
theorem kX11_reason {ad : Nat → Nat} {a1 : Int32} {a2 : Int32} {σ : x_S} {τ : x_L} {Q : Int32 → x_S → x_L → Prop} (h : wX11_reason a1 a2 σ τ Q) : x_Met yX11_reason cX11_reason 3 (Option.some FieldType.int) 7 ad dsM [.ref (ad 0), .int a1, .int a2] σ τ (x_PI Q) := by
  refine x_met (by decide +kernel) (Nat.le_of_ble_eq_true rfl) (fun V X => ?_)
  have X : x_Is V cX11_reason 3 RX11 (Option.some FieldType.int) ad dsM 7 (x_PI Q) := X
  show V σ τ 0 [(0, .ref (ad 0)), (1, .int a1), (2, .int a2)] []
  refine x_aload_n X dX11_reason_0 rfl 0 rfl ?_
  refine x_iconst X dX11_reason_1 ki_0 ?_
  refine x_putI X dX11_reason_2 fl_11_82 ft_11_5 dsM_0 rfl ?_
  refine x_aload_n X dX11_reason_5 rfl 0 rfl ?_
  refine x_iload_n X dX11_reason_6 rfl 1 rfl ?_
  refine x_iload_n X dX11_reason_7 rfl 2 rfl ?_
  refine x_callVi X [.int a1, .int a2] [] dX11_reason_8 (kX11_notTwo h) cm_X11_notTwo ci_X11_notTwo w_8_86 dsM_0 ⟨by decide, by decide⟩ rfl (Nat.le_of_ble_eq_true rfl) (fun r8 σ8 τ8 h => ?_)
  refine x_if_eq X 18 dX11_reason_11 (by decide) (fun hc => ?_) (fun hc => ?_)
  · have h := h.1 hc
    refine x_aload_n X dX11_reason_18 rfl 0 rfl ?_
    refine x_iload_n X dX11_reason_19 rfl 1 rfl ?_
    refine x_iload_n X dX11_reason_20 rfl 2 rfl ?_
    refine x_callVi X [.int a1, .int a2] [] dX11_reason_21 (kX11_reasonNow h) cm_X11_reasonNow ci_X11_reasonNow w_8_159 dsM_0 ⟨by decide, by decide⟩ rfl (Nat.le_of_ble_eq_true rfl) (fun r21 σ21 τ21 h => ?_)
    refine x_sub X [] (lv' := []) rfl ?_
    exact bX11_reason_24 X h
  · have h := h.2 hc
    refine x_iconst X dX11_reason_14 ki_0 ?_
    refine x_goto X (tgt := 24) dX11_reason_15 (by decide) ?_
    refine x_sub X [] (lv' := []) rfl ?_
    exact bX11_reason_24 X h
theorem dX11_mergeNow_0 : decode cX11_mergeNow 0 = .ok (.aload_n 0, 1) := by decide +kernel
theorem dX11_mergeNow_1 : decode cX11_mergeNow 1 = .ok (.invokevirtual 200, 3) := by decide +kernel
theorem dX11_mergeNow_4 : decode cX11_mergeNow 4 = .ok (.aload_n 0, 1) := by decide +kernel
theorem dX11_mergeNow_5 : decode cX11_mergeNow 5 = .ok (.iload_n 1, 1) := by decide +kernel
theorem dX11_mergeNow_6 : decode cX11_mergeNow 6 = .ok (.iload_n 2, 1) := by decide +kernel
theorem dX11_mergeNow_7 : decode cX11_mergeNow 7 = .ok (.invokevirtual 315, 3) := by decide +kernel
theorem dX11_mergeNow_10 : decode cX11_mergeNow 10 = .ok (.ifCond .le 6, 3) := by decide +kernel
theorem dX11_mergeNow_13 : decode cX11_mergeNow 13 = .ok (.bipush (-3), 2) := by decide +kernel
theorem dX11_mergeNow_15 : decode cX11_mergeNow 15 = .ok (.ireturn, 1) := by decide +kernel
theorem dX11_mergeNow_16 : decode cX11_mergeNow 16 = .ok (.aload_n 0, 1) := by decide +kernel
theorem dX11_mergeNow_17 : decode cX11_mergeNow 17 = .ok (.invokevirtual 286, 3) := by decide +kernel
theorem dX11_mergeNow_20 : decode cX11_mergeNow 20 = .ok (.aload_n 0, 1) := by decide +kernel
theorem dX11_mergeNow_21 : decode cX11_mergeNow 21 = .ok (.iload_n 1, 1) := by decide +kernel
theorem dX11_mergeNow_22 : decode cX11_mergeNow 22 = .ok (.iload_n 2, 1) := by decide +kernel
theorem dX11_mergeNow_23 : decode cX11_mergeNow 23 = .ok (.invokevirtual 307, 3) := by decide +kernel
theorem dX11_mergeNow_26 : decode cX11_mergeNow 26 = .ok (.aload_n 0, 1) := by decide +kernel
theorem dX11_mergeNow_27 : decode cX11_mergeNow 27 = .ok (.getfield 273, 3) := by decide +kernel
theorem dX11_mergeNow_30 : decode cX11_mergeNow 30 = .ok (.ireturn, 1) := by decide +kernel
theorem cm_X11_mergeNow : x_CM yX11_mergeNow cX11_mergeNow 3 (Option.some FieldType.int) 2 := ⟨w_8_182, w_1_12, by decide +kernel, by decide +kernel⟩
theorem ci_X11_mergeNow : x_CI yX11_mergeNow 13 := ⟨w_8_181, wp_98, (RX11, TX11, 41), rfl, rfl⟩
set_option maxRecDepth 100000 in
set_option maxHeartbeats 4000000 in
theorem kX11_mergeNow {ad : Nat → Nat} {a1 : Int32} {a2 : Int32} {σ : x_S} {τ : x_L} {Q : Int32 → x_S → x_L → Prop} (h : wX11_mergeNow a1 a2 σ τ Q) : x_Met yX11_mergeNow cX11_mergeNow 3 (Option.some FieldType.int) 6 ad dsM [.ref (ad 0), .int a1, .int a2] σ τ (x_PI Q) := by
  refine x_met (by decide +kernel) (Nat.le_of_ble_eq_true rfl) (fun V X => ?_)
  have X : x_Is V cX11_mergeNow 3 RX11 (Option.some FieldType.int) ad dsM 6 (x_PI Q) := X
  show V σ τ 0 [(0, .ref (ad 0)), (1, .int a1), (2, .int a2)] []
  refine x_aload_n X dX11_mergeNow_0 rfl 0 rfl ?_
  refine x_callVv X [] [] dX11_mergeNow_1 (kX11_lay h) cm_X11_lay ci_X11_lay w_7_101 dsM_0 ⟨by decide, by decide⟩ rfl (Nat.le_of_ble_eq_true rfl) (fun σ1 τ1 h => ?_)
  refine x_aload_n X dX11_mergeNow_4 rfl 0 rfl ?_
  refine x_iload_n X dX11_mergeNow_5 rfl 1 rfl ?_
  refine x_iload_n X dX11_mergeNow_6 rfl 2 rfl ?_
  refine x_callVi X [.int a1, .int a2] [] dX11_mergeNow_7 (kX11_reasonNow h) cm_X11_reasonNow ci_X11_reasonNow w_8_159 dsM_0 ⟨by decide, by decide⟩ rfl (Nat.le_of_ble_eq_true rfl) (fun r7 σ7 τ7 h => ?_)
  refine x_if_le X 16 dX11_mergeNow_10 (by decide) (fun hc => ?_) (fun hc => ?_)
  · have h := h.1 hc
    refine x_aload_n X dX11_mergeNow_16 rfl 0 rfl ?_
    refine x_callVv X [] [] dX11_mergeNow_17 (kX11_keep h) cm_X11_keep ci_X11_keep w_8_133 dsM_0 ⟨by decide, by decide⟩ rfl (Nat.le_of_ble_eq_true rfl) (fun σ17 τ17 h => ?_)
    refine x_aload_n X dX11_mergeNow_20 rfl 0 rfl ?_
    refine x_iload_n X dX11_mergeNow_21 rfl 1 rfl ?_
    refine x_iload_n X dX11_mergeNow_22 rfl 2 rfl ?_
    refine x_callVv X [.int a1, .int a2] [] dX11_mergeNow_23 (kX11_joinRun h) cm_X11_joinRun ci_X11_joinRun w_8_168 dsM_0 ⟨by decide, by decide⟩ rfl (Nat.le_of_ble_eq_true rfl) (fun σ23 τ23 h => ?_)
    refine x_aload_n X dX11_mergeNow_26 rfl 0 rfl ?_
    refine x_getI X dX11_mergeNow_27 fl_11_273 dsM_0 rfl ?_
    exact x_iret X dX11_mergeNow_30 ⟨_, rfl, h⟩
  · have h := h.2 hc
    refine x_bipush X dX11_mergeNow_13 kb_m3 ?_
    exact x_iret X dX11_mergeNow_15 ⟨_, rfl, h⟩
theorem dX11_merge_0 : decode cX11_merge 0 = .ok (.aload_n 0, 1) := by decide +kernel
theorem dX11_merge_1 : decode cX11_merge 1 = .ok (.iconst 0, 1) := by decide +kernel
theorem dX11_merge_2 : decode cX11_merge 2 = .ok (.putfield 82, 3) := by decide +kernel
theorem dX11_merge_5 : decode cX11_merge 5 = .ok (.aload_n 0, 1) := by decide +kernel
theorem dX11_merge_6 : decode cX11_merge 6 = .ok (.iload_n 1, 1) := by decide +kernel
theorem dX11_merge_7 : decode cX11_merge 7 = .ok (.iload_n 2, 1) := by decide +kernel
theorem dX11_merge_8 : decode cX11_merge 8 = .ok (.invokevirtual 261, 3) := by decide +kernel
theorem dX11_merge_11 : decode cX11_merge 11 = .ok (.ifCond .eq 7, 3) := by decide +kernel
theorem dX11_merge_14 : decode cX11_merge 14 = .ok (.iconst 0, 1) := by decide +kernel
theorem dX11_merge_15 : decode cX11_merge 15 = .ok (.goto 9, 3) := by decide +kernel
theorem dX11_merge_18 : decode cX11_merge 18 = .ok (.aload_n 0, 1) := by decide +kernel
theorem dX11_merge_19 : decode cX11_merge 19 = .ok (.iload_n 1, 1) := by decide +kernel
theorem dX11_merge_20 : decode cX11_merge 20 = .ok (.iload_n 2, 1) := by decide +kernel
theorem dX11_merge_21 : decode cX11_merge 21 = .ok (.invokevirtual 318, 3) := by decide +kernel
theorem dX11_merge_24 : decode cX11_merge 24 = .ok (.ireturn, 1) := by decide +kernel
theorem cm_X11_merge : x_CM yX11_merge cX11_merge 3 (Option.some FieldType.int) 2 := ⟨w_8_178, w_1_12, by decide +kernel, by decide +kernel⟩
theorem ci_X11_merge : x_CI yX11_merge 13 := ⟨w_8_176, w_8_177, (RX11, TX11, 41), rfl, rfl⟩
set_option maxRecDepth 100000 in
set_option maxHeartbeats 4000000 in
theorem bX11_merge_24 {V : x_J} {ad : Nat → Nat} {Q : Int32 → x_S → x_L → Prop} (X : x_Is V cX11_merge 3 RX11 (Option.some FieldType.int) ad dsM 7 (x_PI Q)) {s0 : Int32} {σ : x_S} {τ : x_L} (h : wX11_merge_24 Q s0 σ τ) : V σ τ 24 [] [.int s0] := by
  exact x_iret X dX11_merge_24 ⟨_, rfl, h⟩
set_option maxRecDepth 100000 in
set_option maxHeartbeats 4000000 in
theorem kX11_merge {ad : Nat → Nat} {a1 : Int32} {a2 : Int32} {σ : x_S} {τ : x_L} {Q : Int32 → x_S → x_L → Prop} (h : wX11_merge a1 a2 σ τ Q) : x_Met yX11_merge cX11_merge 3 (Option.some FieldType.int) 7 ad dsM [.ref (ad 0), .int a1, .int a2] σ τ (x_PI Q) := by
  refine x_met (by decide +kernel) (Nat.le_of_ble_eq_true rfl) (fun V X => ?_)
  have X : x_Is V cX11_merge 3 RX11 (Option.some FieldType.int) ad dsM 7 (x_PI Q) := X
  show V σ τ 0 [(0, .ref (ad 0)), (1, .int a1), (2, .int a2)] []
  refine x_aload_n X dX11_merge_0 rfl 0 rfl ?_
  refine x_iconst X dX11_merge_1 ki_0 ?_
  refine x_putI X dX11_merge_2 fl_11_82 ft_11_5 dsM_0 rfl ?_
  refine x_aload_n X dX11_merge_5 rfl 0 rfl ?_
  refine x_iload_n X dX11_merge_6 rfl 1 rfl ?_
  refine x_iload_n X dX11_merge_7 rfl 2 rfl ?_
  refine x_callVi X [.int a1, .int a2] [] dX11_merge_8 (kX11_notTwo h) cm_X11_notTwo ci_X11_notTwo w_8_86 dsM_0 ⟨by decide, by decide⟩ rfl (Nat.le_of_ble_eq_true rfl) (fun r8 σ8 τ8 h => ?_)
  refine x_if_eq X 18 dX11_merge_11 (by decide) (fun hc => ?_) (fun hc => ?_)
  · have h := h.1 hc
    refine x_aload_n X dX11_merge_18 rfl 0 rfl ?_
    refine x_iload_n X dX11_merge_19 rfl 1 rfl ?_
    refine x_iload_n X dX11_merge_20 rfl 2 rfl ?_
    refine x_callVi X [.int a1, .int a2] [] dX11_merge_21 (kX11_mergeNow h) cm_X11_mergeNow ci_X11_mergeNow w_8_179 dsM_0 ⟨by decide, by decide⟩ rfl (Nat.le_of_ble_eq_true rfl) (fun r21 σ21 τ21 h => ?_)
    refine x_sub X [] (lv' := []) rfl ?_
    exact bX11_merge_24 X h
  · have h := h.2 hc
    refine x_iconst X dX11_merge_14 ki_0 ?_
    refine x_goto X (tgt := 24) dX11_merge_15 (by decide) ?_
    refine x_sub X [] (lv' := []) rfl ?_
    exact bX11_merge_24 X h
theorem dX11_gainNow_0 : decode cX11_gainNow 0 = .ok (.aload_n 0, 1) := by decide +kernel
theorem dX11_gainNow_1 : decode cX11_gainNow 1 = .ok (.iconst 0, 1) := by decide +kernel
theorem dX11_gainNow_2 : decode cX11_gainNow 2 = .ok (.bipush 18, 2) := by decide +kernel
theorem dX11_gainNow_4 : decode cX11_gainNow 4 = .ok (.invokevirtual 91, 3) := by decide +kernel
theorem dX11_gainNow_7 : decode cX11_gainNow 7 = .ok (.aload_n 0, 1) := by decide +kernel
theorem dX11_gainNow_8 : decode cX11_gainNow 8 = .ok (.iload_n 1, 1) := by decide +kernel
theorem dX11_gainNow_9 : decode cX11_gainNow 9 = .ok (.iload_n 2, 1) := by decide +kernel
theorem dX11_gainNow_10 : decode cX11_gainNow 10 = .ok (.invokevirtual 307, 3) := by decide +kernel
theorem dX11_gainNow_13 : decode cX11_gainNow 13 = .ok (.aload_n 0, 1) := by decide +kernel
theorem dX11_gainNow_14 : decode cX11_gainNow 14 = .ok (.invokevirtual 200, 3) := by decide +kernel
theorem dX11_gainNow_17 : decode cX11_gainNow 17 = .ok (.iload_n 3, 1) := by decide +kernel
theorem dX11_gainNow_18 : decode cX11_gainNow 18 = .ok (.aload_n 0, 1) := by decide +kernel
theorem dX11_gainNow_19 : decode cX11_gainNow 19 = .ok (.iconst 0, 1) := by decide +kernel
theorem dX11_gainNow_20 : decode cX11_gainNow 20 = .ok (.invokevirtual 217, 3) := by decide +kernel
theorem dX11_gainNow_23 : decode cX11_gainNow 23 = .ok (.isub, 1) := by decide +kernel
theorem dX11_gainNow_24 : decode cX11_gainNow 24 = .ok (.istore 4, 2) := by decide +kernel
theorem dX11_gainNow_26 : decode cX11_gainNow 26 = .ok (.aload_n 0, 1) := by decide +kernel
theorem dX11_gainNow_27 : decode cX11_gainNow 27 = .ok (.bipush 18, 2) := by decide +kernel
theorem dX11_gainNow_29 : decode cX11_gainNow 29 = .ok (.iconst 0, 1) := by decide +kernel
theorem dX11_gainNow_30 : decode cX11_gainNow 30 = .ok (.invokevirtual 91, 3) := by decide +kernel
theorem dX11_gainNow_33 : decode cX11_gainNow 33 = .ok (.iconst 0, 1) := by decide +kernel
theorem dX11_gainNow_34 : decode cX11_gainNow 34 = .ok (.istore 5, 2) := by decide +kernel
theorem dX11_gainNow_36 : decode cX11_gainNow 36 = .ok (.iload 5, 2) := by decide +kernel
theorem dX11_gainNow_38 : decode cX11_gainNow 38 = .ok (.aload_n 0, 1) := by decide +kernel
theorem dX11_gainNow_39 : decode cX11_gainNow 39 = .ok (.getfield 17, 3) := by decide +kernel
theorem dX11_gainNow_42 : decode cX11_gainNow 42 = .ok (.iconst 1, 1) := by decide +kernel
theorem dX11_gainNow_43 : decode cX11_gainNow 43 = .ok (.iaload, 1) := by decide +kernel
theorem dX11_gainNow_44 : decode cX11_gainNow 44 = .ok (.if_icmp .ge 15, 3) := by decide +kernel
theorem dX11_gainNow_47 : decode cX11_gainNow 47 = .ok (.aload_n 0, 1) := by decide +kernel
theorem dX11_gainNow_48 : decode cX11_gainNow 48 = .ok (.iload 5, 2) := by decide +kernel
theorem dX11_gainNow_50 : decode cX11_gainNow 50 = .ok (.invokevirtual 172, 3) := by decide +kernel
theorem dX11_gainNow_53 : decode cX11_gainNow 53 = .ok (.iinc 5 1, 3) := by decide +kernel
theorem dX11_gainNow_56 : decode cX11_gainNow 56 = .ok (.goto (-20), 3) := by decide +kernel
theorem dX11_gainNow_59 : decode cX11_gainNow 59 = .ok (.iload 4, 2) := by decide +kernel
theorem dX11_gainNow_61 : decode cX11_gainNow 61 = .ok (.ireturn, 1) := by decide +kernel
theorem cm_X11_gainNow : x_CM yX11_gainNow cX11_gainNow 6 (Option.some FieldType.int) 3 := ⟨w_8_190, w_1_12, by decide +kernel, by decide +kernel⟩
theorem ci_X11_gainNow : x_CI yX11_gainNow 13 := ⟨w_8_189, wp_99, (RX11, TX11, 41), rfl, rfl⟩
set_option maxRecDepth 100000 in
set_option maxHeartbeats 4000000 in
theorem bX11_gainNow_36 {V : x_J} {ad : Nat → Nat} {Q : Int32 → x_S → x_L → Prop} (X : x_Is V cX11_gainNow 6 RX11 (Option.some FieldType.int) ad dsM 6 (x_PI Q)) {K36 : Int32 → Int32 → x_S → x_L → Prop} (hK36 : ∀ v4 v5 σ τ, K36 v4 v5 σ τ → V σ τ 36 [(0, .ref (ad 0)), (4, .int v4), (5, .int v5)] []) {v4 : Int32} {v5 : Int32} {σ : x_S} {τ : x_L} (h : wX11_gainNow_36 Q K36 v4 v5 σ τ) : V σ τ 36 [(0, .ref (ad 0)), (4, .int v4), (5, .int v5)] [] := by
  refine x_iload X dX11_gainNow_36 2 rfl ?_
  refine x_aload_n X dX11_gainNow_38 rfl 0 rfl ?_
  refine x_getR X (j := 3) dX11_gainNow_39 fl_11_17 dsM_0 rfl ?_
  refine x_iconst X dX11_gainNow_42 ki_1 ?_
  refine x_iald X dX11_gainNow_43 dsM_3 (x_inl (by decide)) ?_
  refine x_icmp_ge X 59 dX11_gainNow_44 (by decide) (fun hc => ?_) (fun hc => ?_)
  · have h := h.1 hc
    refine x_iload X dX11_gainNow_59 1 rfl ?_
    exact x_iret X dX11_gainNow_61 ⟨_, rfl, h⟩
  · have h := h.2 hc
    refine x_aload_n X dX11_gainNow_47 rfl 0 rfl ?_
    refine x_iload X dX11_gainNow_48 2 rfl ?_
    refine x_callVv X [.int v5] [] dX11_gainNow_50 (kX11_layTimes h) cm_X11_layTimes ci_X11_layTimes w_7_105 dsM_0 ⟨by decide, by decide⟩ rfl (Nat.le_of_ble_eq_true rfl) (fun σ50 τ50 h => ?_)
    refine x_iinc X (k := 2) (lv' := [(5, .int (v5 + 1)), (0, .ref (ad 0)), (4, .int v4)]) dX11_gainNow_53 rfl ki_1 (by decide) rfl ?_
    refine x_goto X (tgt := 36) dX11_gainNow_56 (by decide) ?_
    refine x_sub X [1, 2, 0] (lv' := [(0, .ref (ad 0)), (4, .int v4), (5, .int (v5 + 1))]) rfl ?_
    exact hK36 _ _ _ _ h
set_option maxRecDepth 100000 in
set_option maxHeartbeats 4000000 in
theorem kX11_gainNow {ad : Nat → Nat} {a1 : Int32} {a2 : Int32} {a3 : Int32} {σ : x_S} {τ : x_L} {Q : Int32 → x_S → x_L → Prop} (h : wX11_gainNow a1 a2 a3 σ τ Q) : x_Met yX11_gainNow cX11_gainNow 6 (Option.some FieldType.int) 6 ad dsM [.ref (ad 0), .int a1, .int a2, .int a3] σ τ (x_PI Q) := by
  refine x_met (by decide +kernel) (Nat.le_of_ble_eq_true rfl) (fun V X => ?_)
  have X : x_Is V cX11_gainNow 6 RX11 (Option.some FieldType.int) ad dsM 6 (x_PI Q) := X
  show V σ τ 0 [(0, .ref (ad 0)), (1, .int a1), (2, .int a2), (3, .int a3)] []
  refine x_aload_n X dX11_gainNow_0 rfl 0 rfl ?_
  refine x_iconst X dX11_gainNow_1 ki_0 ?_
  refine x_bipush X dX11_gainNow_2 kb_18 ?_
  refine x_callVv X [.int 0, .int 18] [] dX11_gainNow_4 (kX11_copyPlan h) cm_X11_copyPlan ci_X11_copyPlan w_7_82 dsM_0 ⟨by decide, by decide⟩ rfl (Nat.le_of_ble_eq_true rfl) (fun σ4 τ4 h => ?_)
  refine x_aload_n X dX11_gainNow_7 rfl 0 rfl ?_
  refine x_iload_n X dX11_gainNow_8 rfl 1 rfl ?_
  refine x_iload_n X dX11_gainNow_9 rfl 2 rfl ?_
  refine x_callVv X [.int a1, .int a2] [] dX11_gainNow_10 (kX11_joinRun h) cm_X11_joinRun ci_X11_joinRun w_8_168 dsM_0 ⟨by decide, by decide⟩ rfl (Nat.le_of_ble_eq_true rfl) (fun σ10 τ10 h => ?_)
  refine x_aload_n X dX11_gainNow_13 rfl 0 rfl ?_
  refine x_callVv X [] [] dX11_gainNow_14 (kX11_lay h) cm_X11_lay ci_X11_lay w_7_101 dsM_0 ⟨by decide, by decide⟩ rfl (Nat.le_of_ble_eq_true rfl) (fun σ14 τ14 h => ?_)
  refine x_iload_n X dX11_gainNow_17 rfl 3 rfl ?_
  refine x_aload_n X dX11_gainNow_18 rfl 0 rfl ?_
  refine x_iconst X dX11_gainNow_19 ki_0 ?_
  refine x_callVi X [.int 0] [.int a3] dX11_gainNow_20 (kX11_sumOfAll h) cm_X11_sumOfAll ci_X11_sumOfAll w_7_230 dsM_0 ⟨by decide, by decide⟩ rfl (Nat.le_of_ble_eq_true rfl) (fun r20 σ20 τ20 h => ?_)
  refine x_isub X dX11_gainNow_23 ?_
  refine x_istore X (lv' := [(4, .int (a3 - r20)), (0, .ref (ad 0)), (1, .int a1), (2, .int a2), (3, .int a3)]) dX11_gainNow_24 (by decide) rfl ?_
  refine x_aload_n X dX11_gainNow_26 rfl 1 rfl ?_
  refine x_bipush X dX11_gainNow_27 kb_18 ?_
  refine x_iconst X dX11_gainNow_29 ki_0 ?_
  refine x_callVv X [.int 18, .int 0] [] dX11_gainNow_30 (kX11_copyPlan h) cm_X11_copyPlan ci_X11_copyPlan w_7_82 dsM_0 ⟨by decide, by decide⟩ rfl (Nat.le_of_ble_eq_true rfl) (fun σ30 τ30 h => ?_)
  refine x_iconst X dX11_gainNow_33 ki_0 ?_
  refine x_istore X (lv' := [(5, .int 0), (4, .int (a3 - r20)), (0, .ref (ad 0)), (1, .int a1), (2, .int a2), (3, .int a3)]) dX11_gainNow_34 (by decide) rfl ?_
  refine x_sub X [2, 1, 0] (lv' := [(0, .ref (ad 0)), (4, .int (a3 - r20)), (5, .int 0)]) rfl ?_
  exact x_l2_G (fun v4 v5 σ τ => V σ τ 36 [(0, .ref (ad 0)), (4, .int v4), (5, .int v5)] []) (fun K36 hK36 v4 v5 σ τ h => bX11_gainNow_36 X hK36 h) h
theorem dX11_gain_0 : decode cX11_gain 0 = .ok (.aload_n 0, 1) := by decide +kernel
theorem dX11_gain_1 : decode cX11_gain 1 = .ok (.iconst 0, 1) := by decide +kernel
theorem dX11_gain_2 : decode cX11_gain 2 = .ok (.putfield 82, 3) := by decide +kernel
theorem dX11_gain_5 : decode cX11_gain 5 = .ok (.aload_n 0, 1) := by decide +kernel
theorem dX11_gain_6 : decode cX11_gain 6 = .ok (.iload_n 1, 1) := by decide +kernel
theorem dX11_gain_7 : decode cX11_gain 7 = .ok (.iload_n 2, 1) := by decide +kernel
theorem dX11_gain_8 : decode cX11_gain 8 = .ok (.invokevirtual 261, 3) := by decide +kernel
theorem dX11_gain_11 : decode cX11_gain 11 = .ok (.ifCond .eq 5, 3) := by decide +kernel
theorem dX11_gain_14 : decode cX11_gain 14 = .ok (.iconst 0, 1) := by decide +kernel
theorem dX11_gain_15 : decode cX11_gain 15 = .ok (.ireturn, 1) := by decide +kernel
theorem dX11_gain_16 : decode cX11_gain 16 = .ok (.aload_n 0, 1) := by decide +kernel
theorem dX11_gain_17 : decode cX11_gain 17 = .ok (.iconst 0, 1) := by decide +kernel
theorem dX11_gain_18 : decode cX11_gain 18 = .ok (.invokevirtual 217, 3) := by decide +kernel
theorem dX11_gain_21 : decode cX11_gain 21 = .ok (.istore_n 3, 1) := by decide +kernel
theorem dX11_gain_22 : decode cX11_gain 22 = .ok (.aload_n 0, 1) := by decide +kernel
theorem dX11_gain_23 : decode cX11_gain 23 = .ok (.aload_n 0, 1) := by decide +kernel
theorem dX11_gain_24 : decode cX11_gain 24 = .ok (.iload_n 1, 1) := by decide +kernel
theorem dX11_gain_25 : decode cX11_gain 25 = .ok (.iload_n 2, 1) := by decide +kernel
theorem dX11_gain_26 : decode cX11_gain 26 = .ok (.invokevirtual 315, 3) := by decide +kernel
theorem dX11_gain_29 : decode cX11_gain 29 = .ok (.ifCond .le 7, 3) := by decide +kernel
theorem dX11_gain_32 : decode cX11_gain 32 = .ok (.iconst 1, 1) := by decide +kernel
theorem dX11_gain_33 : decode cX11_gain 33 = .ok (.goto 4, 3) := by decide +kernel
theorem dX11_gain_36 : decode cX11_gain 36 = .ok (.iconst 0, 1) := by decide +kernel
theorem dX11_gain_37 : decode cX11_gain 37 = .ok (.iconst 2, 1) := by decide +kernel
theorem dX11_gain_38 : decode cX11_gain 38 = .ok (.invokevirtual 235, 3) := by decide +kernel
theorem dX11_gain_41 : decode cX11_gain 41 = .ok (.ifCond .eq 7, 3) := by decide +kernel
theorem dX11_gain_44 : decode cX11_gain 44 = .ok (.iconst 0, 1) := by decide +kernel
theorem dX11_gain_45 : decode cX11_gain 45 = .ok (.goto 10, 3) := by decide +kernel
theorem dX11_gain_48 : decode cX11_gain 48 = .ok (.aload_n 0, 1) := by decide +kernel
theorem dX11_gain_49 : decode cX11_gain 49 = .ok (.iload_n 1, 1) := by decide +kernel
theorem dX11_gain_50 : decode cX11_gain 50 = .ok (.iload_n 2, 1) := by decide +kernel
theorem dX11_gain_51 : decode cX11_gain 51 = .ok (.iload_n 3, 1) := by decide +kernel
theorem dX11_gain_52 : decode cX11_gain 52 = .ok (.invokevirtual 321, 3) := by decide +kernel
theorem dX11_gain_55 : decode cX11_gain 55 = .ok (.ireturn, 1) := by decide +kernel
theorem cm_X11_gain : x_CM yX11_gain cX11_gain 4 (Option.some FieldType.int) 2 := ⟨w_8_186, w_1_12, by decide +kernel, by decide +kernel⟩
theorem ci_X11_gain : x_CI yX11_gain 13 := ⟨w_8_184, w_8_185, (RX11, TX11, 41), rfl, rfl⟩
set_option maxRecDepth 100000 in
set_option maxHeartbeats 4000000 in
theorem bX11_gain_55 {V : x_J} {ad : Nat → Nat} {Q : Int32 → x_S → x_L → Prop} (X : x_Is V cX11_gain 4 RX11 (Option.some FieldType.int) ad dsM 7 (x_PI Q)) {s0 : Int32} {σ : x_S} {τ : x_L} (h : wX11_gain_55 Q s0 σ τ) : V σ τ 55 [] [.int s0] := by
  exact x_iret X dX11_gain_55 ⟨_, rfl, h⟩
set_option maxRecDepth 100000 in
set_option maxHeartbeats 4000000 in
theorem bX11_gain_37 {V : x_J} {ad : Nat → Nat} {Q : Int32 → x_S → x_L → Prop} (X : x_Is V cX11_gain 4 RX11 (Option.some FieldType.int) ad dsM 7 (x_PI Q)) {v1 : Int32} {v2 : Int32} {v3 : Int32} {s1 : Int32} {σ : x_S} {τ : x_L} (h : wX11_gain_37 Q v1 v2 v3 s1 σ τ) : V σ τ 37 [(0, .ref (ad 0)), (1, .int v1), (2, .int v2), (3, .int v3)] [.int s1, .ref (ad 0)] := by
  refine x_iconst X dX11_gain_37 ki_2 ?_
  refine x_callVi X [.int s1, .int 2] [] dX11_gain_38 (kX11_throwsIf h) cm_X11_throwsIf ci_X11_throwsIf w_8_10 dsM_0 ⟨by decide, by decide⟩ rfl (Nat.le_of_ble_eq_true rfl) (fun r38 σ38 τ38 h => ?_)
  refine x_if_eq X 48 dX11_gain_41 (by decide) (fun hc => ?_) (fun hc => ?_)
  · have h := h.1 hc
    refine x_aload_n X dX11_gain_48 rfl 0 rfl ?_
    refine x_iload_n X dX11_gain_49 rfl 1 rfl ?_
    refine x_iload_n X dX11_gain_50 rfl 2 rfl ?_
    refine x_iload_n X dX11_gain_51 rfl 3 rfl ?_
    refine x_callVi X [.int v1, .int v2, .int v3] [] dX11_gain_52 (kX11_gainNow h) cm_X11_gainNow ci_X11_gainNow w_8_187 dsM_0 ⟨by decide, by decide⟩ rfl (Nat.le_of_ble_eq_true rfl) (fun r52 σ52 τ52 h => ?_)
    refine x_sub X [] (lv' := []) rfl ?_
    exact bX11_gain_55 X h
  · have h := h.2 hc
    refine x_iconst X dX11_gain_44 ki_0 ?_
    refine x_goto X (tgt := 55) dX11_gain_45 (by decide) ?_
    refine x_sub X [] (lv' := []) rfl ?_
    exact bX11_gain_55 X h
set_option maxRecDepth 100000 in
set_option maxHeartbeats 4000000 in
theorem kX11_gain {ad : Nat → Nat} {a1 : Int32} {a2 : Int32} {σ : x_S} {τ : x_L} {Q : Int32 → x_S → x_L → Prop} (h : wX11_gain a1 a2 σ τ Q) : x_Met yX11_gain cX11_gain 4 (Option.some FieldType.int) 7 ad dsM [.ref (ad 0), .int a1, .int a2] σ τ (x_PI Q) := by
  refine x_met (by decide +kernel) (Nat.le_of_ble_eq_true rfl) (fun V X => ?_)
  have X : x_Is V cX11_gain 4 RX11 (Option.some FieldType.int) ad dsM 7 (x_PI Q) := X
  show V σ τ 0 [(0, .ref (ad 0)), (1, .int a1), (2, .int a2)] []
  refine x_aload_n X dX11_gain_0 rfl 0 rfl ?_
  refine x_iconst X dX11_gain_1 ki_0 ?_
  refine x_putI X dX11_gain_2 fl_11_82 ft_11_5 dsM_0 rfl ?_
  refine x_aload_n X dX11_gain_5 rfl 0 rfl ?_
  refine x_iload_n X dX11_gain_6 rfl 1 rfl ?_
  refine x_iload_n X dX11_gain_7 rfl 2 rfl ?_
  refine x_callVi X [.int a1, .int a2] [] dX11_gain_8 (kX11_notTwo h) cm_X11_notTwo ci_X11_notTwo w_8_86 dsM_0 ⟨by decide, by decide⟩ rfl (Nat.le_of_ble_eq_true rfl) (fun r8 σ8 τ8 h => ?_)
  refine x_if_eq X 16 dX11_gain_11 (by decide) (fun hc => ?_) (fun hc => ?_)
  · have h := h.1 hc
    refine x_aload_n X dX11_gain_16 rfl 0 rfl ?_
    refine x_iconst X dX11_gain_17 ki_0 ?_
    refine x_callVi X [.int 0] [] dX11_gain_18 (kX11_sumOfAll h) cm_X11_sumOfAll ci_X11_sumOfAll w_7_230 dsM_0 ⟨by decide, by decide⟩ rfl (Nat.le_of_ble_eq_true rfl) (fun r18 σ18 τ18 h => ?_)
    refine x_istore_n X (lv' := [(3, .int r18), (0, .ref (ad 0)), (1, .int a1), (2, .int a2)]) dX11_gain_21 rfl (by decide) rfl ?_
    refine x_aload_n X dX11_gain_22 rfl 1 rfl ?_
    refine x_aload_n X dX11_gain_23 rfl 1 rfl ?_
    refine x_iload_n X dX11_gain_24 rfl 2 rfl ?_
    refine x_iload_n X dX11_gain_25 rfl 3 rfl ?_
    refine x_callVi X [.int a1, .int a2] [.ref (ad 0)] dX11_gain_26 (kX11_reasonNow h) cm_X11_reasonNow ci_X11_reasonNow w_8_159 dsM_0 ⟨by decide, by decide⟩ rfl (Nat.le_of_ble_eq_true rfl) (fun r26 σ26 τ26 h => ?_)
    refine x_if_le X 36 dX11_gain_29 (by decide) (fun hc => ?_) (fun hc => ?_)
    · have h := h.1 hc
      refine x_iconst X dX11_gain_36 ki_0 ?_
      refine x_sub X [1, 2, 3, 0] (lv' := [(0, .ref (ad 0)), (1, .int a1), (2, .int a2), (3, .int r18)]) rfl ?_
      exact bX11_gain_37 X h
    · have h := h.2 hc
      refine x_iconst X dX11_gain_32 ki_1 ?_
      refine x_goto X (tgt := 37) dX11_gain_33 (by decide) ?_
      refine x_sub X [1, 2, 3, 0] (lv' := [(0, .ref (ad 0)), (1, .int a1), (2, .int a2), (3, .int r18)]) rfl ?_
      exact bX11_gain_37 X h
  · have h := h.2 hc
    refine x_iconst X dX11_gain_14 ki_0 ?_
    exact x_iret X dX11_gain_15 ⟨_, rfl, h⟩
theorem dX11_bestPartner_0 : decode cX11_bestPartner 0 = .ok (.aload_n 0, 1) := by decide +kernel
theorem dX11_bestPartner_1 : decode cX11_bestPartner 1 = .ok (.iconst 0, 1) := by decide +kernel
theorem dX11_bestPartner_2 : decode cX11_bestPartner 2 = .ok (.putfield 82, 3) := by decide +kernel
theorem dX11_bestPartner_5 : decode cX11_bestPartner 5 = .ok (.aload_n 0, 1) := by decide +kernel
theorem dX11_bestPartner_6 : decode cX11_bestPartner 6 = .ok (.aload_n 0, 1) := by decide +kernel
theorem dX11_bestPartner_7 : decode cX11_bestPartner 7 = .ok (.iload_n 1, 1) := by decide +kernel
theorem dX11_bestPartner_8 : decode cX11_bestPartner 8 = .ok (.invokevirtual 103, 3) := by decide +kernel
theorem dX11_bestPartner_11 : decode cX11_bestPartner 11 = .ok (.ifCond .ne 7, 3) := by decide +kernel
theorem dX11_bestPartner_14 : decode cX11_bestPartner 14 = .ok (.iconst 1, 1) := by decide +kernel
theorem dX11_bestPartner_15 : decode cX11_bestPartner 15 = .ok (.goto 4, 3) := by decide +kernel
theorem dX11_bestPartner_18 : decode cX11_bestPartner 18 = .ok (.iconst 0, 1) := by decide +kernel
theorem dX11_bestPartner_19 : decode cX11_bestPartner 19 = .ok (.iconst 1, 1) := by decide +kernel
theorem dX11_bestPartner_20 : decode cX11_bestPartner 20 = .ok (.invokevirtual 235, 3) := by decide +kernel
theorem dX11_bestPartner_23 : decode cX11_bestPartner 23 = .ok (.ifCond .eq 5, 3) := by decide +kernel
theorem dX11_bestPartner_26 : decode cX11_bestPartner 26 = .ok (.iconst 0, 1) := by decide +kernel
theorem dX11_bestPartner_27 : decode cX11_bestPartner 27 = .ok (.ireturn, 1) := by decide +kernel
theorem dX11_bestPartner_28 : decode cX11_bestPartner 28 = .ok (.aload_n 0, 1) := by decide +kernel
theorem dX11_bestPartner_29 : decode cX11_bestPartner 29 = .ok (.invokevirtual 200, 3) := by decide +kernel
theorem dX11_bestPartner_32 : decode cX11_bestPartner 32 = .ok (.aload_n 0, 1) := by decide +kernel
theorem dX11_bestPartner_33 : decode cX11_bestPartner 33 = .ok (.iconst 0, 1) := by decide +kernel
theorem dX11_bestPartner_34 : decode cX11_bestPartner 34 = .ok (.invokevirtual 217, 3) := by decide +kernel
theorem dX11_bestPartner_37 : decode cX11_bestPartner 37 = .ok (.istore_n 2, 1) := by decide +kernel
theorem dX11_bestPartner_38 : decode cX11_bestPartner 38 = .ok (.iconst (-1), 1) := by decide +kernel
theorem dX11_bestPartner_39 : decode cX11_bestPartner 39 = .ok (.istore_n 3, 1) := by decide +kernel
theorem dX11_bestPartner_40 : decode cX11_bestPartner 40 = .ok (.iconst 0, 1) := by decide +kernel
theorem dX11_bestPartner_41 : decode cX11_bestPartner 41 = .ok (.istore 4, 2) := by decide +kernel
theorem dX11_bestPartner_43 : decode cX11_bestPartner 43 = .ok (.iconst 0, 1) := by decide +kernel
theorem dX11_bestPartner_44 : decode cX11_bestPartner 44 = .ok (.istore 5, 2) := by decide +kernel
theorem dX11_bestPartner_46 : decode cX11_bestPartner 46 = .ok (.iload 5, 2) := by decide +kernel
theorem dX11_bestPartner_48 : decode cX11_bestPartner 48 = .ok (.aload_n 0, 1) := by decide +kernel
theorem dX11_bestPartner_49 : decode cX11_bestPartner 49 = .ok (.getfield 17, 3) := by decide +kernel
theorem dX11_bestPartner_52 : decode cX11_bestPartner 52 = .ok (.iconst 1, 1) := by decide +kernel
theorem dX11_bestPartner_53 : decode cX11_bestPartner 53 = .ok (.iaload, 1) := by decide +kernel
theorem dX11_bestPartner_54 : decode cX11_bestPartner 54 = .ok (.if_icmp .ge 50, 3) := by decide +kernel
theorem dX11_bestPartner_57 : decode cX11_bestPartner 57 = .ok (.aload_n 0, 1) := by decide +kernel
theorem dX11_bestPartner_58 : decode cX11_bestPartner 58 = .ok (.iload_n 1, 1) := by decide +kernel
theorem dX11_bestPartner_59 : decode cX11_bestPartner 59 = .ok (.iload 5, 2) := by decide +kernel
theorem dX11_bestPartner_61 : decode cX11_bestPartner 61 = .ok (.invokevirtual 315, 3) := by decide +kernel
theorem dX11_bestPartner_64 : decode cX11_bestPartner 64 = .ok (.ifCond .le 7, 3) := by decide +kernel
theorem dX11_bestPartner_67 : decode cX11_bestPartner 67 = .ok (.iconst 0, 1) := by decide +kernel
theorem dX11_bestPartner_68 : decode cX11_bestPartner 68 = .ok (.goto 11, 3) := by decide +kernel
theorem dX11_bestPartner_71 : decode cX11_bestPartner 71 = .ok (.aload_n 0, 1) := by decide +kernel
theorem dX11_bestPartner_72 : decode cX11_bestPartner 72 = .ok (.iload_n 1, 1) := by decide +kernel
theorem dX11_bestPartner_73 : decode cX11_bestPartner 73 = .ok (.iload 5, 2) := by decide +kernel
theorem dX11_bestPartner_75 : decode cX11_bestPartner 75 = .ok (.iload_n 2, 1) := by decide +kernel
theorem dX11_bestPartner_76 : decode cX11_bestPartner 76 = .ok (.invokevirtual 321, 3) := by decide +kernel
theorem dX11_bestPartner_79 : decode cX11_bestPartner 79 = .ok (.istore 6, 2) := by decide +kernel
theorem dX11_bestPartner_81 : decode cX11_bestPartner 81 = .ok (.iload 6, 2) := by decide +kernel
theorem dX11_bestPartner_83 : decode cX11_bestPartner 83 = .ok (.iload 4, 2) := by decide +kernel
theorem dX11_bestPartner_85 : decode cX11_bestPartner 85 = .ok (.if_icmp .gt 6, 3) := by decide +kernel
theorem dX11_bestPartner_88 : decode cX11_bestPartner 88 = .ok (.goto 10, 3) := by decide +kernel
theorem dX11_bestPartner_91 : decode cX11_bestPartner 91 = .ok (.iload 5, 2) := by decide +kernel
theorem dX11_bestPartner_93 : decode cX11_bestPartner 93 = .ok (.istore_n 3, 1) := by decide +kernel
theorem dX11_bestPartner_94 : decode cX11_bestPartner 94 = .ok (.iload 6, 2) := by decide +kernel
theorem dX11_bestPartner_96 : decode cX11_bestPartner 96 = .ok (.istore 4, 2) := by decide +kernel
theorem dX11_bestPartner_98 : decode cX11_bestPartner 98 = .ok (.iinc 5 1, 3) := by decide +kernel
theorem dX11_bestPartner_101 : decode cX11_bestPartner 101 = .ok (.goto (-55), 3) := by decide +kernel
theorem dX11_bestPartner_104 : decode cX11_bestPartner 104 = .ok (.iload_n 3, 1) := by decide +kernel
theorem dX11_bestPartner_105 : decode cX11_bestPartner 105 = .ok (.ireturn, 1) := by decide +kernel
theorem cm_X11_bestPartner : x_CM yX11_bestPartner cX11_bestPartner 7 (Option.some FieldType.int) 1 := ⟨w_8_194, w_1_12, by decide +kernel, by decide +kernel⟩
theorem ci_X11_bestPartner : x_CI yX11_bestPartner 13 := ⟨w_8_192, w_8_193, (RX11, TX11, 41), rfl, rfl⟩
set_option maxRecDepth 100000 in
set_option maxHeartbeats 4000000 in
theorem bX11_bestPartner_98 {V : x_J} {ad : Nat → Nat} {Q : Int32 → x_S → x_L → Prop} (X : x_Is V cX11_bestPartner 7 RX11 (Option.some FieldType.int) ad dsM 7 (x_PI Q)) {K46 : Int32 → Int32 → Int32 → Int32 → Int32 → x_S → x_L → Prop} (hK46 : ∀ v1 v2 v3 v4 v5 σ τ, K46 v1 v2 v3 v4 v5 σ τ → V σ τ 46 [(0, .ref (ad 0)), (1, .int v1), (2, .int v2), (3, .int v3), (4, .int v4), (5, .int v5)] []) {v1 : Int32} {v2 : Int32} {v3 : Int32} {v4 : Int32} {v5 : Int32} {σ : x_S} {τ : x_L} (h : wX11_bestPartner_98 K46 Q v1 v2 v3 v4 v5 σ τ) : V σ τ 98 [(0, .ref (ad 0)), (1, .int v1), (2, .int v2), (3, .int v3), (4, .int v4), (5, .int v5)] [] := by
  refine x_iinc X (k := 5) (lv' := [(5, .int (v5 + 1)), (0, .ref (ad 0)), (1, .int v1), (2, .int v2), (3, .int v3), (4, .int v4)]) dX11_bestPartner_98 rfl ki_1 (by decide) rfl ?_
  refine x_goto X (tgt := 46) dX11_bestPartner_101 (by decide) ?_
  refine x_sub X [1, 2, 3, 4, 5, 0] (lv' := [(0, .ref (ad 0)), (1, .int v1), (2, .int v2), (3, .int v3), (4, .int v4), (5, .int (v5 + 1))]) rfl ?_
  exact hK46 _ _ _ _ _ _ _ h
set_option maxRecDepth 100000 in
set_option maxHeartbeats 4000000 in
theorem bX11_bestPartner_79 {V : x_J} {ad : Nat → Nat} {Q : Int32 → x_S → x_L → Prop} (X : x_Is V cX11_bestPartner 7 RX11 (Option.some FieldType.int) ad dsM 7 (x_PI Q)) {K46 : Int32 → Int32 → Int32 → Int32 → Int32 → x_S → x_L → Prop} (hK46 : ∀ v1 v2 v3 v4 v5 σ τ, K46 v1 v2 v3 v4 v5 σ τ → V σ τ 46 [(0, .ref (ad 0)), (1, .int v1), (2, .int v2), (3, .int v3), (4, .int v4), (5, .int v5)] []) {v1 : Int32} {v2 : Int32} {v3 : Int32} {v4 : Int32} {v5 : Int32} {s0 : Int32} {σ : x_S} {τ : x_L} (h : wX11_bestPartner_79 K46 Q v1 v2 v3 v4 v5 s0 σ τ) : V σ τ 79 [(0, .ref (ad 0)), (1, .int v1), (2, .int v2), (3, .int v3), (4, .int v4), (5, .int v5)] [.int s0] := by
  refine x_istore X (lv' := [(6, .int s0), (0, .ref (ad 0)), (1, .int v1), (2, .int v2), (3, .int v3), (4, .int v4), (5, .int v5)]) dX11_bestPartner_79 (by decide) rfl ?_
  refine x_iload X dX11_bestPartner_81 0 rfl ?_
  refine x_iload X dX11_bestPartner_83 5 rfl ?_
  refine x_icmp_gt X 91 dX11_bestPartner_85 (by decide) (fun hc => ?_) (fun hc => ?_)
  · have h := h.1 hc
    refine x_iload X dX11_bestPartner_91 6 rfl ?_
    refine x_istore_n X (lv' := [(3, .int v5), (6, .int s0), (0, .ref (ad 0)), (1, .int v1), (2, .int v2), (4, .int v4), (5, .int v5)]) dX11_bestPartner_93 rfl (by decide) rfl ?_
    refine x_iload X dX11_bestPartner_94 1 rfl ?_
    refine x_istore X (lv' := [(4, .int s0), (3, .int v5), (6, .int s0), (0, .ref (ad 0)), (1, .int v1), (2, .int v2), (5, .int v5)]) dX11_bestPartner_96 (by decide) rfl ?_
    refine x_sub X [3, 4, 5, 1, 0, 6] (lv' := [(0, .ref (ad 0)), (1, .int v1), (2, .int v2), (3, .int v5), (4, .int s0), (5, .int v5)]) rfl ?_
    exact bX11_bestPartner_98 X hK46 h
  · have h := h.2 hc
    refine x_goto X (tgt := 98) dX11_bestPartner_88 (by decide) ?_
    refine x_sub X [1, 2, 3, 4, 5, 6] (lv' := [(0, .ref (ad 0)), (1, .int v1), (2, .int v2), (3, .int v3), (4, .int v4), (5, .int v5)]) rfl ?_
    exact bX11_bestPartner_98 X hK46 h
set_option maxRecDepth 100000 in
set_option maxHeartbeats 4000000 in
theorem bX11_bestPartner_46 {V : x_J} {ad : Nat → Nat} {Q : Int32 → x_S → x_L → Prop} (X : x_Is V cX11_bestPartner 7 RX11 (Option.some FieldType.int) ad dsM 7 (x_PI Q)) {K46 : Int32 → Int32 → Int32 → Int32 → Int32 → x_S → x_L → Prop} (hK46 : ∀ v1 v2 v3 v4 v5 σ τ, K46 v1 v2 v3 v4 v5 σ τ → V σ τ 46 [(0, .ref (ad 0)), (1, .int v1), (2, .int v2), (3, .int v3), (4, .int v4), (5, .int v5)] []) {v1 : Int32} {v2 : Int32} {v3 : Int32} {v4 : Int32} {v5 : Int32} {σ : x_S} {τ : x_L} (h : wX11_bestPartner_46 Q K46 v1 v2 v3 v4 v5 σ τ) : V σ τ 46 [(0, .ref (ad 0)), (1, .int v1), (2, .int v2), (3, .int v3), (4, .int v4), (5, .int v5)] [] := by
  refine x_iload X dX11_bestPartner_46 5 rfl ?_
  refine x_aload_n X dX11_bestPartner_48 rfl 0 rfl ?_
  refine x_getR X (j := 3) dX11_bestPartner_49 fl_11_17 dsM_0 rfl ?_
  refine x_iconst X dX11_bestPartner_52 ki_1 ?_
  refine x_iald X dX11_bestPartner_53 dsM_3 (x_inl (by decide)) ?_
  refine x_icmp_ge X 104 dX11_bestPartner_54 (by decide) (fun hc => ?_) (fun hc => ?_)
  · have h := h.1 hc
    refine x_iload_n X dX11_bestPartner_104 rfl 3 rfl ?_
    exact x_iret X dX11_bestPartner_105 ⟨_, rfl, h⟩
  · have h := h.2 hc
    refine x_aload_n X dX11_bestPartner_57 rfl 0 rfl ?_
    refine x_iload_n X dX11_bestPartner_58 rfl 1 rfl ?_
    refine x_iload X dX11_bestPartner_59 5 rfl ?_
    refine x_callVi X [.int v1, .int v5] [] dX11_bestPartner_61 (kX11_reasonNow h) cm_X11_reasonNow ci_X11_reasonNow w_8_159 dsM_0 ⟨by decide, by decide⟩ rfl (Nat.le_of_ble_eq_true rfl) (fun r61 σ61 τ61 h => ?_)
    refine x_if_le X 71 dX11_bestPartner_64 (by decide) (fun hc => ?_) (fun hc => ?_)
    · have h := h.1 hc
      refine x_aload_n X dX11_bestPartner_71 rfl 0 rfl ?_
      refine x_iload_n X dX11_bestPartner_72 rfl 1 rfl ?_
      refine x_iload X dX11_bestPartner_73 5 rfl ?_
      refine x_iload_n X dX11_bestPartner_75 rfl 2 rfl ?_
      refine x_callVi X [.int v1, .int v5, .int v2] [] dX11_bestPartner_76 (kX11_gainNow h) cm_X11_gainNow ci_X11_gainNow w_8_187 dsM_0 ⟨by decide, by decide⟩ rfl (Nat.le_of_ble_eq_true rfl) (fun r76 σ76 τ76 h => ?_)
      exact bX11_bestPartner_79 X hK46 h
    · have h := h.2 hc
      refine x_iconst X dX11_bestPartner_67 ki_0 ?_
      refine x_goto X (tgt := 79) dX11_bestPartner_68 (by decide) ?_
      exact bX11_bestPartner_79 X hK46 h
set_option maxRecDepth 100000 in
set_option maxHeartbeats 4000000 in
theorem bX11_bestPartner_19 {V : x_J} {ad : Nat → Nat} {Q : Int32 → x_S → x_L → Prop} (X : x_Is V cX11_bestPartner 7 RX11 (Option.some FieldType.int) ad dsM 7 (x_PI Q)) {v1 : Int32} {s1 : Int32} {σ : x_S} {τ : x_L} (h : wX11_bestPartner_19 Q v1 s1 σ τ) : V σ τ 19 [(0, .ref (ad 0)), (1, .int v1)] [.int s1, .ref (ad 0)] := by
  refine x_iconst X dX11_bestPartner_19 ki_1 ?_
  refine x_callVi X [.int s1, .int 1] [] dX11_bestPartner_20 (kX11_throwsIf h) cm_X11_throwsIf ci_X11_throwsIf w_8_10 dsM_0 ⟨by decide, by decide⟩ rfl (Nat.le_of_ble_eq_true rfl) (fun r20 σ20 τ20 h => ?_)
  refine x_if_eq X 28 dX11_bestPartner_23 (by decide) (fun hc => ?_) (fun hc => ?_)
  · have h := h.1 hc
    refine x_aload_n X dX11_bestPartner_28 rfl 0 rfl ?_
    refine x_callVv X [] [] dX11_bestPartner_29 (kX11_lay h) cm_X11_lay ci_X11_lay w_7_101 dsM_0 ⟨by decide, by decide⟩ rfl (Nat.le_of_ble_eq_true rfl) (fun σ29 τ29 h => ?_)
    refine x_aload_n X dX11_bestPartner_32 rfl 0 rfl ?_
    refine x_iconst X dX11_bestPartner_33 ki_0 ?_
    refine x_callVi X [.int 0] [] dX11_bestPartner_34 (kX11_sumOfAll h) cm_X11_sumOfAll ci_X11_sumOfAll w_7_230 dsM_0 ⟨by decide, by decide⟩ rfl (Nat.le_of_ble_eq_true rfl) (fun r34 σ34 τ34 h => ?_)
    refine x_istore_n X (lv' := [(2, .int r34), (0, .ref (ad 0)), (1, .int v1)]) dX11_bestPartner_37 rfl (by decide) rfl ?_
    refine x_iconst X dX11_bestPartner_38 ki_m1 ?_
    refine x_istore_n X (lv' := [(3, .int (-1)), (2, .int r34), (0, .ref (ad 0)), (1, .int v1)]) dX11_bestPartner_39 rfl (by decide) rfl ?_
    refine x_iconst X dX11_bestPartner_40 ki_0 ?_
    refine x_istore X (lv' := [(4, .int 0), (3, .int (-1)), (2, .int r34), (0, .ref (ad 0)), (1, .int v1)]) dX11_bestPartner_41 (by decide) rfl ?_
    refine x_iconst X dX11_bestPartner_43 ki_0 ?_
    refine x_istore X (lv' := [(5, .int 0), (4, .int 0), (3, .int (-1)), (2, .int r34), (0, .ref (ad 0)), (1, .int v1)]) dX11_bestPartner_44 (by decide) rfl ?_
    refine x_sub X [4, 5, 3, 2, 1, 0] (lv' := [(0, .ref (ad 0)), (1, .int v1), (2, .int r34), (3, .int (-1)), (4, .int 0), (5, .int 0)]) rfl ?_
    exact x_l5_G (fun v1 v2 v3 v4 v5 σ τ => V σ τ 46 [(0, .ref (ad 0)), (1, .int v1), (2, .int v2), (3, .int v3), (4, .int v4), (5, .int v5)] []) (fun K46 hK46 v1 v2 v3 v4 v5 σ τ h => bX11_bestPartner_46 X hK46 h) h
  · have h := h.2 hc
    refine x_iconst X dX11_bestPartner_26 ki_0 ?_
    exact x_iret X dX11_bestPartner_27 ⟨_, rfl, h⟩
set_option maxRecDepth 100000 in
set_option maxHeartbeats 4000000 in
theorem kX11_bestPartner {ad : Nat → Nat} {a1 : Int32} {σ : x_S} {τ : x_L} {Q : Int32 → x_S → x_L → Prop} (h : wX11_bestPartner a1 σ τ Q) : x_Met yX11_bestPartner cX11_bestPartner 7 (Option.some FieldType.int) 7 ad dsM [.ref (ad 0), .int a1] σ τ (x_PI Q) := by
  refine x_met (by decide +kernel) (Nat.le_of_ble_eq_true rfl) (fun V X => ?_)
  have X : x_Is V cX11_bestPartner 7 RX11 (Option.some FieldType.int) ad dsM 7 (x_PI Q) := X
  show V σ τ 0 [(0, .ref (ad 0)), (1, .int a1)] []
  refine x_aload_n X dX11_bestPartner_0 rfl 0 rfl ?_
  refine x_iconst X dX11_bestPartner_1 ki_0 ?_
  refine x_putI X dX11_bestPartner_2 fl_11_82 ft_11_5 dsM_0 rfl ?_
  refine x_aload_n X dX11_bestPartner_5 rfl 0 rfl ?_
  refine x_aload_n X dX11_bestPartner_6 rfl 0 rfl ?_
  refine x_iload_n X dX11_bestPartner_7 rfl 1 rfl ?_
  refine x_callVi X [.int a1] [.ref (ad 0)] dX11_bestPartner_8 (kX11_isTruck h) cm_X11_isTruck ci_X11_isTruck w_8_26 dsM_0 ⟨by decide, by decide⟩ rfl (Nat.le_of_ble_eq_true rfl) (fun r8 σ8 τ8 h => ?_)
  refine x_if_ne X 18 dX11_bestPartner_11 (by decide) (fun hc => ?_) (fun hc => ?_)
  · have h := h.1 hc
    refine x_iconst X dX11_bestPartner_18 ki_0 ?_
    exact bX11_bestPartner_19 X h
  · have h := h.2 hc
    refine x_iconst X dX11_bestPartner_14 ki_1 ?_
    refine x_goto X (tgt := 19) dX11_bestPartner_15 (by decide) ?_
    exact bX11_bestPartner_19 X h
