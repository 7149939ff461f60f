theorem dX10_together_0 : decode cX10_together 0 = .ok (.aload_n 0, 1) := by decide +kernel
theorem dX10_together_1 : decode cX10_together 1 = .ok (.iload_n 1, 1) := by decide +kernel
theorem dX10_together_2 : decode cX10_together 2 = .ok (.invokevirtual 209, 3) := by decide +kernel
theorem dX10_together_5 : decode cX10_together 5 = .ok (.aload_n 0, 1) := by decide +kernel
theorem dX10_together_6 : decode cX10_together 6 = .ok (.iload_n 2, 1) := by decide +kernel
theorem dX10_together_7 : decode cX10_together 7 = .ok (.invokevirtual 209, 3) := by decide +kernel
theorem dX10_together_10 : decode cX10_together 10 = .ok (.iload_n 1, 1) := by decide +kernel
theorem dX10_together_11 : decode cX10_together 11 = .ok (.iload_n 2, 1) := by decide +kernel
theorem dX10_together_12 : decode cX10_together 12 = .ok (.if_icmp .ne 6, 3) := by decide +kernel
theorem dX10_together_15 : decode cX10_together 15 = .ok (.bipush (-3), 2) := by decide +kernel
theorem dX10_together_17 : decode cX10_together 17 = .ok (.ireturn, 1) := by decide +kernel
theorem dX10_together_18 : decode cX10_together 18 = .ok (.iconst 0, 1) := by decide +kernel
theorem dX10_together_19 : decode cX10_together 19 = .ok (.istore_n 3, 1) := by decide +kernel
theorem dX10_together_20 : decode cX10_together 20 = .ok (.iload_n 1, 1) := by decide +kernel
theorem dX10_together_21 : decode cX10_together 21 = .ok (.bipush 10, 2) := by decide +kernel
theorem dX10_together_23 : decode cX10_together 23 = .ok (.imul, 1) := by decide +kernel
theorem dX10_together_24 : decode cX10_together 24 = .ok (.istore 4, 2) := by decide +kernel
theorem dX10_together_26 : decode cX10_together 26 = .ok (.iload 4, 2) := by decide +kernel
theorem dX10_together_28 : decode cX10_together 28 = .ok (.aload_n 0, 1) := by decide +kernel
theorem dX10_together_29 : decode cX10_together 29 = .ok (.getfield 42, 3) := by decide +kernel
theorem dX10_together_32 : decode cX10_together 32 = .ok (.getfield 301, 3) := by decide +kernel
theorem dX10_together_35 : decode cX10_together 35 = .ok (.iload_n 1, 1) := by decide +kernel
theorem dX10_together_36 : decode cX10_together 36 = .ok (.iaload, 1) := by decide +kernel
theorem dX10_together_37 : decode cX10_together 37 = .ok (.if_icmp .ge 52, 3) := by decide +kernel
theorem dX10_together_40 : decode cX10_together 40 = .ok (.iload_n 2, 1) := by decide +kernel
theorem dX10_together_41 : decode cX10_together 41 = .ok (.bipush 10, 2) := by decide +kernel
theorem dX10_together_43 : decode cX10_together 43 = .ok (.imul, 1) := by decide +kernel
theorem dX10_together_44 : decode cX10_together 44 = .ok (.istore 5, 2) := by decide +kernel
theorem dX10_together_46 : decode cX10_together 46 = .ok (.iload 5, 2) := by decide +kernel
theorem dX10_together_48 : decode cX10_together 48 = .ok (.aload_n 0, 1) := by decide +kernel
theorem dX10_together_49 : decode cX10_together 49 = .ok (.getfield 42, 3) := by decide +kernel
theorem dX10_together_52 : decode cX10_together 52 = .ok (.getfield 301, 3) := by decide +kernel
theorem dX10_together_55 : decode cX10_together 55 = .ok (.iload_n 2, 1) := by decide +kernel
theorem dX10_together_56 : decode cX10_together 56 = .ok (.iaload, 1) := by decide +kernel
theorem dX10_together_57 : decode cX10_together 57 = .ok (.if_icmp .ge 26, 3) := by decide +kernel
theorem dX10_together_60 : decode cX10_together 60 = .ok (.aload_n 0, 1) := by decide +kernel
theorem dX10_together_61 : decode cX10_together 61 = .ok (.getfield 51, 3) := by decide +kernel
theorem dX10_together_64 : decode cX10_together 64 = .ok (.iload 4, 2) := by decide +kernel
theorem dX10_together_66 : decode cX10_together 66 = .ok (.iload 5, 2) := by decide +kernel
theorem dX10_together_68 : decode cX10_together 68 = .ok (.invokevirtual 304, 3) := by decide +kernel
theorem dX10_together_71 : decode cX10_together 71 = .ok (.ifCond .eq 6, 3) := by decide +kernel
theorem dX10_together_74 : decode cX10_together 74 = .ok (.iinc 3 1, 3) := by decide +kernel
theorem dX10_together_77 : decode cX10_together 77 = .ok (.iinc 5 1, 3) := by decide +kernel
theorem dX10_together_80 : decode cX10_together 80 = .ok (.goto (-34), 3) := by decide +kernel
theorem dX10_together_83 : decode cX10_together 83 = .ok (.iinc 4 1, 3) := by decide +kernel
theorem dX10_together_86 : decode cX10_together 86 = .ok (.goto (-60), 3) := by decide +kernel
theorem dX10_together_89 : decode cX10_together 89 = .ok (.iload_n 3, 1) := by decide +kernel
theorem dX10_together_90 : decode cX10_together 90 = .ok (.ireturn, 1) := by decide +kernel
theorem cm_X10_together : x_CM yX10_together cX10_together 6 (Option.some FieldType.int) 2 := ⟨w_5_157, w_1_1, by decide +kernel, by decide +kernel⟩
theorem ci_X10_together : x_CI yX10_together 12 := ⟨w_5_155, w_5_156, (RX10, TX10, 12), rfl, rfl⟩
set_option maxRecDepth 100000 in
set_option maxHeartbeats 4000000 in
theorem bX10_together_77 {V : x_J} {ad : Nat → Nat} {Q : Int32 → x_S → x_L → Prop} {QX : x_PE} (Y : x_IsX V cX10_together 6 RX10 (Option.some FieldType.int) ad dsX 7 (x_PI Q) QX 2 4) {K26 : Int32 → Int32 → Int32 → Int32 → x_S → x_L → Prop} {K46 : Int32 → Int32 → Int32 → Int32 → Int32 → x_S → x_L → Prop} (hK26 : ∀ v1 v2 v3 v4 σ τ, K26 v1 v2 v3 v4 σ τ → V σ τ 26 [(0, .ref (ad 0)), (1, .int v1), (2, .int v2), (3, .int v3), (4, .int v4)] []) (hK46 : ∀ v1 v2 v3 v4 v5 σ τ, K46 v1 v2 v3 v4 v5 σ τ → V σ τ 46 [(0, .ref (ad 0)), (1, .int v1), (2, .int v2), (3, .int v3), (4, .int v4), (5, .int v5)] []) {v1 : Int32} {v2 : Int32} {v3 : Int32} {v4 : Int32} {v5 : Int32} {σ : x_S} {τ : x_L} (h : wX10_together_77 K26 K46 Q QX v1 v2 v3 v4 v5 σ τ) : V σ τ 77 [(0, .ref (ad 0)), (1, .int v1), (2, .int v2), (3, .int v3), (4, .int v4), (5, .int v5)] [] := by
  have X := x_isX Y
  refine x_iinc X (k := 5) (lv' := [(5, .int (v5 + 1)), (0, .ref (ad 0)), (1, .int v1), (2, .int v2), (3, .int v3), (4, .int v4)]) dX10_together_77 rfl ki_1 (by decide) rfl ?_
  refine x_goto X (tgt := 46) dX10_together_80 (by decide) ?_
  refine x_sub X [1, 2, 3, 4, 5, 0] (lv' := [(0, .ref (ad 0)), (1, .int v1), (2, .int v2), (3, .int v3), (4, .int v4), (5, .int (v5 + 1))]) rfl ?_
  exact hK46 _ _ _ _ _ _ _ h
set_option maxRecDepth 100000 in
set_option maxHeartbeats 4000000 in
theorem bX10_together_46 {V : x_J} {ad : Nat → Nat} {Q : Int32 → x_S → x_L → Prop} {QX : x_PE} (Y : x_IsX V cX10_together 6 RX10 (Option.some FieldType.int) ad dsX 7 (x_PI Q) QX 2 4) {K26 : Int32 → Int32 → Int32 → Int32 → x_S → x_L → Prop} {K46 : Int32 → Int32 → Int32 → Int32 → Int32 → x_S → x_L → Prop} (hK26 : ∀ v1 v2 v3 v4 σ τ, K26 v1 v2 v3 v4 σ τ → V σ τ 26 [(0, .ref (ad 0)), (1, .int v1), (2, .int v2), (3, .int v3), (4, .int v4)] []) (hK46 : ∀ v1 v2 v3 v4 v5 σ τ, K46 v1 v2 v3 v4 v5 σ τ → V σ τ 46 [(0, .ref (ad 0)), (1, .int v1), (2, .int v2), (3, .int v3), (4, .int v4), (5, .int v5)] []) {v1 : Int32} {v2 : Int32} {v3 : Int32} {v4 : Int32} {v5 : Int32} {σ : x_S} {τ : x_L} (h : wX10_together_46 K26 Q QX K46 v1 v2 v3 v4 v5 σ τ) : V σ τ 46 [(0, .ref (ad 0)), (1, .int v1), (2, .int v2), (3, .int v3), (4, .int v4), (5, .int v5)] [] := by
  have X := x_isX Y
  refine x_iload X dX10_together_46 5 rfl ?_
  refine x_aload_n X dX10_together_48 rfl 0 rfl ?_
  refine x_getR X (j := 27) dX10_together_49 fl_10_42 dsX_0 rfl ?_
  refine x_getR X (j := 30) dX10_together_52 fl_10_301 dsX_27 rfl ?_
  refine x_iload_n X dX10_together_55 rfl 2 rfl ?_
  have g56 := h.1
  have h := h.2
  refine x_iald X dX10_together_56 dsX_30 g56 ?_
  refine x_icmp_ge X 83 dX10_together_57 (by decide) (fun hc => ?_) (fun hc => ?_)
  · have h := h.1 hc
    refine x_iinc X (k := 4) (lv' := [(4, .int (v4 + 1)), (0, .ref (ad 0)), (1, .int v1), (2, .int v2), (3, .int v3), (5, .int v5)]) dX10_together_83 rfl ki_1 (by decide) rfl ?_
    refine x_goto X (tgt := 26) dX10_together_86 (by decide) ?_
    refine x_sub X [1, 2, 3, 4, 0] (lv' := [(0, .ref (ad 0)), (1, .int v1), (2, .int v2), (3, .int v3), (4, .int (v4 + 1))]) rfl ?_
    exact hK26 _ _ _ _ _ _ h
  · have h := h.2 hc
    refine x_aload_n X dX10_together_60 rfl 0 rfl ?_
    refine x_getR X (j := 33) dX10_together_61 fl_10_51 dsX_0 rfl ?_
    refine x_iload X dX10_together_64 4 rfl ?_
    refine x_iload X dX10_together_66 5 rfl ?_
    refine x_callVi X [.int v4, .int v5] [] dX10_together_68 (kX6_inOnePlatoon x_pl33 h) cm_X6_inOnePlatoon ci_X6_inOnePlatoon w_5_158 dsX_33 ⟨by decide, by decide⟩ rfl (Nat.le_of_ble_eq_true rfl) (fun r68 σ68 τ68 h => ?_)
    refine x_if_eq X 77 dX10_together_71 (by decide) (fun hc => ?_) (fun hc => ?_)
    · have h := h.1 hc
      exact bX10_together_77 Y hK26 hK46 h
    · have h := h.2 hc
      refine x_iinc X (k := 3) (lv' := [(3, .int (v3 + 1)), (0, .ref (ad 0)), (1, .int v1), (2, .int v2), (4, .int v4), (5, .int v5)]) dX10_together_74 rfl ki_1 (by decide) rfl ?_
      refine x_sub X [1, 2, 3, 0, 4, 5] (lv' := [(0, .ref (ad 0)), (1, .int v1), (2, .int v2), (3, .int (v3 + 1)), (4, .int v4), (5, .int v5)]) rfl ?_
      exact bX10_together_77 Y hK26 hK46 h
set_option maxRecDepth 100000 in
set_option maxHeartbeats 4000000 in
theorem bX10_together_26 {V : x_J} {ad : Nat → Nat} {Q : Int32 → x_S → x_L → Prop} {QX : x_PE} (Y : x_IsX V cX10_together 6 RX10 (Option.some FieldType.int) ad dsX 7 (x_PI Q) QX 2 4) {K26 : Int32 → Int32 → Int32 → Int32 → x_S → x_L → Prop} (hK26 : ∀ v1 v2 v3 v4 σ τ, K26 v1 v2 v3 v4 σ τ → V σ τ 26 [(0, .ref (ad 0)), (1, .int v1), (2, .int v2), (3, .int v3), (4, .int v4)] []) {v1 : Int32} {v2 : Int32} {v3 : Int32} {v4 : Int32} {σ : x_S} {τ : x_L} (h : wX10_together_26 Q QX K26 v1 v2 v3 v4 σ τ) : V σ τ 26 [(0, .ref (ad 0)), (1, .int v1), (2, .int v2), (3, .int v3), (4, .int v4)] [] := by
  have X := x_isX Y
  refine x_iload X dX10_together_26 4 rfl ?_
  refine x_aload_n X dX10_together_28 rfl 0 rfl ?_
  refine x_getR X (j := 27) dX10_together_29 fl_10_42 dsX_0 rfl ?_
  refine x_getR X (j := 30) dX10_together_32 fl_10_301 dsX_27 rfl ?_
  refine x_iload_n X dX10_together_35 rfl 1 rfl ?_
  have g36 := h.1
  have h := h.2
  refine x_iald X dX10_together_36 dsX_30 g36 ?_
  refine x_icmp_ge X 89 dX10_together_37 (by decide) (fun hc => ?_) (fun hc => ?_)
  · have h := h.1 hc
    refine x_iload_n X dX10_together_89 rfl 3 rfl ?_
    exact x_iret X dX10_together_90 ⟨_, rfl, h⟩
  · have h := h.2 hc
    refine x_iload_n X dX10_together_40 rfl 2 rfl ?_
    refine x_bipush X dX10_together_41 kb_10 ?_
    refine x_imul X dX10_together_43 ?_
    refine x_istore X (lv' := [(5, .int (v2 * 10)), (0, .ref (ad 0)), (1, .int v1), (2, .int v2), (3, .int v3), (4, .int v4)]) dX10_together_44 (by decide) rfl ?_
    refine x_sub X [1, 2, 3, 4, 5, 0] (lv' := [(0, .ref (ad 0)), (1, .int v1), (2, .int v2), (3, .int v3), (4, .int v4), (5, .int (v2 * 10))]) rfl ?_
    exact x_l5_G (fun v1 v2 v3 v4 v5 σ τ => V σ τ 46 [(0, .ref (ad 0)), (1, .int v1), (2, .int v2), (3, .int v3), (4, .int v4), (5, .int v5)] []) (fun K46 hK46 v1 v2 v3 v4 v5 σ τ h => bX10_together_46 Y hK26 hK46 h) h
set_option maxRecDepth 100000 in
set_option maxHeartbeats 4000000 in
theorem kX10_together {ad : Nat → Nat} {a1 : Int32} {a2 : Int32} {σ : x_S} {τ : x_L} {Q : Int32 → x_S → x_L → Prop} {QX : x_PE} (h : wX10_together a1 a2 σ τ Q QX) : x_MetX yX10_together cX10_together 6 (Option.some FieldType.int) 7 4 ad dsX [.ref (ad 0), .int a1, .int a2] σ τ (x_PI Q) QX := by
  refine x_metX (by decide +kernel) (Nat.le_of_ble_eq_true rfl) (fun V Y => ?_)
  have Y : x_IsX V cX10_together 6 RX10 (Option.some FieldType.int) ad dsX 7 (x_PI Q) QX 0 4 := Y
  have X := x_isX Y
  show V σ τ 0 [(0, .ref (ad 0)), (1, .int a1), (2, .int a2)] []
  refine x_aload_n X dX10_together_0 rfl 0 rfl ?_
  refine x_iload_n X dX10_together_1 rfl 1 rfl ?_
  refine x_callVXv Y [.int a1] [] dX10_together_2 (kX10_checkTruck h) cm_X10_checkTruck ci_X10_checkTruck w_5_57 dsX_0 ⟨by decide, by decide⟩ (by decide) rfl (Nat.le_of_ble_eq_true rfl) (fun V σ2 τ2 Y h => ?_)
  have X := x_isX Y
  refine x_aload_n X dX10_together_5 rfl 0 rfl ?_
  refine x_iload_n X dX10_together_6 rfl 2 rfl ?_
  refine x_callVXv Y [.int a2] [] dX10_together_7 (kX10_checkTruck h) cm_X10_checkTruck ci_X10_checkTruck w_5_57 dsX_0 ⟨by decide, by decide⟩ (by decide) rfl (Nat.le_of_ble_eq_true rfl) (fun V σ7 τ7 Y h => ?_)
  have X := x_isX Y
  refine x_iload_n X dX10_together_10 rfl 1 rfl ?_
  refine x_iload_n X dX10_together_11 rfl 2 rfl ?_
  refine x_icmp_ne X 18 dX10_together_12 (by decide) (fun hc => ?_) (fun hc => ?_)
  · have h := h.1 hc
    refine x_iconst X dX10_together_18 ki_0 ?_
    refine x_istore_n X (lv' := [(3, .int 0), (0, .ref (ad 0)), (1, .int a1), (2, .int a2)]) dX10_together_19 rfl (by decide) rfl ?_
    refine x_iload_n X dX10_together_20 rfl 2 rfl ?_
    refine x_bipush X dX10_together_21 kb_10 ?_
    refine x_imul X dX10_together_23 ?_
    refine x_istore X (lv' := [(4, .int (a1 * 10)), (3, .int 0), (0, .ref (ad 0)), (1, .int a1), (2, .int a2)]) dX10_together_24 (by decide) rfl ?_
    refine x_sub X [2, 3, 4, 1, 0] (lv' := [(0, .ref (ad 0)), (1, .int a1), (2, .int a2), (3, .int 0), (4, .int (a1 * 10))]) rfl ?_
    exact x_l4_G (fun v1 v2 v3 v4 σ τ => V σ τ 26 [(0, .ref (ad 0)), (1, .int v1), (2, .int v2), (3, .int v3), (4, .int v4)] []) (fun K26 hK26 v1 v2 v3 v4 σ τ h => bX10_together_26 Y hK26 h) h
  · have h := h.2 hc
    refine x_bipush X dX10_together_15 kb_m3 ?_
    exact x_iret X dX10_together_17 ⟨_, rfl, h⟩
theorem dX10_pairSaved_0 : decode cX10_pairSaved 0 = .ok (.aload_n 0, 1) := by decide +kernel
theorem dX10_pairSaved_1 : decode cX10_pairSaved 1 = .ok (.iload_n 1, 1) := by decide +kernel
theorem dX10_pairSaved_2 : decode cX10_pairSaved 2 = .ok (.invokevirtual 209, 3) := by decide +kernel
theorem dX10_pairSaved_5 : decode cX10_pairSaved 5 = .ok (.aload_n 0, 1) := by decide +kernel
theorem dX10_pairSaved_6 : decode cX10_pairSaved 6 = .ok (.iload_n 2, 1) := by decide +kernel
theorem dX10_pairSaved_7 : decode cX10_pairSaved 7 = .ok (.invokevirtual 209, 3) := by decide +kernel
theorem dX10_pairSaved_10 : decode cX10_pairSaved 10 = .ok (.iload_n 1, 1) := by decide +kernel
theorem dX10_pairSaved_11 : decode cX10_pairSaved 11 = .ok (.iload_n 2, 1) := by decide +kernel
theorem dX10_pairSaved_12 : decode cX10_pairSaved 12 = .ok (.if_icmp .ne 6, 3) := by decide +kernel
theorem dX10_pairSaved_15 : decode cX10_pairSaved 15 = .ok (.bipush (-3), 2) := by decide +kernel
theorem dX10_pairSaved_17 : decode cX10_pairSaved 17 = .ok (.ireturn, 1) := by decide +kernel
theorem dX10_pairSaved_18 : decode cX10_pairSaved 18 = .ok (.iconst 0, 1) := by decide +kernel
theorem dX10_pairSaved_19 : decode cX10_pairSaved 19 = .ok (.istore_n 3, 1) := by decide +kernel
theorem dX10_pairSaved_20 : decode cX10_pairSaved 20 = .ok (.iload_n 1, 1) := by decide +kernel
theorem dX10_pairSaved_21 : decode cX10_pairSaved 21 = .ok (.bipush 10, 2) := by decide +kernel
theorem dX10_pairSaved_23 : decode cX10_pairSaved 23 = .ok (.imul, 1) := by decide +kernel
theorem dX10_pairSaved_24 : decode cX10_pairSaved 24 = .ok (.istore 4, 2) := by decide +kernel
theorem dX10_pairSaved_26 : decode cX10_pairSaved 26 = .ok (.iload 4, 2) := by decide +kernel
theorem dX10_pairSaved_28 : decode cX10_pairSaved 28 = .ok (.aload_n 0, 1) := by decide +kernel
theorem dX10_pairSaved_29 : decode cX10_pairSaved 29 = .ok (.getfield 42, 3) := by decide +kernel
theorem dX10_pairSaved_32 : decode cX10_pairSaved 32 = .ok (.getfield 301, 3) := by decide +kernel
theorem dX10_pairSaved_35 : decode cX10_pairSaved 35 = .ok (.iload_n 1, 1) := by decide +kernel
theorem dX10_pairSaved_36 : decode cX10_pairSaved 36 = .ok (.iaload, 1) := by decide +kernel
theorem dX10_pairSaved_37 : decode cX10_pairSaved 37 = .ok (.if_icmp .ge 49, 3) := by decide +kernel
theorem dX10_pairSaved_40 : decode cX10_pairSaved 40 = .ok (.iload_n 2, 1) := by decide +kernel
theorem dX10_pairSaved_41 : decode cX10_pairSaved 41 = .ok (.bipush 10, 2) := by decide +kernel
theorem dX10_pairSaved_43 : decode cX10_pairSaved 43 = .ok (.imul, 1) := by decide +kernel
theorem dX10_pairSaved_44 : decode cX10_pairSaved 44 = .ok (.istore 5, 2) := by decide +kernel
theorem dX10_pairSaved_46 : decode cX10_pairSaved 46 = .ok (.iload 5, 2) := by decide +kernel
theorem dX10_pairSaved_48 : decode cX10_pairSaved 48 = .ok (.aload_n 0, 1) := by decide +kernel
theorem dX10_pairSaved_49 : decode cX10_pairSaved 49 = .ok (.getfield 42, 3) := by decide +kernel
theorem dX10_pairSaved_52 : decode cX10_pairSaved 52 = .ok (.getfield 301, 3) := by decide +kernel
theorem dX10_pairSaved_55 : decode cX10_pairSaved 55 = .ok (.iload_n 2, 1) := by decide +kernel
theorem dX10_pairSaved_56 : decode cX10_pairSaved 56 = .ok (.iaload, 1) := by decide +kernel
theorem dX10_pairSaved_57 : decode cX10_pairSaved 57 = .ok (.if_icmp .ge 23, 3) := by decide +kernel
theorem dX10_pairSaved_60 : decode cX10_pairSaved 60 = .ok (.iload_n 3, 1) := by decide +kernel
theorem dX10_pairSaved_61 : decode cX10_pairSaved 61 = .ok (.aload_n 0, 1) := by decide +kernel
theorem dX10_pairSaved_62 : decode cX10_pairSaved 62 = .ok (.getfield 51, 3) := by decide +kernel
theorem dX10_pairSaved_65 : decode cX10_pairSaved 65 = .ok (.iload 4, 2) := by decide +kernel
theorem dX10_pairSaved_67 : decode cX10_pairSaved 67 = .ok (.iload 5, 2) := by decide +kernel
theorem dX10_pairSaved_69 : decode cX10_pairSaved 69 = .ok (.invokevirtual 308, 3) := by decide +kernel
theorem dX10_pairSaved_72 : decode cX10_pairSaved 72 = .ok (.iadd, 1) := by decide +kernel
theorem dX10_pairSaved_73 : decode cX10_pairSaved 73 = .ok (.istore_n 3, 1) := by decide +kernel
theorem dX10_pairSaved_74 : decode cX10_pairSaved 74 = .ok (.iinc 5 1, 3) := by decide +kernel
theorem dX10_pairSaved_77 : decode cX10_pairSaved 77 = .ok (.goto (-31), 3) := by decide +kernel
theorem dX10_pairSaved_80 : decode cX10_pairSaved 80 = .ok (.iinc 4 1, 3) := by decide +kernel
theorem dX10_pairSaved_83 : decode cX10_pairSaved 83 = .ok (.goto (-57), 3) := by decide +kernel
theorem dX10_pairSaved_86 : decode cX10_pairSaved 86 = .ok (.iload_n 3, 1) := by decide +kernel
theorem dX10_pairSaved_87 : decode cX10_pairSaved 87 = .ok (.ireturn, 1) := by decide +kernel
theorem cm_X10_pairSaved : x_CM yX10_pairSaved cX10_pairSaved 6 (Option.some FieldType.int) 2 := ⟨w_5_168, w_1_1, by decide +kernel, by decide +kernel⟩
theorem ci_X10_pairSaved : x_CI yX10_pairSaved 12 := ⟨w_5_166, w_5_167, (RX10, TX10, 12), rfl, rfl⟩
set_option maxRecDepth 100000 in
set_option maxHeartbeats 4000000 in
theorem bX10_pairSaved_46 {V : x_J} {ad : Nat → Nat} {Q : Int32 → x_S → x_L → Prop} {QX : x_PE} (Y : x_IsX V cX10_pairSaved 6 RX10 (Option.some FieldType.int) ad dsX 7 (x_PI Q) QX 2 4) {K26 : Int32 → Int32 → Int32 → Int32 → x_S → x_L → Prop} {K46 : Int32 → Int32 → Int32 → Int32 → Int32 → x_S → x_L → Prop} (hK26 : ∀ v1 v2 v3 v4 σ τ, K26 v1 v2 v3 v4 σ τ → V σ τ 26 [(0, .ref (ad 0)), (1, .int v1), (2, .int v2), (3, .int v3), (4, .int v4)] []) (hK46 : ∀ v1 v2 v3 v4 v5 σ τ, K46 v1 v2 v3 v4 v5 σ τ → V σ τ 46 [(0, .ref (ad 0)), (1, .int v1), (2, .int v2), (3, .int v3), (4, .int v4), (5, .int v5)] []) {v1 : Int32} {v2 : Int32} {v3 : Int32} {v4 : Int32} {v5 : Int32} {σ : x_S} {τ : x_L} (h : wX10_pairSaved_46 K26 Q QX K46 v1 v2 v3 v4 v5 σ τ) : V σ τ 46 [(0, .ref (ad 0)), (1, .int v1), (2, .int v2), (3, .int v3), (4, .int v4), (5, .int v5)] [] := by
  have X := x_isX Y
  refine x_iload X dX10_pairSaved_46 5 rfl ?_
  refine x_aload_n X dX10_pairSaved_48 rfl 0 rfl ?_
  refine x_getR X (j := 27) dX10_pairSaved_49 fl_10_42 dsX_0 rfl ?_
  refine x_getR X (j := 30) dX10_pairSaved_52 fl_10_301 dsX_27 rfl ?_
  refine x_iload_n X dX10_pairSaved_55 rfl 2 rfl ?_
  have g56 := h.1
  have h := h.2
  refine x_iald X dX10_pairSaved_56 dsX_30 g56 ?_
  refine x_icmp_ge X 80 dX10_pairSaved_57 (by decide) (fun hc => ?_) (fun hc => ?_)
  · have h := h.1 hc
    refine x_iinc X (k := 4) (lv' := [(4, .int (v4 + 1)), (0, .ref (ad 0)), (1, .int v1), (2, .int v2), (3, .int v3), (5, .int v5)]) dX10_pairSaved_80 rfl ki_1 (by decide) rfl ?_
    refine x_goto X (tgt := 26) dX10_pairSaved_83 (by decide) ?_
    refine x_sub X [1, 2, 3, 4, 0] (lv' := [(0, .ref (ad 0)), (1, .int v1), (2, .int v2), (3, .int v3), (4, .int (v4 + 1))]) rfl ?_
    exact hK26 _ _ _ _ _ _ h
  · have h := h.2 hc
    refine x_iload_n X dX10_pairSaved_60 rfl 3 rfl ?_
    refine x_aload_n X dX10_pairSaved_61 rfl 0 rfl ?_
    refine x_getR X (j := 33) dX10_pairSaved_62 fl_10_51 dsX_0 rfl ?_
    refine x_iload X dX10_pairSaved_65 4 rfl ?_
    refine x_iload X dX10_pairSaved_67 5 rfl ?_
    refine x_callVi X [.int v4, .int v5] [.int v3] dX10_pairSaved_69 (kX6_savedByPair x_pl33 h) cm_X6_savedByPair ci_X6_savedByPair w_5_169 dsX_33 ⟨by decide, by decide⟩ rfl (Nat.le_of_ble_eq_true rfl) (fun r69 σ69 τ69 h => ?_)
    refine x_iadd X dX10_pairSaved_72 ?_
    refine x_istore_n X (lv' := [(3, .int (v3 + r69)), (0, .ref (ad 0)), (1, .int v1), (2, .int v2), (4, .int v4), (5, .int v5)]) dX10_pairSaved_73 rfl (by decide) rfl ?_
    refine x_iinc X (k := 5) (lv' := [(5, .int (v5 + 1)), (3, .int (v3 + r69)), (0, .ref (ad 0)), (1, .int v1), (2, .int v2), (4, .int v4)]) dX10_pairSaved_74 rfl ki_1 (by decide) rfl ?_
    refine x_goto X (tgt := 46) dX10_pairSaved_77 (by decide) ?_
    refine x_sub X [2, 3, 4, 1, 5, 0] (lv' := [(0, .ref (ad 0)), (1, .int v1), (2, .int v2), (3, .int (v3 + r69)), (4, .int v4), (5, .int (v5 + 1))]) rfl ?_
    exact hK46 _ _ _ _ _ _ _ h
set_option maxRecDepth 100000 in
set_option maxHeartbeats 4000000 in
theorem bX10_pairSaved_26 {V : x_J} {ad : Nat → Nat} {Q : Int32 → x_S → x_L → Prop} {QX : x_PE} (Y : x_IsX V cX10_pairSaved 6 RX10 (Option.some FieldType.int) ad dsX 7 (x_PI Q) QX 2 4) {K26 : Int32 → Int32 → Int32 → Int32 → x_S → x_L → Prop} (hK26 : ∀ v1 v2 v3 v4 σ τ, K26 v1 v2 v3 v4 σ τ → V σ τ 26 [(0, .ref (ad 0)), (1, .int v1), (2, .int v2), (3, .int v3), (4, .int v4)] []) {v1 : Int32} {v2 : Int32} {v3 : Int32} {v4 : Int32} {σ : x_S} {τ : x_L} (h : wX10_pairSaved_26 Q QX K26 v1 v2 v3 v4 σ τ) : V σ τ 26 [(0, .ref (ad 0)), (1, .int v1), (2, .int v2), (3, .int v3), (4, .int v4)] [] := by
  have X := x_isX Y
  refine x_iload X dX10_pairSaved_26 4 rfl ?_
  refine x_aload_n X dX10_pairSaved_28 rfl 0 rfl ?_
  refine x_getR X (j := 27) dX10_pairSaved_29 fl_10_42 dsX_0 rfl ?_
  refine x_getR X (j := 30) dX10_pairSaved_32 fl_10_301 dsX_27 rfl ?_
  refine x_iload_n X dX10_pairSaved_35 rfl 1 rfl ?_
  have g36 := h.1
  have h := h.2
  refine x_iald X dX10_pairSaved_36 dsX_30 g36 ?_
  refine x_icmp_ge X 86 dX10_pairSaved_37 (by decide) (fun hc => ?_) (fun hc => ?_)
  · have h := h.1 hc
    refine x_iload_n X dX10_pairSaved_86 rfl 3 rfl ?_
    exact x_iret X dX10_pairSaved_87 ⟨_, rfl, h⟩
  · have h := h.2 hc
    refine x_iload_n X dX10_pairSaved_40 rfl 2 rfl ?_
    refine x_bipush X dX10_pairSaved_41 kb_10 ?_
    refine x_imul X dX10_pairSaved_43 ?_
    refine x_istore X (lv' := [(5, .int (v2 * 10)), (0, .ref (ad 0)), (1, .int v1), (2, .int v2), (3, .int v3), (4, .int v4)]) dX10_pairSaved_44 (by decide) rfl ?_
    refine x_sub X [1, 2, 3, 4, 5, 0] (lv' := [(0, .ref (ad 0)), (1, .int v1), (2, .int v2), (3, .int v3), (4, .int v4), (5, .int (v2 * 10))]) rfl ?_
    exact x_l5_G (fun v1 v2 v3 v4 v5 σ τ => V σ τ 46 [(0, .ref (ad 0)), (1, .int v1), (2, .int v2), (3, .int v3), (4, .int v4), (5, .int v5)] []) (fun K46 hK46 v1 v2 v3 v4 v5 σ τ h => bX10_pairSaved_46 Y hK26 hK46 h) h
set_option maxRecDepth 100000 in
set_option maxHeartbeats 4000000 in
theorem kX10_pairSaved {ad : Nat → Nat} {a1 : Int32} {a2 : Int32} {σ : x_S} {τ : x_L} {Q : Int32 → x_S → x_L → Prop} {QX : x_PE} (h : wX10_pairSaved a1 a2 σ τ Q QX) : x_MetX yX10_pairSaved cX10_pairSaved 6 (Option.some FieldType.int) 7 4 ad dsX [.ref (ad 0), .int a1, .int a2] σ τ (x_PI Q) QX := by
  refine x_metX (by decide +kernel) (Nat.le_of_ble_eq_true rfl) (fun V Y => ?_)
  have Y : x_IsX V cX10_pairSaved 6 RX10 (Option.some FieldType.int) ad dsX 7 (x_PI Q) QX 0 4 := Y
  have X := x_isX Y
  show V σ τ 0 [(0, .ref (ad 0)), (1, .int a1), (2, .int a2)] []
  refine x_aload_n X dX10_pairSaved_0 rfl 0 rfl ?_
  refine x_iload_n X dX10_pairSaved_1 rfl 1 rfl ?_
  refine x_callVXv Y [.int a1] [] dX10_pairSaved_2 (kX10_checkTruck h) cm_X10_checkTruck ci_X10_checkTruck w_5_57 dsX_0 ⟨by decide, by decide⟩ (by decide) rfl (Nat.le_of_ble_eq_true rfl) (fun V σ2 τ2 Y h => ?_)
  have X := x_isX Y
  refine x_aload_n X dX10_pairSaved_5 rfl 0 rfl ?_
  refine x_iload_n X dX10_pairSaved_6 rfl 2 rfl ?_
  refine x_callVXv Y [.int a2] [] dX10_pairSaved_7 (kX10_checkTruck h) cm_X10_checkTruck ci_X10_checkTruck w_5_57 dsX_0 ⟨by decide, by decide⟩ (by decide) rfl (Nat.le_of_ble_eq_true rfl) (fun V σ7 τ7 Y h => ?_)
  have X := x_isX Y
  refine x_iload_n X dX10_pairSaved_10 rfl 1 rfl ?_
  refine x_iload_n X dX10_pairSaved_11 rfl 2 rfl ?_
  refine x_icmp_ne X 18 dX10_pairSaved_12 (by decide) (fun hc => ?_) (fun hc => ?_)
  · have h := h.1 hc
    refine x_iconst X dX10_pairSaved_18 ki_0 ?_
    refine x_istore_n X (lv' := [(3, .int 0), (0, .ref (ad 0)), (1, .int a1), (2, .int a2)]) dX10_pairSaved_19 rfl (by decide) rfl ?_
    refine x_iload_n X dX10_pairSaved_20 rfl 2 rfl ?_
    refine x_bipush X dX10_pairSaved_21 kb_10 ?_
    refine x_imul X dX10_pairSaved_23 ?_
    refine x_istore X (lv' := [(4, .int (a1 * 10)), (3, .int 0), (0, .ref (ad 0)), (1, .int a1), (2, .int a2)]) dX10_pairSaved_24 (by decide) rfl ?_
    refine x_sub X [2, 3, 4, 1, 0] (lv' := [(0, .ref (ad 0)), (1, .int a1), (2, .int a2), (3, .int 0), (4, .int (a1 * 10))]) rfl ?_
    exact x_l4_G (fun v1 v2 v3 v4 σ τ => V σ τ 26 [(0, .ref (ad 0)), (1, .int v1), (2, .int v2), (3, .int v3), (4, .int v4)] []) (fun K26 hK26 v1 v2 v3 v4 σ τ h => bX10_pairSaved_26 Y hK26 h) h
  · have h := h.2 hc
    refine x_bipush X dX10_pairSaved_15 kb_m3 ?_
    exact x_iret X dX10_pairSaved_17 ⟨_, rfl, h⟩
theorem dX10_checkRange_0 : decode cX10_checkRange 0 = .ok (.iload_n 0, 1) := by decide +kernel
theorem dX10_checkRange_1 : decode cX10_checkRange 1 = .ok (.iload_n 1, 1) := by decide +kernel
theorem dX10_checkRange_2 : decode cX10_checkRange 2 = .ok (.if_icmp .lt 8, 3) := by decide +kernel
theorem dX10_checkRange_5 : decode cX10_checkRange 5 = .ok (.iload_n 0, 1) := by decide +kernel
theorem dX10_checkRange_6 : decode cX10_checkRange 6 = .ok (.iload_n 2, 1) := by decide +kernel
theorem dX10_checkRange_7 : decode cX10_checkRange 7 = .ok (.if_icmp .le 14, 3) := by decide +kernel
theorem dX10_checkRange_10 : decode cX10_checkRange 10 = .ok (.new 486, 3) := by decide +kernel
theorem dX10_checkRange_13 : decode cX10_checkRange 13 = .ok (.dup, 1) := by decide +kernel
theorem dX10_checkRange_14 : decode cX10_checkRange 14 = .ok (.ldc_w 488, 3) := by decide +kernel
theorem dX10_checkRange_17 : decode cX10_checkRange 17 = .ok (.invokespecial 490, 3) := by decide +kernel
theorem dX10_checkRange_20 : decode cX10_checkRange 20 = .ok (.athrow, 1) := by decide +kernel
theorem dX10_checkRange_21 : decode cX10_checkRange 21 = .ok (.return_, 1) := by decide +kernel
theorem cm_X10_checkRange : x_CM yX10_checkRange cX10_checkRange 3 (Option.none : Option Jvm.ClassFile.FieldType) 3 := ⟨w_5_184, w_1_1, by decide +kernel, by decide +kernel⟩
set_option maxRecDepth 100000 in
set_option maxHeartbeats 4000000 in
theorem bX10_checkRange_10 {V : x_J} {ad : Nat → Nat} {Q : x_S → x_L → Prop} {QX : x_PE} (Y : x_IsX V cX10_checkRange 3 RX10 (Option.none : Option Jvm.ClassFile.FieldType) ad dsX 6 (x_PV Q) QX 0 1) {σ : x_S} {τ : x_L} (h : wX10_checkRange_10 Q QX σ τ) : V σ τ 10 [] [] := by
  have X := x_isX Y
  exact x_throw Y (i := 14) dX10_checkRange_10 dX10_checkRange_13 dX10_checkRange_14 dX10_checkRange_17 dX10_checkRange_20 (by decide +kernel) w_5_185 w_1_25 (List.mem_of_getElem? (i := 1) rfl) (List.mem_of_getElem? (i := 14) rfl) x_exIA x_exIA_b x_exIA_c (by decide) (by decide) (Nat.le_of_ble_eq_true rfl) h
set_option maxRecDepth 100000 in
set_option maxHeartbeats 4000000 in
theorem kX10_checkRange {ad : Nat → Nat} {a0 : Int32} {a1 : Int32} {a2 : Int32} {σ : x_S} {τ : x_L} {Q : x_S → x_L → Prop} {QX : x_PE} (h : wX10_checkRange a0 a1 a2 σ τ Q QX) : x_MetX yX10_checkRange cX10_checkRange 3 (Option.none : Option Jvm.ClassFile.FieldType) 6 1 ad dsX [.int a0, .int a1, .int a2] σ τ (x_PV Q) QX := by
  refine x_metX (by decide +kernel) (Nat.le_of_ble_eq_true rfl) (fun V Y => ?_)
  have Y : x_IsX V cX10_checkRange 3 RX10 (Option.none : Option Jvm.ClassFile.FieldType) ad dsX 6 (x_PV Q) QX 0 1 := Y
  have X := x_isX Y
  show V σ τ 0 [(0, .int a0), (1, .int a1), (2, .int a2)] []
  refine x_iload_n X dX10_checkRange_0 rfl 0 rfl ?_
  refine x_iload_n X dX10_checkRange_1 rfl 1 rfl ?_
  refine x_icmp_lt X 10 dX10_checkRange_2 (by decide) (fun hc => ?_) (fun hc => ?_)
  · have h := h.1 hc
    refine x_sub X [] (lv' := []) rfl ?_
    exact bX10_checkRange_10 Y h
  · have h := h.2 hc
    refine x_iload_n X dX10_checkRange_5 rfl 0 rfl ?_
    refine x_iload_n X dX10_checkRange_6 rfl 2 rfl ?_
    refine x_icmp_le X 21 dX10_checkRange_7 (by decide) (fun hc => ?_) (fun hc => ?_)
    · have h := h.1 hc
      exact x_vret X dX10_checkRange_21 ⟨rfl, h⟩
    · have h := h.2 hc
      refine x_sub X [] (lv' := []) rfl ?_
      exact bX10_checkRange_10 Y h
theorem dX10_run_0 : decode cX10_run 0 = .ok (.aload_n 0, 1) := by decide +kernel
theorem dX10_run_1 : decode cX10_run 1 = .ok (.iload_n 1, 1) := by decide +kernel
theorem dX10_run_2 : decode cX10_run 2 = .ok (.invokevirtual 209, 3) := by decide +kernel
theorem dX10_run_5 : decode cX10_run 5 = .ok (.aload_n 0, 1) := by decide +kernel
theorem dX10_run_6 : decode cX10_run 6 = .ok (.iload_n 2, 1) := by decide +kernel
theorem dX10_run_7 : decode cX10_run 7 = .ok (.invokevirtual 209, 3) := by decide +kernel
theorem dX10_run_10 : decode cX10_run 10 = .ok (.iload_n 3, 1) := by decide +kernel
theorem dX10_run_11 : decode cX10_run 11 = .ok (.iconst 0, 1) := by decide +kernel
theorem dX10_run_12 : decode cX10_run 12 = .ok (.iconst 2, 1) := by decide +kernel
theorem dX10_run_13 : decode cX10_run 13 = .ok (.invokestatic 311, 3) := by decide +kernel
theorem dX10_run_16 : decode cX10_run 16 = .ok (.iload_n 1, 1) := by decide +kernel
theorem dX10_run_17 : decode cX10_run 17 = .ok (.iload_n 2, 1) := by decide +kernel
theorem dX10_run_18 : decode cX10_run 18 = .ok (.if_icmp .ne 6, 3) := by decide +kernel
theorem dX10_run_21 : decode cX10_run 21 = .ok (.bipush (-3), 2) := by decide +kernel
theorem dX10_run_23 : decode cX10_run 23 = .ok (.ireturn, 1) := by decide +kernel
theorem dX10_run_24 : decode cX10_run 24 = .ok (.aload_n 0, 1) := by decide +kernel
theorem dX10_run_25 : decode cX10_run 25 = .ok (.getfield 63, 3) := by decide +kernel
theorem dX10_run_28 : decode cX10_run 28 = .ok (.iload_n 1, 1) := by decide +kernel
theorem dX10_run_29 : decode cX10_run 29 = .ok (.iload_n 2, 1) := by decide +kernel
theorem dX10_run_30 : decode cX10_run 30 = .ok (.invokevirtual 315, 3) := by decide +kernel
theorem dX10_run_33 : decode cX10_run 33 = .ok (.iload_n 3, 1) := by decide +kernel
theorem dX10_run_34 : decode cX10_run 34 = .ok (.ifCond .ne 11, 3) := by decide +kernel
theorem dX10_run_37 : decode cX10_run 37 = .ok (.aload_n 0, 1) := by decide +kernel
theorem dX10_run_38 : decode cX10_run 38 = .ok (.getfield 63, 3) := by decide +kernel
theorem dX10_run_41 : decode cX10_run 41 = .ok (.getfield 318, 3) := by decide +kernel
theorem dX10_run_44 : decode cX10_run 44 = .ok (.ireturn, 1) := by decide +kernel
theorem dX10_run_45 : decode cX10_run 45 = .ok (.iload_n 3, 1) := by decide +kernel
theorem dX10_run_46 : decode cX10_run 46 = .ok (.iconst 1, 1) := by decide +kernel
theorem dX10_run_47 : decode cX10_run 47 = .ok (.if_icmp .ne 13, 3) := by decide +kernel
theorem dX10_run_50 : decode cX10_run 50 = .ok (.aload_n 0, 1) := by decide +kernel
theorem dX10_run_51 : decode cX10_run 51 = .ok (.getfield 63, 3) := by decide +kernel
theorem dX10_run_54 : decode cX10_run 54 = .ok (.getfield 321, 3) := by decide +kernel
theorem dX10_run_57 : decode cX10_run 57 = .ok (.goto 10, 3) := by decide +kernel
theorem dX10_run_60 : decode cX10_run 60 = .ok (.aload_n 0, 1) := by decide +kernel
theorem dX10_run_61 : decode cX10_run 61 = .ok (.getfield 63, 3) := by decide +kernel
theorem dX10_run_64 : decode cX10_run 64 = .ok (.getfield 324, 3) := by decide +kernel
theorem dX10_run_67 : decode cX10_run 67 = .ok (.ireturn, 1) := by decide +kernel
theorem cm_X10_run : x_CM yX10_run cX10_run 4 (Option.some FieldType.int) 3 := ⟨w_5_181, w_1_1, by decide +kernel, by decide +kernel⟩
theorem ci_X10_run : x_CI yX10_run 12 := ⟨w_5_179, w_5_180, (RX10, TX10, 12), rfl, rfl⟩
set_option maxRecDepth 100000 in
set_option maxHeartbeats 4000000 in
theorem bX10_run_67 {V : x_J} {ad : Nat → Nat} {Q : Int32 → x_S → x_L → Prop} {QX : x_PE} (Y : x_IsX V cX10_run 4 RX10 (Option.some FieldType.int) ad dsX 7 (x_PI Q) QX 3 4) {s0 : Int32} {σ : x_S} {τ : x_L} (h : wX10_run_67 Q QX s0 σ τ) : V σ τ 67 [] [.int s0] := by
  have X := x_isX Y
  exact x_iret X dX10_run_67 ⟨_, rfl, h⟩
set_option maxRecDepth 100000 in
set_option maxHeartbeats 4000000 in
theorem kX10_run {ad : Nat → Nat} {a1 : Int32} {a2 : Int32} {a3 : Int32} {σ : x_S} {τ : x_L} {Q : Int32 → x_S → x_L → Prop} {QX : x_PE} (h : wX10_run a1 a2 a3 σ τ Q QX) : x_MetX yX10_run cX10_run 4 (Option.some FieldType.int) 7 4 ad dsX [.ref (ad 0), .int a1, .int a2, .int a3] σ τ (x_PI Q) QX := by
  refine x_metX (by decide +kernel) (Nat.le_of_ble_eq_true rfl) (fun V Y => ?_)
  have Y : x_IsX V cX10_run 4 RX10 (Option.some FieldType.int) ad dsX 7 (x_PI Q) QX 0 4 := Y
  have X := x_isX Y
  show V σ τ 0 [(0, .ref (ad 0)), (1, .int a1), (2, .int a2), (3, .int a3)] []
  refine x_aload_n X dX10_run_0 rfl 0 rfl ?_
  refine x_iload_n X dX10_run_1 rfl 1 rfl ?_
  refine x_callVXv Y [.int a1] [] dX10_run_2 (kX10_checkTruck h) cm_X10_checkTruck ci_X10_checkTruck w_5_57 dsX_0 ⟨by decide, by decide⟩ (by decide) rfl (Nat.le_of_ble_eq_true rfl) (fun V σ2 τ2 Y h => ?_)
  have X := x_isX Y
  refine x_aload_n X dX10_run_5 rfl 0 rfl ?_
  refine x_iload_n X dX10_run_6 rfl 2 rfl ?_
  refine x_callVXv Y [.int a2] [] dX10_run_7 (kX10_checkTruck h) cm_X10_checkTruck ci_X10_checkTruck w_5_57 dsX_0 ⟨by decide, by decide⟩ (by decide) rfl (Nat.le_of_ble_eq_true rfl) (fun V σ7 τ7 Y h => ?_)
  have X := x_isX Y
  refine x_iload_n X dX10_run_10 rfl 3 rfl ?_
  refine x_iconst X dX10_run_11 ki_0 ?_
  refine x_iconst X dX10_run_12 ki_2 ?_
  refine x_callSXv Y [.int a3, .int 0, .int 2] [] dX10_run_13 (kX10_checkRange h) cm_X10_checkRange w_5_183 rfl w_5_182 ⟨by decide, by decide⟩ (by decide) rfl (Nat.le_of_ble_eq_true rfl) (fun V σ13 τ13 Y h => ?_)
  have X := x_isX Y
  refine x_iload_n X dX10_run_16 rfl 1 rfl ?_
  refine x_iload_n X dX10_run_17 rfl 2 rfl ?_
  refine x_icmp_ne X 24 dX10_run_18 (by decide) (fun hc => ?_) (fun hc => ?_)
  · have h := h.1 hc
    refine x_aload_n X dX10_run_24 rfl 0 rfl ?_
    refine x_getR X (j := 59) dX10_run_25 fl_10_63 dsX_0 rfl ?_
    refine x_iload_n X dX10_run_28 rfl 1 rfl ?_
    refine x_iload_n X dX10_run_29 rfl 2 rfl ?_
    refine x_callVv X [.int a1, .int a2] [] dX10_run_30 (kX4_findRun h) cm_X4_findRun ci_X4_findRun w_5_201 dsX_59 ⟨by decide, by decide⟩ rfl (Nat.le_of_ble_eq_true rfl) (fun σ30 τ30 h => ?_)
    refine x_iload_n X dX10_run_33 rfl 3 rfl ?_
    refine x_if_ne X 45 dX10_run_34 (by decide) (fun hc => ?_) (fun hc => ?_)
    · have h := h.1 hc
      refine x_iload_n X dX10_run_45 rfl 3 rfl ?_
      refine x_iconst X dX10_run_46 ki_1 ?_
      refine x_icmp_ne X 60 dX10_run_47 (by decide) (fun hc => ?_) (fun hc => ?_)
      · have h := h.1 hc
        refine x_aload_n X dX10_run_60 rfl 0 rfl ?_
        refine x_getR X (j := 59) dX10_run_61 fl_10_63 dsX_0 rfl ?_
        refine x_getI X dX10_run_64 fl_10_324 dsX_59 rfl ?_
        refine x_sub X [] (lv' := []) rfl ?_
        exact bX10_run_67 Y h
      · have h := h.2 hc
        refine x_aload_n X dX10_run_50 rfl 0 rfl ?_
        refine x_getR X (j := 59) dX10_run_51 fl_10_63 dsX_0 rfl ?_
        refine x_getI X dX10_run_54 fl_10_321 dsX_59 rfl ?_
        refine x_goto X (tgt := 67) dX10_run_57 (by decide) ?_
        refine x_sub X [] (lv' := []) rfl ?_
        exact bX10_run_67 Y h
    · have h := h.2 hc
      refine x_aload_n X dX10_run_37 rfl 0 rfl ?_
      refine x_getR X (j := 59) dX10_run_38 fl_10_63 dsX_0 rfl ?_
      refine x_getI X dX10_run_41 fl_10_318 dsX_59 rfl ?_
      exact x_iret X dX10_run_44 ⟨_, rfl, h⟩
  · have h := h.2 hc
    refine x_bipush X dX10_run_21 kb_m3 ?_
    exact x_iret X dX10_run_23 ⟨_, rfl, h⟩
theorem dX10_common_0 : decode cX10_common 0 = .ok (.aload_n 0, 1) := by decide +kernel
theorem dX10_common_1 : decode cX10_common 1 = .ok (.iload_n 1, 1) := by decide +kernel
theorem dX10_common_2 : decode cX10_common 2 = .ok (.invokevirtual 209, 3) := by decide +kernel
theorem dX10_common_5 : decode cX10_common 5 = .ok (.aload_n 0, 1) := by decide +kernel
theorem dX10_common_6 : decode cX10_common 6 = .ok (.iload_n 2, 1) := by decide +kernel
theorem dX10_common_7 : decode cX10_common 7 = .ok (.invokevirtual 209, 3) := by decide +kernel
theorem dX10_common_10 : decode cX10_common 10 = .ok (.iconst 0, 1) := by decide +kernel
theorem dX10_common_11 : decode cX10_common 11 = .ok (.istore_n 3, 1) := by decide +kernel
theorem dX10_common_12 : decode cX10_common 12 = .ok (.iconst 0, 1) := by decide +kernel
theorem dX10_common_13 : decode cX10_common 13 = .ok (.istore 4, 2) := by decide +kernel
theorem dX10_common_15 : decode cX10_common 15 = .ok (.iload 4, 2) := by decide +kernel
theorem dX10_common_17 : decode cX10_common 17 = .ok (.aload_n 0, 1) := by decide +kernel
theorem dX10_common_18 : decode cX10_common 18 = .ok (.getfield 19, 3) := by decide +kernel
theorem dX10_common_21 : decode cX10_common 21 = .ok (.getfield 136, 3) := by decide +kernel
theorem dX10_common_24 : decode cX10_common 24 = .ok (.if_icmp .ge 38, 3) := by decide +kernel
theorem dX10_common_27 : decode cX10_common 27 = .ok (.aload_n 0, 1) := by decide +kernel
theorem dX10_common_28 : decode cX10_common 28 = .ok (.getfield 42, 3) := by decide +kernel
theorem dX10_common_31 : decode cX10_common 31 = .ok (.iload_n 1, 1) := by decide +kernel
theorem dX10_common_32 : decode cX10_common 32 = .ok (.iload 4, 2) := by decide +kernel
theorem dX10_common_34 : decode cX10_common 34 = .ok (.invokevirtual 327, 3) := by decide +kernel
theorem dX10_common_37 : decode cX10_common 37 = .ok (.ifCond .eq 19, 3) := by decide +kernel
theorem dX10_common_40 : decode cX10_common 40 = .ok (.aload_n 0, 1) := by decide +kernel
theorem dX10_common_41 : decode cX10_common 41 = .ok (.getfield 42, 3) := by decide +kernel
theorem dX10_common_44 : decode cX10_common 44 = .ok (.iload_n 2, 1) := by decide +kernel
theorem dX10_common_45 : decode cX10_common 45 = .ok (.iload 4, 2) := by decide +kernel
theorem dX10_common_47 : decode cX10_common 47 = .ok (.invokevirtual 327, 3) := by decide +kernel
theorem dX10_common_50 : decode cX10_common 50 = .ok (.ifCond .eq 6, 3) := by decide +kernel
theorem dX10_common_53 : decode cX10_common 53 = .ok (.iinc 3 1, 3) := by decide +kernel
theorem dX10_common_56 : decode cX10_common 56 = .ok (.iinc 4 1, 3) := by decide +kernel
theorem dX10_common_59 : decode cX10_common 59 = .ok (.goto (-44), 3) := by decide +kernel
theorem dX10_common_62 : decode cX10_common 62 = .ok (.iload_n 3, 1) := by decide +kernel
theorem dX10_common_63 : decode cX10_common 63 = .ok (.ireturn, 1) := by decide +kernel
theorem cm_X10_common : x_CM yX10_common cX10_common 5 (Option.some FieldType.int) 2 := ⟨w_5_208, w_1_1, by decide +kernel, by decide +kernel⟩
theorem ci_X10_common : x_CI yX10_common 12 := ⟨w_5_206, w_5_207, (RX10, TX10, 12), rfl, rfl⟩
set_option maxRecDepth 100000 in
set_option maxHeartbeats 4000000 in
theorem bX10_common_56 {V : x_J} {ad : Nat → Nat} {Q : Int32 → x_S → x_L → Prop} {QX : x_PE} (Y : x_IsX V cX10_common 5 RX10 (Option.some FieldType.int) ad dsX 7 (x_PI Q) QX 2 4) {K15 : Int32 → Int32 → Int32 → Int32 → x_S → x_L → Prop} (hK15 : ∀ v1 v2 v3 v4 σ τ, K15 v1 v2 v3 v4 σ τ → V σ τ 15 [(0, .ref (ad 0)), (1, .int v1), (2, .int v2), (3, .int v3), (4, .int v4)] []) {v1 : Int32} {v2 : Int32} {v3 : Int32} {v4 : Int32} {σ : x_S} {τ : x_L} (h : wX10_common_56 K15 Q QX v1 v2 v3 v4 σ τ) : V σ τ 56 [(0, .ref (ad 0)), (1, .int v1), (2, .int v2), (3, .int v3), (4, .int v4)] [] := by
  have X := x_isX Y
  refine x_iinc X (k := 4) (lv' := [(4, .int (v4 + 1)), (0, .ref (ad 0)), (1, .int v1), (2, .int v2), (3, .int v3)]) dX10_common_56 rfl ki_1 (by decide) rfl ?_
  refine x_goto X (tgt := 15) dX10_common_59 (by decide) ?_
  refine x_sub X [1, 2, 3, 4, 0] (lv' := [(0, .ref (ad 0)), (1, .int v1), (2, .int v2), (3, .int v3), (4, .int (v4 + 1))]) rfl ?_
  exact hK15 _ _ _ _ _ _ h
set_option maxRecDepth 100000 in
set_option maxHeartbeats 4000000 in
theorem bX10_common_15 {V : x_J} {ad : Nat → Nat} {Q : Int32 → x_S → x_L → Prop} {QX : x_PE} (Y : x_IsX V cX10_common 5 RX10 (Option.some FieldType.int) ad dsX 7 (x_PI Q) QX 2 4) {K15 : Int32 → Int32 → Int32 → Int32 → x_S → x_L → Prop} (hK15 : ∀ v1 v2 v3 v4 σ τ, K15 v1 v2 v3 v4 σ τ → V σ τ 15 [(0, .ref (ad 0)), (1, .int v1), (2, .int v2), (3, .int v3), (4, .int v4)] []) {v1 : Int32} {v2 : Int32} {v3 : Int32} {v4 : Int32} {σ : x_S} {τ : x_L} (h : wX10_common_15 Q QX K15 v1 v2 v3 v4 σ τ) : V σ τ 15 [(0, .ref (ad 0)), (1, .int v1), (2, .int v2), (3, .int v3), (4, .int v4)] [] := by
  have X := x_isX Y
  refine x_iload X dX10_common_15 4 rfl ?_
  refine x_aload_n X dX10_common_17 rfl 0 rfl ?_
  refine x_getR X (j := 3) dX10_common_18 fl_10_19 dsX_0 rfl ?_
  refine x_getI X dX10_common_21 fl_10_136 dsX_3 rfl ?_
  refine x_icmp_ge X 62 dX10_common_24 (by decide) (fun hc => ?_) (fun hc => ?_)
  · have h := h.1 hc
    refine x_iload_n X dX10_common_62 rfl 3 rfl ?_
    exact x_iret X dX10_common_63 ⟨_, rfl, h⟩
  · have h := h.2 hc
    refine x_aload_n X dX10_common_27 rfl 0 rfl ?_
    refine x_getR X (j := 27) dX10_common_28 fl_10_42 dsX_0 rfl ?_
    refine x_iload_n X dX10_common_31 rfl 1 rfl ?_
    refine x_iload X dX10_common_32 4 rfl ?_
    refine x_callVi X [.int v1, .int v4] [] dX10_common_34 (kX7_isOn h) cm_X7_isOn ci_X7_isOn w_5_209 dsX_27 ⟨by decide, by decide⟩ rfl (Nat.le_of_ble_eq_true rfl) (fun r34 σ34 τ34 h => ?_)
    refine x_if_eq X 56 dX10_common_37 (by decide) (fun hc => ?_) (fun hc => ?_)
    · have h := h.1 hc
      exact bX10_common_56 Y hK15 h
    · have h := h.2 hc
      refine x_aload_n X dX10_common_40 rfl 0 rfl ?_
      refine x_getR X (j := 27) dX10_common_41 fl_10_42 dsX_0 rfl ?_
      refine x_iload_n X dX10_common_44 rfl 2 rfl ?_
      refine x_iload X dX10_common_45 4 rfl ?_
      refine x_callVi X [.int v2, .int v4] [] dX10_common_47 (kX7_isOn h) cm_X7_isOn ci_X7_isOn w_5_209 dsX_27 ⟨by decide, by decide⟩ rfl (Nat.le_of_ble_eq_true rfl) (fun r47 σ47 τ47 h => ?_)
      refine x_if_eq X 56 dX10_common_50 (by decide) (fun hc => ?_) (fun hc => ?_)
      · have h := h.1 hc
        exact bX10_common_56 Y hK15 h
      · have h := h.2 hc
        refine x_iinc X (k := 3) (lv' := [(3, .int (v3 + 1)), (0, .ref (ad 0)), (1, .int v1), (2, .int v2), (4, .int v4)]) dX10_common_53 rfl ki_1 (by decide) rfl ?_
        refine x_sub X [1, 2, 3, 0, 4] (lv' := [(0, .ref (ad 0)), (1, .int v1), (2, .int v2), (3, .int (v3 + 1)), (4, .int v4)]) rfl ?_
        exact bX10_common_56 Y hK15 h
set_option maxRecDepth 100000 in
set_option maxHeartbeats 4000000 in
theorem kX10_common {ad : Nat → Nat} {a1 : Int32} {a2 : Int32} {σ : x_S} {τ : x_L} {Q : Int32 → x_S → x_L → Prop} {QX : x_PE} (h : wX10_common a1 a2 σ τ Q QX) : x_MetX yX10_common cX10_common 5 (Option.some FieldType.int) 7 4 ad dsX [.ref (ad 0), .int a1, .int a2] σ τ (x_PI Q) QX := by
  refine x_metX (by decide +kernel) (Nat.le_of_ble_eq_true rfl) (fun V Y => ?_)
  have Y : x_IsX V cX10_common 5 RX10 (Option.some FieldType.int) ad dsX 7 (x_PI Q) QX 0 4 := Y
  have X := x_isX Y
  show V σ τ 0 [(0, .ref (ad 0)), (1, .int a1), (2, .int a2)] []
  refine x_aload_n X dX10_common_0 rfl 0 rfl ?_
  refine x_iload_n X dX10_common_1 rfl 1 rfl ?_
  refine x_callVXv Y [.int a1] [] dX10_common_2 (kX10_checkTruck h) cm_X10_checkTruck ci_X10_checkTruck w_5_57 dsX_0 ⟨by decide, by decide⟩ (by decide) rfl (Nat.le_of_ble_eq_true rfl) (fun V σ2 τ2 Y h => ?_)
  have X := x_isX Y
  refine x_aload_n X dX10_common_5 rfl 0 rfl ?_
  refine x_iload_n X dX10_common_6 rfl 2 rfl ?_
  refine x_callVXv Y [.int a2] [] dX10_common_7 (kX10_checkTruck h) cm_X10_checkTruck ci_X10_checkTruck w_5_57 dsX_0 ⟨by decide, by decide⟩ (by decide) rfl (Nat.le_of_ble_eq_true rfl) (fun V σ7 τ7 Y h => ?_)
  have X := x_isX Y
  refine x_iconst X dX10_common_10 ki_0 ?_
  refine x_istore_n X (lv' := [(3, .int 0), (0, .ref (ad 0)), (1, .int a1), (2, .int a2)]) dX10_common_11 rfl (by decide) rfl ?_
  refine x_iconst X dX10_common_12 ki_0 ?_
  refine x_istore X (lv' := [(4, .int 0), (3, .int 0), (0, .ref (ad 0)), (1, .int a1), (2, .int a2)]) dX10_common_13 (by decide) rfl ?_
  refine x_sub X [2, 3, 4, 1, 0] (lv' := [(0, .ref (ad 0)), (1, .int a1), (2, .int a2), (3, .int 0), (4, .int 0)]) rfl ?_
  exact x_l4_G (fun v1 v2 v3 v4 σ τ => V σ τ 15 [(0, .ref (ad 0)), (1, .int v1), (2, .int v2), (3, .int v3), (4, .int v4)] []) (fun K15 hK15 v1 v2 v3 v4 σ τ h => bX10_common_15 Y hK15 h) h
theorem dX10_slack_0 : decode cX10_slack 0 = .ok (.aload_n 0, 1) := by decide +kernel
theorem dX10_slack_1 : decode cX10_slack 1 = .ok (.iload_n 1, 1) := by decide +kernel
theorem dX10_slack_2 : decode cX10_slack 2 = .ok (.invokevirtual 209, 3) := by decide +kernel
theorem dX10_slack_5 : decode cX10_slack 5 = .ok (.aload_n 0, 1) := by decide +kernel
theorem dX10_slack_6 : decode cX10_slack 6 = .ok (.getfield 19, 3) := by decide +kernel
theorem dX10_slack_9 : decode cX10_slack 9 = .ok (.getfield 215, 3) := by decide +kernel
theorem dX10_slack_12 : decode cX10_slack 12 = .ok (.iload_n 1, 1) := by decide +kernel
theorem dX10_slack_13 : decode cX10_slack 13 = .ok (.iaload, 1) := by decide +kernel
theorem dX10_slack_14 : decode cX10_slack 14 = .ok (.aload_n 0, 1) := by decide +kernel
theorem dX10_slack_15 : decode cX10_slack 15 = .ok (.getfield 51, 3) := by decide +kernel
theorem dX10_slack_18 : decode cX10_slack 18 = .ok (.iload_n 1, 1) := by decide +kernel
theorem dX10_slack_19 : decode cX10_slack 19 = .ok (.invokevirtual 224, 3) := by decide +kernel
theorem dX10_slack_22 : decode cX10_slack 22 = .ok (.isub, 1) := by decide +kernel
theorem dX10_slack_23 : decode cX10_slack 23 = .ok (.ireturn, 1) := by decide +kernel
theorem cm_X10_slack : x_CM yX10_slack cX10_slack 2 (Option.some FieldType.int) 1 := ⟨w_5_220, w_1_1, by decide +kernel, by decide +kernel⟩
theorem ci_X10_slack : x_CI yX10_slack 12 := ⟨w_5_218, w_5_219, (RX10, TX10, 12), rfl, rfl⟩
set_option maxRecDepth 100000 in
set_option maxHeartbeats 4000000 in
theorem kX10_slack {ad : Nat → Nat} {a1 : Int32} {σ : x_S} {τ : x_L} {Q : Int32 → x_S → x_L → Prop} {QX : x_PE} (h : wX10_slack a1 σ τ Q QX) : x_MetX yX10_slack cX10_slack 2 (Option.some FieldType.int) 7 4 ad dsX [.ref (ad 0), .int a1] σ τ (x_PI Q) QX := by
  refine x_metX (by decide +kernel) (Nat.le_of_ble_eq_true rfl) (fun V Y => ?_)
  have Y : x_IsX V cX10_slack 2 RX10 (Option.some FieldType.int) ad dsX 7 (x_PI Q) QX 0 4 := Y
  have X := x_isX Y
  show V σ τ 0 [(0, .ref (ad 0)), (1, .int a1)] []
  refine x_aload_n X dX10_slack_0 rfl 0 rfl ?_
  refine x_iload_n X dX10_slack_1 rfl 1 rfl ?_
  refine x_callVXv Y [.int a1] [] dX10_slack_2 (kX10_checkTruck h) cm_X10_checkTruck ci_X10_checkTruck w_5_57 dsX_0 ⟨by decide, by decide⟩ (by decide) rfl (Nat.le_of_ble_eq_true rfl) (fun V σ2 τ2 Y h => ?_)
  have X := x_isX Y
  refine x_aload_n X dX10_slack_5 rfl 0 rfl ?_
  refine x_getR X (j := 3) dX10_slack_6 fl_10_19 dsX_0 rfl ?_
  refine x_getR X (j := 9) dX10_slack_9 fl_10_215 dsX_3 rfl ?_
  refine x_iload_n X dX10_slack_12 rfl 1 rfl ?_
  have g13 := h.1
  have h := h.2
  refine x_iald X dX10_slack_13 dsX_9 g13 ?_
  refine x_aload_n X dX10_slack_14 rfl 0 rfl ?_
  refine x_getR X (j := 33) dX10_slack_15 fl_10_51 dsX_0 rfl ?_
  refine x_iload_n X dX10_slack_18 rfl 1 rfl ?_
  refine x_callVi X [.int a1] [.int (σ2 9 a1.toNatClampNeg)] dX10_slack_19 (kX6_arrival x_pl33 h) cm_X6_arrival ci_X6_arrival w_5_62 dsX_33 ⟨by decide, by decide⟩ rfl (Nat.le_of_ble_eq_true rfl) (fun r19 σ19 τ19 h => ?_)
  refine x_isub X dX10_slack_22 ?_
  exact x_iret X dX10_slack_23 ⟨_, rfl, h⟩
theorem dX10_neededSpeed_0 : decode cX10_neededSpeed 0 = .ok (.aload_n 0, 1) := by decide +kernel
theorem dX10_neededSpeed_1 : decode cX10_neededSpeed 1 = .ok (.iload_n 1, 1) := by decide +kernel
theorem dX10_neededSpeed_2 : decode cX10_neededSpeed 2 = .ok (.iload_n 2, 1) := by decide +kernel
theorem dX10_neededSpeed_3 : decode cX10_neededSpeed 3 = .ok (.invokevirtual 239, 3) := by decide +kernel
theorem dX10_neededSpeed_6 : decode cX10_neededSpeed 6 = .ok (.iload_n 3, 1) := by decide +kernel
theorem dX10_neededSpeed_7 : decode cX10_neededSpeed 7 = .ok (.iconst 0, 1) := by decide +kernel
theorem dX10_neededSpeed_8 : decode cX10_neededSpeed 8 = .ok (.sipush 20000, 3) := by decide +kernel
theorem dX10_neededSpeed_11 : decode cX10_neededSpeed 11 = .ok (.invokestatic 311, 3) := by decide +kernel
theorem dX10_neededSpeed_14 : decode cX10_neededSpeed 14 = .ok (.iload_n 1, 1) := by decide +kernel
theorem dX10_neededSpeed_15 : decode cX10_neededSpeed 15 = .ok (.iload_n 2, 1) := by decide +kernel
theorem dX10_neededSpeed_16 : decode cX10_neededSpeed 16 = .ok (.invokestatic 243, 3) := by decide +kernel
theorem dX10_neededSpeed_19 : decode cX10_neededSpeed 19 = .ok (.istore 4, 2) := by decide +kernel
theorem dX10_neededSpeed_21 : decode cX10_neededSpeed 21 = .ok (.aload_n 0, 1) := by decide +kernel
theorem dX10_neededSpeed_22 : decode cX10_neededSpeed 22 = .ok (.getfield 19, 3) := by decide +kernel
theorem dX10_neededSpeed_25 : decode cX10_neededSpeed 25 = .ok (.getfield 246, 3) := by decide +kernel
theorem dX10_neededSpeed_28 : decode cX10_neededSpeed 28 = .ok (.iload 4, 2) := by decide +kernel
theorem dX10_neededSpeed_30 : decode cX10_neededSpeed 30 = .ok (.iaload, 1) := by decide +kernel
theorem dX10_neededSpeed_31 : decode cX10_neededSpeed 31 = .ok (.istore 5, 2) := by decide +kernel
theorem dX10_neededSpeed_33 : decode cX10_neededSpeed 33 = .ok (.bipush 40, 2) := by decide +kernel
theorem dX10_neededSpeed_35 : decode cX10_neededSpeed 35 = .ok (.istore 6, 2) := by decide +kernel
theorem dX10_neededSpeed_37 : decode cX10_neededSpeed 37 = .ok (.iload 6, 2) := by decide +kernel
theorem dX10_neededSpeed_39 : decode cX10_neededSpeed 39 = .ok (.aload_n 0, 1) := by decide +kernel
theorem dX10_neededSpeed_40 : decode cX10_neededSpeed 40 = .ok (.getfield 19, 3) := by decide +kernel
theorem dX10_neededSpeed_43 : decode cX10_neededSpeed 43 = .ok (.getfield 200, 3) := by decide +kernel
theorem dX10_neededSpeed_46 : decode cX10_neededSpeed 46 = .ok (.iload 5, 2) := by decide +kernel
theorem dX10_neededSpeed_48 : decode cX10_neededSpeed 48 = .ok (.iaload, 1) := by decide +kernel
theorem dX10_neededSpeed_49 : decode cX10_neededSpeed 49 = .ok (.if_icmp .gt 38, 3) := by decide +kernel
theorem dX10_neededSpeed_52 : decode cX10_neededSpeed 52 = .ok (.aload_n 0, 1) := by decide +kernel
theorem dX10_neededSpeed_53 : decode cX10_neededSpeed 53 = .ok (.getfield 51, 3) := by decide +kernel
theorem dX10_neededSpeed_56 : decode cX10_neededSpeed 56 = .ok (.getfield 258, 3) := by decide +kernel
theorem dX10_neededSpeed_59 : decode cX10_neededSpeed 59 = .ok (.iload 4, 2) := by decide +kernel
theorem dX10_neededSpeed_61 : decode cX10_neededSpeed 61 = .ok (.iaload, 1) := by decide +kernel
theorem dX10_neededSpeed_62 : decode cX10_neededSpeed 62 = .ok (.aload_n 0, 1) := by decide +kernel
theorem dX10_neededSpeed_63 : decode cX10_neededSpeed 63 = .ok (.getfield 19, 3) := by decide +kernel
theorem dX10_neededSpeed_66 : decode cX10_neededSpeed 66 = .ok (.iload 5, 2) := by decide +kernel
theorem dX10_neededSpeed_68 : decode cX10_neededSpeed 68 = .ok (.iload 6, 2) := by decide +kernel
theorem dX10_neededSpeed_70 : decode cX10_neededSpeed 70 = .ok (.invokevirtual 330, 3) := by decide +kernel
theorem dX10_neededSpeed_73 : decode cX10_neededSpeed 73 = .ok (.iadd, 1) := by decide +kernel
theorem dX10_neededSpeed_74 : decode cX10_neededSpeed 74 = .ok (.iload_n 3, 1) := by decide +kernel
theorem dX10_neededSpeed_75 : decode cX10_neededSpeed 75 = .ok (.if_icmp .gt 6, 3) := by decide +kernel
theorem dX10_neededSpeed_78 : decode cX10_neededSpeed 78 = .ok (.iload 6, 2) := by decide +kernel
theorem dX10_neededSpeed_80 : decode cX10_neededSpeed 80 = .ok (.ireturn, 1) := by decide +kernel
theorem dX10_neededSpeed_81 : decode cX10_neededSpeed 81 = .ok (.iinc 6 1, 3) := by decide +kernel
theorem dX10_neededSpeed_84 : decode cX10_neededSpeed 84 = .ok (.goto (-47), 3) := by decide +kernel
theorem dX10_neededSpeed_87 : decode cX10_neededSpeed 87 = .ok (.iconst (-1), 1) := by decide +kernel
theorem dX10_neededSpeed_88 : decode cX10_neededSpeed 88 = .ok (.ireturn, 1) := by decide +kernel
theorem cm_X10_neededSpeed : x_CM yX10_neededSpeed cX10_neededSpeed 7 (Option.some FieldType.int) 3 := ⟨w_5_227, w_1_1, by decide +kernel, by decide +kernel⟩
theorem ci_X10_neededSpeed : x_CI yX10_neededSpeed 12 := ⟨w_5_225, w_5_226, (RX10, TX10, 12), rfl, rfl⟩
set_option maxRecDepth 100000 in
set_option maxHeartbeats 4000000 in
theorem bX10_neededSpeed_37 {V : x_J} {ad : Nat → Nat} {Q : Int32 → x_S → x_L → Prop} {QX : x_PE} (Y : x_IsX V cX10_neededSpeed 7 RX10 (Option.some FieldType.int) ad dsX 7 (x_PI Q) QX 2 4) {K37 : Int32 → Int32 → Int32 → Int32 → x_S → x_L → Prop} (hK37 : ∀ v3 v4 v5 v6 σ τ, K37 v3 v4 v5 v6 σ τ → V σ τ 37 [(0, .ref (ad 0)), (3, .int v3), (4, .int v4), (5, .int v5), (6, .int v6)] []) {v3 : Int32} {v4 : Int32} {v5 : Int32} {v6 : Int32} {σ : x_S} {τ : x_L} (h : wX10_neededSpeed_37 Q QX K37 v3 v4 v5 v6 σ τ) : V σ τ 37 [(0, .ref (ad 0)), (3, .int v3), (4, .int v4), (5, .int v5), (6, .int v6)] [] := by
  have X := x_isX Y
  refine x_iload X dX10_neededSpeed_37 4 rfl ?_
  refine x_aload_n X dX10_neededSpeed_39 rfl 0 rfl ?_
  refine x_getR X (j := 3) dX10_neededSpeed_40 fl_10_19 dsX_0 rfl ?_
  refine x_getR X (j := 7) dX10_neededSpeed_43 fl_10_200 dsX_3 rfl ?_
  refine x_iload X dX10_neededSpeed_46 3 rfl ?_
  have g48 := h.1
  have h := h.2
  refine x_iald X dX10_neededSpeed_48 dsX_7 g48 ?_
  refine x_icmp_gt X 87 dX10_neededSpeed_49 (by decide) (fun hc => ?_) (fun hc => ?_)
  · have h := h.1 hc
    refine x_iconst X dX10_neededSpeed_87 ki_m1 ?_
    exact x_iret X dX10_neededSpeed_88 ⟨_, rfl, h⟩
  · have h := h.2 hc
    refine x_aload_n X dX10_neededSpeed_52 rfl 0 rfl ?_
    refine x_getR X (j := 33) dX10_neededSpeed_53 fl_10_51 dsX_0 rfl ?_
    refine x_getR X (j := 37) dX10_neededSpeed_56 fl_10_258 dsX_33 rfl ?_
    refine x_iload X dX10_neededSpeed_59 2 rfl ?_
    have g61 := h.1
    have h := h.2
    refine x_iald X dX10_neededSpeed_61 dsX_37 g61 ?_
    refine x_aload_n X dX10_neededSpeed_62 rfl 0 rfl ?_
    refine x_getR X (j := 3) dX10_neededSpeed_63 fl_10_19 dsX_0 rfl ?_
    refine x_iload X dX10_neededSpeed_66 3 rfl ?_
    refine x_iload X dX10_neededSpeed_68 4 rfl ?_
    refine x_callVi X [.int v5, .int v6] [.int (σ 37 v4.toNatClampNeg)] dX10_neededSpeed_70 (kX1_minutes h) cm_X1_minutes ci_X1_minutes w_5_228 dsX_3 ⟨by decide, by decide⟩ rfl (Nat.le_of_ble_eq_true rfl) (fun r70 σ70 τ70 h => ?_)
    refine x_iadd X dX10_neededSpeed_73 ?_
    refine x_iload_n X dX10_neededSpeed_74 rfl 1 rfl ?_
    refine x_icmp_gt X 81 dX10_neededSpeed_75 (by decide) (fun hc => ?_) (fun hc => ?_)
    · have h := h.1 hc
      refine x_iinc X (k := 4) (lv' := [(6, .int (v6 + 1)), (0, .ref (ad 0)), (3, .int v3), (4, .int v4), (5, .int v5)]) dX10_neededSpeed_81 rfl ki_1 (by decide) rfl ?_
      refine x_goto X (tgt := 37) dX10_neededSpeed_84 (by decide) ?_
      refine x_sub X [1, 2, 3, 4, 0] (lv' := [(0, .ref (ad 0)), (3, .int v3), (4, .int v4), (5, .int v5), (6, .int (v6 + 1))]) rfl ?_
      exact hK37 _ _ _ _ _ _ h
    · have h := h.2 hc
      refine x_iload X dX10_neededSpeed_78 4 rfl ?_
      exact x_iret X dX10_neededSpeed_80 ⟨_, rfl, h⟩
set_option maxRecDepth 100000 in
set_option maxHeartbeats 4000000 in
theorem kX10_neededSpeed {ad : Nat → Nat} {a1 : Int32} {a2 : Int32} {a3 : Int32} {σ : x_S} {τ : x_L} {Q : Int32 → x_S → x_L → Prop} {QX : x_PE} (h : wX10_neededSpeed a1 a2 a3 σ τ Q QX) : x_MetX yX10_neededSpeed cX10_neededSpeed 7 (Option.some FieldType.int) 7 4 ad dsX [.ref (ad 0), .int a1, .int a2, .int a3] σ τ (x_PI Q) QX := by
  refine x_metX (by decide +kernel) (Nat.le_of_ble_eq_true rfl) (fun V Y => ?_)
  have Y : x_IsX V cX10_neededSpeed 7 RX10 (Option.some FieldType.int) ad dsX 7 (x_PI Q) QX 0 4 := Y
  have X := x_isX Y
  show V σ τ 0 [(0, .ref (ad 0)), (1, .int a1), (2, .int a2), (3, .int a3)] []
  refine x_aload_n X dX10_neededSpeed_0 rfl 0 rfl ?_
  refine x_iload_n X dX10_neededSpeed_1 rfl 1 rfl ?_
  refine x_iload_n X dX10_neededSpeed_2 rfl 2 rfl ?_
  refine x_callVXv Y [.int a1, .int a2] [] dX10_neededSpeed_3 (kX10_checkPlace h) cm_X10_checkPlace ci_X10_checkPlace w_5_88 dsX_0 ⟨by decide, by decide⟩ (by decide) rfl (Nat.le_of_ble_eq_true rfl) (fun V σ3 τ3 Y h => ?_)
  have X := x_isX Y
  refine x_iload_n X dX10_neededSpeed_6 rfl 3 rfl ?_
  refine x_iconst X dX10_neededSpeed_7 ki_0 ?_
  refine x_sipush X dX10_neededSpeed_8 ks_20000 ?_
  refine x_callSXv Y [.int a3, .int 0, .int 20000] [] dX10_neededSpeed_11 (kX10_checkRange h) cm_X10_checkRange w_5_183 rfl w_5_182 ⟨by decide, by decide⟩ (by decide) rfl (Nat.le_of_ble_eq_true rfl) (fun V σ11 τ11 Y h => ?_)
  have X := x_isX Y
  refine x_iload_n X dX10_neededSpeed_14 rfl 1 rfl ?_
  refine x_iload_n X dX10_neededSpeed_15 rfl 2 rfl ?_
  refine x_callSi X [.int a1, .int a2] [] dX10_neededSpeed_16 (kX10_stopAt h) cm_X10_stopAt w_3_60 rfl w_4_107 ⟨by decide, by decide⟩ rfl (Nat.le_of_ble_eq_true rfl) (fun r16 σ16 τ16 h => ?_)
  refine x_istore X (lv' := [(4, .int r16), (0, .ref (ad 0)), (1, .int a1), (2, .int a2), (3, .int a3)]) dX10_neededSpeed_19 (by decide) rfl ?_
  refine x_aload_n X dX10_neededSpeed_21 rfl 1 rfl ?_
  refine x_getR X (j := 3) dX10_neededSpeed_22 fl_10_19 dsX_0 rfl ?_
  refine x_getR X (j := 12) dX10_neededSpeed_25 fl_10_246 dsX_3 rfl ?_
  refine x_iload X dX10_neededSpeed_28 0 rfl ?_
  have g30 := h.1
  have h := h.2
  refine x_iald X dX10_neededSpeed_30 dsX_12 g30 ?_
  refine x_istore X (lv' := [(5, .int (σ16 12 r16.toNatClampNeg)), (4, .int r16), (0, .ref (ad 0)), (1, .int a1), (2, .int a2), (3, .int a3)]) dX10_neededSpeed_31 (by decide) rfl ?_
  refine x_bipush X dX10_neededSpeed_33 kb_40 ?_
  refine x_istore X (lv' := [(6, .int 40), (5, .int (σ16 12 r16.toNatClampNeg)), (4, .int r16), (0, .ref (ad 0)), (1, .int a1), (2, .int a2), (3, .int a3)]) dX10_neededSpeed_35 (by decide) rfl ?_
  refine x_sub X [3, 6, 2, 1, 0] (lv' := [(0, .ref (ad 0)), (3, .int a3), (4, .int r16), (5, .int (σ16 12 r16.toNatClampNeg)), (6, .int 40)]) rfl ?_
  exact x_l4_G (fun v3 v4 v5 v6 σ τ => V σ τ 37 [(0, .ref (ad 0)), (3, .int v3), (4, .int v4), (5, .int v5), (6, .int v6)] []) (fun K37 hK37 v3 v4 v5 v6 σ τ h => bX10_neededSpeed_37 Y hK37 h) h
theorem dX10_changeWait_0 : decode cX10_changeWait 0 = .ok (.aload_n 0, 1) := by decide +kernel
theorem dX10_changeWait_1 : decode cX10_changeWait 1 = .ok (.getfield 79, 3) := by decide +kernel
theorem dX10_changeWait_4 : decode cX10_changeWait 4 = .ok (.aload_n 0, 1) := by decide +kernel
theorem dX10_changeWait_5 : decode cX10_changeWait 5 = .ok (.getfield 51, 3) := by decide +kernel
theorem dX10_changeWait_8 : decode cX10_changeWait 8 = .ok (.invokevirtual 336, 3) := by decide +kernel
theorem dX10_changeWait_11 : decode cX10_changeWait 11 = .ok (.aload_n 0, 1) := by decide +kernel
theorem dX10_changeWait_12 : decode cX10_changeWait 12 = .ok (.getfield 51, 3) := by decide +kernel
theorem dX10_changeWait_15 : decode cX10_changeWait 15 = .ok (.getfield 249, 3) := by decide +kernel
theorem dX10_changeWait_18 : decode cX10_changeWait 18 = .ok (.iload_n 1, 1) := by decide +kernel
theorem dX10_changeWait_19 : decode cX10_changeWait 19 = .ok (.iaload, 1) := by decide +kernel
theorem dX10_changeWait_20 : decode cX10_changeWait 20 = .ok (.istore_n 3, 1) := by decide +kernel
theorem dX10_changeWait_21 : decode cX10_changeWait 21 = .ok (.aload_n 0, 1) := by decide +kernel
theorem dX10_changeWait_22 : decode cX10_changeWait 22 = .ok (.getfield 51, 3) := by decide +kernel
theorem dX10_changeWait_25 : decode cX10_changeWait 25 = .ok (.getfield 249, 3) := by decide +kernel
theorem dX10_changeWait_28 : decode cX10_changeWait 28 = .ok (.iload_n 1, 1) := by decide +kernel
theorem dX10_changeWait_29 : decode cX10_changeWait 29 = .ok (.iload_n 2, 1) := by decide +kernel
theorem dX10_changeWait_30 : decode cX10_changeWait 30 = .ok (.iastore, 1) := by decide +kernel
theorem dX10_changeWait_31 : decode cX10_changeWait 31 = .ok (.aload_n 0, 1) := by decide +kernel
theorem dX10_changeWait_32 : decode cX10_changeWait 32 = .ok (.getfield 51, 3) := by decide +kernel
theorem dX10_changeWait_35 : decode cX10_changeWait 35 = .ok (.invokevirtual 339, 3) := by decide +kernel
theorem dX10_changeWait_38 : decode cX10_changeWait 38 = .ok (.iload_n 3, 1) := by decide +kernel
theorem dX10_changeWait_39 : decode cX10_changeWait 39 = .ok (.ireturn, 1) := by decide +kernel
theorem cm_X10_changeWait : x_CM yX10_changeWait cX10_changeWait 4 (Option.some FieldType.int) 2 := ⟨w_4_111, w_1_1, by decide +kernel, by decide +kernel⟩
theorem ci_X10_changeWait : x_CI yX10_changeWait 12 := ⟨w_4_110, wp_25, (RX10, TX10, 12), rfl, rfl⟩
set_option maxRecDepth 100000 in
set_option maxHeartbeats 4000000 in
theorem kX10_changeWait {ad : Nat → Nat} {a1 : Int32} {a2 : Int32} {σ : x_S} {τ : x_L} {Q : Int32 → x_S → x_L → Prop} (h : wX10_changeWait a1 a2 σ τ Q) : x_Met yX10_changeWait cX10_changeWait 4 (Option.some FieldType.int) 4 ad dsX [.ref (ad 0), .int a1, .int a2] σ τ (x_PI Q) := by
  refine x_met (by decide +kernel) (Nat.le_of_ble_eq_true rfl) (fun V X => ?_)
  have X : x_Is V cX10_changeWait 4 RX10 (Option.some FieldType.int) ad dsX 4 (x_PI Q) := X
  show V σ τ 0 [(0, .ref (ad 0)), (1, .int a1), (2, .int a2)] []
  refine x_aload_n X dX10_changeWait_0 rfl 0 rfl ?_
  refine x_getR X (j := 63) dX10_changeWait_1 fl_10_79 dsX_0 rfl ?_
  refine x_aload_n X dX10_changeWait_4 rfl 0 rfl ?_
  refine x_getR X (j := 33) dX10_changeWait_5 fl_10_51 dsX_0 rfl ?_
  refine x_callVv X [.ref (ad 33)] [] dX10_changeWait_8 (kX2_keep x_pl33 h) cm_X2_keep ci_X2_keep w_3_223 dsX_63 ⟨by decide, by decide⟩ rfl (Nat.le_of_ble_eq_true rfl) (fun σ8 τ8 h => ?_)
  refine x_aload_n X dX10_changeWait_11 rfl 0 rfl ?_
  refine x_getR X (j := 33) dX10_changeWait_12 fl_10_51 dsX_0 rfl ?_
  refine x_getR X (j := 35) dX10_changeWait_15 fl_10_249 dsX_33 rfl ?_
  refine x_iload_n X dX10_changeWait_18 rfl 1 rfl ?_
  have g19 := h.1
  have h := h.2
  refine x_iald X dX10_changeWait_19 dsX_35 g19 ?_
  refine x_istore_n X (lv' := [(3, .int (σ8 35 a1.toNatClampNeg)), (0, .ref (ad 0)), (1, .int a1), (2, .int a2)]) dX10_changeWait_20 rfl (by decide) rfl ?_
  refine x_aload_n X dX10_changeWait_21 rfl 1 rfl ?_
  refine x_getR X (j := 33) dX10_changeWait_22 fl_10_51 dsX_0 rfl ?_
  refine x_getR X (j := 35) dX10_changeWait_25 fl_10_249 dsX_33 rfl ?_
  refine x_iload_n X dX10_changeWait_28 rfl 2 rfl ?_
  refine x_iload_n X dX10_changeWait_29 rfl 3 rfl ?_
  refine x_iast X dX10_changeWait_30 dsX_35 g19 ?_
  refine x_aload_n X dX10_changeWait_31 rfl 1 rfl ?_
  refine x_getR X (j := 33) dX10_changeWait_32 fl_10_51 dsX_0 rfl ?_
  refine x_callVv X [] [] dX10_changeWait_35 (kX6_arrange x_pl33 h) cm_X6_arrange ci_X6_arrange w_4_26 dsX_33 ⟨by decide, by decide⟩ rfl (Nat.le_of_ble_eq_true rfl) (fun σ35 τ35 h => ?_)
  refine x_iload_n X dX10_changeWait_38 rfl 0 rfl ?_
  exact x_iret X dX10_changeWait_39 ⟨_, rfl, h⟩
theorem dX10_setWait_0 : decode cX10_setWait 0 = .ok (.aload_n 0, 1) := by decide +kernel
theorem dX10_setWait_1 : decode cX10_setWait 1 = .ok (.iload_n 1, 1) := by decide +kernel
theorem dX10_setWait_2 : decode cX10_setWait 2 = .ok (.iload_n 2, 1) := by decide +kernel
theorem dX10_setWait_3 : decode cX10_setWait 3 = .ok (.invokevirtual 239, 3) := by decide +kernel
theorem dX10_setWait_6 : decode cX10_setWait 6 = .ok (.iload_n 3, 1) := by decide +kernel
theorem dX10_setWait_7 : decode cX10_setWait 7 = .ok (.iconst 0, 1) := by decide +kernel
theorem dX10_setWait_8 : decode cX10_setWait 8 = .ok (.bipush 120, 2) := by decide +kernel
theorem dX10_setWait_10 : decode cX10_setWait 10 = .ok (.invokestatic 311, 3) := by decide +kernel
theorem dX10_setWait_13 : decode cX10_setWait 13 = .ok (.aload_n 0, 1) := by decide +kernel
theorem dX10_setWait_14 : decode cX10_setWait 14 = .ok (.iload_n 1, 1) := by decide +kernel
theorem dX10_setWait_15 : decode cX10_setWait 15 = .ok (.iload_n 2, 1) := by decide +kernel
theorem dX10_setWait_16 : decode cX10_setWait 16 = .ok (.invokestatic 243, 3) := by decide +kernel
theorem dX10_setWait_19 : decode cX10_setWait 19 = .ok (.iload_n 3, 1) := by decide +kernel
theorem dX10_setWait_20 : decode cX10_setWait 20 = .ok (.invokevirtual 333, 3) := by decide +kernel
theorem dX10_setWait_23 : decode cX10_setWait 23 = .ok (.ireturn, 1) := by decide +kernel
theorem cm_X10_setWait : x_CM yX10_setWait cX10_setWait 4 (Option.some FieldType.int) 3 := ⟨w_5_235, w_1_1, by decide +kernel, by decide +kernel⟩
theorem ci_X10_setWait : x_CI yX10_setWait 12 := ⟨w_5_233, w_5_234, (RX10, TX10, 12), rfl, rfl⟩
set_option maxRecDepth 100000 in
set_option maxHeartbeats 4000000 in
theorem kX10_setWait {ad : Nat → Nat} {a1 : Int32} {a2 : Int32} {a3 : Int32} {σ : x_S} {τ : x_L} {Q : Int32 → x_S → x_L → Prop} {QX : x_PE} (h : wX10_setWait a1 a2 a3 σ τ Q QX) : x_MetX yX10_setWait cX10_setWait 4 (Option.some FieldType.int) 7 4 ad dsX [.ref (ad 0), .int a1, .int a2, .int a3] σ τ (x_PI Q) QX := by
  refine x_metX (by decide +kernel) (Nat.le_of_ble_eq_true rfl) (fun V Y => ?_)
  have Y : x_IsX V cX10_setWait 4 RX10 (Option.some FieldType.int) ad dsX 7 (x_PI Q) QX 0 4 := Y
  have X := x_isX Y
  show V σ τ 0 [(0, .ref (ad 0)), (1, .int a1), (2, .int a2), (3, .int a3)] []
  refine x_aload_n X dX10_setWait_0 rfl 0 rfl ?_
  refine x_iload_n X dX10_setWait_1 rfl 1 rfl ?_
  refine x_iload_n X dX10_setWait_2 rfl 2 rfl ?_
  refine x_callVXv Y [.int a1, .int a2] [] dX10_setWait_3 (kX10_checkPlace h) cm_X10_checkPlace ci_X10_checkPlace w_5_88 dsX_0 ⟨by decide, by decide⟩ (by decide) rfl (Nat.le_of_ble_eq_true rfl) (fun V σ3 τ3 Y h => ?_)
  have X := x_isX Y
  refine x_iload_n X dX10_setWait_6 rfl 3 rfl ?_
  refine x_iconst X dX10_setWait_7 ki_0 ?_
  refine x_bipush X dX10_setWait_8 kb_120 ?_
  refine x_callSXv Y [.int a3, .int 0, .int 120] [] dX10_setWait_10 (kX10_checkRange h) cm_X10_checkRange w_5_183 rfl w_5_182 ⟨by decide, by decide⟩ (by decide) rfl (Nat.le_of_ble_eq_true rfl) (fun V σ10 τ10 Y h => ?_)
  have X := x_isX Y
  refine x_aload_n X dX10_setWait_13 rfl 0 rfl ?_
  refine x_iload_n X dX10_setWait_14 rfl 1 rfl ?_
  refine x_iload_n X dX10_setWait_15 rfl 2 rfl ?_
  refine x_callSi X [.int a1, .int a2] [.ref (ad 0)] dX10_setWait_16 (kX10_stopAt h) cm_X10_stopAt w_3_60 rfl w_4_107 ⟨by decide, by decide⟩ rfl (Nat.le_of_ble_eq_true rfl) (fun r16 σ16 τ16 h => ?_)
  refine x_iload_n X dX10_setWait_19 rfl 3 rfl ?_
  refine x_callVi X [.int r16, .int a3] [] dX10_setWait_20 (kX10_changeWait h) cm_X10_changeWait ci_X10_changeWait w_4_108 dsX_0 ⟨by decide, by decide⟩ rfl (Nat.le_of_ble_eq_true rfl) (fun r20 σ20 τ20 h => ?_)
  exact x_iret X dX10_setWait_23 ⟨_, rfl, h⟩
theorem dX10_changeSpeed_0 : decode cX10_changeSpeed 0 = .ok (.aload_n 0, 1) := by decide +kernel
theorem dX10_changeSpeed_1 : decode cX10_changeSpeed 1 = .ok (.getfield 79, 3) := by decide +kernel
theorem dX10_changeSpeed_4 : decode cX10_changeSpeed 4 = .ok (.aload_n 0, 1) := by decide +kernel
theorem dX10_changeSpeed_5 : decode cX10_changeSpeed 5 = .ok (.getfield 51, 3) := by decide +kernel
theorem dX10_changeSpeed_8 : decode cX10_changeSpeed 8 = .ok (.invokevirtual 336, 3) := by decide +kernel
theorem dX10_changeSpeed_11 : decode cX10_changeSpeed 11 = .ok (.aload_n 0, 1) := by decide +kernel
theorem dX10_changeSpeed_12 : decode cX10_changeSpeed 12 = .ok (.getfield 51, 3) := by decide +kernel
theorem dX10_changeSpeed_15 : decode cX10_changeSpeed 15 = .ok (.getfield 252, 3) := by decide +kernel
theorem dX10_changeSpeed_18 : decode cX10_changeSpeed 18 = .ok (.iload_n 1, 1) := by decide +kernel
theorem dX10_changeSpeed_19 : decode cX10_changeSpeed 19 = .ok (.iaload, 1) := by decide +kernel
theorem dX10_changeSpeed_20 : decode cX10_changeSpeed 20 = .ok (.istore_n 3, 1) := by decide +kernel
theorem dX10_changeSpeed_21 : decode cX10_changeSpeed 21 = .ok (.aload_n 0, 1) := by decide +kernel
theorem dX10_changeSpeed_22 : decode cX10_changeSpeed 22 = .ok (.getfield 51, 3) := by decide +kernel
theorem dX10_changeSpeed_25 : decode cX10_changeSpeed 25 = .ok (.getfield 252, 3) := by decide +kernel
theorem dX10_changeSpeed_28 : decode cX10_changeSpeed 28 = .ok (.iload_n 1, 1) := by decide +kernel
theorem dX10_changeSpeed_29 : decode cX10_changeSpeed 29 = .ok (.iload_n 2, 1) := by decide +kernel
theorem dX10_changeSpeed_30 : decode cX10_changeSpeed 30 = .ok (.iastore, 1) := by decide +kernel
theorem dX10_changeSpeed_31 : decode cX10_changeSpeed 31 = .ok (.aload_n 0, 1) := by decide +kernel
theorem dX10_changeSpeed_32 : decode cX10_changeSpeed 32 = .ok (.getfield 51, 3) := by decide +kernel
theorem dX10_changeSpeed_35 : decode cX10_changeSpeed 35 = .ok (.invokevirtual 339, 3) := by decide +kernel
theorem dX10_changeSpeed_38 : decode cX10_changeSpeed 38 = .ok (.iload_n 3, 1) := by decide +kernel
theorem dX10_changeSpeed_39 : decode cX10_changeSpeed 39 = .ok (.ireturn, 1) := by decide +kernel
theorem cm_X10_changeSpeed : x_CM yX10_changeSpeed cX10_changeSpeed 4 (Option.some FieldType.int) 2 := ⟨w_4_119, w_1_1, by decide +kernel, by decide +kernel⟩
theorem ci_X10_changeSpeed : x_CI yX10_changeSpeed 12 := ⟨w_4_118, wp_27, (RX10, TX10, 12), rfl, rfl⟩
set_option maxRecDepth 100000 in
set_option maxHeartbeats 4000000 in
theorem kX10_changeSpeed {ad : Nat → Nat} {a1 : Int32} {a2 : Int32} {σ : x_S} {τ : x_L} {Q : Int32 → x_S → x_L → Prop} (h : wX10_changeSpeed a1 a2 σ τ Q) : x_Met yX10_changeSpeed cX10_changeSpeed 4 (Option.some FieldType.int) 4 ad dsX [.ref (ad 0), .int a1, .int a2] σ τ (x_PI Q) := by
  refine x_met (by decide +kernel) (Nat.le_of_ble_eq_true rfl) (fun V X => ?_)
  have X : x_Is V cX10_changeSpeed 4 RX10 (Option.some FieldType.int) ad dsX 4 (x_PI Q) := X
  show V σ τ 0 [(0, .ref (ad 0)), (1, .int a1), (2, .int a2)] []
  refine x_aload_n X dX10_changeSpeed_0 rfl 0 rfl ?_
  refine x_getR X (j := 63) dX10_changeSpeed_1 fl_10_79 dsX_0 rfl ?_
  refine x_aload_n X dX10_changeSpeed_4 rfl 0 rfl ?_
  refine x_getR X (j := 33) dX10_changeSpeed_5 fl_10_51 dsX_0 rfl ?_
  refine x_callVv X [.ref (ad 33)] [] dX10_changeSpeed_8 (kX2_keep x_pl33 h) cm_X2_keep ci_X2_keep w_3_223 dsX_63 ⟨by decide, by decide⟩ rfl (Nat.le_of_ble_eq_true rfl) (fun σ8 τ8 h => ?_)
  refine x_aload_n X dX10_changeSpeed_11 rfl 0 rfl ?_
  refine x_getR X (j := 33) dX10_changeSpeed_12 fl_10_51 dsX_0 rfl ?_
  refine x_getR X (j := 36) dX10_changeSpeed_15 fl_10_252 dsX_33 rfl ?_
  refine x_iload_n X dX10_changeSpeed_18 rfl 1 rfl ?_
  have g19 := h.1
  have h := h.2
  refine x_iald X dX10_changeSpeed_19 dsX_36 g19 ?_
  refine x_istore_n X (lv' := [(3, .int (σ8 36 a1.toNatClampNeg)), (0, .ref (ad 0)), (1, .int a1), (2, .int a2)]) dX10_changeSpeed_20 rfl (by decide) rfl ?_
  refine x_aload_n X dX10_changeSpeed_21 rfl 1 rfl ?_
  refine x_getR X (j := 33) dX10_changeSpeed_22 fl_10_51 dsX_0 rfl ?_
  refine x_getR X (j := 36) dX10_changeSpeed_25 fl_10_252 dsX_33 rfl ?_
  refine x_iload_n X dX10_changeSpeed_28 rfl 2 rfl ?_
  refine x_iload_n X dX10_changeSpeed_29 rfl 3 rfl ?_
  refine x_iast X dX10_changeSpeed_30 dsX_36 g19 ?_
  refine x_aload_n X dX10_changeSpeed_31 rfl 1 rfl ?_
  refine x_getR X (j := 33) dX10_changeSpeed_32 fl_10_51 dsX_0 rfl ?_
  refine x_callVv X [] [] dX10_changeSpeed_35 (kX6_arrange x_pl33 h) cm_X6_arrange ci_X6_arrange w_4_26 dsX_33 ⟨by decide, by decide⟩ rfl (Nat.le_of_ble_eq_true rfl) (fun σ35 τ35 h => ?_)
  refine x_iload_n X dX10_changeSpeed_38 rfl 0 rfl ?_
  exact x_iret X dX10_changeSpeed_39 ⟨_, rfl, h⟩
theorem dX10_setSpeed_0 : decode cX10_setSpeed 0 = .ok (.aload_n 0, 1) := by decide +kernel
theorem dX10_setSpeed_1 : decode cX10_setSpeed 1 = .ok (.iload_n 1, 1) := by decide +kernel
theorem dX10_setSpeed_2 : decode cX10_setSpeed 2 = .ok (.iload_n 2, 1) := by decide +kernel
theorem dX10_setSpeed_3 : decode cX10_setSpeed 3 = .ok (.invokevirtual 239, 3) := by decide +kernel
theorem dX10_setSpeed_6 : decode cX10_setSpeed 6 = .ok (.iload_n 1, 1) := by decide +kernel
theorem dX10_setSpeed_7 : decode cX10_setSpeed 7 = .ok (.iload_n 2, 1) := by decide +kernel
theorem dX10_setSpeed_8 : decode cX10_setSpeed 8 = .ok (.invokestatic 243, 3) := by decide +kernel
theorem dX10_setSpeed_11 : decode cX10_setSpeed 11 = .ok (.istore 4, 2) := by decide +kernel
theorem dX10_setSpeed_13 : decode cX10_setSpeed 13 = .ok (.iload_n 3, 1) := by decide +kernel
theorem dX10_setSpeed_14 : decode cX10_setSpeed 14 = .ok (.bipush 40, 2) := by decide +kernel
theorem dX10_setSpeed_16 : decode cX10_setSpeed 16 = .ok (.aload_n 0, 1) := by decide +kernel
theorem dX10_setSpeed_17 : decode cX10_setSpeed 17 = .ok (.getfield 19, 3) := by decide +kernel
theorem dX10_setSpeed_20 : decode cX10_setSpeed 20 = .ok (.getfield 200, 3) := by decide +kernel
theorem dX10_setSpeed_23 : decode cX10_setSpeed 23 = .ok (.aload_n 0, 1) := by decide +kernel
theorem dX10_setSpeed_24 : decode cX10_setSpeed 24 = .ok (.getfield 19, 3) := by decide +kernel
theorem dX10_setSpeed_27 : decode cX10_setSpeed 27 = .ok (.getfield 246, 3) := by decide +kernel
theorem dX10_setSpeed_30 : decode cX10_setSpeed 30 = .ok (.iload 4, 2) := by decide +kernel
theorem dX10_setSpeed_32 : decode cX10_setSpeed 32 = .ok (.iaload, 1) := by decide +kernel
theorem dX10_setSpeed_33 : decode cX10_setSpeed 33 = .ok (.iaload, 1) := by decide +kernel
theorem dX10_setSpeed_34 : decode cX10_setSpeed 34 = .ok (.invokestatic 311, 3) := by decide +kernel
theorem dX10_setSpeed_37 : decode cX10_setSpeed 37 = .ok (.aload_n 0, 1) := by decide +kernel
theorem dX10_setSpeed_38 : decode cX10_setSpeed 38 = .ok (.iload 4, 2) := by decide +kernel
theorem dX10_setSpeed_40 : decode cX10_setSpeed 40 = .ok (.iload_n 3, 1) := by decide +kernel
theorem dX10_setSpeed_41 : decode cX10_setSpeed 41 = .ok (.invokevirtual 342, 3) := by decide +kernel
theorem dX10_setSpeed_44 : decode cX10_setSpeed 44 = .ok (.ireturn, 1) := by decide +kernel
theorem cm_X10_setSpeed : x_CM yX10_setSpeed cX10_setSpeed 5 (Option.some FieldType.int) 3 := ⟨w_6_2, w_1_1, by decide +kernel, by decide +kernel⟩
theorem ci_X10_setSpeed : x_CI yX10_setSpeed 12 := ⟨w_6_0, w_6_1, (RX10, TX10, 12), rfl, rfl⟩
set_option maxRecDepth 100000 in
set_option maxHeartbeats 4000000 in
theorem kX10_setSpeed {ad : Nat → Nat} {a1 : Int32} {a2 : Int32} {a3 : Int32} {σ : x_S} {τ : x_L} {Q : Int32 → x_S → x_L → Prop} {QX : x_PE} (h : wX10_setSpeed a1 a2 a3 σ τ Q QX) : x_MetX yX10_setSpeed cX10_setSpeed 5 (Option.some FieldType.int) 7 4 ad dsX [.ref (ad 0), .int a1, .int a2, .int a3] σ τ (x_PI Q) QX := by
  refine x_metX (by decide +kernel) (Nat.le_of_ble_eq_true rfl) (fun V Y => ?_)
  have Y : x_IsX V cX10_setSpeed 5 RX10 (Option.some FieldType.int) ad dsX 7 (x_PI Q) QX 0 4 := Y
  have X := x_isX Y
  show V σ τ 0 [(0, .ref (ad 0)), (1, .int a1), (2, .int a2), (3, .int a3)] []
  refine x_aload_n X dX10_setSpeed_0 rfl 0 rfl ?_
  refine x_iload_n X dX10_setSpeed_1 rfl 1 rfl ?_
  refine x_iload_n X dX10_setSpeed_2 rfl 2 rfl ?_
  refine x_callVXv Y [.int a1, .int a2] [] dX10_setSpeed_3 (kX10_checkPlace h) cm_X10_checkPlace ci_X10_checkPlace w_5_88 dsX_0 ⟨by decide, by decide⟩ (by decide) rfl (Nat.le_of_ble_eq_true rfl) (fun V σ3 τ3 Y h => ?_)
  have X := x_isX Y
  refine x_iload_n X dX10_setSpeed_6 rfl 1 rfl ?_
  refine x_iload_n X dX10_setSpeed_7 rfl 2 rfl ?_
  refine x_callSi X [.int a1, .int a2] [] dX10_setSpeed_8 (kX10_stopAt h) cm_X10_stopAt w_3_60 rfl w_4_107 ⟨by decide, by decide⟩ rfl (Nat.le_of_ble_eq_true rfl) (fun r8 σ8 τ8 h => ?_)
  refine x_istore X (lv' := [(4, .int r8), (0, .ref (ad 0)), (1, .int a1), (2, .int a2), (3, .int a3)]) dX10_setSpeed_11 (by decide) rfl ?_
  refine x_iload_n X dX10_setSpeed_13 rfl 4 rfl ?_
  refine x_bipush X dX10_setSpeed_14 kb_40 ?_
  refine x_aload_n X dX10_setSpeed_16 rfl 1 rfl ?_
  refine x_getR X (j := 3) dX10_setSpeed_17 fl_10_19 dsX_0 rfl ?_
  refine x_getR X (j := 7) dX10_setSpeed_20 fl_10_200 dsX_3 rfl ?_
  refine x_aload_n X dX10_setSpeed_23 rfl 1 rfl ?_
  refine x_getR X (j := 3) dX10_setSpeed_24 fl_10_19 dsX_0 rfl ?_
  refine x_getR X (j := 12) dX10_setSpeed_27 fl_10_246 dsX_3 rfl ?_
  refine x_iload X dX10_setSpeed_30 0 rfl ?_
  have g32 := h.1
  have h := h.2
  refine x_iald X dX10_setSpeed_32 dsX_12 g32 ?_
  have g33 := h.1
  have h := h.2
  refine x_iald X dX10_setSpeed_33 dsX_7 g33 ?_
  refine x_callSXv Y [.int a3, .int 40, .int (σ8 7 (σ8 12 r8.toNatClampNeg).toNatClampNeg)] [] dX10_setSpeed_34 (kX10_checkRange h) cm_X10_checkRange w_5_183 rfl w_5_182 ⟨by decide, by decide⟩ (by decide) rfl (Nat.le_of_ble_eq_true rfl) (fun V σ34 τ34 Y h => ?_)
  have X := x_isX Y
  refine x_aload_n X dX10_setSpeed_37 rfl 1 rfl ?_
  refine x_iload X dX10_setSpeed_38 0 rfl ?_
  refine x_iload_n X dX10_setSpeed_40 rfl 4 rfl ?_
  refine x_callVi X [.int r8, .int a3] [] dX10_setSpeed_41 (kX10_changeSpeed h) cm_X10_changeSpeed ci_X10_changeSpeed w_4_116 dsX_0 ⟨by decide, by decide⟩ rfl (Nat.le_of_ble_eq_true rfl) (fun r41 σ41 τ41 h => ?_)
  exact x_iret X dX10_setSpeed_44 ⟨_, rfl, h⟩
theorem dX10_changeStart_0 : decode cX10_changeStart 0 = .ok (.aload_n 0, 1) := by decide +kernel
theorem dX10_changeStart_1 : decode cX10_changeStart 1 = .ok (.getfield 79, 3) := by decide +kernel
theorem dX10_changeStart_4 : decode cX10_changeStart 4 = .ok (.aload_n 0, 1) := by decide +kernel
theorem dX10_changeStart_5 : decode cX10_changeStart 5 = .ok (.getfield 51, 3) := by decide +kernel
theorem dX10_changeStart_8 : decode cX10_changeStart 8 = .ok (.invokevirtual 336, 3) := by decide +kernel
theorem dX10_changeStart_11 : decode cX10_changeStart 11 = .ok (.aload_n 0, 1) := by decide +kernel
theorem dX10_changeStart_12 : decode cX10_changeStart 12 = .ok (.getfield 51, 3) := by decide +kernel
theorem dX10_changeStart_15 : decode cX10_changeStart 15 = .ok (.getfield 212, 3) := by decide +kernel
theorem dX10_changeStart_18 : decode cX10_changeStart 18 = .ok (.iload_n 1, 1) := by decide +kernel
theorem dX10_changeStart_19 : decode cX10_changeStart 19 = .ok (.iaload, 1) := by decide +kernel
theorem dX10_changeStart_20 : decode cX10_changeStart 20 = .ok (.istore_n 3, 1) := by decide +kernel
theorem dX10_changeStart_21 : decode cX10_changeStart 21 = .ok (.aload_n 0, 1) := by decide +kernel
theorem dX10_changeStart_22 : decode cX10_changeStart 22 = .ok (.getfield 51, 3) := by decide +kernel
theorem dX10_changeStart_25 : decode cX10_changeStart 25 = .ok (.getfield 212, 3) := by decide +kernel
theorem dX10_changeStart_28 : decode cX10_changeStart 28 = .ok (.iload_n 1, 1) := by decide +kernel
theorem dX10_changeStart_29 : decode cX10_changeStart 29 = .ok (.iload_n 2, 1) := by decide +kernel
theorem dX10_changeStart_30 : decode cX10_changeStart 30 = .ok (.iastore, 1) := by decide +kernel
theorem dX10_changeStart_31 : decode cX10_changeStart 31 = .ok (.aload_n 0, 1) := by decide +kernel
theorem dX10_changeStart_32 : decode cX10_changeStart 32 = .ok (.getfield 51, 3) := by decide +kernel
theorem dX10_changeStart_35 : decode cX10_changeStart 35 = .ok (.invokevirtual 339, 3) := by decide +kernel
theorem dX10_changeStart_38 : decode cX10_changeStart 38 = .ok (.iload_n 3, 1) := by decide +kernel
theorem dX10_changeStart_39 : decode cX10_changeStart 39 = .ok (.ireturn, 1) := by decide +kernel
theorem cm_X10_changeStart : x_CM yX10_changeStart cX10_changeStart 4 (Option.some FieldType.int) 2 := ⟨w_4_123, w_1_1, by decide +kernel, by decide +kernel⟩
theorem ci_X10_changeStart : x_CI yX10_changeStart 12 := ⟨w_4_122, wp_28, (RX10, TX10, 12), rfl, rfl⟩
set_option maxRecDepth 100000 in
set_option maxHeartbeats 4000000 in
theorem kX10_changeStart {ad : Nat → Nat} {a1 : Int32} {a2 : Int32} {σ : x_S} {τ : x_L} {Q : Int32 → x_S → x_L → Prop} (h : wX10_changeStart a1 a2 σ τ Q) : x_Met yX10_changeStart cX10_changeStart 4 (Option.some FieldType.int) 4 ad dsX [.ref (ad 0), .int a1, .int a2] σ τ (x_PI Q) := by
  refine x_met (by decide +kernel) (Nat.le_of_ble_eq_true rfl) (fun V X => ?_)
  have X : x_Is V cX10_changeStart 4 RX10 (Option.some FieldType.int) ad dsX 4 (x_PI Q) := X
  show V σ τ 0 [(0, .ref (ad 0)), (1, .int a1), (2, .int a2)] []
  refine x_aload_n X dX10_changeStart_0 rfl 0 rfl ?_
  refine x_getR X (j := 63) dX10_changeStart_1 fl_10_79 dsX_0 rfl ?_
  refine x_aload_n X dX10_changeStart_4 rfl 0 rfl ?_
  refine x_getR X (j := 33) dX10_changeStart_5 fl_10_51 dsX_0 rfl ?_
  refine x_callVv X [.ref (ad 33)] [] dX10_changeStart_8 (kX2_keep x_pl33 h) cm_X2_keep ci_X2_keep w_3_223 dsX_63 ⟨by decide, by decide⟩ rfl (Nat.le_of_ble_eq_true rfl) (fun σ8 τ8 h => ?_)
  refine x_aload_n X dX10_changeStart_11 rfl 0 rfl ?_
  refine x_getR X (j := 33) dX10_changeStart_12 fl_10_51 dsX_0 rfl ?_
  refine x_getR X (j := 34) dX10_changeStart_15 fl_10_212 dsX_33 rfl ?_
  refine x_iload_n X dX10_changeStart_18 rfl 1 rfl ?_
  have g19 := h.1
  have h := h.2
  refine x_iald X dX10_changeStart_19 dsX_34 g19 ?_
  refine x_istore_n X (lv' := [(3, .int (σ8 34 a1.toNatClampNeg)), (0, .ref (ad 0)), (1, .int a1), (2, .int a2)]) dX10_changeStart_20 rfl (by decide) rfl ?_
  refine x_aload_n X dX10_changeStart_21 rfl 1 rfl ?_
  refine x_getR X (j := 33) dX10_changeStart_22 fl_10_51 dsX_0 rfl ?_
  refine x_getR X (j := 34) dX10_changeStart_25 fl_10_212 dsX_33 rfl ?_
  refine x_iload_n X dX10_changeStart_28 rfl 2 rfl ?_
  refine x_iload_n X dX10_changeStart_29 rfl 3 rfl ?_
  refine x_iast X dX10_changeStart_30 dsX_34 g19 ?_
  refine x_aload_n X dX10_changeStart_31 rfl 1 rfl ?_
  refine x_getR X (j := 33) dX10_changeStart_32 fl_10_51 dsX_0 rfl ?_
  refine x_callVv X [] [] dX10_changeStart_35 (kX6_arrange x_pl33 h) cm_X6_arrange ci_X6_arrange w_4_26 dsX_33 ⟨by decide, by decide⟩ rfl (Nat.le_of_ble_eq_true rfl) (fun σ35 τ35 h => ?_)
  refine x_iload_n X dX10_changeStart_38 rfl 0 rfl ?_
  exact x_iret X dX10_changeStart_39 ⟨_, rfl, h⟩
theorem dX10_setStart_0 : decode cX10_setStart 0 = .ok (.aload_n 0, 1) := by decide +kernel
theorem dX10_setStart_1 : decode cX10_setStart 1 = .ok (.iload_n 1, 1) := by decide +kernel
theorem dX10_setStart_2 : decode cX10_setStart 2 = .ok (.invokevirtual 209, 3) := by decide +kernel
theorem dX10_setStart_5 : decode cX10_setStart 5 = .ok (.iload_n 2, 1) := by decide +kernel
theorem dX10_setStart_6 : decode cX10_setStart 6 = .ok (.iconst 0, 1) := by decide +kernel
theorem dX10_setStart_7 : decode cX10_setStart 7 = .ok (.sipush 2000, 3) := by decide +kernel
theorem dX10_setStart_10 : decode cX10_setStart 10 = .ok (.invokestatic 311, 3) := by decide +kernel
theorem dX10_setStart_13 : decode cX10_setStart 13 = .ok (.aload_n 0, 1) := by decide +kernel
theorem dX10_setStart_14 : decode cX10_setStart 14 = .ok (.iload_n 1, 1) := by decide +kernel
theorem dX10_setStart_15 : decode cX10_setStart 15 = .ok (.iload_n 2, 1) := by decide +kernel
theorem dX10_setStart_16 : decode cX10_setStart 16 = .ok (.invokevirtual 345, 3) := by decide +kernel
theorem dX10_setStart_19 : decode cX10_setStart 19 = .ok (.ireturn, 1) := by decide +kernel
theorem cm_X10_setStart : x_CM yX10_setStart cX10_setStart 3 (Option.some FieldType.int) 2 := ⟨w_6_9, w_1_1, by decide +kernel, by decide +kernel⟩
theorem ci_X10_setStart : x_CI yX10_setStart 12 := ⟨w_6_7, w_6_8, (RX10, TX10, 12), rfl, rfl⟩
set_option maxRecDepth 100000 in
set_option maxHeartbeats 4000000 in
theorem kX10_setStart {ad : Nat → Nat} {a1 : Int32} {a2 : Int32} {σ : x_S} {τ : x_L} {Q : Int32 → x_S → x_L → Prop} {QX : x_PE} (h : wX10_setStart a1 a2 σ τ Q QX) : x_MetX yX10_setStart cX10_setStart 3 (Option.some FieldType.int) 7 4 ad dsX [.ref (ad 0), .int a1, .int a2] σ τ (x_PI Q) QX := by
  refine x_metX (by decide +kernel) (Nat.le_of_ble_eq_true rfl) (fun V Y => ?_)
  have Y : x_IsX V cX10_setStart 3 RX10 (Option.some FieldType.int) ad dsX 7 (x_PI Q) QX 0 4 := Y
  have X := x_isX Y
  show V σ τ 0 [(0, .ref (ad 0)), (1, .int a1), (2, .int a2)] []
  refine x_aload_n X dX10_setStart_0 rfl 0 rfl ?_
  refine x_iload_n X dX10_setStart_1 rfl 1 rfl ?_
  refine x_callVXv Y [.int a1] [] dX10_setStart_2 (kX10_checkTruck h) cm_X10_checkTruck ci_X10_checkTruck w_5_57 dsX_0 ⟨by decide, by decide⟩ (by decide) rfl (Nat.le_of_ble_eq_true rfl) (fun V σ2 τ2 Y h => ?_)
  have X := x_isX Y
  refine x_iload_n X dX10_setStart_5 rfl 2 rfl ?_
  refine x_iconst X dX10_setStart_6 ki_0 ?_
  refine x_sipush X dX10_setStart_7 ks_2000 ?_
  refine x_callSXv Y [.int a2, .int 0, .int 2000] [] dX10_setStart_10 (kX10_checkRange h) cm_X10_checkRange w_5_183 rfl w_5_182 ⟨by decide, by decide⟩ (by decide) rfl (Nat.le_of_ble_eq_true rfl) (fun V σ10 τ10 Y h => ?_)
  have X := x_isX Y
  refine x_aload_n X dX10_setStart_13 rfl 0 rfl ?_
  refine x_iload_n X dX10_setStart_14 rfl 1 rfl ?_
  refine x_iload_n X dX10_setStart_15 rfl 2 rfl ?_
  refine x_callVi X [.int a1, .int a2] [] dX10_setStart_16 (kX10_changeStart h) cm_X10_changeStart ci_X10_changeStart w_4_120 dsX_0 ⟨by decide, by decide⟩ rfl (Nat.le_of_ble_eq_true rfl) (fun r16 σ16 τ16 h => ?_)
  exact x_iret X dX10_setStart_19 ⟨_, rfl, h⟩
theorem dX10_reason_0 : decode cX10_reason 0 = .ok (.aload_n 0, 1) := by decide +kernel
theorem dX10_reason_1 : decode cX10_reason 1 = .ok (.iload_n 1, 1) := by decide +kernel
theorem dX10_reason_2 : decode cX10_reason 2 = .ok (.invokevirtual 209, 3) := by decide +kernel
theorem dX10_reason_5 : decode cX10_reason 5 = .ok (.aload_n 0, 1) := by decide +kernel
theorem dX10_reason_6 : decode cX10_reason 6 = .ok (.iload_n 2, 1) := by decide +kernel
theorem dX10_reason_7 : decode cX10_reason 7 = .ok (.invokevirtual 209, 3) := by decide +kernel
theorem dX10_reason_10 : decode cX10_reason 10 = .ok (.aload_n 0, 1) := by decide +kernel
theorem dX10_reason_11 : decode cX10_reason 11 = .ok (.getfield 63, 3) := by decide +kernel
theorem dX10_reason_14 : decode cX10_reason 14 = .ok (.iload_n 1, 1) := by decide +kernel
theorem dX10_reason_15 : decode cX10_reason 15 = .ok (.iload_n 2, 1) := by decide +kernel
theorem dX10_reason_16 : decode cX10_reason 16 = .ok (.invokevirtual 348, 3) := by decide +kernel
theorem dX10_reason_19 : decode cX10_reason 19 = .ok (.ireturn, 1) := by decide +kernel
theorem cm_X10_reason : x_CM yX10_reason cX10_reason 3 (Option.some FieldType.int) 2 := ⟨w_6_16, w_1_1, by decide +kernel, by decide +kernel⟩
theorem ci_X10_reason : x_CI yX10_reason 12 := ⟨w_6_14, w_6_15, (RX10, TX10, 12), rfl, rfl⟩
set_option maxRecDepth 100000 in
set_option maxHeartbeats 4000000 in
theorem kX10_reason {ad : Nat → Nat} {a1 : Int32} {a2 : Int32} {σ : x_S} {τ : x_L} {Q : Int32 → x_S → x_L → Prop} {QX : x_PE} (h : wX10_reason a1 a2 σ τ Q QX) : x_MetX yX10_reason cX10_reason 3 (Option.some FieldType.int) 7 4 ad dsX [.ref (ad 0), .int a1, .int a2] σ τ (x_PI Q) QX := by
  refine x_metX (by decide +kernel) (Nat.le_of_ble_eq_true rfl) (fun V Y => ?_)
  have Y : x_IsX V cX10_reason 3 RX10 (Option.some FieldType.int) ad dsX 7 (x_PI Q) QX 0 4 := Y
  have X := x_isX Y
  show V σ τ 0 [(0, .ref (ad 0)), (1, .int a1), (2, .int a2)] []
  refine x_aload_n X dX10_reason_0 rfl 0 rfl ?_
  refine x_iload_n X dX10_reason_1 rfl 1 rfl ?_
  refine x_callVXv Y [.int a1] [] dX10_reason_2 (kX10_checkTruck h) cm_X10_checkTruck ci_X10_checkTruck w_5_57 dsX_0 ⟨by decide, by decide⟩ (by decide) rfl (Nat.le_of_ble_eq_true rfl) (fun V σ2 τ2 Y h => ?_)
  have X := x_isX Y
  refine x_aload_n X dX10_reason_5 rfl 0 rfl ?_
  refine x_iload_n X dX10_reason_6 rfl 2 rfl ?_
  refine x_callVXv Y [.int a2] [] dX10_reason_7 (kX10_checkTruck h) cm_X10_checkTruck ci_X10_checkTruck w_5_57 dsX_0 ⟨by decide, by decide⟩ (by decide) rfl (Nat.le_of_ble_eq_true rfl) (fun V σ7 τ7 Y h => ?_)
  have X := x_isX Y
  refine x_aload_n X dX10_reason_10 rfl 0 rfl ?_
  refine x_getR X (j := 59) dX10_reason_11 fl_10_63 dsX_0 rfl ?_
  refine x_iload_n X dX10_reason_14 rfl 1 rfl ?_
  refine x_iload_n X dX10_reason_15 rfl 2 rfl ?_
  refine x_callVi X [.int a1, .int a2] [] dX10_reason_16 (kX4_attempt h) cm_X4_attempt ci_X4_attempt w_3_236 dsX_59 ⟨by decide, by decide⟩ rfl (Nat.le_of_ble_eq_true rfl) (fun r16 σ16 τ16 h => ?_)
  exact x_iret X dX10_reason_19 ⟨_, rfl, h⟩
theorem dX10_mergeTwo_0 : decode cX10_mergeTwo 0 = .ok (.aload_n 0, 1) := by decide +kernel
theorem dX10_mergeTwo_1 : decode cX10_mergeTwo 1 = .ok (.getfield 63, 3) := by decide +kernel
theorem dX10_mergeTwo_4 : decode cX10_mergeTwo 4 = .ok (.iload_n 1, 1) := by decide +kernel
theorem dX10_mergeTwo_5 : decode cX10_mergeTwo 5 = .ok (.iload_n 2, 1) := by decide +kernel
theorem dX10_mergeTwo_6 : decode cX10_mergeTwo 6 = .ok (.invokevirtual 348, 3) := by decide +kernel
theorem dX10_mergeTwo_9 : decode cX10_mergeTwo 9 = .ok (.ifCond .eq 6, 3) := by decide +kernel
theorem dX10_mergeTwo_12 : decode cX10_mergeTwo 12 = .ok (.bipush (-3), 2) := by decide +kernel
theorem dX10_mergeTwo_14 : decode cX10_mergeTwo 14 = .ok (.ireturn, 1) := by decide +kernel
theorem dX10_mergeTwo_15 : decode cX10_mergeTwo 15 = .ok (.aload_n 0, 1) := by decide +kernel
theorem dX10_mergeTwo_16 : decode cX10_mergeTwo 16 = .ok (.getfield 79, 3) := by decide +kernel
theorem dX10_mergeTwo_19 : decode cX10_mergeTwo 19 = .ok (.aload_n 0, 1) := by decide +kernel
theorem dX10_mergeTwo_20 : decode cX10_mergeTwo 20 = .ok (.getfield 51, 3) := by decide +kernel
theorem dX10_mergeTwo_23 : decode cX10_mergeTwo 23 = .ok (.invokevirtual 336, 3) := by decide +kernel
theorem dX10_mergeTwo_26 : decode cX10_mergeTwo 26 = .ok (.aload_n 0, 1) := by decide +kernel
theorem dX10_mergeTwo_27 : decode cX10_mergeTwo 27 = .ok (.getfield 51, 3) := by decide +kernel
theorem dX10_mergeTwo_30 : decode cX10_mergeTwo 30 = .ok (.aload_n 0, 1) := by decide +kernel
theorem dX10_mergeTwo_31 : decode cX10_mergeTwo 31 = .ok (.getfield 55, 3) := by decide +kernel
theorem dX10_mergeTwo_34 : decode cX10_mergeTwo 34 = .ok (.invokevirtual 354, 3) := by decide +kernel
theorem dX10_mergeTwo_37 : decode cX10_mergeTwo 37 = .ok (.aload_n 0, 1) := by decide +kernel
theorem dX10_mergeTwo_38 : decode cX10_mergeTwo 38 = .ok (.getfield 51, 3) := by decide +kernel
theorem dX10_mergeTwo_41 : decode cX10_mergeTwo 41 = .ok (.invokevirtual 339, 3) := by decide +kernel
theorem dX10_mergeTwo_44 : decode cX10_mergeTwo 44 = .ok (.aload_n 0, 1) := by decide +kernel
theorem dX10_mergeTwo_45 : decode cX10_mergeTwo 45 = .ok (.getfield 63, 3) := by decide +kernel
theorem dX10_mergeTwo_48 : decode cX10_mergeTwo 48 = .ok (.getfield 324, 3) := by decide +kernel
theorem dX10_mergeTwo_51 : decode cX10_mergeTwo 51 = .ok (.ireturn, 1) := by decide +kernel
theorem cm_X10_mergeTwo : x_CM yX10_mergeTwo cX10_mergeTwo 3 (Option.some FieldType.int) 2 := ⟨w_4_127, w_1_1, by decide +kernel, by decide +kernel⟩
theorem ci_X10_mergeTwo : x_CI yX10_mergeTwo 12 := ⟨w_4_126, wp_29, (RX10, TX10, 12), rfl, rfl⟩
set_option maxRecDepth 100000 in
set_option maxHeartbeats 4000000 in
theorem kX10_mergeTwo {ad : Nat → Nat} {a1 : Int32} {a2 : Int32} {σ : x_S} {τ : x_L} {Q : Int32 → x_S → x_L → Prop} (h : wX10_mergeTwo a1 a2 σ τ Q) : x_Met yX10_mergeTwo cX10_mergeTwo 3 (Option.some FieldType.int) 4 ad dsX [.ref (ad 0), .int a1, .int a2] σ τ (x_PI Q) := by
  refine x_met (by decide +kernel) (Nat.le_of_ble_eq_true rfl) (fun V X => ?_)
  have X : x_Is V cX10_mergeTwo 3 RX10 (Option.some FieldType.int) ad dsX 4 (x_PI Q) := X
  show V σ τ 0 [(0, .ref (ad 0)), (1, .int a1), (2, .int a2)] []
  refine x_aload_n X dX10_mergeTwo_0 rfl 0 rfl ?_
  refine x_getR X (j := 59) dX10_mergeTwo_1 fl_10_63 dsX_0 rfl ?_
  refine x_iload_n X dX10_mergeTwo_4 rfl 1 rfl ?_
  refine x_iload_n X dX10_mergeTwo_5 rfl 2 rfl ?_
  refine x_callVi X [.int a1, .int a2] [] dX10_mergeTwo_6 (kX4_attempt h) cm_X4_attempt ci_X4_attempt w_3_236 dsX_59 ⟨by decide, by decide⟩ rfl (Nat.le_of_ble_eq_true rfl) (fun r6 σ6 τ6 h => ?_)
  refine x_if_eq X 15 dX10_mergeTwo_9 (by decide) (fun hc => ?_) (fun hc => ?_)
  · have h := h.1 hc
    refine x_aload_n X dX10_mergeTwo_15 rfl 0 rfl ?_
    refine x_getR X (j := 63) dX10_mergeTwo_16 fl_10_79 dsX_0 rfl ?_
    refine x_aload_n X dX10_mergeTwo_19 rfl 0 rfl ?_
    refine x_getR X (j := 33) dX10_mergeTwo_20 fl_10_51 dsX_0 rfl ?_
    refine x_callVv X [.ref (ad 33)] [] dX10_mergeTwo_23 (kX2_keep x_pl33 h) cm_X2_keep ci_X2_keep w_3_223 dsX_63 ⟨by decide, by decide⟩ rfl (Nat.le_of_ble_eq_true rfl) (fun σ23 τ23 h => ?_)
    refine x_aload_n X dX10_mergeTwo_26 rfl 0 rfl ?_
    refine x_getR X (j := 33) dX10_mergeTwo_27 fl_10_51 dsX_0 rfl ?_
    refine x_aload_n X dX10_mergeTwo_30 rfl 0 rfl ?_
    refine x_getR X (j := 46) dX10_mergeTwo_31 fl_10_55 dsX_0 rfl ?_
    refine x_callVv X [.ref (ad 46)] [] dX10_mergeTwo_34 (kX6_copyChoices x_pl33 x_pl46 h) cm_X6_copyChoices ci_X6_copyChoices w_4_27 dsX_33 ⟨by decide, by decide⟩ rfl (Nat.le_of_ble_eq_true rfl) (fun σ34 τ34 h => ?_)
    refine x_aload_n X dX10_mergeTwo_37 rfl 0 rfl ?_
    refine x_getR X (j := 33) dX10_mergeTwo_38 fl_10_51 dsX_0 rfl ?_
    refine x_callVv X [] [] dX10_mergeTwo_41 (kX6_arrange x_pl33 h) cm_X6_arrange ci_X6_arrange w_4_26 dsX_33 ⟨by decide, by decide⟩ rfl (Nat.le_of_ble_eq_true rfl) (fun σ41 τ41 h => ?_)
    refine x_aload_n X dX10_mergeTwo_44 rfl 0 rfl ?_
    refine x_getR X (j := 59) dX10_mergeTwo_45 fl_10_63 dsX_0 rfl ?_
    refine x_getI X dX10_mergeTwo_48 fl_10_324 dsX_59 rfl ?_
    exact x_iret X dX10_mergeTwo_51 ⟨_, rfl, h⟩
  · have h := h.2 hc
    refine x_bipush X dX10_mergeTwo_12 kb_m3 ?_
    exact x_iret X dX10_mergeTwo_14 ⟨_, rfl, h⟩
theorem dX10_merge_0 : decode cX10_merge 0 = .ok (.aload_n 0, 1) := by decide +kernel
theorem dX10_merge_1 : decode cX10_merge 1 = .ok (.iload_n 1, 1) := by decide +kernel
theorem dX10_merge_2 : decode cX10_merge 2 = .ok (.invokevirtual 209, 3) := by decide +kernel
theorem dX10_merge_5 : decode cX10_merge 5 = .ok (.aload_n 0, 1) := by decide +kernel
theorem dX10_merge_6 : decode cX10_merge 6 = .ok (.iload_n 2, 1) := by decide +kernel
theorem dX10_merge_7 : decode cX10_merge 7 = .ok (.invokevirtual 209, 3) := by decide +kernel
theorem dX10_merge_10 : decode cX10_merge 10 = .ok (.aload_n 0, 1) := by decide +kernel
theorem dX10_merge_11 : decode cX10_merge 11 = .ok (.iload_n 1, 1) := by decide +kernel
theorem dX10_merge_12 : decode cX10_merge 12 = .ok (.iload_n 2, 1) := by decide +kernel
theorem dX10_merge_13 : decode cX10_merge 13 = .ok (.invokevirtual 351, 3) := by decide +kernel
theorem dX10_merge_16 : decode cX10_merge 16 = .ok (.ireturn, 1) := by decide +kernel
theorem cm_X10_merge : x_CM yX10_merge cX10_merge 3 (Option.some FieldType.int) 2 := ⟨w_6_23, w_1_1, by decide +kernel, by decide +kernel⟩
theorem ci_X10_merge : x_CI yX10_merge 12 := ⟨w_6_21, w_6_22, (RX10, TX10, 12), rfl, rfl⟩
set_option maxRecDepth 100000 in
set_option maxHeartbeats 4000000 in
theorem kX10_merge {ad : Nat → Nat} {a1 : Int32} {a2 : Int32} {σ : x_S} {τ : x_L} {Q : Int32 → x_S → x_L → Prop} {QX : x_PE} (h : wX10_merge a1 a2 σ τ Q QX) : x_MetX yX10_merge cX10_merge 3 (Option.some FieldType.int) 7 4 ad dsX [.ref (ad 0), .int a1, .int a2] σ τ (x_PI Q) QX := by
  refine x_metX (by decide +kernel) (Nat.le_of_ble_eq_true rfl) (fun V Y => ?_)
  have Y : x_IsX V cX10_merge 3 RX10 (Option.some FieldType.int) ad dsX 7 (x_PI Q) QX 0 4 := Y
  have X := x_isX Y
  show V σ τ 0 [(0, .ref (ad 0)), (1, .int a1), (2, .int a2)] []
  refine x_aload_n X dX10_merge_0 rfl 0 rfl ?_
  refine x_iload_n X dX10_merge_1 rfl 1 rfl ?_
  refine x_callVXv Y [.int a1] [] dX10_merge_2 (kX10_checkTruck h) cm_X10_checkTruck ci_X10_checkTruck w_5_57 dsX_0 ⟨by decide, by decide⟩ (by decide) rfl (Nat.le_of_ble_eq_true rfl) (fun V σ2 τ2 Y h => ?_)
  have X := x_isX Y
  refine x_aload_n X dX10_merge_5 rfl 0 rfl ?_
  refine x_iload_n X dX10_merge_6 rfl 2 rfl ?_
  refine x_callVXv Y [.int a2] [] dX10_merge_7 (kX10_checkTruck h) cm_X10_checkTruck ci_X10_checkTruck w_5_57 dsX_0 ⟨by decide, by decide⟩ (by decide) rfl (Nat.le_of_ble_eq_true rfl) (fun V σ7 τ7 Y h => ?_)
  have X := x_isX Y
  refine x_aload_n X dX10_merge_10 rfl 0 rfl ?_
  refine x_iload_n X dX10_merge_11 rfl 1 rfl ?_
  refine x_iload_n X dX10_merge_12 rfl 2 rfl ?_
  refine x_callVi X [.int a1, .int a2] [] dX10_merge_13 (kX10_mergeTwo h) cm_X10_mergeTwo ci_X10_mergeTwo w_4_124 dsX_0 ⟨by decide, by decide⟩ rfl (Nat.le_of_ble_eq_true rfl) (fun r13 σ13 τ13 h => ?_)
  exact x_iret X dX10_merge_16 ⟨_, rfl, h⟩
theorem dX10_gain_0 : decode cX10_gain 0 = .ok (.aload_n 0, 1) := by decide +kernel
theorem dX10_gain_1 : decode cX10_gain 1 = .ok (.iload_n 1, 1) := by decide +kernel
theorem dX10_gain_2 : decode cX10_gain 2 = .ok (.invokevirtual 209, 3) := by decide +kernel
theorem dX10_gain_5 : decode cX10_gain 5 = .ok (.aload_n 0, 1) := by decide +kernel
theorem dX10_gain_6 : decode cX10_gain 6 = .ok (.iload_n 2, 1) := by decide +kernel
theorem dX10_gain_7 : decode cX10_gain 7 = .ok (.invokevirtual 209, 3) := by decide +kernel
theorem dX10_gain_10 : decode cX10_gain 10 = .ok (.aload_n 0, 1) := by decide +kernel
theorem dX10_gain_11 : decode cX10_gain 11 = .ok (.getfield 63, 3) := by decide +kernel
theorem dX10_gain_14 : decode cX10_gain 14 = .ok (.iload_n 1, 1) := by decide +kernel
theorem dX10_gain_15 : decode cX10_gain 15 = .ok (.iload_n 2, 1) := by decide +kernel
theorem dX10_gain_16 : decode cX10_gain 16 = .ok (.invokevirtual 348, 3) := by decide +kernel
theorem dX10_gain_19 : decode cX10_gain 19 = .ok (.ifCond .eq 14, 3) := by decide +kernel
theorem dX10_gain_22 : decode cX10_gain 22 = .ok (.new 357, 3) := by decide +kernel
theorem dX10_gain_25 : decode cX10_gain 25 = .ok (.dup, 1) := by decide +kernel
theorem dX10_gain_26 : decode cX10_gain 26 = .ok (.ldc_w 359, 3) := by decide +kernel
theorem dX10_gain_29 : decode cX10_gain 29 = .ok (.invokespecial 361, 3) := by decide +kernel
theorem dX10_gain_32 : decode cX10_gain 32 = .ok (.athrow, 1) := by decide +kernel
theorem dX10_gain_33 : decode cX10_gain 33 = .ok (.aload_n 0, 1) := by decide +kernel
theorem dX10_gain_34 : decode cX10_gain 34 = .ok (.getfield 55, 3) := by decide +kernel
theorem dX10_gain_37 : decode cX10_gain 37 = .ok (.invokevirtual 339, 3) := by decide +kernel
theorem dX10_gain_40 : decode cX10_gain 40 = .ok (.aload_n 0, 1) := by decide +kernel
theorem dX10_gain_41 : decode cX10_gain 41 = .ok (.getfield 51, 3) := by decide +kernel
theorem dX10_gain_44 : decode cX10_gain 44 = .ok (.getfield 155, 3) := by decide +kernel
theorem dX10_gain_47 : decode cX10_gain 47 = .ok (.aload_n 0, 1) := by decide +kernel
theorem dX10_gain_48 : decode cX10_gain 48 = .ok (.getfield 55, 3) := by decide +kernel
theorem dX10_gain_51 : decode cX10_gain 51 = .ok (.getfield 155, 3) := by decide +kernel
theorem dX10_gain_54 : decode cX10_gain 54 = .ok (.isub, 1) := by decide +kernel
theorem dX10_gain_55 : decode cX10_gain 55 = .ok (.ireturn, 1) := by decide +kernel
theorem cm_X10_gain : x_CM yX10_gain cX10_gain 3 (Option.some FieldType.int) 2 := ⟨w_6_31, w_1_1, by decide +kernel, by decide +kernel⟩
theorem ci_X10_gain : x_CI yX10_gain 12 := ⟨w_6_29, w_6_30, (RX10, TX10, 12), rfl, rfl⟩
set_option maxRecDepth 100000 in
set_option maxHeartbeats 4000000 in
theorem kX10_gain {ad : Nat → Nat} {a1 : Int32} {a2 : Int32} {σ : x_S} {τ : x_L} {Q : Int32 → x_S → x_L → Prop} {QX : x_PE} (h : wX10_gain a1 a2 σ τ Q QX) : x_MetX yX10_gain cX10_gain 3 (Option.some FieldType.int) 7 4 ad dsX [.ref (ad 0), .int a1, .int a2] σ τ (x_PI Q) QX := by
  refine x_metX (by decide +kernel) (Nat.le_of_ble_eq_true rfl) (fun V Y => ?_)
  have Y : x_IsX V cX10_gain 3 RX10 (Option.some FieldType.int) ad dsX 7 (x_PI Q) QX 0 4 := Y
  have X := x_isX Y
  show V σ τ 0 [(0, .ref (ad 0)), (1, .int a1), (2, .int a2)] []
  refine x_aload_n X dX10_gain_0 rfl 0 rfl ?_
  refine x_iload_n X dX10_gain_1 rfl 1 rfl ?_
  refine x_callVXv Y [.int a1] [] dX10_gain_2 (kX10_checkTruck h) cm_X10_checkTruck ci_X10_checkTruck w_5_57 dsX_0 ⟨by decide, by decide⟩ (by decide) rfl (Nat.le_of_ble_eq_true rfl) (fun V σ2 τ2 Y h => ?_)
  have X := x_isX Y
  refine x_aload_n X dX10_gain_5 rfl 0 rfl ?_
  refine x_iload_n X dX10_gain_6 rfl 2 rfl ?_
  refine x_callVXv Y [.int a2] [] dX10_gain_7 (kX10_checkTruck h) cm_X10_checkTruck ci_X10_checkTruck w_5_57 dsX_0 ⟨by decide, by decide⟩ (by decide) rfl (Nat.le_of_ble_eq_true rfl) (fun V σ7 τ7 Y h => ?_)
  have X := x_isX Y
  refine x_aload_n X dX10_gain_10 rfl 0 rfl ?_
  refine x_getR X (j := 59) dX10_gain_11 fl_10_63 dsX_0 rfl ?_
  refine x_iload_n X dX10_gain_14 rfl 1 rfl ?_
  refine x_iload_n X dX10_gain_15 rfl 2 rfl ?_
  refine x_callVi X [.int a1, .int a2] [] dX10_gain_16 (kX4_attempt h) cm_X4_attempt ci_X4_attempt w_3_236 dsX_59 ⟨by decide, by decide⟩ rfl (Nat.le_of_ble_eq_true rfl) (fun r16 σ16 τ16 h => ?_)
  refine x_if_eq X 33 dX10_gain_19 (by decide) (fun hc => ?_) (fun hc => ?_)
  · have h := h.1 hc
    refine x_aload_n X dX10_gain_33 rfl 0 rfl ?_
    refine x_getR X (j := 46) dX10_gain_34 fl_10_55 dsX_0 rfl ?_
    refine x_callVv X [] [] dX10_gain_37 (kX6_arrange x_pl46 h) cm_X6_arrange ci_X6_arrange w_4_26 dsX_46 ⟨by decide, by decide⟩ rfl (Nat.le_of_ble_eq_true rfl) (fun σ37 τ37 h => ?_)
    refine x_aload_n X dX10_gain_40 rfl 0 rfl ?_
    refine x_getR X (j := 33) dX10_gain_41 fl_10_51 dsX_0 rfl ?_
    refine x_getI X dX10_gain_44 fl_10_155 dsX_33 rfl ?_
    refine x_aload_n X dX10_gain_47 rfl 0 rfl ?_
    refine x_getR X (j := 46) dX10_gain_48 fl_10_55 dsX_0 rfl ?_
    refine x_getI X dX10_gain_51 fl_10_155 dsX_46 rfl ?_
    refine x_isub X dX10_gain_54 ?_
    exact x_iret X dX10_gain_55 ⟨_, rfl, h⟩
  · have h := h.2 hc
    exact x_throw Y (i := 15) dX10_gain_22 dX10_gain_25 dX10_gain_26 dX10_gain_29 dX10_gain_32 (by decide +kernel) w_6_32 w_1_26 (List.mem_of_getElem? (i := 2) rfl) (List.mem_of_getElem? (i := 15) rfl) x_exIS x_exIS_b x_exIS_c (by decide) (by decide) (Nat.le_of_ble_eq_true rfl) h
theorem dX10_bestPartner_0 : decode cX10_bestPartner 0 = .ok (.aload_n 0, 1) := by decide +kernel
theorem dX10_bestPartner_1 : decode cX10_bestPartner 1 = .ok (.iload_n 1, 1) := by decide +kernel
theorem dX10_bestPartner_2 : decode cX10_bestPartner 2 = .ok (.invokevirtual 209, 3) := by decide +kernel
theorem dX10_bestPartner_5 : decode cX10_bestPartner 5 = .ok (.iconst (-1), 1) := by decide +kernel
theorem dX10_bestPartner_6 : decode cX10_bestPartner 6 = .ok (.istore_n 2, 1) := by decide +kernel
theorem dX10_bestPartner_7 : decode cX10_bestPartner 7 = .ok (.aload_n 0, 1) := by decide +kernel
theorem dX10_bestPartner_8 : decode cX10_bestPartner 8 = .ok (.getfield 51, 3) := by decide +kernel
theorem dX10_bestPartner_11 : decode cX10_bestPartner 11 = .ok (.getfield 155, 3) := by decide +kernel
theorem dX10_bestPartner_14 : decode cX10_bestPartner 14 = .ok (.istore_n 3, 1) := by decide +kernel
theorem dX10_bestPartner_15 : decode cX10_bestPartner 15 = .ok (.iconst 0, 1) := by decide +kernel
theorem dX10_bestPartner_16 : decode cX10_bestPartner 16 = .ok (.istore 4, 2) := by decide +kernel
theorem dX10_bestPartner_18 : decode cX10_bestPartner 18 = .ok (.iload 4, 2) := by decide +kernel
theorem dX10_bestPartner_20 : decode cX10_bestPartner 20 = .ok (.aload_n 0, 1) := by decide +kernel
theorem dX10_bestPartner_21 : decode cX10_bestPartner 21 = .ok (.getfield 19, 3) := by decide +kernel
theorem dX10_bestPartner_24 : decode cX10_bestPartner 24 = .ok (.getfield 127, 3) := by decide +kernel
theorem dX10_bestPartner_27 : decode cX10_bestPartner 27 = .ok (.if_icmp .ge 51, 3) := by decide +kernel
theorem dX10_bestPartner_30 : decode cX10_bestPartner 30 = .ok (.aload_n 0, 1) := by decide +kernel
theorem dX10_bestPartner_31 : decode cX10_bestPartner 31 = .ok (.getfield 63, 3) := by decide +kernel
theorem dX10_bestPartner_34 : decode cX10_bestPartner 34 = .ok (.iload_n 1, 1) := by decide +kernel
theorem dX10_bestPartner_35 : decode cX10_bestPartner 35 = .ok (.iload 4, 2) := by decide +kernel
theorem dX10_bestPartner_37 : decode cX10_bestPartner 37 = .ok (.invokevirtual 348, 3) := by decide +kernel
theorem dX10_bestPartner_40 : decode cX10_bestPartner 40 = .ok (.ifCond .ne 32, 3) := by decide +kernel
theorem dX10_bestPartner_43 : decode cX10_bestPartner 43 = .ok (.aload_n 0, 1) := by decide +kernel
theorem dX10_bestPartner_44 : decode cX10_bestPartner 44 = .ok (.getfield 55, 3) := by decide +kernel
theorem dX10_bestPartner_47 : decode cX10_bestPartner 47 = .ok (.invokevirtual 339, 3) := by decide +kernel
theorem dX10_bestPartner_50 : decode cX10_bestPartner 50 = .ok (.aload_n 0, 1) := by decide +kernel
theorem dX10_bestPartner_51 : decode cX10_bestPartner 51 = .ok (.getfield 55, 3) := by decide +kernel
theorem dX10_bestPartner_54 : decode cX10_bestPartner 54 = .ok (.getfield 155, 3) := by decide +kernel
theorem dX10_bestPartner_57 : decode cX10_bestPartner 57 = .ok (.iload_n 3, 1) := by decide +kernel
theorem dX10_bestPartner_58 : decode cX10_bestPartner 58 = .ok (.if_icmp .ge 14, 3) := by decide +kernel
theorem dX10_bestPartner_61 : decode cX10_bestPartner 61 = .ok (.aload_n 0, 1) := by decide +kernel
theorem dX10_bestPartner_62 : decode cX10_bestPartner 62 = .ok (.getfield 55, 3) := by decide +kernel
theorem dX10_bestPartner_65 : decode cX10_bestPartner 65 = .ok (.getfield 155, 3) := by decide +kernel
theorem dX10_bestPartner_68 : decode cX10_bestPartner 68 = .ok (.istore_n 3, 1) := by decide +kernel
theorem dX10_bestPartner_69 : decode cX10_bestPartner 69 = .ok (.iload 4, 2) := by decide +kernel
theorem dX10_bestPartner_71 : decode cX10_bestPartner 71 = .ok (.istore_n 2, 1) := by decide +kernel
theorem dX10_bestPartner_72 : decode cX10_bestPartner 72 = .ok (.iinc 4 1, 3) := by decide +kernel
theorem dX10_bestPartner_75 : decode cX10_bestPartner 75 = .ok (.goto (-57), 3) := by decide +kernel
theorem dX10_bestPartner_78 : decode cX10_bestPartner 78 = .ok (.iload_n 2, 1) := by decide +kernel
theorem dX10_bestPartner_79 : decode cX10_bestPartner 79 = .ok (.ireturn, 1) := by decide +kernel
theorem cm_X10_bestPartner : x_CM yX10_bestPartner cX10_bestPartner 5 (Option.some FieldType.int) 1 := ⟨w_6_54, w_1_1, by decide +kernel, by decide +kernel⟩
theorem ci_X10_bestPartner : x_CI yX10_bestPartner 12 := ⟨w_6_52, w_6_53, (RX10, TX10, 12), rfl, rfl⟩
set_option maxRecDepth 100000 in
set_option maxHeartbeats 4000000 in
theorem bX10_bestPartner_72 {V : x_J} {ad : Nat → Nat} {Q : Int32 → x_S → x_L → Prop} {QX : x_PE} (Y : x_IsX V cX10_bestPartner 5 RX10 (Option.some FieldType.int) ad dsX 7 (x_PI Q) QX 1 4) {K18 : Int32 → Int32 → Int32 → Int32 → x_S → x_L → Prop} (hK18 : ∀ v1 v2 v3 v4 σ τ, K18 v1 v2 v3 v4 σ τ → V σ τ 18 [(0, .ref (ad 0)), (1, .int v1), (2, .int v2), (3, .int v3), (4, .int v4)] []) {v1 : Int32} {v2 : Int32} {v3 : Int32} {v4 : Int32} {σ : x_S} {τ : x_L} (h : wX10_bestPartner_72 K18 Q QX v1 v2 v3 v4 σ τ) : V σ τ 72 [(0, .ref (ad 0)), (1, .int v1), (2, .int v2), (3, .int v3), (4, .int v4)] [] := by
  have X := x_isX Y
  refine x_iinc X (k := 4) (lv' := [(4, .int (v4 + 1)), (0, .ref (ad 0)), (1, .int v1), (2, .int v2), (3, .int v3)]) dX10_bestPartner_72 rfl ki_1 (by decide) rfl ?_
  refine x_goto X (tgt := 18) dX10_bestPartner_75 (by decide) ?_
  refine x_sub X [1, 2, 3, 4, 0] (lv' := [(0, .ref (ad 0)), (1, .int v1), (2, .int v2), (3, .int v3), (4, .int (v4 + 1))]) rfl ?_
  exact hK18 _ _ _ _ _ _ h
set_option maxRecDepth 100000 in
set_option maxHeartbeats 4000000 in
theorem bX10_bestPartner_18 {V : x_J} {ad : Nat → Nat} {Q : Int32 → x_S → x_L → Prop} {QX : x_PE} (Y : x_IsX V cX10_bestPartner 5 RX10 (Option.some FieldType.int) ad dsX 7 (x_PI Q) QX 1 4) {K18 : Int32 → Int32 → Int32 → Int32 → x_S → x_L → Prop} (hK18 : ∀ v1 v2 v3 v4 σ τ, K18 v1 v2 v3 v4 σ τ → V σ τ 18 [(0, .ref (ad 0)), (1, .int v1), (2, .int v2), (3, .int v3), (4, .int v4)] []) {v1 : Int32} {v2 : Int32} {v3 : Int32} {v4 : Int32} {σ : x_S} {τ : x_L} (h : wX10_bestPartner_18 Q QX K18 v1 v2 v3 v4 σ τ) : V σ τ 18 [(0, .ref (ad 0)), (1, .int v1), (2, .int v2), (3, .int v3), (4, .int v4)] [] := by
  have X := x_isX Y
  refine x_iload X dX10_bestPartner_18 4 rfl ?_
  refine x_aload_n X dX10_bestPartner_20 rfl 0 rfl ?_
  refine x_getR X (j := 3) dX10_bestPartner_21 fl_10_19 dsX_0 rfl ?_
  refine x_getI X dX10_bestPartner_24 fl_10_127 dsX_3 rfl ?_
  refine x_icmp_ge X 78 dX10_bestPartner_27 (by decide) (fun hc => ?_) (fun hc => ?_)
  · have h := h.1 hc
    refine x_iload_n X dX10_bestPartner_78 rfl 2 rfl ?_
    exact x_iret X dX10_bestPartner_79 ⟨_, rfl, h⟩
  · have h := h.2 hc
    refine x_aload_n X dX10_bestPartner_30 rfl 0 rfl ?_
    refine x_getR X (j := 59) dX10_bestPartner_31 fl_10_63 dsX_0 rfl ?_
    refine x_iload_n X dX10_bestPartner_34 rfl 1 rfl ?_
    refine x_iload X dX10_bestPartner_35 4 rfl ?_
    refine x_callVi X [.int v1, .int v4] [] dX10_bestPartner_37 (kX4_attempt h) cm_X4_attempt ci_X4_attempt w_3_236 dsX_59 ⟨by decide, by decide⟩ rfl (Nat.le_of_ble_eq_true rfl) (fun r37 σ37 τ37 h => ?_)
    refine x_if_ne X 72 dX10_bestPartner_40 (by decide) (fun hc => ?_) (fun hc => ?_)
    · have h := h.1 hc
      exact bX10_bestPartner_72 Y hK18 h
    · have h := h.2 hc
      refine x_aload_n X dX10_bestPartner_43 rfl 0 rfl ?_
      refine x_getR X (j := 46) dX10_bestPartner_44 fl_10_55 dsX_0 rfl ?_
      refine x_callVv X [] [] dX10_bestPartner_47 (kX6_arrange x_pl46 h) cm_X6_arrange ci_X6_arrange w_4_26 dsX_46 ⟨by decide, by decide⟩ rfl (Nat.le_of_ble_eq_true rfl) (fun σ47 τ47 h => ?_)
      refine x_aload_n X dX10_bestPartner_50 rfl 0 rfl ?_
      refine x_getR X (j := 46) dX10_bestPartner_51 fl_10_55 dsX_0 rfl ?_
      refine x_getI X dX10_bestPartner_54 fl_10_155 dsX_46 rfl ?_
      refine x_iload_n X dX10_bestPartner_57 rfl 3 rfl ?_
      refine x_icmp_ge X 72 dX10_bestPartner_58 (by decide) (fun hc => ?_) (fun hc => ?_)
      · have h := h.1 hc
        exact bX10_bestPartner_72 Y hK18 h
      · have h := h.2 hc
        refine x_aload_n X dX10_bestPartner_61 rfl 0 rfl ?_
        refine x_getR X (j := 46) dX10_bestPartner_62 fl_10_55 dsX_0 rfl ?_
        refine x_getI X dX10_bestPartner_65 fl_10_155 dsX_46 rfl ?_
        refine x_istore_n X (lv' := [(3, .int (σ47 46 14)), (0, .ref (ad 0)), (1, .int v1), (2, .int v2), (4, .int v4)]) dX10_bestPartner_68 rfl (by decide) rfl ?_
        refine x_iload X dX10_bestPartner_69 4 rfl ?_
        refine x_istore_n X (lv' := [(2, .int v4), (3, .int (σ47 46 14)), (0, .ref (ad 0)), (1, .int v1), (4, .int v4)]) dX10_bestPartner_71 rfl (by decide) rfl ?_
        refine x_sub X [2, 3, 0, 1, 4] (lv' := [(0, .ref (ad 0)), (1, .int v1), (2, .int v4), (3, .int (σ47 46 14)), (4, .int v4)]) rfl ?_
        exact bX10_bestPartner_72 Y hK18 h
set_option maxRecDepth 100000 in
set_option maxHeartbeats 4000000 in
theorem kX10_bestPartner {ad : Nat → Nat} {a1 : Int32} {σ : x_S} {τ : x_L} {Q : Int32 → x_S → x_L → Prop} {QX : x_PE} (h : wX10_bestPartner a1 σ τ Q QX) : x_MetX yX10_bestPartner cX10_bestPartner 5 (Option.some FieldType.int) 7 4 ad dsX [.ref (ad 0), .int a1] σ τ (x_PI Q) QX := by
  refine x_metX (by decide +kernel) (Nat.le_of_ble_eq_true rfl) (fun V Y => ?_)
  have Y : x_IsX V cX10_bestPartner 5 RX10 (Option.some FieldType.int) ad dsX 7 (x_PI Q) QX 0 4 := Y
  have X := x_isX Y
  show V σ τ 0 [(0, .ref (ad 0)), (1, .int a1)] []
  refine x_aload_n X dX10_bestPartner_0 rfl 0 rfl ?_
  refine x_iload_n X dX10_bestPartner_1 rfl 1 rfl ?_
  refine x_callVXv Y [.int a1] [] dX10_bestPartner_2 (kX10_checkTruck h) cm_X10_checkTruck ci_X10_checkTruck w_5_57 dsX_0 ⟨by decide, by decide⟩ (by decide) rfl (Nat.le_of_ble_eq_true rfl) (fun V σ2 τ2 Y h => ?_)
  have X := x_isX Y
  refine x_iconst X dX10_bestPartner_5 ki_m1 ?_
  refine x_istore_n X (lv' := [(2, .int (-1)), (0, .ref (ad 0)), (1, .int a1)]) dX10_bestPartner_6 rfl (by decide) rfl ?_
  refine x_aload_n X dX10_bestPartner_7 rfl 1 rfl ?_
  refine x_getR X (j := 33) dX10_bestPartner_8 fl_10_51 dsX_0 rfl ?_
  refine x_getI X dX10_bestPartner_11 fl_10_155 dsX_33 rfl ?_
  refine x_istore_n X (lv' := [(3, .int (σ2 33 14)), (2, .int (-1)), (0, .ref (ad 0)), (1, .int a1)]) dX10_bestPartner_14 rfl (by decide) rfl ?_
  refine x_iconst X dX10_bestPartner_15 ki_0 ?_
  refine x_istore X (lv' := [(4, .int 0), (3, .int (σ2 33 14)), (2, .int (-1)), (0, .ref (ad 0)), (1, .int a1)]) dX10_bestPartner_16 (by decide) rfl ?_
  refine x_sub X [3, 4, 2, 1, 0] (lv' := [(0, .ref (ad 0)), (1, .int a1), (2, .int (-1)), (3, .int (σ2 33 14)), (4, .int 0)]) rfl ?_
  exact x_l4_G (fun v1 v2 v3 v4 σ τ => V σ τ 18 [(0, .ref (ad 0)), (1, .int v1), (2, .int v2), (3, .int v3), (4, .int v4)] []) (fun K18 hK18 v1 v2 v3 v4 σ τ h => bX10_bestPartner_18 Y hK18 h) h
theorem dX10_mergeBestTwo_0 : decode cX10_mergeBestTwo 0 = .ok (.aload_n 0, 1) := by decide +kernel
theorem dX10_mergeBestTwo_1 : decode cX10_mergeBestTwo 1 = .ok (.getfield 51, 3) := by decide +kernel
theorem dX10_mergeBestTwo_4 : decode cX10_mergeBestTwo 4 = .ok (.getfield 155, 3) := by decide +kernel
theorem dX10_mergeBestTwo_7 : decode cX10_mergeBestTwo 7 = .ok (.istore_n 1, 1) := by decide +kernel
theorem dX10_mergeBestTwo_8 : decode cX10_mergeBestTwo 8 = .ok (.iconst (-1), 1) := by decide +kernel
theorem dX10_mergeBestTwo_9 : decode cX10_mergeBestTwo 9 = .ok (.istore_n 2, 1) := by decide +kernel
theorem dX10_mergeBestTwo_10 : decode cX10_mergeBestTwo 10 = .ok (.iconst (-1), 1) := by decide +kernel
theorem dX10_mergeBestTwo_11 : decode cX10_mergeBestTwo 11 = .ok (.istore_n 3, 1) := by decide +kernel
theorem dX10_mergeBestTwo_12 : decode cX10_mergeBestTwo 12 = .ok (.iconst 0, 1) := by decide +kernel
theorem dX10_mergeBestTwo_13 : decode cX10_mergeBestTwo 13 = .ok (.istore 4, 2) := by decide +kernel
theorem dX10_mergeBestTwo_15 : decode cX10_mergeBestTwo 15 = .ok (.iload 4, 2) := by decide +kernel
theorem dX10_mergeBestTwo_17 : decode cX10_mergeBestTwo 17 = .ok (.aload_n 0, 1) := by decide +kernel
theorem dX10_mergeBestTwo_18 : decode cX10_mergeBestTwo 18 = .ok (.getfield 19, 3) := by decide +kernel
theorem dX10_mergeBestTwo_21 : decode cX10_mergeBestTwo 21 = .ok (.getfield 127, 3) := by decide +kernel
theorem dX10_mergeBestTwo_24 : decode cX10_mergeBestTwo 24 = .ok (.if_icmp .ge 79, 3) := by decide +kernel
theorem dX10_mergeBestTwo_27 : decode cX10_mergeBestTwo 27 = .ok (.iload 4, 2) := by decide +kernel
theorem dX10_mergeBestTwo_29 : decode cX10_mergeBestTwo 29 = .ok (.iconst 1, 1) := by decide +kernel
theorem dX10_mergeBestTwo_30 : decode cX10_mergeBestTwo 30 = .ok (.iadd, 1) := by decide +kernel
theorem dX10_mergeBestTwo_31 : decode cX10_mergeBestTwo 31 = .ok (.istore 5, 2) := by decide +kernel
theorem dX10_mergeBestTwo_33 : decode cX10_mergeBestTwo 33 = .ok (.iload 5, 2) := by decide +kernel
theorem dX10_mergeBestTwo_35 : decode cX10_mergeBestTwo 35 = .ok (.aload_n 0, 1) := by decide +kernel
theorem dX10_mergeBestTwo_36 : decode cX10_mergeBestTwo 36 = .ok (.getfield 19, 3) := by decide +kernel
theorem dX10_mergeBestTwo_39 : decode cX10_mergeBestTwo 39 = .ok (.getfield 127, 3) := by decide +kernel
theorem dX10_mergeBestTwo_42 : decode cX10_mergeBestTwo 42 = .ok (.if_icmp .ge 55, 3) := by decide +kernel
theorem dX10_mergeBestTwo_45 : decode cX10_mergeBestTwo 45 = .ok (.aload_n 0, 1) := by decide +kernel
theorem dX10_mergeBestTwo_46 : decode cX10_mergeBestTwo 46 = .ok (.getfield 63, 3) := by decide +kernel
theorem dX10_mergeBestTwo_49 : decode cX10_mergeBestTwo 49 = .ok (.iload 4, 2) := by decide +kernel
theorem dX10_mergeBestTwo_51 : decode cX10_mergeBestTwo 51 = .ok (.iload 5, 2) := by decide +kernel
theorem dX10_mergeBestTwo_53 : decode cX10_mergeBestTwo 53 = .ok (.invokevirtual 348, 3) := by decide +kernel
theorem dX10_mergeBestTwo_56 : decode cX10_mergeBestTwo 56 = .ok (.ifCond .ne 35, 3) := by decide +kernel
theorem dX10_mergeBestTwo_59 : decode cX10_mergeBestTwo 59 = .ok (.aload_n 0, 1) := by decide +kernel
theorem dX10_mergeBestTwo_60 : decode cX10_mergeBestTwo 60 = .ok (.getfield 55, 3) := by decide +kernel
theorem dX10_mergeBestTwo_63 : decode cX10_mergeBestTwo 63 = .ok (.invokevirtual 339, 3) := by decide +kernel
theorem dX10_mergeBestTwo_66 : decode cX10_mergeBestTwo 66 = .ok (.aload_n 0, 1) := by decide +kernel
theorem dX10_mergeBestTwo_67 : decode cX10_mergeBestTwo 67 = .ok (.getfield 55, 3) := by decide +kernel
theorem dX10_mergeBestTwo_70 : decode cX10_mergeBestTwo 70 = .ok (.getfield 155, 3) := by decide +kernel
theorem dX10_mergeBestTwo_73 : decode cX10_mergeBestTwo 73 = .ok (.iload_n 1, 1) := by decide +kernel
theorem dX10_mergeBestTwo_74 : decode cX10_mergeBestTwo 74 = .ok (.if_icmp .ge 17, 3) := by decide +kernel
theorem dX10_mergeBestTwo_77 : decode cX10_mergeBestTwo 77 = .ok (.aload_n 0, 1) := by decide +kernel
theorem dX10_mergeBestTwo_78 : decode cX10_mergeBestTwo 78 = .ok (.getfield 55, 3) := by decide +kernel
theorem dX10_mergeBestTwo_81 : decode cX10_mergeBestTwo 81 = .ok (.getfield 155, 3) := by decide +kernel
theorem dX10_mergeBestTwo_84 : decode cX10_mergeBestTwo 84 = .ok (.istore_n 1, 1) := by decide +kernel
theorem dX10_mergeBestTwo_85 : decode cX10_mergeBestTwo 85 = .ok (.iload 4, 2) := by decide +kernel
theorem dX10_mergeBestTwo_87 : decode cX10_mergeBestTwo 87 = .ok (.istore_n 2, 1) := by decide +kernel
theorem dX10_mergeBestTwo_88 : decode cX10_mergeBestTwo 88 = .ok (.iload 5, 2) := by decide +kernel
theorem dX10_mergeBestTwo_90 : decode cX10_mergeBestTwo 90 = .ok (.istore_n 3, 1) := by decide +kernel
theorem dX10_mergeBestTwo_91 : decode cX10_mergeBestTwo 91 = .ok (.iinc 5 1, 3) := by decide +kernel
theorem dX10_mergeBestTwo_94 : decode cX10_mergeBestTwo 94 = .ok (.goto (-61), 3) := by decide +kernel
theorem dX10_mergeBestTwo_97 : decode cX10_mergeBestTwo 97 = .ok (.iinc 4 1, 3) := by decide +kernel
theorem dX10_mergeBestTwo_100 : decode cX10_mergeBestTwo 100 = .ok (.goto (-85), 3) := by decide +kernel
theorem dX10_mergeBestTwo_103 : decode cX10_mergeBestTwo 103 = .ok (.iload_n 2, 1) := by decide +kernel
theorem dX10_mergeBestTwo_104 : decode cX10_mergeBestTwo 104 = .ok (.iconst (-1), 1) := by decide +kernel
theorem dX10_mergeBestTwo_105 : decode cX10_mergeBestTwo 105 = .ok (.if_icmp .eq 15, 3) := by decide +kernel
theorem dX10_mergeBestTwo_108 : decode cX10_mergeBestTwo 108 = .ok (.aload_n 0, 1) := by decide +kernel
theorem dX10_mergeBestTwo_109 : decode cX10_mergeBestTwo 109 = .ok (.getfield 63, 3) := by decide +kernel
theorem dX10_mergeBestTwo_112 : decode cX10_mergeBestTwo 112 = .ok (.iload_n 2, 1) := by decide +kernel
theorem dX10_mergeBestTwo_113 : decode cX10_mergeBestTwo 113 = .ok (.iload_n 3, 1) := by decide +kernel
theorem dX10_mergeBestTwo_114 : decode cX10_mergeBestTwo 114 = .ok (.invokevirtual 348, 3) := by decide +kernel
theorem dX10_mergeBestTwo_117 : decode cX10_mergeBestTwo 117 = .ok (.ifCond .eq 5, 3) := by decide +kernel
theorem dX10_mergeBestTwo_120 : decode cX10_mergeBestTwo 120 = .ok (.iconst 0, 1) := by decide +kernel
theorem dX10_mergeBestTwo_121 : decode cX10_mergeBestTwo 121 = .ok (.ireturn, 1) := by decide +kernel
theorem dX10_mergeBestTwo_122 : decode cX10_mergeBestTwo 122 = .ok (.aload_n 0, 1) := by decide +kernel
theorem dX10_mergeBestTwo_123 : decode cX10_mergeBestTwo 123 = .ok (.getfield 51, 3) := by decide +kernel
theorem dX10_mergeBestTwo_126 : decode cX10_mergeBestTwo 126 = .ok (.aload_n 0, 1) := by decide +kernel
theorem dX10_mergeBestTwo_127 : decode cX10_mergeBestTwo 127 = .ok (.getfield 55, 3) := by decide +kernel
theorem dX10_mergeBestTwo_130 : decode cX10_mergeBestTwo 130 = .ok (.invokevirtual 354, 3) := by decide +kernel
theorem dX10_mergeBestTwo_133 : decode cX10_mergeBestTwo 133 = .ok (.aload_n 0, 1) := by decide +kernel
theorem dX10_mergeBestTwo_134 : decode cX10_mergeBestTwo 134 = .ok (.getfield 51, 3) := by decide +kernel
theorem dX10_mergeBestTwo_137 : decode cX10_mergeBestTwo 137 = .ok (.invokevirtual 339, 3) := by decide +kernel
theorem dX10_mergeBestTwo_140 : decode cX10_mergeBestTwo 140 = .ok (.iconst 1, 1) := by decide +kernel
theorem dX10_mergeBestTwo_141 : decode cX10_mergeBestTwo 141 = .ok (.ireturn, 1) := by decide +kernel
theorem cm_X10_mergeBestTwo : x_CM yX10_mergeBestTwo cX10_mergeBestTwo 6 (Option.some FieldType.boolean) 0 := ⟨w_3_235, w_1_1, by decide +kernel, by decide +kernel⟩
theorem ci_X10_mergeBestTwo : x_CI yX10_mergeBestTwo 12 := ⟨w_3_234, wp_20, (RX10, TX10, 12), rfl, rfl⟩
set_option maxRecDepth 100000 in
set_option maxHeartbeats 4000000 in
theorem bX10_mergeBestTwo_91 {V : x_J} {ad : Nat → Nat} {Q : Int32 → x_S → x_L → Prop} (X : x_Is V cX10_mergeBestTwo 6 RX10 (Option.some FieldType.boolean) ad dsX 4 (x_PI Q)) {K15 : Int32 → Int32 → Int32 → Int32 → x_S → x_L → Prop} {K33 : Int32 → Int32 → Int32 → Int32 → Int32 → x_S → x_L → Prop} (hK15 : ∀ v1 v2 v3 v4 σ τ, K15 v1 v2 v3 v4 σ τ → V σ τ 15 [(0, .ref (ad 0)), (1, .int v1), (2, .int v2), (3, .int v3), (4, .int v4)] []) (hK33 : ∀ v1 v2 v3 v4 v5 σ τ, K33 v1 v2 v3 v4 v5 σ τ → V σ τ 33 [(0, .ref (ad 0)), (1, .int v1), (2, .int v2), (3, .int v3), (4, .int v4), (5, .int v5)] []) {v1 : Int32} {v2 : Int32} {v3 : Int32} {v4 : Int32} {v5 : Int32} {σ : x_S} {τ : x_L} (h : wX10_mergeBestTwo_91 K15 K33 Q v1 v2 v3 v4 v5 σ τ) : V σ τ 91 [(0, .ref (ad 0)), (1, .int v1), (2, .int v2), (3, .int v3), (4, .int v4), (5, .int v5)] [] := by
  refine x_iinc X (k := 5) (lv' := [(5, .int (v5 + 1)), (0, .ref (ad 0)), (1, .int v1), (2, .int v2), (3, .int v3), (4, .int v4)]) dX10_mergeBestTwo_91 rfl ki_1 (by decide) rfl ?_
  refine x_goto X (tgt := 33) dX10_mergeBestTwo_94 (by decide) ?_
  refine x_sub X [1, 2, 3, 4, 5, 0] (lv' := [(0, .ref (ad 0)), (1, .int v1), (2, .int v2), (3, .int v3), (4, .int v4), (5, .int (v5 + 1))]) rfl ?_
  exact hK33 _ _ _ _ _ _ _ h
set_option maxRecDepth 100000 in
set_option maxHeartbeats 4000000 in
theorem bX10_mergeBestTwo_33 {V : x_J} {ad : Nat → Nat} {Q : Int32 → x_S → x_L → Prop} (X : x_Is V cX10_mergeBestTwo 6 RX10 (Option.some FieldType.boolean) ad dsX 4 (x_PI Q)) {K15 : Int32 → Int32 → Int32 → Int32 → x_S → x_L → Prop} {K33 : Int32 → Int32 → Int32 → Int32 → Int32 → x_S → x_L → Prop} (hK15 : ∀ v1 v2 v3 v4 σ τ, K15 v1 v2 v3 v4 σ τ → V σ τ 15 [(0, .ref (ad 0)), (1, .int v1), (2, .int v2), (3, .int v3), (4, .int v4)] []) (hK33 : ∀ v1 v2 v3 v4 v5 σ τ, K33 v1 v2 v3 v4 v5 σ τ → V σ τ 33 [(0, .ref (ad 0)), (1, .int v1), (2, .int v2), (3, .int v3), (4, .int v4), (5, .int v5)] []) {v1 : Int32} {v2 : Int32} {v3 : Int32} {v4 : Int32} {v5 : Int32} {σ : x_S} {τ : x_L} (h : wX10_mergeBestTwo_33 K15 Q K33 v1 v2 v3 v4 v5 σ τ) : V σ τ 33 [(0, .ref (ad 0)), (1, .int v1), (2, .int v2), (3, .int v3), (4, .int v4), (5, .int v5)] [] := by
  refine x_iload X dX10_mergeBestTwo_33 5 rfl ?_
  refine x_aload_n X dX10_mergeBestTwo_35 rfl 0 rfl ?_
  refine x_getR X (j := 3) dX10_mergeBestTwo_36 fl_10_19 dsX_0 rfl ?_
  refine x_getI X dX10_mergeBestTwo_39 fl_10_127 dsX_3 rfl ?_
  refine x_icmp_ge X 97 dX10_mergeBestTwo_42 (by decide) (fun hc => ?_) (fun hc => ?_)
  · have h := h.1 hc
    refine x_iinc X (k := 4) (lv' := [(4, .int (v4 + 1)), (0, .ref (ad 0)), (1, .int v1), (2, .int v2), (3, .int v3), (5, .int v5)]) dX10_mergeBestTwo_97 rfl ki_1 (by decide) rfl ?_
    refine x_goto X (tgt := 15) dX10_mergeBestTwo_100 (by decide) ?_
    refine x_sub X [1, 2, 3, 4, 0] (lv' := [(0, .ref (ad 0)), (1, .int v1), (2, .int v2), (3, .int v3), (4, .int (v4 + 1))]) rfl ?_
    exact hK15 _ _ _ _ _ _ h
  · have h := h.2 hc
    refine x_aload_n X dX10_mergeBestTwo_45 rfl 0 rfl ?_
    refine x_getR X (j := 59) dX10_mergeBestTwo_46 fl_10_63 dsX_0 rfl ?_
    refine x_iload X dX10_mergeBestTwo_49 4 rfl ?_
    refine x_iload X dX10_mergeBestTwo_51 5 rfl ?_
    refine x_callVi X [.int v4, .int v5] [] dX10_mergeBestTwo_53 (kX4_attempt h) cm_X4_attempt ci_X4_attempt w_3_236 dsX_59 ⟨by decide, by decide⟩ rfl (Nat.le_of_ble_eq_true rfl) (fun r53 σ53 τ53 h => ?_)
    refine x_if_ne X 91 dX10_mergeBestTwo_56 (by decide) (fun hc => ?_) (fun hc => ?_)
    · have h := h.1 hc
      exact bX10_mergeBestTwo_91 X hK15 hK33 h
    · have h := h.2 hc
      refine x_aload_n X dX10_mergeBestTwo_59 rfl 0 rfl ?_
      refine x_getR X (j := 46) dX10_mergeBestTwo_60 fl_10_55 dsX_0 rfl ?_
      refine x_callVv X [] [] dX10_mergeBestTwo_63 (kX6_arrange x_pl46 h) cm_X6_arrange ci_X6_arrange w_4_26 dsX_46 ⟨by decide, by decide⟩ rfl (Nat.le_of_ble_eq_true rfl) (fun σ63 τ63 h => ?_)
      refine x_aload_n X dX10_mergeBestTwo_66 rfl 0 rfl ?_
      refine x_getR X (j := 46) dX10_mergeBestTwo_67 fl_10_55 dsX_0 rfl ?_
      refine x_getI X dX10_mergeBestTwo_70 fl_10_155 dsX_46 rfl ?_
      refine x_iload_n X dX10_mergeBestTwo_73 rfl 1 rfl ?_
      refine x_icmp_ge X 91 dX10_mergeBestTwo_74 (by decide) (fun hc => ?_) (fun hc => ?_)
      · have h := h.1 hc
        exact bX10_mergeBestTwo_91 X hK15 hK33 h
      · have h := h.2 hc
        refine x_aload_n X dX10_mergeBestTwo_77 rfl 0 rfl ?_
        refine x_getR X (j := 46) dX10_mergeBestTwo_78 fl_10_55 dsX_0 rfl ?_
        refine x_getI X dX10_mergeBestTwo_81 fl_10_155 dsX_46 rfl ?_
        refine x_istore_n X (lv' := [(1, .int (σ63 46 14)), (0, .ref (ad 0)), (2, .int v2), (3, .int v3), (4, .int v4), (5, .int v5)]) dX10_mergeBestTwo_84 rfl (by decide) rfl ?_
        refine x_iload X dX10_mergeBestTwo_85 4 rfl ?_
        refine x_istore_n X (lv' := [(2, .int v4), (1, .int (σ63 46 14)), (0, .ref (ad 0)), (3, .int v3), (4, .int v4), (5, .int v5)]) dX10_mergeBestTwo_87 rfl (by decide) rfl ?_
        refine x_iload X dX10_mergeBestTwo_88 5 rfl ?_
        refine x_istore_n X (lv' := [(3, .int v5), (2, .int v4), (1, .int (σ63 46 14)), (0, .ref (ad 0)), (4, .int v4), (5, .int v5)]) dX10_mergeBestTwo_90 rfl (by decide) rfl ?_
        refine x_sub X [3, 2, 1, 0, 4, 5] (lv' := [(0, .ref (ad 0)), (1, .int (σ63 46 14)), (2, .int v4), (3, .int v5), (4, .int v4), (5, .int v5)]) rfl ?_
        exact bX10_mergeBestTwo_91 X hK15 hK33 h
set_option maxRecDepth 100000 in
set_option maxHeartbeats 4000000 in
theorem bX10_mergeBestTwo_120 {V : x_J} {ad : Nat → Nat} {Q : Int32 → x_S → x_L → Prop} (X : x_Is V cX10_mergeBestTwo 6 RX10 (Option.some FieldType.boolean) ad dsX 4 (x_PI Q)) {σ : x_S} {τ : x_L} (h : wX10_mergeBestTwo_120 Q σ τ) : V σ τ 120 [] [] := by
  refine x_iconst X dX10_mergeBestTwo_120 ki_0 ?_
  exact x_zret X dX10_mergeBestTwo_121 ⟨Or.inl rfl, _, rfl, h⟩
set_option maxRecDepth 100000 in
set_option maxHeartbeats 4000000 in
theorem bX10_mergeBestTwo_15 {V : x_J} {ad : Nat → Nat} {Q : Int32 → x_S → x_L → Prop} (X : x_Is V cX10_mergeBestTwo 6 RX10 (Option.some FieldType.boolean) ad dsX 4 (x_PI Q)) {K15 : Int32 → Int32 → Int32 → Int32 → x_S → x_L → Prop} (hK15 : ∀ v1 v2 v3 v4 σ τ, K15 v1 v2 v3 v4 σ τ → V σ τ 15 [(0, .ref (ad 0)), (1, .int v1), (2, .int v2), (3, .int v3), (4, .int v4)] []) {v1 : Int32} {v2 : Int32} {v3 : Int32} {v4 : Int32} {σ : x_S} {τ : x_L} (h : wX10_mergeBestTwo_15 Q K15 v1 v2 v3 v4 σ τ) : V σ τ 15 [(0, .ref (ad 0)), (1, .int v1), (2, .int v2), (3, .int v3), (4, .int v4)] [] := by
  refine x_iload X dX10_mergeBestTwo_15 4 rfl ?_
  refine x_aload_n X dX10_mergeBestTwo_17 rfl 0 rfl ?_
  refine x_getR X (j := 3) dX10_mergeBestTwo_18 fl_10_19 dsX_0 rfl ?_
  refine x_getI X dX10_mergeBestTwo_21 fl_10_127 dsX_3 rfl ?_
  refine x_icmp_ge X 103 dX10_mergeBestTwo_24 (by decide) (fun hc => ?_) (fun hc => ?_)
  · have h := h.1 hc
    refine x_iload_n X dX10_mergeBestTwo_103 rfl 2 rfl ?_
    refine x_iconst X dX10_mergeBestTwo_104 ki_m1 ?_
    refine x_icmp_eq X 120 dX10_mergeBestTwo_105 (by decide) (fun hc => ?_) (fun hc => ?_)
    · have h := h.1 hc
      refine x_sub X [] (lv' := []) rfl ?_
      exact bX10_mergeBestTwo_120 X h
    · have h := h.2 hc
      refine x_aload_n X dX10_mergeBestTwo_108 rfl 0 rfl ?_
      refine x_getR X (j := 59) dX10_mergeBestTwo_109 fl_10_63 dsX_0 rfl ?_
      refine x_iload_n X dX10_mergeBestTwo_112 rfl 2 rfl ?_
      refine x_iload_n X dX10_mergeBestTwo_113 rfl 3 rfl ?_
      refine x_callVi X [.int v2, .int v3] [] dX10_mergeBestTwo_114 (kX4_attempt h) cm_X4_attempt ci_X4_attempt w_3_236 dsX_59 ⟨by decide, by decide⟩ rfl (Nat.le_of_ble_eq_true rfl) (fun r114 σ114 τ114 h => ?_)
      refine x_if_eq X 122 dX10_mergeBestTwo_117 (by decide) (fun hc => ?_) (fun hc => ?_)
      · have h := h.1 hc
        refine x_aload_n X dX10_mergeBestTwo_122 rfl 0 rfl ?_
        refine x_getR X (j := 33) dX10_mergeBestTwo_123 fl_10_51 dsX_0 rfl ?_
        refine x_aload_n X dX10_mergeBestTwo_126 rfl 0 rfl ?_
        refine x_getR X (j := 46) dX10_mergeBestTwo_127 fl_10_55 dsX_0 rfl ?_
        refine x_callVv X [.ref (ad 46)] [] dX10_mergeBestTwo_130 (kX6_copyChoices x_pl33 x_pl46 h) cm_X6_copyChoices ci_X6_copyChoices w_4_27 dsX_33 ⟨by decide, by decide⟩ rfl (Nat.le_of_ble_eq_true rfl) (fun σ130 τ130 h => ?_)
        refine x_aload_n X dX10_mergeBestTwo_133 rfl 0 rfl ?_
        refine x_getR X (j := 33) dX10_mergeBestTwo_134 fl_10_51 dsX_0 rfl ?_
        refine x_callVv X [] [] dX10_mergeBestTwo_137 (kX6_arrange x_pl33 h) cm_X6_arrange ci_X6_arrange w_4_26 dsX_33 ⟨by decide, by decide⟩ rfl (Nat.le_of_ble_eq_true rfl) (fun σ137 τ137 h => ?_)
        refine x_iconst X dX10_mergeBestTwo_140 ki_1 ?_
        exact x_zret X dX10_mergeBestTwo_141 ⟨Or.inr rfl, _, rfl, h⟩
      · have h := h.2 hc
        refine x_sub X [] (lv' := []) rfl ?_
        exact bX10_mergeBestTwo_120 X h
  · have h := h.2 hc
    refine x_iload X dX10_mergeBestTwo_27 4 rfl ?_
    refine x_iconst X dX10_mergeBestTwo_29 ki_1 ?_
    refine x_iadd X dX10_mergeBestTwo_30 ?_
    refine x_istore X (lv' := [(5, .int (v4 + 1)), (0, .ref (ad 0)), (1, .int v1), (2, .int v2), (3, .int v3), (4, .int v4)]) dX10_mergeBestTwo_31 (by decide) rfl ?_
    refine x_sub X [1, 2, 3, 4, 5, 0] (lv' := [(0, .ref (ad 0)), (1, .int v1), (2, .int v2), (3, .int v3), (4, .int v4), (5, .int (v4 + 1))]) rfl ?_
    exact x_l5_G (fun v1 v2 v3 v4 v5 σ τ => V σ τ 33 [(0, .ref (ad 0)), (1, .int v1), (2, .int v2), (3, .int v3), (4, .int v4), (5, .int v5)] []) (fun K33 hK33 v1 v2 v3 v4 v5 σ τ h => bX10_mergeBestTwo_33 X hK15 hK33 h) h
set_option maxRecDepth 100000 in
set_option maxHeartbeats 4000000 in
theorem kX10_mergeBestTwo {ad : Nat → Nat} {σ : x_S} {τ : x_L} {Q : Int32 → x_S → x_L → Prop} (h : wX10_mergeBestTwo σ τ Q) : x_Met yX10_mergeBestTwo cX10_mergeBestTwo 6 (Option.some FieldType.boolean) 4 ad dsX [.ref (ad 0)] σ τ (x_PI Q) := by
  refine x_met (by decide +kernel) (Nat.le_of_ble_eq_true rfl) (fun V X => ?_)
  have X : x_Is V cX10_mergeBestTwo 6 RX10 (Option.some FieldType.boolean) ad dsX 4 (x_PI Q) := X
  show V σ τ 0 [(0, .ref (ad 0))] []
  refine x_aload_n X dX10_mergeBestTwo_0 rfl 0 rfl ?_
  refine x_getR X (j := 33) dX10_mergeBestTwo_1 fl_10_51 dsX_0 rfl ?_
  refine x_getI X dX10_mergeBestTwo_4 fl_10_155 dsX_33 rfl ?_
  refine x_istore_n X (lv' := [(1, .int (σ 33 14)), (0, .ref (ad 0))]) dX10_mergeBestTwo_7 rfl (by decide) rfl ?_
  refine x_iconst X dX10_mergeBestTwo_8 ki_m1 ?_
  refine x_istore_n X (lv' := [(2, .int (-1)), (1, .int (σ 33 14)), (0, .ref (ad 0))]) dX10_mergeBestTwo_9 rfl (by decide) rfl ?_
  refine x_iconst X dX10_mergeBestTwo_10 ki_m1 ?_
  refine x_istore_n X (lv' := [(3, .int (-1)), (2, .int (-1)), (1, .int (σ 33 14)), (0, .ref (ad 0))]) dX10_mergeBestTwo_11 rfl (by decide) rfl ?_
  refine x_iconst X dX10_mergeBestTwo_12 ki_0 ?_
  refine x_istore X (lv' := [(4, .int 0), (3, .int (-1)), (2, .int (-1)), (1, .int (σ 33 14)), (0, .ref (ad 0))]) dX10_mergeBestTwo_13 (by decide) rfl ?_
  refine x_sub X [4, 3, 2, 1, 0] (lv' := [(0, .ref (ad 0)), (1, .int (σ 33 14)), (2, .int (-1)), (3, .int (-1)), (4, .int 0)]) rfl ?_
  exact x_l4_G (fun v1 v2 v3 v4 σ τ => V σ τ 15 [(0, .ref (ad 0)), (1, .int v1), (2, .int v2), (3, .int v3), (4, .int v4)] []) (fun K15 hK15 v1 v2 v3 v4 σ τ h => bX10_mergeBestTwo_15 X hK15 h) h
theorem dX10_mergeByGain_0 : decode cX10_mergeByGain 0 = .ok (.aload_n 0, 1) := by decide +kernel
theorem dX10_mergeByGain_1 : decode cX10_mergeByGain 1 = .ok (.getfield 79, 3) := by decide +kernel
theorem dX10_mergeByGain_4 : decode cX10_mergeByGain 4 = .ok (.aload_n 0, 1) := by decide +kernel
theorem dX10_mergeByGain_5 : decode cX10_mergeByGain 5 = .ok (.getfield 51, 3) := by decide +kernel
theorem dX10_mergeByGain_8 : decode cX10_mergeByGain 8 = .ok (.invokevirtual 336, 3) := by decide +kernel
theorem dX10_mergeByGain_11 : decode cX10_mergeByGain 11 = .ok (.iconst 0, 1) := by decide +kernel
theorem dX10_mergeByGain_12 : decode cX10_mergeByGain 12 = .ok (.istore_n 1, 1) := by decide +kernel
theorem dX10_mergeByGain_13 : decode cX10_mergeByGain 13 = .ok (.iload_n 1, 1) := by decide +kernel
theorem dX10_mergeByGain_14 : decode cX10_mergeByGain 14 = .ok (.bipush 30, 2) := by decide +kernel
theorem dX10_mergeByGain_16 : decode cX10_mergeByGain 16 = .ok (.if_icmp .ge 18, 3) := by decide +kernel
theorem dX10_mergeByGain_19 : decode cX10_mergeByGain 19 = .ok (.aload_n 0, 1) := by decide +kernel
theorem dX10_mergeByGain_20 : decode cX10_mergeByGain 20 = .ok (.invokevirtual 367, 3) := by decide +kernel
theorem dX10_mergeByGain_23 : decode cX10_mergeByGain 23 = .ok (.ifCond .ne 5, 3) := by decide +kernel
theorem dX10_mergeByGain_26 : decode cX10_mergeByGain 26 = .ok (.iload_n 1, 1) := by decide +kernel
theorem dX10_mergeByGain_27 : decode cX10_mergeByGain 27 = .ok (.ireturn, 1) := by decide +kernel
theorem dX10_mergeByGain_28 : decode cX10_mergeByGain 28 = .ok (.iinc 1 1, 3) := by decide +kernel
theorem dX10_mergeByGain_31 : decode cX10_mergeByGain 31 = .ok (.goto (-18), 3) := by decide +kernel
theorem dX10_mergeByGain_34 : decode cX10_mergeByGain 34 = .ok (.bipush 30, 2) := by decide +kernel
theorem dX10_mergeByGain_36 : decode cX10_mergeByGain 36 = .ok (.ireturn, 1) := by decide +kernel
theorem cm_X10_mergeByGain : x_CM yX10_mergeByGain cX10_mergeByGain 2 (Option.some FieldType.int) 0 := ⟨w_3_222, w_1_1, by decide +kernel, by decide +kernel⟩
theorem ci_X10_mergeByGain : x_CI yX10_mergeByGain 12 := ⟨w_3_221, wp_19, (RX10, TX10, 12), rfl, rfl⟩
set_option maxRecDepth 100000 in
set_option maxHeartbeats 4000000 in
theorem bX10_mergeByGain_13 {V : x_J} {ad : Nat → Nat} {Q : Int32 → x_S → x_L → Prop} (X : x_Is V cX10_mergeByGain 2 RX10 (Option.some FieldType.int) ad dsX 5 (x_PI Q)) {K13 : Int32 → x_S → x_L → Prop} (hK13 : ∀ v1 σ τ, K13 v1 σ τ → V σ τ 13 [(0, .ref (ad 0)), (1, .int v1)] []) {v1 : Int32} {σ : x_S} {τ : x_L} (h : wX10_mergeByGain_13 Q K13 v1 σ τ) : V σ τ 13 [(0, .ref (ad 0)), (1, .int v1)] [] := by
  refine x_iload_n X dX10_mergeByGain_13 rfl 1 rfl ?_
  refine x_bipush X dX10_mergeByGain_14 kb_30 ?_
  refine x_icmp_ge X 34 dX10_mergeByGain_16 (by decide) (fun hc => ?_) (fun hc => ?_)
  · have h := h.1 hc
    refine x_bipush X dX10_mergeByGain_34 kb_30 ?_
    exact x_iret X dX10_mergeByGain_36 ⟨_, rfl, h⟩
  · have h := h.2 hc
    refine x_aload_n X dX10_mergeByGain_19 rfl 0 rfl ?_
    refine x_callVi X [] [] dX10_mergeByGain_20 (kX10_mergeBestTwo h) cm_X10_mergeBestTwo ci_X10_mergeBestTwo w_3_232 dsX_0 ⟨by decide, by decide⟩ rfl (Nat.le_of_ble_eq_true rfl) (fun r20 σ20 τ20 h => ?_)
    refine x_if_ne X 28 dX10_mergeByGain_23 (by decide) (fun hc => ?_) (fun hc => ?_)
    · have h := h.1 hc
      refine x_iinc X (k := 1) (lv' := [(1, .int (v1 + 1)), (0, .ref (ad 0))]) dX10_mergeByGain_28 rfl ki_1 (by decide) rfl ?_
      refine x_goto X (tgt := 13) dX10_mergeByGain_31 (by decide) ?_
      refine x_sub X [1, 0] (lv' := [(0, .ref (ad 0)), (1, .int (v1 + 1))]) rfl ?_
      exact hK13 _ _ _ h
    · have h := h.2 hc
      refine x_iload_n X dX10_mergeByGain_26 rfl 1 rfl ?_
      exact x_iret X dX10_mergeByGain_27 ⟨_, rfl, h⟩
set_option maxRecDepth 100000 in
set_option maxHeartbeats 4000000 in
theorem kX10_mergeByGain {ad : Nat → Nat} {σ : x_S} {τ : x_L} {Q : Int32 → x_S → x_L → Prop} (h : wX10_mergeByGain σ τ Q) : x_Met yX10_mergeByGain cX10_mergeByGain 2 (Option.some FieldType.int) 5 ad dsX [.ref (ad 0)] σ τ (x_PI Q) := by
  refine x_met (by decide +kernel) (Nat.le_of_ble_eq_true rfl) (fun V X => ?_)
  have X : x_Is V cX10_mergeByGain 2 RX10 (Option.some FieldType.int) ad dsX 5 (x_PI Q) := X
  show V σ τ 0 [(0, .ref (ad 0))] []
  refine x_aload_n X dX10_mergeByGain_0 rfl 0 rfl ?_
  refine x_getR X (j := 63) dX10_mergeByGain_1 fl_10_79 dsX_0 rfl ?_
  refine x_aload_n X dX10_mergeByGain_4 rfl 0 rfl ?_
  refine x_getR X (j := 33) dX10_mergeByGain_5 fl_10_51 dsX_0 rfl ?_
  refine x_callVv X [.ref (ad 33)] [] dX10_mergeByGain_8 (kX2_keep x_pl33 h) cm_X2_keep ci_X2_keep w_3_223 dsX_63 ⟨by decide, by decide⟩ rfl (Nat.le_of_ble_eq_true rfl) (fun σ8 τ8 h => ?_)
  refine x_iconst X dX10_mergeByGain_11 ki_0 ?_
  refine x_istore_n X (lv' := [(1, .int 0), (0, .ref (ad 0))]) dX10_mergeByGain_12 rfl (by decide) rfl ?_
  refine x_sub X [1, 0] (lv' := [(0, .ref (ad 0)), (1, .int 0)]) rfl ?_
  exact x_l1_G (fun v1 σ τ => V σ τ 13 [(0, .ref (ad 0)), (1, .int v1)] []) (fun K13 hK13 v1 σ τ h => bX10_mergeByGain_13 X hK13 h) h
theorem dX10_mergeAll_0 : decode cX10_mergeAll 0 = .ok (.aload_n 0, 1) := by decide +kernel
theorem dX10_mergeAll_1 : decode cX10_mergeAll 1 = .ok (.invokevirtual 364, 3) := by decide +kernel
theorem dX10_mergeAll_4 : decode cX10_mergeAll 4 = .ok (.ireturn, 1) := by decide +kernel
theorem cm_X10_mergeAll : x_CM yX10_mergeAll cX10_mergeAll 1 (Option.some FieldType.int) 0 := ⟨w_3_218, w_1_1, by decide +kernel, by decide +kernel⟩
theorem ci_X10_mergeAll : x_CI yX10_mergeAll 12 := ⟨w_3_216, w_3_217, (RX10, TX10, 12), rfl, rfl⟩
set_option maxRecDepth 100000 in
set_option maxHeartbeats 4000000 in
theorem kX10_mergeAll {ad : Nat → Nat} {σ : x_S} {τ : x_L} {Q : Int32 → x_S → x_L → Prop} (h : wX10_mergeAll σ τ Q) : x_Met yX10_mergeAll cX10_mergeAll 1 (Option.some FieldType.int) 6 ad dsX [.ref (ad 0)] σ τ (x_PI Q) := by
  refine x_met (by decide +kernel) (Nat.le_of_ble_eq_true rfl) (fun V X => ?_)
  have X : x_Is V cX10_mergeAll 1 RX10 (Option.some FieldType.int) ad dsX 6 (x_PI Q) := X
  show V σ τ 0 [(0, .ref (ad 0))] []
  refine x_aload_n X dX10_mergeAll_0 rfl 0 rfl ?_
  refine x_callVi X [] [] dX10_mergeAll_1 (kX10_mergeByGain h) cm_X10_mergeByGain ci_X10_mergeByGain w_3_219 dsX_0 ⟨by decide, by decide⟩ rfl (Nat.le_of_ble_eq_true rfl) (fun r1 σ1 τ1 h => ?_)
  exact x_iret X dX10_mergeAll_4 ⟨_, rfl, h⟩
theorem dX10_speedUp_0 : decode cX10_speedUp 0 = .ok (.aload_n 0, 1) := by decide +kernel
theorem dX10_speedUp_1 : decode cX10_speedUp 1 = .ok (.getfield 79, 3) := by decide +kernel
theorem dX10_speedUp_4 : decode cX10_speedUp 4 = .ok (.aload_n 0, 1) := by decide +kernel
theorem dX10_speedUp_5 : decode cX10_speedUp 5 = .ok (.getfield 51, 3) := by decide +kernel
theorem dX10_speedUp_8 : decode cX10_speedUp 8 = .ok (.invokevirtual 336, 3) := by decide +kernel
theorem dX10_speedUp_11 : decode cX10_speedUp 11 = .ok (.iconst 0, 1) := by decide +kernel
theorem dX10_speedUp_12 : decode cX10_speedUp 12 = .ok (.istore_n 2, 1) := by decide +kernel
theorem dX10_speedUp_13 : decode cX10_speedUp 13 = .ok (.iload_n 1, 1) := by decide +kernel
theorem dX10_speedUp_14 : decode cX10_speedUp 14 = .ok (.bipush 10, 2) := by decide +kernel
theorem dX10_speedUp_16 : decode cX10_speedUp 16 = .ok (.imul, 1) := by decide +kernel
theorem dX10_speedUp_17 : decode cX10_speedUp 17 = .ok (.istore_n 3, 1) := by decide +kernel
theorem dX10_speedUp_18 : decode cX10_speedUp 18 = .ok (.iload_n 3, 1) := by decide +kernel
theorem dX10_speedUp_19 : decode cX10_speedUp 19 = .ok (.aload_n 0, 1) := by decide +kernel
theorem dX10_speedUp_20 : decode cX10_speedUp 20 = .ok (.getfield 42, 3) := by decide +kernel
theorem dX10_speedUp_23 : decode cX10_speedUp 23 = .ok (.getfield 301, 3) := by decide +kernel
theorem dX10_speedUp_26 : decode cX10_speedUp 26 = .ok (.iload_n 1, 1) := by decide +kernel
theorem dX10_speedUp_27 : decode cX10_speedUp 27 = .ok (.iaload, 1) := by decide +kernel
theorem dX10_speedUp_28 : decode cX10_speedUp 28 = .ok (.if_icmp .ge 75, 3) := by decide +kernel
theorem dX10_speedUp_31 : decode cX10_speedUp 31 = .ok (.aload_n 0, 1) := by decide +kernel
theorem dX10_speedUp_32 : decode cX10_speedUp 32 = .ok (.getfield 51, 3) := by decide +kernel
theorem dX10_speedUp_35 : decode cX10_speedUp 35 = .ok (.iload_n 1, 1) := by decide +kernel
theorem dX10_speedUp_36 : decode cX10_speedUp 36 = .ok (.invokevirtual 186, 3) := by decide +kernel
theorem dX10_speedUp_39 : decode cX10_speedUp 39 = .ok (.ifCond .eq 64, 3) := by decide +kernel
theorem dX10_speedUp_42 : decode cX10_speedUp 42 = .ok (.aload_n 0, 1) := by decide +kernel
theorem dX10_speedUp_43 : decode cX10_speedUp 43 = .ok (.getfield 19, 3) := by decide +kernel
theorem dX10_speedUp_46 : decode cX10_speedUp 46 = .ok (.getfield 200, 3) := by decide +kernel
theorem dX10_speedUp_49 : decode cX10_speedUp 49 = .ok (.aload_n 0, 1) := by decide +kernel
theorem dX10_speedUp_50 : decode cX10_speedUp 50 = .ok (.getfield 19, 3) := by decide +kernel
theorem dX10_speedUp_53 : decode cX10_speedUp 53 = .ok (.getfield 246, 3) := by decide +kernel
theorem dX10_speedUp_56 : decode cX10_speedUp 56 = .ok (.iload_n 3, 1) := by decide +kernel
theorem dX10_speedUp_57 : decode cX10_speedUp 57 = .ok (.iaload, 1) := by decide +kernel
theorem dX10_speedUp_58 : decode cX10_speedUp 58 = .ok (.iaload, 1) := by decide +kernel
theorem dX10_speedUp_59 : decode cX10_speedUp 59 = .ok (.istore 4, 2) := by decide +kernel
theorem dX10_speedUp_61 : decode cX10_speedUp 61 = .ok (.aload_n 0, 1) := by decide +kernel
theorem dX10_speedUp_62 : decode cX10_speedUp 62 = .ok (.getfield 51, 3) := by decide +kernel
theorem dX10_speedUp_65 : decode cX10_speedUp 65 = .ok (.getfield 252, 3) := by decide +kernel
theorem dX10_speedUp_68 : decode cX10_speedUp 68 = .ok (.iload_n 3, 1) := by decide +kernel
theorem dX10_speedUp_69 : decode cX10_speedUp 69 = .ok (.iaload, 1) := by decide +kernel
theorem dX10_speedUp_70 : decode cX10_speedUp 70 = .ok (.iload 4, 2) := by decide +kernel
theorem dX10_speedUp_72 : decode cX10_speedUp 72 = .ok (.if_icmp .eq 25, 3) := by decide +kernel
theorem dX10_speedUp_75 : decode cX10_speedUp 75 = .ok (.aload_n 0, 1) := by decide +kernel
theorem dX10_speedUp_76 : decode cX10_speedUp 76 = .ok (.getfield 51, 3) := by decide +kernel
theorem dX10_speedUp_79 : decode cX10_speedUp 79 = .ok (.getfield 252, 3) := by decide +kernel
theorem dX10_speedUp_82 : decode cX10_speedUp 82 = .ok (.iload_n 3, 1) := by decide +kernel
theorem dX10_speedUp_83 : decode cX10_speedUp 83 = .ok (.iload 4, 2) := by decide +kernel
theorem dX10_speedUp_85 : decode cX10_speedUp 85 = .ok (.iastore, 1) := by decide +kernel
theorem dX10_speedUp_86 : decode cX10_speedUp 86 = .ok (.aload_n 0, 1) := by decide +kernel
theorem dX10_speedUp_87 : decode cX10_speedUp 87 = .ok (.getfield 51, 3) := by decide +kernel
theorem dX10_speedUp_90 : decode cX10_speedUp 90 = .ok (.iload_n 1, 1) := by decide +kernel
theorem dX10_speedUp_91 : decode cX10_speedUp 91 = .ok (.invokevirtual 374, 3) := by decide +kernel
theorem dX10_speedUp_94 : decode cX10_speedUp 94 = .ok (.iinc 2 1, 3) := by decide +kernel
theorem dX10_speedUp_97 : decode cX10_speedUp 97 = .ok (.iinc 3 1, 3) := by decide +kernel
theorem dX10_speedUp_100 : decode cX10_speedUp 100 = .ok (.goto (-82), 3) := by decide +kernel
theorem dX10_speedUp_103 : decode cX10_speedUp 103 = .ok (.aload_n 0, 1) := by decide +kernel
theorem dX10_speedUp_104 : decode cX10_speedUp 104 = .ok (.getfield 51, 3) := by decide +kernel
theorem dX10_speedUp_107 : decode cX10_speedUp 107 = .ok (.invokevirtual 339, 3) := by decide +kernel
theorem dX10_speedUp_110 : decode cX10_speedUp 110 = .ok (.iload_n 2, 1) := by decide +kernel
theorem dX10_speedUp_111 : decode cX10_speedUp 111 = .ok (.ireturn, 1) := by decide +kernel
theorem cm_X10_speedUp : x_CM yX10_speedUp cX10_speedUp 5 (Option.some FieldType.int) 1 := ⟨w_4_131, w_1_1, by decide +kernel, by decide +kernel⟩
theorem ci_X10_speedUp : x_CI yX10_speedUp 12 := ⟨w_4_130, wp_30, (RX10, TX10, 12), rfl, rfl⟩
set_option maxRecDepth 100000 in
set_option maxHeartbeats 4000000 in
theorem bX10_speedUp_97 {V : x_J} {ad : Nat → Nat} {Q : Int32 → x_S → x_L → Prop} (X : x_Is V cX10_speedUp 5 RX10 (Option.some FieldType.int) ad dsX 4 (x_PI Q)) {K18 : Int32 → Int32 → Int32 → x_S → x_L → Prop} (hK18 : ∀ v1 v2 v3 σ τ, K18 v1 v2 v3 σ τ → V σ τ 18 [(0, .ref (ad 0)), (1, .int v1), (2, .int v2), (3, .int v3)] []) {v1 : Int32} {v2 : Int32} {v3 : Int32} {σ : x_S} {τ : x_L} (h : wX10_speedUp_97 K18 Q v1 v2 v3 σ τ) : V σ τ 97 [(0, .ref (ad 0)), (1, .int v1), (2, .int v2), (3, .int v3)] [] := by
  refine x_iinc X (k := 3) (lv' := [(3, .int (v3 + 1)), (0, .ref (ad 0)), (1, .int v1), (2, .int v2)]) dX10_speedUp_97 rfl ki_1 (by decide) rfl ?_
  refine x_goto X (tgt := 18) dX10_speedUp_100 (by decide) ?_
  refine x_sub X [1, 2, 3, 0] (lv' := [(0, .ref (ad 0)), (1, .int v1), (2, .int v2), (3, .int (v3 + 1))]) rfl ?_
  exact hK18 _ _ _ _ _ h
set_option maxRecDepth 100000 in
set_option maxHeartbeats 4000000 in
theorem bX10_speedUp_103 {V : x_J} {ad : Nat → Nat} {Q : Int32 → x_S → x_L → Prop} (X : x_Is V cX10_speedUp 5 RX10 (Option.some FieldType.int) ad dsX 4 (x_PI Q)) {v2 : Int32} {σ : x_S} {τ : x_L} (h : wX10_speedUp_103 Q v2 σ τ) : V σ τ 103 [(0, .ref (ad 0)), (2, .int v2)] [] := by
  refine x_aload_n X dX10_speedUp_103 rfl 0 rfl ?_
  refine x_getR X (j := 33) dX10_speedUp_104 fl_10_51 dsX_0 rfl ?_
  refine x_callVv X [] [] dX10_speedUp_107 (kX6_arrange x_pl33 h) cm_X6_arrange ci_X6_arrange w_4_26 dsX_33 ⟨by decide, by decide⟩ rfl (Nat.le_of_ble_eq_true rfl) (fun σ107 τ107 h => ?_)
  refine x_iload_n X dX10_speedUp_110 rfl 1 rfl ?_
  exact x_iret X dX10_speedUp_111 ⟨_, rfl, h⟩
set_option maxRecDepth 100000 in
set_option maxHeartbeats 4000000 in
theorem bX10_speedUp_18 {V : x_J} {ad : Nat → Nat} {Q : Int32 → x_S → x_L → Prop} (X : x_Is V cX10_speedUp 5 RX10 (Option.some FieldType.int) ad dsX 4 (x_PI Q)) {K18 : Int32 → Int32 → Int32 → x_S → x_L → Prop} (hK18 : ∀ v1 v2 v3 σ τ, K18 v1 v2 v3 σ τ → V σ τ 18 [(0, .ref (ad 0)), (1, .int v1), (2, .int v2), (3, .int v3)] []) {v1 : Int32} {v2 : Int32} {v3 : Int32} {σ : x_S} {τ : x_L} (h : wX10_speedUp_18 Q K18 v1 v2 v3 σ τ) : V σ τ 18 [(0, .ref (ad 0)), (1, .int v1), (2, .int v2), (3, .int v3)] [] := by
  refine x_iload_n X dX10_speedUp_18 rfl 3 rfl ?_
  refine x_aload_n X dX10_speedUp_19 rfl 0 rfl ?_
  refine x_getR X (j := 27) dX10_speedUp_20 fl_10_42 dsX_0 rfl ?_
  refine x_getR X (j := 30) dX10_speedUp_23 fl_10_301 dsX_27 rfl ?_
  refine x_iload_n X dX10_speedUp_26 rfl 1 rfl ?_
  have g27 := h.1
  have h := h.2
  refine x_iald X dX10_speedUp_27 dsX_30 g27 ?_
  refine x_icmp_ge X 103 dX10_speedUp_28 (by decide) (fun hc => ?_) (fun hc => ?_)
  · have h := h.1 hc
    refine x_sub X [0, 2] (lv' := [(0, .ref (ad 0)), (2, .int v2)]) rfl ?_
    exact bX10_speedUp_103 X h
  · have h := h.2 hc
    refine x_aload_n X dX10_speedUp_31 rfl 0 rfl ?_
    refine x_getR X (j := 33) dX10_speedUp_32 fl_10_51 dsX_0 rfl ?_
    refine x_iload_n X dX10_speedUp_35 rfl 1 rfl ?_
    refine x_callVi X [.int v1] [] dX10_speedUp_36 (kX6_isLate x_pl33 h) cm_X6_isLate ci_X6_isLate w_3_186 dsX_33 ⟨by decide, by decide⟩ rfl (Nat.le_of_ble_eq_true rfl) (fun r36 σ36 τ36 h => ?_)
    refine x_if_eq X 103 dX10_speedUp_39 (by decide) (fun hc => ?_) (fun hc => ?_)
    · have h := h.1 hc
      refine x_sub X [0, 2] (lv' := [(0, .ref (ad 0)), (2, .int v2)]) rfl ?_
      exact bX10_speedUp_103 X h
    · have h := h.2 hc
      refine x_aload_n X dX10_speedUp_42 rfl 0 rfl ?_
      refine x_getR X (j := 3) dX10_speedUp_43 fl_10_19 dsX_0 rfl ?_
      refine x_getR X (j := 7) dX10_speedUp_46 fl_10_200 dsX_3 rfl ?_
      refine x_aload_n X dX10_speedUp_49 rfl 0 rfl ?_
      refine x_getR X (j := 3) dX10_speedUp_50 fl_10_19 dsX_0 rfl ?_
      refine x_getR X (j := 12) dX10_speedUp_53 fl_10_246 dsX_3 rfl ?_
      refine x_iload_n X dX10_speedUp_56 rfl 3 rfl ?_
      have g57 := h.1
      have h := h.2
      refine x_iald X dX10_speedUp_57 dsX_12 g57 ?_
      have g58 := h.1
      have h := h.2
      refine x_iald X dX10_speedUp_58 dsX_7 g58 ?_
      refine x_istore X (lv' := [(4, .int (σ36 7 (σ36 12 v3.toNatClampNeg).toNatClampNeg)), (0, .ref (ad 0)), (1, .int v1), (2, .int v2), (3, .int v3)]) dX10_speedUp_59 (by decide) rfl ?_
      refine x_aload_n X dX10_speedUp_61 rfl 1 rfl ?_
      refine x_getR X (j := 33) dX10_speedUp_62 fl_10_51 dsX_0 rfl ?_
      refine x_getR X (j := 36) dX10_speedUp_65 fl_10_252 dsX_33 rfl ?_
      refine x_iload_n X dX10_speedUp_68 rfl 4 rfl ?_
      refine x_iald X dX10_speedUp_69 dsX_36 g57 ?_
      refine x_iload X dX10_speedUp_70 0 rfl ?_
      refine x_icmp_eq X 97 dX10_speedUp_72 (by decide) (fun hc => ?_) (fun hc => ?_)
      · have h := h.1 hc
        refine x_sub X [1, 2, 3, 4] (lv' := [(0, .ref (ad 0)), (1, .int v1), (2, .int v2), (3, .int v3)]) rfl ?_
        exact bX10_speedUp_97 X hK18 h
      · have h := h.2 hc
        refine x_aload_n X dX10_speedUp_75 rfl 1 rfl ?_
        refine x_getR X (j := 33) dX10_speedUp_76 fl_10_51 dsX_0 rfl ?_
        refine x_getR X (j := 36) dX10_speedUp_79 fl_10_252 dsX_33 rfl ?_
        refine x_iload_n X dX10_speedUp_82 rfl 4 rfl ?_
        refine x_iload X dX10_speedUp_83 0 rfl ?_
        refine x_iast X dX10_speedUp_85 dsX_36 g57 ?_
        refine x_aload_n X dX10_speedUp_86 rfl 1 rfl ?_
        refine x_getR X (j := 33) dX10_speedUp_87 fl_10_51 dsX_0 rfl ?_
        refine x_iload_n X dX10_speedUp_90 rfl 2 rfl ?_
        refine x_callVv X [.int v1] [] dX10_speedUp_91 (kX6_setTimes x_pl33 h) cm_X6_setTimes ci_X6_setTimes w_4_132 dsX_33 ⟨by decide, by decide⟩ rfl (Nat.le_of_ble_eq_true rfl) (fun σ91 τ91 h => ?_)
        refine x_iinc X (k := 3) (lv' := [(2, .int (v2 + 1)), (4, .int (σ36 7 (σ36 12 v3.toNatClampNeg).toNatClampNeg)), (0, .ref (ad 0)), (1, .int v1), (3, .int v3)]) dX10_speedUp_94 rfl ki_1 (by decide) rfl ?_
        refine x_sub X [2, 3, 0, 4] (lv' := [(0, .ref (ad 0)), (1, .int v1), (2, .int (v2 + 1)), (3, .int v3)]) rfl ?_
        exact bX10_speedUp_97 X hK18 h
set_option maxRecDepth 100000 in
set_option maxHeartbeats 4000000 in
theorem kX10_speedUp {ad : Nat → Nat} {a1 : Int32} {σ : x_S} {τ : x_L} {Q : Int32 → x_S → x_L → Prop} (h : wX10_speedUp a1 σ τ Q) : x_Met yX10_speedUp cX10_speedUp 5 (Option.some FieldType.int) 4 ad dsX [.ref (ad 0), .int a1] σ τ (x_PI Q) := by
  refine x_met (by decide +kernel) (Nat.le_of_ble_eq_true rfl) (fun V X => ?_)
  have X : x_Is V cX10_speedUp 5 RX10 (Option.some FieldType.int) ad dsX 4 (x_PI Q) := X
  show V σ τ 0 [(0, .ref (ad 0)), (1, .int a1)] []
  refine x_aload_n X dX10_speedUp_0 rfl 0 rfl ?_
  refine x_getR X (j := 63) dX10_speedUp_1 fl_10_79 dsX_0 rfl ?_
  refine x_aload_n X dX10_speedUp_4 rfl 0 rfl ?_
  refine x_getR X (j := 33) dX10_speedUp_5 fl_10_51 dsX_0 rfl ?_
  refine x_callVv X [.ref (ad 33)] [] dX10_speedUp_8 (kX2_keep x_pl33 h) cm_X2_keep ci_X2_keep w_3_223 dsX_63 ⟨by decide, by decide⟩ rfl (Nat.le_of_ble_eq_true rfl) (fun σ8 τ8 h => ?_)
  refine x_iconst X dX10_speedUp_11 ki_0 ?_
  refine x_istore_n X (lv' := [(2, .int 0), (0, .ref (ad 0)), (1, .int a1)]) dX10_speedUp_12 rfl (by decide) rfl ?_
  refine x_iload_n X dX10_speedUp_13 rfl 2 rfl ?_
  refine x_bipush X dX10_speedUp_14 kb_10 ?_
  refine x_imul X dX10_speedUp_16 ?_
  refine x_istore_n X (lv' := [(3, .int (a1 * 10)), (2, .int 0), (0, .ref (ad 0)), (1, .int a1)]) dX10_speedUp_17 rfl (by decide) rfl ?_
  refine x_sub X [2, 3, 1, 0] (lv' := [(0, .ref (ad 0)), (1, .int a1), (2, .int 0), (3, .int (a1 * 10))]) rfl ?_
  exact x_l3_G (fun v1 v2 v3 σ τ => V σ τ 18 [(0, .ref (ad 0)), (1, .int v1), (2, .int v2), (3, .int v3)] []) (fun K18 hK18 v1 v2 v3 σ τ h => bX10_speedUp_18 X hK18 h) h
theorem dX10_hurry_0 : decode cX10_hurry 0 = .ok (.aload_n 0, 1) := by decide +kernel
theorem dX10_hurry_1 : decode cX10_hurry 1 = .ok (.iload_n 1, 1) := by decide +kernel
theorem dX10_hurry_2 : decode cX10_hurry 2 = .ok (.invokevirtual 209, 3) := by decide +kernel
theorem dX10_hurry_5 : decode cX10_hurry 5 = .ok (.aload_n 0, 1) := by decide +kernel
theorem dX10_hurry_6 : decode cX10_hurry 6 = .ok (.iload_n 1, 1) := by decide +kernel
theorem dX10_hurry_7 : decode cX10_hurry 7 = .ok (.invokevirtual 371, 3) := by decide +kernel
theorem dX10_hurry_10 : decode cX10_hurry 10 = .ok (.ireturn, 1) := by decide +kernel
theorem cm_X10_hurry : x_CM yX10_hurry cX10_hurry 2 (Option.some FieldType.int) 1 := ⟨w_6_61, w_1_1, by decide +kernel, by decide +kernel⟩
theorem ci_X10_hurry : x_CI yX10_hurry 12 := ⟨w_6_59, w_6_60, (RX10, TX10, 12), rfl, rfl⟩
set_option maxRecDepth 100000 in
set_option maxHeartbeats 4000000 in
theorem kX10_hurry {ad : Nat → Nat} {a1 : Int32} {σ : x_S} {τ : x_L} {Q : Int32 → x_S → x_L → Prop} {QX : x_PE} (h : wX10_hurry a1 σ τ Q QX) : x_MetX yX10_hurry cX10_hurry 2 (Option.some FieldType.int) 7 4 ad dsX [.ref (ad 0), .int a1] σ τ (x_PI Q) QX := by
  refine x_metX (by decide +kernel) (Nat.le_of_ble_eq_true rfl) (fun V Y => ?_)
  have Y : x_IsX V cX10_hurry 2 RX10 (Option.some FieldType.int) ad dsX 7 (x_PI Q) QX 0 4 := Y
  have X := x_isX Y
  show V σ τ 0 [(0, .ref (ad 0)), (1, .int a1)] []
  refine x_aload_n X dX10_hurry_0 rfl 0 rfl ?_
  refine x_iload_n X dX10_hurry_1 rfl 1 rfl ?_
  refine x_callVXv Y [.int a1] [] dX10_hurry_2 (kX10_checkTruck h) cm_X10_checkTruck ci_X10_checkTruck w_5_57 dsX_0 ⟨by decide, by decide⟩ (by decide) rfl (Nat.le_of_ble_eq_true rfl) (fun V σ2 τ2 Y h => ?_)
  have X := x_isX Y
  refine x_aload_n X dX10_hurry_5 rfl 0 rfl ?_
  refine x_iload_n X dX10_hurry_6 rfl 1 rfl ?_
  refine x_callVi X [.int a1] [] dX10_hurry_7 (kX10_speedUp h) cm_X10_speedUp ci_X10_speedUp w_4_128 dsX_0 ⟨by decide, by decide⟩ rfl (Nat.le_of_ble_eq_true rfl) (fun r7 σ7 τ7 h => ?_)
  exact x_iret X dX10_hurry_10 ⟨_, rfl, h⟩
theorem dX10_slowDown_0 : decode cX10_slowDown 0 = .ok (.aload_n 0, 1) := by decide +kernel
theorem dX10_slowDown_1 : decode cX10_slowDown 1 = .ok (.getfield 79, 3) := by decide +kernel
theorem dX10_slowDown_4 : decode cX10_slowDown 4 = .ok (.aload_n 0, 1) := by decide +kernel
theorem dX10_slowDown_5 : decode cX10_slowDown 5 = .ok (.getfield 51, 3) := by decide +kernel
theorem dX10_slowDown_8 : decode cX10_slowDown 8 = .ok (.invokevirtual 336, 3) := by decide +kernel
theorem dX10_slowDown_11 : decode cX10_slowDown 11 = .ok (.iconst 0, 1) := by decide +kernel
theorem dX10_slowDown_12 : decode cX10_slowDown 12 = .ok (.istore_n 2, 1) := by decide +kernel
theorem dX10_slowDown_13 : decode cX10_slowDown 13 = .ok (.aload_n 0, 1) := by decide +kernel
theorem dX10_slowDown_14 : decode cX10_slowDown 14 = .ok (.getfield 42, 3) := by decide +kernel
theorem dX10_slowDown_17 : decode cX10_slowDown 17 = .ok (.getfield 301, 3) := by decide +kernel
theorem dX10_slowDown_20 : decode cX10_slowDown 20 = .ok (.iload_n 1, 1) := by decide +kernel
theorem dX10_slowDown_21 : decode cX10_slowDown 21 = .ok (.iaload, 1) := by decide +kernel
theorem dX10_slowDown_22 : decode cX10_slowDown 22 = .ok (.iconst 1, 1) := by decide +kernel
theorem dX10_slowDown_23 : decode cX10_slowDown 23 = .ok (.isub, 1) := by decide +kernel
theorem dX10_slowDown_24 : decode cX10_slowDown 24 = .ok (.istore_n 3, 1) := by decide +kernel
theorem dX10_slowDown_25 : decode cX10_slowDown 25 = .ok (.iload_n 3, 1) := by decide +kernel
theorem dX10_slowDown_26 : decode cX10_slowDown 26 = .ok (.iload_n 1, 1) := by decide +kernel
theorem dX10_slowDown_27 : decode cX10_slowDown 27 = .ok (.bipush 10, 2) := by decide +kernel
theorem dX10_slowDown_29 : decode cX10_slowDown 29 = .ok (.imul, 1) := by decide +kernel
theorem dX10_slowDown_30 : decode cX10_slowDown 30 = .ok (.if_icmp .lt 56, 3) := by decide +kernel
theorem dX10_slowDown_33 : decode cX10_slowDown 33 = .ok (.aload_n 0, 1) := by decide +kernel
theorem dX10_slowDown_34 : decode cX10_slowDown 34 = .ok (.getfield 51, 3) := by decide +kernel
theorem dX10_slowDown_37 : decode cX10_slowDown 37 = .ok (.iload_n 1, 1) := by decide +kernel
theorem dX10_slowDown_38 : decode cX10_slowDown 38 = .ok (.iload_n 3, 1) := by decide +kernel
theorem dX10_slowDown_39 : decode cX10_slowDown 39 = .ok (.invokevirtual 380, 3) := by decide +kernel
theorem dX10_slowDown_42 : decode cX10_slowDown 42 = .ok (.istore 4, 2) := by decide +kernel
theorem dX10_slowDown_44 : decode cX10_slowDown 44 = .ok (.aload_n 0, 1) := by decide +kernel
theorem dX10_slowDown_45 : decode cX10_slowDown 45 = .ok (.getfield 51, 3) := by decide +kernel
theorem dX10_slowDown_48 : decode cX10_slowDown 48 = .ok (.getfield 252, 3) := by decide +kernel
theorem dX10_slowDown_51 : decode cX10_slowDown 51 = .ok (.iload_n 3, 1) := by decide +kernel
theorem dX10_slowDown_52 : decode cX10_slowDown 52 = .ok (.iaload, 1) := by decide +kernel
theorem dX10_slowDown_53 : decode cX10_slowDown 53 = .ok (.iload 4, 2) := by decide +kernel
theorem dX10_slowDown_55 : decode cX10_slowDown 55 = .ok (.if_icmp .eq 25, 3) := by decide +kernel
theorem dX10_slowDown_58 : decode cX10_slowDown 58 = .ok (.aload_n 0, 1) := by decide +kernel
theorem dX10_slowDown_59 : decode cX10_slowDown 59 = .ok (.getfield 51, 3) := by decide +kernel
theorem dX10_slowDown_62 : decode cX10_slowDown 62 = .ok (.getfield 252, 3) := by decide +kernel
theorem dX10_slowDown_65 : decode cX10_slowDown 65 = .ok (.iload_n 3, 1) := by decide +kernel
theorem dX10_slowDown_66 : decode cX10_slowDown 66 = .ok (.iload 4, 2) := by decide +kernel
theorem dX10_slowDown_68 : decode cX10_slowDown 68 = .ok (.iastore, 1) := by decide +kernel
theorem dX10_slowDown_69 : decode cX10_slowDown 69 = .ok (.aload_n 0, 1) := by decide +kernel
theorem dX10_slowDown_70 : decode cX10_slowDown 70 = .ok (.getfield 51, 3) := by decide +kernel
theorem dX10_slowDown_73 : decode cX10_slowDown 73 = .ok (.iload_n 1, 1) := by decide +kernel
theorem dX10_slowDown_74 : decode cX10_slowDown 74 = .ok (.invokevirtual 374, 3) := by decide +kernel
theorem dX10_slowDown_77 : decode cX10_slowDown 77 = .ok (.iinc 2 1, 3) := by decide +kernel
theorem dX10_slowDown_80 : decode cX10_slowDown 80 = .ok (.iinc 3 (-1), 3) := by decide +kernel
theorem dX10_slowDown_83 : decode cX10_slowDown 83 = .ok (.goto (-58), 3) := by decide +kernel
theorem dX10_slowDown_86 : decode cX10_slowDown 86 = .ok (.aload_n 0, 1) := by decide +kernel
theorem dX10_slowDown_87 : decode cX10_slowDown 87 = .ok (.getfield 51, 3) := by decide +kernel
theorem dX10_slowDown_90 : decode cX10_slowDown 90 = .ok (.invokevirtual 339, 3) := by decide +kernel
theorem dX10_slowDown_93 : decode cX10_slowDown 93 = .ok (.iload_n 2, 1) := by decide +kernel
theorem dX10_slowDown_94 : decode cX10_slowDown 94 = .ok (.ireturn, 1) := by decide +kernel
theorem cm_X10_slowDown : x_CM yX10_slowDown cX10_slowDown 5 (Option.some FieldType.int) 1 := ⟨w_4_136, w_1_1, by decide +kernel, by decide +kernel⟩
theorem ci_X10_slowDown : x_CI yX10_slowDown 12 := ⟨w_4_135, wp_31, (RX10, TX10, 12), rfl, rfl⟩
set_option maxRecDepth 100000 in
set_option maxHeartbeats 4000000 in
theorem bX10_slowDown_80 {V : x_J} {ad : Nat → Nat} {Q : Int32 → x_S → x_L → Prop} (X : x_Is V cX10_slowDown 5 RX10 (Option.some FieldType.int) ad dsX 4 (x_PI Q)) {K25 : Int32 → Int32 → Int32 → x_S → x_L → Prop} (hK25 : ∀ v1 v2 v3 σ τ, K25 v1 v2 v3 σ τ → V σ τ 25 [(0, .ref (ad 0)), (1, .int v1), (2, .int v2), (3, .int v3)] []) {v1 : Int32} {v2 : Int32} {v3 : Int32} {σ : x_S} {τ : x_L} (h : wX10_slowDown_80 K25 Q v1 v2 v3 σ τ) : V σ τ 80 [(0, .ref (ad 0)), (1, .int v1), (2, .int v2), (3, .int v3)] [] := by
  refine x_iinc X (k := 3) (lv' := [(3, .int (v3 + (-1))), (0, .ref (ad 0)), (1, .int v1), (2, .int v2)]) dX10_slowDown_80 rfl ki_m1 (by decide) rfl ?_
  refine x_goto X (tgt := 25) dX10_slowDown_83 (by decide) ?_
  refine x_sub X [1, 2, 3, 0] (lv' := [(0, .ref (ad 0)), (1, .int v1), (2, .int v2), (3, .int (v3 + (-1)))]) rfl ?_
  exact hK25 _ _ _ _ _ h
set_option maxRecDepth 100000 in
set_option maxHeartbeats 4000000 in
theorem bX10_slowDown_25 {V : x_J} {ad : Nat → Nat} {Q : Int32 → x_S → x_L → Prop} (X : x_Is V cX10_slowDown 5 RX10 (Option.some FieldType.int) ad dsX 4 (x_PI Q)) {K25 : Int32 → Int32 → Int32 → x_S → x_L → Prop} (hK25 : ∀ v1 v2 v3 σ τ, K25 v1 v2 v3 σ τ → V σ τ 25 [(0, .ref (ad 0)), (1, .int v1), (2, .int v2), (3, .int v3)] []) {v1 : Int32} {v2 : Int32} {v3 : Int32} {σ : x_S} {τ : x_L} (h : wX10_slowDown_25 Q K25 v1 v2 v3 σ τ) : V σ τ 25 [(0, .ref (ad 0)), (1, .int v1), (2, .int v2), (3, .int v3)] [] := by
  refine x_iload_n X dX10_slowDown_25 rfl 3 rfl ?_
  refine x_iload_n X dX10_slowDown_26 rfl 1 rfl ?_
  refine x_bipush X dX10_slowDown_27 kb_10 ?_
  refine x_imul X dX10_slowDown_29 ?_
  refine x_icmp_lt X 86 dX10_slowDown_30 (by decide) (fun hc => ?_) (fun hc => ?_)
  · have h := h.1 hc
    refine x_aload_n X dX10_slowDown_86 rfl 0 rfl ?_
    refine x_getR X (j := 33) dX10_slowDown_87 fl_10_51 dsX_0 rfl ?_
    refine x_callVv X [] [] dX10_slowDown_90 (kX6_arrange x_pl33 h) cm_X6_arrange ci_X6_arrange w_4_26 dsX_33 ⟨by decide, by decide⟩ rfl (Nat.le_of_ble_eq_true rfl) (fun σ90 τ90 h => ?_)
    refine x_iload_n X dX10_slowDown_93 rfl 2 rfl ?_
    exact x_iret X dX10_slowDown_94 ⟨_, rfl, h⟩
  · have h := h.2 hc
    refine x_aload_n X dX10_slowDown_33 rfl 0 rfl ?_
    refine x_getR X (j := 33) dX10_slowDown_34 fl_10_51 dsX_0 rfl ?_
    refine x_iload_n X dX10_slowDown_37 rfl 1 rfl ?_
    refine x_iload_n X dX10_slowDown_38 rfl 3 rfl ?_
    refine x_callVi X [.int v1, .int v3] [] dX10_slowDown_39 (kX6_leastTimelySpeed x_pl33 h) cm_X6_leastTimelySpeed ci_X6_leastTimelySpeed w_4_137 dsX_33 ⟨by decide, by decide⟩ rfl (Nat.le_of_ble_eq_true rfl) (fun r39 σ39 τ39 h => ?_)
    refine x_istore X (lv' := [(4, .int r39), (0, .ref (ad 0)), (1, .int v1), (2, .int v2), (3, .int v3)]) dX10_slowDown_42 (by decide) rfl ?_
    refine x_aload_n X dX10_slowDown_44 rfl 1 rfl ?_
    refine x_getR X (j := 33) dX10_slowDown_45 fl_10_51 dsX_0 rfl ?_
    refine x_getR X (j := 36) dX10_slowDown_48 fl_10_252 dsX_33 rfl ?_
    refine x_iload_n X dX10_slowDown_51 rfl 4 rfl ?_
    have g52 := h.1
    have h := h.2
    refine x_iald X dX10_slowDown_52 dsX_36 g52 ?_
    refine x_iload X dX10_slowDown_53 0 rfl ?_
    refine x_icmp_eq X 80 dX10_slowDown_55 (by decide) (fun hc => ?_) (fun hc => ?_)
    · have h := h.1 hc
      refine x_sub X [1, 2, 3, 4] (lv' := [(0, .ref (ad 0)), (1, .int v1), (2, .int v2), (3, .int v3)]) rfl ?_
      exact bX10_slowDown_80 X hK25 h
    · have h := h.2 hc
      refine x_aload_n X dX10_slowDown_58 rfl 1 rfl ?_
      refine x_getR X (j := 33) dX10_slowDown_59 fl_10_51 dsX_0 rfl ?_
      refine x_getR X (j := 36) dX10_slowDown_62 fl_10_252 dsX_33 rfl ?_
      refine x_iload_n X dX10_slowDown_65 rfl 4 rfl ?_
      refine x_iload X dX10_slowDown_66 0 rfl ?_
      refine x_iast X dX10_slowDown_68 dsX_36 g52 ?_
      refine x_aload_n X dX10_slowDown_69 rfl 1 rfl ?_
      refine x_getR X (j := 33) dX10_slowDown_70 fl_10_51 dsX_0 rfl ?_
      refine x_iload_n X dX10_slowDown_73 rfl 2 rfl ?_
      refine x_callVv X [.int v1] [] dX10_slowDown_74 (kX6_setTimes x_pl33 h) cm_X6_setTimes ci_X6_setTimes w_4_132 dsX_33 ⟨by decide, by decide⟩ rfl (Nat.le_of_ble_eq_true rfl) (fun σ74 τ74 h => ?_)
      refine x_iinc X (k := 3) (lv' := [(2, .int (v2 + 1)), (4, .int r39), (0, .ref (ad 0)), (1, .int v1), (3, .int v3)]) dX10_slowDown_77 rfl ki_1 (by decide) rfl ?_
      refine x_sub X [2, 3, 0, 4] (lv' := [(0, .ref (ad 0)), (1, .int v1), (2, .int (v2 + 1)), (3, .int v3)]) rfl ?_
      exact bX10_slowDown_80 X hK25 h
set_option maxRecDepth 100000 in
set_option maxHeartbeats 4000000 in
theorem kX10_slowDown {ad : Nat → Nat} {a1 : Int32} {σ : x_S} {τ : x_L} {Q : Int32 → x_S → x_L → Prop} (h : wX10_slowDown a1 σ τ Q) : x_Met yX10_slowDown cX10_slowDown 5 (Option.some FieldType.int) 4 ad dsX [.ref (ad 0), .int a1] σ τ (x_PI Q) := by
  refine x_met (by decide +kernel) (Nat.le_of_ble_eq_true rfl) (fun V X => ?_)
  have X : x_Is V cX10_slowDown 5 RX10 (Option.some FieldType.int) ad dsX 4 (x_PI Q) := X
  show V σ τ 0 [(0, .ref (ad 0)), (1, .int a1)] []
  refine x_aload_n X dX10_slowDown_0 rfl 0 rfl ?_
  refine x_getR X (j := 63) dX10_slowDown_1 fl_10_79 dsX_0 rfl ?_
  refine x_aload_n X dX10_slowDown_4 rfl 0 rfl ?_
  refine x_getR X (j := 33) dX10_slowDown_5 fl_10_51 dsX_0 rfl ?_
  refine x_callVv X [.ref (ad 33)] [] dX10_slowDown_8 (kX2_keep x_pl33 h) cm_X2_keep ci_X2_keep w_3_223 dsX_63 ⟨by decide, by decide⟩ rfl (Nat.le_of_ble_eq_true rfl) (fun σ8 τ8 h => ?_)
  refine x_iconst X dX10_slowDown_11 ki_0 ?_
  refine x_istore_n X (lv' := [(2, .int 0), (0, .ref (ad 0)), (1, .int a1)]) dX10_slowDown_12 rfl (by decide) rfl ?_
  refine x_aload_n X dX10_slowDown_13 rfl 1 rfl ?_
  refine x_getR X (j := 27) dX10_slowDown_14 fl_10_42 dsX_0 rfl ?_
  refine x_getR X (j := 30) dX10_slowDown_17 fl_10_301 dsX_27 rfl ?_
  refine x_iload_n X dX10_slowDown_20 rfl 2 rfl ?_
  have g21 := h.1
  have h := h.2
  refine x_iald X dX10_slowDown_21 dsX_30 g21 ?_
  refine x_iconst X dX10_slowDown_22 ki_1 ?_
  refine x_isub X dX10_slowDown_23 ?_
  refine x_istore_n X (lv' := [(3, .int ((σ8 30 a1.toNatClampNeg) - 1)), (2, .int 0), (0, .ref (ad 0)), (1, .int a1)]) dX10_slowDown_24 rfl (by decide) rfl ?_
  refine x_sub X [2, 3, 1, 0] (lv' := [(0, .ref (ad 0)), (1, .int a1), (2, .int 0), (3, .int ((σ8 30 a1.toNatClampNeg) - 1))]) rfl ?_
  exact x_l3_G (fun v1 v2 v3 σ τ => V σ τ 25 [(0, .ref (ad 0)), (1, .int v1), (2, .int v2), (3, .int v3)] []) (fun K25 hK25 v1 v2 v3 σ τ h => bX10_slowDown_25 X hK25 h) h
theorem dX10_relax_0 : decode cX10_relax 0 = .ok (.aload_n 0, 1) := by decide +kernel
theorem dX10_relax_1 : decode cX10_relax 1 = .ok (.iload_n 1, 1) := by decide +kernel
theorem dX10_relax_2 : decode cX10_relax 2 = .ok (.invokevirtual 209, 3) := by decide +kernel
theorem dX10_relax_5 : decode cX10_relax 5 = .ok (.aload_n 0, 1) := by decide +kernel
theorem dX10_relax_6 : decode cX10_relax 6 = .ok (.iload_n 1, 1) := by decide +kernel
theorem dX10_relax_7 : decode cX10_relax 7 = .ok (.invokevirtual 377, 3) := by decide +kernel
theorem dX10_relax_10 : decode cX10_relax 10 = .ok (.ireturn, 1) := by decide +kernel
theorem cm_X10_relax : x_CM yX10_relax cX10_relax 2 (Option.some FieldType.int) 1 := ⟨w_6_68, w_1_1, by decide +kernel, by decide +kernel⟩
theorem ci_X10_relax : x_CI yX10_relax 12 := ⟨w_6_66, w_6_67, (RX10, TX10, 12), rfl, rfl⟩
set_option maxRecDepth 100000 in
set_option maxHeartbeats 4000000 in
theorem kX10_relax {ad : Nat → Nat} {a1 : Int32} {σ : x_S} {τ : x_L} {Q : Int32 → x_S → x_L → Prop} {QX : x_PE} (h : wX10_relax a1 σ τ Q QX) : x_MetX yX10_relax cX10_relax 2 (Option.some FieldType.int) 7 4 ad dsX [.ref (ad 0), .int a1] σ τ (x_PI Q) QX := by
  refine x_metX (by decide +kernel) (Nat.le_of_ble_eq_true rfl) (fun V Y => ?_)
  have Y : x_IsX V cX10_relax 2 RX10 (Option.some FieldType.int) ad dsX 7 (x_PI Q) QX 0 4 := Y
  have X := x_isX Y
  show V σ τ 0 [(0, .ref (ad 0)), (1, .int a1)] []
  refine x_aload_n X dX10_relax_0 rfl 0 rfl ?_
  refine x_iload_n X dX10_relax_1 rfl 1 rfl ?_
  refine x_callVXv Y [.int a1] [] dX10_relax_2 (kX10_checkTruck h) cm_X10_checkTruck ci_X10_checkTruck w_5_57 dsX_0 ⟨by decide, by decide⟩ (by decide) rfl (Nat.le_of_ble_eq_true rfl) (fun V σ2 τ2 Y h => ?_)
  have X := x_isX Y
  refine x_aload_n X dX10_relax_5 rfl 0 rfl ?_
  refine x_iload_n X dX10_relax_6 rfl 1 rfl ?_
  refine x_callVi X [.int a1] [] dX10_relax_7 (kX10_slowDown h) cm_X10_slowDown ci_X10_slowDown w_4_133 dsX_0 ⟨by decide, by decide⟩ rfl (Nat.le_of_ble_eq_true rfl) (fun r7 σ7 τ7 h => ?_)
  exact x_iret X dX10_relax_10 ⟨_, rfl, h⟩
theorem dX10_onRoad_0 : decode cX10_onRoad 0 = .ok (.aload_n 0, 1) := by decide +kernel
theorem dX10_onRoad_1 : decode cX10_onRoad 1 = .ok (.iload_n 1, 1) := by decide +kernel
theorem dX10_onRoad_2 : decode cX10_onRoad 2 = .ok (.invokevirtual 189, 3) := by decide +kernel
theorem dX10_onRoad_5 : decode cX10_onRoad 5 = .ok (.iconst 0, 1) := by decide +kernel
theorem dX10_onRoad_6 : decode cX10_onRoad 6 = .ok (.istore_n 3, 1) := by decide +kernel
theorem dX10_onRoad_7 : decode cX10_onRoad 7 = .ok (.aload_n 0, 1) := by decide +kernel
theorem dX10_onRoad_8 : decode cX10_onRoad 8 = .ok (.getfield 42, 3) := by decide +kernel
theorem dX10_onRoad_11 : decode cX10_onRoad 11 = .ok (.getfield 383, 3) := by decide +kernel
theorem dX10_onRoad_14 : decode cX10_onRoad 14 = .ok (.iload_n 1, 1) := by decide +kernel
theorem dX10_onRoad_15 : decode cX10_onRoad 15 = .ok (.iaload, 1) := by decide +kernel
theorem dX10_onRoad_16 : decode cX10_onRoad 16 = .ok (.istore 4, 2) := by decide +kernel
theorem dX10_onRoad_18 : decode cX10_onRoad 18 = .ok (.iload 4, 2) := by decide +kernel
theorem dX10_onRoad_20 : decode cX10_onRoad 20 = .ok (.aload_n 0, 1) := by decide +kernel
theorem dX10_onRoad_21 : decode cX10_onRoad 21 = .ok (.getfield 42, 3) := by decide +kernel
theorem dX10_onRoad_24 : decode cX10_onRoad 24 = .ok (.getfield 383, 3) := by decide +kernel
theorem dX10_onRoad_27 : decode cX10_onRoad 27 = .ok (.iload_n 1, 1) := by decide +kernel
theorem dX10_onRoad_28 : decode cX10_onRoad 28 = .ok (.iconst 1, 1) := by decide +kernel
theorem dX10_onRoad_29 : decode cX10_onRoad 29 = .ok (.iadd, 1) := by decide +kernel
theorem dX10_onRoad_30 : decode cX10_onRoad 30 = .ok (.iaload, 1) := by decide +kernel
theorem dX10_onRoad_31 : decode cX10_onRoad 31 = .ok (.if_icmp .ge 59, 3) := by decide +kernel
theorem dX10_onRoad_34 : decode cX10_onRoad 34 = .ok (.aload_n 0, 1) := by decide +kernel
theorem dX10_onRoad_35 : decode cX10_onRoad 35 = .ok (.getfield 51, 3) := by decide +kernel
theorem dX10_onRoad_38 : decode cX10_onRoad 38 = .ok (.getfield 171, 3) := by decide +kernel
theorem dX10_onRoad_41 : decode cX10_onRoad 41 = .ok (.iload 4, 2) := by decide +kernel
theorem dX10_onRoad_43 : decode cX10_onRoad 43 = .ok (.iaload, 1) := by decide +kernel
theorem dX10_onRoad_44 : decode cX10_onRoad 44 = .ok (.istore 5, 2) := by decide +kernel
theorem dX10_onRoad_46 : decode cX10_onRoad 46 = .ok (.aload_n 0, 1) := by decide +kernel
theorem dX10_onRoad_47 : decode cX10_onRoad 47 = .ok (.getfield 51, 3) := by decide +kernel
theorem dX10_onRoad_50 : decode cX10_onRoad 50 = .ok (.getfield 258, 3) := by decide +kernel
theorem dX10_onRoad_53 : decode cX10_onRoad 53 = .ok (.iload 5, 2) := by decide +kernel
theorem dX10_onRoad_55 : decode cX10_onRoad 55 = .ok (.iaload, 1) := by decide +kernel
theorem dX10_onRoad_56 : decode cX10_onRoad 56 = .ok (.iload_n 2, 1) := by decide +kernel
theorem dX10_onRoad_57 : decode cX10_onRoad 57 = .ok (.if_icmp .gt 27, 3) := by decide +kernel
theorem dX10_onRoad_60 : decode cX10_onRoad 60 = .ok (.aload_n 0, 1) := by decide +kernel
theorem dX10_onRoad_61 : decode cX10_onRoad 61 = .ok (.getfield 51, 3) := by decide +kernel
theorem dX10_onRoad_64 : decode cX10_onRoad 64 = .ok (.getfield 261, 3) := by decide +kernel
theorem dX10_onRoad_67 : decode cX10_onRoad 67 = .ok (.iload 5, 2) := by decide +kernel
theorem dX10_onRoad_69 : decode cX10_onRoad 69 = .ok (.iaload, 1) := by decide +kernel
theorem dX10_onRoad_70 : decode cX10_onRoad 70 = .ok (.iload_n 2, 1) := by decide +kernel
theorem dX10_onRoad_71 : decode cX10_onRoad 71 = .ok (.if_icmp .le 13, 3) := by decide +kernel
theorem dX10_onRoad_74 : decode cX10_onRoad 74 = .ok (.iload_n 3, 1) := by decide +kernel
theorem dX10_onRoad_75 : decode cX10_onRoad 75 = .ok (.iconst 1, 1) := by decide +kernel
theorem dX10_onRoad_76 : decode cX10_onRoad 76 = .ok (.iload 5, 2) := by decide +kernel
theorem dX10_onRoad_78 : decode cX10_onRoad 78 = .ok (.bipush 10, 2) := by decide +kernel
theorem dX10_onRoad_80 : decode cX10_onRoad 80 = .ok (.idiv, 1) := by decide +kernel
theorem dX10_onRoad_81 : decode cX10_onRoad 81 = .ok (.ishl, 1) := by decide +kernel
theorem dX10_onRoad_82 : decode cX10_onRoad 82 = .ok (.ior, 1) := by decide +kernel
theorem dX10_onRoad_83 : decode cX10_onRoad 83 = .ok (.istore_n 3, 1) := by decide +kernel
theorem dX10_onRoad_84 : decode cX10_onRoad 84 = .ok (.iinc 4 1, 3) := by decide +kernel
theorem dX10_onRoad_87 : decode cX10_onRoad 87 = .ok (.goto (-69), 3) := by decide +kernel
theorem dX10_onRoad_90 : decode cX10_onRoad 90 = .ok (.iload_n 3, 1) := by decide +kernel
theorem dX10_onRoad_91 : decode cX10_onRoad 91 = .ok (.ireturn, 1) := by decide +kernel
theorem cm_X10_onRoad : x_CM yX10_onRoad cX10_onRoad 6 (Option.some FieldType.int) 2 := ⟨w_6_75, w_1_1, by decide +kernel, by decide +kernel⟩
theorem ci_X10_onRoad : x_CI yX10_onRoad 12 := ⟨w_6_73, w_6_74, (RX10, TX10, 12), rfl, rfl⟩
set_option maxRecDepth 100000 in
set_option maxHeartbeats 4000000 in
theorem bX10_onRoad_84 {V : x_J} {ad : Nat → Nat} {Q : Int32 → x_S → x_L → Prop} {QX : x_PE} (Y : x_IsX V cX10_onRoad 6 RX10 (Option.some FieldType.int) ad dsX 7 (x_PI Q) QX 1 4) {K18 : Int32 → Int32 → Int32 → Int32 → x_S → x_L → Prop} (hK18 : ∀ v1 v2 v3 v4 σ τ, K18 v1 v2 v3 v4 σ τ → V σ τ 18 [(0, .ref (ad 0)), (1, .int v1), (2, .int v2), (3, .int v3), (4, .int v4)] []) {v1 : Int32} {v2 : Int32} {v3 : Int32} {v4 : Int32} {σ : x_S} {τ : x_L} (h : wX10_onRoad_84 K18 Q QX v1 v2 v3 v4 σ τ) : V σ τ 84 [(0, .ref (ad 0)), (1, .int v1), (2, .int v2), (3, .int v3), (4, .int v4)] [] := by
  have X := x_isX Y
  refine x_iinc X (k := 4) (lv' := [(4, .int (v4 + 1)), (0, .ref (ad 0)), (1, .int v1), (2, .int v2), (3, .int v3)]) dX10_onRoad_84 rfl ki_1 (by decide) rfl ?_
  refine x_goto X (tgt := 18) dX10_onRoad_87 (by decide) ?_
  refine x_sub X [1, 2, 3, 4, 0] (lv' := [(0, .ref (ad 0)), (1, .int v1), (2, .int v2), (3, .int v3), (4, .int (v4 + 1))]) rfl ?_
  exact hK18 _ _ _ _ _ _ h
set_option maxRecDepth 100000 in
set_option maxHeartbeats 4000000 in
theorem bX10_onRoad_18 {V : x_J} {ad : Nat → Nat} {Q : Int32 → x_S → x_L → Prop} {QX : x_PE} (Y : x_IsX V cX10_onRoad 6 RX10 (Option.some FieldType.int) ad dsX 7 (x_PI Q) QX 1 4) {K18 : Int32 → Int32 → Int32 → Int32 → x_S → x_L → Prop} (hK18 : ∀ v1 v2 v3 v4 σ τ, K18 v1 v2 v3 v4 σ τ → V σ τ 18 [(0, .ref (ad 0)), (1, .int v1), (2, .int v2), (3, .int v3), (4, .int v4)] []) {v1 : Int32} {v2 : Int32} {v3 : Int32} {v4 : Int32} {σ : x_S} {τ : x_L} (h : wX10_onRoad_18 Q QX K18 v1 v2 v3 v4 σ τ) : V σ τ 18 [(0, .ref (ad 0)), (1, .int v1), (2, .int v2), (3, .int v3), (4, .int v4)] [] := by
  have X := x_isX Y
  refine x_iload X dX10_onRoad_18 4 rfl ?_
  refine x_aload_n X dX10_onRoad_20 rfl 0 rfl ?_
  refine x_getR X (j := 27) dX10_onRoad_21 fl_10_42 dsX_0 rfl ?_
  refine x_getR X (j := 29) dX10_onRoad_24 fl_10_383 dsX_27 rfl ?_
  refine x_iload_n X dX10_onRoad_27 rfl 1 rfl ?_
  refine x_iconst X dX10_onRoad_28 ki_1 ?_
  refine x_iadd X dX10_onRoad_29 ?_
  have g30 := h.1
  have h := h.2
  refine x_iald X dX10_onRoad_30 dsX_29 g30 ?_
  refine x_icmp_ge X 90 dX10_onRoad_31 (by decide) (fun hc => ?_) (fun hc => ?_)
  · have h := h.1 hc
    refine x_iload_n X dX10_onRoad_90 rfl 3 rfl ?_
    exact x_iret X dX10_onRoad_91 ⟨_, rfl, h⟩
  · have h := h.2 hc
    refine x_aload_n X dX10_onRoad_34 rfl 0 rfl ?_
    refine x_getR X (j := 33) dX10_onRoad_35 fl_10_51 dsX_0 rfl ?_
    refine x_getR X (j := 39) dX10_onRoad_38 fl_10_171 dsX_33 rfl ?_
    refine x_iload X dX10_onRoad_41 4 rfl ?_
    have g43 := h.1
    have h := h.2
    refine x_iald X dX10_onRoad_43 dsX_39 g43 ?_
    refine x_istore X (lv' := [(5, .int (σ 39 v4.toNatClampNeg)), (0, .ref (ad 0)), (1, .int v1), (2, .int v2), (3, .int v3), (4, .int v4)]) dX10_onRoad_44 (by decide) rfl ?_
    refine x_aload_n X dX10_onRoad_46 rfl 1 rfl ?_
    refine x_getR X (j := 33) dX10_onRoad_47 fl_10_51 dsX_0 rfl ?_
    refine x_getR X (j := 37) dX10_onRoad_50 fl_10_258 dsX_33 rfl ?_
    refine x_iload X dX10_onRoad_53 0 rfl ?_
    have g55 := h.1
    have h := h.2
    refine x_iald X dX10_onRoad_55 dsX_37 g55 ?_
    refine x_iload_n X dX10_onRoad_56 rfl 3 rfl ?_
    refine x_icmp_gt X 84 dX10_onRoad_57 (by decide) (fun hc => ?_) (fun hc => ?_)
    · have h := h.1 hc
      refine x_sub X [1, 2, 3, 4, 5] (lv' := [(0, .ref (ad 0)), (1, .int v1), (2, .int v2), (3, .int v3), (4, .int v4)]) rfl ?_
      exact bX10_onRoad_84 Y hK18 h
    · have h := h.2 hc
      refine x_aload_n X dX10_onRoad_60 rfl 1 rfl ?_
      refine x_getR X (j := 33) dX10_onRoad_61 fl_10_51 dsX_0 rfl ?_
      refine x_getR X (j := 38) dX10_onRoad_64 fl_10_261 dsX_33 rfl ?_
      refine x_iload X dX10_onRoad_67 0 rfl ?_
      refine x_iald X dX10_onRoad_69 dsX_38 g55 ?_
      refine x_iload_n X dX10_onRoad_70 rfl 3 rfl ?_
      refine x_icmp_le X 84 dX10_onRoad_71 (by decide) (fun hc => ?_) (fun hc => ?_)
      · have h := h.1 hc
        refine x_sub X [1, 2, 3, 4, 5] (lv' := [(0, .ref (ad 0)), (1, .int v1), (2, .int v2), (3, .int v3), (4, .int v4)]) rfl ?_
        exact bX10_onRoad_84 Y hK18 h
      · have h := h.2 hc
        refine x_iload_n X dX10_onRoad_74 rfl 4 rfl ?_
        refine x_iconst X dX10_onRoad_75 ki_1 ?_
        refine x_iload X dX10_onRoad_76 0 rfl ?_
        refine x_bipush X dX10_onRoad_78 kb_10 ?_
        refine x_idiv X dX10_onRoad_80 (by decide) ?_
        refine x_ishl X dX10_onRoad_81 ?_
        refine x_ior X dX10_onRoad_82 ?_
        refine x_istore_n X (lv' := [(3, .int (v3 ||| (1 <<< (((σ 39 v4.toNatClampNeg) / 10) &&& 31)))), (5, .int (σ 39 v4.toNatClampNeg)), (0, .ref (ad 0)), (1, .int v1), (2, .int v2), (4, .int v4)]) dX10_onRoad_83 rfl (by decide) rfl ?_
        refine x_sub X [2, 3, 4, 0, 5] (lv' := [(0, .ref (ad 0)), (1, .int v1), (2, .int v2), (3, .int (v3 ||| (1 <<< (((σ 39 v4.toNatClampNeg) / 10) &&& 31)))), (4, .int v4)]) rfl ?_
        exact bX10_onRoad_84 Y hK18 h
set_option maxRecDepth 100000 in
set_option maxHeartbeats 4000000 in
theorem kX10_onRoad {ad : Nat → Nat} {a1 : Int32} {a2 : Int32} {σ : x_S} {τ : x_L} {Q : Int32 → x_S → x_L → Prop} {QX : x_PE} (h : wX10_onRoad a1 a2 σ τ Q QX) : x_MetX yX10_onRoad cX10_onRoad 6 (Option.some FieldType.int) 7 4 ad dsX [.ref (ad 0), .int a1, .int a2] σ τ (x_PI Q) QX := by
  refine x_metX (by decide +kernel) (Nat.le_of_ble_eq_true rfl) (fun V Y => ?_)
  have Y : x_IsX V cX10_onRoad 6 RX10 (Option.some FieldType.int) ad dsX 7 (x_PI Q) QX 0 4 := Y
  have X := x_isX Y
  show V σ τ 0 [(0, .ref (ad 0)), (1, .int a1), (2, .int a2)] []
  refine x_aload_n X dX10_onRoad_0 rfl 0 rfl ?_
  refine x_iload_n X dX10_onRoad_1 rfl 1 rfl ?_
  refine x_callVXv Y [.int a1] [] dX10_onRoad_2 (kX10_checkRoad h) cm_X10_checkRoad ci_X10_checkRoad w_5_21 dsX_0 ⟨by decide, by decide⟩ (by decide) rfl (Nat.le_of_ble_eq_true rfl) (fun V σ2 τ2 Y h => ?_)
  have X := x_isX Y
  refine x_iconst X dX10_onRoad_5 ki_0 ?_
  refine x_istore_n X (lv' := [(3, .int 0), (0, .ref (ad 0)), (1, .int a1), (2, .int a2)]) dX10_onRoad_6 rfl (by decide) rfl ?_
  refine x_aload_n X dX10_onRoad_7 rfl 1 rfl ?_
  refine x_getR X (j := 27) dX10_onRoad_8 fl_10_42 dsX_0 rfl ?_
  refine x_getR X (j := 29) dX10_onRoad_11 fl_10_383 dsX_27 rfl ?_
  refine x_iload_n X dX10_onRoad_14 rfl 2 rfl ?_
  have g15 := h.1
  have h := h.2
  refine x_iald X dX10_onRoad_15 dsX_29 g15 ?_
  refine x_istore X (lv' := [(4, .int (σ2 29 a1.toNatClampNeg)), (3, .int 0), (0, .ref (ad 0)), (1, .int a1), (2, .int a2)]) dX10_onRoad_16 (by decide) rfl ?_
  refine x_sub X [2, 3, 4, 1, 0] (lv' := [(0, .ref (ad 0)), (1, .int a1), (2, .int a2), (3, .int 0), (4, .int (σ2 29 a1.toNatClampNeg))]) rfl ?_
  exact x_l4_G (fun v1 v2 v3 v4 σ τ => V σ τ 18 [(0, .ref (ad 0)), (1, .int v1), (2, .int v2), (3, .int v3), (4, .int v4)] []) (fun K18 hK18 v1 v2 v3 v4 σ τ h => bX10_onRoad_18 Y hK18 h) h
theorem dX10_alone_0 : decode cX10_alone 0 = .ok (.iconst 0, 1) := by decide +kernel
theorem dX10_alone_1 : decode cX10_alone 1 = .ok (.istore_n 1, 1) := by decide +kernel
theorem dX10_alone_2 : decode cX10_alone 2 = .ok (.iconst 0, 1) := by decide +kernel
theorem dX10_alone_3 : decode cX10_alone 3 = .ok (.istore_n 2, 1) := by decide +kernel
theorem dX10_alone_4 : decode cX10_alone 4 = .ok (.iload_n 2, 1) := by decide +kernel
theorem dX10_alone_5 : decode cX10_alone 5 = .ok (.aload_n 0, 1) := by decide +kernel
theorem dX10_alone_6 : decode cX10_alone 6 = .ok (.getfield 19, 3) := by decide +kernel
theorem dX10_alone_9 : decode cX10_alone 9 = .ok (.getfield 127, 3) := by decide +kernel
theorem dX10_alone_12 : decode cX10_alone 12 = .ok (.if_icmp .ge 26, 3) := by decide +kernel
theorem dX10_alone_15 : decode cX10_alone 15 = .ok (.aload_n 0, 1) := by decide +kernel
theorem dX10_alone_16 : decode cX10_alone 16 = .ok (.getfield 51, 3) := by decide +kernel
theorem dX10_alone_19 : decode cX10_alone 19 = .ok (.iload_n 2, 1) := by decide +kernel
theorem dX10_alone_20 : decode cX10_alone 20 = .ok (.invokevirtual 385, 3) := by decide +kernel
theorem dX10_alone_23 : decode cX10_alone 23 = .ok (.ifCond .ne 9, 3) := by decide +kernel
theorem dX10_alone_26 : decode cX10_alone 26 = .ok (.iload_n 1, 1) := by decide +kernel
theorem dX10_alone_27 : decode cX10_alone 27 = .ok (.iconst 1, 1) := by decide +kernel
theorem dX10_alone_28 : decode cX10_alone 28 = .ok (.iload_n 2, 1) := by decide +kernel
theorem dX10_alone_29 : decode cX10_alone 29 = .ok (.ishl, 1) := by decide +kernel
theorem dX10_alone_30 : decode cX10_alone 30 = .ok (.ior, 1) := by decide +kernel
theorem dX10_alone_31 : decode cX10_alone 31 = .ok (.istore_n 1, 1) := by decide +kernel
theorem dX10_alone_32 : decode cX10_alone 32 = .ok (.iinc 2 1, 3) := by decide +kernel
theorem dX10_alone_35 : decode cX10_alone 35 = .ok (.goto (-31), 3) := by decide +kernel
theorem dX10_alone_38 : decode cX10_alone 38 = .ok (.iload_n 1, 1) := by decide +kernel
theorem dX10_alone_39 : decode cX10_alone 39 = .ok (.ireturn, 1) := by decide +kernel
theorem cm_X10_alone : x_CM yX10_alone cX10_alone 3 (Option.some FieldType.int) 0 := ⟨w_4_31, w_1_1, by decide +kernel, by decide +kernel⟩
theorem ci_X10_alone : x_CI yX10_alone 12 := ⟨w_4_29, w_4_30, (RX10, TX10, 12), rfl, rfl⟩
set_option maxRecDepth 100000 in
set_option maxHeartbeats 4000000 in
theorem bX10_alone_32 {V : x_J} {ad : Nat → Nat} {Q : Int32 → x_S → x_L → Prop} (X : x_Is V cX10_alone 3 RX10 (Option.some FieldType.int) ad dsX 2 (x_PI Q)) {K4 : Int32 → Int32 → x_S → x_L → Prop} (hK4 : ∀ v1 v2 σ τ, K4 v1 v2 σ τ → V σ τ 4 [(0, .ref (ad 0)), (1, .int v1), (2, .int v2)] []) {v1 : Int32} {v2 : Int32} {σ : x_S} {τ : x_L} (h : wX10_alone_32 K4 Q v1 v2 σ τ) : V σ τ 32 [(0, .ref (ad 0)), (1, .int v1), (2, .int v2)] [] := by
  refine x_iinc X (k := 2) (lv' := [(2, .int (v2 + 1)), (0, .ref (ad 0)), (1, .int v1)]) dX10_alone_32 rfl ki_1 (by decide) rfl ?_
  refine x_goto X (tgt := 4) dX10_alone_35 (by decide) ?_
  refine x_sub X [1, 2, 0] (lv' := [(0, .ref (ad 0)), (1, .int v1), (2, .int (v2 + 1))]) rfl ?_
  exact hK4 _ _ _ _ h
set_option maxRecDepth 100000 in
set_option maxHeartbeats 4000000 in
theorem bX10_alone_4 {V : x_J} {ad : Nat → Nat} {Q : Int32 → x_S → x_L → Prop} (X : x_Is V cX10_alone 3 RX10 (Option.some FieldType.int) ad dsX 2 (x_PI Q)) {K4 : Int32 → Int32 → x_S → x_L → Prop} (hK4 : ∀ v1 v2 σ τ, K4 v1 v2 σ τ → V σ τ 4 [(0, .ref (ad 0)), (1, .int v1), (2, .int v2)] []) {v1 : Int32} {v2 : Int32} {σ : x_S} {τ : x_L} (h : wX10_alone_4 Q K4 v1 v2 σ τ) : V σ τ 4 [(0, .ref (ad 0)), (1, .int v1), (2, .int v2)] [] := by
  refine x_iload_n X dX10_alone_4 rfl 2 rfl ?_
  refine x_aload_n X dX10_alone_5 rfl 0 rfl ?_
  refine x_getR X (j := 3) dX10_alone_6 fl_10_19 dsX_0 rfl ?_
  refine x_getI X dX10_alone_9 fl_10_127 dsX_3 rfl ?_
  refine x_icmp_ge X 38 dX10_alone_12 (by decide) (fun hc => ?_) (fun hc => ?_)
  · have h := h.1 hc
    refine x_iload_n X dX10_alone_38 rfl 1 rfl ?_
    exact x_iret X dX10_alone_39 ⟨_, rfl, h⟩
  · have h := h.2 hc
    refine x_aload_n X dX10_alone_15 rfl 0 rfl ?_
    refine x_getR X (j := 33) dX10_alone_16 fl_10_51 dsX_0 rfl ?_
    refine x_iload_n X dX10_alone_19 rfl 2 rfl ?_
    refine x_callVi X [.int v2] [] dX10_alone_20 (kX6_meetsOthers x_pl33 h) cm_X6_meetsOthers ci_X6_meetsOthers w_4_32 dsX_33 ⟨by decide, by decide⟩ rfl (Nat.le_of_ble_eq_true rfl) (fun r20 σ20 τ20 h => ?_)
    refine x_if_ne X 32 dX10_alone_23 (by decide) (fun hc => ?_) (fun hc => ?_)
    · have h := h.1 hc
      exact bX10_alone_32 X hK4 h
    · have h := h.2 hc
      refine x_iload_n X dX10_alone_26 rfl 1 rfl ?_
      refine x_iconst X dX10_alone_27 ki_1 ?_
      refine x_iload_n X dX10_alone_28 rfl 2 rfl ?_
      refine x_ishl X dX10_alone_29 ?_
      refine x_ior X dX10_alone_30 ?_
      refine x_istore_n X (lv' := [(1, .int (v1 ||| (1 <<< (v2 &&& 31)))), (0, .ref (ad 0)), (2, .int v2)]) dX10_alone_31 rfl (by decide) rfl ?_
      refine x_sub X [1, 0, 2] (lv' := [(0, .ref (ad 0)), (1, .int (v1 ||| (1 <<< (v2 &&& 31)))), (2, .int v2)]) rfl ?_
      exact bX10_alone_32 X hK4 h
set_option maxRecDepth 100000 in
set_option maxHeartbeats 4000000 in
theorem kX10_alone {ad : Nat → Nat} {σ : x_S} {τ : x_L} {Q : Int32 → x_S → x_L → Prop} (h : wX10_alone σ τ Q) : x_Met yX10_alone cX10_alone 3 (Option.some FieldType.int) 2 ad dsX [.ref (ad 0)] σ τ (x_PI Q) := by
  refine x_met (by decide +kernel) (Nat.le_of_ble_eq_true rfl) (fun V X => ?_)
  have X : x_Is V cX10_alone 3 RX10 (Option.some FieldType.int) ad dsX 2 (x_PI Q) := X
  show V σ τ 0 [(0, .ref (ad 0))] []
  refine x_iconst X dX10_alone_0 ki_0 ?_
  refine x_istore_n X (lv' := [(1, .int 0), (0, .ref (ad 0))]) dX10_alone_1 rfl (by decide) rfl ?_
  refine x_iconst X dX10_alone_2 ki_0 ?_
  refine x_istore_n X (lv' := [(2, .int 0), (1, .int 0), (0, .ref (ad 0))]) dX10_alone_3 rfl (by decide) rfl ?_
  refine x_sub X [2, 1, 0] (lv' := [(0, .ref (ad 0)), (1, .int 0), (2, .int 0)]) rfl ?_
  exact x_l2_G (fun v1 v2 σ τ => V σ τ 4 [(0, .ref (ad 0)), (1, .int v1), (2, .int v2)] []) (fun K4 hK4 v1 v2 σ τ h => bX10_alone_4 X hK4 h) h
theorem dX10_lateOnes_0 : decode cX10_lateOnes 0 = .ok (.aload_n 0, 1) := by decide +kernel
theorem dX10_lateOnes_1 : decode cX10_lateOnes 1 = .ok (.invokevirtual 146, 3) := by decide +kernel
theorem dX10_lateOnes_4 : decode cX10_lateOnes 4 = .ok (.ireturn, 1) := by decide +kernel
theorem cm_X10_lateOnes : x_CM yX10_lateOnes cX10_lateOnes 1 (Option.some FieldType.int) 0 := ⟨w_4_40, w_1_1, by decide +kernel, by decide +kernel⟩
theorem ci_X10_lateOnes : x_CI yX10_lateOnes 12 := ⟨w_4_38, w_4_39, (RX10, TX10, 12), rfl, rfl⟩
set_option maxRecDepth 100000 in
set_option maxHeartbeats 4000000 in
theorem kX10_lateOnes {ad : Nat → Nat} {σ : x_S} {τ : x_L} {Q : Int32 → x_S → x_L → Prop} (h : wX10_lateOnes σ τ Q) : x_Met yX10_lateOnes cX10_lateOnes 1 (Option.some FieldType.int) 3 ad dsX [.ref (ad 0)] σ τ (x_PI Q) := by
  refine x_met (by decide +kernel) (Nat.le_of_ble_eq_true rfl) (fun V X => ?_)
  have X : x_Is V cX10_lateOnes 1 RX10 (Option.some FieldType.int) ad dsX 3 (x_PI Q) := X
  show V σ τ 0 [(0, .ref (ad 0))] []
  refine x_aload_n X dX10_lateOnes_0 rfl 0 rfl ?_
  refine x_callVi X [] [] dX10_lateOnes_1 (kX10_lateSet h) cm_X10_lateSet ci_X10_lateSet w_3_182 dsX_0 ⟨by decide, by decide⟩ rfl (Nat.le_of_ble_eq_true rfl) (fun r1 σ1 τ1 h => ?_)
  exact x_iret X dX10_lateOnes_4 ⟨_, rfl, h⟩
theorem dX10_bestRoad_0 : decode cX10_bestRoad 0 = .ok (.iconst (-1), 1) := by decide +kernel
theorem dX10_bestRoad_1 : decode cX10_bestRoad 1 = .ok (.istore_n 1, 1) := by decide +kernel
theorem dX10_bestRoad_2 : decode cX10_bestRoad 2 = .ok (.iconst 0, 1) := by decide +kernel
theorem dX10_bestRoad_3 : decode cX10_bestRoad 3 = .ok (.istore_n 2, 1) := by decide +kernel
theorem dX10_bestRoad_4 : decode cX10_bestRoad 4 = .ok (.iconst 0, 1) := by decide +kernel
theorem dX10_bestRoad_5 : decode cX10_bestRoad 5 = .ok (.istore_n 3, 1) := by decide +kernel
theorem dX10_bestRoad_6 : decode cX10_bestRoad 6 = .ok (.iload_n 3, 1) := by decide +kernel
theorem dX10_bestRoad_7 : decode cX10_bestRoad 7 = .ok (.aload_n 0, 1) := by decide +kernel
theorem dX10_bestRoad_8 : decode cX10_bestRoad 8 = .ok (.getfield 19, 3) := by decide +kernel
theorem dX10_bestRoad_11 : decode cX10_bestRoad 11 = .ok (.getfield 136, 3) := by decide +kernel
theorem dX10_bestRoad_14 : decode cX10_bestRoad 14 = .ok (.if_icmp .ge 49, 3) := by decide +kernel
theorem dX10_bestRoad_17 : decode cX10_bestRoad 17 = .ok (.aload_n 0, 1) := by decide +kernel
theorem dX10_bestRoad_18 : decode cX10_bestRoad 18 = .ok (.getfield 51, 3) := by decide +kernel
theorem dX10_bestRoad_21 : decode cX10_bestRoad 21 = .ok (.aload_n 0, 1) := by decide +kernel
theorem dX10_bestRoad_22 : decode cX10_bestRoad 22 = .ok (.getfield 42, 3) := by decide +kernel
theorem dX10_bestRoad_25 : decode cX10_bestRoad 25 = .ok (.getfield 383, 3) := by decide +kernel
theorem dX10_bestRoad_28 : decode cX10_bestRoad 28 = .ok (.iload_n 3, 1) := by decide +kernel
theorem dX10_bestRoad_29 : decode cX10_bestRoad 29 = .ok (.iaload, 1) := by decide +kernel
theorem dX10_bestRoad_30 : decode cX10_bestRoad 30 = .ok (.aload_n 0, 1) := by decide +kernel
theorem dX10_bestRoad_31 : decode cX10_bestRoad 31 = .ok (.getfield 42, 3) := by decide +kernel
theorem dX10_bestRoad_34 : decode cX10_bestRoad 34 = .ok (.getfield 383, 3) := by decide +kernel
theorem dX10_bestRoad_37 : decode cX10_bestRoad 37 = .ok (.iload_n 3, 1) := by decide +kernel
theorem dX10_bestRoad_38 : decode cX10_bestRoad 38 = .ok (.iconst 1, 1) := by decide +kernel
theorem dX10_bestRoad_39 : decode cX10_bestRoad 39 = .ok (.iadd, 1) := by decide +kernel
theorem dX10_bestRoad_40 : decode cX10_bestRoad 40 = .ok (.iaload, 1) := by decide +kernel
theorem dX10_bestRoad_41 : decode cX10_bestRoad 41 = .ok (.invokevirtual 158, 3) := by decide +kernel
theorem dX10_bestRoad_44 : decode cX10_bestRoad 44 = .ok (.istore 4, 2) := by decide +kernel
theorem dX10_bestRoad_46 : decode cX10_bestRoad 46 = .ok (.iload 4, 2) := by decide +kernel
theorem dX10_bestRoad_48 : decode cX10_bestRoad 48 = .ok (.iload_n 2, 1) := by decide +kernel
theorem dX10_bestRoad_49 : decode cX10_bestRoad 49 = .ok (.if_icmp .le 8, 3) := by decide +kernel
theorem dX10_bestRoad_52 : decode cX10_bestRoad 52 = .ok (.iload_n 3, 1) := by decide +kernel
theorem dX10_bestRoad_53 : decode cX10_bestRoad 53 = .ok (.istore_n 1, 1) := by decide +kernel
theorem dX10_bestRoad_54 : decode cX10_bestRoad 54 = .ok (.iload 4, 2) := by decide +kernel
theorem dX10_bestRoad_56 : decode cX10_bestRoad 56 = .ok (.istore_n 2, 1) := by decide +kernel
theorem dX10_bestRoad_57 : decode cX10_bestRoad 57 = .ok (.iinc 3 1, 3) := by decide +kernel
theorem dX10_bestRoad_60 : decode cX10_bestRoad 60 = .ok (.goto (-54), 3) := by decide +kernel
theorem dX10_bestRoad_63 : decode cX10_bestRoad 63 = .ok (.iload_n 1, 1) := by decide +kernel
theorem dX10_bestRoad_64 : decode cX10_bestRoad 64 = .ok (.ireturn, 1) := by decide +kernel
theorem cm_X10_bestRoad : x_CM yX10_bestRoad cX10_bestRoad 5 (Option.some FieldType.int) 0 := ⟨w_4_44, w_1_1, by decide +kernel, by decide +kernel⟩
theorem ci_X10_bestRoad : x_CI yX10_bestRoad 12 := ⟨w_4_42, w_4_43, (RX10, TX10, 12), rfl, rfl⟩
set_option maxRecDepth 100000 in
set_option maxHeartbeats 4000000 in
theorem bX10_bestRoad_57 {V : x_J} {ad : Nat → Nat} {Q : Int32 → x_S → x_L → Prop} (X : x_Is V cX10_bestRoad 5 RX10 (Option.some FieldType.int) ad dsX 1 (x_PI Q)) {K6 : Int32 → Int32 → Int32 → x_S → x_L → Prop} (hK6 : ∀ v1 v2 v3 σ τ, K6 v1 v2 v3 σ τ → V σ τ 6 [(0, .ref (ad 0)), (1, .int v1), (2, .int v2), (3, .int v3)] []) {v1 : Int32} {v2 : Int32} {v3 : Int32} {σ : x_S} {τ : x_L} (h : wX10_bestRoad_57 K6 Q v1 v2 v3 σ τ) : V σ τ 57 [(0, .ref (ad 0)), (1, .int v1), (2, .int v2), (3, .int v3)] [] := by
  refine x_iinc X (k := 3) (lv' := [(3, .int (v3 + 1)), (0, .ref (ad 0)), (1, .int v1), (2, .int v2)]) dX10_bestRoad_57 rfl ki_1 (by decide) rfl ?_
  refine x_goto X (tgt := 6) dX10_bestRoad_60 (by decide) ?_
  refine x_sub X [1, 2, 3, 0] (lv' := [(0, .ref (ad 0)), (1, .int v1), (2, .int v2), (3, .int (v3 + 1))]) rfl ?_
  exact hK6 _ _ _ _ _ h
set_option maxRecDepth 100000 in
set_option maxHeartbeats 4000000 in
theorem bX10_bestRoad_6 {V : x_J} {ad : Nat → Nat} {Q : Int32 → x_S → x_L → Prop} (X : x_Is V cX10_bestRoad 5 RX10 (Option.some FieldType.int) ad dsX 1 (x_PI Q)) {K6 : Int32 → Int32 → Int32 → x_S → x_L → Prop} (hK6 : ∀ v1 v2 v3 σ τ, K6 v1 v2 v3 σ τ → V σ τ 6 [(0, .ref (ad 0)), (1, .int v1), (2, .int v2), (3, .int v3)] []) {v1 : Int32} {v2 : Int32} {v3 : Int32} {σ : x_S} {τ : x_L} (h : wX10_bestRoad_6 Q K6 v1 v2 v3 σ τ) : V σ τ 6 [(0, .ref (ad 0)), (1, .int v1), (2, .int v2), (3, .int v3)] [] := by
  refine x_iload_n X dX10_bestRoad_6 rfl 3 rfl ?_
  refine x_aload_n X dX10_bestRoad_7 rfl 0 rfl ?_
  refine x_getR X (j := 3) dX10_bestRoad_8 fl_10_19 dsX_0 rfl ?_
  refine x_getI X dX10_bestRoad_11 fl_10_136 dsX_3 rfl ?_
  refine x_icmp_ge X 63 dX10_bestRoad_14 (by decide) (fun hc => ?_) (fun hc => ?_)
  · have h := h.1 hc
    refine x_iload_n X dX10_bestRoad_63 rfl 1 rfl ?_
    exact x_iret X dX10_bestRoad_64 ⟨_, rfl, h⟩
  · have h := h.2 hc
    refine x_aload_n X dX10_bestRoad_17 rfl 0 rfl ?_
    refine x_getR X (j := 33) dX10_bestRoad_18 fl_10_51 dsX_0 rfl ?_
    refine x_aload_n X dX10_bestRoad_21 rfl 0 rfl ?_
    refine x_getR X (j := 27) dX10_bestRoad_22 fl_10_42 dsX_0 rfl ?_
    refine x_getR X (j := 29) dX10_bestRoad_25 fl_10_383 dsX_27 rfl ?_
    refine x_iload_n X dX10_bestRoad_28 rfl 3 rfl ?_
    have g29 := h.1
    have h := h.2
    refine x_iald X dX10_bestRoad_29 dsX_29 g29 ?_
    refine x_aload_n X dX10_bestRoad_30 rfl 0 rfl ?_
    refine x_getR X (j := 27) dX10_bestRoad_31 fl_10_42 dsX_0 rfl ?_
    refine x_getR X (j := 29) dX10_bestRoad_34 fl_10_383 dsX_27 rfl ?_
    refine x_iload_n X dX10_bestRoad_37 rfl 3 rfl ?_
    refine x_iconst X dX10_bestRoad_38 ki_1 ?_
    refine x_iadd X dX10_bestRoad_39 ?_
    have g40 := h.1
    have h := h.2
    refine x_iald X dX10_bestRoad_40 dsX_29 g40 ?_
    refine x_callVi X [.int (σ 29 v3.toNatClampNeg), .int (σ 29 (v3 + 1).toNatClampNeg)] [] dX10_bestRoad_41 (kX6_savedOnRows x_pl33 h) cm_X6_savedOnRows ci_X6_savedOnRows w_3_200 dsX_33 ⟨by decide, by decide⟩ rfl (Nat.le_of_ble_eq_true rfl) (fun r41 σ41 τ41 h => ?_)
    refine x_istore X (lv' := [(4, .int r41), (0, .ref (ad 0)), (1, .int v1), (2, .int v2), (3, .int v3)]) dX10_bestRoad_44 (by decide) rfl ?_
    refine x_iload X dX10_bestRoad_46 0 rfl ?_
    refine x_iload_n X dX10_bestRoad_48 rfl 3 rfl ?_
    refine x_icmp_le X 57 dX10_bestRoad_49 (by decide) (fun hc => ?_) (fun hc => ?_)
    · have h := h.1 hc
      refine x_sub X [1, 2, 3, 4] (lv' := [(0, .ref (ad 0)), (1, .int v1), (2, .int v2), (3, .int v3)]) rfl ?_
      exact bX10_bestRoad_57 X hK6 h
    · have h := h.2 hc
      refine x_iload_n X dX10_bestRoad_52 rfl 4 rfl ?_
      refine x_istore_n X (lv' := [(1, .int v3), (4, .int r41), (0, .ref (ad 0)), (2, .int v2), (3, .int v3)]) dX10_bestRoad_53 rfl (by decide) rfl ?_
      refine x_iload X dX10_bestRoad_54 1 rfl ?_
      refine x_istore_n X (lv' := [(2, .int r41), (1, .int v3), (4, .int r41), (0, .ref (ad 0)), (3, .int v3)]) dX10_bestRoad_56 rfl (by decide) rfl ?_
      refine x_sub X [3, 1, 0, 4] (lv' := [(0, .ref (ad 0)), (1, .int v3), (2, .int r41), (3, .int v3)]) rfl ?_
      exact bX10_bestRoad_57 X hK6 h
set_option maxRecDepth 100000 in
set_option maxHeartbeats 4000000 in
theorem kX10_bestRoad {ad : Nat → Nat} {σ : x_S} {τ : x_L} {Q : Int32 → x_S → x_L → Prop} (h : wX10_bestRoad σ τ Q) : x_Met yX10_bestRoad cX10_bestRoad 5 (Option.some FieldType.int) 1 ad dsX [.ref (ad 0)] σ τ (x_PI Q) := by
  refine x_met (by decide +kernel) (Nat.le_of_ble_eq_true rfl) (fun V X => ?_)
  have X : x_Is V cX10_bestRoad 5 RX10 (Option.some FieldType.int) ad dsX 1 (x_PI Q) := X
  show V σ τ 0 [(0, .ref (ad 0))] []
  refine x_iconst X dX10_bestRoad_0 ki_m1 ?_
  refine x_istore_n X (lv' := [(1, .int (-1)), (0, .ref (ad 0))]) dX10_bestRoad_1 rfl (by decide) rfl ?_
  refine x_iconst X dX10_bestRoad_2 ki_0 ?_
  refine x_istore_n X (lv' := [(2, .int 0), (1, .int (-1)), (0, .ref (ad 0))]) dX10_bestRoad_3 rfl (by decide) rfl ?_
  refine x_iconst X dX10_bestRoad_4 ki_0 ?_
  refine x_istore_n X (lv' := [(3, .int 0), (2, .int 0), (1, .int (-1)), (0, .ref (ad 0))]) dX10_bestRoad_5 rfl (by decide) rfl ?_
  refine x_sub X [3, 2, 1, 0] (lv' := [(0, .ref (ad 0)), (1, .int (-1)), (2, .int 0), (3, .int 0)]) rfl ?_
  exact x_l3_G (fun v1 v2 v3 σ τ => V σ τ 6 [(0, .ref (ad 0)), (1, .int v1), (2, .int v2), (3, .int v3)] []) (fun K6 hK6 v1 v2 v3 σ τ h => bX10_bestRoad_6 X hK6 h) h
theorem dX10_checkOrdered_0 : decode cX10_checkOrdered 0 = .ok (.iload_n 0, 1) := by decide +kernel
theorem dX10_checkOrdered_1 : decode cX10_checkOrdered 1 = .ok (.bipush 6, 2) := by decide +kernel
theorem dX10_checkOrdered_3 : decode cX10_checkOrdered 3 = .ok (.if_icmp .le 14, 3) := by decide +kernel
theorem dX10_checkOrdered_6 : decode cX10_checkOrdered 6 = .ok (.new 357, 3) := by decide +kernel
theorem dX10_checkOrdered_9 : decode cX10_checkOrdered 9 = .ok (.dup, 1) := by decide +kernel
theorem dX10_checkOrdered_10 : decode cX10_checkOrdered 10 = .ok (.ldc_w 491, 3) := by decide +kernel
theorem dX10_checkOrdered_13 : decode cX10_checkOrdered 13 = .ok (.invokespecial 361, 3) := by decide +kernel
theorem dX10_checkOrdered_16 : decode cX10_checkOrdered 16 = .ok (.athrow, 1) := by decide +kernel
theorem dX10_checkOrdered_17 : decode cX10_checkOrdered 17 = .ok (.return_, 1) := by decide +kernel
theorem cm_X10_checkOrdered : x_CM yX10_checkOrdered cX10_checkOrdered 1 (Option.none : Option Jvm.ClassFile.FieldType) 1 := ⟨w_6_85, w_1_1, by decide +kernel, by decide +kernel⟩
set_option maxRecDepth 100000 in
set_option maxHeartbeats 4000000 in
theorem kX10_checkOrdered {ad : Nat → Nat} {a0 : Int32} {σ : x_S} {τ : x_L} {Q : x_S → x_L → Prop} {QX : x_PE} (h : wX10_checkOrdered a0 σ τ Q QX) : x_MetX yX10_checkOrdered cX10_checkOrdered 1 (Option.none : Option Jvm.ClassFile.FieldType) 6 1 ad dsX [.int a0] σ τ (x_PV Q) QX := by
  refine x_metX (by decide +kernel) (Nat.le_of_ble_eq_true rfl) (fun V Y => ?_)
  have Y : x_IsX V cX10_checkOrdered 1 RX10 (Option.none : Option Jvm.ClassFile.FieldType) ad dsX 6 (x_PV Q) QX 0 1 := Y
  have X := x_isX Y
  show V σ τ 0 [(0, .int a0)] []
  refine x_iload_n X dX10_checkOrdered_0 rfl 0 rfl ?_
  refine x_bipush X dX10_checkOrdered_1 kb_6 ?_
  refine x_icmp_le X 17 dX10_checkOrdered_3 (by decide) (fun hc => ?_) (fun hc => ?_)
  · have h := h.1 hc
    exact x_vret X dX10_checkOrdered_17 ⟨rfl, h⟩
  · have h := h.2 hc
    exact x_throw Y (i := 16) dX10_checkOrdered_6 dX10_checkOrdered_9 dX10_checkOrdered_10 dX10_checkOrdered_13 dX10_checkOrdered_16 (by decide +kernel) w_6_32 w_1_26 (List.mem_of_getElem? (i := 2) rfl) (List.mem_of_getElem? (i := 16) rfl) x_exIS x_exIS_b x_exIS_c (by decide) (by decide) (Nat.le_of_ble_eq_true rfl) h
theorem dX10_orderLoss_0 : decode cX10_orderLoss 0 = .ok (.aload_n 0, 1) := by decide +kernel
theorem dX10_orderLoss_1 : decode cX10_orderLoss 1 = .ok (.iload_n 1, 1) := by decide +kernel
theorem dX10_orderLoss_2 : decode cX10_orderLoss 2 = .ok (.iload_n 2, 1) := by decide +kernel
theorem dX10_orderLoss_3 : decode cX10_orderLoss 3 = .ok (.invokevirtual 286, 3) := by decide +kernel
theorem dX10_orderLoss_6 : decode cX10_orderLoss 6 = .ok (.aload_n 0, 1) := by decide +kernel
theorem dX10_orderLoss_7 : decode cX10_orderLoss 7 = .ok (.getfield 51, 3) := by decide +kernel
theorem dX10_orderLoss_10 : decode cX10_orderLoss 10 = .ok (.iload_n 1, 1) := by decide +kernel
theorem dX10_orderLoss_11 : decode cX10_orderLoss 11 = .ok (.iload_n 2, 1) := by decide +kernel
theorem dX10_orderLoss_12 : decode cX10_orderLoss 12 = .ok (.invokevirtual 289, 3) := by decide +kernel
theorem dX10_orderLoss_15 : decode cX10_orderLoss 15 = .ok (.istore_n 3, 1) := by decide +kernel
theorem dX10_orderLoss_16 : decode cX10_orderLoss 16 = .ok (.aload_n 0, 1) := by decide +kernel
theorem dX10_orderLoss_17 : decode cX10_orderLoss 17 = .ok (.getfield 51, 3) := by decide +kernel
theorem dX10_orderLoss_20 : decode cX10_orderLoss 20 = .ok (.iload_n 1, 1) := by decide +kernel
theorem dX10_orderLoss_21 : decode cX10_orderLoss 21 = .ok (.iload_n 3, 1) := by decide +kernel
theorem dX10_orderLoss_22 : decode cX10_orderLoss 22 = .ok (.invokevirtual 292, 3) := by decide +kernel
theorem dX10_orderLoss_25 : decode cX10_orderLoss 25 = .ok (.istore 4, 2) := by decide +kernel
theorem dX10_orderLoss_27 : decode cX10_orderLoss 27 = .ok (.iload 4, 2) := by decide +kernel
theorem dX10_orderLoss_29 : decode cX10_orderLoss 29 = .ok (.iload_n 3, 1) := by decide +kernel
theorem dX10_orderLoss_30 : decode cX10_orderLoss 30 = .ok (.isub, 1) := by decide +kernel
theorem dX10_orderLoss_31 : decode cX10_orderLoss 31 = .ok (.invokestatic 388, 3) := by decide +kernel
theorem dX10_orderLoss_34 : decode cX10_orderLoss 34 = .ok (.aload_n 0, 1) := by decide +kernel
theorem dX10_orderLoss_35 : decode cX10_orderLoss 35 = .ok (.getfield 72, 3) := by decide +kernel
theorem dX10_orderLoss_38 : decode cX10_orderLoss 38 = .ok (.iload_n 3, 1) := by decide +kernel
theorem dX10_orderLoss_39 : decode cX10_orderLoss 39 = .ok (.iload 4, 2) := by decide +kernel
theorem dX10_orderLoss_41 : decode cX10_orderLoss 41 = .ok (.invokevirtual 391, 3) := by decide +kernel
theorem dX10_orderLoss_44 : decode cX10_orderLoss 44 = .ok (.aload_n 0, 1) := by decide +kernel
theorem dX10_orderLoss_45 : decode cX10_orderLoss 45 = .ok (.getfield 72, 3) := by decide +kernel
theorem dX10_orderLoss_48 : decode cX10_orderLoss 48 = .ok (.getfield 394, 3) := by decide +kernel
theorem dX10_orderLoss_51 : decode cX10_orderLoss 51 = .ok (.aload_n 0, 1) := by decide +kernel
theorem dX10_orderLoss_52 : decode cX10_orderLoss 52 = .ok (.getfield 51, 3) := by decide +kernel
theorem dX10_orderLoss_55 : decode cX10_orderLoss 55 = .ok (.aload_n 0, 1) := by decide +kernel
theorem dX10_orderLoss_56 : decode cX10_orderLoss 56 = .ok (.getfield 51, 3) := by decide +kernel
theorem dX10_orderLoss_59 : decode cX10_orderLoss 59 = .ok (.getfield 171, 3) := by decide +kernel
theorem dX10_orderLoss_62 : decode cX10_orderLoss 62 = .ok (.iload_n 3, 1) := by decide +kernel
theorem dX10_orderLoss_63 : decode cX10_orderLoss 63 = .ok (.iload 4, 2) := by decide +kernel
theorem dX10_orderLoss_65 : decode cX10_orderLoss 65 = .ok (.invokevirtual 397, 3) := by decide +kernel
theorem dX10_orderLoss_68 : decode cX10_orderLoss 68 = .ok (.isub, 1) := by decide +kernel
theorem dX10_orderLoss_69 : decode cX10_orderLoss 69 = .ok (.ireturn, 1) := by decide +kernel
theorem cm_X10_orderLoss : x_CM yX10_orderLoss cX10_orderLoss 5 (Option.some FieldType.int) 2 := ⟨w_6_82, w_1_1, by decide +kernel, by decide +kernel⟩
theorem ci_X10_orderLoss : x_CI yX10_orderLoss 12 := ⟨w_6_80, w_6_81, (RX10, TX10, 12), rfl, rfl⟩
set_option maxRecDepth 100000 in
set_option maxHeartbeats 4000000 in
theorem kX10_orderLoss {ad : Nat → Nat} {a1 : Int32} {a2 : Int32} {σ : x_S} {τ : x_L} {Q : Int32 → x_S → x_L → Prop} {QX : x_PE} (h : wX10_orderLoss a1 a2 σ τ Q QX) : x_MetX yX10_orderLoss cX10_orderLoss 5 (Option.some FieldType.int) 7 4 ad dsX [.ref (ad 0), .int a1, .int a2] σ τ (x_PI Q) QX := by
  refine x_metX (by decide +kernel) (Nat.le_of_ble_eq_true rfl) (fun V Y => ?_)
  have Y : x_IsX V cX10_orderLoss 5 RX10 (Option.some FieldType.int) ad dsX 7 (x_PI Q) QX 0 4 := Y
  have X := x_isX Y
  show V σ τ 0 [(0, .ref (ad 0)), (1, .int a1), (2, .int a2)] []
  refine x_aload_n X dX10_orderLoss_0 rfl 0 rfl ?_
  refine x_iload_n X dX10_orderLoss_1 rfl 1 rfl ?_
  refine x_iload_n X dX10_orderLoss_2 rfl 2 rfl ?_
  refine x_callVXv Y [.int a1, .int a2] [] dX10_orderLoss_3 (kX10_checkPlatoon h) cm_X10_checkPlatoon ci_X10_checkPlatoon w_5_123 dsX_0 ⟨by decide, by decide⟩ (by decide) rfl (Nat.le_of_ble_eq_true rfl) (fun V σ3 τ3 Y h => ?_)
  have X := x_isX Y
  refine x_aload_n X dX10_orderLoss_6 rfl 0 rfl ?_
  refine x_getR X (j := 33) dX10_orderLoss_7 fl_10_51 dsX_0 rfl ?_
  refine x_iload_n X dX10_orderLoss_10 rfl 1 rfl ?_
  refine x_iload_n X dX10_orderLoss_11 rfl 2 rfl ?_
  refine x_callVi X [.int a1, .int a2] [] dX10_orderLoss_12 (kX6_firstOf x_pl33 h) cm_X6_firstOf ci_X6_firstOf w_5_128 dsX_33 ⟨by decide, by decide⟩ rfl (Nat.le_of_ble_eq_true rfl) (fun r12 σ12 τ12 h => ?_)
  refine x_istore_n X (lv' := [(3, .int r12), (0, .ref (ad 0)), (1, .int a1), (2, .int a2)]) dX10_orderLoss_15 rfl (by decide) rfl ?_
  refine x_aload_n X dX10_orderLoss_16 rfl 1 rfl ?_
  refine x_getR X (j := 33) dX10_orderLoss_17 fl_10_51 dsX_0 rfl ?_
  refine x_iload_n X dX10_orderLoss_20 rfl 2 rfl ?_
  refine x_iload_n X dX10_orderLoss_21 rfl 0 rfl ?_
  refine x_callVi X [.int a1, .int r12] [] dX10_orderLoss_22 (kX6_afterPlatoon x_pl33 h) cm_X6_afterPlatoon ci_X6_afterPlatoon w_5_132 dsX_33 ⟨by decide, by decide⟩ rfl (Nat.le_of_ble_eq_true rfl) (fun r22 σ22 τ22 h => ?_)
  refine x_istore X (lv' := [(4, .int r22), (3, .int r12), (0, .ref (ad 0)), (1, .int a1), (2, .int a2)]) dX10_orderLoss_25 (by decide) rfl ?_
  refine x_iload X dX10_orderLoss_27 0 rfl ?_
  refine x_iload_n X dX10_orderLoss_29 rfl 1 rfl ?_
  refine x_isub X dX10_orderLoss_30 ?_
  refine x_callSXv Y [.int (r22 - r12)] [] dX10_orderLoss_31 (kX10_checkOrdered h) cm_X10_checkOrdered w_6_84 rfl w_6_83 ⟨by decide, by decide⟩ (by decide) rfl (Nat.le_of_ble_eq_true rfl) (fun V σ31 τ31 Y h => ?_)
  have X := x_isX Y
  refine x_aload_n X dX10_orderLoss_34 rfl 2 rfl ?_
  refine x_getR X (j := 60) dX10_orderLoss_35 fl_10_72 dsX_0 rfl ?_
  refine x_iload_n X dX10_orderLoss_38 rfl 1 rfl ?_
  refine x_iload X dX10_orderLoss_39 0 rfl ?_
  refine x_callVv X [.int r12, .int r22] [] dX10_orderLoss_41 (kX0_search h) cm_X0_search ci_X0_search w_6_87 dsX_60 ⟨by decide, by decide⟩ rfl (Nat.le_of_ble_eq_true rfl) (fun σ41 τ41 h => ?_)
  refine x_aload_n X dX10_orderLoss_44 rfl 2 rfl ?_
  refine x_getR X (j := 60) dX10_orderLoss_45 fl_10_72 dsX_0 rfl ?_
  refine x_getI X dX10_orderLoss_48 fl_10_394 dsX_60 rfl ?_
  refine x_aload_n X dX10_orderLoss_51 rfl 2 rfl ?_
  refine x_getR X (j := 33) dX10_orderLoss_52 fl_10_51 dsX_0 rfl ?_
  refine x_aload_n X dX10_orderLoss_55 rfl 2 rfl ?_
  refine x_getR X (j := 33) dX10_orderLoss_56 fl_10_51 dsX_0 rfl ?_
  refine x_getR X (j := 39) dX10_orderLoss_59 fl_10_171 dsX_33 rfl ?_
  refine x_iload_n X dX10_orderLoss_62 rfl 1 rfl ?_
  refine x_iload X dX10_orderLoss_63 0 rfl ?_
  refine x_callVi X [.ref (ad 39), .int r12, .int r22] [.int (σ41 60 4)] dX10_orderLoss_65 (kX6_valueOfOrder x_pl33 dsX_39 h) cm_X6_valueOfOrder ci_X6_valueOfOrder w_6_109 dsX_33 ⟨by decide, by decide⟩ rfl (Nat.le_of_ble_eq_true rfl) (fun r65 σ65 τ65 h => ?_)
  refine x_isub X dX10_orderLoss_68 ?_
  exact x_iret X dX10_orderLoss_69 ⟨_, rfl, h⟩
theorem dX10_bestMember_0 : decode cX10_bestMember 0 = .ok (.aload_n 0, 1) := by decide +kernel
theorem dX10_bestMember_1 : decode cX10_bestMember 1 = .ok (.iload_n 1, 1) := by decide +kernel
theorem dX10_bestMember_2 : decode cX10_bestMember 2 = .ok (.iload_n 2, 1) := by decide +kernel
theorem dX10_bestMember_3 : decode cX10_bestMember 3 = .ok (.invokevirtual 286, 3) := by decide +kernel
theorem dX10_bestMember_6 : decode cX10_bestMember 6 = .ok (.iload_n 3, 1) := by decide +kernel
theorem dX10_bestMember_7 : decode cX10_bestMember 7 = .ok (.invokestatic 298, 3) := by decide +kernel
theorem dX10_bestMember_10 : decode cX10_bestMember 10 = .ok (.aload_n 0, 1) := by decide +kernel
theorem dX10_bestMember_11 : decode cX10_bestMember 11 = .ok (.getfield 51, 3) := by decide +kernel
theorem dX10_bestMember_14 : decode cX10_bestMember 14 = .ok (.iload_n 1, 1) := by decide +kernel
theorem dX10_bestMember_15 : decode cX10_bestMember 15 = .ok (.iload_n 2, 1) := by decide +kernel
theorem dX10_bestMember_16 : decode cX10_bestMember 16 = .ok (.invokevirtual 289, 3) := by decide +kernel
theorem dX10_bestMember_19 : decode cX10_bestMember 19 = .ok (.istore 4, 2) := by decide +kernel
theorem dX10_bestMember_21 : decode cX10_bestMember 21 = .ok (.aload_n 0, 1) := by decide +kernel
theorem dX10_bestMember_22 : decode cX10_bestMember 22 = .ok (.getfield 51, 3) := by decide +kernel
theorem dX10_bestMember_25 : decode cX10_bestMember 25 = .ok (.iload_n 1, 1) := by decide +kernel
theorem dX10_bestMember_26 : decode cX10_bestMember 26 = .ok (.iload 4, 2) := by decide +kernel
theorem dX10_bestMember_28 : decode cX10_bestMember 28 = .ok (.invokevirtual 292, 3) := by decide +kernel
theorem dX10_bestMember_31 : decode cX10_bestMember 31 = .ok (.istore 5, 2) := by decide +kernel
theorem dX10_bestMember_33 : decode cX10_bestMember 33 = .ok (.iload 5, 2) := by decide +kernel
theorem dX10_bestMember_35 : decode cX10_bestMember 35 = .ok (.iload 4, 2) := by decide +kernel
theorem dX10_bestMember_37 : decode cX10_bestMember 37 = .ok (.isub, 1) := by decide +kernel
theorem dX10_bestMember_38 : decode cX10_bestMember 38 = .ok (.invokestatic 388, 3) := by decide +kernel
theorem dX10_bestMember_41 : decode cX10_bestMember 41 = .ok (.iload_n 3, 1) := by decide +kernel
theorem dX10_bestMember_42 : decode cX10_bestMember 42 = .ok (.iload 5, 2) := by decide +kernel
theorem dX10_bestMember_44 : decode cX10_bestMember 44 = .ok (.iload 4, 2) := by decide +kernel
theorem dX10_bestMember_46 : decode cX10_bestMember 46 = .ok (.isub, 1) := by decide +kernel
theorem dX10_bestMember_47 : decode cX10_bestMember 47 = .ok (.if_icmp .lt 5, 3) := by decide +kernel
theorem dX10_bestMember_50 : decode cX10_bestMember 50 = .ok (.iconst (-1), 1) := by decide +kernel
theorem dX10_bestMember_51 : decode cX10_bestMember 51 = .ok (.ireturn, 1) := by decide +kernel
theorem dX10_bestMember_52 : decode cX10_bestMember 52 = .ok (.aload_n 0, 1) := by decide +kernel
theorem dX10_bestMember_53 : decode cX10_bestMember 53 = .ok (.getfield 72, 3) := by decide +kernel
theorem dX10_bestMember_56 : decode cX10_bestMember 56 = .ok (.iload 4, 2) := by decide +kernel
theorem dX10_bestMember_58 : decode cX10_bestMember 58 = .ok (.iload 5, 2) := by decide +kernel
theorem dX10_bestMember_60 : decode cX10_bestMember 60 = .ok (.invokevirtual 391, 3) := by decide +kernel
theorem dX10_bestMember_63 : decode cX10_bestMember 63 = .ok (.aload_n 0, 1) := by decide +kernel
theorem dX10_bestMember_64 : decode cX10_bestMember 64 = .ok (.getfield 72, 3) := by decide +kernel
theorem dX10_bestMember_67 : decode cX10_bestMember 67 = .ok (.getfield 401, 3) := by decide +kernel
theorem dX10_bestMember_70 : decode cX10_bestMember 70 = .ok (.iload_n 3, 1) := by decide +kernel
theorem dX10_bestMember_71 : decode cX10_bestMember 71 = .ok (.iaload, 1) := by decide +kernel
theorem dX10_bestMember_72 : decode cX10_bestMember 72 = .ok (.bipush 10, 2) := by decide +kernel
theorem dX10_bestMember_74 : decode cX10_bestMember 74 = .ok (.idiv, 1) := by decide +kernel
theorem dX10_bestMember_75 : decode cX10_bestMember 75 = .ok (.ireturn, 1) := by decide +kernel
theorem cm_X10_bestMember : x_CM yX10_bestMember cX10_bestMember 6 (Option.some FieldType.int) 3 := ⟨w_6_116, w_1_1, by decide +kernel, by decide +kernel⟩
theorem ci_X10_bestMember : x_CI yX10_bestMember 12 := ⟨w_6_114, w_6_115, (RX10, TX10, 12), rfl, rfl⟩
set_option maxRecDepth 100000 in
set_option maxHeartbeats 4000000 in
theorem kX10_bestMember {ad : Nat → Nat} {a1 : Int32} {a2 : Int32} {a3 : Int32} {σ : x_S} {τ : x_L} {Q : Int32 → x_S → x_L → Prop} {QX : x_PE} (h : wX10_bestMember a1 a2 a3 σ τ Q QX) : x_MetX yX10_bestMember cX10_bestMember 6 (Option.some FieldType.int) 7 4 ad dsX [.ref (ad 0), .int a1, .int a2, .int a3] σ τ (x_PI Q) QX := by
  refine x_metX (by decide +kernel) (Nat.le_of_ble_eq_true rfl) (fun V Y => ?_)
  have Y : x_IsX V cX10_bestMember 6 RX10 (Option.some FieldType.int) ad dsX 7 (x_PI Q) QX 0 4 := Y
  have X := x_isX Y
  show V σ τ 0 [(0, .ref (ad 0)), (1, .int a1), (2, .int a2), (3, .int a3)] []
  refine x_aload_n X dX10_bestMember_0 rfl 0 rfl ?_
  refine x_iload_n X dX10_bestMember_1 rfl 1 rfl ?_
  refine x_iload_n X dX10_bestMember_2 rfl 2 rfl ?_
  refine x_callVXv Y [.int a1, .int a2] [] dX10_bestMember_3 (kX10_checkPlatoon h) cm_X10_checkPlatoon ci_X10_checkPlatoon w_5_123 dsX_0 ⟨by decide, by decide⟩ (by decide) rfl (Nat.le_of_ble_eq_true rfl) (fun V σ3 τ3 Y h => ?_)
  have X := x_isX Y
  refine x_iload_n X dX10_bestMember_6 rfl 3 rfl ?_
  refine x_callSXv Y [.int a3] [] dX10_bestMember_7 (kX10_checkPosition h) cm_X10_checkPosition w_5_148 rfl w_5_147 ⟨by decide, by decide⟩ (by decide) rfl (Nat.le_of_ble_eq_true rfl) (fun V σ7 τ7 Y h => ?_)
  have X := x_isX Y
  refine x_aload_n X dX10_bestMember_10 rfl 0 rfl ?_
  refine x_getR X (j := 33) dX10_bestMember_11 fl_10_51 dsX_0 rfl ?_
  refine x_iload_n X dX10_bestMember_14 rfl 1 rfl ?_
  refine x_iload_n X dX10_bestMember_15 rfl 2 rfl ?_
  refine x_callVi X [.int a1, .int a2] [] dX10_bestMember_16 (kX6_firstOf x_pl33 h) cm_X6_firstOf ci_X6_firstOf w_5_128 dsX_33 ⟨by decide, by decide⟩ rfl (Nat.le_of_ble_eq_true rfl) (fun r16 σ16 τ16 h => ?_)
  refine x_istore X (lv' := [(4, .int r16), (0, .ref (ad 0)), (1, .int a1), (2, .int a2), (3, .int a3)]) dX10_bestMember_19 (by decide) rfl ?_
  refine x_aload_n X dX10_bestMember_21 rfl 1 rfl ?_
  refine x_getR X (j := 33) dX10_bestMember_22 fl_10_51 dsX_0 rfl ?_
  refine x_iload_n X dX10_bestMember_25 rfl 2 rfl ?_
  refine x_iload X dX10_bestMember_26 0 rfl ?_
  refine x_callVi X [.int a1, .int r16] [] dX10_bestMember_28 (kX6_afterPlatoon x_pl33 h) cm_X6_afterPlatoon ci_X6_afterPlatoon w_5_132 dsX_33 ⟨by decide, by decide⟩ rfl (Nat.le_of_ble_eq_true rfl) (fun r28 σ28 τ28 h => ?_)
  refine x_istore X (lv' := [(5, .int r28), (4, .int r16), (0, .ref (ad 0)), (1, .int a1), (2, .int a2), (3, .int a3)]) dX10_bestMember_31 (by decide) rfl ?_
  refine x_iload X dX10_bestMember_33 0 rfl ?_
  refine x_iload X dX10_bestMember_35 1 rfl ?_
  refine x_isub X dX10_bestMember_37 ?_
  refine x_callSXv Y [.int (r28 - r16)] [] dX10_bestMember_38 (kX10_checkOrdered h) cm_X10_checkOrdered w_6_84 rfl w_6_83 ⟨by decide, by decide⟩ (by decide) rfl (Nat.le_of_ble_eq_true rfl) (fun V σ38 τ38 Y h => ?_)
  have X := x_isX Y
  refine x_iload_n X dX10_bestMember_41 rfl 5 rfl ?_
  refine x_iload X dX10_bestMember_42 0 rfl ?_
  refine x_iload X dX10_bestMember_44 1 rfl ?_
  refine x_isub X dX10_bestMember_46 ?_
  refine x_icmp_lt X 52 dX10_bestMember_47 (by decide) (fun hc => ?_) (fun hc => ?_)
  · have h := h.1 hc
    refine x_aload_n X dX10_bestMember_52 rfl 2 rfl ?_
    refine x_getR X (j := 60) dX10_bestMember_53 fl_10_72 dsX_0 rfl ?_
    refine x_iload X dX10_bestMember_56 1 rfl ?_
    refine x_iload X dX10_bestMember_58 0 rfl ?_
    refine x_callVv X [.int r16, .int r28] [] dX10_bestMember_60 (kX0_search h) cm_X0_search ci_X0_search w_6_87 dsX_60 ⟨by decide, by decide⟩ rfl (Nat.le_of_ble_eq_true rfl) (fun σ60 τ60 h => ?_)
    refine x_aload_n X dX10_bestMember_63 rfl 2 rfl ?_
    refine x_getR X (j := 60) dX10_bestMember_64 fl_10_72 dsX_0 rfl ?_
    refine x_getR X (j := 62) dX10_bestMember_67 fl_10_401 dsX_60 rfl ?_
    refine x_iload_n X dX10_bestMember_70 rfl 5 rfl ?_
    have g71 := h.1
    have h := h.2
    refine x_iald X dX10_bestMember_71 dsX_62 g71 ?_
    refine x_bipush X dX10_bestMember_72 kb_10 ?_
    refine x_idiv X dX10_bestMember_74 (by decide) ?_
    exact x_iret X dX10_bestMember_75 ⟨_, rfl, h⟩
  · have h := h.2 hc
    refine x_iconst X dX10_bestMember_50 ki_m1 ?_
    exact x_iret X dX10_bestMember_51 ⟨_, rfl, h⟩
theorem dX10_rate_0 : decode cX10_rate 0 = .ok (.aload_n 0, 1) := by decide +kernel
theorem dX10_rate_1 : decode cX10_rate 1 = .ok (.iload_n 1, 1) := by decide +kernel
theorem dX10_rate_2 : decode cX10_rate 2 = .ok (.invokevirtual 209, 3) := by decide +kernel
theorem dX10_rate_5 : decode cX10_rate 5 = .ok (.aload_n 0, 1) := by decide +kernel
theorem dX10_rate_6 : decode cX10_rate 6 = .ok (.getfield 19, 3) := by decide +kernel
theorem dX10_rate_9 : decode cX10_rate 9 = .ok (.iload_n 1, 1) := by decide +kernel
theorem dX10_rate_10 : decode cX10_rate 10 = .ok (.invokevirtual 227, 3) := by decide +kernel
theorem dX10_rate_13 : decode cX10_rate 13 = .ok (.istore_n 2, 1) := by decide +kernel
theorem dX10_rate_14 : decode cX10_rate 14 = .ok (.iload_n 2, 1) := by decide +kernel
theorem dX10_rate_15 : decode cX10_rate 15 = .ok (.ifCond .ne 7, 3) := by decide +kernel
theorem dX10_rate_18 : decode cX10_rate 18 = .ok (.fconst 0, 1) := by decide +kernel
theorem dX10_rate_19 : decode cX10_rate 19 = .ok (.goto 15, 3) := by decide +kernel
theorem dX10_rate_22 : decode cX10_rate 22 = .ok (.aload_n 0, 1) := by decide +kernel
theorem dX10_rate_23 : decode cX10_rate 23 = .ok (.getfield 51, 3) := by decide +kernel
theorem dX10_rate_26 : decode cX10_rate 26 = .ok (.iload_n 1, 1) := by decide +kernel
theorem dX10_rate_27 : decode cX10_rate 27 = .ok (.invokevirtual 230, 3) := by decide +kernel
theorem dX10_rate_30 : decode cX10_rate 30 = .ok (.i2f, 1) := by decide +kernel
theorem dX10_rate_31 : decode cX10_rate 31 = .ok (.iload_n 2, 1) := by decide +kernel
theorem dX10_rate_32 : decode cX10_rate 32 = .ok (.i2f, 1) := by decide +kernel
theorem dX10_rate_33 : decode cX10_rate 33 = .ok (.fdiv, 1) := by decide +kernel
theorem dX10_rate_34 : decode cX10_rate 34 = .ok (.freturn, 1) := by decide +kernel
theorem cm_X10_rate : x_CM yX10_rate cX10_rate 3 (Option.some FieldType.float) 1 := ⟨w_6_123, w_1_1, by decide +kernel, by decide +kernel⟩
theorem ci_X10_rate : x_CI yX10_rate 12 := ⟨w_6_121, w_6_122, (RX10, TX10, 12), rfl, rfl⟩
set_option maxRecDepth 100000 in
set_option maxHeartbeats 4000000 in
theorem bX10_rate_34 {V : x_J} {ad : Nat → Nat} {Q : UInt32 → x_S → x_L → Prop} {QX : x_PE} (Y : x_IsX V cX10_rate 3 RX10 (Option.some FieldType.float) ad dsX 7 (x_PF Q) QX 1 4) {s0 : UInt32} {σ : x_S} {τ : x_L} (h : wX10_rate_34 Q QX s0 σ τ) : V σ τ 34 [] [.float s0] := by
  have X := x_isX Y
  exact x_fret X dX10_rate_34 ⟨_, rfl, h⟩
set_option maxRecDepth 100000 in
set_option maxHeartbeats 4000000 in
theorem kX10_rate {ad : Nat → Nat} {a1 : Int32} {σ : x_S} {τ : x_L} {Q : UInt32 → x_S → x_L → Prop} {QX : x_PE} (h : wX10_rate a1 σ τ Q QX) : x_MetX yX10_rate cX10_rate 3 (Option.some FieldType.float) 7 4 ad dsX [.ref (ad 0), .int a1] σ τ (x_PF Q) QX := by
  refine x_metX (by decide +kernel) (Nat.le_of_ble_eq_true rfl) (fun V Y => ?_)
  have Y : x_IsX V cX10_rate 3 RX10 (Option.some FieldType.float) ad dsX 7 (x_PF Q) QX 0 4 := Y
  have X := x_isX Y
  show V σ τ 0 [(0, .ref (ad 0)), (1, .int a1)] []
  refine x_aload_n X dX10_rate_0 rfl 0 rfl ?_
  refine x_iload_n X dX10_rate_1 rfl 1 rfl ?_
  refine x_callVXv Y [.int a1] [] dX10_rate_2 (kX10_checkTruck h) cm_X10_checkTruck ci_X10_checkTruck w_5_57 dsX_0 ⟨by decide, by decide⟩ (by decide) rfl (Nat.le_of_ble_eq_true rfl) (fun V σ2 τ2 Y h => ?_)
  have X := x_isX Y
  refine x_aload_n X dX10_rate_5 rfl 0 rfl ?_
  refine x_getR X (j := 3) dX10_rate_6 fl_10_19 dsX_0 rfl ?_
  refine x_iload_n X dX10_rate_9 rfl 1 rfl ?_
  refine x_callVi X [.int a1] [] dX10_rate_10 (kX1_kilometers h) cm_X1_kilometers ci_X1_kilometers w_5_63 dsX_3 ⟨by decide, by decide⟩ rfl (Nat.le_of_ble_eq_true rfl) (fun r10 σ10 τ10 h => ?_)
  refine x_istore_n X (lv' := [(2, .int r10), (0, .ref (ad 0)), (1, .int a1)]) dX10_rate_13 rfl (by decide) rfl ?_
  refine x_iload_n X dX10_rate_14 rfl 0 rfl ?_
  refine x_if_ne X 22 dX10_rate_15 (by decide) (fun hc => ?_) (fun hc => ?_)
  · have h := h.1 hc
    refine x_aload_n X dX10_rate_22 rfl 1 rfl ?_
    refine x_getR X (j := 33) dX10_rate_23 fl_10_51 dsX_0 rfl ?_
    refine x_iload_n X dX10_rate_26 rfl 2 rfl ?_
    refine x_callVi X [.int a1] [] dX10_rate_27 (kX6_fuelOf x_pl33 h) cm_X6_fuelOf ci_X6_fuelOf w_5_68 dsX_33 ⟨by decide, by decide⟩ rfl (Nat.le_of_ble_eq_true rfl) (fun r27 σ27 τ27 h => ?_)
    refine x_i2f X dX10_rate_30 ?_
    refine x_iload_n X dX10_rate_31 rfl 0 rfl ?_
    refine x_i2f X dX10_rate_32 ?_
    refine x_fdiv X dX10_rate_33 h.1 ?_
    have h := h.2
    refine x_sub X [] (lv' := []) rfl ?_
    exact bX10_rate_34 Y h
  · have h := h.2 hc
    refine x_fconst0 X dX10_rate_18 ?_
    refine x_goto X (tgt := 34) dX10_rate_19 (by decide) ?_
    refine x_sub X [] (lv' := []) rfl ?_
    exact bX10_rate_34 Y h
