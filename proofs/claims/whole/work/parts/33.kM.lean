theorem dX11_mergedBest_0 : decode cX11_mergedBest 0 = .ok (.aload_n 0, 1) := by decide +kernel
theorem dX11_mergedBest_1 : decode cX11_mergedBest 1 = .ok (.invokevirtual 200, 3) := by decide +kernel
theorem dX11_mergedBest_4 : decode cX11_mergedBest 4 = .ok (.aload_n 0, 1) := by decide +kernel
theorem dX11_mergedBest_5 : decode cX11_mergedBest 5 = .ok (.iconst 0, 1) := by decide +kernel
theorem dX11_mergedBest_6 : decode cX11_mergedBest 6 = .ok (.invokevirtual 217, 3) := by decide +kernel
theorem dX11_mergedBest_9 : decode cX11_mergedBest 9 = .ok (.istore_n 1, 1) := by decide +kernel
theorem dX11_mergedBest_10 : decode cX11_mergedBest 10 = .ok (.iconst (-1), 1) := by decide +kernel
theorem dX11_mergedBest_11 : decode cX11_mergedBest 11 = .ok (.istore_n 2, 1) := by decide +kernel
theorem dX11_mergedBest_12 : decode cX11_mergedBest 12 = .ok (.iconst (-1), 1) := by decide +kernel
theorem dX11_mergedBest_13 : decode cX11_mergedBest 13 = .ok (.istore_n 3, 1) := by decide +kernel
theorem dX11_mergedBest_14 : decode cX11_mergedBest 14 = .ok (.iconst 0, 1) := by decide +kernel
theorem dX11_mergedBest_15 : decode cX11_mergedBest 15 = .ok (.istore 4, 2) := by decide +kernel
theorem dX11_mergedBest_17 : decode cX11_mergedBest 17 = .ok (.iconst 0, 1) := by decide +kernel
theorem dX11_mergedBest_18 : decode cX11_mergedBest 18 = .ok (.istore 5, 2) := by decide +kernel
theorem dX11_mergedBest_20 : decode cX11_mergedBest 20 = .ok (.iload 5, 2) := by decide +kernel
theorem dX11_mergedBest_22 : decode cX11_mergedBest 22 = .ok (.aload_n 0, 1) := by decide +kernel
theorem dX11_mergedBest_23 : decode cX11_mergedBest 23 = .ok (.getfield 17, 3) := by decide +kernel
theorem dX11_mergedBest_26 : decode cX11_mergedBest 26 = .ok (.iconst 1, 1) := by decide +kernel
theorem dX11_mergedBest_27 : decode cX11_mergedBest 27 = .ok (.iaload, 1) := by decide +kernel
theorem dX11_mergedBest_28 : decode cX11_mergedBest 28 = .ok (.if_icmp .ge 78, 3) := by decide +kernel
theorem dX11_mergedBest_31 : decode cX11_mergedBest 31 = .ok (.iload 5, 2) := by decide +kernel
theorem dX11_mergedBest_33 : decode cX11_mergedBest 33 = .ok (.iconst 1, 1) := by decide +kernel
theorem dX11_mergedBest_34 : decode cX11_mergedBest 34 = .ok (.iadd, 1) := by decide +kernel
theorem dX11_mergedBest_35 : decode cX11_mergedBest 35 = .ok (.istore 6, 2) := by decide +kernel
theorem dX11_mergedBest_37 : decode cX11_mergedBest 37 = .ok (.iload 6, 2) := by decide +kernel
theorem dX11_mergedBest_39 : decode cX11_mergedBest 39 = .ok (.aload_n 0, 1) := by decide +kernel
theorem dX11_mergedBest_40 : decode cX11_mergedBest 40 = .ok (.getfield 17, 3) := by decide +kernel
theorem dX11_mergedBest_43 : decode cX11_mergedBest 43 = .ok (.iconst 1, 1) := by decide +kernel
theorem dX11_mergedBest_44 : decode cX11_mergedBest 44 = .ok (.iaload, 1) := by decide +kernel
theorem dX11_mergedBest_45 : decode cX11_mergedBest 45 = .ok (.if_icmp .ge 55, 3) := by decide +kernel
theorem dX11_mergedBest_48 : decode cX11_mergedBest 48 = .ok (.aload_n 0, 1) := by decide +kernel
theorem dX11_mergedBest_49 : decode cX11_mergedBest 49 = .ok (.iload 5, 2) := by decide +kernel
theorem dX11_mergedBest_51 : decode cX11_mergedBest 51 = .ok (.iload 6, 2) := by decide +kernel
theorem dX11_mergedBest_53 : decode cX11_mergedBest 53 = .ok (.invokevirtual 315, 3) := by decide +kernel
theorem dX11_mergedBest_56 : decode cX11_mergedBest 56 = .ok (.ifCond .le 7, 3) := by decide +kernel
theorem dX11_mergedBest_59 : decode cX11_mergedBest 59 = .ok (.iconst 0, 1) := by decide +kernel
theorem dX11_mergedBest_60 : decode cX11_mergedBest 60 = .ok (.goto 12, 3) := by decide +kernel
theorem dX11_mergedBest_63 : decode cX11_mergedBest 63 = .ok (.aload_n 0, 1) := by decide +kernel
theorem dX11_mergedBest_64 : decode cX11_mergedBest 64 = .ok (.iload 5, 2) := by decide +kernel
theorem dX11_mergedBest_66 : decode cX11_mergedBest 66 = .ok (.iload 6, 2) := by decide +kernel
theorem dX11_mergedBest_68 : decode cX11_mergedBest 68 = .ok (.iload_n 1, 1) := by decide +kernel
theorem dX11_mergedBest_69 : decode cX11_mergedBest 69 = .ok (.invokevirtual 321, 3) := by decide +kernel
theorem dX11_mergedBest_72 : decode cX11_mergedBest 72 = .ok (.istore 7, 2) := by decide +kernel
theorem dX11_mergedBest_74 : decode cX11_mergedBest 74 = .ok (.iload 7, 2) := by decide +kernel
theorem dX11_mergedBest_76 : decode cX11_mergedBest 76 = .ok (.iload 4, 2) := by decide +kernel
theorem dX11_mergedBest_78 : decode cX11_mergedBest 78 = .ok (.if_icmp .gt 6, 3) := by decide +kernel
theorem dX11_mergedBest_81 : decode cX11_mergedBest 81 = .ok (.goto 13, 3) := by decide +kernel
theorem dX11_mergedBest_84 : decode cX11_mergedBest 84 = .ok (.iload 5, 2) := by decide +kernel
theorem dX11_mergedBest_86 : decode cX11_mergedBest 86 = .ok (.istore_n 2, 1) := by decide +kernel
theorem dX11_mergedBest_87 : decode cX11_mergedBest 87 = .ok (.iload 6, 2) := by decide +kernel
theorem dX11_mergedBest_89 : decode cX11_mergedBest 89 = .ok (.istore_n 3, 1) := by decide +kernel
theorem dX11_mergedBest_90 : decode cX11_mergedBest 90 = .ok (.iload 7, 2) := by decide +kernel
theorem dX11_mergedBest_92 : decode cX11_mergedBest 92 = .ok (.istore 4, 2) := by decide +kernel
theorem dX11_mergedBest_94 : decode cX11_mergedBest 94 = .ok (.iinc 6 1, 3) := by decide +kernel
theorem dX11_mergedBest_97 : decode cX11_mergedBest 97 = .ok (.goto (-60), 3) := by decide +kernel
theorem dX11_mergedBest_100 : decode cX11_mergedBest 100 = .ok (.iinc 5 1, 3) := by decide +kernel
theorem dX11_mergedBest_103 : decode cX11_mergedBest 103 = .ok (.goto (-83), 3) := by decide +kernel
theorem dX11_mergedBest_106 : decode cX11_mergedBest 106 = .ok (.iload 4, 2) := by decide +kernel
theorem dX11_mergedBest_108 : decode cX11_mergedBest 108 = .ok (.ifCond .ne 5, 3) := by decide +kernel
theorem dX11_mergedBest_111 : decode cX11_mergedBest 111 = .ok (.iconst 0, 1) := by decide +kernel
theorem dX11_mergedBest_112 : decode cX11_mergedBest 112 = .ok (.ireturn, 1) := by decide +kernel
theorem dX11_mergedBest_113 : decode cX11_mergedBest 113 = .ok (.aload_n 0, 1) := by decide +kernel
theorem dX11_mergedBest_114 : decode cX11_mergedBest 114 = .ok (.iload_n 2, 1) := by decide +kernel
theorem dX11_mergedBest_115 : decode cX11_mergedBest 115 = .ok (.iload_n 3, 1) := by decide +kernel
theorem dX11_mergedBest_116 : decode cX11_mergedBest 116 = .ok (.invokevirtual 278, 3) := by decide +kernel
theorem dX11_mergedBest_119 : decode cX11_mergedBest 119 = .ok (.aload_n 0, 1) := by decide +kernel
theorem dX11_mergedBest_120 : decode cX11_mergedBest 120 = .ok (.iload_n 2, 1) := by decide +kernel
theorem dX11_mergedBest_121 : decode cX11_mergedBest 121 = .ok (.iload_n 3, 1) := by decide +kernel
theorem dX11_mergedBest_122 : decode cX11_mergedBest 122 = .ok (.invokevirtual 307, 3) := by decide +kernel
theorem dX11_mergedBest_125 : decode cX11_mergedBest 125 = .ok (.iconst 1, 1) := by decide +kernel
theorem dX11_mergedBest_126 : decode cX11_mergedBest 126 = .ok (.ireturn, 1) := by decide +kernel
theorem cm_X11_mergedBest : x_CM yX11_mergedBest cX11_mergedBest 8 (Option.some FieldType.boolean) 0 := ⟨w_8_206, w_1_12, by decide +kernel, by decide +kernel⟩
theorem ci_X11_mergedBest : x_CI yX11_mergedBest 13 := ⟨w_8_205, wp_101, (RX11, TX11, 41), rfl, rfl⟩
set_option maxRecDepth 100000 in
set_option maxHeartbeats 4000000 in
theorem bX11_mergedBest_94 {V : x_J} {ad : Nat → Nat} {Q : Int32 → x_S → x_L → Prop} (X : x_Is V cX11_mergedBest 8 RX11 (Option.some FieldType.boolean) ad dsM 7 (x_PI Q)) {K20 : Int32 → Int32 → Int32 → Int32 → Int32 → x_S → x_L → Prop} {K37 : Int32 → Int32 → Int32 → Int32 → Int32 → Int32 → x_S → x_L → Prop} (hK20 : ∀ v1 v2 v3 v4 v5 σ τ, K20 v1 v2 v3 v4 v5 σ τ → V σ τ 20 [(0, .ref (ad 0)), (1, .int v1), (2, .int v2), (3, .int v3), (4, .int v4), (5, .int v5)] []) (hK37 : ∀ v1 v2 v3 v4 v5 v6 σ τ, K37 v1 v2 v3 v4 v5 v6 σ τ → V σ τ 37 [(0, .ref (ad 0)), (1, .int v1), (2, .int v2), (3, .int v3), (4, .int v4), (5, .int v5), (6, .int v6)] []) {v1 : Int32} {v2 : Int32} {v3 : Int32} {v4 : Int32} {v5 : Int32} {v6 : Int32} {σ : x_S} {τ : x_L} (h : wX11_mergedBest_94 K20 K37 Q v1 v2 v3 v4 v5 v6 σ τ) : V σ τ 94 [(0, .ref (ad 0)), (1, .int v1), (2, .int v2), (3, .int v3), (4, .int v4), (5, .int v5), (6, .int v6)] [] := by
  refine x_iinc X (k := 6) (lv' := [(6, .int (v6 + 1)), (0, .ref (ad 0)), (1, .int v1), (2, .int v2), (3, .int v3), (4, .int v4), (5, .int v5)]) dX11_mergedBest_94 rfl ki_1 (by decide) rfl ?_
  refine x_goto X (tgt := 37) dX11_mergedBest_97 (by decide) ?_
  refine x_sub X [1, 2, 3, 4, 5, 6, 0] (lv' := [(0, .ref (ad 0)), (1, .int v1), (2, .int v2), (3, .int v3), (4, .int v4), (5, .int v5), (6, .int (v6 + 1))]) rfl ?_
  exact hK37 _ _ _ _ _ _ _ _ h
set_option maxRecDepth 100000 in
set_option maxHeartbeats 4000000 in
theorem bX11_mergedBest_72 {V : x_J} {ad : Nat → Nat} {Q : Int32 → x_S → x_L → Prop} (X : x_Is V cX11_mergedBest 8 RX11 (Option.some FieldType.boolean) ad dsM 7 (x_PI Q)) {K20 : Int32 → Int32 → Int32 → Int32 → Int32 → x_S → x_L → Prop} {K37 : Int32 → Int32 → Int32 → Int32 → Int32 → Int32 → x_S → x_L → Prop} (hK20 : ∀ v1 v2 v3 v4 v5 σ τ, K20 v1 v2 v3 v4 v5 σ τ → V σ τ 20 [(0, .ref (ad 0)), (1, .int v1), (2, .int v2), (3, .int v3), (4, .int v4), (5, .int v5)] []) (hK37 : ∀ v1 v2 v3 v4 v5 v6 σ τ, K37 v1 v2 v3 v4 v5 v6 σ τ → V σ τ 37 [(0, .ref (ad 0)), (1, .int v1), (2, .int v2), (3, .int v3), (4, .int v4), (5, .int v5), (6, .int v6)] []) {v1 : Int32} {v2 : Int32} {v3 : Int32} {v4 : Int32} {v5 : Int32} {v6 : Int32} {s0 : Int32} {σ : x_S} {τ : x_L} (h : wX11_mergedBest_72 K20 K37 Q v1 v2 v3 v4 v5 v6 s0 σ τ) : V σ τ 72 [(0, .ref (ad 0)), (1, .int v1), (2, .int v2), (3, .int v3), (4, .int v4), (5, .int v5), (6, .int v6)] [.int s0] := by
  refine x_istore X (lv' := [(7, .int s0), (0, .ref (ad 0)), (1, .int v1), (2, .int v2), (3, .int v3), (4, .int v4), (5, .int v5), (6, .int v6)]) dX11_mergedBest_72 (by decide) rfl ?_
  refine x_iload X dX11_mergedBest_74 0 rfl ?_
  refine x_iload X dX11_mergedBest_76 5 rfl ?_
  refine x_icmp_gt X 84 dX11_mergedBest_78 (by decide) (fun hc => ?_) (fun hc => ?_)
  · have h := h.1 hc
    refine x_iload X dX11_mergedBest_84 6 rfl ?_
    refine x_istore_n X (lv' := [(2, .int v5), (7, .int s0), (0, .ref (ad 0)), (1, .int v1), (3, .int v3), (4, .int v4), (5, .int v5), (6, .int v6)]) dX11_mergedBest_86 rfl (by decide) rfl ?_
    refine x_iload X dX11_mergedBest_87 7 rfl ?_
    refine x_istore_n X (lv' := [(3, .int v6), (2, .int v5), (7, .int s0), (0, .ref (ad 0)), (1, .int v1), (4, .int v4), (5, .int v5), (6, .int v6)]) dX11_mergedBest_89 rfl (by decide) rfl ?_
    refine x_iload X dX11_mergedBest_90 2 rfl ?_
    refine x_istore X (lv' := [(4, .int s0), (3, .int v6), (2, .int v5), (7, .int s0), (0, .ref (ad 0)), (1, .int v1), (5, .int v5), (6, .int v6)]) dX11_mergedBest_92 (by decide) rfl ?_
    refine x_sub X [4, 5, 2, 1, 0, 6, 7] (lv' := [(0, .ref (ad 0)), (1, .int v1), (2, .int v5), (3, .int v6), (4, .int s0), (5, .int v5), (6, .int v6)]) rfl ?_
    exact bX11_mergedBest_94 X hK20 hK37 h
  · have h := h.2 hc
    refine x_goto X (tgt := 94) dX11_mergedBest_81 (by decide) ?_
    refine x_sub X [1, 2, 3, 4, 5, 6, 7] (lv' := [(0, .ref (ad 0)), (1, .int v1), (2, .int v2), (3, .int v3), (4, .int v4), (5, .int v5), (6, .int v6)]) rfl ?_
    exact bX11_mergedBest_94 X hK20 hK37 h
set_option maxRecDepth 100000 in
set_option maxHeartbeats 4000000 in
theorem bX11_mergedBest_37 {V : x_J} {ad : Nat → Nat} {Q : Int32 → x_S → x_L → Prop} (X : x_Is V cX11_mergedBest 8 RX11 (Option.some FieldType.boolean) ad dsM 7 (x_PI Q)) {K20 : Int32 → Int32 → Int32 → Int32 → Int32 → x_S → x_L → Prop} {K37 : Int32 → Int32 → Int32 → Int32 → Int32 → Int32 → x_S → x_L → Prop} (hK20 : ∀ v1 v2 v3 v4 v5 σ τ, K20 v1 v2 v3 v4 v5 σ τ → V σ τ 20 [(0, .ref (ad 0)), (1, .int v1), (2, .int v2), (3, .int v3), (4, .int v4), (5, .int v5)] []) (hK37 : ∀ v1 v2 v3 v4 v5 v6 σ τ, K37 v1 v2 v3 v4 v5 v6 σ τ → V σ τ 37 [(0, .ref (ad 0)), (1, .int v1), (2, .int v2), (3, .int v3), (4, .int v4), (5, .int v5), (6, .int v6)] []) {v1 : Int32} {v2 : Int32} {v3 : Int32} {v4 : Int32} {v5 : Int32} {v6 : Int32} {σ : x_S} {τ : x_L} (h : wX11_mergedBest_37 K20 Q K37 v1 v2 v3 v4 v5 v6 σ τ) : V σ τ 37 [(0, .ref (ad 0)), (1, .int v1), (2, .int v2), (3, .int v3), (4, .int v4), (5, .int v5), (6, .int v6)] [] := by
  refine x_iload X dX11_mergedBest_37 6 rfl ?_
  refine x_aload_n X dX11_mergedBest_39 rfl 0 rfl ?_
  refine x_getR X (j := 3) dX11_mergedBest_40 fl_11_17 dsM_0 rfl ?_
  refine x_iconst X dX11_mergedBest_43 ki_1 ?_
  refine x_iald X dX11_mergedBest_44 dsM_3 (x_inl (by decide)) ?_
  refine x_icmp_ge X 100 dX11_mergedBest_45 (by decide) (fun hc => ?_) (fun hc => ?_)
  · have h := h.1 hc
    refine x_iinc X (k := 5) (lv' := [(5, .int (v5 + 1)), (0, .ref (ad 0)), (1, .int v1), (2, .int v2), (3, .int v3), (4, .int v4), (6, .int v6)]) dX11_mergedBest_100 rfl ki_1 (by decide) rfl ?_
    refine x_goto X (tgt := 20) dX11_mergedBest_103 (by decide) ?_
    refine x_sub X [1, 2, 3, 4, 5, 0] (lv' := [(0, .ref (ad 0)), (1, .int v1), (2, .int v2), (3, .int v3), (4, .int v4), (5, .int (v5 + 1))]) rfl ?_
    exact hK20 _ _ _ _ _ _ _ h
  · have h := h.2 hc
    refine x_aload_n X dX11_mergedBest_48 rfl 0 rfl ?_
    refine x_iload X dX11_mergedBest_49 5 rfl ?_
    refine x_iload X dX11_mergedBest_51 6 rfl ?_
    refine x_callVi X [.int v5, .int v6] [] dX11_mergedBest_53 (kX11_reasonNow h) cm_X11_reasonNow ci_X11_reasonNow w_8_159 dsM_0 ⟨by decide, by decide⟩ rfl (Nat.le_of_ble_eq_true rfl) (fun r53 σ53 τ53 h => ?_)
    refine x_if_le X 63 dX11_mergedBest_56 (by decide) (fun hc => ?_) (fun hc => ?_)
    · have h := h.1 hc
      refine x_aload_n X dX11_mergedBest_63 rfl 0 rfl ?_
      refine x_iload X dX11_mergedBest_64 5 rfl ?_
      refine x_iload X dX11_mergedBest_66 6 rfl ?_
      refine x_iload_n X dX11_mergedBest_68 rfl 1 rfl ?_
      refine x_callVi X [.int v5, .int v6, .int v1] [] dX11_mergedBest_69 (kX11_gainNow h) cm_X11_gainNow ci_X11_gainNow w_8_187 dsM_0 ⟨by decide, by decide⟩ rfl (Nat.le_of_ble_eq_true rfl) (fun r69 σ69 τ69 h => ?_)
      exact bX11_mergedBest_72 X hK20 hK37 h
    · have h := h.2 hc
      refine x_iconst X dX11_mergedBest_59 ki_0 ?_
      refine x_goto X (tgt := 72) dX11_mergedBest_60 (by decide) ?_
      exact bX11_mergedBest_72 X hK20 hK37 h
set_option maxRecDepth 100000 in
set_option maxHeartbeats 4000000 in
theorem bX11_mergedBest_20 {V : x_J} {ad : Nat → Nat} {Q : Int32 → x_S → x_L → Prop} (X : x_Is V cX11_mergedBest 8 RX11 (Option.some FieldType.boolean) ad dsM 7 (x_PI Q)) {K20 : Int32 → Int32 → Int32 → Int32 → Int32 → x_S → x_L → Prop} (hK20 : ∀ v1 v2 v3 v4 v5 σ τ, K20 v1 v2 v3 v4 v5 σ τ → V σ τ 20 [(0, .ref (ad 0)), (1, .int v1), (2, .int v2), (3, .int v3), (4, .int v4), (5, .int v5)] []) {v1 : Int32} {v2 : Int32} {v3 : Int32} {v4 : Int32} {v5 : Int32} {σ : x_S} {τ : x_L} (h : wX11_mergedBest_20 Q K20 v1 v2 v3 v4 v5 σ τ) : V σ τ 20 [(0, .ref (ad 0)), (1, .int v1), (2, .int v2), (3, .int v3), (4, .int v4), (5, .int v5)] [] := by
  refine x_iload X dX11_mergedBest_20 5 rfl ?_
  refine x_aload_n X dX11_mergedBest_22 rfl 0 rfl ?_
  refine x_getR X (j := 3) dX11_mergedBest_23 fl_11_17 dsM_0 rfl ?_
  refine x_iconst X dX11_mergedBest_26 ki_1 ?_
  refine x_iald X dX11_mergedBest_27 dsM_3 (x_inl (by decide)) ?_
  refine x_icmp_ge X 106 dX11_mergedBest_28 (by decide) (fun hc => ?_) (fun hc => ?_)
  · have h := h.1 hc
    refine x_iload X dX11_mergedBest_106 4 rfl ?_
    refine x_if_ne X 113 dX11_mergedBest_108 (by decide) (fun hc => ?_) (fun hc => ?_)
    · have h := h.1 hc
      refine x_aload_n X dX11_mergedBest_113 rfl 0 rfl ?_
      refine x_iload_n X dX11_mergedBest_114 rfl 2 rfl ?_
      refine x_iload_n X dX11_mergedBest_115 rfl 3 rfl ?_
      refine x_callVv X [.int v2, .int v3] [] dX11_mergedBest_116 (kX11_layRun h) cm_X11_layRun ci_X11_layRun w_8_99 dsM_0 ⟨by decide, by decide⟩ rfl (Nat.le_of_ble_eq_true rfl) (fun σ116 τ116 h => ?_)
      refine x_aload_n X dX11_mergedBest_119 rfl 0 rfl ?_
      refine x_iload_n X dX11_mergedBest_120 rfl 2 rfl ?_
      refine x_iload_n X dX11_mergedBest_121 rfl 3 rfl ?_
      refine x_callVv X [.int v2, .int v3] [] dX11_mergedBest_122 (kX11_joinRun h) cm_X11_joinRun ci_X11_joinRun w_8_168 dsM_0 ⟨by decide, by decide⟩ rfl (Nat.le_of_ble_eq_true rfl) (fun σ122 τ122 h => ?_)
      refine x_iconst X dX11_mergedBest_125 ki_1 ?_
      exact x_zret X dX11_mergedBest_126 ⟨Or.inr rfl, _, rfl, h⟩
    · have h := h.2 hc
      refine x_iconst X dX11_mergedBest_111 ki_0 ?_
      exact x_zret X dX11_mergedBest_112 ⟨Or.inl rfl, _, rfl, h⟩
  · have h := h.2 hc
    refine x_iload X dX11_mergedBest_31 5 rfl ?_
    refine x_iconst X dX11_mergedBest_33 ki_1 ?_
    refine x_iadd X dX11_mergedBest_34 ?_
    refine x_istore X (lv' := [(6, .int (v5 + 1)), (0, .ref (ad 0)), (1, .int v1), (2, .int v2), (3, .int v3), (4, .int v4), (5, .int v5)]) dX11_mergedBest_35 (by decide) rfl ?_
    refine x_sub X [1, 2, 3, 4, 5, 6, 0] (lv' := [(0, .ref (ad 0)), (1, .int v1), (2, .int v2), (3, .int v3), (4, .int v4), (5, .int v5), (6, .int (v5 + 1))]) rfl ?_
    exact x_l6_G (fun v1 v2 v3 v4 v5 v6 σ τ => V σ τ 37 [(0, .ref (ad 0)), (1, .int v1), (2, .int v2), (3, .int v3), (4, .int v4), (5, .int v5), (6, .int v6)] []) (fun K37 hK37 v1 v2 v3 v4 v5 v6 σ τ h => bX11_mergedBest_37 X hK20 hK37 h) h
set_option maxRecDepth 100000 in
set_option maxHeartbeats 4000000 in
theorem kX11_mergedBest {ad : Nat → Nat} {σ : x_S} {τ : x_L} {Q : Int32 → x_S → x_L → Prop} (h : wX11_mergedBest σ τ Q) : x_Met yX11_mergedBest cX11_mergedBest 8 (Option.some FieldType.boolean) 7 ad dsM [.ref (ad 0)] σ τ (x_PI Q) := by
  refine x_met (by decide +kernel) (Nat.le_of_ble_eq_true rfl) (fun V X => ?_)
  have X : x_Is V cX11_mergedBest 8 RX11 (Option.some FieldType.boolean) ad dsM 7 (x_PI Q) := X
  show V σ τ 0 [(0, .ref (ad 0))] []
  refine x_aload_n X dX11_mergedBest_0 rfl 0 rfl ?_
  refine x_callVv X [] [] dX11_mergedBest_1 (kX11_lay h) cm_X11_lay ci_X11_lay w_7_101 dsM_0 ⟨by decide, by decide⟩ rfl (Nat.le_of_ble_eq_true rfl) (fun σ1 τ1 h => ?_)
  refine x_aload_n X dX11_mergedBest_4 rfl 0 rfl ?_
  refine x_iconst X dX11_mergedBest_5 ki_0 ?_
  refine x_callVi X [.int 0] [] dX11_mergedBest_6 (kX11_sumOfAll h) cm_X11_sumOfAll ci_X11_sumOfAll w_7_230 dsM_0 ⟨by decide, by decide⟩ rfl (Nat.le_of_ble_eq_true rfl) (fun r6 σ6 τ6 h => ?_)
  refine x_istore_n X (lv' := [(1, .int r6), (0, .ref (ad 0))]) dX11_mergedBest_9 rfl (by decide) rfl ?_
  refine x_iconst X dX11_mergedBest_10 ki_m1 ?_
  refine x_istore_n X (lv' := [(2, .int (-1)), (1, .int r6), (0, .ref (ad 0))]) dX11_mergedBest_11 rfl (by decide) rfl ?_
  refine x_iconst X dX11_mergedBest_12 ki_m1 ?_
  refine x_istore_n X (lv' := [(3, .int (-1)), (2, .int (-1)), (1, .int r6), (0, .ref (ad 0))]) dX11_mergedBest_13 rfl (by decide) rfl ?_
  refine x_iconst X dX11_mergedBest_14 ki_0 ?_
  refine x_istore X (lv' := [(4, .int 0), (3, .int (-1)), (2, .int (-1)), (1, .int r6), (0, .ref (ad 0))]) dX11_mergedBest_15 (by decide) rfl ?_
  refine x_iconst X dX11_mergedBest_17 ki_0 ?_
  refine x_istore X (lv' := [(5, .int 0), (4, .int 0), (3, .int (-1)), (2, .int (-1)), (1, .int r6), (0, .ref (ad 0))]) dX11_mergedBest_18 (by decide) rfl ?_
  refine x_sub X [5, 4, 3, 2, 1, 0] (lv' := [(0, .ref (ad 0)), (1, .int r6), (2, .int (-1)), (3, .int (-1)), (4, .int 0), (5, .int 0)]) rfl ?_
  exact x_l5_G (fun v1 v2 v3 v4 v5 σ τ => V σ τ 20 [(0, .ref (ad 0)), (1, .int v1), (2, .int v2), (3, .int v3), (4, .int v4), (5, .int v5)] []) (fun K20 hK20 v1 v2 v3 v4 v5 σ τ h => bX11_mergedBest_20 X hK20 h) h
theorem dX11_mergeAllNow_0 : decode cX11_mergeAllNow 0 = .ok (.aload_n 0, 1) := by decide +kernel
theorem dX11_mergeAllNow_1 : decode cX11_mergeAllNow 1 = .ok (.invokevirtual 286, 3) := by decide +kernel
theorem dX11_mergeAllNow_4 : decode cX11_mergeAllNow 4 = .ok (.iconst 0, 1) := by decide +kernel
theorem dX11_mergeAllNow_5 : decode cX11_mergeAllNow 5 = .ok (.istore_n 1, 1) := by decide +kernel
theorem dX11_mergeAllNow_6 : decode cX11_mergeAllNow 6 = .ok (.iload_n 1, 1) := by decide +kernel
theorem dX11_mergeAllNow_7 : decode cX11_mergeAllNow 7 = .ok (.bipush 30, 2) := by decide +kernel
theorem dX11_mergeAllNow_9 : decode cX11_mergeAllNow 9 = .ok (.if_icmp .ge 16, 3) := by decide +kernel
theorem dX11_mergeAllNow_12 : decode cX11_mergeAllNow 12 = .ok (.aload_n 0, 1) := by decide +kernel
theorem dX11_mergeAllNow_13 : decode cX11_mergeAllNow 13 = .ok (.invokevirtual 324, 3) := by decide +kernel
theorem dX11_mergeAllNow_16 : decode cX11_mergeAllNow 16 = .ok (.ifCond .eq 9, 3) := by decide +kernel
theorem dX11_mergeAllNow_19 : decode cX11_mergeAllNow 19 = .ok (.iinc 1 1, 3) := by decide +kernel
theorem dX11_mergeAllNow_22 : decode cX11_mergeAllNow 22 = .ok (.goto (-16), 3) := by decide +kernel
theorem dX11_mergeAllNow_25 : decode cX11_mergeAllNow 25 = .ok (.iload_n 1, 1) := by decide +kernel
theorem dX11_mergeAllNow_26 : decode cX11_mergeAllNow 26 = .ok (.ireturn, 1) := by decide +kernel
theorem cm_X11_mergeAllNow : x_CM yX11_mergeAllNow cX11_mergeAllNow 2 (Option.some FieldType.int) 0 := ⟨w_8_202, w_1_12, by decide +kernel, by decide +kernel⟩
theorem ci_X11_mergeAllNow : x_CI yX11_mergeAllNow 13 := ⟨w_8_201, wp_100, (RX11, TX11, 41), rfl, rfl⟩
set_option maxRecDepth 100000 in
set_option maxHeartbeats 4000000 in
theorem bX11_mergeAllNow_25 {V : x_J} {ad : Nat → Nat} {Q : Int32 → x_S → x_L → Prop} (X : x_Is V cX11_mergeAllNow 2 RX11 (Option.some FieldType.int) ad dsM 8 (x_PI Q)) {v1 : Int32} {σ : x_S} {τ : x_L} (h : wX11_mergeAllNow_25 Q v1 σ τ) : V σ τ 25 [(1, .int v1)] [] := by
  refine x_iload_n X dX11_mergeAllNow_25 rfl 0 rfl ?_
  exact x_iret X dX11_mergeAllNow_26 ⟨_, rfl, h⟩
set_option maxRecDepth 100000 in
set_option maxHeartbeats 4000000 in
theorem bX11_mergeAllNow_6 {V : x_J} {ad : Nat → Nat} {Q : Int32 → x_S → x_L → Prop} (X : x_Is V cX11_mergeAllNow 2 RX11 (Option.some FieldType.int) ad dsM 8 (x_PI Q)) {K6 : Int32 → x_S → x_L → Prop} (hK6 : ∀ v1 σ τ, K6 v1 σ τ → V σ τ 6 [(0, .ref (ad 0)), (1, .int v1)] []) {v1 : Int32} {σ : x_S} {τ : x_L} (h : wX11_mergeAllNow_6 Q K6 v1 σ τ) : V σ τ 6 [(0, .ref (ad 0)), (1, .int v1)] [] := by
  refine x_iload_n X dX11_mergeAllNow_6 rfl 1 rfl ?_
  refine x_bipush X dX11_mergeAllNow_7 kb_30 ?_
  refine x_icmp_ge X 25 dX11_mergeAllNow_9 (by decide) (fun hc => ?_) (fun hc => ?_)
  · have h := h.1 hc
    refine x_sub X [1] (lv' := [(1, .int v1)]) rfl ?_
    exact bX11_mergeAllNow_25 X h
  · have h := h.2 hc
    refine x_aload_n X dX11_mergeAllNow_12 rfl 0 rfl ?_
    refine x_callVi X [] [] dX11_mergeAllNow_13 (kX11_mergedBest h) cm_X11_mergedBest ci_X11_mergedBest w_8_203 dsM_0 ⟨by decide, by decide⟩ rfl (Nat.le_of_ble_eq_true rfl) (fun r13 σ13 τ13 h => ?_)
    refine x_if_eq X 25 dX11_mergeAllNow_16 (by decide) (fun hc => ?_) (fun hc => ?_)
    · have h := h.1 hc
      refine x_sub X [1] (lv' := [(1, .int v1)]) rfl ?_
      exact bX11_mergeAllNow_25 X h
    · have h := h.2 hc
      refine x_iinc X (k := 1) (lv' := [(1, .int (v1 + 1)), (0, .ref (ad 0))]) dX11_mergeAllNow_19 rfl ki_1 (by decide) rfl ?_
      refine x_goto X (tgt := 6) dX11_mergeAllNow_22 (by decide) ?_
      refine x_sub X [1, 0] (lv' := [(0, .ref (ad 0)), (1, .int (v1 + 1))]) rfl ?_
      exact hK6 _ _ _ h
set_option maxRecDepth 100000 in
set_option maxHeartbeats 4000000 in
theorem kX11_mergeAllNow {ad : Nat → Nat} {σ : x_S} {τ : x_L} {Q : Int32 → x_S → x_L → Prop} (h : wX11_mergeAllNow σ τ Q) : x_Met yX11_mergeAllNow cX11_mergeAllNow 2 (Option.some FieldType.int) 8 ad dsM [.ref (ad 0)] σ τ (x_PI Q) := by
  refine x_met (by decide +kernel) (Nat.le_of_ble_eq_true rfl) (fun V X => ?_)
  have X : x_Is V cX11_mergeAllNow 2 RX11 (Option.some FieldType.int) ad dsM 8 (x_PI Q) := X
  show V σ τ 0 [(0, .ref (ad 0))] []
  refine x_aload_n X dX11_mergeAllNow_0 rfl 0 rfl ?_
  refine x_callVv X [] [] dX11_mergeAllNow_1 (kX11_keep h) cm_X11_keep ci_X11_keep w_8_133 dsM_0 ⟨by decide, by decide⟩ rfl (Nat.le_of_ble_eq_true rfl) (fun σ1 τ1 h => ?_)
  refine x_iconst X dX11_mergeAllNow_4 ki_0 ?_
  refine x_istore_n X (lv' := [(1, .int 0), (0, .ref (ad 0))]) dX11_mergeAllNow_5 rfl (by decide) rfl ?_
  refine x_sub X [1, 0] (lv' := [(0, .ref (ad 0)), (1, .int 0)]) rfl ?_
  exact x_l1_G (fun v1 σ τ => V σ τ 6 [(0, .ref (ad 0)), (1, .int v1)] []) (fun K6 hK6 v1 σ τ h => bX11_mergeAllNow_6 X hK6 h) h
theorem dX11_mergeAll_0 : decode cX11_mergeAll 0 = .ok (.aload_n 0, 1) := by decide +kernel
theorem dX11_mergeAll_1 : decode cX11_mergeAll 1 = .ok (.iconst 0, 1) := by decide +kernel
theorem dX11_mergeAll_2 : decode cX11_mergeAll 2 = .ok (.putfield 82, 3) := by decide +kernel
theorem dX11_mergeAll_5 : decode cX11_mergeAll 5 = .ok (.aload_n 0, 1) := by decide +kernel
theorem dX11_mergeAll_6 : decode cX11_mergeAll 6 = .ok (.invokevirtual 328, 3) := by decide +kernel
theorem dX11_mergeAll_9 : decode cX11_mergeAll 9 = .ok (.ireturn, 1) := by decide +kernel
theorem cm_X11_mergeAll : x_CM yX11_mergeAll cX11_mergeAll 1 (Option.some FieldType.int) 0 := ⟨w_8_198, w_1_12, by decide +kernel, by decide +kernel⟩
theorem ci_X11_mergeAll : x_CI yX11_mergeAll 13 := ⟨w_8_196, w_8_197, (RX11, TX11, 41), rfl, rfl⟩
set_option maxRecDepth 100000 in
set_option maxHeartbeats 4000000 in
theorem kX11_mergeAll {ad : Nat → Nat} {σ : x_S} {τ : x_L} {Q : Int32 → x_S → x_L → Prop} (h : wX11_mergeAll σ τ Q) : x_Met yX11_mergeAll cX11_mergeAll 1 (Option.some FieldType.int) 9 ad dsM [.ref (ad 0)] σ τ (x_PI Q) := by
  refine x_met (by decide +kernel) (Nat.le_of_ble_eq_true rfl) (fun V X => ?_)
  have X : x_Is V cX11_mergeAll 1 RX11 (Option.some FieldType.int) ad dsM 9 (x_PI Q) := X
  show V σ τ 0 [(0, .ref (ad 0))] []
  refine x_aload_n X dX11_mergeAll_0 rfl 0 rfl ?_
  refine x_iconst X dX11_mergeAll_1 ki_0 ?_
  refine x_putI X dX11_mergeAll_2 fl_11_82 ft_11_5 dsM_0 rfl ?_
  refine x_aload_n X dX11_mergeAll_5 rfl 0 rfl ?_
  refine x_callVi X [] [] dX11_mergeAll_6 (kX11_mergeAllNow h) cm_X11_mergeAllNow ci_X11_mergeAllNow w_8_199 dsM_0 ⟨by decide, by decide⟩ rfl (Nat.le_of_ble_eq_true rfl) (fun r6 σ6 τ6 h => ?_)
  exact x_iret X dX11_mergeAll_9 ⟨_, rfl, h⟩
theorem dX11_hurryNow_0 : decode cX11_hurryNow 0 = .ok (.aload_n 0, 1) := by decide +kernel
theorem dX11_hurryNow_1 : decode cX11_hurryNow 1 = .ok (.invokevirtual 286, 3) := by decide +kernel
theorem dX11_hurryNow_4 : decode cX11_hurryNow 4 = .ok (.iconst 0, 1) := by decide +kernel
theorem dX11_hurryNow_5 : decode cX11_hurryNow 5 = .ok (.istore_n 2, 1) := by decide +kernel
theorem dX11_hurryNow_6 : decode cX11_hurryNow 6 = .ok (.aload_n 0, 1) := by decide +kernel
theorem dX11_hurryNow_7 : decode cX11_hurryNow 7 = .ok (.iload_n 1, 1) := by decide +kernel
theorem dX11_hurryNow_8 : decode cX11_hurryNow 8 = .ok (.invokevirtual 172, 3) := by decide +kernel
theorem dX11_hurryNow_11 : decode cX11_hurryNow 11 = .ok (.iconst 0, 1) := by decide +kernel
theorem dX11_hurryNow_12 : decode cX11_hurryNow 12 = .ok (.istore_n 3, 1) := by decide +kernel
theorem dX11_hurryNow_13 : decode cX11_hurryNow 13 = .ok (.iload_n 3, 1) := by decide +kernel
theorem dX11_hurryNow_14 : decode cX11_hurryNow 14 = .ok (.aload_n 0, 1) := by decide +kernel
theorem dX11_hurryNow_15 : decode cX11_hurryNow 15 = .ok (.iload_n 1, 1) := by decide +kernel
theorem dX11_hurryNow_16 : decode cX11_hurryNow 16 = .ok (.invokevirtual 107, 3) := by decide +kernel
theorem dX11_hurryNow_19 : decode cX11_hurryNow 19 = .ok (.if_icmp .ge 65, 3) := by decide +kernel
theorem dX11_hurryNow_22 : decode cX11_hurryNow 22 = .ok (.aload_n 0, 1) := by decide +kernel
theorem dX11_hurryNow_23 : decode cX11_hurryNow 23 = .ok (.iload_n 1, 1) := by decide +kernel
theorem dX11_hurryNow_24 : decode cX11_hurryNow 24 = .ok (.invokevirtual 197, 3) := by decide +kernel
theorem dX11_hurryNow_27 : decode cX11_hurryNow 27 = .ok (.ifCond .eq 57, 3) := by decide +kernel
theorem dX11_hurryNow_30 : decode cX11_hurryNow 30 = .ok (.iload_n 2, 1) := by decide +kernel
theorem dX11_hurryNow_31 : decode cX11_hurryNow 31 = .ok (.aload_n 0, 1) := by decide +kernel
theorem dX11_hurryNow_32 : decode cX11_hurryNow 32 = .ok (.iload_n 1, 1) := by decide +kernel
theorem dX11_hurryNow_33 : decode cX11_hurryNow 33 = .ok (.iload_n 3, 1) := by decide +kernel
theorem dX11_hurryNow_34 : decode cX11_hurryNow 34 = .ok (.invokevirtual 120, 3) := by decide +kernel
theorem dX11_hurryNow_37 : decode cX11_hurryNow 37 = .ok (.aload_n 0, 1) := by decide +kernel
theorem dX11_hurryNow_38 : decode cX11_hurryNow 38 = .ok (.iload_n 1, 1) := by decide +kernel
theorem dX11_hurryNow_39 : decode cX11_hurryNow 39 = .ok (.iload_n 3, 1) := by decide +kernel
theorem dX11_hurryNow_40 : decode cX11_hurryNow 40 = .ok (.invokevirtual 283, 3) := by decide +kernel
theorem dX11_hurryNow_43 : decode cX11_hurryNow 43 = .ok (.if_icmp .ne 7, 3) := by decide +kernel
theorem dX11_hurryNow_46 : decode cX11_hurryNow 46 = .ok (.iconst 0, 1) := by decide +kernel
theorem dX11_hurryNow_47 : decode cX11_hurryNow 47 = .ok (.goto 4, 3) := by decide +kernel
theorem dX11_hurryNow_50 : decode cX11_hurryNow 50 = .ok (.iconst 1, 1) := by decide +kernel
theorem dX11_hurryNow_51 : decode cX11_hurryNow 51 = .ok (.iadd, 1) := by decide +kernel
theorem dX11_hurryNow_52 : decode cX11_hurryNow 52 = .ok (.istore_n 2, 1) := by decide +kernel
theorem dX11_hurryNow_53 : decode cX11_hurryNow 53 = .ok (.aload_n 0, 1) := by decide +kernel
theorem dX11_hurryNow_54 : decode cX11_hurryNow 54 = .ok (.getfield 9, 3) := by decide +kernel
theorem dX11_hurryNow_57 : decode cX11_hurryNow 57 = .ok (.sipush 132, 3) := by decide +kernel
theorem dX11_hurryNow_60 : decode cX11_hurryNow 60 = .ok (.iload_n 1, 1) := by decide +kernel
theorem dX11_hurryNow_61 : decode cX11_hurryNow 61 = .ok (.iload_n 3, 1) := by decide +kernel
theorem dX11_hurryNow_62 : decode cX11_hurryNow 62 = .ok (.invokestatic 111, 3) := by decide +kernel
theorem dX11_hurryNow_65 : decode cX11_hurryNow 65 = .ok (.iadd, 1) := by decide +kernel
theorem dX11_hurryNow_66 : decode cX11_hurryNow 66 = .ok (.aload_n 0, 1) := by decide +kernel
theorem dX11_hurryNow_67 : decode cX11_hurryNow 67 = .ok (.iload_n 1, 1) := by decide +kernel
theorem dX11_hurryNow_68 : decode cX11_hurryNow 68 = .ok (.iload_n 3, 1) := by decide +kernel
theorem dX11_hurryNow_69 : decode cX11_hurryNow 69 = .ok (.invokevirtual 283, 3) := by decide +kernel
theorem dX11_hurryNow_72 : decode cX11_hurryNow 72 = .ok (.iastore, 1) := by decide +kernel
theorem dX11_hurryNow_73 : decode cX11_hurryNow 73 = .ok (.aload_n 0, 1) := by decide +kernel
theorem dX11_hurryNow_74 : decode cX11_hurryNow 74 = .ok (.iload_n 1, 1) := by decide +kernel
theorem dX11_hurryNow_75 : decode cX11_hurryNow 75 = .ok (.invokevirtual 172, 3) := by decide +kernel
theorem dX11_hurryNow_78 : decode cX11_hurryNow 78 = .ok (.iinc 3 1, 3) := by decide +kernel
theorem dX11_hurryNow_81 : decode cX11_hurryNow 81 = .ok (.goto (-68), 3) := by decide +kernel
theorem dX11_hurryNow_84 : decode cX11_hurryNow 84 = .ok (.iload_n 2, 1) := by decide +kernel
theorem dX11_hurryNow_85 : decode cX11_hurryNow 85 = .ok (.ireturn, 1) := by decide +kernel
theorem cm_X11_hurryNow : x_CM yX11_hurryNow cX11_hurryNow 4 (Option.some FieldType.int) 1 := ⟨w_8_214, w_1_12, by decide +kernel, by decide +kernel⟩
theorem ci_X11_hurryNow : x_CI yX11_hurryNow 13 := ⟨w_8_213, wp_102, (RX11, TX11, 41), rfl, rfl⟩
set_option maxRecDepth 100000 in
set_option maxHeartbeats 4000000 in
theorem bX11_hurryNow_51 {V : x_J} {ad : Nat → Nat} {Q : Int32 → x_S → x_L → Prop} (X : x_Is V cX11_hurryNow 4 RX11 (Option.some FieldType.int) ad dsM 4 (x_PI Q)) {K13 : Int32 → Int32 → Int32 → x_S → x_L → Prop} (hK13 : ∀ v1 v2 v3 σ τ, K13 v1 v2 v3 σ τ → V σ τ 13 [(0, .ref (ad 0)), (1, .int v1), (2, .int v2), (3, .int v3)] []) {v1 : Int32} {v3 : Int32} {s0 : Int32} {s1 : Int32} {σ : x_S} {τ : x_L} (h : wX11_hurryNow_51 K13 Q v1 v3 s0 s1 σ τ) : V σ τ 51 [(0, .ref (ad 0)), (1, .int v1), (3, .int v3)] [.int s1, .int s0] := by
  refine x_iadd X dX11_hurryNow_51 ?_
  refine x_istore_n X (lv' := [(2, .int (s0 + s1)), (0, .ref (ad 0)), (1, .int v1), (3, .int v3)]) dX11_hurryNow_52 rfl (by decide) rfl ?_
  refine x_aload_n X dX11_hurryNow_53 rfl 1 rfl ?_
  refine x_getR X (j := 1) dX11_hurryNow_54 fl_11_9 dsM_0 rfl ?_
  refine x_sipush X dX11_hurryNow_57 ks_132 ?_
  refine x_iload_n X dX11_hurryNow_60 rfl 2 rfl ?_
  refine x_iload_n X dX11_hurryNow_61 rfl 3 rfl ?_
  refine x_callSi X [.int v1, .int v3] [.int 132, .ref (ad 1)] dX11_hurryNow_62 (kX11_spot h) cm_X11_spot w_7_118 rfl w_7_117 ⟨by decide, by decide⟩ rfl (Nat.le_of_ble_eq_true rfl) (fun r62 σ62 τ62 h => ?_)
  refine x_iadd X dX11_hurryNow_65 ?_
  refine x_aload_n X dX11_hurryNow_66 rfl 1 rfl ?_
  refine x_iload_n X dX11_hurryNow_67 rfl 2 rfl ?_
  refine x_iload_n X dX11_hurryNow_68 rfl 3 rfl ?_
  refine x_callVi X [.int v1, .int v3] [.int (132 + r62), .ref (ad 1)] dX11_hurryNow_69 (kX11_limitAt h) cm_X11_limitAt ci_X11_limitAt w_8_120 dsM_0 ⟨by decide, by decide⟩ rfl (Nat.le_of_ble_eq_true rfl) (fun r69 σ69 τ69 h => ?_)
  have g72 := h.1
  have h := h.2
  refine x_iast X dX11_hurryNow_72 dsM_1 g72 ?_
  refine x_aload_n X dX11_hurryNow_73 rfl 1 rfl ?_
  refine x_iload_n X dX11_hurryNow_74 rfl 2 rfl ?_
  refine x_callVv X [.int v1] [] dX11_hurryNow_75 (kX11_layTimes h) cm_X11_layTimes ci_X11_layTimes w_7_105 dsM_0 ⟨by decide, by decide⟩ rfl (Nat.le_of_ble_eq_true rfl) (fun σ75 τ75 h => ?_)
  refine x_iinc X (k := 3) (lv' := [(3, .int (v3 + 1)), (2, .int (s0 + s1)), (0, .ref (ad 0)), (1, .int v1)]) dX11_hurryNow_78 rfl ki_1 (by decide) rfl ?_
  refine x_goto X (tgt := 13) dX11_hurryNow_81 (by decide) ?_
  refine x_sub X [2, 3, 1, 0] (lv' := [(0, .ref (ad 0)), (1, .int v1), (2, .int (s0 + s1)), (3, .int (v3 + 1))]) rfl ?_
  exact hK13 _ _ _ _ _ h
set_option maxRecDepth 100000 in
set_option maxHeartbeats 4000000 in
theorem bX11_hurryNow_84 {V : x_J} {ad : Nat → Nat} {Q : Int32 → x_S → x_L → Prop} (X : x_Is V cX11_hurryNow 4 RX11 (Option.some FieldType.int) ad dsM 4 (x_PI Q)) {v2 : Int32} {σ : x_S} {τ : x_L} (h : wX11_hurryNow_84 Q v2 σ τ) : V σ τ 84 [(2, .int v2)] [] := by
  refine x_iload_n X dX11_hurryNow_84 rfl 0 rfl ?_
  exact x_iret X dX11_hurryNow_85 ⟨_, rfl, h⟩
set_option maxRecDepth 100000 in
set_option maxHeartbeats 4000000 in
theorem bX11_hurryNow_13 {V : x_J} {ad : Nat → Nat} {Q : Int32 → x_S → x_L → Prop} (X : x_Is V cX11_hurryNow 4 RX11 (Option.some FieldType.int) ad dsM 4 (x_PI Q)) {K13 : Int32 → Int32 → Int32 → x_S → x_L → Prop} (hK13 : ∀ v1 v2 v3 σ τ, K13 v1 v2 v3 σ τ → V σ τ 13 [(0, .ref (ad 0)), (1, .int v1), (2, .int v2), (3, .int v3)] []) {v1 : Int32} {v2 : Int32} {v3 : Int32} {σ : x_S} {τ : x_L} (h : wX11_hurryNow_13 Q K13 v1 v2 v3 σ τ) : V σ τ 13 [(0, .ref (ad 0)), (1, .int v1), (2, .int v2), (3, .int v3)] [] := by
  refine x_iload_n X dX11_hurryNow_13 rfl 3 rfl ?_
  refine x_aload_n X dX11_hurryNow_14 rfl 0 rfl ?_
  refine x_iload_n X dX11_hurryNow_15 rfl 1 rfl ?_
  refine x_callVi X [.int v1] [.int v3] dX11_hurryNow_16 (kX11_placesOf h) cm_X11_placesOf ci_X11_placesOf w_7_109 dsM_0 ⟨by decide, by decide⟩ rfl (Nat.le_of_ble_eq_true rfl) (fun r16 σ16 τ16 h => ?_)
  refine x_icmp_ge X 84 dX11_hurryNow_19 (by decide) (fun hc => ?_) (fun hc => ?_)
  · have h := h.1 hc
    refine x_sub X [2] (lv' := [(2, .int v2)]) rfl ?_
    exact bX11_hurryNow_84 X h
  · have h := h.2 hc
    refine x_aload_n X dX11_hurryNow_22 rfl 0 rfl ?_
    refine x_iload_n X dX11_hurryNow_23 rfl 1 rfl ?_
    refine x_callVi X [.int v1] [] dX11_hurryNow_24 (kX11_isLate h) cm_X11_isLate ci_X11_isLate w_7_219 dsM_0 ⟨by decide, by decide⟩ rfl (Nat.le_of_ble_eq_true rfl) (fun r24 σ24 τ24 h => ?_)
    refine x_if_eq X 84 dX11_hurryNow_27 (by decide) (fun hc => ?_) (fun hc => ?_)
    · have h := h.1 hc
      refine x_sub X [2] (lv' := [(2, .int v2)]) rfl ?_
      exact bX11_hurryNow_84 X h
    · have h := h.2 hc
      refine x_iload_n X dX11_hurryNow_30 rfl 2 rfl ?_
      refine x_aload_n X dX11_hurryNow_31 rfl 0 rfl ?_
      refine x_iload_n X dX11_hurryNow_32 rfl 1 rfl ?_
      refine x_iload_n X dX11_hurryNow_33 rfl 3 rfl ?_
      refine x_callVi X [.int v1, .int v3] [.int v2] dX11_hurryNow_34 (kX11_speedAt h) cm_X11_speedAt ci_X11_speedAt w_7_128 dsM_0 ⟨by decide, by decide⟩ rfl (Nat.le_of_ble_eq_true rfl) (fun r34 σ34 τ34 h => ?_)
      refine x_aload_n X dX11_hurryNow_37 rfl 0 rfl ?_
      refine x_iload_n X dX11_hurryNow_38 rfl 1 rfl ?_
      refine x_iload_n X dX11_hurryNow_39 rfl 3 rfl ?_
      refine x_callVi X [.int v1, .int v3] [.int r34, .int v2] dX11_hurryNow_40 (kX11_limitAt h) cm_X11_limitAt ci_X11_limitAt w_8_120 dsM_0 ⟨by decide, by decide⟩ rfl (Nat.le_of_ble_eq_true rfl) (fun r40 σ40 τ40 h => ?_)
      refine x_icmp_ne X 50 dX11_hurryNow_43 (by decide) (fun hc => ?_) (fun hc => ?_)
      · have h := h.1 hc
        refine x_iconst X dX11_hurryNow_50 ki_1 ?_
        refine x_sub X [0, 1, 3] (lv' := [(0, .ref (ad 0)), (1, .int v1), (3, .int v3)]) rfl ?_
        exact bX11_hurryNow_51 X hK13 h
      · have h := h.2 hc
        refine x_iconst X dX11_hurryNow_46 ki_0 ?_
        refine x_goto X (tgt := 51) dX11_hurryNow_47 (by decide) ?_
        refine x_sub X [0, 1, 3] (lv' := [(0, .ref (ad 0)), (1, .int v1), (3, .int v3)]) rfl ?_
        exact bX11_hurryNow_51 X hK13 h
set_option maxRecDepth 100000 in
set_option maxHeartbeats 4000000 in
theorem kX11_hurryNow {ad : Nat → Nat} {a1 : Int32} {σ : x_S} {τ : x_L} {Q : Int32 → x_S → x_L → Prop} (h : wX11_hurryNow a1 σ τ Q) : x_Met yX11_hurryNow cX11_hurryNow 4 (Option.some FieldType.int) 4 ad dsM [.ref (ad 0), .int a1] σ τ (x_PI Q) := by
  refine x_met (by decide +kernel) (Nat.le_of_ble_eq_true rfl) (fun V X => ?_)
  have X : x_Is V cX11_hurryNow 4 RX11 (Option.some FieldType.int) ad dsM 4 (x_PI Q) := X
  show V σ τ 0 [(0, .ref (ad 0)), (1, .int a1)] []
  refine x_aload_n X dX11_hurryNow_0 rfl 0 rfl ?_
  refine x_callVv X [] [] dX11_hurryNow_1 (kX11_keep h) cm_X11_keep ci_X11_keep w_8_133 dsM_0 ⟨by decide, by decide⟩ rfl (Nat.le_of_ble_eq_true rfl) (fun σ1 τ1 h => ?_)
  refine x_iconst X dX11_hurryNow_4 ki_0 ?_
  refine x_istore_n X (lv' := [(2, .int 0), (0, .ref (ad 0)), (1, .int a1)]) dX11_hurryNow_5 rfl (by decide) rfl ?_
  refine x_aload_n X dX11_hurryNow_6 rfl 1 rfl ?_
  refine x_iload_n X dX11_hurryNow_7 rfl 2 rfl ?_
  refine x_callVv X [.int a1] [] dX11_hurryNow_8 (kX11_layTimes h) cm_X11_layTimes ci_X11_layTimes w_7_105 dsM_0 ⟨by decide, by decide⟩ rfl (Nat.le_of_ble_eq_true rfl) (fun σ8 τ8 h => ?_)
  refine x_iconst X dX11_hurryNow_11 ki_0 ?_
  refine x_istore_n X (lv' := [(3, .int 0), (2, .int 0), (0, .ref (ad 0)), (1, .int a1)]) dX11_hurryNow_12 rfl (by decide) rfl ?_
  refine x_sub X [2, 3, 1, 0] (lv' := [(0, .ref (ad 0)), (1, .int a1), (2, .int 0), (3, .int 0)]) rfl ?_
  exact x_l3_G (fun v1 v2 v3 σ τ => V σ τ 13 [(0, .ref (ad 0)), (1, .int v1), (2, .int v2), (3, .int v3)] []) (fun K13 hK13 v1 v2 v3 σ τ h => bX11_hurryNow_13 X hK13 h) h
theorem dX11_hurry_0 : decode cX11_hurry 0 = .ok (.aload_n 0, 1) := by decide +kernel
theorem dX11_hurry_1 : decode cX11_hurry 1 = .ok (.iconst 0, 1) := by decide +kernel
theorem dX11_hurry_2 : decode cX11_hurry 2 = .ok (.putfield 82, 3) := by decide +kernel
theorem dX11_hurry_5 : decode cX11_hurry 5 = .ok (.aload_n 0, 1) := by decide +kernel
theorem dX11_hurry_6 : decode cX11_hurry 6 = .ok (.aload_n 0, 1) := by decide +kernel
theorem dX11_hurry_7 : decode cX11_hurry 7 = .ok (.iload_n 1, 1) := by decide +kernel
theorem dX11_hurry_8 : decode cX11_hurry 8 = .ok (.invokevirtual 103, 3) := by decide +kernel
theorem dX11_hurry_11 : decode cX11_hurry 11 = .ok (.ifCond .ne 7, 3) := by decide +kernel
theorem dX11_hurry_14 : decode cX11_hurry 14 = .ok (.iconst 1, 1) := by decide +kernel
theorem dX11_hurry_15 : decode cX11_hurry 15 = .ok (.goto 4, 3) := by decide +kernel
theorem dX11_hurry_18 : decode cX11_hurry 18 = .ok (.iconst 0, 1) := by decide +kernel
theorem dX11_hurry_19 : decode cX11_hurry 19 = .ok (.iconst 1, 1) := by decide +kernel
theorem dX11_hurry_20 : decode cX11_hurry 20 = .ok (.invokevirtual 235, 3) := by decide +kernel
theorem dX11_hurry_23 : decode cX11_hurry 23 = .ok (.ifCond .eq 7, 3) := by decide +kernel
theorem dX11_hurry_26 : decode cX11_hurry 26 = .ok (.iconst 0, 1) := by decide +kernel
theorem dX11_hurry_27 : decode cX11_hurry 27 = .ok (.goto 8, 3) := by decide +kernel
theorem dX11_hurry_30 : decode cX11_hurry 30 = .ok (.aload_n 0, 1) := by decide +kernel
theorem dX11_hurry_31 : decode cX11_hurry 31 = .ok (.iload_n 1, 1) := by decide +kernel
theorem dX11_hurry_32 : decode cX11_hurry 32 = .ok (.invokevirtual 331, 3) := by decide +kernel
theorem dX11_hurry_35 : decode cX11_hurry 35 = .ok (.ireturn, 1) := by decide +kernel
theorem cm_X11_hurry : x_CM yX11_hurry cX11_hurry 2 (Option.some FieldType.int) 1 := ⟨w_8_210, w_1_12, by decide +kernel, by decide +kernel⟩
theorem ci_X11_hurry : x_CI yX11_hurry 13 := ⟨w_8_208, w_8_209, (RX11, TX11, 41), rfl, rfl⟩
set_option maxRecDepth 100000 in
set_option maxHeartbeats 4000000 in
theorem bX11_hurry_35 {V : x_J} {ad : Nat → Nat} {Q : Int32 → x_S → x_L → Prop} (X : x_Is V cX11_hurry 2 RX11 (Option.some FieldType.int) ad dsM 5 (x_PI Q)) {s0 : Int32} {σ : x_S} {τ : x_L} (h : wX11_hurry_35 Q s0 σ τ) : V σ τ 35 [] [.int s0] := by
  exact x_iret X dX11_hurry_35 ⟨_, rfl, h⟩
set_option maxRecDepth 100000 in
set_option maxHeartbeats 4000000 in
theorem bX11_hurry_19 {V : x_J} {ad : Nat → Nat} {Q : Int32 → x_S → x_L → Prop} (X : x_Is V cX11_hurry 2 RX11 (Option.some FieldType.int) ad dsM 5 (x_PI Q)) {v1 : Int32} {s1 : Int32} {σ : x_S} {τ : x_L} (h : wX11_hurry_19 Q v1 s1 σ τ) : V σ τ 19 [(0, .ref (ad 0)), (1, .int v1)] [.int s1, .ref (ad 0)] := by
  refine x_iconst X dX11_hurry_19 ki_1 ?_
  refine x_callVi X [.int s1, .int 1] [] dX11_hurry_20 (kX11_throwsIf h) cm_X11_throwsIf ci_X11_throwsIf w_8_10 dsM_0 ⟨by decide, by decide⟩ rfl (Nat.le_of_ble_eq_true rfl) (fun r20 σ20 τ20 h => ?_)
  refine x_if_eq X 30 dX11_hurry_23 (by decide) (fun hc => ?_) (fun hc => ?_)
  · have h := h.1 hc
    refine x_aload_n X dX11_hurry_30 rfl 0 rfl ?_
    refine x_iload_n X dX11_hurry_31 rfl 1 rfl ?_
    refine x_callVi X [.int v1] [] dX11_hurry_32 (kX11_hurryNow h) cm_X11_hurryNow ci_X11_hurryNow w_8_211 dsM_0 ⟨by decide, by decide⟩ rfl (Nat.le_of_ble_eq_true rfl) (fun r32 σ32 τ32 h => ?_)
    refine x_sub X [] (lv' := []) rfl ?_
    exact bX11_hurry_35 X h
  · have h := h.2 hc
    refine x_iconst X dX11_hurry_26 ki_0 ?_
    refine x_goto X (tgt := 35) dX11_hurry_27 (by decide) ?_
    refine x_sub X [] (lv' := []) rfl ?_
    exact bX11_hurry_35 X h
set_option maxRecDepth 100000 in
set_option maxHeartbeats 4000000 in
theorem kX11_hurry {ad : Nat → Nat} {a1 : Int32} {σ : x_S} {τ : x_L} {Q : Int32 → x_S → x_L → Prop} (h : wX11_hurry a1 σ τ Q) : x_Met yX11_hurry cX11_hurry 2 (Option.some FieldType.int) 5 ad dsM [.ref (ad 0), .int a1] σ τ (x_PI Q) := by
  refine x_met (by decide +kernel) (Nat.le_of_ble_eq_true rfl) (fun V X => ?_)
  have X : x_Is V cX11_hurry 2 RX11 (Option.some FieldType.int) ad dsM 5 (x_PI Q) := X
  show V σ τ 0 [(0, .ref (ad 0)), (1, .int a1)] []
  refine x_aload_n X dX11_hurry_0 rfl 0 rfl ?_
  refine x_iconst X dX11_hurry_1 ki_0 ?_
  refine x_putI X dX11_hurry_2 fl_11_82 ft_11_5 dsM_0 rfl ?_
  refine x_aload_n X dX11_hurry_5 rfl 0 rfl ?_
  refine x_aload_n X dX11_hurry_6 rfl 0 rfl ?_
  refine x_iload_n X dX11_hurry_7 rfl 1 rfl ?_
  refine x_callVi X [.int a1] [.ref (ad 0)] dX11_hurry_8 (kX11_isTruck h) cm_X11_isTruck ci_X11_isTruck w_8_26 dsM_0 ⟨by decide, by decide⟩ rfl (Nat.le_of_ble_eq_true rfl) (fun r8 σ8 τ8 h => ?_)
  refine x_if_ne X 18 dX11_hurry_11 (by decide) (fun hc => ?_) (fun hc => ?_)
  · have h := h.1 hc
    refine x_iconst X dX11_hurry_18 ki_0 ?_
    exact bX11_hurry_19 X h
  · have h := h.2 hc
    refine x_iconst X dX11_hurry_14 ki_1 ?_
    refine x_goto X (tgt := 19) dX11_hurry_15 (by decide) ?_
    exact bX11_hurry_19 X h
theorem dX11_relaxNow_0 : decode cX11_relaxNow 0 = .ok (.aload_n 0, 1) := by decide +kernel
theorem dX11_relaxNow_1 : decode cX11_relaxNow 1 = .ok (.invokevirtual 286, 3) := by decide +kernel
theorem dX11_relaxNow_4 : decode cX11_relaxNow 4 = .ok (.iconst 0, 1) := by decide +kernel
theorem dX11_relaxNow_5 : decode cX11_relaxNow 5 = .ok (.istore_n 2, 1) := by decide +kernel
theorem dX11_relaxNow_6 : decode cX11_relaxNow 6 = .ok (.aload_n 0, 1) := by decide +kernel
theorem dX11_relaxNow_7 : decode cX11_relaxNow 7 = .ok (.iload_n 1, 1) := by decide +kernel
theorem dX11_relaxNow_8 : decode cX11_relaxNow 8 = .ok (.invokevirtual 107, 3) := by decide +kernel
theorem dX11_relaxNow_11 : decode cX11_relaxNow 11 = .ok (.iconst 1, 1) := by decide +kernel
theorem dX11_relaxNow_12 : decode cX11_relaxNow 12 = .ok (.isub, 1) := by decide +kernel
theorem dX11_relaxNow_13 : decode cX11_relaxNow 13 = .ok (.istore_n 3, 1) := by decide +kernel
theorem dX11_relaxNow_14 : decode cX11_relaxNow 14 = .ok (.iload_n 3, 1) := by decide +kernel
theorem dX11_relaxNow_15 : decode cX11_relaxNow 15 = .ok (.ifCond .lt 102, 3) := by decide +kernel
theorem dX11_relaxNow_18 : decode cX11_relaxNow 18 = .ok (.sipush 132, 3) := by decide +kernel
theorem dX11_relaxNow_21 : decode cX11_relaxNow 21 = .ok (.iload_n 1, 1) := by decide +kernel
theorem dX11_relaxNow_22 : decode cX11_relaxNow 22 = .ok (.iload_n 3, 1) := by decide +kernel
theorem dX11_relaxNow_23 : decode cX11_relaxNow 23 = .ok (.invokestatic 111, 3) := by decide +kernel
theorem dX11_relaxNow_26 : decode cX11_relaxNow 26 = .ok (.iadd, 1) := by decide +kernel
theorem dX11_relaxNow_27 : decode cX11_relaxNow 27 = .ok (.istore 4, 2) := by decide +kernel
theorem dX11_relaxNow_29 : decode cX11_relaxNow 29 = .ok (.aload_n 0, 1) := by decide +kernel
theorem dX11_relaxNow_30 : decode cX11_relaxNow 30 = .ok (.getfield 9, 3) := by decide +kernel
theorem dX11_relaxNow_33 : decode cX11_relaxNow 33 = .ok (.iload 4, 2) := by decide +kernel
theorem dX11_relaxNow_35 : decode cX11_relaxNow 35 = .ok (.iaload, 1) := by decide +kernel
theorem dX11_relaxNow_36 : decode cX11_relaxNow 36 = .ok (.istore 5, 2) := by decide +kernel
theorem dX11_relaxNow_38 : decode cX11_relaxNow 38 = .ok (.aload_n 0, 1) := by decide +kernel
theorem dX11_relaxNow_39 : decode cX11_relaxNow 39 = .ok (.getfield 9, 3) := by decide +kernel
theorem dX11_relaxNow_42 : decode cX11_relaxNow 42 = .ok (.iload 4, 2) := by decide +kernel
theorem dX11_relaxNow_44 : decode cX11_relaxNow 44 = .ok (.bipush 40, 2) := by decide +kernel
theorem dX11_relaxNow_46 : decode cX11_relaxNow 46 = .ok (.iastore, 1) := by decide +kernel
theorem dX11_relaxNow_47 : decode cX11_relaxNow 47 = .ok (.aload_n 0, 1) := by decide +kernel
theorem dX11_relaxNow_48 : decode cX11_relaxNow 48 = .ok (.iload_n 1, 1) := by decide +kernel
theorem dX11_relaxNow_49 : decode cX11_relaxNow 49 = .ok (.invokevirtual 172, 3) := by decide +kernel
theorem dX11_relaxNow_52 : decode cX11_relaxNow 52 = .ok (.aload_n 0, 1) := by decide +kernel
theorem dX11_relaxNow_53 : decode cX11_relaxNow 53 = .ok (.getfield 9, 3) := by decide +kernel
theorem dX11_relaxNow_56 : decode cX11_relaxNow 56 = .ok (.iload 4, 2) := by decide +kernel
theorem dX11_relaxNow_58 : decode cX11_relaxNow 58 = .ok (.iaload, 1) := by decide +kernel
theorem dX11_relaxNow_59 : decode cX11_relaxNow 59 = .ok (.iload 5, 2) := by decide +kernel
theorem dX11_relaxNow_61 : decode cX11_relaxNow 61 = .ok (.if_icmp .ge 30, 3) := by decide +kernel
theorem dX11_relaxNow_64 : decode cX11_relaxNow 64 = .ok (.aload_n 0, 1) := by decide +kernel
theorem dX11_relaxNow_65 : decode cX11_relaxNow 65 = .ok (.iload_n 1, 1) := by decide +kernel
theorem dX11_relaxNow_66 : decode cX11_relaxNow 66 = .ok (.invokevirtual 197, 3) := by decide +kernel
theorem dX11_relaxNow_69 : decode cX11_relaxNow 69 = .ok (.ifCond .eq 22, 3) := by decide +kernel
theorem dX11_relaxNow_72 : decode cX11_relaxNow 72 = .ok (.aload_n 0, 1) := by decide +kernel
theorem dX11_relaxNow_73 : decode cX11_relaxNow 73 = .ok (.getfield 9, 3) := by decide +kernel
theorem dX11_relaxNow_76 : decode cX11_relaxNow 76 = .ok (.iload 4, 2) := by decide +kernel
theorem dX11_relaxNow_78 : decode cX11_relaxNow 78 = .ok (.dup2, 1) := by decide +kernel
theorem dX11_relaxNow_79 : decode cX11_relaxNow 79 = .ok (.iaload, 1) := by decide +kernel
theorem dX11_relaxNow_80 : decode cX11_relaxNow 80 = .ok (.iconst 1, 1) := by decide +kernel
theorem dX11_relaxNow_81 : decode cX11_relaxNow 81 = .ok (.iadd, 1) := by decide +kernel
theorem dX11_relaxNow_82 : decode cX11_relaxNow 82 = .ok (.iastore, 1) := by decide +kernel
theorem dX11_relaxNow_83 : decode cX11_relaxNow 83 = .ok (.aload_n 0, 1) := by decide +kernel
theorem dX11_relaxNow_84 : decode cX11_relaxNow 84 = .ok (.iload_n 1, 1) := by decide +kernel
theorem dX11_relaxNow_85 : decode cX11_relaxNow 85 = .ok (.invokevirtual 172, 3) := by decide +kernel
theorem dX11_relaxNow_88 : decode cX11_relaxNow 88 = .ok (.goto (-36), 3) := by decide +kernel
theorem dX11_relaxNow_91 : decode cX11_relaxNow 91 = .ok (.iload_n 2, 1) := by decide +kernel
theorem dX11_relaxNow_92 : decode cX11_relaxNow 92 = .ok (.aload_n 0, 1) := by decide +kernel
theorem dX11_relaxNow_93 : decode cX11_relaxNow 93 = .ok (.getfield 9, 3) := by decide +kernel
theorem dX11_relaxNow_96 : decode cX11_relaxNow 96 = .ok (.iload 4, 2) := by decide +kernel
theorem dX11_relaxNow_98 : decode cX11_relaxNow 98 = .ok (.iaload, 1) := by decide +kernel
theorem dX11_relaxNow_99 : decode cX11_relaxNow 99 = .ok (.iload 5, 2) := by decide +kernel
theorem dX11_relaxNow_101 : decode cX11_relaxNow 101 = .ok (.if_icmp .ge 7, 3) := by decide +kernel
theorem dX11_relaxNow_104 : decode cX11_relaxNow 104 = .ok (.iconst 1, 1) := by decide +kernel
theorem dX11_relaxNow_105 : decode cX11_relaxNow 105 = .ok (.goto 4, 3) := by decide +kernel
theorem dX11_relaxNow_108 : decode cX11_relaxNow 108 = .ok (.iconst 0, 1) := by decide +kernel
theorem dX11_relaxNow_109 : decode cX11_relaxNow 109 = .ok (.iadd, 1) := by decide +kernel
theorem dX11_relaxNow_110 : decode cX11_relaxNow 110 = .ok (.istore_n 2, 1) := by decide +kernel
theorem dX11_relaxNow_111 : decode cX11_relaxNow 111 = .ok (.iinc 3 (-1), 3) := by decide +kernel
theorem dX11_relaxNow_114 : decode cX11_relaxNow 114 = .ok (.goto (-100), 3) := by decide +kernel
theorem dX11_relaxNow_117 : decode cX11_relaxNow 117 = .ok (.iload_n 2, 1) := by decide +kernel
theorem dX11_relaxNow_118 : decode cX11_relaxNow 118 = .ok (.ireturn, 1) := by decide +kernel
theorem cm_X11_relaxNow : x_CM yX11_relaxNow cX11_relaxNow 6 (Option.some FieldType.int) 1 := ⟨w_8_222, w_1_12, by decide +kernel, by decide +kernel⟩
theorem ci_X11_relaxNow : x_CI yX11_relaxNow 13 := ⟨w_8_221, wp_103, (RX11, TX11, 41), rfl, rfl⟩
set_option maxRecDepth 100000 in
set_option maxHeartbeats 4000000 in
theorem bX11_relaxNow_109 {V : x_J} {ad : Nat → Nat} {Q : Int32 → x_S → x_L → Prop} (X : x_Is V cX11_relaxNow 6 RX11 (Option.some FieldType.int) ad dsM 4 (x_PI Q)) {K14 : Int32 → Int32 → Int32 → x_S → x_L → Prop} (hK14 : ∀ v1 v2 v3 σ τ, K14 v1 v2 v3 σ τ → V σ τ 14 [(0, .ref (ad 0)), (1, .int v1), (2, .int v2), (3, .int v3)] []) {v1 : Int32} {v3 : Int32} {s0 : Int32} {s1 : Int32} {σ : x_S} {τ : x_L} (h : wX11_relaxNow_109 K14 Q v1 v3 s0 s1 σ τ) : V σ τ 109 [(0, .ref (ad 0)), (1, .int v1), (3, .int v3)] [.int s1, .int s0] := by
  refine x_iadd X dX11_relaxNow_109 ?_
  refine x_istore_n X (lv' := [(2, .int (s0 + s1)), (0, .ref (ad 0)), (1, .int v1), (3, .int v3)]) dX11_relaxNow_110 rfl (by decide) rfl ?_
  refine x_iinc X (k := 3) (lv' := [(3, .int (v3 + (-1))), (2, .int (s0 + s1)), (0, .ref (ad 0)), (1, .int v1)]) dX11_relaxNow_111 rfl ki_m1 (by decide) rfl ?_
  refine x_goto X (tgt := 14) dX11_relaxNow_114 (by decide) ?_
  refine x_sub X [2, 3, 1, 0] (lv' := [(0, .ref (ad 0)), (1, .int v1), (2, .int (s0 + s1)), (3, .int (v3 + (-1)))]) rfl ?_
  exact hK14 _ _ _ _ _ h
set_option maxRecDepth 100000 in
set_option maxHeartbeats 4000000 in
theorem bX11_relaxNow_91 {V : x_J} {ad : Nat → Nat} {Q : Int32 → x_S → x_L → Prop} (X : x_Is V cX11_relaxNow 6 RX11 (Option.some FieldType.int) ad dsM 4 (x_PI Q)) {K14 : Int32 → Int32 → Int32 → x_S → x_L → Prop} (hK14 : ∀ v1 v2 v3 σ τ, K14 v1 v2 v3 σ τ → V σ τ 14 [(0, .ref (ad 0)), (1, .int v1), (2, .int v2), (3, .int v3)] []) {v1 : Int32} {v2 : Int32} {v3 : Int32} {v4 : Int32} {v5 : Int32} {σ : x_S} {τ : x_L} (h : wX11_relaxNow_91 K14 Q v1 v2 v3 v4 v5 σ τ) : V σ τ 91 [(0, .ref (ad 0)), (1, .int v1), (2, .int v2), (3, .int v3), (4, .int v4), (5, .int v5)] [] := by
  refine x_iload_n X dX11_relaxNow_91 rfl 2 rfl ?_
  refine x_aload_n X dX11_relaxNow_92 rfl 0 rfl ?_
  refine x_getR X (j := 1) dX11_relaxNow_93 fl_11_9 dsM_0 rfl ?_
  refine x_iload X dX11_relaxNow_96 4 rfl ?_
  have g98 := h.1
  have h := h.2
  refine x_iald X dX11_relaxNow_98 dsM_1 g98 ?_
  refine x_iload X dX11_relaxNow_99 5 rfl ?_
  refine x_icmp_ge X 108 dX11_relaxNow_101 (by decide) (fun hc => ?_) (fun hc => ?_)
  · have h := h.1 hc
    refine x_iconst X dX11_relaxNow_108 ki_0 ?_
    refine x_sub X [0, 1, 3] (lv' := [(0, .ref (ad 0)), (1, .int v1), (3, .int v3)]) rfl ?_
    exact bX11_relaxNow_109 X hK14 h
  · have h := h.2 hc
    refine x_iconst X dX11_relaxNow_104 ki_1 ?_
    refine x_goto X (tgt := 109) dX11_relaxNow_105 (by decide) ?_
    refine x_sub X [0, 1, 3] (lv' := [(0, .ref (ad 0)), (1, .int v1), (3, .int v3)]) rfl ?_
    exact bX11_relaxNow_109 X hK14 h
set_option maxRecDepth 100000 in
set_option maxHeartbeats 4000000 in
theorem bX11_relaxNow_52 {V : x_J} {ad : Nat → Nat} {Q : Int32 → x_S → x_L → Prop} (X : x_Is V cX11_relaxNow 6 RX11 (Option.some FieldType.int) ad dsM 4 (x_PI Q)) {K14 : Int32 → Int32 → Int32 → x_S → x_L → Prop} {K52 : Int32 → Int32 → Int32 → Int32 → Int32 → x_S → x_L → Prop} (hK14 : ∀ v1 v2 v3 σ τ, K14 v1 v2 v3 σ τ → V σ τ 14 [(0, .ref (ad 0)), (1, .int v1), (2, .int v2), (3, .int v3)] []) (hK52 : ∀ v1 v2 v3 v4 v5 σ τ, K52 v1 v2 v3 v4 v5 σ τ → V σ τ 52 [(0, .ref (ad 0)), (1, .int v1), (2, .int v2), (3, .int v3), (4, .int v4), (5, .int v5)] []) {v1 : Int32} {v2 : Int32} {v3 : Int32} {v4 : Int32} {v5 : Int32} {σ : x_S} {τ : x_L} (h : wX11_relaxNow_52 K14 Q K52 v1 v2 v3 v4 v5 σ τ) : V σ τ 52 [(0, .ref (ad 0)), (1, .int v1), (2, .int v2), (3, .int v3), (4, .int v4), (5, .int v5)] [] := by
  refine x_aload_n X dX11_relaxNow_52 rfl 0 rfl ?_
  refine x_getR X (j := 1) dX11_relaxNow_53 fl_11_9 dsM_0 rfl ?_
  refine x_iload X dX11_relaxNow_56 4 rfl ?_
  have g58 := h.1
  have h := h.2
  refine x_iald X dX11_relaxNow_58 dsM_1 g58 ?_
  refine x_iload X dX11_relaxNow_59 5 rfl ?_
  refine x_icmp_ge X 91 dX11_relaxNow_61 (by decide) (fun hc => ?_) (fun hc => ?_)
  · have h := h.1 hc
    exact bX11_relaxNow_91 X hK14 h
  · have h := h.2 hc
    refine x_aload_n X dX11_relaxNow_64 rfl 0 rfl ?_
    refine x_iload_n X dX11_relaxNow_65 rfl 1 rfl ?_
    refine x_callVi X [.int v1] [] dX11_relaxNow_66 (kX11_isLate h) cm_X11_isLate ci_X11_isLate w_7_219 dsM_0 ⟨by decide, by decide⟩ rfl (Nat.le_of_ble_eq_true rfl) (fun r66 σ66 τ66 h => ?_)
    refine x_if_eq X 91 dX11_relaxNow_69 (by decide) (fun hc => ?_) (fun hc => ?_)
    · have h := h.1 hc
      exact bX11_relaxNow_91 X hK14 h
    · have h := h.2 hc
      refine x_aload_n X dX11_relaxNow_72 rfl 0 rfl ?_
      refine x_getR X (j := 1) dX11_relaxNow_73 fl_11_9 dsM_0 rfl ?_
      refine x_iload X dX11_relaxNow_76 4 rfl ?_
      refine x_dup2 X dX11_relaxNow_78 rfl rfl ?_
      refine x_iald X dX11_relaxNow_79 dsM_1 g58 ?_
      refine x_iconst X dX11_relaxNow_80 ki_1 ?_
      refine x_iadd X dX11_relaxNow_81 ?_
      refine x_iast X dX11_relaxNow_82 dsM_1 g58 ?_
      refine x_aload_n X dX11_relaxNow_83 rfl 0 rfl ?_
      refine x_iload_n X dX11_relaxNow_84 rfl 1 rfl ?_
      refine x_callVv X [.int v1] [] dX11_relaxNow_85 (kX11_layTimes h) cm_X11_layTimes ci_X11_layTimes w_7_105 dsM_0 ⟨by decide, by decide⟩ rfl (Nat.le_of_ble_eq_true rfl) (fun σ85 τ85 h => ?_)
      refine x_goto X (tgt := 52) dX11_relaxNow_88 (by decide) ?_
      exact hK52 _ _ _ _ _ _ _ h
set_option maxRecDepth 100000 in
set_option maxHeartbeats 4000000 in
theorem bX11_relaxNow_14 {V : x_J} {ad : Nat → Nat} {Q : Int32 → x_S → x_L → Prop} (X : x_Is V cX11_relaxNow 6 RX11 (Option.some FieldType.int) ad dsM 4 (x_PI Q)) {K14 : Int32 → Int32 → Int32 → x_S → x_L → Prop} (hK14 : ∀ v1 v2 v3 σ τ, K14 v1 v2 v3 σ τ → V σ τ 14 [(0, .ref (ad 0)), (1, .int v1), (2, .int v2), (3, .int v3)] []) {v1 : Int32} {v2 : Int32} {v3 : Int32} {σ : x_S} {τ : x_L} (h : wX11_relaxNow_14 Q K14 v1 v2 v3 σ τ) : V σ τ 14 [(0, .ref (ad 0)), (1, .int v1), (2, .int v2), (3, .int v3)] [] := by
  refine x_iload_n X dX11_relaxNow_14 rfl 3 rfl ?_
  refine x_if_lt X 117 dX11_relaxNow_15 (by decide) (fun hc => ?_) (fun hc => ?_)
  · have h := h.1 hc
    refine x_iload_n X dX11_relaxNow_117 rfl 2 rfl ?_
    exact x_iret X dX11_relaxNow_118 ⟨_, rfl, h⟩
  · have h := h.2 hc
    refine x_sipush X dX11_relaxNow_18 ks_132 ?_
    refine x_iload_n X dX11_relaxNow_21 rfl 1 rfl ?_
    refine x_iload_n X dX11_relaxNow_22 rfl 3 rfl ?_
    refine x_callSi X [.int v1, .int v3] [.int 132] dX11_relaxNow_23 (kX11_spot h) cm_X11_spot w_7_118 rfl w_7_117 ⟨by decide, by decide⟩ rfl (Nat.le_of_ble_eq_true rfl) (fun r23 σ23 τ23 h => ?_)
    refine x_iadd X dX11_relaxNow_26 ?_
    refine x_istore X (lv' := [(4, .int (132 + r23)), (0, .ref (ad 0)), (1, .int v1), (2, .int v2), (3, .int v3)]) dX11_relaxNow_27 (by decide) rfl ?_
    refine x_aload_n X dX11_relaxNow_29 rfl 1 rfl ?_
    refine x_getR X (j := 1) dX11_relaxNow_30 fl_11_9 dsM_0 rfl ?_
    refine x_iload X dX11_relaxNow_33 0 rfl ?_
    have g35 := h.1
    have h := h.2
    refine x_iald X dX11_relaxNow_35 dsM_1 g35 ?_
    refine x_istore X (lv' := [(5, .int (σ23 1 (132 + r23).toNatClampNeg)), (4, .int (132 + r23)), (0, .ref (ad 0)), (1, .int v1), (2, .int v2), (3, .int v3)]) dX11_relaxNow_36 (by decide) rfl ?_
    refine x_aload_n X dX11_relaxNow_38 rfl 2 rfl ?_
    refine x_getR X (j := 1) dX11_relaxNow_39 fl_11_9 dsM_0 rfl ?_
    refine x_iload X dX11_relaxNow_42 1 rfl ?_
    refine x_bipush X dX11_relaxNow_44 kb_40 ?_
    refine x_iast X dX11_relaxNow_46 dsM_1 g35 ?_
    refine x_aload_n X dX11_relaxNow_47 rfl 2 rfl ?_
    refine x_iload_n X dX11_relaxNow_48 rfl 3 rfl ?_
    refine x_callVv X [.int v1] [] dX11_relaxNow_49 (kX11_layTimes h) cm_X11_layTimes ci_X11_layTimes w_7_105 dsM_0 ⟨by decide, by decide⟩ rfl (Nat.le_of_ble_eq_true rfl) (fun σ49 τ49 h => ?_)
    refine x_sub X [2, 3, 4, 5, 1, 0] (lv' := [(0, .ref (ad 0)), (1, .int v1), (2, .int v2), (3, .int v3), (4, .int (132 + r23)), (5, .int (σ23 1 (132 + r23).toNatClampNeg))]) rfl ?_
    exact x_l5_G (fun v1 v2 v3 v4 v5 σ τ => V σ τ 52 [(0, .ref (ad 0)), (1, .int v1), (2, .int v2), (3, .int v3), (4, .int v4), (5, .int v5)] []) (fun K52 hK52 v1 v2 v3 v4 v5 σ τ h => bX11_relaxNow_52 X hK14 hK52 h) h
set_option maxRecDepth 100000 in
set_option maxHeartbeats 4000000 in
theorem kX11_relaxNow {ad : Nat → Nat} {a1 : Int32} {σ : x_S} {τ : x_L} {Q : Int32 → x_S → x_L → Prop} (h : wX11_relaxNow a1 σ τ Q) : x_Met yX11_relaxNow cX11_relaxNow 6 (Option.some FieldType.int) 4 ad dsM [.ref (ad 0), .int a1] σ τ (x_PI Q) := by
  refine x_met (by decide +kernel) (Nat.le_of_ble_eq_true rfl) (fun V X => ?_)
  have X : x_Is V cX11_relaxNow 6 RX11 (Option.some FieldType.int) ad dsM 4 (x_PI Q) := X
  show V σ τ 0 [(0, .ref (ad 0)), (1, .int a1)] []
  refine x_aload_n X dX11_relaxNow_0 rfl 0 rfl ?_
  refine x_callVv X [] [] dX11_relaxNow_1 (kX11_keep h) cm_X11_keep ci_X11_keep w_8_133 dsM_0 ⟨by decide, by decide⟩ rfl (Nat.le_of_ble_eq_true rfl) (fun σ1 τ1 h => ?_)
  refine x_iconst X dX11_relaxNow_4 ki_0 ?_
  refine x_istore_n X (lv' := [(2, .int 0), (0, .ref (ad 0)), (1, .int a1)]) dX11_relaxNow_5 rfl (by decide) rfl ?_
  refine x_aload_n X dX11_relaxNow_6 rfl 1 rfl ?_
  refine x_iload_n X dX11_relaxNow_7 rfl 2 rfl ?_
  refine x_callVi X [.int a1] [] dX11_relaxNow_8 (kX11_placesOf h) cm_X11_placesOf ci_X11_placesOf w_7_109 dsM_0 ⟨by decide, by decide⟩ rfl (Nat.le_of_ble_eq_true rfl) (fun r8 σ8 τ8 h => ?_)
  refine x_iconst X dX11_relaxNow_11 ki_1 ?_
  refine x_isub X dX11_relaxNow_12 ?_
  refine x_istore_n X (lv' := [(3, .int (r8 - 1)), (2, .int 0), (0, .ref (ad 0)), (1, .int a1)]) dX11_relaxNow_13 rfl (by decide) rfl ?_
  refine x_sub X [2, 3, 1, 0] (lv' := [(0, .ref (ad 0)), (1, .int a1), (2, .int 0), (3, .int (r8 - 1))]) rfl ?_
  exact x_l3_G (fun v1 v2 v3 σ τ => V σ τ 14 [(0, .ref (ad 0)), (1, .int v1), (2, .int v2), (3, .int v3)] []) (fun K14 hK14 v1 v2 v3 σ τ h => bX11_relaxNow_14 X hK14 h) h
theorem dX11_relax_0 : decode cX11_relax 0 = .ok (.aload_n 0, 1) := by decide +kernel
theorem dX11_relax_1 : decode cX11_relax 1 = .ok (.iconst 0, 1) := by decide +kernel
theorem dX11_relax_2 : decode cX11_relax 2 = .ok (.putfield 82, 3) := by decide +kernel
theorem dX11_relax_5 : decode cX11_relax 5 = .ok (.aload_n 0, 1) := by decide +kernel
theorem dX11_relax_6 : decode cX11_relax 6 = .ok (.aload_n 0, 1) := by decide +kernel
theorem dX11_relax_7 : decode cX11_relax 7 = .ok (.iload_n 1, 1) := by decide +kernel
theorem dX11_relax_8 : decode cX11_relax 8 = .ok (.invokevirtual 103, 3) := by decide +kernel
theorem dX11_relax_11 : decode cX11_relax 11 = .ok (.ifCond .ne 7, 3) := by decide +kernel
theorem dX11_relax_14 : decode cX11_relax 14 = .ok (.iconst 1, 1) := by decide +kernel
theorem dX11_relax_15 : decode cX11_relax 15 = .ok (.goto 4, 3) := by decide +kernel
theorem dX11_relax_18 : decode cX11_relax 18 = .ok (.iconst 0, 1) := by decide +kernel
theorem dX11_relax_19 : decode cX11_relax 19 = .ok (.iconst 1, 1) := by decide +kernel
theorem dX11_relax_20 : decode cX11_relax 20 = .ok (.invokevirtual 235, 3) := by decide +kernel
theorem dX11_relax_23 : decode cX11_relax 23 = .ok (.ifCond .eq 7, 3) := by decide +kernel
theorem dX11_relax_26 : decode cX11_relax 26 = .ok (.iconst 0, 1) := by decide +kernel
theorem dX11_relax_27 : decode cX11_relax 27 = .ok (.goto 8, 3) := by decide +kernel
theorem dX11_relax_30 : decode cX11_relax 30 = .ok (.aload_n 0, 1) := by decide +kernel
theorem dX11_relax_31 : decode cX11_relax 31 = .ok (.iload_n 1, 1) := by decide +kernel
theorem dX11_relax_32 : decode cX11_relax 32 = .ok (.invokevirtual 334, 3) := by decide +kernel
theorem dX11_relax_35 : decode cX11_relax 35 = .ok (.ireturn, 1) := by decide +kernel
theorem cm_X11_relax : x_CM yX11_relax cX11_relax 2 (Option.some FieldType.int) 1 := ⟨w_8_218, w_1_12, by decide +kernel, by decide +kernel⟩
theorem ci_X11_relax : x_CI yX11_relax 13 := ⟨w_8_216, w_8_217, (RX11, TX11, 41), rfl, rfl⟩
set_option maxRecDepth 100000 in
set_option maxHeartbeats 4000000 in
theorem bX11_relax_35 {V : x_J} {ad : Nat → Nat} {Q : Int32 → x_S → x_L → Prop} (X : x_Is V cX11_relax 2 RX11 (Option.some FieldType.int) ad dsM 5 (x_PI Q)) {s0 : Int32} {σ : x_S} {τ : x_L} (h : wX11_relax_35 Q s0 σ τ) : V σ τ 35 [] [.int s0] := by
  exact x_iret X dX11_relax_35 ⟨_, rfl, h⟩
set_option maxRecDepth 100000 in
set_option maxHeartbeats 4000000 in
theorem bX11_relax_19 {V : x_J} {ad : Nat → Nat} {Q : Int32 → x_S → x_L → Prop} (X : x_Is V cX11_relax 2 RX11 (Option.some FieldType.int) ad dsM 5 (x_PI Q)) {v1 : Int32} {s1 : Int32} {σ : x_S} {τ : x_L} (h : wX11_relax_19 Q v1 s1 σ τ) : V σ τ 19 [(0, .ref (ad 0)), (1, .int v1)] [.int s1, .ref (ad 0)] := by
  refine x_iconst X dX11_relax_19 ki_1 ?_
  refine x_callVi X [.int s1, .int 1] [] dX11_relax_20 (kX11_throwsIf h) cm_X11_throwsIf ci_X11_throwsIf w_8_10 dsM_0 ⟨by decide, by decide⟩ rfl (Nat.le_of_ble_eq_true rfl) (fun r20 σ20 τ20 h => ?_)
  refine x_if_eq X 30 dX11_relax_23 (by decide) (fun hc => ?_) (fun hc => ?_)
  · have h := h.1 hc
    refine x_aload_n X dX11_relax_30 rfl 0 rfl ?_
    refine x_iload_n X dX11_relax_31 rfl 1 rfl ?_
    refine x_callVi X [.int v1] [] dX11_relax_32 (kX11_relaxNow h) cm_X11_relaxNow ci_X11_relaxNow w_8_219 dsM_0 ⟨by decide, by decide⟩ rfl (Nat.le_of_ble_eq_true rfl) (fun r32 σ32 τ32 h => ?_)
    refine x_sub X [] (lv' := []) rfl ?_
    exact bX11_relax_35 X h
  · have h := h.2 hc
    refine x_iconst X dX11_relax_26 ki_0 ?_
    refine x_goto X (tgt := 35) dX11_relax_27 (by decide) ?_
    refine x_sub X [] (lv' := []) rfl ?_
    exact bX11_relax_35 X h
set_option maxRecDepth 100000 in
set_option maxHeartbeats 4000000 in
theorem kX11_relax {ad : Nat → Nat} {a1 : Int32} {σ : x_S} {τ : x_L} {Q : Int32 → x_S → x_L → Prop} (h : wX11_relax a1 σ τ Q) : x_Met yX11_relax cX11_relax 2 (Option.some FieldType.int) 5 ad dsM [.ref (ad 0), .int a1] σ τ (x_PI Q) := by
  refine x_met (by decide +kernel) (Nat.le_of_ble_eq_true rfl) (fun V X => ?_)
  have X : x_Is V cX11_relax 2 RX11 (Option.some FieldType.int) ad dsM 5 (x_PI Q) := X
  show V σ τ 0 [(0, .ref (ad 0)), (1, .int a1)] []
  refine x_aload_n X dX11_relax_0 rfl 0 rfl ?_
  refine x_iconst X dX11_relax_1 ki_0 ?_
  refine x_putI X dX11_relax_2 fl_11_82 ft_11_5 dsM_0 rfl ?_
  refine x_aload_n X dX11_relax_5 rfl 0 rfl ?_
  refine x_aload_n X dX11_relax_6 rfl 0 rfl ?_
  refine x_iload_n X dX11_relax_7 rfl 1 rfl ?_
  refine x_callVi X [.int a1] [.ref (ad 0)] dX11_relax_8 (kX11_isTruck h) cm_X11_isTruck ci_X11_isTruck w_8_26 dsM_0 ⟨by decide, by decide⟩ rfl (Nat.le_of_ble_eq_true rfl) (fun r8 σ8 τ8 h => ?_)
  refine x_if_ne X 18 dX11_relax_11 (by decide) (fun hc => ?_) (fun hc => ?_)
  · have h := h.1 hc
    refine x_iconst X dX11_relax_18 ki_0 ?_
    exact bX11_relax_19 X h
  · have h := h.2 hc
    refine x_iconst X dX11_relax_14 ki_1 ?_
    refine x_goto X (tgt := 19) dX11_relax_15 (by decide) ?_
    exact bX11_relax_19 X h
theorem dX11_onRoad_0 : decode cX11_onRoad 0 = .ok (.aload_n 0, 1) := by decide +kernel
theorem dX11_onRoad_1 : decode cX11_onRoad 1 = .ok (.iconst 0, 1) := by decide +kernel
theorem dX11_onRoad_2 : decode cX11_onRoad 2 = .ok (.putfield 82, 3) := by decide +kernel
theorem dX11_onRoad_5 : decode cX11_onRoad 5 = .ok (.aload_n 0, 1) := by decide +kernel
theorem dX11_onRoad_6 : decode cX11_onRoad 6 = .ok (.aload_n 0, 1) := by decide +kernel
theorem dX11_onRoad_7 : decode cX11_onRoad 7 = .ok (.iload_n 1, 1) := by decide +kernel
theorem dX11_onRoad_8 : decode cX11_onRoad 8 = .ok (.invokevirtual 232, 3) := by decide +kernel
theorem dX11_onRoad_11 : decode cX11_onRoad 11 = .ok (.ifCond .ne 7, 3) := by decide +kernel
theorem dX11_onRoad_14 : decode cX11_onRoad 14 = .ok (.iconst 1, 1) := by decide +kernel
theorem dX11_onRoad_15 : decode cX11_onRoad 15 = .ok (.goto 4, 3) := by decide +kernel
theorem dX11_onRoad_18 : decode cX11_onRoad 18 = .ok (.iconst 0, 1) := by decide +kernel
theorem dX11_onRoad_19 : decode cX11_onRoad 19 = .ok (.iconst 1, 1) := by decide +kernel
theorem dX11_onRoad_20 : decode cX11_onRoad 20 = .ok (.invokevirtual 235, 3) := by decide +kernel
theorem dX11_onRoad_23 : decode cX11_onRoad 23 = .ok (.ifCond .eq 5, 3) := by decide +kernel
theorem dX11_onRoad_26 : decode cX11_onRoad 26 = .ok (.iconst 0, 1) := by decide +kernel
theorem dX11_onRoad_27 : decode cX11_onRoad 27 = .ok (.ireturn, 1) := by decide +kernel
theorem dX11_onRoad_28 : decode cX11_onRoad 28 = .ok (.aload_n 0, 1) := by decide +kernel
theorem dX11_onRoad_29 : decode cX11_onRoad 29 = .ok (.invokevirtual 200, 3) := by decide +kernel
theorem dX11_onRoad_32 : decode cX11_onRoad 32 = .ok (.iconst 0, 1) := by decide +kernel
theorem dX11_onRoad_33 : decode cX11_onRoad 33 = .ok (.istore_n 3, 1) := by decide +kernel
theorem dX11_onRoad_34 : decode cX11_onRoad 34 = .ok (.iconst 0, 1) := by decide +kernel
theorem dX11_onRoad_35 : decode cX11_onRoad 35 = .ok (.istore 4, 2) := by decide +kernel
theorem dX11_onRoad_37 : decode cX11_onRoad 37 = .ok (.iload 4, 2) := by decide +kernel
theorem dX11_onRoad_39 : decode cX11_onRoad 39 = .ok (.aload_n 0, 1) := by decide +kernel
theorem dX11_onRoad_40 : decode cX11_onRoad 40 = .ok (.getfield 17, 3) := by decide +kernel
theorem dX11_onRoad_43 : decode cX11_onRoad 43 = .ok (.iconst 1, 1) := by decide +kernel
theorem dX11_onRoad_44 : decode cX11_onRoad 44 = .ok (.iaload, 1) := by decide +kernel
theorem dX11_onRoad_45 : decode cX11_onRoad 45 = .ok (.if_icmp .ge 84, 3) := by decide +kernel
theorem dX11_onRoad_48 : decode cX11_onRoad 48 = .ok (.iconst 0, 1) := by decide +kernel
theorem dX11_onRoad_49 : decode cX11_onRoad 49 = .ok (.istore 5, 2) := by decide +kernel
theorem dX11_onRoad_51 : decode cX11_onRoad 51 = .ok (.iload 5, 2) := by decide +kernel
theorem dX11_onRoad_53 : decode cX11_onRoad 53 = .ok (.aload_n 0, 1) := by decide +kernel
theorem dX11_onRoad_54 : decode cX11_onRoad 54 = .ok (.iload 4, 2) := by decide +kernel
theorem dX11_onRoad_56 : decode cX11_onRoad 56 = .ok (.invokevirtual 107, 3) := by decide +kernel
theorem dX11_onRoad_59 : decode cX11_onRoad 59 = .ok (.if_icmp .ge 64, 3) := by decide +kernel
theorem dX11_onRoad_62 : decode cX11_onRoad 62 = .ok (.iload_n 3, 1) := by decide +kernel
theorem dX11_onRoad_63 : decode cX11_onRoad 63 = .ok (.aload_n 0, 1) := by decide +kernel
theorem dX11_onRoad_64 : decode cX11_onRoad 64 = .ok (.iload 4, 2) := by decide +kernel
theorem dX11_onRoad_66 : decode cX11_onRoad 66 = .ok (.iload 5, 2) := by decide +kernel
theorem dX11_onRoad_68 : decode cX11_onRoad 68 = .ok (.invokevirtual 114, 3) := by decide +kernel
theorem dX11_onRoad_71 : decode cX11_onRoad 71 = .ok (.iload_n 1, 1) := by decide +kernel
theorem dX11_onRoad_72 : decode cX11_onRoad 72 = .ok (.if_icmp .ne 42, 3) := by decide +kernel
theorem dX11_onRoad_75 : decode cX11_onRoad 75 = .ok (.aload_n 0, 1) := by decide +kernel
theorem dX11_onRoad_76 : decode cX11_onRoad 76 = .ok (.getfield 20, 3) := by decide +kernel
theorem dX11_onRoad_79 : decode cX11_onRoad 79 = .ok (.iload 4, 2) := by decide +kernel
theorem dX11_onRoad_81 : decode cX11_onRoad 81 = .ok (.iload 5, 2) := by decide +kernel
theorem dX11_onRoad_83 : decode cX11_onRoad 83 = .ok (.invokestatic 111, 3) := by decide +kernel
theorem dX11_onRoad_86 : decode cX11_onRoad 86 = .ok (.iaload, 1) := by decide +kernel
theorem dX11_onRoad_87 : decode cX11_onRoad 87 = .ok (.iload_n 2, 1) := by decide +kernel
theorem dX11_onRoad_88 : decode cX11_onRoad 88 = .ok (.if_icmp .gt 26, 3) := by decide +kernel
theorem dX11_onRoad_91 : decode cX11_onRoad 91 = .ok (.aload_n 0, 1) := by decide +kernel
theorem dX11_onRoad_92 : decode cX11_onRoad 92 = .ok (.getfield 23, 3) := by decide +kernel
theorem dX11_onRoad_95 : decode cX11_onRoad 95 = .ok (.iload 4, 2) := by decide +kernel
theorem dX11_onRoad_97 : decode cX11_onRoad 97 = .ok (.iload 5, 2) := by decide +kernel
theorem dX11_onRoad_99 : decode cX11_onRoad 99 = .ok (.invokestatic 111, 3) := by decide +kernel
theorem dX11_onRoad_102 : decode cX11_onRoad 102 = .ok (.iaload, 1) := by decide +kernel
theorem dX11_onRoad_103 : decode cX11_onRoad 103 = .ok (.iload_n 2, 1) := by decide +kernel
theorem dX11_onRoad_104 : decode cX11_onRoad 104 = .ok (.if_icmp .le 10, 3) := by decide +kernel
theorem dX11_onRoad_107 : decode cX11_onRoad 107 = .ok (.iconst 1, 1) := by decide +kernel
theorem dX11_onRoad_108 : decode cX11_onRoad 108 = .ok (.iload 4, 2) := by decide +kernel
theorem dX11_onRoad_110 : decode cX11_onRoad 110 = .ok (.ishl, 1) := by decide +kernel
theorem dX11_onRoad_111 : decode cX11_onRoad 111 = .ok (.goto 4, 3) := by decide +kernel
theorem dX11_onRoad_114 : decode cX11_onRoad 114 = .ok (.iconst 0, 1) := by decide +kernel
theorem dX11_onRoad_115 : decode cX11_onRoad 115 = .ok (.ior, 1) := by decide +kernel
theorem dX11_onRoad_116 : decode cX11_onRoad 116 = .ok (.istore_n 3, 1) := by decide +kernel
theorem dX11_onRoad_117 : decode cX11_onRoad 117 = .ok (.iinc 5 1, 3) := by decide +kernel
theorem dX11_onRoad_120 : decode cX11_onRoad 120 = .ok (.goto (-69), 3) := by decide +kernel
theorem dX11_onRoad_123 : decode cX11_onRoad 123 = .ok (.iinc 4 1, 3) := by decide +kernel
theorem dX11_onRoad_126 : decode cX11_onRoad 126 = .ok (.goto (-89), 3) := by decide +kernel
theorem dX11_onRoad_129 : decode cX11_onRoad 129 = .ok (.iload_n 3, 1) := by decide +kernel
theorem dX11_onRoad_130 : decode cX11_onRoad 130 = .ok (.ireturn, 1) := by decide +kernel
theorem cm_X11_onRoad : x_CM yX11_onRoad cX11_onRoad 6 (Option.some FieldType.int) 2 := ⟨w_8_226, w_1_12, by decide +kernel, by decide +kernel⟩
theorem ci_X11_onRoad : x_CI yX11_onRoad 13 := ⟨w_8_224, w_8_225, (RX11, TX11, 41), rfl, rfl⟩
set_option maxRecDepth 100000 in
set_option maxHeartbeats 4000000 in
theorem bX11_onRoad_115 {V : x_J} {ad : Nat → Nat} {Q : Int32 → x_S → x_L → Prop} (X : x_Is V cX11_onRoad 6 RX11 (Option.some FieldType.int) ad dsM 6 (x_PI Q)) {K37 : Int32 → Int32 → Int32 → Int32 → x_S → x_L → Prop} {K51 : Int32 → Int32 → Int32 → Int32 → Int32 → x_S → x_L → Prop} (hK37 : ∀ v1 v2 v3 v4 σ τ, K37 v1 v2 v3 v4 σ τ → V σ τ 37 [(0, .ref (ad 0)), (1, .int v1), (2, .int v2), (3, .int v3), (4, .int v4)] []) (hK51 : ∀ v1 v2 v3 v4 v5 σ τ, K51 v1 v2 v3 v4 v5 σ τ → V σ τ 51 [(0, .ref (ad 0)), (1, .int v1), (2, .int v2), (3, .int v3), (4, .int v4), (5, .int v5)] []) {v1 : Int32} {v2 : Int32} {v4 : Int32} {v5 : Int32} {s0 : Int32} {s1 : Int32} {σ : x_S} {τ : x_L} (h : wX11_onRoad_115 K37 K51 Q v1 v2 v4 v5 s0 s1 σ τ) : V σ τ 115 [(0, .ref (ad 0)), (1, .int v1), (2, .int v2), (4, .int v4), (5, .int v5)] [.int s1, .int s0] := by
  refine x_ior X dX11_onRoad_115 ?_
  refine x_istore_n X (lv' := [(3, .int (s0 ||| s1)), (0, .ref (ad 0)), (1, .int v1), (2, .int v2), (4, .int v4), (5, .int v5)]) dX11_onRoad_116 rfl (by decide) rfl ?_
  refine x_iinc X (k := 5) (lv' := [(5, .int (v5 + 1)), (3, .int (s0 ||| s1)), (0, .ref (ad 0)), (1, .int v1), (2, .int v2), (4, .int v4)]) dX11_onRoad_117 rfl ki_1 (by decide) rfl ?_
  refine x_goto X (tgt := 51) dX11_onRoad_120 (by decide) ?_
  refine x_sub X [2, 3, 4, 1, 5, 0] (lv' := [(0, .ref (ad 0)), (1, .int v1), (2, .int v2), (3, .int (s0 ||| s1)), (4, .int v4), (5, .int (v5 + 1))]) rfl ?_
  exact hK51 _ _ _ _ _ _ _ h
set_option maxRecDepth 100000 in
set_option maxHeartbeats 4000000 in
theorem bX11_onRoad_114 {V : x_J} {ad : Nat → Nat} {Q : Int32 → x_S → x_L → Prop} (X : x_Is V cX11_onRoad 6 RX11 (Option.some FieldType.int) ad dsM 6 (x_PI Q)) {K37 : Int32 → Int32 → Int32 → Int32 → x_S → x_L → Prop} {K51 : Int32 → Int32 → Int32 → Int32 → Int32 → x_S → x_L → Prop} (hK37 : ∀ v1 v2 v3 v4 σ τ, K37 v1 v2 v3 v4 σ τ → V σ τ 37 [(0, .ref (ad 0)), (1, .int v1), (2, .int v2), (3, .int v3), (4, .int v4)] []) (hK51 : ∀ v1 v2 v3 v4 v5 σ τ, K51 v1 v2 v3 v4 v5 σ τ → V σ τ 51 [(0, .ref (ad 0)), (1, .int v1), (2, .int v2), (3, .int v3), (4, .int v4), (5, .int v5)] []) {v1 : Int32} {v2 : Int32} {v4 : Int32} {v5 : Int32} {s0 : Int32} {σ : x_S} {τ : x_L} (h : wX11_onRoad_114 K37 K51 Q v1 v2 v4 v5 s0 σ τ) : V σ τ 114 [(0, .ref (ad 0)), (1, .int v1), (2, .int v2), (4, .int v4), (5, .int v5)] [.int s0] := by
  refine x_iconst X dX11_onRoad_114 ki_0 ?_
  exact bX11_onRoad_115 X hK37 hK51 h
set_option maxRecDepth 100000 in
set_option maxHeartbeats 4000000 in
theorem bX11_onRoad_51 {V : x_J} {ad : Nat → Nat} {Q : Int32 → x_S → x_L → Prop} (X : x_Is V cX11_onRoad 6 RX11 (Option.some FieldType.int) ad dsM 6 (x_PI Q)) {K37 : Int32 → Int32 → Int32 → Int32 → x_S → x_L → Prop} {K51 : Int32 → Int32 → Int32 → Int32 → Int32 → x_S → x_L → Prop} (hK37 : ∀ v1 v2 v3 v4 σ τ, K37 v1 v2 v3 v4 σ τ → V σ τ 37 [(0, .ref (ad 0)), (1, .int v1), (2, .int v2), (3, .int v3), (4, .int v4)] []) (hK51 : ∀ v1 v2 v3 v4 v5 σ τ, K51 v1 v2 v3 v4 v5 σ τ → V σ τ 51 [(0, .ref (ad 0)), (1, .int v1), (2, .int v2), (3, .int v3), (4, .int v4), (5, .int v5)] []) {v1 : Int32} {v2 : Int32} {v3 : Int32} {v4 : Int32} {v5 : Int32} {σ : x_S} {τ : x_L} (h : wX11_onRoad_51 K37 Q K51 v1 v2 v3 v4 v5 σ τ) : V σ τ 51 [(0, .ref (ad 0)), (1, .int v1), (2, .int v2), (3, .int v3), (4, .int v4), (5, .int v5)] [] := by
  refine x_iload X dX11_onRoad_51 5 rfl ?_
  refine x_aload_n X dX11_onRoad_53 rfl 0 rfl ?_
  refine x_iload X dX11_onRoad_54 4 rfl ?_
  refine x_callVi X [.int v4] [.int v5] dX11_onRoad_56 (kX11_placesOf h) cm_X11_placesOf ci_X11_placesOf w_7_109 dsM_0 ⟨by decide, by decide⟩ rfl (Nat.le_of_ble_eq_true rfl) (fun r56 σ56 τ56 h => ?_)
  refine x_icmp_ge X 123 dX11_onRoad_59 (by decide) (fun hc => ?_) (fun hc => ?_)
  · have h := h.1 hc
    refine x_iinc X (k := 4) (lv' := [(4, .int (v4 + 1)), (0, .ref (ad 0)), (1, .int v1), (2, .int v2), (3, .int v3), (5, .int v5)]) dX11_onRoad_123 rfl ki_1 (by decide) rfl ?_
    refine x_goto X (tgt := 37) dX11_onRoad_126 (by decide) ?_
    refine x_sub X [1, 2, 3, 4, 0] (lv' := [(0, .ref (ad 0)), (1, .int v1), (2, .int v2), (3, .int v3), (4, .int (v4 + 1))]) rfl ?_
    exact hK37 _ _ _ _ _ _ h
  · have h := h.2 hc
    refine x_iload_n X dX11_onRoad_62 rfl 3 rfl ?_
    refine x_aload_n X dX11_onRoad_63 rfl 0 rfl ?_
    refine x_iload X dX11_onRoad_64 4 rfl ?_
    refine x_iload X dX11_onRoad_66 5 rfl ?_
    refine x_callVi X [.int v4, .int v5] [.int v3] dX11_onRoad_68 (kX11_roadAt h) cm_X11_roadAt ci_X11_roadAt w_7_124 dsM_0 ⟨by decide, by decide⟩ rfl (Nat.le_of_ble_eq_true rfl) (fun r68 σ68 τ68 h => ?_)
    refine x_iload_n X dX11_onRoad_71 rfl 1 rfl ?_
    refine x_icmp_ne X 114 dX11_onRoad_72 (by decide) (fun hc => ?_) (fun hc => ?_)
    · have h := h.1 hc
      refine x_sub X [0, 1, 2, 4, 5] (lv' := [(0, .ref (ad 0)), (1, .int v1), (2, .int v2), (4, .int v4), (5, .int v5)]) rfl ?_
      exact bX11_onRoad_114 X hK37 hK51 h
    · have h := h.2 hc
      refine x_aload_n X dX11_onRoad_75 rfl 0 rfl ?_
      refine x_getR X (j := 4) dX11_onRoad_76 fl_11_20 dsM_0 rfl ?_
      refine x_iload X dX11_onRoad_79 4 rfl ?_
      refine x_iload X dX11_onRoad_81 5 rfl ?_
      refine x_callSi X [.int v4, .int v5] [.ref (ad 4), .int v3] dX11_onRoad_83 (kX11_spot h) cm_X11_spot w_7_118 rfl w_7_117 ⟨by decide, by decide⟩ rfl (Nat.le_of_ble_eq_true rfl) (fun r83 σ83 τ83 h => ?_)
      have g86 := h.1
      have h := h.2
      refine x_iald X dX11_onRoad_86 dsM_4 g86 ?_
      refine x_iload_n X dX11_onRoad_87 rfl 2 rfl ?_
      refine x_icmp_gt X 114 dX11_onRoad_88 (by decide) (fun hc => ?_) (fun hc => ?_)
      · have h := h.1 hc
        refine x_sub X [0, 1, 2, 4, 5] (lv' := [(0, .ref (ad 0)), (1, .int v1), (2, .int v2), (4, .int v4), (5, .int v5)]) rfl ?_
        exact bX11_onRoad_114 X hK37 hK51 h
      · have h := h.2 hc
        refine x_aload_n X dX11_onRoad_91 rfl 0 rfl ?_
        refine x_getR X (j := 5) dX11_onRoad_92 fl_11_23 dsM_0 rfl ?_
        refine x_iload X dX11_onRoad_95 4 rfl ?_
        refine x_iload X dX11_onRoad_97 5 rfl ?_
        refine x_callSi X [.int v4, .int v5] [.ref (ad 5), .int v3] dX11_onRoad_99 (kX11_spot h) cm_X11_spot w_7_118 rfl w_7_117 ⟨by decide, by decide⟩ rfl (Nat.le_of_ble_eq_true rfl) (fun r99 σ99 τ99 h => ?_)
        have g102 := h.1
        have h := h.2
        refine x_iald X dX11_onRoad_102 dsM_5 g102 ?_
        refine x_iload_n X dX11_onRoad_103 rfl 2 rfl ?_
        refine x_icmp_le X 114 dX11_onRoad_104 (by decide) (fun hc => ?_) (fun hc => ?_)
        · have h := h.1 hc
          refine x_sub X [0, 1, 2, 4, 5] (lv' := [(0, .ref (ad 0)), (1, .int v1), (2, .int v2), (4, .int v4), (5, .int v5)]) rfl ?_
          exact bX11_onRoad_114 X hK37 hK51 h
        · have h := h.2 hc
          refine x_iconst X dX11_onRoad_107 ki_1 ?_
          refine x_iload X dX11_onRoad_108 4 rfl ?_
          refine x_ishl X dX11_onRoad_110 ?_
          refine x_goto X (tgt := 115) dX11_onRoad_111 (by decide) ?_
          refine x_sub X [0, 1, 2, 4, 5] (lv' := [(0, .ref (ad 0)), (1, .int v1), (2, .int v2), (4, .int v4), (5, .int v5)]) rfl ?_
          exact bX11_onRoad_115 X hK37 hK51 h
set_option maxRecDepth 100000 in
set_option maxHeartbeats 4000000 in
theorem bX11_onRoad_37 {V : x_J} {ad : Nat → Nat} {Q : Int32 → x_S → x_L → Prop} (X : x_Is V cX11_onRoad 6 RX11 (Option.some FieldType.int) ad dsM 6 (x_PI Q)) {K37 : Int32 → Int32 → Int32 → Int32 → x_S → x_L → Prop} (hK37 : ∀ v1 v2 v3 v4 σ τ, K37 v1 v2 v3 v4 σ τ → V σ τ 37 [(0, .ref (ad 0)), (1, .int v1), (2, .int v2), (3, .int v3), (4, .int v4)] []) {v1 : Int32} {v2 : Int32} {v3 : Int32} {v4 : Int32} {σ : x_S} {τ : x_L} (h : wX11_onRoad_37 Q K37 v1 v2 v3 v4 σ τ) : V σ τ 37 [(0, .ref (ad 0)), (1, .int v1), (2, .int v2), (3, .int v3), (4, .int v4)] [] := by
  refine x_iload X dX11_onRoad_37 4 rfl ?_
  refine x_aload_n X dX11_onRoad_39 rfl 0 rfl ?_
  refine x_getR X (j := 3) dX11_onRoad_40 fl_11_17 dsM_0 rfl ?_
  refine x_iconst X dX11_onRoad_43 ki_1 ?_
  refine x_iald X dX11_onRoad_44 dsM_3 (x_inl (by decide)) ?_
  refine x_icmp_ge X 129 dX11_onRoad_45 (by decide) (fun hc => ?_) (fun hc => ?_)
  · have h := h.1 hc
    refine x_iload_n X dX11_onRoad_129 rfl 3 rfl ?_
    exact x_iret X dX11_onRoad_130 ⟨_, rfl, h⟩
  · have h := h.2 hc
    refine x_iconst X dX11_onRoad_48 ki_0 ?_
    refine x_istore X (lv' := [(5, .int 0), (0, .ref (ad 0)), (1, .int v1), (2, .int v2), (3, .int v3), (4, .int v4)]) dX11_onRoad_49 (by decide) rfl ?_
    refine x_sub X [1, 2, 3, 4, 5, 0] (lv' := [(0, .ref (ad 0)), (1, .int v1), (2, .int v2), (3, .int v3), (4, .int v4), (5, .int 0)]) rfl ?_
    exact x_l5_G (fun v1 v2 v3 v4 v5 σ τ => V σ τ 51 [(0, .ref (ad 0)), (1, .int v1), (2, .int v2), (3, .int v3), (4, .int v4), (5, .int v5)] []) (fun K51 hK51 v1 v2 v3 v4 v5 σ τ h => bX11_onRoad_51 X hK37 hK51 h) h
set_option maxRecDepth 100000 in
set_option maxHeartbeats 4000000 in
theorem bX11_onRoad_19 {V : x_J} {ad : Nat → Nat} {Q : Int32 → x_S → x_L → Prop} (X : x_Is V cX11_onRoad 6 RX11 (Option.some FieldType.int) ad dsM 6 (x_PI Q)) {v1 : Int32} {v2 : Int32} {s1 : Int32} {σ : x_S} {τ : x_L} (h : wX11_onRoad_19 Q v1 v2 s1 σ τ) : V σ τ 19 [(0, .ref (ad 0)), (1, .int v1), (2, .int v2)] [.int s1, .ref (ad 0)] := by
  refine x_iconst X dX11_onRoad_19 ki_1 ?_
  refine x_callVi X [.int s1, .int 1] [] dX11_onRoad_20 (kX11_throwsIf h) cm_X11_throwsIf ci_X11_throwsIf w_8_10 dsM_0 ⟨by decide, by decide⟩ rfl (Nat.le_of_ble_eq_true rfl) (fun r20 σ20 τ20 h => ?_)
  refine x_if_eq X 28 dX11_onRoad_23 (by decide) (fun hc => ?_) (fun hc => ?_)
  · have h := h.1 hc
    refine x_aload_n X dX11_onRoad_28 rfl 0 rfl ?_
    refine x_callVv X [] [] dX11_onRoad_29 (kX11_lay h) cm_X11_lay ci_X11_lay w_7_101 dsM_0 ⟨by decide, by decide⟩ rfl (Nat.le_of_ble_eq_true rfl) (fun σ29 τ29 h => ?_)
    refine x_iconst X dX11_onRoad_32 ki_0 ?_
    refine x_istore_n X (lv' := [(3, .int 0), (0, .ref (ad 0)), (1, .int v1), (2, .int v2)]) dX11_onRoad_33 rfl (by decide) rfl ?_
    refine x_iconst X dX11_onRoad_34 ki_0 ?_
    refine x_istore X (lv' := [(4, .int 0), (3, .int 0), (0, .ref (ad 0)), (1, .int v1), (2, .int v2)]) dX11_onRoad_35 (by decide) rfl ?_
    refine x_sub X [2, 3, 4, 1, 0] (lv' := [(0, .ref (ad 0)), (1, .int v1), (2, .int v2), (3, .int 0), (4, .int 0)]) rfl ?_
    exact x_l4_G (fun v1 v2 v3 v4 σ τ => V σ τ 37 [(0, .ref (ad 0)), (1, .int v1), (2, .int v2), (3, .int v3), (4, .int v4)] []) (fun K37 hK37 v1 v2 v3 v4 σ τ h => bX11_onRoad_37 X hK37 h) h
  · have h := h.2 hc
    refine x_iconst X dX11_onRoad_26 ki_0 ?_
    exact x_iret X dX11_onRoad_27 ⟨_, rfl, h⟩
set_option maxRecDepth 100000 in
set_option maxHeartbeats 4000000 in
theorem kX11_onRoad {ad : Nat → Nat} {a1 : Int32} {a2 : Int32} {σ : x_S} {τ : x_L} {Q : Int32 → x_S → x_L → Prop} (h : wX11_onRoad a1 a2 σ τ Q) : x_Met yX11_onRoad cX11_onRoad 6 (Option.some FieldType.int) 6 ad dsM [.ref (ad 0), .int a1, .int a2] σ τ (x_PI Q) := by
  refine x_met (by decide +kernel) (Nat.le_of_ble_eq_true rfl) (fun V X => ?_)
  have X : x_Is V cX11_onRoad 6 RX11 (Option.some FieldType.int) ad dsM 6 (x_PI Q) := X
  show V σ τ 0 [(0, .ref (ad 0)), (1, .int a1), (2, .int a2)] []
  refine x_aload_n X dX11_onRoad_0 rfl 0 rfl ?_
  refine x_iconst X dX11_onRoad_1 ki_0 ?_
  refine x_putI X dX11_onRoad_2 fl_11_82 ft_11_5 dsM_0 rfl ?_
  refine x_aload_n X dX11_onRoad_5 rfl 0 rfl ?_
  refine x_aload_n X dX11_onRoad_6 rfl 0 rfl ?_
  refine x_iload_n X dX11_onRoad_7 rfl 1 rfl ?_
  refine x_callVi X [.int a1] [.ref (ad 0)] dX11_onRoad_8 (kX11_isRoad h) cm_X11_isRoad ci_X11_isRoad w_8_6 dsM_0 ⟨by decide, by decide⟩ rfl (Nat.le_of_ble_eq_true rfl) (fun r8 σ8 τ8 h => ?_)
  refine x_if_ne X 18 dX11_onRoad_11 (by decide) (fun hc => ?_) (fun hc => ?_)
  · have h := h.1 hc
    refine x_iconst X dX11_onRoad_18 ki_0 ?_
    exact bX11_onRoad_19 X h
  · have h := h.2 hc
    refine x_iconst X dX11_onRoad_14 ki_1 ?_
    refine x_goto X (tgt := 19) dX11_onRoad_15 (by decide) ?_
    exact bX11_onRoad_19 X h
theorem dX11_alone_0 : decode cX11_alone 0 = .ok (.aload_n 0, 1) := by decide +kernel
theorem dX11_alone_1 : decode cX11_alone 1 = .ok (.iconst 0, 1) := by decide +kernel
theorem dX11_alone_2 : decode cX11_alone 2 = .ok (.putfield 82, 3) := by decide +kernel
theorem dX11_alone_5 : decode cX11_alone 5 = .ok (.aload_n 0, 1) := by decide +kernel
theorem dX11_alone_6 : decode cX11_alone 6 = .ok (.invokevirtual 200, 3) := by decide +kernel
theorem dX11_alone_9 : decode cX11_alone 9 = .ok (.iconst 0, 1) := by decide +kernel
theorem dX11_alone_10 : decode cX11_alone 10 = .ok (.istore_n 1, 1) := by decide +kernel
theorem dX11_alone_11 : decode cX11_alone 11 = .ok (.iconst 0, 1) := by decide +kernel
theorem dX11_alone_12 : decode cX11_alone 12 = .ok (.istore_n 2, 1) := by decide +kernel
theorem dX11_alone_13 : decode cX11_alone 13 = .ok (.iload_n 2, 1) := by decide +kernel
theorem dX11_alone_14 : decode cX11_alone 14 = .ok (.aload_n 0, 1) := by decide +kernel
theorem dX11_alone_15 : decode cX11_alone 15 = .ok (.getfield 17, 3) := by decide +kernel
theorem dX11_alone_18 : decode cX11_alone 18 = .ok (.iconst 1, 1) := by decide +kernel
theorem dX11_alone_19 : decode cX11_alone 19 = .ok (.iaload, 1) := by decide +kernel
theorem dX11_alone_20 : decode cX11_alone 20 = .ok (.if_icmp .ge 67, 3) := by decide +kernel
theorem dX11_alone_23 : decode cX11_alone 23 = .ok (.iconst 1, 1) := by decide +kernel
theorem dX11_alone_24 : decode cX11_alone 24 = .ok (.istore_n 3, 1) := by decide +kernel
theorem dX11_alone_25 : decode cX11_alone 25 = .ok (.iconst 0, 1) := by decide +kernel
theorem dX11_alone_26 : decode cX11_alone 26 = .ok (.istore 4, 2) := by decide +kernel
theorem dX11_alone_28 : decode cX11_alone 28 = .ok (.iload 4, 2) := by decide +kernel
theorem dX11_alone_30 : decode cX11_alone 30 = .ok (.aload_n 0, 1) := by decide +kernel
theorem dX11_alone_31 : decode cX11_alone 31 = .ok (.iload_n 2, 1) := by decide +kernel
theorem dX11_alone_32 : decode cX11_alone 32 = .ok (.invokevirtual 107, 3) := by decide +kernel
theorem dX11_alone_35 : decode cX11_alone 35 = .ok (.if_icmp .ge 32, 3) := by decide +kernel
theorem dX11_alone_38 : decode cX11_alone 38 = .ok (.iload_n 3, 1) := by decide +kernel
theorem dX11_alone_39 : decode cX11_alone 39 = .ok (.aload_n 0, 1) := by decide +kernel
theorem dX11_alone_40 : decode cX11_alone 40 = .ok (.getfield 29, 3) := by decide +kernel
theorem dX11_alone_43 : decode cX11_alone 43 = .ok (.iload_n 2, 1) := by decide +kernel
theorem dX11_alone_44 : decode cX11_alone 44 = .ok (.iload 4, 2) := by decide +kernel
theorem dX11_alone_46 : decode cX11_alone 46 = .ok (.invokestatic 111, 3) := by decide +kernel
theorem dX11_alone_49 : decode cX11_alone 49 = .ok (.iaload, 1) := by decide +kernel
theorem dX11_alone_50 : decode cX11_alone 50 = .ok (.iconst 1, 1) := by decide +kernel
theorem dX11_alone_51 : decode cX11_alone 51 = .ok (.if_icmp .ne 7, 3) := by decide +kernel
theorem dX11_alone_54 : decode cX11_alone 54 = .ok (.iconst 1, 1) := by decide +kernel
theorem dX11_alone_55 : decode cX11_alone 55 = .ok (.goto 4, 3) := by decide +kernel
theorem dX11_alone_58 : decode cX11_alone 58 = .ok (.iconst 0, 1) := by decide +kernel
theorem dX11_alone_59 : decode cX11_alone 59 = .ok (.iand, 1) := by decide +kernel
theorem dX11_alone_60 : decode cX11_alone 60 = .ok (.istore_n 3, 1) := by decide +kernel
theorem dX11_alone_61 : decode cX11_alone 61 = .ok (.iinc 4 1, 3) := by decide +kernel
theorem dX11_alone_64 : decode cX11_alone 64 = .ok (.goto (-36), 3) := by decide +kernel
theorem dX11_alone_67 : decode cX11_alone 67 = .ok (.iload_n 1, 1) := by decide +kernel
theorem dX11_alone_68 : decode cX11_alone 68 = .ok (.iload_n 3, 1) := by decide +kernel
theorem dX11_alone_69 : decode cX11_alone 69 = .ok (.ifCond .eq 9, 3) := by decide +kernel
theorem dX11_alone_72 : decode cX11_alone 72 = .ok (.iconst 1, 1) := by decide +kernel
theorem dX11_alone_73 : decode cX11_alone 73 = .ok (.iload_n 2, 1) := by decide +kernel
theorem dX11_alone_74 : decode cX11_alone 74 = .ok (.ishl, 1) := by decide +kernel
theorem dX11_alone_75 : decode cX11_alone 75 = .ok (.goto 4, 3) := by decide +kernel
theorem dX11_alone_78 : decode cX11_alone 78 = .ok (.iconst 0, 1) := by decide +kernel
theorem dX11_alone_79 : decode cX11_alone 79 = .ok (.ior, 1) := by decide +kernel
theorem dX11_alone_80 : decode cX11_alone 80 = .ok (.istore_n 1, 1) := by decide +kernel
theorem dX11_alone_81 : decode cX11_alone 81 = .ok (.iinc 2 1, 3) := by decide +kernel
theorem dX11_alone_84 : decode cX11_alone 84 = .ok (.goto (-71), 3) := by decide +kernel
theorem dX11_alone_87 : decode cX11_alone 87 = .ok (.iload_n 1, 1) := by decide +kernel
theorem dX11_alone_88 : decode cX11_alone 88 = .ok (.ireturn, 1) := by decide +kernel
theorem cm_X11_alone : x_CM yX11_alone cX11_alone 5 (Option.some FieldType.int) 0 := ⟨w_8_230, w_1_12, by decide +kernel, by decide +kernel⟩
theorem ci_X11_alone : x_CI yX11_alone 13 := ⟨w_8_228, w_8_229, (RX11, TX11, 41), rfl, rfl⟩
set_option maxRecDepth 100000 in
set_option maxHeartbeats 4000000 in
theorem bX11_alone_59 {V : x_J} {ad : Nat → Nat} {Q : Int32 → x_S → x_L → Prop} (X : x_Is V cX11_alone 5 RX11 (Option.some FieldType.int) ad dsM 6 (x_PI Q)) {K13 : Int32 → Int32 → x_S → x_L → Prop} {K28 : Int32 → Int32 → Int32 → Int32 → x_S → x_L → Prop} (hK13 : ∀ v1 v2 σ τ, K13 v1 v2 σ τ → V σ τ 13 [(0, .ref (ad 0)), (1, .int v1), (2, .int v2)] []) (hK28 : ∀ v1 v2 v3 v4 σ τ, K28 v1 v2 v3 v4 σ τ → V σ τ 28 [(0, .ref (ad 0)), (1, .int v1), (2, .int v2), (3, .int v3), (4, .int v4)] []) {v1 : Int32} {v2 : Int32} {v4 : Int32} {s0 : Int32} {s1 : Int32} {σ : x_S} {τ : x_L} (h : wX11_alone_59 K13 K28 Q v1 v2 v4 s0 s1 σ τ) : V σ τ 59 [(0, .ref (ad 0)), (1, .int v1), (2, .int v2), (4, .int v4)] [.int s1, .int s0] := by
  refine x_iand X dX11_alone_59 ?_
  refine x_istore_n X (lv' := [(3, .int (s0 &&& s1)), (0, .ref (ad 0)), (1, .int v1), (2, .int v2), (4, .int v4)]) dX11_alone_60 rfl (by decide) rfl ?_
  refine x_iinc X (k := 4) (lv' := [(4, .int (v4 + 1)), (3, .int (s0 &&& s1)), (0, .ref (ad 0)), (1, .int v1), (2, .int v2)]) dX11_alone_61 rfl ki_1 (by decide) rfl ?_
  refine x_goto X (tgt := 28) dX11_alone_64 (by decide) ?_
  refine x_sub X [2, 3, 4, 1, 0] (lv' := [(0, .ref (ad 0)), (1, .int v1), (2, .int v2), (3, .int (s0 &&& s1)), (4, .int (v4 + 1))]) rfl ?_
  exact hK28 _ _ _ _ _ _ h
set_option maxRecDepth 100000 in
set_option maxHeartbeats 4000000 in
theorem bX11_alone_79 {V : x_J} {ad : Nat → Nat} {Q : Int32 → x_S → x_L → Prop} (X : x_Is V cX11_alone 5 RX11 (Option.some FieldType.int) ad dsM 6 (x_PI Q)) {K13 : Int32 → Int32 → x_S → x_L → Prop} (hK13 : ∀ v1 v2 σ τ, K13 v1 v2 σ τ → V σ τ 13 [(0, .ref (ad 0)), (1, .int v1), (2, .int v2)] []) {v2 : Int32} {s0 : Int32} {s1 : Int32} {σ : x_S} {τ : x_L} (h : wX11_alone_79 K13 Q v2 s0 s1 σ τ) : V σ τ 79 [(0, .ref (ad 0)), (2, .int v2)] [.int s1, .int s0] := by
  refine x_ior X dX11_alone_79 ?_
  refine x_istore_n X (lv' := [(1, .int (s0 ||| s1)), (0, .ref (ad 0)), (2, .int v2)]) dX11_alone_80 rfl (by decide) rfl ?_
  refine x_iinc X (k := 2) (lv' := [(2, .int (v2 + 1)), (1, .int (s0 ||| s1)), (0, .ref (ad 0))]) dX11_alone_81 rfl ki_1 (by decide) rfl ?_
  refine x_goto X (tgt := 13) dX11_alone_84 (by decide) ?_
  refine x_sub X [2, 1, 0] (lv' := [(0, .ref (ad 0)), (1, .int (s0 ||| s1)), (2, .int (v2 + 1))]) rfl ?_
  exact hK13 _ _ _ _ h
set_option maxRecDepth 100000 in
set_option maxHeartbeats 4000000 in
theorem bX11_alone_28 {V : x_J} {ad : Nat → Nat} {Q : Int32 → x_S → x_L → Prop} (X : x_Is V cX11_alone 5 RX11 (Option.some FieldType.int) ad dsM 6 (x_PI Q)) {K13 : Int32 → Int32 → x_S → x_L → Prop} {K28 : Int32 → Int32 → Int32 → Int32 → x_S → x_L → Prop} (hK13 : ∀ v1 v2 σ τ, K13 v1 v2 σ τ → V σ τ 13 [(0, .ref (ad 0)), (1, .int v1), (2, .int v2)] []) (hK28 : ∀ v1 v2 v3 v4 σ τ, K28 v1 v2 v3 v4 σ τ → V σ τ 28 [(0, .ref (ad 0)), (1, .int v1), (2, .int v2), (3, .int v3), (4, .int v4)] []) {v1 : Int32} {v2 : Int32} {v3 : Int32} {v4 : Int32} {σ : x_S} {τ : x_L} (h : wX11_alone_28 K13 Q K28 v1 v2 v3 v4 σ τ) : V σ τ 28 [(0, .ref (ad 0)), (1, .int v1), (2, .int v2), (3, .int v3), (4, .int v4)] [] := by
  refine x_iload X dX11_alone_28 4 rfl ?_
  refine x_aload_n X dX11_alone_30 rfl 0 rfl ?_
  refine x_iload_n X dX11_alone_31 rfl 2 rfl ?_
  refine x_callVi X [.int v2] [.int v4] dX11_alone_32 (kX11_placesOf h) cm_X11_placesOf ci_X11_placesOf w_7_109 dsM_0 ⟨by decide, by decide⟩ rfl (Nat.le_of_ble_eq_true rfl) (fun r32 σ32 τ32 h => ?_)
  refine x_icmp_ge X 67 dX11_alone_35 (by decide) (fun hc => ?_) (fun hc => ?_)
  · have h := h.1 hc
    refine x_iload_n X dX11_alone_67 rfl 1 rfl ?_
    refine x_iload_n X dX11_alone_68 rfl 3 rfl ?_
    refine x_if_eq X 78 dX11_alone_69 (by decide) (fun hc => ?_) (fun hc => ?_)
    · have h := h.1 hc
      refine x_iconst X dX11_alone_78 ki_0 ?_
      refine x_sub X [0, 2] (lv' := [(0, .ref (ad 0)), (2, .int v2)]) rfl ?_
      exact bX11_alone_79 X hK13 h
    · have h := h.2 hc
      refine x_iconst X dX11_alone_72 ki_1 ?_
      refine x_iload_n X dX11_alone_73 rfl 2 rfl ?_
      refine x_ishl X dX11_alone_74 ?_
      refine x_goto X (tgt := 79) dX11_alone_75 (by decide) ?_
      refine x_sub X [0, 2] (lv' := [(0, .ref (ad 0)), (2, .int v2)]) rfl ?_
      exact bX11_alone_79 X hK13 h
  · have h := h.2 hc
    refine x_iload_n X dX11_alone_38 rfl 3 rfl ?_
    refine x_aload_n X dX11_alone_39 rfl 0 rfl ?_
    refine x_getR X (j := 7) dX11_alone_40 fl_11_29 dsM_0 rfl ?_
    refine x_iload_n X dX11_alone_43 rfl 2 rfl ?_
    refine x_iload X dX11_alone_44 4 rfl ?_
    refine x_callSi X [.int v2, .int v4] [.ref (ad 7), .int v3] dX11_alone_46 (kX11_spot h) cm_X11_spot w_7_118 rfl w_7_117 ⟨by decide, by decide⟩ rfl (Nat.le_of_ble_eq_true rfl) (fun r46 σ46 τ46 h => ?_)
    have g49 := h.1
    have h := h.2
    refine x_iald X dX11_alone_49 dsM_7 g49 ?_
    refine x_iconst X dX11_alone_50 ki_1 ?_
    refine x_icmp_ne X 58 dX11_alone_51 (by decide) (fun hc => ?_) (fun hc => ?_)
    · have h := h.1 hc
      refine x_iconst X dX11_alone_58 ki_0 ?_
      refine x_sub X [0, 1, 2, 4] (lv' := [(0, .ref (ad 0)), (1, .int v1), (2, .int v2), (4, .int v4)]) rfl ?_
      exact bX11_alone_59 X hK13 hK28 h
    · have h := h.2 hc
      refine x_iconst X dX11_alone_54 ki_1 ?_
      refine x_goto X (tgt := 59) dX11_alone_55 (by decide) ?_
      refine x_sub X [0, 1, 2, 4] (lv' := [(0, .ref (ad 0)), (1, .int v1), (2, .int v2), (4, .int v4)]) rfl ?_
      exact bX11_alone_59 X hK13 hK28 h
set_option maxRecDepth 100000 in
set_option maxHeartbeats 4000000 in
theorem bX11_alone_13 {V : x_J} {ad : Nat → Nat} {Q : Int32 → x_S → x_L → Prop} (X : x_Is V cX11_alone 5 RX11 (Option.some FieldType.int) ad dsM 6 (x_PI Q)) {K13 : Int32 → Int32 → x_S → x_L → Prop} (hK13 : ∀ v1 v2 σ τ, K13 v1 v2 σ τ → V σ τ 13 [(0, .ref (ad 0)), (1, .int v1), (2, .int v2)] []) {v1 : Int32} {v2 : Int32} {σ : x_S} {τ : x_L} (h : wX11_alone_13 Q K13 v1 v2 σ τ) : V σ τ 13 [(0, .ref (ad 0)), (1, .int v1), (2, .int v2)] [] := by
  refine x_iload_n X dX11_alone_13 rfl 2 rfl ?_
  refine x_aload_n X dX11_alone_14 rfl 0 rfl ?_
  refine x_getR X (j := 3) dX11_alone_15 fl_11_17 dsM_0 rfl ?_
  refine x_iconst X dX11_alone_18 ki_1 ?_
  refine x_iald X dX11_alone_19 dsM_3 (x_inl (by decide)) ?_
  refine x_icmp_ge X 87 dX11_alone_20 (by decide) (fun hc => ?_) (fun hc => ?_)
  · have h := h.1 hc
    refine x_iload_n X dX11_alone_87 rfl 1 rfl ?_
    exact x_iret X dX11_alone_88 ⟨_, rfl, h⟩
  · have h := h.2 hc
    refine x_iconst X dX11_alone_23 ki_1 ?_
    refine x_istore_n X (lv' := [(3, .int 1), (0, .ref (ad 0)), (1, .int v1), (2, .int v2)]) dX11_alone_24 rfl (by decide) rfl ?_
    refine x_iconst X dX11_alone_25 ki_0 ?_
    refine x_istore X (lv' := [(4, .int 0), (3, .int 1), (0, .ref (ad 0)), (1, .int v1), (2, .int v2)]) dX11_alone_26 (by decide) rfl ?_
    refine x_sub X [2, 3, 4, 1, 0] (lv' := [(0, .ref (ad 0)), (1, .int v1), (2, .int v2), (3, .int 1), (4, .int 0)]) rfl ?_
    exact x_l4_G (fun v1 v2 v3 v4 σ τ => V σ τ 28 [(0, .ref (ad 0)), (1, .int v1), (2, .int v2), (3, .int v3), (4, .int v4)] []) (fun K28 hK28 v1 v2 v3 v4 σ τ h => bX11_alone_28 X hK13 hK28 h) h
set_option maxRecDepth 100000 in
set_option maxHeartbeats 4000000 in
theorem kX11_alone {ad : Nat → Nat} {σ : x_S} {τ : x_L} {Q : Int32 → x_S → x_L → Prop} (h : wX11_alone σ τ Q) : x_Met yX11_alone cX11_alone 5 (Option.some FieldType.int) 6 ad dsM [.ref (ad 0)] σ τ (x_PI Q) := by
  refine x_met (by decide +kernel) (Nat.le_of_ble_eq_true rfl) (fun V X => ?_)
  have X : x_Is V cX11_alone 5 RX11 (Option.some FieldType.int) ad dsM 6 (x_PI Q) := X
  show V σ τ 0 [(0, .ref (ad 0))] []
  refine x_aload_n X dX11_alone_0 rfl 0 rfl ?_
  refine x_iconst X dX11_alone_1 ki_0 ?_
  refine x_putI X dX11_alone_2 fl_11_82 ft_11_5 dsM_0 rfl ?_
  refine x_aload_n X dX11_alone_5 rfl 0 rfl ?_
  refine x_callVv X [] [] dX11_alone_6 (kX11_lay h) cm_X11_lay ci_X11_lay w_7_101 dsM_0 ⟨by decide, by decide⟩ rfl (Nat.le_of_ble_eq_true rfl) (fun σ6 τ6 h => ?_)
  refine x_iconst X dX11_alone_9 ki_0 ?_
  refine x_istore_n X (lv' := [(1, .int 0), (0, .ref (ad 0))]) dX11_alone_10 rfl (by decide) rfl ?_
  refine x_iconst X dX11_alone_11 ki_0 ?_
  refine x_istore_n X (lv' := [(2, .int 0), (1, .int 0), (0, .ref (ad 0))]) dX11_alone_12 rfl (by decide) rfl ?_
  refine x_sub X [2, 1, 0] (lv' := [(0, .ref (ad 0)), (1, .int 0), (2, .int 0)]) rfl ?_
  exact x_l2_G (fun v1 v2 σ τ => V σ τ 13 [(0, .ref (ad 0)), (1, .int v1), (2, .int v2)] []) (fun K13 hK13 v1 v2 σ τ h => bX11_alone_13 X hK13 h) h
theorem dX11_lateOnes_0 : decode cX11_lateOnes 0 = .ok (.aload_n 0, 1) := by decide +kernel
theorem dX11_lateOnes_1 : decode cX11_lateOnes 1 = .ok (.iconst 0, 1) := by decide +kernel
theorem dX11_lateOnes_2 : decode cX11_lateOnes 2 = .ok (.putfield 82, 3) := by decide +kernel
theorem dX11_lateOnes_5 : decode cX11_lateOnes 5 = .ok (.aload_n 0, 1) := by decide +kernel
theorem dX11_lateOnes_6 : decode cX11_lateOnes 6 = .ok (.invokevirtual 200, 3) := by decide +kernel
theorem dX11_lateOnes_9 : decode cX11_lateOnes 9 = .ok (.aload_n 0, 1) := by decide +kernel
theorem dX11_lateOnes_10 : decode cX11_lateOnes 10 = .ok (.invokevirtual 211, 3) := by decide +kernel
theorem dX11_lateOnes_13 : decode cX11_lateOnes 13 = .ok (.ireturn, 1) := by decide +kernel
theorem cm_X11_lateOnes : x_CM yX11_lateOnes cX11_lateOnes 1 (Option.some FieldType.int) 0 := ⟨w_8_234, w_1_12, by decide +kernel, by decide +kernel⟩
theorem ci_X11_lateOnes : x_CI yX11_lateOnes 13 := ⟨w_8_232, w_8_233, (RX11, TX11, 41), rfl, rfl⟩
set_option maxRecDepth 100000 in
set_option maxHeartbeats 4000000 in
theorem kX11_lateOnes {ad : Nat → Nat} {σ : x_S} {τ : x_L} {Q : Int32 → x_S → x_L → Prop} (h : wX11_lateOnes σ τ Q) : x_Met yX11_lateOnes cX11_lateOnes 1 (Option.some FieldType.int) 6 ad dsM [.ref (ad 0)] σ τ (x_PI Q) := by
  refine x_met (by decide +kernel) (Nat.le_of_ble_eq_true rfl) (fun V X => ?_)
  have X : x_Is V cX11_lateOnes 1 RX11 (Option.some FieldType.int) ad dsM 6 (x_PI Q) := X
  show V σ τ 0 [(0, .ref (ad 0))] []
  refine x_aload_n X dX11_lateOnes_0 rfl 0 rfl ?_
  refine x_iconst X dX11_lateOnes_1 ki_0 ?_
  refine x_putI X dX11_lateOnes_2 fl_11_82 ft_11_5 dsM_0 rfl ?_
  refine x_aload_n X dX11_lateOnes_5 rfl 0 rfl ?_
  refine x_callVv X [] [] dX11_lateOnes_6 (kX11_lay h) cm_X11_lay ci_X11_lay w_7_101 dsM_0 ⟨by decide, by decide⟩ rfl (Nat.le_of_ble_eq_true rfl) (fun σ6 τ6 h => ?_)
  refine x_aload_n X dX11_lateOnes_9 rfl 0 rfl ?_
  refine x_callVi X [] [] dX11_lateOnes_10 (kX11_lateSet h) cm_X11_lateSet ci_X11_lateSet w_7_215 dsM_0 ⟨by decide, by decide⟩ rfl (Nat.le_of_ble_eq_true rfl) (fun r10 σ10 τ10 h => ?_)
  exact x_iret X dX11_lateOnes_13 ⟨_, rfl, h⟩
theorem dX11_savedOn_0 : decode cX11_savedOn 0 = .ok (.iconst 0, 1) := by decide +kernel
theorem dX11_savedOn_1 : decode cX11_savedOn 1 = .ok (.istore_n 2, 1) := by decide +kernel
theorem dX11_savedOn_2 : decode cX11_savedOn 2 = .ok (.iconst 0, 1) := by decide +kernel
theorem dX11_savedOn_3 : decode cX11_savedOn 3 = .ok (.istore_n 3, 1) := by decide +kernel
theorem dX11_savedOn_4 : decode cX11_savedOn 4 = .ok (.iload_n 3, 1) := by decide +kernel
theorem dX11_savedOn_5 : decode cX11_savedOn 5 = .ok (.aload_n 0, 1) := by decide +kernel
theorem dX11_savedOn_6 : decode cX11_savedOn 6 = .ok (.getfield 17, 3) := by decide +kernel
theorem dX11_savedOn_9 : decode cX11_savedOn 9 = .ok (.iconst 1, 1) := by decide +kernel
theorem dX11_savedOn_10 : decode cX11_savedOn 10 = .ok (.iaload, 1) := by decide +kernel
theorem dX11_savedOn_11 : decode cX11_savedOn 11 = .ok (.if_icmp .ge 57, 3) := by decide +kernel
theorem dX11_savedOn_14 : decode cX11_savedOn 14 = .ok (.iconst 0, 1) := by decide +kernel
theorem dX11_savedOn_15 : decode cX11_savedOn 15 = .ok (.istore 4, 2) := by decide +kernel
theorem dX11_savedOn_17 : decode cX11_savedOn 17 = .ok (.iload 4, 2) := by decide +kernel
theorem dX11_savedOn_19 : decode cX11_savedOn 19 = .ok (.aload_n 0, 1) := by decide +kernel
theorem dX11_savedOn_20 : decode cX11_savedOn 20 = .ok (.iload_n 3, 1) := by decide +kernel
theorem dX11_savedOn_21 : decode cX11_savedOn 21 = .ok (.invokevirtual 107, 3) := by decide +kernel
theorem dX11_savedOn_24 : decode cX11_savedOn 24 = .ok (.if_icmp .ge 38, 3) := by decide +kernel
theorem dX11_savedOn_27 : decode cX11_savedOn 27 = .ok (.iload_n 2, 1) := by decide +kernel
theorem dX11_savedOn_28 : decode cX11_savedOn 28 = .ok (.aload_n 0, 1) := by decide +kernel
theorem dX11_savedOn_29 : decode cX11_savedOn 29 = .ok (.iload_n 3, 1) := by decide +kernel
theorem dX11_savedOn_30 : decode cX11_savedOn 30 = .ok (.iload 4, 2) := by decide +kernel
theorem dX11_savedOn_32 : decode cX11_savedOn 32 = .ok (.invokevirtual 114, 3) := by decide +kernel
theorem dX11_savedOn_35 : decode cX11_savedOn 35 = .ok (.iload_n 1, 1) := by decide +kernel
theorem dX11_savedOn_36 : decode cX11_savedOn 36 = .ok (.if_icmp .ne 17, 3) := by decide +kernel
theorem dX11_savedOn_39 : decode cX11_savedOn 39 = .ok (.aload_n 0, 1) := by decide +kernel
theorem dX11_savedOn_40 : decode cX11_savedOn 40 = .ok (.getfield 41, 3) := by decide +kernel
theorem dX11_savedOn_43 : decode cX11_savedOn 43 = .ok (.iload_n 3, 1) := by decide +kernel
theorem dX11_savedOn_44 : decode cX11_savedOn 44 = .ok (.iload 4, 2) := by decide +kernel
theorem dX11_savedOn_46 : decode cX11_savedOn 46 = .ok (.invokestatic 111, 3) := by decide +kernel
theorem dX11_savedOn_49 : decode cX11_savedOn 49 = .ok (.iaload, 1) := by decide +kernel
theorem dX11_savedOn_50 : decode cX11_savedOn 50 = .ok (.goto 4, 3) := by decide +kernel
theorem dX11_savedOn_53 : decode cX11_savedOn 53 = .ok (.iconst 0, 1) := by decide +kernel
theorem dX11_savedOn_54 : decode cX11_savedOn 54 = .ok (.iadd, 1) := by decide +kernel
theorem dX11_savedOn_55 : decode cX11_savedOn 55 = .ok (.istore_n 2, 1) := by decide +kernel
theorem dX11_savedOn_56 : decode cX11_savedOn 56 = .ok (.iinc 4 1, 3) := by decide +kernel
theorem dX11_savedOn_59 : decode cX11_savedOn 59 = .ok (.goto (-42), 3) := by decide +kernel
theorem dX11_savedOn_62 : decode cX11_savedOn 62 = .ok (.iinc 3 1, 3) := by decide +kernel
theorem dX11_savedOn_65 : decode cX11_savedOn 65 = .ok (.goto (-61), 3) := by decide +kernel
theorem dX11_savedOn_68 : decode cX11_savedOn 68 = .ok (.iload_n 2, 1) := by decide +kernel
theorem dX11_savedOn_69 : decode cX11_savedOn 69 = .ok (.ireturn, 1) := by decide +kernel
theorem cm_X11_savedOn : x_CM yX11_savedOn cX11_savedOn 5 (Option.some FieldType.int) 1 := ⟨w_9_2, w_1_12, by decide +kernel, by decide +kernel⟩
theorem ci_X11_savedOn : x_CI yX11_savedOn 13 := ⟨w_9_1, wp_104, (RX11, TX11, 41), rfl, rfl⟩
set_option maxRecDepth 100000 in
set_option maxHeartbeats 4000000 in
theorem bX11_savedOn_54 {V : x_J} {ad : Nat → Nat} {Q : Int32 → x_S → x_L → Prop} (X : x_Is V cX11_savedOn 5 RX11 (Option.some FieldType.int) ad dsM 2 (x_PI Q)) {K4 : Int32 → Int32 → Int32 → x_S → x_L → Prop} {K17 : Int32 → Int32 → Int32 → Int32 → x_S → x_L → Prop} (hK4 : ∀ v1 v2 v3 σ τ, K4 v1 v2 v3 σ τ → V σ τ 4 [(0, .ref (ad 0)), (1, .int v1), (2, .int v2), (3, .int v3)] []) (hK17 : ∀ v1 v2 v3 v4 σ τ, K17 v1 v2 v3 v4 σ τ → V σ τ 17 [(0, .ref (ad 0)), (1, .int v1), (2, .int v2), (3, .int v3), (4, .int v4)] []) {v1 : Int32} {v3 : Int32} {v4 : Int32} {s0 : Int32} {s1 : Int32} {σ : x_S} {τ : x_L} (h : wX11_savedOn_54 K4 K17 Q v1 v3 v4 s0 s1 σ τ) : V σ τ 54 [(0, .ref (ad 0)), (1, .int v1), (3, .int v3), (4, .int v4)] [.int s1, .int s0] := by
  refine x_iadd X dX11_savedOn_54 ?_
  refine x_istore_n X (lv' := [(2, .int (s0 + s1)), (0, .ref (ad 0)), (1, .int v1), (3, .int v3), (4, .int v4)]) dX11_savedOn_55 rfl (by decide) rfl ?_
  refine x_iinc X (k := 4) (lv' := [(4, .int (v4 + 1)), (2, .int (s0 + s1)), (0, .ref (ad 0)), (1, .int v1), (3, .int v3)]) dX11_savedOn_56 rfl ki_1 (by decide) rfl ?_
  refine x_goto X (tgt := 17) dX11_savedOn_59 (by decide) ?_
  refine x_sub X [2, 3, 1, 4, 0] (lv' := [(0, .ref (ad 0)), (1, .int v1), (2, .int (s0 + s1)), (3, .int v3), (4, .int (v4 + 1))]) rfl ?_
  exact hK17 _ _ _ _ _ _ h
set_option maxRecDepth 100000 in
set_option maxHeartbeats 4000000 in
theorem bX11_savedOn_17 {V : x_J} {ad : Nat → Nat} {Q : Int32 → x_S → x_L → Prop} (X : x_Is V cX11_savedOn 5 RX11 (Option.some FieldType.int) ad dsM 2 (x_PI Q)) {K4 : Int32 → Int32 → Int32 → x_S → x_L → Prop} {K17 : Int32 → Int32 → Int32 → Int32 → x_S → x_L → Prop} (hK4 : ∀ v1 v2 v3 σ τ, K4 v1 v2 v3 σ τ → V σ τ 4 [(0, .ref (ad 0)), (1, .int v1), (2, .int v2), (3, .int v3)] []) (hK17 : ∀ v1 v2 v3 v4 σ τ, K17 v1 v2 v3 v4 σ τ → V σ τ 17 [(0, .ref (ad 0)), (1, .int v1), (2, .int v2), (3, .int v3), (4, .int v4)] []) {v1 : Int32} {v2 : Int32} {v3 : Int32} {v4 : Int32} {σ : x_S} {τ : x_L} (h : wX11_savedOn_17 K4 Q K17 v1 v2 v3 v4 σ τ) : V σ τ 17 [(0, .ref (ad 0)), (1, .int v1), (2, .int v2), (3, .int v3), (4, .int v4)] [] := by
  refine x_iload X dX11_savedOn_17 4 rfl ?_
  refine x_aload_n X dX11_savedOn_19 rfl 0 rfl ?_
  refine x_iload_n X dX11_savedOn_20 rfl 3 rfl ?_
  refine x_callVi X [.int v3] [.int v4] dX11_savedOn_21 (kX11_placesOf h) cm_X11_placesOf ci_X11_placesOf w_7_109 dsM_0 ⟨by decide, by decide⟩ rfl (Nat.le_of_ble_eq_true rfl) (fun r21 σ21 τ21 h => ?_)
  refine x_icmp_ge X 62 dX11_savedOn_24 (by decide) (fun hc => ?_) (fun hc => ?_)
  · have h := h.1 hc
    refine x_iinc X (k := 3) (lv' := [(3, .int (v3 + 1)), (0, .ref (ad 0)), (1, .int v1), (2, .int v2), (4, .int v4)]) dX11_savedOn_62 rfl ki_1 (by decide) rfl ?_
    refine x_goto X (tgt := 4) dX11_savedOn_65 (by decide) ?_
    refine x_sub X [1, 2, 3, 0] (lv' := [(0, .ref (ad 0)), (1, .int v1), (2, .int v2), (3, .int (v3 + 1))]) rfl ?_
    exact hK4 _ _ _ _ _ h
  · have h := h.2 hc
    refine x_iload_n X dX11_savedOn_27 rfl 2 rfl ?_
    refine x_aload_n X dX11_savedOn_28 rfl 0 rfl ?_
    refine x_iload_n X dX11_savedOn_29 rfl 3 rfl ?_
    refine x_iload X dX11_savedOn_30 4 rfl ?_
    refine x_callVi X [.int v3, .int v4] [.int v2] dX11_savedOn_32 (kX11_roadAt h) cm_X11_roadAt ci_X11_roadAt w_7_124 dsM_0 ⟨by decide, by decide⟩ rfl (Nat.le_of_ble_eq_true rfl) (fun r32 σ32 τ32 h => ?_)
    refine x_iload_n X dX11_savedOn_35 rfl 1 rfl ?_
    refine x_icmp_ne X 53 dX11_savedOn_36 (by decide) (fun hc => ?_) (fun hc => ?_)
    · have h := h.1 hc
      refine x_iconst X dX11_savedOn_53 ki_0 ?_
      refine x_sub X [0, 1, 3, 4] (lv' := [(0, .ref (ad 0)), (1, .int v1), (3, .int v3), (4, .int v4)]) rfl ?_
      exact bX11_savedOn_54 X hK4 hK17 h
    · have h := h.2 hc
      refine x_aload_n X dX11_savedOn_39 rfl 0 rfl ?_
      refine x_getR X (j := 11) dX11_savedOn_40 fl_11_41 dsM_0 rfl ?_
      refine x_iload_n X dX11_savedOn_43 rfl 3 rfl ?_
      refine x_iload X dX11_savedOn_44 4 rfl ?_
      refine x_callSi X [.int v3, .int v4] [.ref (ad 11), .int v2] dX11_savedOn_46 (kX11_spot h) cm_X11_spot w_7_118 rfl w_7_117 ⟨by decide, by decide⟩ rfl (Nat.le_of_ble_eq_true rfl) (fun r46 σ46 τ46 h => ?_)
      have g49 := h.1
      have h := h.2
      refine x_iald X dX11_savedOn_49 dsM_11 g49 ?_
      refine x_goto X (tgt := 54) dX11_savedOn_50 (by decide) ?_
      refine x_sub X [0, 1, 3, 4] (lv' := [(0, .ref (ad 0)), (1, .int v1), (3, .int v3), (4, .int v4)]) rfl ?_
      exact bX11_savedOn_54 X hK4 hK17 h
set_option maxRecDepth 100000 in
set_option maxHeartbeats 4000000 in
theorem bX11_savedOn_4 {V : x_J} {ad : Nat → Nat} {Q : Int32 → x_S → x_L → Prop} (X : x_Is V cX11_savedOn 5 RX11 (Option.some FieldType.int) ad dsM 2 (x_PI Q)) {K4 : Int32 → Int32 → Int32 → x_S → x_L → Prop} (hK4 : ∀ v1 v2 v3 σ τ, K4 v1 v2 v3 σ τ → V σ τ 4 [(0, .ref (ad 0)), (1, .int v1), (2, .int v2), (3, .int v3)] []) {v1 : Int32} {v2 : Int32} {v3 : Int32} {σ : x_S} {τ : x_L} (h : wX11_savedOn_4 Q K4 v1 v2 v3 σ τ) : V σ τ 4 [(0, .ref (ad 0)), (1, .int v1), (2, .int v2), (3, .int v3)] [] := by
  refine x_iload_n X dX11_savedOn_4 rfl 3 rfl ?_
  refine x_aload_n X dX11_savedOn_5 rfl 0 rfl ?_
  refine x_getR X (j := 3) dX11_savedOn_6 fl_11_17 dsM_0 rfl ?_
  refine x_iconst X dX11_savedOn_9 ki_1 ?_
  refine x_iald X dX11_savedOn_10 dsM_3 (x_inl (by decide)) ?_
  refine x_icmp_ge X 68 dX11_savedOn_11 (by decide) (fun hc => ?_) (fun hc => ?_)
  · have h := h.1 hc
    refine x_iload_n X dX11_savedOn_68 rfl 2 rfl ?_
    exact x_iret X dX11_savedOn_69 ⟨_, rfl, h⟩
  · have h := h.2 hc
    refine x_iconst X dX11_savedOn_14 ki_0 ?_
    refine x_istore X (lv' := [(4, .int 0), (0, .ref (ad 0)), (1, .int v1), (2, .int v2), (3, .int v3)]) dX11_savedOn_15 (by decide) rfl ?_
    refine x_sub X [1, 2, 3, 4, 0] (lv' := [(0, .ref (ad 0)), (1, .int v1), (2, .int v2), (3, .int v3), (4, .int 0)]) rfl ?_
    exact x_l4_G (fun v1 v2 v3 v4 σ τ => V σ τ 17 [(0, .ref (ad 0)), (1, .int v1), (2, .int v2), (3, .int v3), (4, .int v4)] []) (fun K17 hK17 v1 v2 v3 v4 σ τ h => bX11_savedOn_17 X hK4 hK17 h) h
set_option maxRecDepth 100000 in
set_option maxHeartbeats 4000000 in
theorem kX11_savedOn {ad : Nat → Nat} {a1 : Int32} {σ : x_S} {τ : x_L} {Q : Int32 → x_S → x_L → Prop} (h : wX11_savedOn a1 σ τ Q) : x_Met yX11_savedOn cX11_savedOn 5 (Option.some FieldType.int) 2 ad dsM [.ref (ad 0), .int a1] σ τ (x_PI Q) := by
  refine x_met (by decide +kernel) (Nat.le_of_ble_eq_true rfl) (fun V X => ?_)
  have X : x_Is V cX11_savedOn 5 RX11 (Option.some FieldType.int) ad dsM 2 (x_PI Q) := X
  show V σ τ 0 [(0, .ref (ad 0)), (1, .int a1)] []
  refine x_iconst X dX11_savedOn_0 ki_0 ?_
  refine x_istore_n X (lv' := [(2, .int 0), (0, .ref (ad 0)), (1, .int a1)]) dX11_savedOn_1 rfl (by decide) rfl ?_
  refine x_iconst X dX11_savedOn_2 ki_0 ?_
  refine x_istore_n X (lv' := [(3, .int 0), (2, .int 0), (0, .ref (ad 0)), (1, .int a1)]) dX11_savedOn_3 rfl (by decide) rfl ?_
  refine x_sub X [2, 3, 1, 0] (lv' := [(0, .ref (ad 0)), (1, .int a1), (2, .int 0), (3, .int 0)]) rfl ?_
  exact x_l3_G (fun v1 v2 v3 σ τ => V σ τ 4 [(0, .ref (ad 0)), (1, .int v1), (2, .int v2), (3, .int v3)] []) (fun K4 hK4 v1 v2 v3 σ τ h => bX11_savedOn_4 X hK4 h) h
theorem dX11_bestRoad_0 : decode cX11_bestRoad 0 = .ok (.aload_n 0, 1) := by decide +kernel
theorem dX11_bestRoad_1 : decode cX11_bestRoad 1 = .ok (.iconst 0, 1) := by decide +kernel
theorem dX11_bestRoad_2 : decode cX11_bestRoad 2 = .ok (.putfield 82, 3) := by decide +kernel
theorem dX11_bestRoad_5 : decode cX11_bestRoad 5 = .ok (.aload_n 0, 1) := by decide +kernel
theorem dX11_bestRoad_6 : decode cX11_bestRoad 6 = .ok (.invokevirtual 200, 3) := by decide +kernel
theorem dX11_bestRoad_9 : decode cX11_bestRoad 9 = .ok (.iconst (-1), 1) := by decide +kernel
theorem dX11_bestRoad_10 : decode cX11_bestRoad 10 = .ok (.istore_n 1, 1) := by decide +kernel
theorem dX11_bestRoad_11 : decode cX11_bestRoad 11 = .ok (.iconst 0, 1) := by decide +kernel
theorem dX11_bestRoad_12 : decode cX11_bestRoad 12 = .ok (.istore_n 2, 1) := by decide +kernel
theorem dX11_bestRoad_13 : decode cX11_bestRoad 13 = .ok (.iconst 0, 1) := by decide +kernel
theorem dX11_bestRoad_14 : decode cX11_bestRoad 14 = .ok (.istore_n 3, 1) := by decide +kernel
theorem dX11_bestRoad_15 : decode cX11_bestRoad 15 = .ok (.iload_n 3, 1) := by decide +kernel
theorem dX11_bestRoad_16 : decode cX11_bestRoad 16 = .ok (.aload_n 0, 1) := by decide +kernel
theorem dX11_bestRoad_17 : decode cX11_bestRoad 17 = .ok (.getfield 17, 3) := by decide +kernel
theorem dX11_bestRoad_20 : decode cX11_bestRoad 20 = .ok (.iconst 0, 1) := by decide +kernel
theorem dX11_bestRoad_21 : decode cX11_bestRoad 21 = .ok (.iaload, 1) := by decide +kernel
theorem dX11_bestRoad_22 : decode cX11_bestRoad 22 = .ok (.if_icmp .ge 29, 3) := by decide +kernel
theorem dX11_bestRoad_25 : decode cX11_bestRoad 25 = .ok (.aload_n 0, 1) := by decide +kernel
theorem dX11_bestRoad_26 : decode cX11_bestRoad 26 = .ok (.iload_n 3, 1) := by decide +kernel
theorem dX11_bestRoad_27 : decode cX11_bestRoad 27 = .ok (.invokevirtual 337, 3) := by decide +kernel
theorem dX11_bestRoad_30 : decode cX11_bestRoad 30 = .ok (.iload_n 2, 1) := by decide +kernel
theorem dX11_bestRoad_31 : decode cX11_bestRoad 31 = .ok (.if_icmp .gt 6, 3) := by decide +kernel
theorem dX11_bestRoad_34 : decode cX11_bestRoad 34 = .ok (.goto 11, 3) := by decide +kernel
theorem dX11_bestRoad_37 : decode cX11_bestRoad 37 = .ok (.iload_n 3, 1) := by decide +kernel
theorem dX11_bestRoad_38 : decode cX11_bestRoad 38 = .ok (.istore_n 1, 1) := by decide +kernel
theorem dX11_bestRoad_39 : decode cX11_bestRoad 39 = .ok (.aload_n 0, 1) := by decide +kernel
theorem dX11_bestRoad_40 : decode cX11_bestRoad 40 = .ok (.iload_n 3, 1) := by decide +kernel
theorem dX11_bestRoad_41 : decode cX11_bestRoad 41 = .ok (.invokevirtual 337, 3) := by decide +kernel
theorem dX11_bestRoad_44 : decode cX11_bestRoad 44 = .ok (.istore_n 2, 1) := by decide +kernel
theorem dX11_bestRoad_45 : decode cX11_bestRoad 45 = .ok (.iinc 3 1, 3) := by decide +kernel
theorem dX11_bestRoad_48 : decode cX11_bestRoad 48 = .ok (.goto (-33), 3) := by decide +kernel
theorem dX11_bestRoad_51 : decode cX11_bestRoad 51 = .ok (.iload_n 1, 1) := by decide +kernel
theorem dX11_bestRoad_52 : decode cX11_bestRoad 52 = .ok (.ireturn, 1) := by decide +kernel
theorem cm_X11_bestRoad : x_CM yX11_bestRoad cX11_bestRoad 4 (Option.some FieldType.int) 0 := ⟨w_8_238, w_1_12, by decide +kernel, by decide +kernel⟩
theorem ci_X11_bestRoad : x_CI yX11_bestRoad 13 := ⟨w_8_236, w_8_237, (RX11, TX11, 41), rfl, rfl⟩
set_option maxRecDepth 100000 in
set_option maxHeartbeats 4000000 in
theorem bX11_bestRoad_45 {V : x_J} {ad : Nat → Nat} {Q : Int32 → x_S → x_L → Prop} (X : x_Is V cX11_bestRoad 4 RX11 (Option.some FieldType.int) ad dsM 6 (x_PI Q)) {K15 : Int32 → Int32 → Int32 → x_S → x_L → Prop} (hK15 : ∀ v1 v2 v3 σ τ, K15 v1 v2 v3 σ τ → V σ τ 15 [(0, .ref (ad 0)), (1, .int v1), (2, .int v2), (3, .int v3)] []) {v1 : Int32} {v2 : Int32} {v3 : Int32} {σ : x_S} {τ : x_L} (h : wX11_bestRoad_45 K15 Q v1 v2 v3 σ τ) : V σ τ 45 [(0, .ref (ad 0)), (1, .int v1), (2, .int v2), (3, .int v3)] [] := by
  refine x_iinc X (k := 3) (lv' := [(3, .int (v3 + 1)), (0, .ref (ad 0)), (1, .int v1), (2, .int v2)]) dX11_bestRoad_45 rfl ki_1 (by decide) rfl ?_
  refine x_goto X (tgt := 15) dX11_bestRoad_48 (by decide) ?_
  refine x_sub X [1, 2, 3, 0] (lv' := [(0, .ref (ad 0)), (1, .int v1), (2, .int v2), (3, .int (v3 + 1))]) rfl ?_
  exact hK15 _ _ _ _ _ h
set_option maxRecDepth 100000 in
set_option maxHeartbeats 4000000 in
theorem bX11_bestRoad_15 {V : x_J} {ad : Nat → Nat} {Q : Int32 → x_S → x_L → Prop} (X : x_Is V cX11_bestRoad 4 RX11 (Option.some FieldType.int) ad dsM 6 (x_PI Q)) {K15 : Int32 → Int32 → Int32 → x_S → x_L → Prop} (hK15 : ∀ v1 v2 v3 σ τ, K15 v1 v2 v3 σ τ → V σ τ 15 [(0, .ref (ad 0)), (1, .int v1), (2, .int v2), (3, .int v3)] []) {v1 : Int32} {v2 : Int32} {v3 : Int32} {σ : x_S} {τ : x_L} (h : wX11_bestRoad_15 Q K15 v1 v2 v3 σ τ) : V σ τ 15 [(0, .ref (ad 0)), (1, .int v1), (2, .int v2), (3, .int v3)] [] := by
  refine x_iload_n X dX11_bestRoad_15 rfl 3 rfl ?_
  refine x_aload_n X dX11_bestRoad_16 rfl 0 rfl ?_
  refine x_getR X (j := 3) dX11_bestRoad_17 fl_11_17 dsM_0 rfl ?_
  refine x_iconst X dX11_bestRoad_20 ki_0 ?_
  refine x_iald X dX11_bestRoad_21 dsM_3 (x_inl (by decide)) ?_
  refine x_icmp_ge X 51 dX11_bestRoad_22 (by decide) (fun hc => ?_) (fun hc => ?_)
  · have h := h.1 hc
    refine x_iload_n X dX11_bestRoad_51 rfl 1 rfl ?_
    exact x_iret X dX11_bestRoad_52 ⟨_, rfl, h⟩
  · have h := h.2 hc
    refine x_aload_n X dX11_bestRoad_25 rfl 0 rfl ?_
    refine x_iload_n X dX11_bestRoad_26 rfl 3 rfl ?_
    refine x_callVi X [.int v3] [] dX11_bestRoad_27 (kX11_savedOn h) cm_X11_savedOn ci_X11_savedOn w_8_239 dsM_0 ⟨by decide, by decide⟩ rfl (Nat.le_of_ble_eq_true rfl) (fun r27 σ27 τ27 h => ?_)
    refine x_iload_n X dX11_bestRoad_30 rfl 2 rfl ?_
    refine x_icmp_gt X 37 dX11_bestRoad_31 (by decide) (fun hc => ?_) (fun hc => ?_)
    · have h := h.1 hc
      refine x_iload_n X dX11_bestRoad_37 rfl 3 rfl ?_
      refine x_istore_n X (lv' := [(1, .int v3), (0, .ref (ad 0)), (2, .int v2), (3, .int v3)]) dX11_bestRoad_38 rfl (by decide) rfl ?_
      refine x_aload_n X dX11_bestRoad_39 rfl 1 rfl ?_
      refine x_iload_n X dX11_bestRoad_40 rfl 3 rfl ?_
      refine x_callVi X [.int v3] [] dX11_bestRoad_41 (kX11_savedOn h) cm_X11_savedOn ci_X11_savedOn w_8_239 dsM_0 ⟨by decide, by decide⟩ rfl (Nat.le_of_ble_eq_true rfl) (fun r41 σ41 τ41 h => ?_)
      refine x_istore_n X (lv' := [(2, .int r41), (1, .int v3), (0, .ref (ad 0)), (3, .int v3)]) dX11_bestRoad_44 rfl (by decide) rfl ?_
      refine x_sub X [2, 1, 0, 3] (lv' := [(0, .ref (ad 0)), (1, .int v3), (2, .int r41), (3, .int v3)]) rfl ?_
      exact bX11_bestRoad_45 X hK15 h
    · have h := h.2 hc
      refine x_goto X (tgt := 45) dX11_bestRoad_34 (by decide) ?_
      exact bX11_bestRoad_45 X hK15 h
set_option maxRecDepth 100000 in
set_option maxHeartbeats 4000000 in
theorem kX11_bestRoad {ad : Nat → Nat} {σ : x_S} {τ : x_L} {Q : Int32 → x_S → x_L → Prop} (h : wX11_bestRoad σ τ Q) : x_Met yX11_bestRoad cX11_bestRoad 4 (Option.some FieldType.int) 6 ad dsM [.ref (ad 0)] σ τ (x_PI Q) := by
  refine x_met (by decide +kernel) (Nat.le_of_ble_eq_true rfl) (fun V X => ?_)
  have X : x_Is V cX11_bestRoad 4 RX11 (Option.some FieldType.int) ad dsM 6 (x_PI Q) := X
  show V σ τ 0 [(0, .ref (ad 0))] []
  refine x_aload_n X dX11_bestRoad_0 rfl 0 rfl ?_
  refine x_iconst X dX11_bestRoad_1 ki_0 ?_
  refine x_putI X dX11_bestRoad_2 fl_11_82 ft_11_5 dsM_0 rfl ?_
  refine x_aload_n X dX11_bestRoad_5 rfl 0 rfl ?_
  refine x_callVv X [] [] dX11_bestRoad_6 (kX11_lay h) cm_X11_lay ci_X11_lay w_7_101 dsM_0 ⟨by decide, by decide⟩ rfl (Nat.le_of_ble_eq_true rfl) (fun σ6 τ6 h => ?_)
  refine x_iconst X dX11_bestRoad_9 ki_m1 ?_
  refine x_istore_n X (lv' := [(1, .int (-1)), (0, .ref (ad 0))]) dX11_bestRoad_10 rfl (by decide) rfl ?_
  refine x_iconst X dX11_bestRoad_11 ki_0 ?_
  refine x_istore_n X (lv' := [(2, .int 0), (1, .int (-1)), (0, .ref (ad 0))]) dX11_bestRoad_12 rfl (by decide) rfl ?_
  refine x_iconst X dX11_bestRoad_13 ki_0 ?_
  refine x_istore_n X (lv' := [(3, .int 0), (2, .int 0), (1, .int (-1)), (0, .ref (ad 0))]) dX11_bestRoad_14 rfl (by decide) rfl ?_
  refine x_sub X [3, 2, 1, 0] (lv' := [(0, .ref (ad 0)), (1, .int (-1)), (2, .int 0), (3, .int 0)]) rfl ?_
  exact x_l3_G (fun v1 v2 v3 σ τ => V σ τ 15 [(0, .ref (ad 0)), (1, .int v1), (2, .int v2), (3, .int v3)] []) (fun K15 hK15 v1 v2 v3 σ τ h => bX11_bestRoad_15 X hK15 h) h
theorem dX11_worth_0 : decode cX11_worth 0 = .ok (.iconst 0, 1) := by decide +kernel
theorem dX11_worth_1 : decode cX11_worth 1 = .ok (.istore_n 2, 1) := by decide +kernel
theorem dX11_worth_2 : decode cX11_worth 2 = .ok (.iconst 0, 1) := by decide +kernel
theorem dX11_worth_3 : decode cX11_worth 3 = .ok (.istore_n 3, 1) := by decide +kernel
theorem dX11_worth_4 : decode cX11_worth 4 = .ok (.iload_n 3, 1) := by decide +kernel
theorem dX11_worth_5 : decode cX11_worth 5 = .ok (.iload_n 1, 1) := by decide +kernel
theorem dX11_worth_6 : decode cX11_worth 6 = .ok (.if_icmp .ge 34, 3) := by decide +kernel
theorem dX11_worth_9 : decode cX11_worth 9 = .ok (.iload_n 2, 1) := by decide +kernel
theorem dX11_worth_10 : decode cX11_worth 10 = .ok (.aload_n 0, 1) := by decide +kernel
theorem dX11_worth_11 : decode cX11_worth 11 = .ok (.iload_n 3, 1) := by decide +kernel
theorem dX11_worth_12 : decode cX11_worth 12 = .ok (.iload_n 1, 1) := by decide +kernel
theorem dX11_worth_13 : decode cX11_worth 13 = .ok (.invokevirtual 166, 3) := by decide +kernel
theorem dX11_worth_16 : decode cX11_worth 16 = .ok (.aload_n 0, 1) := by decide +kernel
theorem dX11_worth_17 : decode cX11_worth 17 = .ok (.iload_n 3, 1) := by decide +kernel
theorem dX11_worth_18 : decode cX11_worth 18 = .ok (.invokevirtual 169, 3) := by decide +kernel
theorem dX11_worth_21 : decode cX11_worth 21 = .ok (.ifCond .eq 9, 3) := by decide +kernel
theorem dX11_worth_24 : decode cX11_worth 24 = .ok (.sipush 300, 3) := by decide +kernel
theorem dX11_worth_27 : decode cX11_worth 27 = .ok (.goto 4, 3) := by decide +kernel
theorem dX11_worth_30 : decode cX11_worth 30 = .ok (.iconst 0, 1) := by decide +kernel
theorem dX11_worth_31 : decode cX11_worth 31 = .ok (.isub, 1) := by decide +kernel
theorem dX11_worth_32 : decode cX11_worth 32 = .ok (.iadd, 1) := by decide +kernel
theorem dX11_worth_33 : decode cX11_worth 33 = .ok (.istore_n 2, 1) := by decide +kernel
theorem dX11_worth_34 : decode cX11_worth 34 = .ok (.iinc 3 1, 3) := by decide +kernel
theorem dX11_worth_37 : decode cX11_worth 37 = .ok (.goto (-33), 3) := by decide +kernel
theorem dX11_worth_40 : decode cX11_worth 40 = .ok (.iload_n 2, 1) := by decide +kernel
theorem dX11_worth_41 : decode cX11_worth 41 = .ok (.ireturn, 1) := by decide +kernel
theorem cm_X11_worth : x_CM yX11_worth cX11_worth 4 (Option.some FieldType.int) 1 := ⟨w_9_18, w_1_12, by decide +kernel, by decide +kernel⟩
theorem ci_X11_worth : x_CI yX11_worth 13 := ⟨w_9_17, wp_107, (RX11, TX11, 41), rfl, rfl⟩
set_option maxRecDepth 100000 in
set_option maxHeartbeats 4000000 in
theorem bX11_worth_31 {V : x_J} {ad : Nat → Nat} {Q : Int32 → x_S → x_L → Prop} (X : x_Is V cX11_worth 4 RX11 (Option.some FieldType.int) ad dsM 4 (x_PI Q)) {K4 : Int32 → Int32 → Int32 → x_S → x_L → Prop} (hK4 : ∀ v1 v2 v3 σ τ, K4 v1 v2 v3 σ τ → V σ τ 4 [(0, .ref (ad 0)), (1, .int v1), (2, .int v2), (3, .int v3)] []) {v1 : Int32} {v3 : Int32} {s0 : Int32} {s1 : Int32} {s2 : Int32} {σ : x_S} {τ : x_L} (h : wX11_worth_31 K4 Q v1 v3 s0 s1 s2 σ τ) : V σ τ 31 [(0, .ref (ad 0)), (1, .int v1), (3, .int v3)] [.int s2, .int s1, .int s0] := by
  refine x_isub X dX11_worth_31 ?_
  refine x_iadd X dX11_worth_32 ?_
  refine x_istore_n X (lv' := [(2, .int (s0 + (s1 - s2))), (0, .ref (ad 0)), (1, .int v1), (3, .int v3)]) dX11_worth_33 rfl (by decide) rfl ?_
  refine x_iinc X (k := 3) (lv' := [(3, .int (v3 + 1)), (2, .int (s0 + (s1 - s2))), (0, .ref (ad 0)), (1, .int v1)]) dX11_worth_34 rfl ki_1 (by decide) rfl ?_
  refine x_goto X (tgt := 4) dX11_worth_37 (by decide) ?_
  refine x_sub X [2, 3, 1, 0] (lv' := [(0, .ref (ad 0)), (1, .int v1), (2, .int (s0 + (s1 - s2))), (3, .int (v3 + 1))]) rfl ?_
  exact hK4 _ _ _ _ _ h
set_option maxRecDepth 100000 in
set_option maxHeartbeats 4000000 in
theorem bX11_worth_4 {V : x_J} {ad : Nat → Nat} {Q : Int32 → x_S → x_L → Prop} (X : x_Is V cX11_worth 4 RX11 (Option.some FieldType.int) ad dsM 4 (x_PI Q)) {K4 : Int32 → Int32 → Int32 → x_S → x_L → Prop} (hK4 : ∀ v1 v2 v3 σ τ, K4 v1 v2 v3 σ τ → V σ τ 4 [(0, .ref (ad 0)), (1, .int v1), (2, .int v2), (3, .int v3)] []) {v1 : Int32} {v2 : Int32} {v3 : Int32} {σ : x_S} {τ : x_L} (h : wX11_worth_4 Q K4 v1 v2 v3 σ τ) : V σ τ 4 [(0, .ref (ad 0)), (1, .int v1), (2, .int v2), (3, .int v3)] [] := by
  refine x_iload_n X dX11_worth_4 rfl 3 rfl ?_
  refine x_iload_n X dX11_worth_5 rfl 1 rfl ?_
  refine x_icmp_ge X 40 dX11_worth_6 (by decide) (fun hc => ?_) (fun hc => ?_)
  · have h := h.1 hc
    refine x_iload_n X dX11_worth_40 rfl 2 rfl ?_
    exact x_iret X dX11_worth_41 ⟨_, rfl, h⟩
  · have h := h.2 hc
    refine x_iload_n X dX11_worth_9 rfl 2 rfl ?_
    refine x_aload_n X dX11_worth_10 rfl 0 rfl ?_
    refine x_iload_n X dX11_worth_11 rfl 3 rfl ?_
    refine x_iload_n X dX11_worth_12 rfl 1 rfl ?_
    refine x_callVi X [.int v3, .int v1] [.int v2] dX11_worth_13 (kX11_savingOf h) cm_X11_savingOf ci_X11_savingOf w_7_187 dsM_0 ⟨by decide, by decide⟩ rfl (Nat.le_of_ble_eq_true rfl) (fun r13 σ13 τ13 h => ?_)
    refine x_aload_n X dX11_worth_16 rfl 0 rfl ?_
    refine x_iload_n X dX11_worth_17 rfl 3 rfl ?_
    refine x_callVi X [.int v3] [.int r13, .int v2] dX11_worth_18 (kX11_isClosing h) cm_X11_isClosing ci_X11_isClosing w_7_199 dsM_0 ⟨by decide, by decide⟩ rfl (Nat.le_of_ble_eq_true rfl) (fun r18 σ18 τ18 h => ?_)
    refine x_if_eq X 30 dX11_worth_21 (by decide) (fun hc => ?_) (fun hc => ?_)
    · have h := h.1 hc
      refine x_iconst X dX11_worth_30 ki_0 ?_
      refine x_sub X [0, 1, 3] (lv' := [(0, .ref (ad 0)), (1, .int v1), (3, .int v3)]) rfl ?_
      exact bX11_worth_31 X hK4 h
    · have h := h.2 hc
      refine x_sipush X dX11_worth_24 ks_300 ?_
      refine x_goto X (tgt := 31) dX11_worth_27 (by decide) ?_
      refine x_sub X [0, 1, 3] (lv' := [(0, .ref (ad 0)), (1, .int v1), (3, .int v3)]) rfl ?_
      exact bX11_worth_31 X hK4 h
set_option maxRecDepth 100000 in
set_option maxHeartbeats 4000000 in
theorem kX11_worth {ad : Nat → Nat} {a1 : Int32} {σ : x_S} {τ : x_L} {Q : Int32 → x_S → x_L → Prop} (h : wX11_worth a1 σ τ Q) : x_Met yX11_worth cX11_worth 4 (Option.some FieldType.int) 4 ad dsM [.ref (ad 0), .int a1] σ τ (x_PI Q) := by
  refine x_met (by decide +kernel) (Nat.le_of_ble_eq_true rfl) (fun V X => ?_)
  have X : x_Is V cX11_worth 4 RX11 (Option.some FieldType.int) ad dsM 4 (x_PI Q) := X
  show V σ τ 0 [(0, .ref (ad 0)), (1, .int a1)] []
  refine x_iconst X dX11_worth_0 ki_0 ?_
  refine x_istore_n X (lv' := [(2, .int 0), (0, .ref (ad 0)), (1, .int a1)]) dX11_worth_1 rfl (by decide) rfl ?_
  refine x_iconst X dX11_worth_2 ki_0 ?_
  refine x_istore_n X (lv' := [(3, .int 0), (2, .int 0), (0, .ref (ad 0)), (1, .int a1)]) dX11_worth_3 rfl (by decide) rfl ?_
  refine x_sub X [2, 3, 1, 0] (lv' := [(0, .ref (ad 0)), (1, .int a1), (2, .int 0), (3, .int 0)]) rfl ?_
  exact x_l3_G (fun v1 v2 v3 σ τ => V σ τ 4 [(0, .ref (ad 0)), (1, .int v1), (2, .int v2), (3, .int v3)] []) (fun K4 hK4 v1 v2 v3 σ τ h => bX11_worth_4 X hK4 h) h
theorem dX11_swapTurns_0 : decode cX11_swapTurns 0 = .ok (.aload_n 0, 1) := by decide +kernel
theorem dX11_swapTurns_1 : decode cX11_swapTurns 1 = .ok (.getfield 59, 3) := by decide +kernel
theorem dX11_swapTurns_4 : decode cX11_swapTurns 4 = .ok (.iload_n 1, 1) := by decide +kernel
theorem dX11_swapTurns_5 : decode cX11_swapTurns 5 = .ok (.iaload, 1) := by decide +kernel
theorem dX11_swapTurns_6 : decode cX11_swapTurns 6 = .ok (.istore_n 3, 1) := by decide +kernel
theorem dX11_swapTurns_7 : decode cX11_swapTurns 7 = .ok (.aload_n 0, 1) := by decide +kernel
theorem dX11_swapTurns_8 : decode cX11_swapTurns 8 = .ok (.getfield 59, 3) := by decide +kernel
theorem dX11_swapTurns_11 : decode cX11_swapTurns 11 = .ok (.iload_n 1, 1) := by decide +kernel
theorem dX11_swapTurns_12 : decode cX11_swapTurns 12 = .ok (.aload_n 0, 1) := by decide +kernel
theorem dX11_swapTurns_13 : decode cX11_swapTurns 13 = .ok (.getfield 59, 3) := by decide +kernel
theorem dX11_swapTurns_16 : decode cX11_swapTurns 16 = .ok (.iload_n 2, 1) := by decide +kernel
theorem dX11_swapTurns_17 : decode cX11_swapTurns 17 = .ok (.iaload, 1) := by decide +kernel
theorem dX11_swapTurns_18 : decode cX11_swapTurns 18 = .ok (.iastore, 1) := by decide +kernel
theorem dX11_swapTurns_19 : decode cX11_swapTurns 19 = .ok (.aload_n 0, 1) := by decide +kernel
theorem dX11_swapTurns_20 : decode cX11_swapTurns 20 = .ok (.getfield 59, 3) := by decide +kernel
theorem dX11_swapTurns_23 : decode cX11_swapTurns 23 = .ok (.iload_n 2, 1) := by decide +kernel
theorem dX11_swapTurns_24 : decode cX11_swapTurns 24 = .ok (.iload_n 3, 1) := by decide +kernel
theorem dX11_swapTurns_25 : decode cX11_swapTurns 25 = .ok (.iastore, 1) := by decide +kernel
theorem dX11_swapTurns_26 : decode cX11_swapTurns 26 = .ok (.return_, 1) := by decide +kernel
theorem cm_X11_swapTurns : x_CM yX11_swapTurns cX11_swapTurns 4 (Option.none : Option Jvm.ClassFile.FieldType) 2 := ⟨w_9_34, w_1_12, by decide +kernel, by decide +kernel⟩
theorem ci_X11_swapTurns : x_CI yX11_swapTurns 13 := ⟨w_9_33, wp_111, (RX11, TX11, 41), rfl, rfl⟩
set_option maxRecDepth 100000 in
set_option maxHeartbeats 4000000 in
theorem kX11_swapTurns {ad : Nat → Nat} {a1 : Int32} {a2 : Int32} {σ : x_S} {τ : x_L} {Q : x_S → x_L → Prop} (h : wX11_swapTurns a1 a2 σ τ Q) : x_Met yX11_swapTurns cX11_swapTurns 4 (Option.none : Option Jvm.ClassFile.FieldType) 0 ad dsM [.ref (ad 0), .int a1, .int a2] σ τ (x_PV Q) := by
  refine x_met (by decide +kernel) (Nat.le_of_ble_eq_true rfl) (fun V X => ?_)
  have X : x_Is V cX11_swapTurns 4 RX11 (Option.none : Option Jvm.ClassFile.FieldType) ad dsM 0 (x_PV Q) := X
  show V σ τ 0 [(0, .ref (ad 0)), (1, .int a1), (2, .int a2)] []
  refine x_aload_n X dX11_swapTurns_0 rfl 0 rfl ?_
  refine x_getR X (j := 17) dX11_swapTurns_1 fl_11_59 dsM_0 rfl ?_
  refine x_iload_n X dX11_swapTurns_4 rfl 1 rfl ?_
  have g5 := h.1
  have h := h.2
  refine x_iald X dX11_swapTurns_5 dsM_17 g5 ?_
  refine x_istore_n X (lv' := [(3, .int (σ 17 a1.toNatClampNeg)), (0, .ref (ad 0)), (1, .int a1), (2, .int a2)]) dX11_swapTurns_6 rfl (by decide) rfl ?_
  refine x_aload_n X dX11_swapTurns_7 rfl 1 rfl ?_
  refine x_getR X (j := 17) dX11_swapTurns_8 fl_11_59 dsM_0 rfl ?_
  refine x_iload_n X dX11_swapTurns_11 rfl 2 rfl ?_
  refine x_aload_n X dX11_swapTurns_12 rfl 1 rfl ?_
  refine x_getR X (j := 17) dX11_swapTurns_13 fl_11_59 dsM_0 rfl ?_
  refine x_iload_n X dX11_swapTurns_16 rfl 3 rfl ?_
  have g17 := h.1
  have h := h.2
  refine x_iald X dX11_swapTurns_17 dsM_17 g17 ?_
  refine x_iast X dX11_swapTurns_18 dsM_17 g5 ?_
  refine x_aload_n X dX11_swapTurns_19 rfl 1 rfl ?_
  refine x_getR X (j := 17) dX11_swapTurns_20 fl_11_59 dsM_0 rfl ?_
  refine x_iload_n X dX11_swapTurns_23 rfl 3 rfl ?_
  refine x_iload_n X dX11_swapTurns_24 rfl 0 rfl ?_
  refine x_iast X dX11_swapTurns_25 dsM_17 g17 ?_
  exact x_vret X dX11_swapTurns_26 ⟨rfl, h⟩
theorem dX11_nextTurn_0 : decode cX11_nextTurn 0 = .ok (.iload_n 1, 1) := by decide +kernel
theorem dX11_nextTurn_1 : decode cX11_nextTurn 1 = .ok (.iconst 2, 1) := by decide +kernel
theorem dX11_nextTurn_2 : decode cX11_nextTurn 2 = .ok (.isub, 1) := by decide +kernel
theorem dX11_nextTurn_3 : decode cX11_nextTurn 3 = .ok (.istore_n 2, 1) := by decide +kernel
theorem dX11_nextTurn_4 : decode cX11_nextTurn 4 = .ok (.iload_n 2, 1) := by decide +kernel
theorem dX11_nextTurn_5 : decode cX11_nextTurn 5 = .ok (.ifCond .lt 26, 3) := by decide +kernel
theorem dX11_nextTurn_8 : decode cX11_nextTurn 8 = .ok (.aload_n 0, 1) := by decide +kernel
theorem dX11_nextTurn_9 : decode cX11_nextTurn 9 = .ok (.getfield 59, 3) := by decide +kernel
theorem dX11_nextTurn_12 : decode cX11_nextTurn 12 = .ok (.iload_n 2, 1) := by decide +kernel
theorem dX11_nextTurn_13 : decode cX11_nextTurn 13 = .ok (.iaload, 1) := by decide +kernel
theorem dX11_nextTurn_14 : decode cX11_nextTurn 14 = .ok (.aload_n 0, 1) := by decide +kernel
theorem dX11_nextTurn_15 : decode cX11_nextTurn 15 = .ok (.getfield 59, 3) := by decide +kernel
theorem dX11_nextTurn_18 : decode cX11_nextTurn 18 = .ok (.iload_n 2, 1) := by decide +kernel
theorem dX11_nextTurn_19 : decode cX11_nextTurn 19 = .ok (.iconst 1, 1) := by decide +kernel
theorem dX11_nextTurn_20 : decode cX11_nextTurn 20 = .ok (.iadd, 1) := by decide +kernel
theorem dX11_nextTurn_21 : decode cX11_nextTurn 21 = .ok (.iaload, 1) := by decide +kernel
theorem dX11_nextTurn_22 : decode cX11_nextTurn 22 = .ok (.if_icmp .le 9, 3) := by decide +kernel
theorem dX11_nextTurn_25 : decode cX11_nextTurn 25 = .ok (.iinc 2 (-1), 3) := by decide +kernel
theorem dX11_nextTurn_28 : decode cX11_nextTurn 28 = .ok (.goto (-24), 3) := by decide +kernel
theorem dX11_nextTurn_31 : decode cX11_nextTurn 31 = .ok (.iload_n 2, 1) := by decide +kernel
theorem dX11_nextTurn_32 : decode cX11_nextTurn 32 = .ok (.ifCond .ge 5, 3) := by decide +kernel
theorem dX11_nextTurn_35 : decode cX11_nextTurn 35 = .ok (.iconst 0, 1) := by decide +kernel
theorem dX11_nextTurn_36 : decode cX11_nextTurn 36 = .ok (.ireturn, 1) := by decide +kernel
theorem dX11_nextTurn_37 : decode cX11_nextTurn 37 = .ok (.iload_n 1, 1) := by decide +kernel
theorem dX11_nextTurn_38 : decode cX11_nextTurn 38 = .ok (.iconst 1, 1) := by decide +kernel
theorem dX11_nextTurn_39 : decode cX11_nextTurn 39 = .ok (.isub, 1) := by decide +kernel
theorem dX11_nextTurn_40 : decode cX11_nextTurn 40 = .ok (.istore_n 3, 1) := by decide +kernel
theorem dX11_nextTurn_41 : decode cX11_nextTurn 41 = .ok (.aload_n 0, 1) := by decide +kernel
theorem dX11_nextTurn_42 : decode cX11_nextTurn 42 = .ok (.getfield 59, 3) := by decide +kernel
theorem dX11_nextTurn_45 : decode cX11_nextTurn 45 = .ok (.iload_n 3, 1) := by decide +kernel
theorem dX11_nextTurn_46 : decode cX11_nextTurn 46 = .ok (.iaload, 1) := by decide +kernel
theorem dX11_nextTurn_47 : decode cX11_nextTurn 47 = .ok (.aload_n 0, 1) := by decide +kernel
theorem dX11_nextTurn_48 : decode cX11_nextTurn 48 = .ok (.getfield 59, 3) := by decide +kernel
theorem dX11_nextTurn_51 : decode cX11_nextTurn 51 = .ok (.iload_n 2, 1) := by decide +kernel
theorem dX11_nextTurn_52 : decode cX11_nextTurn 52 = .ok (.iaload, 1) := by decide +kernel
theorem dX11_nextTurn_53 : decode cX11_nextTurn 53 = .ok (.if_icmp .ge 9, 3) := by decide +kernel
theorem dX11_nextTurn_56 : decode cX11_nextTurn 56 = .ok (.iinc 3 (-1), 3) := by decide +kernel
theorem dX11_nextTurn_59 : decode cX11_nextTurn 59 = .ok (.goto (-18), 3) := by decide +kernel
theorem dX11_nextTurn_62 : decode cX11_nextTurn 62 = .ok (.aload_n 0, 1) := by decide +kernel
theorem dX11_nextTurn_63 : decode cX11_nextTurn 63 = .ok (.iload_n 2, 1) := by decide +kernel
theorem dX11_nextTurn_64 : decode cX11_nextTurn 64 = .ok (.iload_n 3, 1) := by decide +kernel
theorem dX11_nextTurn_65 : decode cX11_nextTurn 65 = .ok (.invokevirtual 340, 3) := by decide +kernel
theorem dX11_nextTurn_68 : decode cX11_nextTurn 68 = .ok (.iconst 1, 1) := by decide +kernel
theorem dX11_nextTurn_69 : decode cX11_nextTurn 69 = .ok (.istore 4, 2) := by decide +kernel
theorem dX11_nextTurn_71 : decode cX11_nextTurn 71 = .ok (.iload_n 2, 1) := by decide +kernel
theorem dX11_nextTurn_72 : decode cX11_nextTurn 72 = .ok (.iload 4, 2) := by decide +kernel
theorem dX11_nextTurn_74 : decode cX11_nextTurn 74 = .ok (.iadd, 1) := by decide +kernel
theorem dX11_nextTurn_75 : decode cX11_nextTurn 75 = .ok (.iload_n 1, 1) := by decide +kernel
theorem dX11_nextTurn_76 : decode cX11_nextTurn 76 = .ok (.iload 4, 2) := by decide +kernel
theorem dX11_nextTurn_78 : decode cX11_nextTurn 78 = .ok (.isub, 1) := by decide +kernel
theorem dX11_nextTurn_79 : decode cX11_nextTurn 79 = .ok (.if_icmp .ge 21, 3) := by decide +kernel
theorem dX11_nextTurn_82 : decode cX11_nextTurn 82 = .ok (.aload_n 0, 1) := by decide +kernel
theorem dX11_nextTurn_83 : decode cX11_nextTurn 83 = .ok (.iload_n 2, 1) := by decide +kernel
theorem dX11_nextTurn_84 : decode cX11_nextTurn 84 = .ok (.iload 4, 2) := by decide +kernel
theorem dX11_nextTurn_86 : decode cX11_nextTurn 86 = .ok (.iadd, 1) := by decide +kernel
theorem dX11_nextTurn_87 : decode cX11_nextTurn 87 = .ok (.iload_n 1, 1) := by decide +kernel
theorem dX11_nextTurn_88 : decode cX11_nextTurn 88 = .ok (.iload 4, 2) := by decide +kernel
theorem dX11_nextTurn_90 : decode cX11_nextTurn 90 = .ok (.isub, 1) := by decide +kernel
theorem dX11_nextTurn_91 : decode cX11_nextTurn 91 = .ok (.invokevirtual 340, 3) := by decide +kernel
theorem dX11_nextTurn_94 : decode cX11_nextTurn 94 = .ok (.iinc 4 1, 3) := by decide +kernel
theorem dX11_nextTurn_97 : decode cX11_nextTurn 97 = .ok (.goto (-26), 3) := by decide +kernel
theorem dX11_nextTurn_100 : decode cX11_nextTurn 100 = .ok (.iconst 1, 1) := by decide +kernel
theorem dX11_nextTurn_101 : decode cX11_nextTurn 101 = .ok (.ireturn, 1) := by decide +kernel
theorem cm_X11_nextTurn : x_CM yX11_nextTurn cX11_nextTurn 5 (Option.some FieldType.boolean) 1 := ⟨w_9_30, w_1_12, by decide +kernel, by decide +kernel⟩
theorem ci_X11_nextTurn : x_CI yX11_nextTurn 13 := ⟨w_9_29, wp_110, (RX11, TX11, 41), rfl, rfl⟩
set_option maxRecDepth 100000 in
set_option maxHeartbeats 4000000 in
theorem bX11_nextTurn_71 {V : x_J} {ad : Nat → Nat} {Q : Int32 → x_S → x_L → Prop} (X : x_Is V cX11_nextTurn 5 RX11 (Option.some FieldType.boolean) ad dsM 1 (x_PI Q)) {K71 : Int32 → Int32 → Int32 → x_S → x_L → Prop} (hK71 : ∀ v1 v2 v4 σ τ, K71 v1 v2 v4 σ τ → V σ τ 71 [(0, .ref (ad 0)), (1, .int v1), (2, .int v2), (4, .int v4)] []) {v1 : Int32} {v2 : Int32} {v4 : Int32} {σ : x_S} {τ : x_L} (h : wX11_nextTurn_71 Q K71 v1 v2 v4 σ τ) : V σ τ 71 [(0, .ref (ad 0)), (1, .int v1), (2, .int v2), (4, .int v4)] [] := by
  refine x_iload_n X dX11_nextTurn_71 rfl 2 rfl ?_
  refine x_iload X dX11_nextTurn_72 3 rfl ?_
  refine x_iadd X dX11_nextTurn_74 ?_
  refine x_iload_n X dX11_nextTurn_75 rfl 1 rfl ?_
  refine x_iload X dX11_nextTurn_76 3 rfl ?_
  refine x_isub X dX11_nextTurn_78 ?_
  refine x_icmp_ge X 100 dX11_nextTurn_79 (by decide) (fun hc => ?_) (fun hc => ?_)
  · have h := h.1 hc
    refine x_iconst X dX11_nextTurn_100 ki_1 ?_
    exact x_zret X dX11_nextTurn_101 ⟨Or.inr rfl, _, rfl, h⟩
  · have h := h.2 hc
    refine x_aload_n X dX11_nextTurn_82 rfl 0 rfl ?_
    refine x_iload_n X dX11_nextTurn_83 rfl 2 rfl ?_
    refine x_iload X dX11_nextTurn_84 3 rfl ?_
    refine x_iadd X dX11_nextTurn_86 ?_
    refine x_iload_n X dX11_nextTurn_87 rfl 1 rfl ?_
    refine x_iload X dX11_nextTurn_88 3 rfl ?_
    refine x_isub X dX11_nextTurn_90 ?_
    refine x_callVv X [.int (v2 + v4), .int (v1 - v4)] [] dX11_nextTurn_91 (kX11_swapTurns h) cm_X11_swapTurns ci_X11_swapTurns w_9_31 dsM_0 ⟨by decide, by decide⟩ rfl (Nat.le_of_ble_eq_true rfl) (fun σ91 τ91 h => ?_)
    refine x_iinc X (k := 3) (lv' := [(4, .int (v4 + 1)), (0, .ref (ad 0)), (1, .int v1), (2, .int v2)]) dX11_nextTurn_94 rfl ki_1 (by decide) rfl ?_
    refine x_goto X (tgt := 71) dX11_nextTurn_97 (by decide) ?_
    refine x_sub X [1, 2, 3, 0] (lv' := [(0, .ref (ad 0)), (1, .int v1), (2, .int v2), (4, .int (v4 + 1))]) rfl ?_
    exact hK71 _ _ _ _ _ h
set_option maxRecDepth 100000 in
set_option maxHeartbeats 4000000 in
theorem bX11_nextTurn_41 {V : x_J} {ad : Nat → Nat} {Q : Int32 → x_S → x_L → Prop} (X : x_Is V cX11_nextTurn 5 RX11 (Option.some FieldType.boolean) ad dsM 1 (x_PI Q)) {K41 : Int32 → Int32 → Int32 → x_S → x_L → Prop} (hK41 : ∀ v1 v2 v3 σ τ, K41 v1 v2 v3 σ τ → V σ τ 41 [(0, .ref (ad 0)), (1, .int v1), (2, .int v2), (3, .int v3)] []) {v1 : Int32} {v2 : Int32} {v3 : Int32} {σ : x_S} {τ : x_L} (h : wX11_nextTurn_41 Q K41 v1 v2 v3 σ τ) : V σ τ 41 [(0, .ref (ad 0)), (1, .int v1), (2, .int v2), (3, .int v3)] [] := by
  refine x_aload_n X dX11_nextTurn_41 rfl 0 rfl ?_
  refine x_getR X (j := 17) dX11_nextTurn_42 fl_11_59 dsM_0 rfl ?_
  refine x_iload_n X dX11_nextTurn_45 rfl 3 rfl ?_
  have g46 := h.1
  have h := h.2
  refine x_iald X dX11_nextTurn_46 dsM_17 g46 ?_
  refine x_aload_n X dX11_nextTurn_47 rfl 0 rfl ?_
  refine x_getR X (j := 17) dX11_nextTurn_48 fl_11_59 dsM_0 rfl ?_
  refine x_iload_n X dX11_nextTurn_51 rfl 2 rfl ?_
  have g52 := h.1
  have h := h.2
  refine x_iald X dX11_nextTurn_52 dsM_17 g52 ?_
  refine x_icmp_ge X 62 dX11_nextTurn_53 (by decide) (fun hc => ?_) (fun hc => ?_)
  · have h := h.1 hc
    refine x_aload_n X dX11_nextTurn_62 rfl 0 rfl ?_
    refine x_iload_n X dX11_nextTurn_63 rfl 2 rfl ?_
    refine x_iload_n X dX11_nextTurn_64 rfl 3 rfl ?_
    refine x_callVv X [.int v2, .int v3] [] dX11_nextTurn_65 (kX11_swapTurns h) cm_X11_swapTurns ci_X11_swapTurns w_9_31 dsM_0 ⟨by decide, by decide⟩ rfl (Nat.le_of_ble_eq_true rfl) (fun σ65 τ65 h => ?_)
    refine x_iconst X dX11_nextTurn_68 ki_1 ?_
    refine x_istore X (lv' := [(4, .int 1), (0, .ref (ad 0)), (1, .int v1), (2, .int v2), (3, .int v3)]) dX11_nextTurn_69 (by decide) rfl ?_
    refine x_sub X [1, 2, 3, 0] (lv' := [(0, .ref (ad 0)), (1, .int v1), (2, .int v2), (4, .int 1)]) rfl ?_
    exact x_l3_G (fun v1 v2 v4 σ τ => V σ τ 71 [(0, .ref (ad 0)), (1, .int v1), (2, .int v2), (4, .int v4)] []) (fun K71 hK71 v1 v2 v4 σ τ h => bX11_nextTurn_71 X hK71 h) h
  · have h := h.2 hc
    refine x_iinc X (k := 3) (lv' := [(3, .int (v3 + (-1))), (0, .ref (ad 0)), (1, .int v1), (2, .int v2)]) dX11_nextTurn_56 rfl ki_m1 (by decide) rfl ?_
    refine x_goto X (tgt := 41) dX11_nextTurn_59 (by decide) ?_
    refine x_sub X [1, 2, 3, 0] (lv' := [(0, .ref (ad 0)), (1, .int v1), (2, .int v2), (3, .int (v3 + (-1)))]) rfl ?_
    exact hK41 _ _ _ _ _ h
set_option maxRecDepth 100000 in
set_option maxHeartbeats 4000000 in
theorem bX11_nextTurn_31 {V : x_J} {ad : Nat → Nat} {Q : Int32 → x_S → x_L → Prop} (X : x_Is V cX11_nextTurn 5 RX11 (Option.some FieldType.boolean) ad dsM 1 (x_PI Q)) {v1 : Int32} {v2 : Int32} {σ : x_S} {τ : x_L} (h : wX11_nextTurn_31 Q v1 v2 σ τ) : V σ τ 31 [(0, .ref (ad 0)), (1, .int v1), (2, .int v2)] [] := by
  refine x_iload_n X dX11_nextTurn_31 rfl 2 rfl ?_
  refine x_if_ge X 37 dX11_nextTurn_32 (by decide) (fun hc => ?_) (fun hc => ?_)
  · have h := h.1 hc
    refine x_iload_n X dX11_nextTurn_37 rfl 1 rfl ?_
    refine x_iconst X dX11_nextTurn_38 ki_1 ?_
    refine x_isub X dX11_nextTurn_39 ?_
    refine x_istore_n X (lv' := [(3, .int (v1 - 1)), (0, .ref (ad 0)), (1, .int v1), (2, .int v2)]) dX11_nextTurn_40 rfl (by decide) rfl ?_
    refine x_sub X [1, 2, 3, 0] (lv' := [(0, .ref (ad 0)), (1, .int v1), (2, .int v2), (3, .int (v1 - 1))]) rfl ?_
    exact x_l3_G (fun v1 v2 v3 σ τ => V σ τ 41 [(0, .ref (ad 0)), (1, .int v1), (2, .int v2), (3, .int v3)] []) (fun K41 hK41 v1 v2 v3 σ τ h => bX11_nextTurn_41 X hK41 h) h
  · have h := h.2 hc
    refine x_iconst X dX11_nextTurn_35 ki_0 ?_
    exact x_zret X dX11_nextTurn_36 ⟨Or.inl rfl, _, rfl, h⟩
set_option maxRecDepth 100000 in
set_option maxHeartbeats 4000000 in
theorem bX11_nextTurn_4 {V : x_J} {ad : Nat → Nat} {Q : Int32 → x_S → x_L → Prop} (X : x_Is V cX11_nextTurn 5 RX11 (Option.some FieldType.boolean) ad dsM 1 (x_PI Q)) {K4 : Int32 → Int32 → x_S → x_L → Prop} (hK4 : ∀ v1 v2 σ τ, K4 v1 v2 σ τ → V σ τ 4 [(0, .ref (ad 0)), (1, .int v1), (2, .int v2)] []) {v1 : Int32} {v2 : Int32} {σ : x_S} {τ : x_L} (h : wX11_nextTurn_4 Q K4 v1 v2 σ τ) : V σ τ 4 [(0, .ref (ad 0)), (1, .int v1), (2, .int v2)] [] := by
  refine x_iload_n X dX11_nextTurn_4 rfl 2 rfl ?_
  refine x_if_lt X 31 dX11_nextTurn_5 (by decide) (fun hc => ?_) (fun hc => ?_)
  · have h := h.1 hc
    exact bX11_nextTurn_31 X h
  · have h := h.2 hc
    refine x_aload_n X dX11_nextTurn_8 rfl 0 rfl ?_
    refine x_getR X (j := 17) dX11_nextTurn_9 fl_11_59 dsM_0 rfl ?_
    refine x_iload_n X dX11_nextTurn_12 rfl 2 rfl ?_
    have g13 := h.1
    have h := h.2
    refine x_iald X dX11_nextTurn_13 dsM_17 g13 ?_
    refine x_aload_n X dX11_nextTurn_14 rfl 0 rfl ?_
    refine x_getR X (j := 17) dX11_nextTurn_15 fl_11_59 dsM_0 rfl ?_
    refine x_iload_n X dX11_nextTurn_18 rfl 2 rfl ?_
    refine x_iconst X dX11_nextTurn_19 ki_1 ?_
    refine x_iadd X dX11_nextTurn_20 ?_
    have g21 := h.1
    have h := h.2
    refine x_iald X dX11_nextTurn_21 dsM_17 g21 ?_
    refine x_icmp_le X 31 dX11_nextTurn_22 (by decide) (fun hc => ?_) (fun hc => ?_)
    · have h := h.1 hc
      exact bX11_nextTurn_31 X h
    · have h := h.2 hc
      refine x_iinc X (k := 2) (lv' := [(2, .int (v2 + (-1))), (0, .ref (ad 0)), (1, .int v1)]) dX11_nextTurn_25 rfl ki_m1 (by decide) rfl ?_
      refine x_goto X (tgt := 4) dX11_nextTurn_28 (by decide) ?_
      refine x_sub X [1, 2, 0] (lv' := [(0, .ref (ad 0)), (1, .int v1), (2, .int (v2 + (-1)))]) rfl ?_
      exact hK4 _ _ _ _ h
set_option maxRecDepth 100000 in
set_option maxHeartbeats 4000000 in
theorem kX11_nextTurn {ad : Nat → Nat} {a1 : Int32} {σ : x_S} {τ : x_L} {Q : Int32 → x_S → x_L → Prop} (h : wX11_nextTurn a1 σ τ Q) : x_Met yX11_nextTurn cX11_nextTurn 5 (Option.some FieldType.boolean) 1 ad dsM [.ref (ad 0), .int a1] σ τ (x_PI Q) := by
  refine x_met (by decide +kernel) (Nat.le_of_ble_eq_true rfl) (fun V X => ?_)
  have X : x_Is V cX11_nextTurn 5 RX11 (Option.some FieldType.boolean) ad dsM 1 (x_PI Q) := X
  show V σ τ 0 [(0, .ref (ad 0)), (1, .int a1)] []
  refine x_iload_n X dX11_nextTurn_0 rfl 1 rfl ?_
  refine x_iconst X dX11_nextTurn_1 ki_2 ?_
  refine x_isub X dX11_nextTurn_2 ?_
  refine x_istore_n X (lv' := [(2, .int (a1 - 2)), (0, .ref (ad 0)), (1, .int a1)]) dX11_nextTurn_3 rfl (by decide) rfl ?_
  refine x_sub X [1, 2, 0] (lv' := [(0, .ref (ad 0)), (1, .int a1), (2, .int (a1 - 2))]) rfl ?_
  exact x_l2_G (fun v1 v2 σ τ => V σ τ 4 [(0, .ref (ad 0)), (1, .int v1), (2, .int v2)] []) (fun K4 hK4 v1 v2 σ τ h => bX11_nextTurn_4 X hK4 h) h
theorem dX11_layTurns_0 : decode cX11_layTurns 0 = .ok (.iconst 0, 1) := by decide +kernel
theorem dX11_layTurns_1 : decode cX11_layTurns 1 = .ok (.istore_n 2, 1) := by decide +kernel
theorem dX11_layTurns_2 : decode cX11_layTurns 2 = .ok (.iload_n 2, 1) := by decide +kernel
theorem dX11_layTurns_3 : decode cX11_layTurns 3 = .ok (.iload_n 1, 1) := by decide +kernel
theorem dX11_layTurns_4 : decode cX11_layTurns 4 = .ok (.if_icmp .ge 43, 3) := by decide +kernel
theorem dX11_layTurns_7 : decode cX11_layTurns 7 = .ok (.aload_n 0, 1) := by decide +kernel
theorem dX11_layTurns_8 : decode cX11_layTurns 8 = .ok (.getfield 47, 3) := by decide +kernel
theorem dX11_layTurns_11 : decode cX11_layTurns 11 = .ok (.iload_n 2, 1) := by decide +kernel
theorem dX11_layTurns_12 : decode cX11_layTurns 12 = .ok (.aload_n 0, 1) := by decide +kernel
theorem dX11_layTurns_13 : decode cX11_layTurns 13 = .ok (.getfield 53, 3) := by decide +kernel
theorem dX11_layTurns_16 : decode cX11_layTurns 16 = .ok (.aload_n 0, 1) := by decide +kernel
theorem dX11_layTurns_17 : decode cX11_layTurns 17 = .ok (.getfield 59, 3) := by decide +kernel
theorem dX11_layTurns_20 : decode cX11_layTurns 20 = .ok (.iload_n 2, 1) := by decide +kernel
theorem dX11_layTurns_21 : decode cX11_layTurns 21 = .ok (.iaload, 1) := by decide +kernel
theorem dX11_layTurns_22 : decode cX11_layTurns 22 = .ok (.iaload, 1) := by decide +kernel
theorem dX11_layTurns_23 : decode cX11_layTurns 23 = .ok (.iastore, 1) := by decide +kernel
theorem dX11_layTurns_24 : decode cX11_layTurns 24 = .ok (.aload_n 0, 1) := by decide +kernel
theorem dX11_layTurns_25 : decode cX11_layTurns 25 = .ok (.getfield 50, 3) := by decide +kernel
theorem dX11_layTurns_28 : decode cX11_layTurns 28 = .ok (.iload_n 2, 1) := by decide +kernel
theorem dX11_layTurns_29 : decode cX11_layTurns 29 = .ok (.aload_n 0, 1) := by decide +kernel
theorem dX11_layTurns_30 : decode cX11_layTurns 30 = .ok (.getfield 56, 3) := by decide +kernel
theorem dX11_layTurns_33 : decode cX11_layTurns 33 = .ok (.aload_n 0, 1) := by decide +kernel
theorem dX11_layTurns_34 : decode cX11_layTurns 34 = .ok (.getfield 59, 3) := by decide +kernel
theorem dX11_layTurns_37 : decode cX11_layTurns 37 = .ok (.iload_n 2, 1) := by decide +kernel
theorem dX11_layTurns_38 : decode cX11_layTurns 38 = .ok (.iaload, 1) := by decide +kernel
theorem dX11_layTurns_39 : decode cX11_layTurns 39 = .ok (.iaload, 1) := by decide +kernel
theorem dX11_layTurns_40 : decode cX11_layTurns 40 = .ok (.iastore, 1) := by decide +kernel
theorem dX11_layTurns_41 : decode cX11_layTurns 41 = .ok (.iinc 2 1, 3) := by decide +kernel
theorem dX11_layTurns_44 : decode cX11_layTurns 44 = .ok (.goto (-42), 3) := by decide +kernel
theorem dX11_layTurns_47 : decode cX11_layTurns 47 = .ok (.return_, 1) := by decide +kernel
theorem cm_X11_layTurns : x_CM yX11_layTurns cX11_layTurns 3 (Option.none : Option Jvm.ClassFile.FieldType) 1 := ⟨w_9_26, w_1_12, by decide +kernel, by decide +kernel⟩
theorem ci_X11_layTurns : x_CI yX11_layTurns 13 := ⟨w_9_25, wp_109, (RX11, TX11, 41), rfl, rfl⟩
set_option maxRecDepth 100000 in
set_option maxHeartbeats 4000000 in
theorem bX11_layTurns_2 {V : x_J} {ad : Nat → Nat} {Q : x_S → x_L → Prop} (X : x_Is V cX11_layTurns 3 RX11 (Option.none : Option Jvm.ClassFile.FieldType) ad dsM 0 (x_PV Q)) {K2 : Int32 → Int32 → x_S → x_L → Prop} (hK2 : ∀ v1 v2 σ τ, K2 v1 v2 σ τ → V σ τ 2 [(0, .ref (ad 0)), (1, .int v1), (2, .int v2)] []) {v1 : Int32} {v2 : Int32} {σ : x_S} {τ : x_L} (h : wX11_layTurns_2 Q K2 v1 v2 σ τ) : V σ τ 2 [(0, .ref (ad 0)), (1, .int v1), (2, .int v2)] [] := by
  refine x_iload_n X dX11_layTurns_2 rfl 2 rfl ?_
  refine x_iload_n X dX11_layTurns_3 rfl 1 rfl ?_
  refine x_icmp_ge X 47 dX11_layTurns_4 (by decide) (fun hc => ?_) (fun hc => ?_)
  · have h := h.1 hc
    exact x_vret X dX11_layTurns_47 ⟨rfl, h⟩
  · have h := h.2 hc
    refine x_aload_n X dX11_layTurns_7 rfl 0 rfl ?_
    refine x_getR X (j := 13) dX11_layTurns_8 fl_11_47 dsM_0 rfl ?_
    refine x_iload_n X dX11_layTurns_11 rfl 2 rfl ?_
    refine x_aload_n X dX11_layTurns_12 rfl 0 rfl ?_
    refine x_getR X (j := 15) dX11_layTurns_13 fl_11_53 dsM_0 rfl ?_
    refine x_aload_n X dX11_layTurns_16 rfl 0 rfl ?_
    refine x_getR X (j := 17) dX11_layTurns_17 fl_11_59 dsM_0 rfl ?_
    refine x_iload_n X dX11_layTurns_20 rfl 2 rfl ?_
    have g21 := h.1
    have h := h.2
    refine x_iald X dX11_layTurns_21 dsM_17 g21 ?_
    have g22 := h.1
    have h := h.2
    refine x_iald X dX11_layTurns_22 dsM_15 g22 ?_
    refine x_iast X dX11_layTurns_23 dsM_13 g21 ?_
    refine x_aload_n X dX11_layTurns_24 rfl 0 rfl ?_
    refine x_getR X (j := 14) dX11_layTurns_25 fl_11_50 dsM_0 rfl ?_
    refine x_iload_n X dX11_layTurns_28 rfl 2 rfl ?_
    refine x_aload_n X dX11_layTurns_29 rfl 0 rfl ?_
    refine x_getR X (j := 16) dX11_layTurns_30 fl_11_56 dsM_0 rfl ?_
    refine x_aload_n X dX11_layTurns_33 rfl 0 rfl ?_
    refine x_getR X (j := 17) dX11_layTurns_34 fl_11_59 dsM_0 rfl ?_
    refine x_iload_n X dX11_layTurns_37 rfl 2 rfl ?_
    refine x_iald X dX11_layTurns_38 dsM_17 g21 ?_
    have g39 := h.1
    have h := h.2
    refine x_iald X dX11_layTurns_39 dsM_16 g39 ?_
    refine x_iast X dX11_layTurns_40 dsM_14 g21 ?_
    refine x_iinc X (k := 2) (lv' := [(2, .int (v2 + 1)), (0, .ref (ad 0)), (1, .int v1)]) dX11_layTurns_41 rfl ki_1 (by decide) rfl ?_
    refine x_goto X (tgt := 2) dX11_layTurns_44 (by decide) ?_
    refine x_sub X [1, 2, 0] (lv' := [(0, .ref (ad 0)), (1, .int v1), (2, .int (v2 + 1))]) rfl ?_
    exact hK2 _ _ _ _ h
set_option maxRecDepth 100000 in
set_option maxHeartbeats 4000000 in
theorem kX11_layTurns {ad : Nat → Nat} {a1 : Int32} {σ : x_S} {τ : x_L} {Q : x_S → x_L → Prop} (h : wX11_layTurns a1 σ τ Q) : x_Met yX11_layTurns cX11_layTurns 3 (Option.none : Option Jvm.ClassFile.FieldType) 0 ad dsM [.ref (ad 0), .int a1] σ τ (x_PV Q) := by
  refine x_met (by decide +kernel) (Nat.le_of_ble_eq_true rfl) (fun V X => ?_)
  have X : x_Is V cX11_layTurns 3 RX11 (Option.none : Option Jvm.ClassFile.FieldType) ad dsM 0 (x_PV Q) := X
  show V σ τ 0 [(0, .ref (ad 0)), (1, .int a1)] []
  refine x_iconst X dX11_layTurns_0 ki_0 ?_
  refine x_istore_n X (lv' := [(2, .int 0), (0, .ref (ad 0)), (1, .int a1)]) dX11_layTurns_1 rfl (by decide) rfl ?_
  refine x_sub X [1, 2, 0] (lv' := [(0, .ref (ad 0)), (1, .int a1), (2, .int 0)]) rfl ?_
  exact x_l2_G (fun v1 v2 σ τ => V σ τ 2 [(0, .ref (ad 0)), (1, .int v1), (2, .int v2)] []) (fun K2 hK2 v1 v2 σ τ h => bX11_layTurns_2 X hK2 h) h
theorem dX11_meetTurn_0 : decode cX11_meetTurn 0 = .ok (.aload_n 0, 1) := by decide +kernel
theorem dX11_meetTurn_1 : decode cX11_meetTurn 1 = .ok (.iload_n 1, 1) := by decide +kernel
theorem dX11_meetTurn_2 : decode cX11_meetTurn 2 = .ok (.invokevirtual 343, 3) := by decide +kernel
theorem dX11_meetTurn_5 : decode cX11_meetTurn 5 = .ok (.aload_n 0, 1) := by decide +kernel
theorem dX11_meetTurn_6 : decode cX11_meetTurn 6 = .ok (.iload_n 1, 1) := by decide +kernel
theorem dX11_meetTurn_7 : decode cX11_meetTurn 7 = .ok (.invokevirtual 346, 3) := by decide +kernel
theorem dX11_meetTurn_10 : decode cX11_meetTurn 10 = .ok (.istore_n 3, 1) := by decide +kernel
theorem dX11_meetTurn_11 : decode cX11_meetTurn 11 = .ok (.iload_n 2, 1) := by decide +kernel
theorem dX11_meetTurn_12 : decode cX11_meetTurn 12 = .ok (.ifCond .ne 12, 3) := by decide +kernel
theorem dX11_meetTurn_15 : decode cX11_meetTurn 15 = .ok (.iload_n 3, 1) := by decide +kernel
theorem dX11_meetTurn_16 : decode cX11_meetTurn 16 = .ok (.aload_n 0, 1) := by decide +kernel
theorem dX11_meetTurn_17 : decode cX11_meetTurn 17 = .ok (.getfield 349, 3) := by decide +kernel
theorem dX11_meetTurn_20 : decode cX11_meetTurn 20 = .ok (.if_icmp .gt 4, 3) := by decide +kernel
theorem dX11_meetTurn_23 : decode cX11_meetTurn 23 = .ok (.return_, 1) := by decide +kernel
theorem dX11_meetTurn_24 : decode cX11_meetTurn 24 = .ok (.aload_n 0, 1) := by decide +kernel
theorem dX11_meetTurn_25 : decode cX11_meetTurn 25 = .ok (.iload_n 3, 1) := by decide +kernel
theorem dX11_meetTurn_26 : decode cX11_meetTurn 26 = .ok (.putfield 349, 3) := by decide +kernel
theorem dX11_meetTurn_29 : decode cX11_meetTurn 29 = .ok (.iconst 0, 1) := by decide +kernel
theorem dX11_meetTurn_30 : decode cX11_meetTurn 30 = .ok (.istore 4, 2) := by decide +kernel
theorem dX11_meetTurn_32 : decode cX11_meetTurn 32 = .ok (.iload 4, 2) := by decide +kernel
theorem dX11_meetTurn_34 : decode cX11_meetTurn 34 = .ok (.iload_n 1, 1) := by decide +kernel
theorem dX11_meetTurn_35 : decode cX11_meetTurn 35 = .ok (.if_icmp .ge 23, 3) := by decide +kernel
theorem dX11_meetTurn_38 : decode cX11_meetTurn 38 = .ok (.aload_n 0, 1) := by decide +kernel
theorem dX11_meetTurn_39 : decode cX11_meetTurn 39 = .ok (.getfield 62, 3) := by decide +kernel
theorem dX11_meetTurn_42 : decode cX11_meetTurn 42 = .ok (.iload 4, 2) := by decide +kernel
theorem dX11_meetTurn_44 : decode cX11_meetTurn 44 = .ok (.aload_n 0, 1) := by decide +kernel
theorem dX11_meetTurn_45 : decode cX11_meetTurn 45 = .ok (.getfield 47, 3) := by decide +kernel
theorem dX11_meetTurn_48 : decode cX11_meetTurn 48 = .ok (.iload 4, 2) := by decide +kernel
theorem dX11_meetTurn_50 : decode cX11_meetTurn 50 = .ok (.iaload, 1) := by decide +kernel
theorem dX11_meetTurn_51 : decode cX11_meetTurn 51 = .ok (.iastore, 1) := by decide +kernel
theorem dX11_meetTurn_52 : decode cX11_meetTurn 52 = .ok (.iinc 4 1, 3) := by decide +kernel
theorem dX11_meetTurn_55 : decode cX11_meetTurn 55 = .ok (.goto (-23), 3) := by decide +kernel
theorem dX11_meetTurn_58 : decode cX11_meetTurn 58 = .ok (.return_, 1) := by decide +kernel
theorem cm_X11_meetTurn : x_CM yX11_meetTurn cX11_meetTurn 5 (Option.none : Option Jvm.ClassFile.FieldType) 2 := ⟨w_9_22, w_1_12, by decide +kernel, by decide +kernel⟩
theorem ci_X11_meetTurn : x_CI yX11_meetTurn 13 := ⟨w_9_21, wp_108, (RX11, TX11, 41), rfl, rfl⟩
set_option maxRecDepth 100000 in
set_option maxHeartbeats 4000000 in
theorem bX11_meetTurn_32 {V : x_J} {ad : Nat → Nat} {Q : x_S → x_L → Prop} (X : x_Is V cX11_meetTurn 5 RX11 (Option.none : Option Jvm.ClassFile.FieldType) ad dsM 5 (x_PV Q)) {K32 : Int32 → Int32 → x_S → x_L → Prop} (hK32 : ∀ v1 v4 σ τ, K32 v1 v4 σ τ → V σ τ 32 [(0, .ref (ad 0)), (1, .int v1), (4, .int v4)] []) {v1 : Int32} {v4 : Int32} {σ : x_S} {τ : x_L} (h : wX11_meetTurn_32 Q K32 v1 v4 σ τ) : V σ τ 32 [(0, .ref (ad 0)), (1, .int v1), (4, .int v4)] [] := by
  refine x_iload X dX11_meetTurn_32 2 rfl ?_
  refine x_iload_n X dX11_meetTurn_34 rfl 1 rfl ?_
  refine x_icmp_ge X 58 dX11_meetTurn_35 (by decide) (fun hc => ?_) (fun hc => ?_)
  · have h := h.1 hc
    exact x_vret X dX11_meetTurn_58 ⟨rfl, h⟩
  · have h := h.2 hc
    refine x_aload_n X dX11_meetTurn_38 rfl 0 rfl ?_
    refine x_getR X (j := 18) dX11_meetTurn_39 fl_11_62 dsM_0 rfl ?_
    refine x_iload X dX11_meetTurn_42 2 rfl ?_
    refine x_aload_n X dX11_meetTurn_44 rfl 0 rfl ?_
    refine x_getR X (j := 13) dX11_meetTurn_45 fl_11_47 dsM_0 rfl ?_
    refine x_iload X dX11_meetTurn_48 2 rfl ?_
    have g50 := h.1
    have h := h.2
    refine x_iald X dX11_meetTurn_50 dsM_13 g50 ?_
    refine x_iast X dX11_meetTurn_51 dsM_18 g50 ?_
    refine x_iinc X (k := 2) (lv' := [(4, .int (v4 + 1)), (0, .ref (ad 0)), (1, .int v1)]) dX11_meetTurn_52 rfl ki_1 (by decide) rfl ?_
    refine x_goto X (tgt := 32) dX11_meetTurn_55 (by decide) ?_
    refine x_sub X [1, 2, 0] (lv' := [(0, .ref (ad 0)), (1, .int v1), (4, .int (v4 + 1))]) rfl ?_
    exact hK32 _ _ _ _ h
set_option maxRecDepth 100000 in
set_option maxHeartbeats 4000000 in
theorem bX11_meetTurn_24 {V : x_J} {ad : Nat → Nat} {Q : x_S → x_L → Prop} (X : x_Is V cX11_meetTurn 5 RX11 (Option.none : Option Jvm.ClassFile.FieldType) ad dsM 5 (x_PV Q)) {v1 : Int32} {v3 : Int32} {σ : x_S} {τ : x_L} (h : wX11_meetTurn_24 Q v1 v3 σ τ) : V σ τ 24 [(0, .ref (ad 0)), (1, .int v1), (3, .int v3)] [] := by
  refine x_aload_n X dX11_meetTurn_24 rfl 0 rfl ?_
  refine x_iload_n X dX11_meetTurn_25 rfl 2 rfl ?_
  refine x_putI X dX11_meetTurn_26 fl_11_349 ft_11_26 dsM_0 rfl ?_
  refine x_iconst X dX11_meetTurn_29 ki_0 ?_
  refine x_istore X (lv' := [(4, .int 0), (0, .ref (ad 0)), (1, .int v1), (3, .int v3)]) dX11_meetTurn_30 (by decide) rfl ?_
  refine x_sub X [1, 2, 0] (lv' := [(0, .ref (ad 0)), (1, .int v1), (4, .int 0)]) rfl ?_
  exact x_l2_G (fun v1 v4 σ τ => V σ τ 32 [(0, .ref (ad 0)), (1, .int v1), (4, .int v4)] []) (fun K32 hK32 v1 v4 σ τ h => bX11_meetTurn_32 X hK32 h) h
set_option maxRecDepth 100000 in
set_option maxHeartbeats 4000000 in
theorem kX11_meetTurn {ad : Nat → Nat} {a1 : Int32} {a2 : Int32} {σ : x_S} {τ : x_L} {Q : x_S → x_L → Prop} (h : wX11_meetTurn a1 a2 σ τ Q) : x_Met yX11_meetTurn cX11_meetTurn 5 (Option.none : Option Jvm.ClassFile.FieldType) 5 ad dsM [.ref (ad 0), .int a1, .int a2] σ τ (x_PV Q) := by
  refine x_met (by decide +kernel) (Nat.le_of_ble_eq_true rfl) (fun V X => ?_)
  have X : x_Is V cX11_meetTurn 5 RX11 (Option.none : Option Jvm.ClassFile.FieldType) ad dsM 5 (x_PV Q) := X
  show V σ τ 0 [(0, .ref (ad 0)), (1, .int a1), (2, .int a2)] []
  refine x_aload_n X dX11_meetTurn_0 rfl 0 rfl ?_
  refine x_iload_n X dX11_meetTurn_1 rfl 1 rfl ?_
  refine x_callVv X [.int a1] [] dX11_meetTurn_2 (kX11_layTurns h) cm_X11_layTurns ci_X11_layTurns w_9_23 dsM_0 ⟨by decide, by decide⟩ rfl (Nat.le_of_ble_eq_true rfl) (fun σ2 τ2 h => ?_)
  refine x_aload_n X dX11_meetTurn_5 rfl 0 rfl ?_
  refine x_iload_n X dX11_meetTurn_6 rfl 1 rfl ?_
  refine x_callVi X [.int a1] [] dX11_meetTurn_7 (kX11_worth h) cm_X11_worth ci_X11_worth w_9_15 dsM_0 ⟨by decide, by decide⟩ rfl (Nat.le_of_ble_eq_true rfl) (fun r7 σ7 τ7 h => ?_)
  refine x_istore_n X (lv' := [(3, .int r7), (0, .ref (ad 0)), (1, .int a1), (2, .int a2)]) dX11_meetTurn_10 rfl (by decide) rfl ?_
  refine x_iload_n X dX11_meetTurn_11 rfl 3 rfl ?_
  refine x_if_ne X 24 dX11_meetTurn_12 (by decide) (fun hc => ?_) (fun hc => ?_)
  · have h := h.1 hc
    refine x_sub X [1, 2, 0] (lv' := [(0, .ref (ad 0)), (1, .int a1), (3, .int r7)]) rfl ?_
    exact bX11_meetTurn_24 X h
  · have h := h.2 hc
    refine x_iload_n X dX11_meetTurn_15 rfl 0 rfl ?_
    refine x_aload_n X dX11_meetTurn_16 rfl 1 rfl ?_
    refine x_getI X dX11_meetTurn_17 fl_11_349 dsM_0 rfl ?_
    refine x_icmp_gt X 24 dX11_meetTurn_20 (by decide) (fun hc => ?_) (fun hc => ?_)
    · have h := h.1 hc
      refine x_sub X [1, 2, 0] (lv' := [(0, .ref (ad 0)), (1, .int a1), (3, .int r7)]) rfl ?_
      exact bX11_meetTurn_24 X h
    · have h := h.2 hc
      exact x_vret X dX11_meetTurn_23 ⟨rfl, h⟩
theorem dX11_layBest_0 : decode cX11_layBest 0 = .ok (.aload_n 0, 1) := by decide +kernel
theorem dX11_layBest_1 : decode cX11_layBest 1 = .ok (.aload_n 0, 1) := by decide +kernel
theorem dX11_layBest_2 : decode cX11_layBest 2 = .ok (.getfield 223, 3) := by decide +kernel
theorem dX11_layBest_5 : decode cX11_layBest 5 = .ok (.aload_n 0, 1) := by decide +kernel
theorem dX11_layBest_6 : decode cX11_layBest 6 = .ok (.getfield 226, 3) := by decide +kernel
theorem dX11_layBest_9 : decode cX11_layBest 9 = .ok (.invokevirtual 163, 3) := by decide +kernel
theorem dX11_layBest_12 : decode cX11_layBest 12 = .ok (.istore_n 1, 1) := by decide +kernel
theorem dX11_layBest_13 : decode cX11_layBest 13 = .ok (.aload_n 0, 1) := by decide +kernel
theorem dX11_layBest_14 : decode cX11_layBest 14 = .ok (.iload_n 1, 1) := by decide +kernel
theorem dX11_layBest_15 : decode cX11_layBest 15 = .ok (.invokevirtual 346, 3) := by decide +kernel
theorem dX11_layBest_18 : decode cX11_layBest 18 = .ok (.istore_n 2, 1) := by decide +kernel
theorem dX11_layBest_19 : decode cX11_layBest 19 = .ok (.iconst 0, 1) := by decide +kernel
theorem dX11_layBest_20 : decode cX11_layBest 20 = .ok (.istore_n 3, 1) := by decide +kernel
theorem dX11_layBest_21 : decode cX11_layBest 21 = .ok (.iconst 0, 1) := by decide +kernel
theorem dX11_layBest_22 : decode cX11_layBest 22 = .ok (.istore 4, 2) := by decide +kernel
theorem dX11_layBest_24 : decode cX11_layBest 24 = .ok (.iload 4, 2) := by decide +kernel
theorem dX11_layBest_26 : decode cX11_layBest 26 = .ok (.aload_n 0, 1) := by decide +kernel
theorem dX11_layBest_27 : decode cX11_layBest 27 = .ok (.getfield 17, 3) := by decide +kernel
theorem dX11_layBest_30 : decode cX11_layBest 30 = .ok (.iconst 1, 1) := by decide +kernel
theorem dX11_layBest_31 : decode cX11_layBest 31 = .ok (.iaload, 1) := by decide +kernel
theorem dX11_layBest_32 : decode cX11_layBest 32 = .ok (.if_icmp .ge 60, 3) := by decide +kernel
theorem dX11_layBest_35 : decode cX11_layBest 35 = .ok (.aload_n 0, 1) := by decide +kernel
theorem dX11_layBest_36 : decode cX11_layBest 36 = .ok (.aload_n 0, 1) := by decide +kernel
theorem dX11_layBest_37 : decode cX11_layBest 37 = .ok (.getfield 223, 3) := by decide +kernel
theorem dX11_layBest_40 : decode cX11_layBest 40 = .ok (.aload_n 0, 1) := by decide +kernel
theorem dX11_layBest_41 : decode cX11_layBest 41 = .ok (.getfield 226, 3) := by decide +kernel
theorem dX11_layBest_44 : decode cX11_layBest 44 = .ok (.iload 4, 2) := by decide +kernel
theorem dX11_layBest_46 : decode cX11_layBest 46 = .ok (.invokevirtual 137, 3) := by decide +kernel
theorem dX11_layBest_49 : decode cX11_layBest 49 = .ok (.istore 5, 2) := by decide +kernel
theorem dX11_layBest_51 : decode cX11_layBest 51 = .ok (.iload 5, 2) := by decide +kernel
theorem dX11_layBest_53 : decode cX11_layBest 53 = .ok (.iconst (-1), 1) := by decide +kernel
theorem dX11_layBest_54 : decode cX11_layBest 54 = .ok (.if_icmp .ne 6, 3) := by decide +kernel
theorem dX11_layBest_57 : decode cX11_layBest 57 = .ok (.goto 29, 3) := by decide +kernel
theorem dX11_layBest_60 : decode cX11_layBest 60 = .ok (.aload_n 0, 1) := by decide +kernel
theorem dX11_layBest_61 : decode cX11_layBest 61 = .ok (.getfield 53, 3) := by decide +kernel
theorem dX11_layBest_64 : decode cX11_layBest 64 = .ok (.iload_n 3, 1) := by decide +kernel
theorem dX11_layBest_65 : decode cX11_layBest 65 = .ok (.iload 4, 2) := by decide +kernel
theorem dX11_layBest_67 : decode cX11_layBest 67 = .ok (.iastore, 1) := by decide +kernel
theorem dX11_layBest_68 : decode cX11_layBest 68 = .ok (.aload_n 0, 1) := by decide +kernel
theorem dX11_layBest_69 : decode cX11_layBest 69 = .ok (.getfield 56, 3) := by decide +kernel
theorem dX11_layBest_72 : decode cX11_layBest 72 = .ok (.iload_n 3, 1) := by decide +kernel
theorem dX11_layBest_73 : decode cX11_layBest 73 = .ok (.iload 5, 2) := by decide +kernel
theorem dX11_layBest_75 : decode cX11_layBest 75 = .ok (.iastore, 1) := by decide +kernel
theorem dX11_layBest_76 : decode cX11_layBest 76 = .ok (.aload_n 0, 1) := by decide +kernel
theorem dX11_layBest_77 : decode cX11_layBest 77 = .ok (.getfield 59, 3) := by decide +kernel
theorem dX11_layBest_80 : decode cX11_layBest 80 = .ok (.iload_n 3, 1) := by decide +kernel
theorem dX11_layBest_81 : decode cX11_layBest 81 = .ok (.iload_n 3, 1) := by decide +kernel
theorem dX11_layBest_82 : decode cX11_layBest 82 = .ok (.iastore, 1) := by decide +kernel
theorem dX11_layBest_83 : decode cX11_layBest 83 = .ok (.iinc 3 1, 3) := by decide +kernel
theorem dX11_layBest_86 : decode cX11_layBest 86 = .ok (.iinc 4 1, 3) := by decide +kernel
theorem dX11_layBest_89 : decode cX11_layBest 89 = .ok (.goto (-65), 3) := by decide +kernel
theorem dX11_layBest_92 : decode cX11_layBest 92 = .ok (.aload_n 0, 1) := by decide +kernel
theorem dX11_layBest_93 : decode cX11_layBest 93 = .ok (.iload_n 1, 1) := by decide +kernel
theorem dX11_layBest_94 : decode cX11_layBest 94 = .ok (.iconst 1, 1) := by decide +kernel
theorem dX11_layBest_95 : decode cX11_layBest 95 = .ok (.invokevirtual 352, 3) := by decide +kernel
theorem dX11_layBest_98 : decode cX11_layBest 98 = .ok (.aload_n 0, 1) := by decide +kernel
theorem dX11_layBest_99 : decode cX11_layBest 99 = .ok (.iload_n 1, 1) := by decide +kernel
theorem dX11_layBest_100 : decode cX11_layBest 100 = .ok (.invokevirtual 356, 3) := by decide +kernel
theorem dX11_layBest_103 : decode cX11_layBest 103 = .ok (.ifCond .eq 12, 3) := by decide +kernel
theorem dX11_layBest_106 : decode cX11_layBest 106 = .ok (.aload_n 0, 1) := by decide +kernel
theorem dX11_layBest_107 : decode cX11_layBest 107 = .ok (.iload_n 1, 1) := by decide +kernel
theorem dX11_layBest_108 : decode cX11_layBest 108 = .ok (.iconst 0, 1) := by decide +kernel
theorem dX11_layBest_109 : decode cX11_layBest 109 = .ok (.invokevirtual 352, 3) := by decide +kernel
theorem dX11_layBest_112 : decode cX11_layBest 112 = .ok (.goto (-14), 3) := by decide +kernel
theorem dX11_layBest_115 : decode cX11_layBest 115 = .ok (.iload_n 2, 1) := by decide +kernel
theorem dX11_layBest_116 : decode cX11_layBest 116 = .ok (.ireturn, 1) := by decide +kernel
theorem cm_X11_layBest : x_CM yX11_layBest cX11_layBest 6 (Option.some FieldType.int) 0 := ⟨w_9_14, w_1_12, by decide +kernel, by decide +kernel⟩
theorem ci_X11_layBest : x_CI yX11_layBest 13 := ⟨w_9_13, wp_106, (RX11, TX11, 41), rfl, rfl⟩
set_option maxRecDepth 100000 in
set_option maxHeartbeats 4000000 in
theorem bX11_layBest_86 {V : x_J} {ad : Nat → Nat} {Q : Int32 → x_S → x_L → Prop} (X : x_Is V cX11_layBest 6 RX11 (Option.some FieldType.int) ad dsM 6 (x_PI Q)) {K24 : Int32 → Int32 → Int32 → Int32 → x_S → x_L → Prop} (hK24 : ∀ v1 v2 v3 v4 σ τ, K24 v1 v2 v3 v4 σ τ → V σ τ 24 [(0, .ref (ad 0)), (1, .int v1), (2, .int v2), (3, .int v3), (4, .int v4)] []) {v1 : Int32} {v2 : Int32} {v3 : Int32} {v4 : Int32} {σ : x_S} {τ : x_L} (h : wX11_layBest_86 K24 Q v1 v2 v3 v4 σ τ) : V σ τ 86 [(0, .ref (ad 0)), (1, .int v1), (2, .int v2), (3, .int v3), (4, .int v4)] [] := by
  refine x_iinc X (k := 4) (lv' := [(4, .int (v4 + 1)), (0, .ref (ad 0)), (1, .int v1), (2, .int v2), (3, .int v3)]) dX11_layBest_86 rfl ki_1 (by decide) rfl ?_
  refine x_goto X (tgt := 24) dX11_layBest_89 (by decide) ?_
  refine x_sub X [1, 2, 3, 4, 0] (lv' := [(0, .ref (ad 0)), (1, .int v1), (2, .int v2), (3, .int v3), (4, .int (v4 + 1))]) rfl ?_
  exact hK24 _ _ _ _ _ _ h
set_option maxRecDepth 100000 in
set_option maxHeartbeats 4000000 in
theorem bX11_layBest_98 {V : x_J} {ad : Nat → Nat} {Q : Int32 → x_S → x_L → Prop} (X : x_Is V cX11_layBest 6 RX11 (Option.some FieldType.int) ad dsM 6 (x_PI Q)) {K98 : Int32 → Int32 → x_S → x_L → Prop} (hK98 : ∀ v1 v2 σ τ, K98 v1 v2 σ τ → V σ τ 98 [(0, .ref (ad 0)), (1, .int v1), (2, .int v2)] []) {v1 : Int32} {v2 : Int32} {σ : x_S} {τ : x_L} (h : wX11_layBest_98 Q K98 v1 v2 σ τ) : V σ τ 98 [(0, .ref (ad 0)), (1, .int v1), (2, .int v2)] [] := by
  refine x_aload_n X dX11_layBest_98 rfl 0 rfl ?_
  refine x_iload_n X dX11_layBest_99 rfl 1 rfl ?_
  refine x_callVi X [.int v1] [] dX11_layBest_100 (kX11_nextTurn h) cm_X11_nextTurn ci_X11_nextTurn w_9_27 dsM_0 ⟨by decide, by decide⟩ rfl (Nat.le_of_ble_eq_true rfl) (fun r100 σ100 τ100 h => ?_)
  refine x_if_eq X 115 dX11_layBest_103 (by decide) (fun hc => ?_) (fun hc => ?_)
  · have h := h.1 hc
    refine x_iload_n X dX11_layBest_115 rfl 2 rfl ?_
    exact x_iret X dX11_layBest_116 ⟨_, rfl, h⟩
  · have h := h.2 hc
    refine x_aload_n X dX11_layBest_106 rfl 0 rfl ?_
    refine x_iload_n X dX11_layBest_107 rfl 1 rfl ?_
    refine x_iconst X dX11_layBest_108 ki_0 ?_
    refine x_callVv X [.int v1, .int 0] [] dX11_layBest_109 (kX11_meetTurn h) cm_X11_meetTurn ci_X11_meetTurn w_9_19 dsM_0 ⟨by decide, by decide⟩ rfl (Nat.le_of_ble_eq_true rfl) (fun σ109 τ109 h => ?_)
    refine x_goto X (tgt := 98) dX11_layBest_112 (by decide) ?_
    exact hK98 _ _ _ _ h
set_option maxRecDepth 100000 in
set_option maxHeartbeats 4000000 in
theorem bX11_layBest_24 {V : x_J} {ad : Nat → Nat} {Q : Int32 → x_S → x_L → Prop} (X : x_Is V cX11_layBest 6 RX11 (Option.some FieldType.int) ad dsM 6 (x_PI Q)) {K24 : Int32 → Int32 → Int32 → Int32 → x_S → x_L → Prop} (hK24 : ∀ v1 v2 v3 v4 σ τ, K24 v1 v2 v3 v4 σ τ → V σ τ 24 [(0, .ref (ad 0)), (1, .int v1), (2, .int v2), (3, .int v3), (4, .int v4)] []) {v1 : Int32} {v2 : Int32} {v3 : Int32} {v4 : Int32} {σ : x_S} {τ : x_L} (h : wX11_layBest_24 Q K24 v1 v2 v3 v4 σ τ) : V σ τ 24 [(0, .ref (ad 0)), (1, .int v1), (2, .int v2), (3, .int v3), (4, .int v4)] [] := by
  refine x_iload X dX11_layBest_24 4 rfl ?_
  refine x_aload_n X dX11_layBest_26 rfl 0 rfl ?_
  refine x_getR X (j := 3) dX11_layBest_27 fl_11_17 dsM_0 rfl ?_
  refine x_iconst X dX11_layBest_30 ki_1 ?_
  refine x_iald X dX11_layBest_31 dsM_3 (x_inl (by decide)) ?_
  refine x_icmp_ge X 92 dX11_layBest_32 (by decide) (fun hc => ?_) (fun hc => ?_)
  · have h := h.1 hc
    refine x_aload_n X dX11_layBest_92 rfl 0 rfl ?_
    refine x_iload_n X dX11_layBest_93 rfl 1 rfl ?_
    refine x_iconst X dX11_layBest_94 ki_1 ?_
    refine x_callVv X [.int v1, .int 1] [] dX11_layBest_95 (kX11_meetTurn h) cm_X11_meetTurn ci_X11_meetTurn w_9_19 dsM_0 ⟨by decide, by decide⟩ rfl (Nat.le_of_ble_eq_true rfl) (fun σ95 τ95 h => ?_)
    refine x_sub X [0, 1, 2] (lv' := [(0, .ref (ad 0)), (1, .int v1), (2, .int v2)]) rfl ?_
    exact x_l2_G (fun v1 v2 σ τ => V σ τ 98 [(0, .ref (ad 0)), (1, .int v1), (2, .int v2)] []) (fun K98 hK98 v1 v2 σ τ h => bX11_layBest_98 X hK98 h) h
  · have h := h.2 hc
    refine x_aload_n X dX11_layBest_35 rfl 0 rfl ?_
    refine x_aload_n X dX11_layBest_36 rfl 0 rfl ?_
    refine x_getI X dX11_layBest_37 fl_11_223 dsM_0 rfl ?_
    refine x_aload_n X dX11_layBest_40 rfl 0 rfl ?_
    refine x_getI X dX11_layBest_41 fl_11_226 dsM_0 rfl ?_
    refine x_iload X dX11_layBest_44 4 rfl ?_
    refine x_callVi X [.int (σ 0 17), .int (σ 0 18), .int v4] [] dX11_layBest_46 (kX11_mateOf h) cm_X11_mateOf ci_X11_mateOf w_7_156 dsM_0 ⟨by decide, by decide⟩ rfl (Nat.le_of_ble_eq_true rfl) (fun r46 σ46 τ46 h => ?_)
    refine x_istore X (lv' := [(5, .int r46), (0, .ref (ad 0)), (1, .int v1), (2, .int v2), (3, .int v3), (4, .int v4)]) dX11_layBest_49 (by decide) rfl ?_
    refine x_iload X dX11_layBest_51 0 rfl ?_
    refine x_iconst X dX11_layBest_53 ki_m1 ?_
    refine x_icmp_ne X 60 dX11_layBest_54 (by decide) (fun hc => ?_) (fun hc => ?_)
    · have h := h.1 hc
      refine x_aload_n X dX11_layBest_60 rfl 1 rfl ?_
      refine x_getR X (j := 15) dX11_layBest_61 fl_11_53 dsM_0 rfl ?_
      refine x_iload_n X dX11_layBest_64 rfl 4 rfl ?_
      refine x_iload X dX11_layBest_65 5 rfl ?_
      have g67 := h.1
      have h := h.2
      refine x_iast X dX11_layBest_67 dsM_15 g67 ?_
      refine x_aload_n X dX11_layBest_68 rfl 1 rfl ?_
      refine x_getR X (j := 16) dX11_layBest_69 fl_11_56 dsM_0 rfl ?_
      refine x_iload_n X dX11_layBest_72 rfl 4 rfl ?_
      refine x_iload X dX11_layBest_73 0 rfl ?_
      refine x_iast X dX11_layBest_75 dsM_16 g67 ?_
      refine x_aload_n X dX11_layBest_76 rfl 1 rfl ?_
      refine x_getR X (j := 17) dX11_layBest_77 fl_11_59 dsM_0 rfl ?_
      refine x_iload_n X dX11_layBest_80 rfl 4 rfl ?_
      refine x_iload_n X dX11_layBest_81 rfl 4 rfl ?_
      refine x_iast X dX11_layBest_82 dsM_17 g67 ?_
      refine x_iinc X (k := 4) (lv' := [(3, .int (v3 + 1)), (5, .int r46), (0, .ref (ad 0)), (1, .int v1), (2, .int v2), (4, .int v4)]) dX11_layBest_83 rfl ki_1 (by decide) rfl ?_
      refine x_sub X [2, 3, 4, 0, 5] (lv' := [(0, .ref (ad 0)), (1, .int v1), (2, .int v2), (3, .int (v3 + 1)), (4, .int v4)]) rfl ?_
      exact bX11_layBest_86 X hK24 h
    · have h := h.2 hc
      refine x_goto X (tgt := 86) dX11_layBest_57 (by decide) ?_
      refine x_sub X [1, 2, 3, 4, 5] (lv' := [(0, .ref (ad 0)), (1, .int v1), (2, .int v2), (3, .int v3), (4, .int v4)]) rfl ?_
      exact bX11_layBest_86 X hK24 h
set_option maxRecDepth 100000 in
set_option maxHeartbeats 4000000 in
theorem kX11_layBest {ad : Nat → Nat} {σ : x_S} {τ : x_L} {Q : Int32 → x_S → x_L → Prop} (h : wX11_layBest σ τ Q) : x_Met yX11_layBest cX11_layBest 6 (Option.some FieldType.int) 6 ad dsM [.ref (ad 0)] σ τ (x_PI Q) := by
  refine x_met (by decide +kernel) (Nat.le_of_ble_eq_true rfl) (fun V X => ?_)
  have X : x_Is V cX11_layBest 6 RX11 (Option.some FieldType.int) ad dsM 6 (x_PI Q) := X
  show V σ τ 0 [(0, .ref (ad 0))] []
  refine x_aload_n X dX11_layBest_0 rfl 0 rfl ?_
  refine x_aload_n X dX11_layBest_1 rfl 0 rfl ?_
  refine x_getI X dX11_layBest_2 fl_11_223 dsM_0 rfl ?_
  refine x_aload_n X dX11_layBest_5 rfl 0 rfl ?_
  refine x_getI X dX11_layBest_6 fl_11_226 dsM_0 rfl ?_
  refine x_callVi X [.int (σ 0 17), .int (σ 0 18)] [] dX11_layBest_9 (kX11_layOrder h) cm_X11_layOrder ci_X11_layOrder w_7_175 dsM_0 ⟨by decide, by decide⟩ rfl (Nat.le_of_ble_eq_true rfl) (fun r9 σ9 τ9 h => ?_)
  refine x_istore_n X (lv' := [(1, .int r9), (0, .ref (ad 0))]) dX11_layBest_12 rfl (by decide) rfl ?_
  refine x_aload_n X dX11_layBest_13 rfl 1 rfl ?_
  refine x_iload_n X dX11_layBest_14 rfl 0 rfl ?_
  refine x_callVi X [.int r9] [] dX11_layBest_15 (kX11_worth h) cm_X11_worth ci_X11_worth w_9_15 dsM_0 ⟨by decide, by decide⟩ rfl (Nat.le_of_ble_eq_true rfl) (fun r15 σ15 τ15 h => ?_)
  refine x_istore_n X (lv' := [(2, .int r15), (1, .int r9), (0, .ref (ad 0))]) dX11_layBest_18 rfl (by decide) rfl ?_
  refine x_iconst X dX11_layBest_19 ki_0 ?_
  refine x_istore_n X (lv' := [(3, .int 0), (2, .int r15), (1, .int r9), (0, .ref (ad 0))]) dX11_layBest_20 rfl (by decide) rfl ?_
  refine x_iconst X dX11_layBest_21 ki_0 ?_
  refine x_istore X (lv' := [(4, .int 0), (3, .int 0), (2, .int r15), (1, .int r9), (0, .ref (ad 0))]) dX11_layBest_22 (by decide) rfl ?_
  refine x_sub X [4, 3, 2, 1, 0] (lv' := [(0, .ref (ad 0)), (1, .int r9), (2, .int r15), (3, .int 0), (4, .int 0)]) rfl ?_
  exact x_l4_G (fun v1 v2 v3 v4 σ τ => V σ τ 24 [(0, .ref (ad 0)), (1, .int v1), (2, .int v2), (3, .int v3), (4, .int v4)] []) (fun K24 hK24 v1 v2 v3 v4 σ τ h => bX11_layBest_24 X hK24 h) h
theorem dX11_isLong_0 : decode cX11_isLong 0 = .ok (.aload_n 0, 1) := by decide +kernel
theorem dX11_isLong_1 : decode cX11_isLong 1 = .ok (.getfield 29, 3) := by decide +kernel
theorem dX11_isLong_4 : decode cX11_isLong 4 = .ok (.aload_n 0, 1) := by decide +kernel
theorem dX11_isLong_5 : decode cX11_isLong 5 = .ok (.getfield 223, 3) := by decide +kernel
theorem dX11_isLong_8 : decode cX11_isLong 8 = .ok (.aload_n 0, 1) := by decide +kernel
theorem dX11_isLong_9 : decode cX11_isLong 9 = .ok (.getfield 226, 3) := by decide +kernel
theorem dX11_isLong_12 : decode cX11_isLong 12 = .ok (.invokestatic 111, 3) := by decide +kernel
theorem dX11_isLong_15 : decode cX11_isLong 15 = .ok (.iaload, 1) := by decide +kernel
theorem dX11_isLong_16 : decode cX11_isLong 16 = .ok (.bipush 6, 2) := by decide +kernel
theorem dX11_isLong_18 : decode cX11_isLong 18 = .ok (.if_icmp .le 7, 3) := by decide +kernel
theorem dX11_isLong_21 : decode cX11_isLong 21 = .ok (.iconst 1, 1) := by decide +kernel
theorem dX11_isLong_22 : decode cX11_isLong 22 = .ok (.goto 4, 3) := by decide +kernel
theorem dX11_isLong_25 : decode cX11_isLong 25 = .ok (.iconst 0, 1) := by decide +kernel
theorem dX11_isLong_26 : decode cX11_isLong 26 = .ok (.ireturn, 1) := by decide +kernel
theorem cm_X11_isLong : x_CM yX11_isLong cX11_isLong 1 (Option.some FieldType.boolean) 0 := ⟨w_9_10, w_1_12, by decide +kernel, by decide +kernel⟩
theorem ci_X11_isLong : x_CI yX11_isLong 13 := ⟨w_9_9, wp_105, (RX11, TX11, 41), rfl, rfl⟩
set_option maxRecDepth 100000 in
set_option maxHeartbeats 4000000 in
theorem bX11_isLong_26 {V : x_J} {ad : Nat → Nat} {Q : Int32 → x_S → x_L → Prop} (X : x_Is V cX11_isLong 1 RX11 (Option.some FieldType.boolean) ad dsM 1 (x_PI Q)) {s0 : Int32} {σ : x_S} {τ : x_L} (h : wX11_isLong_26 Q s0 σ τ) : V σ τ 26 [] [.int s0] := by
  exact x_zret X dX11_isLong_26 ⟨h.1, _, rfl, h.2⟩
set_option maxRecDepth 100000 in
set_option maxHeartbeats 4000000 in
theorem kX11_isLong {ad : Nat → Nat} {σ : x_S} {τ : x_L} {Q : Int32 → x_S → x_L → Prop} (h : wX11_isLong σ τ Q) : x_Met yX11_isLong cX11_isLong 1 (Option.some FieldType.boolean) 1 ad dsM [.ref (ad 0)] σ τ (x_PI Q) := by
  refine x_met (by decide +kernel) (Nat.le_of_ble_eq_true rfl) (fun V X => ?_)
  have X : x_Is V cX11_isLong 1 RX11 (Option.some FieldType.boolean) ad dsM 1 (x_PI Q) := X
  show V σ τ 0 [(0, .ref (ad 0))] []
  refine x_aload_n X dX11_isLong_0 rfl 0 rfl ?_
  refine x_getR X (j := 7) dX11_isLong_1 fl_11_29 dsM_0 rfl ?_
  refine x_aload_n X dX11_isLong_4 rfl 0 rfl ?_
  refine x_getI X dX11_isLong_5 fl_11_223 dsM_0 rfl ?_
  refine x_aload_n X dX11_isLong_8 rfl 0 rfl ?_
  refine x_getI X dX11_isLong_9 fl_11_226 dsM_0 rfl ?_
  refine x_callSi X [.int (σ 0 17), .int (σ 0 18)] [.ref (ad 7)] dX11_isLong_12 (kX11_spot h) cm_X11_spot w_7_118 rfl w_7_117 ⟨by decide, by decide⟩ rfl (Nat.le_of_ble_eq_true rfl) (fun r12 σ12 τ12 h => ?_)
  have g15 := h.1
  have h := h.2
  refine x_iald X dX11_isLong_15 dsM_7 g15 ?_
  refine x_bipush X dX11_isLong_16 kb_6 ?_
  refine x_icmp_le X 25 dX11_isLong_18 (by decide) (fun hc => ?_) (fun hc => ?_)
  · have h := h.1 hc
    refine x_iconst X dX11_isLong_25 ki_0 ?_
    refine x_sub X [] (lv' := []) rfl ?_
    exact bX11_isLong_26 X h
  · have h := h.2 hc
    refine x_iconst X dX11_isLong_21 ki_1 ?_
    refine x_goto X (tgt := 26) dX11_isLong_22 (by decide) ?_
    refine x_sub X [] (lv' := []) rfl ?_
    exact bX11_isLong_26 X h
theorem dX11_orderLoss_0 : decode cX11_orderLoss 0 = .ok (.aload_n 0, 1) := by decide +kernel
theorem dX11_orderLoss_1 : decode cX11_orderLoss 1 = .ok (.iconst 0, 1) := by decide +kernel
theorem dX11_orderLoss_2 : decode cX11_orderLoss 2 = .ok (.putfield 82, 3) := by decide +kernel
theorem dX11_orderLoss_5 : decode cX11_orderLoss 5 = .ok (.aload_n 0, 1) := by decide +kernel
theorem dX11_orderLoss_6 : decode cX11_orderLoss 6 = .ok (.iload_n 1, 1) := by decide +kernel
theorem dX11_orderLoss_7 : decode cX11_orderLoss 7 = .ok (.iload_n 2, 1) := by decide +kernel
theorem dX11_orderLoss_8 : decode cX11_orderLoss 8 = .ok (.invokevirtual 258, 3) := by decide +kernel
theorem dX11_orderLoss_11 : decode cX11_orderLoss 11 = .ok (.ifCond .ne 15, 3) := by decide +kernel
theorem dX11_orderLoss_14 : decode cX11_orderLoss 14 = .ok (.aload_n 0, 1) := by decide +kernel
theorem dX11_orderLoss_15 : decode cX11_orderLoss 15 = .ok (.aload_n 0, 1) := by decide +kernel
theorem dX11_orderLoss_16 : decode cX11_orderLoss 16 = .ok (.invokevirtual 359, 3) := by decide +kernel
theorem dX11_orderLoss_19 : decode cX11_orderLoss 19 = .ok (.iconst 2, 1) := by decide +kernel
theorem dX11_orderLoss_20 : decode cX11_orderLoss 20 = .ok (.invokevirtual 235, 3) := by decide +kernel
theorem dX11_orderLoss_23 : decode cX11_orderLoss 23 = .ok (.ifCond .eq 5, 3) := by decide +kernel
theorem dX11_orderLoss_26 : decode cX11_orderLoss 26 = .ok (.iconst 0, 1) := by decide +kernel
theorem dX11_orderLoss_27 : decode cX11_orderLoss 27 = .ok (.ireturn, 1) := by decide +kernel
theorem dX11_orderLoss_28 : decode cX11_orderLoss 28 = .ok (.aload_n 0, 1) := by decide +kernel
theorem dX11_orderLoss_29 : decode cX11_orderLoss 29 = .ok (.invokevirtual 362, 3) := by decide +kernel
theorem dX11_orderLoss_32 : decode cX11_orderLoss 32 = .ok (.istore_n 3, 1) := by decide +kernel
theorem dX11_orderLoss_33 : decode cX11_orderLoss 33 = .ok (.aload_n 0, 1) := by decide +kernel
theorem dX11_orderLoss_34 : decode cX11_orderLoss 34 = .ok (.getfield 349, 3) := by decide +kernel
theorem dX11_orderLoss_37 : decode cX11_orderLoss 37 = .ok (.iload_n 3, 1) := by decide +kernel
theorem dX11_orderLoss_38 : decode cX11_orderLoss 38 = .ok (.isub, 1) := by decide +kernel
theorem dX11_orderLoss_39 : decode cX11_orderLoss 39 = .ok (.ireturn, 1) := by decide +kernel
theorem cm_X11_orderLoss : x_CM yX11_orderLoss cX11_orderLoss 4 (Option.some FieldType.int) 2 := ⟨w_9_6, w_1_12, by decide +kernel, by decide +kernel⟩
theorem ci_X11_orderLoss : x_CI yX11_orderLoss 13 := ⟨w_9_4, w_9_5, (RX11, TX11, 41), rfl, rfl⟩
set_option maxRecDepth 100000 in
set_option maxHeartbeats 4000000 in
theorem bX11_orderLoss_26 {V : x_J} {ad : Nat → Nat} {Q : Int32 → x_S → x_L → Prop} (X : x_Is V cX11_orderLoss 4 RX11 (Option.some FieldType.int) ad dsM 7 (x_PI Q)) {σ : x_S} {τ : x_L} (h : wX11_orderLoss_26 Q σ τ) : V σ τ 26 [] [] := by
  refine x_iconst X dX11_orderLoss_26 ki_0 ?_
  exact x_iret X dX11_orderLoss_27 ⟨_, rfl, h⟩
set_option maxRecDepth 100000 in
set_option maxHeartbeats 4000000 in
theorem kX11_orderLoss {ad : Nat → Nat} {a1 : Int32} {a2 : Int32} {σ : x_S} {τ : x_L} {Q : Int32 → x_S → x_L → Prop} (h : wX11_orderLoss a1 a2 σ τ Q) : x_Met yX11_orderLoss cX11_orderLoss 4 (Option.some FieldType.int) 7 ad dsM [.ref (ad 0), .int a1, .int a2] σ τ (x_PI Q) := by
  refine x_met (by decide +kernel) (Nat.le_of_ble_eq_true rfl) (fun V X => ?_)
  have X : x_Is V cX11_orderLoss 4 RX11 (Option.some FieldType.int) ad dsM 7 (x_PI Q) := X
  show V σ τ 0 [(0, .ref (ad 0)), (1, .int a1), (2, .int a2)] []
  refine x_aload_n X dX11_orderLoss_0 rfl 0 rfl ?_
  refine x_iconst X dX11_orderLoss_1 ki_0 ?_
  refine x_putI X dX11_orderLoss_2 fl_11_82 ft_11_5 dsM_0 rfl ?_
  refine x_aload_n X dX11_orderLoss_5 rfl 0 rfl ?_
  refine x_iload_n X dX11_orderLoss_6 rfl 1 rfl ?_
  refine x_iload_n X dX11_orderLoss_7 rfl 2 rfl ?_
  refine x_callVi X [.int a1, .int a2] [] dX11_orderLoss_8 (kX11_noPlatoon h) cm_X11_noPlatoon ci_X11_noPlatoon w_8_70 dsM_0 ⟨by decide, by decide⟩ rfl (Nat.le_of_ble_eq_true rfl) (fun r8 σ8 τ8 h => ?_)
  refine x_if_ne X 26 dX11_orderLoss_11 (by decide) (fun hc => ?_) (fun hc => ?_)
  · have h := h.1 hc
    refine x_sub X [] (lv' := []) rfl ?_
    exact bX11_orderLoss_26 X h
  · have h := h.2 hc
    refine x_aload_n X dX11_orderLoss_14 rfl 0 rfl ?_
    refine x_aload_n X dX11_orderLoss_15 rfl 0 rfl ?_
    refine x_callVi X [] [.ref (ad 0)] dX11_orderLoss_16 (kX11_isLong h) cm_X11_isLong ci_X11_isLong w_9_7 dsM_0 ⟨by decide, by decide⟩ rfl (Nat.le_of_ble_eq_true rfl) (fun r16 σ16 τ16 h => ?_)
    refine x_iconst X dX11_orderLoss_19 ki_2 ?_
    refine x_callVi X [.int r16, .int 2] [] dX11_orderLoss_20 (kX11_throwsIf h) cm_X11_throwsIf ci_X11_throwsIf w_8_10 dsM_0 ⟨by decide, by decide⟩ rfl (Nat.le_of_ble_eq_true rfl) (fun r20 σ20 τ20 h => ?_)
    refine x_if_eq X 28 dX11_orderLoss_23 (by decide) (fun hc => ?_) (fun hc => ?_)
    · have h := h.1 hc
      refine x_aload_n X dX11_orderLoss_28 rfl 0 rfl ?_
      refine x_callVi X [] [] dX11_orderLoss_29 (kX11_layBest h) cm_X11_layBest ci_X11_layBest w_9_11 dsM_0 ⟨by decide, by decide⟩ rfl (Nat.le_of_ble_eq_true rfl) (fun r29 σ29 τ29 h => ?_)
      refine x_istore_n X (lv' := [(3, .int r29), (0, .ref (ad 0)), (1, .int a1), (2, .int a2)]) dX11_orderLoss_32 rfl (by decide) rfl ?_
      refine x_aload_n X dX11_orderLoss_33 rfl 1 rfl ?_
      refine x_getI X dX11_orderLoss_34 fl_11_349 dsM_0 rfl ?_
      refine x_iload_n X dX11_orderLoss_37 rfl 0 rfl ?_
      refine x_isub X dX11_orderLoss_38 ?_
      exact x_iret X dX11_orderLoss_39 ⟨_, rfl, h⟩
    · have h := h.2 hc
      refine x_sub X [] (lv' := []) rfl ?_
      exact bX11_orderLoss_26 X h
theorem dX11_bestMember_0 : decode cX11_bestMember 0 = .ok (.aload_n 0, 1) := by decide +kernel
theorem dX11_bestMember_1 : decode cX11_bestMember 1 = .ok (.iconst 0, 1) := by decide +kernel
theorem dX11_bestMember_2 : decode cX11_bestMember 2 = .ok (.putfield 82, 3) := by decide +kernel
theorem dX11_bestMember_5 : decode cX11_bestMember 5 = .ok (.aload_n 0, 1) := by decide +kernel
theorem dX11_bestMember_6 : decode cX11_bestMember 6 = .ok (.iload_n 1, 1) := by decide +kernel
theorem dX11_bestMember_7 : decode cX11_bestMember 7 = .ok (.iload_n 2, 1) := by decide +kernel
theorem dX11_bestMember_8 : decode cX11_bestMember 8 = .ok (.invokevirtual 258, 3) := by decide +kernel
theorem dX11_bestMember_11 : decode cX11_bestMember 11 = .ok (.ifCond .ne 32, 3) := by decide +kernel
theorem dX11_bestMember_14 : decode cX11_bestMember 14 = .ok (.aload_n 0, 1) := by decide +kernel
theorem dX11_bestMember_15 : decode cX11_bestMember 15 = .ok (.iload_n 3, 1) := by decide +kernel
theorem dX11_bestMember_16 : decode cX11_bestMember 16 = .ok (.ifCond .ge 7, 3) := by decide +kernel
theorem dX11_bestMember_19 : decode cX11_bestMember 19 = .ok (.iconst 1, 1) := by decide +kernel
theorem dX11_bestMember_20 : decode cX11_bestMember 20 = .ok (.goto 4, 3) := by decide +kernel
theorem dX11_bestMember_23 : decode cX11_bestMember 23 = .ok (.iconst 0, 1) := by decide +kernel
theorem dX11_bestMember_24 : decode cX11_bestMember 24 = .ok (.iconst 1, 1) := by decide +kernel
theorem dX11_bestMember_25 : decode cX11_bestMember 25 = .ok (.invokevirtual 235, 3) := by decide +kernel
theorem dX11_bestMember_28 : decode cX11_bestMember 28 = .ok (.ifCond .ne 15, 3) := by decide +kernel
theorem dX11_bestMember_31 : decode cX11_bestMember 31 = .ok (.aload_n 0, 1) := by decide +kernel
theorem dX11_bestMember_32 : decode cX11_bestMember 32 = .ok (.aload_n 0, 1) := by decide +kernel
theorem dX11_bestMember_33 : decode cX11_bestMember 33 = .ok (.invokevirtual 359, 3) := by decide +kernel
theorem dX11_bestMember_36 : decode cX11_bestMember 36 = .ok (.iconst 2, 1) := by decide +kernel
theorem dX11_bestMember_37 : decode cX11_bestMember 37 = .ok (.invokevirtual 235, 3) := by decide +kernel
theorem dX11_bestMember_40 : decode cX11_bestMember 40 = .ok (.ifCond .eq 5, 3) := by decide +kernel
theorem dX11_bestMember_43 : decode cX11_bestMember 43 = .ok (.iconst 0, 1) := by decide +kernel
theorem dX11_bestMember_44 : decode cX11_bestMember 44 = .ok (.ireturn, 1) := by decide +kernel
theorem dX11_bestMember_45 : decode cX11_bestMember 45 = .ok (.aload_n 0, 1) := by decide +kernel
theorem dX11_bestMember_46 : decode cX11_bestMember 46 = .ok (.invokevirtual 362, 3) := by decide +kernel
theorem dX11_bestMember_49 : decode cX11_bestMember 49 = .ok (.istore 4, 2) := by decide +kernel
theorem dX11_bestMember_51 : decode cX11_bestMember 51 = .ok (.iload_n 3, 1) := by decide +kernel
theorem dX11_bestMember_52 : decode cX11_bestMember 52 = .ok (.aload_n 0, 1) := by decide +kernel
theorem dX11_bestMember_53 : decode cX11_bestMember 53 = .ok (.getfield 29, 3) := by decide +kernel
theorem dX11_bestMember_56 : decode cX11_bestMember 56 = .ok (.aload_n 0, 1) := by decide +kernel
theorem dX11_bestMember_57 : decode cX11_bestMember 57 = .ok (.getfield 223, 3) := by decide +kernel
theorem dX11_bestMember_60 : decode cX11_bestMember 60 = .ok (.aload_n 0, 1) := by decide +kernel
theorem dX11_bestMember_61 : decode cX11_bestMember 61 = .ok (.getfield 226, 3) := by decide +kernel
theorem dX11_bestMember_64 : decode cX11_bestMember 64 = .ok (.invokestatic 111, 3) := by decide +kernel
theorem dX11_bestMember_67 : decode cX11_bestMember 67 = .ok (.iaload, 1) := by decide +kernel
theorem dX11_bestMember_68 : decode cX11_bestMember 68 = .ok (.if_icmp .ge 12, 3) := by decide +kernel
theorem dX11_bestMember_71 : decode cX11_bestMember 71 = .ok (.aload_n 0, 1) := by decide +kernel
theorem dX11_bestMember_72 : decode cX11_bestMember 72 = .ok (.getfield 62, 3) := by decide +kernel
theorem dX11_bestMember_75 : decode cX11_bestMember 75 = .ok (.iload_n 3, 1) := by decide +kernel
theorem dX11_bestMember_76 : decode cX11_bestMember 76 = .ok (.iaload, 1) := by decide +kernel
theorem dX11_bestMember_77 : decode cX11_bestMember 77 = .ok (.goto 4, 3) := by decide +kernel
theorem dX11_bestMember_80 : decode cX11_bestMember 80 = .ok (.iconst (-1), 1) := by decide +kernel
theorem dX11_bestMember_81 : decode cX11_bestMember 81 = .ok (.ireturn, 1) := by decide +kernel
theorem cm_X11_bestMember : x_CM yX11_bestMember cX11_bestMember 5 (Option.some FieldType.int) 3 := ⟨w_9_38, w_1_12, by decide +kernel, by decide +kernel⟩
theorem ci_X11_bestMember : x_CI yX11_bestMember 13 := ⟨w_9_36, w_9_37, (RX11, TX11, 41), rfl, rfl⟩
set_option maxRecDepth 100000 in
set_option maxHeartbeats 4000000 in
theorem bX11_bestMember_43 {V : x_J} {ad : Nat → Nat} {Q : Int32 → x_S → x_L → Prop} (X : x_Is V cX11_bestMember 5 RX11 (Option.some FieldType.int) ad dsM 7 (x_PI Q)) {σ : x_S} {τ : x_L} (h : wX11_bestMember_43 Q σ τ) : V σ τ 43 [] [] := by
  refine x_iconst X dX11_bestMember_43 ki_0 ?_
  exact x_iret X dX11_bestMember_44 ⟨_, rfl, h⟩
set_option maxRecDepth 100000 in
set_option maxHeartbeats 4000000 in
theorem bX11_bestMember_81 {V : x_J} {ad : Nat → Nat} {Q : Int32 → x_S → x_L → Prop} (X : x_Is V cX11_bestMember 5 RX11 (Option.some FieldType.int) ad dsM 7 (x_PI Q)) {s0 : Int32} {σ : x_S} {τ : x_L} (h : wX11_bestMember_81 Q s0 σ τ) : V σ τ 81 [] [.int s0] := by
  exact x_iret X dX11_bestMember_81 ⟨_, rfl, h⟩
set_option maxRecDepth 100000 in
set_option maxHeartbeats 4000000 in
theorem bX11_bestMember_24 {V : x_J} {ad : Nat → Nat} {Q : Int32 → x_S → x_L → Prop} (X : x_Is V cX11_bestMember 5 RX11 (Option.some FieldType.int) ad dsM 7 (x_PI Q)) {v3 : Int32} {s1 : Int32} {σ : x_S} {τ : x_L} (h : wX11_bestMember_24 Q v3 s1 σ τ) : V σ τ 24 [(0, .ref (ad 0)), (3, .int v3)] [.int s1, .ref (ad 0)] := by
  refine x_iconst X dX11_bestMember_24 ki_1 ?_
  refine x_callVi X [.int s1, .int 1] [] dX11_bestMember_25 (kX11_throwsIf h) cm_X11_throwsIf ci_X11_throwsIf w_8_10 dsM_0 ⟨by decide, by decide⟩ rfl (Nat.le_of_ble_eq_true rfl) (fun r25 σ25 τ25 h => ?_)
  refine x_if_ne X 43 dX11_bestMember_28 (by decide) (fun hc => ?_) (fun hc => ?_)
  · have h := h.1 hc
    refine x_sub X [] (lv' := []) rfl ?_
    exact bX11_bestMember_43 X h
  · have h := h.2 hc
    refine x_aload_n X dX11_bestMember_31 rfl 0 rfl ?_
    refine x_aload_n X dX11_bestMember_32 rfl 0 rfl ?_
    refine x_callVi X [] [.ref (ad 0)] dX11_bestMember_33 (kX11_isLong h) cm_X11_isLong ci_X11_isLong w_9_7 dsM_0 ⟨by decide, by decide⟩ rfl (Nat.le_of_ble_eq_true rfl) (fun r33 σ33 τ33 h => ?_)
    refine x_iconst X dX11_bestMember_36 ki_2 ?_
    refine x_callVi X [.int r33, .int 2] [] dX11_bestMember_37 (kX11_throwsIf h) cm_X11_throwsIf ci_X11_throwsIf w_8_10 dsM_0 ⟨by decide, by decide⟩ rfl (Nat.le_of_ble_eq_true rfl) (fun r37 σ37 τ37 h => ?_)
    refine x_if_eq X 45 dX11_bestMember_40 (by decide) (fun hc => ?_) (fun hc => ?_)
    · have h := h.1 hc
      refine x_aload_n X dX11_bestMember_45 rfl 0 rfl ?_
      refine x_callVi X [] [] dX11_bestMember_46 (kX11_layBest h) cm_X11_layBest ci_X11_layBest w_9_11 dsM_0 ⟨by decide, by decide⟩ rfl (Nat.le_of_ble_eq_true rfl) (fun r46 σ46 τ46 h => ?_)
      refine x_istore X (lv' := [(4, .int r46), (0, .ref (ad 0)), (3, .int v3)]) dX11_bestMember_49 (by decide) rfl ?_
      refine x_iload_n X dX11_bestMember_51 rfl 2 rfl ?_
      refine x_aload_n X dX11_bestMember_52 rfl 1 rfl ?_
      refine x_getR X (j := 7) dX11_bestMember_53 fl_11_29 dsM_0 rfl ?_
      refine x_aload_n X dX11_bestMember_56 rfl 1 rfl ?_
      refine x_getI X dX11_bestMember_57 fl_11_223 dsM_0 rfl ?_
      refine x_aload_n X dX11_bestMember_60 rfl 1 rfl ?_
      refine x_getI X dX11_bestMember_61 fl_11_226 dsM_0 rfl ?_
      refine x_callSi X [.int (σ46 0 17), .int (σ46 0 18)] [.ref (ad 7), .int v3] dX11_bestMember_64 (kX11_spot h) cm_X11_spot w_7_118 rfl w_7_117 ⟨by decide, by decide⟩ rfl (Nat.le_of_ble_eq_true rfl) (fun r64 σ64 τ64 h => ?_)
      have g67 := h.1
      have h := h.2
      refine x_iald X dX11_bestMember_67 dsM_7 g67 ?_
      refine x_icmp_ge X 80 dX11_bestMember_68 (by decide) (fun hc => ?_) (fun hc => ?_)
      · have h := h.1 hc
        refine x_iconst X dX11_bestMember_80 ki_m1 ?_
        refine x_sub X [] (lv' := []) rfl ?_
        exact bX11_bestMember_81 X h
      · have h := h.2 hc
        refine x_aload_n X dX11_bestMember_71 rfl 1 rfl ?_
        refine x_getR X (j := 18) dX11_bestMember_72 fl_11_62 dsM_0 rfl ?_
        refine x_iload_n X dX11_bestMember_75 rfl 2 rfl ?_
        have g76 := h.1
        have h := h.2
        refine x_iald X dX11_bestMember_76 dsM_18 g76 ?_
        refine x_goto X (tgt := 81) dX11_bestMember_77 (by decide) ?_
        refine x_sub X [] (lv' := []) rfl ?_
        exact bX11_bestMember_81 X h
    · have h := h.2 hc
      refine x_sub X [] (lv' := []) rfl ?_
      exact bX11_bestMember_43 X h
set_option maxRecDepth 100000 in
set_option maxHeartbeats 4000000 in
theorem kX11_bestMember {ad : Nat → Nat} {a1 : Int32} {a2 : Int32} {a3 : Int32} {σ : x_S} {τ : x_L} {Q : Int32 → x_S → x_L → Prop} (h : wX11_bestMember a1 a2 a3 σ τ Q) : x_Met yX11_bestMember cX11_bestMember 5 (Option.some FieldType.int) 7 ad dsM [.ref (ad 0), .int a1, .int a2, .int a3] σ τ (x_PI Q) := by
  refine x_met (by decide +kernel) (Nat.le_of_ble_eq_true rfl) (fun V X => ?_)
  have X : x_Is V cX11_bestMember 5 RX11 (Option.some FieldType.int) ad dsM 7 (x_PI Q) := X
  show V σ τ 0 [(0, .ref (ad 0)), (1, .int a1), (2, .int a2), (3, .int a3)] []
  refine x_aload_n X dX11_bestMember_0 rfl 0 rfl ?_
  refine x_iconst X dX11_bestMember_1 ki_0 ?_
  refine x_putI X dX11_bestMember_2 fl_11_82 ft_11_5 dsM_0 rfl ?_
  refine x_aload_n X dX11_bestMember_5 rfl 0 rfl ?_
  refine x_iload_n X dX11_bestMember_6 rfl 1 rfl ?_
  refine x_iload_n X dX11_bestMember_7 rfl 2 rfl ?_
  refine x_callVi X [.int a1, .int a2] [] dX11_bestMember_8 (kX11_noPlatoon h) cm_X11_noPlatoon ci_X11_noPlatoon w_8_70 dsM_0 ⟨by decide, by decide⟩ rfl (Nat.le_of_ble_eq_true rfl) (fun r8 σ8 τ8 h => ?_)
  refine x_if_ne X 43 dX11_bestMember_11 (by decide) (fun hc => ?_) (fun hc => ?_)
  · have h := h.1 hc
    refine x_sub X [] (lv' := []) rfl ?_
    exact bX11_bestMember_43 X h
  · have h := h.2 hc
    refine x_aload_n X dX11_bestMember_14 rfl 0 rfl ?_
    refine x_iload_n X dX11_bestMember_15 rfl 3 rfl ?_
    refine x_if_ge X 23 dX11_bestMember_16 (by decide) (fun hc => ?_) (fun hc => ?_)
    · have h := h.1 hc
      refine x_iconst X dX11_bestMember_23 ki_0 ?_
      refine x_sub X [0, 3] (lv' := [(0, .ref (ad 0)), (3, .int a3)]) rfl ?_
      exact bX11_bestMember_24 X h
    · have h := h.2 hc
      refine x_iconst X dX11_bestMember_19 ki_1 ?_
      refine x_goto X (tgt := 24) dX11_bestMember_20 (by decide) ?_
      refine x_sub X [0, 3] (lv' := [(0, .ref (ad 0)), (3, .int a3)]) rfl ?_
      exact bX11_bestMember_24 X h
theorem dX11_rate_0 : decode cX11_rate 0 = .ok (.aload_n 0, 1) := by decide +kernel
theorem dX11_rate_1 : decode cX11_rate 1 = .ok (.iconst 0, 1) := by decide +kernel
theorem dX11_rate_2 : decode cX11_rate 2 = .ok (.putfield 82, 3) := by decide +kernel
theorem dX11_rate_5 : decode cX11_rate 5 = .ok (.aload_n 0, 1) := by decide +kernel
theorem dX11_rate_6 : decode cX11_rate 6 = .ok (.aload_n 0, 1) := by decide +kernel
theorem dX11_rate_7 : decode cX11_rate 7 = .ok (.iload_n 1, 1) := by decide +kernel
theorem dX11_rate_8 : decode cX11_rate 8 = .ok (.invokevirtual 103, 3) := by decide +kernel
theorem dX11_rate_11 : decode cX11_rate 11 = .ok (.ifCond .ne 7, 3) := by decide +kernel
theorem dX11_rate_14 : decode cX11_rate 14 = .ok (.iconst 1, 1) := by decide +kernel
theorem dX11_rate_15 : decode cX11_rate 15 = .ok (.goto 4, 3) := by decide +kernel
theorem dX11_rate_18 : decode cX11_rate 18 = .ok (.iconst 0, 1) := by decide +kernel
theorem dX11_rate_19 : decode cX11_rate 19 = .ok (.iconst 1, 1) := by decide +kernel
theorem dX11_rate_20 : decode cX11_rate 20 = .ok (.invokevirtual 235, 3) := by decide +kernel
theorem dX11_rate_23 : decode cX11_rate 23 = .ok (.ifCond .eq 5, 3) := by decide +kernel
theorem dX11_rate_26 : decode cX11_rate 26 = .ok (.fconst 0, 1) := by decide +kernel
theorem dX11_rate_27 : decode cX11_rate 27 = .ok (.freturn, 1) := by decide +kernel
theorem dX11_rate_28 : decode cX11_rate 28 = .ok (.aload_n 0, 1) := by decide +kernel
theorem dX11_rate_29 : decode cX11_rate 29 = .ok (.invokevirtual 200, 3) := by decide +kernel
theorem dX11_rate_32 : decode cX11_rate 32 = .ok (.aload_n 0, 1) := by decide +kernel
theorem dX11_rate_33 : decode cX11_rate 33 = .ok (.iload_n 1, 1) := by decide +kernel
theorem dX11_rate_34 : decode cX11_rate 34 = .ok (.iconst 0, 1) := by decide +kernel
theorem dX11_rate_35 : decode cX11_rate 35 = .ok (.invokevirtual 191, 3) := by decide +kernel
theorem dX11_rate_38 : decode cX11_rate 38 = .ok (.i2f, 1) := by decide +kernel
theorem dX11_rate_39 : decode cX11_rate 39 = .ok (.aload_n 0, 1) := by decide +kernel
theorem dX11_rate_40 : decode cX11_rate 40 = .ok (.iload_n 1, 1) := by decide +kernel
theorem dX11_rate_41 : decode cX11_rate 41 = .ok (.iconst 4, 1) := by decide +kernel
theorem dX11_rate_42 : decode cX11_rate 42 = .ok (.invokevirtual 191, 3) := by decide +kernel
theorem dX11_rate_45 : decode cX11_rate 45 = .ok (.i2f, 1) := by decide +kernel
theorem dX11_rate_46 : decode cX11_rate 46 = .ok (.fdiv, 1) := by decide +kernel
theorem dX11_rate_47 : decode cX11_rate 47 = .ok (.freturn, 1) := by decide +kernel
theorem cm_X11_rate : x_CM yX11_rate cX11_rate 2 (Option.some FieldType.float) 1 := ⟨w_9_42, w_1_12, by decide +kernel, by decide +kernel⟩
theorem ci_X11_rate : x_CI yX11_rate 13 := ⟨w_9_40, w_9_41, (RX11, TX11, 41), rfl, rfl⟩
set_option maxRecDepth 100000 in
set_option maxHeartbeats 4000000 in
theorem bX11_rate_19 {V : x_J} {ad : Nat → Nat} {Q : UInt32 → x_S → x_L → Prop} (X : x_Is V cX11_rate 2 RX11 (Option.some FieldType.float) ad dsM 6 (x_PF Q)) {v1 : Int32} {s1 : Int32} {σ : x_S} {τ : x_L} (h : wX11_rate_19 Q v1 s1 σ τ) : V σ τ 19 [(0, .ref (ad 0)), (1, .int v1)] [.int s1, .ref (ad 0)] := by
  refine x_iconst X dX11_rate_19 ki_1 ?_
  refine x_callVi X [.int s1, .int 1] [] dX11_rate_20 (kX11_throwsIf h) cm_X11_throwsIf ci_X11_throwsIf w_8_10 dsM_0 ⟨by decide, by decide⟩ rfl (Nat.le_of_ble_eq_true rfl) (fun r20 σ20 τ20 h => ?_)
  refine x_if_eq X 28 dX11_rate_23 (by decide) (fun hc => ?_) (fun hc => ?_)
  · have h := h.1 hc
    refine x_aload_n X dX11_rate_28 rfl 0 rfl ?_
    refine x_callVv X [] [] dX11_rate_29 (kX11_lay h) cm_X11_lay ci_X11_lay w_7_101 dsM_0 ⟨by decide, by decide⟩ rfl (Nat.le_of_ble_eq_true rfl) (fun σ29 τ29 h => ?_)
    refine x_aload_n X dX11_rate_32 rfl 0 rfl ?_
    refine x_iload_n X dX11_rate_33 rfl 1 rfl ?_
    refine x_iconst X dX11_rate_34 ki_0 ?_
    refine x_callVi X [.int v1, .int 0] [] dX11_rate_35 (kX11_sumOf h) cm_X11_sumOf ci_X11_sumOf w_7_234 dsM_0 ⟨by decide, by decide⟩ rfl (Nat.le_of_ble_eq_true rfl) (fun r35 σ35 τ35 h => ?_)
    refine x_i2f X dX11_rate_38 ?_
    refine x_aload_n X dX11_rate_39 rfl 0 rfl ?_
    refine x_iload_n X dX11_rate_40 rfl 1 rfl ?_
    refine x_iconst X dX11_rate_41 ki_4 ?_
    refine x_callVi X [.int v1, .int 4] [.float (FP.i2f r35)] dX11_rate_42 (kX11_sumOf h) cm_X11_sumOf ci_X11_sumOf w_7_234 dsM_0 ⟨by decide, by decide⟩ rfl (Nat.le_of_ble_eq_true rfl) (fun r42 σ42 τ42 h => ?_)
    refine x_i2f X dX11_rate_45 ?_
    refine x_fdiv X dX11_rate_46 h.1 ?_
    have h := h.2
    exact x_fret X dX11_rate_47 ⟨_, rfl, h⟩
  · have h := h.2 hc
    refine x_fconst0 X dX11_rate_26 ?_
    exact x_fret X dX11_rate_27 ⟨_, rfl, h⟩
set_option maxRecDepth 100000 in
set_option maxHeartbeats 4000000 in
theorem kX11_rate {ad : Nat → Nat} {a1 : Int32} {σ : x_S} {τ : x_L} {Q : UInt32 → x_S → x_L → Prop} (h : wX11_rate a1 σ τ Q) : x_Met yX11_rate cX11_rate 2 (Option.some FieldType.float) 6 ad dsM [.ref (ad 0), .int a1] σ τ (x_PF Q) := by
  refine x_met (by decide +kernel) (Nat.le_of_ble_eq_true rfl) (fun V X => ?_)
  have X : x_Is V cX11_rate 2 RX11 (Option.some FieldType.float) ad dsM 6 (x_PF Q) := X
  show V σ τ 0 [(0, .ref (ad 0)), (1, .int a1)] []
  refine x_aload_n X dX11_rate_0 rfl 0 rfl ?_
  refine x_iconst X dX11_rate_1 ki_0 ?_
  refine x_putI X dX11_rate_2 fl_11_82 ft_11_5 dsM_0 rfl ?_
  refine x_aload_n X dX11_rate_5 rfl 0 rfl ?_
  refine x_aload_n X dX11_rate_6 rfl 0 rfl ?_
  refine x_iload_n X dX11_rate_7 rfl 1 rfl ?_
  refine x_callVi X [.int a1] [.ref (ad 0)] dX11_rate_8 (kX11_isTruck h) cm_X11_isTruck ci_X11_isTruck w_8_26 dsM_0 ⟨by decide, by decide⟩ rfl (Nat.le_of_ble_eq_true rfl) (fun r8 σ8 τ8 h => ?_)
  refine x_if_ne X 18 dX11_rate_11 (by decide) (fun hc => ?_) (fun hc => ?_)
  · have h := h.1 hc
    refine x_iconst X dX11_rate_18 ki_0 ?_
    exact bX11_rate_19 X h
  · have h := h.2 hc
    refine x_iconst X dX11_rate_14 ki_1 ?_
    refine x_goto X (tgt := 19) dX11_rate_15 (by decide) ?_
    exact bX11_rate_19 X h
theorem cm_Jxf58ca_isNaN_12338 : x_CM yJxf58ca_isNaN_12338 cJxf58ca_isNaN_12338 1 (Option.some FieldType.boolean) 1 := ⟨w_9_52, w_1_28, by decide +kernel, by decide +kernel⟩
set_option maxRecDepth 100000 in
set_option maxHeartbeats 4000000 in
theorem bJxf58ca_isNaN_12338_11 {V : x_J} {ad : Nat → Nat} {Q : Int32 → x_S → x_L → Prop} (X : x_Is V cJxf58ca_isNaN_12338 1 RJxf58ca (Option.some FieldType.boolean) ad dsM 0 (x_PI Q)) {s0 : Int32} {σ : x_S} {τ : x_L} (h : wJxf58ca_isNaN_12338_11 Q s0 σ τ) : V σ τ 11 [] [.int s0] := by
  exact x_zret X dJxf58ca_isNaN_12338_11 ⟨h.1, _, rfl, h.2⟩
set_option maxRecDepth 100000 in
set_option maxHeartbeats 4000000 in
theorem kJxf58ca_isNaN_12338 {ad : Nat → Nat} {a0 : UInt32} {σ : x_S} {τ : x_L} {Q : Int32 → x_S → x_L → Prop} (h : wJxf58ca_isNaN_12338 a0 σ τ Q) : x_Met yJxf58ca_isNaN_12338 cJxf58ca_isNaN_12338 1 (Option.some FieldType.boolean) 0 ad dsM [.float a0] σ τ (x_PI Q) := by
  refine x_metF (by decide +kernel) (Nat.le_of_ble_eq_true rfl) (fun V X => ?_)
  have X : x_Is V cJxf58ca_isNaN_12338 1 RJxf58ca (Option.some FieldType.boolean) ad dsM 0 (x_PI Q) := X
  show V σ τ 0 [(0, .float a0)] []
  refine x_fload_n X dJxf58ca_isNaN_12338_0 rfl 0 rfl ?_
  refine x_fload_n X dJxf58ca_isNaN_12338_1 rfl 0 rfl ?_
  refine x_fcmp X dJxf58ca_isNaN_12338_2 ?_
  refine x_if_eq X 10 dJxf58ca_isNaN_12338_3 (by decide) (fun hc => ?_) (fun hc => ?_)
  · have h := h.1 hc
    refine x_iconst X dJxf58ca_isNaN_12338_10 ki_0 ?_
    refine x_sub X [] (lv' := []) rfl ?_
    exact bJxf58ca_isNaN_12338_11 X h
  · have h := h.2 hc
    refine x_iconst X dJxf58ca_isNaN_12338_6 ki_1 ?_
    refine x_goto X (tgt := 11) dJxf58ca_isNaN_12338_7 (by decide) ?_
    refine x_sub X [] (lv' := []) rfl ?_
    exact bJxf58ca_isNaN_12338_11 X h
theorem cm_Jxf58ca_floatToIntBits_5c35a : x_CM yJxf58ca_floatToIntBits_5c35a cJxf58ca_floatToIntBits_5c35a 1 (Option.some FieldType.int) 1 := ⟨w_9_49, w_1_28, by decide +kernel, by decide +kernel⟩
set_option maxRecDepth 100000 in
set_option maxHeartbeats 4000000 in
theorem kJxf58ca_floatToIntBits_5c35a {ad : Nat → Nat} {a0 : UInt32} {σ : x_S} {τ : x_L} {Q : Int32 → x_S → x_L → Prop} (h : wJxf58ca_floatToIntBits_5c35a a0 σ τ Q) : x_Met yJxf58ca_floatToIntBits_5c35a cJxf58ca_floatToIntBits_5c35a 1 (Option.some FieldType.int) 1 ad dsM [.float a0] σ τ (x_PI Q) := by
  refine x_metF (by decide +kernel) (Nat.le_of_ble_eq_true rfl) (fun V X => ?_)
  have X : x_Is V cJxf58ca_floatToIntBits_5c35a 1 RJxf58ca (Option.some FieldType.int) ad dsM 1 (x_PI Q) := X
  show V σ τ 0 [(0, .float a0)] []
  refine x_fload_n X dJxf58ca_floatToIntBits_5c35a_0 rfl 0 rfl ?_
  refine x_callSi X [.float a0] [] dJxf58ca_floatToIntBits_5c35a_1 (kJxf58ca_isNaN_12338 h) cm_Jxf58ca_isNaN_12338 w_9_51 rfl w_9_50 ⟨by decide, by decide⟩ rfl (Nat.le_of_ble_eq_true rfl) (fun r1 σ1 τ1 h => ?_)
  refine x_if_ne X 12 dJxf58ca_floatToIntBits_5c35a_4 (by decide) (fun hc => ?_) (fun hc => ?_)
  · have h := h.1 hc
    refine x_ldc X dJxf58ca_floatToIntBits_5c35a_12 w_9_56 ?_
    exact x_iret X dJxf58ca_floatToIntBits_5c35a_14 ⟨_, rfl, h⟩
  · have h := h.2 hc
    refine x_fload_n X dJxf58ca_floatToIntBits_5c35a_7 rfl 0 rfl ?_
    refine x_rawbits X dJxf58ca_floatToIntBits_5c35a_8 w_9_53 (by decide) (Nat.le_of_ble_eq_true rfl) ?_
    exact x_iret X dJxf58ca_floatToIntBits_5c35a_11 ⟨_, rfl, h⟩
theorem dX11_shareBits_0 : decode cX11_shareBits 0 = .ok (.aload_n 0, 1) := by decide +kernel
theorem dX11_shareBits_1 : decode cX11_shareBits 1 = .ok (.iconst 0, 1) := by decide +kernel
theorem dX11_shareBits_2 : decode cX11_shareBits 2 = .ok (.putfield 82, 3) := by decide +kernel
theorem dX11_shareBits_5 : decode cX11_shareBits 5 = .ok (.aload_n 0, 1) := by decide +kernel
theorem dX11_shareBits_6 : decode cX11_shareBits 6 = .ok (.aload_n 0, 1) := by decide +kernel
theorem dX11_shareBits_7 : decode cX11_shareBits 7 = .ok (.getfield 17, 3) := by decide +kernel
theorem dX11_shareBits_10 : decode cX11_shareBits 10 = .ok (.iconst 1, 1) := by decide +kernel
theorem dX11_shareBits_11 : decode cX11_shareBits 11 = .ok (.iaload, 1) := by decide +kernel
theorem dX11_shareBits_12 : decode cX11_shareBits 12 = .ok (.ifCond .ne 7, 3) := by decide +kernel
theorem dX11_shareBits_15 : decode cX11_shareBits 15 = .ok (.iconst 1, 1) := by decide +kernel
theorem dX11_shareBits_16 : decode cX11_shareBits 16 = .ok (.goto 4, 3) := by decide +kernel
theorem dX11_shareBits_19 : decode cX11_shareBits 19 = .ok (.iconst 0, 1) := by decide +kernel
theorem dX11_shareBits_20 : decode cX11_shareBits 20 = .ok (.iconst 1, 1) := by decide +kernel
theorem dX11_shareBits_21 : decode cX11_shareBits 21 = .ok (.invokevirtual 235, 3) := by decide +kernel
theorem dX11_shareBits_24 : decode cX11_shareBits 24 = .ok (.ifCond .eq 5, 3) := by decide +kernel
theorem dX11_shareBits_27 : decode cX11_shareBits 27 = .ok (.iconst 0, 1) := by decide +kernel
theorem dX11_shareBits_28 : decode cX11_shareBits 28 = .ok (.ireturn, 1) := by decide +kernel
theorem dX11_shareBits_29 : decode cX11_shareBits 29 = .ok (.aload_n 0, 1) := by decide +kernel
theorem dX11_shareBits_30 : decode cX11_shareBits 30 = .ok (.invokevirtual 200, 3) := by decide +kernel
theorem dX11_shareBits_33 : decode cX11_shareBits 33 = .ok (.aload_n 0, 1) := by decide +kernel
theorem dX11_shareBits_34 : decode cX11_shareBits 34 = .ok (.iconst 1, 1) := by decide +kernel
theorem dX11_shareBits_35 : decode cX11_shareBits 35 = .ok (.invokevirtual 217, 3) := by decide +kernel
theorem dX11_shareBits_38 : decode cX11_shareBits 38 = .ok (.i2f, 1) := by decide +kernel
theorem dX11_shareBits_39 : decode cX11_shareBits 39 = .ok (.aload_n 0, 1) := by decide +kernel
theorem dX11_shareBits_40 : decode cX11_shareBits 40 = .ok (.iconst 3, 1) := by decide +kernel
theorem dX11_shareBits_41 : decode cX11_shareBits 41 = .ok (.invokevirtual 217, 3) := by decide +kernel
theorem dX11_shareBits_44 : decode cX11_shareBits 44 = .ok (.i2f, 1) := by decide +kernel
theorem dX11_shareBits_45 : decode cX11_shareBits 45 = .ok (.fdiv, 1) := by decide +kernel
theorem dX11_shareBits_46 : decode cX11_shareBits 46 = .ok (.invokestatic 365, 3) := by decide +kernel
theorem dX11_shareBits_49 : decode cX11_shareBits 49 = .ok (.ireturn, 1) := by decide +kernel
theorem cm_X11_shareBits : x_CM yX11_shareBits cX11_shareBits 1 (Option.some FieldType.int) 0 := ⟨w_9_46, w_1_12, by decide +kernel, by decide +kernel⟩
theorem ci_X11_shareBits : x_CI yX11_shareBits 13 := ⟨w_9_44, w_9_45, (RX11, TX11, 41), rfl, rfl⟩
set_option maxRecDepth 100000 in
set_option maxHeartbeats 4000000 in
theorem bX11_shareBits_20 {V : x_J} {ad : Nat → Nat} {Q : Int32 → x_S → x_L → Prop} (X : x_Is V cX11_shareBits 1 RX11 (Option.some FieldType.int) ad dsM 6 (x_PI Q)) {s1 : Int32} {σ : x_S} {τ : x_L} (h : wX11_shareBits_20 Q s1 σ τ) : V σ τ 20 [(0, .ref (ad 0))] [.int s1, .ref (ad 0)] := by
  refine x_iconst X dX11_shareBits_20 ki_1 ?_
  refine x_callVi X [.int s1, .int 1] [] dX11_shareBits_21 (kX11_throwsIf h) cm_X11_throwsIf ci_X11_throwsIf w_8_10 dsM_0 ⟨by decide, by decide⟩ rfl (Nat.le_of_ble_eq_true rfl) (fun r21 σ21 τ21 h => ?_)
  refine x_if_eq X 29 dX11_shareBits_24 (by decide) (fun hc => ?_) (fun hc => ?_)
  · have h := h.1 hc
    refine x_aload_n X dX11_shareBits_29 rfl 0 rfl ?_
    refine x_callVv X [] [] dX11_shareBits_30 (kX11_lay h) cm_X11_lay ci_X11_lay w_7_101 dsM_0 ⟨by decide, by decide⟩ rfl (Nat.le_of_ble_eq_true rfl) (fun σ30 τ30 h => ?_)
    refine x_aload_n X dX11_shareBits_33 rfl 0 rfl ?_
    refine x_iconst X dX11_shareBits_34 ki_1 ?_
    refine x_callVi X [.int 1] [] dX11_shareBits_35 (kX11_sumOfAll h) cm_X11_sumOfAll ci_X11_sumOfAll w_7_230 dsM_0 ⟨by decide, by decide⟩ rfl (Nat.le_of_ble_eq_true rfl) (fun r35 σ35 τ35 h => ?_)
    refine x_i2f X dX11_shareBits_38 ?_
    refine x_aload_n X dX11_shareBits_39 rfl 0 rfl ?_
    refine x_iconst X dX11_shareBits_40 ki_3 ?_
    refine x_callVi X [.int 3] [.float (FP.i2f r35)] dX11_shareBits_41 (kX11_sumOfAll h) cm_X11_sumOfAll ci_X11_sumOfAll w_7_230 dsM_0 ⟨by decide, by decide⟩ rfl (Nat.le_of_ble_eq_true rfl) (fun r41 σ41 τ41 h => ?_)
    refine x_i2f X dX11_shareBits_44 ?_
    refine x_fdiv X dX11_shareBits_45 h.1 ?_
    have h := h.2
    refine x_callSOi X [.float (FP.fdiv (FP.i2f r35) (FP.i2f r41))] [] dX11_shareBits_46 (kJxf58ca_floatToIntBits_5c35a h) cm_Jxf58ca_floatToIntBits_5c35a w_9_48 w_9_47 ⟨by decide, by decide⟩ rfl (Nat.le_of_ble_eq_true rfl) (fun r46 σ46 τ46 h => ?_)
    exact x_iret X dX11_shareBits_49 ⟨_, rfl, h⟩
  · have h := h.2 hc
    refine x_iconst X dX11_shareBits_27 ki_0 ?_
    exact x_iret X dX11_shareBits_28 ⟨_, rfl, h⟩
set_option maxRecDepth 100000 in
set_option maxHeartbeats 4000000 in
theorem kX11_shareBits {ad : Nat → Nat} {σ : x_S} {τ : x_L} {Q : Int32 → x_S → x_L → Prop} (h : wX11_shareBits σ τ Q) : x_Met yX11_shareBits cX11_shareBits 1 (Option.some FieldType.int) 6 ad dsM [.ref (ad 0)] σ τ (x_PI Q) := by
  refine x_met (by decide +kernel) (Nat.le_of_ble_eq_true rfl) (fun V X => ?_)
  have X : x_Is V cX11_shareBits 1 RX11 (Option.some FieldType.int) ad dsM 6 (x_PI Q) := X
  show V σ τ 0 [(0, .ref (ad 0))] []
  refine x_aload_n X dX11_shareBits_0 rfl 0 rfl ?_
  refine x_iconst X dX11_shareBits_1 ki_0 ?_
  refine x_putI X dX11_shareBits_2 fl_11_82 ft_11_5 dsM_0 rfl ?_
  refine x_aload_n X dX11_shareBits_5 rfl 0 rfl ?_
  refine x_aload_n X dX11_shareBits_6 rfl 0 rfl ?_
  refine x_getR X (j := 3) dX11_shareBits_7 fl_11_17 dsM_0 rfl ?_
  refine x_iconst X dX11_shareBits_10 ki_1 ?_
  refine x_iald X dX11_shareBits_11 dsM_3 (x_inl (by decide)) ?_
  refine x_if_ne X 19 dX11_shareBits_12 (by decide) (fun hc => ?_) (fun hc => ?_)
  · have h := h.1 hc
    refine x_iconst X dX11_shareBits_19 ki_0 ?_
    exact bX11_shareBits_20 X h
  · have h := h.2 hc
    refine x_iconst X dX11_shareBits_15 ki_1 ?_
    refine x_goto X (tgt := 20) dX11_shareBits_16 (by decide) ?_
    exact bX11_shareBits_20 X h
theorem dX11_quickest_0 : decode cX11_quickest 0 = .ok (.aload_n 0, 1) := by decide +kernel
theorem dX11_quickest_1 : decode cX11_quickest 1 = .ok (.iconst 0, 1) := by decide +kernel
theorem dX11_quickest_2 : decode cX11_quickest 2 = .ok (.putfield 82, 3) := by decide +kernel
theorem dX11_quickest_5 : decode cX11_quickest 5 = .ok (.aload_n 0, 1) := by decide +kernel
theorem dX11_quickest_6 : decode cX11_quickest 6 = .ok (.iload_n 1, 1) := by decide +kernel
theorem dX11_quickest_7 : decode cX11_quickest 7 = .ok (.i2l, 1) := by decide +kernel
theorem dX11_quickest_8 : decode cX11_quickest 8 = .ok (.lconst 0, 1) := by decide +kernel
theorem dX11_quickest_9 : decode cX11_quickest 9 = .ok (.ldc2_w 371, 3) := by decide +kernel
theorem dX11_quickest_12 : decode cX11_quickest 12 = .ok (.invokestatic 95, 3) := by decide +kernel
theorem dX11_quickest_15 : decode cX11_quickest 15 = .ok (.ifCond .eq 15, 3) := by decide +kernel
theorem dX11_quickest_18 : decode cX11_quickest 18 = .ok (.iload_n 2, 1) := by decide +kernel
theorem dX11_quickest_19 : decode cX11_quickest 19 = .ok (.i2l, 1) := by decide +kernel
theorem dX11_quickest_20 : decode cX11_quickest 20 = .ok (.lconst 0, 1) := by decide +kernel
theorem dX11_quickest_21 : decode cX11_quickest 21 = .ok (.ldc2_w 371, 3) := by decide +kernel
theorem dX11_quickest_24 : decode cX11_quickest 24 = .ok (.invokestatic 95, 3) := by decide +kernel
theorem dX11_quickest_27 : decode cX11_quickest 27 = .ok (.ifCond .ne 7, 3) := by decide +kernel
theorem dX11_quickest_30 : decode cX11_quickest 30 = .ok (.iconst 1, 1) := by decide +kernel
theorem dX11_quickest_31 : decode cX11_quickest 31 = .ok (.goto 4, 3) := by decide +kernel
theorem dX11_quickest_34 : decode cX11_quickest 34 = .ok (.iconst 0, 1) := by decide +kernel
theorem dX11_quickest_35 : decode cX11_quickest 35 = .ok (.iconst 1, 1) := by decide +kernel
theorem dX11_quickest_36 : decode cX11_quickest 36 = .ok (.invokevirtual 235, 3) := by decide +kernel
theorem dX11_quickest_39 : decode cX11_quickest 39 = .ok (.ifCond .eq 5, 3) := by decide +kernel
theorem dX11_quickest_42 : decode cX11_quickest 42 = .ok (.iconst 0, 1) := by decide +kernel
theorem dX11_quickest_43 : decode cX11_quickest 43 = .ok (.ireturn, 1) := by decide +kernel
theorem dX11_quickest_44 : decode cX11_quickest 44 = .ok (.iconst 0, 1) := by decide +kernel
theorem dX11_quickest_45 : decode cX11_quickest 45 = .ok (.istore_n 3, 1) := by decide +kernel
theorem dX11_quickest_46 : decode cX11_quickest 46 = .ok (.iload_n 3, 1) := by decide +kernel
theorem dX11_quickest_47 : decode cX11_quickest 47 = .ok (.bipush 20, 2) := by decide +kernel
theorem dX11_quickest_49 : decode cX11_quickest 49 = .ok (.if_icmp .ge 27, 3) := by decide +kernel
theorem dX11_quickest_52 : decode cX11_quickest 52 = .ok (.aload_n 0, 1) := by decide +kernel
theorem dX11_quickest_53 : decode cX11_quickest 53 = .ok (.getfield 65, 3) := by decide +kernel
theorem dX11_quickest_56 : decode cX11_quickest 56 = .ok (.iload_n 3, 1) := by decide +kernel
theorem dX11_quickest_57 : decode cX11_quickest 57 = .ok (.iload_n 3, 1) := by decide +kernel
theorem dX11_quickest_58 : decode cX11_quickest 58 = .ok (.iload_n 1, 1) := by decide +kernel
theorem dX11_quickest_59 : decode cX11_quickest 59 = .ok (.if_icmp .ne 7, 3) := by decide +kernel
theorem dX11_quickest_62 : decode cX11_quickest 62 = .ok (.iconst 0, 1) := by decide +kernel
theorem dX11_quickest_63 : decode cX11_quickest 63 = .ok (.goto 6, 3) := by decide +kernel
theorem dX11_quickest_66 : decode cX11_quickest 66 = .ok (.ldc_w 373, 3) := by decide +kernel
theorem dX11_quickest_69 : decode cX11_quickest 69 = .ok (.iastore, 1) := by decide +kernel
theorem dX11_quickest_70 : decode cX11_quickest 70 = .ok (.iinc 3 1, 3) := by decide +kernel
theorem dX11_quickest_73 : decode cX11_quickest 73 = .ok (.goto (-27), 3) := by decide +kernel
theorem dX11_quickest_76 : decode cX11_quickest 76 = .ok (.iconst 1, 1) := by decide +kernel
theorem dX11_quickest_77 : decode cX11_quickest 77 = .ok (.istore_n 3, 1) := by decide +kernel
theorem dX11_quickest_78 : decode cX11_quickest 78 = .ok (.iload_n 3, 1) := by decide +kernel
theorem dX11_quickest_79 : decode cX11_quickest 79 = .ok (.ifCond .eq 92, 3) := by decide +kernel
theorem dX11_quickest_82 : decode cX11_quickest 82 = .ok (.iconst 0, 1) := by decide +kernel
theorem dX11_quickest_83 : decode cX11_quickest 83 = .ok (.istore_n 3, 1) := by decide +kernel
theorem dX11_quickest_84 : decode cX11_quickest 84 = .ok (.iconst 0, 1) := by decide +kernel
theorem dX11_quickest_85 : decode cX11_quickest 85 = .ok (.istore 4, 2) := by decide +kernel
theorem dX11_quickest_87 : decode cX11_quickest 87 = .ok (.iload 4, 2) := by decide +kernel
theorem dX11_quickest_89 : decode cX11_quickest 89 = .ok (.aload_n 0, 1) := by decide +kernel
theorem dX11_quickest_90 : decode cX11_quickest 90 = .ok (.getfield 17, 3) := by decide +kernel
theorem dX11_quickest_93 : decode cX11_quickest 93 = .ok (.iconst 0, 1) := by decide +kernel
theorem dX11_quickest_94 : decode cX11_quickest 94 = .ok (.iaload, 1) := by decide +kernel
theorem dX11_quickest_95 : decode cX11_quickest 95 = .ok (.if_icmp .ge 73, 3) := by decide +kernel
theorem dX11_quickest_98 : decode cX11_quickest 98 = .ok (.aload_n 0, 1) := by decide +kernel
theorem dX11_quickest_99 : decode cX11_quickest 99 = .ok (.getfield 65, 3) := by decide +kernel
theorem dX11_quickest_102 : decode cX11_quickest 102 = .ok (.aload_n 0, 1) := by decide +kernel
theorem dX11_quickest_103 : decode cX11_quickest 103 = .ok (.iload 4, 2) := by decide +kernel
theorem dX11_quickest_105 : decode cX11_quickest 105 = .ok (.iconst 0, 1) := by decide +kernel
theorem dX11_quickest_106 : decode cX11_quickest 106 = .ok (.invokevirtual 117, 3) := by decide +kernel
theorem dX11_quickest_109 : decode cX11_quickest 109 = .ok (.iaload, 1) := by decide +kernel
theorem dX11_quickest_110 : decode cX11_quickest 110 = .ok (.aload_n 0, 1) := by decide +kernel
theorem dX11_quickest_111 : decode cX11_quickest 111 = .ok (.iload 4, 2) := by decide +kernel
theorem dX11_quickest_113 : decode cX11_quickest 113 = .ok (.aload_n 0, 1) := by decide +kernel
theorem dX11_quickest_114 : decode cX11_quickest 114 = .ok (.iload 4, 2) := by decide +kernel
theorem dX11_quickest_116 : decode cX11_quickest 116 = .ok (.iconst 3, 1) := by decide +kernel
theorem dX11_quickest_117 : decode cX11_quickest 117 = .ok (.invokevirtual 117, 3) := by decide +kernel
theorem dX11_quickest_120 : decode cX11_quickest 120 = .ok (.invokevirtual 126, 3) := by decide +kernel
theorem dX11_quickest_123 : decode cX11_quickest 123 = .ok (.iadd, 1) := by decide +kernel
theorem dX11_quickest_124 : decode cX11_quickest 124 = .ok (.istore 5, 2) := by decide +kernel
theorem dX11_quickest_126 : decode cX11_quickest 126 = .ok (.iload 5, 2) := by decide +kernel
theorem dX11_quickest_128 : decode cX11_quickest 128 = .ok (.aload_n 0, 1) := by decide +kernel
theorem dX11_quickest_129 : decode cX11_quickest 129 = .ok (.getfield 65, 3) := by decide +kernel
theorem dX11_quickest_132 : decode cX11_quickest 132 = .ok (.aload_n 0, 1) := by decide +kernel
theorem dX11_quickest_133 : decode cX11_quickest 133 = .ok (.iload 4, 2) := by decide +kernel
theorem dX11_quickest_135 : decode cX11_quickest 135 = .ok (.iconst 1, 1) := by decide +kernel
theorem dX11_quickest_136 : decode cX11_quickest 136 = .ok (.invokevirtual 117, 3) := by decide +kernel
theorem dX11_quickest_139 : decode cX11_quickest 139 = .ok (.iaload, 1) := by decide +kernel
theorem dX11_quickest_140 : decode cX11_quickest 140 = .ok (.if_icmp .lt 6, 3) := by decide +kernel
theorem dX11_quickest_143 : decode cX11_quickest 143 = .ok (.goto 19, 3) := by decide +kernel
theorem dX11_quickest_146 : decode cX11_quickest 146 = .ok (.aload_n 0, 1) := by decide +kernel
theorem dX11_quickest_147 : decode cX11_quickest 147 = .ok (.getfield 65, 3) := by decide +kernel
theorem dX11_quickest_150 : decode cX11_quickest 150 = .ok (.aload_n 0, 1) := by decide +kernel
theorem dX11_quickest_151 : decode cX11_quickest 151 = .ok (.iload 4, 2) := by decide +kernel
theorem dX11_quickest_153 : decode cX11_quickest 153 = .ok (.iconst 1, 1) := by decide +kernel
theorem dX11_quickest_154 : decode cX11_quickest 154 = .ok (.invokevirtual 117, 3) := by decide +kernel
theorem dX11_quickest_157 : decode cX11_quickest 157 = .ok (.iload 5, 2) := by decide +kernel
theorem dX11_quickest_159 : decode cX11_quickest 159 = .ok (.iastore, 1) := by decide +kernel
theorem dX11_quickest_160 : decode cX11_quickest 160 = .ok (.iconst 1, 1) := by decide +kernel
theorem dX11_quickest_161 : decode cX11_quickest 161 = .ok (.istore_n 3, 1) := by decide +kernel
theorem dX11_quickest_162 : decode cX11_quickest 162 = .ok (.iinc 4 1, 3) := by decide +kernel
theorem dX11_quickest_165 : decode cX11_quickest 165 = .ok (.goto (-78), 3) := by decide +kernel
theorem dX11_quickest_168 : decode cX11_quickest 168 = .ok (.goto (-90), 3) := by decide +kernel
theorem dX11_quickest_171 : decode cX11_quickest 171 = .ok (.aload_n 0, 1) := by decide +kernel
theorem dX11_quickest_172 : decode cX11_quickest 172 = .ok (.getfield 65, 3) := by decide +kernel
theorem dX11_quickest_175 : decode cX11_quickest 175 = .ok (.iload_n 2, 1) := by decide +kernel
theorem dX11_quickest_176 : decode cX11_quickest 176 = .ok (.iaload, 1) := by decide +kernel
theorem dX11_quickest_177 : decode cX11_quickest 177 = .ok (.ldc_w 373, 3) := by decide +kernel
theorem dX11_quickest_180 : decode cX11_quickest 180 = .ok (.if_icmp .ge 12, 3) := by decide +kernel
theorem dX11_quickest_183 : decode cX11_quickest 183 = .ok (.aload_n 0, 1) := by decide +kernel
theorem dX11_quickest_184 : decode cX11_quickest 184 = .ok (.getfield 65, 3) := by decide +kernel
theorem dX11_quickest_187 : decode cX11_quickest 187 = .ok (.iload_n 2, 1) := by decide +kernel
theorem dX11_quickest_188 : decode cX11_quickest 188 = .ok (.iaload, 1) := by decide +kernel
theorem dX11_quickest_189 : decode cX11_quickest 189 = .ok (.goto 4, 3) := by decide +kernel
theorem dX11_quickest_192 : decode cX11_quickest 192 = .ok (.iconst (-1), 1) := by decide +kernel
theorem dX11_quickest_193 : decode cX11_quickest 193 = .ok (.ireturn, 1) := by decide +kernel
theorem cm_X11_quickest : x_CM yX11_quickest cX11_quickest 6 (Option.some FieldType.int) 2 := ⟨w_9_60, w_1_12, by decide +kernel, by decide +kernel⟩
theorem ci_X11_quickest : x_CI yX11_quickest 13 := ⟨w_9_58, w_9_59, (RX11, TX11, 41), rfl, rfl⟩
set_option maxRecDepth 100000 in
set_option maxHeartbeats 4000000 in
theorem bX11_quickest_69 {V : x_J} {ad : Nat → Nat} {Q : Int32 → x_S → x_L → Prop} (X : x_Is V cX11_quickest 6 RX11 (Option.some FieldType.int) ad dsM 2 (x_PI Q)) {K46 : Int32 → Int32 → Int32 → x_S → x_L → Prop} (hK46 : ∀ v1 v2 v3 σ τ, K46 v1 v2 v3 σ τ → V σ τ 46 [(0, .ref (ad 0)), (1, .int v1), (2, .int v2), (3, .int v3)] []) {v1 : Int32} {v2 : Int32} {v3 : Int32} {s1 : Int32} {s2 : Int32} {σ : x_S} {τ : x_L} (h : wX11_quickest_69 K46 Q v1 v2 v3 s1 s2 σ τ) : V σ τ 69 [(0, .ref (ad 0)), (1, .int v1), (2, .int v2), (3, .int v3)] [.int s2, .int s1, .ref (ad 19)] := by
  have g69 := h.1
  have h := h.2
  refine x_iast X dX11_quickest_69 dsM_19 g69 ?_
  refine x_iinc X (k := 3) (lv' := [(3, .int (v3 + 1)), (0, .ref (ad 0)), (1, .int v1), (2, .int v2)]) dX11_quickest_70 rfl ki_1 (by decide) rfl ?_
  refine x_goto X (tgt := 46) dX11_quickest_73 (by decide) ?_
  refine x_sub X [1, 2, 3, 0] (lv' := [(0, .ref (ad 0)), (1, .int v1), (2, .int v2), (3, .int (v3 + 1))]) rfl ?_
  exact hK46 _ _ _ _ _ h
set_option maxRecDepth 100000 in
set_option maxHeartbeats 4000000 in
theorem bX11_quickest_162 {V : x_J} {ad : Nat → Nat} {Q : Int32 → x_S → x_L → Prop} (X : x_Is V cX11_quickest 6 RX11 (Option.some FieldType.int) ad dsM 2 (x_PI Q)) {K78 : Int32 → Int32 → x_S → x_L → Prop} {K87 : Int32 → Int32 → Int32 → x_S → x_L → Prop} (hK78 : ∀ v2 v3 σ τ, K78 v2 v3 σ τ → V σ τ 78 [(0, .ref (ad 0)), (2, .int v2), (3, .int v3)] []) (hK87 : ∀ v2 v3 v4 σ τ, K87 v2 v3 v4 σ τ → V σ τ 87 [(0, .ref (ad 0)), (2, .int v2), (3, .int v3), (4, .int v4)] []) {v2 : Int32} {v3 : Int32} {v4 : Int32} {σ : x_S} {τ : x_L} (h : wX11_quickest_162 K78 K87 Q v2 v3 v4 σ τ) : V σ τ 162 [(0, .ref (ad 0)), (2, .int v2), (3, .int v3), (4, .int v4)] [] := by
  refine x_iinc X (k := 3) (lv' := [(4, .int (v4 + 1)), (0, .ref (ad 0)), (2, .int v2), (3, .int v3)]) dX11_quickest_162 rfl ki_1 (by decide) rfl ?_
  refine x_goto X (tgt := 87) dX11_quickest_165 (by decide) ?_
  refine x_sub X [1, 2, 3, 0] (lv' := [(0, .ref (ad 0)), (2, .int v2), (3, .int v3), (4, .int (v4 + 1))]) rfl ?_
  exact hK87 _ _ _ _ _ h
set_option maxRecDepth 100000 in
set_option maxHeartbeats 4000000 in
theorem bX11_quickest_87 {V : x_J} {ad : Nat → Nat} {Q : Int32 → x_S → x_L → Prop} (X : x_Is V cX11_quickest 6 RX11 (Option.some FieldType.int) ad dsM 2 (x_PI Q)) {K78 : Int32 → Int32 → x_S → x_L → Prop} {K87 : Int32 → Int32 → Int32 → x_S → x_L → Prop} (hK78 : ∀ v2 v3 σ τ, K78 v2 v3 σ τ → V σ τ 78 [(0, .ref (ad 0)), (2, .int v2), (3, .int v3)] []) (hK87 : ∀ v2 v3 v4 σ τ, K87 v2 v3 v4 σ τ → V σ τ 87 [(0, .ref (ad 0)), (2, .int v2), (3, .int v3), (4, .int v4)] []) {v2 : Int32} {v3 : Int32} {v4 : Int32} {σ : x_S} {τ : x_L} (h : wX11_quickest_87 K78 Q K87 v2 v3 v4 σ τ) : V σ τ 87 [(0, .ref (ad 0)), (2, .int v2), (3, .int v3), (4, .int v4)] [] := by
  refine x_iload X dX11_quickest_87 3 rfl ?_
  refine x_aload_n X dX11_quickest_89 rfl 0 rfl ?_
  refine x_getR X (j := 3) dX11_quickest_90 fl_11_17 dsM_0 rfl ?_
  refine x_iconst X dX11_quickest_93 ki_0 ?_
  refine x_iald X dX11_quickest_94 dsM_3 (x_inl (by decide)) ?_
  refine x_icmp_ge X 168 dX11_quickest_95 (by decide) (fun hc => ?_) (fun hc => ?_)
  · have h := h.1 hc
    refine x_goto X (tgt := 78) dX11_quickest_168 (by decide) ?_
    refine x_sub X [0, 1, 2] (lv' := [(0, .ref (ad 0)), (2, .int v2), (3, .int v3)]) rfl ?_
    exact hK78 _ _ _ _ h
  · have h := h.2 hc
    refine x_aload_n X dX11_quickest_98 rfl 0 rfl ?_
    refine x_getR X (j := 19) dX11_quickest_99 fl_11_65 dsM_0 rfl ?_
    refine x_aload_n X dX11_quickest_102 rfl 0 rfl ?_
    refine x_iload X dX11_quickest_103 3 rfl ?_
    refine x_iconst X dX11_quickest_105 ki_0 ?_
    refine x_callVi X [.int v4, .int 0] [.ref (ad 19)] dX11_quickest_106 (kX11_ofRoad h) cm_X11_ofRoad ci_X11_ofRoad w_7_136 dsM_0 ⟨by decide, by decide⟩ rfl (Nat.le_of_ble_eq_true rfl) (fun r106 σ106 τ106 h => ?_)
    have g109 := h.1
    have h := h.2
    refine x_iald X dX11_quickest_109 dsM_19 g109 ?_
    refine x_aload_n X dX11_quickest_110 rfl 0 rfl ?_
    refine x_iload X dX11_quickest_111 3 rfl ?_
    refine x_aload_n X dX11_quickest_113 rfl 0 rfl ?_
    refine x_iload X dX11_quickest_114 3 rfl ?_
    refine x_iconst X dX11_quickest_116 ki_3 ?_
    refine x_callVi X [.int v4, .int 3] [.int v4, .ref (ad 0), .int (σ106 19 r106.toNatClampNeg)] dX11_quickest_117 (kX11_ofRoad h) cm_X11_ofRoad ci_X11_ofRoad w_7_136 dsM_0 ⟨by decide, by decide⟩ rfl (Nat.le_of_ble_eq_true rfl) (fun r117 σ117 τ117 h => ?_)
    refine x_callVi X [.int v4, .int r117] [.int (σ106 19 r106.toNatClampNeg)] dX11_quickest_120 (kX11_minutes h) cm_X11_minutes ci_X11_minutes w_7_132 dsM_0 ⟨by decide, by decide⟩ rfl (Nat.le_of_ble_eq_true rfl) (fun r120 σ120 τ120 h => ?_)
    refine x_iadd X dX11_quickest_123 ?_
    refine x_istore X (lv' := [(5, .int ((σ106 19 r106.toNatClampNeg) + r120)), (0, .ref (ad 0)), (2, .int v2), (3, .int v3), (4, .int v4)]) dX11_quickest_124 (by decide) rfl ?_
    refine x_iload X dX11_quickest_126 0 rfl ?_
    refine x_aload_n X dX11_quickest_128 rfl 1 rfl ?_
    refine x_getR X (j := 19) dX11_quickest_129 fl_11_65 dsM_0 rfl ?_
    refine x_aload_n X dX11_quickest_132 rfl 1 rfl ?_
    refine x_iload X dX11_quickest_133 4 rfl ?_
    refine x_iconst X dX11_quickest_135 ki_1 ?_
    refine x_callVi X [.int v4, .int 1] [.ref (ad 19), .int ((σ106 19 r106.toNatClampNeg) + r120)] dX11_quickest_136 (kX11_ofRoad h) cm_X11_ofRoad ci_X11_ofRoad w_7_136 dsM_0 ⟨by decide, by decide⟩ rfl (Nat.le_of_ble_eq_true rfl) (fun r136 σ136 τ136 h => ?_)
    have g139 := h.1
    have h := h.2
    refine x_iald X dX11_quickest_139 dsM_19 g139 ?_
    refine x_icmp_lt X 146 dX11_quickest_140 (by decide) (fun hc => ?_) (fun hc => ?_)
    · have h := h.1 hc
      refine x_aload_n X dX11_quickest_146 rfl 1 rfl ?_
      refine x_getR X (j := 19) dX11_quickest_147 fl_11_65 dsM_0 rfl ?_
      refine x_aload_n X dX11_quickest_150 rfl 1 rfl ?_
      refine x_iload X dX11_quickest_151 4 rfl ?_
      refine x_iconst X dX11_quickest_153 ki_1 ?_
      refine x_callVi X [.int v4, .int 1] [.ref (ad 19)] dX11_quickest_154 (kX11_ofRoad h) cm_X11_ofRoad ci_X11_ofRoad w_7_136 dsM_0 ⟨by decide, by decide⟩ rfl (Nat.le_of_ble_eq_true rfl) (fun r154 σ154 τ154 h => ?_)
      refine x_iload X dX11_quickest_157 0 rfl ?_
      have g159 := h.1
      have h := h.2
      refine x_iast X dX11_quickest_159 dsM_19 g159 ?_
      refine x_iconst X dX11_quickest_160 ki_1 ?_
      refine x_istore_n X (lv' := [(3, .int 1), (5, .int ((σ106 19 r106.toNatClampNeg) + r120)), (0, .ref (ad 0)), (2, .int v2), (4, .int v4)]) dX11_quickest_161 rfl (by decide) rfl ?_
      refine x_sub X [2, 3, 0, 4] (lv' := [(0, .ref (ad 0)), (2, .int v2), (3, .int 1), (4, .int v4)]) rfl ?_
      exact bX11_quickest_162 X hK78 hK87 h
    · have h := h.2 hc
      refine x_goto X (tgt := 162) dX11_quickest_143 (by decide) ?_
      refine x_sub X [1, 2, 3, 4] (lv' := [(0, .ref (ad 0)), (2, .int v2), (3, .int v3), (4, .int v4)]) rfl ?_
      exact bX11_quickest_162 X hK78 hK87 h
set_option maxRecDepth 100000 in
set_option maxHeartbeats 4000000 in
theorem bX11_quickest_193 {V : x_J} {ad : Nat → Nat} {Q : Int32 → x_S → x_L → Prop} (X : x_Is V cX11_quickest 6 RX11 (Option.some FieldType.int) ad dsM 2 (x_PI Q)) {s0 : Int32} {σ : x_S} {τ : x_L} (h : wX11_quickest_193 Q s0 σ τ) : V σ τ 193 [] [.int s0] := by
  exact x_iret X dX11_quickest_193 ⟨_, rfl, h⟩
set_option maxRecDepth 100000 in
set_option maxHeartbeats 4000000 in
theorem bX11_quickest_78 {V : x_J} {ad : Nat → Nat} {Q : Int32 → x_S → x_L → Prop} (X : x_Is V cX11_quickest 6 RX11 (Option.some FieldType.int) ad dsM 2 (x_PI Q)) {K78 : Int32 → Int32 → x_S → x_L → Prop} (hK78 : ∀ v2 v3 σ τ, K78 v2 v3 σ τ → V σ τ 78 [(0, .ref (ad 0)), (2, .int v2), (3, .int v3)] []) {v2 : Int32} {v3 : Int32} {σ : x_S} {τ : x_L} (h : wX11_quickest_78 Q K78 v2 v3 σ τ) : V σ τ 78 [(0, .ref (ad 0)), (2, .int v2), (3, .int v3)] [] := by
  refine x_iload_n X dX11_quickest_78 rfl 2 rfl ?_
  refine x_if_eq X 171 dX11_quickest_79 (by decide) (fun hc => ?_) (fun hc => ?_)
  · have h := h.1 hc
    refine x_aload_n X dX11_quickest_171 rfl 0 rfl ?_
    refine x_getR X (j := 19) dX11_quickest_172 fl_11_65 dsM_0 rfl ?_
    refine x_iload_n X dX11_quickest_175 rfl 1 rfl ?_
    have g176 := h.1
    have h := h.2
    refine x_iald X dX11_quickest_176 dsM_19 g176 ?_
    refine x_ldcw X dX11_quickest_177 w_9_62 ?_
    refine x_icmp_ge X 192 dX11_quickest_180 (by decide) (fun hc => ?_) (fun hc => ?_)
    · have h := h.1 hc
      refine x_iconst X dX11_quickest_192 ki_m1 ?_
      refine x_sub X [] (lv' := []) rfl ?_
      exact bX11_quickest_193 X h
    · have h := h.2 hc
      refine x_aload_n X dX11_quickest_183 rfl 0 rfl ?_
      refine x_getR X (j := 19) dX11_quickest_184 fl_11_65 dsM_0 rfl ?_
      refine x_iload_n X dX11_quickest_187 rfl 1 rfl ?_
      refine x_iald X dX11_quickest_188 dsM_19 g176 ?_
      refine x_goto X (tgt := 193) dX11_quickest_189 (by decide) ?_
      refine x_sub X [] (lv' := []) rfl ?_
      exact bX11_quickest_193 X h
  · have h := h.2 hc
    refine x_iconst X dX11_quickest_82 ki_0 ?_
    refine x_istore_n X (lv' := [(3, .int 0), (0, .ref (ad 0)), (2, .int v2)]) dX11_quickest_83 rfl (by decide) rfl ?_
    refine x_iconst X dX11_quickest_84 ki_0 ?_
    refine x_istore X (lv' := [(4, .int 0), (3, .int 0), (0, .ref (ad 0)), (2, .int v2)]) dX11_quickest_85 (by decide) rfl ?_
    refine x_sub X [2, 3, 1, 0] (lv' := [(0, .ref (ad 0)), (2, .int v2), (3, .int 0), (4, .int 0)]) rfl ?_
    exact x_l3_G (fun v2 v3 v4 σ τ => V σ τ 87 [(0, .ref (ad 0)), (2, .int v2), (3, .int v3), (4, .int v4)] []) (fun K87 hK87 v2 v3 v4 σ τ h => bX11_quickest_87 X hK78 hK87 h) h
set_option maxRecDepth 100000 in
set_option maxHeartbeats 4000000 in
theorem bX11_quickest_46 {V : x_J} {ad : Nat → Nat} {Q : Int32 → x_S → x_L → Prop} (X : x_Is V cX11_quickest 6 RX11 (Option.some FieldType.int) ad dsM 2 (x_PI Q)) {K46 : Int32 → Int32 → Int32 → x_S → x_L → Prop} (hK46 : ∀ v1 v2 v3 σ τ, K46 v1 v2 v3 σ τ → V σ τ 46 [(0, .ref (ad 0)), (1, .int v1), (2, .int v2), (3, .int v3)] []) {v1 : Int32} {v2 : Int32} {v3 : Int32} {σ : x_S} {τ : x_L} (h : wX11_quickest_46 Q K46 v1 v2 v3 σ τ) : V σ τ 46 [(0, .ref (ad 0)), (1, .int v1), (2, .int v2), (3, .int v3)] [] := by
  refine x_iload_n X dX11_quickest_46 rfl 3 rfl ?_
  refine x_bipush X dX11_quickest_47 kb_20 ?_
  refine x_icmp_ge X 76 dX11_quickest_49 (by decide) (fun hc => ?_) (fun hc => ?_)
  · have h := h.1 hc
    refine x_iconst X dX11_quickest_76 ki_1 ?_
    refine x_istore_n X (lv' := [(3, .int 1), (0, .ref (ad 0)), (1, .int v1), (2, .int v2)]) dX11_quickest_77 rfl (by decide) rfl ?_
    refine x_sub X [1, 3, 0] (lv' := [(0, .ref (ad 0)), (2, .int v2), (3, .int 1)]) rfl ?_
    exact x_l2_G (fun v2 v3 σ τ => V σ τ 78 [(0, .ref (ad 0)), (2, .int v2), (3, .int v3)] []) (fun K78 hK78 v2 v3 σ τ h => bX11_quickest_78 X hK78 h) h
  · have h := h.2 hc
    refine x_aload_n X dX11_quickest_52 rfl 0 rfl ?_
    refine x_getR X (j := 19) dX11_quickest_53 fl_11_65 dsM_0 rfl ?_
    refine x_iload_n X dX11_quickest_56 rfl 3 rfl ?_
    refine x_iload_n X dX11_quickest_57 rfl 3 rfl ?_
    refine x_iload_n X dX11_quickest_58 rfl 1 rfl ?_
    refine x_icmp_ne X 66 dX11_quickest_59 (by decide) (fun hc => ?_) (fun hc => ?_)
    · have h := h.1 hc
      refine x_ldcw X dX11_quickest_66 w_9_62 ?_
      exact bX11_quickest_69 X hK46 h
    · have h := h.2 hc
      refine x_iconst X dX11_quickest_62 ki_0 ?_
      refine x_goto X (tgt := 69) dX11_quickest_63 (by decide) ?_
      exact bX11_quickest_69 X hK46 h
set_option maxRecDepth 100000 in
set_option maxHeartbeats 4000000 in
theorem bX11_quickest_35 {V : x_J} {ad : Nat → Nat} {Q : Int32 → x_S → x_L → Prop} (X : x_Is V cX11_quickest 6 RX11 (Option.some FieldType.int) ad dsM 2 (x_PI Q)) {v1 : Int32} {v2 : Int32} {s1 : Int32} {σ : x_S} {τ : x_L} (h : wX11_quickest_35 Q v1 v2 s1 σ τ) : V σ τ 35 [(0, .ref (ad 0)), (1, .int v1), (2, .int v2)] [.int s1, .ref (ad 0)] := by
  refine x_iconst X dX11_quickest_35 ki_1 ?_
  refine x_callVi X [.int s1, .int 1] [] dX11_quickest_36 (kX11_throwsIf h) cm_X11_throwsIf ci_X11_throwsIf w_8_10 dsM_0 ⟨by decide, by decide⟩ rfl (Nat.le_of_ble_eq_true rfl) (fun r36 σ36 τ36 h => ?_)
  refine x_if_eq X 44 dX11_quickest_39 (by decide) (fun hc => ?_) (fun hc => ?_)
  · have h := h.1 hc
    refine x_iconst X dX11_quickest_44 ki_0 ?_
    refine x_istore_n X (lv' := [(3, .int 0), (0, .ref (ad 0)), (1, .int v1), (2, .int v2)]) dX11_quickest_45 rfl (by decide) rfl ?_
    refine x_sub X [1, 2, 3, 0] (lv' := [(0, .ref (ad 0)), (1, .int v1), (2, .int v2), (3, .int 0)]) rfl ?_
    exact x_l3_G (fun v1 v2 v3 σ τ => V σ τ 46 [(0, .ref (ad 0)), (1, .int v1), (2, .int v2), (3, .int v3)] []) (fun K46 hK46 v1 v2 v3 σ τ h => bX11_quickest_46 X hK46 h) h
  · have h := h.2 hc
    refine x_iconst X dX11_quickest_42 ki_0 ?_
    exact x_iret X dX11_quickest_43 ⟨_, rfl, h⟩
set_option maxRecDepth 100000 in
set_option maxHeartbeats 4000000 in
theorem bX11_quickest_30 {V : x_J} {ad : Nat → Nat} {Q : Int32 → x_S → x_L → Prop} (X : x_Is V cX11_quickest 6 RX11 (Option.some FieldType.int) ad dsM 2 (x_PI Q)) {v1 : Int32} {v2 : Int32} {σ : x_S} {τ : x_L} (h : wX11_quickest_30 Q v1 v2 σ τ) : V σ τ 30 [(0, .ref (ad 0)), (1, .int v1), (2, .int v2)] [.ref (ad 0)] := by
  refine x_iconst X dX11_quickest_30 ki_1 ?_
  refine x_goto X (tgt := 35) dX11_quickest_31 (by decide) ?_
  exact bX11_quickest_35 X h
set_option maxRecDepth 100000 in
set_option maxHeartbeats 4000000 in
theorem kX11_quickest {ad : Nat → Nat} {a1 : Int32} {a2 : Int32} {σ : x_S} {τ : x_L} {Q : Int32 → x_S → x_L → Prop} (h : wX11_quickest a1 a2 σ τ Q) : x_Met yX11_quickest cX11_quickest 6 (Option.some FieldType.int) 2 ad dsM [.ref (ad 0), .int a1, .int a2] σ τ (x_PI Q) := by
  refine x_met (by decide +kernel) (Nat.le_of_ble_eq_true rfl) (fun V X => ?_)
  have X : x_Is V cX11_quickest 6 RX11 (Option.some FieldType.int) ad dsM 2 (x_PI Q) := X
  show V σ τ 0 [(0, .ref (ad 0)), (1, .int a1), (2, .int a2)] []
  refine x_aload_n X dX11_quickest_0 rfl 0 rfl ?_
  refine x_iconst X dX11_quickest_1 ki_0 ?_
  refine x_putI X dX11_quickest_2 fl_11_82 ft_11_5 dsM_0 rfl ?_
  refine x_aload_n X dX11_quickest_5 rfl 0 rfl ?_
  refine x_iload_n X dX11_quickest_6 rfl 1 rfl ?_
  refine x_i2l X dX11_quickest_7 ?_
  refine x_lconst X (v := 0) dX11_quickest_8 (by decide) ?_
  refine x_ldc2 X dX11_quickest_9 w_9_61 ?_
  refine x_callSi X [.long ((a1 : Int32).toInt64), .long 0, .long 19] [.ref (ad 0)] dX11_quickest_12 (kX11_inRange h) cm_X11_inRange w_7_91 rfl w_7_90 ⟨by decide, by decide⟩ rfl (Nat.le_of_ble_eq_true rfl) (fun r12 σ12 τ12 h => ?_)
  refine x_if_eq X 30 dX11_quickest_15 (by decide) (fun hc => ?_) (fun hc => ?_)
  · have h := h.1 hc
    exact bX11_quickest_30 X h
  · have h := h.2 hc
    refine x_iload_n X dX11_quickest_18 rfl 2 rfl ?_
    refine x_i2l X dX11_quickest_19 ?_
    refine x_lconst X (v := 0) dX11_quickest_20 (by decide) ?_
    refine x_ldc2 X dX11_quickest_21 w_9_61 ?_
    refine x_callSi X [.long ((a2 : Int32).toInt64), .long 0, .long 19] [.ref (ad 0)] dX11_quickest_24 (kX11_inRange h) cm_X11_inRange w_7_91 rfl w_7_90 ⟨by decide, by decide⟩ rfl (Nat.le_of_ble_eq_true rfl) (fun r24 σ24 τ24 h => ?_)
    refine x_if_ne X 34 dX11_quickest_27 (by decide) (fun hc => ?_) (fun hc => ?_)
    · have h := h.1 hc
      refine x_iconst X dX11_quickest_34 ki_0 ?_
      exact bX11_quickest_35 X h
    · have h := h.2 hc
      exact bX11_quickest_30 X h
