theorem dX3_readRoute_0 : decode cX3_readRoute 0 = .ok (.iconst 0, 1) := by decide +kernel
theorem dX3_readRoute_1 : decode cX3_readRoute 1 = .ok (.istore_n 3, 1) := by decide +kernel
theorem dX3_readRoute_2 : decode cX3_readRoute 2 = .ok (.iload_n 3, 1) := by decide +kernel
theorem dX3_readRoute_3 : decode cX3_readRoute 3 = .ok (.bipush 10, 2) := by decide +kernel
theorem dX3_readRoute_5 : decode cX3_readRoute 5 = .ok (.if_icmp .gt 148, 3) := by decide +kernel
theorem dX3_readRoute_8 : decode cX3_readRoute 8 = .ok (.aload_n 1, 1) := by decide +kernel
theorem dX3_readRoute_9 : decode cX3_readRoute 9 = .ok (.invokevirtual 27, 3) := by decide +kernel
theorem dX3_readRoute_12 : decode cX3_readRoute 12 = .ok (.aload_n 1, 1) := by decide +kernel
theorem dX3_readRoute_13 : decode cX3_readRoute 13 = .ok (.getfield 30, 3) := by decide +kernel
theorem dX3_readRoute_16 : decode cX3_readRoute 16 = .ok (.iconst 3, 1) := by decide +kernel
theorem dX3_readRoute_17 : decode cX3_readRoute 17 = .ok (.if_icmp .ne 19, 3) := by decide +kernel
theorem dX3_readRoute_20 : decode cX3_readRoute 20 = .ok (.iload_n 3, 1) := by decide +kernel
theorem dX3_readRoute_21 : decode cX3_readRoute 21 = .ok (.ifCond .le 15, 3) := by decide +kernel
theorem dX3_readRoute_24 : decode cX3_readRoute 24 = .ok (.aload_n 0, 1) := by decide +kernel
theorem dX3_readRoute_25 : decode cX3_readRoute 25 = .ok (.getfield 12, 3) := by decide +kernel
theorem dX3_readRoute_28 : decode cX3_readRoute 28 = .ok (.getfield 88, 3) := by decide +kernel
theorem dX3_readRoute_31 : decode cX3_readRoute 31 = .ok (.iload_n 2, 1) := by decide +kernel
theorem dX3_readRoute_32 : decode cX3_readRoute 32 = .ok (.iload_n 3, 1) := by decide +kernel
theorem dX3_readRoute_33 : decode cX3_readRoute 33 = .ok (.iastore, 1) := by decide +kernel
theorem dX3_readRoute_34 : decode cX3_readRoute 34 = .ok (.iconst 1, 1) := by decide +kernel
theorem dX3_readRoute_35 : decode cX3_readRoute 35 = .ok (.ireturn, 1) := by decide +kernel
theorem dX3_readRoute_36 : decode cX3_readRoute 36 = .ok (.aload_n 1, 1) := by decide +kernel
theorem dX3_readRoute_37 : decode cX3_readRoute 37 = .ok (.getfield 30, 3) := by decide +kernel
theorem dX3_readRoute_40 : decode cX3_readRoute 40 = .ok (.iconst 2, 1) := by decide +kernel
theorem dX3_readRoute_41 : decode cX3_readRoute 41 = .ok (.if_icmp .eq 9, 3) := by decide +kernel
theorem dX3_readRoute_44 : decode cX3_readRoute 44 = .ok (.aload_n 1, 1) := by decide +kernel
theorem dX3_readRoute_45 : decode cX3_readRoute 45 = .ok (.iconst 1, 1) := by decide +kernel
theorem dX3_readRoute_46 : decode cX3_readRoute 46 = .ok (.invokevirtual 43, 3) := by decide +kernel
theorem dX3_readRoute_49 : decode cX3_readRoute 49 = .ok (.ireturn, 1) := by decide +kernel
theorem dX3_readRoute_50 : decode cX3_readRoute 50 = .ok (.aload_n 1, 1) := by decide +kernel
theorem dX3_readRoute_51 : decode cX3_readRoute 51 = .ok (.getfield 60, 3) := by decide +kernel
theorem dX3_readRoute_54 : decode cX3_readRoute 54 = .ok (.aload_n 0, 1) := by decide +kernel
theorem dX3_readRoute_55 : decode cX3_readRoute 55 = .ok (.getfield 12, 3) := by decide +kernel
theorem dX3_readRoute_58 : decode cX3_readRoute 58 = .ok (.getfield 18, 3) := by decide +kernel
theorem dX3_readRoute_61 : decode cX3_readRoute 61 = .ok (.if_icmp .lt 9, 3) := by decide +kernel
theorem dX3_readRoute_64 : decode cX3_readRoute 64 = .ok (.aload_n 1, 1) := by decide +kernel
theorem dX3_readRoute_65 : decode cX3_readRoute 65 = .ok (.iconst 2, 1) := by decide +kernel
theorem dX3_readRoute_66 : decode cX3_readRoute 66 = .ok (.invokevirtual 43, 3) := by decide +kernel
theorem dX3_readRoute_69 : decode cX3_readRoute 69 = .ok (.ireturn, 1) := by decide +kernel
theorem dX3_readRoute_70 : decode cX3_readRoute 70 = .ok (.iload_n 3, 1) := by decide +kernel
theorem dX3_readRoute_71 : decode cX3_readRoute 71 = .ok (.ifCond .le 47, 3) := by decide +kernel
theorem dX3_readRoute_74 : decode cX3_readRoute 74 = .ok (.aload_n 0, 1) := by decide +kernel
theorem dX3_readRoute_75 : decode cX3_readRoute 75 = .ok (.getfield 12, 3) := by decide +kernel
theorem dX3_readRoute_78 : decode cX3_readRoute 78 = .ok (.getfield 56, 3) := by decide +kernel
theorem dX3_readRoute_81 : decode cX3_readRoute 81 = .ok (.aload_n 1, 1) := by decide +kernel
theorem dX3_readRoute_82 : decode cX3_readRoute 82 = .ok (.getfield 60, 3) := by decide +kernel
theorem dX3_readRoute_85 : decode cX3_readRoute 85 = .ok (.iaload, 1) := by decide +kernel
theorem dX3_readRoute_86 : decode cX3_readRoute 86 = .ok (.aload_n 0, 1) := by decide +kernel
theorem dX3_readRoute_87 : decode cX3_readRoute 87 = .ok (.getfield 12, 3) := by decide +kernel
theorem dX3_readRoute_90 : decode cX3_readRoute 90 = .ok (.getfield 63, 3) := by decide +kernel
theorem dX3_readRoute_93 : decode cX3_readRoute 93 = .ok (.aload_n 0, 1) := by decide +kernel
theorem dX3_readRoute_94 : decode cX3_readRoute 94 = .ok (.getfield 12, 3) := by decide +kernel
theorem dX3_readRoute_97 : decode cX3_readRoute 97 = .ok (.getfield 91, 3) := by decide +kernel
theorem dX3_readRoute_100 : decode cX3_readRoute 100 = .ok (.iload_n 2, 1) := by decide +kernel
theorem dX3_readRoute_101 : decode cX3_readRoute 101 = .ok (.iload_n 3, 1) := by decide +kernel
theorem dX3_readRoute_102 : decode cX3_readRoute 102 = .ok (.iconst 1, 1) := by decide +kernel
theorem dX3_readRoute_103 : decode cX3_readRoute 103 = .ok (.isub, 1) := by decide +kernel
theorem dX3_readRoute_104 : decode cX3_readRoute 104 = .ok (.invokestatic 94, 3) := by decide +kernel
theorem dX3_readRoute_107 : decode cX3_readRoute 107 = .ok (.iaload, 1) := by decide +kernel
theorem dX3_readRoute_108 : decode cX3_readRoute 108 = .ok (.iaload, 1) := by decide +kernel
theorem dX3_readRoute_109 : decode cX3_readRoute 109 = .ok (.if_icmp .eq 9, 3) := by decide +kernel
theorem dX3_readRoute_112 : decode cX3_readRoute 112 = .ok (.aload_n 1, 1) := by decide +kernel
theorem dX3_readRoute_113 : decode cX3_readRoute 113 = .ok (.iconst 3, 1) := by decide +kernel
theorem dX3_readRoute_114 : decode cX3_readRoute 114 = .ok (.invokevirtual 43, 3) := by decide +kernel
theorem dX3_readRoute_117 : decode cX3_readRoute 117 = .ok (.ireturn, 1) := by decide +kernel
theorem dX3_readRoute_118 : decode cX3_readRoute 118 = .ok (.iload_n 3, 1) := by decide +kernel
theorem dX3_readRoute_119 : decode cX3_readRoute 119 = .ok (.bipush 10, 2) := by decide +kernel
theorem dX3_readRoute_121 : decode cX3_readRoute 121 = .ok (.if_icmp .ne 9, 3) := by decide +kernel
theorem dX3_readRoute_124 : decode cX3_readRoute 124 = .ok (.aload_n 1, 1) := by decide +kernel
theorem dX3_readRoute_125 : decode cX3_readRoute 125 = .ok (.iconst 4, 1) := by decide +kernel
theorem dX3_readRoute_126 : decode cX3_readRoute 126 = .ok (.invokevirtual 43, 3) := by decide +kernel
theorem dX3_readRoute_129 : decode cX3_readRoute 129 = .ok (.ireturn, 1) := by decide +kernel
theorem dX3_readRoute_130 : decode cX3_readRoute 130 = .ok (.aload_n 0, 1) := by decide +kernel
theorem dX3_readRoute_131 : decode cX3_readRoute 131 = .ok (.getfield 12, 3) := by decide +kernel
theorem dX3_readRoute_134 : decode cX3_readRoute 134 = .ok (.getfield 91, 3) := by decide +kernel
theorem dX3_readRoute_137 : decode cX3_readRoute 137 = .ok (.iload_n 2, 1) := by decide +kernel
theorem dX3_readRoute_138 : decode cX3_readRoute 138 = .ok (.iload_n 3, 1) := by decide +kernel
theorem dX3_readRoute_139 : decode cX3_readRoute 139 = .ok (.invokestatic 94, 3) := by decide +kernel
theorem dX3_readRoute_142 : decode cX3_readRoute 142 = .ok (.aload_n 1, 1) := by decide +kernel
theorem dX3_readRoute_143 : decode cX3_readRoute 143 = .ok (.getfield 60, 3) := by decide +kernel
theorem dX3_readRoute_146 : decode cX3_readRoute 146 = .ok (.iastore, 1) := by decide +kernel
theorem dX3_readRoute_147 : decode cX3_readRoute 147 = .ok (.iinc 3 1, 3) := by decide +kernel
theorem dX3_readRoute_150 : decode cX3_readRoute 150 = .ok (.goto (-148), 3) := by decide +kernel
theorem dX3_readRoute_153 : decode cX3_readRoute 153 = .ok (.iconst 0, 1) := by decide +kernel
theorem dX3_readRoute_154 : decode cX3_readRoute 154 = .ok (.ireturn, 1) := by decide +kernel
theorem cm_X3_readRoute : x_CM yX3_readRoute cX3_readRoute 4 (Option.some FieldType.boolean) 2 := ⟨w_3_58, w_1_4, by decide +kernel, by decide +kernel⟩
theorem ci_X3_readRoute : x_CI yX3_readRoute 5 := ⟨w_3_57, wp_4, (RX3, TX3, 1), rfl, rfl⟩
set_option maxRecDepth 100000 in
set_option maxHeartbeats 4000000 in
theorem bX3_readRoute_118 {V : x_J} {ad : Nat → Nat} {Q : Int32 → x_S → x_L → Prop} (X : x_Is V cX3_readRoute 4 RX3 (Option.some FieldType.boolean) ad dsX 3 (x_PI Q)) {K2 : Int32 → Int32 → x_S → x_L → Prop} (hK2 : ∀ v2 v3 σ τ, K2 v2 v3 σ τ → V σ τ 2 [(0, .ref (ad 13)), (1, .ref (ad 1)), (2, .int v2), (3, .int v3)] []) {v2 : Int32} {v3 : Int32} {σ : x_S} {τ : x_L} (h : wX3_readRoute_118 K2 Q v2 v3 σ τ) : V σ τ 118 [(0, .ref (ad 13)), (1, .ref (ad 1)), (2, .int v2), (3, .int v3)] [] := by
  refine x_iload_n X dX3_readRoute_118 rfl 3 rfl ?_
  refine x_bipush X dX3_readRoute_119 kb_10 ?_
  refine x_icmp_ne X 130 dX3_readRoute_121 (by decide) (fun hc => ?_) (fun hc => ?_)
  · have h := h.1 hc
    refine x_aload_n X dX3_readRoute_130 rfl 0 rfl ?_
    refine x_getR X (j := 14) dX3_readRoute_131 fl_3_12 dsX_13 rfl ?_
    refine x_getR X (j := 23) dX3_readRoute_134 fl_3_91 dsX_14 rfl ?_
    refine x_iload_n X dX3_readRoute_137 rfl 2 rfl ?_
    refine x_iload_n X dX3_readRoute_138 rfl 3 rfl ?_
    refine x_callSNi X [.int v2, .int v3] [.ref (ad 23)] dX3_readRoute_139 (kX10_stopAt h) cm_X10_stopAt w_3_60 (List.mem_of_getElem? (i := 0) rfl) ⟨by decide, by decide⟩ rfl (Nat.le_of_ble_eq_true rfl) (fun r139 σ139 τ139 h => ?_)
    refine x_aload_n X dX3_readRoute_142 rfl 1 rfl ?_
    refine x_getI X dX3_readRoute_143 fl_3_60 dsX_1 rfl ?_
    have g146 := h.1
    have h := h.2
    refine x_iast X dX3_readRoute_146 dsX_23 g146 ?_
    refine x_iinc X (k := 3) (lv' := [(3, .int (v3 + 1)), (0, .ref (ad 13)), (1, .ref (ad 1)), (2, .int v2)]) dX3_readRoute_147 rfl ki_1 (by decide) rfl ?_
    refine x_goto X (tgt := 2) dX3_readRoute_150 (by decide) ?_
    refine x_sub X [1, 2, 3, 0] (lv' := [(0, .ref (ad 13)), (1, .ref (ad 1)), (2, .int v2), (3, .int (v3 + 1))]) rfl ?_
    exact hK2 _ _ _ _ h
  · have h := h.2 hc
    refine x_aload_n X dX3_readRoute_124 rfl 1 rfl ?_
    refine x_iconst X dX3_readRoute_125 ki_4 ?_
    refine x_callVi X [.int 4] [] dX3_readRoute_126 (kX9_fail h) cm_X9_fail ci_X9_fail w_3_45 dsX_1 ⟨by decide, by decide⟩ rfl (Nat.le_of_ble_eq_true rfl) (fun r126 σ126 τ126 h => ?_)
    exact x_zret X dX3_readRoute_129 ⟨h.1, _, rfl, h.2⟩
set_option maxRecDepth 100000 in
set_option maxHeartbeats 4000000 in
theorem bX3_readRoute_36 {V : x_J} {ad : Nat → Nat} {Q : Int32 → x_S → x_L → Prop} (X : x_Is V cX3_readRoute 4 RX3 (Option.some FieldType.boolean) ad dsX 3 (x_PI Q)) {K2 : Int32 → Int32 → x_S → x_L → Prop} (hK2 : ∀ v2 v3 σ τ, K2 v2 v3 σ τ → V σ τ 2 [(0, .ref (ad 13)), (1, .ref (ad 1)), (2, .int v2), (3, .int v3)] []) {v2 : Int32} {v3 : Int32} {σ : x_S} {τ : x_L} (h : wX3_readRoute_36 K2 Q v2 v3 σ τ) : V σ τ 36 [(0, .ref (ad 13)), (1, .ref (ad 1)), (2, .int v2), (3, .int v3)] [] := by
  refine x_aload_n X dX3_readRoute_36 rfl 1 rfl ?_
  refine x_getI X dX3_readRoute_37 fl_3_30 dsX_1 rfl ?_
  refine x_iconst X dX3_readRoute_40 ki_2 ?_
  refine x_icmp_eq X 50 dX3_readRoute_41 (by decide) (fun hc => ?_) (fun hc => ?_)
  · have h := h.1 hc
    refine x_aload_n X dX3_readRoute_50 rfl 1 rfl ?_
    refine x_getI X dX3_readRoute_51 fl_3_60 dsX_1 rfl ?_
    refine x_aload_n X dX3_readRoute_54 rfl 0 rfl ?_
    refine x_getR X (j := 14) dX3_readRoute_55 fl_3_12 dsX_13 rfl ?_
    refine x_getI X dX3_readRoute_58 fl_3_18 dsX_14 rfl ?_
    refine x_icmp_lt X 70 dX3_readRoute_61 (by decide) (fun hc => ?_) (fun hc => ?_)
    · have h := h.1 hc
      refine x_iload_n X dX3_readRoute_70 rfl 3 rfl ?_
      refine x_if_le X 118 dX3_readRoute_71 (by decide) (fun hc => ?_) (fun hc => ?_)
      · have h := h.1 hc
        exact bX3_readRoute_118 X hK2 h
      · have h := h.2 hc
        refine x_aload_n X dX3_readRoute_74 rfl 0 rfl ?_
        refine x_getR X (j := 14) dX3_readRoute_75 fl_3_12 dsX_13 rfl ?_
        refine x_getR X (j := 15) dX3_readRoute_78 fl_3_56 dsX_14 rfl ?_
        refine x_aload_n X dX3_readRoute_81 rfl 1 rfl ?_
        refine x_getI X dX3_readRoute_82 fl_3_60 dsX_1 rfl ?_
        have g85 := h.1
        have h := h.2
        refine x_iald X dX3_readRoute_85 dsX_15 g85 ?_
        refine x_aload_n X dX3_readRoute_86 rfl 0 rfl ?_
        refine x_getR X (j := 14) dX3_readRoute_87 fl_3_12 dsX_13 rfl ?_
        refine x_getR X (j := 16) dX3_readRoute_90 fl_3_63 dsX_14 rfl ?_
        refine x_aload_n X dX3_readRoute_93 rfl 0 rfl ?_
        refine x_getR X (j := 14) dX3_readRoute_94 fl_3_12 dsX_13 rfl ?_
        refine x_getR X (j := 23) dX3_readRoute_97 fl_3_91 dsX_14 rfl ?_
        refine x_iload_n X dX3_readRoute_100 rfl 2 rfl ?_
        refine x_iload_n X dX3_readRoute_101 rfl 3 rfl ?_
        refine x_iconst X dX3_readRoute_102 ki_1 ?_
        refine x_isub X dX3_readRoute_103 ?_
        refine x_callSNi X [.int v2, .int (v3 - 1)] [.ref (ad 23), .ref (ad 16), .int (σ 15 (σ 1 7).toNatClampNeg)] dX3_readRoute_104 (kX10_stopAt h) cm_X10_stopAt w_3_60 (List.mem_of_getElem? (i := 0) rfl) ⟨by decide, by decide⟩ rfl (Nat.le_of_ble_eq_true rfl) (fun r104 σ104 τ104 h => ?_)
        have g107 := h.1
        have h := h.2
        refine x_iald X dX3_readRoute_107 dsX_23 g107 ?_
        have g108 := h.1
        have h := h.2
        refine x_iald X dX3_readRoute_108 dsX_16 g108 ?_
        refine x_icmp_eq X 118 dX3_readRoute_109 (by decide) (fun hc => ?_) (fun hc => ?_)
        · have h := h.1 hc
          exact bX3_readRoute_118 X hK2 h
        · have h := h.2 hc
          refine x_aload_n X dX3_readRoute_112 rfl 1 rfl ?_
          refine x_iconst X dX3_readRoute_113 ki_3 ?_
          refine x_callVi X [.int 3] [] dX3_readRoute_114 (kX9_fail h) cm_X9_fail ci_X9_fail w_3_45 dsX_1 ⟨by decide, by decide⟩ rfl (Nat.le_of_ble_eq_true rfl) (fun r114 σ114 τ114 h => ?_)
          exact x_zret X dX3_readRoute_117 ⟨h.1, _, rfl, h.2⟩
    · have h := h.2 hc
      refine x_aload_n X dX3_readRoute_64 rfl 1 rfl ?_
      refine x_iconst X dX3_readRoute_65 ki_2 ?_
      refine x_callVi X [.int 2] [] dX3_readRoute_66 (kX9_fail h) cm_X9_fail ci_X9_fail w_3_45 dsX_1 ⟨by decide, by decide⟩ rfl (Nat.le_of_ble_eq_true rfl) (fun r66 σ66 τ66 h => ?_)
      exact x_zret X dX3_readRoute_69 ⟨h.1, _, rfl, h.2⟩
  · have h := h.2 hc
    refine x_aload_n X dX3_readRoute_44 rfl 1 rfl ?_
    refine x_iconst X dX3_readRoute_45 ki_1 ?_
    refine x_callVi X [.int 1] [] dX3_readRoute_46 (kX9_fail h) cm_X9_fail ci_X9_fail w_3_45 dsX_1 ⟨by decide, by decide⟩ rfl (Nat.le_of_ble_eq_true rfl) (fun r46 σ46 τ46 h => ?_)
    exact x_zret X dX3_readRoute_49 ⟨h.1, _, rfl, h.2⟩
set_option maxRecDepth 100000 in
set_option maxHeartbeats 4000000 in
theorem bX3_readRoute_2 {V : x_J} {ad : Nat → Nat} {Q : Int32 → x_S → x_L → Prop} (X : x_Is V cX3_readRoute 4 RX3 (Option.some FieldType.boolean) ad dsX 3 (x_PI Q)) {K2 : Int32 → Int32 → x_S → x_L → Prop} (hK2 : ∀ v2 v3 σ τ, K2 v2 v3 σ τ → V σ τ 2 [(0, .ref (ad 13)), (1, .ref (ad 1)), (2, .int v2), (3, .int v3)] []) {v2 : Int32} {v3 : Int32} {σ : x_S} {τ : x_L} (h : wX3_readRoute_2 Q K2 v2 v3 σ τ) : V σ τ 2 [(0, .ref (ad 13)), (1, .ref (ad 1)), (2, .int v2), (3, .int v3)] [] := by
  refine x_iload_n X dX3_readRoute_2 rfl 3 rfl ?_
  refine x_bipush X dX3_readRoute_3 kb_10 ?_
  refine x_icmp_gt X 153 dX3_readRoute_5 (by decide) (fun hc => ?_) (fun hc => ?_)
  · have h := h.1 hc
    refine x_iconst X dX3_readRoute_153 ki_0 ?_
    exact x_zret X dX3_readRoute_154 ⟨Or.inl rfl, _, rfl, h⟩
  · have h := h.2 hc
    refine x_aload_n X dX3_readRoute_8 rfl 1 rfl ?_
    refine x_callVv X [] [] dX3_readRoute_9 (kX9_next h) cm_X9_next ci_X9_next w_2_201 dsX_1 ⟨by decide, by decide⟩ rfl (Nat.le_of_ble_eq_true rfl) (fun σ9 τ9 h => ?_)
    refine x_aload_n X dX3_readRoute_12 rfl 1 rfl ?_
    refine x_getI X dX3_readRoute_13 fl_3_30 dsX_1 rfl ?_
    refine x_iconst X dX3_readRoute_16 ki_3 ?_
    refine x_icmp_ne X 36 dX3_readRoute_17 (by decide) (fun hc => ?_) (fun hc => ?_)
    · have h := h.1 hc
      exact bX3_readRoute_36 X hK2 h
    · have h := h.2 hc
      refine x_iload_n X dX3_readRoute_20 rfl 3 rfl ?_
      refine x_if_le X 36 dX3_readRoute_21 (by decide) (fun hc => ?_) (fun hc => ?_)
      · have h := h.1 hc
        exact bX3_readRoute_36 X hK2 h
      · have h := h.2 hc
        refine x_aload_n X dX3_readRoute_24 rfl 0 rfl ?_
        refine x_getR X (j := 14) dX3_readRoute_25 fl_3_12 dsX_13 rfl ?_
        refine x_getR X (j := 22) dX3_readRoute_28 fl_3_88 dsX_14 rfl ?_
        refine x_iload_n X dX3_readRoute_31 rfl 2 rfl ?_
        refine x_iload_n X dX3_readRoute_32 rfl 3 rfl ?_
        have g33 := h.1
        have h := h.2
        refine x_iast X dX3_readRoute_33 dsX_22 g33 ?_
        refine x_iconst X dX3_readRoute_34 ki_1 ?_
        exact x_zret X dX3_readRoute_35 ⟨Or.inr rfl, _, rfl, h⟩
set_option maxRecDepth 100000 in
set_option maxHeartbeats 4000000 in
theorem kX3_readRoute {ad : Nat → Nat} {a2 : Int32} {σ : x_S} {τ : x_L} {Q : Int32 → x_S → x_L → Prop} (h : wX3_readRoute a2 σ τ Q) : x_Met yX3_readRoute cX3_readRoute 4 (Option.some FieldType.boolean) 3 ad dsX [.ref (ad 13), .ref (ad 1), .int a2] σ τ (x_PI Q) := by
  refine x_met (by decide +kernel) (Nat.le_of_ble_eq_true rfl) (fun V X => ?_)
  have X : x_Is V cX3_readRoute 4 RX3 (Option.some FieldType.boolean) ad dsX 3 (x_PI Q) := X
  show V σ τ 0 [(0, .ref (ad 13)), (1, .ref (ad 1)), (2, .int a2)] []
  refine x_iconst X dX3_readRoute_0 ki_0 ?_
  refine x_istore_n X (lv' := [(3, .int 0), (0, .ref (ad 13)), (1, .ref (ad 1)), (2, .int a2)]) dX3_readRoute_1 rfl (by decide) rfl ?_
  refine x_sub X [1, 2, 3, 0] (lv' := [(0, .ref (ad 13)), (1, .ref (ad 1)), (2, .int a2), (3, .int 0)]) rfl ?_
  exact x_l2_G (fun v2 v3 σ τ => V σ τ 2 [(0, .ref (ad 13)), (1, .ref (ad 1)), (2, .int v2), (3, .int v3)] []) (fun K2 hK2 v2 v3 σ τ h => bX3_readRoute_2 X hK2 h) h
theorem dX3_readTruck_0 : decode cX3_readTruck 0 = .ok (.aload_n 1, 1) := by decide +kernel
theorem dX3_readTruck_1 : decode cX3_readTruck 1 = .ok (.iconst 0, 1) := by decide +kernel
theorem dX3_readTruck_2 : decode cX3_readTruck 2 = .ok (.sipush 2000, 3) := by decide +kernel
theorem dX3_readTruck_5 : decode cX3_readTruck 5 = .ok (.invokevirtual 52, 3) := by decide +kernel
theorem dX3_readTruck_8 : decode cX3_readTruck 8 = .ok (.ifCond .ne 5, 3) := by decide +kernel
theorem dX3_readTruck_11 : decode cX3_readTruck 11 = .ok (.iconst 0, 1) := by decide +kernel
theorem dX3_readTruck_12 : decode cX3_readTruck 12 = .ok (.ireturn, 1) := by decide +kernel
theorem dX3_readTruck_13 : decode cX3_readTruck 13 = .ok (.aload_n 0, 1) := by decide +kernel
theorem dX3_readTruck_14 : decode cX3_readTruck 14 = .ok (.getfield 12, 3) := by decide +kernel
theorem dX3_readTruck_17 : decode cX3_readTruck 17 = .ok (.getfield 76, 3) := by decide +kernel
theorem dX3_readTruck_20 : decode cX3_readTruck 20 = .ok (.iload_n 2, 1) := by decide +kernel
theorem dX3_readTruck_21 : decode cX3_readTruck 21 = .ok (.aload_n 1, 1) := by decide +kernel
theorem dX3_readTruck_22 : decode cX3_readTruck 22 = .ok (.getfield 60, 3) := by decide +kernel
theorem dX3_readTruck_25 : decode cX3_readTruck 25 = .ok (.iastore, 1) := by decide +kernel
theorem dX3_readTruck_26 : decode cX3_readTruck 26 = .ok (.aload_n 1, 1) := by decide +kernel
theorem dX3_readTruck_27 : decode cX3_readTruck 27 = .ok (.iconst 0, 1) := by decide +kernel
theorem dX3_readTruck_28 : decode cX3_readTruck 28 = .ok (.sipush 10000, 3) := by decide +kernel
theorem dX3_readTruck_31 : decode cX3_readTruck 31 = .ok (.invokevirtual 52, 3) := by decide +kernel
theorem dX3_readTruck_34 : decode cX3_readTruck 34 = .ok (.ifCond .ne 5, 3) := by decide +kernel
theorem dX3_readTruck_37 : decode cX3_readTruck 37 = .ok (.iconst 0, 1) := by decide +kernel
theorem dX3_readTruck_38 : decode cX3_readTruck 38 = .ok (.ireturn, 1) := by decide +kernel
theorem dX3_readTruck_39 : decode cX3_readTruck 39 = .ok (.aload_n 0, 1) := by decide +kernel
theorem dX3_readTruck_40 : decode cX3_readTruck 40 = .ok (.getfield 12, 3) := by decide +kernel
theorem dX3_readTruck_43 : decode cX3_readTruck 43 = .ok (.getfield 79, 3) := by decide +kernel
theorem dX3_readTruck_46 : decode cX3_readTruck 46 = .ok (.iload_n 2, 1) := by decide +kernel
theorem dX3_readTruck_47 : decode cX3_readTruck 47 = .ok (.aload_n 1, 1) := by decide +kernel
theorem dX3_readTruck_48 : decode cX3_readTruck 48 = .ok (.getfield 60, 3) := by decide +kernel
theorem dX3_readTruck_51 : decode cX3_readTruck 51 = .ok (.iastore, 1) := by decide +kernel
theorem dX3_readTruck_52 : decode cX3_readTruck 52 = .ok (.aload_n 1, 1) := by decide +kernel
theorem dX3_readTruck_53 : decode cX3_readTruck 53 = .ok (.iconst 5, 1) := by decide +kernel
theorem dX3_readTruck_54 : decode cX3_readTruck 54 = .ok (.bipush 60, 2) := by decide +kernel
theorem dX3_readTruck_56 : decode cX3_readTruck 56 = .ok (.invokevirtual 52, 3) := by decide +kernel
theorem dX3_readTruck_59 : decode cX3_readTruck 59 = .ok (.ifCond .ne 5, 3) := by decide +kernel
theorem dX3_readTruck_62 : decode cX3_readTruck 62 = .ok (.iconst 0, 1) := by decide +kernel
theorem dX3_readTruck_63 : decode cX3_readTruck 63 = .ok (.ireturn, 1) := by decide +kernel
theorem dX3_readTruck_64 : decode cX3_readTruck 64 = .ok (.aload_n 0, 1) := by decide +kernel
theorem dX3_readTruck_65 : decode cX3_readTruck 65 = .ok (.getfield 12, 3) := by decide +kernel
theorem dX3_readTruck_68 : decode cX3_readTruck 68 = .ok (.getfield 82, 3) := by decide +kernel
theorem dX3_readTruck_71 : decode cX3_readTruck 71 = .ok (.iload_n 2, 1) := by decide +kernel
theorem dX3_readTruck_72 : decode cX3_readTruck 72 = .ok (.aload_n 1, 1) := by decide +kernel
theorem dX3_readTruck_73 : decode cX3_readTruck 73 = .ok (.getfield 60, 3) := by decide +kernel
theorem dX3_readTruck_76 : decode cX3_readTruck 76 = .ok (.iastore, 1) := by decide +kernel
theorem dX3_readTruck_77 : decode cX3_readTruck 77 = .ok (.aload_n 0, 1) := by decide +kernel
theorem dX3_readTruck_78 : decode cX3_readTruck 78 = .ok (.getfield 12, 3) := by decide +kernel
theorem dX3_readTruck_81 : decode cX3_readTruck 81 = .ok (.iload_n 2, 1) := by decide +kernel
theorem dX3_readTruck_82 : decode cX3_readTruck 82 = .ok (.iconst 1, 1) := by decide +kernel
theorem dX3_readTruck_83 : decode cX3_readTruck 83 = .ok (.iadd, 1) := by decide +kernel
theorem dX3_readTruck_84 : decode cX3_readTruck 84 = .ok (.putfield 22, 3) := by decide +kernel
theorem dX3_readTruck_87 : decode cX3_readTruck 87 = .ok (.aload_n 0, 1) := by decide +kernel
theorem dX3_readTruck_88 : decode cX3_readTruck 88 = .ok (.aload_n 1, 1) := by decide +kernel
theorem dX3_readTruck_89 : decode cX3_readTruck 89 = .ok (.iload_n 2, 1) := by decide +kernel
theorem dX3_readTruck_90 : decode cX3_readTruck 90 = .ok (.invokevirtual 85, 3) := by decide +kernel
theorem dX3_readTruck_93 : decode cX3_readTruck 93 = .ok (.ireturn, 1) := by decide +kernel
theorem cm_X3_readTruck : x_CM yX3_readTruck cX3_readTruck 3 (Option.some FieldType.boolean) 2 := ⟨w_3_54, w_1_4, by decide +kernel, by decide +kernel⟩
theorem ci_X3_readTruck : x_CI yX3_readTruck 5 := ⟨w_3_53, wp_3, (RX3, TX3, 1), rfl, rfl⟩
set_option maxRecDepth 100000 in
set_option maxHeartbeats 4000000 in
theorem kX3_readTruck {ad : Nat → Nat} {a2 : Int32} {σ : x_S} {τ : x_L} {Q : Int32 → x_S → x_L → Prop} (h : wX3_readTruck a2 σ τ Q) : x_Met yX3_readTruck cX3_readTruck 3 (Option.some FieldType.boolean) 4 ad dsX [.ref (ad 13), .ref (ad 1), .int a2] σ τ (x_PI Q) := by
  refine x_met (by decide +kernel) (Nat.le_of_ble_eq_true rfl) (fun V X => ?_)
  have X : x_Is V cX3_readTruck 3 RX3 (Option.some FieldType.boolean) ad dsX 4 (x_PI Q) := X
  show V σ τ 0 [(0, .ref (ad 13)), (1, .ref (ad 1)), (2, .int a2)] []
  refine x_aload_n X dX3_readTruck_0 rfl 1 rfl ?_
  refine x_iconst X dX3_readTruck_1 ki_0 ?_
  refine x_sipush X dX3_readTruck_2 ks_2000 ?_
  refine x_callVi X [.int 0, .int 2000] [] dX3_readTruck_5 (kX9_readNumber h) cm_X9_readNumber ci_X9_readNumber w_3_36 dsX_1 ⟨by decide, by decide⟩ rfl (Nat.le_of_ble_eq_true rfl) (fun r5 σ5 τ5 h => ?_)
  refine x_if_ne X 13 dX3_readTruck_8 (by decide) (fun hc => ?_) (fun hc => ?_)
  · have h := h.1 hc
    refine x_aload_n X dX3_readTruck_13 rfl 0 rfl ?_
    refine x_getR X (j := 14) dX3_readTruck_14 fl_3_12 dsX_13 rfl ?_
    refine x_getR X (j := 19) dX3_readTruck_17 fl_3_76 dsX_14 rfl ?_
    refine x_iload_n X dX3_readTruck_20 rfl 2 rfl ?_
    refine x_aload_n X dX3_readTruck_21 rfl 1 rfl ?_
    refine x_getI X dX3_readTruck_22 fl_3_60 dsX_1 rfl ?_
    have g25 := h.1
    have h := h.2
    refine x_iast X dX3_readTruck_25 dsX_19 g25 ?_
    refine x_aload_n X dX3_readTruck_26 rfl 1 rfl ?_
    refine x_iconst X dX3_readTruck_27 ki_0 ?_
    refine x_sipush X dX3_readTruck_28 ks_10000 ?_
    refine x_callVi X [.int 0, .int 10000] [] dX3_readTruck_31 (kX9_readNumber h) cm_X9_readNumber ci_X9_readNumber w_3_36 dsX_1 ⟨by decide, by decide⟩ rfl (Nat.le_of_ble_eq_true rfl) (fun r31 σ31 τ31 h => ?_)
    refine x_if_ne X 39 dX3_readTruck_34 (by decide) (fun hc => ?_) (fun hc => ?_)
    · have h := h.1 hc
      refine x_aload_n X dX3_readTruck_39 rfl 0 rfl ?_
      refine x_getR X (j := 14) dX3_readTruck_40 fl_3_12 dsX_13 rfl ?_
      refine x_getR X (j := 20) dX3_readTruck_43 fl_3_79 dsX_14 rfl ?_
      refine x_iload_n X dX3_readTruck_46 rfl 2 rfl ?_
      refine x_aload_n X dX3_readTruck_47 rfl 1 rfl ?_
      refine x_getI X dX3_readTruck_48 fl_3_60 dsX_1 rfl ?_
      refine x_iast X dX3_readTruck_51 dsX_20 g25 ?_
      refine x_aload_n X dX3_readTruck_52 rfl 1 rfl ?_
      refine x_iconst X dX3_readTruck_53 ki_5 ?_
      refine x_bipush X dX3_readTruck_54 kb_60 ?_
      refine x_callVi X [.int 5, .int 60] [] dX3_readTruck_56 (kX9_readNumber h) cm_X9_readNumber ci_X9_readNumber w_3_36 dsX_1 ⟨by decide, by decide⟩ rfl (Nat.le_of_ble_eq_true rfl) (fun r56 σ56 τ56 h => ?_)
      refine x_if_ne X 64 dX3_readTruck_59 (by decide) (fun hc => ?_) (fun hc => ?_)
      · have h := h.1 hc
        refine x_aload_n X dX3_readTruck_64 rfl 0 rfl ?_
        refine x_getR X (j := 14) dX3_readTruck_65 fl_3_12 dsX_13 rfl ?_
        refine x_getR X (j := 21) dX3_readTruck_68 fl_3_82 dsX_14 rfl ?_
        refine x_iload_n X dX3_readTruck_71 rfl 2 rfl ?_
        refine x_aload_n X dX3_readTruck_72 rfl 1 rfl ?_
        refine x_getI X dX3_readTruck_73 fl_3_60 dsX_1 rfl ?_
        refine x_iast X dX3_readTruck_76 dsX_21 g25 ?_
        refine x_aload_n X dX3_readTruck_77 rfl 0 rfl ?_
        refine x_getR X (j := 14) dX3_readTruck_78 fl_3_12 dsX_13 rfl ?_
        refine x_iload_n X dX3_readTruck_81 rfl 2 rfl ?_
        refine x_iconst X dX3_readTruck_82 ki_1 ?_
        refine x_iadd X dX3_readTruck_83 ?_
        refine x_putI X dX3_readTruck_84 fl_3_22 ft_1_5 dsX_14 rfl ?_
        refine x_aload_n X dX3_readTruck_87 rfl 0 rfl ?_
        refine x_aload_n X dX3_readTruck_88 rfl 1 rfl ?_
        refine x_iload_n X dX3_readTruck_89 rfl 2 rfl ?_
        refine x_callVi X [.ref (ad 1), .int a2] [] dX3_readTruck_90 (kX3_readRoute h) cm_X3_readRoute ci_X3_readRoute w_3_55 dsX_13 ⟨by decide, by decide⟩ rfl (Nat.le_of_ble_eq_true rfl) (fun r90 σ90 τ90 h => ?_)
        exact x_zret X dX3_readTruck_93 ⟨h.1, _, rfl, h.2⟩
      · have h := h.2 hc
        refine x_iconst X dX3_readTruck_62 ki_0 ?_
        exact x_zret X dX3_readTruck_63 ⟨Or.inl rfl, _, rfl, h⟩
    · have h := h.2 hc
      refine x_iconst X dX3_readTruck_37 ki_0 ?_
      exact x_zret X dX3_readTruck_38 ⟨Or.inl rfl, _, rfl, h⟩
  · have h := h.2 hc
    refine x_iconst X dX3_readTruck_11 ki_0 ?_
    exact x_zret X dX3_readTruck_12 ⟨Or.inl rfl, _, rfl, h⟩
theorem dX9_isWord_0 : decode cX9_isWord 0 = .ok (.aload_n 0, 1) := by decide +kernel
theorem dX9_isWord_1 : decode cX9_isWord 1 = .ok (.getfield 25, 3) := by decide +kernel
theorem dX9_isWord_4 : decode cX9_isWord 4 = .ok (.iconst 1, 1) := by decide +kernel
theorem dX9_isWord_5 : decode cX9_isWord 5 = .ok (.if_icmp .ne 23, 3) := by decide +kernel
theorem dX9_isWord_8 : decode cX9_isWord 8 = .ok (.aload_n 1, 1) := by decide +kernel
theorem dX9_isWord_9 : decode cX9_isWord 9 = .ok (.ifnull 19, 3) := by decide +kernel
theorem dX9_isWord_12 : decode cX9_isWord 12 = .ok (.aload_n 0, 1) := by decide +kernel
theorem dX9_isWord_13 : decode cX9_isWord 13 = .ok (.getfield 31, 3) := by decide +kernel
theorem dX9_isWord_16 : decode cX9_isWord 16 = .ok (.aload_n 0, 1) := by decide +kernel
theorem dX9_isWord_17 : decode cX9_isWord 17 = .ok (.getfield 28, 3) := by decide +kernel
theorem dX9_isWord_20 : decode cX9_isWord 20 = .ok (.isub, 1) := by decide +kernel
theorem dX9_isWord_21 : decode cX9_isWord 21 = .ok (.aload_n 1, 1) := by decide +kernel
theorem dX9_isWord_22 : decode cX9_isWord 22 = .ok (.invokevirtual 50, 3) := by decide +kernel
theorem dX9_isWord_25 : decode cX9_isWord 25 = .ok (.if_icmp .eq 5, 3) := by decide +kernel
theorem dX9_isWord_28 : decode cX9_isWord 28 = .ok (.iconst 0, 1) := by decide +kernel
theorem dX9_isWord_29 : decode cX9_isWord 29 = .ok (.ireturn, 1) := by decide +kernel
theorem dX9_isWord_30 : decode cX9_isWord 30 = .ok (.iconst 0, 1) := by decide +kernel
theorem dX9_isWord_31 : decode cX9_isWord 31 = .ok (.istore_n 2, 1) := by decide +kernel
theorem dX9_isWord_32 : decode cX9_isWord 32 = .ok (.iload_n 2, 1) := by decide +kernel
theorem dX9_isWord_33 : decode cX9_isWord 33 = .ok (.aload_n 1, 1) := by decide +kernel
theorem dX9_isWord_34 : decode cX9_isWord 34 = .ok (.invokevirtual 50, 3) := by decide +kernel
theorem dX9_isWord_37 : decode cX9_isWord 37 = .ok (.if_icmp .ge 30, 3) := by decide +kernel
theorem dX9_isWord_40 : decode cX9_isWord 40 = .ok (.aload_n 0, 1) := by decide +kernel
theorem dX9_isWord_41 : decode cX9_isWord 41 = .ok (.getfield 11, 3) := by decide +kernel
theorem dX9_isWord_44 : decode cX9_isWord 44 = .ok (.aload_n 0, 1) := by decide +kernel
theorem dX9_isWord_45 : decode cX9_isWord 45 = .ok (.getfield 28, 3) := by decide +kernel
theorem dX9_isWord_48 : decode cX9_isWord 48 = .ok (.iload_n 2, 1) := by decide +kernel
theorem dX9_isWord_49 : decode cX9_isWord 49 = .ok (.iadd, 1) := by decide +kernel
theorem dX9_isWord_50 : decode cX9_isWord 50 = .ok (.baload, 1) := by decide +kernel
theorem dX9_isWord_51 : decode cX9_isWord 51 = .ok (.aload_n 1, 1) := by decide +kernel
theorem dX9_isWord_52 : decode cX9_isWord 52 = .ok (.iload_n 2, 1) := by decide +kernel
theorem dX9_isWord_53 : decode cX9_isWord 53 = .ok (.invokevirtual 55, 3) := by decide +kernel
theorem dX9_isWord_56 : decode cX9_isWord 56 = .ok (.if_icmp .eq 5, 3) := by decide +kernel
theorem dX9_isWord_59 : decode cX9_isWord 59 = .ok (.iconst 0, 1) := by decide +kernel
theorem dX9_isWord_60 : decode cX9_isWord 60 = .ok (.ireturn, 1) := by decide +kernel
theorem dX9_isWord_61 : decode cX9_isWord 61 = .ok (.iinc 2 1, 3) := by decide +kernel
theorem dX9_isWord_64 : decode cX9_isWord 64 = .ok (.goto (-32), 3) := by decide +kernel
theorem dX9_isWord_67 : decode cX9_isWord 67 = .ok (.iconst 1, 1) := by decide +kernel
theorem dX9_isWord_68 : decode cX9_isWord 68 = .ok (.ireturn, 1) := by decide +kernel
theorem cm_X9_isWord : x_CM yX9_isWord cX9_isWord 3 (Option.some FieldType.boolean) 1 := ⟨w_2_223, w_1_2, by decide +kernel, by decide +kernel⟩
theorem ci_X9_isWord : x_CI yX9_isWord 11 := ⟨w_2_221, w_2_222, (RX9, TX9, 8), rfl, rfl⟩
set_option maxRecDepth 100000 in
set_option maxHeartbeats 4000000 in
theorem bX9_isWord_28 {V : x_J} {ad : Nat → Nat} {i : Nat} {Q : Int32 → x_S → x_L → Prop} (X : x_Is V cX9_isWord 3 RX9 (Option.some FieldType.boolean) ad dsX 4 (x_PI Q)) (hi : i < 9) {σ : x_S} {τ : x_L} (h : wX9_isWord_28 i Q σ τ) : V σ τ 28 [] [] := by
  refine x_iconst X dX9_isWord_28 ki_0 ?_
  exact x_zret X dX9_isWord_29 ⟨Or.inl rfl, _, rfl, h⟩
set_option maxRecDepth 100000 in
set_option maxHeartbeats 4000000 in
theorem bX9_isWord_32 {V : x_J} {ad : Nat → Nat} {i : Nat} {Q : Int32 → x_S → x_L → Prop} (X : x_Is V cX9_isWord 3 RX9 (Option.some FieldType.boolean) ad dsX 4 (x_PI Q)) (hi : i < 9) {K32 : Int32 → x_S → x_L → Prop} (hK32 : ∀ v2 σ τ, K32 v2 σ τ → V σ τ 32 [(0, .ref (ad 1)), (1, .ref (ad (1000 + i))), (2, .int v2)] []) {v2 : Int32} {σ : x_S} {τ : x_L} (h : wX9_isWord_32 i Q K32 v2 σ τ) : V σ τ 32 [(0, .ref (ad 1)), (1, .ref (ad (1000 + i))), (2, .int v2)] [] := by
  refine x_iload_n X dX9_isWord_32 rfl 2 rfl ?_
  refine x_aload_n X dX9_isWord_33 rfl 1 rfl ?_
  refine x_callTi X hi [] [.int v2] dX9_isWord_34 (kJ_length hi (Q := fun r σ2 τ2 => r = (nI (x_len.getD i 0)) ∧ σ = σ2 ∧ τ = τ2) ⟨rfl, rfl, rfl⟩) cmJ_length ⟨w_2_225, w_2_226, rfl⟩ w_2_224 ⟨by decide, by decide⟩ rfl (Nat.le_of_ble_eq_true rfl) (fun r34 σ34 τ34 hz => ?_)
  obtain ⟨rfl, rfl, rfl⟩ := hz
  refine x_icmp_ge X 67 dX9_isWord_37 (by decide) (fun hc => ?_) (fun hc => ?_)
  · have h := h.1 hc
    refine x_iconst X dX9_isWord_67 ki_1 ?_
    exact x_zret X dX9_isWord_68 ⟨Or.inr rfl, _, rfl, h⟩
  · have h := h.2 hc
    refine x_aload_n X dX9_isWord_40 rfl 0 rfl ?_
    refine x_getR X (j := 2) dX9_isWord_41 fl_9_11 dsX_1 rfl ?_
    refine x_aload_n X dX9_isWord_44 rfl 0 rfl ?_
    refine x_getI X dX9_isWord_45 fl_9_28 dsX_1 rfl ?_
    refine x_iload_n X dX9_isWord_48 rfl 2 rfl ?_
    refine x_iadd X dX9_isWord_49 ?_
    have g50 := h.1
    have h := h.2
    refine x_bald X dX9_isWord_50 dsX_2 g50 ?_
    refine x_aload_n X dX9_isWord_51 rfl 1 rfl ?_
    refine x_iload_n X dX9_isWord_52 rfl 2 rfl ?_
    refine x_callTi X hi [.int v2] [.int (σ 2 ((σ 1 5) + v2).toNatClampNeg)] dX9_isWord_53 (kJ_charAt hi h.1 (Q := fun r σ2 τ2 => r = ((x_byt.getD i []).getD v2.toNatClampNeg 0) ∧ σ = σ2 ∧ τ = τ2) ⟨rfl, rfl, rfl⟩) cmJ_charAt ⟨w_2_235, w_2_236, rfl⟩ w_2_234 ⟨by decide, by decide⟩ rfl (Nat.le_of_ble_eq_true rfl) (fun r53 σ53 τ53 hz => ?_)
    obtain ⟨rfl, rfl, rfl⟩ := hz
    have h := h.2
    refine x_icmp_eq X 61 dX9_isWord_56 (by decide) (fun hc => ?_) (fun hc => ?_)
    · have h := h.1 hc
      refine x_iinc X (k := 2) (lv' := [(2, .int (v2 + 1)), (0, .ref (ad 1)), (1, .ref (ad (1000 + i)))]) dX9_isWord_61 rfl ki_1 (by decide) rfl ?_
      refine x_goto X (tgt := 32) dX9_isWord_64 (by decide) ?_
      refine x_sub X [1, 2, 0] (lv' := [(0, .ref (ad 1)), (1, .ref (ad (1000 + i))), (2, .int (v2 + 1))]) rfl ?_
      exact hK32 _ _ _ h
    · have h := h.2 hc
      refine x_iconst X dX9_isWord_59 ki_0 ?_
      exact x_zret X dX9_isWord_60 ⟨Or.inl rfl, _, rfl, h⟩
set_option maxRecDepth 100000 in
set_option maxHeartbeats 4000000 in
theorem kX9_isWord {ad : Nat → Nat} {i : Nat} (hi : i < 9) {σ : x_S} {τ : x_L} {Q : Int32 → x_S → x_L → Prop} (h : wX9_isWord i σ τ Q) : x_Met yX9_isWord cX9_isWord 3 (Option.some FieldType.boolean) 4 ad dsX [.ref (ad 1), .ref (ad (1000 + i))] σ τ (x_PI Q) := by
  refine x_met (by decide +kernel) (Nat.le_of_ble_eq_true rfl) (fun V X => ?_)
  have X : x_Is V cX9_isWord 3 RX9 (Option.some FieldType.boolean) ad dsX 4 (x_PI Q) := X
  show V σ τ 0 [(0, .ref (ad 1)), (1, .ref (ad (1000 + i)))] []
  refine x_aload_n X dX9_isWord_0 rfl 0 rfl ?_
  refine x_getI X dX9_isWord_1 fl_9_25 dsX_1 rfl ?_
  refine x_iconst X dX9_isWord_4 ki_1 ?_
  refine x_icmp_ne X 28 dX9_isWord_5 (by decide) (fun hc => ?_) (fun hc => ?_)
  · have h := h.1 hc
    refine x_sub X [] (lv' := []) rfl ?_
    exact bX9_isWord_28 X hi h
  · have h := h.2 hc
    refine x_aload_n X dX9_isWord_8 rfl 1 rfl ?_
    refine x_ifnull X dX9_isWord_9 ?_
    refine x_aload_n X dX9_isWord_12 rfl 0 rfl ?_
    refine x_getI X dX9_isWord_13 fl_9_31 dsX_1 rfl ?_
    refine x_aload_n X dX9_isWord_16 rfl 0 rfl ?_
    refine x_getI X dX9_isWord_17 fl_9_28 dsX_1 rfl ?_
    refine x_isub X dX9_isWord_20 ?_
    refine x_aload_n X dX9_isWord_21 rfl 1 rfl ?_
    refine x_callTi X hi [] [.int ((σ 1 6) - (σ 1 5))] dX9_isWord_22 (kJ_length hi (Q := fun r σ2 τ2 => r = (nI (x_len.getD i 0)) ∧ σ = σ2 ∧ τ = τ2) ⟨rfl, rfl, rfl⟩) cmJ_length ⟨w_2_225, w_2_226, rfl⟩ w_2_224 ⟨by decide, by decide⟩ rfl (Nat.le_of_ble_eq_true rfl) (fun r22 σ22 τ22 hz => ?_)
    obtain ⟨rfl, rfl, rfl⟩ := hz
    refine x_icmp_eq X 30 dX9_isWord_25 (by decide) (fun hc => ?_) (fun hc => ?_)
    · have h := h.1 hc
      refine x_iconst X dX9_isWord_30 ki_0 ?_
      refine x_istore_n X (lv' := [(2, .int 0), (0, .ref (ad 1)), (1, .ref (ad (1000 + i)))]) dX9_isWord_31 rfl (by decide) rfl ?_
      refine x_sub X [1, 2, 0] (lv' := [(0, .ref (ad 1)), (1, .ref (ad (1000 + i))), (2, .int 0)]) rfl ?_
      exact x_l1_G (fun v2 σ τ => V σ τ 32 [(0, .ref (ad 1)), (1, .ref (ad (1000 + i))), (2, .int v2)] []) (fun K32 hK32 v2 σ τ h => bX9_isWord_32 X hi hK32 h) h
    · have h := h.2 hc
      refine x_sub X [] (lv' := []) rfl ?_
      exact bX9_isWord_28 X hi h
theorem dX3_read_0 : decode cX3_read 0 = .ok (.aload_n 0, 1) := by decide +kernel
theorem dX3_read_1 : decode cX3_read 1 = .ok (.getfield 12, 3) := by decide +kernel
theorem dX3_read_4 : decode cX3_read 4 = .ok (.iconst 0, 1) := by decide +kernel
theorem dX3_read_5 : decode cX3_read 5 = .ok (.putfield 18, 3) := by decide +kernel
theorem dX3_read_8 : decode cX3_read 8 = .ok (.aload_n 0, 1) := by decide +kernel
theorem dX3_read_9 : decode cX3_read 9 = .ok (.getfield 12, 3) := by decide +kernel
theorem dX3_read_12 : decode cX3_read 12 = .ok (.iconst 0, 1) := by decide +kernel
theorem dX3_read_13 : decode cX3_read 13 = .ok (.putfield 22, 3) := by decide +kernel
theorem dX3_read_16 : decode cX3_read 16 = .ok (.iconst 0, 1) := by decide +kernel
theorem dX3_read_17 : decode cX3_read 17 = .ok (.istore_n 2, 1) := by decide +kernel
theorem dX3_read_18 : decode cX3_read 18 = .ok (.iload_n 2, 1) := by decide +kernel
theorem dX3_read_19 : decode cX3_read 19 = .ok (.sipush 1500, 3) := by decide +kernel
theorem dX3_read_22 : decode cX3_read 22 = .ok (.if_icmp .gt 126, 3) := by decide +kernel
theorem dX3_read_25 : decode cX3_read 25 = .ok (.aload_n 1, 1) := by decide +kernel
theorem dX3_read_26 : decode cX3_read 26 = .ok (.invokevirtual 27, 3) := by decide +kernel
theorem dX3_read_29 : decode cX3_read 29 = .ok (.aload_n 1, 1) := by decide +kernel
theorem dX3_read_30 : decode cX3_read 30 = .ok (.getfield 30, 3) := by decide +kernel
theorem dX3_read_33 : decode cX3_read 33 = .ok (.ifCond .ne 5, 3) := by decide +kernel
theorem dX3_read_36 : decode cX3_read 36 = .ok (.iconst 1, 1) := by decide +kernel
theorem dX3_read_37 : decode cX3_read 37 = .ok (.ireturn, 1) := by decide +kernel
theorem dX3_read_38 : decode cX3_read 38 = .ok (.iconst 0, 1) := by decide +kernel
theorem dX3_read_39 : decode cX3_read 39 = .ok (.istore_n 3, 1) := by decide +kernel
theorem dX3_read_40 : decode cX3_read 40 = .ok (.aload_n 1, 1) := by decide +kernel
theorem dX3_read_41 : decode cX3_read 41 = .ok (.ldc 33, 2) := by decide +kernel
theorem dX3_read_43 : decode cX3_read 43 = .ok (.invokevirtual 35, 3) := by decide +kernel
theorem dX3_read_46 : decode cX3_read 46 = .ok (.ifCond .eq 39, 3) := by decide +kernel
theorem dX3_read_49 : decode cX3_read 49 = .ok (.aload_n 0, 1) := by decide +kernel
theorem dX3_read_50 : decode cX3_read 50 = .ok (.getfield 12, 3) := by decide +kernel
theorem dX3_read_53 : decode cX3_read 53 = .ok (.getfield 18, 3) := by decide +kernel
theorem dX3_read_56 : decode cX3_read 56 = .ok (.bipush 30, 2) := by decide +kernel
theorem dX3_read_58 : decode cX3_read 58 = .ok (.if_icmp .ge 18, 3) := by decide +kernel
theorem dX3_read_61 : decode cX3_read 61 = .ok (.aload_n 0, 1) := by decide +kernel
theorem dX3_read_62 : decode cX3_read 62 = .ok (.aload_n 1, 1) := by decide +kernel
theorem dX3_read_63 : decode cX3_read 63 = .ok (.aload_n 0, 1) := by decide +kernel
theorem dX3_read_64 : decode cX3_read 64 = .ok (.getfield 12, 3) := by decide +kernel
theorem dX3_read_67 : decode cX3_read 67 = .ok (.getfield 18, 3) := by decide +kernel
theorem dX3_read_70 : decode cX3_read 70 = .ok (.invokevirtual 39, 3) := by decide +kernel
theorem dX3_read_73 : decode cX3_read 73 = .ok (.goto 8, 3) := by decide +kernel
theorem dX3_read_76 : decode cX3_read 76 = .ok (.aload_n 1, 1) := by decide +kernel
theorem dX3_read_77 : decode cX3_read 77 = .ok (.iconst 4, 1) := by decide +kernel
theorem dX3_read_78 : decode cX3_read 78 = .ok (.invokevirtual 43, 3) := by decide +kernel
theorem dX3_read_81 : decode cX3_read 81 = .ok (.istore_n 3, 1) := by decide +kernel
theorem dX3_read_82 : decode cX3_read 82 = .ok (.goto 54, 3) := by decide +kernel
theorem dX3_read_85 : decode cX3_read 85 = .ok (.aload_n 1, 1) := by decide +kernel
theorem dX3_read_86 : decode cX3_read 86 = .ok (.ldc 47, 2) := by decide +kernel
theorem dX3_read_88 : decode cX3_read 88 = .ok (.invokevirtual 35, 3) := by decide +kernel
theorem dX3_read_91 : decode cX3_read 91 = .ok (.ifCond .eq 39, 3) := by decide +kernel
theorem dX3_read_94 : decode cX3_read 94 = .ok (.aload_n 0, 1) := by decide +kernel
theorem dX3_read_95 : decode cX3_read 95 = .ok (.getfield 12, 3) := by decide +kernel
theorem dX3_read_98 : decode cX3_read 98 = .ok (.getfield 22, 3) := by decide +kernel
theorem dX3_read_101 : decode cX3_read 101 = .ok (.bipush 12, 2) := by decide +kernel
theorem dX3_read_103 : decode cX3_read 103 = .ok (.if_icmp .ge 18, 3) := by decide +kernel
theorem dX3_read_106 : decode cX3_read 106 = .ok (.aload_n 0, 1) := by decide +kernel
theorem dX3_read_107 : decode cX3_read 107 = .ok (.aload_n 1, 1) := by decide +kernel
theorem dX3_read_108 : decode cX3_read 108 = .ok (.aload_n 0, 1) := by decide +kernel
theorem dX3_read_109 : decode cX3_read 109 = .ok (.getfield 12, 3) := by decide +kernel
theorem dX3_read_112 : decode cX3_read 112 = .ok (.getfield 22, 3) := by decide +kernel
theorem dX3_read_115 : decode cX3_read 115 = .ok (.invokevirtual 49, 3) := by decide +kernel
theorem dX3_read_118 : decode cX3_read 118 = .ok (.goto 8, 3) := by decide +kernel
theorem dX3_read_121 : decode cX3_read 121 = .ok (.aload_n 1, 1) := by decide +kernel
theorem dX3_read_122 : decode cX3_read 122 = .ok (.iconst 4, 1) := by decide +kernel
theorem dX3_read_123 : decode cX3_read 123 = .ok (.invokevirtual 43, 3) := by decide +kernel
theorem dX3_read_126 : decode cX3_read 126 = .ok (.istore_n 3, 1) := by decide +kernel
theorem dX3_read_127 : decode cX3_read 127 = .ok (.goto 9, 3) := by decide +kernel
theorem dX3_read_130 : decode cX3_read 130 = .ok (.aload_n 1, 1) := by decide +kernel
theorem dX3_read_131 : decode cX3_read 131 = .ok (.iconst 1, 1) := by decide +kernel
theorem dX3_read_132 : decode cX3_read 132 = .ok (.invokevirtual 43, 3) := by decide +kernel
theorem dX3_read_135 : decode cX3_read 135 = .ok (.pop, 1) := by decide +kernel
theorem dX3_read_136 : decode cX3_read 136 = .ok (.iload_n 3, 1) := by decide +kernel
theorem dX3_read_137 : decode cX3_read 137 = .ok (.ifCond .ne 5, 3) := by decide +kernel
theorem dX3_read_140 : decode cX3_read 140 = .ok (.iconst 0, 1) := by decide +kernel
theorem dX3_read_141 : decode cX3_read 141 = .ok (.ireturn, 1) := by decide +kernel
theorem dX3_read_142 : decode cX3_read 142 = .ok (.iinc 2 1, 3) := by decide +kernel
theorem dX3_read_145 : decode cX3_read 145 = .ok (.goto (-127), 3) := by decide +kernel
theorem dX3_read_148 : decode cX3_read 148 = .ok (.iconst 0, 1) := by decide +kernel
theorem dX3_read_149 : decode cX3_read 149 = .ok (.ireturn, 1) := by decide +kernel
theorem cm_X3_read : x_CM yX3_read cX3_read 4 (Option.some FieldType.boolean) 1 := ⟨w_2_200, w_1_4, by decide +kernel, by decide +kernel⟩
theorem ci_X3_read : x_CI yX3_read 5 := ⟨w_2_198, w_2_199, (RX3, TX3, 1), rfl, rfl⟩
set_option maxRecDepth 100000 in
set_option maxHeartbeats 4000000 in
theorem bX3_read_136 {V : x_J} {ad : Nat → Nat} {Q : Int32 → x_S → x_L → Prop} (X : x_Is V cX3_read 4 RX3 (Option.some FieldType.boolean) ad dsX 5 (x_PI Q)) {K18 : Int32 → x_S → x_L → Prop} (hK18 : ∀ v2 σ τ, K18 v2 σ τ → V σ τ 18 [(0, .ref (ad 13)), (1, .ref (ad 1)), (2, .int v2)] []) {v2 : Int32} {v3 : Int32} {σ : x_S} {τ : x_L} (h : wX3_read_136 K18 Q v2 v3 σ τ) : V σ τ 136 [(0, .ref (ad 13)), (1, .ref (ad 1)), (2, .int v2), (3, .int v3)] [] := by
  refine x_iload_n X dX3_read_136 rfl 3 rfl ?_
  refine x_if_ne X 142 dX3_read_137 (by decide) (fun hc => ?_) (fun hc => ?_)
  · have h := h.1 hc
    refine x_iinc X (k := 2) (lv' := [(2, .int (v2 + 1)), (0, .ref (ad 13)), (1, .ref (ad 1)), (3, .int v3)]) dX3_read_142 rfl ki_1 (by decide) rfl ?_
    refine x_goto X (tgt := 18) dX3_read_145 (by decide) ?_
    refine x_sub X [1, 2, 0] (lv' := [(0, .ref (ad 13)), (1, .ref (ad 1)), (2, .int (v2 + 1))]) rfl ?_
    exact hK18 _ _ _ h
  · have h := h.2 hc
    refine x_iconst X dX3_read_140 ki_0 ?_
    exact x_zret X dX3_read_141 ⟨Or.inl rfl, _, rfl, h⟩
set_option maxRecDepth 100000 in
set_option maxHeartbeats 4000000 in
theorem bX3_read_81 {V : x_J} {ad : Nat → Nat} {Q : Int32 → x_S → x_L → Prop} (X : x_Is V cX3_read 4 RX3 (Option.some FieldType.boolean) ad dsX 5 (x_PI Q)) {K18 : Int32 → x_S → x_L → Prop} (hK18 : ∀ v2 σ τ, K18 v2 σ τ → V σ τ 18 [(0, .ref (ad 13)), (1, .ref (ad 1)), (2, .int v2)] []) {v2 : Int32} {s0 : Int32} {σ : x_S} {τ : x_L} (h : wX3_read_81 K18 Q v2 s0 σ τ) : V σ τ 81 [(0, .ref (ad 13)), (1, .ref (ad 1)), (2, .int v2)] [.int s0] := by
  refine x_istore_n X (lv' := [(3, .int s0), (0, .ref (ad 13)), (1, .ref (ad 1)), (2, .int v2)]) dX3_read_81 rfl (by decide) rfl ?_
  refine x_goto X (tgt := 136) dX3_read_82 (by decide) ?_
  refine x_sub X [1, 2, 3, 0] (lv' := [(0, .ref (ad 13)), (1, .ref (ad 1)), (2, .int v2), (3, .int s0)]) rfl ?_
  exact bX3_read_136 X hK18 h
set_option maxRecDepth 100000 in
set_option maxHeartbeats 4000000 in
theorem bX3_read_126 {V : x_J} {ad : Nat → Nat} {Q : Int32 → x_S → x_L → Prop} (X : x_Is V cX3_read 4 RX3 (Option.some FieldType.boolean) ad dsX 5 (x_PI Q)) {K18 : Int32 → x_S → x_L → Prop} (hK18 : ∀ v2 σ τ, K18 v2 σ τ → V σ τ 18 [(0, .ref (ad 13)), (1, .ref (ad 1)), (2, .int v2)] []) {v2 : Int32} {s0 : Int32} {σ : x_S} {τ : x_L} (h : wX3_read_126 K18 Q v2 s0 σ τ) : V σ τ 126 [(0, .ref (ad 13)), (1, .ref (ad 1)), (2, .int v2)] [.int s0] := by
  refine x_istore_n X (lv' := [(3, .int s0), (0, .ref (ad 13)), (1, .ref (ad 1)), (2, .int v2)]) dX3_read_126 rfl (by decide) rfl ?_
  refine x_goto X (tgt := 136) dX3_read_127 (by decide) ?_
  refine x_sub X [1, 2, 3, 0] (lv' := [(0, .ref (ad 13)), (1, .ref (ad 1)), (2, .int v2), (3, .int s0)]) rfl ?_
  exact bX3_read_136 X hK18 h
set_option maxRecDepth 100000 in
set_option maxHeartbeats 4000000 in
theorem bX3_read_18 {V : x_J} {ad : Nat → Nat} {Q : Int32 → x_S → x_L → Prop} (X : x_Is V cX3_read 4 RX3 (Option.some FieldType.boolean) ad dsX 5 (x_PI Q)) {K18 : Int32 → x_S → x_L → Prop} (hK18 : ∀ v2 σ τ, K18 v2 σ τ → V σ τ 18 [(0, .ref (ad 13)), (1, .ref (ad 1)), (2, .int v2)] []) {v2 : Int32} {σ : x_S} {τ : x_L} (h : wX3_read_18 Q K18 v2 σ τ) : V σ τ 18 [(0, .ref (ad 13)), (1, .ref (ad 1)), (2, .int v2)] [] := by
  refine x_iload_n X dX3_read_18 rfl 2 rfl ?_
  refine x_sipush X dX3_read_19 ks_1500 ?_
  refine x_icmp_gt X 148 dX3_read_22 (by decide) (fun hc => ?_) (fun hc => ?_)
  · have h := h.1 hc
    refine x_iconst X dX3_read_148 ki_0 ?_
    exact x_zret X dX3_read_149 ⟨Or.inl rfl, _, rfl, h⟩
  · have h := h.2 hc
    refine x_aload_n X dX3_read_25 rfl 1 rfl ?_
    refine x_callVv X [] [] dX3_read_26 (kX9_next h) cm_X9_next ci_X9_next w_2_201 dsX_1 ⟨by decide, by decide⟩ rfl (Nat.le_of_ble_eq_true rfl) (fun σ26 τ26 h => ?_)
    refine x_aload_n X dX3_read_29 rfl 1 rfl ?_
    refine x_getI X dX3_read_30 fl_3_30 dsX_1 rfl ?_
    refine x_if_ne X 38 dX3_read_33 (by decide) (fun hc => ?_) (fun hc => ?_)
    · have h := h.1 hc
      refine x_iconst X dX3_read_38 ki_0 ?_
      refine x_istore_n X (lv' := [(3, .int 0), (0, .ref (ad 13)), (1, .ref (ad 1)), (2, .int v2)]) dX3_read_39 rfl (by decide) rfl ?_
      refine x_aload_n X dX3_read_40 rfl 2 rfl ?_
      refine x_ldcS X (i := 0) dX3_read_41 (List.mem_of_getElem? (i := 0) rfl) ?_
      refine x_callVi X [.ref (ad (1000 + 0))] [] dX3_read_43 (kX9_isWord (by decide) h) cm_X9_isWord ci_X9_isWord w_2_220 dsX_1 ⟨by decide, by decide⟩ rfl (Nat.le_of_ble_eq_true rfl) (fun r43 σ43 τ43 h => ?_)
      refine x_if_eq X 85 dX3_read_46 (by decide) (fun hc => ?_) (fun hc => ?_)
      · have h := h.1 hc
        refine x_aload_n X dX3_read_85 rfl 2 rfl ?_
        refine x_ldcS X (i := 1) dX3_read_86 (List.mem_of_getElem? (i := 1) rfl) ?_
        refine x_callVi X [.ref (ad (1000 + 1))] [] dX3_read_88 (kX9_isWord (by decide) h) cm_X9_isWord ci_X9_isWord w_2_220 dsX_1 ⟨by decide, by decide⟩ rfl (Nat.le_of_ble_eq_true rfl) (fun r88 σ88 τ88 h => ?_)
        refine x_if_eq X 130 dX3_read_91 (by decide) (fun hc => ?_) (fun hc => ?_)
        · have h := h.1 hc
          refine x_aload_n X dX3_read_130 rfl 2 rfl ?_
          refine x_iconst X dX3_read_131 ki_1 ?_
          refine x_callVi X [.int 1] [] dX3_read_132 (kX9_fail h) cm_X9_fail ci_X9_fail w_3_45 dsX_1 ⟨by decide, by decide⟩ rfl (Nat.le_of_ble_eq_true rfl) (fun r132 σ132 τ132 h => ?_)
          refine x_pop X dX3_read_135 rfl ?_
          refine x_sub X [1, 2, 3, 0] (lv' := [(0, .ref (ad 13)), (1, .ref (ad 1)), (2, .int v2), (3, .int 0)]) rfl ?_
          exact bX3_read_136 X hK18 h
        · have h := h.2 hc
          refine x_aload_n X dX3_read_94 rfl 1 rfl ?_
          refine x_getR X (j := 14) dX3_read_95 fl_3_12 dsX_13 rfl ?_
          refine x_getI X dX3_read_98 fl_3_22 dsX_14 rfl ?_
          refine x_bipush X dX3_read_101 kb_12 ?_
          refine x_icmp_ge X 121 dX3_read_103 (by decide) (fun hc => ?_) (fun hc => ?_)
          · have h := h.1 hc
            refine x_aload_n X dX3_read_121 rfl 2 rfl ?_
            refine x_iconst X dX3_read_122 ki_4 ?_
            refine x_callVi X [.int 4] [] dX3_read_123 (kX9_fail h) cm_X9_fail ci_X9_fail w_3_45 dsX_1 ⟨by decide, by decide⟩ rfl (Nat.le_of_ble_eq_true rfl) (fun r123 σ123 τ123 h => ?_)
            refine x_sub X [1, 2, 3] (lv' := [(0, .ref (ad 13)), (1, .ref (ad 1)), (2, .int v2)]) rfl ?_
            exact bX3_read_126 X hK18 h
          · have h := h.2 hc
            refine x_aload_n X dX3_read_106 rfl 1 rfl ?_
            refine x_aload_n X dX3_read_107 rfl 2 rfl ?_
            refine x_aload_n X dX3_read_108 rfl 1 rfl ?_
            refine x_getR X (j := 14) dX3_read_109 fl_3_12 dsX_13 rfl ?_
            refine x_getI X dX3_read_112 fl_3_22 dsX_14 rfl ?_
            refine x_callVi X [.ref (ad 1), .int (σ88 14 5)] [] dX3_read_115 (kX3_readTruck h) cm_X3_readTruck ci_X3_readTruck w_3_51 dsX_13 ⟨by decide, by decide⟩ rfl (Nat.le_of_ble_eq_true rfl) (fun r115 σ115 τ115 h => ?_)
            refine x_goto X (tgt := 126) dX3_read_118 (by decide) ?_
            refine x_sub X [1, 2, 3] (lv' := [(0, .ref (ad 13)), (1, .ref (ad 1)), (2, .int v2)]) rfl ?_
            exact bX3_read_126 X hK18 h
      · have h := h.2 hc
        refine x_aload_n X dX3_read_49 rfl 1 rfl ?_
        refine x_getR X (j := 14) dX3_read_50 fl_3_12 dsX_13 rfl ?_
        refine x_getI X dX3_read_53 fl_3_18 dsX_14 rfl ?_
        refine x_bipush X dX3_read_56 kb_30 ?_
        refine x_icmp_ge X 76 dX3_read_58 (by decide) (fun hc => ?_) (fun hc => ?_)
        · have h := h.1 hc
          refine x_aload_n X dX3_read_76 rfl 2 rfl ?_
          refine x_iconst X dX3_read_77 ki_4 ?_
          refine x_callVi X [.int 4] [] dX3_read_78 (kX9_fail h) cm_X9_fail ci_X9_fail w_3_45 dsX_1 ⟨by decide, by decide⟩ rfl (Nat.le_of_ble_eq_true rfl) (fun r78 σ78 τ78 h => ?_)
          refine x_sub X [1, 2, 3] (lv' := [(0, .ref (ad 13)), (1, .ref (ad 1)), (2, .int v2)]) rfl ?_
          exact bX3_read_81 X hK18 h
        · have h := h.2 hc
          refine x_aload_n X dX3_read_61 rfl 1 rfl ?_
          refine x_aload_n X dX3_read_62 rfl 2 rfl ?_
          refine x_aload_n X dX3_read_63 rfl 1 rfl ?_
          refine x_getR X (j := 14) dX3_read_64 fl_3_12 dsX_13 rfl ?_
          refine x_getI X dX3_read_67 fl_3_18 dsX_14 rfl ?_
          refine x_callVi X [.ref (ad 1), .int (σ43 14 0)] [] dX3_read_70 (kX3_readRoad h) cm_X3_readRoad ci_X3_readRoad w_3_32 dsX_13 ⟨by decide, by decide⟩ rfl (Nat.le_of_ble_eq_true rfl) (fun r70 σ70 τ70 h => ?_)
          refine x_goto X (tgt := 81) dX3_read_73 (by decide) ?_
          refine x_sub X [1, 2, 3] (lv' := [(0, .ref (ad 13)), (1, .ref (ad 1)), (2, .int v2)]) rfl ?_
          exact bX3_read_81 X hK18 h
    · have h := h.2 hc
      refine x_iconst X dX3_read_36 ki_1 ?_
      exact x_zret X dX3_read_37 ⟨Or.inr rfl, _, rfl, h⟩
set_option maxRecDepth 100000 in
set_option maxHeartbeats 4000000 in
theorem kX3_read {ad : Nat → Nat} {σ : x_S} {τ : x_L} {Q : Int32 → x_S → x_L → Prop} (h : wX3_read σ τ Q) : x_Met yX3_read cX3_read 4 (Option.some FieldType.boolean) 5 ad dsX [.ref (ad 13), .ref (ad 1)] σ τ (x_PI Q) := by
  refine x_met (by decide +kernel) (Nat.le_of_ble_eq_true rfl) (fun V X => ?_)
  have X : x_Is V cX3_read 4 RX3 (Option.some FieldType.boolean) ad dsX 5 (x_PI Q) := X
  show V σ τ 0 [(0, .ref (ad 13)), (1, .ref (ad 1))] []
  refine x_aload_n X dX3_read_0 rfl 0 rfl ?_
  refine x_getR X (j := 14) dX3_read_1 fl_3_12 dsX_13 rfl ?_
  refine x_iconst X dX3_read_4 ki_0 ?_
  refine x_putI X dX3_read_5 fl_3_18 ft_1_0 dsX_14 rfl ?_
  refine x_aload_n X dX3_read_8 rfl 0 rfl ?_
  refine x_getR X (j := 14) dX3_read_9 fl_3_12 dsX_13 rfl ?_
  refine x_iconst X dX3_read_12 ki_0 ?_
  refine x_putI X dX3_read_13 fl_3_22 ft_1_5 dsX_14 rfl ?_
  refine x_iconst X dX3_read_16 ki_0 ?_
  refine x_istore_n X (lv' := [(2, .int 0), (0, .ref (ad 13)), (1, .ref (ad 1))]) dX3_read_17 rfl (by decide) rfl ?_
  refine x_sub X [1, 2, 0] (lv' := [(0, .ref (ad 13)), (1, .ref (ad 1)), (2, .int 0)]) rfl ?_
  exact x_l1_G (fun v2 σ τ => V σ τ 18 [(0, .ref (ad 13)), (1, .ref (ad 1)), (2, .int v2)] []) (fun K18 hK18 v2 σ τ h => bX3_read_18 X hK18 h) h
theorem dX7_sharedPlaces_0 : decode cX7_sharedPlaces 0 = .ok (.aload_n 0, 1) := by decide +kernel
theorem dX7_sharedPlaces_1 : decode cX7_sharedPlaces 1 = .ok (.getfield 24, 3) := by decide +kernel
theorem dX7_sharedPlaces_4 : decode cX7_sharedPlaces 4 = .ok (.iload_n 1, 1) := by decide +kernel
theorem dX7_sharedPlaces_5 : decode cX7_sharedPlaces 5 = .ok (.bipush 12, 2) := by decide +kernel
theorem dX7_sharedPlaces_7 : decode cX7_sharedPlaces 7 = .ok (.imul, 1) := by decide +kernel
theorem dX7_sharedPlaces_8 : decode cX7_sharedPlaces 8 = .ok (.iload_n 2, 1) := by decide +kernel
theorem dX7_sharedPlaces_9 : decode cX7_sharedPlaces 9 = .ok (.bipush 10, 2) := by decide +kernel
theorem dX7_sharedPlaces_11 : decode cX7_sharedPlaces 11 = .ok (.idiv, 1) := by decide +kernel
theorem dX7_sharedPlaces_12 : decode cX7_sharedPlaces 12 = .ok (.iadd, 1) := by decide +kernel
theorem dX7_sharedPlaces_13 : decode cX7_sharedPlaces 13 = .ok (.laload, 1) := by decide +kernel
theorem dX7_sharedPlaces_14 : decode cX7_sharedPlaces 14 = .ok (.iconst 4, 1) := by decide +kernel
theorem dX7_sharedPlaces_15 : decode cX7_sharedPlaces 15 = .ok (.iload_n 2, 1) := by decide +kernel
theorem dX7_sharedPlaces_16 : decode cX7_sharedPlaces 16 = .ok (.bipush 10, 2) := by decide +kernel
theorem dX7_sharedPlaces_18 : decode cX7_sharedPlaces 18 = .ok (.irem, 1) := by decide +kernel
theorem dX7_sharedPlaces_19 : decode cX7_sharedPlaces 19 = .ok (.imul, 1) := by decide +kernel
theorem dX7_sharedPlaces_20 : decode cX7_sharedPlaces 20 = .ok (.lshr, 1) := by decide +kernel
theorem dX7_sharedPlaces_21 : decode cX7_sharedPlaces 21 = .ok (.l2i, 1) := by decide +kernel
theorem dX7_sharedPlaces_22 : decode cX7_sharedPlaces 22 = .ok (.bipush 15, 2) := by decide +kernel
theorem dX7_sharedPlaces_24 : decode cX7_sharedPlaces 24 = .ok (.iand, 1) := by decide +kernel
theorem dX7_sharedPlaces_25 : decode cX7_sharedPlaces 25 = .ok (.ireturn, 1) := by decide +kernel
theorem cm_X7_sharedPlaces : x_CM yX7_sharedPlaces cX7_sharedPlaces 3 (Option.some FieldType.int) 2 := ⟨w_3_89, w_1_6, by decide +kernel, by decide +kernel⟩
theorem ci_X7_sharedPlaces : x_CI yX7_sharedPlaces 9 := ⟨w_3_87, w_3_88, (RX7, TX7, 6), rfl, rfl⟩
set_option maxRecDepth 100000 in
set_option maxHeartbeats 4000000 in
theorem kX7_sharedPlaces {ad : Nat → Nat} {a1 : Int32} {a2 : Int32} {σ : x_S} {τ : x_L} {Q : Int32 → x_S → x_L → Prop} (h : wX7_sharedPlaces a1 a2 σ τ Q) : x_Met yX7_sharedPlaces cX7_sharedPlaces 3 (Option.some FieldType.int) 0 ad dsX [.ref (ad 27), .int a1, .int a2] σ τ (x_PI Q) := by
  refine x_met (by decide +kernel) (Nat.le_of_ble_eq_true rfl) (fun V X => ?_)
  have X : x_Is V cX7_sharedPlaces 3 RX7 (Option.some FieldType.int) ad dsX 0 (x_PI Q) := X
  show V σ τ 0 [(0, .ref (ad 27)), (1, .int a1), (2, .int a2)] []
  refine x_aload_n X dX7_sharedPlaces_0 rfl 0 rfl ?_
  refine x_getR X (j := 32) dX7_sharedPlaces_1 fl_7_24 dsX_27 rfl ?_
  refine x_iload_n X dX7_sharedPlaces_4 rfl 1 rfl ?_
  refine x_bipush X dX7_sharedPlaces_5 kb_12 ?_
  refine x_imul X dX7_sharedPlaces_7 ?_
  refine x_iload_n X dX7_sharedPlaces_8 rfl 2 rfl ?_
  refine x_bipush X dX7_sharedPlaces_9 kb_10 ?_
  refine x_idiv X dX7_sharedPlaces_11 (by decide) ?_
  refine x_iadd X dX7_sharedPlaces_12 ?_
  have g13 := h.1
  have h := h.2
  refine x_lald X dX7_sharedPlaces_13 dsX_32 g13 ?_
  refine x_iconst X dX7_sharedPlaces_14 ki_4 ?_
  refine x_iload_n X dX7_sharedPlaces_15 rfl 2 rfl ?_
  refine x_bipush X dX7_sharedPlaces_16 kb_10 ?_
  refine x_irem X dX7_sharedPlaces_18 (by decide) ?_
  refine x_imul X dX7_sharedPlaces_19 ?_
  refine x_lshr X dX7_sharedPlaces_20 ?_
  refine x_l2i X dX7_sharedPlaces_21 ?_
  refine x_bipush X dX7_sharedPlaces_22 kb_15 ?_
  refine x_iand X dX7_sharedPlaces_24 ?_
  exact x_iret X dX7_sharedPlaces_25 ⟨_, rfl, h⟩
theorem dX4_findRun_0 : decode cX4_findRun 0 = .ok (.iconst 0, 1) := by decide +kernel
theorem dX4_findRun_1 : decode cX4_findRun 1 = .ok (.istore_n 3, 1) := by decide +kernel
theorem dX4_findRun_2 : decode cX4_findRun 2 = .ok (.iload_n 3, 1) := by decide +kernel
theorem dX4_findRun_3 : decode cX4_findRun 3 = .ok (.aload_n 0, 1) := by decide +kernel
theorem dX4_findRun_4 : decode cX4_findRun 4 = .ok (.getfield 21, 3) := by decide +kernel
theorem dX4_findRun_7 : decode cX4_findRun 7 = .ok (.getfield 36, 3) := by decide +kernel
theorem dX4_findRun_10 : decode cX4_findRun 10 = .ok (.iload_n 1, 1) := by decide +kernel
theorem dX4_findRun_11 : decode cX4_findRun 11 = .ok (.iaload, 1) := by decide +kernel
theorem dX4_findRun_12 : decode cX4_findRun 12 = .ok (.if_icmp .ge 97, 3) := by decide +kernel
theorem dX4_findRun_15 : decode cX4_findRun 15 = .ok (.iload_n 1, 1) := by decide +kernel
theorem dX4_findRun_16 : decode cX4_findRun 16 = .ok (.iload_n 3, 1) := by decide +kernel
theorem dX4_findRun_17 : decode cX4_findRun 17 = .ok (.invokestatic 42, 3) := by decide +kernel
theorem dX4_findRun_20 : decode cX4_findRun 20 = .ok (.istore 4, 2) := by decide +kernel
theorem dX4_findRun_22 : decode cX4_findRun 22 = .ok (.iload_n 2, 1) := by decide +kernel
theorem dX4_findRun_23 : decode cX4_findRun 23 = .ok (.bipush 10, 2) := by decide +kernel
theorem dX4_findRun_25 : decode cX4_findRun 25 = .ok (.imul, 1) := by decide +kernel
theorem dX4_findRun_26 : decode cX4_findRun 26 = .ok (.istore 5, 2) := by decide +kernel
theorem dX4_findRun_28 : decode cX4_findRun 28 = .ok (.iload 5, 2) := by decide +kernel
theorem dX4_findRun_30 : decode cX4_findRun 30 = .ok (.aload_n 0, 1) := by decide +kernel
theorem dX4_findRun_31 : decode cX4_findRun 31 = .ok (.getfield 25, 3) := by decide +kernel
theorem dX4_findRun_34 : decode cX4_findRun 34 = .ok (.getfield 46, 3) := by decide +kernel
theorem dX4_findRun_37 : decode cX4_findRun 37 = .ok (.iload_n 2, 1) := by decide +kernel
theorem dX4_findRun_38 : decode cX4_findRun 38 = .ok (.iaload, 1) := by decide +kernel
theorem dX4_findRun_39 : decode cX4_findRun 39 = .ok (.if_icmp .ge 64, 3) := by decide +kernel
theorem dX4_findRun_42 : decode cX4_findRun 42 = .ok (.aload_n 0, 1) := by decide +kernel
theorem dX4_findRun_43 : decode cX4_findRun 43 = .ok (.getfield 21, 3) := by decide +kernel
theorem dX4_findRun_46 : decode cX4_findRun 46 = .ok (.getfield 51, 3) := by decide +kernel
theorem dX4_findRun_49 : decode cX4_findRun 49 = .ok (.iload 4, 2) := by decide +kernel
theorem dX4_findRun_51 : decode cX4_findRun 51 = .ok (.iaload, 1) := by decide +kernel
theorem dX4_findRun_52 : decode cX4_findRun 52 = .ok (.aload_n 0, 1) := by decide +kernel
theorem dX4_findRun_53 : decode cX4_findRun 53 = .ok (.getfield 21, 3) := by decide +kernel
theorem dX4_findRun_56 : decode cX4_findRun 56 = .ok (.getfield 51, 3) := by decide +kernel
theorem dX4_findRun_59 : decode cX4_findRun 59 = .ok (.iload 5, 2) := by decide +kernel
theorem dX4_findRun_61 : decode cX4_findRun 61 = .ok (.iaload, 1) := by decide +kernel
theorem dX4_findRun_62 : decode cX4_findRun 62 = .ok (.if_icmp .ne 35, 3) := by decide +kernel
theorem dX4_findRun_65 : decode cX4_findRun 65 = .ok (.aload_n 0, 1) := by decide +kernel
theorem dX4_findRun_66 : decode cX4_findRun 66 = .ok (.iload_n 3, 1) := by decide +kernel
theorem dX4_findRun_67 : decode cX4_findRun 67 = .ok (.putfield 9, 3) := by decide +kernel
theorem dX4_findRun_70 : decode cX4_findRun 70 = .ok (.aload_n 0, 1) := by decide +kernel
theorem dX4_findRun_71 : decode cX4_findRun 71 = .ok (.iload 5, 2) := by decide +kernel
theorem dX4_findRun_73 : decode cX4_findRun 73 = .ok (.iload_n 2, 1) := by decide +kernel
theorem dX4_findRun_74 : decode cX4_findRun 74 = .ok (.bipush 10, 2) := by decide +kernel
theorem dX4_findRun_76 : decode cX4_findRun 76 = .ok (.imul, 1) := by decide +kernel
theorem dX4_findRun_77 : decode cX4_findRun 77 = .ok (.isub, 1) := by decide +kernel
theorem dX4_findRun_78 : decode cX4_findRun 78 = .ok (.putfield 15, 3) := by decide +kernel
theorem dX4_findRun_81 : decode cX4_findRun 81 = .ok (.aload_n 0, 1) := by decide +kernel
theorem dX4_findRun_82 : decode cX4_findRun 82 = .ok (.aload_n 0, 1) := by decide +kernel
theorem dX4_findRun_83 : decode cX4_findRun 83 = .ok (.getfield 25, 3) := by decide +kernel
theorem dX4_findRun_86 : decode cX4_findRun 86 = .ok (.iload 4, 2) := by decide +kernel
theorem dX4_findRun_88 : decode cX4_findRun 88 = .ok (.iload 5, 2) := by decide +kernel
theorem dX4_findRun_90 : decode cX4_findRun 90 = .ok (.invokevirtual 54, 3) := by decide +kernel
theorem dX4_findRun_93 : decode cX4_findRun 93 = .ok (.putfield 18, 3) := by decide +kernel
theorem dX4_findRun_96 : decode cX4_findRun 96 = .ok (.return_, 1) := by decide +kernel
theorem dX4_findRun_97 : decode cX4_findRun 97 = .ok (.iinc 5 1, 3) := by decide +kernel
theorem dX4_findRun_100 : decode cX4_findRun 100 = .ok (.goto (-72), 3) := by decide +kernel
theorem dX4_findRun_103 : decode cX4_findRun 103 = .ok (.iinc 3 1, 3) := by decide +kernel
theorem dX4_findRun_106 : decode cX4_findRun 106 = .ok (.goto (-104), 3) := by decide +kernel
theorem dX4_findRun_109 : decode cX4_findRun 109 = .ok (.aload_n 0, 1) := by decide +kernel
theorem dX4_findRun_110 : decode cX4_findRun 110 = .ok (.iconst (-1), 1) := by decide +kernel
theorem dX4_findRun_111 : decode cX4_findRun 111 = .ok (.putfield 9, 3) := by decide +kernel
theorem dX4_findRun_114 : decode cX4_findRun 114 = .ok (.aload_n 0, 1) := by decide +kernel
theorem dX4_findRun_115 : decode cX4_findRun 115 = .ok (.iconst (-1), 1) := by decide +kernel
theorem dX4_findRun_116 : decode cX4_findRun 116 = .ok (.putfield 15, 3) := by decide +kernel
theorem dX4_findRun_119 : decode cX4_findRun 119 = .ok (.aload_n 0, 1) := by decide +kernel
theorem dX4_findRun_120 : decode cX4_findRun 120 = .ok (.iconst 0, 1) := by decide +kernel
theorem dX4_findRun_121 : decode cX4_findRun 121 = .ok (.putfield 18, 3) := by decide +kernel
theorem dX4_findRun_124 : decode cX4_findRun 124 = .ok (.return_, 1) := by decide +kernel
theorem cm_X4_findRun : x_CM yX4_findRun cX4_findRun 6 (Option.none : Option Jvm.ClassFile.FieldType) 2 := ⟨w_4_3, w_1_8, by decide +kernel, by decide +kernel⟩
theorem ci_X4_findRun : x_CI yX4_findRun 6 := ⟨w_4_1, w_4_2, (RX4, TX4, 7), rfl, rfl⟩
set_option maxRecDepth 100000 in
set_option maxHeartbeats 4000000 in
theorem bX4_findRun_28 {V : x_J} {ad : Nat → Nat} {Q : x_S → x_L → Prop} (X : x_Is V cX4_findRun 6 RX4 (Option.none : Option Jvm.ClassFile.FieldType) ad dsX 1 (x_PV Q)) {K2 : Int32 → Int32 → Int32 → x_S → x_L → Prop} {K28 : Int32 → Int32 → Int32 → Int32 → Int32 → x_S → x_L → Prop} (hK2 : ∀ v1 v2 v3 σ τ, K2 v1 v2 v3 σ τ → V σ τ 2 [(0, .ref (ad 59)), (1, .int v1), (2, .int v2), (3, .int v3)] []) (hK28 : ∀ v1 v2 v3 v4 v5 σ τ, K28 v1 v2 v3 v4 v5 σ τ → V σ τ 28 [(0, .ref (ad 59)), (1, .int v1), (2, .int v2), (3, .int v3), (4, .int v4), (5, .int v5)] []) {v1 : Int32} {v2 : Int32} {v3 : Int32} {v4 : Int32} {v5 : Int32} {σ : x_S} {τ : x_L} (h : wX4_findRun_28 K2 Q K28 v1 v2 v3 v4 v5 σ τ) : V σ τ 28 [(0, .ref (ad 59)), (1, .int v1), (2, .int v2), (3, .int v3), (4, .int v4), (5, .int v5)] [] := by
  refine x_iload X dX4_findRun_28 5 rfl ?_
  refine x_aload_n X dX4_findRun_30 rfl 0 rfl ?_
  refine x_getR X (j := 27) dX4_findRun_31 fl_4_25 dsX_59 rfl ?_
  refine x_getR X (j := 30) dX4_findRun_34 fl_4_46 dsX_27 rfl ?_
  refine x_iload_n X dX4_findRun_37 rfl 2 rfl ?_
  have g38 := h.1
  have h := h.2
  refine x_iald X dX4_findRun_38 dsX_30 g38 ?_
  refine x_icmp_ge X 103 dX4_findRun_39 (by decide) (fun hc => ?_) (fun hc => ?_)
  · have h := h.1 hc
    refine x_iinc X (k := 3) (lv' := [(3, .int (v3 + 1)), (0, .ref (ad 59)), (1, .int v1), (2, .int v2), (4, .int v4), (5, .int v5)]) dX4_findRun_103 rfl ki_1 (by decide) rfl ?_
    refine x_goto X (tgt := 2) dX4_findRun_106 (by decide) ?_
    refine x_sub X [1, 2, 3, 0] (lv' := [(0, .ref (ad 59)), (1, .int v1), (2, .int v2), (3, .int (v3 + 1))]) rfl ?_
    exact hK2 _ _ _ _ _ h
  · have h := h.2 hc
    refine x_aload_n X dX4_findRun_42 rfl 0 rfl ?_
    refine x_getR X (j := 3) dX4_findRun_43 fl_4_21 dsX_59 rfl ?_
    refine x_getR X (j := 12) dX4_findRun_46 fl_4_51 dsX_3 rfl ?_
    refine x_iload X dX4_findRun_49 4 rfl ?_
    have g51 := h.1
    have h := h.2
    refine x_iald X dX4_findRun_51 dsX_12 g51 ?_
    refine x_aload_n X dX4_findRun_52 rfl 0 rfl ?_
    refine x_getR X (j := 3) dX4_findRun_53 fl_4_21 dsX_59 rfl ?_
    refine x_getR X (j := 12) dX4_findRun_56 fl_4_51 dsX_3 rfl ?_
    refine x_iload X dX4_findRun_59 5 rfl ?_
    have g61 := h.1
    have h := h.2
    refine x_iald X dX4_findRun_61 dsX_12 g61 ?_
    refine x_icmp_ne X 97 dX4_findRun_62 (by decide) (fun hc => ?_) (fun hc => ?_)
    · have h := h.1 hc
      refine x_iinc X (k := 5) (lv' := [(5, .int (v5 + 1)), (0, .ref (ad 59)), (1, .int v1), (2, .int v2), (3, .int v3), (4, .int v4)]) dX4_findRun_97 rfl ki_1 (by decide) rfl ?_
      refine x_goto X (tgt := 28) dX4_findRun_100 (by decide) ?_
      refine x_sub X [1, 2, 3, 4, 5, 0] (lv' := [(0, .ref (ad 59)), (1, .int v1), (2, .int v2), (3, .int v3), (4, .int v4), (5, .int (v5 + 1))]) rfl ?_
      exact hK28 _ _ _ _ _ _ _ h
    · have h := h.2 hc
      refine x_aload_n X dX4_findRun_65 rfl 0 rfl ?_
      refine x_iload_n X dX4_findRun_66 rfl 3 rfl ?_
      refine x_putI X dX4_findRun_67 fl_4_9 ft_4_4 dsX_59 rfl ?_
      refine x_aload_n X dX4_findRun_70 rfl 0 rfl ?_
      refine x_iload X dX4_findRun_71 5 rfl ?_
      refine x_iload_n X dX4_findRun_73 rfl 2 rfl ?_
      refine x_bipush X dX4_findRun_74 kb_10 ?_
      refine x_imul X dX4_findRun_76 ?_
      refine x_isub X dX4_findRun_77 ?_
      refine x_putI X dX4_findRun_78 fl_4_15 ft_4_5 dsX_59 rfl ?_
      refine x_aload_n X dX4_findRun_81 rfl 0 rfl ?_
      refine x_aload_n X dX4_findRun_82 rfl 0 rfl ?_
      refine x_getR X (j := 27) dX4_findRun_83 fl_4_25 dsX_59 rfl ?_
      refine x_iload X dX4_findRun_86 4 rfl ?_
      refine x_iload X dX4_findRun_88 5 rfl ?_
      refine x_callVi X [.int v4, .int v5] [.ref (ad 59)] dX4_findRun_90 (kX7_sharedPlaces h) cm_X7_sharedPlaces ci_X7_sharedPlaces w_4_5 dsX_27 ⟨by decide, by decide⟩ rfl (Nat.le_of_ble_eq_true rfl) (fun r90 σ90 τ90 h => ?_)
      refine x_putI X dX4_findRun_93 fl_4_18 ft_4_6 dsX_59 rfl ?_
      exact x_vret X dX4_findRun_96 ⟨rfl, h⟩
set_option maxRecDepth 100000 in
set_option maxHeartbeats 4000000 in
theorem bX4_findRun_2 {V : x_J} {ad : Nat → Nat} {Q : x_S → x_L → Prop} (X : x_Is V cX4_findRun 6 RX4 (Option.none : Option Jvm.ClassFile.FieldType) ad dsX 1 (x_PV Q)) {K2 : Int32 → Int32 → Int32 → x_S → x_L → Prop} (hK2 : ∀ v1 v2 v3 σ τ, K2 v1 v2 v3 σ τ → V σ τ 2 [(0, .ref (ad 59)), (1, .int v1), (2, .int v2), (3, .int v3)] []) {v1 : Int32} {v2 : Int32} {v3 : Int32} {σ : x_S} {τ : x_L} (h : wX4_findRun_2 Q K2 v1 v2 v3 σ τ) : V σ τ 2 [(0, .ref (ad 59)), (1, .int v1), (2, .int v2), (3, .int v3)] [] := by
  refine x_iload_n X dX4_findRun_2 rfl 3 rfl ?_
  refine x_aload_n X dX4_findRun_3 rfl 0 rfl ?_
  refine x_getR X (j := 3) dX4_findRun_4 fl_4_21 dsX_59 rfl ?_
  refine x_getR X (j := 11) dX4_findRun_7 fl_4_36 dsX_3 rfl ?_
  refine x_iload_n X dX4_findRun_10 rfl 1 rfl ?_
  have g11 := h.1
  have h := h.2
  refine x_iald X dX4_findRun_11 dsX_11 g11 ?_
  refine x_icmp_ge X 109 dX4_findRun_12 (by decide) (fun hc => ?_) (fun hc => ?_)
  · have h := h.1 hc
    refine x_aload_n X dX4_findRun_109 rfl 0 rfl ?_
    refine x_iconst X dX4_findRun_110 ki_m1 ?_
    refine x_putI X dX4_findRun_111 fl_4_9 ft_4_4 dsX_59 rfl ?_
    refine x_aload_n X dX4_findRun_114 rfl 0 rfl ?_
    refine x_iconst X dX4_findRun_115 ki_m1 ?_
    refine x_putI X dX4_findRun_116 fl_4_15 ft_4_5 dsX_59 rfl ?_
    refine x_aload_n X dX4_findRun_119 rfl 0 rfl ?_
    refine x_iconst X dX4_findRun_120 ki_0 ?_
    refine x_putI X dX4_findRun_121 fl_4_18 ft_4_6 dsX_59 rfl ?_
    exact x_vret X dX4_findRun_124 ⟨rfl, h⟩
  · have h := h.2 hc
    refine x_iload_n X dX4_findRun_15 rfl 1 rfl ?_
    refine x_iload_n X dX4_findRun_16 rfl 3 rfl ?_
    refine x_callSNi X [.int v1, .int v3] [] dX4_findRun_17 (kX10_stopAt h) cm_X10_stopAt w_3_60 (List.mem_of_getElem? (i := 2) rfl) ⟨by decide, by decide⟩ rfl (Nat.le_of_ble_eq_true rfl) (fun r17 σ17 τ17 h => ?_)
    refine x_istore X (lv' := [(4, .int r17), (0, .ref (ad 59)), (1, .int v1), (2, .int v2), (3, .int v3)]) dX4_findRun_20 (by decide) rfl ?_
    refine x_iload_n X dX4_findRun_22 rfl 3 rfl ?_
    refine x_bipush X dX4_findRun_23 kb_10 ?_
    refine x_imul X dX4_findRun_25 ?_
    refine x_istore X (lv' := [(5, .int (v2 * 10)), (4, .int r17), (0, .ref (ad 59)), (1, .int v1), (2, .int v2), (3, .int v3)]) dX4_findRun_26 (by decide) rfl ?_
    refine x_sub X [2, 3, 4, 5, 1, 0] (lv' := [(0, .ref (ad 59)), (1, .int v1), (2, .int v2), (3, .int v3), (4, .int r17), (5, .int (v2 * 10))]) rfl ?_
    exact x_l5_G (fun v1 v2 v3 v4 v5 σ τ => V σ τ 28 [(0, .ref (ad 59)), (1, .int v1), (2, .int v2), (3, .int v3), (4, .int v4), (5, .int v5)] []) (fun K28 hK28 v1 v2 v3 v4 v5 σ τ h => bX4_findRun_28 X hK2 hK28 h) h
set_option maxRecDepth 100000 in
set_option maxHeartbeats 4000000 in
theorem kX4_findRun {ad : Nat → Nat} {a1 : Int32} {a2 : Int32} {σ : x_S} {τ : x_L} {Q : x_S → x_L → Prop} (h : wX4_findRun a1 a2 σ τ Q) : x_Met yX4_findRun cX4_findRun 6 (Option.none : Option Jvm.ClassFile.FieldType) 1 ad dsX [.ref (ad 59), .int a1, .int a2] σ τ (x_PV Q) := by
  refine x_met (by decide +kernel) (Nat.le_of_ble_eq_true rfl) (fun V X => ?_)
  have X : x_Is V cX4_findRun 6 RX4 (Option.none : Option Jvm.ClassFile.FieldType) ad dsX 1 (x_PV Q) := X
  show V σ τ 0 [(0, .ref (ad 59)), (1, .int a1), (2, .int a2)] []
  refine x_iconst X dX4_findRun_0 ki_0 ?_
  refine x_istore_n X (lv' := [(3, .int 0), (0, .ref (ad 59)), (1, .int a1), (2, .int a2)]) dX4_findRun_1 rfl (by decide) rfl ?_
  refine x_sub X [1, 2, 3, 0] (lv' := [(0, .ref (ad 59)), (1, .int a1), (2, .int a2), (3, .int 0)]) rfl ?_
  exact x_l3_G (fun v1 v2 v3 σ τ => V σ τ 2 [(0, .ref (ad 59)), (1, .int v1), (2, .int v2), (3, .int v3)] []) (fun K2 hK2 v1 v2 v3 σ τ h => bX4_findRun_2 X hK2 h) h
theorem dX4_drive_0 : decode cX4_drive 0 = .ok (.iconst 0, 1) := by decide +kernel
theorem dX4_drive_1 : decode cX4_drive 1 = .ok (.istore 4, 2) := by decide +kernel
theorem dX4_drive_3 : decode cX4_drive 3 = .ok (.iload 4, 2) := by decide +kernel
theorem dX4_drive_5 : decode cX4_drive 5 = .ok (.aload_n 0, 1) := by decide +kernel
theorem dX4_drive_6 : decode cX4_drive 6 = .ok (.getfield 18, 3) := by decide +kernel
theorem dX4_drive_9 : decode cX4_drive 9 = .ok (.if_icmp .ge 92, 3) := by decide +kernel
theorem dX4_drive_12 : decode cX4_drive 12 = .ok (.aload_n 0, 1) := by decide +kernel
theorem dX4_drive_13 : decode cX4_drive 13 = .ok (.getfield 33, 3) := by decide +kernel
theorem dX4_drive_16 : decode cX4_drive 16 = .ok (.getfield 88, 3) := by decide +kernel
theorem dX4_drive_19 : decode cX4_drive 19 = .ok (.iload_n 1, 1) := by decide +kernel
theorem dX4_drive_20 : decode cX4_drive 20 = .ok (.iload 4, 2) := by decide +kernel
theorem dX4_drive_22 : decode cX4_drive 22 = .ok (.iadd, 1) := by decide +kernel
theorem dX4_drive_23 : decode cX4_drive 23 = .ok (.iaload, 1) := by decide +kernel
theorem dX4_drive_24 : decode cX4_drive 24 = .ok (.aload_n 0, 1) := by decide +kernel
theorem dX4_drive_25 : decode cX4_drive 25 = .ok (.getfield 33, 3) := by decide +kernel
theorem dX4_drive_28 : decode cX4_drive 28 = .ok (.getfield 88, 3) := by decide +kernel
theorem dX4_drive_31 : decode cX4_drive 31 = .ok (.iload_n 2, 1) := by decide +kernel
theorem dX4_drive_32 : decode cX4_drive 32 = .ok (.iload 4, 2) := by decide +kernel
theorem dX4_drive_34 : decode cX4_drive 34 = .ok (.iadd, 1) := by decide +kernel
theorem dX4_drive_35 : decode cX4_drive 35 = .ok (.iaload, 1) := by decide +kernel
theorem dX4_drive_36 : decode cX4_drive 36 = .ok (.invokestatic 91, 3) := by decide +kernel
theorem dX4_drive_39 : decode cX4_drive 39 = .ok (.istore 5, 2) := by decide +kernel
theorem dX4_drive_41 : decode cX4_drive 41 = .ok (.aload_n 0, 1) := by decide +kernel
theorem dX4_drive_42 : decode cX4_drive 42 = .ok (.getfield 33, 3) := by decide +kernel
theorem dX4_drive_45 : decode cX4_drive 45 = .ok (.getfield 88, 3) := by decide +kernel
theorem dX4_drive_48 : decode cX4_drive 48 = .ok (.iload_n 1, 1) := by decide +kernel
theorem dX4_drive_49 : decode cX4_drive 49 = .ok (.iload 4, 2) := by decide +kernel
theorem dX4_drive_51 : decode cX4_drive 51 = .ok (.iadd, 1) := by decide +kernel
theorem dX4_drive_52 : decode cX4_drive 52 = .ok (.iload 5, 2) := by decide +kernel
theorem dX4_drive_54 : decode cX4_drive 54 = .ok (.iastore, 1) := by decide +kernel
theorem dX4_drive_55 : decode cX4_drive 55 = .ok (.aload_n 0, 1) := by decide +kernel
theorem dX4_drive_56 : decode cX4_drive 56 = .ok (.getfield 33, 3) := by decide +kernel
theorem dX4_drive_59 : decode cX4_drive 59 = .ok (.getfield 88, 3) := by decide +kernel
theorem dX4_drive_62 : decode cX4_drive 62 = .ok (.iload_n 2, 1) := by decide +kernel
theorem dX4_drive_63 : decode cX4_drive 63 = .ok (.iload 4, 2) := by decide +kernel
theorem dX4_drive_65 : decode cX4_drive 65 = .ok (.iadd, 1) := by decide +kernel
theorem dX4_drive_66 : decode cX4_drive 66 = .ok (.iload 5, 2) := by decide +kernel
theorem dX4_drive_68 : decode cX4_drive 68 = .ok (.iastore, 1) := by decide +kernel
theorem dX4_drive_69 : decode cX4_drive 69 = .ok (.aload_n 0, 1) := by decide +kernel
theorem dX4_drive_70 : decode cX4_drive 70 = .ok (.getfield 33, 3) := by decide +kernel
theorem dX4_drive_73 : decode cX4_drive 73 = .ok (.getfield 94, 3) := by decide +kernel
theorem dX4_drive_76 : decode cX4_drive 76 = .ok (.iload_n 1, 1) := by decide +kernel
theorem dX4_drive_77 : decode cX4_drive 77 = .ok (.iload 4, 2) := by decide +kernel
theorem dX4_drive_79 : decode cX4_drive 79 = .ok (.iadd, 1) := by decide +kernel
theorem dX4_drive_80 : decode cX4_drive 80 = .ok (.iconst 0, 1) := by decide +kernel
theorem dX4_drive_81 : decode cX4_drive 81 = .ok (.iastore, 1) := by decide +kernel
theorem dX4_drive_82 : decode cX4_drive 82 = .ok (.aload_n 0, 1) := by decide +kernel
theorem dX4_drive_83 : decode cX4_drive 83 = .ok (.getfield 33, 3) := by decide +kernel
theorem dX4_drive_86 : decode cX4_drive 86 = .ok (.getfield 94, 3) := by decide +kernel
theorem dX4_drive_89 : decode cX4_drive 89 = .ok (.iload_n 2, 1) := by decide +kernel
theorem dX4_drive_90 : decode cX4_drive 90 = .ok (.iload 4, 2) := by decide +kernel
theorem dX4_drive_92 : decode cX4_drive 92 = .ok (.iadd, 1) := by decide +kernel
theorem dX4_drive_93 : decode cX4_drive 93 = .ok (.iconst 0, 1) := by decide +kernel
theorem dX4_drive_94 : decode cX4_drive 94 = .ok (.iastore, 1) := by decide +kernel
theorem dX4_drive_95 : decode cX4_drive 95 = .ok (.iinc 4 1, 3) := by decide +kernel
theorem dX4_drive_98 : decode cX4_drive 98 = .ok (.goto (-95), 3) := by decide +kernel
theorem dX4_drive_101 : decode cX4_drive 101 = .ok (.aload_n 0, 1) := by decide +kernel
theorem dX4_drive_102 : decode cX4_drive 102 = .ok (.getfield 33, 3) := by decide +kernel
theorem dX4_drive_105 : decode cX4_drive 105 = .ok (.getfield 94, 3) := by decide +kernel
theorem dX4_drive_108 : decode cX4_drive 108 = .ok (.iload_n 1, 1) := by decide +kernel
theorem dX4_drive_109 : decode cX4_drive 109 = .ok (.iload_n 3, 1) := by decide +kernel
theorem dX4_drive_110 : decode cX4_drive 110 = .ok (.iconst 0, 1) := by decide +kernel
theorem dX4_drive_111 : decode cX4_drive 111 = .ok (.invokestatic 97, 3) := by decide +kernel
theorem dX4_drive_114 : decode cX4_drive 114 = .ok (.iastore, 1) := by decide +kernel
theorem dX4_drive_115 : decode cX4_drive 115 = .ok (.aload_n 0, 1) := by decide +kernel
theorem dX4_drive_116 : decode cX4_drive 116 = .ok (.getfield 33, 3) := by decide +kernel
theorem dX4_drive_119 : decode cX4_drive 119 = .ok (.getfield 94, 3) := by decide +kernel
theorem dX4_drive_122 : decode cX4_drive 122 = .ok (.iload_n 2, 1) := by decide +kernel
theorem dX4_drive_123 : decode cX4_drive 123 = .ok (.iload_n 3, 1) := by decide +kernel
theorem dX4_drive_124 : decode cX4_drive 124 = .ok (.ineg, 1) := by decide +kernel
theorem dX4_drive_125 : decode cX4_drive 125 = .ok (.iconst 0, 1) := by decide +kernel
theorem dX4_drive_126 : decode cX4_drive 126 = .ok (.invokestatic 97, 3) := by decide +kernel
theorem dX4_drive_129 : decode cX4_drive 129 = .ok (.iastore, 1) := by decide +kernel
theorem dX4_drive_130 : decode cX4_drive 130 = .ok (.return_, 1) := by decide +kernel
theorem cm_X4_drive : x_CM yX4_drive cX4_drive 6 (Option.none : Option Jvm.ClassFile.FieldType) 3 := ⟨w_4_21, w_1_8, by decide +kernel, by decide +kernel⟩
theorem ci_X4_drive : x_CI yX4_drive 6 := ⟨w_4_20, wp_21, (RX4, TX4, 7), rfl, rfl⟩
set_option maxRecDepth 100000 in
set_option maxHeartbeats 4000000 in
theorem bX4_drive_3 {V : x_J} {ad : Nat → Nat} {Q : x_S → x_L → Prop} (X : x_Is V cX4_drive 6 RX4 (Option.none : Option Jvm.ClassFile.FieldType) ad dsX 1 (x_PV Q)) {K3 : Int32 → Int32 → Int32 → Int32 → x_S → x_L → Prop} (hK3 : ∀ v1 v2 v3 v4 σ τ, K3 v1 v2 v3 v4 σ τ → V σ τ 3 [(0, .ref (ad 59)), (1, .int v1), (2, .int v2), (3, .int v3), (4, .int v4)] []) {v1 : Int32} {v2 : Int32} {v3 : Int32} {v4 : Int32} {σ : x_S} {τ : x_L} (h : wX4_drive_3 Q K3 v1 v2 v3 v4 σ τ) : V σ τ 3 [(0, .ref (ad 59)), (1, .int v1), (2, .int v2), (3, .int v3), (4, .int v4)] [] := by
  refine x_iload X dX4_drive_3 4 rfl ?_
  refine x_aload_n X dX4_drive_5 rfl 0 rfl ?_
  refine x_getI X dX4_drive_6 fl_4_18 dsX_59 rfl ?_
  refine x_icmp_ge X 101 dX4_drive_9 (by decide) (fun hc => ?_) (fun hc => ?_)
  · have h := h.1 hc
    refine x_aload_n X dX4_drive_101 rfl 0 rfl ?_
    refine x_getR X (j := 46) dX4_drive_102 fl_4_33 dsX_59 rfl ?_
    refine x_getR X (j := 48) dX4_drive_105 fl_4_94 dsX_46 rfl ?_
    refine x_iload_n X dX4_drive_108 rfl 1 rfl ?_
    refine x_iload_n X dX4_drive_109 rfl 3 rfl ?_
    refine x_iconst X dX4_drive_110 ki_0 ?_
    refine x_mmax X dX4_drive_111 w_4_23 w_3_213 w_1_18 w_3_214 (by decide) (Nat.le_of_ble_eq_true rfl) ?_
    have g114 := h.1
    have h := h.2
    refine x_iast X dX4_drive_114 dsX_48 g114 ?_
    refine x_aload_n X dX4_drive_115 rfl 0 rfl ?_
    refine x_getR X (j := 46) dX4_drive_116 fl_4_33 dsX_59 rfl ?_
    refine x_getR X (j := 48) dX4_drive_119 fl_4_94 dsX_46 rfl ?_
    refine x_iload_n X dX4_drive_122 rfl 2 rfl ?_
    refine x_iload_n X dX4_drive_123 rfl 3 rfl ?_
    refine x_ineg X dX4_drive_124 ?_
    refine x_iconst X dX4_drive_125 ki_0 ?_
    refine x_mmax X dX4_drive_126 w_4_23 w_3_213 w_1_18 w_3_214 (by decide) (Nat.le_of_ble_eq_true rfl) ?_
    have g129 := h.1
    have h := h.2
    refine x_iast X dX4_drive_129 dsX_48 g129 ?_
    exact x_vret X dX4_drive_130 ⟨rfl, h⟩
  · have h := h.2 hc
    refine x_aload_n X dX4_drive_12 rfl 0 rfl ?_
    refine x_getR X (j := 46) dX4_drive_13 fl_4_33 dsX_59 rfl ?_
    refine x_getR X (j := 49) dX4_drive_16 fl_4_88 dsX_46 rfl ?_
    refine x_iload_n X dX4_drive_19 rfl 1 rfl ?_
    refine x_iload X dX4_drive_20 4 rfl ?_
    refine x_iadd X dX4_drive_22 ?_
    have g23 := h.1
    have h := h.2
    refine x_iald X dX4_drive_23 dsX_49 g23 ?_
    refine x_aload_n X dX4_drive_24 rfl 0 rfl ?_
    refine x_getR X (j := 46) dX4_drive_25 fl_4_33 dsX_59 rfl ?_
    refine x_getR X (j := 49) dX4_drive_28 fl_4_88 dsX_46 rfl ?_
    refine x_iload_n X dX4_drive_31 rfl 2 rfl ?_
    refine x_iload X dX4_drive_32 4 rfl ?_
    refine x_iadd X dX4_drive_34 ?_
    have g35 := h.1
    have h := h.2
    refine x_iald X dX4_drive_35 dsX_49 g35 ?_
    refine x_mmin X dX4_drive_36 w_4_22 w_3_96 w_1_18 w_3_97 (by decide) (Nat.le_of_ble_eq_true rfl) ?_
    refine x_istore X (lv' := [(5, .int (if (σ 49 (v2 + v4).toNatClampNeg) < (σ 49 (v1 + v4).toNatClampNeg) then (σ 49 (v2 + v4).toNatClampNeg) else (σ 49 (v1 + v4).toNatClampNeg))), (0, .ref (ad 59)), (1, .int v1), (2, .int v2), (3, .int v3), (4, .int v4)]) dX4_drive_39 (by decide) rfl ?_
    refine x_aload_n X dX4_drive_41 rfl 1 rfl ?_
    refine x_getR X (j := 46) dX4_drive_42 fl_4_33 dsX_59 rfl ?_
    refine x_getR X (j := 49) dX4_drive_45 fl_4_88 dsX_46 rfl ?_
    refine x_iload_n X dX4_drive_48 rfl 2 rfl ?_
    refine x_iload X dX4_drive_49 5 rfl ?_
    refine x_iadd X dX4_drive_51 ?_
    refine x_iload X dX4_drive_52 0 rfl ?_
    refine x_iast X dX4_drive_54 dsX_49 g23 ?_
    refine x_aload_n X dX4_drive_55 rfl 1 rfl ?_
    refine x_getR X (j := 46) dX4_drive_56 fl_4_33 dsX_59 rfl ?_
    refine x_getR X (j := 49) dX4_drive_59 fl_4_88 dsX_46 rfl ?_
    refine x_iload_n X dX4_drive_62 rfl 3 rfl ?_
    refine x_iload X dX4_drive_63 5 rfl ?_
    refine x_iadd X dX4_drive_65 ?_
    refine x_iload X dX4_drive_66 0 rfl ?_
    refine x_iast X dX4_drive_68 dsX_49 g35 ?_
    refine x_aload_n X dX4_drive_69 rfl 1 rfl ?_
    refine x_getR X (j := 46) dX4_drive_70 fl_4_33 dsX_59 rfl ?_
    refine x_getR X (j := 48) dX4_drive_73 fl_4_94 dsX_46 rfl ?_
    refine x_iload_n X dX4_drive_76 rfl 2 rfl ?_
    refine x_iload X dX4_drive_77 5 rfl ?_
    refine x_iadd X dX4_drive_79 ?_
    refine x_iconst X dX4_drive_80 ki_0 ?_
    refine x_iast X dX4_drive_81 dsX_48 g23 ?_
    refine x_aload_n X dX4_drive_82 rfl 1 rfl ?_
    refine x_getR X (j := 46) dX4_drive_83 fl_4_33 dsX_59 rfl ?_
    refine x_getR X (j := 48) dX4_drive_86 fl_4_94 dsX_46 rfl ?_
    refine x_iload_n X dX4_drive_89 rfl 3 rfl ?_
    refine x_iload X dX4_drive_90 5 rfl ?_
    refine x_iadd X dX4_drive_92 ?_
    refine x_iconst X dX4_drive_93 ki_0 ?_
    refine x_iast X dX4_drive_94 dsX_48 g35 ?_
    refine x_iinc X (k := 5) (lv' := [(4, .int (v4 + 1)), (5, .int (if (σ 49 (v2 + v4).toNatClampNeg) < (σ 49 (v1 + v4).toNatClampNeg) then (σ 49 (v2 + v4).toNatClampNeg) else (σ 49 (v1 + v4).toNatClampNeg))), (0, .ref (ad 59)), (1, .int v1), (2, .int v2), (3, .int v3)]) dX4_drive_95 rfl ki_1 (by decide) rfl ?_
    refine x_goto X (tgt := 3) dX4_drive_98 (by decide) ?_
    refine x_sub X [2, 3, 4, 5, 0] (lv' := [(0, .ref (ad 59)), (1, .int v1), (2, .int v2), (3, .int v3), (4, .int (v4 + 1))]) rfl ?_
    exact hK3 _ _ _ _ _ _ h
set_option maxRecDepth 100000 in
set_option maxHeartbeats 4000000 in
theorem kX4_drive {ad : Nat → Nat} {a1 : Int32} {a2 : Int32} {a3 : Int32} {σ : x_S} {τ : x_L} {Q : x_S → x_L → Prop} (h : wX4_drive a1 a2 a3 σ τ Q) : x_Met yX4_drive cX4_drive 6 (Option.none : Option Jvm.ClassFile.FieldType) 1 ad dsX [.ref (ad 59), .int a1, .int a2, .int a3] σ τ (x_PV Q) := by
  refine x_met (by decide +kernel) (Nat.le_of_ble_eq_true rfl) (fun V X => ?_)
  have X : x_Is V cX4_drive 6 RX4 (Option.none : Option Jvm.ClassFile.FieldType) ad dsX 1 (x_PV Q) := X
  show V σ τ 0 [(0, .ref (ad 59)), (1, .int a1), (2, .int a2), (3, .int a3)] []
  refine x_iconst X dX4_drive_0 ki_0 ?_
  refine x_istore X (lv' := [(4, .int 0), (0, .ref (ad 59)), (1, .int a1), (2, .int a2), (3, .int a3)]) dX4_drive_1 (by decide) rfl ?_
  refine x_sub X [1, 2, 3, 4, 0] (lv' := [(0, .ref (ad 59)), (1, .int a1), (2, .int a2), (3, .int a3), (4, .int 0)]) rfl ?_
  exact x_l4_G (fun v1 v2 v3 v4 σ τ => V σ τ 3 [(0, .ref (ad 59)), (1, .int v1), (2, .int v2), (3, .int v3), (4, .int v4)] []) (fun K3 hK3 v1 v2 v3 v4 σ τ h => bX4_drive_3 X hK3 h) h
theorem dX6_copyChoices_0 : decode cX6_copyChoices 0 = .ok (.aload_n 1, 1) := by decide +kernel
theorem dX6_copyChoices_1 : decode cX6_copyChoices 1 = .ok (.getfield 9, 3) := by decide +kernel
theorem dX6_copyChoices_4 : decode cX6_copyChoices 4 = .ok (.iconst 0, 1) := by decide +kernel
theorem dX6_copyChoices_5 : decode cX6_copyChoices 5 = .ok (.aload_n 0, 1) := by decide +kernel
theorem dX6_copyChoices_6 : decode cX6_copyChoices 6 = .ok (.getfield 9, 3) := by decide +kernel
theorem dX6_copyChoices_9 : decode cX6_copyChoices 9 = .ok (.iconst 0, 1) := by decide +kernel
theorem dX6_copyChoices_10 : decode cX6_copyChoices 10 = .ok (.bipush 12, 2) := by decide +kernel
theorem dX6_copyChoices_12 : decode cX6_copyChoices 12 = .ok (.invokestatic 66, 3) := by decide +kernel
theorem dX6_copyChoices_15 : decode cX6_copyChoices 15 = .ok (.aload_n 1, 1) := by decide +kernel
theorem dX6_copyChoices_16 : decode cX6_copyChoices 16 = .ok (.getfield 15, 3) := by decide +kernel
theorem dX6_copyChoices_19 : decode cX6_copyChoices 19 = .ok (.iconst 0, 1) := by decide +kernel
theorem dX6_copyChoices_20 : decode cX6_copyChoices 20 = .ok (.aload_n 0, 1) := by decide +kernel
theorem dX6_copyChoices_21 : decode cX6_copyChoices 21 = .ok (.getfield 15, 3) := by decide +kernel
theorem dX6_copyChoices_24 : decode cX6_copyChoices 24 = .ok (.iconst 0, 1) := by decide +kernel
theorem dX6_copyChoices_25 : decode cX6_copyChoices 25 = .ok (.bipush 120, 2) := by decide +kernel
theorem dX6_copyChoices_27 : decode cX6_copyChoices 27 = .ok (.invokestatic 66, 3) := by decide +kernel
theorem dX6_copyChoices_30 : decode cX6_copyChoices 30 = .ok (.aload_n 1, 1) := by decide +kernel
theorem dX6_copyChoices_31 : decode cX6_copyChoices 31 = .ok (.getfield 18, 3) := by decide +kernel
theorem dX6_copyChoices_34 : decode cX6_copyChoices 34 = .ok (.iconst 0, 1) := by decide +kernel
theorem dX6_copyChoices_35 : decode cX6_copyChoices 35 = .ok (.aload_n 0, 1) := by decide +kernel
theorem dX6_copyChoices_36 : decode cX6_copyChoices 36 = .ok (.getfield 18, 3) := by decide +kernel
theorem dX6_copyChoices_39 : decode cX6_copyChoices 39 = .ok (.iconst 0, 1) := by decide +kernel
theorem dX6_copyChoices_40 : decode cX6_copyChoices 40 = .ok (.bipush 120, 2) := by decide +kernel
theorem dX6_copyChoices_42 : decode cX6_copyChoices 42 = .ok (.invokestatic 66, 3) := by decide +kernel
theorem dX6_copyChoices_45 : decode cX6_copyChoices 45 = .ok (.aload_n 1, 1) := by decide +kernel
theorem dX6_copyChoices_46 : decode cX6_copyChoices 46 = .ok (.getfield 27, 3) := by decide +kernel
theorem dX6_copyChoices_49 : decode cX6_copyChoices 49 = .ok (.iconst 0, 1) := by decide +kernel
theorem dX6_copyChoices_50 : decode cX6_copyChoices 50 = .ok (.aload_n 0, 1) := by decide +kernel
theorem dX6_copyChoices_51 : decode cX6_copyChoices 51 = .ok (.getfield 27, 3) := by decide +kernel
theorem dX6_copyChoices_54 : decode cX6_copyChoices 54 = .ok (.iconst 0, 1) := by decide +kernel
theorem dX6_copyChoices_55 : decode cX6_copyChoices 55 = .ok (.bipush 120, 2) := by decide +kernel
theorem dX6_copyChoices_57 : decode cX6_copyChoices 57 = .ok (.invokestatic 66, 3) := by decide +kernel
theorem dX6_copyChoices_60 : decode cX6_copyChoices 60 = .ok (.return_, 1) := by decide +kernel
theorem cm_X6_copyChoices : x_CM yX6_copyChoices cX6_copyChoices 2 (Option.none : Option Jvm.ClassFile.FieldType) 1 := ⟨w_4_17, w_1_7, by decide +kernel, by decide +kernel⟩
theorem ci_X6_copyChoices : x_CI yX6_copyChoices 8 := ⟨w_4_15, w_4_16, (RX6, TX6, 15), rfl, rfl⟩
set_option maxRecDepth 100000 in
set_option maxHeartbeats 4000000 in
theorem kX6_copyChoices {ad : Nat → Nat} {t : Nat} {o : Nat} (ht : x_pl t) (ho : x_pl o) {σ : x_S} {τ : x_L} {Q : x_S → x_L → Prop} (h : wX6_copyChoices t o σ τ Q) : x_Met yX6_copyChoices cX6_copyChoices 2 (Option.none : Option Jvm.ClassFile.FieldType) 2 ad dsX [.ref (ad t), .ref (ad o)] σ τ (x_PV Q) := by
  refine x_met (by decide +kernel) (Nat.le_of_ble_eq_true rfl) (fun V X => ?_)
  have X : x_Is V cX6_copyChoices 2 RX6 (Option.none : Option Jvm.ClassFile.FieldType) ad dsX 2 (x_PV Q) := X
  show V σ τ 0 [(0, .ref (ad t)), (1, .ref (ad o))] []
  refine x_aload_n X dX6_copyChoices_0 rfl 1 rfl ?_
  refine x_getR X (j := (o + 1)) dX6_copyChoices_1 fl_6_9 (dsX_pl ho) rfl ?_
  refine x_iconst X dX6_copyChoices_4 ki_0 ?_
  refine x_aload_n X dX6_copyChoices_5 rfl 0 rfl ?_
  refine x_getR X (j := (t + 1)) dX6_copyChoices_6 fl_6_9 (dsX_pl ht) rfl ?_
  refine x_iconst X dX6_copyChoices_9 ki_0 ?_
  refine x_bipush X dX6_copyChoices_10 kb_12 ?_
  refine x_copy X dX6_copyChoices_12 w_3_94 w_3_68 w_3_67 w_1_17 (dsX_pl1 ho) (dsX_pl1 ht) (by decide) (Nat.le_of_ble_eq_true rfl) (by decide) ?_
  refine x_aload_n X dX6_copyChoices_15 rfl 1 rfl ?_
  refine x_getR X (j := (o + 2)) dX6_copyChoices_16 fl_6_15 (dsX_pl ho) rfl ?_
  refine x_iconst X dX6_copyChoices_19 ki_0 ?_
  refine x_aload_n X dX6_copyChoices_20 rfl 0 rfl ?_
  refine x_getR X (j := (t + 2)) dX6_copyChoices_21 fl_6_15 (dsX_pl ht) rfl ?_
  refine x_iconst X dX6_copyChoices_24 ki_0 ?_
  refine x_bipush X dX6_copyChoices_25 kb_120 ?_
  refine x_copy X dX6_copyChoices_27 w_3_94 w_3_68 w_3_67 w_1_17 (dsX_pl2 ho) (dsX_pl2 ht) (by decide) (Nat.le_of_ble_eq_true rfl) (by decide) ?_
  refine x_aload_n X dX6_copyChoices_30 rfl 1 rfl ?_
  refine x_getR X (j := (o + 3)) dX6_copyChoices_31 fl_6_18 (dsX_pl ho) rfl ?_
  refine x_iconst X dX6_copyChoices_34 ki_0 ?_
  refine x_aload_n X dX6_copyChoices_35 rfl 0 rfl ?_
  refine x_getR X (j := (t + 3)) dX6_copyChoices_36 fl_6_18 (dsX_pl ht) rfl ?_
  refine x_iconst X dX6_copyChoices_39 ki_0 ?_
  refine x_bipush X dX6_copyChoices_40 kb_120 ?_
  refine x_copy X dX6_copyChoices_42 w_3_94 w_3_68 w_3_67 w_1_17 (dsX_pl3 ho) (dsX_pl3 ht) (by decide) (Nat.le_of_ble_eq_true rfl) (by decide) ?_
  refine x_aload_n X dX6_copyChoices_45 rfl 1 rfl ?_
  refine x_getR X (j := (o + 6)) dX6_copyChoices_46 fl_6_27 (dsX_pl ho) rfl ?_
  refine x_iconst X dX6_copyChoices_49 ki_0 ?_
  refine x_aload_n X dX6_copyChoices_50 rfl 0 rfl ?_
  refine x_getR X (j := (t + 6)) dX6_copyChoices_51 fl_6_27 (dsX_pl ht) rfl ?_
  refine x_iconst X dX6_copyChoices_54 ki_0 ?_
  refine x_bipush X dX6_copyChoices_55 kb_120 ?_
  refine x_copy X dX6_copyChoices_57 w_3_94 w_3_68 w_3_67 w_1_17 (dsX_pl6 ho) (dsX_pl6 ht) (by decide) (Nat.le_of_ble_eq_true rfl) (by decide) ?_
  exact x_vret X dX6_copyChoices_60 ⟨rfl, h⟩
theorem dX6_arrival_0 : decode cX6_arrival 0 = .ok (.aload_n 0, 1) := by decide +kernel
theorem dX6_arrival_1 : decode cX6_arrival 1 = .ok (.getfield 24, 3) := by decide +kernel
theorem dX6_arrival_4 : decode cX6_arrival 4 = .ok (.aload_n 0, 1) := by decide +kernel
theorem dX6_arrival_5 : decode cX6_arrival 5 = .ok (.getfield 57, 3) := by decide +kernel
theorem dX6_arrival_8 : decode cX6_arrival 8 = .ok (.getfield 75, 3) := by decide +kernel
theorem dX6_arrival_11 : decode cX6_arrival 11 = .ok (.iload_n 1, 1) := by decide +kernel
theorem dX6_arrival_12 : decode cX6_arrival 12 = .ok (.iaload, 1) := by decide +kernel
theorem dX6_arrival_13 : decode cX6_arrival 13 = .ok (.iconst 1, 1) := by decide +kernel
theorem dX6_arrival_14 : decode cX6_arrival 14 = .ok (.isub, 1) := by decide +kernel
theorem dX6_arrival_15 : decode cX6_arrival 15 = .ok (.iaload, 1) := by decide +kernel
theorem dX6_arrival_16 : decode cX6_arrival 16 = .ok (.ireturn, 1) := by decide +kernel
theorem cm_X6_arrival : x_CM yX6_arrival cX6_arrival 2 (Option.some FieldType.int) 1 := ⟨w_3_193, w_1_7, by decide +kernel, by decide +kernel⟩
theorem ci_X6_arrival : x_CI yX6_arrival 8 := ⟨w_3_191, w_3_192, (RX6, TX6, 15), rfl, rfl⟩
set_option maxRecDepth 100000 in
set_option maxHeartbeats 4000000 in
theorem kX6_arrival {ad : Nat → Nat} {t : Nat} (ht : x_pl t) {a1 : Int32} {σ : x_S} {τ : x_L} {Q : Int32 → x_S → x_L → Prop} (h : wX6_arrival t a1 σ τ Q) : x_Met yX6_arrival cX6_arrival 2 (Option.some FieldType.int) 0 ad dsX [.ref (ad t), .int a1] σ τ (x_PI Q) := by
  refine x_met (by decide +kernel) (Nat.le_of_ble_eq_true rfl) (fun V X => ?_)
  have X : x_Is V cX6_arrival 2 RX6 (Option.some FieldType.int) ad dsX 0 (x_PI Q) := X
  show V σ τ 0 [(0, .ref (ad t)), (1, .int a1)] []
  refine x_aload_n X dX6_arrival_0 rfl 0 rfl ?_
  refine x_getR X (j := (t + 5)) dX6_arrival_1 fl_6_24 (dsX_pl ht) rfl ?_
  refine x_aload_n X dX6_arrival_4 rfl 0 rfl ?_
  refine x_getR X (j := 27) dX6_arrival_5 fl_6_57 (dsX_pl ht) rfl ?_
  refine x_getR X (j := 30) dX6_arrival_8 fl_6_75 dsX_27 rfl ?_
  refine x_iload_n X dX6_arrival_11 rfl 1 rfl ?_
  have g12 := h.1
  have h := h.2
  refine x_iald X dX6_arrival_12 dsX_30 g12 ?_
  refine x_iconst X dX6_arrival_13 ki_1 ?_
  refine x_isub X dX6_arrival_14 ?_
  have g15 := h.1
  have h := h.2
  refine x_iald X dX6_arrival_15 (dsX_pl5 ht) g15 ?_
  exact x_iret X dX6_arrival_16 ⟨_, rfl, h⟩
theorem dX6_isLate_0 : decode cX6_isLate 0 = .ok (.aload_n 0, 1) := by decide +kernel
theorem dX6_isLate_1 : decode cX6_isLate 1 = .ok (.iload_n 1, 1) := by decide +kernel
theorem dX6_isLate_2 : decode cX6_isLate 2 = .ok (.invokevirtual 159, 3) := by decide +kernel
theorem dX6_isLate_5 : decode cX6_isLate 5 = .ok (.aload_n 0, 1) := by decide +kernel
theorem dX6_isLate_6 : decode cX6_isLate 6 = .ok (.getfield 53, 3) := by decide +kernel
theorem dX6_isLate_9 : decode cX6_isLate 9 = .ok (.getfield 162, 3) := by decide +kernel
theorem dX6_isLate_12 : decode cX6_isLate 12 = .ok (.iload_n 1, 1) := by decide +kernel
theorem dX6_isLate_13 : decode cX6_isLate 13 = .ok (.iaload, 1) := by decide +kernel
theorem dX6_isLate_14 : decode cX6_isLate 14 = .ok (.if_icmp .le 7, 3) := by decide +kernel
theorem dX6_isLate_17 : decode cX6_isLate 17 = .ok (.iconst 1, 1) := by decide +kernel
theorem dX6_isLate_18 : decode cX6_isLate 18 = .ok (.goto 4, 3) := by decide +kernel
theorem dX6_isLate_21 : decode cX6_isLate 21 = .ok (.iconst 0, 1) := by decide +kernel
theorem dX6_isLate_22 : decode cX6_isLate 22 = .ok (.ireturn, 1) := by decide +kernel
theorem cm_X6_isLate : x_CM yX6_isLate cX6_isLate 2 (Option.some FieldType.boolean) 1 := ⟨w_3_189, w_1_7, by decide +kernel, by decide +kernel⟩
theorem ci_X6_isLate : x_CI yX6_isLate 8 := ⟨w_3_187, w_3_188, (RX6, TX6, 15), rfl, rfl⟩
set_option maxRecDepth 100000 in
set_option maxHeartbeats 4000000 in
theorem bX6_isLate_22 {V : x_J} {ad : Nat → Nat} {t : Nat} {Q : Int32 → x_S → x_L → Prop} (X : x_Is V cX6_isLate 2 RX6 (Option.some FieldType.boolean) ad dsX 1 (x_PI Q)) (ht : x_pl t) {s0 : Int32} {σ : x_S} {τ : x_L} (h : wX6_isLate_22 t Q s0 σ τ) : V σ τ 22 [] [.int s0] := by
  exact x_zret X dX6_isLate_22 ⟨h.1, _, rfl, h.2⟩
set_option maxRecDepth 100000 in
set_option maxHeartbeats 4000000 in
theorem kX6_isLate {ad : Nat → Nat} {t : Nat} (ht : x_pl t) {a1 : Int32} {σ : x_S} {τ : x_L} {Q : Int32 → x_S → x_L → Prop} (h : wX6_isLate t a1 σ τ Q) : x_Met yX6_isLate cX6_isLate 2 (Option.some FieldType.boolean) 1 ad dsX [.ref (ad t), .int a1] σ τ (x_PI Q) := by
  refine x_met (by decide +kernel) (Nat.le_of_ble_eq_true rfl) (fun V X => ?_)
  have X : x_Is V cX6_isLate 2 RX6 (Option.some FieldType.boolean) ad dsX 1 (x_PI Q) := X
  show V σ τ 0 [(0, .ref (ad t)), (1, .int a1)] []
  refine x_aload_n X dX6_isLate_0 rfl 0 rfl ?_
  refine x_iload_n X dX6_isLate_1 rfl 1 rfl ?_
  refine x_callVi X [.int a1] [] dX6_isLate_2 (kX6_arrival ht h) cm_X6_arrival ci_X6_arrival w_3_190 (dsX_pl ht) ⟨by decide, by decide⟩ rfl (Nat.le_of_ble_eq_true rfl) (fun r2 σ2 τ2 h => ?_)
  refine x_aload_n X dX6_isLate_5 rfl 0 rfl ?_
  refine x_getR X (j := 3) dX6_isLate_6 fl_6_53 (dsX_pl ht) rfl ?_
  refine x_getR X (j := 9) dX6_isLate_9 fl_6_162 dsX_3 rfl ?_
  refine x_iload_n X dX6_isLate_12 rfl 1 rfl ?_
  have g13 := h.1
  have h := h.2
  refine x_iald X dX6_isLate_13 dsX_9 g13 ?_
  refine x_icmp_le X 21 dX6_isLate_14 (by decide) (fun hc => ?_) (fun hc => ?_)
  · have h := h.1 hc
    refine x_iconst X dX6_isLate_21 ki_0 ?_
    refine x_sub X [] (lv' := []) rfl ?_
    exact bX6_isLate_22 X ht h
  · have h := h.2 hc
    refine x_iconst X dX6_isLate_17 ki_1 ?_
    refine x_goto X (tgt := 22) dX6_isLate_18 (by decide) ?_
    refine x_sub X [] (lv' := []) rfl ?_
    exact bX6_isLate_22 X ht h
theorem dX6_ready_0 : decode cX6_ready 0 = .ok (.iload_n 2, 1) := by decide +kernel
theorem dX6_ready_1 : decode cX6_ready 1 = .ok (.ifCond .ne 12, 3) := by decide +kernel
theorem dX6_ready_4 : decode cX6_ready 4 = .ok (.aload_n 0, 1) := by decide +kernel
theorem dX6_ready_5 : decode cX6_ready 5 = .ok (.getfield 9, 3) := by decide +kernel
theorem dX6_ready_8 : decode cX6_ready 8 = .ok (.iload_n 1, 1) := by decide +kernel
theorem dX6_ready_9 : decode cX6_ready 9 = .ok (.iaload, 1) := by decide +kernel
theorem dX6_ready_10 : decode cX6_ready 10 = .ok (.goto 15, 3) := by decide +kernel
theorem dX6_ready_13 : decode cX6_ready 13 = .ok (.aload_n 0, 1) := by decide +kernel
theorem dX6_ready_14 : decode cX6_ready 14 = .ok (.getfield 24, 3) := by decide +kernel
theorem dX6_ready_17 : decode cX6_ready 17 = .ok (.iload_n 1, 1) := by decide +kernel
theorem dX6_ready_18 : decode cX6_ready 18 = .ok (.iload_n 2, 1) := by decide +kernel
theorem dX6_ready_19 : decode cX6_ready 19 = .ok (.iconst 1, 1) := by decide +kernel
theorem dX6_ready_20 : decode cX6_ready 20 = .ok (.isub, 1) := by decide +kernel
theorem dX6_ready_21 : decode cX6_ready 21 = .ok (.invokestatic 156, 3) := by decide +kernel
theorem dX6_ready_24 : decode cX6_ready 24 = .ok (.iaload, 1) := by decide +kernel
theorem dX6_ready_25 : decode cX6_ready 25 = .ok (.ireturn, 1) := by decide +kernel
theorem cm_X6_ready : x_CM yX6_ready cX6_ready 3 (Option.some FieldType.int) 2 := ⟨w_4_9, w_1_7, by decide +kernel, by decide +kernel⟩
theorem ci_X6_ready : x_CI yX6_ready 8 := ⟨w_4_7, w_4_8, (RX6, TX6, 15), rfl, rfl⟩
set_option maxRecDepth 100000 in
set_option maxHeartbeats 4000000 in
theorem bX6_ready_25 {V : x_J} {ad : Nat → Nat} {t : Nat} {Q : Int32 → x_S → x_L → Prop} (X : x_Is V cX6_ready 3 RX6 (Option.some FieldType.int) ad dsX 1 (x_PI Q)) (ht : x_pl t) {s0 : Int32} {σ : x_S} {τ : x_L} (h : wX6_ready_25 t Q s0 σ τ) : V σ τ 25 [] [.int s0] := by
  exact x_iret X dX6_ready_25 ⟨_, rfl, h⟩
set_option maxRecDepth 100000 in
set_option maxHeartbeats 4000000 in
theorem kX6_ready {ad : Nat → Nat} {t : Nat} (ht : x_pl t) {a1 : Int32} {a2 : Int32} {σ : x_S} {τ : x_L} {Q : Int32 → x_S → x_L → Prop} (h : wX6_ready t a1 a2 σ τ Q) : x_Met yX6_ready cX6_ready 3 (Option.some FieldType.int) 1 ad dsX [.ref (ad t), .int a1, .int a2] σ τ (x_PI Q) := by
  refine x_met (by decide +kernel) (Nat.le_of_ble_eq_true rfl) (fun V X => ?_)
  have X : x_Is V cX6_ready 3 RX6 (Option.some FieldType.int) ad dsX 1 (x_PI Q) := X
  show V σ τ 0 [(0, .ref (ad t)), (1, .int a1), (2, .int a2)] []
  refine x_iload_n X dX6_ready_0 rfl 2 rfl ?_
  refine x_if_ne X 13 dX6_ready_1 (by decide) (fun hc => ?_) (fun hc => ?_)
  · have h := h.1 hc
    refine x_aload_n X dX6_ready_13 rfl 0 rfl ?_
    refine x_getR X (j := (t + 5)) dX6_ready_14 fl_6_24 (dsX_pl ht) rfl ?_
    refine x_iload_n X dX6_ready_17 rfl 1 rfl ?_
    refine x_iload_n X dX6_ready_18 rfl 2 rfl ?_
    refine x_iconst X dX6_ready_19 ki_1 ?_
    refine x_isub X dX6_ready_20 ?_
    refine x_callSNi X [.int a1, .int (a2 - 1)] [.ref (ad (t + 5))] dX6_ready_21 (kX10_stopAt h) cm_X10_stopAt w_3_60 (List.mem_of_getElem? (i := 3) rfl) ⟨by decide, by decide⟩ rfl (Nat.le_of_ble_eq_true rfl) (fun r21 σ21 τ21 h => ?_)
    have g24 := h.1
    have h := h.2
    refine x_iald X dX6_ready_24 (dsX_pl5 ht) g24 ?_
    refine x_sub X [] (lv' := []) rfl ?_
    exact bX6_ready_25 X ht h
  · have h := h.2 hc
    refine x_aload_n X dX6_ready_4 rfl 0 rfl ?_
    refine x_getR X (j := (t + 1)) dX6_ready_5 fl_6_9 (dsX_pl ht) rfl ?_
    refine x_iload_n X dX6_ready_8 rfl 1 rfl ?_
    have g9 := h.1
    have h := h.2
    refine x_iald X dX6_ready_9 (dsX_pl1 ht) g9 ?_
    refine x_goto X (tgt := 25) dX6_ready_10 (by decide) ?_
    refine x_sub X [] (lv' := []) rfl ?_
    exact bX6_ready_25 X ht h
theorem dX6_setTimes_0 : decode cX6_setTimes 0 = .ok (.aload_n 0, 1) := by decide +kernel
theorem dX6_setTimes_1 : decode cX6_setTimes 1 = .ok (.getfield 9, 3) := by decide +kernel
theorem dX6_setTimes_4 : decode cX6_setTimes 4 = .ok (.iload_n 1, 1) := by decide +kernel
theorem dX6_setTimes_5 : decode cX6_setTimes 5 = .ok (.iaload, 1) := by decide +kernel
theorem dX6_setTimes_6 : decode cX6_setTimes 6 = .ok (.istore_n 2, 1) := by decide +kernel
theorem dX6_setTimes_7 : decode cX6_setTimes 7 = .ok (.iload_n 1, 1) := by decide +kernel
theorem dX6_setTimes_8 : decode cX6_setTimes 8 = .ok (.bipush 10, 2) := by decide +kernel
theorem dX6_setTimes_10 : decode cX6_setTimes 10 = .ok (.imul, 1) := by decide +kernel
theorem dX6_setTimes_11 : decode cX6_setTimes 11 = .ok (.istore_n 3, 1) := by decide +kernel
theorem dX6_setTimes_12 : decode cX6_setTimes 12 = .ok (.iload_n 3, 1) := by decide +kernel
theorem dX6_setTimes_13 : decode cX6_setTimes 13 = .ok (.aload_n 0, 1) := by decide +kernel
theorem dX6_setTimes_14 : decode cX6_setTimes 14 = .ok (.getfield 57, 3) := by decide +kernel
theorem dX6_setTimes_17 : decode cX6_setTimes 17 = .ok (.getfield 75, 3) := by decide +kernel
theorem dX6_setTimes_20 : decode cX6_setTimes 20 = .ok (.iload_n 1, 1) := by decide +kernel
theorem dX6_setTimes_21 : decode cX6_setTimes 21 = .ok (.iaload, 1) := by decide +kernel
theorem dX6_setTimes_22 : decode cX6_setTimes 22 = .ok (.if_icmp .ge 60, 3) := by decide +kernel
theorem dX6_setTimes_25 : decode cX6_setTimes 25 = .ok (.aload_n 0, 1) := by decide +kernel
theorem dX6_setTimes_26 : decode cX6_setTimes 26 = .ok (.getfield 21, 3) := by decide +kernel
theorem dX6_setTimes_29 : decode cX6_setTimes 29 = .ok (.iload_n 3, 1) := by decide +kernel
theorem dX6_setTimes_30 : decode cX6_setTimes 30 = .ok (.iload_n 2, 1) := by decide +kernel
theorem dX6_setTimes_31 : decode cX6_setTimes 31 = .ok (.aload_n 0, 1) := by decide +kernel
theorem dX6_setTimes_32 : decode cX6_setTimes 32 = .ok (.getfield 15, 3) := by decide +kernel
theorem dX6_setTimes_35 : decode cX6_setTimes 35 = .ok (.iload_n 3, 1) := by decide +kernel
theorem dX6_setTimes_36 : decode cX6_setTimes 36 = .ok (.iaload, 1) := by decide +kernel
theorem dX6_setTimes_37 : decode cX6_setTimes 37 = .ok (.iadd, 1) := by decide +kernel
theorem dX6_setTimes_38 : decode cX6_setTimes 38 = .ok (.iastore, 1) := by decide +kernel
theorem dX6_setTimes_39 : decode cX6_setTimes 39 = .ok (.aload_n 0, 1) := by decide +kernel
theorem dX6_setTimes_40 : decode cX6_setTimes 40 = .ok (.getfield 21, 3) := by decide +kernel
theorem dX6_setTimes_43 : decode cX6_setTimes 43 = .ok (.iload_n 3, 1) := by decide +kernel
theorem dX6_setTimes_44 : decode cX6_setTimes 44 = .ok (.iaload, 1) := by decide +kernel
theorem dX6_setTimes_45 : decode cX6_setTimes 45 = .ok (.aload_n 0, 1) := by decide +kernel
theorem dX6_setTimes_46 : decode cX6_setTimes 46 = .ok (.getfield 53, 3) := by decide +kernel
theorem dX6_setTimes_49 : decode cX6_setTimes 49 = .ok (.aload_n 0, 1) := by decide +kernel
theorem dX6_setTimes_50 : decode cX6_setTimes 50 = .ok (.getfield 53, 3) := by decide +kernel
theorem dX6_setTimes_53 : decode cX6_setTimes 53 = .ok (.getfield 83, 3) := by decide +kernel
theorem dX6_setTimes_56 : decode cX6_setTimes 56 = .ok (.iload_n 3, 1) := by decide +kernel
theorem dX6_setTimes_57 : decode cX6_setTimes 57 = .ok (.iaload, 1) := by decide +kernel
theorem dX6_setTimes_58 : decode cX6_setTimes 58 = .ok (.aload_n 0, 1) := by decide +kernel
theorem dX6_setTimes_59 : decode cX6_setTimes 59 = .ok (.getfield 18, 3) := by decide +kernel
theorem dX6_setTimes_62 : decode cX6_setTimes 62 = .ok (.iload_n 3, 1) := by decide +kernel
theorem dX6_setTimes_63 : decode cX6_setTimes 63 = .ok (.iaload, 1) := by decide +kernel
theorem dX6_setTimes_64 : decode cX6_setTimes 64 = .ok (.invokevirtual 126, 3) := by decide +kernel
theorem dX6_setTimes_67 : decode cX6_setTimes 67 = .ok (.iadd, 1) := by decide +kernel
theorem dX6_setTimes_68 : decode cX6_setTimes 68 = .ok (.istore_n 2, 1) := by decide +kernel
theorem dX6_setTimes_69 : decode cX6_setTimes 69 = .ok (.aload_n 0, 1) := by decide +kernel
theorem dX6_setTimes_70 : decode cX6_setTimes 70 = .ok (.getfield 24, 3) := by decide +kernel
theorem dX6_setTimes_73 : decode cX6_setTimes 73 = .ok (.iload_n 3, 1) := by decide +kernel
theorem dX6_setTimes_74 : decode cX6_setTimes 74 = .ok (.iload_n 2, 1) := by decide +kernel
theorem dX6_setTimes_75 : decode cX6_setTimes 75 = .ok (.iastore, 1) := by decide +kernel
theorem dX6_setTimes_76 : decode cX6_setTimes 76 = .ok (.iinc 3 1, 3) := by decide +kernel
theorem dX6_setTimes_79 : decode cX6_setTimes 79 = .ok (.goto (-67), 3) := by decide +kernel
theorem dX6_setTimes_82 : decode cX6_setTimes 82 = .ok (.return_, 1) := by decide +kernel
theorem cm_X6_setTimes : x_CM yX6_setTimes cX6_setTimes 4 (Option.none : Option Jvm.ClassFile.FieldType) 1 := ⟨w_3_105, w_1_7, by decide +kernel, by decide +kernel⟩
theorem ci_X6_setTimes : x_CI yX6_setTimes 8 := ⟨w_3_103, w_3_104, (RX6, TX6, 15), rfl, rfl⟩
set_option maxRecDepth 100000 in
set_option maxHeartbeats 4000000 in
theorem bX6_setTimes_12 {V : x_J} {ad : Nat → Nat} {t : Nat} {Q : x_S → x_L → Prop} (X : x_Is V cX6_setTimes 4 RX6 (Option.none : Option Jvm.ClassFile.FieldType) ad dsX 1 (x_PV Q)) (ht : x_pl t) {K12 : Int32 → Int32 → Int32 → x_S → x_L → Prop} (hK12 : ∀ v1 v2 v3 σ τ, K12 v1 v2 v3 σ τ → V σ τ 12 [(0, .ref (ad t)), (1, .int v1), (2, .int v2), (3, .int v3)] []) {v1 : Int32} {v2 : Int32} {v3 : Int32} {σ : x_S} {τ : x_L} (h : wX6_setTimes_12 t Q K12 v1 v2 v3 σ τ) : V σ τ 12 [(0, .ref (ad t)), (1, .int v1), (2, .int v2), (3, .int v3)] [] := by
  refine x_iload_n X dX6_setTimes_12 rfl 3 rfl ?_
  refine x_aload_n X dX6_setTimes_13 rfl 0 rfl ?_
  refine x_getR X (j := 27) dX6_setTimes_14 fl_6_57 (dsX_pl ht) rfl ?_
  refine x_getR X (j := 30) dX6_setTimes_17 fl_6_75 dsX_27 rfl ?_
  refine x_iload_n X dX6_setTimes_20 rfl 1 rfl ?_
  have g21 := h.1
  have h := h.2
  refine x_iald X dX6_setTimes_21 dsX_30 g21 ?_
  refine x_icmp_ge X 82 dX6_setTimes_22 (by decide) (fun hc => ?_) (fun hc => ?_)
  · have h := h.1 hc
    exact x_vret X dX6_setTimes_82 ⟨rfl, h⟩
  · have h := h.2 hc
    refine x_aload_n X dX6_setTimes_25 rfl 0 rfl ?_
    refine x_getR X (j := (t + 4)) dX6_setTimes_26 fl_6_21 (dsX_pl ht) rfl ?_
    refine x_iload_n X dX6_setTimes_29 rfl 3 rfl ?_
    refine x_iload_n X dX6_setTimes_30 rfl 2 rfl ?_
    refine x_aload_n X dX6_setTimes_31 rfl 0 rfl ?_
    refine x_getR X (j := (t + 2)) dX6_setTimes_32 fl_6_15 (dsX_pl ht) rfl ?_
    refine x_iload_n X dX6_setTimes_35 rfl 3 rfl ?_
    have g36 := h.1
    have h := h.2
    refine x_iald X dX6_setTimes_36 (dsX_pl2 ht) g36 ?_
    refine x_iadd X dX6_setTimes_37 ?_
    refine x_iast X dX6_setTimes_38 (dsX_pl4 ht) g36 ?_
    refine x_aload_n X dX6_setTimes_39 rfl 0 rfl ?_
    refine x_getR X (j := (t + 4)) dX6_setTimes_40 fl_6_21 (dsX_pl ht) rfl ?_
    refine x_iload_n X dX6_setTimes_43 rfl 3 rfl ?_
    refine x_iald X dX6_setTimes_44 (dsX_pl4 ht) g36 ?_
    refine x_aload_n X dX6_setTimes_45 rfl 0 rfl ?_
    refine x_getR X (j := 3) dX6_setTimes_46 fl_6_53 (dsX_pl ht) rfl ?_
    refine x_aload_n X dX6_setTimes_49 rfl 0 rfl ?_
    refine x_getR X (j := 3) dX6_setTimes_50 fl_6_53 (dsX_pl ht) rfl ?_
    refine x_getR X (j := 12) dX6_setTimes_53 fl_6_83 dsX_3 rfl ?_
    refine x_iload_n X dX6_setTimes_56 rfl 3 rfl ?_
    refine x_iald X dX6_setTimes_57 dsX_12 g36 ?_
    refine x_aload_n X dX6_setTimes_58 rfl 0 rfl ?_
    refine x_getR X (j := (t + 3)) dX6_setTimes_59 fl_6_18 (dsX_pl ht) rfl ?_
    refine x_iload_n X dX6_setTimes_62 rfl 3 rfl ?_
    refine x_iald X dX6_setTimes_63 (dsX_pl3 ht) g36 ?_
    refine x_callVi X [.int ((x_up σ (t + 4) v3.toNatClampNeg (v2 + (σ (t + 2) v3.toNatClampNeg))) 12 v3.toNatClampNeg), .int ((x_up σ (t + 4) v3.toNatClampNeg (v2 + (σ (t + 2) v3.toNatClampNeg))) (t + 3) v3.toNatClampNeg)] [.int ((x_up σ (t + 4) v3.toNatClampNeg (v2 + (σ (t + 2) v3.toNatClampNeg))) (t + 4) v3.toNatClampNeg)] dX6_setTimes_64 (kX1_minutes h) cm_X1_minutes ci_X1_minutes w_3_106 dsX_3 ⟨by decide, by decide⟩ rfl (Nat.le_of_ble_eq_true rfl) (fun r64 σ64 τ64 h => ?_)
    refine x_iadd X dX6_setTimes_67 ?_
    refine x_istore_n X (lv' := [(2, .int (((x_up σ (t + 4) v3.toNatClampNeg (v2 + (σ (t + 2) v3.toNatClampNeg))) (t + 4) v3.toNatClampNeg) + r64)), (0, .ref (ad t)), (1, .int v1), (3, .int v3)]) dX6_setTimes_68 rfl (by decide) rfl ?_
    refine x_aload_n X dX6_setTimes_69 rfl 1 rfl ?_
    refine x_getR X (j := (t + 5)) dX6_setTimes_70 fl_6_24 (dsX_pl ht) rfl ?_
    refine x_iload_n X dX6_setTimes_73 rfl 3 rfl ?_
    refine x_iload_n X dX6_setTimes_74 rfl 0 rfl ?_
    refine x_iast X dX6_setTimes_75 (dsX_pl5 ht) g36 ?_
    refine x_iinc X (k := 3) (lv' := [(3, .int (v3 + 1)), (2, .int (((x_up σ (t + 4) v3.toNatClampNeg (v2 + (σ (t + 2) v3.toNatClampNeg))) (t + 4) v3.toNatClampNeg) + r64)), (0, .ref (ad t)), (1, .int v1)]) dX6_setTimes_76 rfl ki_1 (by decide) rfl ?_
    refine x_goto X (tgt := 12) dX6_setTimes_79 (by decide) ?_
    refine x_sub X [2, 3, 1, 0] (lv' := [(0, .ref (ad t)), (1, .int v1), (2, .int (((x_up σ (t + 4) v3.toNatClampNeg (v2 + (σ (t + 2) v3.toNatClampNeg))) (t + 4) v3.toNatClampNeg) + r64)), (3, .int (v3 + 1))]) rfl ?_
    exact hK12 _ _ _ _ _ h
set_option maxRecDepth 100000 in
set_option maxHeartbeats 4000000 in
theorem kX6_setTimes {ad : Nat → Nat} {t : Nat} (ht : x_pl t) {a1 : Int32} {σ : x_S} {τ : x_L} {Q : x_S → x_L → Prop} (h : wX6_setTimes t a1 σ τ Q) : x_Met yX6_setTimes cX6_setTimes 4 (Option.none : Option Jvm.ClassFile.FieldType) 1 ad dsX [.ref (ad t), .int a1] σ τ (x_PV Q) := by
  refine x_met (by decide +kernel) (Nat.le_of_ble_eq_true rfl) (fun V X => ?_)
  have X : x_Is V cX6_setTimes 4 RX6 (Option.none : Option Jvm.ClassFile.FieldType) ad dsX 1 (x_PV Q) := X
  show V σ τ 0 [(0, .ref (ad t)), (1, .int a1)] []
  refine x_aload_n X dX6_setTimes_0 rfl 0 rfl ?_
  refine x_getR X (j := (t + 1)) dX6_setTimes_1 fl_6_9 (dsX_pl ht) rfl ?_
  refine x_iload_n X dX6_setTimes_4 rfl 1 rfl ?_
  have g5 := h.1
  have h := h.2
  refine x_iald X dX6_setTimes_5 (dsX_pl1 ht) g5 ?_
  refine x_istore_n X (lv' := [(2, .int (σ (t + 1) a1.toNatClampNeg)), (0, .ref (ad t)), (1, .int a1)]) dX6_setTimes_6 rfl (by decide) rfl ?_
  refine x_iload_n X dX6_setTimes_7 rfl 2 rfl ?_
  refine x_bipush X dX6_setTimes_8 kb_10 ?_
  refine x_imul X dX6_setTimes_10 ?_
  refine x_istore_n X (lv' := [(3, .int (a1 * 10)), (2, .int (σ (t + 1) a1.toNatClampNeg)), (0, .ref (ad t)), (1, .int a1)]) dX6_setTimes_11 rfl (by decide) rfl ?_
  refine x_sub X [2, 3, 1, 0] (lv' := [(0, .ref (ad t)), (1, .int a1), (2, .int (σ (t + 1) a1.toNatClampNeg)), (3, .int (a1 * 10))]) rfl ?_
  exact x_l3_G (fun v1 v2 v3 σ τ => V σ τ 12 [(0, .ref (ad t)), (1, .int v1), (2, .int v2), (3, .int v3)] []) (fun K12 hK12 v1 v2 v3 σ τ h => bX6_setTimes_12 X ht hK12 h) h
theorem dX4_attempt_0 : decode cX4_attempt 0 = .ok (.iload_n 1, 1) := by decide +kernel
theorem dX4_attempt_1 : decode cX4_attempt 1 = .ok (.iload_n 2, 1) := by decide +kernel
theorem dX4_attempt_2 : decode cX4_attempt 2 = .ok (.if_icmp .ne 5, 3) := by decide +kernel
theorem dX4_attempt_5 : decode cX4_attempt 5 = .ok (.iconst 1, 1) := by decide +kernel
theorem dX4_attempt_6 : decode cX4_attempt 6 = .ok (.ireturn, 1) := by decide +kernel
theorem dX4_attempt_7 : decode cX4_attempt 7 = .ok (.aload_n 0, 1) := by decide +kernel
theorem dX4_attempt_8 : decode cX4_attempt 8 = .ok (.iload_n 1, 1) := by decide +kernel
theorem dX4_attempt_9 : decode cX4_attempt 9 = .ok (.iload_n 2, 1) := by decide +kernel
theorem dX4_attempt_10 : decode cX4_attempt 10 = .ok (.invokevirtual 57, 3) := by decide +kernel
theorem dX4_attempt_13 : decode cX4_attempt 13 = .ok (.aload_n 0, 1) := by decide +kernel
theorem dX4_attempt_14 : decode cX4_attempt 14 = .ok (.getfield 18, 3) := by decide +kernel
theorem dX4_attempt_17 : decode cX4_attempt 17 = .ok (.ifCond .ne 5, 3) := by decide +kernel
theorem dX4_attempt_20 : decode cX4_attempt 20 = .ok (.iconst 2, 1) := by decide +kernel
theorem dX4_attempt_21 : decode cX4_attempt 21 = .ok (.ireturn, 1) := by decide +kernel
theorem dX4_attempt_22 : decode cX4_attempt 22 = .ok (.aload_n 0, 1) := by decide +kernel
theorem dX4_attempt_23 : decode cX4_attempt 23 = .ok (.getfield 29, 3) := by decide +kernel
theorem dX4_attempt_26 : decode cX4_attempt 26 = .ok (.iload_n 2, 1) := by decide +kernel
theorem dX4_attempt_27 : decode cX4_attempt 27 = .ok (.aload_n 0, 1) := by decide +kernel
theorem dX4_attempt_28 : decode cX4_attempt 28 = .ok (.getfield 15, 3) := by decide +kernel
theorem dX4_attempt_31 : decode cX4_attempt 31 = .ok (.invokevirtual 61, 3) := by decide +kernel
theorem dX4_attempt_34 : decode cX4_attempt 34 = .ok (.aload_n 0, 1) := by decide +kernel
theorem dX4_attempt_35 : decode cX4_attempt 35 = .ok (.getfield 29, 3) := by decide +kernel
theorem dX4_attempt_38 : decode cX4_attempt 38 = .ok (.iload_n 1, 1) := by decide +kernel
theorem dX4_attempt_39 : decode cX4_attempt 39 = .ok (.aload_n 0, 1) := by decide +kernel
theorem dX4_attempt_40 : decode cX4_attempt 40 = .ok (.getfield 9, 3) := by decide +kernel
theorem dX4_attempt_43 : decode cX4_attempt 43 = .ok (.invokevirtual 61, 3) := by decide +kernel
theorem dX4_attempt_46 : decode cX4_attempt 46 = .ok (.isub, 1) := by decide +kernel
theorem dX4_attempt_47 : decode cX4_attempt 47 = .ok (.istore_n 3, 1) := by decide +kernel
theorem dX4_attempt_48 : decode cX4_attempt 48 = .ok (.iload_n 3, 1) := by decide +kernel
theorem dX4_attempt_49 : decode cX4_attempt 49 = .ok (.invokestatic 66, 3) := by decide +kernel
theorem dX4_attempt_52 : decode cX4_attempt 52 = .ok (.bipush 120, 2) := by decide +kernel
theorem dX4_attempt_54 : decode cX4_attempt 54 = .ok (.if_icmp .le 5, 3) := by decide +kernel
theorem dX4_attempt_57 : decode cX4_attempt 57 = .ok (.iconst 3, 1) := by decide +kernel
theorem dX4_attempt_58 : decode cX4_attempt 58 = .ok (.ireturn, 1) := by decide +kernel
theorem dX4_attempt_59 : decode cX4_attempt 59 = .ok (.aload_n 0, 1) := by decide +kernel
theorem dX4_attempt_60 : decode cX4_attempt 60 = .ok (.getfield 33, 3) := by decide +kernel
theorem dX4_attempt_63 : decode cX4_attempt 63 = .ok (.aload_n 0, 1) := by decide +kernel
theorem dX4_attempt_64 : decode cX4_attempt 64 = .ok (.getfield 29, 3) := by decide +kernel
theorem dX4_attempt_67 : decode cX4_attempt 67 = .ok (.invokevirtual 72, 3) := by decide +kernel
theorem dX4_attempt_70 : decode cX4_attempt 70 = .ok (.aload_n 0, 1) := by decide +kernel
theorem dX4_attempt_71 : decode cX4_attempt 71 = .ok (.iload_n 1, 1) := by decide +kernel
theorem dX4_attempt_72 : decode cX4_attempt 72 = .ok (.aload_n 0, 1) := by decide +kernel
theorem dX4_attempt_73 : decode cX4_attempt 73 = .ok (.getfield 9, 3) := by decide +kernel
theorem dX4_attempt_76 : decode cX4_attempt 76 = .ok (.invokestatic 42, 3) := by decide +kernel
theorem dX4_attempt_79 : decode cX4_attempt 79 = .ok (.iload_n 2, 1) := by decide +kernel
theorem dX4_attempt_80 : decode cX4_attempt 80 = .ok (.aload_n 0, 1) := by decide +kernel
theorem dX4_attempt_81 : decode cX4_attempt 81 = .ok (.getfield 15, 3) := by decide +kernel
theorem dX4_attempt_84 : decode cX4_attempt 84 = .ok (.invokestatic 42, 3) := by decide +kernel
theorem dX4_attempt_87 : decode cX4_attempt 87 = .ok (.iload_n 3, 1) := by decide +kernel
theorem dX4_attempt_88 : decode cX4_attempt 88 = .ok (.invokevirtual 76, 3) := by decide +kernel
theorem dX4_attempt_91 : decode cX4_attempt 91 = .ok (.aload_n 0, 1) := by decide +kernel
theorem dX4_attempt_92 : decode cX4_attempt 92 = .ok (.getfield 33, 3) := by decide +kernel
theorem dX4_attempt_95 : decode cX4_attempt 95 = .ok (.iload_n 1, 1) := by decide +kernel
theorem dX4_attempt_96 : decode cX4_attempt 96 = .ok (.invokevirtual 80, 3) := by decide +kernel
theorem dX4_attempt_99 : decode cX4_attempt 99 = .ok (.aload_n 0, 1) := by decide +kernel
theorem dX4_attempt_100 : decode cX4_attempt 100 = .ok (.getfield 33, 3) := by decide +kernel
theorem dX4_attempt_103 : decode cX4_attempt 103 = .ok (.iload_n 2, 1) := by decide +kernel
theorem dX4_attempt_104 : decode cX4_attempt 104 = .ok (.invokevirtual 80, 3) := by decide +kernel
theorem dX4_attempt_107 : decode cX4_attempt 107 = .ok (.aload_n 0, 1) := by decide +kernel
theorem dX4_attempt_108 : decode cX4_attempt 108 = .ok (.getfield 33, 3) := by decide +kernel
theorem dX4_attempt_111 : decode cX4_attempt 111 = .ok (.iload_n 1, 1) := by decide +kernel
theorem dX4_attempt_112 : decode cX4_attempt 112 = .ok (.invokevirtual 84, 3) := by decide +kernel
theorem dX4_attempt_115 : decode cX4_attempt 115 = .ok (.ifCond .eq 16, 3) := by decide +kernel
theorem dX4_attempt_118 : decode cX4_attempt 118 = .ok (.aload_n 0, 1) := by decide +kernel
theorem dX4_attempt_119 : decode cX4_attempt 119 = .ok (.getfield 29, 3) := by decide +kernel
theorem dX4_attempt_122 : decode cX4_attempt 122 = .ok (.iload_n 1, 1) := by decide +kernel
theorem dX4_attempt_123 : decode cX4_attempt 123 = .ok (.invokevirtual 84, 3) := by decide +kernel
theorem dX4_attempt_126 : decode cX4_attempt 126 = .ok (.ifCond .ne 5, 3) := by decide +kernel
theorem dX4_attempt_129 : decode cX4_attempt 129 = .ok (.iconst 4, 1) := by decide +kernel
theorem dX4_attempt_130 : decode cX4_attempt 130 = .ok (.ireturn, 1) := by decide +kernel
theorem dX4_attempt_131 : decode cX4_attempt 131 = .ok (.aload_n 0, 1) := by decide +kernel
theorem dX4_attempt_132 : decode cX4_attempt 132 = .ok (.getfield 33, 3) := by decide +kernel
theorem dX4_attempt_135 : decode cX4_attempt 135 = .ok (.iload_n 2, 1) := by decide +kernel
theorem dX4_attempt_136 : decode cX4_attempt 136 = .ok (.invokevirtual 84, 3) := by decide +kernel
theorem dX4_attempt_139 : decode cX4_attempt 139 = .ok (.ifCond .eq 18, 3) := by decide +kernel
theorem dX4_attempt_142 : decode cX4_attempt 142 = .ok (.aload_n 0, 1) := by decide +kernel
theorem dX4_attempt_143 : decode cX4_attempt 143 = .ok (.getfield 29, 3) := by decide +kernel
theorem dX4_attempt_146 : decode cX4_attempt 146 = .ok (.iload_n 2, 1) := by decide +kernel
theorem dX4_attempt_147 : decode cX4_attempt 147 = .ok (.invokevirtual 84, 3) := by decide +kernel
theorem dX4_attempt_150 : decode cX4_attempt 150 = .ok (.ifCond .ne 7, 3) := by decide +kernel
theorem dX4_attempt_153 : decode cX4_attempt 153 = .ok (.iconst 5, 1) := by decide +kernel
theorem dX4_attempt_154 : decode cX4_attempt 154 = .ok (.goto 4, 3) := by decide +kernel
theorem dX4_attempt_157 : decode cX4_attempt 157 = .ok (.iconst 0, 1) := by decide +kernel
theorem dX4_attempt_158 : decode cX4_attempt 158 = .ok (.ireturn, 1) := by decide +kernel
theorem cm_X4_attempt : x_CM yX4_attempt cX4_attempt 4 (Option.some FieldType.int) 2 := ⟨w_3_239, w_1_8, by decide +kernel, by decide +kernel⟩
theorem ci_X4_attempt : x_CI yX4_attempt 6 := ⟨w_3_237, w_3_238, (RX4, TX4, 7), rfl, rfl⟩
set_option maxRecDepth 100000 in
set_option maxHeartbeats 4000000 in
theorem bX4_attempt_158 {V : x_J} {ad : Nat → Nat} {Q : Int32 → x_S → x_L → Prop} (X : x_Is V cX4_attempt 4 RX4 (Option.some FieldType.int) ad dsX 3 (x_PI Q)) {s0 : Int32} {σ : x_S} {τ : x_L} (h : wX4_attempt_158 Q s0 σ τ) : V σ τ 158 [] [.int s0] := by
  exact x_iret X dX4_attempt_158 ⟨_, rfl, h⟩
set_option maxRecDepth 100000 in
set_option maxHeartbeats 4000000 in
theorem bX4_attempt_157 {V : x_J} {ad : Nat → Nat} {Q : Int32 → x_S → x_L → Prop} (X : x_Is V cX4_attempt 4 RX4 (Option.some FieldType.int) ad dsX 3 (x_PI Q)) {σ : x_S} {τ : x_L} (h : wX4_attempt_157 Q σ τ) : V σ τ 157 [] [] := by
  refine x_iconst X dX4_attempt_157 ki_0 ?_
  exact bX4_attempt_158 X h
set_option maxRecDepth 100000 in
set_option maxHeartbeats 4000000 in
theorem bX4_attempt_131 {V : x_J} {ad : Nat → Nat} {Q : Int32 → x_S → x_L → Prop} (X : x_Is V cX4_attempt 4 RX4 (Option.some FieldType.int) ad dsX 3 (x_PI Q)) {v2 : Int32} {σ : x_S} {τ : x_L} (h : wX4_attempt_131 Q v2 σ τ) : V σ τ 131 [(0, .ref (ad 59)), (2, .int v2)] [] := by
  refine x_aload_n X dX4_attempt_131 rfl 0 rfl ?_
  refine x_getR X (j := 46) dX4_attempt_132 fl_4_33 dsX_59 rfl ?_
  refine x_iload_n X dX4_attempt_135 rfl 1 rfl ?_
  refine x_callVi X [.int v2] [] dX4_attempt_136 (kX6_isLate x_pl46 h) cm_X6_isLate ci_X6_isLate w_4_25 dsX_46 ⟨by decide, by decide⟩ rfl (Nat.le_of_ble_eq_true rfl) (fun r136 σ136 τ136 h => ?_)
  refine x_if_eq X 157 dX4_attempt_139 (by decide) (fun hc => ?_) (fun hc => ?_)
  · have h := h.1 hc
    refine x_sub X [] (lv' := []) rfl ?_
    exact bX4_attempt_157 X h
  · have h := h.2 hc
    refine x_aload_n X dX4_attempt_142 rfl 0 rfl ?_
    refine x_getR X (j := 33) dX4_attempt_143 fl_4_29 dsX_59 rfl ?_
    refine x_iload_n X dX4_attempt_146 rfl 1 rfl ?_
    refine x_callVi X [.int v2] [] dX4_attempt_147 (kX6_isLate x_pl33 h) cm_X6_isLate ci_X6_isLate w_4_25 dsX_33 ⟨by decide, by decide⟩ rfl (Nat.le_of_ble_eq_true rfl) (fun r147 σ147 τ147 h => ?_)
    refine x_if_ne X 157 dX4_attempt_150 (by decide) (fun hc => ?_) (fun hc => ?_)
    · have h := h.1 hc
      refine x_sub X [] (lv' := []) rfl ?_
      exact bX4_attempt_157 X h
    · have h := h.2 hc
      refine x_iconst X dX4_attempt_153 ki_5 ?_
      refine x_goto X (tgt := 158) dX4_attempt_154 (by decide) ?_
      refine x_sub X [] (lv' := []) rfl ?_
      exact bX4_attempt_158 X h
set_option maxRecDepth 100000 in
set_option maxHeartbeats 4000000 in
theorem kX4_attempt {ad : Nat → Nat} {a1 : Int32} {a2 : Int32} {σ : x_S} {τ : x_L} {Q : Int32 → x_S → x_L → Prop} (h : wX4_attempt a1 a2 σ τ Q) : x_Met yX4_attempt cX4_attempt 4 (Option.some FieldType.int) 3 ad dsX [.ref (ad 59), .int a1, .int a2] σ τ (x_PI Q) := by
  refine x_met (by decide +kernel) (Nat.le_of_ble_eq_true rfl) (fun V X => ?_)
  have X : x_Is V cX4_attempt 4 RX4 (Option.some FieldType.int) ad dsX 3 (x_PI Q) := X
  show V σ τ 0 [(0, .ref (ad 59)), (1, .int a1), (2, .int a2)] []
  refine x_iload_n X dX4_attempt_0 rfl 1 rfl ?_
  refine x_iload_n X dX4_attempt_1 rfl 2 rfl ?_
  refine x_icmp_ne X 7 dX4_attempt_2 (by decide) (fun hc => ?_) (fun hc => ?_)
  · have h := h.1 hc
    refine x_aload_n X dX4_attempt_7 rfl 0 rfl ?_
    refine x_iload_n X dX4_attempt_8 rfl 1 rfl ?_
    refine x_iload_n X dX4_attempt_9 rfl 2 rfl ?_
    refine x_callVv X [.int a1, .int a2] [] dX4_attempt_10 (kX4_findRun h) cm_X4_findRun ci_X4_findRun w_4_0 dsX_59 ⟨by decide, by decide⟩ rfl (Nat.le_of_ble_eq_true rfl) (fun σ10 τ10 h => ?_)
    refine x_aload_n X dX4_attempt_13 rfl 0 rfl ?_
    refine x_getI X dX4_attempt_14 fl_4_18 dsX_59 rfl ?_
    refine x_if_ne X 22 dX4_attempt_17 (by decide) (fun hc => ?_) (fun hc => ?_)
    · have h := h.1 hc
      refine x_aload_n X dX4_attempt_22 rfl 0 rfl ?_
      refine x_getR X (j := 33) dX4_attempt_23 fl_4_29 dsX_59 rfl ?_
      refine x_iload_n X dX4_attempt_26 rfl 2 rfl ?_
      refine x_aload_n X dX4_attempt_27 rfl 0 rfl ?_
      refine x_getI X dX4_attempt_28 fl_4_15 dsX_59 rfl ?_
      refine x_callVi X [.int a2, .int (σ10 59 5)] [] dX4_attempt_31 (kX6_ready x_pl33 h) cm_X6_ready ci_X6_ready w_4_6 dsX_33 ⟨by decide, by decide⟩ rfl (Nat.le_of_ble_eq_true rfl) (fun r31 σ31 τ31 h => ?_)
      refine x_aload_n X dX4_attempt_34 rfl 0 rfl ?_
      refine x_getR X (j := 33) dX4_attempt_35 fl_4_29 dsX_59 rfl ?_
      refine x_iload_n X dX4_attempt_38 rfl 1 rfl ?_
      refine x_aload_n X dX4_attempt_39 rfl 0 rfl ?_
      refine x_getI X dX4_attempt_40 fl_4_9 dsX_59 rfl ?_
      refine x_callVi X [.int a1, .int (σ31 59 4)] [.int r31] dX4_attempt_43 (kX6_ready x_pl33 h) cm_X6_ready ci_X6_ready w_4_6 dsX_33 ⟨by decide, by decide⟩ rfl (Nat.le_of_ble_eq_true rfl) (fun r43 σ43 τ43 h => ?_)
      refine x_isub X dX4_attempt_46 ?_
      refine x_istore_n X (lv' := [(3, .int (r31 - r43)), (0, .ref (ad 59)), (1, .int a1), (2, .int a2)]) dX4_attempt_47 rfl (by decide) rfl ?_
      refine x_iload_n X dX4_attempt_48 rfl 0 rfl ?_
      refine x_mabs X dX4_attempt_49 w_4_11 w_4_12 w_1_18 w_4_13 (by decide) (Nat.le_of_ble_eq_true rfl) ?_
      refine x_bipush X dX4_attempt_52 kb_120 ?_
      refine x_icmp_le X 59 dX4_attempt_54 (by decide) (fun hc => ?_) (fun hc => ?_)
      · have h := h.1 hc
        refine x_aload_n X dX4_attempt_59 rfl 1 rfl ?_
        refine x_getR X (j := 46) dX4_attempt_60 fl_4_33 dsX_59 rfl ?_
        refine x_aload_n X dX4_attempt_63 rfl 1 rfl ?_
        refine x_getR X (j := 33) dX4_attempt_64 fl_4_29 dsX_59 rfl ?_
        refine x_callVv X [.ref (ad 33)] [] dX4_attempt_67 (kX6_copyChoices x_pl46 x_pl33 h) cm_X6_copyChoices ci_X6_copyChoices w_4_14 dsX_46 ⟨by decide, by decide⟩ rfl (Nat.le_of_ble_eq_true rfl) (fun σ67 τ67 h => ?_)
        refine x_aload_n X dX4_attempt_70 rfl 1 rfl ?_
        refine x_iload_n X dX4_attempt_71 rfl 2 rfl ?_
        refine x_aload_n X dX4_attempt_72 rfl 1 rfl ?_
        refine x_getI X dX4_attempt_73 fl_4_9 dsX_59 rfl ?_
        refine x_callSNi X [.int a1, .int (σ67 59 4)] [.ref (ad 59)] dX4_attempt_76 (kX10_stopAt h) cm_X10_stopAt w_3_60 (List.mem_of_getElem? (i := 2) rfl) ⟨by decide, by decide⟩ rfl (Nat.le_of_ble_eq_true rfl) (fun r76 σ76 τ76 h => ?_)
        refine x_iload_n X dX4_attempt_79 rfl 3 rfl ?_
        refine x_aload_n X dX4_attempt_80 rfl 1 rfl ?_
        refine x_getI X dX4_attempt_81 fl_4_15 dsX_59 rfl ?_
        refine x_callSNi X [.int a2, .int (σ76 59 5)] [.int r76, .ref (ad 59)] dX4_attempt_84 (kX10_stopAt h) cm_X10_stopAt w_3_60 (List.mem_of_getElem? (i := 2) rfl) ⟨by decide, by decide⟩ rfl (Nat.le_of_ble_eq_true rfl) (fun r84 σ84 τ84 h => ?_)
        refine x_iload_n X dX4_attempt_87 rfl 0 rfl ?_
        refine x_callVv X [.int r76, .int r84, .int (r31 - r43)] [] dX4_attempt_88 (kX4_drive h) cm_X4_drive ci_X4_drive w_4_18 dsX_59 ⟨by decide, by decide⟩ rfl (Nat.le_of_ble_eq_true rfl) (fun σ88 τ88 h => ?_)
        refine x_aload_n X dX4_attempt_91 rfl 1 rfl ?_
        refine x_getR X (j := 46) dX4_attempt_92 fl_4_33 dsX_59 rfl ?_
        refine x_iload_n X dX4_attempt_95 rfl 2 rfl ?_
        refine x_callVv X [.int a1] [] dX4_attempt_96 (kX6_setTimes x_pl46 h) cm_X6_setTimes ci_X6_setTimes w_4_24 dsX_46 ⟨by decide, by decide⟩ rfl (Nat.le_of_ble_eq_true rfl) (fun σ96 τ96 h => ?_)
        refine x_aload_n X dX4_attempt_99 rfl 1 rfl ?_
        refine x_getR X (j := 46) dX4_attempt_100 fl_4_33 dsX_59 rfl ?_
        refine x_iload_n X dX4_attempt_103 rfl 3 rfl ?_
        refine x_callVv X [.int a2] [] dX4_attempt_104 (kX6_setTimes x_pl46 h) cm_X6_setTimes ci_X6_setTimes w_4_24 dsX_46 ⟨by decide, by decide⟩ rfl (Nat.le_of_ble_eq_true rfl) (fun σ104 τ104 h => ?_)
        refine x_aload_n X dX4_attempt_107 rfl 1 rfl ?_
        refine x_getR X (j := 46) dX4_attempt_108 fl_4_33 dsX_59 rfl ?_
        refine x_iload_n X dX4_attempt_111 rfl 2 rfl ?_
        refine x_callVi X [.int a1] [] dX4_attempt_112 (kX6_isLate x_pl46 h) cm_X6_isLate ci_X6_isLate w_4_25 dsX_46 ⟨by decide, by decide⟩ rfl (Nat.le_of_ble_eq_true rfl) (fun r112 σ112 τ112 h => ?_)
        refine x_if_eq X 131 dX4_attempt_115 (by decide) (fun hc => ?_) (fun hc => ?_)
        · have h := h.1 hc
          refine x_sub X [1, 3] (lv' := [(0, .ref (ad 59)), (2, .int a2)]) rfl ?_
          exact bX4_attempt_131 X h
        · have h := h.2 hc
          refine x_aload_n X dX4_attempt_118 rfl 1 rfl ?_
          refine x_getR X (j := 33) dX4_attempt_119 fl_4_29 dsX_59 rfl ?_
          refine x_iload_n X dX4_attempt_122 rfl 2 rfl ?_
          refine x_callVi X [.int a1] [] dX4_attempt_123 (kX6_isLate x_pl33 h) cm_X6_isLate ci_X6_isLate w_4_25 dsX_33 ⟨by decide, by decide⟩ rfl (Nat.le_of_ble_eq_true rfl) (fun r123 σ123 τ123 h => ?_)
          refine x_if_ne X 131 dX4_attempt_126 (by decide) (fun hc => ?_) (fun hc => ?_)
          · have h := h.1 hc
            refine x_sub X [1, 3] (lv' := [(0, .ref (ad 59)), (2, .int a2)]) rfl ?_
            exact bX4_attempt_131 X h
          · have h := h.2 hc
            refine x_iconst X dX4_attempt_129 ki_4 ?_
            exact x_iret X dX4_attempt_130 ⟨_, rfl, h⟩
      · have h := h.2 hc
        refine x_iconst X dX4_attempt_57 ki_3 ?_
        exact x_iret X dX4_attempt_58 ⟨_, rfl, h⟩
    · have h := h.2 hc
      refine x_iconst X dX4_attempt_20 ki_2 ?_
      exact x_iret X dX4_attempt_21 ⟨_, rfl, h⟩
  · have h := h.2 hc
    refine x_iconst X dX4_attempt_5 ki_1 ?_
    exact x_iret X dX4_attempt_6 ⟨_, rfl, h⟩
theorem dX5_put_0 : decode cX5_put 0 = .ok (.aload_n 0, 1) := by decide +kernel
theorem dX5_put_1 : decode cX5_put 1 = .ok (.getfield 15, 3) := by decide +kernel
theorem dX5_put_4 : decode cX5_put 4 = .ok (.sipush 130, 3) := by decide +kernel
theorem dX5_put_7 : decode cX5_put 7 = .ok (.if_icmp .ge 24, 3) := by decide +kernel
theorem dX5_put_10 : decode cX5_put 10 = .ok (.aload_n 0, 1) := by decide +kernel
theorem dX5_put_11 : decode cX5_put 11 = .ok (.getfield 11, 3) := by decide +kernel
theorem dX5_put_14 : decode cX5_put 14 = .ok (.aload_n 0, 1) := by decide +kernel
theorem dX5_put_15 : decode cX5_put 15 = .ok (.getfield 15, 3) := by decide +kernel
theorem dX5_put_18 : decode cX5_put 18 = .ok (.iload_n 1, 1) := by decide +kernel
theorem dX5_put_19 : decode cX5_put 19 = .ok (.i2b, 1) := by decide +kernel
theorem dX5_put_20 : decode cX5_put 20 = .ok (.bastore, 1) := by decide +kernel
theorem dX5_put_21 : decode cX5_put 21 = .ok (.aload_n 0, 1) := by decide +kernel
theorem dX5_put_22 : decode cX5_put 22 = .ok (.dup, 1) := by decide +kernel
theorem dX5_put_23 : decode cX5_put 23 = .ok (.getfield 15, 3) := by decide +kernel
theorem dX5_put_26 : decode cX5_put 26 = .ok (.iconst 1, 1) := by decide +kernel
theorem dX5_put_27 : decode cX5_put 27 = .ok (.iadd, 1) := by decide +kernel
theorem dX5_put_28 : decode cX5_put 28 = .ok (.putfield 15, 3) := by decide +kernel
theorem dX5_put_31 : decode cX5_put 31 = .ok (.return_, 1) := by decide +kernel
theorem cm_X5_put : x_CM yX5_put cX5_put 2 (Option.none : Option Jvm.ClassFile.FieldType) 1 := ⟨w_6_178, w_1_11, by decide +kernel, by decide +kernel⟩
theorem ci_X5_put : x_CI yX5_put 7 := ⟨w_6_176, w_6_177, (RX5, TX5, 2), rfl, rfl⟩
set_option maxRecDepth 100000 in
set_option maxHeartbeats 4000000 in
theorem bX5_put_31 {V : x_J} {ad : Nat → Nat} {Q : x_S → x_L → Prop} (X : x_Is V cX5_put 2 RX5 (Option.none : Option Jvm.ClassFile.FieldType) ad dsX 0 (x_PV Q)) {σ : x_S} {τ : x_L} (h : wX5_put_31 Q σ τ) : V σ τ 31 [] [] := by
  exact x_vret X dX5_put_31 ⟨rfl, h⟩
set_option maxRecDepth 100000 in
set_option maxHeartbeats 4000000 in
theorem kX5_put {ad : Nat → Nat} {a1 : Int32} {σ : x_S} {τ : x_L} {Q : x_S → x_L → Prop} (h : wX5_put a1 σ τ Q) : x_Met yX5_put cX5_put 2 (Option.none : Option Jvm.ClassFile.FieldType) 0 ad dsX [.ref (ad 84), .int a1] σ τ (x_PV Q) := by
  refine x_met (by decide +kernel) (Nat.le_of_ble_eq_true rfl) (fun V X => ?_)
  have X : x_Is V cX5_put 2 RX5 (Option.none : Option Jvm.ClassFile.FieldType) ad dsX 0 (x_PV Q) := X
  show V σ τ 0 [(0, .ref (ad 84)), (1, .int a1)] []
  refine x_aload_n X dX5_put_0 rfl 0 rfl ?_
  refine x_getI X dX5_put_1 fl_5_15 dsX_84 rfl ?_
  refine x_sipush X dX5_put_4 ks_130 ?_
  refine x_icmp_ge X 31 dX5_put_7 (by decide) (fun hc => ?_) (fun hc => ?_)
  · have h := h.1 hc
    refine x_sub X [] (lv' := []) rfl ?_
    exact bX5_put_31 X h
  · have h := h.2 hc
    refine x_aload_n X dX5_put_10 rfl 0 rfl ?_
    refine x_getR X (j := 85) dX5_put_11 fl_5_11 dsX_84 rfl ?_
    refine x_aload_n X dX5_put_14 rfl 0 rfl ?_
    refine x_getI X dX5_put_15 fl_5_15 dsX_84 rfl ?_
    refine x_iload_n X dX5_put_18 rfl 1 rfl ?_
    refine x_i2b X dX5_put_19 ?_
    have g20 := h.1
    have h := h.2
    refine x_bast X dX5_put_20 dsX_85 g20 ?_
    refine x_aload_n X dX5_put_21 rfl 0 rfl ?_
    refine x_dup X dX5_put_22 rfl ?_
    refine x_getI X dX5_put_23 fl_5_15 dsX_84 rfl ?_
    refine x_iconst X dX5_put_26 ki_1 ?_
    refine x_iadd X dX5_put_27 ?_
    refine x_putI X dX5_put_28 fl_5_15 ft_5_1 dsX_84 rfl ?_
    refine x_sub X [] (lv' := []) rfl ?_
    exact bX5_put_31 X h
theorem dX5_putNumber_0 : decode cX5_putNumber 0 = .ok (.sipush 1000, 3) := by decide +kernel
theorem dX5_putNumber_3 : decode cX5_putNumber 3 = .ok (.istore_n 2, 1) := by decide +kernel
theorem dX5_putNumber_4 : decode cX5_putNumber 4 = .ok (.iload_n 2, 1) := by decide +kernel
theorem dX5_putNumber_5 : decode cX5_putNumber 5 = .ok (.iconst 1, 1) := by decide +kernel
theorem dX5_putNumber_6 : decode cX5_putNumber 6 = .ok (.if_icmp .lt 34, 3) := by decide +kernel
theorem dX5_putNumber_9 : decode cX5_putNumber 9 = .ok (.iload_n 1, 1) := by decide +kernel
theorem dX5_putNumber_10 : decode cX5_putNumber 10 = .ok (.iload_n 2, 1) := by decide +kernel
theorem dX5_putNumber_11 : decode cX5_putNumber 11 = .ok (.if_icmp .ge 8, 3) := by decide +kernel
theorem dX5_putNumber_14 : decode cX5_putNumber 14 = .ok (.iload_n 2, 1) := by decide +kernel
theorem dX5_putNumber_15 : decode cX5_putNumber 15 = .ok (.iconst 1, 1) := by decide +kernel
theorem dX5_putNumber_16 : decode cX5_putNumber 16 = .ok (.if_icmp .ne 16, 3) := by decide +kernel
theorem dX5_putNumber_19 : decode cX5_putNumber 19 = .ok (.aload_n 0, 1) := by decide +kernel
theorem dX5_putNumber_20 : decode cX5_putNumber 20 = .ok (.bipush 48, 2) := by decide +kernel
theorem dX5_putNumber_22 : decode cX5_putNumber 22 = .ok (.iload_n 1, 1) := by decide +kernel
theorem dX5_putNumber_23 : decode cX5_putNumber 23 = .ok (.iload_n 2, 1) := by decide +kernel
theorem dX5_putNumber_24 : decode cX5_putNumber 24 = .ok (.idiv, 1) := by decide +kernel
theorem dX5_putNumber_25 : decode cX5_putNumber 25 = .ok (.bipush 10, 2) := by decide +kernel
theorem dX5_putNumber_27 : decode cX5_putNumber 27 = .ok (.irem, 1) := by decide +kernel
theorem dX5_putNumber_28 : decode cX5_putNumber 28 = .ok (.iadd, 1) := by decide +kernel
theorem dX5_putNumber_29 : decode cX5_putNumber 29 = .ok (.invokevirtual 19, 3) := by decide +kernel
theorem dX5_putNumber_32 : decode cX5_putNumber 32 = .ok (.iload_n 2, 1) := by decide +kernel
theorem dX5_putNumber_33 : decode cX5_putNumber 33 = .ok (.bipush 10, 2) := by decide +kernel
theorem dX5_putNumber_35 : decode cX5_putNumber 35 = .ok (.idiv, 1) := by decide +kernel
theorem dX5_putNumber_36 : decode cX5_putNumber 36 = .ok (.istore_n 2, 1) := by decide +kernel
theorem dX5_putNumber_37 : decode cX5_putNumber 37 = .ok (.goto (-33), 3) := by decide +kernel
theorem dX5_putNumber_40 : decode cX5_putNumber 40 = .ok (.return_, 1) := by decide +kernel
theorem cm_X5_putNumber : x_CM yX5_putNumber cX5_putNumber 3 (Option.none : Option Jvm.ClassFile.FieldType) 1 := ⟨w_6_182, w_1_11, by decide +kernel, by decide +kernel⟩
theorem ci_X5_putNumber : x_CI yX5_putNumber 7 := ⟨w_6_180, w_6_181, (RX5, TX5, 2), rfl, rfl⟩
set_option maxRecDepth 100000 in
set_option maxHeartbeats 4000000 in
theorem bX5_putNumber_32 {V : x_J} {ad : Nat → Nat} {Q : x_S → x_L → Prop} (X : x_Is V cX5_putNumber 3 RX5 (Option.none : Option Jvm.ClassFile.FieldType) ad dsX 1 (x_PV Q)) {K4 : Int32 → Int32 → x_S → x_L → Prop} (hK4 : ∀ v1 v2 σ τ, K4 v1 v2 σ τ → V σ τ 4 [(0, .ref (ad 84)), (1, .int v1), (2, .int v2)] []) {v1 : Int32} {v2 : Int32} {σ : x_S} {τ : x_L} (h : wX5_putNumber_32 K4 Q v1 v2 σ τ) : V σ τ 32 [(0, .ref (ad 84)), (1, .int v1), (2, .int v2)] [] := by
  refine x_iload_n X dX5_putNumber_32 rfl 2 rfl ?_
  refine x_bipush X dX5_putNumber_33 kb_10 ?_
  refine x_idiv X dX5_putNumber_35 (by decide) ?_
  refine x_istore_n X (lv' := [(2, .int (v2 / 10)), (0, .ref (ad 84)), (1, .int v1)]) dX5_putNumber_36 rfl (by decide) rfl ?_
  refine x_goto X (tgt := 4) dX5_putNumber_37 (by decide) ?_
  refine x_sub X [1, 2, 0] (lv' := [(0, .ref (ad 84)), (1, .int v1), (2, .int (v2 / 10))]) rfl ?_
  exact hK4 _ _ _ _ h
set_option maxRecDepth 100000 in
set_option maxHeartbeats 4000000 in
theorem bX5_putNumber_19 {V : x_J} {ad : Nat → Nat} {Q : x_S → x_L → Prop} (X : x_Is V cX5_putNumber 3 RX5 (Option.none : Option Jvm.ClassFile.FieldType) ad dsX 1 (x_PV Q)) {K4 : Int32 → Int32 → x_S → x_L → Prop} (hK4 : ∀ v1 v2 σ τ, K4 v1 v2 σ τ → V σ τ 4 [(0, .ref (ad 84)), (1, .int v1), (2, .int v2)] []) {v1 : Int32} {v2 : Int32} {σ : x_S} {τ : x_L} (h : wX5_putNumber_19 K4 Q v1 v2 σ τ) : V σ τ 19 [(0, .ref (ad 84)), (1, .int v1), (2, .int v2)] [] := by
  refine x_aload_n X dX5_putNumber_19 rfl 0 rfl ?_
  refine x_bipush X dX5_putNumber_20 kb_48 ?_
  refine x_iload_n X dX5_putNumber_22 rfl 1 rfl ?_
  refine x_iload_n X dX5_putNumber_23 rfl 2 rfl ?_
  refine x_idiv X dX5_putNumber_24 h.1 ?_
  have h := h.2
  refine x_bipush X dX5_putNumber_25 kb_10 ?_
  refine x_irem X dX5_putNumber_27 (by decide) ?_
  refine x_iadd X dX5_putNumber_28 ?_
  refine x_callVv X [.int (48 + ((v1 / v2) - (v1 / v2) / 10 * 10))] [] dX5_putNumber_29 (kX5_put h) cm_X5_put ci_X5_put w_6_183 dsX_84 ⟨by decide, by decide⟩ rfl (Nat.le_of_ble_eq_true rfl) (fun σ29 τ29 h => ?_)
  exact bX5_putNumber_32 X hK4 h
set_option maxRecDepth 100000 in
set_option maxHeartbeats 4000000 in
theorem bX5_putNumber_4 {V : x_J} {ad : Nat → Nat} {Q : x_S → x_L → Prop} (X : x_Is V cX5_putNumber 3 RX5 (Option.none : Option Jvm.ClassFile.FieldType) ad dsX 1 (x_PV Q)) {K4 : Int32 → Int32 → x_S → x_L → Prop} (hK4 : ∀ v1 v2 σ τ, K4 v1 v2 σ τ → V σ τ 4 [(0, .ref (ad 84)), (1, .int v1), (2, .int v2)] []) {v1 : Int32} {v2 : Int32} {σ : x_S} {τ : x_L} (h : wX5_putNumber_4 Q K4 v1 v2 σ τ) : V σ τ 4 [(0, .ref (ad 84)), (1, .int v1), (2, .int v2)] [] := by
  refine x_iload_n X dX5_putNumber_4 rfl 2 rfl ?_
  refine x_iconst X dX5_putNumber_5 ki_1 ?_
  refine x_icmp_lt X 40 dX5_putNumber_6 (by decide) (fun hc => ?_) (fun hc => ?_)
  · have h := h.1 hc
    exact x_vret X dX5_putNumber_40 ⟨rfl, h⟩
  · have h := h.2 hc
    refine x_iload_n X dX5_putNumber_9 rfl 1 rfl ?_
    refine x_iload_n X dX5_putNumber_10 rfl 2 rfl ?_
    refine x_icmp_ge X 19 dX5_putNumber_11 (by decide) (fun hc => ?_) (fun hc => ?_)
    · have h := h.1 hc
      exact bX5_putNumber_19 X hK4 h
    · have h := h.2 hc
      refine x_iload_n X dX5_putNumber_14 rfl 2 rfl ?_
      refine x_iconst X dX5_putNumber_15 ki_1 ?_
      refine x_icmp_ne X 32 dX5_putNumber_16 (by decide) (fun hc => ?_) (fun hc => ?_)
      · have h := h.1 hc
        exact bX5_putNumber_32 X hK4 h
      · have h := h.2 hc
        exact bX5_putNumber_19 X hK4 h
set_option maxRecDepth 100000 in
set_option maxHeartbeats 4000000 in
theorem kX5_putNumber {ad : Nat → Nat} {a1 : Int32} {σ : x_S} {τ : x_L} {Q : x_S → x_L → Prop} (h : wX5_putNumber a1 σ τ Q) : x_Met yX5_putNumber cX5_putNumber 3 (Option.none : Option Jvm.ClassFile.FieldType) 1 ad dsX [.ref (ad 84), .int a1] σ τ (x_PV Q) := by
  refine x_met (by decide +kernel) (Nat.le_of_ble_eq_true rfl) (fun V X => ?_)
  have X : x_Is V cX5_putNumber 3 RX5 (Option.none : Option Jvm.ClassFile.FieldType) ad dsX 1 (x_PV Q) := X
  show V σ τ 0 [(0, .ref (ad 84)), (1, .int a1)] []
  refine x_sipush X dX5_putNumber_0 ks_1000 ?_
  refine x_istore_n X (lv' := [(2, .int 1000), (0, .ref (ad 84)), (1, .int a1)]) dX5_putNumber_3 rfl (by decide) rfl ?_
  refine x_sub X [1, 2, 0] (lv' := [(0, .ref (ad 84)), (1, .int a1), (2, .int 1000)]) rfl ?_
  exact x_l2_G (fun v1 v2 σ τ => V σ τ 4 [(0, .ref (ad 84)), (1, .int v1), (2, .int v2)] []) (fun K4 hK4 v1 v2 σ τ h => bX5_putNumber_4 X hK4 h) h
theorem dX6_isEarlier_0 : decode cX6_isEarlier 0 = .ok (.aload_n 0, 1) := by decide +kernel
theorem dX6_isEarlier_1 : decode cX6_isEarlier 1 = .ok (.getfield 21, 3) := by decide +kernel
theorem dX6_isEarlier_4 : decode cX6_isEarlier 4 = .ok (.iload_n 1, 1) := by decide +kernel
theorem dX6_isEarlier_5 : decode cX6_isEarlier 5 = .ok (.iaload, 1) := by decide +kernel
theorem dX6_isEarlier_6 : decode cX6_isEarlier 6 = .ok (.aload_n 0, 1) := by decide +kernel
theorem dX6_isEarlier_7 : decode cX6_isEarlier 7 = .ok (.getfield 21, 3) := by decide +kernel
theorem dX6_isEarlier_10 : decode cX6_isEarlier 10 = .ok (.iload_n 2, 1) := by decide +kernel
theorem dX6_isEarlier_11 : decode cX6_isEarlier 11 = .ok (.iaload, 1) := by decide +kernel
theorem dX6_isEarlier_12 : decode cX6_isEarlier 12 = .ok (.if_icmp .lt 33, 3) := by decide +kernel
theorem dX6_isEarlier_15 : decode cX6_isEarlier 15 = .ok (.aload_n 0, 1) := by decide +kernel
theorem dX6_isEarlier_16 : decode cX6_isEarlier 16 = .ok (.getfield 21, 3) := by decide +kernel
theorem dX6_isEarlier_19 : decode cX6_isEarlier 19 = .ok (.iload_n 1, 1) := by decide +kernel
theorem dX6_isEarlier_20 : decode cX6_isEarlier 20 = .ok (.iaload, 1) := by decide +kernel
theorem dX6_isEarlier_21 : decode cX6_isEarlier 21 = .ok (.aload_n 0, 1) := by decide +kernel
theorem dX6_isEarlier_22 : decode cX6_isEarlier 22 = .ok (.getfield 21, 3) := by decide +kernel
theorem dX6_isEarlier_25 : decode cX6_isEarlier 25 = .ok (.iload_n 2, 1) := by decide +kernel
theorem dX6_isEarlier_26 : decode cX6_isEarlier 26 = .ok (.iaload, 1) := by decide +kernel
theorem dX6_isEarlier_27 : decode cX6_isEarlier 27 = .ok (.if_icmp .ne 22, 3) := by decide +kernel
theorem dX6_isEarlier_30 : decode cX6_isEarlier 30 = .ok (.aload_n 0, 1) := by decide +kernel
theorem dX6_isEarlier_31 : decode cX6_isEarlier 31 = .ok (.getfield 18, 3) := by decide +kernel
theorem dX6_isEarlier_34 : decode cX6_isEarlier 34 = .ok (.iload_n 1, 1) := by decide +kernel
theorem dX6_isEarlier_35 : decode cX6_isEarlier 35 = .ok (.iaload, 1) := by decide +kernel
theorem dX6_isEarlier_36 : decode cX6_isEarlier 36 = .ok (.aload_n 0, 1) := by decide +kernel
theorem dX6_isEarlier_37 : decode cX6_isEarlier 37 = .ok (.getfield 18, 3) := by decide +kernel
theorem dX6_isEarlier_40 : decode cX6_isEarlier 40 = .ok (.iload_n 2, 1) := by decide +kernel
theorem dX6_isEarlier_41 : decode cX6_isEarlier 41 = .ok (.iaload, 1) := by decide +kernel
theorem dX6_isEarlier_42 : decode cX6_isEarlier 42 = .ok (.if_icmp .ge 7, 3) := by decide +kernel
theorem dX6_isEarlier_45 : decode cX6_isEarlier 45 = .ok (.iconst 1, 1) := by decide +kernel
theorem dX6_isEarlier_46 : decode cX6_isEarlier 46 = .ok (.goto 4, 3) := by decide +kernel
theorem dX6_isEarlier_49 : decode cX6_isEarlier 49 = .ok (.iconst 0, 1) := by decide +kernel
theorem dX6_isEarlier_50 : decode cX6_isEarlier 50 = .ok (.ireturn, 1) := by decide +kernel
theorem cm_X6_isEarlier : x_CM yX6_isEarlier cX6_isEarlier 3 (Option.some FieldType.boolean) 2 := ⟨w_3_117, w_1_7, by decide +kernel, by decide +kernel⟩
theorem ci_X6_isEarlier : x_CI yX6_isEarlier 8 := ⟨w_3_116, wp_9, (RX6, TX6, 15), rfl, rfl⟩
set_option maxRecDepth 100000 in
set_option maxHeartbeats 4000000 in
theorem bX6_isEarlier_50 {V : x_J} {ad : Nat → Nat} {t : Nat} {Q : Int32 → x_S → x_L → Prop} (X : x_Is V cX6_isEarlier 3 RX6 (Option.some FieldType.boolean) ad dsX 0 (x_PI Q)) (ht : x_pl t) {s0 : Int32} {σ : x_S} {τ : x_L} (h : wX6_isEarlier_50 t Q s0 σ τ) : V σ τ 50 [] [.int s0] := by
  exact x_zret X dX6_isEarlier_50 ⟨h.1, _, rfl, h.2⟩
set_option maxRecDepth 100000 in
set_option maxHeartbeats 4000000 in
theorem bX6_isEarlier_45 {V : x_J} {ad : Nat → Nat} {t : Nat} {Q : Int32 → x_S → x_L → Prop} (X : x_Is V cX6_isEarlier 3 RX6 (Option.some FieldType.boolean) ad dsX 0 (x_PI Q)) (ht : x_pl t) {σ : x_S} {τ : x_L} (h : wX6_isEarlier_45 t Q σ τ) : V σ τ 45 [] [] := by
  refine x_iconst X dX6_isEarlier_45 ki_1 ?_
  refine x_goto X (tgt := 50) dX6_isEarlier_46 (by decide) ?_
  exact bX6_isEarlier_50 X ht h
set_option maxRecDepth 100000 in
set_option maxHeartbeats 4000000 in
theorem bX6_isEarlier_49 {V : x_J} {ad : Nat → Nat} {t : Nat} {Q : Int32 → x_S → x_L → Prop} (X : x_Is V cX6_isEarlier 3 RX6 (Option.some FieldType.boolean) ad dsX 0 (x_PI Q)) (ht : x_pl t) {σ : x_S} {τ : x_L} (h : wX6_isEarlier_49 t Q σ τ) : V σ τ 49 [] [] := by
  refine x_iconst X dX6_isEarlier_49 ki_0 ?_
  exact bX6_isEarlier_50 X ht h
set_option maxRecDepth 100000 in
set_option maxHeartbeats 4000000 in
theorem kX6_isEarlier {ad : Nat → Nat} {t : Nat} (ht : x_pl t) {a1 : Int32} {a2 : Int32} {σ : x_S} {τ : x_L} {Q : Int32 → x_S → x_L → Prop} (h : wX6_isEarlier t a1 a2 σ τ Q) : x_Met yX6_isEarlier cX6_isEarlier 3 (Option.some FieldType.boolean) 0 ad dsX [.ref (ad t), .int a1, .int a2] σ τ (x_PI Q) := by
  refine x_met (by decide +kernel) (Nat.le_of_ble_eq_true rfl) (fun V X => ?_)
  have X : x_Is V cX6_isEarlier 3 RX6 (Option.some FieldType.boolean) ad dsX 0 (x_PI Q) := X
  show V σ τ 0 [(0, .ref (ad t)), (1, .int a1), (2, .int a2)] []
  refine x_aload_n X dX6_isEarlier_0 rfl 0 rfl ?_
  refine x_getR X (j := (t + 4)) dX6_isEarlier_1 fl_6_21 (dsX_pl ht) rfl ?_
  refine x_iload_n X dX6_isEarlier_4 rfl 1 rfl ?_
  have g5 := h.1
  have h := h.2
  refine x_iald X dX6_isEarlier_5 (dsX_pl4 ht) g5 ?_
  refine x_aload_n X dX6_isEarlier_6 rfl 0 rfl ?_
  refine x_getR X (j := (t + 4)) dX6_isEarlier_7 fl_6_21 (dsX_pl ht) rfl ?_
  refine x_iload_n X dX6_isEarlier_10 rfl 2 rfl ?_
  have g11 := h.1
  have h := h.2
  refine x_iald X dX6_isEarlier_11 (dsX_pl4 ht) g11 ?_
  refine x_icmp_lt X 45 dX6_isEarlier_12 (by decide) (fun hc => ?_) (fun hc => ?_)
  · have h := h.1 hc
    refine x_sub X [] (lv' := []) rfl ?_
    exact bX6_isEarlier_45 X ht h
  · have h := h.2 hc
    refine x_aload_n X dX6_isEarlier_15 rfl 0 rfl ?_
    refine x_getR X (j := (t + 4)) dX6_isEarlier_16 fl_6_21 (dsX_pl ht) rfl ?_
    refine x_iload_n X dX6_isEarlier_19 rfl 1 rfl ?_
    refine x_iald X dX6_isEarlier_20 (dsX_pl4 ht) g5 ?_
    refine x_aload_n X dX6_isEarlier_21 rfl 0 rfl ?_
    refine x_getR X (j := (t + 4)) dX6_isEarlier_22 fl_6_21 (dsX_pl ht) rfl ?_
    refine x_iload_n X dX6_isEarlier_25 rfl 2 rfl ?_
    refine x_iald X dX6_isEarlier_26 (dsX_pl4 ht) g11 ?_
    refine x_icmp_ne X 49 dX6_isEarlier_27 (by decide) (fun hc => ?_) (fun hc => ?_)
    · have h := h.1 hc
      refine x_sub X [] (lv' := []) rfl ?_
      exact bX6_isEarlier_49 X ht h
    · have h := h.2 hc
      refine x_aload_n X dX6_isEarlier_30 rfl 0 rfl ?_
      refine x_getR X (j := (t + 3)) dX6_isEarlier_31 fl_6_18 (dsX_pl ht) rfl ?_
      refine x_iload_n X dX6_isEarlier_34 rfl 1 rfl ?_
      refine x_iald X dX6_isEarlier_35 (dsX_pl3 ht) g5 ?_
      refine x_aload_n X dX6_isEarlier_36 rfl 0 rfl ?_
      refine x_getR X (j := (t + 3)) dX6_isEarlier_37 fl_6_18 (dsX_pl ht) rfl ?_
      refine x_iload_n X dX6_isEarlier_40 rfl 2 rfl ?_
      refine x_iald X dX6_isEarlier_41 (dsX_pl3 ht) g11 ?_
      refine x_icmp_ge X 49 dX6_isEarlier_42 (by decide) (fun hc => ?_) (fun hc => ?_)
      · have h := h.1 hc
        refine x_sub X [] (lv' := []) rfl ?_
        exact bX6_isEarlier_49 X ht h
      · have h := h.2 hc
        refine x_sub X [] (lv' := []) rfl ?_
        exact bX6_isEarlier_45 X ht h
theorem dX6_setKeys_0 : decode cX6_setKeys 0 = .ok (.iload_n 1, 1) := by decide +kernel
theorem dX6_setKeys_1 : decode cX6_setKeys 1 = .ok (.istore_n 3, 1) := by decide +kernel
theorem dX6_setKeys_2 : decode cX6_setKeys 2 = .ok (.iload_n 3, 1) := by decide +kernel
theorem dX6_setKeys_3 : decode cX6_setKeys 3 = .ok (.iload_n 2, 1) := by decide +kernel
theorem dX6_setKeys_4 : decode cX6_setKeys 4 = .ok (.if_icmp .ge 79, 3) := by decide +kernel
theorem dX6_setKeys_7 : decode cX6_setKeys 7 = .ok (.iconst 0, 1) := by decide +kernel
theorem dX6_setKeys_8 : decode cX6_setKeys 8 = .ok (.istore 4, 2) := by decide +kernel
theorem dX6_setKeys_10 : decode cX6_setKeys 10 = .ok (.iload_n 1, 1) := by decide +kernel
theorem dX6_setKeys_11 : decode cX6_setKeys 11 = .ok (.istore 5, 2) := by decide +kernel
theorem dX6_setKeys_13 : decode cX6_setKeys 13 = .ok (.iload 5, 2) := by decide +kernel
theorem dX6_setKeys_15 : decode cX6_setKeys 15 = .ok (.iload_n 2, 1) := by decide +kernel
theorem dX6_setKeys_16 : decode cX6_setKeys 16 = .ok (.if_icmp .ge 48, 3) := by decide +kernel
theorem dX6_setKeys_19 : decode cX6_setKeys 19 = .ok (.aload_n 0, 1) := by decide +kernel
theorem dX6_setKeys_20 : decode cX6_setKeys 20 = .ok (.getfield 57, 3) := by decide +kernel
theorem dX6_setKeys_23 : decode cX6_setKeys 23 = .ok (.aload_n 0, 1) := by decide +kernel
theorem dX6_setKeys_24 : decode cX6_setKeys 24 = .ok (.getfield 27, 3) := by decide +kernel
theorem dX6_setKeys_27 : decode cX6_setKeys 27 = .ok (.iload_n 3, 1) := by decide +kernel
theorem dX6_setKeys_28 : decode cX6_setKeys 28 = .ok (.iaload, 1) := by decide +kernel
theorem dX6_setKeys_29 : decode cX6_setKeys 29 = .ok (.aload_n 0, 1) := by decide +kernel
theorem dX6_setKeys_30 : decode cX6_setKeys 30 = .ok (.getfield 27, 3) := by decide +kernel
theorem dX6_setKeys_33 : decode cX6_setKeys 33 = .ok (.iload 5, 2) := by decide +kernel
theorem dX6_setKeys_35 : decode cX6_setKeys 35 = .ok (.iaload, 1) := by decide +kernel
theorem dX6_setKeys_36 : decode cX6_setKeys 36 = .ok (.invokevirtual 129, 3) := by decide +kernel
theorem dX6_setKeys_39 : decode cX6_setKeys 39 = .ok (.istore 6, 2) := by decide +kernel
theorem dX6_setKeys_41 : decode cX6_setKeys 41 = .ok (.iload 5, 2) := by decide +kernel
theorem dX6_setKeys_43 : decode cX6_setKeys 43 = .ok (.iload_n 3, 1) := by decide +kernel
theorem dX6_setKeys_44 : decode cX6_setKeys 44 = .ok (.if_icmp .eq 14, 3) := by decide +kernel
theorem dX6_setKeys_47 : decode cX6_setKeys 47 = .ok (.iload 6, 2) := by decide +kernel
theorem dX6_setKeys_49 : decode cX6_setKeys 49 = .ok (.iload 4, 2) := by decide +kernel
theorem dX6_setKeys_51 : decode cX6_setKeys 51 = .ok (.if_icmp .le 7, 3) := by decide +kernel
theorem dX6_setKeys_54 : decode cX6_setKeys 54 = .ok (.iload 6, 2) := by decide +kernel
theorem dX6_setKeys_56 : decode cX6_setKeys 56 = .ok (.istore 4, 2) := by decide +kernel
theorem dX6_setKeys_58 : decode cX6_setKeys 58 = .ok (.iinc 5 1, 3) := by decide +kernel
theorem dX6_setKeys_61 : decode cX6_setKeys 61 = .ok (.goto (-48), 3) := by decide +kernel
theorem dX6_setKeys_64 : decode cX6_setKeys 64 = .ok (.aload_n 0, 1) := by decide +kernel
theorem dX6_setKeys_65 : decode cX6_setKeys 65 = .ok (.getfield 36, 3) := by decide +kernel
theorem dX6_setKeys_68 : decode cX6_setKeys 68 = .ok (.aload_n 0, 1) := by decide +kernel
theorem dX6_setKeys_69 : decode cX6_setKeys 69 = .ok (.getfield 27, 3) := by decide +kernel
theorem dX6_setKeys_72 : decode cX6_setKeys 72 = .ok (.iload_n 3, 1) := by decide +kernel
theorem dX6_setKeys_73 : decode cX6_setKeys 73 = .ok (.iaload, 1) := by decide +kernel
theorem dX6_setKeys_74 : decode cX6_setKeys 74 = .ok (.iload 4, 2) := by decide +kernel
theorem dX6_setKeys_76 : decode cX6_setKeys 76 = .ok (.iastore, 1) := by decide +kernel
theorem dX6_setKeys_77 : decode cX6_setKeys 77 = .ok (.iinc 3 1, 3) := by decide +kernel
theorem dX6_setKeys_80 : decode cX6_setKeys 80 = .ok (.goto (-78), 3) := by decide +kernel
theorem dX6_setKeys_83 : decode cX6_setKeys 83 = .ok (.return_, 1) := by decide +kernel
theorem cm_X6_setKeys : x_CM yX6_setKeys cX6_setKeys 7 (Option.none : Option Jvm.ClassFile.FieldType) 2 := ⟨w_3_121, w_1_7, by decide +kernel, by decide +kernel⟩
theorem ci_X6_setKeys : x_CI yX6_setKeys 8 := ⟨w_3_120, wp_10, (RX6, TX6, 15), rfl, rfl⟩
set_option maxRecDepth 100000 in
set_option maxHeartbeats 4000000 in
theorem bX6_setKeys_58 {V : x_J} {ad : Nat → Nat} {t : Nat} {Q : x_S → x_L → Prop} (X : x_Is V cX6_setKeys 7 RX6 (Option.none : Option Jvm.ClassFile.FieldType) ad dsX 1 (x_PV Q)) (ht : x_pl t) {K2 : Int32 → Int32 → Int32 → x_S → x_L → Prop} {K13 : Int32 → Int32 → Int32 → Int32 → Int32 → x_S → x_L → Prop} (hK2 : ∀ v1 v2 v3 σ τ, K2 v1 v2 v3 σ τ → V σ τ 2 [(0, .ref (ad t)), (1, .int v1), (2, .int v2), (3, .int v3)] []) (hK13 : ∀ v1 v2 v3 v4 v5 σ τ, K13 v1 v2 v3 v4 v5 σ τ → V σ τ 13 [(0, .ref (ad t)), (1, .int v1), (2, .int v2), (3, .int v3), (4, .int v4), (5, .int v5)] []) {v1 : Int32} {v2 : Int32} {v3 : Int32} {v4 : Int32} {v5 : Int32} {σ : x_S} {τ : x_L} (h : wX6_setKeys_58 t K2 K13 Q v1 v2 v3 v4 v5 σ τ) : V σ τ 58 [(0, .ref (ad t)), (1, .int v1), (2, .int v2), (3, .int v3), (4, .int v4), (5, .int v5)] [] := by
  refine x_iinc X (k := 5) (lv' := [(5, .int (v5 + 1)), (0, .ref (ad t)), (1, .int v1), (2, .int v2), (3, .int v3), (4, .int v4)]) dX6_setKeys_58 rfl ki_1 (by decide) rfl ?_
  refine x_goto X (tgt := 13) dX6_setKeys_61 (by decide) ?_
  refine x_sub X [1, 2, 3, 4, 5, 0] (lv' := [(0, .ref (ad t)), (1, .int v1), (2, .int v2), (3, .int v3), (4, .int v4), (5, .int (v5 + 1))]) rfl ?_
  exact hK13 _ _ _ _ _ _ _ h
set_option maxRecDepth 100000 in
set_option maxHeartbeats 4000000 in
theorem bX6_setKeys_13 {V : x_J} {ad : Nat → Nat} {t : Nat} {Q : x_S → x_L → Prop} (X : x_Is V cX6_setKeys 7 RX6 (Option.none : Option Jvm.ClassFile.FieldType) ad dsX 1 (x_PV Q)) (ht : x_pl t) {K2 : Int32 → Int32 → Int32 → x_S → x_L → Prop} {K13 : Int32 → Int32 → Int32 → Int32 → Int32 → x_S → x_L → Prop} (hK2 : ∀ v1 v2 v3 σ τ, K2 v1 v2 v3 σ τ → V σ τ 2 [(0, .ref (ad t)), (1, .int v1), (2, .int v2), (3, .int v3)] []) (hK13 : ∀ v1 v2 v3 v4 v5 σ τ, K13 v1 v2 v3 v4 v5 σ τ → V σ τ 13 [(0, .ref (ad t)), (1, .int v1), (2, .int v2), (3, .int v3), (4, .int v4), (5, .int v5)] []) {v1 : Int32} {v2 : Int32} {v3 : Int32} {v4 : Int32} {v5 : Int32} {σ : x_S} {τ : x_L} (h : wX6_setKeys_13 t K2 Q K13 v1 v2 v3 v4 v5 σ τ) : V σ τ 13 [(0, .ref (ad t)), (1, .int v1), (2, .int v2), (3, .int v3), (4, .int v4), (5, .int v5)] [] := by
  refine x_iload X dX6_setKeys_13 5 rfl ?_
  refine x_iload_n X dX6_setKeys_15 rfl 2 rfl ?_
  refine x_icmp_ge X 64 dX6_setKeys_16 (by decide) (fun hc => ?_) (fun hc => ?_)
  · have h := h.1 hc
    refine x_aload_n X dX6_setKeys_64 rfl 0 rfl ?_
    refine x_getR X (j := (t + 9)) dX6_setKeys_65 fl_6_36 (dsX_pl ht) rfl ?_
    refine x_aload_n X dX6_setKeys_68 rfl 0 rfl ?_
    refine x_getR X (j := (t + 6)) dX6_setKeys_69 fl_6_27 (dsX_pl ht) rfl ?_
    refine x_iload_n X dX6_setKeys_72 rfl 3 rfl ?_
    have g73 := h.1
    have h := h.2
    refine x_iald X dX6_setKeys_73 (dsX_pl6 ht) g73 ?_
    refine x_iload X dX6_setKeys_74 4 rfl ?_
    have g76 := h.1
    have h := h.2
    refine x_iast X dX6_setKeys_76 (dsX_pl9 ht) g76 ?_
    refine x_iinc X (k := 3) (lv' := [(3, .int (v3 + 1)), (0, .ref (ad t)), (1, .int v1), (2, .int v2), (4, .int v4), (5, .int v5)]) dX6_setKeys_77 rfl ki_1 (by decide) rfl ?_
    refine x_goto X (tgt := 2) dX6_setKeys_80 (by decide) ?_
    refine x_sub X [1, 2, 3, 0] (lv' := [(0, .ref (ad t)), (1, .int v1), (2, .int v2), (3, .int (v3 + 1))]) rfl ?_
    exact hK2 _ _ _ _ _ h
  · have h := h.2 hc
    refine x_aload_n X dX6_setKeys_19 rfl 0 rfl ?_
    refine x_getR X (j := 27) dX6_setKeys_20 fl_6_57 (dsX_pl ht) rfl ?_
    refine x_aload_n X dX6_setKeys_23 rfl 0 rfl ?_
    refine x_getR X (j := (t + 6)) dX6_setKeys_24 fl_6_27 (dsX_pl ht) rfl ?_
    refine x_iload_n X dX6_setKeys_27 rfl 3 rfl ?_
    have g28 := h.1
    have h := h.2
    refine x_iald X dX6_setKeys_28 (dsX_pl6 ht) g28 ?_
    refine x_aload_n X dX6_setKeys_29 rfl 0 rfl ?_
    refine x_getR X (j := (t + 6)) dX6_setKeys_30 fl_6_27 (dsX_pl ht) rfl ?_
    refine x_iload X dX6_setKeys_33 5 rfl ?_
    have g35 := h.1
    have h := h.2
    refine x_iald X dX6_setKeys_35 (dsX_pl6 ht) g35 ?_
    refine x_callVi X [.int (σ (t + 6) v3.toNatClampNeg), .int (σ (t + 6) v5.toNatClampNeg)] [] dX6_setKeys_36 (kX7_sharedPlaces h) cm_X7_sharedPlaces ci_X7_sharedPlaces w_3_122 dsX_27 ⟨by decide, by decide⟩ rfl (Nat.le_of_ble_eq_true rfl) (fun r36 σ36 τ36 h => ?_)
    refine x_istore X (lv' := [(6, .int r36), (0, .ref (ad t)), (1, .int v1), (2, .int v2), (3, .int v3), (4, .int v4), (5, .int v5)]) dX6_setKeys_39 (by decide) rfl ?_
    refine x_iload X dX6_setKeys_41 6 rfl ?_
    refine x_iload_n X dX6_setKeys_43 rfl 4 rfl ?_
    refine x_icmp_eq X 58 dX6_setKeys_44 (by decide) (fun hc => ?_) (fun hc => ?_)
    · have h := h.1 hc
      refine x_sub X [1, 2, 3, 4, 5, 6] (lv' := [(0, .ref (ad t)), (1, .int v1), (2, .int v2), (3, .int v3), (4, .int v4), (5, .int v5)]) rfl ?_
      exact bX6_setKeys_58 X ht hK2 hK13 h
    · have h := h.2 hc
      refine x_iload X dX6_setKeys_47 0 rfl ?_
      refine x_iload X dX6_setKeys_49 5 rfl ?_
      refine x_icmp_le X 58 dX6_setKeys_51 (by decide) (fun hc => ?_) (fun hc => ?_)
      · have h := h.1 hc
        refine x_sub X [1, 2, 3, 4, 5, 6] (lv' := [(0, .ref (ad t)), (1, .int v1), (2, .int v2), (3, .int v3), (4, .int v4), (5, .int v5)]) rfl ?_
        exact bX6_setKeys_58 X ht hK2 hK13 h
      · have h := h.2 hc
        refine x_iload X dX6_setKeys_54 0 rfl ?_
        refine x_istore X (lv' := [(4, .int r36), (6, .int r36), (0, .ref (ad t)), (1, .int v1), (2, .int v2), (3, .int v3), (5, .int v5)]) dX6_setKeys_56 (by decide) rfl ?_
        refine x_sub X [2, 3, 4, 5, 0, 6] (lv' := [(0, .ref (ad t)), (1, .int v1), (2, .int v2), (3, .int v3), (4, .int r36), (5, .int v5)]) rfl ?_
        exact bX6_setKeys_58 X ht hK2 hK13 h
set_option maxRecDepth 100000 in
set_option maxHeartbeats 4000000 in
theorem bX6_setKeys_2 {V : x_J} {ad : Nat → Nat} {t : Nat} {Q : x_S → x_L → Prop} (X : x_Is V cX6_setKeys 7 RX6 (Option.none : Option Jvm.ClassFile.FieldType) ad dsX 1 (x_PV Q)) (ht : x_pl t) {K2 : Int32 → Int32 → Int32 → x_S → x_L → Prop} (hK2 : ∀ v1 v2 v3 σ τ, K2 v1 v2 v3 σ τ → V σ τ 2 [(0, .ref (ad t)), (1, .int v1), (2, .int v2), (3, .int v3)] []) {v1 : Int32} {v2 : Int32} {v3 : Int32} {σ : x_S} {τ : x_L} (h : wX6_setKeys_2 t Q K2 v1 v2 v3 σ τ) : V σ τ 2 [(0, .ref (ad t)), (1, .int v1), (2, .int v2), (3, .int v3)] [] := by
  refine x_iload_n X dX6_setKeys_2 rfl 3 rfl ?_
  refine x_iload_n X dX6_setKeys_3 rfl 2 rfl ?_
  refine x_icmp_ge X 83 dX6_setKeys_4 (by decide) (fun hc => ?_) (fun hc => ?_)
  · have h := h.1 hc
    exact x_vret X dX6_setKeys_83 ⟨rfl, h⟩
  · have h := h.2 hc
    refine x_iconst X dX6_setKeys_7 ki_0 ?_
    refine x_istore X (lv' := [(4, .int 0), (0, .ref (ad t)), (1, .int v1), (2, .int v2), (3, .int v3)]) dX6_setKeys_8 (by decide) rfl ?_
    refine x_iload_n X dX6_setKeys_10 rfl 2 rfl ?_
    refine x_istore X (lv' := [(5, .int v1), (4, .int 0), (0, .ref (ad t)), (1, .int v1), (2, .int v2), (3, .int v3)]) dX6_setKeys_11 (by decide) rfl ?_
    refine x_sub X [2, 3, 4, 5, 1, 0] (lv' := [(0, .ref (ad t)), (1, .int v1), (2, .int v2), (3, .int v3), (4, .int 0), (5, .int v1)]) rfl ?_
    exact x_l5_G (fun v1 v2 v3 v4 v5 σ τ => V σ τ 13 [(0, .ref (ad t)), (1, .int v1), (2, .int v2), (3, .int v3), (4, .int v4), (5, .int v5)] []) (fun K13 hK13 v1 v2 v3 v4 v5 σ τ h => bX6_setKeys_13 X ht hK2 hK13 h) h
set_option maxRecDepth 100000 in
set_option maxHeartbeats 4000000 in
theorem kX6_setKeys {ad : Nat → Nat} {t : Nat} (ht : x_pl t) {a1 : Int32} {a2 : Int32} {σ : x_S} {τ : x_L} {Q : x_S → x_L → Prop} (h : wX6_setKeys t a1 a2 σ τ Q) : x_Met yX6_setKeys cX6_setKeys 7 (Option.none : Option Jvm.ClassFile.FieldType) 1 ad dsX [.ref (ad t), .int a1, .int a2] σ τ (x_PV Q) := by
  refine x_met (by decide +kernel) (Nat.le_of_ble_eq_true rfl) (fun V X => ?_)
  have X : x_Is V cX6_setKeys 7 RX6 (Option.none : Option Jvm.ClassFile.FieldType) ad dsX 1 (x_PV Q) := X
  show V σ τ 0 [(0, .ref (ad t)), (1, .int a1), (2, .int a2)] []
  refine x_iload_n X dX6_setKeys_0 rfl 1 rfl ?_
  refine x_istore_n X (lv' := [(3, .int a1), (0, .ref (ad t)), (1, .int a1), (2, .int a2)]) dX6_setKeys_1 rfl (by decide) rfl ?_
  refine x_sub X [1, 2, 3, 0] (lv' := [(0, .ref (ad t)), (1, .int a1), (2, .int a2), (3, .int a1)]) rfl ?_
  exact x_l3_G (fun v1 v2 v3 σ τ => V σ τ 2 [(0, .ref (ad t)), (1, .int v1), (2, .int v2), (3, .int v3)] []) (fun K2 hK2 v1 v2 v3 σ τ h => bX6_setKeys_2 X ht hK2 h) h
theorem dX6_setPlatoon_0 : decode cX6_setPlatoon 0 = .ok (.aload_n 0, 1) := by decide +kernel
theorem dX6_setPlatoon_1 : decode cX6_setPlatoon 1 = .ok (.aload_n 0, 1) := by decide +kernel
theorem dX6_setPlatoon_2 : decode cX6_setPlatoon 2 = .ok (.getfield 27, 3) := by decide +kernel
theorem dX6_setPlatoon_5 : decode cX6_setPlatoon 5 = .ok (.iload_n 1, 1) := by decide +kernel
theorem dX6_setPlatoon_6 : decode cX6_setPlatoon 6 = .ok (.iaload, 1) := by decide +kernel
theorem dX6_setPlatoon_7 : decode cX6_setPlatoon 7 = .ok (.invokevirtual 135, 3) := by decide +kernel
theorem dX6_setPlatoon_10 : decode cX6_setPlatoon 10 = .ok (.istore 4, 2) := by decide +kernel
theorem dX6_setPlatoon_12 : decode cX6_setPlatoon 12 = .ok (.iload_n 1, 1) := by decide +kernel
theorem dX6_setPlatoon_13 : decode cX6_setPlatoon 13 = .ok (.istore 5, 2) := by decide +kernel
theorem dX6_setPlatoon_15 : decode cX6_setPlatoon 15 = .ok (.iload 5, 2) := by decide +kernel
theorem dX6_setPlatoon_17 : decode cX6_setPlatoon 17 = .ok (.iload_n 2, 1) := by decide +kernel
theorem dX6_setPlatoon_18 : decode cX6_setPlatoon 18 = .ok (.if_icmp .ge 153, 3) := by decide +kernel
theorem dX6_setPlatoon_21 : decode cX6_setPlatoon 21 = .ok (.aload_n 0, 1) := by decide +kernel
theorem dX6_setPlatoon_22 : decode cX6_setPlatoon 22 = .ok (.getfield 27, 3) := by decide +kernel
theorem dX6_setPlatoon_25 : decode cX6_setPlatoon 25 = .ok (.iload 5, 2) := by decide +kernel
theorem dX6_setPlatoon_27 : decode cX6_setPlatoon 27 = .ok (.iaload, 1) := by decide +kernel
theorem dX6_setPlatoon_28 : decode cX6_setPlatoon 28 = .ok (.istore 6, 2) := by decide +kernel
theorem dX6_setPlatoon_30 : decode cX6_setPlatoon 30 = .ok (.aload_n 0, 1) := by decide +kernel
theorem dX6_setPlatoon_31 : decode cX6_setPlatoon 31 = .ok (.getfield 30, 3) := by decide +kernel
theorem dX6_setPlatoon_34 : decode cX6_setPlatoon 34 = .ok (.iload 6, 2) := by decide +kernel
theorem dX6_setPlatoon_36 : decode cX6_setPlatoon 36 = .ok (.iload_n 3, 1) := by decide +kernel
theorem dX6_setPlatoon_37 : decode cX6_setPlatoon 37 = .ok (.iastore, 1) := by decide +kernel
theorem dX6_setPlatoon_38 : decode cX6_setPlatoon 38 = .ok (.aload_n 0, 1) := by decide +kernel
theorem dX6_setPlatoon_39 : decode cX6_setPlatoon 39 = .ok (.getfield 33, 3) := by decide +kernel
theorem dX6_setPlatoon_42 : decode cX6_setPlatoon 42 = .ok (.iload 6, 2) := by decide +kernel
theorem dX6_setPlatoon_44 : decode cX6_setPlatoon 44 = .ok (.iload 5, 2) := by decide +kernel
theorem dX6_setPlatoon_46 : decode cX6_setPlatoon 46 = .ok (.iload_n 1, 1) := by decide +kernel
theorem dX6_setPlatoon_47 : decode cX6_setPlatoon 47 = .ok (.isub, 1) := by decide +kernel
theorem dX6_setPlatoon_48 : decode cX6_setPlatoon 48 = .ok (.iastore, 1) := by decide +kernel
theorem dX6_setPlatoon_49 : decode cX6_setPlatoon 49 = .ok (.aload_n 0, 1) := by decide +kernel
theorem dX6_setPlatoon_50 : decode cX6_setPlatoon 50 = .ok (.getfield 39, 3) := by decide +kernel
theorem dX6_setPlatoon_53 : decode cX6_setPlatoon 53 = .ok (.iload 6, 2) := by decide +kernel
theorem dX6_setPlatoon_55 : decode cX6_setPlatoon 55 = .ok (.iload 5, 2) := by decide +kernel
theorem dX6_setPlatoon_57 : decode cX6_setPlatoon 57 = .ok (.iload_n 1, 1) := by decide +kernel
theorem dX6_setPlatoon_58 : decode cX6_setPlatoon 58 = .ok (.if_icmp .ne 7, 3) := by decide +kernel
theorem dX6_setPlatoon_61 : decode cX6_setPlatoon 61 = .ok (.iconst 0, 1) := by decide +kernel
theorem dX6_setPlatoon_62 : decode cX6_setPlatoon 62 = .ok (.goto 13, 3) := by decide +kernel
theorem dX6_setPlatoon_65 : decode cX6_setPlatoon 65 = .ok (.aload_n 0, 1) := by decide +kernel
theorem dX6_setPlatoon_66 : decode cX6_setPlatoon 66 = .ok (.aload_n 0, 1) := by decide +kernel
theorem dX6_setPlatoon_67 : decode cX6_setPlatoon 67 = .ok (.getfield 27, 3) := by decide +kernel
theorem dX6_setPlatoon_70 : decode cX6_setPlatoon 70 = .ok (.iload 5, 2) := by decide +kernel
theorem dX6_setPlatoon_72 : decode cX6_setPlatoon 72 = .ok (.invokevirtual 139, 3) := by decide +kernel
theorem dX6_setPlatoon_75 : decode cX6_setPlatoon 75 = .ok (.iastore, 1) := by decide +kernel
theorem dX6_setPlatoon_76 : decode cX6_setPlatoon 76 = .ok (.aload_n 0, 1) := by decide +kernel
theorem dX6_setPlatoon_77 : decode cX6_setPlatoon 77 = .ok (.getfield 45, 3) := by decide +kernel
theorem dX6_setPlatoon_80 : decode cX6_setPlatoon 80 = .ok (.iload 6, 2) := by decide +kernel
theorem dX6_setPlatoon_82 : decode cX6_setPlatoon 82 = .ok (.aload_n 0, 1) := by decide +kernel
theorem dX6_setPlatoon_83 : decode cX6_setPlatoon 83 = .ok (.aload_n 0, 1) := by decide +kernel
theorem dX6_setPlatoon_84 : decode cX6_setPlatoon 84 = .ok (.getfield 27, 3) := by decide +kernel
theorem dX6_setPlatoon_87 : decode cX6_setPlatoon 87 = .ok (.iload_n 1, 1) := by decide +kernel
theorem dX6_setPlatoon_88 : decode cX6_setPlatoon 88 = .ok (.iload 5, 2) := by decide +kernel
theorem dX6_setPlatoon_90 : decode cX6_setPlatoon 90 = .ok (.invokevirtual 143, 3) := by decide +kernel
theorem dX6_setPlatoon_93 : decode cX6_setPlatoon 93 = .ok (.bastore, 1) := by decide +kernel
theorem dX6_setPlatoon_94 : decode cX6_setPlatoon 94 = .ok (.aload_n 0, 1) := by decide +kernel
theorem dX6_setPlatoon_95 : decode cX6_setPlatoon 95 = .ok (.getfield 42, 3) := by decide +kernel
theorem dX6_setPlatoon_98 : decode cX6_setPlatoon 98 = .ok (.iload 6, 2) := by decide +kernel
theorem dX6_setPlatoon_100 : decode cX6_setPlatoon 100 = .ok (.iload 5, 2) := by decide +kernel
theorem dX6_setPlatoon_102 : decode cX6_setPlatoon 102 = .ok (.iload_n 1, 1) := by decide +kernel
theorem dX6_setPlatoon_103 : decode cX6_setPlatoon 103 = .ok (.if_icmp .ne 7, 3) := by decide +kernel
theorem dX6_setPlatoon_106 : decode cX6_setPlatoon 106 = .ok (.iconst 0, 1) := by decide +kernel
theorem dX6_setPlatoon_107 : decode cX6_setPlatoon 107 = .ok (.goto 20, 3) := by decide +kernel
theorem dX6_setPlatoon_110 : decode cX6_setPlatoon 110 = .ok (.iload 4, 2) := by decide +kernel
theorem dX6_setPlatoon_112 : decode cX6_setPlatoon 112 = .ok (.aload_n 0, 1) := by decide +kernel
theorem dX6_setPlatoon_113 : decode cX6_setPlatoon 113 = .ok (.getfield 39, 3) := by decide +kernel
theorem dX6_setPlatoon_116 : decode cX6_setPlatoon 116 = .ok (.iload 6, 2) := by decide +kernel
theorem dX6_setPlatoon_118 : decode cX6_setPlatoon 118 = .ok (.iaload, 1) := by decide +kernel
theorem dX6_setPlatoon_119 : decode cX6_setPlatoon 119 = .ok (.invokestatic 147, 3) := by decide +kernel
theorem dX6_setPlatoon_122 : decode cX6_setPlatoon 122 = .ok (.imul, 1) := by decide +kernel
theorem dX6_setPlatoon_123 : decode cX6_setPlatoon 123 = .ok (.sipush 1000, 3) := by decide +kernel
theorem dX6_setPlatoon_126 : decode cX6_setPlatoon 126 = .ok (.idiv, 1) := by decide +kernel
theorem dX6_setPlatoon_127 : decode cX6_setPlatoon 127 = .ok (.iastore, 1) := by decide +kernel
theorem dX6_setPlatoon_128 : decode cX6_setPlatoon 128 = .ok (.aload_n 0, 1) := by decide +kernel
theorem dX6_setPlatoon_129 : decode cX6_setPlatoon 129 = .ok (.dup, 1) := by decide +kernel
theorem dX6_setPlatoon_130 : decode cX6_setPlatoon 130 = .ok (.getfield 49, 3) := by decide +kernel
theorem dX6_setPlatoon_133 : decode cX6_setPlatoon 133 = .ok (.iload 4, 2) := by decide +kernel
theorem dX6_setPlatoon_135 : decode cX6_setPlatoon 135 = .ok (.aload_n 0, 1) := by decide +kernel
theorem dX6_setPlatoon_136 : decode cX6_setPlatoon 136 = .ok (.getfield 42, 3) := by decide +kernel
theorem dX6_setPlatoon_139 : decode cX6_setPlatoon 139 = .ok (.iload 6, 2) := by decide +kernel
theorem dX6_setPlatoon_141 : decode cX6_setPlatoon 141 = .ok (.iaload, 1) := by decide +kernel
theorem dX6_setPlatoon_142 : decode cX6_setPlatoon 142 = .ok (.isub, 1) := by decide +kernel
theorem dX6_setPlatoon_143 : decode cX6_setPlatoon 143 = .ok (.aload_n 0, 1) := by decide +kernel
theorem dX6_setPlatoon_144 : decode cX6_setPlatoon 144 = .ok (.getfield 45, 3) := by decide +kernel
theorem dX6_setPlatoon_147 : decode cX6_setPlatoon 147 = .ok (.iload 6, 2) := by decide +kernel
theorem dX6_setPlatoon_149 : decode cX6_setPlatoon 149 = .ok (.baload, 1) := by decide +kernel
theorem dX6_setPlatoon_150 : decode cX6_setPlatoon 150 = .ok (.ifCond .eq 9, 3) := by decide +kernel
theorem dX6_setPlatoon_153 : decode cX6_setPlatoon 153 = .ok (.sipush 300, 3) := by decide +kernel
theorem dX6_setPlatoon_156 : decode cX6_setPlatoon 156 = .ok (.goto 4, 3) := by decide +kernel
theorem dX6_setPlatoon_159 : decode cX6_setPlatoon 159 = .ok (.iconst 0, 1) := by decide +kernel
theorem dX6_setPlatoon_160 : decode cX6_setPlatoon 160 = .ok (.iadd, 1) := by decide +kernel
theorem dX6_setPlatoon_161 : decode cX6_setPlatoon 161 = .ok (.iadd, 1) := by decide +kernel
theorem dX6_setPlatoon_162 : decode cX6_setPlatoon 162 = .ok (.putfield 49, 3) := by decide +kernel
theorem dX6_setPlatoon_165 : decode cX6_setPlatoon 165 = .ok (.iinc 5 1, 3) := by decide +kernel
theorem dX6_setPlatoon_168 : decode cX6_setPlatoon 168 = .ok (.goto (-153), 3) := by decide +kernel
theorem dX6_setPlatoon_171 : decode cX6_setPlatoon 171 = .ok (.iload_n 2, 1) := by decide +kernel
theorem dX6_setPlatoon_172 : decode cX6_setPlatoon 172 = .ok (.iload_n 1, 1) := by decide +kernel
theorem dX6_setPlatoon_173 : decode cX6_setPlatoon 173 = .ok (.isub, 1) := by decide +kernel
theorem dX6_setPlatoon_174 : decode cX6_setPlatoon 174 = .ok (.iconst 1, 1) := by decide +kernel
theorem dX6_setPlatoon_175 : decode cX6_setPlatoon 175 = .ok (.if_icmp .le 59, 3) := by decide +kernel
theorem dX6_setPlatoon_178 : decode cX6_setPlatoon 178 = .ok (.aload_n 0, 1) := by decide +kernel
theorem dX6_setPlatoon_179 : decode cX6_setPlatoon 179 = .ok (.getfield 42, 3) := by decide +kernel
theorem dX6_setPlatoon_182 : decode cX6_setPlatoon 182 = .ok (.aload_n 0, 1) := by decide +kernel
theorem dX6_setPlatoon_183 : decode cX6_setPlatoon 183 = .ok (.getfield 27, 3) := by decide +kernel
theorem dX6_setPlatoon_186 : decode cX6_setPlatoon 186 = .ok (.iload_n 1, 1) := by decide +kernel
theorem dX6_setPlatoon_187 : decode cX6_setPlatoon 187 = .ok (.iaload, 1) := by decide +kernel
theorem dX6_setPlatoon_188 : decode cX6_setPlatoon 188 = .ok (.iload 4, 2) := by decide +kernel
theorem dX6_setPlatoon_190 : decode cX6_setPlatoon 190 = .ok (.aload_n 0, 1) := by decide +kernel
theorem dX6_setPlatoon_191 : decode cX6_setPlatoon 191 = .ok (.getfield 39, 3) := by decide +kernel
theorem dX6_setPlatoon_194 : decode cX6_setPlatoon 194 = .ok (.aload_n 0, 1) := by decide +kernel
theorem dX6_setPlatoon_195 : decode cX6_setPlatoon 195 = .ok (.getfield 27, 3) := by decide +kernel
theorem dX6_setPlatoon_198 : decode cX6_setPlatoon 198 = .ok (.iload_n 1, 1) := by decide +kernel
theorem dX6_setPlatoon_199 : decode cX6_setPlatoon 199 = .ok (.iconst 1, 1) := by decide +kernel
theorem dX6_setPlatoon_200 : decode cX6_setPlatoon 200 = .ok (.iadd, 1) := by decide +kernel
theorem dX6_setPlatoon_201 : decode cX6_setPlatoon 201 = .ok (.iaload, 1) := by decide +kernel
theorem dX6_setPlatoon_202 : decode cX6_setPlatoon 202 = .ok (.iaload, 1) := by decide +kernel
theorem dX6_setPlatoon_203 : decode cX6_setPlatoon 203 = .ok (.invokestatic 147, 3) := by decide +kernel
theorem dX6_setPlatoon_206 : decode cX6_setPlatoon 206 = .ok (.iconst 4, 1) := by decide +kernel
theorem dX6_setPlatoon_207 : decode cX6_setPlatoon 207 = .ok (.idiv, 1) := by decide +kernel
theorem dX6_setPlatoon_208 : decode cX6_setPlatoon 208 = .ok (.imul, 1) := by decide +kernel
theorem dX6_setPlatoon_209 : decode cX6_setPlatoon 209 = .ok (.sipush 1000, 3) := by decide +kernel
theorem dX6_setPlatoon_212 : decode cX6_setPlatoon 212 = .ok (.idiv, 1) := by decide +kernel
theorem dX6_setPlatoon_213 : decode cX6_setPlatoon 213 = .ok (.iastore, 1) := by decide +kernel
theorem dX6_setPlatoon_214 : decode cX6_setPlatoon 214 = .ok (.aload_n 0, 1) := by decide +kernel
theorem dX6_setPlatoon_215 : decode cX6_setPlatoon 215 = .ok (.dup, 1) := by decide +kernel
theorem dX6_setPlatoon_216 : decode cX6_setPlatoon 216 = .ok (.getfield 49, 3) := by decide +kernel
theorem dX6_setPlatoon_219 : decode cX6_setPlatoon 219 = .ok (.aload_n 0, 1) := by decide +kernel
theorem dX6_setPlatoon_220 : decode cX6_setPlatoon 220 = .ok (.getfield 42, 3) := by decide +kernel
theorem dX6_setPlatoon_223 : decode cX6_setPlatoon 223 = .ok (.aload_n 0, 1) := by decide +kernel
theorem dX6_setPlatoon_224 : decode cX6_setPlatoon 224 = .ok (.getfield 27, 3) := by decide +kernel
theorem dX6_setPlatoon_227 : decode cX6_setPlatoon 227 = .ok (.iload_n 1, 1) := by decide +kernel
theorem dX6_setPlatoon_228 : decode cX6_setPlatoon 228 = .ok (.iaload, 1) := by decide +kernel
theorem dX6_setPlatoon_229 : decode cX6_setPlatoon 229 = .ok (.iaload, 1) := by decide +kernel
theorem dX6_setPlatoon_230 : decode cX6_setPlatoon 230 = .ok (.isub, 1) := by decide +kernel
theorem dX6_setPlatoon_231 : decode cX6_setPlatoon 231 = .ok (.putfield 49, 3) := by decide +kernel
theorem dX6_setPlatoon_234 : decode cX6_setPlatoon 234 = .ok (.return_, 1) := by decide +kernel
theorem cm_X6_setPlatoon : x_CM yX6_setPlatoon cX6_setPlatoon 7 (Option.none : Option Jvm.ClassFile.FieldType) 3 := ⟨w_3_134, w_1_7, by decide +kernel, by decide +kernel⟩
theorem ci_X6_setPlatoon : x_CI yX6_setPlatoon 8 := ⟨w_3_133, wp_13, (RX6, TX6, 15), rfl, rfl⟩
set_option maxRecDepth 100000 in
set_option maxHeartbeats 4000000 in
theorem bX6_setPlatoon_160 {V : x_J} {ad : Nat → Nat} {t : Nat} {Q : x_S → x_L → Prop} (X : x_Is V cX6_setPlatoon 7 RX6 (Option.none : Option Jvm.ClassFile.FieldType) ad dsX 1 (x_PV Q)) (ht : x_pl t) {K15 : Int32 → Int32 → Int32 → Int32 → Int32 → x_S → x_L → Prop} (hK15 : ∀ v1 v2 v3 v4 v5 σ τ, K15 v1 v2 v3 v4 v5 σ τ → V σ τ 15 [(0, .ref (ad t)), (1, .int v1), (2, .int v2), (3, .int v3), (4, .int v4), (5, .int v5)] []) {v1 : Int32} {v2 : Int32} {v3 : Int32} {v4 : Int32} {v5 : Int32} {s1 : Int32} {s2 : Int32} {s3 : Int32} {σ : x_S} {τ : x_L} (h : wX6_setPlatoon_160 t K15 Q v1 v2 v3 v4 v5 s1 s2 s3 σ τ) : V σ τ 160 [(0, .ref (ad t)), (1, .int v1), (2, .int v2), (3, .int v3), (4, .int v4), (5, .int v5)] [.int s3, .int s2, .int s1, .ref (ad t)] := by
  refine x_iadd X dX6_setPlatoon_160 ?_
  refine x_iadd X dX6_setPlatoon_161 ?_
  refine x_putI X dX6_setPlatoon_162 fl_6_49 ft_6_14 (dsX_pl ht) rfl ?_
  refine x_iinc X (k := 5) (lv' := [(5, .int (v5 + 1)), (0, .ref (ad t)), (1, .int v1), (2, .int v2), (3, .int v3), (4, .int v4)]) dX6_setPlatoon_165 rfl ki_1 (by decide) rfl ?_
  refine x_goto X (tgt := 15) dX6_setPlatoon_168 (by decide) ?_
  refine x_sub X [1, 2, 3, 4, 5, 0] (lv' := [(0, .ref (ad t)), (1, .int v1), (2, .int v2), (3, .int v3), (4, .int v4), (5, .int (v5 + 1))]) rfl ?_
  exact hK15 _ _ _ _ _ _ _ h
set_option maxRecDepth 100000 in
set_option maxHeartbeats 4000000 in
theorem bX6_setPlatoon_127 {V : x_J} {ad : Nat → Nat} {t : Nat} {Q : x_S → x_L → Prop} (X : x_Is V cX6_setPlatoon 7 RX6 (Option.none : Option Jvm.ClassFile.FieldType) ad dsX 1 (x_PV Q)) (ht : x_pl t) {K15 : Int32 → Int32 → Int32 → Int32 → Int32 → x_S → x_L → Prop} (hK15 : ∀ v1 v2 v3 v4 v5 σ τ, K15 v1 v2 v3 v4 v5 σ τ → V σ τ 15 [(0, .ref (ad t)), (1, .int v1), (2, .int v2), (3, .int v3), (4, .int v4), (5, .int v5)] []) {v1 : Int32} {v2 : Int32} {v3 : Int32} {v4 : Int32} {v5 : Int32} {v6 : Int32} {s1 : Int32} {s2 : Int32} {σ : x_S} {τ : x_L} (h : wX6_setPlatoon_127 t K15 Q v1 v2 v3 v4 v5 v6 s1 s2 σ τ) : V σ τ 127 [(0, .ref (ad t)), (1, .int v1), (2, .int v2), (3, .int v3), (4, .int v4), (5, .int v5), (6, .int v6)] [.int s2, .int s1, .ref (ad (t + 11))] := by
  have g127 := h.1
  have h := h.2
  refine x_iast X dX6_setPlatoon_127 (dsX_pl11 ht) g127 ?_
  refine x_aload_n X dX6_setPlatoon_128 rfl 0 rfl ?_
  refine x_dup X dX6_setPlatoon_129 rfl ?_
  refine x_getI X dX6_setPlatoon_130 fl_6_49 (dsX_pl ht) rfl ?_
  refine x_iload X dX6_setPlatoon_133 4 rfl ?_
  refine x_aload_n X dX6_setPlatoon_135 rfl 0 rfl ?_
  refine x_getR X (j := (t + 11)) dX6_setPlatoon_136 fl_6_42 (dsX_pl ht) rfl ?_
  refine x_iload X dX6_setPlatoon_139 6 rfl ?_
  have g141 := h.1
  have h := h.2
  refine x_iald X dX6_setPlatoon_141 (dsX_pl11 ht) g141 ?_
  refine x_isub X dX6_setPlatoon_142 ?_
  refine x_aload_n X dX6_setPlatoon_143 rfl 0 rfl ?_
  refine x_getR X (j := (t + 12)) dX6_setPlatoon_144 fl_6_45 (dsX_pl ht) rfl ?_
  refine x_iload X dX6_setPlatoon_147 6 rfl ?_
  refine x_zald X dX6_setPlatoon_149 (dsX_pl12 ht) g141 ?_
  refine x_if_eq X 159 dX6_setPlatoon_150 (by decide) (fun hc => ?_) (fun hc => ?_)
  · have h := h.1 hc
    refine x_iconst X dX6_setPlatoon_159 ki_0 ?_
    refine x_sub X [0, 1, 2, 3, 4, 5] (lv' := [(0, .ref (ad t)), (1, .int v1), (2, .int v2), (3, .int v3), (4, .int v4), (5, .int v5)]) rfl ?_
    exact bX6_setPlatoon_160 X ht hK15 h
  · have h := h.2 hc
    refine x_sipush X dX6_setPlatoon_153 ks_300 ?_
    refine x_goto X (tgt := 160) dX6_setPlatoon_156 (by decide) ?_
    refine x_sub X [0, 1, 2, 3, 4, 5] (lv' := [(0, .ref (ad t)), (1, .int v1), (2, .int v2), (3, .int v3), (4, .int v4), (5, .int v5)]) rfl ?_
    exact bX6_setPlatoon_160 X ht hK15 h
set_option maxRecDepth 100000 in
set_option maxHeartbeats 4000000 in
theorem bX6_setPlatoon_75 {V : x_J} {ad : Nat → Nat} {t : Nat} {Q : x_S → x_L → Prop} (X : x_Is V cX6_setPlatoon 7 RX6 (Option.none : Option Jvm.ClassFile.FieldType) ad dsX 1 (x_PV Q)) (ht : x_pl t) {K15 : Int32 → Int32 → Int32 → Int32 → Int32 → x_S → x_L → Prop} (hK15 : ∀ v1 v2 v3 v4 v5 σ τ, K15 v1 v2 v3 v4 v5 σ τ → V σ τ 15 [(0, .ref (ad t)), (1, .int v1), (2, .int v2), (3, .int v3), (4, .int v4), (5, .int v5)] []) {v1 : Int32} {v2 : Int32} {v3 : Int32} {v4 : Int32} {v5 : Int32} {v6 : Int32} {s1 : Int32} {s2 : Int32} {σ : x_S} {τ : x_L} (h : wX6_setPlatoon_75 t K15 Q v1 v2 v3 v4 v5 v6 s1 s2 σ τ) : V σ τ 75 [(0, .ref (ad t)), (1, .int v1), (2, .int v2), (3, .int v3), (4, .int v4), (5, .int v5), (6, .int v6)] [.int s2, .int s1, .ref (ad (t + 10))] := by
  have g75 := h.1
  have h := h.2
  refine x_iast X dX6_setPlatoon_75 (dsX_pl10 ht) g75 ?_
  refine x_aload_n X dX6_setPlatoon_76 rfl 0 rfl ?_
  refine x_getR X (j := (t + 12)) dX6_setPlatoon_77 fl_6_45 (dsX_pl ht) rfl ?_
  refine x_iload X dX6_setPlatoon_80 6 rfl ?_
  refine x_aload_n X dX6_setPlatoon_82 rfl 0 rfl ?_
  refine x_aload_n X dX6_setPlatoon_83 rfl 0 rfl ?_
  refine x_getR X (j := (t + 6)) dX6_setPlatoon_84 fl_6_27 (dsX_pl ht) rfl ?_
  refine x_iload_n X dX6_setPlatoon_87 rfl 1 rfl ?_
  refine x_iload X dX6_setPlatoon_88 5 rfl ?_
  refine x_callVi X [.ref (ad (t + 6)), .int v1, .int v5] [.int v6, .ref (ad (t + 12))] dX6_setPlatoon_90 (kX6_closesUpAt ht (dsX_pl6 ht) h) cm_X6_closesUpAt ci_X6_closesUpAt w_3_143 (dsX_pl ht) ⟨by decide, by decide⟩ rfl (Nat.le_of_ble_eq_true rfl) (fun r90 σ90 τ90 h => ?_)
  have g93 := h.1
  have h := h.2
  refine x_zast X dX6_setPlatoon_93 (dsX_pl12 ht) g93 ?_
  refine x_aload_n X dX6_setPlatoon_94 rfl 0 rfl ?_
  refine x_getR X (j := (t + 11)) dX6_setPlatoon_95 fl_6_42 (dsX_pl ht) rfl ?_
  refine x_iload X dX6_setPlatoon_98 6 rfl ?_
  refine x_iload X dX6_setPlatoon_100 5 rfl ?_
  refine x_iload_n X dX6_setPlatoon_102 rfl 1 rfl ?_
  refine x_icmp_ne X 110 dX6_setPlatoon_103 (by decide) (fun hc => ?_) (fun hc => ?_)
  · have h := h.1 hc
    refine x_iload X dX6_setPlatoon_110 4 rfl ?_
    refine x_aload_n X dX6_setPlatoon_112 rfl 0 rfl ?_
    refine x_getR X (j := (t + 10)) dX6_setPlatoon_113 fl_6_39 (dsX_pl ht) rfl ?_
    refine x_iload X dX6_setPlatoon_116 6 rfl ?_
    refine x_iald X dX6_setPlatoon_118 (dsX_pl10 ht) g93 ?_
    refine x_callSi X [.int ((x_up σ90 (t + 12) v6.toNatClampNeg (vp_nar .boolean r90)) (t + 10) v6.toNatClampNeg)] [.int v4, .int v6, .ref (ad (t + 11))] dX6_setPlatoon_119 (kX6_shareByDistance h) cm_X6_shareByDistance w_3_148 rfl w_3_147 ⟨by decide, by decide⟩ rfl (Nat.le_of_ble_eq_true rfl) (fun r119 σ119 τ119 h => ?_)
    refine x_imul X dX6_setPlatoon_122 ?_
    refine x_sipush X dX6_setPlatoon_123 ks_1000 ?_
    refine x_idiv X dX6_setPlatoon_126 (by decide) ?_
    exact bX6_setPlatoon_127 X ht hK15 h
  · have h := h.2 hc
    refine x_iconst X dX6_setPlatoon_106 ki_0 ?_
    refine x_goto X (tgt := 127) dX6_setPlatoon_107 (by decide) ?_
    exact bX6_setPlatoon_127 X ht hK15 h
set_option maxRecDepth 100000 in
set_option maxHeartbeats 4000000 in
theorem bX6_setPlatoon_234 {V : x_J} {ad : Nat → Nat} {t : Nat} {Q : x_S → x_L → Prop} (X : x_Is V cX6_setPlatoon 7 RX6 (Option.none : Option Jvm.ClassFile.FieldType) ad dsX 1 (x_PV Q)) (ht : x_pl t) {σ : x_S} {τ : x_L} (h : wX6_setPlatoon_234 t Q σ τ) : V σ τ 234 [] [] := by
  exact x_vret X dX6_setPlatoon_234 ⟨rfl, h⟩
set_option maxRecDepth 100000 in
set_option maxHeartbeats 4000000 in
theorem bX6_setPlatoon_15 {V : x_J} {ad : Nat → Nat} {t : Nat} {Q : x_S → x_L → Prop} (X : x_Is V cX6_setPlatoon 7 RX6 (Option.none : Option Jvm.ClassFile.FieldType) ad dsX 1 (x_PV Q)) (ht : x_pl t) {K15 : Int32 → Int32 → Int32 → Int32 → Int32 → x_S → x_L → Prop} (hK15 : ∀ v1 v2 v3 v4 v5 σ τ, K15 v1 v2 v3 v4 v5 σ τ → V σ τ 15 [(0, .ref (ad t)), (1, .int v1), (2, .int v2), (3, .int v3), (4, .int v4), (5, .int v5)] []) {v1 : Int32} {v2 : Int32} {v3 : Int32} {v4 : Int32} {v5 : Int32} {σ : x_S} {τ : x_L} (h : wX6_setPlatoon_15 t Q K15 v1 v2 v3 v4 v5 σ τ) : V σ τ 15 [(0, .ref (ad t)), (1, .int v1), (2, .int v2), (3, .int v3), (4, .int v4), (5, .int v5)] [] := by
  refine x_iload X dX6_setPlatoon_15 5 rfl ?_
  refine x_iload_n X dX6_setPlatoon_17 rfl 2 rfl ?_
  refine x_icmp_ge X 171 dX6_setPlatoon_18 (by decide) (fun hc => ?_) (fun hc => ?_)
  · have h := h.1 hc
    refine x_iload_n X dX6_setPlatoon_171 rfl 2 rfl ?_
    refine x_iload_n X dX6_setPlatoon_172 rfl 1 rfl ?_
    refine x_isub X dX6_setPlatoon_173 ?_
    refine x_iconst X dX6_setPlatoon_174 ki_1 ?_
    refine x_icmp_le X 234 dX6_setPlatoon_175 (by decide) (fun hc => ?_) (fun hc => ?_)
    · have h := h.1 hc
      refine x_sub X [] (lv' := []) rfl ?_
      exact bX6_setPlatoon_234 X ht h
    · have h := h.2 hc
      refine x_aload_n X dX6_setPlatoon_178 rfl 0 rfl ?_
      refine x_getR X (j := (t + 11)) dX6_setPlatoon_179 fl_6_42 (dsX_pl ht) rfl ?_
      refine x_aload_n X dX6_setPlatoon_182 rfl 0 rfl ?_
      refine x_getR X (j := (t + 6)) dX6_setPlatoon_183 fl_6_27 (dsX_pl ht) rfl ?_
      refine x_iload_n X dX6_setPlatoon_186 rfl 1 rfl ?_
      have g187 := h.1
      have h := h.2
      refine x_iald X dX6_setPlatoon_187 (dsX_pl6 ht) g187 ?_
      refine x_iload X dX6_setPlatoon_188 4 rfl ?_
      refine x_aload_n X dX6_setPlatoon_190 rfl 0 rfl ?_
      refine x_getR X (j := (t + 10)) dX6_setPlatoon_191 fl_6_39 (dsX_pl ht) rfl ?_
      refine x_aload_n X dX6_setPlatoon_194 rfl 0 rfl ?_
      refine x_getR X (j := (t + 6)) dX6_setPlatoon_195 fl_6_27 (dsX_pl ht) rfl ?_
      refine x_iload_n X dX6_setPlatoon_198 rfl 1 rfl ?_
      refine x_iconst X dX6_setPlatoon_199 ki_1 ?_
      refine x_iadd X dX6_setPlatoon_200 ?_
      have g201 := h.1
      have h := h.2
      refine x_iald X dX6_setPlatoon_201 (dsX_pl6 ht) g201 ?_
      have g202 := h.1
      have h := h.2
      refine x_iald X dX6_setPlatoon_202 (dsX_pl10 ht) g202 ?_
      refine x_callSi X [.int (σ (t + 10) (σ (t + 6) (v1 + 1).toNatClampNeg).toNatClampNeg)] [.int v4, .int (σ (t + 6) v1.toNatClampNeg), .ref (ad (t + 11))] dX6_setPlatoon_203 (kX6_shareByDistance h) cm_X6_shareByDistance w_3_148 rfl w_3_147 ⟨by decide, by decide⟩ rfl (Nat.le_of_ble_eq_true rfl) (fun r203 σ203 τ203 h => ?_)
      refine x_iconst X dX6_setPlatoon_206 ki_4 ?_
      refine x_idiv X dX6_setPlatoon_207 (by decide) ?_
      refine x_imul X dX6_setPlatoon_208 ?_
      refine x_sipush X dX6_setPlatoon_209 ks_1000 ?_
      refine x_idiv X dX6_setPlatoon_212 (by decide) ?_
      have g213 := h.1
      have h := h.2
      refine x_iast X dX6_setPlatoon_213 (dsX_pl11 ht) g213 ?_
      refine x_aload_n X dX6_setPlatoon_214 rfl 0 rfl ?_
      refine x_dup X dX6_setPlatoon_215 rfl ?_
      refine x_getI X dX6_setPlatoon_216 fl_6_49 (dsX_pl ht) rfl ?_
      refine x_aload_n X dX6_setPlatoon_219 rfl 0 rfl ?_
      refine x_getR X (j := (t + 11)) dX6_setPlatoon_220 fl_6_42 (dsX_pl ht) rfl ?_
      refine x_aload_n X dX6_setPlatoon_223 rfl 0 rfl ?_
      refine x_getR X (j := (t + 6)) dX6_setPlatoon_224 fl_6_27 (dsX_pl ht) rfl ?_
      refine x_iload_n X dX6_setPlatoon_227 rfl 1 rfl ?_
      refine x_iald X dX6_setPlatoon_228 (dsX_pl6 ht) g187 ?_
      have g229 := h.1
      have h := h.2
      refine x_iald X dX6_setPlatoon_229 (dsX_pl11 ht) g229 ?_
      refine x_isub X dX6_setPlatoon_230 ?_
      refine x_putI X dX6_setPlatoon_231 fl_6_49 ft_6_14 (dsX_pl ht) rfl ?_
      refine x_sub X [] (lv' := []) rfl ?_
      exact bX6_setPlatoon_234 X ht h
  · have h := h.2 hc
    refine x_aload_n X dX6_setPlatoon_21 rfl 0 rfl ?_
    refine x_getR X (j := (t + 6)) dX6_setPlatoon_22 fl_6_27 (dsX_pl ht) rfl ?_
    refine x_iload X dX6_setPlatoon_25 5 rfl ?_
    have g27 := h.1
    have h := h.2
    refine x_iald X dX6_setPlatoon_27 (dsX_pl6 ht) g27 ?_
    refine x_istore X (lv' := [(6, .int (σ (t + 6) v5.toNatClampNeg)), (0, .ref (ad t)), (1, .int v1), (2, .int v2), (3, .int v3), (4, .int v4), (5, .int v5)]) dX6_setPlatoon_28 (by decide) rfl ?_
    refine x_aload_n X dX6_setPlatoon_30 rfl 1 rfl ?_
    refine x_getR X (j := (t + 7)) dX6_setPlatoon_31 fl_6_30 (dsX_pl ht) rfl ?_
    refine x_iload X dX6_setPlatoon_34 0 rfl ?_
    refine x_iload_n X dX6_setPlatoon_36 rfl 4 rfl ?_
    have g37 := h.1
    have h := h.2
    refine x_iast X dX6_setPlatoon_37 (dsX_pl7 ht) g37 ?_
    refine x_aload_n X dX6_setPlatoon_38 rfl 1 rfl ?_
    refine x_getR X (j := (t + 8)) dX6_setPlatoon_39 fl_6_33 (dsX_pl ht) rfl ?_
    refine x_iload X dX6_setPlatoon_42 0 rfl ?_
    refine x_iload X dX6_setPlatoon_44 6 rfl ?_
    refine x_iload_n X dX6_setPlatoon_46 rfl 2 rfl ?_
    refine x_isub X dX6_setPlatoon_47 ?_
    refine x_iast X dX6_setPlatoon_48 (dsX_pl8 ht) g37 ?_
    refine x_aload_n X dX6_setPlatoon_49 rfl 1 rfl ?_
    refine x_getR X (j := (t + 10)) dX6_setPlatoon_50 fl_6_39 (dsX_pl ht) rfl ?_
    refine x_iload X dX6_setPlatoon_53 0 rfl ?_
    refine x_iload X dX6_setPlatoon_55 6 rfl ?_
    refine x_iload_n X dX6_setPlatoon_57 rfl 2 rfl ?_
    refine x_icmp_ne X 65 dX6_setPlatoon_58 (by decide) (fun hc => ?_) (fun hc => ?_)
    · have h := h.1 hc
      refine x_aload_n X dX6_setPlatoon_65 rfl 1 rfl ?_
      refine x_aload_n X dX6_setPlatoon_66 rfl 1 rfl ?_
      refine x_getR X (j := (t + 6)) dX6_setPlatoon_67 fl_6_27 (dsX_pl ht) rfl ?_
      refine x_iload X dX6_setPlatoon_70 6 rfl ?_
      refine x_callVi X [.ref (ad (t + 6)), .int v5] [.int (σ (t + 6) v5.toNatClampNeg), .ref (ad (t + 10))] dX6_setPlatoon_72 (kX6_distanceAt ht (dsX_pl6 ht) h) cm_X6_distanceAt ci_X6_distanceAt w_3_139 (dsX_pl ht) ⟨by decide, by decide⟩ rfl (Nat.le_of_ble_eq_true rfl) (fun r72 σ72 τ72 h => ?_)
      refine x_sub X [1, 2, 3, 4, 5, 6, 0] (lv' := [(0, .ref (ad t)), (1, .int v1), (2, .int v2), (3, .int v3), (4, .int v4), (5, .int v5), (6, .int (σ (t + 6) v5.toNatClampNeg))]) rfl ?_
      exact bX6_setPlatoon_75 X ht hK15 h
    · have h := h.2 hc
      refine x_iconst X dX6_setPlatoon_61 ki_0 ?_
      refine x_goto X (tgt := 75) dX6_setPlatoon_62 (by decide) ?_
      refine x_sub X [1, 2, 3, 4, 5, 6, 0] (lv' := [(0, .ref (ad t)), (1, .int v1), (2, .int v2), (3, .int v3), (4, .int v4), (5, .int v5), (6, .int (σ (t + 6) v5.toNatClampNeg))]) rfl ?_
      exact bX6_setPlatoon_75 X ht hK15 h
set_option maxRecDepth 100000 in
set_option maxHeartbeats 4000000 in
theorem kX6_setPlatoon {ad : Nat → Nat} {t : Nat} (ht : x_pl t) {a1 : Int32} {a2 : Int32} {a3 : Int32} {σ : x_S} {τ : x_L} {Q : x_S → x_L → Prop} (h : wX6_setPlatoon t a1 a2 a3 σ τ Q) : x_Met yX6_setPlatoon cX6_setPlatoon 7 (Option.none : Option Jvm.ClassFile.FieldType) 1 ad dsX [.ref (ad t), .int a1, .int a2, .int a3] σ τ (x_PV Q) := by
  refine x_met (by decide +kernel) (Nat.le_of_ble_eq_true rfl) (fun V X => ?_)
  have X : x_Is V cX6_setPlatoon 7 RX6 (Option.none : Option Jvm.ClassFile.FieldType) ad dsX 1 (x_PV Q) := X
  show V σ τ 0 [(0, .ref (ad t)), (1, .int a1), (2, .int a2), (3, .int a3)] []
  refine x_aload_n X dX6_setPlatoon_0 rfl 0 rfl ?_
  refine x_aload_n X dX6_setPlatoon_1 rfl 0 rfl ?_
  refine x_getR X (j := (t + 6)) dX6_setPlatoon_2 fl_6_27 (dsX_pl ht) rfl ?_
  refine x_iload_n X dX6_setPlatoon_5 rfl 1 rfl ?_
  have g6 := h.1
  have h := h.2
  refine x_iald X dX6_setPlatoon_6 (dsX_pl6 ht) g6 ?_
  refine x_callVi X [.int (σ (t + 6) a1.toNatClampNeg)] [] dX6_setPlatoon_7 (kX6_base ht h) cm_X6_base ci_X6_base w_3_135 (dsX_pl ht) ⟨by decide, by decide⟩ rfl (Nat.le_of_ble_eq_true rfl) (fun r7 σ7 τ7 h => ?_)
  refine x_istore X (lv' := [(4, .int r7), (0, .ref (ad t)), (1, .int a1), (2, .int a2), (3, .int a3)]) dX6_setPlatoon_10 (by decide) rfl ?_
  refine x_iload_n X dX6_setPlatoon_12 rfl 2 rfl ?_
  refine x_istore X (lv' := [(5, .int a1), (4, .int r7), (0, .ref (ad t)), (1, .int a1), (2, .int a2), (3, .int a3)]) dX6_setPlatoon_13 (by decide) rfl ?_
  refine x_sub X [2, 3, 4, 5, 1, 0] (lv' := [(0, .ref (ad t)), (1, .int a1), (2, .int a2), (3, .int a3), (4, .int r7), (5, .int a1)]) rfl ?_
  exact x_l5_G (fun v1 v2 v3 v4 v5 σ τ => V σ τ 15 [(0, .ref (ad t)), (1, .int v1), (2, .int v2), (3, .int v3), (4, .int v4), (5, .int v5)] []) (fun K15 hK15 v1 v2 v3 v4 v5 σ τ h => bX6_setPlatoon_15 X ht hK15 h) h
theorem dX6_isAhead_0 : decode cX6_isAhead 0 = .ok (.aload_n 0, 1) := by decide +kernel
theorem dX6_isAhead_1 : decode cX6_isAhead 1 = .ok (.getfield 36, 3) := by decide +kernel
theorem dX6_isAhead_4 : decode cX6_isAhead 4 = .ok (.iload_n 1, 1) := by decide +kernel
theorem dX6_isAhead_5 : decode cX6_isAhead 5 = .ok (.iaload, 1) := by decide +kernel
theorem dX6_isAhead_6 : decode cX6_isAhead 6 = .ok (.aload_n 0, 1) := by decide +kernel
theorem dX6_isAhead_7 : decode cX6_isAhead 7 = .ok (.getfield 36, 3) := by decide +kernel
theorem dX6_isAhead_10 : decode cX6_isAhead 10 = .ok (.iload_n 2, 1) := by decide +kernel
theorem dX6_isAhead_11 : decode cX6_isAhead 11 = .ok (.iaload, 1) := by decide +kernel
theorem dX6_isAhead_12 : decode cX6_isAhead 12 = .ok (.if_icmp .gt 23, 3) := by decide +kernel
theorem dX6_isAhead_15 : decode cX6_isAhead 15 = .ok (.aload_n 0, 1) := by decide +kernel
theorem dX6_isAhead_16 : decode cX6_isAhead 16 = .ok (.getfield 36, 3) := by decide +kernel
theorem dX6_isAhead_19 : decode cX6_isAhead 19 = .ok (.iload_n 1, 1) := by decide +kernel
theorem dX6_isAhead_20 : decode cX6_isAhead 20 = .ok (.iaload, 1) := by decide +kernel
theorem dX6_isAhead_21 : decode cX6_isAhead 21 = .ok (.aload_n 0, 1) := by decide +kernel
theorem dX6_isAhead_22 : decode cX6_isAhead 22 = .ok (.getfield 36, 3) := by decide +kernel
theorem dX6_isAhead_25 : decode cX6_isAhead 25 = .ok (.iload_n 2, 1) := by decide +kernel
theorem dX6_isAhead_26 : decode cX6_isAhead 26 = .ok (.iaload, 1) := by decide +kernel
theorem dX6_isAhead_27 : decode cX6_isAhead 27 = .ok (.if_icmp .ne 12, 3) := by decide +kernel
theorem dX6_isAhead_30 : decode cX6_isAhead 30 = .ok (.iload_n 1, 1) := by decide +kernel
theorem dX6_isAhead_31 : decode cX6_isAhead 31 = .ok (.iload_n 2, 1) := by decide +kernel
theorem dX6_isAhead_32 : decode cX6_isAhead 32 = .ok (.if_icmp .ge 7, 3) := by decide +kernel
theorem dX6_isAhead_35 : decode cX6_isAhead 35 = .ok (.iconst 1, 1) := by decide +kernel
theorem dX6_isAhead_36 : decode cX6_isAhead 36 = .ok (.goto 4, 3) := by decide +kernel
theorem dX6_isAhead_39 : decode cX6_isAhead 39 = .ok (.iconst 0, 1) := by decide +kernel
theorem dX6_isAhead_40 : decode cX6_isAhead 40 = .ok (.ireturn, 1) := by decide +kernel
theorem cm_X6_isAhead : x_CM yX6_isAhead cX6_isAhead 3 (Option.some FieldType.boolean) 2 := ⟨w_3_130, w_1_7, by decide +kernel, by decide +kernel⟩
theorem ci_X6_isAhead : x_CI yX6_isAhead 8 := ⟨w_3_129, wp_12, (RX6, TX6, 15), rfl, rfl⟩
set_option maxRecDepth 100000 in
set_option maxHeartbeats 4000000 in
theorem bX6_isAhead_40 {V : x_J} {ad : Nat → Nat} {t : Nat} {Q : Int32 → x_S → x_L → Prop} (X : x_Is V cX6_isAhead 3 RX6 (Option.some FieldType.boolean) ad dsX 0 (x_PI Q)) (ht : x_pl t) {s0 : Int32} {σ : x_S} {τ : x_L} (h : wX6_isAhead_40 t Q s0 σ τ) : V σ τ 40 [] [.int s0] := by
  exact x_zret X dX6_isAhead_40 ⟨h.1, _, rfl, h.2⟩
set_option maxRecDepth 100000 in
set_option maxHeartbeats 4000000 in
theorem bX6_isAhead_35 {V : x_J} {ad : Nat → Nat} {t : Nat} {Q : Int32 → x_S → x_L → Prop} (X : x_Is V cX6_isAhead 3 RX6 (Option.some FieldType.boolean) ad dsX 0 (x_PI Q)) (ht : x_pl t) {σ : x_S} {τ : x_L} (h : wX6_isAhead_35 t Q σ τ) : V σ τ 35 [] [] := by
  refine x_iconst X dX6_isAhead_35 ki_1 ?_
  refine x_goto X (tgt := 40) dX6_isAhead_36 (by decide) ?_
  exact bX6_isAhead_40 X ht h
set_option maxRecDepth 100000 in
set_option maxHeartbeats 4000000 in
theorem bX6_isAhead_39 {V : x_J} {ad : Nat → Nat} {t : Nat} {Q : Int32 → x_S → x_L → Prop} (X : x_Is V cX6_isAhead 3 RX6 (Option.some FieldType.boolean) ad dsX 0 (x_PI Q)) (ht : x_pl t) {σ : x_S} {τ : x_L} (h : wX6_isAhead_39 t Q σ τ) : V σ τ 39 [] [] := by
  refine x_iconst X dX6_isAhead_39 ki_0 ?_
  exact bX6_isAhead_40 X ht h
set_option maxRecDepth 100000 in
set_option maxHeartbeats 4000000 in
theorem kX6_isAhead {ad : Nat → Nat} {t : Nat} (ht : x_pl t) {a1 : Int32} {a2 : Int32} {σ : x_S} {τ : x_L} {Q : Int32 → x_S → x_L → Prop} (h : wX6_isAhead t a1 a2 σ τ Q) : x_Met yX6_isAhead cX6_isAhead 3 (Option.some FieldType.boolean) 0 ad dsX [.ref (ad t), .int a1, .int a2] σ τ (x_PI Q) := by
  refine x_met (by decide +kernel) (Nat.le_of_ble_eq_true rfl) (fun V X => ?_)
  have X : x_Is V cX6_isAhead 3 RX6 (Option.some FieldType.boolean) ad dsX 0 (x_PI Q) := X
  show V σ τ 0 [(0, .ref (ad t)), (1, .int a1), (2, .int a2)] []
  refine x_aload_n X dX6_isAhead_0 rfl 0 rfl ?_
  refine x_getR X (j := (t + 9)) dX6_isAhead_1 fl_6_36 (dsX_pl ht) rfl ?_
  refine x_iload_n X dX6_isAhead_4 rfl 1 rfl ?_
  have g5 := h.1
  have h := h.2
  refine x_iald X dX6_isAhead_5 (dsX_pl9 ht) g5 ?_
  refine x_aload_n X dX6_isAhead_6 rfl 0 rfl ?_
  refine x_getR X (j := (t + 9)) dX6_isAhead_7 fl_6_36 (dsX_pl ht) rfl ?_
  refine x_iload_n X dX6_isAhead_10 rfl 2 rfl ?_
  have g11 := h.1
  have h := h.2
  refine x_iald X dX6_isAhead_11 (dsX_pl9 ht) g11 ?_
  refine x_icmp_gt X 35 dX6_isAhead_12 (by decide) (fun hc => ?_) (fun hc => ?_)
  · have h := h.1 hc
    refine x_sub X [] (lv' := []) rfl ?_
    exact bX6_isAhead_35 X ht h
  · have h := h.2 hc
    refine x_aload_n X dX6_isAhead_15 rfl 0 rfl ?_
    refine x_getR X (j := (t + 9)) dX6_isAhead_16 fl_6_36 (dsX_pl ht) rfl ?_
    refine x_iload_n X dX6_isAhead_19 rfl 1 rfl ?_
    refine x_iald X dX6_isAhead_20 (dsX_pl9 ht) g5 ?_
    refine x_aload_n X dX6_isAhead_21 rfl 0 rfl ?_
    refine x_getR X (j := (t + 9)) dX6_isAhead_22 fl_6_36 (dsX_pl ht) rfl ?_
    refine x_iload_n X dX6_isAhead_25 rfl 2 rfl ?_
    refine x_iald X dX6_isAhead_26 (dsX_pl9 ht) g11 ?_
    refine x_icmp_ne X 39 dX6_isAhead_27 (by decide) (fun hc => ?_) (fun hc => ?_)
    · have h := h.1 hc
      refine x_sub X [] (lv' := []) rfl ?_
      exact bX6_isAhead_39 X ht h
    · have h := h.2 hc
      refine x_iload_n X dX6_isAhead_30 rfl 1 rfl ?_
      refine x_iload_n X dX6_isAhead_31 rfl 2 rfl ?_
      refine x_icmp_ge X 39 dX6_isAhead_32 (by decide) (fun hc => ?_) (fun hc => ?_)
      · have h := h.1 hc
        refine x_sub X [] (lv' := []) rfl ?_
        exact bX6_isAhead_39 X ht h
      · have h := h.2 hc
        refine x_sub X [] (lv' := []) rfl ?_
        exact bX6_isAhead_35 X ht h
