theorem dX11_load_0 : decode cX11_load 0 = .ok (.aload_n 0, 1) := by decide +kernel
theorem dX11_load_1 : decode cX11_load 1 = .ok (.iconst 0, 1) := by decide +kernel
theorem dX11_load_2 : decode cX11_load 2 = .ok (.putfield 82, 3) := by decide +kernel
theorem dX11_load_5 : decode cX11_load 5 = .ok (.aload_n 0, 1) := by decide +kernel
theorem dX11_load_6 : decode cX11_load 6 = .ok (.getfield 17, 3) := by decide +kernel
theorem dX11_load_9 : decode cX11_load 9 = .ok (.sipush 290, 3) := by decide +kernel
theorem dX11_load_12 : decode cX11_load 12 = .ok (.iconst 0, 1) := by decide +kernel
theorem dX11_load_13 : decode cX11_load 13 = .ok (.iastore, 1) := by decide +kernel
theorem dX11_load_14 : decode cX11_load 14 = .ok (.aload_n 0, 1) := by decide +kernel
theorem dX11_load_15 : decode cX11_load 15 = .ok (.getfield 17, 3) := by decide +kernel
theorem dX11_load_18 : decode cX11_load 18 = .ok (.sipush 291, 3) := by decide +kernel
theorem dX11_load_21 : decode cX11_load 21 = .ok (.iconst 0, 1) := by decide +kernel
theorem dX11_load_22 : decode cX11_load 22 = .ok (.iastore, 1) := by decide +kernel
theorem dX11_load_23 : decode cX11_load 23 = .ok (.aload_n 0, 1) := by decide +kernel
theorem dX11_load_24 : decode cX11_load 24 = .ok (.invokevirtual 467, 3) := by decide +kernel
theorem dX11_load_27 : decode cX11_load 27 = .ok (.iconst 1, 1) := by decide +kernel
theorem dX11_load_28 : decode cX11_load 28 = .ok (.istore_n 1, 1) := by decide +kernel
theorem dX11_load_29 : decode cX11_load 29 = .ok (.iload_n 1, 1) := by decide +kernel
theorem dX11_load_30 : decode cX11_load 30 = .ok (.ifCond .eq 18, 3) := by decide +kernel
theorem dX11_load_33 : decode cX11_load 33 = .ok (.aload_n 0, 1) := by decide +kernel
theorem dX11_load_34 : decode cX11_load 34 = .ok (.getfield 419, 3) := by decide +kernel
theorem dX11_load_37 : decode cX11_load 37 = .ok (.ifCond .eq 11, 3) := by decide +kernel
theorem dX11_load_40 : decode cX11_load 40 = .ok (.aload_n 0, 1) := by decide +kernel
theorem dX11_load_41 : decode cX11_load 41 = .ok (.invokevirtual 470, 3) := by decide +kernel
theorem dX11_load_44 : decode cX11_load 44 = .ok (.istore_n 1, 1) := by decide +kernel
theorem dX11_load_45 : decode cX11_load 45 = .ok (.goto (-16), 3) := by decide +kernel
theorem dX11_load_48 : decode cX11_load 48 = .ok (.aload_n 0, 1) := by decide +kernel
theorem dX11_load_49 : decode cX11_load 49 = .ok (.iconst 0, 1) := by decide +kernel
theorem dX11_load_50 : decode cX11_load 50 = .ok (.putfield 383, 3) := by decide +kernel
theorem dX11_load_53 : decode cX11_load 53 = .ok (.iload_n 1, 1) := by decide +kernel
theorem dX11_load_54 : decode cX11_load 54 = .ok (.ifCond .ne 6, 3) := by decide +kernel
theorem dX11_load_57 : decode cX11_load 57 = .ok (.bipush (-2), 2) := by decide +kernel
theorem dX11_load_59 : decode cX11_load 59 = .ok (.ireturn, 1) := by decide +kernel
theorem dX11_load_60 : decode cX11_load 60 = .ok (.iconst 0, 1) := by decide +kernel
theorem dX11_load_61 : decode cX11_load 61 = .ok (.istore_n 2, 1) := by decide +kernel
theorem dX11_load_62 : decode cX11_load 62 = .ok (.iload_n 2, 1) := by decide +kernel
theorem dX11_load_63 : decode cX11_load 63 = .ok (.sipush 290, 3) := by decide +kernel
theorem dX11_load_66 : decode cX11_load 66 = .ok (.if_icmp .ge 25, 3) := by decide +kernel
theorem dX11_load_69 : decode cX11_load 69 = .ok (.aload_n 0, 1) := by decide +kernel
theorem dX11_load_70 : decode cX11_load 70 = .ok (.getfield 17, 3) := by decide +kernel
theorem dX11_load_73 : decode cX11_load 73 = .ok (.iload_n 2, 1) := by decide +kernel
theorem dX11_load_74 : decode cX11_load 74 = .ok (.aload_n 0, 1) := by decide +kernel
theorem dX11_load_75 : decode cX11_load 75 = .ok (.getfield 17, 3) := by decide +kernel
theorem dX11_load_78 : decode cX11_load 78 = .ok (.sipush 290, 3) := by decide +kernel
theorem dX11_load_81 : decode cX11_load 81 = .ok (.iload_n 2, 1) := by decide +kernel
theorem dX11_load_82 : decode cX11_load 82 = .ok (.iadd, 1) := by decide +kernel
theorem dX11_load_83 : decode cX11_load 83 = .ok (.iaload, 1) := by decide +kernel
theorem dX11_load_84 : decode cX11_load 84 = .ok (.iastore, 1) := by decide +kernel
theorem dX11_load_85 : decode cX11_load 85 = .ok (.iinc 2 1, 3) := by decide +kernel
theorem dX11_load_88 : decode cX11_load 88 = .ok (.goto (-26), 3) := by decide +kernel
theorem dX11_load_91 : decode cX11_load 91 = .ok (.iconst 0, 1) := by decide +kernel
theorem dX11_load_92 : decode cX11_load 92 = .ok (.istore_n 2, 1) := by decide +kernel
theorem dX11_load_93 : decode cX11_load 93 = .ok (.iload_n 2, 1) := by decide +kernel
theorem dX11_load_94 : decode cX11_load 94 = .ok (.aload_n 0, 1) := by decide +kernel
theorem dX11_load_95 : decode cX11_load 95 = .ok (.getfield 17, 3) := by decide +kernel
theorem dX11_load_98 : decode cX11_load 98 = .ok (.iconst 1, 1) := by decide +kernel
theorem dX11_load_99 : decode cX11_load 99 = .ok (.iaload, 1) := by decide +kernel
theorem dX11_load_100 : decode cX11_load 100 = .ok (.if_icmp .ge 77, 3) := by decide +kernel
theorem dX11_load_103 : decode cX11_load 103 = .ok (.aload_n 0, 1) := by decide +kernel
theorem dX11_load_104 : decode cX11_load 104 = .ok (.getfield 9, 3) := by decide +kernel
theorem dX11_load_107 : decode cX11_load 107 = .ok (.iload_n 2, 1) := by decide +kernel
theorem dX11_load_108 : decode cX11_load 108 = .ok (.aload_n 0, 1) := by decide +kernel
theorem dX11_load_109 : decode cX11_load 109 = .ok (.iload_n 2, 1) := by decide +kernel
theorem dX11_load_110 : decode cX11_load 110 = .ok (.iconst 0, 1) := by decide +kernel
theorem dX11_load_111 : decode cX11_load 111 = .ok (.invokevirtual 99, 3) := by decide +kernel
theorem dX11_load_114 : decode cX11_load 114 = .ok (.iastore, 1) := by decide +kernel
theorem dX11_load_115 : decode cX11_load 115 = .ok (.iconst 0, 1) := by decide +kernel
theorem dX11_load_116 : decode cX11_load 116 = .ok (.istore_n 3, 1) := by decide +kernel
theorem dX11_load_117 : decode cX11_load 117 = .ok (.iload_n 3, 1) := by decide +kernel
theorem dX11_load_118 : decode cX11_load 118 = .ok (.aload_n 0, 1) := by decide +kernel
theorem dX11_load_119 : decode cX11_load 119 = .ok (.iload_n 2, 1) := by decide +kernel
theorem dX11_load_120 : decode cX11_load 120 = .ok (.invokevirtual 107, 3) := by decide +kernel
theorem dX11_load_123 : decode cX11_load 123 = .ok (.if_icmp .ge 48, 3) := by decide +kernel
theorem dX11_load_126 : decode cX11_load 126 = .ok (.aload_n 0, 1) := by decide +kernel
theorem dX11_load_127 : decode cX11_load 127 = .ok (.getfield 9, 3) := by decide +kernel
theorem dX11_load_130 : decode cX11_load 130 = .ok (.bipush 12, 2) := by decide +kernel
theorem dX11_load_132 : decode cX11_load 132 = .ok (.iload_n 2, 1) := by decide +kernel
theorem dX11_load_133 : decode cX11_load 133 = .ok (.iload_n 3, 1) := by decide +kernel
theorem dX11_load_134 : decode cX11_load 134 = .ok (.invokestatic 111, 3) := by decide +kernel
theorem dX11_load_137 : decode cX11_load 137 = .ok (.iadd, 1) := by decide +kernel
theorem dX11_load_138 : decode cX11_load 138 = .ok (.iconst 0, 1) := by decide +kernel
theorem dX11_load_139 : decode cX11_load 139 = .ok (.iastore, 1) := by decide +kernel
theorem dX11_load_140 : decode cX11_load 140 = .ok (.aload_n 0, 1) := by decide +kernel
theorem dX11_load_141 : decode cX11_load 141 = .ok (.getfield 9, 3) := by decide +kernel
theorem dX11_load_144 : decode cX11_load 144 = .ok (.sipush 132, 3) := by decide +kernel
theorem dX11_load_147 : decode cX11_load 147 = .ok (.iload_n 2, 1) := by decide +kernel
theorem dX11_load_148 : decode cX11_load 148 = .ok (.iload_n 3, 1) := by decide +kernel
theorem dX11_load_149 : decode cX11_load 149 = .ok (.invokestatic 111, 3) := by decide +kernel
theorem dX11_load_152 : decode cX11_load 152 = .ok (.iadd, 1) := by decide +kernel
theorem dX11_load_153 : decode cX11_load 153 = .ok (.bipush 80, 2) := by decide +kernel
theorem dX11_load_155 : decode cX11_load 155 = .ok (.aload_n 0, 1) := by decide +kernel
theorem dX11_load_156 : decode cX11_load 156 = .ok (.iload_n 2, 1) := by decide +kernel
theorem dX11_load_157 : decode cX11_load 157 = .ok (.iload_n 3, 1) := by decide +kernel
theorem dX11_load_158 : decode cX11_load 158 = .ok (.invokevirtual 283, 3) := by decide +kernel
theorem dX11_load_161 : decode cX11_load 161 = .ok (.invokestatic 304, 3) := by decide +kernel
theorem dX11_load_164 : decode cX11_load 164 = .ok (.iastore, 1) := by decide +kernel
theorem dX11_load_165 : decode cX11_load 165 = .ok (.iinc 3 1, 3) := by decide +kernel
theorem dX11_load_168 : decode cX11_load 168 = .ok (.goto (-51), 3) := by decide +kernel
theorem dX11_load_171 : decode cX11_load 171 = .ok (.iinc 2 1, 3) := by decide +kernel
theorem dX11_load_174 : decode cX11_load 174 = .ok (.goto (-81), 3) := by decide +kernel
theorem dX11_load_177 : decode cX11_load 177 = .ok (.aload_n 0, 1) := by decide +kernel
theorem dX11_load_178 : decode cX11_load 178 = .ok (.iconst 0, 1) := by decide +kernel
theorem dX11_load_179 : decode cX11_load 179 = .ok (.putfield 85, 3) := by decide +kernel
theorem dX11_load_182 : decode cX11_load 182 = .ok (.aload_n 0, 1) := by decide +kernel
theorem dX11_load_183 : decode cX11_load 183 = .ok (.getfield 13, 3) := by decide +kernel
theorem dX11_load_186 : decode cX11_load 186 = .ok (.iconst 0, 1) := by decide +kernel
theorem dX11_load_187 : decode cX11_load 187 = .ok (.iconst 0, 1) := by decide +kernel
theorem dX11_load_188 : decode cX11_load 188 = .ok (.bastore, 1) := by decide +kernel
theorem dX11_load_189 : decode cX11_load 189 = .ok (.aload_n 0, 1) := by decide +kernel
theorem dX11_load_190 : decode cX11_load 190 = .ok (.getfield 13, 3) := by decide +kernel
theorem dX11_load_193 : decode cX11_load 193 = .ok (.iconst 1, 1) := by decide +kernel
theorem dX11_load_194 : decode cX11_load 194 = .ok (.iconst 0, 1) := by decide +kernel
theorem dX11_load_195 : decode cX11_load 195 = .ok (.bastore, 1) := by decide +kernel
theorem dX11_load_196 : decode cX11_load 196 = .ok (.aload_n 0, 1) := by decide +kernel
theorem dX11_load_197 : decode cX11_load 197 = .ok (.getfield 17, 3) := by decide +kernel
theorem dX11_load_200 : decode cX11_load 200 = .ok (.iconst 1, 1) := by decide +kernel
theorem dX11_load_201 : decode cX11_load 201 = .ok (.iaload, 1) := by decide +kernel
theorem dX11_load_202 : decode cX11_load 202 = .ok (.ireturn, 1) := by decide +kernel
theorem cm_X11_load : x_CM yX11_load cX11_load 4 (Option.some FieldType.int) 0 := ⟨w_9_106, w_1_12, by decide +kernel, by decide +kernel⟩
theorem ci_X11_load : x_CI yX11_load 13 := ⟨w_9_104, w_9_105, (RX11, TX11, 41), rfl, rfl⟩
set_option maxRecDepth 100000 in
set_option maxHeartbeats 4000000 in
theorem bX11_load_117 {V : x_J} {ad : Nat → Nat} {Q : Int32 → x_S → x_L → Prop} (X : x_Is V cX11_load 4 RX11 (Option.some FieldType.int) ad dsM 8 (x_PI Q)) {K93 : Int32 → x_S → x_L → Prop} {K117 : Int32 → Int32 → x_S → x_L → Prop} (hK93 : ∀ v2 σ τ, K93 v2 σ τ → V σ τ 93 [(0, .ref (ad 0)), (2, .int v2)] []) (hK117 : ∀ v2 v3 σ τ, K117 v2 v3 σ τ → V σ τ 117 [(0, .ref (ad 0)), (2, .int v2), (3, .int v3)] []) {v2 : Int32} {v3 : Int32} {σ : x_S} {τ : x_L} (h : wX11_load_117 K93 Q K117 v2 v3 σ τ) : V σ τ 117 [(0, .ref (ad 0)), (2, .int v2), (3, .int v3)] [] := by
  refine x_iload_n X dX11_load_117 rfl 2 rfl ?_
  refine x_aload_n X dX11_load_118 rfl 0 rfl ?_
  refine x_iload_n X dX11_load_119 rfl 1 rfl ?_
  refine x_callVi X [.int v2] [.int v3] dX11_load_120 (kX11_placesOf h) cm_X11_placesOf ci_X11_placesOf w_7_109 dsM_0 ⟨by decide, by decide⟩ rfl (Nat.le_of_ble_eq_true rfl) (fun r120 σ120 τ120 h => ?_)
  refine x_icmp_ge X 171 dX11_load_123 (by decide) (fun hc => ?_) (fun hc => ?_)
  · have h := h.1 hc
    refine x_iinc X (k := 1) (lv' := [(2, .int (v2 + 1)), (0, .ref (ad 0)), (3, .int v3)]) dX11_load_171 rfl ki_1 (by decide) rfl ?_
    refine x_goto X (tgt := 93) dX11_load_174 (by decide) ?_
    refine x_sub X [1, 0] (lv' := [(0, .ref (ad 0)), (2, .int (v2 + 1))]) rfl ?_
    exact hK93 _ _ _ h
  · have h := h.2 hc
    refine x_aload_n X dX11_load_126 rfl 0 rfl ?_
    refine x_getR X (j := 1) dX11_load_127 fl_11_9 dsM_0 rfl ?_
    refine x_bipush X dX11_load_130 kb_12 ?_
    refine x_iload_n X dX11_load_132 rfl 1 rfl ?_
    refine x_iload_n X dX11_load_133 rfl 2 rfl ?_
    refine x_callSi X [.int v2, .int v3] [.int 12, .ref (ad 1)] dX11_load_134 (kX11_spot h) cm_X11_spot w_7_118 rfl w_7_117 ⟨by decide, by decide⟩ rfl (Nat.le_of_ble_eq_true rfl) (fun r134 σ134 τ134 h => ?_)
    refine x_iadd X dX11_load_137 ?_
    refine x_iconst X dX11_load_138 ki_0 ?_
    have g139 := h.1
    have h := h.2
    refine x_iast X dX11_load_139 dsM_1 g139 ?_
    refine x_aload_n X dX11_load_140 rfl 0 rfl ?_
    refine x_getR X (j := 1) dX11_load_141 fl_11_9 dsM_0 rfl ?_
    refine x_sipush X dX11_load_144 ks_132 ?_
    refine x_iload_n X dX11_load_147 rfl 1 rfl ?_
    refine x_iload_n X dX11_load_148 rfl 2 rfl ?_
    refine x_callSi X [.int v2, .int v3] [.int 132, .ref (ad 1)] dX11_load_149 (kX11_spot h) cm_X11_spot w_7_118 rfl w_7_117 ⟨by decide, by decide⟩ rfl (Nat.le_of_ble_eq_true rfl) (fun r149 σ149 τ149 h => ?_)
    refine x_iadd X dX11_load_152 ?_
    refine x_bipush X dX11_load_153 kb_80 ?_
    refine x_aload_n X dX11_load_155 rfl 0 rfl ?_
    refine x_iload_n X dX11_load_156 rfl 1 rfl ?_
    refine x_iload_n X dX11_load_157 rfl 2 rfl ?_
    refine x_callVi X [.int v2, .int v3] [.int 80, .int (132 + r149), .ref (ad 1)] dX11_load_158 (kX11_limitAt h) cm_X11_limitAt ci_X11_limitAt w_8_120 dsM_0 ⟨by decide, by decide⟩ rfl (Nat.le_of_ble_eq_true rfl) (fun r158 σ158 τ158 h => ?_)
    refine x_callSi X [.int 80, .int r158] [.int (132 + r149), .ref (ad 1)] dX11_load_161 (kX11_min h) cm_X11_min w_8_173 rfl w_8_172 ⟨by decide, by decide⟩ rfl (Nat.le_of_ble_eq_true rfl) (fun r161 σ161 τ161 h => ?_)
    have g164 := h.1
    have h := h.2
    refine x_iast X dX11_load_164 dsM_1 g164 ?_
    refine x_iinc X (k := 2) (lv' := [(3, .int (v3 + 1)), (0, .ref (ad 0)), (2, .int v2)]) dX11_load_165 rfl ki_1 (by decide) rfl ?_
    refine x_goto X (tgt := 117) dX11_load_168 (by decide) ?_
    refine x_sub X [1, 2, 0] (lv' := [(0, .ref (ad 0)), (2, .int v2), (3, .int (v3 + 1))]) rfl ?_
    exact hK117 _ _ _ _ h
set_option maxRecDepth 100000 in
set_option maxHeartbeats 4000000 in
theorem bX11_load_93 {V : x_J} {ad : Nat → Nat} {Q : Int32 → x_S → x_L → Prop} (X : x_Is V cX11_load 4 RX11 (Option.some FieldType.int) ad dsM 8 (x_PI Q)) {K93 : Int32 → x_S → x_L → Prop} (hK93 : ∀ v2 σ τ, K93 v2 σ τ → V σ τ 93 [(0, .ref (ad 0)), (2, .int v2)] []) {v2 : Int32} {σ : x_S} {τ : x_L} (h : wX11_load_93 Q K93 v2 σ τ) : V σ τ 93 [(0, .ref (ad 0)), (2, .int v2)] [] := by
  refine x_iload_n X dX11_load_93 rfl 1 rfl ?_
  refine x_aload_n X dX11_load_94 rfl 0 rfl ?_
  refine x_getR X (j := 3) dX11_load_95 fl_11_17 dsM_0 rfl ?_
  refine x_iconst X dX11_load_98 ki_1 ?_
  refine x_iald X dX11_load_99 dsM_3 (x_inl (by decide)) ?_
  refine x_icmp_ge X 177 dX11_load_100 (by decide) (fun hc => ?_) (fun hc => ?_)
  · have h := h.1 hc
    refine x_aload_n X dX11_load_177 rfl 0 rfl ?_
    refine x_iconst X dX11_load_178 ki_0 ?_
    refine x_putI X dX11_load_179 fl_11_85 ft_11_3 dsM_0 rfl ?_
    refine x_aload_n X dX11_load_182 rfl 0 rfl ?_
    refine x_getR X (j := 2) dX11_load_183 fl_11_13 dsM_0 rfl ?_
    refine x_iconst X dX11_load_186 ki_0 ?_
    refine x_iconst X dX11_load_187 ki_0 ?_
    refine x_zast X dX11_load_188 dsM_2 (x_inl (by decide)) ?_
    refine x_aload_n X dX11_load_189 rfl 0 rfl ?_
    refine x_getR X (j := 2) dX11_load_190 fl_11_13 dsM_0 rfl ?_
    refine x_iconst X dX11_load_193 ki_1 ?_
    refine x_iconst X dX11_load_194 ki_0 ?_
    refine x_zast X dX11_load_195 dsM_2 (x_inl (by decide)) ?_
    refine x_aload_n X dX11_load_196 rfl 0 rfl ?_
    refine x_getR X (j := 3) dX11_load_197 fl_11_17 dsM_0 rfl ?_
    refine x_iconst X dX11_load_200 ki_1 ?_
    refine x_iald X dX11_load_201 dsM_3 (x_inl (by decide)) ?_
    exact x_iret X dX11_load_202 ⟨_, rfl, h⟩
  · have h := h.2 hc
    refine x_aload_n X dX11_load_103 rfl 0 rfl ?_
    refine x_getR X (j := 1) dX11_load_104 fl_11_9 dsM_0 rfl ?_
    refine x_iload_n X dX11_load_107 rfl 1 rfl ?_
    refine x_aload_n X dX11_load_108 rfl 0 rfl ?_
    refine x_iload_n X dX11_load_109 rfl 1 rfl ?_
    refine x_iconst X dX11_load_110 ki_0 ?_
    refine x_callVi X [.int v2, .int 0] [.int v2, .ref (ad 1)] dX11_load_111 (kX11_ofTruck h) cm_X11_ofTruck ci_X11_ofTruck w_7_113 dsM_0 ⟨by decide, by decide⟩ rfl (Nat.le_of_ble_eq_true rfl) (fun r111 σ111 τ111 h => ?_)
    have g114 := h.1
    have h := h.2
    refine x_iast X dX11_load_114 dsM_1 g114 ?_
    refine x_iconst X dX11_load_115 ki_0 ?_
    refine x_istore_n X (lv' := [(3, .int 0), (0, .ref (ad 0)), (2, .int v2)]) dX11_load_116 rfl (by decide) rfl ?_
    refine x_sub X [1, 2, 0] (lv' := [(0, .ref (ad 0)), (2, .int v2), (3, .int 0)]) rfl ?_
    exact x_l2_G (fun v2 v3 σ τ => V σ τ 117 [(0, .ref (ad 0)), (2, .int v2), (3, .int v3)] []) (fun K117 hK117 v2 v3 σ τ h => bX11_load_117 X hK93 hK117 h) h
set_option maxRecDepth 100000 in
set_option maxHeartbeats 4000000 in
theorem bX11_load_62 {V : x_J} {ad : Nat → Nat} {Q : Int32 → x_S → x_L → Prop} (X : x_Is V cX11_load 4 RX11 (Option.some FieldType.int) ad dsM 8 (x_PI Q)) {K62 : Int32 → x_S → x_L → Prop} (hK62 : ∀ v2 σ τ, K62 v2 σ τ → V σ τ 62 [(0, .ref (ad 0)), (2, .int v2)] []) {v2 : Int32} {σ : x_S} {τ : x_L} (h : wX11_load_62 Q K62 v2 σ τ) : V σ τ 62 [(0, .ref (ad 0)), (2, .int v2)] [] := by
  refine x_iload_n X dX11_load_62 rfl 1 rfl ?_
  refine x_sipush X dX11_load_63 ks_290 ?_
  refine x_icmp_ge X 91 dX11_load_66 (by decide) (fun hc => ?_) (fun hc => ?_)
  · have h := h.1 hc
    refine x_iconst X dX11_load_91 ki_0 ?_
    refine x_istore_n X (lv' := [(2, .int 0), (0, .ref (ad 0))]) dX11_load_92 rfl (by decide) rfl ?_
    refine x_sub X [1, 0] (lv' := [(0, .ref (ad 0)), (2, .int 0)]) rfl ?_
    exact x_l1_G (fun v2 σ τ => V σ τ 93 [(0, .ref (ad 0)), (2, .int v2)] []) (fun K93 hK93 v2 σ τ h => bX11_load_93 X hK93 h) h
  · have h := h.2 hc
    refine x_aload_n X dX11_load_69 rfl 0 rfl ?_
    refine x_getR X (j := 3) dX11_load_70 fl_11_17 dsM_0 rfl ?_
    refine x_iload_n X dX11_load_73 rfl 1 rfl ?_
    refine x_aload_n X dX11_load_74 rfl 0 rfl ?_
    refine x_getR X (j := 3) dX11_load_75 fl_11_17 dsM_0 rfl ?_
    refine x_sipush X dX11_load_78 ks_290 ?_
    refine x_iload_n X dX11_load_81 rfl 1 rfl ?_
    refine x_iadd X dX11_load_82 ?_
    have g83 := h.1
    have h := h.2
    refine x_iald X dX11_load_83 dsM_3 g83 ?_
    have g84 := h.1
    have h := h.2
    refine x_iast X dX11_load_84 dsM_3 g84 ?_
    refine x_iinc X (k := 1) (lv' := [(2, .int (v2 + 1)), (0, .ref (ad 0))]) dX11_load_85 rfl ki_1 (by decide) rfl ?_
    refine x_goto X (tgt := 62) dX11_load_88 (by decide) ?_
    refine x_sub X [1, 0] (lv' := [(0, .ref (ad 0)), (2, .int (v2 + 1))]) rfl ?_
    exact hK62 _ _ _ h
set_option maxRecDepth 100000 in
set_option maxHeartbeats 4000000 in
theorem bX11_load_48 {V : x_J} {ad : Nat → Nat} {Q : Int32 → x_S → x_L → Prop} (X : x_Is V cX11_load 4 RX11 (Option.some FieldType.int) ad dsM 8 (x_PI Q)) {v1 : Int32} {σ : x_S} {τ : x_L} (h : wX11_load_48 Q v1 σ τ) : V σ τ 48 [(0, .ref (ad 0)), (1, .int v1)] [] := by
  refine x_aload_n X dX11_load_48 rfl 0 rfl ?_
  refine x_iconst X dX11_load_49 ki_0 ?_
  refine x_putI X dX11_load_50 fl_11_383 ft_11_31 dsM_0 rfl ?_
  refine x_iload_n X dX11_load_53 rfl 1 rfl ?_
  refine x_if_ne X 60 dX11_load_54 (by decide) (fun hc => ?_) (fun hc => ?_)
  · have h := h.1 hc
    refine x_iconst X dX11_load_60 ki_0 ?_
    refine x_istore_n X (lv' := [(2, .int 0), (0, .ref (ad 0)), (1, .int v1)]) dX11_load_61 rfl (by decide) rfl ?_
    refine x_sub X [1, 0] (lv' := [(0, .ref (ad 0)), (2, .int 0)]) rfl ?_
    exact x_l1_G (fun v2 σ τ => V σ τ 62 [(0, .ref (ad 0)), (2, .int v2)] []) (fun K62 hK62 v2 σ τ h => bX11_load_62 X hK62 h) h
  · have h := h.2 hc
    refine x_bipush X dX11_load_57 kb_m2 ?_
    exact x_iret X dX11_load_59 ⟨_, rfl, h⟩
set_option maxRecDepth 100000 in
set_option maxHeartbeats 4000000 in
theorem bX11_load_29 {V : x_J} {ad : Nat → Nat} {Q : Int32 → x_S → x_L → Prop} (X : x_Is V cX11_load 4 RX11 (Option.some FieldType.int) ad dsM 8 (x_PI Q)) {K29 : Int32 → x_S → x_L → Prop} (hK29 : ∀ v1 σ τ, K29 v1 σ τ → V σ τ 29 [(0, .ref (ad 0)), (1, .int v1)] []) {v1 : Int32} {σ : x_S} {τ : x_L} (h : wX11_load_29 Q K29 v1 σ τ) : V σ τ 29 [(0, .ref (ad 0)), (1, .int v1)] [] := by
  refine x_iload_n X dX11_load_29 rfl 1 rfl ?_
  refine x_if_eq X 48 dX11_load_30 (by decide) (fun hc => ?_) (fun hc => ?_)
  · have h := h.1 hc
    exact bX11_load_48 X h
  · have h := h.2 hc
    refine x_aload_n X dX11_load_33 rfl 0 rfl ?_
    refine x_getI X dX11_load_34 fl_11_419 dsM_0 rfl ?_
    refine x_if_eq X 48 dX11_load_37 (by decide) (fun hc => ?_) (fun hc => ?_)
    · have h := h.1 hc
      exact bX11_load_48 X h
    · have h := h.2 hc
      refine x_aload_n X dX11_load_40 rfl 0 rfl ?_
      refine x_callVi X [] [] dX11_load_41 (kX11_readStatement h) cm_X11_readStatement ci_X11_readStatement w_9_132 dsM_0 ⟨by decide, by decide⟩ rfl (Nat.le_of_ble_eq_true rfl) (fun r41 σ41 τ41 h => ?_)
      refine x_istore_n X (lv' := [(1, .int r41), (0, .ref (ad 0))]) dX11_load_44 rfl (by decide) rfl ?_
      refine x_goto X (tgt := 29) dX11_load_45 (by decide) ?_
      refine x_sub X [1, 0] (lv' := [(0, .ref (ad 0)), (1, .int r41)]) rfl ?_
      exact hK29 _ _ _ h
set_option maxRecDepth 100000 in
set_option maxHeartbeats 4000000 in
theorem kX11_load {ad : Nat → Nat} {σ : x_S} {τ : x_L} {Q : Int32 → x_S → x_L → Prop} (h : wX11_load σ τ Q) : x_Met yX11_load cX11_load 4 (Option.some FieldType.int) 8 ad dsM [.ref (ad 0)] σ τ (x_PI Q) := by
  refine x_met (by decide +kernel) (Nat.le_of_ble_eq_true rfl) (fun V X => ?_)
  have X : x_Is V cX11_load 4 RX11 (Option.some FieldType.int) ad dsM 8 (x_PI Q) := X
  show V σ τ 0 [(0, .ref (ad 0))] []
  refine x_aload_n X dX11_load_0 rfl 0 rfl ?_
  refine x_iconst X dX11_load_1 ki_0 ?_
  refine x_putI X dX11_load_2 fl_11_82 ft_11_5 dsM_0 rfl ?_
  refine x_aload_n X dX11_load_5 rfl 0 rfl ?_
  refine x_getR X (j := 3) dX11_load_6 fl_11_17 dsM_0 rfl ?_
  refine x_sipush X dX11_load_9 ks_290 ?_
  refine x_iconst X dX11_load_12 ki_0 ?_
  refine x_iast X dX11_load_13 dsM_3 (x_inl (by decide)) ?_
  refine x_aload_n X dX11_load_14 rfl 0 rfl ?_
  refine x_getR X (j := 3) dX11_load_15 fl_11_17 dsM_0 rfl ?_
  refine x_sipush X dX11_load_18 ks_291 ?_
  refine x_iconst X dX11_load_21 ki_0 ?_
  refine x_iast X dX11_load_22 dsM_3 (x_inl (by decide)) ?_
  refine x_aload_n X dX11_load_23 rfl 0 rfl ?_
  refine x_callVv X [] [] dX11_load_24 (kX11_beginText h) cm_X11_beginText ci_X11_beginText w_9_107 dsM_0 ⟨by decide, by decide⟩ rfl (Nat.le_of_ble_eq_true rfl) (fun σ24 τ24 h => ?_)
  refine x_iconst X dX11_load_27 ki_1 ?_
  refine x_istore_n X (lv' := [(1, .int 1), (0, .ref (ad 0))]) dX11_load_28 rfl (by decide) rfl ?_
  refine x_sub X [1, 0] (lv' := [(0, .ref (ad 0)), (1, .int 1)]) rfl ?_
  exact x_l1_G (fun v1 σ τ => V σ τ 29 [(0, .ref (ad 0)), (1, .int v1)] []) (fun K29 hK29 v1 σ τ h => bX11_load_29 X hK29 h) h
theorem dX11_commandHere_0 : decode cX11_commandHere 0 = .ok (.aload_n 0, 1) := by decide +kernel
theorem dX11_commandHere_1 : decode cX11_commandHere 1 = .ok (.bipush 119, 2) := by decide +kernel
theorem dX11_commandHere_3 : decode cX11_commandHere 3 = .ok (.bipush 97, 2) := by decide +kernel
theorem dX11_commandHere_5 : decode cX11_commandHere 5 = .ok (.bipush 105, 2) := by decide +kernel
theorem dX11_commandHere_7 : decode cX11_commandHere 7 = .ok (.bipush 116, 2) := by decide +kernel
theorem dX11_commandHere_9 : decode cX11_commandHere 9 = .ok (.iconst 0, 1) := by decide +kernel
theorem dX11_commandHere_10 : decode cX11_commandHere 10 = .ok (.invokestatic 453, 3) := by decide +kernel
theorem dX11_commandHere_13 : decode cX11_commandHere 13 = .ok (.invokevirtual 457, 3) := by decide +kernel
theorem dX11_commandHere_16 : decode cX11_commandHere 16 = .ok (.ifCond .eq 5, 3) := by decide +kernel
theorem dX11_commandHere_19 : decode cX11_commandHere 19 = .ok (.iconst 0, 1) := by decide +kernel
theorem dX11_commandHere_20 : decode cX11_commandHere 20 = .ok (.ireturn, 1) := by decide +kernel
theorem dX11_commandHere_21 : decode cX11_commandHere 21 = .ok (.aload_n 0, 1) := by decide +kernel
theorem dX11_commandHere_22 : decode cX11_commandHere 22 = .ok (.bipush 115, 2) := by decide +kernel
theorem dX11_commandHere_24 : decode cX11_commandHere 24 = .ok (.bipush 112, 2) := by decide +kernel
theorem dX11_commandHere_26 : decode cX11_commandHere 26 = .ok (.bipush 101, 2) := by decide +kernel
theorem dX11_commandHere_28 : decode cX11_commandHere 28 = .ok (.bipush 101, 2) := by decide +kernel
theorem dX11_commandHere_30 : decode cX11_commandHere 30 = .ok (.bipush 100, 2) := by decide +kernel
theorem dX11_commandHere_32 : decode cX11_commandHere 32 = .ok (.invokestatic 453, 3) := by decide +kernel
theorem dX11_commandHere_35 : decode cX11_commandHere 35 = .ok (.invokevirtual 457, 3) := by decide +kernel
theorem dX11_commandHere_38 : decode cX11_commandHere 38 = .ok (.ifCond .eq 5, 3) := by decide +kernel
theorem dX11_commandHere_41 : decode cX11_commandHere 41 = .ok (.iconst 1, 1) := by decide +kernel
theorem dX11_commandHere_42 : decode cX11_commandHere 42 = .ok (.ireturn, 1) := by decide +kernel
theorem dX11_commandHere_43 : decode cX11_commandHere 43 = .ok (.aload_n 0, 1) := by decide +kernel
theorem dX11_commandHere_44 : decode cX11_commandHere 44 = .ok (.bipush 115, 2) := by decide +kernel
theorem dX11_commandHere_46 : decode cX11_commandHere 46 = .ok (.bipush 116, 2) := by decide +kernel
theorem dX11_commandHere_48 : decode cX11_commandHere 48 = .ok (.bipush 97, 2) := by decide +kernel
theorem dX11_commandHere_50 : decode cX11_commandHere 50 = .ok (.bipush 114, 2) := by decide +kernel
theorem dX11_commandHere_52 : decode cX11_commandHere 52 = .ok (.bipush 116, 2) := by decide +kernel
theorem dX11_commandHere_54 : decode cX11_commandHere 54 = .ok (.invokestatic 453, 3) := by decide +kernel
theorem dX11_commandHere_57 : decode cX11_commandHere 57 = .ok (.invokevirtual 457, 3) := by decide +kernel
theorem dX11_commandHere_60 : decode cX11_commandHere 60 = .ok (.ifCond .eq 5, 3) := by decide +kernel
theorem dX11_commandHere_63 : decode cX11_commandHere 63 = .ok (.iconst 2, 1) := by decide +kernel
theorem dX11_commandHere_64 : decode cX11_commandHere 64 = .ok (.ireturn, 1) := by decide +kernel
theorem dX11_commandHere_65 : decode cX11_commandHere 65 = .ok (.aload_n 0, 1) := by decide +kernel
theorem dX11_commandHere_66 : decode cX11_commandHere 66 = .ok (.bipush 109, 2) := by decide +kernel
theorem dX11_commandHere_68 : decode cX11_commandHere 68 = .ok (.bipush 101, 2) := by decide +kernel
theorem dX11_commandHere_70 : decode cX11_commandHere 70 = .ok (.bipush 114, 2) := by decide +kernel
theorem dX11_commandHere_72 : decode cX11_commandHere 72 = .ok (.bipush 103, 2) := by decide +kernel
theorem dX11_commandHere_74 : decode cX11_commandHere 74 = .ok (.bipush 101, 2) := by decide +kernel
theorem dX11_commandHere_76 : decode cX11_commandHere 76 = .ok (.invokestatic 453, 3) := by decide +kernel
theorem dX11_commandHere_79 : decode cX11_commandHere 79 = .ok (.invokevirtual 457, 3) := by decide +kernel
theorem dX11_commandHere_82 : decode cX11_commandHere 82 = .ok (.ifCond .eq 5, 3) := by decide +kernel
theorem dX11_commandHere_85 : decode cX11_commandHere 85 = .ok (.iconst 3, 1) := by decide +kernel
theorem dX11_commandHere_86 : decode cX11_commandHere 86 = .ok (.ireturn, 1) := by decide +kernel
theorem dX11_commandHere_87 : decode cX11_commandHere 87 = .ok (.aload_n 0, 1) := by decide +kernel
theorem dX11_commandHere_88 : decode cX11_commandHere 88 = .ok (.bipush 104, 2) := by decide +kernel
theorem dX11_commandHere_90 : decode cX11_commandHere 90 = .ok (.bipush 117, 2) := by decide +kernel
theorem dX11_commandHere_92 : decode cX11_commandHere 92 = .ok (.bipush 114, 2) := by decide +kernel
theorem dX11_commandHere_94 : decode cX11_commandHere 94 = .ok (.bipush 114, 2) := by decide +kernel
theorem dX11_commandHere_96 : decode cX11_commandHere 96 = .ok (.bipush 121, 2) := by decide +kernel
theorem dX11_commandHere_98 : decode cX11_commandHere 98 = .ok (.invokestatic 453, 3) := by decide +kernel
theorem dX11_commandHere_101 : decode cX11_commandHere 101 = .ok (.invokevirtual 457, 3) := by decide +kernel
theorem dX11_commandHere_104 : decode cX11_commandHere 104 = .ok (.ifCond .eq 5, 3) := by decide +kernel
theorem dX11_commandHere_107 : decode cX11_commandHere 107 = .ok (.iconst 4, 1) := by decide +kernel
theorem dX11_commandHere_108 : decode cX11_commandHere 108 = .ok (.ireturn, 1) := by decide +kernel
theorem dX11_commandHere_109 : decode cX11_commandHere 109 = .ok (.aload_n 0, 1) := by decide +kernel
theorem dX11_commandHere_110 : decode cX11_commandHere 110 = .ok (.bipush 114, 2) := by decide +kernel
theorem dX11_commandHere_112 : decode cX11_commandHere 112 = .ok (.bipush 101, 2) := by decide +kernel
theorem dX11_commandHere_114 : decode cX11_commandHere 114 = .ok (.bipush 108, 2) := by decide +kernel
theorem dX11_commandHere_116 : decode cX11_commandHere 116 = .ok (.bipush 97, 2) := by decide +kernel
theorem dX11_commandHere_118 : decode cX11_commandHere 118 = .ok (.bipush 120, 2) := by decide +kernel
theorem dX11_commandHere_120 : decode cX11_commandHere 120 = .ok (.invokestatic 453, 3) := by decide +kernel
theorem dX11_commandHere_123 : decode cX11_commandHere 123 = .ok (.invokevirtual 457, 3) := by decide +kernel
theorem dX11_commandHere_126 : decode cX11_commandHere 126 = .ok (.ifCond .eq 5, 3) := by decide +kernel
theorem dX11_commandHere_129 : decode cX11_commandHere 129 = .ok (.iconst 5, 1) := by decide +kernel
theorem dX11_commandHere_130 : decode cX11_commandHere 130 = .ok (.ireturn, 1) := by decide +kernel
theorem dX11_commandHere_131 : decode cX11_commandHere 131 = .ok (.aload_n 0, 1) := by decide +kernel
theorem dX11_commandHere_132 : decode cX11_commandHere 132 = .ok (.bipush 97, 2) := by decide +kernel
theorem dX11_commandHere_134 : decode cX11_commandHere 134 = .ok (.bipush 108, 2) := by decide +kernel
theorem dX11_commandHere_136 : decode cX11_commandHere 136 = .ok (.bipush 108, 2) := by decide +kernel
theorem dX11_commandHere_138 : decode cX11_commandHere 138 = .ok (.iconst 0, 1) := by decide +kernel
theorem dX11_commandHere_139 : decode cX11_commandHere 139 = .ok (.iconst 0, 1) := by decide +kernel
theorem dX11_commandHere_140 : decode cX11_commandHere 140 = .ok (.invokestatic 453, 3) := by decide +kernel
theorem dX11_commandHere_143 : decode cX11_commandHere 143 = .ok (.invokevirtual 457, 3) := by decide +kernel
theorem dX11_commandHere_146 : decode cX11_commandHere 146 = .ok (.ifCond .eq 8, 3) := by decide +kernel
theorem dX11_commandHere_149 : decode cX11_commandHere 149 = .ok (.bipush 6, 2) := by decide +kernel
theorem dX11_commandHere_151 : decode cX11_commandHere 151 = .ok (.goto 4, 3) := by decide +kernel
theorem dX11_commandHere_154 : decode cX11_commandHere 154 = .ok (.iconst (-1), 1) := by decide +kernel
theorem dX11_commandHere_155 : decode cX11_commandHere 155 = .ok (.ireturn, 1) := by decide +kernel
theorem cm_X11_commandHere : x_CM yX11_commandHere cX11_commandHere 1 (Option.some FieldType.int) 0 := ⟨w_9_186, w_1_12, by decide +kernel, by decide +kernel⟩
theorem ci_X11_commandHere : x_CI yX11_commandHere 13 := ⟨w_9_185, wp_129, (RX11, TX11, 41), rfl, rfl⟩
set_option maxRecDepth 100000 in
set_option maxHeartbeats 4000000 in
theorem bX11_commandHere_155 {V : x_J} {ad : Nat → Nat} {Q : Int32 → x_S → x_L → Prop} (X : x_Is V cX11_commandHere 1 RX11 (Option.some FieldType.int) ad dsM 1 (x_PI Q)) {s0 : Int32} {σ : x_S} {τ : x_L} (h : wX11_commandHere_155 Q s0 σ τ) : V σ τ 155 [] [.int s0] := by
  exact x_iret X dX11_commandHere_155 ⟨_, rfl, h⟩
set_option maxRecDepth 100000 in
set_option maxHeartbeats 4000000 in
theorem kX11_commandHere {ad : Nat → Nat} {σ : x_S} {τ : x_L} {Q : Int32 → x_S → x_L → Prop} (h : wX11_commandHere σ τ Q) : x_Met yX11_commandHere cX11_commandHere 1 (Option.some FieldType.int) 1 ad dsM [.ref (ad 0)] σ τ (x_PI Q) := by
  refine x_met (by decide +kernel) (Nat.le_of_ble_eq_true rfl) (fun V X => ?_)
  have X : x_Is V cX11_commandHere 1 RX11 (Option.some FieldType.int) ad dsM 1 (x_PI Q) := X
  show V σ τ 0 [(0, .ref (ad 0))] []
  refine x_aload_n X dX11_commandHere_0 rfl 0 rfl ?_
  refine x_bipush X dX11_commandHere_1 kb_119 ?_
  refine x_bipush X dX11_commandHere_3 kb_97 ?_
  refine x_bipush X dX11_commandHere_5 kb_105 ?_
  refine x_bipush X dX11_commandHere_7 kb_116 ?_
  refine x_iconst X dX11_commandHere_9 ki_0 ?_
  refine x_callSl X [.int 119, .int 97, .int 105, .int 116, .int 0] [.ref (ad 0)] dX11_commandHere_10 (kX11_pack h) cm_X11_pack w_9_137 rfl w_9_136 ⟨by decide, by decide⟩ rfl (Nat.le_of_ble_eq_true rfl) (fun r10 σ10 τ10 h => ?_)
  refine x_callVi X [.long r10] [] dX11_commandHere_13 (kX11_isWord h) cm_X11_isWord ci_X11_isWord w_9_139 dsM_0 ⟨by decide, by decide⟩ rfl (Nat.le_of_ble_eq_true rfl) (fun r13 σ13 τ13 h => ?_)
  refine x_if_eq X 21 dX11_commandHere_16 (by decide) (fun hc => ?_) (fun hc => ?_)
  · have h := h.1 hc
    refine x_aload_n X dX11_commandHere_21 rfl 0 rfl ?_
    refine x_bipush X dX11_commandHere_22 kb_115 ?_
    refine x_bipush X dX11_commandHere_24 kb_112 ?_
    refine x_bipush X dX11_commandHere_26 kb_101 ?_
    refine x_bipush X dX11_commandHere_28 kb_101 ?_
    refine x_bipush X dX11_commandHere_30 kb_100 ?_
    refine x_callSl X [.int 115, .int 112, .int 101, .int 101, .int 100] [.ref (ad 0)] dX11_commandHere_32 (kX11_pack h) cm_X11_pack w_9_137 rfl w_9_136 ⟨by decide, by decide⟩ rfl (Nat.le_of_ble_eq_true rfl) (fun r32 σ32 τ32 h => ?_)
    refine x_callVi X [.long r32] [] dX11_commandHere_35 (kX11_isWord h) cm_X11_isWord ci_X11_isWord w_9_139 dsM_0 ⟨by decide, by decide⟩ rfl (Nat.le_of_ble_eq_true rfl) (fun r35 σ35 τ35 h => ?_)
    refine x_if_eq X 43 dX11_commandHere_38 (by decide) (fun hc => ?_) (fun hc => ?_)
    · have h := h.1 hc
      refine x_aload_n X dX11_commandHere_43 rfl 0 rfl ?_
      refine x_bipush X dX11_commandHere_44 kb_115 ?_
      refine x_bipush X dX11_commandHere_46 kb_116 ?_
      refine x_bipush X dX11_commandHere_48 kb_97 ?_
      refine x_bipush X dX11_commandHere_50 kb_114 ?_
      refine x_bipush X dX11_commandHere_52 kb_116 ?_
      refine x_callSl X [.int 115, .int 116, .int 97, .int 114, .int 116] [.ref (ad 0)] dX11_commandHere_54 (kX11_pack h) cm_X11_pack w_9_137 rfl w_9_136 ⟨by decide, by decide⟩ rfl (Nat.le_of_ble_eq_true rfl) (fun r54 σ54 τ54 h => ?_)
      refine x_callVi X [.long r54] [] dX11_commandHere_57 (kX11_isWord h) cm_X11_isWord ci_X11_isWord w_9_139 dsM_0 ⟨by decide, by decide⟩ rfl (Nat.le_of_ble_eq_true rfl) (fun r57 σ57 τ57 h => ?_)
      refine x_if_eq X 65 dX11_commandHere_60 (by decide) (fun hc => ?_) (fun hc => ?_)
      · have h := h.1 hc
        refine x_aload_n X dX11_commandHere_65 rfl 0 rfl ?_
        refine x_bipush X dX11_commandHere_66 kb_109 ?_
        refine x_bipush X dX11_commandHere_68 kb_101 ?_
        refine x_bipush X dX11_commandHere_70 kb_114 ?_
        refine x_bipush X dX11_commandHere_72 kb_103 ?_
        refine x_bipush X dX11_commandHere_74 kb_101 ?_
        refine x_callSl X [.int 109, .int 101, .int 114, .int 103, .int 101] [.ref (ad 0)] dX11_commandHere_76 (kX11_pack h) cm_X11_pack w_9_137 rfl w_9_136 ⟨by decide, by decide⟩ rfl (Nat.le_of_ble_eq_true rfl) (fun r76 σ76 τ76 h => ?_)
        refine x_callVi X [.long r76] [] dX11_commandHere_79 (kX11_isWord h) cm_X11_isWord ci_X11_isWord w_9_139 dsM_0 ⟨by decide, by decide⟩ rfl (Nat.le_of_ble_eq_true rfl) (fun r79 σ79 τ79 h => ?_)
        refine x_if_eq X 87 dX11_commandHere_82 (by decide) (fun hc => ?_) (fun hc => ?_)
        · have h := h.1 hc
          refine x_aload_n X dX11_commandHere_87 rfl 0 rfl ?_
          refine x_bipush X dX11_commandHere_88 kb_104 ?_
          refine x_bipush X dX11_commandHere_90 kb_117 ?_
          refine x_bipush X dX11_commandHere_92 kb_114 ?_
          refine x_bipush X dX11_commandHere_94 kb_114 ?_
          refine x_bipush X dX11_commandHere_96 kb_121 ?_
          refine x_callSl X [.int 104, .int 117, .int 114, .int 114, .int 121] [.ref (ad 0)] dX11_commandHere_98 (kX11_pack h) cm_X11_pack w_9_137 rfl w_9_136 ⟨by decide, by decide⟩ rfl (Nat.le_of_ble_eq_true rfl) (fun r98 σ98 τ98 h => ?_)
          refine x_callVi X [.long r98] [] dX11_commandHere_101 (kX11_isWord h) cm_X11_isWord ci_X11_isWord w_9_139 dsM_0 ⟨by decide, by decide⟩ rfl (Nat.le_of_ble_eq_true rfl) (fun r101 σ101 τ101 h => ?_)
          refine x_if_eq X 109 dX11_commandHere_104 (by decide) (fun hc => ?_) (fun hc => ?_)
          · have h := h.1 hc
            refine x_aload_n X dX11_commandHere_109 rfl 0 rfl ?_
            refine x_bipush X dX11_commandHere_110 kb_114 ?_
            refine x_bipush X dX11_commandHere_112 kb_101 ?_
            refine x_bipush X dX11_commandHere_114 kb_108 ?_
            refine x_bipush X dX11_commandHere_116 kb_97 ?_
            refine x_bipush X dX11_commandHere_118 kb_120 ?_
            refine x_callSl X [.int 114, .int 101, .int 108, .int 97, .int 120] [.ref (ad 0)] dX11_commandHere_120 (kX11_pack h) cm_X11_pack w_9_137 rfl w_9_136 ⟨by decide, by decide⟩ rfl (Nat.le_of_ble_eq_true rfl) (fun r120 σ120 τ120 h => ?_)
            refine x_callVi X [.long r120] [] dX11_commandHere_123 (kX11_isWord h) cm_X11_isWord ci_X11_isWord w_9_139 dsM_0 ⟨by decide, by decide⟩ rfl (Nat.le_of_ble_eq_true rfl) (fun r123 σ123 τ123 h => ?_)
            refine x_if_eq X 131 dX11_commandHere_126 (by decide) (fun hc => ?_) (fun hc => ?_)
            · have h := h.1 hc
              refine x_aload_n X dX11_commandHere_131 rfl 0 rfl ?_
              refine x_bipush X dX11_commandHere_132 kb_97 ?_
              refine x_bipush X dX11_commandHere_134 kb_108 ?_
              refine x_bipush X dX11_commandHere_136 kb_108 ?_
              refine x_iconst X dX11_commandHere_138 ki_0 ?_
              refine x_iconst X dX11_commandHere_139 ki_0 ?_
              refine x_callSl X [.int 97, .int 108, .int 108, .int 0, .int 0] [.ref (ad 0)] dX11_commandHere_140 (kX11_pack h) cm_X11_pack w_9_137 rfl w_9_136 ⟨by decide, by decide⟩ rfl (Nat.le_of_ble_eq_true rfl) (fun r140 σ140 τ140 h => ?_)
              refine x_callVi X [.long r140] [] dX11_commandHere_143 (kX11_isWord h) cm_X11_isWord ci_X11_isWord w_9_139 dsM_0 ⟨by decide, by decide⟩ rfl (Nat.le_of_ble_eq_true rfl) (fun r143 σ143 τ143 h => ?_)
              refine x_if_eq X 154 dX11_commandHere_146 (by decide) (fun hc => ?_) (fun hc => ?_)
              · have h := h.1 hc
                refine x_iconst X dX11_commandHere_154 ki_m1 ?_
                refine x_sub X [] (lv' := []) rfl ?_
                exact bX11_commandHere_155 X h
              · have h := h.2 hc
                refine x_bipush X dX11_commandHere_149 kb_6 ?_
                refine x_goto X (tgt := 155) dX11_commandHere_151 (by decide) ?_
                refine x_sub X [] (lv' := []) rfl ?_
                exact bX11_commandHere_155 X h
            · have h := h.2 hc
              refine x_iconst X dX11_commandHere_129 ki_5 ?_
              exact x_iret X dX11_commandHere_130 ⟨_, rfl, h⟩
          · have h := h.2 hc
            refine x_iconst X dX11_commandHere_107 ki_4 ?_
            exact x_iret X dX11_commandHere_108 ⟨_, rfl, h⟩
        · have h := h.2 hc
          refine x_iconst X dX11_commandHere_85 ki_3 ?_
          exact x_iret X dX11_commandHere_86 ⟨_, rfl, h⟩
      · have h := h.2 hc
        refine x_iconst X dX11_commandHere_63 ki_2 ?_
        exact x_iret X dX11_commandHere_64 ⟨_, rfl, h⟩
    · have h := h.2 hc
      refine x_iconst X dX11_commandHere_41 ki_1 ?_
      exact x_iret X dX11_commandHere_42 ⟨_, rfl, h⟩
  · have h := h.2 hc
    refine x_iconst X dX11_commandHere_19 ki_0 ?_
    exact x_iret X dX11_commandHere_20 ⟨_, rfl, h⟩
theorem dX11_readNumberOf_0 : decode cX11_readNumberOf 0 = .ok (.aload_n 0, 1) := by decide +kernel
theorem dX11_readNumberOf_1 : decode cX11_readNumberOf 1 = .ok (.iload_n 2, 1) := by decide +kernel
theorem dX11_readNumberOf_2 : decode cX11_readNumberOf 2 = .ok (.iload_n 3, 1) := by decide +kernel
theorem dX11_readNumberOf_3 : decode cX11_readNumberOf 3 = .ok (.invokevirtual 437, 3) := by decide +kernel
theorem dX11_readNumberOf_6 : decode cX11_readNumberOf 6 = .ok (.ifCond .ne 5, 3) := by decide +kernel
theorem dX11_readNumberOf_9 : decode cX11_readNumberOf 9 = .ok (.iconst 0, 1) := by decide +kernel
theorem dX11_readNumberOf_10 : decode cX11_readNumberOf 10 = .ok (.ireturn, 1) := by decide +kernel
theorem dX11_readNumberOf_11 : decode cX11_readNumberOf 11 = .ok (.aload_n 0, 1) := by decide +kernel
theorem dX11_readNumberOf_12 : decode cX11_readNumberOf 12 = .ok (.getfield 79, 3) := by decide +kernel
theorem dX11_readNumberOf_15 : decode cX11_readNumberOf 15 = .ok (.iconst 4, 1) := by decide +kernel
theorem dX11_readNumberOf_16 : decode cX11_readNumberOf 16 = .ok (.aload_n 0, 1) := by decide +kernel
theorem dX11_readNumberOf_17 : decode cX11_readNumberOf 17 = .ok (.getfield 473, 3) := by decide +kernel
theorem dX11_readNumberOf_20 : decode cX11_readNumberOf 20 = .ok (.imul, 1) := by decide +kernel
theorem dX11_readNumberOf_21 : decode cX11_readNumberOf 21 = .ok (.iload_n 1, 1) := by decide +kernel
theorem dX11_readNumberOf_22 : decode cX11_readNumberOf 22 = .ok (.iadd, 1) := by decide +kernel
theorem dX11_readNumberOf_23 : decode cX11_readNumberOf 23 = .ok (.aload_n 0, 1) := by decide +kernel
theorem dX11_readNumberOf_24 : decode cX11_readNumberOf 24 = .ok (.getfield 434, 3) := by decide +kernel
theorem dX11_readNumberOf_27 : decode cX11_readNumberOf 27 = .ok (.iastore, 1) := by decide +kernel
theorem dX11_readNumberOf_28 : decode cX11_readNumberOf 28 = .ok (.iconst 1, 1) := by decide +kernel
theorem dX11_readNumberOf_29 : decode cX11_readNumberOf 29 = .ok (.ireturn, 1) := by decide +kernel
theorem cm_X11_readNumberOf : x_CM yX11_readNumberOf cX11_readNumberOf 4 (Option.some FieldType.boolean) 3 := ⟨w_9_194, w_1_12, by decide +kernel, by decide +kernel⟩
theorem ci_X11_readNumberOf : x_CI yX11_readNumberOf 13 := ⟨w_9_193, wp_131, (RX11, TX11, 41), rfl, rfl⟩
set_option maxRecDepth 100000 in
set_option maxHeartbeats 4000000 in
theorem kX11_readNumberOf {ad : Nat → Nat} {a1 : Int32} {a2 : Int32} {a3 : Int32} {σ : x_S} {τ : x_L} {Q : Int32 → x_S → x_L → Prop} (h : wX11_readNumberOf a1 a2 a3 σ τ Q) : x_Met yX11_readNumberOf cX11_readNumberOf 4 (Option.some FieldType.boolean) 4 ad dsM [.ref (ad 0), .int a1, .int a2, .int a3] σ τ (x_PI Q) := by
  refine x_met (by decide +kernel) (Nat.le_of_ble_eq_true rfl) (fun V X => ?_)
  have X : x_Is V cX11_readNumberOf 4 RX11 (Option.some FieldType.boolean) ad dsM 4 (x_PI Q) := X
  show V σ τ 0 [(0, .ref (ad 0)), (1, .int a1), (2, .int a2), (3, .int a3)] []
  refine x_aload_n X dX11_readNumberOf_0 rfl 0 rfl ?_
  refine x_iload_n X dX11_readNumberOf_1 rfl 2 rfl ?_
  refine x_iload_n X dX11_readNumberOf_2 rfl 3 rfl ?_
  refine x_callVi X [.int a2, .int a3] [] dX11_readNumberOf_3 (kX11_readNumber h) cm_X11_readNumber ci_X11_readNumber w_9_155 dsM_0 ⟨by decide, by decide⟩ rfl (Nat.le_of_ble_eq_true rfl) (fun r3 σ3 τ3 h => ?_)
  refine x_if_ne X 11 dX11_readNumberOf_6 (by decide) (fun hc => ?_) (fun hc => ?_)
  · have h := h.1 hc
    refine x_aload_n X dX11_readNumberOf_11 rfl 0 rfl ?_
    refine x_getR X (j := 22) dX11_readNumberOf_12 fl_11_79 dsM_0 rfl ?_
    refine x_iconst X dX11_readNumberOf_15 ki_4 ?_
    refine x_aload_n X dX11_readNumberOf_16 rfl 0 rfl ?_
    refine x_getI X dX11_readNumberOf_17 fl_11_473 dsM_0 rfl ?_
    refine x_imul X dX11_readNumberOf_20 ?_
    refine x_iload_n X dX11_readNumberOf_21 rfl 1 rfl ?_
    refine x_iadd X dX11_readNumberOf_22 ?_
    refine x_aload_n X dX11_readNumberOf_23 rfl 0 rfl ?_
    refine x_getI X dX11_readNumberOf_24 fl_11_434 dsM_0 rfl ?_
    have g27 := h.1
    have h := h.2
    refine x_iast X dX11_readNumberOf_27 dsM_22 g27 ?_
    refine x_iconst X dX11_readNumberOf_28 ki_1 ?_
    exact x_zret X dX11_readNumberOf_29 ⟨Or.inr rfl, _, rfl, h⟩
  · have h := h.2 hc
    refine x_iconst X dX11_readNumberOf_9 ki_0 ?_
    exact x_zret X dX11_readNumberOf_10 ⟨Or.inl rfl, _, rfl, h⟩
theorem dX11_readArguments_0 : decode cX11_readArguments 0 = .ok (.iload_n 1, 1) := by decide +kernel
theorem dX11_readArguments_1 : decode cX11_readArguments 1 = .ok (.bipush 6, 2) := by decide +kernel
theorem dX11_readArguments_3 : decode cX11_readArguments 3 = .ok (.if_icmp .eq 16, 3) := by decide +kernel
theorem dX11_readArguments_6 : decode cX11_readArguments 6 = .ok (.aload_n 0, 1) := by decide +kernel
theorem dX11_readArguments_7 : decode cX11_readArguments 7 = .ok (.iconst 1, 1) := by decide +kernel
theorem dX11_readArguments_8 : decode cX11_readArguments 8 = .ok (.iconst 0, 1) := by decide +kernel
theorem dX11_readArguments_9 : decode cX11_readArguments 9 = .ok (.bipush 11, 2) := by decide +kernel
theorem dX11_readArguments_11 : decode cX11_readArguments 11 = .ok (.invokevirtual 476, 3) := by decide +kernel
theorem dX11_readArguments_14 : decode cX11_readArguments 14 = .ok (.ifCond .ne 5, 3) := by decide +kernel
theorem dX11_readArguments_17 : decode cX11_readArguments 17 = .ok (.iconst 0, 1) := by decide +kernel
theorem dX11_readArguments_18 : decode cX11_readArguments 18 = .ok (.ireturn, 1) := by decide +kernel
theorem dX11_readArguments_19 : decode cX11_readArguments 19 = .ok (.iload_n 1, 1) := by decide +kernel
theorem dX11_readArguments_20 : decode cX11_readArguments 20 = .ok (.tableswitch 108 0 3 #[32, 60, 89, 99], 32) := by decide +kernel
theorem dX11_readArguments_52 : decode cX11_readArguments 52 = .ok (.aload_n 0, 1) := by decide +kernel
theorem dX11_readArguments_53 : decode cX11_readArguments 53 = .ok (.iconst 2, 1) := by decide +kernel
theorem dX11_readArguments_54 : decode cX11_readArguments 54 = .ok (.iconst 0, 1) := by decide +kernel
theorem dX11_readArguments_55 : decode cX11_readArguments 55 = .ok (.bipush 9, 2) := by decide +kernel
theorem dX11_readArguments_57 : decode cX11_readArguments 57 = .ok (.invokevirtual 476, 3) := by decide +kernel
theorem dX11_readArguments_60 : decode cX11_readArguments 60 = .ok (.ifCond .eq 18, 3) := by decide +kernel
theorem dX11_readArguments_63 : decode cX11_readArguments 63 = .ok (.aload_n 0, 1) := by decide +kernel
theorem dX11_readArguments_64 : decode cX11_readArguments 64 = .ok (.iconst 3, 1) := by decide +kernel
theorem dX11_readArguments_65 : decode cX11_readArguments 65 = .ok (.iconst 0, 1) := by decide +kernel
theorem dX11_readArguments_66 : decode cX11_readArguments 66 = .ok (.bipush 120, 2) := by decide +kernel
theorem dX11_readArguments_68 : decode cX11_readArguments 68 = .ok (.invokevirtual 476, 3) := by decide +kernel
theorem dX11_readArguments_71 : decode cX11_readArguments 71 = .ok (.ifCond .eq 7, 3) := by decide +kernel
theorem dX11_readArguments_74 : decode cX11_readArguments 74 = .ok (.iconst 1, 1) := by decide +kernel
theorem dX11_readArguments_75 : decode cX11_readArguments 75 = .ok (.goto 4, 3) := by decide +kernel
theorem dX11_readArguments_78 : decode cX11_readArguments 78 = .ok (.iconst 0, 1) := by decide +kernel
theorem dX11_readArguments_79 : decode cX11_readArguments 79 = .ok (.ireturn, 1) := by decide +kernel
theorem dX11_readArguments_80 : decode cX11_readArguments 80 = .ok (.aload_n 0, 1) := by decide +kernel
theorem dX11_readArguments_81 : decode cX11_readArguments 81 = .ok (.iconst 2, 1) := by decide +kernel
theorem dX11_readArguments_82 : decode cX11_readArguments 82 = .ok (.iconst 0, 1) := by decide +kernel
theorem dX11_readArguments_83 : decode cX11_readArguments 83 = .ok (.bipush 9, 2) := by decide +kernel
theorem dX11_readArguments_85 : decode cX11_readArguments 85 = .ok (.invokevirtual 476, 3) := by decide +kernel
theorem dX11_readArguments_88 : decode cX11_readArguments 88 = .ok (.ifCond .eq 19, 3) := by decide +kernel
theorem dX11_readArguments_91 : decode cX11_readArguments 91 = .ok (.aload_n 0, 1) := by decide +kernel
theorem dX11_readArguments_92 : decode cX11_readArguments 92 = .ok (.iconst 3, 1) := by decide +kernel
theorem dX11_readArguments_93 : decode cX11_readArguments 93 = .ok (.bipush 40, 2) := by decide +kernel
theorem dX11_readArguments_95 : decode cX11_readArguments 95 = .ok (.bipush 120, 2) := by decide +kernel
theorem dX11_readArguments_97 : decode cX11_readArguments 97 = .ok (.invokevirtual 476, 3) := by decide +kernel
theorem dX11_readArguments_100 : decode cX11_readArguments 100 = .ok (.ifCond .eq 7, 3) := by decide +kernel
theorem dX11_readArguments_103 : decode cX11_readArguments 103 = .ok (.iconst 1, 1) := by decide +kernel
theorem dX11_readArguments_104 : decode cX11_readArguments 104 = .ok (.goto 4, 3) := by decide +kernel
theorem dX11_readArguments_107 : decode cX11_readArguments 107 = .ok (.iconst 0, 1) := by decide +kernel
theorem dX11_readArguments_108 : decode cX11_readArguments 108 = .ok (.ireturn, 1) := by decide +kernel
theorem dX11_readArguments_109 : decode cX11_readArguments 109 = .ok (.aload_n 0, 1) := by decide +kernel
theorem dX11_readArguments_110 : decode cX11_readArguments 110 = .ok (.iconst 2, 1) := by decide +kernel
theorem dX11_readArguments_111 : decode cX11_readArguments 111 = .ok (.iconst 0, 1) := by decide +kernel
theorem dX11_readArguments_112 : decode cX11_readArguments 112 = .ok (.sipush 2000, 3) := by decide +kernel
theorem dX11_readArguments_115 : decode cX11_readArguments 115 = .ok (.invokevirtual 476, 3) := by decide +kernel
theorem dX11_readArguments_118 : decode cX11_readArguments 118 = .ok (.ireturn, 1) := by decide +kernel
theorem dX11_readArguments_119 : decode cX11_readArguments 119 = .ok (.aload_n 0, 1) := by decide +kernel
theorem dX11_readArguments_120 : decode cX11_readArguments 120 = .ok (.iconst 2, 1) := by decide +kernel
theorem dX11_readArguments_121 : decode cX11_readArguments 121 = .ok (.iconst 0, 1) := by decide +kernel
theorem dX11_readArguments_122 : decode cX11_readArguments 122 = .ok (.bipush 11, 2) := by decide +kernel
theorem dX11_readArguments_124 : decode cX11_readArguments 124 = .ok (.invokevirtual 476, 3) := by decide +kernel
theorem dX11_readArguments_127 : decode cX11_readArguments 127 = .ok (.ireturn, 1) := by decide +kernel
theorem dX11_readArguments_128 : decode cX11_readArguments 128 = .ok (.iconst 1, 1) := by decide +kernel
theorem dX11_readArguments_129 : decode cX11_readArguments 129 = .ok (.ireturn, 1) := by decide +kernel
theorem cm_X11_readArguments : x_CM yX11_readArguments cX11_readArguments 2 (Option.some FieldType.boolean) 1 := ⟨w_9_190, w_1_12, by decide +kernel, by decide +kernel⟩
theorem ci_X11_readArguments : x_CI yX11_readArguments 13 := ⟨w_9_189, wp_130, (RX11, TX11, 41), rfl, rfl⟩
set_option maxRecDepth 100000 in
set_option maxHeartbeats 4000000 in
theorem bX11_readArguments_79 {V : x_J} {ad : Nat → Nat} {Q : Int32 → x_S → x_L → Prop} (X : x_Is V cX11_readArguments 2 RX11 (Option.some FieldType.boolean) ad dsM 5 (x_PI Q)) {s0 : Int32} {σ : x_S} {τ : x_L} (h : wX11_readArguments_79 Q s0 σ τ) : V σ τ 79 [] [.int s0] := by
  exact x_zret X dX11_readArguments_79 ⟨h.1, _, rfl, h.2⟩
set_option maxRecDepth 100000 in
set_option maxHeartbeats 4000000 in
theorem bX11_readArguments_78 {V : x_J} {ad : Nat → Nat} {Q : Int32 → x_S → x_L → Prop} (X : x_Is V cX11_readArguments 2 RX11 (Option.some FieldType.boolean) ad dsM 5 (x_PI Q)) {σ : x_S} {τ : x_L} (h : wX11_readArguments_78 Q σ τ) : V σ τ 78 [] [] := by
  refine x_iconst X dX11_readArguments_78 ki_0 ?_
  exact bX11_readArguments_79 X h
set_option maxRecDepth 100000 in
set_option maxHeartbeats 4000000 in
theorem bX11_readArguments_108 {V : x_J} {ad : Nat → Nat} {Q : Int32 → x_S → x_L → Prop} (X : x_Is V cX11_readArguments 2 RX11 (Option.some FieldType.boolean) ad dsM 5 (x_PI Q)) {s0 : Int32} {σ : x_S} {τ : x_L} (h : wX11_readArguments_108 Q s0 σ τ) : V σ τ 108 [] [.int s0] := by
  exact x_zret X dX11_readArguments_108 ⟨h.1, _, rfl, h.2⟩
set_option maxRecDepth 100000 in
set_option maxHeartbeats 4000000 in
theorem bX11_readArguments_107 {V : x_J} {ad : Nat → Nat} {Q : Int32 → x_S → x_L → Prop} (X : x_Is V cX11_readArguments 2 RX11 (Option.some FieldType.boolean) ad dsM 5 (x_PI Q)) {σ : x_S} {τ : x_L} (h : wX11_readArguments_107 Q σ τ) : V σ τ 107 [] [] := by
  refine x_iconst X dX11_readArguments_107 ki_0 ?_
  exact bX11_readArguments_108 X h
set_option maxRecDepth 100000 in
set_option maxHeartbeats 4000000 in
theorem bX11_readArguments_19 {V : x_J} {ad : Nat → Nat} {Q : Int32 → x_S → x_L → Prop} (X : x_Is V cX11_readArguments 2 RX11 (Option.some FieldType.boolean) ad dsM 5 (x_PI Q)) {v1 : Int32} {σ : x_S} {τ : x_L} (h : wX11_readArguments_19 Q v1 σ τ) : V σ τ 19 [(0, .ref (ad 0)), (1, .int v1)] [] := by
  refine x_iload_n X dX11_readArguments_19 rfl 1 rfl ?_
  by_cases hc0 : v1 = 0
  · have h := h.1 hc0
    refine x_tin X 0 52 hc0 dX11_readArguments_20 (by decide) (by decide) (off := 32) (by decide) (by decide) ?_
    refine x_aload_n X dX11_readArguments_52 rfl 0 rfl ?_
    refine x_iconst X dX11_readArguments_53 ki_2 ?_
    refine x_iconst X dX11_readArguments_54 ki_0 ?_
    refine x_bipush X dX11_readArguments_55 kb_9 ?_
    refine x_callVi X [.int 2, .int 0, .int 9] [] dX11_readArguments_57 (kX11_readNumberOf h) cm_X11_readNumberOf ci_X11_readNumberOf w_9_191 dsM_0 ⟨by decide, by decide⟩ rfl (Nat.le_of_ble_eq_true rfl) (fun r57 σ57 τ57 h => ?_)
    refine x_if_eq X 78 dX11_readArguments_60 (by decide) (fun hc => ?_) (fun hc => ?_)
    · have h := h.1 hc
      refine x_sub X [] (lv' := []) rfl ?_
      exact bX11_readArguments_78 X h
    · have h := h.2 hc
      refine x_aload_n X dX11_readArguments_63 rfl 0 rfl ?_
      refine x_iconst X dX11_readArguments_64 ki_3 ?_
      refine x_iconst X dX11_readArguments_65 ki_0 ?_
      refine x_bipush X dX11_readArguments_66 kb_120 ?_
      refine x_callVi X [.int 3, .int 0, .int 120] [] dX11_readArguments_68 (kX11_readNumberOf h) cm_X11_readNumberOf ci_X11_readNumberOf w_9_191 dsM_0 ⟨by decide, by decide⟩ rfl (Nat.le_of_ble_eq_true rfl) (fun r68 σ68 τ68 h => ?_)
      refine x_if_eq X 78 dX11_readArguments_71 (by decide) (fun hc => ?_) (fun hc => ?_)
      · have h := h.1 hc
        refine x_sub X [] (lv' := []) rfl ?_
        exact bX11_readArguments_78 X h
      · have h := h.2 hc
        refine x_iconst X dX11_readArguments_74 ki_1 ?_
        refine x_goto X (tgt := 79) dX11_readArguments_75 (by decide) ?_
        refine x_sub X [] (lv' := []) rfl ?_
        exact bX11_readArguments_79 X h
  have h := h.2
  by_cases hc1 : v1 = 1
  · have h := h.1 hc1
    refine x_tin X 1 80 hc1 dX11_readArguments_20 (by decide) (by decide) (off := 60) (by decide) (by decide) ?_
    refine x_aload_n X dX11_readArguments_80 rfl 0 rfl ?_
    refine x_iconst X dX11_readArguments_81 ki_2 ?_
    refine x_iconst X dX11_readArguments_82 ki_0 ?_
    refine x_bipush X dX11_readArguments_83 kb_9 ?_
    refine x_callVi X [.int 2, .int 0, .int 9] [] dX11_readArguments_85 (kX11_readNumberOf h) cm_X11_readNumberOf ci_X11_readNumberOf w_9_191 dsM_0 ⟨by decide, by decide⟩ rfl (Nat.le_of_ble_eq_true rfl) (fun r85 σ85 τ85 h => ?_)
    refine x_if_eq X 107 dX11_readArguments_88 (by decide) (fun hc => ?_) (fun hc => ?_)
    · have h := h.1 hc
      refine x_sub X [] (lv' := []) rfl ?_
      exact bX11_readArguments_107 X h
    · have h := h.2 hc
      refine x_aload_n X dX11_readArguments_91 rfl 0 rfl ?_
      refine x_iconst X dX11_readArguments_92 ki_3 ?_
      refine x_bipush X dX11_readArguments_93 kb_40 ?_
      refine x_bipush X dX11_readArguments_95 kb_120 ?_
      refine x_callVi X [.int 3, .int 40, .int 120] [] dX11_readArguments_97 (kX11_readNumberOf h) cm_X11_readNumberOf ci_X11_readNumberOf w_9_191 dsM_0 ⟨by decide, by decide⟩ rfl (Nat.le_of_ble_eq_true rfl) (fun r97 σ97 τ97 h => ?_)
      refine x_if_eq X 107 dX11_readArguments_100 (by decide) (fun hc => ?_) (fun hc => ?_)
      · have h := h.1 hc
        refine x_sub X [] (lv' := []) rfl ?_
        exact bX11_readArguments_107 X h
      · have h := h.2 hc
        refine x_iconst X dX11_readArguments_103 ki_1 ?_
        refine x_goto X (tgt := 108) dX11_readArguments_104 (by decide) ?_
        refine x_sub X [] (lv' := []) rfl ?_
        exact bX11_readArguments_108 X h
  have h := h.2
  by_cases hc2 : v1 = 2
  · have h := h.1 hc2
    refine x_tin X 2 109 hc2 dX11_readArguments_20 (by decide) (by decide) (off := 89) (by decide) (by decide) ?_
    refine x_aload_n X dX11_readArguments_109 rfl 0 rfl ?_
    refine x_iconst X dX11_readArguments_110 ki_2 ?_
    refine x_iconst X dX11_readArguments_111 ki_0 ?_
    refine x_sipush X dX11_readArguments_112 ks_2000 ?_
    refine x_callVi X [.int 2, .int 0, .int 2000] [] dX11_readArguments_115 (kX11_readNumberOf h) cm_X11_readNumberOf ci_X11_readNumberOf w_9_191 dsM_0 ⟨by decide, by decide⟩ rfl (Nat.le_of_ble_eq_true rfl) (fun r115 σ115 τ115 h => ?_)
    exact x_zret X dX11_readArguments_118 ⟨h.1, _, rfl, h.2⟩
  have h := h.2
  by_cases hc3 : v1 = 3
  · have h := h.1 hc3
    refine x_tin X 3 119 hc3 dX11_readArguments_20 (by decide) (by decide) (off := 99) (by decide) (by decide) ?_
    refine x_aload_n X dX11_readArguments_119 rfl 0 rfl ?_
    refine x_iconst X dX11_readArguments_120 ki_2 ?_
    refine x_iconst X dX11_readArguments_121 ki_0 ?_
    refine x_bipush X dX11_readArguments_122 kb_11 ?_
    refine x_callVi X [.int 2, .int 0, .int 11] [] dX11_readArguments_124 (kX11_readNumberOf h) cm_X11_readNumberOf ci_X11_readNumberOf w_9_191 dsM_0 ⟨by decide, by decide⟩ rfl (Nat.le_of_ble_eq_true rfl) (fun r124 σ124 τ124 h => ?_)
    exact x_zret X dX11_readArguments_127 ⟨h.1, _, rfl, h.2⟩
  have h := h.2
  have he0 := x_toInt_ne (n := 0) hc0 (by decide)
  have he1 := x_toInt_ne (n := 1) hc1 (by decide)
  have he2 := x_toInt_ne (n := 2) hc2 (by decide)
  have he3 := x_toInt_ne (n := 3) hc3 (by decide)
  have h := h hc0 hc1 hc2 hc3
  refine x_tout X 128 dX11_readArguments_20 (by omega) (by decide) ?_
  refine x_iconst X dX11_readArguments_128 ki_1 ?_
  exact x_zret X dX11_readArguments_129 ⟨Or.inr rfl, _, rfl, h⟩
set_option maxRecDepth 100000 in
set_option maxHeartbeats 4000000 in
theorem kX11_readArguments {ad : Nat → Nat} {a1 : Int32} {σ : x_S} {τ : x_L} {Q : Int32 → x_S → x_L → Prop} (h : wX11_readArguments a1 σ τ Q) : x_Met yX11_readArguments cX11_readArguments 2 (Option.some FieldType.boolean) 5 ad dsM [.ref (ad 0), .int a1] σ τ (x_PI Q) := by
  refine x_met (by decide +kernel) (Nat.le_of_ble_eq_true rfl) (fun V X => ?_)
  have X : x_Is V cX11_readArguments 2 RX11 (Option.some FieldType.boolean) ad dsM 5 (x_PI Q) := X
  show V σ τ 0 [(0, .ref (ad 0)), (1, .int a1)] []
  refine x_iload_n X dX11_readArguments_0 rfl 1 rfl ?_
  refine x_bipush X dX11_readArguments_1 kb_6 ?_
  refine x_icmp_eq X 19 dX11_readArguments_3 (by decide) (fun hc => ?_) (fun hc => ?_)
  · have h := h.1 hc
    exact bX11_readArguments_19 X h
  · have h := h.2 hc
    refine x_aload_n X dX11_readArguments_6 rfl 0 rfl ?_
    refine x_iconst X dX11_readArguments_7 ki_1 ?_
    refine x_iconst X dX11_readArguments_8 ki_0 ?_
    refine x_bipush X dX11_readArguments_9 kb_11 ?_
    refine x_callVi X [.int 1, .int 0, .int 11] [] dX11_readArguments_11 (kX11_readNumberOf h) cm_X11_readNumberOf ci_X11_readNumberOf w_9_191 dsM_0 ⟨by decide, by decide⟩ rfl (Nat.le_of_ble_eq_true rfl) (fun r11 σ11 τ11 h => ?_)
    refine x_if_ne X 19 dX11_readArguments_14 (by decide) (fun hc => ?_) (fun hc => ?_)
    · have h := h.1 hc
      exact bX11_readArguments_19 X h
    · have h := h.2 hc
      refine x_iconst X dX11_readArguments_17 ki_0 ?_
      exact x_zret X dX11_readArguments_18 ⟨Or.inl rfl, _, rfl, h⟩
theorem dX11_readCommand_0 : decode cX11_readCommand 0 = .ok (.aload_n 0, 1) := by decide +kernel
theorem dX11_readCommand_1 : decode cX11_readCommand 1 = .ok (.invokevirtual 479, 3) := by decide +kernel
theorem dX11_readCommand_4 : decode cX11_readCommand 4 = .ok (.istore_n 1, 1) := by decide +kernel
theorem dX11_readCommand_5 : decode cX11_readCommand 5 = .ok (.iload_n 1, 1) := by decide +kernel
theorem dX11_readCommand_6 : decode cX11_readCommand 6 = .ok (.iconst (-1), 1) := by decide +kernel
theorem dX11_readCommand_7 : decode cX11_readCommand 7 = .ok (.if_icmp .ne 9, 3) := by decide +kernel
theorem dX11_readCommand_10 : decode cX11_readCommand 10 = .ok (.aload_n 0, 1) := by decide +kernel
theorem dX11_readCommand_11 : decode cX11_readCommand 11 = .ok (.iconst 1, 1) := by decide +kernel
theorem dX11_readCommand_12 : decode cX11_readCommand 12 = .ok (.invokevirtual 431, 3) := by decide +kernel
theorem dX11_readCommand_15 : decode cX11_readCommand 15 = .ok (.ireturn, 1) := by decide +kernel
theorem dX11_readCommand_16 : decode cX11_readCommand 16 = .ok (.aload_n 0, 1) := by decide +kernel
theorem dX11_readCommand_17 : decode cX11_readCommand 17 = .ok (.getfield 473, 3) := by decide +kernel
theorem dX11_readCommand_20 : decode cX11_readCommand 20 = .ok (.bipush 30, 2) := by decide +kernel
theorem dX11_readCommand_22 : decode cX11_readCommand 22 = .ok (.if_icmp .ne 9, 3) := by decide +kernel
theorem dX11_readCommand_25 : decode cX11_readCommand 25 = .ok (.aload_n 0, 1) := by decide +kernel
theorem dX11_readCommand_26 : decode cX11_readCommand 26 = .ok (.iconst 4, 1) := by decide +kernel
theorem dX11_readCommand_27 : decode cX11_readCommand 27 = .ok (.invokevirtual 431, 3) := by decide +kernel
theorem dX11_readCommand_30 : decode cX11_readCommand 30 = .ok (.ireturn, 1) := by decide +kernel
theorem dX11_readCommand_31 : decode cX11_readCommand 31 = .ok (.aload_n 0, 1) := by decide +kernel
theorem dX11_readCommand_32 : decode cX11_readCommand 32 = .ok (.invokevirtual 428, 3) := by decide +kernel
theorem dX11_readCommand_35 : decode cX11_readCommand 35 = .ok (.aload_n 0, 1) := by decide +kernel
theorem dX11_readCommand_36 : decode cX11_readCommand 36 = .ok (.getfield 79, 3) := by decide +kernel
theorem dX11_readCommand_39 : decode cX11_readCommand 39 = .ok (.iconst 4, 1) := by decide +kernel
theorem dX11_readCommand_40 : decode cX11_readCommand 40 = .ok (.aload_n 0, 1) := by decide +kernel
theorem dX11_readCommand_41 : decode cX11_readCommand 41 = .ok (.getfield 473, 3) := by decide +kernel
theorem dX11_readCommand_44 : decode cX11_readCommand 44 = .ok (.imul, 1) := by decide +kernel
theorem dX11_readCommand_45 : decode cX11_readCommand 45 = .ok (.iload_n 1, 1) := by decide +kernel
theorem dX11_readCommand_46 : decode cX11_readCommand 46 = .ok (.iastore, 1) := by decide +kernel
theorem dX11_readCommand_47 : decode cX11_readCommand 47 = .ok (.aload_n 0, 1) := by decide +kernel
theorem dX11_readCommand_48 : decode cX11_readCommand 48 = .ok (.iload_n 1, 1) := by decide +kernel
theorem dX11_readCommand_49 : decode cX11_readCommand 49 = .ok (.invokevirtual 482, 3) := by decide +kernel
theorem dX11_readCommand_52 : decode cX11_readCommand 52 = .ok (.ifCond .ne 5, 3) := by decide +kernel
theorem dX11_readCommand_55 : decode cX11_readCommand 55 = .ok (.iconst 0, 1) := by decide +kernel
theorem dX11_readCommand_56 : decode cX11_readCommand 56 = .ok (.ireturn, 1) := by decide +kernel
theorem dX11_readCommand_57 : decode cX11_readCommand 57 = .ok (.aload_n 0, 1) := by decide +kernel
theorem dX11_readCommand_58 : decode cX11_readCommand 58 = .ok (.dup, 1) := by decide +kernel
theorem dX11_readCommand_59 : decode cX11_readCommand 59 = .ok (.getfield 473, 3) := by decide +kernel
theorem dX11_readCommand_62 : decode cX11_readCommand 62 = .ok (.iconst 1, 1) := by decide +kernel
theorem dX11_readCommand_63 : decode cX11_readCommand 63 = .ok (.iadd, 1) := by decide +kernel
theorem dX11_readCommand_64 : decode cX11_readCommand 64 = .ok (.putfield 473, 3) := by decide +kernel
theorem dX11_readCommand_67 : decode cX11_readCommand 67 = .ok (.aload_n 0, 1) := by decide +kernel
theorem dX11_readCommand_68 : decode cX11_readCommand 68 = .ok (.invokevirtual 444, 3) := by decide +kernel
theorem dX11_readCommand_71 : decode cX11_readCommand 71 = .ok (.ireturn, 1) := by decide +kernel
theorem cm_X11_readCommand : x_CM yX11_readCommand cX11_readCommand 2 (Option.some FieldType.boolean) 0 := ⟨w_9_182, w_1_12, by decide +kernel, by decide +kernel⟩
theorem ci_X11_readCommand : x_CI yX11_readCommand 13 := ⟨w_9_181, wp_128, (RX11, TX11, 41), rfl, rfl⟩
set_option maxRecDepth 100000 in
set_option maxHeartbeats 4000000 in
theorem kX11_readCommand {ad : Nat → Nat} {σ : x_S} {τ : x_L} {Q : Int32 → x_S → x_L → Prop} (h : wX11_readCommand σ τ Q) : x_Met yX11_readCommand cX11_readCommand 2 (Option.some FieldType.boolean) 6 ad dsM [.ref (ad 0)] σ τ (x_PI Q) := by
  refine x_met (by decide +kernel) (Nat.le_of_ble_eq_true rfl) (fun V X => ?_)
  have X : x_Is V cX11_readCommand 2 RX11 (Option.some FieldType.boolean) ad dsM 6 (x_PI Q) := X
  show V σ τ 0 [(0, .ref (ad 0))] []
  refine x_aload_n X dX11_readCommand_0 rfl 0 rfl ?_
  refine x_callVi X [] [] dX11_readCommand_1 (kX11_commandHere h) cm_X11_commandHere ci_X11_commandHere w_9_183 dsM_0 ⟨by decide, by decide⟩ rfl (Nat.le_of_ble_eq_true rfl) (fun r1 σ1 τ1 h => ?_)
  refine x_istore_n X (lv' := [(1, .int r1), (0, .ref (ad 0))]) dX11_readCommand_4 rfl (by decide) rfl ?_
  refine x_iload_n X dX11_readCommand_5 rfl 0 rfl ?_
  refine x_iconst X dX11_readCommand_6 ki_m1 ?_
  refine x_icmp_ne X 16 dX11_readCommand_7 (by decide) (fun hc => ?_) (fun hc => ?_)
  · have h := h.1 hc
    refine x_aload_n X dX11_readCommand_16 rfl 1 rfl ?_
    refine x_getI X dX11_readCommand_17 fl_11_473 dsM_0 rfl ?_
    refine x_bipush X dX11_readCommand_20 kb_30 ?_
    refine x_icmp_ne X 31 dX11_readCommand_22 (by decide) (fun hc => ?_) (fun hc => ?_)
    · have h := h.1 hc
      refine x_aload_n X dX11_readCommand_31 rfl 1 rfl ?_
      refine x_callVv X [] [] dX11_readCommand_32 (kX11_advance h) cm_X11_advance ci_X11_advance w_9_111 dsM_0 ⟨by decide, by decide⟩ rfl (Nat.le_of_ble_eq_true rfl) (fun σ32 τ32 h => ?_)
      refine x_aload_n X dX11_readCommand_35 rfl 1 rfl ?_
      refine x_getR X (j := 22) dX11_readCommand_36 fl_11_79 dsM_0 rfl ?_
      refine x_iconst X dX11_readCommand_39 ki_4 ?_
      refine x_aload_n X dX11_readCommand_40 rfl 1 rfl ?_
      refine x_getI X dX11_readCommand_41 fl_11_473 dsM_0 rfl ?_
      refine x_imul X dX11_readCommand_44 ?_
      refine x_iload_n X dX11_readCommand_45 rfl 0 rfl ?_
      have g46 := h.1
      have h := h.2
      refine x_iast X dX11_readCommand_46 dsM_22 g46 ?_
      refine x_aload_n X dX11_readCommand_47 rfl 1 rfl ?_
      refine x_iload_n X dX11_readCommand_48 rfl 0 rfl ?_
      refine x_callVi X [.int r1] [] dX11_readCommand_49 (kX11_readArguments h) cm_X11_readArguments ci_X11_readArguments w_9_187 dsM_0 ⟨by decide, by decide⟩ rfl (Nat.le_of_ble_eq_true rfl) (fun r49 σ49 τ49 h => ?_)
      refine x_if_ne X 57 dX11_readCommand_52 (by decide) (fun hc => ?_) (fun hc => ?_)
      · have h := h.1 hc
        refine x_aload_n X dX11_readCommand_57 rfl 1 rfl ?_
        refine x_dup X dX11_readCommand_58 rfl ?_
        refine x_getI X dX11_readCommand_59 fl_11_473 dsM_0 rfl ?_
        refine x_iconst X dX11_readCommand_62 ki_1 ?_
        refine x_iadd X dX11_readCommand_63 ?_
        refine x_putI X dX11_readCommand_64 fl_11_473 ft_11_40 dsM_0 rfl ?_
        refine x_aload_n X dX11_readCommand_67 rfl 1 rfl ?_
        refine x_callVi X [] [] dX11_readCommand_68 (kX11_readEnd h) cm_X11_readEnd ci_X11_readEnd w_9_159 dsM_0 ⟨by decide, by decide⟩ rfl (Nat.le_of_ble_eq_true rfl) (fun r68 σ68 τ68 h => ?_)
        exact x_zret X dX11_readCommand_71 ⟨h.1, _, rfl, h.2⟩
      · have h := h.2 hc
        refine x_iconst X dX11_readCommand_55 ki_0 ?_
        exact x_zret X dX11_readCommand_56 ⟨Or.inl rfl, _, rfl, h⟩
    · have h := h.2 hc
      refine x_aload_n X dX11_readCommand_25 rfl 1 rfl ?_
      refine x_iconst X dX11_readCommand_26 ki_4 ?_
      refine x_callVi X [.int 4] [] dX11_readCommand_27 (kX11_fail h) cm_X11_fail ci_X11_fail w_9_147 dsM_0 ⟨by decide, by decide⟩ rfl (Nat.le_of_ble_eq_true rfl) (fun r27 σ27 τ27 h => ?_)
      exact x_zret X dX11_readCommand_30 ⟨h.1, _, rfl, h.2⟩
  · have h := h.2 hc
    refine x_aload_n X dX11_readCommand_10 rfl 1 rfl ?_
    refine x_iconst X dX11_readCommand_11 ki_1 ?_
    refine x_callVi X [.int 1] [] dX11_readCommand_12 (kX11_fail h) cm_X11_fail ci_X11_fail w_9_147 dsM_0 ⟨by decide, by decide⟩ rfl (Nat.le_of_ble_eq_true rfl) (fun r12 σ12 τ12 h => ?_)
    exact x_zret X dX11_readCommand_15 ⟨h.1, _, rfl, h.2⟩
theorem dX11_isDone_0 : decode cX11_isDone 0 = .ok (.aload_n 0, 1) := by decide +kernel
theorem dX11_isDone_1 : decode cX11_isDone 1 = .ok (.getfield 79, 3) := by decide +kernel
theorem dX11_isDone_4 : decode cX11_isDone 4 = .ok (.iload_n 1, 1) := by decide +kernel
theorem dX11_isDone_5 : decode cX11_isDone 5 = .ok (.iconst 1, 1) := by decide +kernel
theorem dX11_isDone_6 : decode cX11_isDone 6 = .ok (.iadd, 1) := by decide +kernel
theorem dX11_isDone_7 : decode cX11_isDone 7 = .ok (.iaload, 1) := by decide +kernel
theorem dX11_isDone_8 : decode cX11_isDone 8 = .ok (.istore_n 2, 1) := by decide +kernel
theorem dX11_isDone_9 : decode cX11_isDone 9 = .ok (.aload_n 0, 1) := by decide +kernel
theorem dX11_isDone_10 : decode cX11_isDone 10 = .ok (.getfield 79, 3) := by decide +kernel
theorem dX11_isDone_13 : decode cX11_isDone 13 = .ok (.iload_n 1, 1) := by decide +kernel
theorem dX11_isDone_14 : decode cX11_isDone 14 = .ok (.iconst 2, 1) := by decide +kernel
theorem dX11_isDone_15 : decode cX11_isDone 15 = .ok (.iadd, 1) := by decide +kernel
theorem dX11_isDone_16 : decode cX11_isDone 16 = .ok (.iaload, 1) := by decide +kernel
theorem dX11_isDone_17 : decode cX11_isDone 17 = .ok (.istore_n 3, 1) := by decide +kernel
theorem dX11_isDone_18 : decode cX11_isDone 18 = .ok (.aload_n 0, 1) := by decide +kernel
theorem dX11_isDone_19 : decode cX11_isDone 19 = .ok (.getfield 79, 3) := by decide +kernel
theorem dX11_isDone_22 : decode cX11_isDone 22 = .ok (.iload_n 1, 1) := by decide +kernel
theorem dX11_isDone_23 : decode cX11_isDone 23 = .ok (.iconst 3, 1) := by decide +kernel
theorem dX11_isDone_24 : decode cX11_isDone 24 = .ok (.iadd, 1) := by decide +kernel
theorem dX11_isDone_25 : decode cX11_isDone 25 = .ok (.iaload, 1) := by decide +kernel
theorem dX11_isDone_26 : decode cX11_isDone 26 = .ok (.istore 4, 2) := by decide +kernel
theorem dX11_isDone_28 : decode cX11_isDone 28 = .ok (.aload_n 0, 1) := by decide +kernel
theorem dX11_isDone_29 : decode cX11_isDone 29 = .ok (.getfield 79, 3) := by decide +kernel
theorem dX11_isDone_32 : decode cX11_isDone 32 = .ok (.iload_n 1, 1) := by decide +kernel
theorem dX11_isDone_33 : decode cX11_isDone 33 = .ok (.iaload, 1) := by decide +kernel
theorem dX11_isDone_34 : decode cX11_isDone 34 = .ok (.tableswitch 199 0 5 #[38, 64, 101, 124, 155, 177], 38) := by decide +kernel
theorem dX11_isDone_72 : decode cX11_isDone 72 = .ok (.aload_n 0, 1) := by decide +kernel
theorem dX11_isDone_73 : decode cX11_isDone 73 = .ok (.iload_n 2, 1) := by decide +kernel
theorem dX11_isDone_74 : decode cX11_isDone 74 = .ok (.iload_n 3, 1) := by decide +kernel
theorem dX11_isDone_75 : decode cX11_isDone 75 = .ok (.invokevirtual 245, 3) := by decide +kernel
theorem dX11_isDone_78 : decode cX11_isDone 78 = .ok (.ifCond .eq 18, 3) := by decide +kernel
theorem dX11_isDone_81 : decode cX11_isDone 81 = .ok (.aload_n 0, 1) := by decide +kernel
theorem dX11_isDone_82 : decode cX11_isDone 82 = .ok (.iload_n 2, 1) := by decide +kernel
theorem dX11_isDone_83 : decode cX11_isDone 83 = .ok (.iload_n 3, 1) := by decide +kernel
theorem dX11_isDone_84 : decode cX11_isDone 84 = .ok (.iload 4, 2) := by decide +kernel
theorem dX11_isDone_86 : decode cX11_isDone 86 = .ok (.invokevirtual 291, 3) := by decide +kernel
theorem dX11_isDone_89 : decode cX11_isDone 89 = .ok (.ifCond .lt 7, 3) := by decide +kernel
theorem dX11_isDone_92 : decode cX11_isDone 92 = .ok (.iconst 1, 1) := by decide +kernel
theorem dX11_isDone_93 : decode cX11_isDone 93 = .ok (.goto 4, 3) := by decide +kernel
theorem dX11_isDone_96 : decode cX11_isDone 96 = .ok (.iconst 0, 1) := by decide +kernel
theorem dX11_isDone_97 : decode cX11_isDone 97 = .ok (.ireturn, 1) := by decide +kernel
theorem dX11_isDone_98 : decode cX11_isDone 98 = .ok (.aload_n 0, 1) := by decide +kernel
theorem dX11_isDone_99 : decode cX11_isDone 99 = .ok (.iload_n 2, 1) := by decide +kernel
theorem dX11_isDone_100 : decode cX11_isDone 100 = .ok (.iload_n 3, 1) := by decide +kernel
theorem dX11_isDone_101 : decode cX11_isDone 101 = .ok (.invokevirtual 245, 3) := by decide +kernel
theorem dX11_isDone_104 : decode cX11_isDone 104 = .ok (.ifCond .eq 29, 3) := by decide +kernel
theorem dX11_isDone_107 : decode cX11_isDone 107 = .ok (.iload 4, 2) := by decide +kernel
theorem dX11_isDone_109 : decode cX11_isDone 109 = .ok (.aload_n 0, 1) := by decide +kernel
theorem dX11_isDone_110 : decode cX11_isDone 110 = .ok (.iload_n 2, 1) := by decide +kernel
theorem dX11_isDone_111 : decode cX11_isDone 111 = .ok (.iload_n 3, 1) := by decide +kernel
theorem dX11_isDone_112 : decode cX11_isDone 112 = .ok (.invokevirtual 283, 3) := by decide +kernel
theorem dX11_isDone_115 : decode cX11_isDone 115 = .ok (.if_icmp .gt 18, 3) := by decide +kernel
theorem dX11_isDone_118 : decode cX11_isDone 118 = .ok (.aload_n 0, 1) := by decide +kernel
theorem dX11_isDone_119 : decode cX11_isDone 119 = .ok (.iload_n 2, 1) := by decide +kernel
theorem dX11_isDone_120 : decode cX11_isDone 120 = .ok (.iload_n 3, 1) := by decide +kernel
theorem dX11_isDone_121 : decode cX11_isDone 121 = .ok (.iload 4, 2) := by decide +kernel
theorem dX11_isDone_123 : decode cX11_isDone 123 = .ok (.invokevirtual 296, 3) := by decide +kernel
theorem dX11_isDone_126 : decode cX11_isDone 126 = .ok (.ifCond .lt 7, 3) := by decide +kernel
theorem dX11_isDone_129 : decode cX11_isDone 129 = .ok (.iconst 1, 1) := by decide +kernel
theorem dX11_isDone_130 : decode cX11_isDone 130 = .ok (.goto 4, 3) := by decide +kernel
theorem dX11_isDone_133 : decode cX11_isDone 133 = .ok (.iconst 0, 1) := by decide +kernel
theorem dX11_isDone_134 : decode cX11_isDone 134 = .ok (.ireturn, 1) := by decide +kernel
theorem dX11_isDone_135 : decode cX11_isDone 135 = .ok (.aload_n 0, 1) := by decide +kernel
theorem dX11_isDone_136 : decode cX11_isDone 136 = .ok (.iload_n 2, 1) := by decide +kernel
theorem dX11_isDone_137 : decode cX11_isDone 137 = .ok (.invokevirtual 103, 3) := by decide +kernel
theorem dX11_isDone_140 : decode cX11_isDone 140 = .ok (.ifCond .eq 16, 3) := by decide +kernel
theorem dX11_isDone_143 : decode cX11_isDone 143 = .ok (.aload_n 0, 1) := by decide +kernel
theorem dX11_isDone_144 : decode cX11_isDone 144 = .ok (.iload_n 2, 1) := by decide +kernel
theorem dX11_isDone_145 : decode cX11_isDone 145 = .ok (.iload_n 3, 1) := by decide +kernel
theorem dX11_isDone_146 : decode cX11_isDone 146 = .ok (.invokevirtual 301, 3) := by decide +kernel
theorem dX11_isDone_149 : decode cX11_isDone 149 = .ok (.ifCond .lt 7, 3) := by decide +kernel
theorem dX11_isDone_152 : decode cX11_isDone 152 = .ok (.iconst 1, 1) := by decide +kernel
theorem dX11_isDone_153 : decode cX11_isDone 153 = .ok (.goto 4, 3) := by decide +kernel
theorem dX11_isDone_156 : decode cX11_isDone 156 = .ok (.iconst 0, 1) := by decide +kernel
theorem dX11_isDone_157 : decode cX11_isDone 157 = .ok (.ireturn, 1) := by decide +kernel
theorem dX11_isDone_158 : decode cX11_isDone 158 = .ok (.aload_n 0, 1) := by decide +kernel
theorem dX11_isDone_159 : decode cX11_isDone 159 = .ok (.iload_n 2, 1) := by decide +kernel
theorem dX11_isDone_160 : decode cX11_isDone 160 = .ok (.invokevirtual 103, 3) := by decide +kernel
theorem dX11_isDone_163 : decode cX11_isDone 163 = .ok (.ifCond .eq 24, 3) := by decide +kernel
theorem dX11_isDone_166 : decode cX11_isDone 166 = .ok (.aload_n 0, 1) := by decide +kernel
theorem dX11_isDone_167 : decode cX11_isDone 167 = .ok (.iload_n 3, 1) := by decide +kernel
theorem dX11_isDone_168 : decode cX11_isDone 168 = .ok (.invokevirtual 103, 3) := by decide +kernel
theorem dX11_isDone_171 : decode cX11_isDone 171 = .ok (.ifCond .eq 16, 3) := by decide +kernel
theorem dX11_isDone_174 : decode cX11_isDone 174 = .ok (.aload_n 0, 1) := by decide +kernel
theorem dX11_isDone_175 : decode cX11_isDone 175 = .ok (.iload_n 2, 1) := by decide +kernel
theorem dX11_isDone_176 : decode cX11_isDone 176 = .ok (.iload_n 3, 1) := by decide +kernel
theorem dX11_isDone_177 : decode cX11_isDone 177 = .ok (.invokevirtual 318, 3) := by decide +kernel
theorem dX11_isDone_180 : decode cX11_isDone 180 = .ok (.ifCond .lt 7, 3) := by decide +kernel
theorem dX11_isDone_183 : decode cX11_isDone 183 = .ok (.iconst 1, 1) := by decide +kernel
theorem dX11_isDone_184 : decode cX11_isDone 184 = .ok (.goto 4, 3) := by decide +kernel
theorem dX11_isDone_187 : decode cX11_isDone 187 = .ok (.iconst 0, 1) := by decide +kernel
theorem dX11_isDone_188 : decode cX11_isDone 188 = .ok (.ireturn, 1) := by decide +kernel
theorem dX11_isDone_189 : decode cX11_isDone 189 = .ok (.aload_n 0, 1) := by decide +kernel
theorem dX11_isDone_190 : decode cX11_isDone 190 = .ok (.iload_n 2, 1) := by decide +kernel
theorem dX11_isDone_191 : decode cX11_isDone 191 = .ok (.invokevirtual 103, 3) := by decide +kernel
theorem dX11_isDone_194 : decode cX11_isDone 194 = .ok (.ifCond .eq 15, 3) := by decide +kernel
theorem dX11_isDone_197 : decode cX11_isDone 197 = .ok (.aload_n 0, 1) := by decide +kernel
theorem dX11_isDone_198 : decode cX11_isDone 198 = .ok (.iload_n 2, 1) := by decide +kernel
theorem dX11_isDone_199 : decode cX11_isDone 199 = .ok (.invokevirtual 331, 3) := by decide +kernel
theorem dX11_isDone_202 : decode cX11_isDone 202 = .ok (.ifCond .lt 7, 3) := by decide +kernel
theorem dX11_isDone_205 : decode cX11_isDone 205 = .ok (.iconst 1, 1) := by decide +kernel
theorem dX11_isDone_206 : decode cX11_isDone 206 = .ok (.goto 4, 3) := by decide +kernel
theorem dX11_isDone_209 : decode cX11_isDone 209 = .ok (.iconst 0, 1) := by decide +kernel
theorem dX11_isDone_210 : decode cX11_isDone 210 = .ok (.ireturn, 1) := by decide +kernel
theorem dX11_isDone_211 : decode cX11_isDone 211 = .ok (.aload_n 0, 1) := by decide +kernel
theorem dX11_isDone_212 : decode cX11_isDone 212 = .ok (.iload_n 2, 1) := by decide +kernel
theorem dX11_isDone_213 : decode cX11_isDone 213 = .ok (.invokevirtual 103, 3) := by decide +kernel
theorem dX11_isDone_216 : decode cX11_isDone 216 = .ok (.ifCond .eq 15, 3) := by decide +kernel
theorem dX11_isDone_219 : decode cX11_isDone 219 = .ok (.aload_n 0, 1) := by decide +kernel
theorem dX11_isDone_220 : decode cX11_isDone 220 = .ok (.iload_n 2, 1) := by decide +kernel
theorem dX11_isDone_221 : decode cX11_isDone 221 = .ok (.invokevirtual 334, 3) := by decide +kernel
theorem dX11_isDone_224 : decode cX11_isDone 224 = .ok (.ifCond .lt 7, 3) := by decide +kernel
theorem dX11_isDone_227 : decode cX11_isDone 227 = .ok (.iconst 1, 1) := by decide +kernel
theorem dX11_isDone_228 : decode cX11_isDone 228 = .ok (.goto 4, 3) := by decide +kernel
theorem dX11_isDone_231 : decode cX11_isDone 231 = .ok (.iconst 0, 1) := by decide +kernel
theorem dX11_isDone_232 : decode cX11_isDone 232 = .ok (.ireturn, 1) := by decide +kernel
theorem dX11_isDone_233 : decode cX11_isDone 233 = .ok (.aload_n 0, 1) := by decide +kernel
theorem dX11_isDone_234 : decode cX11_isDone 234 = .ok (.invokevirtual 328, 3) := by decide +kernel
theorem dX11_isDone_237 : decode cX11_isDone 237 = .ok (.ifCond .lt 7, 3) := by decide +kernel
theorem dX11_isDone_240 : decode cX11_isDone 240 = .ok (.iconst 1, 1) := by decide +kernel
theorem dX11_isDone_241 : decode cX11_isDone 241 = .ok (.goto 4, 3) := by decide +kernel
theorem dX11_isDone_244 : decode cX11_isDone 244 = .ok (.iconst 0, 1) := by decide +kernel
theorem dX11_isDone_245 : decode cX11_isDone 245 = .ok (.ireturn, 1) := by decide +kernel
theorem cm_X11_isDone : x_CM yX11_isDone cX11_isDone 5 (Option.some FieldType.boolean) 1 := ⟨w_9_198, w_1_12, by decide +kernel, by decide +kernel⟩
theorem ci_X11_isDone : x_CI yX11_isDone 13 := ⟨w_9_197, wp_132, (RX11, TX11, 41), rfl, rfl⟩
set_option maxRecDepth 100000 in
set_option maxHeartbeats 4000000 in
theorem bX11_isDone_97 {V : x_J} {ad : Nat → Nat} {Q : Int32 → x_S → x_L → Prop} (X : x_Is V cX11_isDone 5 RX11 (Option.some FieldType.boolean) ad dsM 9 (x_PI Q)) {s0 : Int32} {σ : x_S} {τ : x_L} (h : wX11_isDone_97 Q s0 σ τ) : V σ τ 97 [] [.int s0] := by
  exact x_zret X dX11_isDone_97 ⟨h.1, _, rfl, h.2⟩
set_option maxRecDepth 100000 in
set_option maxHeartbeats 4000000 in
theorem bX11_isDone_96 {V : x_J} {ad : Nat → Nat} {Q : Int32 → x_S → x_L → Prop} (X : x_Is V cX11_isDone 5 RX11 (Option.some FieldType.boolean) ad dsM 9 (x_PI Q)) {σ : x_S} {τ : x_L} (h : wX11_isDone_96 Q σ τ) : V σ τ 96 [] [] := by
  refine x_iconst X dX11_isDone_96 ki_0 ?_
  exact bX11_isDone_97 X h
set_option maxRecDepth 100000 in
set_option maxHeartbeats 4000000 in
theorem bX11_isDone_134 {V : x_J} {ad : Nat → Nat} {Q : Int32 → x_S → x_L → Prop} (X : x_Is V cX11_isDone 5 RX11 (Option.some FieldType.boolean) ad dsM 9 (x_PI Q)) {s0 : Int32} {σ : x_S} {τ : x_L} (h : wX11_isDone_134 Q s0 σ τ) : V σ τ 134 [] [.int s0] := by
  exact x_zret X dX11_isDone_134 ⟨h.1, _, rfl, h.2⟩
set_option maxRecDepth 100000 in
set_option maxHeartbeats 4000000 in
theorem bX11_isDone_133 {V : x_J} {ad : Nat → Nat} {Q : Int32 → x_S → x_L → Prop} (X : x_Is V cX11_isDone 5 RX11 (Option.some FieldType.boolean) ad dsM 9 (x_PI Q)) {σ : x_S} {τ : x_L} (h : wX11_isDone_133 Q σ τ) : V σ τ 133 [] [] := by
  refine x_iconst X dX11_isDone_133 ki_0 ?_
  exact bX11_isDone_134 X h
set_option maxRecDepth 100000 in
set_option maxHeartbeats 4000000 in
theorem bX11_isDone_157 {V : x_J} {ad : Nat → Nat} {Q : Int32 → x_S → x_L → Prop} (X : x_Is V cX11_isDone 5 RX11 (Option.some FieldType.boolean) ad dsM 9 (x_PI Q)) {s0 : Int32} {σ : x_S} {τ : x_L} (h : wX11_isDone_157 Q s0 σ τ) : V σ τ 157 [] [.int s0] := by
  exact x_zret X dX11_isDone_157 ⟨h.1, _, rfl, h.2⟩
set_option maxRecDepth 100000 in
set_option maxHeartbeats 4000000 in
theorem bX11_isDone_156 {V : x_J} {ad : Nat → Nat} {Q : Int32 → x_S → x_L → Prop} (X : x_Is V cX11_isDone 5 RX11 (Option.some FieldType.boolean) ad dsM 9 (x_PI Q)) {σ : x_S} {τ : x_L} (h : wX11_isDone_156 Q σ τ) : V σ τ 156 [] [] := by
  refine x_iconst X dX11_isDone_156 ki_0 ?_
  exact bX11_isDone_157 X h
set_option maxRecDepth 100000 in
set_option maxHeartbeats 4000000 in
theorem bX11_isDone_188 {V : x_J} {ad : Nat → Nat} {Q : Int32 → x_S → x_L → Prop} (X : x_Is V cX11_isDone 5 RX11 (Option.some FieldType.boolean) ad dsM 9 (x_PI Q)) {s0 : Int32} {σ : x_S} {τ : x_L} (h : wX11_isDone_188 Q s0 σ τ) : V σ τ 188 [] [.int s0] := by
  exact x_zret X dX11_isDone_188 ⟨h.1, _, rfl, h.2⟩
set_option maxRecDepth 100000 in
set_option maxHeartbeats 4000000 in
theorem bX11_isDone_187 {V : x_J} {ad : Nat → Nat} {Q : Int32 → x_S → x_L → Prop} (X : x_Is V cX11_isDone 5 RX11 (Option.some FieldType.boolean) ad dsM 9 (x_PI Q)) {σ : x_S} {τ : x_L} (h : wX11_isDone_187 Q σ τ) : V σ τ 187 [] [] := by
  refine x_iconst X dX11_isDone_187 ki_0 ?_
  exact bX11_isDone_188 X h
set_option maxRecDepth 100000 in
set_option maxHeartbeats 4000000 in
theorem bX11_isDone_210 {V : x_J} {ad : Nat → Nat} {Q : Int32 → x_S → x_L → Prop} (X : x_Is V cX11_isDone 5 RX11 (Option.some FieldType.boolean) ad dsM 9 (x_PI Q)) {s0 : Int32} {σ : x_S} {τ : x_L} (h : wX11_isDone_210 Q s0 σ τ) : V σ τ 210 [] [.int s0] := by
  exact x_zret X dX11_isDone_210 ⟨h.1, _, rfl, h.2⟩
set_option maxRecDepth 100000 in
set_option maxHeartbeats 4000000 in
theorem bX11_isDone_209 {V : x_J} {ad : Nat → Nat} {Q : Int32 → x_S → x_L → Prop} (X : x_Is V cX11_isDone 5 RX11 (Option.some FieldType.boolean) ad dsM 9 (x_PI Q)) {σ : x_S} {τ : x_L} (h : wX11_isDone_209 Q σ τ) : V σ τ 209 [] [] := by
  refine x_iconst X dX11_isDone_209 ki_0 ?_
  exact bX11_isDone_210 X h
set_option maxRecDepth 100000 in
set_option maxHeartbeats 4000000 in
theorem bX11_isDone_232 {V : x_J} {ad : Nat → Nat} {Q : Int32 → x_S → x_L → Prop} (X : x_Is V cX11_isDone 5 RX11 (Option.some FieldType.boolean) ad dsM 9 (x_PI Q)) {s0 : Int32} {σ : x_S} {τ : x_L} (h : wX11_isDone_232 Q s0 σ τ) : V σ τ 232 [] [.int s0] := by
  exact x_zret X dX11_isDone_232 ⟨h.1, _, rfl, h.2⟩
set_option maxRecDepth 100000 in
set_option maxHeartbeats 4000000 in
theorem bX11_isDone_231 {V : x_J} {ad : Nat → Nat} {Q : Int32 → x_S → x_L → Prop} (X : x_Is V cX11_isDone 5 RX11 (Option.some FieldType.boolean) ad dsM 9 (x_PI Q)) {σ : x_S} {τ : x_L} (h : wX11_isDone_231 Q σ τ) : V σ τ 231 [] [] := by
  refine x_iconst X dX11_isDone_231 ki_0 ?_
  exact bX11_isDone_232 X h
set_option maxRecDepth 100000 in
set_option maxHeartbeats 4000000 in
theorem bX11_isDone_245 {V : x_J} {ad : Nat → Nat} {Q : Int32 → x_S → x_L → Prop} (X : x_Is V cX11_isDone 5 RX11 (Option.some FieldType.boolean) ad dsM 9 (x_PI Q)) {s0 : Int32} {σ : x_S} {τ : x_L} (h : wX11_isDone_245 Q s0 σ τ) : V σ τ 245 [] [.int s0] := by
  exact x_zret X dX11_isDone_245 ⟨h.1, _, rfl, h.2⟩
set_option maxRecDepth 100000 in
set_option maxHeartbeats 4000000 in
theorem kX11_isDone {ad : Nat → Nat} {a1 : Int32} {σ : x_S} {τ : x_L} {Q : Int32 → x_S → x_L → Prop} (h : wX11_isDone a1 σ τ Q) : x_Met yX11_isDone cX11_isDone 5 (Option.some FieldType.boolean) 9 ad dsM [.ref (ad 0), .int a1] σ τ (x_PI Q) := by
  refine x_met (by decide +kernel) (Nat.le_of_ble_eq_true rfl) (fun V X => ?_)
  have X : x_Is V cX11_isDone 5 RX11 (Option.some FieldType.boolean) ad dsM 9 (x_PI Q) := X
  show V σ τ 0 [(0, .ref (ad 0)), (1, .int a1)] []
  refine x_aload_n X dX11_isDone_0 rfl 0 rfl ?_
  refine x_getR X (j := 22) dX11_isDone_1 fl_11_79 dsM_0 rfl ?_
  refine x_iload_n X dX11_isDone_4 rfl 1 rfl ?_
  refine x_iconst X dX11_isDone_5 ki_1 ?_
  refine x_iadd X dX11_isDone_6 ?_
  have g7 := h.1
  have h := h.2
  refine x_iald X dX11_isDone_7 dsM_22 g7 ?_
  refine x_istore_n X (lv' := [(2, .int (σ 22 (a1 + 1).toNatClampNeg)), (0, .ref (ad 0)), (1, .int a1)]) dX11_isDone_8 rfl (by decide) rfl ?_
  refine x_aload_n X dX11_isDone_9 rfl 1 rfl ?_
  refine x_getR X (j := 22) dX11_isDone_10 fl_11_79 dsM_0 rfl ?_
  refine x_iload_n X dX11_isDone_13 rfl 2 rfl ?_
  refine x_iconst X dX11_isDone_14 ki_2 ?_
  refine x_iadd X dX11_isDone_15 ?_
  have g16 := h.1
  have h := h.2
  refine x_iald X dX11_isDone_16 dsM_22 g16 ?_
  refine x_istore_n X (lv' := [(3, .int (σ 22 (a1 + 2).toNatClampNeg)), (2, .int (σ 22 (a1 + 1).toNatClampNeg)), (0, .ref (ad 0)), (1, .int a1)]) dX11_isDone_17 rfl (by decide) rfl ?_
  refine x_aload_n X dX11_isDone_18 rfl 2 rfl ?_
  refine x_getR X (j := 22) dX11_isDone_19 fl_11_79 dsM_0 rfl ?_
  refine x_iload_n X dX11_isDone_22 rfl 3 rfl ?_
  refine x_iconst X dX11_isDone_23 ki_3 ?_
  refine x_iadd X dX11_isDone_24 ?_
  have g25 := h.1
  have h := h.2
  refine x_iald X dX11_isDone_25 dsM_22 g25 ?_
  refine x_istore X (lv' := [(4, .int (σ 22 (a1 + 3).toNatClampNeg)), (3, .int (σ 22 (a1 + 2).toNatClampNeg)), (2, .int (σ 22 (a1 + 1).toNatClampNeg)), (0, .ref (ad 0)), (1, .int a1)]) dX11_isDone_26 (by decide) rfl ?_
  refine x_aload_n X dX11_isDone_28 rfl 3 rfl ?_
  refine x_getR X (j := 22) dX11_isDone_29 fl_11_79 dsM_0 rfl ?_
  refine x_iload_n X dX11_isDone_32 rfl 4 rfl ?_
  have g33 := h.1
  have h := h.2
  refine x_iald X dX11_isDone_33 dsM_22 g33 ?_
  by_cases hc0 : (σ 22 a1.toNatClampNeg) = 0
  · have h := h.1 hc0
    refine x_tin X 0 72 hc0 dX11_isDone_34 (by decide) (by decide) (off := 38) (by decide) (by decide) ?_
    refine x_aload_n X dX11_isDone_72 rfl 3 rfl ?_
    refine x_iload_n X dX11_isDone_73 rfl 2 rfl ?_
    refine x_iload_n X dX11_isDone_74 rfl 1 rfl ?_
    refine x_callVi X [.int (σ 22 (a1 + 1).toNatClampNeg), .int (σ 22 (a1 + 2).toNatClampNeg)] [] dX11_isDone_75 (kX11_isPlace h) cm_X11_isPlace ci_X11_isPlace w_8_38 dsM_0 ⟨by decide, by decide⟩ rfl (Nat.le_of_ble_eq_true rfl) (fun r75 σ75 τ75 h => ?_)
    refine x_if_eq X 96 dX11_isDone_78 (by decide) (fun hc => ?_) (fun hc => ?_)
    · have h := h.1 hc
      refine x_sub X [] (lv' := []) rfl ?_
      exact bX11_isDone_96 X h
    · have h := h.2 hc
      refine x_aload_n X dX11_isDone_81 rfl 3 rfl ?_
      refine x_iload_n X dX11_isDone_82 rfl 2 rfl ?_
      refine x_iload_n X dX11_isDone_83 rfl 1 rfl ?_
      refine x_iload X dX11_isDone_84 0 rfl ?_
      refine x_callVi X [.int (σ 22 (a1 + 1).toNatClampNeg), .int (σ 22 (a1 + 2).toNatClampNeg), .int (σ 22 (a1 + 3).toNatClampNeg)] [] dX11_isDone_86 (kX11_setWaitNow h) cm_X11_setWaitNow ci_X11_setWaitNow w_8_129 dsM_0 ⟨by decide, by decide⟩ rfl (Nat.le_of_ble_eq_true rfl) (fun r86 σ86 τ86 h => ?_)
      refine x_if_lt X 96 dX11_isDone_89 (by decide) (fun hc => ?_) (fun hc => ?_)
      · have h := h.1 hc
        refine x_sub X [] (lv' := []) rfl ?_
        exact bX11_isDone_96 X h
      · have h := h.2 hc
        refine x_iconst X dX11_isDone_92 ki_1 ?_
        refine x_goto X (tgt := 97) dX11_isDone_93 (by decide) ?_
        refine x_sub X [] (lv' := []) rfl ?_
        exact bX11_isDone_97 X h
  have h := h.2
  by_cases hc1 : (σ 22 a1.toNatClampNeg) = 1
  · have h := h.1 hc1
    refine x_tin X 1 98 hc1 dX11_isDone_34 (by decide) (by decide) (off := 64) (by decide) (by decide) ?_
    refine x_aload_n X dX11_isDone_98 rfl 3 rfl ?_
    refine x_iload_n X dX11_isDone_99 rfl 2 rfl ?_
    refine x_iload_n X dX11_isDone_100 rfl 1 rfl ?_
    refine x_callVi X [.int (σ 22 (a1 + 1).toNatClampNeg), .int (σ 22 (a1 + 2).toNatClampNeg)] [] dX11_isDone_101 (kX11_isPlace h) cm_X11_isPlace ci_X11_isPlace w_8_38 dsM_0 ⟨by decide, by decide⟩ rfl (Nat.le_of_ble_eq_true rfl) (fun r101 σ101 τ101 h => ?_)
    refine x_if_eq X 133 dX11_isDone_104 (by decide) (fun hc => ?_) (fun hc => ?_)
    · have h := h.1 hc
      refine x_sub X [] (lv' := []) rfl ?_
      exact bX11_isDone_133 X h
    · have h := h.2 hc
      refine x_iload X dX11_isDone_107 0 rfl ?_
      refine x_aload_n X dX11_isDone_109 rfl 3 rfl ?_
      refine x_iload_n X dX11_isDone_110 rfl 2 rfl ?_
      refine x_iload_n X dX11_isDone_111 rfl 1 rfl ?_
      refine x_callVi X [.int (σ 22 (a1 + 1).toNatClampNeg), .int (σ 22 (a1 + 2).toNatClampNeg)] [.int (σ 22 (a1 + 3).toNatClampNeg)] dX11_isDone_112 (kX11_limitAt h) cm_X11_limitAt ci_X11_limitAt w_8_120 dsM_0 ⟨by decide, by decide⟩ rfl (Nat.le_of_ble_eq_true rfl) (fun r112 σ112 τ112 h => ?_)
      refine x_icmp_gt X 133 dX11_isDone_115 (by decide) (fun hc => ?_) (fun hc => ?_)
      · have h := h.1 hc
        refine x_sub X [] (lv' := []) rfl ?_
        exact bX11_isDone_133 X h
      · have h := h.2 hc
        refine x_aload_n X dX11_isDone_118 rfl 3 rfl ?_
        refine x_iload_n X dX11_isDone_119 rfl 2 rfl ?_
        refine x_iload_n X dX11_isDone_120 rfl 1 rfl ?_
        refine x_iload X dX11_isDone_121 0 rfl ?_
        refine x_callVi X [.int (σ 22 (a1 + 1).toNatClampNeg), .int (σ 22 (a1 + 2).toNatClampNeg), .int (σ 22 (a1 + 3).toNatClampNeg)] [] dX11_isDone_123 (kX11_setSpeedNow h) cm_X11_setSpeedNow ci_X11_setSpeedNow w_8_142 dsM_0 ⟨by decide, by decide⟩ rfl (Nat.le_of_ble_eq_true rfl) (fun r123 σ123 τ123 h => ?_)
        refine x_if_lt X 133 dX11_isDone_126 (by decide) (fun hc => ?_) (fun hc => ?_)
        · have h := h.1 hc
          refine x_sub X [] (lv' := []) rfl ?_
          exact bX11_isDone_133 X h
        · have h := h.2 hc
          refine x_iconst X dX11_isDone_129 ki_1 ?_
          refine x_goto X (tgt := 134) dX11_isDone_130 (by decide) ?_
          refine x_sub X [] (lv' := []) rfl ?_
          exact bX11_isDone_134 X h
  have h := h.2
  by_cases hc2 : (σ 22 a1.toNatClampNeg) = 2
  · have h := h.1 hc2
    refine x_tin X 2 135 hc2 dX11_isDone_34 (by decide) (by decide) (off := 101) (by decide) (by decide) ?_
    refine x_aload_n X dX11_isDone_135 rfl 3 rfl ?_
    refine x_iload_n X dX11_isDone_136 rfl 2 rfl ?_
    refine x_callVi X [.int (σ 22 (a1 + 1).toNatClampNeg)] [] dX11_isDone_137 (kX11_isTruck h) cm_X11_isTruck ci_X11_isTruck w_8_26 dsM_0 ⟨by decide, by decide⟩ rfl (Nat.le_of_ble_eq_true rfl) (fun r137 σ137 τ137 h => ?_)
    refine x_if_eq X 156 dX11_isDone_140 (by decide) (fun hc => ?_) (fun hc => ?_)
    · have h := h.1 hc
      refine x_sub X [] (lv' := []) rfl ?_
      exact bX11_isDone_156 X h
    · have h := h.2 hc
      refine x_aload_n X dX11_isDone_143 rfl 3 rfl ?_
      refine x_iload_n X dX11_isDone_144 rfl 2 rfl ?_
      refine x_iload_n X dX11_isDone_145 rfl 1 rfl ?_
      refine x_callVi X [.int (σ 22 (a1 + 1).toNatClampNeg), .int (σ 22 (a1 + 2).toNatClampNeg)] [] dX11_isDone_146 (kX11_setStartNow h) cm_X11_setStartNow ci_X11_setStartNow w_8_151 dsM_0 ⟨by decide, by decide⟩ rfl (Nat.le_of_ble_eq_true rfl) (fun r146 σ146 τ146 h => ?_)
      refine x_if_lt X 156 dX11_isDone_149 (by decide) (fun hc => ?_) (fun hc => ?_)
      · have h := h.1 hc
        refine x_sub X [] (lv' := []) rfl ?_
        exact bX11_isDone_156 X h
      · have h := h.2 hc
        refine x_iconst X dX11_isDone_152 ki_1 ?_
        refine x_goto X (tgt := 157) dX11_isDone_153 (by decide) ?_
        refine x_sub X [] (lv' := []) rfl ?_
        exact bX11_isDone_157 X h
  have h := h.2
  by_cases hc3 : (σ 22 a1.toNatClampNeg) = 3
  · have h := h.1 hc3
    refine x_tin X 3 158 hc3 dX11_isDone_34 (by decide) (by decide) (off := 124) (by decide) (by decide) ?_
    refine x_aload_n X dX11_isDone_158 rfl 3 rfl ?_
    refine x_iload_n X dX11_isDone_159 rfl 2 rfl ?_
    refine x_callVi X [.int (σ 22 (a1 + 1).toNatClampNeg)] [] dX11_isDone_160 (kX11_isTruck h) cm_X11_isTruck ci_X11_isTruck w_8_26 dsM_0 ⟨by decide, by decide⟩ rfl (Nat.le_of_ble_eq_true rfl) (fun r160 σ160 τ160 h => ?_)
    refine x_if_eq X 187 dX11_isDone_163 (by decide) (fun hc => ?_) (fun hc => ?_)
    · have h := h.1 hc
      refine x_sub X [] (lv' := []) rfl ?_
      exact bX11_isDone_187 X h
    · have h := h.2 hc
      refine x_aload_n X dX11_isDone_166 rfl 3 rfl ?_
      refine x_iload_n X dX11_isDone_167 rfl 1 rfl ?_
      refine x_callVi X [.int (σ 22 (a1 + 2).toNatClampNeg)] [] dX11_isDone_168 (kX11_isTruck h) cm_X11_isTruck ci_X11_isTruck w_8_26 dsM_0 ⟨by decide, by decide⟩ rfl (Nat.le_of_ble_eq_true rfl) (fun r168 σ168 τ168 h => ?_)
      refine x_if_eq X 187 dX11_isDone_171 (by decide) (fun hc => ?_) (fun hc => ?_)
      · have h := h.1 hc
        refine x_sub X [] (lv' := []) rfl ?_
        exact bX11_isDone_187 X h
      · have h := h.2 hc
        refine x_aload_n X dX11_isDone_174 rfl 3 rfl ?_
        refine x_iload_n X dX11_isDone_175 rfl 2 rfl ?_
        refine x_iload_n X dX11_isDone_176 rfl 1 rfl ?_
        refine x_callVi X [.int (σ 22 (a1 + 1).toNatClampNeg), .int (σ 22 (a1 + 2).toNatClampNeg)] [] dX11_isDone_177 (kX11_mergeNow h) cm_X11_mergeNow ci_X11_mergeNow w_8_179 dsM_0 ⟨by decide, by decide⟩ rfl (Nat.le_of_ble_eq_true rfl) (fun r177 σ177 τ177 h => ?_)
        refine x_if_lt X 187 dX11_isDone_180 (by decide) (fun hc => ?_) (fun hc => ?_)
        · have h := h.1 hc
          refine x_sub X [] (lv' := []) rfl ?_
          exact bX11_isDone_187 X h
        · have h := h.2 hc
          refine x_iconst X dX11_isDone_183 ki_1 ?_
          refine x_goto X (tgt := 188) dX11_isDone_184 (by decide) ?_
          refine x_sub X [] (lv' := []) rfl ?_
          exact bX11_isDone_188 X h
  have h := h.2
  by_cases hc4 : (σ 22 a1.toNatClampNeg) = 4
  · have h := h.1 hc4
    refine x_tin X 4 189 hc4 dX11_isDone_34 (by decide) (by decide) (off := 155) (by decide) (by decide) ?_
    refine x_aload_n X dX11_isDone_189 rfl 3 rfl ?_
    refine x_iload_n X dX11_isDone_190 rfl 2 rfl ?_
    refine x_callVi X [.int (σ 22 (a1 + 1).toNatClampNeg)] [] dX11_isDone_191 (kX11_isTruck h) cm_X11_isTruck ci_X11_isTruck w_8_26 dsM_0 ⟨by decide, by decide⟩ rfl (Nat.le_of_ble_eq_true rfl) (fun r191 σ191 τ191 h => ?_)
    refine x_if_eq X 209 dX11_isDone_194 (by decide) (fun hc => ?_) (fun hc => ?_)
    · have h := h.1 hc
      refine x_sub X [] (lv' := []) rfl ?_
      exact bX11_isDone_209 X h
    · have h := h.2 hc
      refine x_aload_n X dX11_isDone_197 rfl 3 rfl ?_
      refine x_iload_n X dX11_isDone_198 rfl 2 rfl ?_
      refine x_callVi X [.int (σ 22 (a1 + 1).toNatClampNeg)] [] dX11_isDone_199 (kX11_hurryNow h) cm_X11_hurryNow ci_X11_hurryNow w_8_211 dsM_0 ⟨by decide, by decide⟩ rfl (Nat.le_of_ble_eq_true rfl) (fun r199 σ199 τ199 h => ?_)
      refine x_if_lt X 209 dX11_isDone_202 (by decide) (fun hc => ?_) (fun hc => ?_)
      · have h := h.1 hc
        refine x_sub X [] (lv' := []) rfl ?_
        exact bX11_isDone_209 X h
      · have h := h.2 hc
        refine x_iconst X dX11_isDone_205 ki_1 ?_
        refine x_goto X (tgt := 210) dX11_isDone_206 (by decide) ?_
        refine x_sub X [] (lv' := []) rfl ?_
        exact bX11_isDone_210 X h
  have h := h.2
  by_cases hc5 : (σ 22 a1.toNatClampNeg) = 5
  · have h := h.1 hc5
    refine x_tin X 5 211 hc5 dX11_isDone_34 (by decide) (by decide) (off := 177) (by decide) (by decide) ?_
    refine x_aload_n X dX11_isDone_211 rfl 3 rfl ?_
    refine x_iload_n X dX11_isDone_212 rfl 2 rfl ?_
    refine x_callVi X [.int (σ 22 (a1 + 1).toNatClampNeg)] [] dX11_isDone_213 (kX11_isTruck h) cm_X11_isTruck ci_X11_isTruck w_8_26 dsM_0 ⟨by decide, by decide⟩ rfl (Nat.le_of_ble_eq_true rfl) (fun r213 σ213 τ213 h => ?_)
    refine x_if_eq X 231 dX11_isDone_216 (by decide) (fun hc => ?_) (fun hc => ?_)
    · have h := h.1 hc
      refine x_sub X [] (lv' := []) rfl ?_
      exact bX11_isDone_231 X h
    · have h := h.2 hc
      refine x_aload_n X dX11_isDone_219 rfl 3 rfl ?_
      refine x_iload_n X dX11_isDone_220 rfl 2 rfl ?_
      refine x_callVi X [.int (σ 22 (a1 + 1).toNatClampNeg)] [] dX11_isDone_221 (kX11_relaxNow h) cm_X11_relaxNow ci_X11_relaxNow w_8_219 dsM_0 ⟨by decide, by decide⟩ rfl (Nat.le_of_ble_eq_true rfl) (fun r221 σ221 τ221 h => ?_)
      refine x_if_lt X 231 dX11_isDone_224 (by decide) (fun hc => ?_) (fun hc => ?_)
      · have h := h.1 hc
        refine x_sub X [] (lv' := []) rfl ?_
        exact bX11_isDone_231 X h
      · have h := h.2 hc
        refine x_iconst X dX11_isDone_227 ki_1 ?_
        refine x_goto X (tgt := 232) dX11_isDone_228 (by decide) ?_
        refine x_sub X [] (lv' := []) rfl ?_
        exact bX11_isDone_232 X h
  have h := h.2
  have he0 := x_toInt_ne (n := 0) hc0 (by decide)
  have he1 := x_toInt_ne (n := 1) hc1 (by decide)
  have he2 := x_toInt_ne (n := 2) hc2 (by decide)
  have he3 := x_toInt_ne (n := 3) hc3 (by decide)
  have he4 := x_toInt_ne (n := 4) hc4 (by decide)
  have he5 := x_toInt_ne (n := 5) hc5 (by decide)
  have h := h hc0 hc1 hc2 hc3 hc4 hc5
  refine x_tout X 233 dX11_isDone_34 (by omega) (by decide) ?_
  refine x_aload_n X dX11_isDone_233 rfl 3 rfl ?_
  refine x_callVi X [] [] dX11_isDone_234 (kX11_mergeAllNow h) cm_X11_mergeAllNow ci_X11_mergeAllNow w_8_199 dsM_0 ⟨by decide, by decide⟩ rfl (Nat.le_of_ble_eq_true rfl) (fun r234 σ234 τ234 h => ?_)
  refine x_if_lt X 244 dX11_isDone_237 (by decide) (fun hc => ?_) (fun hc => ?_)
  · have h := h.1 hc
    refine x_iconst X dX11_isDone_244 ki_0 ?_
    refine x_sub X [] (lv' := []) rfl ?_
    exact bX11_isDone_245 X h
  · have h := h.2 hc
    refine x_iconst X dX11_isDone_240 ki_1 ?_
    refine x_goto X (tgt := 245) dX11_isDone_241 (by decide) ?_
    refine x_sub X [] (lv' := []) rfl ?_
    exact bX11_isDone_245 X h
theorem dX11_play_0 : decode cX11_play 0 = .ok (.aload_n 0, 1) := by decide +kernel
theorem dX11_play_1 : decode cX11_play 1 = .ok (.iconst 0, 1) := by decide +kernel
theorem dX11_play_2 : decode cX11_play 2 = .ok (.putfield 82, 3) := by decide +kernel
theorem dX11_play_5 : decode cX11_play 5 = .ok (.aload_n 0, 1) := by decide +kernel
theorem dX11_play_6 : decode cX11_play 6 = .ok (.iconst 0, 1) := by decide +kernel
theorem dX11_play_7 : decode cX11_play 7 = .ok (.putfield 473, 3) := by decide +kernel
theorem dX11_play_10 : decode cX11_play 10 = .ok (.aload_n 0, 1) := by decide +kernel
theorem dX11_play_11 : decode cX11_play 11 = .ok (.invokevirtual 467, 3) := by decide +kernel
theorem dX11_play_14 : decode cX11_play 14 = .ok (.iconst 1, 1) := by decide +kernel
theorem dX11_play_15 : decode cX11_play 15 = .ok (.istore_n 1, 1) := by decide +kernel
theorem dX11_play_16 : decode cX11_play 16 = .ok (.iload_n 1, 1) := by decide +kernel
theorem dX11_play_17 : decode cX11_play 17 = .ok (.ifCond .eq 18, 3) := by decide +kernel
theorem dX11_play_20 : decode cX11_play 20 = .ok (.aload_n 0, 1) := by decide +kernel
theorem dX11_play_21 : decode cX11_play 21 = .ok (.getfield 419, 3) := by decide +kernel
theorem dX11_play_24 : decode cX11_play 24 = .ok (.ifCond .eq 11, 3) := by decide +kernel
theorem dX11_play_27 : decode cX11_play 27 = .ok (.aload_n 0, 1) := by decide +kernel
theorem dX11_play_28 : decode cX11_play 28 = .ok (.invokevirtual 485, 3) := by decide +kernel
theorem dX11_play_31 : decode cX11_play 31 = .ok (.istore_n 1, 1) := by decide +kernel
theorem dX11_play_32 : decode cX11_play 32 = .ok (.goto (-16), 3) := by decide +kernel
theorem dX11_play_35 : decode cX11_play 35 = .ok (.aload_n 0, 1) := by decide +kernel
theorem dX11_play_36 : decode cX11_play 36 = .ok (.iconst 0, 1) := by decide +kernel
theorem dX11_play_37 : decode cX11_play 37 = .ok (.putfield 383, 3) := by decide +kernel
theorem dX11_play_40 : decode cX11_play 40 = .ok (.iload_n 1, 1) := by decide +kernel
theorem dX11_play_41 : decode cX11_play 41 = .ok (.ifCond .ne 6, 3) := by decide +kernel
theorem dX11_play_44 : decode cX11_play 44 = .ok (.bipush (-2), 2) := by decide +kernel
theorem dX11_play_46 : decode cX11_play 46 = .ok (.ireturn, 1) := by decide +kernel
theorem dX11_play_47 : decode cX11_play 47 = .ok (.iconst 0, 1) := by decide +kernel
theorem dX11_play_48 : decode cX11_play 48 = .ok (.istore_n 2, 1) := by decide +kernel
theorem dX11_play_49 : decode cX11_play 49 = .ok (.iload_n 2, 1) := by decide +kernel
theorem dX11_play_50 : decode cX11_play 50 = .ok (.aload_n 0, 1) := by decide +kernel
theorem dX11_play_51 : decode cX11_play 51 = .ok (.getfield 473, 3) := by decide +kernel
theorem dX11_play_54 : decode cX11_play 54 = .ok (.if_icmp .ge 19, 3) := by decide +kernel
theorem dX11_play_57 : decode cX11_play 57 = .ok (.aload_n 0, 1) := by decide +kernel
theorem dX11_play_58 : decode cX11_play 58 = .ok (.iconst 4, 1) := by decide +kernel
theorem dX11_play_59 : decode cX11_play 59 = .ok (.iload_n 2, 1) := by decide +kernel
theorem dX11_play_60 : decode cX11_play 60 = .ok (.imul, 1) := by decide +kernel
theorem dX11_play_61 : decode cX11_play 61 = .ok (.invokevirtual 488, 3) := by decide +kernel
theorem dX11_play_64 : decode cX11_play 64 = .ok (.ifCond .eq 9, 3) := by decide +kernel
theorem dX11_play_67 : decode cX11_play 67 = .ok (.iinc 2 1, 3) := by decide +kernel
theorem dX11_play_70 : decode cX11_play 70 = .ok (.goto (-21), 3) := by decide +kernel
theorem dX11_play_73 : decode cX11_play 73 = .ok (.iload_n 2, 1) := by decide +kernel
theorem dX11_play_74 : decode cX11_play 74 = .ok (.ireturn, 1) := by decide +kernel
theorem cm_X11_play : x_CM yX11_play cX11_play 3 (Option.some FieldType.int) 0 := ⟨w_9_178, w_1_12, by decide +kernel, by decide +kernel⟩
theorem ci_X11_play : x_CI yX11_play 13 := ⟨w_9_176, w_9_177, (RX11, TX11, 41), rfl, rfl⟩
set_option maxRecDepth 100000 in
set_option maxHeartbeats 4000000 in
theorem bX11_play_73 {V : x_J} {ad : Nat → Nat} {Q : Int32 → x_S → x_L → Prop} (X : x_Is V cX11_play 3 RX11 (Option.some FieldType.int) ad dsM 10 (x_PI Q)) {v2 : Int32} {σ : x_S} {τ : x_L} (h : wX11_play_73 Q v2 σ τ) : V σ τ 73 [(2, .int v2)] [] := by
  refine x_iload_n X dX11_play_73 rfl 0 rfl ?_
  exact x_iret X dX11_play_74 ⟨_, rfl, h⟩
set_option maxRecDepth 100000 in
set_option maxHeartbeats 4000000 in
theorem bX11_play_49 {V : x_J} {ad : Nat → Nat} {Q : Int32 → x_S → x_L → Prop} (X : x_Is V cX11_play 3 RX11 (Option.some FieldType.int) ad dsM 10 (x_PI Q)) {K49 : Int32 → x_S → x_L → Prop} (hK49 : ∀ v2 σ τ, K49 v2 σ τ → V σ τ 49 [(0, .ref (ad 0)), (2, .int v2)] []) {v2 : Int32} {σ : x_S} {τ : x_L} (h : wX11_play_49 Q K49 v2 σ τ) : V σ τ 49 [(0, .ref (ad 0)), (2, .int v2)] [] := by
  refine x_iload_n X dX11_play_49 rfl 1 rfl ?_
  refine x_aload_n X dX11_play_50 rfl 0 rfl ?_
  refine x_getI X dX11_play_51 fl_11_473 dsM_0 rfl ?_
  refine x_icmp_ge X 73 dX11_play_54 (by decide) (fun hc => ?_) (fun hc => ?_)
  · have h := h.1 hc
    refine x_sub X [1] (lv' := [(2, .int v2)]) rfl ?_
    exact bX11_play_73 X h
  · have h := h.2 hc
    refine x_aload_n X dX11_play_57 rfl 0 rfl ?_
    refine x_iconst X dX11_play_58 ki_4 ?_
    refine x_iload_n X dX11_play_59 rfl 1 rfl ?_
    refine x_imul X dX11_play_60 ?_
    refine x_callVi X [.int (4 * v2)] [] dX11_play_61 (kX11_isDone h) cm_X11_isDone ci_X11_isDone w_9_195 dsM_0 ⟨by decide, by decide⟩ rfl (Nat.le_of_ble_eq_true rfl) (fun r61 σ61 τ61 h => ?_)
    refine x_if_eq X 73 dX11_play_64 (by decide) (fun hc => ?_) (fun hc => ?_)
    · have h := h.1 hc
      refine x_sub X [1] (lv' := [(2, .int v2)]) rfl ?_
      exact bX11_play_73 X h
    · have h := h.2 hc
      refine x_iinc X (k := 1) (lv' := [(2, .int (v2 + 1)), (0, .ref (ad 0))]) dX11_play_67 rfl ki_1 (by decide) rfl ?_
      refine x_goto X (tgt := 49) dX11_play_70 (by decide) ?_
      refine x_sub X [1, 0] (lv' := [(0, .ref (ad 0)), (2, .int (v2 + 1))]) rfl ?_
      exact hK49 _ _ _ h
set_option maxRecDepth 100000 in
set_option maxHeartbeats 4000000 in
theorem bX11_play_35 {V : x_J} {ad : Nat → Nat} {Q : Int32 → x_S → x_L → Prop} (X : x_Is V cX11_play 3 RX11 (Option.some FieldType.int) ad dsM 10 (x_PI Q)) {v1 : Int32} {σ : x_S} {τ : x_L} (h : wX11_play_35 Q v1 σ τ) : V σ τ 35 [(0, .ref (ad 0)), (1, .int v1)] [] := by
  refine x_aload_n X dX11_play_35 rfl 0 rfl ?_
  refine x_iconst X dX11_play_36 ki_0 ?_
  refine x_putI X dX11_play_37 fl_11_383 ft_11_31 dsM_0 rfl ?_
  refine x_iload_n X dX11_play_40 rfl 1 rfl ?_
  refine x_if_ne X 47 dX11_play_41 (by decide) (fun hc => ?_) (fun hc => ?_)
  · have h := h.1 hc
    refine x_iconst X dX11_play_47 ki_0 ?_
    refine x_istore_n X (lv' := [(2, .int 0), (0, .ref (ad 0)), (1, .int v1)]) dX11_play_48 rfl (by decide) rfl ?_
    refine x_sub X [1, 0] (lv' := [(0, .ref (ad 0)), (2, .int 0)]) rfl ?_
    exact x_l1_G (fun v2 σ τ => V σ τ 49 [(0, .ref (ad 0)), (2, .int v2)] []) (fun K49 hK49 v2 σ τ h => bX11_play_49 X hK49 h) h
  · have h := h.2 hc
    refine x_bipush X dX11_play_44 kb_m2 ?_
    exact x_iret X dX11_play_46 ⟨_, rfl, h⟩
set_option maxRecDepth 100000 in
set_option maxHeartbeats 4000000 in
theorem bX11_play_16 {V : x_J} {ad : Nat → Nat} {Q : Int32 → x_S → x_L → Prop} (X : x_Is V cX11_play 3 RX11 (Option.some FieldType.int) ad dsM 10 (x_PI Q)) {K16 : Int32 → x_S → x_L → Prop} (hK16 : ∀ v1 σ τ, K16 v1 σ τ → V σ τ 16 [(0, .ref (ad 0)), (1, .int v1)] []) {v1 : Int32} {σ : x_S} {τ : x_L} (h : wX11_play_16 Q K16 v1 σ τ) : V σ τ 16 [(0, .ref (ad 0)), (1, .int v1)] [] := by
  refine x_iload_n X dX11_play_16 rfl 1 rfl ?_
  refine x_if_eq X 35 dX11_play_17 (by decide) (fun hc => ?_) (fun hc => ?_)
  · have h := h.1 hc
    exact bX11_play_35 X h
  · have h := h.2 hc
    refine x_aload_n X dX11_play_20 rfl 0 rfl ?_
    refine x_getI X dX11_play_21 fl_11_419 dsM_0 rfl ?_
    refine x_if_eq X 35 dX11_play_24 (by decide) (fun hc => ?_) (fun hc => ?_)
    · have h := h.1 hc
      exact bX11_play_35 X h
    · have h := h.2 hc
      refine x_aload_n X dX11_play_27 rfl 0 rfl ?_
      refine x_callVi X [] [] dX11_play_28 (kX11_readCommand h) cm_X11_readCommand ci_X11_readCommand w_9_179 dsM_0 ⟨by decide, by decide⟩ rfl (Nat.le_of_ble_eq_true rfl) (fun r28 σ28 τ28 h => ?_)
      refine x_istore_n X (lv' := [(1, .int r28), (0, .ref (ad 0))]) dX11_play_31 rfl (by decide) rfl ?_
      refine x_goto X (tgt := 16) dX11_play_32 (by decide) ?_
      refine x_sub X [1, 0] (lv' := [(0, .ref (ad 0)), (1, .int r28)]) rfl ?_
      exact hK16 _ _ _ h
set_option maxRecDepth 100000 in
set_option maxHeartbeats 4000000 in
theorem kX11_play {ad : Nat → Nat} {σ : x_S} {τ : x_L} {Q : Int32 → x_S → x_L → Prop} (h : wX11_play σ τ Q) : x_Met yX11_play cX11_play 3 (Option.some FieldType.int) 10 ad dsM [.ref (ad 0)] σ τ (x_PI Q) := by
  refine x_met (by decide +kernel) (Nat.le_of_ble_eq_true rfl) (fun V X => ?_)
  have X : x_Is V cX11_play 3 RX11 (Option.some FieldType.int) ad dsM 10 (x_PI Q) := X
  show V σ τ 0 [(0, .ref (ad 0))] []
  refine x_aload_n X dX11_play_0 rfl 0 rfl ?_
  refine x_iconst X dX11_play_1 ki_0 ?_
  refine x_putI X dX11_play_2 fl_11_82 ft_11_5 dsM_0 rfl ?_
  refine x_aload_n X dX11_play_5 rfl 0 rfl ?_
  refine x_iconst X dX11_play_6 ki_0 ?_
  refine x_putI X dX11_play_7 fl_11_473 ft_11_40 dsM_0 rfl ?_
  refine x_aload_n X dX11_play_10 rfl 0 rfl ?_
  refine x_callVv X [] [] dX11_play_11 (kX11_beginText h) cm_X11_beginText ci_X11_beginText w_9_107 dsM_0 ⟨by decide, by decide⟩ rfl (Nat.le_of_ble_eq_true rfl) (fun σ11 τ11 h => ?_)
  refine x_iconst X dX11_play_14 ki_1 ?_
  refine x_istore_n X (lv' := [(1, .int 1), (0, .ref (ad 0))]) dX11_play_15 rfl (by decide) rfl ?_
  refine x_sub X [1, 0] (lv' := [(0, .ref (ad 0)), (1, .int 1)]) rfl ?_
  exact x_l1_G (fun v1 σ τ => V σ τ 16 [(0, .ref (ad 0)), (1, .int v1)] []) (fun K16 hK16 v1 σ τ h => bX11_play_16 X hK16 h) h
