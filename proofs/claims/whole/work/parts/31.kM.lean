theorem dX11_lay_0 : decode cX11_lay 0 = .ok (.iconst 0, 1) := by decide +kernel
theorem dX11_lay_1 : decode cX11_lay 1 = .ok (.istore_n 1, 1) := by decide +kernel
theorem dX11_lay_2 : decode cX11_lay 2 = .ok (.iload_n 1, 1) := by decide +kernel
theorem dX11_lay_3 : decode cX11_lay 3 = .ok (.aload_n 0, 1) := by decide +kernel
theorem dX11_lay_4 : decode cX11_lay 4 = .ok (.getfield 17, 3) := by decide +kernel
theorem dX11_lay_7 : decode cX11_lay 7 = .ok (.iconst 1, 1) := by decide +kernel
theorem dX11_lay_8 : decode cX11_lay 8 = .ok (.iaload, 1) := by decide +kernel
theorem dX11_lay_9 : decode cX11_lay 9 = .ok (.if_icmp .ge 14, 3) := by decide +kernel
theorem dX11_lay_12 : decode cX11_lay 12 = .ok (.aload_n 0, 1) := by decide +kernel
theorem dX11_lay_13 : decode cX11_lay 13 = .ok (.iload_n 1, 1) := by decide +kernel
theorem dX11_lay_14 : decode cX11_lay 14 = .ok (.invokevirtual 172, 3) := by decide +kernel
theorem dX11_lay_17 : decode cX11_lay 17 = .ok (.iinc 1 1, 3) := by decide +kernel
theorem dX11_lay_20 : decode cX11_lay 20 = .ok (.goto (-18), 3) := by decide +kernel
theorem dX11_lay_23 : decode cX11_lay 23 = .ok (.aload_n 0, 1) := by decide +kernel
theorem dX11_lay_24 : decode cX11_lay 24 = .ok (.invokevirtual 176, 3) := by decide +kernel
theorem dX11_lay_27 : decode cX11_lay 27 = .ok (.iconst 0, 1) := by decide +kernel
theorem dX11_lay_28 : decode cX11_lay 28 = .ok (.istore_n 1, 1) := by decide +kernel
theorem dX11_lay_29 : decode cX11_lay 29 = .ok (.iload_n 1, 1) := by decide +kernel
theorem dX11_lay_30 : decode cX11_lay 30 = .ok (.aload_n 0, 1) := by decide +kernel
theorem dX11_lay_31 : decode cX11_lay 31 = .ok (.getfield 17, 3) := by decide +kernel
theorem dX11_lay_34 : decode cX11_lay 34 = .ok (.iconst 1, 1) := by decide +kernel
theorem dX11_lay_35 : decode cX11_lay 35 = .ok (.iaload, 1) := by decide +kernel
theorem dX11_lay_36 : decode cX11_lay 36 = .ok (.if_icmp .ge 32, 3) := by decide +kernel
theorem dX11_lay_39 : decode cX11_lay 39 = .ok (.iconst 0, 1) := by decide +kernel
theorem dX11_lay_40 : decode cX11_lay 40 = .ok (.istore_n 2, 1) := by decide +kernel
theorem dX11_lay_41 : decode cX11_lay 41 = .ok (.iload_n 2, 1) := by decide +kernel
theorem dX11_lay_42 : decode cX11_lay 42 = .ok (.aload_n 0, 1) := by decide +kernel
theorem dX11_lay_43 : decode cX11_lay 43 = .ok (.iload_n 1, 1) := by decide +kernel
theorem dX11_lay_44 : decode cX11_lay 44 = .ok (.invokevirtual 107, 3) := by decide +kernel
theorem dX11_lay_47 : decode cX11_lay 47 = .ok (.if_icmp .ge 15, 3) := by decide +kernel
theorem dX11_lay_50 : decode cX11_lay 50 = .ok (.aload_n 0, 1) := by decide +kernel
theorem dX11_lay_51 : decode cX11_lay 51 = .ok (.iload_n 1, 1) := by decide +kernel
theorem dX11_lay_52 : decode cX11_lay 52 = .ok (.iload_n 2, 1) := by decide +kernel
theorem dX11_lay_53 : decode cX11_lay 53 = .ok (.invokevirtual 179, 3) := by decide +kernel
theorem dX11_lay_56 : decode cX11_lay 56 = .ok (.iinc 2 1, 3) := by decide +kernel
theorem dX11_lay_59 : decode cX11_lay 59 = .ok (.goto (-18), 3) := by decide +kernel
theorem dX11_lay_62 : decode cX11_lay 62 = .ok (.iinc 1 1, 3) := by decide +kernel
theorem dX11_lay_65 : decode cX11_lay 65 = .ok (.goto (-36), 3) := by decide +kernel
theorem dX11_lay_68 : decode cX11_lay 68 = .ok (.iconst 0, 1) := by decide +kernel
theorem dX11_lay_69 : decode cX11_lay 69 = .ok (.istore_n 1, 1) := by decide +kernel
theorem dX11_lay_70 : decode cX11_lay 70 = .ok (.iload_n 1, 1) := by decide +kernel
theorem dX11_lay_71 : decode cX11_lay 71 = .ok (.aload_n 0, 1) := by decide +kernel
theorem dX11_lay_72 : decode cX11_lay 72 = .ok (.getfield 17, 3) := by decide +kernel
theorem dX11_lay_75 : decode cX11_lay 75 = .ok (.iconst 1, 1) := by decide +kernel
theorem dX11_lay_76 : decode cX11_lay 76 = .ok (.iaload, 1) := by decide +kernel
theorem dX11_lay_77 : decode cX11_lay 77 = .ok (.if_icmp .ge 32, 3) := by decide +kernel
theorem dX11_lay_80 : decode cX11_lay 80 = .ok (.iconst 0, 1) := by decide +kernel
theorem dX11_lay_81 : decode cX11_lay 81 = .ok (.istore_n 2, 1) := by decide +kernel
theorem dX11_lay_82 : decode cX11_lay 82 = .ok (.iload_n 2, 1) := by decide +kernel
theorem dX11_lay_83 : decode cX11_lay 83 = .ok (.aload_n 0, 1) := by decide +kernel
theorem dX11_lay_84 : decode cX11_lay 84 = .ok (.iload_n 1, 1) := by decide +kernel
theorem dX11_lay_85 : decode cX11_lay 85 = .ok (.invokevirtual 107, 3) := by decide +kernel
theorem dX11_lay_88 : decode cX11_lay 88 = .ok (.if_icmp .ge 15, 3) := by decide +kernel
theorem dX11_lay_91 : decode cX11_lay 91 = .ok (.aload_n 0, 1) := by decide +kernel
theorem dX11_lay_92 : decode cX11_lay 92 = .ok (.iload_n 1, 1) := by decide +kernel
theorem dX11_lay_93 : decode cX11_lay 93 = .ok (.iload_n 2, 1) := by decide +kernel
theorem dX11_lay_94 : decode cX11_lay 94 = .ok (.invokevirtual 182, 3) := by decide +kernel
theorem dX11_lay_97 : decode cX11_lay 97 = .ok (.iinc 2 1, 3) := by decide +kernel
theorem dX11_lay_100 : decode cX11_lay 100 = .ok (.goto (-18), 3) := by decide +kernel
theorem dX11_lay_103 : decode cX11_lay 103 = .ok (.iinc 1 1, 3) := by decide +kernel
theorem dX11_lay_106 : decode cX11_lay 106 = .ok (.goto (-36), 3) := by decide +kernel
theorem dX11_lay_109 : decode cX11_lay 109 = .ok (.iconst 0, 1) := by decide +kernel
theorem dX11_lay_110 : decode cX11_lay 110 = .ok (.istore_n 1, 1) := by decide +kernel
theorem dX11_lay_111 : decode cX11_lay 111 = .ok (.iload_n 1, 1) := by decide +kernel
theorem dX11_lay_112 : decode cX11_lay 112 = .ok (.aload_n 0, 1) := by decide +kernel
theorem dX11_lay_113 : decode cX11_lay 113 = .ok (.getfield 17, 3) := by decide +kernel
theorem dX11_lay_116 : decode cX11_lay 116 = .ok (.iconst 1, 1) := by decide +kernel
theorem dX11_lay_117 : decode cX11_lay 117 = .ok (.iaload, 1) := by decide +kernel
theorem dX11_lay_118 : decode cX11_lay 118 = .ok (.if_icmp .ge 45, 3) := by decide +kernel
theorem dX11_lay_121 : decode cX11_lay 121 = .ok (.iconst 0, 1) := by decide +kernel
theorem dX11_lay_122 : decode cX11_lay 122 = .ok (.istore_n 2, 1) := by decide +kernel
theorem dX11_lay_123 : decode cX11_lay 123 = .ok (.iload_n 2, 1) := by decide +kernel
theorem dX11_lay_124 : decode cX11_lay 124 = .ok (.aload_n 0, 1) := by decide +kernel
theorem dX11_lay_125 : decode cX11_lay 125 = .ok (.iload_n 1, 1) := by decide +kernel
theorem dX11_lay_126 : decode cX11_lay 126 = .ok (.invokevirtual 107, 3) := by decide +kernel
theorem dX11_lay_129 : decode cX11_lay 129 = .ok (.if_icmp .ge 28, 3) := by decide +kernel
theorem dX11_lay_132 : decode cX11_lay 132 = .ok (.aload_n 0, 1) := by decide +kernel
theorem dX11_lay_133 : decode cX11_lay 133 = .ok (.getfield 35, 3) := by decide +kernel
theorem dX11_lay_136 : decode cX11_lay 136 = .ok (.iload_n 1, 1) := by decide +kernel
theorem dX11_lay_137 : decode cX11_lay 137 = .ok (.iload_n 2, 1) := by decide +kernel
theorem dX11_lay_138 : decode cX11_lay 138 = .ok (.invokestatic 111, 3) := by decide +kernel
theorem dX11_lay_141 : decode cX11_lay 141 = .ok (.iaload, 1) := by decide +kernel
theorem dX11_lay_142 : decode cX11_lay 142 = .ok (.ifCond .ne 9, 3) := by decide +kernel
theorem dX11_lay_145 : decode cX11_lay 145 = .ok (.aload_n 0, 1) := by decide +kernel
theorem dX11_lay_146 : decode cX11_lay 146 = .ok (.iload_n 1, 1) := by decide +kernel
theorem dX11_lay_147 : decode cX11_lay 147 = .ok (.iload_n 2, 1) := by decide +kernel
theorem dX11_lay_148 : decode cX11_lay 148 = .ok (.invokevirtual 185, 3) := by decide +kernel
theorem dX11_lay_151 : decode cX11_lay 151 = .ok (.iinc 2 1, 3) := by decide +kernel
theorem dX11_lay_154 : decode cX11_lay 154 = .ok (.goto (-31), 3) := by decide +kernel
theorem dX11_lay_157 : decode cX11_lay 157 = .ok (.iinc 1 1, 3) := by decide +kernel
theorem dX11_lay_160 : decode cX11_lay 160 = .ok (.goto (-49), 3) := by decide +kernel
theorem dX11_lay_163 : decode cX11_lay 163 = .ok (.return_, 1) := by decide +kernel
theorem cm_X11_lay : x_CM yX11_lay cX11_lay 3 (Option.none : Option Jvm.ClassFile.FieldType) 0 := ⟨w_7_104, w_1_12, by decide +kernel, by decide +kernel⟩
theorem ci_X11_lay : x_CI yX11_lay 13 := ⟨w_7_103, wp_42, (RX11, TX11, 41), rfl, rfl⟩
set_option maxRecDepth 100000 in
set_option maxHeartbeats 4000000 in
theorem bX11_lay_41 {V : x_J} {ad : Nat → Nat} {Q : x_S → x_L → Prop} (X : x_Is V cX11_lay 3 RX11 (Option.none : Option Jvm.ClassFile.FieldType) ad dsM 5 (x_PV Q)) {K29 : Int32 → x_S → x_L → Prop} {K41 : Int32 → Int32 → x_S → x_L → Prop} (hK29 : ∀ v1 σ τ, K29 v1 σ τ → V σ τ 29 [(0, .ref (ad 0)), (1, .int v1)] []) (hK41 : ∀ v1 v2 σ τ, K41 v1 v2 σ τ → V σ τ 41 [(0, .ref (ad 0)), (1, .int v1), (2, .int v2)] []) {v1 : Int32} {v2 : Int32} {σ : x_S} {τ : x_L} (h : wX11_lay_41 K29 Q K41 v1 v2 σ τ) : V σ τ 41 [(0, .ref (ad 0)), (1, .int v1), (2, .int v2)] [] := by
  refine x_iload_n X dX11_lay_41 rfl 2 rfl ?_
  refine x_aload_n X dX11_lay_42 rfl 0 rfl ?_
  refine x_iload_n X dX11_lay_43 rfl 1 rfl ?_
  refine x_callVi X [.int v1] [.int v2] dX11_lay_44 (kX11_placesOf h) cm_X11_placesOf ci_X11_placesOf w_7_109 dsM_0 ⟨by decide, by decide⟩ rfl (Nat.le_of_ble_eq_true rfl) (fun r44 σ44 τ44 h => ?_)
  refine x_icmp_ge X 62 dX11_lay_47 (by decide) (fun hc => ?_) (fun hc => ?_)
  · have h := h.1 hc
    refine x_iinc X (k := 1) (lv' := [(1, .int (v1 + 1)), (0, .ref (ad 0)), (2, .int v2)]) dX11_lay_62 rfl ki_1 (by decide) rfl ?_
    refine x_goto X (tgt := 29) dX11_lay_65 (by decide) ?_
    refine x_sub X [1, 0] (lv' := [(0, .ref (ad 0)), (1, .int (v1 + 1))]) rfl ?_
    exact hK29 _ _ _ h
  · have h := h.2 hc
    refine x_aload_n X dX11_lay_50 rfl 0 rfl ?_
    refine x_iload_n X dX11_lay_51 rfl 1 rfl ?_
    refine x_iload_n X dX11_lay_52 rfl 2 rfl ?_
    refine x_callVv X [.int v1, .int v2] [] dX11_lay_53 (kX11_layKey h) cm_X11_layKey ci_X11_layKey w_7_152 dsM_0 ⟨by decide, by decide⟩ rfl (Nat.le_of_ble_eq_true rfl) (fun σ53 τ53 h => ?_)
    refine x_iinc X (k := 2) (lv' := [(2, .int (v2 + 1)), (0, .ref (ad 0)), (1, .int v1)]) dX11_lay_56 rfl ki_1 (by decide) rfl ?_
    refine x_goto X (tgt := 41) dX11_lay_59 (by decide) ?_
    refine x_sub X [1, 2, 0] (lv' := [(0, .ref (ad 0)), (1, .int v1), (2, .int (v2 + 1))]) rfl ?_
    exact hK41 _ _ _ _ h
set_option maxRecDepth 100000 in
set_option maxHeartbeats 4000000 in
theorem bX11_lay_82 {V : x_J} {ad : Nat → Nat} {Q : x_S → x_L → Prop} (X : x_Is V cX11_lay 3 RX11 (Option.none : Option Jvm.ClassFile.FieldType) ad dsM 5 (x_PV Q)) {K70 : Int32 → x_S → x_L → Prop} {K82 : Int32 → Int32 → x_S → x_L → Prop} (hK70 : ∀ v1 σ τ, K70 v1 σ τ → V σ τ 70 [(0, .ref (ad 0)), (1, .int v1)] []) (hK82 : ∀ v1 v2 σ τ, K82 v1 v2 σ τ → V σ τ 82 [(0, .ref (ad 0)), (1, .int v1), (2, .int v2)] []) {v1 : Int32} {v2 : Int32} {σ : x_S} {τ : x_L} (h : wX11_lay_82 K70 Q K82 v1 v2 σ τ) : V σ τ 82 [(0, .ref (ad 0)), (1, .int v1), (2, .int v2)] [] := by
  refine x_iload_n X dX11_lay_82 rfl 2 rfl ?_
  refine x_aload_n X dX11_lay_83 rfl 0 rfl ?_
  refine x_iload_n X dX11_lay_84 rfl 1 rfl ?_
  refine x_callVi X [.int v1] [.int v2] dX11_lay_85 (kX11_placesOf h) cm_X11_placesOf ci_X11_placesOf w_7_109 dsM_0 ⟨by decide, by decide⟩ rfl (Nat.le_of_ble_eq_true rfl) (fun r85 σ85 τ85 h => ?_)
  refine x_icmp_ge X 103 dX11_lay_88 (by decide) (fun hc => ?_) (fun hc => ?_)
  · have h := h.1 hc
    refine x_iinc X (k := 1) (lv' := [(1, .int (v1 + 1)), (0, .ref (ad 0)), (2, .int v2)]) dX11_lay_103 rfl ki_1 (by decide) rfl ?_
    refine x_goto X (tgt := 70) dX11_lay_106 (by decide) ?_
    refine x_sub X [1, 0] (lv' := [(0, .ref (ad 0)), (1, .int (v1 + 1))]) rfl ?_
    exact hK70 _ _ _ h
  · have h := h.2 hc
    refine x_aload_n X dX11_lay_91 rfl 0 rfl ?_
    refine x_iload_n X dX11_lay_92 rfl 1 rfl ?_
    refine x_iload_n X dX11_lay_93 rfl 2 rfl ?_
    refine x_callVv X [.int v1, .int v2] [] dX11_lay_94 (kX11_layPosition h) cm_X11_layPosition ci_X11_layPosition w_7_167 dsM_0 ⟨by decide, by decide⟩ rfl (Nat.le_of_ble_eq_true rfl) (fun σ94 τ94 h => ?_)
    refine x_iinc X (k := 2) (lv' := [(2, .int (v2 + 1)), (0, .ref (ad 0)), (1, .int v1)]) dX11_lay_97 rfl ki_1 (by decide) rfl ?_
    refine x_goto X (tgt := 82) dX11_lay_100 (by decide) ?_
    refine x_sub X [1, 2, 0] (lv' := [(0, .ref (ad 0)), (1, .int v1), (2, .int (v2 + 1))]) rfl ?_
    exact hK82 _ _ _ _ h
set_option maxRecDepth 100000 in
set_option maxHeartbeats 4000000 in
theorem bX11_lay_151 {V : x_J} {ad : Nat → Nat} {Q : x_S → x_L → Prop} (X : x_Is V cX11_lay 3 RX11 (Option.none : Option Jvm.ClassFile.FieldType) ad dsM 5 (x_PV Q)) {K111 : Int32 → x_S → x_L → Prop} {K123 : Int32 → Int32 → x_S → x_L → Prop} (hK111 : ∀ v1 σ τ, K111 v1 σ τ → V σ τ 111 [(0, .ref (ad 0)), (1, .int v1)] []) (hK123 : ∀ v1 v2 σ τ, K123 v1 v2 σ τ → V σ τ 123 [(0, .ref (ad 0)), (1, .int v1), (2, .int v2)] []) {v1 : Int32} {v2 : Int32} {σ : x_S} {τ : x_L} (h : wX11_lay_151 K111 K123 Q v1 v2 σ τ) : V σ τ 151 [(0, .ref (ad 0)), (1, .int v1), (2, .int v2)] [] := by
  refine x_iinc X (k := 2) (lv' := [(2, .int (v2 + 1)), (0, .ref (ad 0)), (1, .int v1)]) dX11_lay_151 rfl ki_1 (by decide) rfl ?_
  refine x_goto X (tgt := 123) dX11_lay_154 (by decide) ?_
  refine x_sub X [1, 2, 0] (lv' := [(0, .ref (ad 0)), (1, .int v1), (2, .int (v2 + 1))]) rfl ?_
  exact hK123 _ _ _ _ h
set_option maxRecDepth 100000 in
set_option maxHeartbeats 4000000 in
theorem bX11_lay_123 {V : x_J} {ad : Nat → Nat} {Q : x_S → x_L → Prop} (X : x_Is V cX11_lay 3 RX11 (Option.none : Option Jvm.ClassFile.FieldType) ad dsM 5 (x_PV Q)) {K111 : Int32 → x_S → x_L → Prop} {K123 : Int32 → Int32 → x_S → x_L → Prop} (hK111 : ∀ v1 σ τ, K111 v1 σ τ → V σ τ 111 [(0, .ref (ad 0)), (1, .int v1)] []) (hK123 : ∀ v1 v2 σ τ, K123 v1 v2 σ τ → V σ τ 123 [(0, .ref (ad 0)), (1, .int v1), (2, .int v2)] []) {v1 : Int32} {v2 : Int32} {σ : x_S} {τ : x_L} (h : wX11_lay_123 K111 Q K123 v1 v2 σ τ) : V σ τ 123 [(0, .ref (ad 0)), (1, .int v1), (2, .int v2)] [] := by
  refine x_iload_n X dX11_lay_123 rfl 2 rfl ?_
  refine x_aload_n X dX11_lay_124 rfl 0 rfl ?_
  refine x_iload_n X dX11_lay_125 rfl 1 rfl ?_
  refine x_callVi X [.int v1] [.int v2] dX11_lay_126 (kX11_placesOf h) cm_X11_placesOf ci_X11_placesOf w_7_109 dsM_0 ⟨by decide, by decide⟩ rfl (Nat.le_of_ble_eq_true rfl) (fun r126 σ126 τ126 h => ?_)
  refine x_icmp_ge X 157 dX11_lay_129 (by decide) (fun hc => ?_) (fun hc => ?_)
  · have h := h.1 hc
    refine x_iinc X (k := 1) (lv' := [(1, .int (v1 + 1)), (0, .ref (ad 0)), (2, .int v2)]) dX11_lay_157 rfl ki_1 (by decide) rfl ?_
    refine x_goto X (tgt := 111) dX11_lay_160 (by decide) ?_
    refine x_sub X [1, 0] (lv' := [(0, .ref (ad 0)), (1, .int (v1 + 1))]) rfl ?_
    exact hK111 _ _ _ h
  · have h := h.2 hc
    refine x_aload_n X dX11_lay_132 rfl 0 rfl ?_
    refine x_getR X (j := 9) dX11_lay_133 fl_11_35 dsM_0 rfl ?_
    refine x_iload_n X dX11_lay_136 rfl 1 rfl ?_
    refine x_iload_n X dX11_lay_137 rfl 2 rfl ?_
    refine x_callSi X [.int v1, .int v2] [.ref (ad 9)] dX11_lay_138 (kX11_spot h) cm_X11_spot w_7_118 rfl w_7_117 ⟨by decide, by decide⟩ rfl (Nat.le_of_ble_eq_true rfl) (fun r138 σ138 τ138 h => ?_)
    have g141 := h.1
    have h := h.2
    refine x_iald X dX11_lay_141 dsM_9 g141 ?_
    refine x_if_ne X 151 dX11_lay_142 (by decide) (fun hc => ?_) (fun hc => ?_)
    · have h := h.1 hc
      exact bX11_lay_151 X hK111 hK123 h
    · have h := h.2 hc
      refine x_aload_n X dX11_lay_145 rfl 0 rfl ?_
      refine x_iload_n X dX11_lay_146 rfl 1 rfl ?_
      refine x_iload_n X dX11_lay_147 rfl 2 rfl ?_
      refine x_callVv X [.int v1, .int v2] [] dX11_lay_148 (kX11_layPlatoon h) cm_X11_layPlatoon ci_X11_layPlatoon w_7_171 dsM_0 ⟨by decide, by decide⟩ rfl (Nat.le_of_ble_eq_true rfl) (fun σ148 τ148 h => ?_)
      exact bX11_lay_151 X hK111 hK123 h
set_option maxRecDepth 100000 in
set_option maxHeartbeats 4000000 in
theorem bX11_lay_111 {V : x_J} {ad : Nat → Nat} {Q : x_S → x_L → Prop} (X : x_Is V cX11_lay 3 RX11 (Option.none : Option Jvm.ClassFile.FieldType) ad dsM 5 (x_PV Q)) {K111 : Int32 → x_S → x_L → Prop} (hK111 : ∀ v1 σ τ, K111 v1 σ τ → V σ τ 111 [(0, .ref (ad 0)), (1, .int v1)] []) {v1 : Int32} {σ : x_S} {τ : x_L} (h : wX11_lay_111 Q K111 v1 σ τ) : V σ τ 111 [(0, .ref (ad 0)), (1, .int v1)] [] := by
  refine x_iload_n X dX11_lay_111 rfl 1 rfl ?_
  refine x_aload_n X dX11_lay_112 rfl 0 rfl ?_
  refine x_getR X (j := 3) dX11_lay_113 fl_11_17 dsM_0 rfl ?_
  refine x_iconst X dX11_lay_116 ki_1 ?_
  refine x_iald X dX11_lay_117 dsM_3 (x_inl (by decide)) ?_
  refine x_icmp_ge X 163 dX11_lay_118 (by decide) (fun hc => ?_) (fun hc => ?_)
  · have h := h.1 hc
    exact x_vret X dX11_lay_163 ⟨rfl, h⟩
  · have h := h.2 hc
    refine x_iconst X dX11_lay_121 ki_0 ?_
    refine x_istore_n X (lv' := [(2, .int 0), (0, .ref (ad 0)), (1, .int v1)]) dX11_lay_122 rfl (by decide) rfl ?_
    refine x_sub X [1, 2, 0] (lv' := [(0, .ref (ad 0)), (1, .int v1), (2, .int 0)]) rfl ?_
    exact x_l2_G (fun v1 v2 σ τ => V σ τ 123 [(0, .ref (ad 0)), (1, .int v1), (2, .int v2)] []) (fun K123 hK123 v1 v2 σ τ h => bX11_lay_123 X hK111 hK123 h) h
set_option maxRecDepth 100000 in
set_option maxHeartbeats 4000000 in
theorem bX11_lay_70 {V : x_J} {ad : Nat → Nat} {Q : x_S → x_L → Prop} (X : x_Is V cX11_lay 3 RX11 (Option.none : Option Jvm.ClassFile.FieldType) ad dsM 5 (x_PV Q)) {K70 : Int32 → x_S → x_L → Prop} (hK70 : ∀ v1 σ τ, K70 v1 σ τ → V σ τ 70 [(0, .ref (ad 0)), (1, .int v1)] []) {v1 : Int32} {σ : x_S} {τ : x_L} (h : wX11_lay_70 Q K70 v1 σ τ) : V σ τ 70 [(0, .ref (ad 0)), (1, .int v1)] [] := by
  refine x_iload_n X dX11_lay_70 rfl 1 rfl ?_
  refine x_aload_n X dX11_lay_71 rfl 0 rfl ?_
  refine x_getR X (j := 3) dX11_lay_72 fl_11_17 dsM_0 rfl ?_
  refine x_iconst X dX11_lay_75 ki_1 ?_
  refine x_iald X dX11_lay_76 dsM_3 (x_inl (by decide)) ?_
  refine x_icmp_ge X 109 dX11_lay_77 (by decide) (fun hc => ?_) (fun hc => ?_)
  · have h := h.1 hc
    refine x_iconst X dX11_lay_109 ki_0 ?_
    refine x_istore_n X (lv' := [(1, .int 0), (0, .ref (ad 0))]) dX11_lay_110 rfl (by decide) rfl ?_
    refine x_sub X [1, 0] (lv' := [(0, .ref (ad 0)), (1, .int 0)]) rfl ?_
    exact x_l1_G (fun v1 σ τ => V σ τ 111 [(0, .ref (ad 0)), (1, .int v1)] []) (fun K111 hK111 v1 σ τ h => bX11_lay_111 X hK111 h) h
  · have h := h.2 hc
    refine x_iconst X dX11_lay_80 ki_0 ?_
    refine x_istore_n X (lv' := [(2, .int 0), (0, .ref (ad 0)), (1, .int v1)]) dX11_lay_81 rfl (by decide) rfl ?_
    refine x_sub X [1, 2, 0] (lv' := [(0, .ref (ad 0)), (1, .int v1), (2, .int 0)]) rfl ?_
    exact x_l2_G (fun v1 v2 σ τ => V σ τ 82 [(0, .ref (ad 0)), (1, .int v1), (2, .int v2)] []) (fun K82 hK82 v1 v2 σ τ h => bX11_lay_82 X hK70 hK82 h) h
set_option maxRecDepth 100000 in
set_option maxHeartbeats 4000000 in
theorem bX11_lay_29 {V : x_J} {ad : Nat → Nat} {Q : x_S → x_L → Prop} (X : x_Is V cX11_lay 3 RX11 (Option.none : Option Jvm.ClassFile.FieldType) ad dsM 5 (x_PV Q)) {K29 : Int32 → x_S → x_L → Prop} (hK29 : ∀ v1 σ τ, K29 v1 σ τ → V σ τ 29 [(0, .ref (ad 0)), (1, .int v1)] []) {v1 : Int32} {σ : x_S} {τ : x_L} (h : wX11_lay_29 Q K29 v1 σ τ) : V σ τ 29 [(0, .ref (ad 0)), (1, .int v1)] [] := by
  refine x_iload_n X dX11_lay_29 rfl 1 rfl ?_
  refine x_aload_n X dX11_lay_30 rfl 0 rfl ?_
  refine x_getR X (j := 3) dX11_lay_31 fl_11_17 dsM_0 rfl ?_
  refine x_iconst X dX11_lay_34 ki_1 ?_
  refine x_iald X dX11_lay_35 dsM_3 (x_inl (by decide)) ?_
  refine x_icmp_ge X 68 dX11_lay_36 (by decide) (fun hc => ?_) (fun hc => ?_)
  · have h := h.1 hc
    refine x_iconst X dX11_lay_68 ki_0 ?_
    refine x_istore_n X (lv' := [(1, .int 0), (0, .ref (ad 0))]) dX11_lay_69 rfl (by decide) rfl ?_
    refine x_sub X [1, 0] (lv' := [(0, .ref (ad 0)), (1, .int 0)]) rfl ?_
    exact x_l1_G (fun v1 σ τ => V σ τ 70 [(0, .ref (ad 0)), (1, .int v1)] []) (fun K70 hK70 v1 σ τ h => bX11_lay_70 X hK70 h) h
  · have h := h.2 hc
    refine x_iconst X dX11_lay_39 ki_0 ?_
    refine x_istore_n X (lv' := [(2, .int 0), (0, .ref (ad 0)), (1, .int v1)]) dX11_lay_40 rfl (by decide) rfl ?_
    refine x_sub X [1, 2, 0] (lv' := [(0, .ref (ad 0)), (1, .int v1), (2, .int 0)]) rfl ?_
    exact x_l2_G (fun v1 v2 σ τ => V σ τ 41 [(0, .ref (ad 0)), (1, .int v1), (2, .int v2)] []) (fun K41 hK41 v1 v2 σ τ h => bX11_lay_41 X hK29 hK41 h) h
set_option maxRecDepth 100000 in
set_option maxHeartbeats 4000000 in
theorem bX11_lay_2 {V : x_J} {ad : Nat → Nat} {Q : x_S → x_L → Prop} (X : x_Is V cX11_lay 3 RX11 (Option.none : Option Jvm.ClassFile.FieldType) ad dsM 5 (x_PV Q)) {K2 : Int32 → x_S → x_L → Prop} (hK2 : ∀ v1 σ τ, K2 v1 σ τ → V σ τ 2 [(0, .ref (ad 0)), (1, .int v1)] []) {v1 : Int32} {σ : x_S} {τ : x_L} (h : wX11_lay_2 Q K2 v1 σ τ) : V σ τ 2 [(0, .ref (ad 0)), (1, .int v1)] [] := by
  refine x_iload_n X dX11_lay_2 rfl 1 rfl ?_
  refine x_aload_n X dX11_lay_3 rfl 0 rfl ?_
  refine x_getR X (j := 3) dX11_lay_4 fl_11_17 dsM_0 rfl ?_
  refine x_iconst X dX11_lay_7 ki_1 ?_
  refine x_iald X dX11_lay_8 dsM_3 (x_inl (by decide)) ?_
  refine x_icmp_ge X 23 dX11_lay_9 (by decide) (fun hc => ?_) (fun hc => ?_)
  · have h := h.1 hc
    refine x_aload_n X dX11_lay_23 rfl 0 rfl ?_
    refine x_callVv X [] [] dX11_lay_24 (kX11_layMates h) cm_X11_layMates ci_X11_layMates w_7_140 dsM_0 ⟨by decide, by decide⟩ rfl (Nat.le_of_ble_eq_true rfl) (fun σ24 τ24 h => ?_)
    refine x_iconst X dX11_lay_27 ki_0 ?_
    refine x_istore_n X (lv' := [(1, .int 0), (0, .ref (ad 0))]) dX11_lay_28 rfl (by decide) rfl ?_
    refine x_sub X [1, 0] (lv' := [(0, .ref (ad 0)), (1, .int 0)]) rfl ?_
    exact x_l1_G (fun v1 σ τ => V σ τ 29 [(0, .ref (ad 0)), (1, .int v1)] []) (fun K29 hK29 v1 σ τ h => bX11_lay_29 X hK29 h) h
  · have h := h.2 hc
    refine x_aload_n X dX11_lay_12 rfl 0 rfl ?_
    refine x_iload_n X dX11_lay_13 rfl 1 rfl ?_
    refine x_callVv X [.int v1] [] dX11_lay_14 (kX11_layTimes h) cm_X11_layTimes ci_X11_layTimes w_7_105 dsM_0 ⟨by decide, by decide⟩ rfl (Nat.le_of_ble_eq_true rfl) (fun σ14 τ14 h => ?_)
    refine x_iinc X (k := 1) (lv' := [(1, .int (v1 + 1)), (0, .ref (ad 0))]) dX11_lay_17 rfl ki_1 (by decide) rfl ?_
    refine x_goto X (tgt := 2) dX11_lay_20 (by decide) ?_
    refine x_sub X [1, 0] (lv' := [(0, .ref (ad 0)), (1, .int (v1 + 1))]) rfl ?_
    exact hK2 _ _ _ h
set_option maxRecDepth 100000 in
set_option maxHeartbeats 4000000 in
theorem kX11_lay {ad : Nat → Nat} {σ : x_S} {τ : x_L} {Q : x_S → x_L → Prop} (h : wX11_lay σ τ Q) : x_Met yX11_lay cX11_lay 3 (Option.none : Option Jvm.ClassFile.FieldType) 5 ad dsM [.ref (ad 0)] σ τ (x_PV Q) := by
  refine x_met (by decide +kernel) (Nat.le_of_ble_eq_true rfl) (fun V X => ?_)
  have X : x_Is V cX11_lay 3 RX11 (Option.none : Option Jvm.ClassFile.FieldType) ad dsM 5 (x_PV Q) := X
  show V σ τ 0 [(0, .ref (ad 0))] []
  refine x_iconst X dX11_lay_0 ki_0 ?_
  refine x_istore_n X (lv' := [(1, .int 0), (0, .ref (ad 0))]) dX11_lay_1 rfl (by decide) rfl ?_
  refine x_sub X [1, 0] (lv' := [(0, .ref (ad 0)), (1, .int 0)]) rfl ?_
  exact x_l1_G (fun v1 σ τ => V σ τ 2 [(0, .ref (ad 0)), (1, .int v1)] []) (fun K2 hK2 v1 σ τ h => bX11_lay_2 X hK2 h) h
theorem dX11_fuelAt_0 : decode cX11_fuelAt 0 = .ok (.aload_n 0, 1) := by decide +kernel
theorem dX11_fuelAt_1 : decode cX11_fuelAt 1 = .ok (.iload_n 1, 1) := by decide +kernel
theorem dX11_fuelAt_2 : decode cX11_fuelAt 2 = .ok (.iload_n 2, 1) := by decide +kernel
theorem dX11_fuelAt_3 : decode cX11_fuelAt 3 = .ok (.invokevirtual 151, 3) := by decide +kernel
theorem dX11_fuelAt_6 : decode cX11_fuelAt 6 = .ok (.aload_n 0, 1) := by decide +kernel
theorem dX11_fuelAt_7 : decode cX11_fuelAt 7 = .ok (.getfield 41, 3) := by decide +kernel
theorem dX11_fuelAt_10 : decode cX11_fuelAt 10 = .ok (.iload_n 1, 1) := by decide +kernel
theorem dX11_fuelAt_11 : decode cX11_fuelAt 11 = .ok (.iload_n 2, 1) := by decide +kernel
theorem dX11_fuelAt_12 : decode cX11_fuelAt 12 = .ok (.invokestatic 111, 3) := by decide +kernel
theorem dX11_fuelAt_15 : decode cX11_fuelAt 15 = .ok (.iaload, 1) := by decide +kernel
theorem dX11_fuelAt_16 : decode cX11_fuelAt 16 = .ok (.isub, 1) := by decide +kernel
theorem dX11_fuelAt_17 : decode cX11_fuelAt 17 = .ok (.aload_n 0, 1) := by decide +kernel
theorem dX11_fuelAt_18 : decode cX11_fuelAt 18 = .ok (.getfield 44, 3) := by decide +kernel
theorem dX11_fuelAt_21 : decode cX11_fuelAt 21 = .ok (.iload_n 1, 1) := by decide +kernel
theorem dX11_fuelAt_22 : decode cX11_fuelAt 22 = .ok (.iload_n 2, 1) := by decide +kernel
theorem dX11_fuelAt_23 : decode cX11_fuelAt 23 = .ok (.invokestatic 111, 3) := by decide +kernel
theorem dX11_fuelAt_26 : decode cX11_fuelAt 26 = .ok (.baload, 1) := by decide +kernel
theorem dX11_fuelAt_27 : decode cX11_fuelAt 27 = .ok (.ifCond .eq 9, 3) := by decide +kernel
theorem dX11_fuelAt_30 : decode cX11_fuelAt 30 = .ok (.sipush 300, 3) := by decide +kernel
theorem dX11_fuelAt_33 : decode cX11_fuelAt 33 = .ok (.goto 4, 3) := by decide +kernel
theorem dX11_fuelAt_36 : decode cX11_fuelAt 36 = .ok (.iconst 0, 1) := by decide +kernel
theorem dX11_fuelAt_37 : decode cX11_fuelAt 37 = .ok (.iadd, 1) := by decide +kernel
theorem dX11_fuelAt_38 : decode cX11_fuelAt 38 = .ok (.ireturn, 1) := by decide +kernel
theorem cm_X11_fuelAt : x_CM yX11_fuelAt cX11_fuelAt 3 (Option.some FieldType.int) 2 := ⟨w_8_1, w_1_12, by decide +kernel, by decide +kernel⟩
theorem ci_X11_fuelAt : x_CI yX11_fuelAt 13 := ⟨w_8_0, wp_74, (RX11, TX11, 41), rfl, rfl⟩
set_option maxRecDepth 100000 in
set_option maxHeartbeats 4000000 in
theorem bX11_fuelAt_37 {V : x_J} {ad : Nat → Nat} {Q : Int32 → x_S → x_L → Prop} (X : x_Is V cX11_fuelAt 3 RX11 (Option.some FieldType.int) ad dsM 3 (x_PI Q)) {s0 : Int32} {s1 : Int32} {σ : x_S} {τ : x_L} (h : wX11_fuelAt_37 Q s0 s1 σ τ) : V σ τ 37 [] [.int s1, .int s0] := by
  refine x_iadd X dX11_fuelAt_37 ?_
  exact x_iret X dX11_fuelAt_38 ⟨_, rfl, h⟩
set_option maxRecDepth 100000 in
set_option maxHeartbeats 4000000 in
theorem kX11_fuelAt {ad : Nat → Nat} {a1 : Int32} {a2 : Int32} {σ : x_S} {τ : x_L} {Q : Int32 → x_S → x_L → Prop} (h : wX11_fuelAt a1 a2 σ τ Q) : x_Met yX11_fuelAt cX11_fuelAt 3 (Option.some FieldType.int) 3 ad dsM [.ref (ad 0), .int a1, .int a2] σ τ (x_PI Q) := by
  refine x_met (by decide +kernel) (Nat.le_of_ble_eq_true rfl) (fun V X => ?_)
  have X : x_Is V cX11_fuelAt 3 RX11 (Option.some FieldType.int) ad dsM 3 (x_PI Q) := X
  show V σ τ 0 [(0, .ref (ad 0)), (1, .int a1), (2, .int a2)] []
  refine x_aload_n X dX11_fuelAt_0 rfl 0 rfl ?_
  refine x_iload_n X dX11_fuelAt_1 rfl 1 rfl ?_
  refine x_iload_n X dX11_fuelAt_2 rfl 2 rfl ?_
  refine x_callVi X [.int a1, .int a2] [] dX11_fuelAt_3 (kX11_baseAt h) cm_X11_baseAt ci_X11_baseAt w_7_191 dsM_0 ⟨by decide, by decide⟩ rfl (Nat.le_of_ble_eq_true rfl) (fun r3 σ3 τ3 h => ?_)
  refine x_aload_n X dX11_fuelAt_6 rfl 0 rfl ?_
  refine x_getR X (j := 11) dX11_fuelAt_7 fl_11_41 dsM_0 rfl ?_
  refine x_iload_n X dX11_fuelAt_10 rfl 1 rfl ?_
  refine x_iload_n X dX11_fuelAt_11 rfl 2 rfl ?_
  refine x_callSi X [.int a1, .int a2] [.ref (ad 11), .int r3] dX11_fuelAt_12 (kX11_spot h) cm_X11_spot w_7_118 rfl w_7_117 ⟨by decide, by decide⟩ rfl (Nat.le_of_ble_eq_true rfl) (fun r12 σ12 τ12 h => ?_)
  have g15 := h.1
  have h := h.2
  refine x_iald X dX11_fuelAt_15 dsM_11 g15 ?_
  refine x_isub X dX11_fuelAt_16 ?_
  refine x_aload_n X dX11_fuelAt_17 rfl 0 rfl ?_
  refine x_getR X (j := 12) dX11_fuelAt_18 fl_11_44 dsM_0 rfl ?_
  refine x_iload_n X dX11_fuelAt_21 rfl 1 rfl ?_
  refine x_iload_n X dX11_fuelAt_22 rfl 2 rfl ?_
  refine x_callSi X [.int a1, .int a2] [.ref (ad 12), .int (r3 - (σ12 11 r12.toNatClampNeg))] dX11_fuelAt_23 (kX11_spot h) cm_X11_spot w_7_118 rfl w_7_117 ⟨by decide, by decide⟩ rfl (Nat.le_of_ble_eq_true rfl) (fun r23 σ23 τ23 h => ?_)
  have g26 := h.1
  have h := h.2
  refine x_zald X dX11_fuelAt_26 dsM_12 g26 ?_
  refine x_if_eq X 36 dX11_fuelAt_27 (by decide) (fun hc => ?_) (fun hc => ?_)
  · have h := h.1 hc
    refine x_iconst X dX11_fuelAt_36 ki_0 ?_
    refine x_sub X [] (lv' := []) rfl ?_
    exact bX11_fuelAt_37 X h
  · have h := h.2 hc
    refine x_sipush X dX11_fuelAt_30 ks_300 ?_
    refine x_goto X (tgt := 37) dX11_fuelAt_33 (by decide) ?_
    refine x_sub X [] (lv' := []) rfl ?_
    exact bX11_fuelAt_37 X h
theorem dX11_sumOf_0 : decode cX11_sumOf 0 = .ok (.iconst 0, 1) := by decide +kernel
theorem dX11_sumOf_1 : decode cX11_sumOf 1 = .ok (.istore_n 3, 1) := by decide +kernel
theorem dX11_sumOf_2 : decode cX11_sumOf 2 = .ok (.iconst 0, 1) := by decide +kernel
theorem dX11_sumOf_3 : decode cX11_sumOf 3 = .ok (.istore 4, 2) := by decide +kernel
theorem dX11_sumOf_5 : decode cX11_sumOf 5 = .ok (.iload 4, 2) := by decide +kernel
theorem dX11_sumOf_7 : decode cX11_sumOf 7 = .ok (.aload_n 0, 1) := by decide +kernel
theorem dX11_sumOf_8 : decode cX11_sumOf 8 = .ok (.iload_n 1, 1) := by decide +kernel
theorem dX11_sumOf_9 : decode cX11_sumOf 9 = .ok (.invokevirtual 107, 3) := by decide +kernel
theorem dX11_sumOf_12 : decode cX11_sumOf 12 = .ok (.if_icmp .ge 125, 3) := by decide +kernel
theorem dX11_sumOf_15 : decode cX11_sumOf 15 = .ok (.iload_n 1, 1) := by decide +kernel
theorem dX11_sumOf_16 : decode cX11_sumOf 16 = .ok (.iload 4, 2) := by decide +kernel
theorem dX11_sumOf_18 : decode cX11_sumOf 18 = .ok (.invokestatic 111, 3) := by decide +kernel
theorem dX11_sumOf_21 : decode cX11_sumOf 21 = .ok (.istore 5, 2) := by decide +kernel
theorem dX11_sumOf_23 : decode cX11_sumOf 23 = .ok (.iload_n 2, 1) := by decide +kernel
theorem dX11_sumOf_24 : decode cX11_sumOf 24 = .ok (.tableswitch 92 0 3 #[32, 45, 58, 79], 32) := by decide +kernel
theorem dX11_sumOf_56 : decode cX11_sumOf 56 = .ok (.iload_n 3, 1) := by decide +kernel
theorem dX11_sumOf_57 : decode cX11_sumOf 57 = .ok (.aload_n 0, 1) := by decide +kernel
theorem dX11_sumOf_58 : decode cX11_sumOf 58 = .ok (.iload_n 1, 1) := by decide +kernel
theorem dX11_sumOf_59 : decode cX11_sumOf 59 = .ok (.iload 4, 2) := by decide +kernel
theorem dX11_sumOf_61 : decode cX11_sumOf 61 = .ok (.invokevirtual 188, 3) := by decide +kernel
theorem dX11_sumOf_64 : decode cX11_sumOf 64 = .ok (.iadd, 1) := by decide +kernel
theorem dX11_sumOf_65 : decode cX11_sumOf 65 = .ok (.istore_n 3, 1) := by decide +kernel
theorem dX11_sumOf_66 : decode cX11_sumOf 66 = .ok (.goto 65, 3) := by decide +kernel
theorem dX11_sumOf_69 : decode cX11_sumOf 69 = .ok (.iload_n 3, 1) := by decide +kernel
theorem dX11_sumOf_70 : decode cX11_sumOf 70 = .ok (.aload_n 0, 1) := by decide +kernel
theorem dX11_sumOf_71 : decode cX11_sumOf 71 = .ok (.getfield 41, 3) := by decide +kernel
theorem dX11_sumOf_74 : decode cX11_sumOf 74 = .ok (.iload 5, 2) := by decide +kernel
theorem dX11_sumOf_76 : decode cX11_sumOf 76 = .ok (.iaload, 1) := by decide +kernel
theorem dX11_sumOf_77 : decode cX11_sumOf 77 = .ok (.iadd, 1) := by decide +kernel
theorem dX11_sumOf_78 : decode cX11_sumOf 78 = .ok (.istore_n 3, 1) := by decide +kernel
theorem dX11_sumOf_79 : decode cX11_sumOf 79 = .ok (.goto 52, 3) := by decide +kernel
theorem dX11_sumOf_82 : decode cX11_sumOf 82 = .ok (.iload_n 3, 1) := by decide +kernel
theorem dX11_sumOf_83 : decode cX11_sumOf 83 = .ok (.aload_n 0, 1) := by decide +kernel
theorem dX11_sumOf_84 : decode cX11_sumOf 84 = .ok (.getfield 44, 3) := by decide +kernel
theorem dX11_sumOf_87 : decode cX11_sumOf 87 = .ok (.iload 5, 2) := by decide +kernel
theorem dX11_sumOf_89 : decode cX11_sumOf 89 = .ok (.baload, 1) := by decide +kernel
theorem dX11_sumOf_90 : decode cX11_sumOf 90 = .ok (.ifCond .eq 7, 3) := by decide +kernel
theorem dX11_sumOf_93 : decode cX11_sumOf 93 = .ok (.iconst 1, 1) := by decide +kernel
theorem dX11_sumOf_94 : decode cX11_sumOf 94 = .ok (.goto 4, 3) := by decide +kernel
theorem dX11_sumOf_97 : decode cX11_sumOf 97 = .ok (.iconst 0, 1) := by decide +kernel
theorem dX11_sumOf_98 : decode cX11_sumOf 98 = .ok (.iadd, 1) := by decide +kernel
theorem dX11_sumOf_99 : decode cX11_sumOf 99 = .ok (.istore_n 3, 1) := by decide +kernel
theorem dX11_sumOf_100 : decode cX11_sumOf 100 = .ok (.goto 31, 3) := by decide +kernel
theorem dX11_sumOf_103 : decode cX11_sumOf 103 = .ok (.iload_n 3, 1) := by decide +kernel
theorem dX11_sumOf_104 : decode cX11_sumOf 104 = .ok (.aload_n 0, 1) := by decide +kernel
theorem dX11_sumOf_105 : decode cX11_sumOf 105 = .ok (.iload_n 1, 1) := by decide +kernel
theorem dX11_sumOf_106 : decode cX11_sumOf 106 = .ok (.iload 4, 2) := by decide +kernel
theorem dX11_sumOf_108 : decode cX11_sumOf 108 = .ok (.invokevirtual 151, 3) := by decide +kernel
theorem dX11_sumOf_111 : decode cX11_sumOf 111 = .ok (.iadd, 1) := by decide +kernel
theorem dX11_sumOf_112 : decode cX11_sumOf 112 = .ok (.istore_n 3, 1) := by decide +kernel
theorem dX11_sumOf_113 : decode cX11_sumOf 113 = .ok (.goto 18, 3) := by decide +kernel
theorem dX11_sumOf_116 : decode cX11_sumOf 116 = .ok (.iload_n 3, 1) := by decide +kernel
theorem dX11_sumOf_117 : decode cX11_sumOf 117 = .ok (.aload_n 0, 1) := by decide +kernel
theorem dX11_sumOf_118 : decode cX11_sumOf 118 = .ok (.aload_n 0, 1) := by decide +kernel
theorem dX11_sumOf_119 : decode cX11_sumOf 119 = .ok (.iload_n 1, 1) := by decide +kernel
theorem dX11_sumOf_120 : decode cX11_sumOf 120 = .ok (.iload 4, 2) := by decide +kernel
theorem dX11_sumOf_122 : decode cX11_sumOf 122 = .ok (.invokevirtual 114, 3) := by decide +kernel
theorem dX11_sumOf_125 : decode cX11_sumOf 125 = .ok (.iconst 2, 1) := by decide +kernel
theorem dX11_sumOf_126 : decode cX11_sumOf 126 = .ok (.invokevirtual 117, 3) := by decide +kernel
theorem dX11_sumOf_129 : decode cX11_sumOf 129 = .ok (.iadd, 1) := by decide +kernel
theorem dX11_sumOf_130 : decode cX11_sumOf 130 = .ok (.istore_n 3, 1) := by decide +kernel
theorem dX11_sumOf_131 : decode cX11_sumOf 131 = .ok (.iinc 4 1, 3) := by decide +kernel
theorem dX11_sumOf_134 : decode cX11_sumOf 134 = .ok (.goto (-129), 3) := by decide +kernel
theorem dX11_sumOf_137 : decode cX11_sumOf 137 = .ok (.iload_n 3, 1) := by decide +kernel
theorem dX11_sumOf_138 : decode cX11_sumOf 138 = .ok (.ireturn, 1) := by decide +kernel
theorem cm_X11_sumOf : x_CM yX11_sumOf cX11_sumOf 6 (Option.some FieldType.int) 2 := ⟨w_7_237, w_1_12, by decide +kernel, by decide +kernel⟩
theorem ci_X11_sumOf : x_CI yX11_sumOf 13 := ⟨w_7_236, wp_73, (RX11, TX11, 41), rfl, rfl⟩
set_option maxRecDepth 100000 in
set_option maxHeartbeats 4000000 in
theorem bX11_sumOf_131 {V : x_J} {ad : Nat → Nat} {Q : Int32 → x_S → x_L → Prop} (X : x_Is V cX11_sumOf 6 RX11 (Option.some FieldType.int) ad dsM 4 (x_PI Q)) {K5 : Int32 → Int32 → Int32 → Int32 → x_S → x_L → Prop} (hK5 : ∀ v1 v2 v3 v4 σ τ, K5 v1 v2 v3 v4 σ τ → V σ τ 5 [(0, .ref (ad 0)), (1, .int v1), (2, .int v2), (3, .int v3), (4, .int v4)] []) {v1 : Int32} {v2 : Int32} {v3 : Int32} {v4 : Int32} {σ : x_S} {τ : x_L} (h : wX11_sumOf_131 K5 Q v1 v2 v3 v4 σ τ) : V σ τ 131 [(0, .ref (ad 0)), (1, .int v1), (2, .int v2), (3, .int v3), (4, .int v4)] [] := by
  refine x_iinc X (k := 4) (lv' := [(4, .int (v4 + 1)), (0, .ref (ad 0)), (1, .int v1), (2, .int v2), (3, .int v3)]) dX11_sumOf_131 rfl ki_1 (by decide) rfl ?_
  refine x_goto X (tgt := 5) dX11_sumOf_134 (by decide) ?_
  refine x_sub X [1, 2, 3, 4, 0] (lv' := [(0, .ref (ad 0)), (1, .int v1), (2, .int v2), (3, .int v3), (4, .int (v4 + 1))]) rfl ?_
  exact hK5 _ _ _ _ _ _ h
set_option maxRecDepth 100000 in
set_option maxHeartbeats 4000000 in
theorem bX11_sumOf_98 {V : x_J} {ad : Nat → Nat} {Q : Int32 → x_S → x_L → Prop} (X : x_Is V cX11_sumOf 6 RX11 (Option.some FieldType.int) ad dsM 4 (x_PI Q)) {K5 : Int32 → Int32 → Int32 → Int32 → x_S → x_L → Prop} (hK5 : ∀ v1 v2 v3 v4 σ τ, K5 v1 v2 v3 v4 σ τ → V σ τ 5 [(0, .ref (ad 0)), (1, .int v1), (2, .int v2), (3, .int v3), (4, .int v4)] []) {v1 : Int32} {v2 : Int32} {v4 : Int32} {s0 : Int32} {s1 : Int32} {σ : x_S} {τ : x_L} (h : wX11_sumOf_98 K5 Q v1 v2 v4 s0 s1 σ τ) : V σ τ 98 [(0, .ref (ad 0)), (1, .int v1), (2, .int v2), (4, .int v4)] [.int s1, .int s0] := by
  refine x_iadd X dX11_sumOf_98 ?_
  refine x_istore_n X (lv' := [(3, .int (s0 + s1)), (0, .ref (ad 0)), (1, .int v1), (2, .int v2), (4, .int v4)]) dX11_sumOf_99 rfl (by decide) rfl ?_
  refine x_goto X (tgt := 131) dX11_sumOf_100 (by decide) ?_
  refine x_sub X [1, 2, 3, 0, 4] (lv' := [(0, .ref (ad 0)), (1, .int v1), (2, .int v2), (3, .int (s0 + s1)), (4, .int v4)]) rfl ?_
  exact bX11_sumOf_131 X hK5 h
set_option maxRecDepth 100000 in
set_option maxHeartbeats 4000000 in
theorem bX11_sumOf_5 {V : x_J} {ad : Nat → Nat} {Q : Int32 → x_S → x_L → Prop} (X : x_Is V cX11_sumOf 6 RX11 (Option.some FieldType.int) ad dsM 4 (x_PI Q)) {K5 : Int32 → Int32 → Int32 → Int32 → x_S → x_L → Prop} (hK5 : ∀ v1 v2 v3 v4 σ τ, K5 v1 v2 v3 v4 σ τ → V σ τ 5 [(0, .ref (ad 0)), (1, .int v1), (2, .int v2), (3, .int v3), (4, .int v4)] []) {v1 : Int32} {v2 : Int32} {v3 : Int32} {v4 : Int32} {σ : x_S} {τ : x_L} (h : wX11_sumOf_5 Q K5 v1 v2 v3 v4 σ τ) : V σ τ 5 [(0, .ref (ad 0)), (1, .int v1), (2, .int v2), (3, .int v3), (4, .int v4)] [] := by
  refine x_iload X dX11_sumOf_5 4 rfl ?_
  refine x_aload_n X dX11_sumOf_7 rfl 0 rfl ?_
  refine x_iload_n X dX11_sumOf_8 rfl 1 rfl ?_
  refine x_callVi X [.int v1] [.int v4] dX11_sumOf_9 (kX11_placesOf h) cm_X11_placesOf ci_X11_placesOf w_7_109 dsM_0 ⟨by decide, by decide⟩ rfl (Nat.le_of_ble_eq_true rfl) (fun r9 σ9 τ9 h => ?_)
  refine x_icmp_ge X 137 dX11_sumOf_12 (by decide) (fun hc => ?_) (fun hc => ?_)
  · have h := h.1 hc
    refine x_iload_n X dX11_sumOf_137 rfl 3 rfl ?_
    exact x_iret X dX11_sumOf_138 ⟨_, rfl, h⟩
  · have h := h.2 hc
    refine x_iload_n X dX11_sumOf_15 rfl 1 rfl ?_
    refine x_iload X dX11_sumOf_16 4 rfl ?_
    refine x_callSi X [.int v1, .int v4] [] dX11_sumOf_18 (kX11_spot h) cm_X11_spot w_7_118 rfl w_7_117 ⟨by decide, by decide⟩ rfl (Nat.le_of_ble_eq_true rfl) (fun r18 σ18 τ18 h => ?_)
    refine x_istore X (lv' := [(5, .int r18), (0, .ref (ad 0)), (1, .int v1), (2, .int v2), (3, .int v3), (4, .int v4)]) dX11_sumOf_21 (by decide) rfl ?_
    refine x_iload_n X dX11_sumOf_23 rfl 3 rfl ?_
    by_cases hc0 : v2 = 0
    · have h := h.1 hc0
      refine x_tin X 0 56 hc0 dX11_sumOf_24 (by decide) (by decide) (off := 32) (by decide) (by decide) ?_
      refine x_iload_n X dX11_sumOf_56 rfl 4 rfl ?_
      refine x_aload_n X dX11_sumOf_57 rfl 1 rfl ?_
      refine x_iload_n X dX11_sumOf_58 rfl 2 rfl ?_
      refine x_iload X dX11_sumOf_59 5 rfl ?_
      refine x_callVi X [.int v1, .int v4] [.int v3] dX11_sumOf_61 (kX11_fuelAt h) cm_X11_fuelAt ci_X11_fuelAt w_7_238 dsM_0 ⟨by decide, by decide⟩ rfl (Nat.le_of_ble_eq_true rfl) (fun r61 σ61 τ61 h => ?_)
      refine x_iadd X dX11_sumOf_64 ?_
      refine x_istore_n X (lv' := [(3, .int (v3 + r61)), (5, .int r18), (0, .ref (ad 0)), (1, .int v1), (2, .int v2), (4, .int v4)]) dX11_sumOf_65 rfl (by decide) rfl ?_
      refine x_goto X (tgt := 131) dX11_sumOf_66 (by decide) ?_
      refine x_sub X [2, 3, 4, 0, 5] (lv' := [(0, .ref (ad 0)), (1, .int v1), (2, .int v2), (3, .int (v3 + r61)), (4, .int v4)]) rfl ?_
      exact bX11_sumOf_131 X hK5 h
    have h := h.2
    by_cases hc1 : v2 = 1
    · have h := h.1 hc1
      refine x_tin X 1 69 hc1 dX11_sumOf_24 (by decide) (by decide) (off := 45) (by decide) (by decide) ?_
      refine x_iload_n X dX11_sumOf_69 rfl 4 rfl ?_
      refine x_aload_n X dX11_sumOf_70 rfl 1 rfl ?_
      refine x_getR X (j := 11) dX11_sumOf_71 fl_11_41 dsM_0 rfl ?_
      refine x_iload X dX11_sumOf_74 0 rfl ?_
      have g76 := h.1
      have h := h.2
      refine x_iald X dX11_sumOf_76 dsM_11 g76 ?_
      refine x_iadd X dX11_sumOf_77 ?_
      refine x_istore_n X (lv' := [(3, .int (v3 + (σ18 11 r18.toNatClampNeg))), (5, .int r18), (0, .ref (ad 0)), (1, .int v1), (2, .int v2), (4, .int v4)]) dX11_sumOf_78 rfl (by decide) rfl ?_
      refine x_goto X (tgt := 131) dX11_sumOf_79 (by decide) ?_
      refine x_sub X [2, 3, 4, 0, 5] (lv' := [(0, .ref (ad 0)), (1, .int v1), (2, .int v2), (3, .int (v3 + (σ18 11 r18.toNatClampNeg))), (4, .int v4)]) rfl ?_
      exact bX11_sumOf_131 X hK5 h
    have h := h.2
    by_cases hc2 : v2 = 2
    · have h := h.1 hc2
      refine x_tin X 2 82 hc2 dX11_sumOf_24 (by decide) (by decide) (off := 58) (by decide) (by decide) ?_
      refine x_iload_n X dX11_sumOf_82 rfl 4 rfl ?_
      refine x_aload_n X dX11_sumOf_83 rfl 1 rfl ?_
      refine x_getR X (j := 12) dX11_sumOf_84 fl_11_44 dsM_0 rfl ?_
      refine x_iload X dX11_sumOf_87 0 rfl ?_
      have g89 := h.1
      have h := h.2
      refine x_zald X dX11_sumOf_89 dsM_12 g89 ?_
      refine x_if_eq X 97 dX11_sumOf_90 (by decide) (fun hc => ?_) (fun hc => ?_)
      · have h := h.1 hc
        refine x_iconst X dX11_sumOf_97 ki_0 ?_
        refine x_sub X [1, 2, 3, 5] (lv' := [(0, .ref (ad 0)), (1, .int v1), (2, .int v2), (4, .int v4)]) rfl ?_
        exact bX11_sumOf_98 X hK5 h
      · have h := h.2 hc
        refine x_iconst X dX11_sumOf_93 ki_1 ?_
        refine x_goto X (tgt := 98) dX11_sumOf_94 (by decide) ?_
        refine x_sub X [1, 2, 3, 5] (lv' := [(0, .ref (ad 0)), (1, .int v1), (2, .int v2), (4, .int v4)]) rfl ?_
        exact bX11_sumOf_98 X hK5 h
    have h := h.2
    by_cases hc3 : v2 = 3
    · have h := h.1 hc3
      refine x_tin X 3 103 hc3 dX11_sumOf_24 (by decide) (by decide) (off := 79) (by decide) (by decide) ?_
      refine x_iload_n X dX11_sumOf_103 rfl 4 rfl ?_
      refine x_aload_n X dX11_sumOf_104 rfl 1 rfl ?_
      refine x_iload_n X dX11_sumOf_105 rfl 2 rfl ?_
      refine x_iload X dX11_sumOf_106 5 rfl ?_
      refine x_callVi X [.int v1, .int v4] [.int v3] dX11_sumOf_108 (kX11_baseAt h) cm_X11_baseAt ci_X11_baseAt w_7_191 dsM_0 ⟨by decide, by decide⟩ rfl (Nat.le_of_ble_eq_true rfl) (fun r108 σ108 τ108 h => ?_)
      refine x_iadd X dX11_sumOf_111 ?_
      refine x_istore_n X (lv' := [(3, .int (v3 + r108)), (5, .int r18), (0, .ref (ad 0)), (1, .int v1), (2, .int v2), (4, .int v4)]) dX11_sumOf_112 rfl (by decide) rfl ?_
      refine x_goto X (tgt := 131) dX11_sumOf_113 (by decide) ?_
      refine x_sub X [2, 3, 4, 0, 5] (lv' := [(0, .ref (ad 0)), (1, .int v1), (2, .int v2), (3, .int (v3 + r108)), (4, .int v4)]) rfl ?_
      exact bX11_sumOf_131 X hK5 h
    have h := h.2
    have he0 := x_toInt_ne (n := 0) hc0 (by decide)
    have he1 := x_toInt_ne (n := 1) hc1 (by decide)
    have he2 := x_toInt_ne (n := 2) hc2 (by decide)
    have he3 := x_toInt_ne (n := 3) hc3 (by decide)
    have h := h hc0 hc1 hc2 hc3
    refine x_tout X 116 dX11_sumOf_24 (by omega) (by decide) ?_
    refine x_iload_n X dX11_sumOf_116 rfl 4 rfl ?_
    refine x_aload_n X dX11_sumOf_117 rfl 1 rfl ?_
    refine x_aload_n X dX11_sumOf_118 rfl 1 rfl ?_
    refine x_iload_n X dX11_sumOf_119 rfl 2 rfl ?_
    refine x_iload X dX11_sumOf_120 5 rfl ?_
    refine x_callVi X [.int v1, .int v4] [.ref (ad 0), .int v3] dX11_sumOf_122 (kX11_roadAt h) cm_X11_roadAt ci_X11_roadAt w_7_124 dsM_0 ⟨by decide, by decide⟩ rfl (Nat.le_of_ble_eq_true rfl) (fun r122 σ122 τ122 h => ?_)
    refine x_iconst X dX11_sumOf_125 ki_2 ?_
    refine x_callVi X [.int r122, .int 2] [.int v3] dX11_sumOf_126 (kX11_ofRoad h) cm_X11_ofRoad ci_X11_ofRoad w_7_136 dsM_0 ⟨by decide, by decide⟩ rfl (Nat.le_of_ble_eq_true rfl) (fun r126 σ126 τ126 h => ?_)
    refine x_iadd X dX11_sumOf_129 ?_
    refine x_istore_n X (lv' := [(3, .int (v3 + r126)), (5, .int r18), (0, .ref (ad 0)), (1, .int v1), (2, .int v2), (4, .int v4)]) dX11_sumOf_130 rfl (by decide) rfl ?_
    refine x_sub X [2, 3, 4, 0, 5] (lv' := [(0, .ref (ad 0)), (1, .int v1), (2, .int v2), (3, .int (v3 + r126)), (4, .int v4)]) rfl ?_
    exact bX11_sumOf_131 X hK5 h
set_option maxRecDepth 100000 in
set_option maxHeartbeats 4000000 in
theorem kX11_sumOf {ad : Nat → Nat} {a1 : Int32} {a2 : Int32} {σ : x_S} {τ : x_L} {Q : Int32 → x_S → x_L → Prop} (h : wX11_sumOf a1 a2 σ τ Q) : x_Met yX11_sumOf cX11_sumOf 6 (Option.some FieldType.int) 4 ad dsM [.ref (ad 0), .int a1, .int a2] σ τ (x_PI Q) := by
  refine x_met (by decide +kernel) (Nat.le_of_ble_eq_true rfl) (fun V X => ?_)
  have X : x_Is V cX11_sumOf 6 RX11 (Option.some FieldType.int) ad dsM 4 (x_PI Q) := X
  show V σ τ 0 [(0, .ref (ad 0)), (1, .int a1), (2, .int a2)] []
  refine x_iconst X dX11_sumOf_0 ki_0 ?_
  refine x_istore_n X (lv' := [(3, .int 0), (0, .ref (ad 0)), (1, .int a1), (2, .int a2)]) dX11_sumOf_1 rfl (by decide) rfl ?_
  refine x_iconst X dX11_sumOf_2 ki_0 ?_
  refine x_istore X (lv' := [(4, .int 0), (3, .int 0), (0, .ref (ad 0)), (1, .int a1), (2, .int a2)]) dX11_sumOf_3 (by decide) rfl ?_
  refine x_sub X [2, 3, 4, 1, 0] (lv' := [(0, .ref (ad 0)), (1, .int a1), (2, .int a2), (3, .int 0), (4, .int 0)]) rfl ?_
  exact x_l4_G (fun v1 v2 v3 v4 σ τ => V σ τ 5 [(0, .ref (ad 0)), (1, .int v1), (2, .int v2), (3, .int v3), (4, .int v4)] []) (fun K5 hK5 v1 v2 v3 v4 σ τ h => bX11_sumOf_5 X hK5 h) h
theorem dX11_sumOfAll_0 : decode cX11_sumOfAll 0 = .ok (.iconst 0, 1) := by decide +kernel
theorem dX11_sumOfAll_1 : decode cX11_sumOfAll 1 = .ok (.istore_n 2, 1) := by decide +kernel
theorem dX11_sumOfAll_2 : decode cX11_sumOfAll 2 = .ok (.iconst 0, 1) := by decide +kernel
theorem dX11_sumOfAll_3 : decode cX11_sumOfAll 3 = .ok (.istore_n 3, 1) := by decide +kernel
theorem dX11_sumOfAll_4 : decode cX11_sumOfAll 4 = .ok (.iload_n 3, 1) := by decide +kernel
theorem dX11_sumOfAll_5 : decode cX11_sumOfAll 5 = .ok (.aload_n 0, 1) := by decide +kernel
theorem dX11_sumOfAll_6 : decode cX11_sumOfAll 6 = .ok (.getfield 17, 3) := by decide +kernel
theorem dX11_sumOfAll_9 : decode cX11_sumOfAll 9 = .ok (.iconst 1, 1) := by decide +kernel
theorem dX11_sumOfAll_10 : decode cX11_sumOfAll 10 = .ok (.iaload, 1) := by decide +kernel
theorem dX11_sumOfAll_11 : decode cX11_sumOfAll 11 = .ok (.if_icmp .ge 18, 3) := by decide +kernel
theorem dX11_sumOfAll_14 : decode cX11_sumOfAll 14 = .ok (.iload_n 2, 1) := by decide +kernel
theorem dX11_sumOfAll_15 : decode cX11_sumOfAll 15 = .ok (.aload_n 0, 1) := by decide +kernel
theorem dX11_sumOfAll_16 : decode cX11_sumOfAll 16 = .ok (.iload_n 3, 1) := by decide +kernel
theorem dX11_sumOfAll_17 : decode cX11_sumOfAll 17 = .ok (.iload_n 1, 1) := by decide +kernel
theorem dX11_sumOfAll_18 : decode cX11_sumOfAll 18 = .ok (.invokevirtual 191, 3) := by decide +kernel
theorem dX11_sumOfAll_21 : decode cX11_sumOfAll 21 = .ok (.iadd, 1) := by decide +kernel
theorem dX11_sumOfAll_22 : decode cX11_sumOfAll 22 = .ok (.istore_n 2, 1) := by decide +kernel
theorem dX11_sumOfAll_23 : decode cX11_sumOfAll 23 = .ok (.iinc 3 1, 3) := by decide +kernel
theorem dX11_sumOfAll_26 : decode cX11_sumOfAll 26 = .ok (.goto (-22), 3) := by decide +kernel
theorem dX11_sumOfAll_29 : decode cX11_sumOfAll 29 = .ok (.iload_n 2, 1) := by decide +kernel
theorem dX11_sumOfAll_30 : decode cX11_sumOfAll 30 = .ok (.ireturn, 1) := by decide +kernel
theorem cm_X11_sumOfAll : x_CM yX11_sumOfAll cX11_sumOfAll 4 (Option.some FieldType.int) 1 := ⟨w_7_233, w_1_12, by decide +kernel, by decide +kernel⟩
theorem ci_X11_sumOfAll : x_CI yX11_sumOfAll 13 := ⟨w_7_232, wp_72, (RX11, TX11, 41), rfl, rfl⟩
set_option maxRecDepth 100000 in
set_option maxHeartbeats 4000000 in
theorem bX11_sumOfAll_4 {V : x_J} {ad : Nat → Nat} {Q : Int32 → x_S → x_L → Prop} (X : x_Is V cX11_sumOfAll 4 RX11 (Option.some FieldType.int) ad dsM 5 (x_PI Q)) {K4 : Int32 → Int32 → Int32 → x_S → x_L → Prop} (hK4 : ∀ v1 v2 v3 σ τ, K4 v1 v2 v3 σ τ → V σ τ 4 [(0, .ref (ad 0)), (1, .int v1), (2, .int v2), (3, .int v3)] []) {v1 : Int32} {v2 : Int32} {v3 : Int32} {σ : x_S} {τ : x_L} (h : wX11_sumOfAll_4 Q K4 v1 v2 v3 σ τ) : V σ τ 4 [(0, .ref (ad 0)), (1, .int v1), (2, .int v2), (3, .int v3)] [] := by
  refine x_iload_n X dX11_sumOfAll_4 rfl 3 rfl ?_
  refine x_aload_n X dX11_sumOfAll_5 rfl 0 rfl ?_
  refine x_getR X (j := 3) dX11_sumOfAll_6 fl_11_17 dsM_0 rfl ?_
  refine x_iconst X dX11_sumOfAll_9 ki_1 ?_
  refine x_iald X dX11_sumOfAll_10 dsM_3 (x_inl (by decide)) ?_
  refine x_icmp_ge X 29 dX11_sumOfAll_11 (by decide) (fun hc => ?_) (fun hc => ?_)
  · have h := h.1 hc
    refine x_iload_n X dX11_sumOfAll_29 rfl 2 rfl ?_
    exact x_iret X dX11_sumOfAll_30 ⟨_, rfl, h⟩
  · have h := h.2 hc
    refine x_iload_n X dX11_sumOfAll_14 rfl 2 rfl ?_
    refine x_aload_n X dX11_sumOfAll_15 rfl 0 rfl ?_
    refine x_iload_n X dX11_sumOfAll_16 rfl 3 rfl ?_
    refine x_iload_n X dX11_sumOfAll_17 rfl 1 rfl ?_
    refine x_callVi X [.int v3, .int v1] [.int v2] dX11_sumOfAll_18 (kX11_sumOf h) cm_X11_sumOf ci_X11_sumOf w_7_234 dsM_0 ⟨by decide, by decide⟩ rfl (Nat.le_of_ble_eq_true rfl) (fun r18 σ18 τ18 h => ?_)
    refine x_iadd X dX11_sumOfAll_21 ?_
    refine x_istore_n X (lv' := [(2, .int (v2 + r18)), (0, .ref (ad 0)), (1, .int v1), (3, .int v3)]) dX11_sumOfAll_22 rfl (by decide) rfl ?_
    refine x_iinc X (k := 3) (lv' := [(3, .int (v3 + 1)), (2, .int (v2 + r18)), (0, .ref (ad 0)), (1, .int v1)]) dX11_sumOfAll_23 rfl ki_1 (by decide) rfl ?_
    refine x_goto X (tgt := 4) dX11_sumOfAll_26 (by decide) ?_
    refine x_sub X [2, 3, 1, 0] (lv' := [(0, .ref (ad 0)), (1, .int v1), (2, .int (v2 + r18)), (3, .int (v3 + 1))]) rfl ?_
    exact hK4 _ _ _ _ _ h
set_option maxRecDepth 100000 in
set_option maxHeartbeats 4000000 in
theorem kX11_sumOfAll {ad : Nat → Nat} {a1 : Int32} {σ : x_S} {τ : x_L} {Q : Int32 → x_S → x_L → Prop} (h : wX11_sumOfAll a1 σ τ Q) : x_Met yX11_sumOfAll cX11_sumOfAll 4 (Option.some FieldType.int) 5 ad dsM [.ref (ad 0), .int a1] σ τ (x_PI Q) := by
  refine x_met (by decide +kernel) (Nat.le_of_ble_eq_true rfl) (fun V X => ?_)
  have X : x_Is V cX11_sumOfAll 4 RX11 (Option.some FieldType.int) ad dsM 5 (x_PI Q) := X
  show V σ τ 0 [(0, .ref (ad 0)), (1, .int a1)] []
  refine x_iconst X dX11_sumOfAll_0 ki_0 ?_
  refine x_istore_n X (lv' := [(2, .int 0), (0, .ref (ad 0)), (1, .int a1)]) dX11_sumOfAll_1 rfl (by decide) rfl ?_
  refine x_iconst X dX11_sumOfAll_2 ki_0 ?_
  refine x_istore_n X (lv' := [(3, .int 0), (2, .int 0), (0, .ref (ad 0)), (1, .int a1)]) dX11_sumOfAll_3 rfl (by decide) rfl ?_
  refine x_sub X [2, 3, 1, 0] (lv' := [(0, .ref (ad 0)), (1, .int a1), (2, .int 0), (3, .int 0)]) rfl ?_
  exact x_l3_G (fun v1 v2 v3 σ τ => V σ τ 4 [(0, .ref (ad 0)), (1, .int v1), (2, .int v2), (3, .int v3)] []) (fun K4 hK4 v1 v2 v3 σ τ h => bX11_sumOfAll_4 X hK4 h) h
theorem dX11_arrival_0 : decode cX11_arrival 0 = .ok (.aload_n 0, 1) := by decide +kernel
theorem dX11_arrival_1 : decode cX11_arrival 1 = .ok (.getfield 23, 3) := by decide +kernel
theorem dX11_arrival_4 : decode cX11_arrival 4 = .ok (.iload_n 1, 1) := by decide +kernel
theorem dX11_arrival_5 : decode cX11_arrival 5 = .ok (.aload_n 0, 1) := by decide +kernel
theorem dX11_arrival_6 : decode cX11_arrival 6 = .ok (.iload_n 1, 1) := by decide +kernel
theorem dX11_arrival_7 : decode cX11_arrival 7 = .ok (.invokevirtual 107, 3) := by decide +kernel
theorem dX11_arrival_10 : decode cX11_arrival 10 = .ok (.iconst 1, 1) := by decide +kernel
theorem dX11_arrival_11 : decode cX11_arrival 11 = .ok (.isub, 1) := by decide +kernel
theorem dX11_arrival_12 : decode cX11_arrival 12 = .ok (.invokestatic 111, 3) := by decide +kernel
theorem dX11_arrival_15 : decode cX11_arrival 15 = .ok (.iaload, 1) := by decide +kernel
theorem dX11_arrival_16 : decode cX11_arrival 16 = .ok (.ireturn, 1) := by decide +kernel
theorem cm_X11_arrival : x_CM yX11_arrival cX11_arrival 2 (Option.some FieldType.int) 1 := ⟨w_7_226, w_1_12, by decide +kernel, by decide +kernel⟩
theorem ci_X11_arrival : x_CI yX11_arrival 13 := ⟨w_7_225, wp_71, (RX11, TX11, 41), rfl, rfl⟩
set_option maxRecDepth 100000 in
set_option maxHeartbeats 4000000 in
theorem kX11_arrival {ad : Nat → Nat} {a1 : Int32} {σ : x_S} {τ : x_L} {Q : Int32 → x_S → x_L → Prop} (h : wX11_arrival a1 σ τ Q) : x_Met yX11_arrival cX11_arrival 2 (Option.some FieldType.int) 2 ad dsM [.ref (ad 0), .int a1] σ τ (x_PI Q) := by
  refine x_met (by decide +kernel) (Nat.le_of_ble_eq_true rfl) (fun V X => ?_)
  have X : x_Is V cX11_arrival 2 RX11 (Option.some FieldType.int) ad dsM 2 (x_PI Q) := X
  show V σ τ 0 [(0, .ref (ad 0)), (1, .int a1)] []
  refine x_aload_n X dX11_arrival_0 rfl 0 rfl ?_
  refine x_getR X (j := 5) dX11_arrival_1 fl_11_23 dsM_0 rfl ?_
  refine x_iload_n X dX11_arrival_4 rfl 1 rfl ?_
  refine x_aload_n X dX11_arrival_5 rfl 0 rfl ?_
  refine x_iload_n X dX11_arrival_6 rfl 1 rfl ?_
  refine x_callVi X [.int a1] [.int a1, .ref (ad 5)] dX11_arrival_7 (kX11_placesOf h) cm_X11_placesOf ci_X11_placesOf w_7_109 dsM_0 ⟨by decide, by decide⟩ rfl (Nat.le_of_ble_eq_true rfl) (fun r7 σ7 τ7 h => ?_)
  refine x_iconst X dX11_arrival_10 ki_1 ?_
  refine x_isub X dX11_arrival_11 ?_
  refine x_callSi X [.int a1, .int (r7 - 1)] [.ref (ad 5)] dX11_arrival_12 (kX11_spot h) cm_X11_spot w_7_118 rfl w_7_117 ⟨by decide, by decide⟩ rfl (Nat.le_of_ble_eq_true rfl) (fun r12 σ12 τ12 h => ?_)
  have g15 := h.1
  have h := h.2
  refine x_iald X dX11_arrival_15 dsM_5 g15 ?_
  exact x_iret X dX11_arrival_16 ⟨_, rfl, h⟩
theorem dX11_isLate_0 : decode cX11_isLate 0 = .ok (.aload_n 0, 1) := by decide +kernel
theorem dX11_isLate_1 : decode cX11_isLate 1 = .ok (.iload_n 1, 1) := by decide +kernel
theorem dX11_isLate_2 : decode cX11_isLate 2 = .ok (.invokevirtual 194, 3) := by decide +kernel
theorem dX11_isLate_5 : decode cX11_isLate 5 = .ok (.aload_n 0, 1) := by decide +kernel
theorem dX11_isLate_6 : decode cX11_isLate 6 = .ok (.iload_n 1, 1) := by decide +kernel
theorem dX11_isLate_7 : decode cX11_isLate 7 = .ok (.iconst 1, 1) := by decide +kernel
theorem dX11_isLate_8 : decode cX11_isLate 8 = .ok (.invokevirtual 99, 3) := by decide +kernel
theorem dX11_isLate_11 : decode cX11_isLate 11 = .ok (.if_icmp .le 7, 3) := by decide +kernel
theorem dX11_isLate_14 : decode cX11_isLate 14 = .ok (.iconst 1, 1) := by decide +kernel
theorem dX11_isLate_15 : decode cX11_isLate 15 = .ok (.goto 4, 3) := by decide +kernel
theorem dX11_isLate_18 : decode cX11_isLate 18 = .ok (.iconst 0, 1) := by decide +kernel
theorem dX11_isLate_19 : decode cX11_isLate 19 = .ok (.ireturn, 1) := by decide +kernel
theorem cm_X11_isLate : x_CM yX11_isLate cX11_isLate 2 (Option.some FieldType.boolean) 1 := ⟨w_7_222, w_1_12, by decide +kernel, by decide +kernel⟩
theorem ci_X11_isLate : x_CI yX11_isLate 13 := ⟨w_7_221, wp_70, (RX11, TX11, 41), rfl, rfl⟩
set_option maxRecDepth 100000 in
set_option maxHeartbeats 4000000 in
theorem bX11_isLate_19 {V : x_J} {ad : Nat → Nat} {Q : Int32 → x_S → x_L → Prop} (X : x_Is V cX11_isLate 2 RX11 (Option.some FieldType.boolean) ad dsM 3 (x_PI Q)) {s0 : Int32} {σ : x_S} {τ : x_L} (h : wX11_isLate_19 Q s0 σ τ) : V σ τ 19 [] [.int s0] := by
  exact x_zret X dX11_isLate_19 ⟨h.1, _, rfl, h.2⟩
set_option maxRecDepth 100000 in
set_option maxHeartbeats 4000000 in
theorem kX11_isLate {ad : Nat → Nat} {a1 : Int32} {σ : x_S} {τ : x_L} {Q : Int32 → x_S → x_L → Prop} (h : wX11_isLate a1 σ τ Q) : x_Met yX11_isLate cX11_isLate 2 (Option.some FieldType.boolean) 3 ad dsM [.ref (ad 0), .int a1] σ τ (x_PI Q) := by
  refine x_met (by decide +kernel) (Nat.le_of_ble_eq_true rfl) (fun V X => ?_)
  have X : x_Is V cX11_isLate 2 RX11 (Option.some FieldType.boolean) ad dsM 3 (x_PI Q) := X
  show V σ τ 0 [(0, .ref (ad 0)), (1, .int a1)] []
  refine x_aload_n X dX11_isLate_0 rfl 0 rfl ?_
  refine x_iload_n X dX11_isLate_1 rfl 1 rfl ?_
  refine x_callVi X [.int a1] [] dX11_isLate_2 (kX11_arrival h) cm_X11_arrival ci_X11_arrival w_7_223 dsM_0 ⟨by decide, by decide⟩ rfl (Nat.le_of_ble_eq_true rfl) (fun r2 σ2 τ2 h => ?_)
  refine x_aload_n X dX11_isLate_5 rfl 0 rfl ?_
  refine x_iload_n X dX11_isLate_6 rfl 1 rfl ?_
  refine x_iconst X dX11_isLate_7 ki_1 ?_
  refine x_callVi X [.int a1, .int 1] [.int r2] dX11_isLate_8 (kX11_ofTruck h) cm_X11_ofTruck ci_X11_ofTruck w_7_113 dsM_0 ⟨by decide, by decide⟩ rfl (Nat.le_of_ble_eq_true rfl) (fun r8 σ8 τ8 h => ?_)
  refine x_icmp_le X 18 dX11_isLate_11 (by decide) (fun hc => ?_) (fun hc => ?_)
  · have h := h.1 hc
    refine x_iconst X dX11_isLate_18 ki_0 ?_
    refine x_sub X [] (lv' := []) rfl ?_
    exact bX11_isLate_19 X h
  · have h := h.2 hc
    refine x_iconst X dX11_isLate_14 ki_1 ?_
    refine x_goto X (tgt := 19) dX11_isLate_15 (by decide) ?_
    refine x_sub X [] (lv' := []) rfl ?_
    exact bX11_isLate_19 X h
theorem dX11_readyAt_0 : decode cX11_readyAt 0 = .ok (.iload_n 2, 1) := by decide +kernel
theorem dX11_readyAt_1 : decode cX11_readyAt 1 = .ok (.ifCond .ne 12, 3) := by decide +kernel
theorem dX11_readyAt_4 : decode cX11_readyAt 4 = .ok (.aload_n 0, 1) := by decide +kernel
theorem dX11_readyAt_5 : decode cX11_readyAt 5 = .ok (.getfield 9, 3) := by decide +kernel
theorem dX11_readyAt_8 : decode cX11_readyAt 8 = .ok (.iload_n 1, 1) := by decide +kernel
theorem dX11_readyAt_9 : decode cX11_readyAt 9 = .ok (.iaload, 1) := by decide +kernel
theorem dX11_readyAt_10 : decode cX11_readyAt 10 = .ok (.goto 15, 3) := by decide +kernel
theorem dX11_readyAt_13 : decode cX11_readyAt 13 = .ok (.aload_n 0, 1) := by decide +kernel
theorem dX11_readyAt_14 : decode cX11_readyAt 14 = .ok (.getfield 23, 3) := by decide +kernel
theorem dX11_readyAt_17 : decode cX11_readyAt 17 = .ok (.iload_n 1, 1) := by decide +kernel
theorem dX11_readyAt_18 : decode cX11_readyAt 18 = .ok (.iload_n 2, 1) := by decide +kernel
theorem dX11_readyAt_19 : decode cX11_readyAt 19 = .ok (.iconst 1, 1) := by decide +kernel
theorem dX11_readyAt_20 : decode cX11_readyAt 20 = .ok (.isub, 1) := by decide +kernel
theorem dX11_readyAt_21 : decode cX11_readyAt 21 = .ok (.invokestatic 111, 3) := by decide +kernel
theorem dX11_readyAt_24 : decode cX11_readyAt 24 = .ok (.iaload, 1) := by decide +kernel
theorem dX11_readyAt_25 : decode cX11_readyAt 25 = .ok (.ireturn, 1) := by decide +kernel
theorem cm_X11_readyAt : x_CM yX11_readyAt cX11_readyAt 3 (Option.some FieldType.int) 2 := ⟨w_8_45, w_1_12, by decide +kernel, by decide +kernel⟩
theorem ci_X11_readyAt : x_CI yX11_readyAt 13 := ⟨w_8_44, wp_82, (RX11, TX11, 41), rfl, rfl⟩
set_option maxRecDepth 100000 in
set_option maxHeartbeats 4000000 in
theorem bX11_readyAt_25 {V : x_J} {ad : Nat → Nat} {Q : Int32 → x_S → x_L → Prop} (X : x_Is V cX11_readyAt 3 RX11 (Option.some FieldType.int) ad dsM 1 (x_PI Q)) {s0 : Int32} {σ : x_S} {τ : x_L} (h : wX11_readyAt_25 Q s0 σ τ) : V σ τ 25 [] [.int s0] := by
  exact x_iret X dX11_readyAt_25 ⟨_, rfl, h⟩
set_option maxRecDepth 100000 in
set_option maxHeartbeats 4000000 in
theorem kX11_readyAt {ad : Nat → Nat} {a1 : Int32} {a2 : Int32} {σ : x_S} {τ : x_L} {Q : Int32 → x_S → x_L → Prop} (h : wX11_readyAt a1 a2 σ τ Q) : x_Met yX11_readyAt cX11_readyAt 3 (Option.some FieldType.int) 1 ad dsM [.ref (ad 0), .int a1, .int a2] σ τ (x_PI Q) := by
  refine x_met (by decide +kernel) (Nat.le_of_ble_eq_true rfl) (fun V X => ?_)
  have X : x_Is V cX11_readyAt 3 RX11 (Option.some FieldType.int) ad dsM 1 (x_PI Q) := X
  show V σ τ 0 [(0, .ref (ad 0)), (1, .int a1), (2, .int a2)] []
  refine x_iload_n X dX11_readyAt_0 rfl 2 rfl ?_
  refine x_if_ne X 13 dX11_readyAt_1 (by decide) (fun hc => ?_) (fun hc => ?_)
  · have h := h.1 hc
    refine x_aload_n X dX11_readyAt_13 rfl 0 rfl ?_
    refine x_getR X (j := 5) dX11_readyAt_14 fl_11_23 dsM_0 rfl ?_
    refine x_iload_n X dX11_readyAt_17 rfl 1 rfl ?_
    refine x_iload_n X dX11_readyAt_18 rfl 2 rfl ?_
    refine x_iconst X dX11_readyAt_19 ki_1 ?_
    refine x_isub X dX11_readyAt_20 ?_
    refine x_callSi X [.int a1, .int (a2 - 1)] [.ref (ad 5)] dX11_readyAt_21 (kX11_spot h) cm_X11_spot w_7_118 rfl w_7_117 ⟨by decide, by decide⟩ rfl (Nat.le_of_ble_eq_true rfl) (fun r21 σ21 τ21 h => ?_)
    have g24 := h.1
    have h := h.2
    refine x_iald X dX11_readyAt_24 dsM_5 g24 ?_
    refine x_sub X [] (lv' := []) rfl ?_
    exact bX11_readyAt_25 X h
  · have h := h.2 hc
    refine x_aload_n X dX11_readyAt_4 rfl 0 rfl ?_
    refine x_getR X (j := 1) dX11_readyAt_5 fl_11_9 dsM_0 rfl ?_
    refine x_iload_n X dX11_readyAt_8 rfl 1 rfl ?_
    have g9 := h.1
    have h := h.2
    refine x_iald X dX11_readyAt_9 dsM_1 g9 ?_
    refine x_goto X (tgt := 25) dX11_readyAt_10 (by decide) ?_
    refine x_sub X [] (lv' := []) rfl ?_
    exact bX11_readyAt_25 X h
theorem dX11_allPlaces_0 : decode cX11_allPlaces 0 = .ok (.iconst 0, 1) := by decide +kernel
theorem dX11_allPlaces_1 : decode cX11_allPlaces 1 = .ok (.istore_n 1, 1) := by decide +kernel
theorem dX11_allPlaces_2 : decode cX11_allPlaces 2 = .ok (.iconst 0, 1) := by decide +kernel
theorem dX11_allPlaces_3 : decode cX11_allPlaces 3 = .ok (.istore_n 2, 1) := by decide +kernel
theorem dX11_allPlaces_4 : decode cX11_allPlaces 4 = .ok (.iload_n 2, 1) := by decide +kernel
theorem dX11_allPlaces_5 : decode cX11_allPlaces 5 = .ok (.aload_n 0, 1) := by decide +kernel
theorem dX11_allPlaces_6 : decode cX11_allPlaces 6 = .ok (.getfield 17, 3) := by decide +kernel
theorem dX11_allPlaces_9 : decode cX11_allPlaces 9 = .ok (.iconst 1, 1) := by decide +kernel
theorem dX11_allPlaces_10 : decode cX11_allPlaces 10 = .ok (.iaload, 1) := by decide +kernel
theorem dX11_allPlaces_11 : decode cX11_allPlaces 11 = .ok (.if_icmp .ge 17, 3) := by decide +kernel
theorem dX11_allPlaces_14 : decode cX11_allPlaces 14 = .ok (.iload_n 1, 1) := by decide +kernel
theorem dX11_allPlaces_15 : decode cX11_allPlaces 15 = .ok (.aload_n 0, 1) := by decide +kernel
theorem dX11_allPlaces_16 : decode cX11_allPlaces 16 = .ok (.iload_n 2, 1) := by decide +kernel
theorem dX11_allPlaces_17 : decode cX11_allPlaces 17 = .ok (.invokevirtual 107, 3) := by decide +kernel
theorem dX11_allPlaces_20 : decode cX11_allPlaces 20 = .ok (.iadd, 1) := by decide +kernel
theorem dX11_allPlaces_21 : decode cX11_allPlaces 21 = .ok (.istore_n 1, 1) := by decide +kernel
theorem dX11_allPlaces_22 : decode cX11_allPlaces 22 = .ok (.iinc 2 1, 3) := by decide +kernel
theorem dX11_allPlaces_25 : decode cX11_allPlaces 25 = .ok (.goto (-21), 3) := by decide +kernel
theorem dX11_allPlaces_28 : decode cX11_allPlaces 28 = .ok (.iload_n 1, 1) := by decide +kernel
theorem dX11_allPlaces_29 : decode cX11_allPlaces 29 = .ok (.ireturn, 1) := by decide +kernel
theorem cm_X11_allPlaces : x_CM yX11_allPlaces cX11_allPlaces 3 (Option.some FieldType.int) 0 := ⟨w_7_210, w_1_12, by decide +kernel, by decide +kernel⟩
theorem ci_X11_allPlaces : x_CI yX11_allPlaces 13 := ⟨w_7_209, wp_67, (RX11, TX11, 41), rfl, rfl⟩
set_option maxRecDepth 100000 in
set_option maxHeartbeats 4000000 in
theorem bX11_allPlaces_4 {V : x_J} {ad : Nat → Nat} {Q : Int32 → x_S → x_L → Prop} (X : x_Is V cX11_allPlaces 3 RX11 (Option.some FieldType.int) ad dsM 2 (x_PI Q)) {K4 : Int32 → Int32 → x_S → x_L → Prop} (hK4 : ∀ v1 v2 σ τ, K4 v1 v2 σ τ → V σ τ 4 [(0, .ref (ad 0)), (1, .int v1), (2, .int v2)] []) {v1 : Int32} {v2 : Int32} {σ : x_S} {τ : x_L} (h : wX11_allPlaces_4 Q K4 v1 v2 σ τ) : V σ τ 4 [(0, .ref (ad 0)), (1, .int v1), (2, .int v2)] [] := by
  refine x_iload_n X dX11_allPlaces_4 rfl 2 rfl ?_
  refine x_aload_n X dX11_allPlaces_5 rfl 0 rfl ?_
  refine x_getR X (j := 3) dX11_allPlaces_6 fl_11_17 dsM_0 rfl ?_
  refine x_iconst X dX11_allPlaces_9 ki_1 ?_
  refine x_iald X dX11_allPlaces_10 dsM_3 (x_inl (by decide)) ?_
  refine x_icmp_ge X 28 dX11_allPlaces_11 (by decide) (fun hc => ?_) (fun hc => ?_)
  · have h := h.1 hc
    refine x_iload_n X dX11_allPlaces_28 rfl 1 rfl ?_
    exact x_iret X dX11_allPlaces_29 ⟨_, rfl, h⟩
  · have h := h.2 hc
    refine x_iload_n X dX11_allPlaces_14 rfl 1 rfl ?_
    refine x_aload_n X dX11_allPlaces_15 rfl 0 rfl ?_
    refine x_iload_n X dX11_allPlaces_16 rfl 2 rfl ?_
    refine x_callVi X [.int v2] [.int v1] dX11_allPlaces_17 (kX11_placesOf h) cm_X11_placesOf ci_X11_placesOf w_7_109 dsM_0 ⟨by decide, by decide⟩ rfl (Nat.le_of_ble_eq_true rfl) (fun r17 σ17 τ17 h => ?_)
    refine x_iadd X dX11_allPlaces_20 ?_
    refine x_istore_n X (lv' := [(1, .int (v1 + r17)), (0, .ref (ad 0)), (2, .int v2)]) dX11_allPlaces_21 rfl (by decide) rfl ?_
    refine x_iinc X (k := 2) (lv' := [(2, .int (v2 + 1)), (1, .int (v1 + r17)), (0, .ref (ad 0))]) dX11_allPlaces_22 rfl ki_1 (by decide) rfl ?_
    refine x_goto X (tgt := 4) dX11_allPlaces_25 (by decide) ?_
    refine x_sub X [2, 1, 0] (lv' := [(0, .ref (ad 0)), (1, .int (v1 + r17)), (2, .int (v2 + 1))]) rfl ?_
    exact hK4 _ _ _ _ h
set_option maxRecDepth 100000 in
set_option maxHeartbeats 4000000 in
theorem kX11_allPlaces {ad : Nat → Nat} {σ : x_S} {τ : x_L} {Q : Int32 → x_S → x_L → Prop} (h : wX11_allPlaces σ τ Q) : x_Met yX11_allPlaces cX11_allPlaces 3 (Option.some FieldType.int) 2 ad dsM [.ref (ad 0)] σ τ (x_PI Q) := by
  refine x_met (by decide +kernel) (Nat.le_of_ble_eq_true rfl) (fun V X => ?_)
  have X : x_Is V cX11_allPlaces 3 RX11 (Option.some FieldType.int) ad dsM 2 (x_PI Q) := X
  show V σ τ 0 [(0, .ref (ad 0))] []
  refine x_iconst X dX11_allPlaces_0 ki_0 ?_
  refine x_istore_n X (lv' := [(1, .int 0), (0, .ref (ad 0))]) dX11_allPlaces_1 rfl (by decide) rfl ?_
  refine x_iconst X dX11_allPlaces_2 ki_0 ?_
  refine x_istore_n X (lv' := [(2, .int 0), (1, .int 0), (0, .ref (ad 0))]) dX11_allPlaces_3 rfl (by decide) rfl ?_
  refine x_sub X [2, 1, 0] (lv' := [(0, .ref (ad 0)), (1, .int 0), (2, .int 0)]) rfl ?_
  exact x_l2_G (fun v1 v2 σ τ => V σ τ 4 [(0, .ref (ad 0)), (1, .int v1), (2, .int v2)] []) (fun K4 hK4 v1 v2 σ τ h => bX11_allPlaces_4 X hK4 h) h
theorem dX11_lateSet_0 : decode cX11_lateSet 0 = .ok (.iconst 0, 1) := by decide +kernel
theorem dX11_lateSet_1 : decode cX11_lateSet 1 = .ok (.istore_n 1, 1) := by decide +kernel
theorem dX11_lateSet_2 : decode cX11_lateSet 2 = .ok (.iconst 0, 1) := by decide +kernel
theorem dX11_lateSet_3 : decode cX11_lateSet 3 = .ok (.istore_n 2, 1) := by decide +kernel
theorem dX11_lateSet_4 : decode cX11_lateSet 4 = .ok (.iload_n 2, 1) := by decide +kernel
theorem dX11_lateSet_5 : decode cX11_lateSet 5 = .ok (.aload_n 0, 1) := by decide +kernel
theorem dX11_lateSet_6 : decode cX11_lateSet 6 = .ok (.getfield 17, 3) := by decide +kernel
theorem dX11_lateSet_9 : decode cX11_lateSet 9 = .ok (.iconst 1, 1) := by decide +kernel
theorem dX11_lateSet_10 : decode cX11_lateSet 10 = .ok (.iaload, 1) := by decide +kernel
theorem dX11_lateSet_11 : decode cX11_lateSet 11 = .ok (.if_icmp .ge 27, 3) := by decide +kernel
theorem dX11_lateSet_14 : decode cX11_lateSet 14 = .ok (.iload_n 1, 1) := by decide +kernel
theorem dX11_lateSet_15 : decode cX11_lateSet 15 = .ok (.aload_n 0, 1) := by decide +kernel
theorem dX11_lateSet_16 : decode cX11_lateSet 16 = .ok (.iload_n 2, 1) := by decide +kernel
theorem dX11_lateSet_17 : decode cX11_lateSet 17 = .ok (.invokevirtual 197, 3) := by decide +kernel
theorem dX11_lateSet_20 : decode cX11_lateSet 20 = .ok (.ifCond .eq 9, 3) := by decide +kernel
theorem dX11_lateSet_23 : decode cX11_lateSet 23 = .ok (.iconst 1, 1) := by decide +kernel
theorem dX11_lateSet_24 : decode cX11_lateSet 24 = .ok (.iload_n 2, 1) := by decide +kernel
theorem dX11_lateSet_25 : decode cX11_lateSet 25 = .ok (.ishl, 1) := by decide +kernel
theorem dX11_lateSet_26 : decode cX11_lateSet 26 = .ok (.goto 4, 3) := by decide +kernel
theorem dX11_lateSet_29 : decode cX11_lateSet 29 = .ok (.iconst 0, 1) := by decide +kernel
theorem dX11_lateSet_30 : decode cX11_lateSet 30 = .ok (.ior, 1) := by decide +kernel
theorem dX11_lateSet_31 : decode cX11_lateSet 31 = .ok (.istore_n 1, 1) := by decide +kernel
theorem dX11_lateSet_32 : decode cX11_lateSet 32 = .ok (.iinc 2 1, 3) := by decide +kernel
theorem dX11_lateSet_35 : decode cX11_lateSet 35 = .ok (.goto (-31), 3) := by decide +kernel
theorem dX11_lateSet_38 : decode cX11_lateSet 38 = .ok (.iload_n 1, 1) := by decide +kernel
theorem dX11_lateSet_39 : decode cX11_lateSet 39 = .ok (.ireturn, 1) := by decide +kernel
theorem cm_X11_lateSet : x_CM yX11_lateSet cX11_lateSet 3 (Option.some FieldType.int) 0 := ⟨w_7_218, w_1_12, by decide +kernel, by decide +kernel⟩
theorem ci_X11_lateSet : x_CI yX11_lateSet 13 := ⟨w_7_217, wp_69, (RX11, TX11, 41), rfl, rfl⟩
set_option maxRecDepth 100000 in
set_option maxHeartbeats 4000000 in
theorem bX11_lateSet_30 {V : x_J} {ad : Nat → Nat} {Q : Int32 → x_S → x_L → Prop} (X : x_Is V cX11_lateSet 3 RX11 (Option.some FieldType.int) ad dsM 4 (x_PI Q)) {K4 : Int32 → Int32 → x_S → x_L → Prop} (hK4 : ∀ v1 v2 σ τ, K4 v1 v2 σ τ → V σ τ 4 [(0, .ref (ad 0)), (1, .int v1), (2, .int v2)] []) {v2 : Int32} {s0 : Int32} {s1 : Int32} {σ : x_S} {τ : x_L} (h : wX11_lateSet_30 K4 Q v2 s0 s1 σ τ) : V σ τ 30 [(0, .ref (ad 0)), (2, .int v2)] [.int s1, .int s0] := by
  refine x_ior X dX11_lateSet_30 ?_
  refine x_istore_n X (lv' := [(1, .int (s0 ||| s1)), (0, .ref (ad 0)), (2, .int v2)]) dX11_lateSet_31 rfl (by decide) rfl ?_
  refine x_iinc X (k := 2) (lv' := [(2, .int (v2 + 1)), (1, .int (s0 ||| s1)), (0, .ref (ad 0))]) dX11_lateSet_32 rfl ki_1 (by decide) rfl ?_
  refine x_goto X (tgt := 4) dX11_lateSet_35 (by decide) ?_
  refine x_sub X [2, 1, 0] (lv' := [(0, .ref (ad 0)), (1, .int (s0 ||| s1)), (2, .int (v2 + 1))]) rfl ?_
  exact hK4 _ _ _ _ h
set_option maxRecDepth 100000 in
set_option maxHeartbeats 4000000 in
theorem bX11_lateSet_4 {V : x_J} {ad : Nat → Nat} {Q : Int32 → x_S → x_L → Prop} (X : x_Is V cX11_lateSet 3 RX11 (Option.some FieldType.int) ad dsM 4 (x_PI Q)) {K4 : Int32 → Int32 → x_S → x_L → Prop} (hK4 : ∀ v1 v2 σ τ, K4 v1 v2 σ τ → V σ τ 4 [(0, .ref (ad 0)), (1, .int v1), (2, .int v2)] []) {v1 : Int32} {v2 : Int32} {σ : x_S} {τ : x_L} (h : wX11_lateSet_4 Q K4 v1 v2 σ τ) : V σ τ 4 [(0, .ref (ad 0)), (1, .int v1), (2, .int v2)] [] := by
  refine x_iload_n X dX11_lateSet_4 rfl 2 rfl ?_
  refine x_aload_n X dX11_lateSet_5 rfl 0 rfl ?_
  refine x_getR X (j := 3) dX11_lateSet_6 fl_11_17 dsM_0 rfl ?_
  refine x_iconst X dX11_lateSet_9 ki_1 ?_
  refine x_iald X dX11_lateSet_10 dsM_3 (x_inl (by decide)) ?_
  refine x_icmp_ge X 38 dX11_lateSet_11 (by decide) (fun hc => ?_) (fun hc => ?_)
  · have h := h.1 hc
    refine x_iload_n X dX11_lateSet_38 rfl 1 rfl ?_
    exact x_iret X dX11_lateSet_39 ⟨_, rfl, h⟩
  · have h := h.2 hc
    refine x_iload_n X dX11_lateSet_14 rfl 1 rfl ?_
    refine x_aload_n X dX11_lateSet_15 rfl 0 rfl ?_
    refine x_iload_n X dX11_lateSet_16 rfl 2 rfl ?_
    refine x_callVi X [.int v2] [.int v1] dX11_lateSet_17 (kX11_isLate h) cm_X11_isLate ci_X11_isLate w_7_219 dsM_0 ⟨by decide, by decide⟩ rfl (Nat.le_of_ble_eq_true rfl) (fun r17 σ17 τ17 h => ?_)
    refine x_if_eq X 29 dX11_lateSet_20 (by decide) (fun hc => ?_) (fun hc => ?_)
    · have h := h.1 hc
      refine x_iconst X dX11_lateSet_29 ki_0 ?_
      refine x_sub X [0, 2] (lv' := [(0, .ref (ad 0)), (2, .int v2)]) rfl ?_
      exact bX11_lateSet_30 X hK4 h
    · have h := h.2 hc
      refine x_iconst X dX11_lateSet_23 ki_1 ?_
      refine x_iload_n X dX11_lateSet_24 rfl 2 rfl ?_
      refine x_ishl X dX11_lateSet_25 ?_
      refine x_goto X (tgt := 30) dX11_lateSet_26 (by decide) ?_
      refine x_sub X [0, 2] (lv' := [(0, .ref (ad 0)), (2, .int v2)]) rfl ?_
      exact bX11_lateSet_30 X hK4 h
set_option maxRecDepth 100000 in
set_option maxHeartbeats 4000000 in
theorem kX11_lateSet {ad : Nat → Nat} {σ : x_S} {τ : x_L} {Q : Int32 → x_S → x_L → Prop} (h : wX11_lateSet σ τ Q) : x_Met yX11_lateSet cX11_lateSet 3 (Option.some FieldType.int) 4 ad dsM [.ref (ad 0)] σ τ (x_PI Q) := by
  refine x_met (by decide +kernel) (Nat.le_of_ble_eq_true rfl) (fun V X => ?_)
  have X : x_Is V cX11_lateSet 3 RX11 (Option.some FieldType.int) ad dsM 4 (x_PI Q) := X
  show V σ τ 0 [(0, .ref (ad 0))] []
  refine x_iconst X dX11_lateSet_0 ki_0 ?_
  refine x_istore_n X (lv' := [(1, .int 0), (0, .ref (ad 0))]) dX11_lateSet_1 rfl (by decide) rfl ?_
  refine x_iconst X dX11_lateSet_2 ki_0 ?_
  refine x_istore_n X (lv' := [(2, .int 0), (1, .int 0), (0, .ref (ad 0))]) dX11_lateSet_3 rfl (by decide) rfl ?_
  refine x_sub X [2, 1, 0] (lv' := [(0, .ref (ad 0)), (1, .int 0), (2, .int 0)]) rfl ?_
  exact x_l2_G (fun v1 v2 σ τ => V σ τ 4 [(0, .ref (ad 0)), (1, .int v1), (2, .int v2)] []) (fun K4 hK4 v1 v2 σ τ h => bX11_lateSet_4 X hK4 h) h
theorem dX11_bits_0 : decode cX11_bits 0 = .ok (.iconst 0, 1) := by decide +kernel
theorem dX11_bits_1 : decode cX11_bits 1 = .ok (.istore_n 1, 1) := by decide +kernel
theorem dX11_bits_2 : decode cX11_bits 2 = .ok (.iload_n 0, 1) := by decide +kernel
theorem dX11_bits_3 : decode cX11_bits 3 = .ok (.istore_n 2, 1) := by decide +kernel
theorem dX11_bits_4 : decode cX11_bits 4 = .ok (.iload_n 2, 1) := by decide +kernel
theorem dX11_bits_5 : decode cX11_bits 5 = .ok (.ifCond .eq 15, 3) := by decide +kernel
theorem dX11_bits_8 : decode cX11_bits 8 = .ok (.iinc 1 1, 3) := by decide +kernel
theorem dX11_bits_11 : decode cX11_bits 11 = .ok (.iload_n 2, 1) := by decide +kernel
theorem dX11_bits_12 : decode cX11_bits 12 = .ok (.iload_n 2, 1) := by decide +kernel
theorem dX11_bits_13 : decode cX11_bits 13 = .ok (.iconst 1, 1) := by decide +kernel
theorem dX11_bits_14 : decode cX11_bits 14 = .ok (.isub, 1) := by decide +kernel
theorem dX11_bits_15 : decode cX11_bits 15 = .ok (.iand, 1) := by decide +kernel
theorem dX11_bits_16 : decode cX11_bits 16 = .ok (.istore_n 2, 1) := by decide +kernel
theorem dX11_bits_17 : decode cX11_bits 17 = .ok (.goto (-13), 3) := by decide +kernel
theorem dX11_bits_20 : decode cX11_bits 20 = .ok (.iload_n 1, 1) := by decide +kernel
theorem dX11_bits_21 : decode cX11_bits 21 = .ok (.ireturn, 1) := by decide +kernel
theorem cm_X11_bits : x_CM yX11_bits cX11_bits 3 (Option.some FieldType.int) 1 := ⟨w_7_229, w_1_12, by decide +kernel, by decide +kernel⟩
set_option maxRecDepth 100000 in
set_option maxHeartbeats 4000000 in
theorem bX11_bits_4 {V : x_J} {ad : Nat → Nat} {Q : Int32 → x_S → x_L → Prop} (X : x_Is V cX11_bits 3 RX11 (Option.some FieldType.int) ad dsM 0 (x_PI Q)) {K4 : Int32 → Int32 → x_S → x_L → Prop} (hK4 : ∀ v1 v2 σ τ, K4 v1 v2 σ τ → V σ τ 4 [(1, .int v1), (2, .int v2)] []) {v1 : Int32} {v2 : Int32} {σ : x_S} {τ : x_L} (h : wX11_bits_4 Q K4 v1 v2 σ τ) : V σ τ 4 [(1, .int v1), (2, .int v2)] [] := by
  refine x_iload_n X dX11_bits_4 rfl 1 rfl ?_
  refine x_if_eq X 20 dX11_bits_5 (by decide) (fun hc => ?_) (fun hc => ?_)
  · have h := h.1 hc
    refine x_iload_n X dX11_bits_20 rfl 0 rfl ?_
    exact x_iret X dX11_bits_21 ⟨_, rfl, h⟩
  · have h := h.2 hc
    refine x_iinc X (k := 0) (lv' := [(1, .int (v1 + 1)), (2, .int v2)]) dX11_bits_8 rfl ki_1 (by decide) rfl ?_
    refine x_iload_n X dX11_bits_11 rfl 1 rfl ?_
    refine x_iload_n X dX11_bits_12 rfl 1 rfl ?_
    refine x_iconst X dX11_bits_13 ki_1 ?_
    refine x_isub X dX11_bits_14 ?_
    refine x_iand X dX11_bits_15 ?_
    refine x_istore_n X (lv' := [(2, .int (v2 &&& (v2 - 1))), (1, .int (v1 + 1))]) dX11_bits_16 rfl (by decide) rfl ?_
    refine x_goto X (tgt := 4) dX11_bits_17 (by decide) ?_
    refine x_sub X [1, 0] (lv' := [(1, .int (v1 + 1)), (2, .int (v2 &&& (v2 - 1)))]) rfl ?_
    exact hK4 _ _ _ _ h
set_option maxRecDepth 100000 in
set_option maxHeartbeats 4000000 in
theorem kX11_bits {ad : Nat → Nat} {a0 : Int32} {σ : x_S} {τ : x_L} {Q : Int32 → x_S → x_L → Prop} (h : wX11_bits a0 σ τ Q) : x_Met yX11_bits cX11_bits 3 (Option.some FieldType.int) 0 ad dsM [.int a0] σ τ (x_PI Q) := by
  refine x_met (by decide +kernel) (Nat.le_of_ble_eq_true rfl) (fun V X => ?_)
  have X : x_Is V cX11_bits 3 RX11 (Option.some FieldType.int) ad dsM 0 (x_PI Q) := X
  show V σ τ 0 [(0, .int a0)] []
  refine x_iconst X dX11_bits_0 ki_0 ?_
  refine x_istore_n X (lv' := [(1, .int 0), (0, .int a0)]) dX11_bits_1 rfl (by decide) rfl ?_
  refine x_iload_n X dX11_bits_2 rfl 1 rfl ?_
  refine x_istore_n X (lv' := [(2, .int a0), (1, .int 0), (0, .int a0)]) dX11_bits_3 rfl (by decide) rfl ?_
  refine x_sub X [1, 0] (lv' := [(1, .int 0), (2, .int a0)]) rfl ?_
  exact x_l2_G (fun v1 v2 σ τ => V σ τ 4 [(1, .int v1), (2, .int v2)] []) (fun K4 hK4 v1 v2 σ τ h => bX11_bits_4 X hK4 h) h
theorem dX11_platoons_0 : decode cX11_platoons 0 = .ok (.iconst 0, 1) := by decide +kernel
theorem dX11_platoons_1 : decode cX11_platoons 1 = .ok (.istore_n 2, 1) := by decide +kernel
theorem dX11_platoons_2 : decode cX11_platoons 2 = .ok (.iconst 0, 1) := by decide +kernel
theorem dX11_platoons_3 : decode cX11_platoons 3 = .ok (.istore_n 3, 1) := by decide +kernel
theorem dX11_platoons_4 : decode cX11_platoons 4 = .ok (.iconst 0, 1) := by decide +kernel
theorem dX11_platoons_5 : decode cX11_platoons 5 = .ok (.istore 4, 2) := by decide +kernel
theorem dX11_platoons_7 : decode cX11_platoons 7 = .ok (.iload 4, 2) := by decide +kernel
theorem dX11_platoons_9 : decode cX11_platoons 9 = .ok (.aload_n 0, 1) := by decide +kernel
theorem dX11_platoons_10 : decode cX11_platoons 10 = .ok (.getfield 17, 3) := by decide +kernel
theorem dX11_platoons_13 : decode cX11_platoons 13 = .ok (.iconst 1, 1) := by decide +kernel
theorem dX11_platoons_14 : decode cX11_platoons 14 = .ok (.iaload, 1) := by decide +kernel
theorem dX11_platoons_15 : decode cX11_platoons 15 = .ok (.if_icmp .ge 79, 3) := by decide +kernel
theorem dX11_platoons_18 : decode cX11_platoons 18 = .ok (.iconst 0, 1) := by decide +kernel
theorem dX11_platoons_19 : decode cX11_platoons 19 = .ok (.istore 5, 2) := by decide +kernel
theorem dX11_platoons_21 : decode cX11_platoons 21 = .ok (.iload 5, 2) := by decide +kernel
theorem dX11_platoons_23 : decode cX11_platoons 23 = .ok (.aload_n 0, 1) := by decide +kernel
theorem dX11_platoons_24 : decode cX11_platoons 24 = .ok (.iload 4, 2) := by decide +kernel
theorem dX11_platoons_26 : decode cX11_platoons 26 = .ok (.invokevirtual 107, 3) := by decide +kernel
theorem dX11_platoons_29 : decode cX11_platoons 29 = .ok (.if_icmp .ge 59, 3) := by decide +kernel
theorem dX11_platoons_32 : decode cX11_platoons 32 = .ok (.iload 4, 2) := by decide +kernel
theorem dX11_platoons_34 : decode cX11_platoons 34 = .ok (.iload 5, 2) := by decide +kernel
theorem dX11_platoons_36 : decode cX11_platoons 36 = .ok (.invokestatic 111, 3) := by decide +kernel
theorem dX11_platoons_39 : decode cX11_platoons 39 = .ok (.istore 6, 2) := by decide +kernel
theorem dX11_platoons_41 : decode cX11_platoons 41 = .ok (.iload_n 2, 1) := by decide +kernel
theorem dX11_platoons_42 : decode cX11_platoons 42 = .ok (.aload_n 0, 1) := by decide +kernel
theorem dX11_platoons_43 : decode cX11_platoons 43 = .ok (.getfield 29, 3) := by decide +kernel
theorem dX11_platoons_46 : decode cX11_platoons 46 = .ok (.iload 6, 2) := by decide +kernel
theorem dX11_platoons_48 : decode cX11_platoons 48 = .ok (.iaload, 1) := by decide +kernel
theorem dX11_platoons_49 : decode cX11_platoons 49 = .ok (.iconst 1, 1) := by decide +kernel
theorem dX11_platoons_50 : decode cX11_platoons 50 = .ok (.if_icmp .le 17, 3) := by decide +kernel
theorem dX11_platoons_53 : decode cX11_platoons 53 = .ok (.aload_n 0, 1) := by decide +kernel
theorem dX11_platoons_54 : decode cX11_platoons 54 = .ok (.getfield 35, 3) := by decide +kernel
theorem dX11_platoons_57 : decode cX11_platoons 57 = .ok (.iload 6, 2) := by decide +kernel
theorem dX11_platoons_59 : decode cX11_platoons 59 = .ok (.iaload, 1) := by decide +kernel
theorem dX11_platoons_60 : decode cX11_platoons 60 = .ok (.ifCond .ne 7, 3) := by decide +kernel
theorem dX11_platoons_63 : decode cX11_platoons 63 = .ok (.iconst 1, 1) := by decide +kernel
theorem dX11_platoons_64 : decode cX11_platoons 64 = .ok (.goto 4, 3) := by decide +kernel
theorem dX11_platoons_67 : decode cX11_platoons 67 = .ok (.iconst 0, 1) := by decide +kernel
theorem dX11_platoons_68 : decode cX11_platoons 68 = .ok (.iadd, 1) := by decide +kernel
theorem dX11_platoons_69 : decode cX11_platoons 69 = .ok (.istore_n 2, 1) := by decide +kernel
theorem dX11_platoons_70 : decode cX11_platoons 70 = .ok (.iload_n 3, 1) := by decide +kernel
theorem dX11_platoons_71 : decode cX11_platoons 71 = .ok (.aload_n 0, 1) := by decide +kernel
theorem dX11_platoons_72 : decode cX11_platoons 72 = .ok (.getfield 29, 3) := by decide +kernel
theorem dX11_platoons_75 : decode cX11_platoons 75 = .ok (.iload 6, 2) := by decide +kernel
theorem dX11_platoons_77 : decode cX11_platoons 77 = .ok (.iaload, 1) := by decide +kernel
theorem dX11_platoons_78 : decode cX11_platoons 78 = .ok (.invokestatic 145, 3) := by decide +kernel
theorem dX11_platoons_81 : decode cX11_platoons 81 = .ok (.istore_n 3, 1) := by decide +kernel
theorem dX11_platoons_82 : decode cX11_platoons 82 = .ok (.iinc 5 1, 3) := by decide +kernel
theorem dX11_platoons_85 : decode cX11_platoons 85 = .ok (.goto (-64), 3) := by decide +kernel
theorem dX11_platoons_88 : decode cX11_platoons 88 = .ok (.iinc 4 1, 3) := by decide +kernel
theorem dX11_platoons_91 : decode cX11_platoons 91 = .ok (.goto (-84), 3) := by decide +kernel
theorem dX11_platoons_94 : decode cX11_platoons 94 = .ok (.iload_n 1, 1) := by decide +kernel
theorem dX11_platoons_95 : decode cX11_platoons 95 = .ok (.ifCond .eq 7, 3) := by decide +kernel
theorem dX11_platoons_98 : decode cX11_platoons 98 = .ok (.iload_n 3, 1) := by decide +kernel
theorem dX11_platoons_99 : decode cX11_platoons 99 = .ok (.goto 4, 3) := by decide +kernel
theorem dX11_platoons_102 : decode cX11_platoons 102 = .ok (.iload_n 2, 1) := by decide +kernel
theorem dX11_platoons_103 : decode cX11_platoons 103 = .ok (.ireturn, 1) := by decide +kernel
theorem cm_X11_platoons : x_CM yX11_platoons cX11_platoons 7 (Option.some FieldType.int) 1 := ⟨w_7_214, w_1_12, by decide +kernel, by decide +kernel⟩
theorem ci_X11_platoons : x_CI yX11_platoons 13 := ⟨w_7_213, wp_68, (RX11, TX11, 41), rfl, rfl⟩
set_option maxRecDepth 100000 in
set_option maxHeartbeats 4000000 in
theorem bX11_platoons_68 {V : x_J} {ad : Nat → Nat} {Q : Int32 → x_S → x_L → Prop} (X : x_Is V cX11_platoons 7 RX11 (Option.some FieldType.int) ad dsM 2 (x_PI Q)) {K7 : Int32 → Int32 → Int32 → Int32 → x_S → x_L → Prop} {K21 : Int32 → Int32 → Int32 → Int32 → Int32 → x_S → x_L → Prop} (hK7 : ∀ v1 v2 v3 v4 σ τ, K7 v1 v2 v3 v4 σ τ → V σ τ 7 [(0, .ref (ad 0)), (1, .int v1), (2, .int v2), (3, .int v3), (4, .int v4)] []) (hK21 : ∀ v1 v2 v3 v4 v5 σ τ, K21 v1 v2 v3 v4 v5 σ τ → V σ τ 21 [(0, .ref (ad 0)), (1, .int v1), (2, .int v2), (3, .int v3), (4, .int v4), (5, .int v5)] []) {v1 : Int32} {v3 : Int32} {v4 : Int32} {v5 : Int32} {v6 : Int32} {s0 : Int32} {s1 : Int32} {σ : x_S} {τ : x_L} (h : wX11_platoons_68 K7 K21 Q v1 v3 v4 v5 v6 s0 s1 σ τ) : V σ τ 68 [(0, .ref (ad 0)), (1, .int v1), (3, .int v3), (4, .int v4), (5, .int v5), (6, .int v6)] [.int s1, .int s0] := by
  refine x_iadd X dX11_platoons_68 ?_
  refine x_istore_n X (lv' := [(2, .int (s0 + s1)), (0, .ref (ad 0)), (1, .int v1), (3, .int v3), (4, .int v4), (5, .int v5), (6, .int v6)]) dX11_platoons_69 rfl (by decide) rfl ?_
  refine x_iload_n X dX11_platoons_70 rfl 3 rfl ?_
  refine x_aload_n X dX11_platoons_71 rfl 1 rfl ?_
  refine x_getR X (j := 7) dX11_platoons_72 fl_11_29 dsM_0 rfl ?_
  refine x_iload X dX11_platoons_75 6 rfl ?_
  have g77 := h.1
  have h := h.2
  refine x_iald X dX11_platoons_77 dsM_7 g77 ?_
  refine x_callSi X [.int v3, .int (σ 7 v6.toNatClampNeg)] [] dX11_platoons_78 (kX11_max h) cm_X11_max w_7_165 rfl w_7_164 ⟨by decide, by decide⟩ rfl (Nat.le_of_ble_eq_true rfl) (fun r78 σ78 τ78 h => ?_)
  refine x_istore_n X (lv' := [(3, .int r78), (2, .int (s0 + s1)), (0, .ref (ad 0)), (1, .int v1), (4, .int v4), (5, .int v5), (6, .int v6)]) dX11_platoons_81 rfl (by decide) rfl ?_
  refine x_iinc X (k := 5) (lv' := [(5, .int (v5 + 1)), (3, .int r78), (2, .int (s0 + s1)), (0, .ref (ad 0)), (1, .int v1), (4, .int v4), (6, .int v6)]) dX11_platoons_82 rfl ki_1 (by decide) rfl ?_
  refine x_goto X (tgt := 21) dX11_platoons_85 (by decide) ?_
  refine x_sub X [3, 4, 2, 1, 5, 0] (lv' := [(0, .ref (ad 0)), (1, .int v1), (2, .int (s0 + s1)), (3, .int r78), (4, .int v4), (5, .int (v5 + 1))]) rfl ?_
  exact hK21 _ _ _ _ _ _ _ h
set_option maxRecDepth 100000 in
set_option maxHeartbeats 4000000 in
theorem bX11_platoons_67 {V : x_J} {ad : Nat → Nat} {Q : Int32 → x_S → x_L → Prop} (X : x_Is V cX11_platoons 7 RX11 (Option.some FieldType.int) ad dsM 2 (x_PI Q)) {K7 : Int32 → Int32 → Int32 → Int32 → x_S → x_L → Prop} {K21 : Int32 → Int32 → Int32 → Int32 → Int32 → x_S → x_L → Prop} (hK7 : ∀ v1 v2 v3 v4 σ τ, K7 v1 v2 v3 v4 σ τ → V σ τ 7 [(0, .ref (ad 0)), (1, .int v1), (2, .int v2), (3, .int v3), (4, .int v4)] []) (hK21 : ∀ v1 v2 v3 v4 v5 σ τ, K21 v1 v2 v3 v4 v5 σ τ → V σ τ 21 [(0, .ref (ad 0)), (1, .int v1), (2, .int v2), (3, .int v3), (4, .int v4), (5, .int v5)] []) {v1 : Int32} {v3 : Int32} {v4 : Int32} {v5 : Int32} {v6 : Int32} {s0 : Int32} {σ : x_S} {τ : x_L} (h : wX11_platoons_67 K7 K21 Q v1 v3 v4 v5 v6 s0 σ τ) : V σ τ 67 [(0, .ref (ad 0)), (1, .int v1), (3, .int v3), (4, .int v4), (5, .int v5), (6, .int v6)] [.int s0] := by
  refine x_iconst X dX11_platoons_67 ki_0 ?_
  exact bX11_platoons_68 X hK7 hK21 h
set_option maxRecDepth 100000 in
set_option maxHeartbeats 4000000 in
theorem bX11_platoons_21 {V : x_J} {ad : Nat → Nat} {Q : Int32 → x_S → x_L → Prop} (X : x_Is V cX11_platoons 7 RX11 (Option.some FieldType.int) ad dsM 2 (x_PI Q)) {K7 : Int32 → Int32 → Int32 → Int32 → x_S → x_L → Prop} {K21 : Int32 → Int32 → Int32 → Int32 → Int32 → x_S → x_L → Prop} (hK7 : ∀ v1 v2 v3 v4 σ τ, K7 v1 v2 v3 v4 σ τ → V σ τ 7 [(0, .ref (ad 0)), (1, .int v1), (2, .int v2), (3, .int v3), (4, .int v4)] []) (hK21 : ∀ v1 v2 v3 v4 v5 σ τ, K21 v1 v2 v3 v4 v5 σ τ → V σ τ 21 [(0, .ref (ad 0)), (1, .int v1), (2, .int v2), (3, .int v3), (4, .int v4), (5, .int v5)] []) {v1 : Int32} {v2 : Int32} {v3 : Int32} {v4 : Int32} {v5 : Int32} {σ : x_S} {τ : x_L} (h : wX11_platoons_21 K7 Q K21 v1 v2 v3 v4 v5 σ τ) : V σ τ 21 [(0, .ref (ad 0)), (1, .int v1), (2, .int v2), (3, .int v3), (4, .int v4), (5, .int v5)] [] := by
  refine x_iload X dX11_platoons_21 5 rfl ?_
  refine x_aload_n X dX11_platoons_23 rfl 0 rfl ?_
  refine x_iload X dX11_platoons_24 4 rfl ?_
  refine x_callVi X [.int v4] [.int v5] dX11_platoons_26 (kX11_placesOf h) cm_X11_placesOf ci_X11_placesOf w_7_109 dsM_0 ⟨by decide, by decide⟩ rfl (Nat.le_of_ble_eq_true rfl) (fun r26 σ26 τ26 h => ?_)
  refine x_icmp_ge X 88 dX11_platoons_29 (by decide) (fun hc => ?_) (fun hc => ?_)
  · have h := h.1 hc
    refine x_iinc X (k := 4) (lv' := [(4, .int (v4 + 1)), (0, .ref (ad 0)), (1, .int v1), (2, .int v2), (3, .int v3), (5, .int v5)]) dX11_platoons_88 rfl ki_1 (by decide) rfl ?_
    refine x_goto X (tgt := 7) dX11_platoons_91 (by decide) ?_
    refine x_sub X [1, 2, 3, 4, 0] (lv' := [(0, .ref (ad 0)), (1, .int v1), (2, .int v2), (3, .int v3), (4, .int (v4 + 1))]) rfl ?_
    exact hK7 _ _ _ _ _ _ h
  · have h := h.2 hc
    refine x_iload X dX11_platoons_32 4 rfl ?_
    refine x_iload X dX11_platoons_34 5 rfl ?_
    refine x_callSi X [.int v4, .int v5] [] dX11_platoons_36 (kX11_spot h) cm_X11_spot w_7_118 rfl w_7_117 ⟨by decide, by decide⟩ rfl (Nat.le_of_ble_eq_true rfl) (fun r36 σ36 τ36 h => ?_)
    refine x_istore X (lv' := [(6, .int r36), (0, .ref (ad 0)), (1, .int v1), (2, .int v2), (3, .int v3), (4, .int v4), (5, .int v5)]) dX11_platoons_39 (by decide) rfl ?_
    refine x_iload_n X dX11_platoons_41 rfl 3 rfl ?_
    refine x_aload_n X dX11_platoons_42 rfl 1 rfl ?_
    refine x_getR X (j := 7) dX11_platoons_43 fl_11_29 dsM_0 rfl ?_
    refine x_iload X dX11_platoons_46 0 rfl ?_
    have g48 := h.1
    have h := h.2
    refine x_iald X dX11_platoons_48 dsM_7 g48 ?_
    refine x_iconst X dX11_platoons_49 ki_1 ?_
    refine x_icmp_le X 67 dX11_platoons_50 (by decide) (fun hc => ?_) (fun hc => ?_)
    · have h := h.1 hc
      refine x_sub X [1, 2, 4, 5, 6, 0] (lv' := [(0, .ref (ad 0)), (1, .int v1), (3, .int v3), (4, .int v4), (5, .int v5), (6, .int r36)]) rfl ?_
      exact bX11_platoons_67 X hK7 hK21 h
    · have h := h.2 hc
      refine x_aload_n X dX11_platoons_53 rfl 1 rfl ?_
      refine x_getR X (j := 9) dX11_platoons_54 fl_11_35 dsM_0 rfl ?_
      refine x_iload X dX11_platoons_57 0 rfl ?_
      refine x_iald X dX11_platoons_59 dsM_9 g48 ?_
      refine x_if_ne X 67 dX11_platoons_60 (by decide) (fun hc => ?_) (fun hc => ?_)
      · have h := h.1 hc
        refine x_sub X [1, 2, 4, 5, 6, 0] (lv' := [(0, .ref (ad 0)), (1, .int v1), (3, .int v3), (4, .int v4), (5, .int v5), (6, .int r36)]) rfl ?_
        exact bX11_platoons_67 X hK7 hK21 h
      · have h := h.2 hc
        refine x_iconst X dX11_platoons_63 ki_1 ?_
        refine x_goto X (tgt := 68) dX11_platoons_64 (by decide) ?_
        refine x_sub X [1, 2, 4, 5, 6, 0] (lv' := [(0, .ref (ad 0)), (1, .int v1), (3, .int v3), (4, .int v4), (5, .int v5), (6, .int r36)]) rfl ?_
        exact bX11_platoons_68 X hK7 hK21 h
set_option maxRecDepth 100000 in
set_option maxHeartbeats 4000000 in
theorem bX11_platoons_103 {V : x_J} {ad : Nat → Nat} {Q : Int32 → x_S → x_L → Prop} (X : x_Is V cX11_platoons 7 RX11 (Option.some FieldType.int) ad dsM 2 (x_PI Q)) {s0 : Int32} {σ : x_S} {τ : x_L} (h : wX11_platoons_103 Q s0 σ τ) : V σ τ 103 [] [.int s0] := by
  exact x_iret X dX11_platoons_103 ⟨_, rfl, h⟩
set_option maxRecDepth 100000 in
set_option maxHeartbeats 4000000 in
theorem bX11_platoons_7 {V : x_J} {ad : Nat → Nat} {Q : Int32 → x_S → x_L → Prop} (X : x_Is V cX11_platoons 7 RX11 (Option.some FieldType.int) ad dsM 2 (x_PI Q)) {K7 : Int32 → Int32 → Int32 → Int32 → x_S → x_L → Prop} (hK7 : ∀ v1 v2 v3 v4 σ τ, K7 v1 v2 v3 v4 σ τ → V σ τ 7 [(0, .ref (ad 0)), (1, .int v1), (2, .int v2), (3, .int v3), (4, .int v4)] []) {v1 : Int32} {v2 : Int32} {v3 : Int32} {v4 : Int32} {σ : x_S} {τ : x_L} (h : wX11_platoons_7 Q K7 v1 v2 v3 v4 σ τ) : V σ τ 7 [(0, .ref (ad 0)), (1, .int v1), (2, .int v2), (3, .int v3), (4, .int v4)] [] := by
  refine x_iload X dX11_platoons_7 4 rfl ?_
  refine x_aload_n X dX11_platoons_9 rfl 0 rfl ?_
  refine x_getR X (j := 3) dX11_platoons_10 fl_11_17 dsM_0 rfl ?_
  refine x_iconst X dX11_platoons_13 ki_1 ?_
  refine x_iald X dX11_platoons_14 dsM_3 (x_inl (by decide)) ?_
  refine x_icmp_ge X 94 dX11_platoons_15 (by decide) (fun hc => ?_) (fun hc => ?_)
  · have h := h.1 hc
    refine x_iload_n X dX11_platoons_94 rfl 1 rfl ?_
    refine x_if_eq X 102 dX11_platoons_95 (by decide) (fun hc => ?_) (fun hc => ?_)
    · have h := h.1 hc
      refine x_iload_n X dX11_platoons_102 rfl 2 rfl ?_
      refine x_sub X [] (lv' := []) rfl ?_
      exact bX11_platoons_103 X h
    · have h := h.2 hc
      refine x_iload_n X dX11_platoons_98 rfl 3 rfl ?_
      refine x_goto X (tgt := 103) dX11_platoons_99 (by decide) ?_
      refine x_sub X [] (lv' := []) rfl ?_
      exact bX11_platoons_103 X h
  · have h := h.2 hc
    refine x_iconst X dX11_platoons_18 ki_0 ?_
    refine x_istore X (lv' := [(5, .int 0), (0, .ref (ad 0)), (1, .int v1), (2, .int v2), (3, .int v3), (4, .int v4)]) dX11_platoons_19 (by decide) rfl ?_
    refine x_sub X [1, 2, 3, 4, 5, 0] (lv' := [(0, .ref (ad 0)), (1, .int v1), (2, .int v2), (3, .int v3), (4, .int v4), (5, .int 0)]) rfl ?_
    exact x_l5_G (fun v1 v2 v3 v4 v5 σ τ => V σ τ 21 [(0, .ref (ad 0)), (1, .int v1), (2, .int v2), (3, .int v3), (4, .int v4), (5, .int v5)] []) (fun K21 hK21 v1 v2 v3 v4 v5 σ τ h => bX11_platoons_21 X hK7 hK21 h) h
set_option maxRecDepth 100000 in
set_option maxHeartbeats 4000000 in
theorem kX11_platoons {ad : Nat → Nat} {a1 : Int32} {σ : x_S} {τ : x_L} {Q : Int32 → x_S → x_L → Prop} (h : wX11_platoons a1 σ τ Q) : x_Met yX11_platoons cX11_platoons 7 (Option.some FieldType.int) 2 ad dsM [.ref (ad 0), .int a1] σ τ (x_PI Q) := by
  refine x_met (by decide +kernel) (Nat.le_of_ble_eq_true rfl) (fun V X => ?_)
  have X : x_Is V cX11_platoons 7 RX11 (Option.some FieldType.int) ad dsM 2 (x_PI Q) := X
  show V σ τ 0 [(0, .ref (ad 0)), (1, .int a1)] []
  refine x_iconst X dX11_platoons_0 ki_0 ?_
  refine x_istore_n X (lv' := [(2, .int 0), (0, .ref (ad 0)), (1, .int a1)]) dX11_platoons_1 rfl (by decide) rfl ?_
  refine x_iconst X dX11_platoons_2 ki_0 ?_
  refine x_istore_n X (lv' := [(3, .int 0), (2, .int 0), (0, .ref (ad 0)), (1, .int a1)]) dX11_platoons_3 rfl (by decide) rfl ?_
  refine x_iconst X dX11_platoons_4 ki_0 ?_
  refine x_istore X (lv' := [(4, .int 0), (3, .int 0), (2, .int 0), (0, .ref (ad 0)), (1, .int a1)]) dX11_platoons_5 (by decide) rfl ?_
  refine x_sub X [3, 4, 2, 1, 0] (lv' := [(0, .ref (ad 0)), (1, .int a1), (2, .int 0), (3, .int 0), (4, .int 0)]) rfl ?_
  exact x_l4_G (fun v1 v2 v3 v4 σ τ => V σ τ 7 [(0, .ref (ad 0)), (1, .int v1), (2, .int v2), (3, .int v3), (4, .int v4)] []) (fun K7 hK7 v1 v2 v3 v4 σ τ h => bX11_platoons_7 X hK7 h) h
theorem dX11_count_0 : decode cX11_count 0 = .ok (.aload_n 0, 1) := by decide +kernel
theorem dX11_count_1 : decode cX11_count 1 = .ok (.iconst 0, 1) := by decide +kernel
theorem dX11_count_2 : decode cX11_count 2 = .ok (.putfield 82, 3) := by decide +kernel
theorem dX11_count_5 : decode cX11_count 5 = .ok (.aload_n 0, 1) := by decide +kernel
theorem dX11_count_6 : decode cX11_count 6 = .ok (.invokevirtual 200, 3) := by decide +kernel
theorem dX11_count_9 : decode cX11_count 9 = .ok (.iload_n 1, 1) := by decide +kernel
theorem dX11_count_10 : decode cX11_count 10 = .ok (.tableswitch 113 0 9 #[54, 54, 61, 66, 72, 80, 86, 92, 102, 107], 54) := by decide +kernel
theorem dX11_count_64 : decode cX11_count 64 = .ok (.aload_n 0, 1) := by decide +kernel
theorem dX11_count_65 : decode cX11_count 65 = .ok (.getfield 17, 3) := by decide +kernel
theorem dX11_count_68 : decode cX11_count 68 = .ok (.iload_n 1, 1) := by decide +kernel
theorem dX11_count_69 : decode cX11_count 69 = .ok (.iaload, 1) := by decide +kernel
theorem dX11_count_70 : decode cX11_count 70 = .ok (.ireturn, 1) := by decide +kernel
theorem dX11_count_71 : decode cX11_count 71 = .ok (.aload_n 0, 1) := by decide +kernel
theorem dX11_count_72 : decode cX11_count 72 = .ok (.invokevirtual 203, 3) := by decide +kernel
theorem dX11_count_75 : decode cX11_count 75 = .ok (.ireturn, 1) := by decide +kernel
theorem dX11_count_76 : decode cX11_count 76 = .ok (.aload_n 0, 1) := by decide +kernel
theorem dX11_count_77 : decode cX11_count 77 = .ok (.iconst 0, 1) := by decide +kernel
theorem dX11_count_78 : decode cX11_count 78 = .ok (.invokevirtual 207, 3) := by decide +kernel
theorem dX11_count_81 : decode cX11_count 81 = .ok (.ireturn, 1) := by decide +kernel
theorem dX11_count_82 : decode cX11_count 82 = .ok (.aload_n 0, 1) := by decide +kernel
theorem dX11_count_83 : decode cX11_count 83 = .ok (.invokevirtual 211, 3) := by decide +kernel
theorem dX11_count_86 : decode cX11_count 86 = .ok (.invokestatic 214, 3) := by decide +kernel
theorem dX11_count_89 : decode cX11_count 89 = .ok (.ireturn, 1) := by decide +kernel
theorem dX11_count_90 : decode cX11_count 90 = .ok (.aload_n 0, 1) := by decide +kernel
theorem dX11_count_91 : decode cX11_count 91 = .ok (.iconst 0, 1) := by decide +kernel
theorem dX11_count_92 : decode cX11_count 92 = .ok (.invokevirtual 217, 3) := by decide +kernel
theorem dX11_count_95 : decode cX11_count 95 = .ok (.ireturn, 1) := by decide +kernel
theorem dX11_count_96 : decode cX11_count 96 = .ok (.aload_n 0, 1) := by decide +kernel
theorem dX11_count_97 : decode cX11_count 97 = .ok (.iconst 1, 1) := by decide +kernel
theorem dX11_count_98 : decode cX11_count 98 = .ok (.invokevirtual 217, 3) := by decide +kernel
theorem dX11_count_101 : decode cX11_count 101 = .ok (.ireturn, 1) := by decide +kernel
theorem dX11_count_102 : decode cX11_count 102 = .ok (.sipush 300, 3) := by decide +kernel
theorem dX11_count_105 : decode cX11_count 105 = .ok (.aload_n 0, 1) := by decide +kernel
theorem dX11_count_106 : decode cX11_count 106 = .ok (.iconst 2, 1) := by decide +kernel
theorem dX11_count_107 : decode cX11_count 107 = .ok (.invokevirtual 217, 3) := by decide +kernel
theorem dX11_count_110 : decode cX11_count 110 = .ok (.imul, 1) := by decide +kernel
theorem dX11_count_111 : decode cX11_count 111 = .ok (.ireturn, 1) := by decide +kernel
theorem dX11_count_112 : decode cX11_count 112 = .ok (.aload_n 0, 1) := by decide +kernel
theorem dX11_count_113 : decode cX11_count 113 = .ok (.getfield 85, 3) := by decide +kernel
theorem dX11_count_116 : decode cX11_count 116 = .ok (.ireturn, 1) := by decide +kernel
theorem dX11_count_117 : decode cX11_count 117 = .ok (.aload_n 0, 1) := by decide +kernel
theorem dX11_count_118 : decode cX11_count 118 = .ok (.iconst 1, 1) := by decide +kernel
theorem dX11_count_119 : decode cX11_count 119 = .ok (.invokevirtual 207, 3) := by decide +kernel
theorem dX11_count_122 : decode cX11_count 122 = .ok (.ireturn, 1) := by decide +kernel
theorem dX11_count_123 : decode cX11_count 123 = .ok (.iconst (-1), 1) := by decide +kernel
theorem dX11_count_124 : decode cX11_count 124 = .ok (.ireturn, 1) := by decide +kernel
theorem cm_X11_count : x_CM yX11_count cX11_count 2 (Option.some FieldType.int) 1 := ⟨w_7_100, w_1_12, by decide +kernel, by decide +kernel⟩
theorem ci_X11_count : x_CI yX11_count 13 := ⟨w_7_98, w_7_99, (RX11, TX11, 41), rfl, rfl⟩
set_option maxRecDepth 100000 in
set_option maxHeartbeats 4000000 in
theorem bX11_count_64 {V : x_J} {ad : Nat → Nat} {Q : Int32 → x_S → x_L → Prop} (X : x_Is V cX11_count 2 RX11 (Option.some FieldType.int) ad dsM 6 (x_PI Q)) {v1 : Int32} {σ : x_S} {τ : x_L} (h : wX11_count_64 Q v1 σ τ) : V σ τ 64 [(0, .ref (ad 0)), (1, .int v1)] [] := by
  refine x_aload_n X dX11_count_64 rfl 0 rfl ?_
  refine x_getR X (j := 3) dX11_count_65 fl_11_17 dsM_0 rfl ?_
  refine x_iload_n X dX11_count_68 rfl 1 rfl ?_
  have g69 := h.1
  have h := h.2
  refine x_iald X dX11_count_69 dsM_3 g69 ?_
  exact x_iret X dX11_count_70 ⟨_, rfl, h⟩
set_option maxRecDepth 100000 in
set_option maxHeartbeats 4000000 in
theorem kX11_count {ad : Nat → Nat} {a1 : Int32} {σ : x_S} {τ : x_L} {Q : Int32 → x_S → x_L → Prop} (h : wX11_count a1 σ τ Q) : x_Met yX11_count cX11_count 2 (Option.some FieldType.int) 6 ad dsM [.ref (ad 0), .int a1] σ τ (x_PI Q) := by
  refine x_met (by decide +kernel) (Nat.le_of_ble_eq_true rfl) (fun V X => ?_)
  have X : x_Is V cX11_count 2 RX11 (Option.some FieldType.int) ad dsM 6 (x_PI Q) := X
  show V σ τ 0 [(0, .ref (ad 0)), (1, .int a1)] []
  refine x_aload_n X dX11_count_0 rfl 0 rfl ?_
  refine x_iconst X dX11_count_1 ki_0 ?_
  refine x_putI X dX11_count_2 fl_11_82 ft_11_5 dsM_0 rfl ?_
  refine x_aload_n X dX11_count_5 rfl 0 rfl ?_
  refine x_callVv X [] [] dX11_count_6 (kX11_lay h) cm_X11_lay ci_X11_lay w_7_101 dsM_0 ⟨by decide, by decide⟩ rfl (Nat.le_of_ble_eq_true rfl) (fun σ6 τ6 h => ?_)
  refine x_iload_n X dX11_count_9 rfl 1 rfl ?_
  by_cases hc0 : a1 = 0
  · have h := h.1 hc0
    refine x_tin X 0 64 hc0 dX11_count_10 (by decide) (by decide) (off := 54) (by decide) (by decide) ?_
    exact bX11_count_64 X h
  have h := h.2
  by_cases hc1 : a1 = 1
  · have h := h.1 hc1
    refine x_tin X 1 64 hc1 dX11_count_10 (by decide) (by decide) (off := 54) (by decide) (by decide) ?_
    exact bX11_count_64 X h
  have h := h.2
  by_cases hc2 : a1 = 2
  · have h := h.1 hc2
    refine x_tin X 2 71 hc2 dX11_count_10 (by decide) (by decide) (off := 61) (by decide) (by decide) ?_
    refine x_aload_n X dX11_count_71 rfl 0 rfl ?_
    refine x_callVi X [] [] dX11_count_72 (kX11_allPlaces h) cm_X11_allPlaces ci_X11_allPlaces w_7_207 dsM_0 ⟨by decide, by decide⟩ rfl (Nat.le_of_ble_eq_true rfl) (fun r72 σ72 τ72 h => ?_)
    exact x_iret X dX11_count_75 ⟨_, rfl, h⟩
  have h := h.2
  by_cases hc3 : a1 = 3
  · have h := h.1 hc3
    refine x_tin X 3 76 hc3 dX11_count_10 (by decide) (by decide) (off := 66) (by decide) (by decide) ?_
    refine x_aload_n X dX11_count_76 rfl 0 rfl ?_
    refine x_iconst X dX11_count_77 ki_0 ?_
    refine x_callVi X [.int 0] [] dX11_count_78 (kX11_platoons h) cm_X11_platoons ci_X11_platoons w_7_211 dsM_0 ⟨by decide, by decide⟩ rfl (Nat.le_of_ble_eq_true rfl) (fun r78 σ78 τ78 h => ?_)
    exact x_iret X dX11_count_81 ⟨_, rfl, h⟩
  have h := h.2
  by_cases hc4 : a1 = 4
  · have h := h.1 hc4
    refine x_tin X 4 82 hc4 dX11_count_10 (by decide) (by decide) (off := 72) (by decide) (by decide) ?_
    refine x_aload_n X dX11_count_82 rfl 0 rfl ?_
    refine x_callVi X [] [] dX11_count_83 (kX11_lateSet h) cm_X11_lateSet ci_X11_lateSet w_7_215 dsM_0 ⟨by decide, by decide⟩ rfl (Nat.le_of_ble_eq_true rfl) (fun r83 σ83 τ83 h => ?_)
    refine x_callSi X [.int r83] [] dX11_count_86 (kX11_bits h) cm_X11_bits w_7_228 rfl w_7_227 ⟨by decide, by decide⟩ rfl (Nat.le_of_ble_eq_true rfl) (fun r86 σ86 τ86 h => ?_)
    exact x_iret X dX11_count_89 ⟨_, rfl, h⟩
  have h := h.2
  by_cases hc5 : a1 = 5
  · have h := h.1 hc5
    refine x_tin X 5 90 hc5 dX11_count_10 (by decide) (by decide) (off := 80) (by decide) (by decide) ?_
    refine x_aload_n X dX11_count_90 rfl 0 rfl ?_
    refine x_iconst X dX11_count_91 ki_0 ?_
    refine x_callVi X [.int 0] [] dX11_count_92 (kX11_sumOfAll h) cm_X11_sumOfAll ci_X11_sumOfAll w_7_230 dsM_0 ⟨by decide, by decide⟩ rfl (Nat.le_of_ble_eq_true rfl) (fun r92 σ92 τ92 h => ?_)
    exact x_iret X dX11_count_95 ⟨_, rfl, h⟩
  have h := h.2
  by_cases hc6 : a1 = 6
  · have h := h.1 hc6
    refine x_tin X 6 96 hc6 dX11_count_10 (by decide) (by decide) (off := 86) (by decide) (by decide) ?_
    refine x_aload_n X dX11_count_96 rfl 0 rfl ?_
    refine x_iconst X dX11_count_97 ki_1 ?_
    refine x_callVi X [.int 1] [] dX11_count_98 (kX11_sumOfAll h) cm_X11_sumOfAll ci_X11_sumOfAll w_7_230 dsM_0 ⟨by decide, by decide⟩ rfl (Nat.le_of_ble_eq_true rfl) (fun r98 σ98 τ98 h => ?_)
    exact x_iret X dX11_count_101 ⟨_, rfl, h⟩
  have h := h.2
  by_cases hc7 : a1 = 7
  · have h := h.1 hc7
    refine x_tin X 7 102 hc7 dX11_count_10 (by decide) (by decide) (off := 92) (by decide) (by decide) ?_
    refine x_sipush X dX11_count_102 ks_300 ?_
    refine x_aload_n X dX11_count_105 rfl 0 rfl ?_
    refine x_iconst X dX11_count_106 ki_2 ?_
    refine x_callVi X [.int 2] [.int 300] dX11_count_107 (kX11_sumOfAll h) cm_X11_sumOfAll ci_X11_sumOfAll w_7_230 dsM_0 ⟨by decide, by decide⟩ rfl (Nat.le_of_ble_eq_true rfl) (fun r107 σ107 τ107 h => ?_)
    refine x_imul X dX11_count_110 ?_
    exact x_iret X dX11_count_111 ⟨_, rfl, h⟩
  have h := h.2
  by_cases hc8 : a1 = 8
  · have h := h.1 hc8
    refine x_tin X 8 112 hc8 dX11_count_10 (by decide) (by decide) (off := 102) (by decide) (by decide) ?_
    refine x_aload_n X dX11_count_112 rfl 0 rfl ?_
    refine x_getI X dX11_count_113 fl_11_85 dsM_0 rfl ?_
    exact x_iret X dX11_count_116 ⟨_, rfl, h⟩
  have h := h.2
  by_cases hc9 : a1 = 9
  · have h := h.1 hc9
    refine x_tin X 9 117 hc9 dX11_count_10 (by decide) (by decide) (off := 107) (by decide) (by decide) ?_
    refine x_aload_n X dX11_count_117 rfl 0 rfl ?_
    refine x_iconst X dX11_count_118 ki_1 ?_
    refine x_callVi X [.int 1] [] dX11_count_119 (kX11_platoons h) cm_X11_platoons ci_X11_platoons w_7_211 dsM_0 ⟨by decide, by decide⟩ rfl (Nat.le_of_ble_eq_true rfl) (fun r119 σ119 τ119 h => ?_)
    exact x_iret X dX11_count_122 ⟨_, rfl, h⟩
  have h := h.2
  have he0 := x_toInt_ne (n := 0) hc0 (by decide)
  have he1 := x_toInt_ne (n := 1) hc1 (by decide)
  have he2 := x_toInt_ne (n := 2) hc2 (by decide)
  have he3 := x_toInt_ne (n := 3) hc3 (by decide)
  have he4 := x_toInt_ne (n := 4) hc4 (by decide)
  have he5 := x_toInt_ne (n := 5) hc5 (by decide)
  have he6 := x_toInt_ne (n := 6) hc6 (by decide)
  have he7 := x_toInt_ne (n := 7) hc7 (by decide)
  have he8 := x_toInt_ne (n := 8) hc8 (by decide)
  have he9 := x_toInt_ne (n := 9) hc9 (by decide)
  have h := h hc0 hc1 hc2 hc3 hc4 hc5 hc6 hc7 hc8 hc9
  refine x_tout X 123 dX11_count_10 (by omega) (by decide) ?_
  refine x_iconst X dX11_count_123 ki_m1 ?_
  exact x_iret X dX11_count_124 ⟨_, rfl, h⟩
theorem dX11_comesAhead_0 : decode cX11_comesAhead 0 = .ok (.aload_n 0, 1) := by decide +kernel
theorem dX11_comesAhead_1 : decode cX11_comesAhead 1 = .ok (.getfield 20, 3) := by decide +kernel
theorem dX11_comesAhead_4 : decode cX11_comesAhead 4 = .ok (.iload_n 1, 1) := by decide +kernel
theorem dX11_comesAhead_5 : decode cX11_comesAhead 5 = .ok (.iaload, 1) := by decide +kernel
theorem dX11_comesAhead_6 : decode cX11_comesAhead 6 = .ok (.aload_n 0, 1) := by decide +kernel
theorem dX11_comesAhead_7 : decode cX11_comesAhead 7 = .ok (.getfield 20, 3) := by decide +kernel
theorem dX11_comesAhead_10 : decode cX11_comesAhead 10 = .ok (.iload_n 2, 1) := by decide +kernel
theorem dX11_comesAhead_11 : decode cX11_comesAhead 11 = .ok (.iaload, 1) := by decide +kernel
theorem dX11_comesAhead_12 : decode cX11_comesAhead 12 = .ok (.if_icmp .eq 26, 3) := by decide +kernel
theorem dX11_comesAhead_15 : decode cX11_comesAhead 15 = .ok (.aload_n 0, 1) := by decide +kernel
theorem dX11_comesAhead_16 : decode cX11_comesAhead 16 = .ok (.getfield 20, 3) := by decide +kernel
theorem dX11_comesAhead_19 : decode cX11_comesAhead 19 = .ok (.iload_n 1, 1) := by decide +kernel
theorem dX11_comesAhead_20 : decode cX11_comesAhead 20 = .ok (.iaload, 1) := by decide +kernel
theorem dX11_comesAhead_21 : decode cX11_comesAhead 21 = .ok (.aload_n 0, 1) := by decide +kernel
theorem dX11_comesAhead_22 : decode cX11_comesAhead 22 = .ok (.getfield 20, 3) := by decide +kernel
theorem dX11_comesAhead_25 : decode cX11_comesAhead 25 = .ok (.iload_n 2, 1) := by decide +kernel
theorem dX11_comesAhead_26 : decode cX11_comesAhead 26 = .ok (.iaload, 1) := by decide +kernel
theorem dX11_comesAhead_27 : decode cX11_comesAhead 27 = .ok (.if_icmp .ge 7, 3) := by decide +kernel
theorem dX11_comesAhead_30 : decode cX11_comesAhead 30 = .ok (.iconst 1, 1) := by decide +kernel
theorem dX11_comesAhead_31 : decode cX11_comesAhead 31 = .ok (.goto 18, 3) := by decide +kernel
theorem dX11_comesAhead_34 : decode cX11_comesAhead 34 = .ok (.iconst 0, 1) := by decide +kernel
theorem dX11_comesAhead_35 : decode cX11_comesAhead 35 = .ok (.goto 14, 3) := by decide +kernel
theorem dX11_comesAhead_38 : decode cX11_comesAhead 38 = .ok (.iload_n 3, 1) := by decide +kernel
theorem dX11_comesAhead_39 : decode cX11_comesAhead 39 = .ok (.iload 4, 2) := by decide +kernel
theorem dX11_comesAhead_41 : decode cX11_comesAhead 41 = .ok (.if_icmp .ge 7, 3) := by decide +kernel
theorem dX11_comesAhead_44 : decode cX11_comesAhead 44 = .ok (.iconst 1, 1) := by decide +kernel
theorem dX11_comesAhead_45 : decode cX11_comesAhead 45 = .ok (.goto 4, 3) := by decide +kernel
theorem dX11_comesAhead_48 : decode cX11_comesAhead 48 = .ok (.iconst 0, 1) := by decide +kernel
theorem dX11_comesAhead_49 : decode cX11_comesAhead 49 = .ok (.ireturn, 1) := by decide +kernel
theorem cm_X11_comesAhead : x_CM yX11_comesAhead cX11_comesAhead 5 (Option.some FieldType.boolean) 4 := ⟨w_8_57, w_1_12, by decide +kernel, by decide +kernel⟩
theorem ci_X11_comesAhead : x_CI yX11_comesAhead 13 := ⟨w_8_56, wp_84, (RX11, TX11, 41), rfl, rfl⟩
set_option maxRecDepth 100000 in
set_option maxHeartbeats 4000000 in
theorem bX11_comesAhead_49 {V : x_J} {ad : Nat → Nat} {Q : Int32 → x_S → x_L → Prop} (X : x_Is V cX11_comesAhead 5 RX11 (Option.some FieldType.boolean) ad dsM 0 (x_PI Q)) {s0 : Int32} {σ : x_S} {τ : x_L} (h : wX11_comesAhead_49 Q s0 σ τ) : V σ τ 49 [] [.int s0] := by
  exact x_zret X dX11_comesAhead_49 ⟨h.1, _, rfl, h.2⟩
set_option maxRecDepth 100000 in
set_option maxHeartbeats 4000000 in
theorem kX11_comesAhead {ad : Nat → Nat} {a1 : Int32} {a2 : Int32} {a3 : Int32} {a4 : Int32} {σ : x_S} {τ : x_L} {Q : Int32 → x_S → x_L → Prop} (h : wX11_comesAhead a1 a2 a3 a4 σ τ Q) : x_Met yX11_comesAhead cX11_comesAhead 5 (Option.some FieldType.boolean) 0 ad dsM [.ref (ad 0), .int a1, .int a2, .int a3, .int a4] σ τ (x_PI Q) := by
  refine x_met (by decide +kernel) (Nat.le_of_ble_eq_true rfl) (fun V X => ?_)
  have X : x_Is V cX11_comesAhead 5 RX11 (Option.some FieldType.boolean) ad dsM 0 (x_PI Q) := X
  show V σ τ 0 [(0, .ref (ad 0)), (1, .int a1), (2, .int a2), (3, .int a3), (4, .int a4)] []
  refine x_aload_n X dX11_comesAhead_0 rfl 0 rfl ?_
  refine x_getR X (j := 4) dX11_comesAhead_1 fl_11_20 dsM_0 rfl ?_
  refine x_iload_n X dX11_comesAhead_4 rfl 1 rfl ?_
  have g5 := h.1
  have h := h.2
  refine x_iald X dX11_comesAhead_5 dsM_4 g5 ?_
  refine x_aload_n X dX11_comesAhead_6 rfl 0 rfl ?_
  refine x_getR X (j := 4) dX11_comesAhead_7 fl_11_20 dsM_0 rfl ?_
  refine x_iload_n X dX11_comesAhead_10 rfl 2 rfl ?_
  have g11 := h.1
  have h := h.2
  refine x_iald X dX11_comesAhead_11 dsM_4 g11 ?_
  refine x_icmp_eq X 38 dX11_comesAhead_12 (by decide) (fun hc => ?_) (fun hc => ?_)
  · have h := h.1 hc
    refine x_iload_n X dX11_comesAhead_38 rfl 3 rfl ?_
    refine x_iload X dX11_comesAhead_39 4 rfl ?_
    refine x_icmp_ge X 48 dX11_comesAhead_41 (by decide) (fun hc => ?_) (fun hc => ?_)
    · have h := h.1 hc
      refine x_iconst X dX11_comesAhead_48 ki_0 ?_
      refine x_sub X [] (lv' := []) rfl ?_
      exact bX11_comesAhead_49 X h
    · have h := h.2 hc
      refine x_iconst X dX11_comesAhead_44 ki_1 ?_
      refine x_goto X (tgt := 49) dX11_comesAhead_45 (by decide) ?_
      refine x_sub X [] (lv' := []) rfl ?_
      exact bX11_comesAhead_49 X h
  · have h := h.2 hc
    refine x_aload_n X dX11_comesAhead_15 rfl 0 rfl ?_
    refine x_getR X (j := 4) dX11_comesAhead_16 fl_11_20 dsM_0 rfl ?_
    refine x_iload_n X dX11_comesAhead_19 rfl 1 rfl ?_
    refine x_iald X dX11_comesAhead_20 dsM_4 g5 ?_
    refine x_aload_n X dX11_comesAhead_21 rfl 0 rfl ?_
    refine x_getR X (j := 4) dX11_comesAhead_22 fl_11_20 dsM_0 rfl ?_
    refine x_iload_n X dX11_comesAhead_25 rfl 2 rfl ?_
    refine x_iald X dX11_comesAhead_26 dsM_4 g11 ?_
    refine x_icmp_ge X 34 dX11_comesAhead_27 (by decide) (fun hc => ?_) (fun hc => ?_)
    · have h := h.1 hc
      refine x_iconst X dX11_comesAhead_34 ki_0 ?_
      refine x_goto X (tgt := 49) dX11_comesAhead_35 (by decide) ?_
      refine x_sub X [] (lv' := []) rfl ?_
      exact bX11_comesAhead_49 X h
    · have h := h.2 hc
      refine x_iconst X dX11_comesAhead_30 ki_1 ?_
      refine x_goto X (tgt := 49) dX11_comesAhead_31 (by decide) ?_
      refine x_sub X [] (lv' := []) rfl ?_
      exact bX11_comesAhead_49 X h
theorem dX11_numberOf_0 : decode cX11_numberOf 0 = .ok (.iconst 0, 1) := by decide +kernel
theorem dX11_numberOf_1 : decode cX11_numberOf 1 = .ok (.istore_n 3, 1) := by decide +kernel
theorem dX11_numberOf_2 : decode cX11_numberOf 2 = .ok (.iconst 0, 1) := by decide +kernel
theorem dX11_numberOf_3 : decode cX11_numberOf 3 = .ok (.istore 4, 2) := by decide +kernel
theorem dX11_numberOf_5 : decode cX11_numberOf 5 = .ok (.iload 4, 2) := by decide +kernel
theorem dX11_numberOf_7 : decode cX11_numberOf 7 = .ok (.aload_n 0, 1) := by decide +kernel
theorem dX11_numberOf_8 : decode cX11_numberOf 8 = .ok (.getfield 17, 3) := by decide +kernel
theorem dX11_numberOf_11 : decode cX11_numberOf 11 = .ok (.iconst 1, 1) := by decide +kernel
theorem dX11_numberOf_12 : decode cX11_numberOf 12 = .ok (.iaload, 1) := by decide +kernel
theorem dX11_numberOf_13 : decode cX11_numberOf 13 = .ok (.if_icmp .ge 114, 3) := by decide +kernel
theorem dX11_numberOf_16 : decode cX11_numberOf 16 = .ok (.iconst 0, 1) := by decide +kernel
theorem dX11_numberOf_17 : decode cX11_numberOf 17 = .ok (.istore 5, 2) := by decide +kernel
theorem dX11_numberOf_19 : decode cX11_numberOf 19 = .ok (.iload 5, 2) := by decide +kernel
theorem dX11_numberOf_21 : decode cX11_numberOf 21 = .ok (.aload_n 0, 1) := by decide +kernel
theorem dX11_numberOf_22 : decode cX11_numberOf 22 = .ok (.iload 4, 2) := by decide +kernel
theorem dX11_numberOf_24 : decode cX11_numberOf 24 = .ok (.invokevirtual 107, 3) := by decide +kernel
theorem dX11_numberOf_27 : decode cX11_numberOf 27 = .ok (.if_icmp .ge 94, 3) := by decide +kernel
theorem dX11_numberOf_30 : decode cX11_numberOf 30 = .ok (.aload_n 0, 1) := by decide +kernel
theorem dX11_numberOf_31 : decode cX11_numberOf 31 = .ok (.iload 4, 2) := by decide +kernel
theorem dX11_numberOf_33 : decode cX11_numberOf 33 = .ok (.iload 5, 2) := by decide +kernel
theorem dX11_numberOf_35 : decode cX11_numberOf 35 = .ok (.invokevirtual 114, 3) := by decide +kernel
theorem dX11_numberOf_38 : decode cX11_numberOf 38 = .ok (.aload_n 0, 1) := by decide +kernel
theorem dX11_numberOf_39 : decode cX11_numberOf 39 = .ok (.iload_n 1, 1) := by decide +kernel
theorem dX11_numberOf_40 : decode cX11_numberOf 40 = .ok (.iload_n 2, 1) := by decide +kernel
theorem dX11_numberOf_41 : decode cX11_numberOf 41 = .ok (.invokevirtual 114, 3) := by decide +kernel
theorem dX11_numberOf_44 : decode cX11_numberOf 44 = .ok (.if_icmp .ne 22, 3) := by decide +kernel
theorem dX11_numberOf_47 : decode cX11_numberOf 47 = .ok (.aload_n 0, 1) := by decide +kernel
theorem dX11_numberOf_48 : decode cX11_numberOf 48 = .ok (.getfield 35, 3) := by decide +kernel
theorem dX11_numberOf_51 : decode cX11_numberOf 51 = .ok (.iload 4, 2) := by decide +kernel
theorem dX11_numberOf_53 : decode cX11_numberOf 53 = .ok (.iload 5, 2) := by decide +kernel
theorem dX11_numberOf_55 : decode cX11_numberOf 55 = .ok (.invokestatic 111, 3) := by decide +kernel
theorem dX11_numberOf_58 : decode cX11_numberOf 58 = .ok (.iaload, 1) := by decide +kernel
theorem dX11_numberOf_59 : decode cX11_numberOf 59 = .ok (.ifCond .ne 7, 3) := by decide +kernel
theorem dX11_numberOf_62 : decode cX11_numberOf 62 = .ok (.iconst 1, 1) := by decide +kernel
theorem dX11_numberOf_63 : decode cX11_numberOf 63 = .ok (.goto 4, 3) := by decide +kernel
theorem dX11_numberOf_66 : decode cX11_numberOf 66 = .ok (.iconst 0, 1) := by decide +kernel
theorem dX11_numberOf_67 : decode cX11_numberOf 67 = .ok (.istore 6, 2) := by decide +kernel
theorem dX11_numberOf_69 : decode cX11_numberOf 69 = .ok (.iload_n 3, 1) := by decide +kernel
theorem dX11_numberOf_70 : decode cX11_numberOf 70 = .ok (.iload 6, 2) := by decide +kernel
theorem dX11_numberOf_72 : decode cX11_numberOf 72 = .ok (.ifCond .eq 40, 3) := by decide +kernel
theorem dX11_numberOf_75 : decode cX11_numberOf 75 = .ok (.aload_n 0, 1) := by decide +kernel
theorem dX11_numberOf_76 : decode cX11_numberOf 76 = .ok (.iload 4, 2) := by decide +kernel
theorem dX11_numberOf_78 : decode cX11_numberOf 78 = .ok (.iload 5, 2) := by decide +kernel
theorem dX11_numberOf_80 : decode cX11_numberOf 80 = .ok (.invokestatic 111, 3) := by decide +kernel
theorem dX11_numberOf_83 : decode cX11_numberOf 83 = .ok (.iload_n 1, 1) := by decide +kernel
theorem dX11_numberOf_84 : decode cX11_numberOf 84 = .ok (.iload_n 2, 1) := by decide +kernel
theorem dX11_numberOf_85 : decode cX11_numberOf 85 = .ok (.invokestatic 111, 3) := by decide +kernel
theorem dX11_numberOf_88 : decode cX11_numberOf 88 = .ok (.aload_n 0, 1) := by decide +kernel
theorem dX11_numberOf_89 : decode cX11_numberOf 89 = .ok (.iload 4, 2) := by decide +kernel
theorem dX11_numberOf_91 : decode cX11_numberOf 91 = .ok (.iload 5, 2) := by decide +kernel
theorem dX11_numberOf_93 : decode cX11_numberOf 93 = .ok (.invokevirtual 120, 3) := by decide +kernel
theorem dX11_numberOf_96 : decode cX11_numberOf 96 = .ok (.aload_n 0, 1) := by decide +kernel
theorem dX11_numberOf_97 : decode cX11_numberOf 97 = .ok (.iload_n 1, 1) := by decide +kernel
theorem dX11_numberOf_98 : decode cX11_numberOf 98 = .ok (.iload_n 2, 1) := by decide +kernel
theorem dX11_numberOf_99 : decode cX11_numberOf 99 = .ok (.invokevirtual 120, 3) := by decide +kernel
theorem dX11_numberOf_102 : decode cX11_numberOf 102 = .ok (.invokevirtual 220, 3) := by decide +kernel
theorem dX11_numberOf_105 : decode cX11_numberOf 105 = .ok (.ifCond .eq 7, 3) := by decide +kernel
theorem dX11_numberOf_108 : decode cX11_numberOf 108 = .ok (.iconst 1, 1) := by decide +kernel
theorem dX11_numberOf_109 : decode cX11_numberOf 109 = .ok (.goto 4, 3) := by decide +kernel
theorem dX11_numberOf_112 : decode cX11_numberOf 112 = .ok (.iconst 0, 1) := by decide +kernel
theorem dX11_numberOf_113 : decode cX11_numberOf 113 = .ok (.iadd, 1) := by decide +kernel
theorem dX11_numberOf_114 : decode cX11_numberOf 114 = .ok (.istore_n 3, 1) := by decide +kernel
theorem dX11_numberOf_115 : decode cX11_numberOf 115 = .ok (.iinc 5 1, 3) := by decide +kernel
theorem dX11_numberOf_118 : decode cX11_numberOf 118 = .ok (.goto (-99), 3) := by decide +kernel
theorem dX11_numberOf_121 : decode cX11_numberOf 121 = .ok (.iinc 4 1, 3) := by decide +kernel
theorem dX11_numberOf_124 : decode cX11_numberOf 124 = .ok (.goto (-119), 3) := by decide +kernel
theorem dX11_numberOf_127 : decode cX11_numberOf 127 = .ok (.iload_n 3, 1) := by decide +kernel
theorem dX11_numberOf_128 : decode cX11_numberOf 128 = .ok (.ireturn, 1) := by decide +kernel
theorem cm_X11_numberOf : x_CM yX11_numberOf cX11_numberOf 7 (Option.some FieldType.int) 2 := ⟨w_8_53, w_1_12, by decide +kernel, by decide +kernel⟩
theorem ci_X11_numberOf : x_CI yX11_numberOf 13 := ⟨w_8_52, wp_83, (RX11, TX11, 41), rfl, rfl⟩
set_option maxRecDepth 100000 in
set_option maxHeartbeats 4000000 in
theorem bX11_numberOf_113 {V : x_J} {ad : Nat → Nat} {Q : Int32 → x_S → x_L → Prop} (X : x_Is V cX11_numberOf 7 RX11 (Option.some FieldType.int) ad dsM 2 (x_PI Q)) {K5 : Int32 → Int32 → Int32 → Int32 → x_S → x_L → Prop} {K19 : Int32 → Int32 → Int32 → Int32 → Int32 → x_S → x_L → Prop} (hK5 : ∀ v1 v2 v3 v4 σ τ, K5 v1 v2 v3 v4 σ τ → V σ τ 5 [(0, .ref (ad 0)), (1, .int v1), (2, .int v2), (3, .int v3), (4, .int v4)] []) (hK19 : ∀ v1 v2 v3 v4 v5 σ τ, K19 v1 v2 v3 v4 v5 σ τ → V σ τ 19 [(0, .ref (ad 0)), (1, .int v1), (2, .int v2), (3, .int v3), (4, .int v4), (5, .int v5)] []) {v1 : Int32} {v2 : Int32} {v4 : Int32} {v5 : Int32} {s0 : Int32} {s1 : Int32} {σ : x_S} {τ : x_L} (h : wX11_numberOf_113 K5 K19 Q v1 v2 v4 v5 s0 s1 σ τ) : V σ τ 113 [(0, .ref (ad 0)), (1, .int v1), (2, .int v2), (4, .int v4), (5, .int v5)] [.int s1, .int s0] := by
  refine x_iadd X dX11_numberOf_113 ?_
  refine x_istore_n X (lv' := [(3, .int (s0 + s1)), (0, .ref (ad 0)), (1, .int v1), (2, .int v2), (4, .int v4), (5, .int v5)]) dX11_numberOf_114 rfl (by decide) rfl ?_
  refine x_iinc X (k := 5) (lv' := [(5, .int (v5 + 1)), (3, .int (s0 + s1)), (0, .ref (ad 0)), (1, .int v1), (2, .int v2), (4, .int v4)]) dX11_numberOf_115 rfl ki_1 (by decide) rfl ?_
  refine x_goto X (tgt := 19) dX11_numberOf_118 (by decide) ?_
  refine x_sub X [2, 3, 4, 1, 5, 0] (lv' := [(0, .ref (ad 0)), (1, .int v1), (2, .int v2), (3, .int (s0 + s1)), (4, .int v4), (5, .int (v5 + 1))]) rfl ?_
  exact hK19 _ _ _ _ _ _ _ h
set_option maxRecDepth 100000 in
set_option maxHeartbeats 4000000 in
theorem bX11_numberOf_112 {V : x_J} {ad : Nat → Nat} {Q : Int32 → x_S → x_L → Prop} (X : x_Is V cX11_numberOf 7 RX11 (Option.some FieldType.int) ad dsM 2 (x_PI Q)) {K5 : Int32 → Int32 → Int32 → Int32 → x_S → x_L → Prop} {K19 : Int32 → Int32 → Int32 → Int32 → Int32 → x_S → x_L → Prop} (hK5 : ∀ v1 v2 v3 v4 σ τ, K5 v1 v2 v3 v4 σ τ → V σ τ 5 [(0, .ref (ad 0)), (1, .int v1), (2, .int v2), (3, .int v3), (4, .int v4)] []) (hK19 : ∀ v1 v2 v3 v4 v5 σ τ, K19 v1 v2 v3 v4 v5 σ τ → V σ τ 19 [(0, .ref (ad 0)), (1, .int v1), (2, .int v2), (3, .int v3), (4, .int v4), (5, .int v5)] []) {v1 : Int32} {v2 : Int32} {v4 : Int32} {v5 : Int32} {s0 : Int32} {σ : x_S} {τ : x_L} (h : wX11_numberOf_112 K5 K19 Q v1 v2 v4 v5 s0 σ τ) : V σ τ 112 [(0, .ref (ad 0)), (1, .int v1), (2, .int v2), (4, .int v4), (5, .int v5)] [.int s0] := by
  refine x_iconst X dX11_numberOf_112 ki_0 ?_
  exact bX11_numberOf_113 X hK5 hK19 h
set_option maxRecDepth 100000 in
set_option maxHeartbeats 4000000 in
theorem bX11_numberOf_67 {V : x_J} {ad : Nat → Nat} {Q : Int32 → x_S → x_L → Prop} (X : x_Is V cX11_numberOf 7 RX11 (Option.some FieldType.int) ad dsM 2 (x_PI Q)) {K5 : Int32 → Int32 → Int32 → Int32 → x_S → x_L → Prop} {K19 : Int32 → Int32 → Int32 → Int32 → Int32 → x_S → x_L → Prop} (hK5 : ∀ v1 v2 v3 v4 σ τ, K5 v1 v2 v3 v4 σ τ → V σ τ 5 [(0, .ref (ad 0)), (1, .int v1), (2, .int v2), (3, .int v3), (4, .int v4)] []) (hK19 : ∀ v1 v2 v3 v4 v5 σ τ, K19 v1 v2 v3 v4 v5 σ τ → V σ τ 19 [(0, .ref (ad 0)), (1, .int v1), (2, .int v2), (3, .int v3), (4, .int v4), (5, .int v5)] []) {v1 : Int32} {v2 : Int32} {v3 : Int32} {v4 : Int32} {v5 : Int32} {s0 : Int32} {σ : x_S} {τ : x_L} (h : wX11_numberOf_67 K5 K19 Q v1 v2 v3 v4 v5 s0 σ τ) : V σ τ 67 [(0, .ref (ad 0)), (1, .int v1), (2, .int v2), (3, .int v3), (4, .int v4), (5, .int v5)] [.int s0] := by
  refine x_istore X (lv' := [(6, .int s0), (0, .ref (ad 0)), (1, .int v1), (2, .int v2), (3, .int v3), (4, .int v4), (5, .int v5)]) dX11_numberOf_67 (by decide) rfl ?_
  refine x_iload_n X dX11_numberOf_69 rfl 4 rfl ?_
  refine x_iload X dX11_numberOf_70 0 rfl ?_
  refine x_if_eq X 112 dX11_numberOf_72 (by decide) (fun hc => ?_) (fun hc => ?_)
  · have h := h.1 hc
    refine x_sub X [1, 2, 3, 5, 6] (lv' := [(0, .ref (ad 0)), (1, .int v1), (2, .int v2), (4, .int v4), (5, .int v5)]) rfl ?_
    exact bX11_numberOf_112 X hK5 hK19 h
  · have h := h.2 hc
    refine x_aload_n X dX11_numberOf_75 rfl 1 rfl ?_
    refine x_iload X dX11_numberOf_76 5 rfl ?_
    refine x_iload X dX11_numberOf_78 6 rfl ?_
    refine x_callSi X [.int v4, .int v5] [.ref (ad 0), .int v3] dX11_numberOf_80 (kX11_spot h) cm_X11_spot w_7_118 rfl w_7_117 ⟨by decide, by decide⟩ rfl (Nat.le_of_ble_eq_true rfl) (fun r80 σ80 τ80 h => ?_)
    refine x_iload_n X dX11_numberOf_83 rfl 2 rfl ?_
    refine x_iload_n X dX11_numberOf_84 rfl 3 rfl ?_
    refine x_callSi X [.int v1, .int v2] [.int r80, .ref (ad 0), .int v3] dX11_numberOf_85 (kX11_spot h) cm_X11_spot w_7_118 rfl w_7_117 ⟨by decide, by decide⟩ rfl (Nat.le_of_ble_eq_true rfl) (fun r85 σ85 τ85 h => ?_)
    refine x_aload_n X dX11_numberOf_88 rfl 1 rfl ?_
    refine x_iload X dX11_numberOf_89 5 rfl ?_
    refine x_iload X dX11_numberOf_91 6 rfl ?_
    refine x_callVi X [.int v4, .int v5] [.int r85, .int r80, .ref (ad 0), .int v3] dX11_numberOf_93 (kX11_speedAt h) cm_X11_speedAt ci_X11_speedAt w_7_128 dsM_0 ⟨by decide, by decide⟩ rfl (Nat.le_of_ble_eq_true rfl) (fun r93 σ93 τ93 h => ?_)
    refine x_aload_n X dX11_numberOf_96 rfl 1 rfl ?_
    refine x_iload_n X dX11_numberOf_97 rfl 2 rfl ?_
    refine x_iload_n X dX11_numberOf_98 rfl 3 rfl ?_
    refine x_callVi X [.int v1, .int v2] [.int r93, .int r85, .int r80, .ref (ad 0), .int v3] dX11_numberOf_99 (kX11_speedAt h) cm_X11_speedAt ci_X11_speedAt w_7_128 dsM_0 ⟨by decide, by decide⟩ rfl (Nat.le_of_ble_eq_true rfl) (fun r99 σ99 τ99 h => ?_)
    refine x_callVi X [.int r80, .int r85, .int r93, .int r99] [.int v3] dX11_numberOf_102 (kX11_comesAhead h) cm_X11_comesAhead ci_X11_comesAhead w_8_54 dsM_0 ⟨by decide, by decide⟩ rfl (Nat.le_of_ble_eq_true rfl) (fun r102 σ102 τ102 h => ?_)
    refine x_if_eq X 112 dX11_numberOf_105 (by decide) (fun hc => ?_) (fun hc => ?_)
    · have h := h.1 hc
      refine x_sub X [1, 2, 3, 5, 6] (lv' := [(0, .ref (ad 0)), (1, .int v1), (2, .int v2), (4, .int v4), (5, .int v5)]) rfl ?_
      exact bX11_numberOf_112 X hK5 hK19 h
    · have h := h.2 hc
      refine x_iconst X dX11_numberOf_108 ki_1 ?_
      refine x_goto X (tgt := 113) dX11_numberOf_109 (by decide) ?_
      refine x_sub X [1, 2, 3, 5, 6] (lv' := [(0, .ref (ad 0)), (1, .int v1), (2, .int v2), (4, .int v4), (5, .int v5)]) rfl ?_
      exact bX11_numberOf_113 X hK5 hK19 h
set_option maxRecDepth 100000 in
set_option maxHeartbeats 4000000 in
theorem bX11_numberOf_66 {V : x_J} {ad : Nat → Nat} {Q : Int32 → x_S → x_L → Prop} (X : x_Is V cX11_numberOf 7 RX11 (Option.some FieldType.int) ad dsM 2 (x_PI Q)) {K5 : Int32 → Int32 → Int32 → Int32 → x_S → x_L → Prop} {K19 : Int32 → Int32 → Int32 → Int32 → Int32 → x_S → x_L → Prop} (hK5 : ∀ v1 v2 v3 v4 σ τ, K5 v1 v2 v3 v4 σ τ → V σ τ 5 [(0, .ref (ad 0)), (1, .int v1), (2, .int v2), (3, .int v3), (4, .int v4)] []) (hK19 : ∀ v1 v2 v3 v4 v5 σ τ, K19 v1 v2 v3 v4 v5 σ τ → V σ τ 19 [(0, .ref (ad 0)), (1, .int v1), (2, .int v2), (3, .int v3), (4, .int v4), (5, .int v5)] []) {v1 : Int32} {v2 : Int32} {v3 : Int32} {v4 : Int32} {v5 : Int32} {σ : x_S} {τ : x_L} (h : wX11_numberOf_66 K5 K19 Q v1 v2 v3 v4 v5 σ τ) : V σ τ 66 [(0, .ref (ad 0)), (1, .int v1), (2, .int v2), (3, .int v3), (4, .int v4), (5, .int v5)] [] := by
  refine x_iconst X dX11_numberOf_66 ki_0 ?_
  exact bX11_numberOf_67 X hK5 hK19 h
set_option maxRecDepth 100000 in
set_option maxHeartbeats 4000000 in
theorem bX11_numberOf_19 {V : x_J} {ad : Nat → Nat} {Q : Int32 → x_S → x_L → Prop} (X : x_Is V cX11_numberOf 7 RX11 (Option.some FieldType.int) ad dsM 2 (x_PI Q)) {K5 : Int32 → Int32 → Int32 → Int32 → x_S → x_L → Prop} {K19 : Int32 → Int32 → Int32 → Int32 → Int32 → x_S → x_L → Prop} (hK5 : ∀ v1 v2 v3 v4 σ τ, K5 v1 v2 v3 v4 σ τ → V σ τ 5 [(0, .ref (ad 0)), (1, .int v1), (2, .int v2), (3, .int v3), (4, .int v4)] []) (hK19 : ∀ v1 v2 v3 v4 v5 σ τ, K19 v1 v2 v3 v4 v5 σ τ → V σ τ 19 [(0, .ref (ad 0)), (1, .int v1), (2, .int v2), (3, .int v3), (4, .int v4), (5, .int v5)] []) {v1 : Int32} {v2 : Int32} {v3 : Int32} {v4 : Int32} {v5 : Int32} {σ : x_S} {τ : x_L} (h : wX11_numberOf_19 K5 Q K19 v1 v2 v3 v4 v5 σ τ) : V σ τ 19 [(0, .ref (ad 0)), (1, .int v1), (2, .int v2), (3, .int v3), (4, .int v4), (5, .int v5)] [] := by
  refine x_iload X dX11_numberOf_19 5 rfl ?_
  refine x_aload_n X dX11_numberOf_21 rfl 0 rfl ?_
  refine x_iload X dX11_numberOf_22 4 rfl ?_
  refine x_callVi X [.int v4] [.int v5] dX11_numberOf_24 (kX11_placesOf h) cm_X11_placesOf ci_X11_placesOf w_7_109 dsM_0 ⟨by decide, by decide⟩ rfl (Nat.le_of_ble_eq_true rfl) (fun r24 σ24 τ24 h => ?_)
  refine x_icmp_ge X 121 dX11_numberOf_27 (by decide) (fun hc => ?_) (fun hc => ?_)
  · have h := h.1 hc
    refine x_iinc X (k := 4) (lv' := [(4, .int (v4 + 1)), (0, .ref (ad 0)), (1, .int v1), (2, .int v2), (3, .int v3), (5, .int v5)]) dX11_numberOf_121 rfl ki_1 (by decide) rfl ?_
    refine x_goto X (tgt := 5) dX11_numberOf_124 (by decide) ?_
    refine x_sub X [1, 2, 3, 4, 0] (lv' := [(0, .ref (ad 0)), (1, .int v1), (2, .int v2), (3, .int v3), (4, .int (v4 + 1))]) rfl ?_
    exact hK5 _ _ _ _ _ _ h
  · have h := h.2 hc
    refine x_aload_n X dX11_numberOf_30 rfl 0 rfl ?_
    refine x_iload X dX11_numberOf_31 4 rfl ?_
    refine x_iload X dX11_numberOf_33 5 rfl ?_
    refine x_callVi X [.int v4, .int v5] [] dX11_numberOf_35 (kX11_roadAt h) cm_X11_roadAt ci_X11_roadAt w_7_124 dsM_0 ⟨by decide, by decide⟩ rfl (Nat.le_of_ble_eq_true rfl) (fun r35 σ35 τ35 h => ?_)
    refine x_aload_n X dX11_numberOf_38 rfl 0 rfl ?_
    refine x_iload_n X dX11_numberOf_39 rfl 1 rfl ?_
    refine x_iload_n X dX11_numberOf_40 rfl 2 rfl ?_
    refine x_callVi X [.int v1, .int v2] [.int r35] dX11_numberOf_41 (kX11_roadAt h) cm_X11_roadAt ci_X11_roadAt w_7_124 dsM_0 ⟨by decide, by decide⟩ rfl (Nat.le_of_ble_eq_true rfl) (fun r41 σ41 τ41 h => ?_)
    refine x_icmp_ne X 66 dX11_numberOf_44 (by decide) (fun hc => ?_) (fun hc => ?_)
    · have h := h.1 hc
      exact bX11_numberOf_66 X hK5 hK19 h
    · have h := h.2 hc
      refine x_aload_n X dX11_numberOf_47 rfl 0 rfl ?_
      refine x_getR X (j := 9) dX11_numberOf_48 fl_11_35 dsM_0 rfl ?_
      refine x_iload X dX11_numberOf_51 4 rfl ?_
      refine x_iload X dX11_numberOf_53 5 rfl ?_
      refine x_callSi X [.int v4, .int v5] [.ref (ad 9)] dX11_numberOf_55 (kX11_spot h) cm_X11_spot w_7_118 rfl w_7_117 ⟨by decide, by decide⟩ rfl (Nat.le_of_ble_eq_true rfl) (fun r55 σ55 τ55 h => ?_)
      have g58 := h.1
      have h := h.2
      refine x_iald X dX11_numberOf_58 dsM_9 g58 ?_
      refine x_if_ne X 66 dX11_numberOf_59 (by decide) (fun hc => ?_) (fun hc => ?_)
      · have h := h.1 hc
        exact bX11_numberOf_66 X hK5 hK19 h
      · have h := h.2 hc
        refine x_iconst X dX11_numberOf_62 ki_1 ?_
        refine x_goto X (tgt := 67) dX11_numberOf_63 (by decide) ?_
        exact bX11_numberOf_67 X hK5 hK19 h
set_option maxRecDepth 100000 in
set_option maxHeartbeats 4000000 in
theorem bX11_numberOf_5 {V : x_J} {ad : Nat → Nat} {Q : Int32 → x_S → x_L → Prop} (X : x_Is V cX11_numberOf 7 RX11 (Option.some FieldType.int) ad dsM 2 (x_PI Q)) {K5 : Int32 → Int32 → Int32 → Int32 → x_S → x_L → Prop} (hK5 : ∀ v1 v2 v3 v4 σ τ, K5 v1 v2 v3 v4 σ τ → V σ τ 5 [(0, .ref (ad 0)), (1, .int v1), (2, .int v2), (3, .int v3), (4, .int v4)] []) {v1 : Int32} {v2 : Int32} {v3 : Int32} {v4 : Int32} {σ : x_S} {τ : x_L} (h : wX11_numberOf_5 Q K5 v1 v2 v3 v4 σ τ) : V σ τ 5 [(0, .ref (ad 0)), (1, .int v1), (2, .int v2), (3, .int v3), (4, .int v4)] [] := by
  refine x_iload X dX11_numberOf_5 4 rfl ?_
  refine x_aload_n X dX11_numberOf_7 rfl 0 rfl ?_
  refine x_getR X (j := 3) dX11_numberOf_8 fl_11_17 dsM_0 rfl ?_
  refine x_iconst X dX11_numberOf_11 ki_1 ?_
  refine x_iald X dX11_numberOf_12 dsM_3 (x_inl (by decide)) ?_
  refine x_icmp_ge X 127 dX11_numberOf_13 (by decide) (fun hc => ?_) (fun hc => ?_)
  · have h := h.1 hc
    refine x_iload_n X dX11_numberOf_127 rfl 3 rfl ?_
    exact x_iret X dX11_numberOf_128 ⟨_, rfl, h⟩
  · have h := h.2 hc
    refine x_iconst X dX11_numberOf_16 ki_0 ?_
    refine x_istore X (lv' := [(5, .int 0), (0, .ref (ad 0)), (1, .int v1), (2, .int v2), (3, .int v3), (4, .int v4)]) dX11_numberOf_17 (by decide) rfl ?_
    refine x_sub X [1, 2, 3, 4, 5, 0] (lv' := [(0, .ref (ad 0)), (1, .int v1), (2, .int v2), (3, .int v3), (4, .int v4), (5, .int 0)]) rfl ?_
    exact x_l5_G (fun v1 v2 v3 v4 v5 σ τ => V σ τ 19 [(0, .ref (ad 0)), (1, .int v1), (2, .int v2), (3, .int v3), (4, .int v4), (5, .int v5)] []) (fun K19 hK19 v1 v2 v3 v4 v5 σ τ h => bX11_numberOf_19 X hK5 hK19 h) h
set_option maxRecDepth 100000 in
set_option maxHeartbeats 4000000 in
theorem kX11_numberOf {ad : Nat → Nat} {a1 : Int32} {a2 : Int32} {σ : x_S} {τ : x_L} {Q : Int32 → x_S → x_L → Prop} (h : wX11_numberOf a1 a2 σ τ Q) : x_Met yX11_numberOf cX11_numberOf 7 (Option.some FieldType.int) 2 ad dsM [.ref (ad 0), .int a1, .int a2] σ τ (x_PI Q) := by
  refine x_met (by decide +kernel) (Nat.le_of_ble_eq_true rfl) (fun V X => ?_)
  have X : x_Is V cX11_numberOf 7 RX11 (Option.some FieldType.int) ad dsM 2 (x_PI Q) := X
  show V σ τ 0 [(0, .ref (ad 0)), (1, .int a1), (2, .int a2)] []
  refine x_iconst X dX11_numberOf_0 ki_0 ?_
  refine x_istore_n X (lv' := [(3, .int 0), (0, .ref (ad 0)), (1, .int a1), (2, .int a2)]) dX11_numberOf_1 rfl (by decide) rfl ?_
  refine x_iconst X dX11_numberOf_2 ki_0 ?_
  refine x_istore X (lv' := [(4, .int 0), (3, .int 0), (0, .ref (ad 0)), (1, .int a1), (2, .int a2)]) dX11_numberOf_3 (by decide) rfl ?_
  refine x_sub X [2, 3, 4, 1, 0] (lv' := [(0, .ref (ad 0)), (1, .int a1), (2, .int a2), (3, .int 0), (4, .int 0)]) rfl ?_
  exact x_l4_G (fun v1 v2 v3 v4 σ τ => V σ τ 5 [(0, .ref (ad 0)), (1, .int v1), (2, .int v2), (3, .int v3), (4, .int v4)] []) (fun K5 hK5 v1 v2 v3 v4 σ τ h => bX11_numberOf_5 X hK5 h) h
theorem dX11_platoonsOn_0 : decode cX11_platoonsOn 0 = .ok (.iconst 0, 1) := by decide +kernel
theorem dX11_platoonsOn_1 : decode cX11_platoonsOn 1 = .ok (.istore_n 2, 1) := by decide +kernel
theorem dX11_platoonsOn_2 : decode cX11_platoonsOn 2 = .ok (.iconst 0, 1) := by decide +kernel
theorem dX11_platoonsOn_3 : decode cX11_platoonsOn 3 = .ok (.istore_n 3, 1) := by decide +kernel
theorem dX11_platoonsOn_4 : decode cX11_platoonsOn 4 = .ok (.iload_n 3, 1) := by decide +kernel
theorem dX11_platoonsOn_5 : decode cX11_platoonsOn 5 = .ok (.aload_n 0, 1) := by decide +kernel
theorem dX11_platoonsOn_6 : decode cX11_platoonsOn 6 = .ok (.getfield 17, 3) := by decide +kernel
theorem dX11_platoonsOn_9 : decode cX11_platoonsOn 9 = .ok (.iconst 1, 1) := by decide +kernel
theorem dX11_platoonsOn_10 : decode cX11_platoonsOn 10 = .ok (.iaload, 1) := by decide +kernel
theorem dX11_platoonsOn_11 : decode cX11_platoonsOn 11 = .ok (.if_icmp .ge 61, 3) := by decide +kernel
theorem dX11_platoonsOn_14 : decode cX11_platoonsOn 14 = .ok (.iconst 0, 1) := by decide +kernel
theorem dX11_platoonsOn_15 : decode cX11_platoonsOn 15 = .ok (.istore 4, 2) := by decide +kernel
theorem dX11_platoonsOn_17 : decode cX11_platoonsOn 17 = .ok (.iload 4, 2) := by decide +kernel
theorem dX11_platoonsOn_19 : decode cX11_platoonsOn 19 = .ok (.aload_n 0, 1) := by decide +kernel
theorem dX11_platoonsOn_20 : decode cX11_platoonsOn 20 = .ok (.iload_n 3, 1) := by decide +kernel
theorem dX11_platoonsOn_21 : decode cX11_platoonsOn 21 = .ok (.invokevirtual 107, 3) := by decide +kernel
theorem dX11_platoonsOn_24 : decode cX11_platoonsOn 24 = .ok (.if_icmp .ge 42, 3) := by decide +kernel
theorem dX11_platoonsOn_27 : decode cX11_platoonsOn 27 = .ok (.iload_n 2, 1) := by decide +kernel
theorem dX11_platoonsOn_28 : decode cX11_platoonsOn 28 = .ok (.aload_n 0, 1) := by decide +kernel
theorem dX11_platoonsOn_29 : decode cX11_platoonsOn 29 = .ok (.iload_n 3, 1) := by decide +kernel
theorem dX11_platoonsOn_30 : decode cX11_platoonsOn 30 = .ok (.iload 4, 2) := by decide +kernel
theorem dX11_platoonsOn_32 : decode cX11_platoonsOn 32 = .ok (.invokevirtual 114, 3) := by decide +kernel
theorem dX11_platoonsOn_35 : decode cX11_platoonsOn 35 = .ok (.iload_n 1, 1) := by decide +kernel
theorem dX11_platoonsOn_36 : decode cX11_platoonsOn 36 = .ok (.if_icmp .ne 21, 3) := by decide +kernel
theorem dX11_platoonsOn_39 : decode cX11_platoonsOn 39 = .ok (.aload_n 0, 1) := by decide +kernel
theorem dX11_platoonsOn_40 : decode cX11_platoonsOn 40 = .ok (.getfield 35, 3) := by decide +kernel
theorem dX11_platoonsOn_43 : decode cX11_platoonsOn 43 = .ok (.iload_n 3, 1) := by decide +kernel
theorem dX11_platoonsOn_44 : decode cX11_platoonsOn 44 = .ok (.iload 4, 2) := by decide +kernel
theorem dX11_platoonsOn_46 : decode cX11_platoonsOn 46 = .ok (.invokestatic 111, 3) := by decide +kernel
theorem dX11_platoonsOn_49 : decode cX11_platoonsOn 49 = .ok (.iaload, 1) := by decide +kernel
theorem dX11_platoonsOn_50 : decode cX11_platoonsOn 50 = .ok (.ifCond .ne 7, 3) := by decide +kernel
theorem dX11_platoonsOn_53 : decode cX11_platoonsOn 53 = .ok (.iconst 1, 1) := by decide +kernel
theorem dX11_platoonsOn_54 : decode cX11_platoonsOn 54 = .ok (.goto 4, 3) := by decide +kernel
theorem dX11_platoonsOn_57 : decode cX11_platoonsOn 57 = .ok (.iconst 0, 1) := by decide +kernel
theorem dX11_platoonsOn_58 : decode cX11_platoonsOn 58 = .ok (.iadd, 1) := by decide +kernel
theorem dX11_platoonsOn_59 : decode cX11_platoonsOn 59 = .ok (.istore_n 2, 1) := by decide +kernel
theorem dX11_platoonsOn_60 : decode cX11_platoonsOn 60 = .ok (.iinc 4 1, 3) := by decide +kernel
theorem dX11_platoonsOn_63 : decode cX11_platoonsOn 63 = .ok (.goto (-46), 3) := by decide +kernel
theorem dX11_platoonsOn_66 : decode cX11_platoonsOn 66 = .ok (.iinc 3 1, 3) := by decide +kernel
theorem dX11_platoonsOn_69 : decode cX11_platoonsOn 69 = .ok (.goto (-65), 3) := by decide +kernel
theorem dX11_platoonsOn_72 : decode cX11_platoonsOn 72 = .ok (.iload_n 2, 1) := by decide +kernel
theorem dX11_platoonsOn_73 : decode cX11_platoonsOn 73 = .ok (.ireturn, 1) := by decide +kernel
theorem cm_X11_platoonsOn : x_CM yX11_platoonsOn cX11_platoonsOn 5 (Option.some FieldType.int) 1 := ⟨w_8_17, w_1_12, by decide +kernel, by decide +kernel⟩
theorem ci_X11_platoonsOn : x_CI yX11_platoonsOn 13 := ⟨w_8_16, wp_77, (RX11, TX11, 41), rfl, rfl⟩
set_option maxRecDepth 100000 in
set_option maxHeartbeats 4000000 in
theorem bX11_platoonsOn_58 {V : x_J} {ad : Nat → Nat} {Q : Int32 → x_S → x_L → Prop} (X : x_Is V cX11_platoonsOn 5 RX11 (Option.some FieldType.int) ad dsM 2 (x_PI Q)) {K4 : Int32 → Int32 → Int32 → x_S → x_L → Prop} {K17 : Int32 → Int32 → Int32 → Int32 → x_S → x_L → Prop} (hK4 : ∀ v1 v2 v3 σ τ, K4 v1 v2 v3 σ τ → V σ τ 4 [(0, .ref (ad 0)), (1, .int v1), (2, .int v2), (3, .int v3)] []) (hK17 : ∀ v1 v2 v3 v4 σ τ, K17 v1 v2 v3 v4 σ τ → V σ τ 17 [(0, .ref (ad 0)), (1, .int v1), (2, .int v2), (3, .int v3), (4, .int v4)] []) {v1 : Int32} {v3 : Int32} {v4 : Int32} {s0 : Int32} {s1 : Int32} {σ : x_S} {τ : x_L} (h : wX11_platoonsOn_58 K4 K17 Q v1 v3 v4 s0 s1 σ τ) : V σ τ 58 [(0, .ref (ad 0)), (1, .int v1), (3, .int v3), (4, .int v4)] [.int s1, .int s0] := by
  refine x_iadd X dX11_platoonsOn_58 ?_
  refine x_istore_n X (lv' := [(2, .int (s0 + s1)), (0, .ref (ad 0)), (1, .int v1), (3, .int v3), (4, .int v4)]) dX11_platoonsOn_59 rfl (by decide) rfl ?_
  refine x_iinc X (k := 4) (lv' := [(4, .int (v4 + 1)), (2, .int (s0 + s1)), (0, .ref (ad 0)), (1, .int v1), (3, .int v3)]) dX11_platoonsOn_60 rfl ki_1 (by decide) rfl ?_
  refine x_goto X (tgt := 17) dX11_platoonsOn_63 (by decide) ?_
  refine x_sub X [2, 3, 1, 4, 0] (lv' := [(0, .ref (ad 0)), (1, .int v1), (2, .int (s0 + s1)), (3, .int v3), (4, .int (v4 + 1))]) rfl ?_
  exact hK17 _ _ _ _ _ _ h
set_option maxRecDepth 100000 in
set_option maxHeartbeats 4000000 in
theorem bX11_platoonsOn_57 {V : x_J} {ad : Nat → Nat} {Q : Int32 → x_S → x_L → Prop} (X : x_Is V cX11_platoonsOn 5 RX11 (Option.some FieldType.int) ad dsM 2 (x_PI Q)) {K4 : Int32 → Int32 → Int32 → x_S → x_L → Prop} {K17 : Int32 → Int32 → Int32 → Int32 → x_S → x_L → Prop} (hK4 : ∀ v1 v2 v3 σ τ, K4 v1 v2 v3 σ τ → V σ τ 4 [(0, .ref (ad 0)), (1, .int v1), (2, .int v2), (3, .int v3)] []) (hK17 : ∀ v1 v2 v3 v4 σ τ, K17 v1 v2 v3 v4 σ τ → V σ τ 17 [(0, .ref (ad 0)), (1, .int v1), (2, .int v2), (3, .int v3), (4, .int v4)] []) {v1 : Int32} {v3 : Int32} {v4 : Int32} {s0 : Int32} {σ : x_S} {τ : x_L} (h : wX11_platoonsOn_57 K4 K17 Q v1 v3 v4 s0 σ τ) : V σ τ 57 [(0, .ref (ad 0)), (1, .int v1), (3, .int v3), (4, .int v4)] [.int s0] := by
  refine x_iconst X dX11_platoonsOn_57 ki_0 ?_
  exact bX11_platoonsOn_58 X hK4 hK17 h
set_option maxRecDepth 100000 in
set_option maxHeartbeats 4000000 in
theorem bX11_platoonsOn_17 {V : x_J} {ad : Nat → Nat} {Q : Int32 → x_S → x_L → Prop} (X : x_Is V cX11_platoonsOn 5 RX11 (Option.some FieldType.int) ad dsM 2 (x_PI Q)) {K4 : Int32 → Int32 → Int32 → x_S → x_L → Prop} {K17 : Int32 → Int32 → Int32 → Int32 → x_S → x_L → Prop} (hK4 : ∀ v1 v2 v3 σ τ, K4 v1 v2 v3 σ τ → V σ τ 4 [(0, .ref (ad 0)), (1, .int v1), (2, .int v2), (3, .int v3)] []) (hK17 : ∀ v1 v2 v3 v4 σ τ, K17 v1 v2 v3 v4 σ τ → V σ τ 17 [(0, .ref (ad 0)), (1, .int v1), (2, .int v2), (3, .int v3), (4, .int v4)] []) {v1 : Int32} {v2 : Int32} {v3 : Int32} {v4 : Int32} {σ : x_S} {τ : x_L} (h : wX11_platoonsOn_17 K4 Q K17 v1 v2 v3 v4 σ τ) : V σ τ 17 [(0, .ref (ad 0)), (1, .int v1), (2, .int v2), (3, .int v3), (4, .int v4)] [] := by
  refine x_iload X dX11_platoonsOn_17 4 rfl ?_
  refine x_aload_n X dX11_platoonsOn_19 rfl 0 rfl ?_
  refine x_iload_n X dX11_platoonsOn_20 rfl 3 rfl ?_
  refine x_callVi X [.int v3] [.int v4] dX11_platoonsOn_21 (kX11_placesOf h) cm_X11_placesOf ci_X11_placesOf w_7_109 dsM_0 ⟨by decide, by decide⟩ rfl (Nat.le_of_ble_eq_true rfl) (fun r21 σ21 τ21 h => ?_)
  refine x_icmp_ge X 66 dX11_platoonsOn_24 (by decide) (fun hc => ?_) (fun hc => ?_)
  · have h := h.1 hc
    refine x_iinc X (k := 3) (lv' := [(3, .int (v3 + 1)), (0, .ref (ad 0)), (1, .int v1), (2, .int v2), (4, .int v4)]) dX11_platoonsOn_66 rfl ki_1 (by decide) rfl ?_
    refine x_goto X (tgt := 4) dX11_platoonsOn_69 (by decide) ?_
    refine x_sub X [1, 2, 3, 0] (lv' := [(0, .ref (ad 0)), (1, .int v1), (2, .int v2), (3, .int (v3 + 1))]) rfl ?_
    exact hK4 _ _ _ _ _ h
  · have h := h.2 hc
    refine x_iload_n X dX11_platoonsOn_27 rfl 2 rfl ?_
    refine x_aload_n X dX11_platoonsOn_28 rfl 0 rfl ?_
    refine x_iload_n X dX11_platoonsOn_29 rfl 3 rfl ?_
    refine x_iload X dX11_platoonsOn_30 4 rfl ?_
    refine x_callVi X [.int v3, .int v4] [.int v2] dX11_platoonsOn_32 (kX11_roadAt h) cm_X11_roadAt ci_X11_roadAt w_7_124 dsM_0 ⟨by decide, by decide⟩ rfl (Nat.le_of_ble_eq_true rfl) (fun r32 σ32 τ32 h => ?_)
    refine x_iload_n X dX11_platoonsOn_35 rfl 1 rfl ?_
    refine x_icmp_ne X 57 dX11_platoonsOn_36 (by decide) (fun hc => ?_) (fun hc => ?_)
    · have h := h.1 hc
      refine x_sub X [0, 1, 3, 4] (lv' := [(0, .ref (ad 0)), (1, .int v1), (3, .int v3), (4, .int v4)]) rfl ?_
      exact bX11_platoonsOn_57 X hK4 hK17 h
    · have h := h.2 hc
      refine x_aload_n X dX11_platoonsOn_39 rfl 0 rfl ?_
      refine x_getR X (j := 9) dX11_platoonsOn_40 fl_11_35 dsM_0 rfl ?_
      refine x_iload_n X dX11_platoonsOn_43 rfl 3 rfl ?_
      refine x_iload X dX11_platoonsOn_44 4 rfl ?_
      refine x_callSi X [.int v3, .int v4] [.ref (ad 9), .int v2] dX11_platoonsOn_46 (kX11_spot h) cm_X11_spot w_7_118 rfl w_7_117 ⟨by decide, by decide⟩ rfl (Nat.le_of_ble_eq_true rfl) (fun r46 σ46 τ46 h => ?_)
      have g49 := h.1
      have h := h.2
      refine x_iald X dX11_platoonsOn_49 dsM_9 g49 ?_
      refine x_if_ne X 57 dX11_platoonsOn_50 (by decide) (fun hc => ?_) (fun hc => ?_)
      · have h := h.1 hc
        refine x_sub X [0, 1, 3, 4] (lv' := [(0, .ref (ad 0)), (1, .int v1), (3, .int v3), (4, .int v4)]) rfl ?_
        exact bX11_platoonsOn_57 X hK4 hK17 h
      · have h := h.2 hc
        refine x_iconst X dX11_platoonsOn_53 ki_1 ?_
        refine x_goto X (tgt := 58) dX11_platoonsOn_54 (by decide) ?_
        refine x_sub X [0, 1, 3, 4] (lv' := [(0, .ref (ad 0)), (1, .int v1), (3, .int v3), (4, .int v4)]) rfl ?_
        exact bX11_platoonsOn_58 X hK4 hK17 h
set_option maxRecDepth 100000 in
set_option maxHeartbeats 4000000 in
theorem bX11_platoonsOn_4 {V : x_J} {ad : Nat → Nat} {Q : Int32 → x_S → x_L → Prop} (X : x_Is V cX11_platoonsOn 5 RX11 (Option.some FieldType.int) ad dsM 2 (x_PI Q)) {K4 : Int32 → Int32 → Int32 → x_S → x_L → Prop} (hK4 : ∀ v1 v2 v3 σ τ, K4 v1 v2 v3 σ τ → V σ τ 4 [(0, .ref (ad 0)), (1, .int v1), (2, .int v2), (3, .int v3)] []) {v1 : Int32} {v2 : Int32} {v3 : Int32} {σ : x_S} {τ : x_L} (h : wX11_platoonsOn_4 Q K4 v1 v2 v3 σ τ) : V σ τ 4 [(0, .ref (ad 0)), (1, .int v1), (2, .int v2), (3, .int v3)] [] := by
  refine x_iload_n X dX11_platoonsOn_4 rfl 3 rfl ?_
  refine x_aload_n X dX11_platoonsOn_5 rfl 0 rfl ?_
  refine x_getR X (j := 3) dX11_platoonsOn_6 fl_11_17 dsM_0 rfl ?_
  refine x_iconst X dX11_platoonsOn_9 ki_1 ?_
  refine x_iald X dX11_platoonsOn_10 dsM_3 (x_inl (by decide)) ?_
  refine x_icmp_ge X 72 dX11_platoonsOn_11 (by decide) (fun hc => ?_) (fun hc => ?_)
  · have h := h.1 hc
    refine x_iload_n X dX11_platoonsOn_72 rfl 2 rfl ?_
    exact x_iret X dX11_platoonsOn_73 ⟨_, rfl, h⟩
  · have h := h.2 hc
    refine x_iconst X dX11_platoonsOn_14 ki_0 ?_
    refine x_istore X (lv' := [(4, .int 0), (0, .ref (ad 0)), (1, .int v1), (2, .int v2), (3, .int v3)]) dX11_platoonsOn_15 (by decide) rfl ?_
    refine x_sub X [1, 2, 3, 4, 0] (lv' := [(0, .ref (ad 0)), (1, .int v1), (2, .int v2), (3, .int v3), (4, .int 0)]) rfl ?_
    exact x_l4_G (fun v1 v2 v3 v4 σ τ => V σ τ 17 [(0, .ref (ad 0)), (1, .int v1), (2, .int v2), (3, .int v3), (4, .int v4)] []) (fun K17 hK17 v1 v2 v3 v4 σ τ h => bX11_platoonsOn_17 X hK4 hK17 h) h
set_option maxRecDepth 100000 in
set_option maxHeartbeats 4000000 in
theorem kX11_platoonsOn {ad : Nat → Nat} {a1 : Int32} {σ : x_S} {τ : x_L} {Q : Int32 → x_S → x_L → Prop} (h : wX11_platoonsOn a1 σ τ Q) : x_Met yX11_platoonsOn cX11_platoonsOn 5 (Option.some FieldType.int) 2 ad dsM [.ref (ad 0), .int a1] σ τ (x_PI Q) := by
  refine x_met (by decide +kernel) (Nat.le_of_ble_eq_true rfl) (fun V X => ?_)
  have X : x_Is V cX11_platoonsOn 5 RX11 (Option.some FieldType.int) ad dsM 2 (x_PI Q) := X
  show V σ τ 0 [(0, .ref (ad 0)), (1, .int a1)] []
  refine x_iconst X dX11_platoonsOn_0 ki_0 ?_
  refine x_istore_n X (lv' := [(2, .int 0), (0, .ref (ad 0)), (1, .int a1)]) dX11_platoonsOn_1 rfl (by decide) rfl ?_
  refine x_iconst X dX11_platoonsOn_2 ki_0 ?_
  refine x_istore_n X (lv' := [(3, .int 0), (2, .int 0), (0, .ref (ad 0)), (1, .int a1)]) dX11_platoonsOn_3 rfl (by decide) rfl ?_
  refine x_sub X [2, 3, 1, 0] (lv' := [(0, .ref (ad 0)), (1, .int a1), (2, .int 0), (3, .int 0)]) rfl ?_
  exact x_l3_G (fun v1 v2 v3 σ τ => V σ τ 4 [(0, .ref (ad 0)), (1, .int v1), (2, .int v2), (3, .int v3)] []) (fun K4 hK4 v1 v2 v3 σ τ h => bX11_platoonsOn_4 X hK4 h) h
theorem dX11_findPlatoon_0 : decode cX11_findPlatoon 0 = .ok (.aload_n 0, 1) := by decide +kernel
theorem dX11_findPlatoon_1 : decode cX11_findPlatoon 1 = .ok (.iconst 0, 1) := by decide +kernel
theorem dX11_findPlatoon_2 : decode cX11_findPlatoon 2 = .ok (.putfield 223, 3) := by decide +kernel
theorem dX11_findPlatoon_5 : decode cX11_findPlatoon 5 = .ok (.aload_n 0, 1) := by decide +kernel
theorem dX11_findPlatoon_6 : decode cX11_findPlatoon 6 = .ok (.getfield 223, 3) := by decide +kernel
theorem dX11_findPlatoon_9 : decode cX11_findPlatoon 9 = .ok (.aload_n 0, 1) := by decide +kernel
theorem dX11_findPlatoon_10 : decode cX11_findPlatoon 10 = .ok (.getfield 17, 3) := by decide +kernel
theorem dX11_findPlatoon_13 : decode cX11_findPlatoon 13 = .ok (.iconst 1, 1) := by decide +kernel
theorem dX11_findPlatoon_14 : decode cX11_findPlatoon 14 = .ok (.iaload, 1) := by decide +kernel
theorem dX11_findPlatoon_15 : decode cX11_findPlatoon 15 = .ok (.if_icmp .ge 102, 3) := by decide +kernel
theorem dX11_findPlatoon_18 : decode cX11_findPlatoon 18 = .ok (.aload_n 0, 1) := by decide +kernel
theorem dX11_findPlatoon_19 : decode cX11_findPlatoon 19 = .ok (.iconst 0, 1) := by decide +kernel
theorem dX11_findPlatoon_20 : decode cX11_findPlatoon 20 = .ok (.putfield 226, 3) := by decide +kernel
theorem dX11_findPlatoon_23 : decode cX11_findPlatoon 23 = .ok (.aload_n 0, 1) := by decide +kernel
theorem dX11_findPlatoon_24 : decode cX11_findPlatoon 24 = .ok (.getfield 226, 3) := by decide +kernel
theorem dX11_findPlatoon_27 : decode cX11_findPlatoon 27 = .ok (.aload_n 0, 1) := by decide +kernel
theorem dX11_findPlatoon_28 : decode cX11_findPlatoon 28 = .ok (.aload_n 0, 1) := by decide +kernel
theorem dX11_findPlatoon_29 : decode cX11_findPlatoon 29 = .ok (.getfield 223, 3) := by decide +kernel
theorem dX11_findPlatoon_32 : decode cX11_findPlatoon 32 = .ok (.invokevirtual 107, 3) := by decide +kernel
theorem dX11_findPlatoon_35 : decode cX11_findPlatoon 35 = .ok (.if_icmp .ge 69, 3) := by decide +kernel
theorem dX11_findPlatoon_38 : decode cX11_findPlatoon 38 = .ok (.aload_n 0, 1) := by decide +kernel
theorem dX11_findPlatoon_39 : decode cX11_findPlatoon 39 = .ok (.aload_n 0, 1) := by decide +kernel
theorem dX11_findPlatoon_40 : decode cX11_findPlatoon 40 = .ok (.getfield 223, 3) := by decide +kernel
theorem dX11_findPlatoon_43 : decode cX11_findPlatoon 43 = .ok (.aload_n 0, 1) := by decide +kernel
theorem dX11_findPlatoon_44 : decode cX11_findPlatoon 44 = .ok (.getfield 226, 3) := by decide +kernel
theorem dX11_findPlatoon_47 : decode cX11_findPlatoon 47 = .ok (.invokevirtual 114, 3) := by decide +kernel
theorem dX11_findPlatoon_50 : decode cX11_findPlatoon 50 = .ok (.iload_n 1, 1) := by decide +kernel
theorem dX11_findPlatoon_51 : decode cX11_findPlatoon 51 = .ok (.if_icmp .ne 40, 3) := by decide +kernel
theorem dX11_findPlatoon_54 : decode cX11_findPlatoon 54 = .ok (.aload_n 0, 1) := by decide +kernel
theorem dX11_findPlatoon_55 : decode cX11_findPlatoon 55 = .ok (.getfield 35, 3) := by decide +kernel
theorem dX11_findPlatoon_58 : decode cX11_findPlatoon 58 = .ok (.aload_n 0, 1) := by decide +kernel
theorem dX11_findPlatoon_59 : decode cX11_findPlatoon 59 = .ok (.getfield 223, 3) := by decide +kernel
theorem dX11_findPlatoon_62 : decode cX11_findPlatoon 62 = .ok (.aload_n 0, 1) := by decide +kernel
theorem dX11_findPlatoon_63 : decode cX11_findPlatoon 63 = .ok (.getfield 226, 3) := by decide +kernel
theorem dX11_findPlatoon_66 : decode cX11_findPlatoon 66 = .ok (.invokestatic 111, 3) := by decide +kernel
theorem dX11_findPlatoon_69 : decode cX11_findPlatoon 69 = .ok (.iaload, 1) := by decide +kernel
theorem dX11_findPlatoon_70 : decode cX11_findPlatoon 70 = .ok (.ifCond .ne 21, 3) := by decide +kernel
theorem dX11_findPlatoon_73 : decode cX11_findPlatoon 73 = .ok (.aload_n 0, 1) := by decide +kernel
theorem dX11_findPlatoon_74 : decode cX11_findPlatoon 74 = .ok (.aload_n 0, 1) := by decide +kernel
theorem dX11_findPlatoon_75 : decode cX11_findPlatoon 75 = .ok (.getfield 223, 3) := by decide +kernel
theorem dX11_findPlatoon_78 : decode cX11_findPlatoon 78 = .ok (.aload_n 0, 1) := by decide +kernel
theorem dX11_findPlatoon_79 : decode cX11_findPlatoon 79 = .ok (.getfield 226, 3) := by decide +kernel
theorem dX11_findPlatoon_82 : decode cX11_findPlatoon 82 = .ok (.invokevirtual 229, 3) := by decide +kernel
theorem dX11_findPlatoon_85 : decode cX11_findPlatoon 85 = .ok (.iload_n 2, 1) := by decide +kernel
theorem dX11_findPlatoon_86 : decode cX11_findPlatoon 86 = .ok (.if_icmp .ne 5, 3) := by decide +kernel
theorem dX11_findPlatoon_89 : decode cX11_findPlatoon 89 = .ok (.iconst 1, 1) := by decide +kernel
theorem dX11_findPlatoon_90 : decode cX11_findPlatoon 90 = .ok (.ireturn, 1) := by decide +kernel
theorem dX11_findPlatoon_91 : decode cX11_findPlatoon 91 = .ok (.aload_n 0, 1) := by decide +kernel
theorem dX11_findPlatoon_92 : decode cX11_findPlatoon 92 = .ok (.dup, 1) := by decide +kernel
theorem dX11_findPlatoon_93 : decode cX11_findPlatoon 93 = .ok (.getfield 226, 3) := by decide +kernel
theorem dX11_findPlatoon_96 : decode cX11_findPlatoon 96 = .ok (.iconst 1, 1) := by decide +kernel
theorem dX11_findPlatoon_97 : decode cX11_findPlatoon 97 = .ok (.iadd, 1) := by decide +kernel
theorem dX11_findPlatoon_98 : decode cX11_findPlatoon 98 = .ok (.putfield 226, 3) := by decide +kernel
theorem dX11_findPlatoon_101 : decode cX11_findPlatoon 101 = .ok (.goto (-78), 3) := by decide +kernel
theorem dX11_findPlatoon_104 : decode cX11_findPlatoon 104 = .ok (.aload_n 0, 1) := by decide +kernel
theorem dX11_findPlatoon_105 : decode cX11_findPlatoon 105 = .ok (.dup, 1) := by decide +kernel
theorem dX11_findPlatoon_106 : decode cX11_findPlatoon 106 = .ok (.getfield 223, 3) := by decide +kernel
theorem dX11_findPlatoon_109 : decode cX11_findPlatoon 109 = .ok (.iconst 1, 1) := by decide +kernel
theorem dX11_findPlatoon_110 : decode cX11_findPlatoon 110 = .ok (.iadd, 1) := by decide +kernel
theorem dX11_findPlatoon_111 : decode cX11_findPlatoon 111 = .ok (.putfield 223, 3) := by decide +kernel
theorem dX11_findPlatoon_114 : decode cX11_findPlatoon 114 = .ok (.goto (-109), 3) := by decide +kernel
theorem dX11_findPlatoon_117 : decode cX11_findPlatoon 117 = .ok (.iconst 0, 1) := by decide +kernel
theorem dX11_findPlatoon_118 : decode cX11_findPlatoon 118 = .ok (.ireturn, 1) := by decide +kernel
theorem cm_X11_findPlatoon : x_CM yX11_findPlatoon cX11_findPlatoon 3 (Option.some FieldType.boolean) 2 := ⟨w_8_77, w_1_12, by decide +kernel, by decide +kernel⟩
theorem ci_X11_findPlatoon : x_CI yX11_findPlatoon 13 := ⟨w_8_76, wp_86, (RX11, TX11, 41), rfl, rfl⟩
set_option maxRecDepth 100000 in
set_option maxHeartbeats 4000000 in
theorem bX11_findPlatoon_91 {V : x_J} {ad : Nat → Nat} {Q : Int32 → x_S → x_L → Prop} (X : x_Is V cX11_findPlatoon 3 RX11 (Option.some FieldType.boolean) ad dsM 3 (x_PI Q)) {K5 : Int32 → Int32 → x_S → x_L → Prop} {K23 : Int32 → Int32 → x_S → x_L → Prop} (hK5 : ∀ v1 v2 σ τ, K5 v1 v2 σ τ → V σ τ 5 [(0, .ref (ad 0)), (1, .int v1), (2, .int v2)] []) (hK23 : ∀ v1 v2 σ τ, K23 v1 v2 σ τ → V σ τ 23 [(0, .ref (ad 0)), (1, .int v1), (2, .int v2)] []) {v1 : Int32} {v2 : Int32} {σ : x_S} {τ : x_L} (h : wX11_findPlatoon_91 K5 K23 Q v1 v2 σ τ) : V σ τ 91 [(0, .ref (ad 0)), (1, .int v1), (2, .int v2)] [] := by
  refine x_aload_n X dX11_findPlatoon_91 rfl 0 rfl ?_
  refine x_dup X dX11_findPlatoon_92 rfl ?_
  refine x_getI X dX11_findPlatoon_93 fl_11_226 dsM_0 rfl ?_
  refine x_iconst X dX11_findPlatoon_96 ki_1 ?_
  refine x_iadd X dX11_findPlatoon_97 ?_
  refine x_putI X dX11_findPlatoon_98 fl_11_226 ft_11_18 dsM_0 rfl ?_
  refine x_goto X (tgt := 23) dX11_findPlatoon_101 (by decide) ?_
  exact hK23 _ _ _ _ h
set_option maxRecDepth 100000 in
set_option maxHeartbeats 4000000 in
theorem bX11_findPlatoon_23 {V : x_J} {ad : Nat → Nat} {Q : Int32 → x_S → x_L → Prop} (X : x_Is V cX11_findPlatoon 3 RX11 (Option.some FieldType.boolean) ad dsM 3 (x_PI Q)) {K5 : Int32 → Int32 → x_S → x_L → Prop} {K23 : Int32 → Int32 → x_S → x_L → Prop} (hK5 : ∀ v1 v2 σ τ, K5 v1 v2 σ τ → V σ τ 5 [(0, .ref (ad 0)), (1, .int v1), (2, .int v2)] []) (hK23 : ∀ v1 v2 σ τ, K23 v1 v2 σ τ → V σ τ 23 [(0, .ref (ad 0)), (1, .int v1), (2, .int v2)] []) {v1 : Int32} {v2 : Int32} {σ : x_S} {τ : x_L} (h : wX11_findPlatoon_23 K5 Q K23 v1 v2 σ τ) : V σ τ 23 [(0, .ref (ad 0)), (1, .int v1), (2, .int v2)] [] := by
  refine x_aload_n X dX11_findPlatoon_23 rfl 0 rfl ?_
  refine x_getI X dX11_findPlatoon_24 fl_11_226 dsM_0 rfl ?_
  refine x_aload_n X dX11_findPlatoon_27 rfl 0 rfl ?_
  refine x_aload_n X dX11_findPlatoon_28 rfl 0 rfl ?_
  refine x_getI X dX11_findPlatoon_29 fl_11_223 dsM_0 rfl ?_
  refine x_callVi X [.int (σ 0 17)] [.int (σ 0 18)] dX11_findPlatoon_32 (kX11_placesOf h) cm_X11_placesOf ci_X11_placesOf w_7_109 dsM_0 ⟨by decide, by decide⟩ rfl (Nat.le_of_ble_eq_true rfl) (fun r32 σ32 τ32 h => ?_)
  refine x_icmp_ge X 104 dX11_findPlatoon_35 (by decide) (fun hc => ?_) (fun hc => ?_)
  · have h := h.1 hc
    refine x_aload_n X dX11_findPlatoon_104 rfl 0 rfl ?_
    refine x_dup X dX11_findPlatoon_105 rfl ?_
    refine x_getI X dX11_findPlatoon_106 fl_11_223 dsM_0 rfl ?_
    refine x_iconst X dX11_findPlatoon_109 ki_1 ?_
    refine x_iadd X dX11_findPlatoon_110 ?_
    refine x_putI X dX11_findPlatoon_111 fl_11_223 ft_11_17 dsM_0 rfl ?_
    refine x_goto X (tgt := 5) dX11_findPlatoon_114 (by decide) ?_
    exact hK5 _ _ _ _ h
  · have h := h.2 hc
    refine x_aload_n X dX11_findPlatoon_38 rfl 0 rfl ?_
    refine x_aload_n X dX11_findPlatoon_39 rfl 0 rfl ?_
    refine x_getI X dX11_findPlatoon_40 fl_11_223 dsM_0 rfl ?_
    refine x_aload_n X dX11_findPlatoon_43 rfl 0 rfl ?_
    refine x_getI X dX11_findPlatoon_44 fl_11_226 dsM_0 rfl ?_
    refine x_callVi X [.int (σ32 0 17), .int (σ32 0 18)] [] dX11_findPlatoon_47 (kX11_roadAt h) cm_X11_roadAt ci_X11_roadAt w_7_124 dsM_0 ⟨by decide, by decide⟩ rfl (Nat.le_of_ble_eq_true rfl) (fun r47 σ47 τ47 h => ?_)
    refine x_iload_n X dX11_findPlatoon_50 rfl 1 rfl ?_
    refine x_icmp_ne X 91 dX11_findPlatoon_51 (by decide) (fun hc => ?_) (fun hc => ?_)
    · have h := h.1 hc
      exact bX11_findPlatoon_91 X hK5 hK23 h
    · have h := h.2 hc
      refine x_aload_n X dX11_findPlatoon_54 rfl 0 rfl ?_
      refine x_getR X (j := 9) dX11_findPlatoon_55 fl_11_35 dsM_0 rfl ?_
      refine x_aload_n X dX11_findPlatoon_58 rfl 0 rfl ?_
      refine x_getI X dX11_findPlatoon_59 fl_11_223 dsM_0 rfl ?_
      refine x_aload_n X dX11_findPlatoon_62 rfl 0 rfl ?_
      refine x_getI X dX11_findPlatoon_63 fl_11_226 dsM_0 rfl ?_
      refine x_callSi X [.int (σ47 0 17), .int (σ47 0 18)] [.ref (ad 9)] dX11_findPlatoon_66 (kX11_spot h) cm_X11_spot w_7_118 rfl w_7_117 ⟨by decide, by decide⟩ rfl (Nat.le_of_ble_eq_true rfl) (fun r66 σ66 τ66 h => ?_)
      have g69 := h.1
      have h := h.2
      refine x_iald X dX11_findPlatoon_69 dsM_9 g69 ?_
      refine x_if_ne X 91 dX11_findPlatoon_70 (by decide) (fun hc => ?_) (fun hc => ?_)
      · have h := h.1 hc
        exact bX11_findPlatoon_91 X hK5 hK23 h
      · have h := h.2 hc
        refine x_aload_n X dX11_findPlatoon_73 rfl 0 rfl ?_
        refine x_aload_n X dX11_findPlatoon_74 rfl 0 rfl ?_
        refine x_getI X dX11_findPlatoon_75 fl_11_223 dsM_0 rfl ?_
        refine x_aload_n X dX11_findPlatoon_78 rfl 0 rfl ?_
        refine x_getI X dX11_findPlatoon_79 fl_11_226 dsM_0 rfl ?_
        refine x_callVi X [.int (σ66 0 17), .int (σ66 0 18)] [] dX11_findPlatoon_82 (kX11_numberOf h) cm_X11_numberOf ci_X11_numberOf w_8_50 dsM_0 ⟨by decide, by decide⟩ rfl (Nat.le_of_ble_eq_true rfl) (fun r82 σ82 τ82 h => ?_)
        refine x_iload_n X dX11_findPlatoon_85 rfl 2 rfl ?_
        refine x_icmp_ne X 91 dX11_findPlatoon_86 (by decide) (fun hc => ?_) (fun hc => ?_)
        · have h := h.1 hc
          exact bX11_findPlatoon_91 X hK5 hK23 h
        · have h := h.2 hc
          refine x_iconst X dX11_findPlatoon_89 ki_1 ?_
          exact x_zret X dX11_findPlatoon_90 ⟨Or.inr rfl, _, rfl, h⟩
set_option maxRecDepth 100000 in
set_option maxHeartbeats 4000000 in
theorem bX11_findPlatoon_5 {V : x_J} {ad : Nat → Nat} {Q : Int32 → x_S → x_L → Prop} (X : x_Is V cX11_findPlatoon 3 RX11 (Option.some FieldType.boolean) ad dsM 3 (x_PI Q)) {K5 : Int32 → Int32 → x_S → x_L → Prop} (hK5 : ∀ v1 v2 σ τ, K5 v1 v2 σ τ → V σ τ 5 [(0, .ref (ad 0)), (1, .int v1), (2, .int v2)] []) {v1 : Int32} {v2 : Int32} {σ : x_S} {τ : x_L} (h : wX11_findPlatoon_5 Q K5 v1 v2 σ τ) : V σ τ 5 [(0, .ref (ad 0)), (1, .int v1), (2, .int v2)] [] := by
  refine x_aload_n X dX11_findPlatoon_5 rfl 0 rfl ?_
  refine x_getI X dX11_findPlatoon_6 fl_11_223 dsM_0 rfl ?_
  refine x_aload_n X dX11_findPlatoon_9 rfl 0 rfl ?_
  refine x_getR X (j := 3) dX11_findPlatoon_10 fl_11_17 dsM_0 rfl ?_
  refine x_iconst X dX11_findPlatoon_13 ki_1 ?_
  refine x_iald X dX11_findPlatoon_14 dsM_3 (x_inl (by decide)) ?_
  refine x_icmp_ge X 117 dX11_findPlatoon_15 (by decide) (fun hc => ?_) (fun hc => ?_)
  · have h := h.1 hc
    refine x_iconst X dX11_findPlatoon_117 ki_0 ?_
    exact x_zret X dX11_findPlatoon_118 ⟨Or.inl rfl, _, rfl, h⟩
  · have h := h.2 hc
    refine x_aload_n X dX11_findPlatoon_18 rfl 0 rfl ?_
    refine x_iconst X dX11_findPlatoon_19 ki_0 ?_
    refine x_putI X dX11_findPlatoon_20 fl_11_226 ft_11_18 dsM_0 rfl ?_
    exact x_l2_G (fun v1 v2 σ τ => V σ τ 23 [(0, .ref (ad 0)), (1, .int v1), (2, .int v2)] []) (fun K23 hK23 v1 v2 σ τ h => bX11_findPlatoon_23 X hK5 hK23 h) h
set_option maxRecDepth 100000 in
set_option maxHeartbeats 4000000 in
theorem kX11_findPlatoon {ad : Nat → Nat} {a1 : Int32} {a2 : Int32} {σ : x_S} {τ : x_L} {Q : Int32 → x_S → x_L → Prop} (h : wX11_findPlatoon a1 a2 σ τ Q) : x_Met yX11_findPlatoon cX11_findPlatoon 3 (Option.some FieldType.boolean) 3 ad dsM [.ref (ad 0), .int a1, .int a2] σ τ (x_PI Q) := by
  refine x_met (by decide +kernel) (Nat.le_of_ble_eq_true rfl) (fun V X => ?_)
  have X : x_Is V cX11_findPlatoon 3 RX11 (Option.some FieldType.boolean) ad dsM 3 (x_PI Q) := X
  show V σ τ 0 [(0, .ref (ad 0)), (1, .int a1), (2, .int a2)] []
  refine x_aload_n X dX11_findPlatoon_0 rfl 0 rfl ?_
  refine x_iconst X dX11_findPlatoon_1 ki_0 ?_
  refine x_putI X dX11_findPlatoon_2 fl_11_223 ft_11_17 dsM_0 rfl ?_
  exact x_l2_G (fun v1 v2 σ τ => V σ τ 5 [(0, .ref (ad 0)), (1, .int v1), (2, .int v2)] []) (fun K5 hK5 v1 v2 σ τ h => bX11_findPlatoon_5 X hK5 h) h
theorem dX11_trucksOn_0 : decode cX11_trucksOn 0 = .ok (.iconst 0, 1) := by decide +kernel
theorem dX11_trucksOn_1 : decode cX11_trucksOn 1 = .ok (.istore_n 2, 1) := by decide +kernel
theorem dX11_trucksOn_2 : decode cX11_trucksOn 2 = .ok (.iconst 0, 1) := by decide +kernel
theorem dX11_trucksOn_3 : decode cX11_trucksOn 3 = .ok (.istore_n 3, 1) := by decide +kernel
theorem dX11_trucksOn_4 : decode cX11_trucksOn 4 = .ok (.iload_n 3, 1) := by decide +kernel
theorem dX11_trucksOn_5 : decode cX11_trucksOn 5 = .ok (.aload_n 0, 1) := by decide +kernel
theorem dX11_trucksOn_6 : decode cX11_trucksOn 6 = .ok (.getfield 17, 3) := by decide +kernel
theorem dX11_trucksOn_9 : decode cX11_trucksOn 9 = .ok (.iconst 1, 1) := by decide +kernel
theorem dX11_trucksOn_10 : decode cX11_trucksOn 10 = .ok (.iaload, 1) := by decide +kernel
theorem dX11_trucksOn_11 : decode cX11_trucksOn 11 = .ok (.if_icmp .ge 65, 3) := by decide +kernel
theorem dX11_trucksOn_14 : decode cX11_trucksOn 14 = .ok (.iconst 0, 1) := by decide +kernel
theorem dX11_trucksOn_15 : decode cX11_trucksOn 15 = .ok (.istore 4, 2) := by decide +kernel
theorem dX11_trucksOn_17 : decode cX11_trucksOn 17 = .ok (.iconst 0, 1) := by decide +kernel
theorem dX11_trucksOn_18 : decode cX11_trucksOn 18 = .ok (.istore 5, 2) := by decide +kernel
theorem dX11_trucksOn_20 : decode cX11_trucksOn 20 = .ok (.iload 5, 2) := by decide +kernel
theorem dX11_trucksOn_22 : decode cX11_trucksOn 22 = .ok (.aload_n 0, 1) := by decide +kernel
theorem dX11_trucksOn_23 : decode cX11_trucksOn 23 = .ok (.iload_n 3, 1) := by decide +kernel
theorem dX11_trucksOn_24 : decode cX11_trucksOn 24 = .ok (.invokevirtual 107, 3) := by decide +kernel
theorem dX11_trucksOn_27 : decode cX11_trucksOn 27 = .ok (.if_icmp .ge 30, 3) := by decide +kernel
theorem dX11_trucksOn_30 : decode cX11_trucksOn 30 = .ok (.iload 4, 2) := by decide +kernel
theorem dX11_trucksOn_32 : decode cX11_trucksOn 32 = .ok (.aload_n 0, 1) := by decide +kernel
theorem dX11_trucksOn_33 : decode cX11_trucksOn 33 = .ok (.iload_n 3, 1) := by decide +kernel
theorem dX11_trucksOn_34 : decode cX11_trucksOn 34 = .ok (.iload 5, 2) := by decide +kernel
theorem dX11_trucksOn_36 : decode cX11_trucksOn 36 = .ok (.invokevirtual 114, 3) := by decide +kernel
theorem dX11_trucksOn_39 : decode cX11_trucksOn 39 = .ok (.iload_n 1, 1) := by decide +kernel
theorem dX11_trucksOn_40 : decode cX11_trucksOn 40 = .ok (.if_icmp .ne 7, 3) := by decide +kernel
theorem dX11_trucksOn_43 : decode cX11_trucksOn 43 = .ok (.iconst 1, 1) := by decide +kernel
theorem dX11_trucksOn_44 : decode cX11_trucksOn 44 = .ok (.goto 4, 3) := by decide +kernel
theorem dX11_trucksOn_47 : decode cX11_trucksOn 47 = .ok (.iconst 0, 1) := by decide +kernel
theorem dX11_trucksOn_48 : decode cX11_trucksOn 48 = .ok (.ior, 1) := by decide +kernel
theorem dX11_trucksOn_49 : decode cX11_trucksOn 49 = .ok (.istore 4, 2) := by decide +kernel
theorem dX11_trucksOn_51 : decode cX11_trucksOn 51 = .ok (.iinc 5 1, 3) := by decide +kernel
theorem dX11_trucksOn_54 : decode cX11_trucksOn 54 = .ok (.goto (-34), 3) := by decide +kernel
theorem dX11_trucksOn_57 : decode cX11_trucksOn 57 = .ok (.iload_n 2, 1) := by decide +kernel
theorem dX11_trucksOn_58 : decode cX11_trucksOn 58 = .ok (.iload 4, 2) := by decide +kernel
theorem dX11_trucksOn_60 : decode cX11_trucksOn 60 = .ok (.ifCond .eq 7, 3) := by decide +kernel
theorem dX11_trucksOn_63 : decode cX11_trucksOn 63 = .ok (.iconst 1, 1) := by decide +kernel
theorem dX11_trucksOn_64 : decode cX11_trucksOn 64 = .ok (.goto 4, 3) := by decide +kernel
theorem dX11_trucksOn_67 : decode cX11_trucksOn 67 = .ok (.iconst 0, 1) := by decide +kernel
theorem dX11_trucksOn_68 : decode cX11_trucksOn 68 = .ok (.iadd, 1) := by decide +kernel
theorem dX11_trucksOn_69 : decode cX11_trucksOn 69 = .ok (.istore_n 2, 1) := by decide +kernel
theorem dX11_trucksOn_70 : decode cX11_trucksOn 70 = .ok (.iinc 3 1, 3) := by decide +kernel
theorem dX11_trucksOn_73 : decode cX11_trucksOn 73 = .ok (.goto (-69), 3) := by decide +kernel
theorem dX11_trucksOn_76 : decode cX11_trucksOn 76 = .ok (.iload_n 2, 1) := by decide +kernel
theorem dX11_trucksOn_77 : decode cX11_trucksOn 77 = .ok (.ireturn, 1) := by decide +kernel
theorem cm_X11_trucksOn : x_CM yX11_trucksOn cX11_trucksOn 6 (Option.some FieldType.int) 1 := ⟨w_8_21, w_1_12, by decide +kernel, by decide +kernel⟩
theorem ci_X11_trucksOn : x_CI yX11_trucksOn 13 := ⟨w_8_20, wp_78, (RX11, TX11, 41), rfl, rfl⟩
set_option maxRecDepth 100000 in
set_option maxHeartbeats 4000000 in
theorem bX11_trucksOn_48 {V : x_J} {ad : Nat → Nat} {Q : Int32 → x_S → x_L → Prop} (X : x_Is V cX11_trucksOn 6 RX11 (Option.some FieldType.int) ad dsM 2 (x_PI Q)) {K4 : Int32 → Int32 → Int32 → x_S → x_L → Prop} {K20 : Int32 → Int32 → Int32 → Int32 → Int32 → x_S → x_L → Prop} (hK4 : ∀ v1 v2 v3 σ τ, K4 v1 v2 v3 σ τ → V σ τ 4 [(0, .ref (ad 0)), (1, .int v1), (2, .int v2), (3, .int v3)] []) (hK20 : ∀ v1 v2 v3 v4 v5 σ τ, K20 v1 v2 v3 v4 v5 σ τ → V σ τ 20 [(0, .ref (ad 0)), (1, .int v1), (2, .int v2), (3, .int v3), (4, .int v4), (5, .int v5)] []) {v1 : Int32} {v2 : Int32} {v3 : Int32} {v5 : Int32} {s0 : Int32} {s1 : Int32} {σ : x_S} {τ : x_L} (h : wX11_trucksOn_48 K4 K20 Q v1 v2 v3 v5 s0 s1 σ τ) : V σ τ 48 [(0, .ref (ad 0)), (1, .int v1), (2, .int v2), (3, .int v3), (5, .int v5)] [.int s1, .int s0] := by
  refine x_ior X dX11_trucksOn_48 ?_
  refine x_istore X (lv' := [(4, .int (s0 ||| s1)), (0, .ref (ad 0)), (1, .int v1), (2, .int v2), (3, .int v3), (5, .int v5)]) dX11_trucksOn_49 (by decide) rfl ?_
  refine x_iinc X (k := 5) (lv' := [(5, .int (v5 + 1)), (4, .int (s0 ||| s1)), (0, .ref (ad 0)), (1, .int v1), (2, .int v2), (3, .int v3)]) dX11_trucksOn_51 rfl ki_1 (by decide) rfl ?_
  refine x_goto X (tgt := 20) dX11_trucksOn_54 (by decide) ?_
  refine x_sub X [2, 3, 4, 5, 1, 0] (lv' := [(0, .ref (ad 0)), (1, .int v1), (2, .int v2), (3, .int v3), (4, .int (s0 ||| s1)), (5, .int (v5 + 1))]) rfl ?_
  exact hK20 _ _ _ _ _ _ _ h
set_option maxRecDepth 100000 in
set_option maxHeartbeats 4000000 in
theorem bX11_trucksOn_68 {V : x_J} {ad : Nat → Nat} {Q : Int32 → x_S → x_L → Prop} (X : x_Is V cX11_trucksOn 6 RX11 (Option.some FieldType.int) ad dsM 2 (x_PI Q)) {K4 : Int32 → Int32 → Int32 → x_S → x_L → Prop} (hK4 : ∀ v1 v2 v3 σ τ, K4 v1 v2 v3 σ τ → V σ τ 4 [(0, .ref (ad 0)), (1, .int v1), (2, .int v2), (3, .int v3)] []) {v1 : Int32} {v3 : Int32} {s0 : Int32} {s1 : Int32} {σ : x_S} {τ : x_L} (h : wX11_trucksOn_68 K4 Q v1 v3 s0 s1 σ τ) : V σ τ 68 [(0, .ref (ad 0)), (1, .int v1), (3, .int v3)] [.int s1, .int s0] := by
  refine x_iadd X dX11_trucksOn_68 ?_
  refine x_istore_n X (lv' := [(2, .int (s0 + s1)), (0, .ref (ad 0)), (1, .int v1), (3, .int v3)]) dX11_trucksOn_69 rfl (by decide) rfl ?_
  refine x_iinc X (k := 3) (lv' := [(3, .int (v3 + 1)), (2, .int (s0 + s1)), (0, .ref (ad 0)), (1, .int v1)]) dX11_trucksOn_70 rfl ki_1 (by decide) rfl ?_
  refine x_goto X (tgt := 4) dX11_trucksOn_73 (by decide) ?_
  refine x_sub X [2, 3, 1, 0] (lv' := [(0, .ref (ad 0)), (1, .int v1), (2, .int (s0 + s1)), (3, .int (v3 + 1))]) rfl ?_
  exact hK4 _ _ _ _ _ h
set_option maxRecDepth 100000 in
set_option maxHeartbeats 4000000 in
theorem bX11_trucksOn_20 {V : x_J} {ad : Nat → Nat} {Q : Int32 → x_S → x_L → Prop} (X : x_Is V cX11_trucksOn 6 RX11 (Option.some FieldType.int) ad dsM 2 (x_PI Q)) {K4 : Int32 → Int32 → Int32 → x_S → x_L → Prop} {K20 : Int32 → Int32 → Int32 → Int32 → Int32 → x_S → x_L → Prop} (hK4 : ∀ v1 v2 v3 σ τ, K4 v1 v2 v3 σ τ → V σ τ 4 [(0, .ref (ad 0)), (1, .int v1), (2, .int v2), (3, .int v3)] []) (hK20 : ∀ v1 v2 v3 v4 v5 σ τ, K20 v1 v2 v3 v4 v5 σ τ → V σ τ 20 [(0, .ref (ad 0)), (1, .int v1), (2, .int v2), (3, .int v3), (4, .int v4), (5, .int v5)] []) {v1 : Int32} {v2 : Int32} {v3 : Int32} {v4 : Int32} {v5 : Int32} {σ : x_S} {τ : x_L} (h : wX11_trucksOn_20 K4 Q K20 v1 v2 v3 v4 v5 σ τ) : V σ τ 20 [(0, .ref (ad 0)), (1, .int v1), (2, .int v2), (3, .int v3), (4, .int v4), (5, .int v5)] [] := by
  refine x_iload X dX11_trucksOn_20 5 rfl ?_
  refine x_aload_n X dX11_trucksOn_22 rfl 0 rfl ?_
  refine x_iload_n X dX11_trucksOn_23 rfl 3 rfl ?_
  refine x_callVi X [.int v3] [.int v5] dX11_trucksOn_24 (kX11_placesOf h) cm_X11_placesOf ci_X11_placesOf w_7_109 dsM_0 ⟨by decide, by decide⟩ rfl (Nat.le_of_ble_eq_true rfl) (fun r24 σ24 τ24 h => ?_)
  refine x_icmp_ge X 57 dX11_trucksOn_27 (by decide) (fun hc => ?_) (fun hc => ?_)
  · have h := h.1 hc
    refine x_iload_n X dX11_trucksOn_57 rfl 2 rfl ?_
    refine x_iload X dX11_trucksOn_58 4 rfl ?_
    refine x_if_eq X 67 dX11_trucksOn_60 (by decide) (fun hc => ?_) (fun hc => ?_)
    · have h := h.1 hc
      refine x_iconst X dX11_trucksOn_67 ki_0 ?_
      refine x_sub X [0, 1, 3] (lv' := [(0, .ref (ad 0)), (1, .int v1), (3, .int v3)]) rfl ?_
      exact bX11_trucksOn_68 X hK4 h
    · have h := h.2 hc
      refine x_iconst X dX11_trucksOn_63 ki_1 ?_
      refine x_goto X (tgt := 68) dX11_trucksOn_64 (by decide) ?_
      refine x_sub X [0, 1, 3] (lv' := [(0, .ref (ad 0)), (1, .int v1), (3, .int v3)]) rfl ?_
      exact bX11_trucksOn_68 X hK4 h
  · have h := h.2 hc
    refine x_iload X dX11_trucksOn_30 4 rfl ?_
    refine x_aload_n X dX11_trucksOn_32 rfl 0 rfl ?_
    refine x_iload_n X dX11_trucksOn_33 rfl 3 rfl ?_
    refine x_iload X dX11_trucksOn_34 5 rfl ?_
    refine x_callVi X [.int v3, .int v5] [.int v4] dX11_trucksOn_36 (kX11_roadAt h) cm_X11_roadAt ci_X11_roadAt w_7_124 dsM_0 ⟨by decide, by decide⟩ rfl (Nat.le_of_ble_eq_true rfl) (fun r36 σ36 τ36 h => ?_)
    refine x_iload_n X dX11_trucksOn_39 rfl 1 rfl ?_
    refine x_icmp_ne X 47 dX11_trucksOn_40 (by decide) (fun hc => ?_) (fun hc => ?_)
    · have h := h.1 hc
      refine x_iconst X dX11_trucksOn_47 ki_0 ?_
      refine x_sub X [0, 1, 2, 3, 5] (lv' := [(0, .ref (ad 0)), (1, .int v1), (2, .int v2), (3, .int v3), (5, .int v5)]) rfl ?_
      exact bX11_trucksOn_48 X hK4 hK20 h
    · have h := h.2 hc
      refine x_iconst X dX11_trucksOn_43 ki_1 ?_
      refine x_goto X (tgt := 48) dX11_trucksOn_44 (by decide) ?_
      refine x_sub X [0, 1, 2, 3, 5] (lv' := [(0, .ref (ad 0)), (1, .int v1), (2, .int v2), (3, .int v3), (5, .int v5)]) rfl ?_
      exact bX11_trucksOn_48 X hK4 hK20 h
set_option maxRecDepth 100000 in
set_option maxHeartbeats 4000000 in
theorem bX11_trucksOn_4 {V : x_J} {ad : Nat → Nat} {Q : Int32 → x_S → x_L → Prop} (X : x_Is V cX11_trucksOn 6 RX11 (Option.some FieldType.int) ad dsM 2 (x_PI Q)) {K4 : Int32 → Int32 → Int32 → x_S → x_L → Prop} (hK4 : ∀ v1 v2 v3 σ τ, K4 v1 v2 v3 σ τ → V σ τ 4 [(0, .ref (ad 0)), (1, .int v1), (2, .int v2), (3, .int v3)] []) {v1 : Int32} {v2 : Int32} {v3 : Int32} {σ : x_S} {τ : x_L} (h : wX11_trucksOn_4 Q K4 v1 v2 v3 σ τ) : V σ τ 4 [(0, .ref (ad 0)), (1, .int v1), (2, .int v2), (3, .int v3)] [] := by
  refine x_iload_n X dX11_trucksOn_4 rfl 3 rfl ?_
  refine x_aload_n X dX11_trucksOn_5 rfl 0 rfl ?_
  refine x_getR X (j := 3) dX11_trucksOn_6 fl_11_17 dsM_0 rfl ?_
  refine x_iconst X dX11_trucksOn_9 ki_1 ?_
  refine x_iald X dX11_trucksOn_10 dsM_3 (x_inl (by decide)) ?_
  refine x_icmp_ge X 76 dX11_trucksOn_11 (by decide) (fun hc => ?_) (fun hc => ?_)
  · have h := h.1 hc
    refine x_iload_n X dX11_trucksOn_76 rfl 2 rfl ?_
    exact x_iret X dX11_trucksOn_77 ⟨_, rfl, h⟩
  · have h := h.2 hc
    refine x_iconst X dX11_trucksOn_14 ki_0 ?_
    refine x_istore X (lv' := [(4, .int 0), (0, .ref (ad 0)), (1, .int v1), (2, .int v2), (3, .int v3)]) dX11_trucksOn_15 (by decide) rfl ?_
    refine x_iconst X dX11_trucksOn_17 ki_0 ?_
    refine x_istore X (lv' := [(5, .int 0), (4, .int 0), (0, .ref (ad 0)), (1, .int v1), (2, .int v2), (3, .int v3)]) dX11_trucksOn_18 (by decide) rfl ?_
    refine x_sub X [2, 3, 4, 5, 1, 0] (lv' := [(0, .ref (ad 0)), (1, .int v1), (2, .int v2), (3, .int v3), (4, .int 0), (5, .int 0)]) rfl ?_
    exact x_l5_G (fun v1 v2 v3 v4 v5 σ τ => V σ τ 20 [(0, .ref (ad 0)), (1, .int v1), (2, .int v2), (3, .int v3), (4, .int v4), (5, .int v5)] []) (fun K20 hK20 v1 v2 v3 v4 v5 σ τ h => bX11_trucksOn_20 X hK4 hK20 h) h
set_option maxRecDepth 100000 in
set_option maxHeartbeats 4000000 in
theorem kX11_trucksOn {ad : Nat → Nat} {a1 : Int32} {σ : x_S} {τ : x_L} {Q : Int32 → x_S → x_L → Prop} (h : wX11_trucksOn a1 σ τ Q) : x_Met yX11_trucksOn cX11_trucksOn 6 (Option.some FieldType.int) 2 ad dsM [.ref (ad 0), .int a1] σ τ (x_PI Q) := by
  refine x_met (by decide +kernel) (Nat.le_of_ble_eq_true rfl) (fun V X => ?_)
  have X : x_Is V cX11_trucksOn 6 RX11 (Option.some FieldType.int) ad dsM 2 (x_PI Q) := X
  show V σ τ 0 [(0, .ref (ad 0)), (1, .int a1)] []
  refine x_iconst X dX11_trucksOn_0 ki_0 ?_
  refine x_istore_n X (lv' := [(2, .int 0), (0, .ref (ad 0)), (1, .int a1)]) dX11_trucksOn_1 rfl (by decide) rfl ?_
  refine x_iconst X dX11_trucksOn_2 ki_0 ?_
  refine x_istore_n X (lv' := [(3, .int 0), (2, .int 0), (0, .ref (ad 0)), (1, .int a1)]) dX11_trucksOn_3 rfl (by decide) rfl ?_
  refine x_sub X [2, 3, 1, 0] (lv' := [(0, .ref (ad 0)), (1, .int a1), (2, .int 0), (3, .int 0)]) rfl ?_
  exact x_l3_G (fun v1 v2 v3 σ τ => V σ τ 4 [(0, .ref (ad 0)), (1, .int v1), (2, .int v2), (3, .int v3)] []) (fun K4 hK4 v1 v2 v3 σ τ h => bX11_trucksOn_4 X hK4 h) h
theorem dX11_road_0 : decode cX11_road 0 = .ok (.aload_n 0, 1) := by decide +kernel
theorem dX11_road_1 : decode cX11_road 1 = .ok (.iconst 0, 1) := by decide +kernel
theorem dX11_road_2 : decode cX11_road 2 = .ok (.putfield 82, 3) := by decide +kernel
theorem dX11_road_5 : decode cX11_road 5 = .ok (.aload_n 0, 1) := by decide +kernel
theorem dX11_road_6 : decode cX11_road 6 = .ok (.aload_n 0, 1) := by decide +kernel
theorem dX11_road_7 : decode cX11_road 7 = .ok (.iload_n 1, 1) := by decide +kernel
theorem dX11_road_8 : decode cX11_road 8 = .ok (.invokevirtual 232, 3) := by decide +kernel
theorem dX11_road_11 : decode cX11_road 11 = .ok (.ifCond .ne 7, 3) := by decide +kernel
theorem dX11_road_14 : decode cX11_road 14 = .ok (.iconst 1, 1) := by decide +kernel
theorem dX11_road_15 : decode cX11_road 15 = .ok (.goto 4, 3) := by decide +kernel
theorem dX11_road_18 : decode cX11_road 18 = .ok (.iconst 0, 1) := by decide +kernel
theorem dX11_road_19 : decode cX11_road 19 = .ok (.iconst 1, 1) := by decide +kernel
theorem dX11_road_20 : decode cX11_road 20 = .ok (.invokevirtual 235, 3) := by decide +kernel
theorem dX11_road_23 : decode cX11_road 23 = .ok (.ifCond .eq 5, 3) := by decide +kernel
theorem dX11_road_26 : decode cX11_road 26 = .ok (.iconst 0, 1) := by decide +kernel
theorem dX11_road_27 : decode cX11_road 27 = .ok (.ireturn, 1) := by decide +kernel
theorem dX11_road_28 : decode cX11_road 28 = .ok (.aload_n 0, 1) := by decide +kernel
theorem dX11_road_29 : decode cX11_road 29 = .ok (.invokevirtual 200, 3) := by decide +kernel
theorem dX11_road_32 : decode cX11_road 32 = .ok (.iload_n 2, 1) := by decide +kernel
theorem dX11_road_33 : decode cX11_road 33 = .ok (.tableswitch 58 0 5 #[39, 39, 39, 39, 46, 52], 39) := by decide +kernel
theorem dX11_road_72 : decode cX11_road 72 = .ok (.aload_n 0, 1) := by decide +kernel
theorem dX11_road_73 : decode cX11_road 73 = .ok (.iload_n 1, 1) := by decide +kernel
theorem dX11_road_74 : decode cX11_road 74 = .ok (.iload_n 2, 1) := by decide +kernel
theorem dX11_road_75 : decode cX11_road 75 = .ok (.invokevirtual 117, 3) := by decide +kernel
theorem dX11_road_78 : decode cX11_road 78 = .ok (.ireturn, 1) := by decide +kernel
theorem dX11_road_79 : decode cX11_road 79 = .ok (.aload_n 0, 1) := by decide +kernel
theorem dX11_road_80 : decode cX11_road 80 = .ok (.iload_n 1, 1) := by decide +kernel
theorem dX11_road_81 : decode cX11_road 81 = .ok (.invokevirtual 239, 3) := by decide +kernel
theorem dX11_road_84 : decode cX11_road 84 = .ok (.ireturn, 1) := by decide +kernel
theorem dX11_road_85 : decode cX11_road 85 = .ok (.aload_n 0, 1) := by decide +kernel
theorem dX11_road_86 : decode cX11_road 86 = .ok (.iload_n 1, 1) := by decide +kernel
theorem dX11_road_87 : decode cX11_road 87 = .ok (.invokevirtual 242, 3) := by decide +kernel
theorem dX11_road_90 : decode cX11_road 90 = .ok (.ireturn, 1) := by decide +kernel
theorem dX11_road_91 : decode cX11_road 91 = .ok (.iconst (-1), 1) := by decide +kernel
theorem dX11_road_92 : decode cX11_road 92 = .ok (.ireturn, 1) := by decide +kernel
theorem cm_X11_road : x_CM yX11_road cX11_road 3 (Option.some FieldType.int) 2 := ⟨w_8_5, w_1_12, by decide +kernel, by decide +kernel⟩
theorem ci_X11_road : x_CI yX11_road 13 := ⟨w_8_3, w_8_4, (RX11, TX11, 41), rfl, rfl⟩
set_option maxRecDepth 100000 in
set_option maxHeartbeats 4000000 in
theorem bX11_road_72 {V : x_J} {ad : Nat → Nat} {Q : Int32 → x_S → x_L → Prop} (X : x_Is V cX11_road 3 RX11 (Option.some FieldType.int) ad dsM 6 (x_PI Q)) {v1 : Int32} {v2 : Int32} {σ : x_S} {τ : x_L} (h : wX11_road_72 Q v1 v2 σ τ) : V σ τ 72 [(0, .ref (ad 0)), (1, .int v1), (2, .int v2)] [] := by
  refine x_aload_n X dX11_road_72 rfl 0 rfl ?_
  refine x_iload_n X dX11_road_73 rfl 1 rfl ?_
  refine x_iload_n X dX11_road_74 rfl 2 rfl ?_
  refine x_callVi X [.int v1, .int v2] [] dX11_road_75 (kX11_ofRoad h) cm_X11_ofRoad ci_X11_ofRoad w_7_136 dsM_0 ⟨by decide, by decide⟩ rfl (Nat.le_of_ble_eq_true rfl) (fun r75 σ75 τ75 h => ?_)
  exact x_iret X dX11_road_78 ⟨_, rfl, h⟩
set_option maxRecDepth 100000 in
set_option maxHeartbeats 4000000 in
theorem bX11_road_19 {V : x_J} {ad : Nat → Nat} {Q : Int32 → x_S → x_L → Prop} (X : x_Is V cX11_road 3 RX11 (Option.some FieldType.int) ad dsM 6 (x_PI Q)) {v1 : Int32} {v2 : Int32} {s1 : Int32} {σ : x_S} {τ : x_L} (h : wX11_road_19 Q v1 v2 s1 σ τ) : V σ τ 19 [(0, .ref (ad 0)), (1, .int v1), (2, .int v2)] [.int s1, .ref (ad 0)] := by
  refine x_iconst X dX11_road_19 ki_1 ?_
  refine x_callVi X [.int s1, .int 1] [] dX11_road_20 (kX11_throwsIf h) cm_X11_throwsIf ci_X11_throwsIf w_8_10 dsM_0 ⟨by decide, by decide⟩ rfl (Nat.le_of_ble_eq_true rfl) (fun r20 σ20 τ20 h => ?_)
  refine x_if_eq X 28 dX11_road_23 (by decide) (fun hc => ?_) (fun hc => ?_)
  · have h := h.1 hc
    refine x_aload_n X dX11_road_28 rfl 0 rfl ?_
    refine x_callVv X [] [] dX11_road_29 (kX11_lay h) cm_X11_lay ci_X11_lay w_7_101 dsM_0 ⟨by decide, by decide⟩ rfl (Nat.le_of_ble_eq_true rfl) (fun σ29 τ29 h => ?_)
    refine x_iload_n X dX11_road_32 rfl 2 rfl ?_
    by_cases hc0 : v2 = 0
    · have h := h.1 hc0
      refine x_tin X 0 72 hc0 dX11_road_33 (by decide) (by decide) (off := 39) (by decide) (by decide) ?_
      exact bX11_road_72 X h
    have h := h.2
    by_cases hc1 : v2 = 1
    · have h := h.1 hc1
      refine x_tin X 1 72 hc1 dX11_road_33 (by decide) (by decide) (off := 39) (by decide) (by decide) ?_
      exact bX11_road_72 X h
    have h := h.2
    by_cases hc2 : v2 = 2
    · have h := h.1 hc2
      refine x_tin X 2 72 hc2 dX11_road_33 (by decide) (by decide) (off := 39) (by decide) (by decide) ?_
      exact bX11_road_72 X h
    have h := h.2
    by_cases hc3 : v2 = 3
    · have h := h.1 hc3
      refine x_tin X 3 72 hc3 dX11_road_33 (by decide) (by decide) (off := 39) (by decide) (by decide) ?_
      exact bX11_road_72 X h
    have h := h.2
    by_cases hc4 : v2 = 4
    · have h := h.1 hc4
      refine x_tin X 4 79 hc4 dX11_road_33 (by decide) (by decide) (off := 46) (by decide) (by decide) ?_
      refine x_aload_n X dX11_road_79 rfl 0 rfl ?_
      refine x_iload_n X dX11_road_80 rfl 1 rfl ?_
      refine x_callVi X [.int v1] [] dX11_road_81 (kX11_platoonsOn h) cm_X11_platoonsOn ci_X11_platoonsOn w_8_14 dsM_0 ⟨by decide, by decide⟩ rfl (Nat.le_of_ble_eq_true rfl) (fun r81 σ81 τ81 h => ?_)
      exact x_iret X dX11_road_84 ⟨_, rfl, h⟩
    have h := h.2
    by_cases hc5 : v2 = 5
    · have h := h.1 hc5
      refine x_tin X 5 85 hc5 dX11_road_33 (by decide) (by decide) (off := 52) (by decide) (by decide) ?_
      refine x_aload_n X dX11_road_85 rfl 0 rfl ?_
      refine x_iload_n X dX11_road_86 rfl 1 rfl ?_
      refine x_callVi X [.int v1] [] dX11_road_87 (kX11_trucksOn h) cm_X11_trucksOn ci_X11_trucksOn w_8_18 dsM_0 ⟨by decide, by decide⟩ rfl (Nat.le_of_ble_eq_true rfl) (fun r87 σ87 τ87 h => ?_)
      exact x_iret X dX11_road_90 ⟨_, rfl, h⟩
    have h := h.2
    have he0 := x_toInt_ne (n := 0) hc0 (by decide)
    have he1 := x_toInt_ne (n := 1) hc1 (by decide)
    have he2 := x_toInt_ne (n := 2) hc2 (by decide)
    have he3 := x_toInt_ne (n := 3) hc3 (by decide)
    have he4 := x_toInt_ne (n := 4) hc4 (by decide)
    have he5 := x_toInt_ne (n := 5) hc5 (by decide)
    have h := h hc0 hc1 hc2 hc3 hc4 hc5
    refine x_tout X 91 dX11_road_33 (by omega) (by decide) ?_
    refine x_iconst X dX11_road_91 ki_m1 ?_
    exact x_iret X dX11_road_92 ⟨_, rfl, h⟩
  · have h := h.2 hc
    refine x_iconst X dX11_road_26 ki_0 ?_
    exact x_iret X dX11_road_27 ⟨_, rfl, h⟩
set_option maxRecDepth 100000 in
set_option maxHeartbeats 4000000 in
theorem kX11_road {ad : Nat → Nat} {a1 : Int32} {a2 : Int32} {σ : x_S} {τ : x_L} {Q : Int32 → x_S → x_L → Prop} (h : wX11_road a1 a2 σ τ Q) : x_Met yX11_road cX11_road 3 (Option.some FieldType.int) 6 ad dsM [.ref (ad 0), .int a1, .int a2] σ τ (x_PI Q) := by
  refine x_met (by decide +kernel) (Nat.le_of_ble_eq_true rfl) (fun V X => ?_)
  have X : x_Is V cX11_road 3 RX11 (Option.some FieldType.int) ad dsM 6 (x_PI Q) := X
  show V σ τ 0 [(0, .ref (ad 0)), (1, .int a1), (2, .int a2)] []
  refine x_aload_n X dX11_road_0 rfl 0 rfl ?_
  refine x_iconst X dX11_road_1 ki_0 ?_
  refine x_putI X dX11_road_2 fl_11_82 ft_11_5 dsM_0 rfl ?_
  refine x_aload_n X dX11_road_5 rfl 0 rfl ?_
  refine x_aload_n X dX11_road_6 rfl 0 rfl ?_
  refine x_iload_n X dX11_road_7 rfl 1 rfl ?_
  refine x_callVi X [.int a1] [.ref (ad 0)] dX11_road_8 (kX11_isRoad h) cm_X11_isRoad ci_X11_isRoad w_8_6 dsM_0 ⟨by decide, by decide⟩ rfl (Nat.le_of_ble_eq_true rfl) (fun r8 σ8 τ8 h => ?_)
  refine x_if_ne X 18 dX11_road_11 (by decide) (fun hc => ?_) (fun hc => ?_)
  · have h := h.1 hc
    refine x_iconst X dX11_road_18 ki_0 ?_
    exact bX11_road_19 X h
  · have h := h.2 hc
    refine x_iconst X dX11_road_14 ki_1 ?_
    refine x_goto X (tgt := 19) dX11_road_15 (by decide) ?_
    exact bX11_road_19 X h
theorem dX11_truck_0 : decode cX11_truck 0 = .ok (.aload_n 0, 1) := by decide +kernel
theorem dX11_truck_1 : decode cX11_truck 1 = .ok (.iconst 0, 1) := by decide +kernel
theorem dX11_truck_2 : decode cX11_truck 2 = .ok (.putfield 82, 3) := by decide +kernel
theorem dX11_truck_5 : decode cX11_truck 5 = .ok (.aload_n 0, 1) := by decide +kernel
theorem dX11_truck_6 : decode cX11_truck 6 = .ok (.aload_n 0, 1) := by decide +kernel
theorem dX11_truck_7 : decode cX11_truck 7 = .ok (.iload_n 1, 1) := by decide +kernel
theorem dX11_truck_8 : decode cX11_truck 8 = .ok (.invokevirtual 103, 3) := by decide +kernel
theorem dX11_truck_11 : decode cX11_truck 11 = .ok (.ifCond .ne 7, 3) := by decide +kernel
theorem dX11_truck_14 : decode cX11_truck 14 = .ok (.iconst 1, 1) := by decide +kernel
theorem dX11_truck_15 : decode cX11_truck 15 = .ok (.goto 4, 3) := by decide +kernel
theorem dX11_truck_18 : decode cX11_truck 18 = .ok (.iconst 0, 1) := by decide +kernel
theorem dX11_truck_19 : decode cX11_truck 19 = .ok (.iconst 1, 1) := by decide +kernel
theorem dX11_truck_20 : decode cX11_truck 20 = .ok (.invokevirtual 235, 3) := by decide +kernel
theorem dX11_truck_23 : decode cX11_truck 23 = .ok (.ifCond .eq 5, 3) := by decide +kernel
theorem dX11_truck_26 : decode cX11_truck 26 = .ok (.iconst 0, 1) := by decide +kernel
theorem dX11_truck_27 : decode cX11_truck 27 = .ok (.ireturn, 1) := by decide +kernel
theorem dX11_truck_28 : decode cX11_truck 28 = .ok (.aload_n 0, 1) := by decide +kernel
theorem dX11_truck_29 : decode cX11_truck 29 = .ok (.invokevirtual 200, 3) := by decide +kernel
theorem dX11_truck_32 : decode cX11_truck 32 = .ok (.iload_n 2, 1) := by decide +kernel
theorem dX11_truck_33 : decode cX11_truck 33 = .ok (.tableswitch 88 0 8 #[51, 58, 58, 58, 65, 71, 78, 78, 78], 51) := by decide +kernel
theorem dX11_truck_84 : decode cX11_truck 84 = .ok (.aload_n 0, 1) := by decide +kernel
theorem dX11_truck_85 : decode cX11_truck 85 = .ok (.getfield 9, 3) := by decide +kernel
theorem dX11_truck_88 : decode cX11_truck 88 = .ok (.iload_n 1, 1) := by decide +kernel
theorem dX11_truck_89 : decode cX11_truck 89 = .ok (.iaload, 1) := by decide +kernel
theorem dX11_truck_90 : decode cX11_truck 90 = .ok (.ireturn, 1) := by decide +kernel
theorem dX11_truck_91 : decode cX11_truck 91 = .ok (.aload_n 0, 1) := by decide +kernel
theorem dX11_truck_92 : decode cX11_truck 92 = .ok (.iload_n 1, 1) := by decide +kernel
theorem dX11_truck_93 : decode cX11_truck 93 = .ok (.iload_n 2, 1) := by decide +kernel
theorem dX11_truck_94 : decode cX11_truck 94 = .ok (.invokevirtual 99, 3) := by decide +kernel
theorem dX11_truck_97 : decode cX11_truck 97 = .ok (.ireturn, 1) := by decide +kernel
theorem dX11_truck_98 : decode cX11_truck 98 = .ok (.aload_n 0, 1) := by decide +kernel
theorem dX11_truck_99 : decode cX11_truck 99 = .ok (.iload_n 1, 1) := by decide +kernel
theorem dX11_truck_100 : decode cX11_truck 100 = .ok (.invokevirtual 194, 3) := by decide +kernel
theorem dX11_truck_103 : decode cX11_truck 103 = .ok (.ireturn, 1) := by decide +kernel
theorem dX11_truck_104 : decode cX11_truck 104 = .ok (.aload_n 0, 1) := by decide +kernel
theorem dX11_truck_105 : decode cX11_truck 105 = .ok (.iload_n 1, 1) := by decide +kernel
theorem dX11_truck_106 : decode cX11_truck 106 = .ok (.iconst 4, 1) := by decide +kernel
theorem dX11_truck_107 : decode cX11_truck 107 = .ok (.invokevirtual 191, 3) := by decide +kernel
theorem dX11_truck_110 : decode cX11_truck 110 = .ok (.ireturn, 1) := by decide +kernel
theorem dX11_truck_111 : decode cX11_truck 111 = .ok (.aload_n 0, 1) := by decide +kernel
theorem dX11_truck_112 : decode cX11_truck 112 = .ok (.iload_n 1, 1) := by decide +kernel
theorem dX11_truck_113 : decode cX11_truck 113 = .ok (.iload_n 2, 1) := by decide +kernel
theorem dX11_truck_114 : decode cX11_truck 114 = .ok (.bipush 6, 2) := by decide +kernel
theorem dX11_truck_116 : decode cX11_truck 116 = .ok (.isub, 1) := by decide +kernel
theorem dX11_truck_117 : decode cX11_truck 117 = .ok (.invokevirtual 191, 3) := by decide +kernel
theorem dX11_truck_120 : decode cX11_truck 120 = .ok (.ireturn, 1) := by decide +kernel
theorem dX11_truck_121 : decode cX11_truck 121 = .ok (.iconst (-1), 1) := by decide +kernel
theorem dX11_truck_122 : decode cX11_truck 122 = .ok (.ireturn, 1) := by decide +kernel
theorem cm_X11_truck : x_CM yX11_truck cX11_truck 3 (Option.some FieldType.int) 2 := ⟨w_8_25, w_1_12, by decide +kernel, by decide +kernel⟩
theorem ci_X11_truck : x_CI yX11_truck 13 := ⟨w_8_23, w_8_24, (RX11, TX11, 41), rfl, rfl⟩
set_option maxRecDepth 100000 in
set_option maxHeartbeats 4000000 in
theorem bX11_truck_91 {V : x_J} {ad : Nat → Nat} {Q : Int32 → x_S → x_L → Prop} (X : x_Is V cX11_truck 3 RX11 (Option.some FieldType.int) ad dsM 6 (x_PI Q)) {v1 : Int32} {v2 : Int32} {σ : x_S} {τ : x_L} (h : wX11_truck_91 Q v1 v2 σ τ) : V σ τ 91 [(0, .ref (ad 0)), (1, .int v1), (2, .int v2)] [] := by
  refine x_aload_n X dX11_truck_91 rfl 0 rfl ?_
  refine x_iload_n X dX11_truck_92 rfl 1 rfl ?_
  refine x_iload_n X dX11_truck_93 rfl 2 rfl ?_
  refine x_callVi X [.int v1, .int v2] [] dX11_truck_94 (kX11_ofTruck h) cm_X11_ofTruck ci_X11_ofTruck w_7_113 dsM_0 ⟨by decide, by decide⟩ rfl (Nat.le_of_ble_eq_true rfl) (fun r94 σ94 τ94 h => ?_)
  exact x_iret X dX11_truck_97 ⟨_, rfl, h⟩
set_option maxRecDepth 100000 in
set_option maxHeartbeats 4000000 in
theorem bX11_truck_111 {V : x_J} {ad : Nat → Nat} {Q : Int32 → x_S → x_L → Prop} (X : x_Is V cX11_truck 3 RX11 (Option.some FieldType.int) ad dsM 6 (x_PI Q)) {v1 : Int32} {v2 : Int32} {σ : x_S} {τ : x_L} (h : wX11_truck_111 Q v1 v2 σ τ) : V σ τ 111 [(0, .ref (ad 0)), (1, .int v1), (2, .int v2)] [] := by
  refine x_aload_n X dX11_truck_111 rfl 0 rfl ?_
  refine x_iload_n X dX11_truck_112 rfl 1 rfl ?_
  refine x_iload_n X dX11_truck_113 rfl 2 rfl ?_
  refine x_bipush X dX11_truck_114 kb_6 ?_
  refine x_isub X dX11_truck_116 ?_
  refine x_callVi X [.int v1, .int (v2 - 6)] [] dX11_truck_117 (kX11_sumOf h) cm_X11_sumOf ci_X11_sumOf w_7_234 dsM_0 ⟨by decide, by decide⟩ rfl (Nat.le_of_ble_eq_true rfl) (fun r117 σ117 τ117 h => ?_)
  exact x_iret X dX11_truck_120 ⟨_, rfl, h⟩
set_option maxRecDepth 100000 in
set_option maxHeartbeats 4000000 in
theorem bX11_truck_19 {V : x_J} {ad : Nat → Nat} {Q : Int32 → x_S → x_L → Prop} (X : x_Is V cX11_truck 3 RX11 (Option.some FieldType.int) ad dsM 6 (x_PI Q)) {v1 : Int32} {v2 : Int32} {s1 : Int32} {σ : x_S} {τ : x_L} (h : wX11_truck_19 Q v1 v2 s1 σ τ) : V σ τ 19 [(0, .ref (ad 0)), (1, .int v1), (2, .int v2)] [.int s1, .ref (ad 0)] := by
  refine x_iconst X dX11_truck_19 ki_1 ?_
  refine x_callVi X [.int s1, .int 1] [] dX11_truck_20 (kX11_throwsIf h) cm_X11_throwsIf ci_X11_throwsIf w_8_10 dsM_0 ⟨by decide, by decide⟩ rfl (Nat.le_of_ble_eq_true rfl) (fun r20 σ20 τ20 h => ?_)
  refine x_if_eq X 28 dX11_truck_23 (by decide) (fun hc => ?_) (fun hc => ?_)
  · have h := h.1 hc
    refine x_aload_n X dX11_truck_28 rfl 0 rfl ?_
    refine x_callVv X [] [] dX11_truck_29 (kX11_lay h) cm_X11_lay ci_X11_lay w_7_101 dsM_0 ⟨by decide, by decide⟩ rfl (Nat.le_of_ble_eq_true rfl) (fun σ29 τ29 h => ?_)
    refine x_iload_n X dX11_truck_32 rfl 2 rfl ?_
    by_cases hc0 : v2 = 0
    · have h := h.1 hc0
      refine x_tin X 0 84 hc0 dX11_truck_33 (by decide) (by decide) (off := 51) (by decide) (by decide) ?_
      refine x_aload_n X dX11_truck_84 rfl 0 rfl ?_
      refine x_getR X (j := 1) dX11_truck_85 fl_11_9 dsM_0 rfl ?_
      refine x_iload_n X dX11_truck_88 rfl 1 rfl ?_
      have g89 := h.1
      have h := h.2
      refine x_iald X dX11_truck_89 dsM_1 g89 ?_
      exact x_iret X dX11_truck_90 ⟨_, rfl, h⟩
    have h := h.2
    by_cases hc1 : v2 = 1
    · have h := h.1 hc1
      refine x_tin X 1 91 hc1 dX11_truck_33 (by decide) (by decide) (off := 58) (by decide) (by decide) ?_
      exact bX11_truck_91 X h
    have h := h.2
    by_cases hc2 : v2 = 2
    · have h := h.1 hc2
      refine x_tin X 2 91 hc2 dX11_truck_33 (by decide) (by decide) (off := 58) (by decide) (by decide) ?_
      exact bX11_truck_91 X h
    have h := h.2
    by_cases hc3 : v2 = 3
    · have h := h.1 hc3
      refine x_tin X 3 91 hc3 dX11_truck_33 (by decide) (by decide) (off := 58) (by decide) (by decide) ?_
      exact bX11_truck_91 X h
    have h := h.2
    by_cases hc4 : v2 = 4
    · have h := h.1 hc4
      refine x_tin X 4 98 hc4 dX11_truck_33 (by decide) (by decide) (off := 65) (by decide) (by decide) ?_
      refine x_aload_n X dX11_truck_98 rfl 0 rfl ?_
      refine x_iload_n X dX11_truck_99 rfl 1 rfl ?_
      refine x_callVi X [.int v1] [] dX11_truck_100 (kX11_arrival h) cm_X11_arrival ci_X11_arrival w_7_223 dsM_0 ⟨by decide, by decide⟩ rfl (Nat.le_of_ble_eq_true rfl) (fun r100 σ100 τ100 h => ?_)
      exact x_iret X dX11_truck_103 ⟨_, rfl, h⟩
    have h := h.2
    by_cases hc5 : v2 = 5
    · have h := h.1 hc5
      refine x_tin X 5 104 hc5 dX11_truck_33 (by decide) (by decide) (off := 71) (by decide) (by decide) ?_
      refine x_aload_n X dX11_truck_104 rfl 0 rfl ?_
      refine x_iload_n X dX11_truck_105 rfl 1 rfl ?_
      refine x_iconst X dX11_truck_106 ki_4 ?_
      refine x_callVi X [.int v1, .int 4] [] dX11_truck_107 (kX11_sumOf h) cm_X11_sumOf ci_X11_sumOf w_7_234 dsM_0 ⟨by decide, by decide⟩ rfl (Nat.le_of_ble_eq_true rfl) (fun r107 σ107 τ107 h => ?_)
      exact x_iret X dX11_truck_110 ⟨_, rfl, h⟩
    have h := h.2
    by_cases hc6 : v2 = 6
    · have h := h.1 hc6
      refine x_tin X 6 111 hc6 dX11_truck_33 (by decide) (by decide) (off := 78) (by decide) (by decide) ?_
      exact bX11_truck_111 X h
    have h := h.2
    by_cases hc7 : v2 = 7
    · have h := h.1 hc7
      refine x_tin X 7 111 hc7 dX11_truck_33 (by decide) (by decide) (off := 78) (by decide) (by decide) ?_
      exact bX11_truck_111 X h
    have h := h.2
    by_cases hc8 : v2 = 8
    · have h := h.1 hc8
      refine x_tin X 8 111 hc8 dX11_truck_33 (by decide) (by decide) (off := 78) (by decide) (by decide) ?_
      exact bX11_truck_111 X h
    have h := h.2
    have he0 := x_toInt_ne (n := 0) hc0 (by decide)
    have he1 := x_toInt_ne (n := 1) hc1 (by decide)
    have he2 := x_toInt_ne (n := 2) hc2 (by decide)
    have he3 := x_toInt_ne (n := 3) hc3 (by decide)
    have he4 := x_toInt_ne (n := 4) hc4 (by decide)
    have he5 := x_toInt_ne (n := 5) hc5 (by decide)
    have he6 := x_toInt_ne (n := 6) hc6 (by decide)
    have he7 := x_toInt_ne (n := 7) hc7 (by decide)
    have he8 := x_toInt_ne (n := 8) hc8 (by decide)
    have h := h hc0 hc1 hc2 hc3 hc4 hc5 hc6 hc7 hc8
    refine x_tout X 121 dX11_truck_33 (by omega) (by decide) ?_
    refine x_iconst X dX11_truck_121 ki_m1 ?_
    exact x_iret X dX11_truck_122 ⟨_, rfl, h⟩
  · have h := h.2 hc
    refine x_iconst X dX11_truck_26 ki_0 ?_
    exact x_iret X dX11_truck_27 ⟨_, rfl, h⟩
set_option maxRecDepth 100000 in
set_option maxHeartbeats 4000000 in
theorem kX11_truck {ad : Nat → Nat} {a1 : Int32} {a2 : Int32} {σ : x_S} {τ : x_L} {Q : Int32 → x_S → x_L → Prop} (h : wX11_truck a1 a2 σ τ Q) : x_Met yX11_truck cX11_truck 3 (Option.some FieldType.int) 6 ad dsM [.ref (ad 0), .int a1, .int a2] σ τ (x_PI Q) := by
  refine x_met (by decide +kernel) (Nat.le_of_ble_eq_true rfl) (fun V X => ?_)
  have X : x_Is V cX11_truck 3 RX11 (Option.some FieldType.int) ad dsM 6 (x_PI Q) := X
  show V σ τ 0 [(0, .ref (ad 0)), (1, .int a1), (2, .int a2)] []
  refine x_aload_n X dX11_truck_0 rfl 0 rfl ?_
  refine x_iconst X dX11_truck_1 ki_0 ?_
  refine x_putI X dX11_truck_2 fl_11_82 ft_11_5 dsM_0 rfl ?_
  refine x_aload_n X dX11_truck_5 rfl 0 rfl ?_
  refine x_aload_n X dX11_truck_6 rfl 0 rfl ?_
  refine x_iload_n X dX11_truck_7 rfl 1 rfl ?_
  refine x_callVi X [.int a1] [.ref (ad 0)] dX11_truck_8 (kX11_isTruck h) cm_X11_isTruck ci_X11_isTruck w_8_26 dsM_0 ⟨by decide, by decide⟩ rfl (Nat.le_of_ble_eq_true rfl) (fun r8 σ8 τ8 h => ?_)
  refine x_if_ne X 18 dX11_truck_11 (by decide) (fun hc => ?_) (fun hc => ?_)
  · have h := h.1 hc
    refine x_iconst X dX11_truck_18 ki_0 ?_
    exact bX11_truck_19 X h
  · have h := h.2 hc
    refine x_iconst X dX11_truck_14 ki_1 ?_
    refine x_goto X (tgt := 19) dX11_truck_15 (by decide) ?_
    exact bX11_truck_19 X h
theorem dX11_noPlace_0 : decode cX11_noPlace 0 = .ok (.aload_n 0, 1) := by decide +kernel
theorem dX11_noPlace_1 : decode cX11_noPlace 1 = .ok (.invokevirtual 200, 3) := by decide +kernel
theorem dX11_noPlace_4 : decode cX11_noPlace 4 = .ok (.aload_n 0, 1) := by decide +kernel
theorem dX11_noPlace_5 : decode cX11_noPlace 5 = .ok (.aload_n 0, 1) := by decide +kernel
theorem dX11_noPlace_6 : decode cX11_noPlace 6 = .ok (.iload_n 1, 1) := by decide +kernel
theorem dX11_noPlace_7 : decode cX11_noPlace 7 = .ok (.iload_n 2, 1) := by decide +kernel
theorem dX11_noPlace_8 : decode cX11_noPlace 8 = .ok (.invokevirtual 245, 3) := by decide +kernel
theorem dX11_noPlace_11 : decode cX11_noPlace 11 = .ok (.ifCond .ne 7, 3) := by decide +kernel
theorem dX11_noPlace_14 : decode cX11_noPlace 14 = .ok (.iconst 1, 1) := by decide +kernel
theorem dX11_noPlace_15 : decode cX11_noPlace 15 = .ok (.goto 4, 3) := by decide +kernel
theorem dX11_noPlace_18 : decode cX11_noPlace 18 = .ok (.iconst 0, 1) := by decide +kernel
theorem dX11_noPlace_19 : decode cX11_noPlace 19 = .ok (.iconst 1, 1) := by decide +kernel
theorem dX11_noPlace_20 : decode cX11_noPlace 20 = .ok (.invokevirtual 235, 3) := by decide +kernel
theorem dX11_noPlace_23 : decode cX11_noPlace 23 = .ok (.ireturn, 1) := by decide +kernel
theorem cm_X11_noPlace : x_CM yX11_noPlace cX11_noPlace 3 (Option.some FieldType.boolean) 2 := ⟨w_8_37, w_1_12, by decide +kernel, by decide +kernel⟩
theorem ci_X11_noPlace : x_CI yX11_noPlace 13 := ⟨w_8_36, wp_80, (RX11, TX11, 41), rfl, rfl⟩
set_option maxRecDepth 100000 in
set_option maxHeartbeats 4000000 in
theorem bX11_noPlace_19 {V : x_J} {ad : Nat → Nat} {Q : Int32 → x_S → x_L → Prop} (X : x_Is V cX11_noPlace 3 RX11 (Option.some FieldType.boolean) ad dsM 6 (x_PI Q)) {s1 : Int32} {σ : x_S} {τ : x_L} (h : wX11_noPlace_19 Q s1 σ τ) : V σ τ 19 [] [.int s1, .ref (ad 0)] := by
  refine x_iconst X dX11_noPlace_19 ki_1 ?_
  refine x_callVi X [.int s1, .int 1] [] dX11_noPlace_20 (kX11_throwsIf h) cm_X11_throwsIf ci_X11_throwsIf w_8_10 dsM_0 ⟨by decide, by decide⟩ rfl (Nat.le_of_ble_eq_true rfl) (fun r20 σ20 τ20 h => ?_)
  exact x_zret X dX11_noPlace_23 ⟨h.1, _, rfl, h.2⟩
set_option maxRecDepth 100000 in
set_option maxHeartbeats 4000000 in
theorem kX11_noPlace {ad : Nat → Nat} {a1 : Int32} {a2 : Int32} {σ : x_S} {τ : x_L} {Q : Int32 → x_S → x_L → Prop} (h : wX11_noPlace a1 a2 σ τ Q) : x_Met yX11_noPlace cX11_noPlace 3 (Option.some FieldType.boolean) 6 ad dsM [.ref (ad 0), .int a1, .int a2] σ τ (x_PI Q) := by
  refine x_met (by decide +kernel) (Nat.le_of_ble_eq_true rfl) (fun V X => ?_)
  have X : x_Is V cX11_noPlace 3 RX11 (Option.some FieldType.boolean) ad dsM 6 (x_PI Q) := X
  show V σ τ 0 [(0, .ref (ad 0)), (1, .int a1), (2, .int a2)] []
  refine x_aload_n X dX11_noPlace_0 rfl 0 rfl ?_
  refine x_callVv X [] [] dX11_noPlace_1 (kX11_lay h) cm_X11_lay ci_X11_lay w_7_101 dsM_0 ⟨by decide, by decide⟩ rfl (Nat.le_of_ble_eq_true rfl) (fun σ1 τ1 h => ?_)
  refine x_aload_n X dX11_noPlace_4 rfl 0 rfl ?_
  refine x_aload_n X dX11_noPlace_5 rfl 0 rfl ?_
  refine x_iload_n X dX11_noPlace_6 rfl 1 rfl ?_
  refine x_iload_n X dX11_noPlace_7 rfl 2 rfl ?_
  refine x_callVi X [.int a1, .int a2] [.ref (ad 0)] dX11_noPlace_8 (kX11_isPlace h) cm_X11_isPlace ci_X11_isPlace w_8_38 dsM_0 ⟨by decide, by decide⟩ rfl (Nat.le_of_ble_eq_true rfl) (fun r8 σ8 τ8 h => ?_)
  refine x_if_ne X 18 dX11_noPlace_11 (by decide) (fun hc => ?_) (fun hc => ?_)
  · have h := h.1 hc
    refine x_iconst X dX11_noPlace_18 ki_0 ?_
    refine x_sub X [] (lv' := []) rfl ?_
    exact bX11_noPlace_19 X h
  · have h := h.2 hc
    refine x_iconst X dX11_noPlace_14 ki_1 ?_
    refine x_goto X (tgt := 19) dX11_noPlace_15 (by decide) ?_
    refine x_sub X [] (lv' := []) rfl ?_
    exact bX11_noPlace_19 X h
theorem dX11_place_0 : decode cX11_place 0 = .ok (.aload_n 0, 1) := by decide +kernel
theorem dX11_place_1 : decode cX11_place 1 = .ok (.iconst 0, 1) := by decide +kernel
theorem dX11_place_2 : decode cX11_place 2 = .ok (.putfield 82, 3) := by decide +kernel
theorem dX11_place_5 : decode cX11_place 5 = .ok (.aload_n 0, 1) := by decide +kernel
theorem dX11_place_6 : decode cX11_place 6 = .ok (.iload_n 1, 1) := by decide +kernel
theorem dX11_place_7 : decode cX11_place 7 = .ok (.iload_n 2, 1) := by decide +kernel
theorem dX11_place_8 : decode cX11_place 8 = .ok (.invokevirtual 249, 3) := by decide +kernel
theorem dX11_place_11 : decode cX11_place 11 = .ok (.ifCond .eq 5, 3) := by decide +kernel
theorem dX11_place_14 : decode cX11_place 14 = .ok (.iconst 0, 1) := by decide +kernel
theorem dX11_place_15 : decode cX11_place 15 = .ok (.ireturn, 1) := by decide +kernel
theorem dX11_place_16 : decode cX11_place 16 = .ok (.iload_n 1, 1) := by decide +kernel
theorem dX11_place_17 : decode cX11_place 17 = .ok (.iload_n 2, 1) := by decide +kernel
theorem dX11_place_18 : decode cX11_place 18 = .ok (.invokestatic 111, 3) := by decide +kernel
theorem dX11_place_21 : decode cX11_place 21 = .ok (.istore 4, 2) := by decide +kernel
theorem dX11_place_23 : decode cX11_place 23 = .ok (.iload_n 3, 1) := by decide +kernel
theorem dX11_place_24 : decode cX11_place 24 = .ok (.tableswitch 150 0 10 #[60, 67, 74, 81, 88, 96, 104, 111, 119, 126, 142], 60) := by decide +kernel
theorem dX11_place_84 : decode cX11_place 84 = .ok (.aload_n 0, 1) := by decide +kernel
theorem dX11_place_85 : decode cX11_place 85 = .ok (.iload_n 1, 1) := by decide +kernel
theorem dX11_place_86 : decode cX11_place 86 = .ok (.iload_n 2, 1) := by decide +kernel
theorem dX11_place_87 : decode cX11_place 87 = .ok (.invokevirtual 114, 3) := by decide +kernel
theorem dX11_place_90 : decode cX11_place 90 = .ok (.ireturn, 1) := by decide +kernel
theorem dX11_place_91 : decode cX11_place 91 = .ok (.aload_n 0, 1) := by decide +kernel
theorem dX11_place_92 : decode cX11_place 92 = .ok (.iload_n 1, 1) := by decide +kernel
theorem dX11_place_93 : decode cX11_place 93 = .ok (.iload_n 2, 1) := by decide +kernel
theorem dX11_place_94 : decode cX11_place 94 = .ok (.invokevirtual 123, 3) := by decide +kernel
theorem dX11_place_97 : decode cX11_place 97 = .ok (.ireturn, 1) := by decide +kernel
theorem dX11_place_98 : decode cX11_place 98 = .ok (.aload_n 0, 1) := by decide +kernel
theorem dX11_place_99 : decode cX11_place 99 = .ok (.iload_n 1, 1) := by decide +kernel
theorem dX11_place_100 : decode cX11_place 100 = .ok (.iload_n 2, 1) := by decide +kernel
theorem dX11_place_101 : decode cX11_place 101 = .ok (.invokevirtual 120, 3) := by decide +kernel
theorem dX11_place_104 : decode cX11_place 104 = .ok (.ireturn, 1) := by decide +kernel
theorem dX11_place_105 : decode cX11_place 105 = .ok (.aload_n 0, 1) := by decide +kernel
theorem dX11_place_106 : decode cX11_place 106 = .ok (.iload_n 1, 1) := by decide +kernel
theorem dX11_place_107 : decode cX11_place 107 = .ok (.iload_n 2, 1) := by decide +kernel
theorem dX11_place_108 : decode cX11_place 108 = .ok (.invokevirtual 252, 3) := by decide +kernel
theorem dX11_place_111 : decode cX11_place 111 = .ok (.ireturn, 1) := by decide +kernel
theorem dX11_place_112 : decode cX11_place 112 = .ok (.aload_n 0, 1) := by decide +kernel
theorem dX11_place_113 : decode cX11_place 113 = .ok (.getfield 20, 3) := by decide +kernel
theorem dX11_place_116 : decode cX11_place 116 = .ok (.iload 4, 2) := by decide +kernel
theorem dX11_place_118 : decode cX11_place 118 = .ok (.iaload, 1) := by decide +kernel
theorem dX11_place_119 : decode cX11_place 119 = .ok (.ireturn, 1) := by decide +kernel
theorem dX11_place_120 : decode cX11_place 120 = .ok (.aload_n 0, 1) := by decide +kernel
theorem dX11_place_121 : decode cX11_place 121 = .ok (.getfield 23, 3) := by decide +kernel
theorem dX11_place_124 : decode cX11_place 124 = .ok (.iload 4, 2) := by decide +kernel
theorem dX11_place_126 : decode cX11_place 126 = .ok (.iaload, 1) := by decide +kernel
theorem dX11_place_127 : decode cX11_place 127 = .ok (.ireturn, 1) := by decide +kernel
theorem dX11_place_128 : decode cX11_place 128 = .ok (.aload_n 0, 1) := by decide +kernel
theorem dX11_place_129 : decode cX11_place 129 = .ok (.iload_n 1, 1) := by decide +kernel
theorem dX11_place_130 : decode cX11_place 130 = .ok (.iload_n 2, 1) := by decide +kernel
theorem dX11_place_131 : decode cX11_place 131 = .ok (.invokevirtual 151, 3) := by decide +kernel
theorem dX11_place_134 : decode cX11_place 134 = .ok (.ireturn, 1) := by decide +kernel
theorem dX11_place_135 : decode cX11_place 135 = .ok (.aload_n 0, 1) := by decide +kernel
theorem dX11_place_136 : decode cX11_place 136 = .ok (.getfield 41, 3) := by decide +kernel
theorem dX11_place_139 : decode cX11_place 139 = .ok (.iload 4, 2) := by decide +kernel
theorem dX11_place_141 : decode cX11_place 141 = .ok (.iaload, 1) := by decide +kernel
theorem dX11_place_142 : decode cX11_place 142 = .ok (.ireturn, 1) := by decide +kernel
theorem dX11_place_143 : decode cX11_place 143 = .ok (.aload_n 0, 1) := by decide +kernel
theorem dX11_place_144 : decode cX11_place 144 = .ok (.iload_n 1, 1) := by decide +kernel
theorem dX11_place_145 : decode cX11_place 145 = .ok (.iload_n 2, 1) := by decide +kernel
theorem dX11_place_146 : decode cX11_place 146 = .ok (.invokevirtual 188, 3) := by decide +kernel
theorem dX11_place_149 : decode cX11_place 149 = .ok (.ireturn, 1) := by decide +kernel
theorem dX11_place_150 : decode cX11_place 150 = .ok (.aload_n 0, 1) := by decide +kernel
theorem dX11_place_151 : decode cX11_place 151 = .ok (.getfield 44, 3) := by decide +kernel
theorem dX11_place_154 : decode cX11_place 154 = .ok (.iload 4, 2) := by decide +kernel
theorem dX11_place_156 : decode cX11_place 156 = .ok (.baload, 1) := by decide +kernel
theorem dX11_place_157 : decode cX11_place 157 = .ok (.ifCond .eq 7, 3) := by decide +kernel
theorem dX11_place_160 : decode cX11_place 160 = .ok (.iconst 1, 1) := by decide +kernel
theorem dX11_place_161 : decode cX11_place 161 = .ok (.goto 4, 3) := by decide +kernel
theorem dX11_place_164 : decode cX11_place 164 = .ok (.iconst 0, 1) := by decide +kernel
theorem dX11_place_165 : decode cX11_place 165 = .ok (.ireturn, 1) := by decide +kernel
theorem dX11_place_166 : decode cX11_place 166 = .ok (.aload_n 0, 1) := by decide +kernel
theorem dX11_place_167 : decode cX11_place 167 = .ok (.getfield 38, 3) := by decide +kernel
theorem dX11_place_170 : decode cX11_place 170 = .ok (.iload 4, 2) := by decide +kernel
theorem dX11_place_172 : decode cX11_place 172 = .ok (.iaload, 1) := by decide +kernel
theorem dX11_place_173 : decode cX11_place 173 = .ok (.ireturn, 1) := by decide +kernel
theorem dX11_place_174 : decode cX11_place 174 = .ok (.iconst (-1), 1) := by decide +kernel
theorem dX11_place_175 : decode cX11_place 175 = .ok (.ireturn, 1) := by decide +kernel
theorem cm_X11_place : x_CM yX11_place cX11_place 5 (Option.some FieldType.int) 3 := ⟨w_8_33, w_1_12, by decide +kernel, by decide +kernel⟩
theorem ci_X11_place : x_CI yX11_place 13 := ⟨w_8_31, w_8_32, (RX11, TX11, 41), rfl, rfl⟩
set_option maxRecDepth 100000 in
set_option maxHeartbeats 4000000 in
theorem bX11_place_165 {V : x_J} {ad : Nat → Nat} {Q : Int32 → x_S → x_L → Prop} (X : x_Is V cX11_place 5 RX11 (Option.some FieldType.int) ad dsM 7 (x_PI Q)) {s0 : Int32} {σ : x_S} {τ : x_L} (h : wX11_place_165 Q s0 σ τ) : V σ τ 165 [] [.int s0] := by
  exact x_iret X dX11_place_165 ⟨_, rfl, h⟩
set_option maxRecDepth 100000 in
set_option maxHeartbeats 4000000 in
theorem kX11_place {ad : Nat → Nat} {a1 : Int32} {a2 : Int32} {a3 : Int32} {σ : x_S} {τ : x_L} {Q : Int32 → x_S → x_L → Prop} (h : wX11_place a1 a2 a3 σ τ Q) : x_Met yX11_place cX11_place 5 (Option.some FieldType.int) 7 ad dsM [.ref (ad 0), .int a1, .int a2, .int a3] σ τ (x_PI Q) := by
  refine x_met (by decide +kernel) (Nat.le_of_ble_eq_true rfl) (fun V X => ?_)
  have X : x_Is V cX11_place 5 RX11 (Option.some FieldType.int) ad dsM 7 (x_PI Q) := X
  show V σ τ 0 [(0, .ref (ad 0)), (1, .int a1), (2, .int a2), (3, .int a3)] []
  refine x_aload_n X dX11_place_0 rfl 0 rfl ?_
  refine x_iconst X dX11_place_1 ki_0 ?_
  refine x_putI X dX11_place_2 fl_11_82 ft_11_5 dsM_0 rfl ?_
  refine x_aload_n X dX11_place_5 rfl 0 rfl ?_
  refine x_iload_n X dX11_place_6 rfl 1 rfl ?_
  refine x_iload_n X dX11_place_7 rfl 2 rfl ?_
  refine x_callVi X [.int a1, .int a2] [] dX11_place_8 (kX11_noPlace h) cm_X11_noPlace ci_X11_noPlace w_8_34 dsM_0 ⟨by decide, by decide⟩ rfl (Nat.le_of_ble_eq_true rfl) (fun r8 σ8 τ8 h => ?_)
  refine x_if_eq X 16 dX11_place_11 (by decide) (fun hc => ?_) (fun hc => ?_)
  · have h := h.1 hc
    refine x_iload_n X dX11_place_16 rfl 1 rfl ?_
    refine x_iload_n X dX11_place_17 rfl 2 rfl ?_
    refine x_callSi X [.int a1, .int a2] [] dX11_place_18 (kX11_spot h) cm_X11_spot w_7_118 rfl w_7_117 ⟨by decide, by decide⟩ rfl (Nat.le_of_ble_eq_true rfl) (fun r18 σ18 τ18 h => ?_)
    refine x_istore X (lv' := [(4, .int r18), (0, .ref (ad 0)), (1, .int a1), (2, .int a2), (3, .int a3)]) dX11_place_21 (by decide) rfl ?_
    refine x_iload_n X dX11_place_23 rfl 4 rfl ?_
    by_cases hc0 : a3 = 0
    · have h := h.1 hc0
      refine x_tin X 0 84 hc0 dX11_place_24 (by decide) (by decide) (off := 60) (by decide) (by decide) ?_
      refine x_aload_n X dX11_place_84 rfl 1 rfl ?_
      refine x_iload_n X dX11_place_85 rfl 2 rfl ?_
      refine x_iload_n X dX11_place_86 rfl 3 rfl ?_
      refine x_callVi X [.int a1, .int a2] [] dX11_place_87 (kX11_roadAt h) cm_X11_roadAt ci_X11_roadAt w_7_124 dsM_0 ⟨by decide, by decide⟩ rfl (Nat.le_of_ble_eq_true rfl) (fun r87 σ87 τ87 h => ?_)
      exact x_iret X dX11_place_90 ⟨_, rfl, h⟩
    have h := h.2
    by_cases hc1 : a3 = 1
    · have h := h.1 hc1
      refine x_tin X 1 91 hc1 dX11_place_24 (by decide) (by decide) (off := 67) (by decide) (by decide) ?_
      refine x_aload_n X dX11_place_91 rfl 1 rfl ?_
      refine x_iload_n X dX11_place_92 rfl 2 rfl ?_
      refine x_iload_n X dX11_place_93 rfl 3 rfl ?_
      refine x_callVi X [.int a1, .int a2] [] dX11_place_94 (kX11_waitAt h) cm_X11_waitAt ci_X11_waitAt w_7_120 dsM_0 ⟨by decide, by decide⟩ rfl (Nat.le_of_ble_eq_true rfl) (fun r94 σ94 τ94 h => ?_)
      exact x_iret X dX11_place_97 ⟨_, rfl, h⟩
    have h := h.2
    by_cases hc2 : a3 = 2
    · have h := h.1 hc2
      refine x_tin X 2 98 hc2 dX11_place_24 (by decide) (by decide) (off := 74) (by decide) (by decide) ?_
      refine x_aload_n X dX11_place_98 rfl 1 rfl ?_
      refine x_iload_n X dX11_place_99 rfl 2 rfl ?_
      refine x_iload_n X dX11_place_100 rfl 3 rfl ?_
      refine x_callVi X [.int a1, .int a2] [] dX11_place_101 (kX11_speedAt h) cm_X11_speedAt ci_X11_speedAt w_7_128 dsM_0 ⟨by decide, by decide⟩ rfl (Nat.le_of_ble_eq_true rfl) (fun r101 σ101 τ101 h => ?_)
      exact x_iret X dX11_place_104 ⟨_, rfl, h⟩
    have h := h.2
    by_cases hc3 : a3 = 3
    · have h := h.1 hc3
      refine x_tin X 3 105 hc3 dX11_place_24 (by decide) (by decide) (off := 81) (by decide) (by decide) ?_
      refine x_aload_n X dX11_place_105 rfl 1 rfl ?_
      refine x_iload_n X dX11_place_106 rfl 2 rfl ?_
      refine x_iload_n X dX11_place_107 rfl 3 rfl ?_
      refine x_callVi X [.int a1, .int a2] [] dX11_place_108 (kX11_readyAt h) cm_X11_readyAt ci_X11_readyAt w_8_42 dsM_0 ⟨by decide, by decide⟩ rfl (Nat.le_of_ble_eq_true rfl) (fun r108 σ108 τ108 h => ?_)
      exact x_iret X dX11_place_111 ⟨_, rfl, h⟩
    have h := h.2
    by_cases hc4 : a3 = 4
    · have h := h.1 hc4
      refine x_tin X 4 112 hc4 dX11_place_24 (by decide) (by decide) (off := 88) (by decide) (by decide) ?_
      refine x_aload_n X dX11_place_112 rfl 1 rfl ?_
      refine x_getR X (j := 4) dX11_place_113 fl_11_20 dsM_0 rfl ?_
      refine x_iload X dX11_place_116 0 rfl ?_
      have g118 := h.1
      have h := h.2
      refine x_iald X dX11_place_118 dsM_4 g118 ?_
      exact x_iret X dX11_place_119 ⟨_, rfl, h⟩
    have h := h.2
    by_cases hc5 : a3 = 5
    · have h := h.1 hc5
      refine x_tin X 5 120 hc5 dX11_place_24 (by decide) (by decide) (off := 96) (by decide) (by decide) ?_
      refine x_aload_n X dX11_place_120 rfl 1 rfl ?_
      refine x_getR X (j := 5) dX11_place_121 fl_11_23 dsM_0 rfl ?_
      refine x_iload X dX11_place_124 0 rfl ?_
      have g126 := h.1
      have h := h.2
      refine x_iald X dX11_place_126 dsM_5 g126 ?_
      exact x_iret X dX11_place_127 ⟨_, rfl, h⟩
    have h := h.2
    by_cases hc6 : a3 = 6
    · have h := h.1 hc6
      refine x_tin X 6 128 hc6 dX11_place_24 (by decide) (by decide) (off := 104) (by decide) (by decide) ?_
      refine x_aload_n X dX11_place_128 rfl 1 rfl ?_
      refine x_iload_n X dX11_place_129 rfl 2 rfl ?_
      refine x_iload_n X dX11_place_130 rfl 3 rfl ?_
      refine x_callVi X [.int a1, .int a2] [] dX11_place_131 (kX11_baseAt h) cm_X11_baseAt ci_X11_baseAt w_7_191 dsM_0 ⟨by decide, by decide⟩ rfl (Nat.le_of_ble_eq_true rfl) (fun r131 σ131 τ131 h => ?_)
      exact x_iret X dX11_place_134 ⟨_, rfl, h⟩
    have h := h.2
    by_cases hc7 : a3 = 7
    · have h := h.1 hc7
      refine x_tin X 7 135 hc7 dX11_place_24 (by decide) (by decide) (off := 111) (by decide) (by decide) ?_
      refine x_aload_n X dX11_place_135 rfl 1 rfl ?_
      refine x_getR X (j := 11) dX11_place_136 fl_11_41 dsM_0 rfl ?_
      refine x_iload X dX11_place_139 0 rfl ?_
      have g141 := h.1
      have h := h.2
      refine x_iald X dX11_place_141 dsM_11 g141 ?_
      exact x_iret X dX11_place_142 ⟨_, rfl, h⟩
    have h := h.2
    by_cases hc8 : a3 = 8
    · have h := h.1 hc8
      refine x_tin X 8 143 hc8 dX11_place_24 (by decide) (by decide) (off := 119) (by decide) (by decide) ?_
      refine x_aload_n X dX11_place_143 rfl 1 rfl ?_
      refine x_iload_n X dX11_place_144 rfl 2 rfl ?_
      refine x_iload_n X dX11_place_145 rfl 3 rfl ?_
      refine x_callVi X [.int a1, .int a2] [] dX11_place_146 (kX11_fuelAt h) cm_X11_fuelAt ci_X11_fuelAt w_7_238 dsM_0 ⟨by decide, by decide⟩ rfl (Nat.le_of_ble_eq_true rfl) (fun r146 σ146 τ146 h => ?_)
      exact x_iret X dX11_place_149 ⟨_, rfl, h⟩
    have h := h.2
    by_cases hc9 : a3 = 9
    · have h := h.1 hc9
      refine x_tin X 9 150 hc9 dX11_place_24 (by decide) (by decide) (off := 126) (by decide) (by decide) ?_
      refine x_aload_n X dX11_place_150 rfl 1 rfl ?_
      refine x_getR X (j := 12) dX11_place_151 fl_11_44 dsM_0 rfl ?_
      refine x_iload X dX11_place_154 0 rfl ?_
      have g156 := h.1
      have h := h.2
      refine x_zald X dX11_place_156 dsM_12 g156 ?_
      refine x_if_eq X 164 dX11_place_157 (by decide) (fun hc => ?_) (fun hc => ?_)
      · have h := h.1 hc
        refine x_iconst X dX11_place_164 ki_0 ?_
        refine x_sub X [] (lv' := []) rfl ?_
        exact bX11_place_165 X h
      · have h := h.2 hc
        refine x_iconst X dX11_place_160 ki_1 ?_
        refine x_goto X (tgt := 165) dX11_place_161 (by decide) ?_
        refine x_sub X [] (lv' := []) rfl ?_
        exact bX11_place_165 X h
    have h := h.2
    by_cases hc10 : a3 = 10
    · have h := h.1 hc10
      refine x_tin X 10 166 hc10 dX11_place_24 (by decide) (by decide) (off := 142) (by decide) (by decide) ?_
      refine x_aload_n X dX11_place_166 rfl 1 rfl ?_
      refine x_getR X (j := 10) dX11_place_167 fl_11_38 dsM_0 rfl ?_
      refine x_iload X dX11_place_170 0 rfl ?_
      have g172 := h.1
      have h := h.2
      refine x_iald X dX11_place_172 dsM_10 g172 ?_
      exact x_iret X dX11_place_173 ⟨_, rfl, h⟩
    have h := h.2
    have he0 := x_toInt_ne (n := 0) hc0 (by decide)
    have he1 := x_toInt_ne (n := 1) hc1 (by decide)
    have he2 := x_toInt_ne (n := 2) hc2 (by decide)
    have he3 := x_toInt_ne (n := 3) hc3 (by decide)
    have he4 := x_toInt_ne (n := 4) hc4 (by decide)
    have he5 := x_toInt_ne (n := 5) hc5 (by decide)
    have he6 := x_toInt_ne (n := 6) hc6 (by decide)
    have he7 := x_toInt_ne (n := 7) hc7 (by decide)
    have he8 := x_toInt_ne (n := 8) hc8 (by decide)
    have he9 := x_toInt_ne (n := 9) hc9 (by decide)
    have he10 := x_toInt_ne (n := 10) hc10 (by decide)
    have h := h hc0 hc1 hc2 hc3 hc4 hc5 hc6 hc7 hc8 hc9 hc10
    refine x_tout X 174 dX11_place_24 (by omega) (by decide) ?_
    refine x_iconst X dX11_place_174 ki_m1 ?_
    exact x_iret X dX11_place_175 ⟨_, rfl, h⟩
  · have h := h.2 hc
    refine x_iconst X dX11_place_14 ki_0 ?_
    exact x_iret X dX11_place_15 ⟨_, rfl, h⟩
theorem dX11_platoonOf_0 : decode cX11_platoonOf 0 = .ok (.aload_n 0, 1) := by decide +kernel
theorem dX11_platoonOf_1 : decode cX11_platoonOf 1 = .ok (.iconst 0, 1) := by decide +kernel
theorem dX11_platoonOf_2 : decode cX11_platoonOf 2 = .ok (.putfield 82, 3) := by decide +kernel
theorem dX11_platoonOf_5 : decode cX11_platoonOf 5 = .ok (.aload_n 0, 1) := by decide +kernel
theorem dX11_platoonOf_6 : decode cX11_platoonOf 6 = .ok (.iload_n 1, 1) := by decide +kernel
theorem dX11_platoonOf_7 : decode cX11_platoonOf 7 = .ok (.iload_n 2, 1) := by decide +kernel
theorem dX11_platoonOf_8 : decode cX11_platoonOf 8 = .ok (.invokevirtual 249, 3) := by decide +kernel
theorem dX11_platoonOf_11 : decode cX11_platoonOf 11 = .ok (.ifCond .eq 7, 3) := by decide +kernel
theorem dX11_platoonOf_14 : decode cX11_platoonOf 14 = .ok (.iconst 0, 1) := by decide +kernel
theorem dX11_platoonOf_15 : decode cX11_platoonOf 15 = .ok (.goto 9, 3) := by decide +kernel
theorem dX11_platoonOf_18 : decode cX11_platoonOf 18 = .ok (.aload_n 0, 1) := by decide +kernel
theorem dX11_platoonOf_19 : decode cX11_platoonOf 19 = .ok (.iload_n 1, 1) := by decide +kernel
theorem dX11_platoonOf_20 : decode cX11_platoonOf 20 = .ok (.iload_n 2, 1) := by decide +kernel
theorem dX11_platoonOf_21 : decode cX11_platoonOf 21 = .ok (.invokevirtual 229, 3) := by decide +kernel
theorem dX11_platoonOf_24 : decode cX11_platoonOf 24 = .ok (.ireturn, 1) := by decide +kernel
theorem cm_X11_platoonOf : x_CM yX11_platoonOf cX11_platoonOf 3 (Option.some FieldType.int) 2 := ⟨w_8_49, w_1_12, by decide +kernel, by decide +kernel⟩
theorem ci_X11_platoonOf : x_CI yX11_platoonOf 13 := ⟨w_8_47, w_8_48, (RX11, TX11, 41), rfl, rfl⟩
set_option maxRecDepth 100000 in
set_option maxHeartbeats 4000000 in
theorem bX11_platoonOf_24 {V : x_J} {ad : Nat → Nat} {Q : Int32 → x_S → x_L → Prop} (X : x_Is V cX11_platoonOf 3 RX11 (Option.some FieldType.int) ad dsM 7 (x_PI Q)) {s0 : Int32} {σ : x_S} {τ : x_L} (h : wX11_platoonOf_24 Q s0 σ τ) : V σ τ 24 [] [.int s0] := by
  exact x_iret X dX11_platoonOf_24 ⟨_, rfl, h⟩
set_option maxRecDepth 100000 in
set_option maxHeartbeats 4000000 in
theorem kX11_platoonOf {ad : Nat → Nat} {a1 : Int32} {a2 : Int32} {σ : x_S} {τ : x_L} {Q : Int32 → x_S → x_L → Prop} (h : wX11_platoonOf a1 a2 σ τ Q) : x_Met yX11_platoonOf cX11_platoonOf 3 (Option.some FieldType.int) 7 ad dsM [.ref (ad 0), .int a1, .int a2] σ τ (x_PI Q) := by
  refine x_met (by decide +kernel) (Nat.le_of_ble_eq_true rfl) (fun V X => ?_)
  have X : x_Is V cX11_platoonOf 3 RX11 (Option.some FieldType.int) ad dsM 7 (x_PI Q) := X
  show V σ τ 0 [(0, .ref (ad 0)), (1, .int a1), (2, .int a2)] []
  refine x_aload_n X dX11_platoonOf_0 rfl 0 rfl ?_
  refine x_iconst X dX11_platoonOf_1 ki_0 ?_
  refine x_putI X dX11_platoonOf_2 fl_11_82 ft_11_5 dsM_0 rfl ?_
  refine x_aload_n X dX11_platoonOf_5 rfl 0 rfl ?_
  refine x_iload_n X dX11_platoonOf_6 rfl 1 rfl ?_
  refine x_iload_n X dX11_platoonOf_7 rfl 2 rfl ?_
  refine x_callVi X [.int a1, .int a2] [] dX11_platoonOf_8 (kX11_noPlace h) cm_X11_noPlace ci_X11_noPlace w_8_34 dsM_0 ⟨by decide, by decide⟩ rfl (Nat.le_of_ble_eq_true rfl) (fun r8 σ8 τ8 h => ?_)
  refine x_if_eq X 18 dX11_platoonOf_11 (by decide) (fun hc => ?_) (fun hc => ?_)
  · have h := h.1 hc
    refine x_aload_n X dX11_platoonOf_18 rfl 0 rfl ?_
    refine x_iload_n X dX11_platoonOf_19 rfl 1 rfl ?_
    refine x_iload_n X dX11_platoonOf_20 rfl 2 rfl ?_
    refine x_callVi X [.int a1, .int a2] [] dX11_platoonOf_21 (kX11_numberOf h) cm_X11_numberOf ci_X11_numberOf w_8_50 dsM_0 ⟨by decide, by decide⟩ rfl (Nat.le_of_ble_eq_true rfl) (fun r21 σ21 τ21 h => ?_)
    refine x_sub X [] (lv' := []) rfl ?_
    exact bX11_platoonOf_24 X h
  · have h := h.2 hc
    refine x_iconst X dX11_platoonOf_14 ki_0 ?_
    refine x_goto X (tgt := 24) dX11_platoonOf_15 (by decide) ?_
    refine x_sub X [] (lv' := []) rfl ?_
    exact bX11_platoonOf_24 X h
theorem dX11_position_0 : decode cX11_position 0 = .ok (.aload_n 0, 1) := by decide +kernel
theorem dX11_position_1 : decode cX11_position 1 = .ok (.iconst 0, 1) := by decide +kernel
theorem dX11_position_2 : decode cX11_position 2 = .ok (.putfield 82, 3) := by decide +kernel
theorem dX11_position_5 : decode cX11_position 5 = .ok (.aload_n 0, 1) := by decide +kernel
theorem dX11_position_6 : decode cX11_position 6 = .ok (.iload_n 1, 1) := by decide +kernel
theorem dX11_position_7 : decode cX11_position 7 = .ok (.iload_n 2, 1) := by decide +kernel
theorem dX11_position_8 : decode cX11_position 8 = .ok (.invokevirtual 249, 3) := by decide +kernel
theorem dX11_position_11 : decode cX11_position 11 = .ok (.ifCond .eq 7, 3) := by decide +kernel
theorem dX11_position_14 : decode cX11_position 14 = .ok (.iconst 0, 1) := by decide +kernel
theorem dX11_position_15 : decode cX11_position 15 = .ok (.goto 13, 3) := by decide +kernel
theorem dX11_position_18 : decode cX11_position 18 = .ok (.aload_n 0, 1) := by decide +kernel
theorem dX11_position_19 : decode cX11_position 19 = .ok (.getfield 35, 3) := by decide +kernel
theorem dX11_position_22 : decode cX11_position 22 = .ok (.iload_n 1, 1) := by decide +kernel
theorem dX11_position_23 : decode cX11_position 23 = .ok (.iload_n 2, 1) := by decide +kernel
theorem dX11_position_24 : decode cX11_position 24 = .ok (.invokestatic 111, 3) := by decide +kernel
theorem dX11_position_27 : decode cX11_position 27 = .ok (.iaload, 1) := by decide +kernel
theorem dX11_position_28 : decode cX11_position 28 = .ok (.ireturn, 1) := by decide +kernel
theorem cm_X11_position : x_CM yX11_position cX11_position 3 (Option.some FieldType.int) 2 := ⟨w_8_61, w_1_12, by decide +kernel, by decide +kernel⟩
theorem ci_X11_position : x_CI yX11_position 13 := ⟨w_8_59, w_8_60, (RX11, TX11, 41), rfl, rfl⟩
set_option maxRecDepth 100000 in
set_option maxHeartbeats 4000000 in
theorem bX11_position_28 {V : x_J} {ad : Nat → Nat} {Q : Int32 → x_S → x_L → Prop} (X : x_Is V cX11_position 3 RX11 (Option.some FieldType.int) ad dsM 7 (x_PI Q)) {s0 : Int32} {σ : x_S} {τ : x_L} (h : wX11_position_28 Q s0 σ τ) : V σ τ 28 [] [.int s0] := by
  exact x_iret X dX11_position_28 ⟨_, rfl, h⟩
set_option maxRecDepth 100000 in
set_option maxHeartbeats 4000000 in
theorem kX11_position {ad : Nat → Nat} {a1 : Int32} {a2 : Int32} {σ : x_S} {τ : x_L} {Q : Int32 → x_S → x_L → Prop} (h : wX11_position a1 a2 σ τ Q) : x_Met yX11_position cX11_position 3 (Option.some FieldType.int) 7 ad dsM [.ref (ad 0), .int a1, .int a2] σ τ (x_PI Q) := by
  refine x_met (by decide +kernel) (Nat.le_of_ble_eq_true rfl) (fun V X => ?_)
  have X : x_Is V cX11_position 3 RX11 (Option.some FieldType.int) ad dsM 7 (x_PI Q) := X
  show V σ τ 0 [(0, .ref (ad 0)), (1, .int a1), (2, .int a2)] []
  refine x_aload_n X dX11_position_0 rfl 0 rfl ?_
  refine x_iconst X dX11_position_1 ki_0 ?_
  refine x_putI X dX11_position_2 fl_11_82 ft_11_5 dsM_0 rfl ?_
  refine x_aload_n X dX11_position_5 rfl 0 rfl ?_
  refine x_iload_n X dX11_position_6 rfl 1 rfl ?_
  refine x_iload_n X dX11_position_7 rfl 2 rfl ?_
  refine x_callVi X [.int a1, .int a2] [] dX11_position_8 (kX11_noPlace h) cm_X11_noPlace ci_X11_noPlace w_8_34 dsM_0 ⟨by decide, by decide⟩ rfl (Nat.le_of_ble_eq_true rfl) (fun r8 σ8 τ8 h => ?_)
  refine x_if_eq X 18 dX11_position_11 (by decide) (fun hc => ?_) (fun hc => ?_)
  · have h := h.1 hc
    refine x_aload_n X dX11_position_18 rfl 0 rfl ?_
    refine x_getR X (j := 9) dX11_position_19 fl_11_35 dsM_0 rfl ?_
    refine x_iload_n X dX11_position_22 rfl 1 rfl ?_
    refine x_iload_n X dX11_position_23 rfl 2 rfl ?_
    refine x_callSi X [.int a1, .int a2] [.ref (ad 9)] dX11_position_24 (kX11_spot h) cm_X11_spot w_7_118 rfl w_7_117 ⟨by decide, by decide⟩ rfl (Nat.le_of_ble_eq_true rfl) (fun r24 σ24 τ24 h => ?_)
    have g27 := h.1
    have h := h.2
    refine x_iald X dX11_position_27 dsM_9 g27 ?_
    refine x_sub X [] (lv' := []) rfl ?_
    exact bX11_position_28 X h
  · have h := h.2 hc
    refine x_iconst X dX11_position_14 ki_0 ?_
    refine x_goto X (tgt := 28) dX11_position_15 (by decide) ?_
    refine x_sub X [] (lv' := []) rfl ?_
    exact bX11_position_28 X h
theorem dX11_key_0 : decode cX11_key 0 = .ok (.aload_n 0, 1) := by decide +kernel
theorem dX11_key_1 : decode cX11_key 1 = .ok (.iconst 0, 1) := by decide +kernel
theorem dX11_key_2 : decode cX11_key 2 = .ok (.putfield 82, 3) := by decide +kernel
theorem dX11_key_5 : decode cX11_key 5 = .ok (.aload_n 0, 1) := by decide +kernel
theorem dX11_key_6 : decode cX11_key 6 = .ok (.iload_n 1, 1) := by decide +kernel
theorem dX11_key_7 : decode cX11_key 7 = .ok (.iload_n 2, 1) := by decide +kernel
theorem dX11_key_8 : decode cX11_key 8 = .ok (.invokevirtual 249, 3) := by decide +kernel
theorem dX11_key_11 : decode cX11_key 11 = .ok (.ifCond .eq 7, 3) := by decide +kernel
theorem dX11_key_14 : decode cX11_key 14 = .ok (.iconst 0, 1) := by decide +kernel
theorem dX11_key_15 : decode cX11_key 15 = .ok (.goto 13, 3) := by decide +kernel
theorem dX11_key_18 : decode cX11_key 18 = .ok (.aload_n 0, 1) := by decide +kernel
theorem dX11_key_19 : decode cX11_key 19 = .ok (.getfield 32, 3) := by decide +kernel
theorem dX11_key_22 : decode cX11_key 22 = .ok (.iload_n 1, 1) := by decide +kernel
theorem dX11_key_23 : decode cX11_key 23 = .ok (.iload_n 2, 1) := by decide +kernel
theorem dX11_key_24 : decode cX11_key 24 = .ok (.invokestatic 111, 3) := by decide +kernel
theorem dX11_key_27 : decode cX11_key 27 = .ok (.iaload, 1) := by decide +kernel
theorem dX11_key_28 : decode cX11_key 28 = .ok (.ireturn, 1) := by decide +kernel
theorem cm_X11_key : x_CM yX11_key cX11_key 3 (Option.some FieldType.int) 2 := ⟨w_8_65, w_1_12, by decide +kernel, by decide +kernel⟩
theorem ci_X11_key : x_CI yX11_key 13 := ⟨w_8_63, w_8_64, (RX11, TX11, 41), rfl, rfl⟩
set_option maxRecDepth 100000 in
set_option maxHeartbeats 4000000 in
theorem bX11_key_28 {V : x_J} {ad : Nat → Nat} {Q : Int32 → x_S → x_L → Prop} (X : x_Is V cX11_key 3 RX11 (Option.some FieldType.int) ad dsM 7 (x_PI Q)) {s0 : Int32} {σ : x_S} {τ : x_L} (h : wX11_key_28 Q s0 σ τ) : V σ τ 28 [] [.int s0] := by
  exact x_iret X dX11_key_28 ⟨_, rfl, h⟩
set_option maxRecDepth 100000 in
set_option maxHeartbeats 4000000 in
theorem kX11_key {ad : Nat → Nat} {a1 : Int32} {a2 : Int32} {σ : x_S} {τ : x_L} {Q : Int32 → x_S → x_L → Prop} (h : wX11_key a1 a2 σ τ Q) : x_Met yX11_key cX11_key 3 (Option.some FieldType.int) 7 ad dsM [.ref (ad 0), .int a1, .int a2] σ τ (x_PI Q) := by
  refine x_met (by decide +kernel) (Nat.le_of_ble_eq_true rfl) (fun V X => ?_)
  have X : x_Is V cX11_key 3 RX11 (Option.some FieldType.int) ad dsM 7 (x_PI Q) := X
  show V σ τ 0 [(0, .ref (ad 0)), (1, .int a1), (2, .int a2)] []
  refine x_aload_n X dX11_key_0 rfl 0 rfl ?_
  refine x_iconst X dX11_key_1 ki_0 ?_
  refine x_putI X dX11_key_2 fl_11_82 ft_11_5 dsM_0 rfl ?_
  refine x_aload_n X dX11_key_5 rfl 0 rfl ?_
  refine x_iload_n X dX11_key_6 rfl 1 rfl ?_
  refine x_iload_n X dX11_key_7 rfl 2 rfl ?_
  refine x_callVi X [.int a1, .int a2] [] dX11_key_8 (kX11_noPlace h) cm_X11_noPlace ci_X11_noPlace w_8_34 dsM_0 ⟨by decide, by decide⟩ rfl (Nat.le_of_ble_eq_true rfl) (fun r8 σ8 τ8 h => ?_)
  refine x_if_eq X 18 dX11_key_11 (by decide) (fun hc => ?_) (fun hc => ?_)
  · have h := h.1 hc
    refine x_aload_n X dX11_key_18 rfl 0 rfl ?_
    refine x_getR X (j := 8) dX11_key_19 fl_11_32 dsM_0 rfl ?_
    refine x_iload_n X dX11_key_22 rfl 1 rfl ?_
    refine x_iload_n X dX11_key_23 rfl 2 rfl ?_
    refine x_callSi X [.int a1, .int a2] [.ref (ad 8)] dX11_key_24 (kX11_spot h) cm_X11_spot w_7_118 rfl w_7_117 ⟨by decide, by decide⟩ rfl (Nat.le_of_ble_eq_true rfl) (fun r24 σ24 τ24 h => ?_)
    have g27 := h.1
    have h := h.2
    refine x_iald X dX11_key_27 dsM_8 g27 ?_
    refine x_sub X [] (lv' := []) rfl ?_
    exact bX11_key_28 X h
  · have h := h.2 hc
    refine x_iconst X dX11_key_14 ki_0 ?_
    refine x_goto X (tgt := 28) dX11_key_15 (by decide) ?_
    refine x_sub X [] (lv' := []) rfl ?_
    exact bX11_key_28 X h
theorem dX11_noPlatoon_0 : decode cX11_noPlatoon 0 = .ok (.aload_n 0, 1) := by decide +kernel
theorem dX11_noPlatoon_1 : decode cX11_noPlatoon 1 = .ok (.invokevirtual 200, 3) := by decide +kernel
theorem dX11_noPlatoon_4 : decode cX11_noPlatoon 4 = .ok (.aload_n 0, 1) := by decide +kernel
theorem dX11_noPlatoon_5 : decode cX11_noPlatoon 5 = .ok (.aload_n 0, 1) := by decide +kernel
theorem dX11_noPlatoon_6 : decode cX11_noPlatoon 6 = .ok (.iload_n 1, 1) := by decide +kernel
theorem dX11_noPlatoon_7 : decode cX11_noPlatoon 7 = .ok (.invokevirtual 232, 3) := by decide +kernel
theorem dX11_noPlatoon_10 : decode cX11_noPlatoon 10 = .ok (.ifCond .eq 12, 3) := by decide +kernel
theorem dX11_noPlatoon_13 : decode cX11_noPlatoon 13 = .ok (.aload_n 0, 1) := by decide +kernel
theorem dX11_noPlatoon_14 : decode cX11_noPlatoon 14 = .ok (.iload_n 1, 1) := by decide +kernel
theorem dX11_noPlatoon_15 : decode cX11_noPlatoon 15 = .ok (.iload_n 2, 1) := by decide +kernel
theorem dX11_noPlatoon_16 : decode cX11_noPlatoon 16 = .ok (.invokevirtual 255, 3) := by decide +kernel
theorem dX11_noPlatoon_19 : decode cX11_noPlatoon 19 = .ok (.ifCond .ne 7, 3) := by decide +kernel
theorem dX11_noPlatoon_22 : decode cX11_noPlatoon 22 = .ok (.iconst 1, 1) := by decide +kernel
theorem dX11_noPlatoon_23 : decode cX11_noPlatoon 23 = .ok (.goto 4, 3) := by decide +kernel
theorem dX11_noPlatoon_26 : decode cX11_noPlatoon 26 = .ok (.iconst 0, 1) := by decide +kernel
theorem dX11_noPlatoon_27 : decode cX11_noPlatoon 27 = .ok (.iconst 1, 1) := by decide +kernel
theorem dX11_noPlatoon_28 : decode cX11_noPlatoon 28 = .ok (.invokevirtual 235, 3) := by decide +kernel
theorem dX11_noPlatoon_31 : decode cX11_noPlatoon 31 = .ok (.ireturn, 1) := by decide +kernel
theorem cm_X11_noPlatoon : x_CM yX11_noPlatoon cX11_noPlatoon 3 (Option.some FieldType.boolean) 2 := ⟨w_8_73, w_1_12, by decide +kernel, by decide +kernel⟩
theorem ci_X11_noPlatoon : x_CI yX11_noPlatoon 13 := ⟨w_8_72, wp_85, (RX11, TX11, 41), rfl, rfl⟩
set_option maxRecDepth 100000 in
set_option maxHeartbeats 4000000 in
theorem bX11_noPlatoon_27 {V : x_J} {ad : Nat → Nat} {Q : Int32 → x_S → x_L → Prop} (X : x_Is V cX11_noPlatoon 3 RX11 (Option.some FieldType.boolean) ad dsM 6 (x_PI Q)) {s1 : Int32} {σ : x_S} {τ : x_L} (h : wX11_noPlatoon_27 Q s1 σ τ) : V σ τ 27 [] [.int s1, .ref (ad 0)] := by
  refine x_iconst X dX11_noPlatoon_27 ki_1 ?_
  refine x_callVi X [.int s1, .int 1] [] dX11_noPlatoon_28 (kX11_throwsIf h) cm_X11_throwsIf ci_X11_throwsIf w_8_10 dsM_0 ⟨by decide, by decide⟩ rfl (Nat.le_of_ble_eq_true rfl) (fun r28 σ28 τ28 h => ?_)
  exact x_zret X dX11_noPlatoon_31 ⟨h.1, _, rfl, h.2⟩
set_option maxRecDepth 100000 in
set_option maxHeartbeats 4000000 in
theorem bX11_noPlatoon_22 {V : x_J} {ad : Nat → Nat} {Q : Int32 → x_S → x_L → Prop} (X : x_Is V cX11_noPlatoon 3 RX11 (Option.some FieldType.boolean) ad dsM 6 (x_PI Q)) {σ : x_S} {τ : x_L} (h : wX11_noPlatoon_22 Q σ τ) : V σ τ 22 [] [.ref (ad 0)] := by
  refine x_iconst X dX11_noPlatoon_22 ki_1 ?_
  refine x_goto X (tgt := 27) dX11_noPlatoon_23 (by decide) ?_
  exact bX11_noPlatoon_27 X h
set_option maxRecDepth 100000 in
set_option maxHeartbeats 4000000 in
theorem kX11_noPlatoon {ad : Nat → Nat} {a1 : Int32} {a2 : Int32} {σ : x_S} {τ : x_L} {Q : Int32 → x_S → x_L → Prop} (h : wX11_noPlatoon a1 a2 σ τ Q) : x_Met yX11_noPlatoon cX11_noPlatoon 3 (Option.some FieldType.boolean) 6 ad dsM [.ref (ad 0), .int a1, .int a2] σ τ (x_PI Q) := by
  refine x_met (by decide +kernel) (Nat.le_of_ble_eq_true rfl) (fun V X => ?_)
  have X : x_Is V cX11_noPlatoon 3 RX11 (Option.some FieldType.boolean) ad dsM 6 (x_PI Q) := X
  show V σ τ 0 [(0, .ref (ad 0)), (1, .int a1), (2, .int a2)] []
  refine x_aload_n X dX11_noPlatoon_0 rfl 0 rfl ?_
  refine x_callVv X [] [] dX11_noPlatoon_1 (kX11_lay h) cm_X11_lay ci_X11_lay w_7_101 dsM_0 ⟨by decide, by decide⟩ rfl (Nat.le_of_ble_eq_true rfl) (fun σ1 τ1 h => ?_)
  refine x_aload_n X dX11_noPlatoon_4 rfl 0 rfl ?_
  refine x_aload_n X dX11_noPlatoon_5 rfl 0 rfl ?_
  refine x_iload_n X dX11_noPlatoon_6 rfl 1 rfl ?_
  refine x_callVi X [.int a1] [.ref (ad 0)] dX11_noPlatoon_7 (kX11_isRoad h) cm_X11_isRoad ci_X11_isRoad w_8_6 dsM_0 ⟨by decide, by decide⟩ rfl (Nat.le_of_ble_eq_true rfl) (fun r7 σ7 τ7 h => ?_)
  refine x_if_eq X 22 dX11_noPlatoon_10 (by decide) (fun hc => ?_) (fun hc => ?_)
  · have h := h.1 hc
    refine x_sub X [] (lv' := []) rfl ?_
    exact bX11_noPlatoon_22 X h
  · have h := h.2 hc
    refine x_aload_n X dX11_noPlatoon_13 rfl 0 rfl ?_
    refine x_iload_n X dX11_noPlatoon_14 rfl 1 rfl ?_
    refine x_iload_n X dX11_noPlatoon_15 rfl 2 rfl ?_
    refine x_callVi X [.int a1, .int a2] [.ref (ad 0)] dX11_noPlatoon_16 (kX11_findPlatoon h) cm_X11_findPlatoon ci_X11_findPlatoon w_8_74 dsM_0 ⟨by decide, by decide⟩ rfl (Nat.le_of_ble_eq_true rfl) (fun r16 σ16 τ16 h => ?_)
    refine x_if_ne X 26 dX11_noPlatoon_19 (by decide) (fun hc => ?_) (fun hc => ?_)
    · have h := h.1 hc
      refine x_iconst X dX11_noPlatoon_26 ki_0 ?_
      refine x_sub X [] (lv' := []) rfl ?_
      exact bX11_noPlatoon_27 X h
    · have h := h.2 hc
      refine x_sub X [] (lv' := []) rfl ?_
      exact bX11_noPlatoon_22 X h
theorem dX11_platoon_0 : decode cX11_platoon 0 = .ok (.aload_n 0, 1) := by decide +kernel
theorem dX11_platoon_1 : decode cX11_platoon 1 = .ok (.iconst 0, 1) := by decide +kernel
theorem dX11_platoon_2 : decode cX11_platoon 2 = .ok (.putfield 82, 3) := by decide +kernel
theorem dX11_platoon_5 : decode cX11_platoon 5 = .ok (.aload_n 0, 1) := by decide +kernel
theorem dX11_platoon_6 : decode cX11_platoon 6 = .ok (.iload_n 1, 1) := by decide +kernel
theorem dX11_platoon_7 : decode cX11_platoon 7 = .ok (.iload_n 2, 1) := by decide +kernel
theorem dX11_platoon_8 : decode cX11_platoon 8 = .ok (.invokevirtual 258, 3) := by decide +kernel
theorem dX11_platoon_11 : decode cX11_platoon 11 = .ok (.ifCond .eq 5, 3) := by decide +kernel
theorem dX11_platoon_14 : decode cX11_platoon 14 = .ok (.iconst 0, 1) := by decide +kernel
theorem dX11_platoon_15 : decode cX11_platoon 15 = .ok (.ireturn, 1) := by decide +kernel
theorem dX11_platoon_16 : decode cX11_platoon 16 = .ok (.aload_n 0, 1) := by decide +kernel
theorem dX11_platoon_17 : decode cX11_platoon 17 = .ok (.aload_n 0, 1) := by decide +kernel
theorem dX11_platoon_18 : decode cX11_platoon 18 = .ok (.getfield 223, 3) := by decide +kernel
theorem dX11_platoon_21 : decode cX11_platoon 21 = .ok (.aload_n 0, 1) := by decide +kernel
theorem dX11_platoon_22 : decode cX11_platoon 22 = .ok (.getfield 226, 3) := by decide +kernel
theorem dX11_platoon_25 : decode cX11_platoon 25 = .ok (.invokevirtual 163, 3) := by decide +kernel
theorem dX11_platoon_28 : decode cX11_platoon 28 = .ok (.istore 4, 2) := by decide +kernel
theorem dX11_platoon_30 : decode cX11_platoon 30 = .ok (.iconst 0, 1) := by decide +kernel
theorem dX11_platoon_31 : decode cX11_platoon 31 = .ok (.istore 5, 2) := by decide +kernel
theorem dX11_platoon_33 : decode cX11_platoon 33 = .ok (.iconst 0, 1) := by decide +kernel
theorem dX11_platoon_34 : decode cX11_platoon 34 = .ok (.istore 6, 2) := by decide +kernel
theorem dX11_platoon_36 : decode cX11_platoon 36 = .ok (.iconst 0, 1) := by decide +kernel
theorem dX11_platoon_37 : decode cX11_platoon 37 = .ok (.istore 7, 2) := by decide +kernel
theorem dX11_platoon_39 : decode cX11_platoon 39 = .ok (.iconst 0, 1) := by decide +kernel
theorem dX11_platoon_40 : decode cX11_platoon 40 = .ok (.istore 8, 2) := by decide +kernel
theorem dX11_platoon_42 : decode cX11_platoon 42 = .ok (.iload 8, 2) := by decide +kernel
theorem dX11_platoon_44 : decode cX11_platoon 44 = .ok (.iload 4, 2) := by decide +kernel
theorem dX11_platoon_46 : decode cX11_platoon 46 = .ok (.if_icmp .ge 74, 3) := by decide +kernel
theorem dX11_platoon_49 : decode cX11_platoon 49 = .ok (.aload_n 0, 1) := by decide +kernel
theorem dX11_platoon_50 : decode cX11_platoon 50 = .ok (.getfield 47, 3) := by decide +kernel
theorem dX11_platoon_53 : decode cX11_platoon 53 = .ok (.iload 8, 2) := by decide +kernel
theorem dX11_platoon_55 : decode cX11_platoon 55 = .ok (.iaload, 1) := by decide +kernel
theorem dX11_platoon_56 : decode cX11_platoon 56 = .ok (.aload_n 0, 1) := by decide +kernel
theorem dX11_platoon_57 : decode cX11_platoon 57 = .ok (.getfield 50, 3) := by decide +kernel
theorem dX11_platoon_60 : decode cX11_platoon 60 = .ok (.iload 8, 2) := by decide +kernel
theorem dX11_platoon_62 : decode cX11_platoon 62 = .ok (.iaload, 1) := by decide +kernel
theorem dX11_platoon_63 : decode cX11_platoon 63 = .ok (.invokestatic 111, 3) := by decide +kernel
theorem dX11_platoon_66 : decode cX11_platoon 66 = .ok (.istore 9, 2) := by decide +kernel
theorem dX11_platoon_68 : decode cX11_platoon 68 = .ok (.iload 5, 2) := by decide +kernel
theorem dX11_platoon_70 : decode cX11_platoon 70 = .ok (.aload_n 0, 1) := by decide +kernel
theorem dX11_platoon_71 : decode cX11_platoon 71 = .ok (.getfield 41, 3) := by decide +kernel
theorem dX11_platoon_74 : decode cX11_platoon 74 = .ok (.iload 9, 2) := by decide +kernel
theorem dX11_platoon_76 : decode cX11_platoon 76 = .ok (.iaload, 1) := by decide +kernel
theorem dX11_platoon_77 : decode cX11_platoon 77 = .ok (.iadd, 1) := by decide +kernel
theorem dX11_platoon_78 : decode cX11_platoon 78 = .ok (.istore 5, 2) := by decide +kernel
theorem dX11_platoon_80 : decode cX11_platoon 80 = .ok (.iload 6, 2) := by decide +kernel
theorem dX11_platoon_82 : decode cX11_platoon 82 = .ok (.aload_n 0, 1) := by decide +kernel
theorem dX11_platoon_83 : decode cX11_platoon 83 = .ok (.getfield 44, 3) := by decide +kernel
theorem dX11_platoon_86 : decode cX11_platoon 86 = .ok (.iload 9, 2) := by decide +kernel
theorem dX11_platoon_88 : decode cX11_platoon 88 = .ok (.baload, 1) := by decide +kernel
theorem dX11_platoon_89 : decode cX11_platoon 89 = .ok (.ifCond .eq 7, 3) := by decide +kernel
theorem dX11_platoon_92 : decode cX11_platoon 92 = .ok (.iconst 1, 1) := by decide +kernel
theorem dX11_platoon_93 : decode cX11_platoon 93 = .ok (.goto 4, 3) := by decide +kernel
theorem dX11_platoon_96 : decode cX11_platoon 96 = .ok (.iconst 0, 1) := by decide +kernel
theorem dX11_platoon_97 : decode cX11_platoon 97 = .ok (.iadd, 1) := by decide +kernel
theorem dX11_platoon_98 : decode cX11_platoon 98 = .ok (.istore 6, 2) := by decide +kernel
theorem dX11_platoon_100 : decode cX11_platoon 100 = .ok (.iload 7, 2) := by decide +kernel
theorem dX11_platoon_102 : decode cX11_platoon 102 = .ok (.iconst 1, 1) := by decide +kernel
theorem dX11_platoon_103 : decode cX11_platoon 103 = .ok (.aload_n 0, 1) := by decide +kernel
theorem dX11_platoon_104 : decode cX11_platoon 104 = .ok (.getfield 47, 3) := by decide +kernel
theorem dX11_platoon_107 : decode cX11_platoon 107 = .ok (.iload 8, 2) := by decide +kernel
theorem dX11_platoon_109 : decode cX11_platoon 109 = .ok (.iaload, 1) := by decide +kernel
theorem dX11_platoon_110 : decode cX11_platoon 110 = .ok (.ishl, 1) := by decide +kernel
theorem dX11_platoon_111 : decode cX11_platoon 111 = .ok (.ior, 1) := by decide +kernel
theorem dX11_platoon_112 : decode cX11_platoon 112 = .ok (.istore 7, 2) := by decide +kernel
theorem dX11_platoon_114 : decode cX11_platoon 114 = .ok (.iinc 8 1, 3) := by decide +kernel
theorem dX11_platoon_117 : decode cX11_platoon 117 = .ok (.goto (-75), 3) := by decide +kernel
theorem dX11_platoon_120 : decode cX11_platoon 120 = .ok (.iload_n 3, 1) := by decide +kernel
theorem dX11_platoon_121 : decode cX11_platoon 121 = .ok (.tableswitch 81 0 5 #[39, 56, 69, 72, 75, 78], 39) := by decide +kernel
theorem dX11_platoon_160 : decode cX11_platoon 160 = .ok (.aload_n 0, 1) := by decide +kernel
theorem dX11_platoon_161 : decode cX11_platoon 161 = .ok (.getfield 20, 3) := by decide +kernel
theorem dX11_platoon_164 : decode cX11_platoon 164 = .ok (.aload_n 0, 1) := by decide +kernel
theorem dX11_platoon_165 : decode cX11_platoon 165 = .ok (.getfield 223, 3) := by decide +kernel
theorem dX11_platoon_168 : decode cX11_platoon 168 = .ok (.aload_n 0, 1) := by decide +kernel
theorem dX11_platoon_169 : decode cX11_platoon 169 = .ok (.getfield 226, 3) := by decide +kernel
theorem dX11_platoon_172 : decode cX11_platoon 172 = .ok (.invokestatic 111, 3) := by decide +kernel
theorem dX11_platoon_175 : decode cX11_platoon 175 = .ok (.iaload, 1) := by decide +kernel
theorem dX11_platoon_176 : decode cX11_platoon 176 = .ok (.ireturn, 1) := by decide +kernel
theorem dX11_platoon_177 : decode cX11_platoon 177 = .ok (.aload_n 0, 1) := by decide +kernel
theorem dX11_platoon_178 : decode cX11_platoon 178 = .ok (.aload_n 0, 1) := by decide +kernel
theorem dX11_platoon_179 : decode cX11_platoon 179 = .ok (.getfield 223, 3) := by decide +kernel
theorem dX11_platoon_182 : decode cX11_platoon 182 = .ok (.aload_n 0, 1) := by decide +kernel
theorem dX11_platoon_183 : decode cX11_platoon 183 = .ok (.getfield 226, 3) := by decide +kernel
theorem dX11_platoon_186 : decode cX11_platoon 186 = .ok (.invokevirtual 120, 3) := by decide +kernel
theorem dX11_platoon_189 : decode cX11_platoon 189 = .ok (.ireturn, 1) := by decide +kernel
theorem dX11_platoon_190 : decode cX11_platoon 190 = .ok (.iload 4, 2) := by decide +kernel
theorem dX11_platoon_192 : decode cX11_platoon 192 = .ok (.ireturn, 1) := by decide +kernel
theorem dX11_platoon_193 : decode cX11_platoon 193 = .ok (.iload 5, 2) := by decide +kernel
theorem dX11_platoon_195 : decode cX11_platoon 195 = .ok (.ireturn, 1) := by decide +kernel
theorem dX11_platoon_196 : decode cX11_platoon 196 = .ok (.iload 6, 2) := by decide +kernel
theorem dX11_platoon_198 : decode cX11_platoon 198 = .ok (.ireturn, 1) := by decide +kernel
theorem dX11_platoon_199 : decode cX11_platoon 199 = .ok (.iload 7, 2) := by decide +kernel
theorem dX11_platoon_201 : decode cX11_platoon 201 = .ok (.ireturn, 1) := by decide +kernel
theorem dX11_platoon_202 : decode cX11_platoon 202 = .ok (.iconst (-1), 1) := by decide +kernel
theorem dX11_platoon_203 : decode cX11_platoon 203 = .ok (.ireturn, 1) := by decide +kernel
theorem cm_X11_platoon : x_CM yX11_platoon cX11_platoon 10 (Option.some FieldType.int) 3 := ⟨w_8_69, w_1_12, by decide +kernel, by decide +kernel⟩
theorem ci_X11_platoon : x_CI yX11_platoon 13 := ⟨w_8_67, w_8_68, (RX11, TX11, 41), rfl, rfl⟩
set_option maxRecDepth 100000 in
set_option maxHeartbeats 4000000 in
theorem bX11_platoon_97 {V : x_J} {ad : Nat → Nat} {Q : Int32 → x_S → x_L → Prop} (X : x_Is V cX11_platoon 10 RX11 (Option.some FieldType.int) ad dsM 7 (x_PI Q)) {K42 : Int32 → Int32 → Int32 → Int32 → Int32 → Int32 → x_S → x_L → Prop} (hK42 : ∀ v3 v4 v5 v6 v7 v8 σ τ, K42 v3 v4 v5 v6 v7 v8 σ τ → V σ τ 42 [(0, .ref (ad 0)), (3, .int v3), (4, .int v4), (5, .int v5), (6, .int v6), (7, .int v7), (8, .int v8)] []) {v3 : Int32} {v4 : Int32} {v5 : Int32} {v7 : Int32} {v8 : Int32} {s0 : Int32} {s1 : Int32} {σ : x_S} {τ : x_L} (h : wX11_platoon_97 K42 Q v3 v4 v5 v7 v8 s0 s1 σ τ) : V σ τ 97 [(0, .ref (ad 0)), (3, .int v3), (4, .int v4), (5, .int v5), (7, .int v7), (8, .int v8)] [.int s1, .int s0] := by
  refine x_iadd X dX11_platoon_97 ?_
  refine x_istore X (lv' := [(6, .int (s0 + s1)), (0, .ref (ad 0)), (3, .int v3), (4, .int v4), (5, .int v5), (7, .int v7), (8, .int v8)]) dX11_platoon_98 (by decide) rfl ?_
  refine x_iload X dX11_platoon_100 5 rfl ?_
  refine x_iconst X dX11_platoon_102 ki_1 ?_
  refine x_aload_n X dX11_platoon_103 rfl 1 rfl ?_
  refine x_getR X (j := 13) dX11_platoon_104 fl_11_47 dsM_0 rfl ?_
  refine x_iload X dX11_platoon_107 6 rfl ?_
  have g109 := h.1
  have h := h.2
  refine x_iald X dX11_platoon_109 dsM_13 g109 ?_
  refine x_ishl X dX11_platoon_110 ?_
  refine x_ior X dX11_platoon_111 ?_
  refine x_istore X (lv' := [(7, .int (v7 ||| (1 <<< ((σ 13 v8.toNatClampNeg) &&& 31)))), (6, .int (s0 + s1)), (0, .ref (ad 0)), (3, .int v3), (4, .int v4), (5, .int v5), (8, .int v8)]) dX11_platoon_112 (by decide) rfl ?_
  refine x_iinc X (k := 6) (lv' := [(8, .int (v8 + 1)), (7, .int (v7 ||| (1 <<< ((σ 13 v8.toNatClampNeg) &&& 31)))), (6, .int (s0 + s1)), (0, .ref (ad 0)), (3, .int v3), (4, .int v4), (5, .int v5)]) dX11_platoon_114 rfl ki_1 (by decide) rfl ?_
  refine x_goto X (tgt := 42) dX11_platoon_117 (by decide) ?_
  refine x_sub X [3, 4, 5, 6, 2, 1, 0] (lv' := [(0, .ref (ad 0)), (3, .int v3), (4, .int v4), (5, .int v5), (6, .int (s0 + s1)), (7, .int (v7 ||| (1 <<< ((σ 13 v8.toNatClampNeg) &&& 31)))), (8, .int (v8 + 1))]) rfl ?_
  exact hK42 _ _ _ _ _ _ _ _ h
set_option maxRecDepth 100000 in
set_option maxHeartbeats 4000000 in
theorem bX11_platoon_42 {V : x_J} {ad : Nat → Nat} {Q : Int32 → x_S → x_L → Prop} (X : x_Is V cX11_platoon 10 RX11 (Option.some FieldType.int) ad dsM 7 (x_PI Q)) {K42 : Int32 → Int32 → Int32 → Int32 → Int32 → Int32 → x_S → x_L → Prop} (hK42 : ∀ v3 v4 v5 v6 v7 v8 σ τ, K42 v3 v4 v5 v6 v7 v8 σ τ → V σ τ 42 [(0, .ref (ad 0)), (3, .int v3), (4, .int v4), (5, .int v5), (6, .int v6), (7, .int v7), (8, .int v8)] []) {v3 : Int32} {v4 : Int32} {v5 : Int32} {v6 : Int32} {v7 : Int32} {v8 : Int32} {σ : x_S} {τ : x_L} (h : wX11_platoon_42 Q K42 v3 v4 v5 v6 v7 v8 σ τ) : V σ τ 42 [(0, .ref (ad 0)), (3, .int v3), (4, .int v4), (5, .int v5), (6, .int v6), (7, .int v7), (8, .int v8)] [] := by
  refine x_iload X dX11_platoon_42 6 rfl ?_
  refine x_iload X dX11_platoon_44 2 rfl ?_
  refine x_icmp_ge X 120 dX11_platoon_46 (by decide) (fun hc => ?_) (fun hc => ?_)
  · have h := h.1 hc
    refine x_iload_n X dX11_platoon_120 rfl 1 rfl ?_
    by_cases hc0 : v3 = 0
    · have h := h.1 hc0
      refine x_tin X 0 160 hc0 dX11_platoon_121 (by decide) (by decide) (off := 39) (by decide) (by decide) ?_
      refine x_aload_n X dX11_platoon_160 rfl 0 rfl ?_
      refine x_getR X (j := 4) dX11_platoon_161 fl_11_20 dsM_0 rfl ?_
      refine x_aload_n X dX11_platoon_164 rfl 0 rfl ?_
      refine x_getI X dX11_platoon_165 fl_11_223 dsM_0 rfl ?_
      refine x_aload_n X dX11_platoon_168 rfl 0 rfl ?_
      refine x_getI X dX11_platoon_169 fl_11_226 dsM_0 rfl ?_
      refine x_callSi X [.int (σ 0 17), .int (σ 0 18)] [.ref (ad 4)] dX11_platoon_172 (kX11_spot h) cm_X11_spot w_7_118 rfl w_7_117 ⟨by decide, by decide⟩ rfl (Nat.le_of_ble_eq_true rfl) (fun r172 σ172 τ172 h => ?_)
      have g175 := h.1
      have h := h.2
      refine x_iald X dX11_platoon_175 dsM_4 g175 ?_
      exact x_iret X dX11_platoon_176 ⟨_, rfl, h⟩
    have h := h.2
    by_cases hc1 : v3 = 1
    · have h := h.1 hc1
      refine x_tin X 1 177 hc1 dX11_platoon_121 (by decide) (by decide) (off := 56) (by decide) (by decide) ?_
      refine x_aload_n X dX11_platoon_177 rfl 0 rfl ?_
      refine x_aload_n X dX11_platoon_178 rfl 0 rfl ?_
      refine x_getI X dX11_platoon_179 fl_11_223 dsM_0 rfl ?_
      refine x_aload_n X dX11_platoon_182 rfl 0 rfl ?_
      refine x_getI X dX11_platoon_183 fl_11_226 dsM_0 rfl ?_
      refine x_callVi X [.int (σ 0 17), .int (σ 0 18)] [] dX11_platoon_186 (kX11_speedAt h) cm_X11_speedAt ci_X11_speedAt w_7_128 dsM_0 ⟨by decide, by decide⟩ rfl (Nat.le_of_ble_eq_true rfl) (fun r186 σ186 τ186 h => ?_)
      exact x_iret X dX11_platoon_189 ⟨_, rfl, h⟩
    have h := h.2
    by_cases hc2 : v3 = 2
    · have h := h.1 hc2
      refine x_tin X 2 190 hc2 dX11_platoon_121 (by decide) (by decide) (off := 69) (by decide) (by decide) ?_
      refine x_iload X dX11_platoon_190 2 rfl ?_
      exact x_iret X dX11_platoon_192 ⟨_, rfl, h⟩
    have h := h.2
    by_cases hc3 : v3 = 3
    · have h := h.1 hc3
      refine x_tin X 3 193 hc3 dX11_platoon_121 (by decide) (by decide) (off := 72) (by decide) (by decide) ?_
      refine x_iload X dX11_platoon_193 3 rfl ?_
      exact x_iret X dX11_platoon_195 ⟨_, rfl, h⟩
    have h := h.2
    by_cases hc4 : v3 = 4
    · have h := h.1 hc4
      refine x_tin X 4 196 hc4 dX11_platoon_121 (by decide) (by decide) (off := 75) (by decide) (by decide) ?_
      refine x_iload X dX11_platoon_196 4 rfl ?_
      exact x_iret X dX11_platoon_198 ⟨_, rfl, h⟩
    have h := h.2
    by_cases hc5 : v3 = 5
    · have h := h.1 hc5
      refine x_tin X 5 199 hc5 dX11_platoon_121 (by decide) (by decide) (off := 78) (by decide) (by decide) ?_
      refine x_iload X dX11_platoon_199 5 rfl ?_
      exact x_iret X dX11_platoon_201 ⟨_, rfl, h⟩
    have h := h.2
    have he0 := x_toInt_ne (n := 0) hc0 (by decide)
    have he1 := x_toInt_ne (n := 1) hc1 (by decide)
    have he2 := x_toInt_ne (n := 2) hc2 (by decide)
    have he3 := x_toInt_ne (n := 3) hc3 (by decide)
    have he4 := x_toInt_ne (n := 4) hc4 (by decide)
    have he5 := x_toInt_ne (n := 5) hc5 (by decide)
    have h := h hc0 hc1 hc2 hc3 hc4 hc5
    refine x_tout X 202 dX11_platoon_121 (by omega) (by decide) ?_
    refine x_iconst X dX11_platoon_202 ki_m1 ?_
    exact x_iret X dX11_platoon_203 ⟨_, rfl, h⟩
  · have h := h.2 hc
    refine x_aload_n X dX11_platoon_49 rfl 0 rfl ?_
    refine x_getR X (j := 13) dX11_platoon_50 fl_11_47 dsM_0 rfl ?_
    refine x_iload X dX11_platoon_53 6 rfl ?_
    have g55 := h.1
    have h := h.2
    refine x_iald X dX11_platoon_55 dsM_13 g55 ?_
    refine x_aload_n X dX11_platoon_56 rfl 0 rfl ?_
    refine x_getR X (j := 14) dX11_platoon_57 fl_11_50 dsM_0 rfl ?_
    refine x_iload X dX11_platoon_60 6 rfl ?_
    refine x_iald X dX11_platoon_62 dsM_14 g55 ?_
    refine x_callSi X [.int (σ 13 v8.toNatClampNeg), .int (σ 14 v8.toNatClampNeg)] [] dX11_platoon_63 (kX11_spot h) cm_X11_spot w_7_118 rfl w_7_117 ⟨by decide, by decide⟩ rfl (Nat.le_of_ble_eq_true rfl) (fun r63 σ63 τ63 h => ?_)
    refine x_istore X (lv' := [(9, .int r63), (0, .ref (ad 0)), (3, .int v3), (4, .int v4), (5, .int v5), (6, .int v6), (7, .int v7), (8, .int v8)]) dX11_platoon_66 (by decide) rfl ?_
    refine x_iload X dX11_platoon_68 4 rfl ?_
    refine x_aload_n X dX11_platoon_70 rfl 1 rfl ?_
    refine x_getR X (j := 11) dX11_platoon_71 fl_11_41 dsM_0 rfl ?_
    refine x_iload X dX11_platoon_74 0 rfl ?_
    have g76 := h.1
    have h := h.2
    refine x_iald X dX11_platoon_76 dsM_11 g76 ?_
    refine x_iadd X dX11_platoon_77 ?_
    refine x_istore X (lv' := [(5, .int (v5 + (σ63 11 r63.toNatClampNeg))), (9, .int r63), (0, .ref (ad 0)), (3, .int v3), (4, .int v4), (6, .int v6), (7, .int v7), (8, .int v8)]) dX11_platoon_78 (by decide) rfl ?_
    refine x_iload X dX11_platoon_80 5 rfl ?_
    refine x_aload_n X dX11_platoon_82 rfl 2 rfl ?_
    refine x_getR X (j := 12) dX11_platoon_83 fl_11_44 dsM_0 rfl ?_
    refine x_iload X dX11_platoon_86 1 rfl ?_
    refine x_zald X dX11_platoon_88 dsM_12 g76 ?_
    refine x_if_eq X 96 dX11_platoon_89 (by decide) (fun hc => ?_) (fun hc => ?_)
    · have h := h.1 hc
      refine x_iconst X dX11_platoon_96 ki_0 ?_
      refine x_sub X [2, 3, 4, 0, 6, 7] (lv' := [(0, .ref (ad 0)), (3, .int v3), (4, .int v4), (5, .int (v5 + (σ63 11 r63.toNatClampNeg))), (7, .int v7), (8, .int v8)]) rfl ?_
      exact bX11_platoon_97 X hK42 h
    · have h := h.2 hc
      refine x_iconst X dX11_platoon_92 ki_1 ?_
      refine x_goto X (tgt := 97) dX11_platoon_93 (by decide) ?_
      refine x_sub X [2, 3, 4, 0, 6, 7] (lv' := [(0, .ref (ad 0)), (3, .int v3), (4, .int v4), (5, .int (v5 + (σ63 11 r63.toNatClampNeg))), (7, .int v7), (8, .int v8)]) rfl ?_
      exact bX11_platoon_97 X hK42 h
set_option maxRecDepth 100000 in
set_option maxHeartbeats 4000000 in
theorem kX11_platoon {ad : Nat → Nat} {a1 : Int32} {a2 : Int32} {a3 : Int32} {σ : x_S} {τ : x_L} {Q : Int32 → x_S → x_L → Prop} (h : wX11_platoon a1 a2 a3 σ τ Q) : x_Met yX11_platoon cX11_platoon 10 (Option.some FieldType.int) 7 ad dsM [.ref (ad 0), .int a1, .int a2, .int a3] σ τ (x_PI Q) := by
  refine x_met (by decide +kernel) (Nat.le_of_ble_eq_true rfl) (fun V X => ?_)
  have X : x_Is V cX11_platoon 10 RX11 (Option.some FieldType.int) ad dsM 7 (x_PI Q) := X
  show V σ τ 0 [(0, .ref (ad 0)), (1, .int a1), (2, .int a2), (3, .int a3)] []
  refine x_aload_n X dX11_platoon_0 rfl 0 rfl ?_
  refine x_iconst X dX11_platoon_1 ki_0 ?_
  refine x_putI X dX11_platoon_2 fl_11_82 ft_11_5 dsM_0 rfl ?_
  refine x_aload_n X dX11_platoon_5 rfl 0 rfl ?_
  refine x_iload_n X dX11_platoon_6 rfl 1 rfl ?_
  refine x_iload_n X dX11_platoon_7 rfl 2 rfl ?_
  refine x_callVi X [.int a1, .int a2] [] dX11_platoon_8 (kX11_noPlatoon h) cm_X11_noPlatoon ci_X11_noPlatoon w_8_70 dsM_0 ⟨by decide, by decide⟩ rfl (Nat.le_of_ble_eq_true rfl) (fun r8 σ8 τ8 h => ?_)
  refine x_if_eq X 16 dX11_platoon_11 (by decide) (fun hc => ?_) (fun hc => ?_)
  · have h := h.1 hc
    refine x_aload_n X dX11_platoon_16 rfl 0 rfl ?_
    refine x_aload_n X dX11_platoon_17 rfl 0 rfl ?_
    refine x_getI X dX11_platoon_18 fl_11_223 dsM_0 rfl ?_
    refine x_aload_n X dX11_platoon_21 rfl 0 rfl ?_
    refine x_getI X dX11_platoon_22 fl_11_226 dsM_0 rfl ?_
    refine x_callVi X [.int (σ8 0 17), .int (σ8 0 18)] [] dX11_platoon_25 (kX11_layOrder h) cm_X11_layOrder ci_X11_layOrder w_7_175 dsM_0 ⟨by decide, by decide⟩ rfl (Nat.le_of_ble_eq_true rfl) (fun r25 σ25 τ25 h => ?_)
    refine x_istore X (lv' := [(4, .int r25), (0, .ref (ad 0)), (1, .int a1), (2, .int a2), (3, .int a3)]) dX11_platoon_28 (by decide) rfl ?_
    refine x_iconst X dX11_platoon_30 ki_0 ?_
    refine x_istore X (lv' := [(5, .int 0), (4, .int r25), (0, .ref (ad 0)), (1, .int a1), (2, .int a2), (3, .int a3)]) dX11_platoon_31 (by decide) rfl ?_
    refine x_iconst X dX11_platoon_33 ki_0 ?_
    refine x_istore X (lv' := [(6, .int 0), (5, .int 0), (4, .int r25), (0, .ref (ad 0)), (1, .int a1), (2, .int a2), (3, .int a3)]) dX11_platoon_34 (by decide) rfl ?_
    refine x_iconst X dX11_platoon_36 ki_0 ?_
    refine x_istore X (lv' := [(7, .int 0), (6, .int 0), (5, .int 0), (4, .int r25), (0, .ref (ad 0)), (1, .int a1), (2, .int a2), (3, .int a3)]) dX11_platoon_37 (by decide) rfl ?_
    refine x_iconst X dX11_platoon_39 ki_0 ?_
    refine x_istore X (lv' := [(8, .int 0), (7, .int 0), (6, .int 0), (5, .int 0), (4, .int r25), (0, .ref (ad 0)), (1, .int a1), (2, .int a2), (3, .int a3)]) dX11_platoon_40 (by decide) rfl ?_
    refine x_sub X [5, 8, 4, 3, 2, 1, 0] (lv' := [(0, .ref (ad 0)), (3, .int a3), (4, .int r25), (5, .int 0), (6, .int 0), (7, .int 0), (8, .int 0)]) rfl ?_
    exact x_l6_G (fun v3 v4 v5 v6 v7 v8 σ τ => V σ τ 42 [(0, .ref (ad 0)), (3, .int v3), (4, .int v4), (5, .int v5), (6, .int v6), (7, .int v7), (8, .int v8)] []) (fun K42 hK42 v3 v4 v5 v6 v7 v8 σ τ h => bX11_platoon_42 X hK42 h) h
  · have h := h.2 hc
    refine x_iconst X dX11_platoon_14 ki_0 ?_
    exact x_iret X dX11_platoon_15 ⟨_, rfl, h⟩
