theorem dX0_swap_0 : decode cX0_swap 0 = .ok (.aload_n 0, 1) := by decide +kernel
theorem dX0_swap_1 : decode cX0_swap 1 = .ok (.getfield 9, 3) := by decide +kernel
theorem dX0_swap_4 : decode cX0_swap 4 = .ok (.iload_n 1, 1) := by decide +kernel
theorem dX0_swap_5 : decode cX0_swap 5 = .ok (.iaload, 1) := by decide +kernel
theorem dX0_swap_6 : decode cX0_swap 6 = .ok (.istore_n 3, 1) := by decide +kernel
theorem dX0_swap_7 : decode cX0_swap 7 = .ok (.aload_n 0, 1) := by decide +kernel
theorem dX0_swap_8 : decode cX0_swap 8 = .ok (.getfield 9, 3) := by decide +kernel
theorem dX0_swap_11 : decode cX0_swap 11 = .ok (.iload_n 1, 1) := by decide +kernel
theorem dX0_swap_12 : decode cX0_swap 12 = .ok (.aload_n 0, 1) := by decide +kernel
theorem dX0_swap_13 : decode cX0_swap 13 = .ok (.getfield 9, 3) := by decide +kernel
theorem dX0_swap_16 : decode cX0_swap 16 = .ok (.iload_n 2, 1) := by decide +kernel
theorem dX0_swap_17 : decode cX0_swap 17 = .ok (.iaload, 1) := by decide +kernel
theorem dX0_swap_18 : decode cX0_swap 18 = .ok (.iastore, 1) := by decide +kernel
theorem dX0_swap_19 : decode cX0_swap 19 = .ok (.aload_n 0, 1) := by decide +kernel
theorem dX0_swap_20 : decode cX0_swap 20 = .ok (.getfield 9, 3) := by decide +kernel
theorem dX0_swap_23 : decode cX0_swap 23 = .ok (.iload_n 2, 1) := by decide +kernel
theorem dX0_swap_24 : decode cX0_swap 24 = .ok (.iload_n 3, 1) := by decide +kernel
theorem dX0_swap_25 : decode cX0_swap 25 = .ok (.iastore, 1) := by decide +kernel
theorem dX0_swap_26 : decode cX0_swap 26 = .ok (.return_, 1) := by decide +kernel
theorem cm_X0_swap : x_CM yX0_swap cX0_swap 4 (Option.none : Option Jvm.ClassFile.FieldType) 2 := ⟨w_6_108, w_1_9, by decide +kernel, by decide +kernel⟩
theorem ci_X0_swap : x_CI yX0_swap 2 := ⟨w_6_107, wp_39, (RX0, TX0, 5), rfl, rfl⟩
set_option maxRecDepth 100000 in
set_option maxHeartbeats 4000000 in
theorem kX0_swap {ad : Nat → Nat} {a1 : Int32} {a2 : Int32} {σ : x_S} {τ : x_L} {Q : x_S → x_L → Prop} (h : wX0_swap a1 a2 σ τ Q) : x_Met yX0_swap cX0_swap 4 (Option.none : Option Jvm.ClassFile.FieldType) 0 ad dsX [.ref (ad 60), .int a1, .int a2] σ τ (x_PV Q) := by
  refine x_met (by decide +kernel) (Nat.le_of_ble_eq_true rfl) (fun V X => ?_)
  have X : x_Is V cX0_swap 4 RX0 (Option.none : Option Jvm.ClassFile.FieldType) ad dsX 0 (x_PV Q) := X
  show V σ τ 0 [(0, .ref (ad 60)), (1, .int a1), (2, .int a2)] []
  refine x_aload_n X dX0_swap_0 rfl 0 rfl ?_
  refine x_getR X (j := 61) dX0_swap_1 fl_0_9 dsX_60 rfl ?_
  refine x_iload_n X dX0_swap_4 rfl 1 rfl ?_
  have g5 := h.1
  have h := h.2
  refine x_iald X dX0_swap_5 dsX_61 g5 ?_
  refine x_istore_n X (lv' := [(3, .int (σ 61 a1.toNatClampNeg)), (0, .ref (ad 60)), (1, .int a1), (2, .int a2)]) dX0_swap_6 rfl (by decide) rfl ?_
  refine x_aload_n X dX0_swap_7 rfl 1 rfl ?_
  refine x_getR X (j := 61) dX0_swap_8 fl_0_9 dsX_60 rfl ?_
  refine x_iload_n X dX0_swap_11 rfl 2 rfl ?_
  refine x_aload_n X dX0_swap_12 rfl 1 rfl ?_
  refine x_getR X (j := 61) dX0_swap_13 fl_0_9 dsX_60 rfl ?_
  refine x_iload_n X dX0_swap_16 rfl 3 rfl ?_
  have g17 := h.1
  have h := h.2
  refine x_iald X dX0_swap_17 dsX_61 g17 ?_
  refine x_iast X dX0_swap_18 dsX_61 g5 ?_
  refine x_aload_n X dX0_swap_19 rfl 1 rfl ?_
  refine x_getR X (j := 61) dX0_swap_20 fl_0_9 dsX_60 rfl ?_
  refine x_iload_n X dX0_swap_23 rfl 3 rfl ?_
  refine x_iload_n X dX0_swap_24 rfl 0 rfl ?_
  refine x_iast X dX0_swap_25 dsX_61 g17 ?_
  exact x_vret X dX0_swap_26 ⟨rfl, h⟩
theorem dX0_stepOn_0 : decode cX0_stepOn 0 = .ok (.aload_n 0, 1) := by decide +kernel
theorem dX0_stepOn_1 : decode cX0_stepOn 1 = .ok (.getfield 15, 3) := by decide +kernel
theorem dX0_stepOn_4 : decode cX0_stepOn 4 = .ok (.iconst 2, 1) := by decide +kernel
theorem dX0_stepOn_5 : decode cX0_stepOn 5 = .ok (.isub, 1) := by decide +kernel
theorem dX0_stepOn_6 : decode cX0_stepOn 6 = .ok (.istore_n 1, 1) := by decide +kernel
theorem dX0_stepOn_7 : decode cX0_stepOn 7 = .ok (.iload_n 1, 1) := by decide +kernel
theorem dX0_stepOn_8 : decode cX0_stepOn 8 = .ok (.ifCond .lt 26, 3) := by decide +kernel
theorem dX0_stepOn_11 : decode cX0_stepOn 11 = .ok (.aload_n 0, 1) := by decide +kernel
theorem dX0_stepOn_12 : decode cX0_stepOn 12 = .ok (.getfield 9, 3) := by decide +kernel
theorem dX0_stepOn_15 : decode cX0_stepOn 15 = .ok (.iload_n 1, 1) := by decide +kernel
theorem dX0_stepOn_16 : decode cX0_stepOn 16 = .ok (.iaload, 1) := by decide +kernel
theorem dX0_stepOn_17 : decode cX0_stepOn 17 = .ok (.aload_n 0, 1) := by decide +kernel
theorem dX0_stepOn_18 : decode cX0_stepOn 18 = .ok (.getfield 9, 3) := by decide +kernel
theorem dX0_stepOn_21 : decode cX0_stepOn 21 = .ok (.iload_n 1, 1) := by decide +kernel
theorem dX0_stepOn_22 : decode cX0_stepOn 22 = .ok (.iconst 1, 1) := by decide +kernel
theorem dX0_stepOn_23 : decode cX0_stepOn 23 = .ok (.iadd, 1) := by decide +kernel
theorem dX0_stepOn_24 : decode cX0_stepOn 24 = .ok (.iaload, 1) := by decide +kernel
theorem dX0_stepOn_25 : decode cX0_stepOn 25 = .ok (.if_icmp .le 9, 3) := by decide +kernel
theorem dX0_stepOn_28 : decode cX0_stepOn 28 = .ok (.iinc 1 (-1), 3) := by decide +kernel
theorem dX0_stepOn_31 : decode cX0_stepOn 31 = .ok (.goto (-24), 3) := by decide +kernel
theorem dX0_stepOn_34 : decode cX0_stepOn 34 = .ok (.iload_n 1, 1) := by decide +kernel
theorem dX0_stepOn_35 : decode cX0_stepOn 35 = .ok (.ifCond .ge 5, 3) := by decide +kernel
theorem dX0_stepOn_38 : decode cX0_stepOn 38 = .ok (.iconst 0, 1) := by decide +kernel
theorem dX0_stepOn_39 : decode cX0_stepOn 39 = .ok (.ireturn, 1) := by decide +kernel
theorem dX0_stepOn_40 : decode cX0_stepOn 40 = .ok (.aload_n 0, 1) := by decide +kernel
theorem dX0_stepOn_41 : decode cX0_stepOn 41 = .ok (.getfield 15, 3) := by decide +kernel
theorem dX0_stepOn_44 : decode cX0_stepOn 44 = .ok (.iconst 1, 1) := by decide +kernel
theorem dX0_stepOn_45 : decode cX0_stepOn 45 = .ok (.isub, 1) := by decide +kernel
theorem dX0_stepOn_46 : decode cX0_stepOn 46 = .ok (.istore_n 2, 1) := by decide +kernel
theorem dX0_stepOn_47 : decode cX0_stepOn 47 = .ok (.iload_n 2, 1) := by decide +kernel
theorem dX0_stepOn_48 : decode cX0_stepOn 48 = .ok (.iload_n 1, 1) := by decide +kernel
theorem dX0_stepOn_49 : decode cX0_stepOn 49 = .ok (.if_icmp .le 24, 3) := by decide +kernel
theorem dX0_stepOn_52 : decode cX0_stepOn 52 = .ok (.aload_n 0, 1) := by decide +kernel
theorem dX0_stepOn_53 : decode cX0_stepOn 53 = .ok (.getfield 9, 3) := by decide +kernel
theorem dX0_stepOn_56 : decode cX0_stepOn 56 = .ok (.iload_n 2, 1) := by decide +kernel
theorem dX0_stepOn_57 : decode cX0_stepOn 57 = .ok (.iaload, 1) := by decide +kernel
theorem dX0_stepOn_58 : decode cX0_stepOn 58 = .ok (.aload_n 0, 1) := by decide +kernel
theorem dX0_stepOn_59 : decode cX0_stepOn 59 = .ok (.getfield 9, 3) := by decide +kernel
theorem dX0_stepOn_62 : decode cX0_stepOn 62 = .ok (.iload_n 1, 1) := by decide +kernel
theorem dX0_stepOn_63 : decode cX0_stepOn 63 = .ok (.iaload, 1) := by decide +kernel
theorem dX0_stepOn_64 : decode cX0_stepOn 64 = .ok (.if_icmp .ge 9, 3) := by decide +kernel
theorem dX0_stepOn_67 : decode cX0_stepOn 67 = .ok (.iinc 2 (-1), 3) := by decide +kernel
theorem dX0_stepOn_70 : decode cX0_stepOn 70 = .ok (.goto (-23), 3) := by decide +kernel
theorem dX0_stepOn_73 : decode cX0_stepOn 73 = .ok (.aload_n 0, 1) := by decide +kernel
theorem dX0_stepOn_74 : decode cX0_stepOn 74 = .ok (.iload_n 1, 1) := by decide +kernel
theorem dX0_stepOn_75 : decode cX0_stepOn 75 = .ok (.iload_n 2, 1) := by decide +kernel
theorem dX0_stepOn_76 : decode cX0_stepOn 76 = .ok (.invokevirtual 58, 3) := by decide +kernel
theorem dX0_stepOn_79 : decode cX0_stepOn 79 = .ok (.iload_n 1, 1) := by decide +kernel
theorem dX0_stepOn_80 : decode cX0_stepOn 80 = .ok (.iconst 1, 1) := by decide +kernel
theorem dX0_stepOn_81 : decode cX0_stepOn 81 = .ok (.iadd, 1) := by decide +kernel
theorem dX0_stepOn_82 : decode cX0_stepOn 82 = .ok (.istore_n 3, 1) := by decide +kernel
theorem dX0_stepOn_83 : decode cX0_stepOn 83 = .ok (.aload_n 0, 1) := by decide +kernel
theorem dX0_stepOn_84 : decode cX0_stepOn 84 = .ok (.getfield 15, 3) := by decide +kernel
theorem dX0_stepOn_87 : decode cX0_stepOn 87 = .ok (.iconst 1, 1) := by decide +kernel
theorem dX0_stepOn_88 : decode cX0_stepOn 88 = .ok (.isub, 1) := by decide +kernel
theorem dX0_stepOn_89 : decode cX0_stepOn 89 = .ok (.istore 4, 2) := by decide +kernel
theorem dX0_stepOn_91 : decode cX0_stepOn 91 = .ok (.iload_n 3, 1) := by decide +kernel
theorem dX0_stepOn_92 : decode cX0_stepOn 92 = .ok (.iload 4, 2) := by decide +kernel
theorem dX0_stepOn_94 : decode cX0_stepOn 94 = .ok (.if_icmp .ge 19, 3) := by decide +kernel
theorem dX0_stepOn_97 : decode cX0_stepOn 97 = .ok (.aload_n 0, 1) := by decide +kernel
theorem dX0_stepOn_98 : decode cX0_stepOn 98 = .ok (.iload_n 3, 1) := by decide +kernel
theorem dX0_stepOn_99 : decode cX0_stepOn 99 = .ok (.iload 4, 2) := by decide +kernel
theorem dX0_stepOn_101 : decode cX0_stepOn 101 = .ok (.invokevirtual 58, 3) := by decide +kernel
theorem dX0_stepOn_104 : decode cX0_stepOn 104 = .ok (.iinc 3 1, 3) := by decide +kernel
theorem dX0_stepOn_107 : decode cX0_stepOn 107 = .ok (.iinc 4 (-1), 3) := by decide +kernel
theorem dX0_stepOn_110 : decode cX0_stepOn 110 = .ok (.goto (-19), 3) := by decide +kernel
theorem dX0_stepOn_113 : decode cX0_stepOn 113 = .ok (.iconst 1, 1) := by decide +kernel
theorem dX0_stepOn_114 : decode cX0_stepOn 114 = .ok (.ireturn, 1) := by decide +kernel
theorem cm_X0_stepOn : x_CM yX0_stepOn cX0_stepOn 5 (Option.some FieldType.boolean) 0 := ⟨w_6_104, w_1_9, by decide +kernel, by decide +kernel⟩
theorem ci_X0_stepOn : x_CI yX0_stepOn 2 := ⟨w_6_103, wp_38, (RX0, TX0, 5), rfl, rfl⟩
set_option maxRecDepth 100000 in
set_option maxHeartbeats 4000000 in
theorem bX0_stepOn_91 {V : x_J} {ad : Nat → Nat} {Q : Int32 → x_S → x_L → Prop} (X : x_Is V cX0_stepOn 5 RX0 (Option.some FieldType.boolean) ad dsX 1 (x_PI Q)) {K91 : Int32 → Int32 → x_S → x_L → Prop} (hK91 : ∀ v3 v4 σ τ, K91 v3 v4 σ τ → V σ τ 91 [(0, .ref (ad 60)), (3, .int v3), (4, .int v4)] []) {v3 : Int32} {v4 : Int32} {σ : x_S} {τ : x_L} (h : wX0_stepOn_91 Q K91 v3 v4 σ τ) : V σ τ 91 [(0, .ref (ad 60)), (3, .int v3), (4, .int v4)] [] := by
  refine x_iload_n X dX0_stepOn_91 rfl 1 rfl ?_
  refine x_iload X dX0_stepOn_92 2 rfl ?_
  refine x_icmp_ge X 113 dX0_stepOn_94 (by decide) (fun hc => ?_) (fun hc => ?_)
  · have h := h.1 hc
    refine x_iconst X dX0_stepOn_113 ki_1 ?_
    exact x_zret X dX0_stepOn_114 ⟨Or.inr rfl, _, rfl, h⟩
  · have h := h.2 hc
    refine x_aload_n X dX0_stepOn_97 rfl 0 rfl ?_
    refine x_iload_n X dX0_stepOn_98 rfl 1 rfl ?_
    refine x_iload X dX0_stepOn_99 2 rfl ?_
    refine x_callVv X [.int v3, .int v4] [] dX0_stepOn_101 (kX0_swap h) cm_X0_swap ci_X0_swap w_6_105 dsX_60 ⟨by decide, by decide⟩ rfl (Nat.le_of_ble_eq_true rfl) (fun σ101 τ101 h => ?_)
    refine x_iinc X (k := 1) (lv' := [(3, .int (v3 + 1)), (0, .ref (ad 60)), (4, .int v4)]) dX0_stepOn_104 rfl ki_1 (by decide) rfl ?_
    refine x_iinc X (k := 2) (lv' := [(4, .int (v4 + (-1))), (3, .int (v3 + 1)), (0, .ref (ad 60))]) dX0_stepOn_107 rfl ki_m1 (by decide) rfl ?_
    refine x_goto X (tgt := 91) dX0_stepOn_110 (by decide) ?_
    refine x_sub X [2, 1, 0] (lv' := [(0, .ref (ad 60)), (3, .int (v3 + 1)), (4, .int (v4 + (-1)))]) rfl ?_
    exact hK91 _ _ _ _ h
set_option maxRecDepth 100000 in
set_option maxHeartbeats 4000000 in
theorem bX0_stepOn_73 {V : x_J} {ad : Nat → Nat} {Q : Int32 → x_S → x_L → Prop} (X : x_Is V cX0_stepOn 5 RX0 (Option.some FieldType.boolean) ad dsX 1 (x_PI Q)) {v1 : Int32} {v2 : Int32} {σ : x_S} {τ : x_L} (h : wX0_stepOn_73 Q v1 v2 σ τ) : V σ τ 73 [(0, .ref (ad 60)), (1, .int v1), (2, .int v2)] [] := by
  refine x_aload_n X dX0_stepOn_73 rfl 0 rfl ?_
  refine x_iload_n X dX0_stepOn_74 rfl 1 rfl ?_
  refine x_iload_n X dX0_stepOn_75 rfl 2 rfl ?_
  refine x_callVv X [.int v1, .int v2] [] dX0_stepOn_76 (kX0_swap h) cm_X0_swap ci_X0_swap w_6_105 dsX_60 ⟨by decide, by decide⟩ rfl (Nat.le_of_ble_eq_true rfl) (fun σ76 τ76 h => ?_)
  refine x_iload_n X dX0_stepOn_79 rfl 1 rfl ?_
  refine x_iconst X dX0_stepOn_80 ki_1 ?_
  refine x_iadd X dX0_stepOn_81 ?_
  refine x_istore_n X (lv' := [(3, .int (v1 + 1)), (0, .ref (ad 60)), (1, .int v1), (2, .int v2)]) dX0_stepOn_82 rfl (by decide) rfl ?_
  refine x_aload_n X dX0_stepOn_83 rfl 1 rfl ?_
  refine x_getI X dX0_stepOn_84 fl_0_15 dsX_60 rfl ?_
  refine x_iconst X dX0_stepOn_87 ki_1 ?_
  refine x_isub X dX0_stepOn_88 ?_
  refine x_istore X (lv' := [(4, .int ((σ76 60 2) - 1)), (3, .int (v1 + 1)), (0, .ref (ad 60)), (1, .int v1), (2, .int v2)]) dX0_stepOn_89 (by decide) rfl ?_
  refine x_sub X [2, 1, 0] (lv' := [(0, .ref (ad 60)), (3, .int (v1 + 1)), (4, .int ((σ76 60 2) - 1))]) rfl ?_
  exact x_l2_G (fun v3 v4 σ τ => V σ τ 91 [(0, .ref (ad 60)), (3, .int v3), (4, .int v4)] []) (fun K91 hK91 v3 v4 σ τ h => bX0_stepOn_91 X hK91 h) h
set_option maxRecDepth 100000 in
set_option maxHeartbeats 4000000 in
theorem bX0_stepOn_47 {V : x_J} {ad : Nat → Nat} {Q : Int32 → x_S → x_L → Prop} (X : x_Is V cX0_stepOn 5 RX0 (Option.some FieldType.boolean) ad dsX 1 (x_PI Q)) {K47 : Int32 → Int32 → x_S → x_L → Prop} (hK47 : ∀ v1 v2 σ τ, K47 v1 v2 σ τ → V σ τ 47 [(0, .ref (ad 60)), (1, .int v1), (2, .int v2)] []) {v1 : Int32} {v2 : Int32} {σ : x_S} {τ : x_L} (h : wX0_stepOn_47 Q K47 v1 v2 σ τ) : V σ τ 47 [(0, .ref (ad 60)), (1, .int v1), (2, .int v2)] [] := by
  refine x_iload_n X dX0_stepOn_47 rfl 2 rfl ?_
  refine x_iload_n X dX0_stepOn_48 rfl 1 rfl ?_
  refine x_icmp_le X 73 dX0_stepOn_49 (by decide) (fun hc => ?_) (fun hc => ?_)
  · have h := h.1 hc
    exact bX0_stepOn_73 X h
  · have h := h.2 hc
    refine x_aload_n X dX0_stepOn_52 rfl 0 rfl ?_
    refine x_getR X (j := 61) dX0_stepOn_53 fl_0_9 dsX_60 rfl ?_
    refine x_iload_n X dX0_stepOn_56 rfl 2 rfl ?_
    have g57 := h.1
    have h := h.2
    refine x_iald X dX0_stepOn_57 dsX_61 g57 ?_
    refine x_aload_n X dX0_stepOn_58 rfl 0 rfl ?_
    refine x_getR X (j := 61) dX0_stepOn_59 fl_0_9 dsX_60 rfl ?_
    refine x_iload_n X dX0_stepOn_62 rfl 1 rfl ?_
    have g63 := h.1
    have h := h.2
    refine x_iald X dX0_stepOn_63 dsX_61 g63 ?_
    refine x_icmp_ge X 73 dX0_stepOn_64 (by decide) (fun hc => ?_) (fun hc => ?_)
    · have h := h.1 hc
      exact bX0_stepOn_73 X h
    · have h := h.2 hc
      refine x_iinc X (k := 2) (lv' := [(2, .int (v2 + (-1))), (0, .ref (ad 60)), (1, .int v1)]) dX0_stepOn_67 rfl ki_m1 (by decide) rfl ?_
      refine x_goto X (tgt := 47) dX0_stepOn_70 (by decide) ?_
      refine x_sub X [1, 2, 0] (lv' := [(0, .ref (ad 60)), (1, .int v1), (2, .int (v2 + (-1)))]) rfl ?_
      exact hK47 _ _ _ _ h
set_option maxRecDepth 100000 in
set_option maxHeartbeats 4000000 in
theorem bX0_stepOn_34 {V : x_J} {ad : Nat → Nat} {Q : Int32 → x_S → x_L → Prop} (X : x_Is V cX0_stepOn 5 RX0 (Option.some FieldType.boolean) ad dsX 1 (x_PI Q)) {v1 : Int32} {σ : x_S} {τ : x_L} (h : wX0_stepOn_34 Q v1 σ τ) : V σ τ 34 [(0, .ref (ad 60)), (1, .int v1)] [] := by
  refine x_iload_n X dX0_stepOn_34 rfl 1 rfl ?_
  refine x_if_ge X 40 dX0_stepOn_35 (by decide) (fun hc => ?_) (fun hc => ?_)
  · have h := h.1 hc
    refine x_aload_n X dX0_stepOn_40 rfl 0 rfl ?_
    refine x_getI X dX0_stepOn_41 fl_0_15 dsX_60 rfl ?_
    refine x_iconst X dX0_stepOn_44 ki_1 ?_
    refine x_isub X dX0_stepOn_45 ?_
    refine x_istore_n X (lv' := [(2, .int ((σ 60 2) - 1)), (0, .ref (ad 60)), (1, .int v1)]) dX0_stepOn_46 rfl (by decide) rfl ?_
    refine x_sub X [1, 2, 0] (lv' := [(0, .ref (ad 60)), (1, .int v1), (2, .int ((σ 60 2) - 1))]) rfl ?_
    exact x_l2_G (fun v1 v2 σ τ => V σ τ 47 [(0, .ref (ad 60)), (1, .int v1), (2, .int v2)] []) (fun K47 hK47 v1 v2 σ τ h => bX0_stepOn_47 X hK47 h) h
  · have h := h.2 hc
    refine x_iconst X dX0_stepOn_38 ki_0 ?_
    exact x_zret X dX0_stepOn_39 ⟨Or.inl rfl, _, rfl, h⟩
set_option maxRecDepth 100000 in
set_option maxHeartbeats 4000000 in
theorem bX0_stepOn_7 {V : x_J} {ad : Nat → Nat} {Q : Int32 → x_S → x_L → Prop} (X : x_Is V cX0_stepOn 5 RX0 (Option.some FieldType.boolean) ad dsX 1 (x_PI Q)) {K7 : Int32 → x_S → x_L → Prop} (hK7 : ∀ v1 σ τ, K7 v1 σ τ → V σ τ 7 [(0, .ref (ad 60)), (1, .int v1)] []) {v1 : Int32} {σ : x_S} {τ : x_L} (h : wX0_stepOn_7 Q K7 v1 σ τ) : V σ τ 7 [(0, .ref (ad 60)), (1, .int v1)] [] := by
  refine x_iload_n X dX0_stepOn_7 rfl 1 rfl ?_
  refine x_if_lt X 34 dX0_stepOn_8 (by decide) (fun hc => ?_) (fun hc => ?_)
  · have h := h.1 hc
    exact bX0_stepOn_34 X h
  · have h := h.2 hc
    refine x_aload_n X dX0_stepOn_11 rfl 0 rfl ?_
    refine x_getR X (j := 61) dX0_stepOn_12 fl_0_9 dsX_60 rfl ?_
    refine x_iload_n X dX0_stepOn_15 rfl 1 rfl ?_
    have g16 := h.1
    have h := h.2
    refine x_iald X dX0_stepOn_16 dsX_61 g16 ?_
    refine x_aload_n X dX0_stepOn_17 rfl 0 rfl ?_
    refine x_getR X (j := 61) dX0_stepOn_18 fl_0_9 dsX_60 rfl ?_
    refine x_iload_n X dX0_stepOn_21 rfl 1 rfl ?_
    refine x_iconst X dX0_stepOn_22 ki_1 ?_
    refine x_iadd X dX0_stepOn_23 ?_
    have g24 := h.1
    have h := h.2
    refine x_iald X dX0_stepOn_24 dsX_61 g24 ?_
    refine x_icmp_le X 34 dX0_stepOn_25 (by decide) (fun hc => ?_) (fun hc => ?_)
    · have h := h.1 hc
      exact bX0_stepOn_34 X h
    · have h := h.2 hc
      refine x_iinc X (k := 1) (lv' := [(1, .int (v1 + (-1))), (0, .ref (ad 60))]) dX0_stepOn_28 rfl ki_m1 (by decide) rfl ?_
      refine x_goto X (tgt := 7) dX0_stepOn_31 (by decide) ?_
      refine x_sub X [1, 0] (lv' := [(0, .ref (ad 60)), (1, .int (v1 + (-1)))]) rfl ?_
      exact hK7 _ _ _ h
set_option maxRecDepth 100000 in
set_option maxHeartbeats 4000000 in
theorem kX0_stepOn {ad : Nat → Nat} {σ : x_S} {τ : x_L} {Q : Int32 → x_S → x_L → Prop} (h : wX0_stepOn σ τ Q) : x_Met yX0_stepOn cX0_stepOn 5 (Option.some FieldType.boolean) 1 ad dsX [.ref (ad 60)] σ τ (x_PI Q) := by
  refine x_met (by decide +kernel) (Nat.le_of_ble_eq_true rfl) (fun V X => ?_)
  have X : x_Is V cX0_stepOn 5 RX0 (Option.some FieldType.boolean) ad dsX 1 (x_PI Q) := X
  show V σ τ 0 [(0, .ref (ad 60))] []
  refine x_aload_n X dX0_stepOn_0 rfl 0 rfl ?_
  refine x_getI X dX0_stepOn_1 fl_0_15 dsX_60 rfl ?_
  refine x_iconst X dX0_stepOn_4 ki_2 ?_
  refine x_isub X dX0_stepOn_5 ?_
  refine x_istore_n X (lv' := [(1, .int ((σ 60 2) - 2)), (0, .ref (ad 60))]) dX0_stepOn_6 rfl (by decide) rfl ?_
  refine x_sub X [1, 0] (lv' := [(0, .ref (ad 60)), (1, .int ((σ 60 2) - 2))]) rfl ?_
  exact x_l1_G (fun v1 σ τ => V σ τ 7 [(0, .ref (ad 60)), (1, .int v1)] []) (fun K7 hK7 v1 σ τ h => bX0_stepOn_7 X hK7 h) h
theorem dX0_takeMembers_0 : decode cX0_takeMembers 0 = .ok (.iconst 0, 1) := by decide +kernel
theorem dX0_takeMembers_1 : decode cX0_takeMembers 1 = .ok (.istore_n 2, 1) := by decide +kernel
theorem dX0_takeMembers_2 : decode cX0_takeMembers 2 = .ok (.iload_n 2, 1) := by decide +kernel
theorem dX0_takeMembers_3 : decode cX0_takeMembers 3 = .ok (.aload_n 0, 1) := by decide +kernel
theorem dX0_takeMembers_4 : decode cX0_takeMembers 4 = .ok (.getfield 15, 3) := by decide +kernel
theorem dX0_takeMembers_7 : decode cX0_takeMembers 7 = .ok (.if_icmp .ge 72, 3) := by decide +kernel
theorem dX0_takeMembers_10 : decode cX0_takeMembers 10 = .ok (.aload_n 0, 1) := by decide +kernel
theorem dX0_takeMembers_11 : decode cX0_takeMembers 11 = .ok (.getfield 25, 3) := by decide +kernel
theorem dX0_takeMembers_14 : decode cX0_takeMembers 14 = .ok (.getfield 55, 3) := by decide +kernel
theorem dX0_takeMembers_17 : decode cX0_takeMembers 17 = .ok (.iload_n 1, 1) := by decide +kernel
theorem dX0_takeMembers_18 : decode cX0_takeMembers 18 = .ok (.iload_n 2, 1) := by decide +kernel
theorem dX0_takeMembers_19 : decode cX0_takeMembers 19 = .ok (.iadd, 1) := by decide +kernel
theorem dX0_takeMembers_20 : decode cX0_takeMembers 20 = .ok (.iaload, 1) := by decide +kernel
theorem dX0_takeMembers_21 : decode cX0_takeMembers 21 = .ok (.istore_n 3, 1) := by decide +kernel
theorem dX0_takeMembers_22 : decode cX0_takeMembers 22 = .ok (.iload_n 2, 1) := by decide +kernel
theorem dX0_takeMembers_23 : decode cX0_takeMembers 23 = .ok (.istore 4, 2) := by decide +kernel
theorem dX0_takeMembers_25 : decode cX0_takeMembers 25 = .ok (.iload 4, 2) := by decide +kernel
theorem dX0_takeMembers_27 : decode cX0_takeMembers 27 = .ok (.ifCond .le 38, 3) := by decide +kernel
theorem dX0_takeMembers_30 : decode cX0_takeMembers 30 = .ok (.aload_n 0, 1) := by decide +kernel
theorem dX0_takeMembers_31 : decode cX0_takeMembers 31 = .ok (.getfield 9, 3) := by decide +kernel
theorem dX0_takeMembers_34 : decode cX0_takeMembers 34 = .ok (.iload 4, 2) := by decide +kernel
theorem dX0_takeMembers_36 : decode cX0_takeMembers 36 = .ok (.iconst 1, 1) := by decide +kernel
theorem dX0_takeMembers_37 : decode cX0_takeMembers 37 = .ok (.isub, 1) := by decide +kernel
theorem dX0_takeMembers_38 : decode cX0_takeMembers 38 = .ok (.iaload, 1) := by decide +kernel
theorem dX0_takeMembers_39 : decode cX0_takeMembers 39 = .ok (.iload_n 3, 1) := by decide +kernel
theorem dX0_takeMembers_40 : decode cX0_takeMembers 40 = .ok (.if_icmp .le 25, 3) := by decide +kernel
theorem dX0_takeMembers_43 : decode cX0_takeMembers 43 = .ok (.aload_n 0, 1) := by decide +kernel
theorem dX0_takeMembers_44 : decode cX0_takeMembers 44 = .ok (.getfield 9, 3) := by decide +kernel
theorem dX0_takeMembers_47 : decode cX0_takeMembers 47 = .ok (.iload 4, 2) := by decide +kernel
theorem dX0_takeMembers_49 : decode cX0_takeMembers 49 = .ok (.aload_n 0, 1) := by decide +kernel
theorem dX0_takeMembers_50 : decode cX0_takeMembers 50 = .ok (.getfield 9, 3) := by decide +kernel
theorem dX0_takeMembers_53 : decode cX0_takeMembers 53 = .ok (.iload 4, 2) := by decide +kernel
theorem dX0_takeMembers_55 : decode cX0_takeMembers 55 = .ok (.iconst 1, 1) := by decide +kernel
theorem dX0_takeMembers_56 : decode cX0_takeMembers 56 = .ok (.isub, 1) := by decide +kernel
theorem dX0_takeMembers_57 : decode cX0_takeMembers 57 = .ok (.iaload, 1) := by decide +kernel
theorem dX0_takeMembers_58 : decode cX0_takeMembers 58 = .ok (.iastore, 1) := by decide +kernel
theorem dX0_takeMembers_59 : decode cX0_takeMembers 59 = .ok (.iinc 4 (-1), 3) := by decide +kernel
theorem dX0_takeMembers_62 : decode cX0_takeMembers 62 = .ok (.goto (-37), 3) := by decide +kernel
theorem dX0_takeMembers_65 : decode cX0_takeMembers 65 = .ok (.aload_n 0, 1) := by decide +kernel
theorem dX0_takeMembers_66 : decode cX0_takeMembers 66 = .ok (.getfield 9, 3) := by decide +kernel
theorem dX0_takeMembers_69 : decode cX0_takeMembers 69 = .ok (.iload 4, 2) := by decide +kernel
theorem dX0_takeMembers_71 : decode cX0_takeMembers 71 = .ok (.iload_n 3, 1) := by decide +kernel
theorem dX0_takeMembers_72 : decode cX0_takeMembers 72 = .ok (.iastore, 1) := by decide +kernel
theorem dX0_takeMembers_73 : decode cX0_takeMembers 73 = .ok (.iinc 2 1, 3) := by decide +kernel
theorem dX0_takeMembers_76 : decode cX0_takeMembers 76 = .ok (.goto (-74), 3) := by decide +kernel
theorem dX0_takeMembers_79 : decode cX0_takeMembers 79 = .ok (.return_, 1) := by decide +kernel
theorem cm_X0_takeMembers : x_CM yX0_takeMembers cX0_takeMembers 5 (Option.none : Option Jvm.ClassFile.FieldType) 1 := ⟨w_6_95, w_1_9, by decide +kernel, by decide +kernel⟩
theorem ci_X0_takeMembers : x_CI yX0_takeMembers 2 := ⟨w_6_94, wp_37, (RX0, TX0, 5), rfl, rfl⟩
set_option maxRecDepth 100000 in
set_option maxHeartbeats 4000000 in
theorem bX0_takeMembers_65 {V : x_J} {ad : Nat → Nat} {Q : x_S → x_L → Prop} (X : x_Is V cX0_takeMembers 5 RX0 (Option.none : Option Jvm.ClassFile.FieldType) ad dsX 0 (x_PV Q)) {K2 : Int32 → Int32 → x_S → x_L → Prop} (hK2 : ∀ v1 v2 σ τ, K2 v1 v2 σ τ → V σ τ 2 [(0, .ref (ad 60)), (1, .int v1), (2, .int v2)] []) {v1 : Int32} {v2 : Int32} {v3 : Int32} {v4 : Int32} {σ : x_S} {τ : x_L} (h : wX0_takeMembers_65 K2 Q v1 v2 v3 v4 σ τ) : V σ τ 65 [(0, .ref (ad 60)), (1, .int v1), (2, .int v2), (3, .int v3), (4, .int v4)] [] := by
  refine x_aload_n X dX0_takeMembers_65 rfl 0 rfl ?_
  refine x_getR X (j := 61) dX0_takeMembers_66 fl_0_9 dsX_60 rfl ?_
  refine x_iload X dX0_takeMembers_69 4 rfl ?_
  refine x_iload_n X dX0_takeMembers_71 rfl 3 rfl ?_
  have g72 := h.1
  have h := h.2
  refine x_iast X dX0_takeMembers_72 dsX_61 g72 ?_
  refine x_iinc X (k := 2) (lv' := [(2, .int (v2 + 1)), (0, .ref (ad 60)), (1, .int v1), (3, .int v3), (4, .int v4)]) dX0_takeMembers_73 rfl ki_1 (by decide) rfl ?_
  refine x_goto X (tgt := 2) dX0_takeMembers_76 (by decide) ?_
  refine x_sub X [1, 2, 0] (lv' := [(0, .ref (ad 60)), (1, .int v1), (2, .int (v2 + 1))]) rfl ?_
  exact hK2 _ _ _ _ h
set_option maxRecDepth 100000 in
set_option maxHeartbeats 4000000 in
theorem bX0_takeMembers_25 {V : x_J} {ad : Nat → Nat} {Q : x_S → x_L → Prop} (X : x_Is V cX0_takeMembers 5 RX0 (Option.none : Option Jvm.ClassFile.FieldType) ad dsX 0 (x_PV Q)) {K2 : Int32 → Int32 → x_S → x_L → Prop} {K25 : Int32 → Int32 → Int32 → Int32 → x_S → x_L → Prop} (hK2 : ∀ v1 v2 σ τ, K2 v1 v2 σ τ → V σ τ 2 [(0, .ref (ad 60)), (1, .int v1), (2, .int v2)] []) (hK25 : ∀ v1 v2 v3 v4 σ τ, K25 v1 v2 v3 v4 σ τ → V σ τ 25 [(0, .ref (ad 60)), (1, .int v1), (2, .int v2), (3, .int v3), (4, .int v4)] []) {v1 : Int32} {v2 : Int32} {v3 : Int32} {v4 : Int32} {σ : x_S} {τ : x_L} (h : wX0_takeMembers_25 K2 Q K25 v1 v2 v3 v4 σ τ) : V σ τ 25 [(0, .ref (ad 60)), (1, .int v1), (2, .int v2), (3, .int v3), (4, .int v4)] [] := by
  refine x_iload X dX0_takeMembers_25 4 rfl ?_
  refine x_if_le X 65 dX0_takeMembers_27 (by decide) (fun hc => ?_) (fun hc => ?_)
  · have h := h.1 hc
    exact bX0_takeMembers_65 X hK2 h
  · have h := h.2 hc
    refine x_aload_n X dX0_takeMembers_30 rfl 0 rfl ?_
    refine x_getR X (j := 61) dX0_takeMembers_31 fl_0_9 dsX_60 rfl ?_
    refine x_iload X dX0_takeMembers_34 4 rfl ?_
    refine x_iconst X dX0_takeMembers_36 ki_1 ?_
    refine x_isub X dX0_takeMembers_37 ?_
    have g38 := h.1
    have h := h.2
    refine x_iald X dX0_takeMembers_38 dsX_61 g38 ?_
    refine x_iload_n X dX0_takeMembers_39 rfl 3 rfl ?_
    refine x_icmp_le X 65 dX0_takeMembers_40 (by decide) (fun hc => ?_) (fun hc => ?_)
    · have h := h.1 hc
      exact bX0_takeMembers_65 X hK2 h
    · have h := h.2 hc
      refine x_aload_n X dX0_takeMembers_43 rfl 0 rfl ?_
      refine x_getR X (j := 61) dX0_takeMembers_44 fl_0_9 dsX_60 rfl ?_
      refine x_iload X dX0_takeMembers_47 4 rfl ?_
      refine x_aload_n X dX0_takeMembers_49 rfl 0 rfl ?_
      refine x_getR X (j := 61) dX0_takeMembers_50 fl_0_9 dsX_60 rfl ?_
      refine x_iload X dX0_takeMembers_53 4 rfl ?_
      refine x_iconst X dX0_takeMembers_55 ki_1 ?_
      refine x_isub X dX0_takeMembers_56 ?_
      refine x_iald X dX0_takeMembers_57 dsX_61 g38 ?_
      have g58 := h.1
      have h := h.2
      refine x_iast X dX0_takeMembers_58 dsX_61 g58 ?_
      refine x_iinc X (k := 4) (lv' := [(4, .int (v4 + (-1))), (0, .ref (ad 60)), (1, .int v1), (2, .int v2), (3, .int v3)]) dX0_takeMembers_59 rfl ki_m1 (by decide) rfl ?_
      refine x_goto X (tgt := 25) dX0_takeMembers_62 (by decide) ?_
      refine x_sub X [1, 2, 3, 4, 0] (lv' := [(0, .ref (ad 60)), (1, .int v1), (2, .int v2), (3, .int v3), (4, .int (v4 + (-1)))]) rfl ?_
      exact hK25 _ _ _ _ _ _ h
set_option maxRecDepth 100000 in
set_option maxHeartbeats 4000000 in
theorem bX0_takeMembers_2 {V : x_J} {ad : Nat → Nat} {Q : x_S → x_L → Prop} (X : x_Is V cX0_takeMembers 5 RX0 (Option.none : Option Jvm.ClassFile.FieldType) ad dsX 0 (x_PV Q)) {K2 : Int32 → Int32 → x_S → x_L → Prop} (hK2 : ∀ v1 v2 σ τ, K2 v1 v2 σ τ → V σ τ 2 [(0, .ref (ad 60)), (1, .int v1), (2, .int v2)] []) {v1 : Int32} {v2 : Int32} {σ : x_S} {τ : x_L} (h : wX0_takeMembers_2 Q K2 v1 v2 σ τ) : V σ τ 2 [(0, .ref (ad 60)), (1, .int v1), (2, .int v2)] [] := by
  refine x_iload_n X dX0_takeMembers_2 rfl 2 rfl ?_
  refine x_aload_n X dX0_takeMembers_3 rfl 0 rfl ?_
  refine x_getI X dX0_takeMembers_4 fl_0_15 dsX_60 rfl ?_
  refine x_icmp_ge X 79 dX0_takeMembers_7 (by decide) (fun hc => ?_) (fun hc => ?_)
  · have h := h.1 hc
    exact x_vret X dX0_takeMembers_79 ⟨rfl, h⟩
  · have h := h.2 hc
    refine x_aload_n X dX0_takeMembers_10 rfl 0 rfl ?_
    refine x_getR X (j := 33) dX0_takeMembers_11 fl_0_25 dsX_60 rfl ?_
    refine x_getR X (j := 39) dX0_takeMembers_14 fl_0_55 dsX_33 rfl ?_
    refine x_iload_n X dX0_takeMembers_17 rfl 1 rfl ?_
    refine x_iload_n X dX0_takeMembers_18 rfl 2 rfl ?_
    refine x_iadd X dX0_takeMembers_19 ?_
    have g20 := h.1
    have h := h.2
    refine x_iald X dX0_takeMembers_20 dsX_39 g20 ?_
    refine x_istore_n X (lv' := [(3, .int (σ 39 (v1 + v2).toNatClampNeg)), (0, .ref (ad 60)), (1, .int v1), (2, .int v2)]) dX0_takeMembers_21 rfl (by decide) rfl ?_
    refine x_iload_n X dX0_takeMembers_22 rfl 3 rfl ?_
    refine x_istore X (lv' := [(4, .int v2), (3, .int (σ 39 (v1 + v2).toNatClampNeg)), (0, .ref (ad 60)), (1, .int v1), (2, .int v2)]) dX0_takeMembers_23 (by decide) rfl ?_
    refine x_sub X [2, 3, 4, 1, 0] (lv' := [(0, .ref (ad 60)), (1, .int v1), (2, .int v2), (3, .int (σ 39 (v1 + v2).toNatClampNeg)), (4, .int v2)]) rfl ?_
    exact x_l4_G (fun v1 v2 v3 v4 σ τ => V σ τ 25 [(0, .ref (ad 60)), (1, .int v1), (2, .int v2), (3, .int v3), (4, .int v4)] []) (fun K25 hK25 v1 v2 v3 v4 σ τ h => bX0_takeMembers_25 X hK2 hK25 h) h
set_option maxRecDepth 100000 in
set_option maxHeartbeats 4000000 in
theorem kX0_takeMembers {ad : Nat → Nat} {a1 : Int32} {σ : x_S} {τ : x_L} {Q : x_S → x_L → Prop} (h : wX0_takeMembers a1 σ τ Q) : x_Met yX0_takeMembers cX0_takeMembers 5 (Option.none : Option Jvm.ClassFile.FieldType) 0 ad dsX [.ref (ad 60), .int a1] σ τ (x_PV Q) := by
  refine x_met (by decide +kernel) (Nat.le_of_ble_eq_true rfl) (fun V X => ?_)
  have X : x_Is V cX0_takeMembers 5 RX0 (Option.none : Option Jvm.ClassFile.FieldType) ad dsX 0 (x_PV Q) := X
  show V σ τ 0 [(0, .ref (ad 60)), (1, .int a1)] []
  refine x_iconst X dX0_takeMembers_0 ki_0 ?_
  refine x_istore_n X (lv' := [(2, .int 0), (0, .ref (ad 60)), (1, .int a1)]) dX0_takeMembers_1 rfl (by decide) rfl ?_
  refine x_sub X [1, 2, 0] (lv' := [(0, .ref (ad 60)), (1, .int a1), (2, .int 0)]) rfl ?_
  exact x_l2_G (fun v1 v2 σ τ => V σ τ 2 [(0, .ref (ad 60)), (1, .int v1), (2, .int v2)] []) (fun K2 hK2 v1 v2 σ τ h => bX0_takeMembers_2 X hK2 h) h
theorem dX6_base_0 : decode cX6_base 0 = .ok (.aload_n 0, 1) := by decide +kernel
theorem dX6_base_1 : decode cX6_base 1 = .ok (.getfield 53, 3) := by decide +kernel
theorem dX6_base_4 : decode cX6_base 4 = .ok (.getfield 165, 3) := by decide +kernel
theorem dX6_base_7 : decode cX6_base 7 = .ok (.aload_n 0, 1) := by decide +kernel
theorem dX6_base_8 : decode cX6_base 8 = .ok (.getfield 53, 3) := by decide +kernel
theorem dX6_base_11 : decode cX6_base 11 = .ok (.getfield 83, 3) := by decide +kernel
theorem dX6_base_14 : decode cX6_base 14 = .ok (.iload_n 1, 1) := by decide +kernel
theorem dX6_base_15 : decode cX6_base 15 = .ok (.iaload, 1) := by decide +kernel
theorem dX6_base_16 : decode cX6_base 16 = .ok (.iaload, 1) := by decide +kernel
theorem dX6_base_17 : decode cX6_base 17 = .ok (.sipush 150, 3) := by decide +kernel
theorem dX6_base_20 : decode cX6_base 20 = .ok (.aload_n 0, 1) := by decide +kernel
theorem dX6_base_21 : decode cX6_base 21 = .ok (.getfield 18, 3) := by decide +kernel
theorem dX6_base_24 : decode cX6_base 24 = .ok (.iload_n 1, 1) := by decide +kernel
theorem dX6_base_25 : decode cX6_base 25 = .ok (.iaload, 1) := by decide +kernel
theorem dX6_base_26 : decode cX6_base 26 = .ok (.aload_n 0, 1) := by decide +kernel
theorem dX6_base_27 : decode cX6_base 27 = .ok (.getfield 18, 3) := by decide +kernel
theorem dX6_base_30 : decode cX6_base 30 = .ok (.iload_n 1, 1) := by decide +kernel
theorem dX6_base_31 : decode cX6_base 31 = .ok (.iaload, 1) := by decide +kernel
theorem dX6_base_32 : decode cX6_base 32 = .ok (.imul, 1) := by decide +kernel
theorem dX6_base_33 : decode cX6_base 33 = .ok (.bipush 40, 2) := by decide +kernel
theorem dX6_base_35 : decode cX6_base 35 = .ok (.idiv, 1) := by decide +kernel
theorem dX6_base_36 : decode cX6_base 36 = .ok (.iadd, 1) := by decide +kernel
theorem dX6_base_37 : decode cX6_base 37 = .ok (.imul, 1) := by decide +kernel
theorem dX6_base_38 : decode cX6_base 38 = .ok (.ireturn, 1) := by decide +kernel
theorem cm_X6_base : x_CM yX6_base cX6_base 2 (Option.some FieldType.int) 1 := ⟨w_3_138, w_1_7, by decide +kernel, by decide +kernel⟩
theorem ci_X6_base : x_CI yX6_base 8 := ⟨w_3_136, w_3_137, (RX6, TX6, 15), rfl, rfl⟩
set_option maxRecDepth 100000 in
set_option maxHeartbeats 4000000 in
theorem kX6_base {ad : Nat → Nat} {t : Nat} (ht : x_pl t) {a1 : Int32} {σ : x_S} {τ : x_L} {Q : Int32 → x_S → x_L → Prop} (h : wX6_base t a1 σ τ Q) : x_Met yX6_base cX6_base 2 (Option.some FieldType.int) 0 ad dsX [.ref (ad t), .int a1] σ τ (x_PI Q) := by
  refine x_met (by decide +kernel) (Nat.le_of_ble_eq_true rfl) (fun V X => ?_)
  have X : x_Is V cX6_base 2 RX6 (Option.some FieldType.int) ad dsX 0 (x_PI Q) := X
  show V σ τ 0 [(0, .ref (ad t)), (1, .int a1)] []
  refine x_aload_n X dX6_base_0 rfl 0 rfl ?_
  refine x_getR X (j := 3) dX6_base_1 fl_6_53 (dsX_pl ht) rfl ?_
  refine x_getR X (j := 6) dX6_base_4 fl_6_165 dsX_3 rfl ?_
  refine x_aload_n X dX6_base_7 rfl 0 rfl ?_
  refine x_getR X (j := 3) dX6_base_8 fl_6_53 (dsX_pl ht) rfl ?_
  refine x_getR X (j := 12) dX6_base_11 fl_6_83 dsX_3 rfl ?_
  refine x_iload_n X dX6_base_14 rfl 1 rfl ?_
  have g15 := h.1
  have h := h.2
  refine x_iald X dX6_base_15 dsX_12 g15 ?_
  have g16 := h.1
  have h := h.2
  refine x_iald X dX6_base_16 dsX_6 g16 ?_
  refine x_sipush X dX6_base_17 ks_150 ?_
  refine x_aload_n X dX6_base_20 rfl 0 rfl ?_
  refine x_getR X (j := (t + 3)) dX6_base_21 fl_6_18 (dsX_pl ht) rfl ?_
  refine x_iload_n X dX6_base_24 rfl 1 rfl ?_
  refine x_iald X dX6_base_25 (dsX_pl3 ht) g15 ?_
  refine x_aload_n X dX6_base_26 rfl 0 rfl ?_
  refine x_getR X (j := (t + 3)) dX6_base_27 fl_6_18 (dsX_pl ht) rfl ?_
  refine x_iload_n X dX6_base_30 rfl 1 rfl ?_
  refine x_iald X dX6_base_31 (dsX_pl3 ht) g15 ?_
  refine x_imul X dX6_base_32 ?_
  refine x_bipush X dX6_base_33 kb_40 ?_
  refine x_idiv X dX6_base_35 (by decide) ?_
  refine x_iadd X dX6_base_36 ?_
  refine x_imul X dX6_base_37 ?_
  exact x_iret X dX6_base_38 ⟨_, rfl, h⟩
theorem dX6_closesUpAt_0 : decode cX6_closesUpAt 0 = .ok (.aload_n 0, 1) := by decide +kernel
theorem dX6_closesUpAt_1 : decode cX6_closesUpAt 1 = .ok (.getfield 57, 3) := by decide +kernel
theorem dX6_closesUpAt_4 : decode cX6_closesUpAt 4 = .ok (.getfield 153, 3) := by decide +kernel
theorem dX6_closesUpAt_7 : decode cX6_closesUpAt 7 = .ok (.aload_n 1, 1) := by decide +kernel
theorem dX6_closesUpAt_8 : decode cX6_closesUpAt 8 = .ok (.iload_n 3, 1) := by decide +kernel
theorem dX6_closesUpAt_9 : decode cX6_closesUpAt 9 = .ok (.iaload, 1) := by decide +kernel
theorem dX6_closesUpAt_10 : decode cX6_closesUpAt 10 = .ok (.iaload, 1) := by decide +kernel
theorem dX6_closesUpAt_11 : decode cX6_closesUpAt 11 = .ok (.istore 4, 2) := by decide +kernel
theorem dX6_closesUpAt_13 : decode cX6_closesUpAt 13 = .ok (.iload 4, 2) := by decide +kernel
theorem dX6_closesUpAt_15 : decode cX6_closesUpAt 15 = .ok (.iconst (-1), 1) := by decide +kernel
theorem dX6_closesUpAt_16 : decode cX6_closesUpAt 16 = .ok (.if_icmp .eq 26, 3) := by decide +kernel
theorem dX6_closesUpAt_19 : decode cX6_closesUpAt 19 = .ok (.iload_n 3, 1) := by decide +kernel
theorem dX6_closesUpAt_20 : decode cX6_closesUpAt 20 = .ok (.iload_n 2, 1) := by decide +kernel
theorem dX6_closesUpAt_21 : decode cX6_closesUpAt 21 = .ok (.if_icmp .eq 21, 3) := by decide +kernel
theorem dX6_closesUpAt_24 : decode cX6_closesUpAt 24 = .ok (.aload_n 0, 1) := by decide +kernel
theorem dX6_closesUpAt_25 : decode cX6_closesUpAt 25 = .ok (.getfield 57, 3) := by decide +kernel
theorem dX6_closesUpAt_28 : decode cX6_closesUpAt 28 = .ok (.getfield 153, 3) := by decide +kernel
theorem dX6_closesUpAt_31 : decode cX6_closesUpAt 31 = .ok (.aload_n 1, 1) := by decide +kernel
theorem dX6_closesUpAt_32 : decode cX6_closesUpAt 32 = .ok (.iload_n 3, 1) := by decide +kernel
theorem dX6_closesUpAt_33 : decode cX6_closesUpAt 33 = .ok (.iconst 1, 1) := by decide +kernel
theorem dX6_closesUpAt_34 : decode cX6_closesUpAt 34 = .ok (.isub, 1) := by decide +kernel
theorem dX6_closesUpAt_35 : decode cX6_closesUpAt 35 = .ok (.iaload, 1) := by decide +kernel
theorem dX6_closesUpAt_36 : decode cX6_closesUpAt 36 = .ok (.iaload, 1) := by decide +kernel
theorem dX6_closesUpAt_37 : decode cX6_closesUpAt 37 = .ok (.iload 4, 2) := by decide +kernel
theorem dX6_closesUpAt_39 : decode cX6_closesUpAt 39 = .ok (.if_icmp .ne 5, 3) := by decide +kernel
theorem dX6_closesUpAt_42 : decode cX6_closesUpAt 42 = .ok (.iconst 0, 1) := by decide +kernel
theorem dX6_closesUpAt_43 : decode cX6_closesUpAt 43 = .ok (.ireturn, 1) := by decide +kernel
theorem dX6_closesUpAt_44 : decode cX6_closesUpAt 44 = .ok (.iload_n 2, 1) := by decide +kernel
theorem dX6_closesUpAt_45 : decode cX6_closesUpAt 45 = .ok (.istore 5, 2) := by decide +kernel
theorem dX6_closesUpAt_47 : decode cX6_closesUpAt 47 = .ok (.iload 5, 2) := by decide +kernel
theorem dX6_closesUpAt_49 : decode cX6_closesUpAt 49 = .ok (.iload_n 3, 1) := by decide +kernel
theorem dX6_closesUpAt_50 : decode cX6_closesUpAt 50 = .ok (.iconst 1, 1) := by decide +kernel
theorem dX6_closesUpAt_51 : decode cX6_closesUpAt 51 = .ok (.isub, 1) := by decide +kernel
theorem dX6_closesUpAt_52 : decode cX6_closesUpAt 52 = .ok (.if_icmp .ge 28, 3) := by decide +kernel
theorem dX6_closesUpAt_55 : decode cX6_closesUpAt 55 = .ok (.aload_n 0, 1) := by decide +kernel
theorem dX6_closesUpAt_56 : decode cX6_closesUpAt 56 = .ok (.getfield 57, 3) := by decide +kernel
theorem dX6_closesUpAt_59 : decode cX6_closesUpAt 59 = .ok (.getfield 153, 3) := by decide +kernel
theorem dX6_closesUpAt_62 : decode cX6_closesUpAt 62 = .ok (.aload_n 1, 1) := by decide +kernel
theorem dX6_closesUpAt_63 : decode cX6_closesUpAt 63 = .ok (.iload 5, 2) := by decide +kernel
theorem dX6_closesUpAt_65 : decode cX6_closesUpAt 65 = .ok (.iaload, 1) := by decide +kernel
theorem dX6_closesUpAt_66 : decode cX6_closesUpAt 66 = .ok (.iaload, 1) := by decide +kernel
theorem dX6_closesUpAt_67 : decode cX6_closesUpAt 67 = .ok (.iload 4, 2) := by decide +kernel
theorem dX6_closesUpAt_69 : decode cX6_closesUpAt 69 = .ok (.if_icmp .ne 5, 3) := by decide +kernel
theorem dX6_closesUpAt_72 : decode cX6_closesUpAt 72 = .ok (.iconst 1, 1) := by decide +kernel
theorem dX6_closesUpAt_73 : decode cX6_closesUpAt 73 = .ok (.ireturn, 1) := by decide +kernel
theorem dX6_closesUpAt_74 : decode cX6_closesUpAt 74 = .ok (.iinc 5 1, 3) := by decide +kernel
theorem dX6_closesUpAt_77 : decode cX6_closesUpAt 77 = .ok (.goto (-30), 3) := by decide +kernel
theorem dX6_closesUpAt_80 : decode cX6_closesUpAt 80 = .ok (.iconst 0, 1) := by decide +kernel
theorem dX6_closesUpAt_81 : decode cX6_closesUpAt 81 = .ok (.ireturn, 1) := by decide +kernel
theorem cm_X6_closesUpAt : x_CM yX6_closesUpAt cX6_closesUpAt 6 (Option.some FieldType.boolean) 3 := ⟨w_3_146, w_1_7, by decide +kernel, by decide +kernel⟩
theorem ci_X6_closesUpAt : x_CI yX6_closesUpAt 8 := ⟨w_3_145, wp_15, (RX6, TX6, 15), rfl, rfl⟩
set_option maxRecDepth 100000 in
set_option maxHeartbeats 4000000 in
theorem bX6_closesUpAt_42 {V : x_J} {ad : Nat → Nat} {t : Nat} {b : Nat} {bn : Nat} {Q : Int32 → x_S → x_L → Prop} (X : x_Is V cX6_closesUpAt 6 RX6 (Option.some FieldType.boolean) ad dsX 0 (x_PI Q)) (ht : x_pl t) (hb : dsX[b]? = some (1, bn, [])) {σ : x_S} {τ : x_L} (h : wX6_closesUpAt_42 t b bn Q σ τ) : V σ τ 42 [] [] := by
  refine x_iconst X dX6_closesUpAt_42 ki_0 ?_
  exact x_zret X dX6_closesUpAt_43 ⟨Or.inl rfl, _, rfl, h⟩
set_option maxRecDepth 100000 in
set_option maxHeartbeats 4000000 in
theorem bX6_closesUpAt_47 {V : x_J} {ad : Nat → Nat} {t : Nat} {b : Nat} {bn : Nat} {Q : Int32 → x_S → x_L → Prop} (X : x_Is V cX6_closesUpAt 6 RX6 (Option.some FieldType.boolean) ad dsX 0 (x_PI Q)) (ht : x_pl t) (hb : dsX[b]? = some (1, bn, [])) {K47 : Int32 → Int32 → Int32 → x_S → x_L → Prop} (hK47 : ∀ v3 v4 v5 σ τ, K47 v3 v4 v5 σ τ → V σ τ 47 [(0, .ref (ad t)), (1, .ref (ad b)), (3, .int v3), (4, .int v4), (5, .int v5)] []) {v3 : Int32} {v4 : Int32} {v5 : Int32} {σ : x_S} {τ : x_L} (h : wX6_closesUpAt_47 t b bn Q K47 v3 v4 v5 σ τ) : V σ τ 47 [(0, .ref (ad t)), (1, .ref (ad b)), (3, .int v3), (4, .int v4), (5, .int v5)] [] := by
  refine x_iload X dX6_closesUpAt_47 4 rfl ?_
  refine x_iload_n X dX6_closesUpAt_49 rfl 2 rfl ?_
  refine x_iconst X dX6_closesUpAt_50 ki_1 ?_
  refine x_isub X dX6_closesUpAt_51 ?_
  refine x_icmp_ge X 80 dX6_closesUpAt_52 (by decide) (fun hc => ?_) (fun hc => ?_)
  · have h := h.1 hc
    refine x_iconst X dX6_closesUpAt_80 ki_0 ?_
    exact x_zret X dX6_closesUpAt_81 ⟨Or.inl rfl, _, rfl, h⟩
  · have h := h.2 hc
    refine x_aload_n X dX6_closesUpAt_55 rfl 0 rfl ?_
    refine x_getR X (j := 27) dX6_closesUpAt_56 fl_6_57 (dsX_pl ht) rfl ?_
    refine x_getR X (j := 31) dX6_closesUpAt_59 fl_6_153 dsX_27 rfl ?_
    refine x_aload_n X dX6_closesUpAt_62 rfl 1 rfl ?_
    refine x_iload X dX6_closesUpAt_63 4 rfl ?_
    have g65 := h.1
    have h := h.2
    refine x_iald X dX6_closesUpAt_65 hb g65 ?_
    have g66 := h.1
    have h := h.2
    refine x_iald X dX6_closesUpAt_66 dsX_31 g66 ?_
    refine x_iload X dX6_closesUpAt_67 3 rfl ?_
    refine x_icmp_ne X 74 dX6_closesUpAt_69 (by decide) (fun hc => ?_) (fun hc => ?_)
    · have h := h.1 hc
      refine x_iinc X (k := 4) (lv' := [(5, .int (v5 + 1)), (0, .ref (ad t)), (1, .ref (ad b)), (3, .int v3), (4, .int v4)]) dX6_closesUpAt_74 rfl ki_1 (by decide) rfl ?_
      refine x_goto X (tgt := 47) dX6_closesUpAt_77 (by decide) ?_
      refine x_sub X [1, 2, 3, 4, 0] (lv' := [(0, .ref (ad t)), (1, .ref (ad b)), (3, .int v3), (4, .int v4), (5, .int (v5 + 1))]) rfl ?_
      exact hK47 _ _ _ _ _ h
    · have h := h.2 hc
      refine x_iconst X dX6_closesUpAt_72 ki_1 ?_
      exact x_zret X dX6_closesUpAt_73 ⟨Or.inr rfl, _, rfl, h⟩
set_option maxRecDepth 100000 in
set_option maxHeartbeats 4000000 in
theorem kX6_closesUpAt {ad : Nat → Nat} {t : Nat} {b : Nat} {bn : Nat} (ht : x_pl t) (hb : dsX[b]? = some (1, bn, [])) {a2 : Int32} {a3 : Int32} {σ : x_S} {τ : x_L} {Q : Int32 → x_S → x_L → Prop} (h : wX6_closesUpAt t b bn a2 a3 σ τ Q) : x_Met yX6_closesUpAt cX6_closesUpAt 6 (Option.some FieldType.boolean) 0 ad dsX [.ref (ad t), .ref (ad b), .int a2, .int a3] σ τ (x_PI Q) := by
  refine x_met (by decide +kernel) (Nat.le_of_ble_eq_true rfl) (fun V X => ?_)
  have X : x_Is V cX6_closesUpAt 6 RX6 (Option.some FieldType.boolean) ad dsX 0 (x_PI Q) := X
  show V σ τ 0 [(0, .ref (ad t)), (1, .ref (ad b)), (2, .int a2), (3, .int a3)] []
  refine x_aload_n X dX6_closesUpAt_0 rfl 0 rfl ?_
  refine x_getR X (j := 27) dX6_closesUpAt_1 fl_6_57 (dsX_pl ht) rfl ?_
  refine x_getR X (j := 31) dX6_closesUpAt_4 fl_6_153 dsX_27 rfl ?_
  refine x_aload_n X dX6_closesUpAt_7 rfl 1 rfl ?_
  refine x_iload_n X dX6_closesUpAt_8 rfl 3 rfl ?_
  have g9 := h.1
  have h := h.2
  refine x_iald X dX6_closesUpAt_9 hb g9 ?_
  have g10 := h.1
  have h := h.2
  refine x_iald X dX6_closesUpAt_10 dsX_31 g10 ?_
  refine x_istore X (lv' := [(4, .int (σ 31 (σ b a3.toNatClampNeg).toNatClampNeg)), (0, .ref (ad t)), (1, .ref (ad b)), (2, .int a2), (3, .int a3)]) dX6_closesUpAt_11 (by decide) rfl ?_
  refine x_iload X dX6_closesUpAt_13 0 rfl ?_
  refine x_iconst X dX6_closesUpAt_15 ki_m1 ?_
  refine x_icmp_eq X 42 dX6_closesUpAt_16 (by decide) (fun hc => ?_) (fun hc => ?_)
  · have h := h.1 hc
    refine x_sub X [] (lv' := []) rfl ?_
    exact bX6_closesUpAt_42 X ht hb h
  · have h := h.2 hc
    refine x_iload_n X dX6_closesUpAt_19 rfl 4 rfl ?_
    refine x_iload_n X dX6_closesUpAt_20 rfl 3 rfl ?_
    refine x_icmp_eq X 42 dX6_closesUpAt_21 (by decide) (fun hc => ?_) (fun hc => ?_)
    · have h := h.1 hc
      refine x_sub X [] (lv' := []) rfl ?_
      exact bX6_closesUpAt_42 X ht hb h
    · have h := h.2 hc
      refine x_aload_n X dX6_closesUpAt_24 rfl 1 rfl ?_
      refine x_getR X (j := 27) dX6_closesUpAt_25 fl_6_57 (dsX_pl ht) rfl ?_
      refine x_getR X (j := 31) dX6_closesUpAt_28 fl_6_153 dsX_27 rfl ?_
      refine x_aload_n X dX6_closesUpAt_31 rfl 2 rfl ?_
      refine x_iload_n X dX6_closesUpAt_32 rfl 4 rfl ?_
      refine x_iconst X dX6_closesUpAt_33 ki_1 ?_
      refine x_isub X dX6_closesUpAt_34 ?_
      have g35 := h.1
      have h := h.2
      refine x_iald X dX6_closesUpAt_35 hb g35 ?_
      have g36 := h.1
      have h := h.2
      refine x_iald X dX6_closesUpAt_36 dsX_31 g36 ?_
      refine x_iload X dX6_closesUpAt_37 0 rfl ?_
      refine x_icmp_ne X 44 dX6_closesUpAt_39 (by decide) (fun hc => ?_) (fun hc => ?_)
      · have h := h.1 hc
        refine x_iload_n X dX6_closesUpAt_44 rfl 3 rfl ?_
        refine x_istore X (lv' := [(5, .int a2), (4, .int (σ 31 (σ b a3.toNatClampNeg).toNatClampNeg)), (0, .ref (ad t)), (1, .ref (ad b)), (2, .int a2), (3, .int a3)]) dX6_closesUpAt_45 (by decide) rfl ?_
        refine x_sub X [2, 3, 5, 1, 0] (lv' := [(0, .ref (ad t)), (1, .ref (ad b)), (3, .int a3), (4, .int (σ 31 (σ b a3.toNatClampNeg).toNatClampNeg)), (5, .int a2)]) rfl ?_
        exact x_l3_G (fun v3 v4 v5 σ τ => V σ τ 47 [(0, .ref (ad t)), (1, .ref (ad b)), (3, .int v3), (4, .int v4), (5, .int v5)] []) (fun K47 hK47 v3 v4 v5 σ τ h => bX6_closesUpAt_47 X ht hb hK47 h) h
      · have h := h.2 hc
        refine x_sub X [] (lv' := []) rfl ?_
        exact bX6_closesUpAt_42 X ht hb h
theorem dX6_distanceAt_0 : decode cX6_distanceAt 0 = .ok (.aload_n 0, 1) := by decide +kernel
theorem dX6_distanceAt_1 : decode cX6_distanceAt 1 = .ok (.getfield 53, 3) := by decide +kernel
theorem dX6_distanceAt_4 : decode cX6_distanceAt 4 = .ok (.getfield 150, 3) := by decide +kernel
theorem dX6_distanceAt_7 : decode cX6_distanceAt 7 = .ok (.aload_n 1, 1) := by decide +kernel
theorem dX6_distanceAt_8 : decode cX6_distanceAt 8 = .ok (.iload_n 2, 1) := by decide +kernel
theorem dX6_distanceAt_9 : decode cX6_distanceAt 9 = .ok (.iconst 1, 1) := by decide +kernel
theorem dX6_distanceAt_10 : decode cX6_distanceAt 10 = .ok (.isub, 1) := by decide +kernel
theorem dX6_distanceAt_11 : decode cX6_distanceAt 11 = .ok (.iaload, 1) := by decide +kernel
theorem dX6_distanceAt_12 : decode cX6_distanceAt 12 = .ok (.bipush 10, 2) := by decide +kernel
theorem dX6_distanceAt_14 : decode cX6_distanceAt 14 = .ok (.idiv, 1) := by decide +kernel
theorem dX6_distanceAt_15 : decode cX6_distanceAt 15 = .ok (.iaload, 1) := by decide +kernel
theorem dX6_distanceAt_16 : decode cX6_distanceAt 16 = .ok (.istore_n 3, 1) := by decide +kernel
theorem dX6_distanceAt_17 : decode cX6_distanceAt 17 = .ok (.aload_n 0, 1) := by decide +kernel
theorem dX6_distanceAt_18 : decode cX6_distanceAt 18 = .ok (.getfield 53, 3) := by decide +kernel
theorem dX6_distanceAt_21 : decode cX6_distanceAt 21 = .ok (.getfield 150, 3) := by decide +kernel
theorem dX6_distanceAt_24 : decode cX6_distanceAt 24 = .ok (.aload_n 1, 1) := by decide +kernel
theorem dX6_distanceAt_25 : decode cX6_distanceAt 25 = .ok (.iload_n 2, 1) := by decide +kernel
theorem dX6_distanceAt_26 : decode cX6_distanceAt 26 = .ok (.iaload, 1) := by decide +kernel
theorem dX6_distanceAt_27 : decode cX6_distanceAt 27 = .ok (.bipush 10, 2) := by decide +kernel
theorem dX6_distanceAt_29 : decode cX6_distanceAt 29 = .ok (.idiv, 1) := by decide +kernel
theorem dX6_distanceAt_30 : decode cX6_distanceAt 30 = .ok (.iaload, 1) := by decide +kernel
theorem dX6_distanceAt_31 : decode cX6_distanceAt 31 = .ok (.istore 4, 2) := by decide +kernel
theorem dX6_distanceAt_33 : decode cX6_distanceAt 33 = .ok (.iload_n 3, 1) := by decide +kernel
theorem dX6_distanceAt_34 : decode cX6_distanceAt 34 = .ok (.iload 4, 2) := by decide +kernel
theorem dX6_distanceAt_36 : decode cX6_distanceAt 36 = .ok (.if_icmp .le 7, 3) := by decide +kernel
theorem dX6_distanceAt_39 : decode cX6_distanceAt 39 = .ok (.iload_n 3, 1) := by decide +kernel
theorem dX6_distanceAt_40 : decode cX6_distanceAt 40 = .ok (.goto 5, 3) := by decide +kernel
theorem dX6_distanceAt_43 : decode cX6_distanceAt 43 = .ok (.iload 4, 2) := by decide +kernel
theorem dX6_distanceAt_45 : decode cX6_distanceAt 45 = .ok (.ireturn, 1) := by decide +kernel
theorem cm_X6_distanceAt : x_CM yX6_distanceAt cX6_distanceAt 5 (Option.some FieldType.int) 2 := ⟨w_3_142, w_1_7, by decide +kernel, by decide +kernel⟩
theorem ci_X6_distanceAt : x_CI yX6_distanceAt 8 := ⟨w_3_141, wp_14, (RX6, TX6, 15), rfl, rfl⟩
set_option maxRecDepth 100000 in
set_option maxHeartbeats 4000000 in
theorem bX6_distanceAt_45 {V : x_J} {ad : Nat → Nat} {t : Nat} {b : Nat} {bn : Nat} {Q : Int32 → x_S → x_L → Prop} (X : x_Is V cX6_distanceAt 5 RX6 (Option.some FieldType.int) ad dsX 0 (x_PI Q)) (ht : x_pl t) (hb : dsX[b]? = some (1, bn, [])) {s0 : Int32} {σ : x_S} {τ : x_L} (h : wX6_distanceAt_45 t b bn Q s0 σ τ) : V σ τ 45 [] [.int s0] := by
  exact x_iret X dX6_distanceAt_45 ⟨_, rfl, h⟩
set_option maxRecDepth 100000 in
set_option maxHeartbeats 4000000 in
theorem kX6_distanceAt {ad : Nat → Nat} {t : Nat} {b : Nat} {bn : Nat} (ht : x_pl t) (hb : dsX[b]? = some (1, bn, [])) {a2 : Int32} {σ : x_S} {τ : x_L} {Q : Int32 → x_S → x_L → Prop} (h : wX6_distanceAt t b bn a2 σ τ Q) : x_Met yX6_distanceAt cX6_distanceAt 5 (Option.some FieldType.int) 0 ad dsX [.ref (ad t), .ref (ad b), .int a2] σ τ (x_PI Q) := by
  refine x_met (by decide +kernel) (Nat.le_of_ble_eq_true rfl) (fun V X => ?_)
  have X : x_Is V cX6_distanceAt 5 RX6 (Option.some FieldType.int) ad dsX 0 (x_PI Q) := X
  show V σ τ 0 [(0, .ref (ad t)), (1, .ref (ad b)), (2, .int a2)] []
  refine x_aload_n X dX6_distanceAt_0 rfl 0 rfl ?_
  refine x_getR X (j := 3) dX6_distanceAt_1 fl_6_53 (dsX_pl ht) rfl ?_
  refine x_getR X (j := 10) dX6_distanceAt_4 fl_6_150 dsX_3 rfl ?_
  refine x_aload_n X dX6_distanceAt_7 rfl 1 rfl ?_
  refine x_iload_n X dX6_distanceAt_8 rfl 2 rfl ?_
  refine x_iconst X dX6_distanceAt_9 ki_1 ?_
  refine x_isub X dX6_distanceAt_10 ?_
  have g11 := h.1
  have h := h.2
  refine x_iald X dX6_distanceAt_11 hb g11 ?_
  refine x_bipush X dX6_distanceAt_12 kb_10 ?_
  refine x_idiv X dX6_distanceAt_14 (by decide) ?_
  have g15 := h.1
  have h := h.2
  refine x_iald X dX6_distanceAt_15 dsX_10 g15 ?_
  refine x_istore_n X (lv' := [(3, .int (σ 10 ((σ b (a2 - 1).toNatClampNeg) / 10).toNatClampNeg)), (0, .ref (ad t)), (1, .ref (ad b)), (2, .int a2)]) dX6_distanceAt_16 rfl (by decide) rfl ?_
  refine x_aload_n X dX6_distanceAt_17 rfl 1 rfl ?_
  refine x_getR X (j := 3) dX6_distanceAt_18 fl_6_53 (dsX_pl ht) rfl ?_
  refine x_getR X (j := 10) dX6_distanceAt_21 fl_6_150 dsX_3 rfl ?_
  refine x_aload_n X dX6_distanceAt_24 rfl 2 rfl ?_
  refine x_iload_n X dX6_distanceAt_25 rfl 3 rfl ?_
  have g26 := h.1
  have h := h.2
  refine x_iald X dX6_distanceAt_26 hb g26 ?_
  refine x_bipush X dX6_distanceAt_27 kb_10 ?_
  refine x_idiv X dX6_distanceAt_29 (by decide) ?_
  have g30 := h.1
  have h := h.2
  refine x_iald X dX6_distanceAt_30 dsX_10 g30 ?_
  refine x_istore X (lv' := [(4, .int (σ 10 ((σ b a2.toNatClampNeg) / 10).toNatClampNeg)), (3, .int (σ 10 ((σ b (a2 - 1).toNatClampNeg) / 10).toNatClampNeg)), (0, .ref (ad t)), (1, .ref (ad b)), (2, .int a2)]) dX6_distanceAt_31 (by decide) rfl ?_
  refine x_iload_n X dX6_distanceAt_33 rfl 1 rfl ?_
  refine x_iload X dX6_distanceAt_34 0 rfl ?_
  refine x_icmp_le X 43 dX6_distanceAt_36 (by decide) (fun hc => ?_) (fun hc => ?_)
  · have h := h.1 hc
    refine x_iload X dX6_distanceAt_43 0 rfl ?_
    refine x_sub X [] (lv' := []) rfl ?_
    exact bX6_distanceAt_45 X ht hb h
  · have h := h.2 hc
    refine x_iload_n X dX6_distanceAt_39 rfl 1 rfl ?_
    refine x_goto X (tgt := 45) dX6_distanceAt_40 (by decide) ?_
    refine x_sub X [] (lv' := []) rfl ?_
    exact bX6_distanceAt_45 X ht hb h
theorem dX6_shareByDistance_0 : decode cX6_shareByDistance 0 = .ok (.iload_n 0, 1) := by decide +kernel
theorem dX6_shareByDistance_1 : decode cX6_shareByDistance 1 = .ok (.bipush 50, 2) := by decide +kernel
theorem dX6_shareByDistance_3 : decode cX6_shareByDistance 3 = .ok (.if_icmp .ge 13, 3) := by decide +kernel
theorem dX6_shareByDistance_6 : decode cX6_shareByDistance 6 = .ok (.sipush 150, 3) := by decide +kernel
theorem dX6_shareByDistance_9 : decode cX6_shareByDistance 9 = .ok (.iconst 3, 1) := by decide +kernel
theorem dX6_shareByDistance_10 : decode cX6_shareByDistance 10 = .ok (.iload_n 0, 1) := by decide +kernel
theorem dX6_shareByDistance_11 : decode cX6_shareByDistance 11 = .ok (.imul, 1) := by decide +kernel
theorem dX6_shareByDistance_12 : decode cX6_shareByDistance 12 = .ok (.isub, 1) := by decide +kernel
theorem dX6_shareByDistance_13 : decode cX6_shareByDistance 13 = .ok (.goto 4, 3) := by decide +kernel
theorem dX6_shareByDistance_16 : decode cX6_shareByDistance 16 = .ok (.iconst 0, 1) := by decide +kernel
theorem dX6_shareByDistance_17 : decode cX6_shareByDistance 17 = .ok (.ireturn, 1) := by decide +kernel
theorem cm_X6_shareByDistance : x_CM yX6_shareByDistance cX6_shareByDistance 1 (Option.some FieldType.int) 1 := ⟨w_3_149, w_1_7, by decide +kernel, by decide +kernel⟩
set_option maxRecDepth 100000 in
set_option maxHeartbeats 4000000 in
theorem bX6_shareByDistance_17 {V : x_J} {ad : Nat → Nat} {Q : Int32 → x_S → x_L → Prop} (X : x_Is V cX6_shareByDistance 1 RX6 (Option.some FieldType.int) ad dsX 0 (x_PI Q)) {s0 : Int32} {σ : x_S} {τ : x_L} (h : wX6_shareByDistance_17 Q s0 σ τ) : V σ τ 17 [] [.int s0] := by
  exact x_iret X dX6_shareByDistance_17 ⟨_, rfl, h⟩
set_option maxRecDepth 100000 in
set_option maxHeartbeats 4000000 in
theorem kX6_shareByDistance {ad : Nat → Nat} {a0 : Int32} {σ : x_S} {τ : x_L} {Q : Int32 → x_S → x_L → Prop} (h : wX6_shareByDistance a0 σ τ Q) : x_Met yX6_shareByDistance cX6_shareByDistance 1 (Option.some FieldType.int) 0 ad dsX [.int a0] σ τ (x_PI Q) := by
  refine x_met (by decide +kernel) (Nat.le_of_ble_eq_true rfl) (fun V X => ?_)
  have X : x_Is V cX6_shareByDistance 1 RX6 (Option.some FieldType.int) ad dsX 0 (x_PI Q) := X
  show V σ τ 0 [(0, .int a0)] []
  refine x_iload_n X dX6_shareByDistance_0 rfl 0 rfl ?_
  refine x_bipush X dX6_shareByDistance_1 kb_50 ?_
  refine x_icmp_ge X 16 dX6_shareByDistance_3 (by decide) (fun hc => ?_) (fun hc => ?_)
  · have h := h.1 hc
    refine x_iconst X dX6_shareByDistance_16 ki_0 ?_
    refine x_sub X [] (lv' := []) rfl ?_
    exact bX6_shareByDistance_17 X h
  · have h := h.2 hc
    refine x_sipush X dX6_shareByDistance_6 ks_150 ?_
    refine x_iconst X dX6_shareByDistance_9 ki_3 ?_
    refine x_iload_n X dX6_shareByDistance_10 rfl 0 rfl ?_
    refine x_imul X dX6_shareByDistance_11 ?_
    refine x_isub X dX6_shareByDistance_12 ?_
    refine x_goto X (tgt := 17) dX6_shareByDistance_13 (by decide) ?_
    refine x_sub X [] (lv' := []) rfl ?_
    exact bX6_shareByDistance_17 X h
theorem dX6_valueOfOrder_0 : decode cX6_valueOfOrder 0 = .ok (.aload_n 0, 1) := by decide +kernel
theorem dX6_valueOfOrder_1 : decode cX6_valueOfOrder 1 = .ok (.aload_n 1, 1) := by decide +kernel
theorem dX6_valueOfOrder_2 : decode cX6_valueOfOrder 2 = .ok (.iload_n 2, 1) := by decide +kernel
theorem dX6_valueOfOrder_3 : decode cX6_valueOfOrder 3 = .ok (.iaload, 1) := by decide +kernel
theorem dX6_valueOfOrder_4 : decode cX6_valueOfOrder 4 = .ok (.invokevirtual 135, 3) := by decide +kernel
theorem dX6_valueOfOrder_7 : decode cX6_valueOfOrder 7 = .ok (.istore 4, 2) := by decide +kernel
theorem dX6_valueOfOrder_9 : decode cX6_valueOfOrder 9 = .ok (.iconst 0, 1) := by decide +kernel
theorem dX6_valueOfOrder_10 : decode cX6_valueOfOrder 10 = .ok (.istore 5, 2) := by decide +kernel
theorem dX6_valueOfOrder_12 : decode cX6_valueOfOrder 12 = .ok (.iload_n 2, 1) := by decide +kernel
theorem dX6_valueOfOrder_13 : decode cX6_valueOfOrder 13 = .ok (.iconst 1, 1) := by decide +kernel
theorem dX6_valueOfOrder_14 : decode cX6_valueOfOrder 14 = .ok (.iadd, 1) := by decide +kernel
theorem dX6_valueOfOrder_15 : decode cX6_valueOfOrder 15 = .ok (.istore 6, 2) := by decide +kernel
theorem dX6_valueOfOrder_17 : decode cX6_valueOfOrder 17 = .ok (.iload 6, 2) := by decide +kernel
theorem dX6_valueOfOrder_19 : decode cX6_valueOfOrder 19 = .ok (.iload_n 3, 1) := by decide +kernel
theorem dX6_valueOfOrder_20 : decode cX6_valueOfOrder 20 = .ok (.if_icmp .ge 76, 3) := by decide +kernel
theorem dX6_valueOfOrder_23 : decode cX6_valueOfOrder 23 = .ok (.aload_n 0, 1) := by decide +kernel
theorem dX6_valueOfOrder_24 : decode cX6_valueOfOrder 24 = .ok (.aload_n 1, 1) := by decide +kernel
theorem dX6_valueOfOrder_25 : decode cX6_valueOfOrder 25 = .ok (.iload 6, 2) := by decide +kernel
theorem dX6_valueOfOrder_27 : decode cX6_valueOfOrder 27 = .ok (.invokevirtual 139, 3) := by decide +kernel
theorem dX6_valueOfOrder_30 : decode cX6_valueOfOrder 30 = .ok (.invokestatic 147, 3) := by decide +kernel
theorem dX6_valueOfOrder_33 : decode cX6_valueOfOrder 33 = .ok (.istore 7, 2) := by decide +kernel
theorem dX6_valueOfOrder_35 : decode cX6_valueOfOrder 35 = .ok (.iload 5, 2) := by decide +kernel
theorem dX6_valueOfOrder_37 : decode cX6_valueOfOrder 37 = .ok (.iload 4, 2) := by decide +kernel
theorem dX6_valueOfOrder_39 : decode cX6_valueOfOrder 39 = .ok (.iload 7, 2) := by decide +kernel
theorem dX6_valueOfOrder_41 : decode cX6_valueOfOrder 41 = .ok (.imul, 1) := by decide +kernel
theorem dX6_valueOfOrder_42 : decode cX6_valueOfOrder 42 = .ok (.sipush 1000, 3) := by decide +kernel
theorem dX6_valueOfOrder_45 : decode cX6_valueOfOrder 45 = .ok (.idiv, 1) := by decide +kernel
theorem dX6_valueOfOrder_46 : decode cX6_valueOfOrder 46 = .ok (.iadd, 1) := by decide +kernel
theorem dX6_valueOfOrder_47 : decode cX6_valueOfOrder 47 = .ok (.istore 5, 2) := by decide +kernel
theorem dX6_valueOfOrder_49 : decode cX6_valueOfOrder 49 = .ok (.iload 6, 2) := by decide +kernel
theorem dX6_valueOfOrder_51 : decode cX6_valueOfOrder 51 = .ok (.iload_n 2, 1) := by decide +kernel
theorem dX6_valueOfOrder_52 : decode cX6_valueOfOrder 52 = .ok (.iconst 1, 1) := by decide +kernel
theorem dX6_valueOfOrder_53 : decode cX6_valueOfOrder 53 = .ok (.iadd, 1) := by decide +kernel
theorem dX6_valueOfOrder_54 : decode cX6_valueOfOrder 54 = .ok (.if_icmp .ne 19, 3) := by decide +kernel
theorem dX6_valueOfOrder_57 : decode cX6_valueOfOrder 57 = .ok (.iload 5, 2) := by decide +kernel
theorem dX6_valueOfOrder_59 : decode cX6_valueOfOrder 59 = .ok (.iload 4, 2) := by decide +kernel
theorem dX6_valueOfOrder_61 : decode cX6_valueOfOrder 61 = .ok (.iload 7, 2) := by decide +kernel
theorem dX6_valueOfOrder_63 : decode cX6_valueOfOrder 63 = .ok (.iconst 4, 1) := by decide +kernel
theorem dX6_valueOfOrder_64 : decode cX6_valueOfOrder 64 = .ok (.idiv, 1) := by decide +kernel
theorem dX6_valueOfOrder_65 : decode cX6_valueOfOrder 65 = .ok (.imul, 1) := by decide +kernel
theorem dX6_valueOfOrder_66 : decode cX6_valueOfOrder 66 = .ok (.sipush 1000, 3) := by decide +kernel
theorem dX6_valueOfOrder_69 : decode cX6_valueOfOrder 69 = .ok (.idiv, 1) := by decide +kernel
theorem dX6_valueOfOrder_70 : decode cX6_valueOfOrder 70 = .ok (.iadd, 1) := by decide +kernel
theorem dX6_valueOfOrder_71 : decode cX6_valueOfOrder 71 = .ok (.istore 5, 2) := by decide +kernel
theorem dX6_valueOfOrder_73 : decode cX6_valueOfOrder 73 = .ok (.aload_n 0, 1) := by decide +kernel
theorem dX6_valueOfOrder_74 : decode cX6_valueOfOrder 74 = .ok (.aload_n 1, 1) := by decide +kernel
theorem dX6_valueOfOrder_75 : decode cX6_valueOfOrder 75 = .ok (.iload_n 2, 1) := by decide +kernel
theorem dX6_valueOfOrder_76 : decode cX6_valueOfOrder 76 = .ok (.iload 6, 2) := by decide +kernel
theorem dX6_valueOfOrder_78 : decode cX6_valueOfOrder 78 = .ok (.invokevirtual 143, 3) := by decide +kernel
theorem dX6_valueOfOrder_81 : decode cX6_valueOfOrder 81 = .ok (.ifCond .eq 9, 3) := by decide +kernel
theorem dX6_valueOfOrder_84 : decode cX6_valueOfOrder 84 = .ok (.iinc 5 (-300), 6) := by decide +kernel
theorem dX6_valueOfOrder_90 : decode cX6_valueOfOrder 90 = .ok (.iinc 6 1, 3) := by decide +kernel
theorem dX6_valueOfOrder_93 : decode cX6_valueOfOrder 93 = .ok (.goto (-76), 3) := by decide +kernel
theorem dX6_valueOfOrder_96 : decode cX6_valueOfOrder 96 = .ok (.iload 5, 2) := by decide +kernel
theorem dX6_valueOfOrder_98 : decode cX6_valueOfOrder 98 = .ok (.ireturn, 1) := by decide +kernel
theorem cm_X6_valueOfOrder : x_CM yX6_valueOfOrder cX6_valueOfOrder 8 (Option.some FieldType.int) 3 := ⟨w_6_99, w_1_7, by decide +kernel, by decide +kernel⟩
theorem ci_X6_valueOfOrder : x_CI yX6_valueOfOrder 8 := ⟨w_6_97, w_6_98, (RX6, TX6, 15), rfl, rfl⟩
set_option maxRecDepth 100000 in
set_option maxHeartbeats 4000000 in
theorem bX6_valueOfOrder_90 {V : x_J} {ad : Nat → Nat} {t : Nat} {b : Nat} {bn : Nat} {Q : Int32 → x_S → x_L → Prop} (X : x_Is V cX6_valueOfOrder 8 RX6 (Option.some FieldType.int) ad dsX 1 (x_PI Q)) (ht : x_pl t) (hb : dsX[b]? = some (1, bn, [])) {K17 : Int32 → Int32 → Int32 → Int32 → Int32 → x_S → x_L → Prop} (hK17 : ∀ v2 v3 v4 v5 v6 σ τ, K17 v2 v3 v4 v5 v6 σ τ → V σ τ 17 [(0, .ref (ad t)), (1, .ref (ad b)), (2, .int v2), (3, .int v3), (4, .int v4), (5, .int v5), (6, .int v6)] []) {v2 : Int32} {v3 : Int32} {v4 : Int32} {v5 : Int32} {v6 : Int32} {σ : x_S} {τ : x_L} (h : wX6_valueOfOrder_90 t b bn K17 Q v2 v3 v4 v5 v6 σ τ) : V σ τ 90 [(0, .ref (ad t)), (1, .ref (ad b)), (2, .int v2), (3, .int v3), (4, .int v4), (5, .int v5), (6, .int v6)] [] := by
  refine x_iinc X (k := 6) (lv' := [(6, .int (v6 + 1)), (0, .ref (ad t)), (1, .ref (ad b)), (2, .int v2), (3, .int v3), (4, .int v4), (5, .int v5)]) dX6_valueOfOrder_90 rfl ki_1 (by decide) rfl ?_
  refine x_goto X (tgt := 17) dX6_valueOfOrder_93 (by decide) ?_
  refine x_sub X [1, 2, 3, 4, 5, 6, 0] (lv' := [(0, .ref (ad t)), (1, .ref (ad b)), (2, .int v2), (3, .int v3), (4, .int v4), (5, .int v5), (6, .int (v6 + 1))]) rfl ?_
  exact hK17 _ _ _ _ _ _ _ h
set_option maxRecDepth 100000 in
set_option maxHeartbeats 4000000 in
theorem bX6_valueOfOrder_73 {V : x_J} {ad : Nat → Nat} {t : Nat} {b : Nat} {bn : Nat} {Q : Int32 → x_S → x_L → Prop} (X : x_Is V cX6_valueOfOrder 8 RX6 (Option.some FieldType.int) ad dsX 1 (x_PI Q)) (ht : x_pl t) (hb : dsX[b]? = some (1, bn, [])) {K17 : Int32 → Int32 → Int32 → Int32 → Int32 → x_S → x_L → Prop} (hK17 : ∀ v2 v3 v4 v5 v6 σ τ, K17 v2 v3 v4 v5 v6 σ τ → V σ τ 17 [(0, .ref (ad t)), (1, .ref (ad b)), (2, .int v2), (3, .int v3), (4, .int v4), (5, .int v5), (6, .int v6)] []) {v2 : Int32} {v3 : Int32} {v4 : Int32} {v5 : Int32} {v6 : Int32} {σ : x_S} {τ : x_L} (h : wX6_valueOfOrder_73 t b bn K17 Q v2 v3 v4 v5 v6 σ τ) : V σ τ 73 [(0, .ref (ad t)), (1, .ref (ad b)), (2, .int v2), (3, .int v3), (4, .int v4), (5, .int v5), (6, .int v6)] [] := by
  refine x_aload_n X dX6_valueOfOrder_73 rfl 0 rfl ?_
  refine x_aload_n X dX6_valueOfOrder_74 rfl 1 rfl ?_
  refine x_iload_n X dX6_valueOfOrder_75 rfl 2 rfl ?_
  refine x_iload X dX6_valueOfOrder_76 6 rfl ?_
  refine x_callVi X [.ref (ad b), .int v2, .int v6] [] dX6_valueOfOrder_78 (kX6_closesUpAt ht hb h) cm_X6_closesUpAt ci_X6_closesUpAt w_3_143 (dsX_pl ht) ⟨by decide, by decide⟩ rfl (Nat.le_of_ble_eq_true rfl) (fun r78 σ78 τ78 h => ?_)
  refine x_if_eq X 90 dX6_valueOfOrder_81 (by decide) (fun hc => ?_) (fun hc => ?_)
  · have h := h.1 hc
    exact bX6_valueOfOrder_90 X ht hb hK17 h
  · have h := h.2 hc
    refine x_iincW X (k := 5) (lv' := [(5, .int (v5 + (-300))), (0, .ref (ad t)), (1, .ref (ad b)), (2, .int v2), (3, .int v3), (4, .int v4), (6, .int v6)]) dX6_valueOfOrder_84 rfl ki_m300 (by decide) rfl ?_
    refine x_sub X [1, 2, 3, 4, 5, 0, 6] (lv' := [(0, .ref (ad t)), (1, .ref (ad b)), (2, .int v2), (3, .int v3), (4, .int v4), (5, .int (v5 + (-300))), (6, .int v6)]) rfl ?_
    exact bX6_valueOfOrder_90 X ht hb hK17 h
set_option maxRecDepth 100000 in
set_option maxHeartbeats 4000000 in
theorem bX6_valueOfOrder_17 {V : x_J} {ad : Nat → Nat} {t : Nat} {b : Nat} {bn : Nat} {Q : Int32 → x_S → x_L → Prop} (X : x_Is V cX6_valueOfOrder 8 RX6 (Option.some FieldType.int) ad dsX 1 (x_PI Q)) (ht : x_pl t) (hb : dsX[b]? = some (1, bn, [])) {K17 : Int32 → Int32 → Int32 → Int32 → Int32 → x_S → x_L → Prop} (hK17 : ∀ v2 v3 v4 v5 v6 σ τ, K17 v2 v3 v4 v5 v6 σ τ → V σ τ 17 [(0, .ref (ad t)), (1, .ref (ad b)), (2, .int v2), (3, .int v3), (4, .int v4), (5, .int v5), (6, .int v6)] []) {v2 : Int32} {v3 : Int32} {v4 : Int32} {v5 : Int32} {v6 : Int32} {σ : x_S} {τ : x_L} (h : wX6_valueOfOrder_17 t b bn Q K17 v2 v3 v4 v5 v6 σ τ) : V σ τ 17 [(0, .ref (ad t)), (1, .ref (ad b)), (2, .int v2), (3, .int v3), (4, .int v4), (5, .int v5), (6, .int v6)] [] := by
  refine x_iload X dX6_valueOfOrder_17 6 rfl ?_
  refine x_iload_n X dX6_valueOfOrder_19 rfl 3 rfl ?_
  refine x_icmp_ge X 96 dX6_valueOfOrder_20 (by decide) (fun hc => ?_) (fun hc => ?_)
  · have h := h.1 hc
    refine x_iload X dX6_valueOfOrder_96 5 rfl ?_
    exact x_iret X dX6_valueOfOrder_98 ⟨_, rfl, h⟩
  · have h := h.2 hc
    refine x_aload_n X dX6_valueOfOrder_23 rfl 0 rfl ?_
    refine x_aload_n X dX6_valueOfOrder_24 rfl 1 rfl ?_
    refine x_iload X dX6_valueOfOrder_25 6 rfl ?_
    refine x_callVi X [.ref (ad b), .int v6] [] dX6_valueOfOrder_27 (kX6_distanceAt ht hb h) cm_X6_distanceAt ci_X6_distanceAt w_3_139 (dsX_pl ht) ⟨by decide, by decide⟩ rfl (Nat.le_of_ble_eq_true rfl) (fun r27 σ27 τ27 h => ?_)
    refine x_callSi X [.int r27] [] dX6_valueOfOrder_30 (kX6_shareByDistance h) cm_X6_shareByDistance w_3_148 rfl w_3_147 ⟨by decide, by decide⟩ rfl (Nat.le_of_ble_eq_true rfl) (fun r30 σ30 τ30 h => ?_)
    refine x_istore X (lv' := [(7, .int r30), (0, .ref (ad t)), (1, .ref (ad b)), (2, .int v2), (3, .int v3), (4, .int v4), (5, .int v5), (6, .int v6)]) dX6_valueOfOrder_33 (by decide) rfl ?_
    refine x_iload X dX6_valueOfOrder_35 6 rfl ?_
    refine x_iload X dX6_valueOfOrder_37 5 rfl ?_
    refine x_iload X dX6_valueOfOrder_39 0 rfl ?_
    refine x_imul X dX6_valueOfOrder_41 ?_
    refine x_sipush X dX6_valueOfOrder_42 ks_1000 ?_
    refine x_idiv X dX6_valueOfOrder_45 (by decide) ?_
    refine x_iadd X dX6_valueOfOrder_46 ?_
    refine x_istore X (lv' := [(5, .int (v5 + ((v4 * r30) / 1000))), (7, .int r30), (0, .ref (ad t)), (1, .ref (ad b)), (2, .int v2), (3, .int v3), (4, .int v4), (6, .int v6)]) dX6_valueOfOrder_47 (by decide) rfl ?_
    refine x_iload X dX6_valueOfOrder_49 7 rfl ?_
    refine x_iload_n X dX6_valueOfOrder_51 rfl 4 rfl ?_
    refine x_iconst X dX6_valueOfOrder_52 ki_1 ?_
    refine x_iadd X dX6_valueOfOrder_53 ?_
    refine x_icmp_ne X 73 dX6_valueOfOrder_54 (by decide) (fun hc => ?_) (fun hc => ?_)
    · have h := h.1 hc
      refine x_sub X [2, 3, 4, 5, 6, 0, 7] (lv' := [(0, .ref (ad t)), (1, .ref (ad b)), (2, .int v2), (3, .int v3), (4, .int v4), (5, .int (v5 + ((v4 * r30) / 1000))), (6, .int v6)]) rfl ?_
      exact bX6_valueOfOrder_73 X ht hb hK17 h
    · have h := h.2 hc
      refine x_iload X dX6_valueOfOrder_57 0 rfl ?_
      refine x_iload X dX6_valueOfOrder_59 6 rfl ?_
      refine x_iload X dX6_valueOfOrder_61 1 rfl ?_
      refine x_iconst X dX6_valueOfOrder_63 ki_4 ?_
      refine x_idiv X dX6_valueOfOrder_64 (by decide) ?_
      refine x_imul X dX6_valueOfOrder_65 ?_
      refine x_sipush X dX6_valueOfOrder_66 ks_1000 ?_
      refine x_idiv X dX6_valueOfOrder_69 (by decide) ?_
      refine x_iadd X dX6_valueOfOrder_70 ?_
      refine x_istore X (lv' := [(5, .int ((v5 + ((v4 * r30) / 1000)) + ((v4 * (r30 / 4)) / 1000))), (7, .int r30), (0, .ref (ad t)), (1, .ref (ad b)), (2, .int v2), (3, .int v3), (4, .int v4), (6, .int v6)]) dX6_valueOfOrder_71 (by decide) rfl ?_
      refine x_sub X [2, 3, 4, 5, 6, 0, 7] (lv' := [(0, .ref (ad t)), (1, .ref (ad b)), (2, .int v2), (3, .int v3), (4, .int v4), (5, .int ((v5 + ((v4 * r30) / 1000)) + ((v4 * (r30 / 4)) / 1000))), (6, .int v6)]) rfl ?_
      exact bX6_valueOfOrder_73 X ht hb hK17 h
set_option maxRecDepth 100000 in
set_option maxHeartbeats 4000000 in
theorem kX6_valueOfOrder {ad : Nat → Nat} {t : Nat} {b : Nat} {bn : Nat} (ht : x_pl t) (hb : dsX[b]? = some (1, bn, [])) {a2 : Int32} {a3 : Int32} {σ : x_S} {τ : x_L} {Q : Int32 → x_S → x_L → Prop} (h : wX6_valueOfOrder t b bn a2 a3 σ τ Q) : x_Met yX6_valueOfOrder cX6_valueOfOrder 8 (Option.some FieldType.int) 1 ad dsX [.ref (ad t), .ref (ad b), .int a2, .int a3] σ τ (x_PI Q) := by
  refine x_met (by decide +kernel) (Nat.le_of_ble_eq_true rfl) (fun V X => ?_)
  have X : x_Is V cX6_valueOfOrder 8 RX6 (Option.some FieldType.int) ad dsX 1 (x_PI Q) := X
  show V σ τ 0 [(0, .ref (ad t)), (1, .ref (ad b)), (2, .int a2), (3, .int a3)] []
  refine x_aload_n X dX6_valueOfOrder_0 rfl 0 rfl ?_
  refine x_aload_n X dX6_valueOfOrder_1 rfl 1 rfl ?_
  refine x_iload_n X dX6_valueOfOrder_2 rfl 2 rfl ?_
  have g3 := h.1
  have h := h.2
  refine x_iald X dX6_valueOfOrder_3 hb g3 ?_
  refine x_callVi X [.int (σ b a2.toNatClampNeg)] [] dX6_valueOfOrder_4 (kX6_base ht h) cm_X6_base ci_X6_base w_3_135 (dsX_pl ht) ⟨by decide, by decide⟩ rfl (Nat.le_of_ble_eq_true rfl) (fun r4 σ4 τ4 h => ?_)
  refine x_istore X (lv' := [(4, .int r4), (0, .ref (ad t)), (1, .ref (ad b)), (2, .int a2), (3, .int a3)]) dX6_valueOfOrder_7 (by decide) rfl ?_
  refine x_iconst X dX6_valueOfOrder_9 ki_0 ?_
  refine x_istore X (lv' := [(5, .int 0), (4, .int r4), (0, .ref (ad t)), (1, .ref (ad b)), (2, .int a2), (3, .int a3)]) dX6_valueOfOrder_10 (by decide) rfl ?_
  refine x_iload_n X dX6_valueOfOrder_12 rfl 4 rfl ?_
  refine x_iconst X dX6_valueOfOrder_13 ki_1 ?_
  refine x_iadd X dX6_valueOfOrder_14 ?_
  refine x_istore X (lv' := [(6, .int (a2 + 1)), (5, .int 0), (4, .int r4), (0, .ref (ad t)), (1, .ref (ad b)), (2, .int a2), (3, .int a3)]) dX6_valueOfOrder_15 (by decide) rfl ?_
  refine x_sub X [3, 4, 5, 6, 2, 1, 0] (lv' := [(0, .ref (ad t)), (1, .ref (ad b)), (2, .int a2), (3, .int a3), (4, .int r4), (5, .int 0), (6, .int (a2 + 1))]) rfl ?_
  exact x_l5_G (fun v2 v3 v4 v5 v6 σ τ => V σ τ 17 [(0, .ref (ad t)), (1, .ref (ad b)), (2, .int v2), (3, .int v3), (4, .int v4), (5, .int v5), (6, .int v6)] []) (fun K17 hK17 v2 v3 v4 v5 v6 σ τ h => bX6_valueOfOrder_17 X ht hb hK17 h) h
theorem dX0_search_0 : decode cX0_search 0 = .ok (.aload_n 0, 1) := by decide +kernel
theorem dX0_search_1 : decode cX0_search 1 = .ok (.iload_n 2, 1) := by decide +kernel
theorem dX0_search_2 : decode cX0_search 2 = .ok (.iload_n 1, 1) := by decide +kernel
theorem dX0_search_3 : decode cX0_search 3 = .ok (.isub, 1) := by decide +kernel
theorem dX0_search_4 : decode cX0_search 4 = .ok (.bipush 6, 2) := by decide +kernel
theorem dX0_search_6 : decode cX0_search 6 = .ok (.invokestatic 29, 3) := by decide +kernel
theorem dX0_search_9 : decode cX0_search 9 = .ok (.putfield 15, 3) := by decide +kernel
theorem dX0_search_12 : decode cX0_search 12 = .ok (.aload_n 0, 1) := by decide +kernel
theorem dX0_search_13 : decode cX0_search 13 = .ok (.iload_n 1, 1) := by decide +kernel
theorem dX0_search_14 : decode cX0_search 14 = .ok (.invokevirtual 35, 3) := by decide +kernel
theorem dX0_search_17 : decode cX0_search 17 = .ok (.iconst 0, 1) := by decide +kernel
theorem dX0_search_18 : decode cX0_search 18 = .ok (.istore_n 3, 1) := by decide +kernel
theorem dX0_search_19 : decode cX0_search 19 = .ok (.iconst 0, 1) := by decide +kernel
theorem dX0_search_20 : decode cX0_search 20 = .ok (.istore 4, 2) := by decide +kernel
theorem dX0_search_22 : decode cX0_search 22 = .ok (.iload 4, 2) := by decide +kernel
theorem dX0_search_24 : decode cX0_search 24 = .ok (.sipush 720, 3) := by decide +kernel
theorem dX0_search_27 : decode cX0_search 27 = .ok (.if_icmp .ge 73, 3) := by decide +kernel
theorem dX0_search_30 : decode cX0_search 30 = .ok (.aload_n 0, 1) := by decide +kernel
theorem dX0_search_31 : decode cX0_search 31 = .ok (.getfield 25, 3) := by decide +kernel
theorem dX0_search_34 : decode cX0_search 34 = .ok (.aload_n 0, 1) := by decide +kernel
theorem dX0_search_35 : decode cX0_search 35 = .ok (.getfield 9, 3) := by decide +kernel
theorem dX0_search_38 : decode cX0_search 38 = .ok (.iconst 0, 1) := by decide +kernel
theorem dX0_search_39 : decode cX0_search 39 = .ok (.aload_n 0, 1) := by decide +kernel
theorem dX0_search_40 : decode cX0_search 40 = .ok (.getfield 15, 3) := by decide +kernel
theorem dX0_search_43 : decode cX0_search 43 = .ok (.invokevirtual 39, 3) := by decide +kernel
theorem dX0_search_46 : decode cX0_search 46 = .ok (.istore 5, 2) := by decide +kernel
theorem dX0_search_48 : decode cX0_search 48 = .ok (.iload_n 3, 1) := by decide +kernel
theorem dX0_search_49 : decode cX0_search 49 = .ok (.ifCond .eq 12, 3) := by decide +kernel
theorem dX0_search_52 : decode cX0_search 52 = .ok (.iload 5, 2) := by decide +kernel
theorem dX0_search_54 : decode cX0_search 54 = .ok (.aload_n 0, 1) := by decide +kernel
theorem dX0_search_55 : decode cX0_search 55 = .ok (.getfield 22, 3) := by decide +kernel
theorem dX0_search_58 : decode cX0_search 58 = .ok (.if_icmp .le 28, 3) := by decide +kernel
theorem dX0_search_61 : decode cX0_search 61 = .ok (.iconst 1, 1) := by decide +kernel
theorem dX0_search_62 : decode cX0_search 62 = .ok (.istore_n 3, 1) := by decide +kernel
theorem dX0_search_63 : decode cX0_search 63 = .ok (.aload_n 0, 1) := by decide +kernel
theorem dX0_search_64 : decode cX0_search 64 = .ok (.iload 5, 2) := by decide +kernel
theorem dX0_search_66 : decode cX0_search 66 = .ok (.putfield 22, 3) := by decide +kernel
theorem dX0_search_69 : decode cX0_search 69 = .ok (.aload_n 0, 1) := by decide +kernel
theorem dX0_search_70 : decode cX0_search 70 = .ok (.getfield 9, 3) := by decide +kernel
theorem dX0_search_73 : decode cX0_search 73 = .ok (.iconst 0, 1) := by decide +kernel
theorem dX0_search_74 : decode cX0_search 74 = .ok (.aload_n 0, 1) := by decide +kernel
theorem dX0_search_75 : decode cX0_search 75 = .ok (.getfield 19, 3) := by decide +kernel
theorem dX0_search_78 : decode cX0_search 78 = .ok (.iconst 0, 1) := by decide +kernel
theorem dX0_search_79 : decode cX0_search 79 = .ok (.aload_n 0, 1) := by decide +kernel
theorem dX0_search_80 : decode cX0_search 80 = .ok (.getfield 15, 3) := by decide +kernel
theorem dX0_search_83 : decode cX0_search 83 = .ok (.invokestatic 45, 3) := by decide +kernel
theorem dX0_search_86 : decode cX0_search 86 = .ok (.aload_n 0, 1) := by decide +kernel
theorem dX0_search_87 : decode cX0_search 87 = .ok (.invokevirtual 51, 3) := by decide +kernel
theorem dX0_search_90 : decode cX0_search 90 = .ok (.ifCond .ne 4, 3) := by decide +kernel
theorem dX0_search_93 : decode cX0_search 93 = .ok (.return_, 1) := by decide +kernel
theorem dX0_search_94 : decode cX0_search 94 = .ok (.iinc 4 1, 3) := by decide +kernel
theorem dX0_search_97 : decode cX0_search 97 = .ok (.goto (-75), 3) := by decide +kernel
theorem dX0_search_100 : decode cX0_search 100 = .ok (.return_, 1) := by decide +kernel
theorem cm_X0_search : x_CM yX0_search cX0_search 6 (Option.none : Option Jvm.ClassFile.FieldType) 2 := ⟨w_6_90, w_1_9, by decide +kernel, by decide +kernel⟩
theorem ci_X0_search : x_CI yX0_search 2 := ⟨w_6_88, w_6_89, (RX0, TX0, 5), rfl, rfl⟩
set_option maxRecDepth 100000 in
set_option maxHeartbeats 4000000 in
theorem bX0_search_86 {V : x_J} {ad : Nat → Nat} {Q : x_S → x_L → Prop} (X : x_Is V cX0_search 6 RX0 (Option.none : Option Jvm.ClassFile.FieldType) ad dsX 2 (x_PV Q)) {K22 : Int32 → Int32 → x_S → x_L → Prop} (hK22 : ∀ v3 v4 σ τ, K22 v3 v4 σ τ → V σ τ 22 [(0, .ref (ad 60)), (3, .int v3), (4, .int v4)] []) {v3 : Int32} {v4 : Int32} {σ : x_S} {τ : x_L} (h : wX0_search_86 K22 Q v3 v4 σ τ) : V σ τ 86 [(0, .ref (ad 60)), (3, .int v3), (4, .int v4)] [] := by
  refine x_aload_n X dX0_search_86 rfl 0 rfl ?_
  refine x_callVi X [] [] dX0_search_87 (kX0_stepOn h) cm_X0_stepOn ci_X0_stepOn w_6_101 dsX_60 ⟨by decide, by decide⟩ rfl (Nat.le_of_ble_eq_true rfl) (fun r87 σ87 τ87 h => ?_)
  refine x_if_ne X 94 dX0_search_90 (by decide) (fun hc => ?_) (fun hc => ?_)
  · have h := h.1 hc
    refine x_iinc X (k := 2) (lv' := [(4, .int (v4 + 1)), (0, .ref (ad 60)), (3, .int v3)]) dX0_search_94 rfl ki_1 (by decide) rfl ?_
    refine x_goto X (tgt := 22) dX0_search_97 (by decide) ?_
    refine x_sub X [1, 2, 0] (lv' := [(0, .ref (ad 60)), (3, .int v3), (4, .int (v4 + 1))]) rfl ?_
    exact hK22 _ _ _ _ h
  · have h := h.2 hc
    exact x_vret X dX0_search_93 ⟨rfl, h⟩
set_option maxRecDepth 100000 in
set_option maxHeartbeats 4000000 in
theorem bX0_search_61 {V : x_J} {ad : Nat → Nat} {Q : x_S → x_L → Prop} (X : x_Is V cX0_search 6 RX0 (Option.none : Option Jvm.ClassFile.FieldType) ad dsX 2 (x_PV Q)) {K22 : Int32 → Int32 → x_S → x_L → Prop} (hK22 : ∀ v3 v4 σ τ, K22 v3 v4 σ τ → V σ τ 22 [(0, .ref (ad 60)), (3, .int v3), (4, .int v4)] []) {v4 : Int32} {v5 : Int32} {σ : x_S} {τ : x_L} (h : wX0_search_61 K22 Q v4 v5 σ τ) : V σ τ 61 [(0, .ref (ad 60)), (4, .int v4), (5, .int v5)] [] := by
  refine x_iconst X dX0_search_61 ki_1 ?_
  refine x_istore_n X (lv' := [(3, .int 1), (0, .ref (ad 60)), (4, .int v4), (5, .int v5)]) dX0_search_62 rfl (by decide) rfl ?_
  refine x_aload_n X dX0_search_63 rfl 1 rfl ?_
  refine x_iload X dX0_search_64 3 rfl ?_
  refine x_putI X dX0_search_66 fl_0_22 ft_0_4 dsX_60 rfl ?_
  refine x_aload_n X dX0_search_69 rfl 1 rfl ?_
  refine x_getR X (j := 61) dX0_search_70 fl_0_9 dsX_60 rfl ?_
  refine x_iconst X dX0_search_73 ki_0 ?_
  refine x_aload_n X dX0_search_74 rfl 1 rfl ?_
  refine x_getR X (j := 62) dX0_search_75 fl_0_19 dsX_60 rfl ?_
  refine x_iconst X dX0_search_78 ki_0 ?_
  refine x_aload_n X dX0_search_79 rfl 1 rfl ?_
  refine x_getI X dX0_search_80 fl_0_15 dsX_60 rfl ?_
  refine x_copy X dX0_search_83 w_6_100 w_3_68 w_3_67 w_1_17 dsX_61 dsX_62 (by decide) (Nat.le_of_ble_eq_true rfl) h.1 ?_
  have h := h.2
  refine x_sub X [1, 0, 2] (lv' := [(0, .ref (ad 60)), (3, .int 1), (4, .int v4)]) rfl ?_
  exact bX0_search_86 X hK22 h
set_option maxRecDepth 100000 in
set_option maxHeartbeats 4000000 in
theorem bX0_search_22 {V : x_J} {ad : Nat → Nat} {Q : x_S → x_L → Prop} (X : x_Is V cX0_search 6 RX0 (Option.none : Option Jvm.ClassFile.FieldType) ad dsX 2 (x_PV Q)) {K22 : Int32 → Int32 → x_S → x_L → Prop} (hK22 : ∀ v3 v4 σ τ, K22 v3 v4 σ τ → V σ τ 22 [(0, .ref (ad 60)), (3, .int v3), (4, .int v4)] []) {v3 : Int32} {v4 : Int32} {σ : x_S} {τ : x_L} (h : wX0_search_22 Q K22 v3 v4 σ τ) : V σ τ 22 [(0, .ref (ad 60)), (3, .int v3), (4, .int v4)] [] := by
  refine x_iload X dX0_search_22 2 rfl ?_
  refine x_sipush X dX0_search_24 ks_720 ?_
  refine x_icmp_ge X 100 dX0_search_27 (by decide) (fun hc => ?_) (fun hc => ?_)
  · have h := h.1 hc
    exact x_vret X dX0_search_100 ⟨rfl, h⟩
  · have h := h.2 hc
    refine x_aload_n X dX0_search_30 rfl 0 rfl ?_
    refine x_getR X (j := 33) dX0_search_31 fl_0_25 dsX_60 rfl ?_
    refine x_aload_n X dX0_search_34 rfl 0 rfl ?_
    refine x_getR X (j := 61) dX0_search_35 fl_0_9 dsX_60 rfl ?_
    refine x_iconst X dX0_search_38 ki_0 ?_
    refine x_aload_n X dX0_search_39 rfl 0 rfl ?_
    refine x_getI X dX0_search_40 fl_0_15 dsX_60 rfl ?_
    refine x_callVi X [.ref (ad 61), .int 0, .int (σ 60 2)] [] dX0_search_43 (kX6_valueOfOrder x_pl33 dsX_61 h) cm_X6_valueOfOrder ci_X6_valueOfOrder w_6_96 dsX_33 ⟨by decide, by decide⟩ rfl (Nat.le_of_ble_eq_true rfl) (fun r43 σ43 τ43 h => ?_)
    refine x_istore X (lv' := [(5, .int r43), (0, .ref (ad 60)), (3, .int v3), (4, .int v4)]) dX0_search_46 (by decide) rfl ?_
    refine x_iload_n X dX0_search_48 rfl 2 rfl ?_
    refine x_if_eq X 61 dX0_search_49 (by decide) (fun hc => ?_) (fun hc => ?_)
    · have h := h.1 hc
      refine x_sub X [1, 3, 0] (lv' := [(0, .ref (ad 60)), (4, .int v4), (5, .int r43)]) rfl ?_
      exact bX0_search_61 X hK22 h
    · have h := h.2 hc
      refine x_iload X dX0_search_52 0 rfl ?_
      refine x_aload_n X dX0_search_54 rfl 1 rfl ?_
      refine x_getI X dX0_search_55 fl_0_22 dsX_60 rfl ?_
      refine x_icmp_le X 86 dX0_search_58 (by decide) (fun hc => ?_) (fun hc => ?_)
      · have h := h.1 hc
        refine x_sub X [1, 2, 3] (lv' := [(0, .ref (ad 60)), (3, .int v3), (4, .int v4)]) rfl ?_
        exact bX0_search_86 X hK22 h
      · have h := h.2 hc
        refine x_sub X [1, 3, 0] (lv' := [(0, .ref (ad 60)), (4, .int v4), (5, .int r43)]) rfl ?_
        exact bX0_search_61 X hK22 h
set_option maxRecDepth 100000 in
set_option maxHeartbeats 4000000 in
theorem kX0_search {ad : Nat → Nat} {a1 : Int32} {a2 : Int32} {σ : x_S} {τ : x_L} {Q : x_S → x_L → Prop} (h : wX0_search a1 a2 σ τ Q) : x_Met yX0_search cX0_search 6 (Option.none : Option Jvm.ClassFile.FieldType) 2 ad dsX [.ref (ad 60), .int a1, .int a2] σ τ (x_PV Q) := by
  refine x_met (by decide +kernel) (Nat.le_of_ble_eq_true rfl) (fun V X => ?_)
  have X : x_Is V cX0_search 6 RX0 (Option.none : Option Jvm.ClassFile.FieldType) ad dsX 2 (x_PV Q) := X
  show V σ τ 0 [(0, .ref (ad 60)), (1, .int a1), (2, .int a2)] []
  refine x_aload_n X dX0_search_0 rfl 0 rfl ?_
  refine x_iload_n X dX0_search_1 rfl 2 rfl ?_
  refine x_iload_n X dX0_search_2 rfl 1 rfl ?_
  refine x_isub X dX0_search_3 ?_
  refine x_bipush X dX0_search_4 kb_6 ?_
  refine x_mmin X dX0_search_6 w_6_91 w_3_96 w_1_18 w_3_97 (by decide) (Nat.le_of_ble_eq_true rfl) ?_
  refine x_putI X dX0_search_9 fl_0_15 ft_0_2 dsX_60 rfl ?_
  refine x_aload_n X dX0_search_12 rfl 0 rfl ?_
  refine x_iload_n X dX0_search_13 rfl 1 rfl ?_
  refine x_callVv X [.int a1] [] dX0_search_14 (kX0_takeMembers h) cm_X0_takeMembers ci_X0_takeMembers w_6_92 dsX_60 ⟨by decide, by decide⟩ rfl (Nat.le_of_ble_eq_true rfl) (fun σ14 τ14 h => ?_)
  refine x_iconst X dX0_search_17 ki_0 ?_
  refine x_istore_n X (lv' := [(3, .int 0), (0, .ref (ad 60)), (1, .int a1), (2, .int a2)]) dX0_search_18 rfl (by decide) rfl ?_
  refine x_iconst X dX0_search_19 ki_0 ?_
  refine x_istore X (lv' := [(4, .int 0), (3, .int 0), (0, .ref (ad 60)), (1, .int a1), (2, .int a2)]) dX0_search_20 (by decide) rfl ?_
  refine x_sub X [2, 1, 0] (lv' := [(0, .ref (ad 60)), (3, .int 0), (4, .int 0)]) rfl ?_
  exact x_l2_G (fun v3 v4 σ τ => V σ τ 22 [(0, .ref (ad 60)), (3, .int v3), (4, .int v4)] []) (fun K22 hK22 v3 v4 σ τ h => bX0_search_22 X hK22 h) h
theorem dX1_copy_0 : decode cX1_copy 0 = .ok (.aload_n 0, 1) := by decide +kernel
theorem dX1_copy_1 : decode cX1_copy 1 = .ok (.aload_n 1, 1) := by decide +kernel
theorem dX1_copy_2 : decode cX1_copy 2 = .ok (.getfield 9, 3) := by decide +kernel
theorem dX1_copy_5 : decode cX1_copy 5 = .ok (.putfield 9, 3) := by decide +kernel
theorem dX1_copy_8 : decode cX1_copy 8 = .ok (.aload_n 1, 1) := by decide +kernel
theorem dX1_copy_9 : decode cX1_copy 9 = .ok (.getfield 15, 3) := by decide +kernel
theorem dX1_copy_12 : decode cX1_copy 12 = .ok (.iconst 0, 1) := by decide +kernel
theorem dX1_copy_13 : decode cX1_copy 13 = .ok (.aload_n 0, 1) := by decide +kernel
theorem dX1_copy_14 : decode cX1_copy 14 = .ok (.getfield 15, 3) := by decide +kernel
theorem dX1_copy_17 : decode cX1_copy 17 = .ok (.iconst 0, 1) := by decide +kernel
theorem dX1_copy_18 : decode cX1_copy 18 = .ok (.bipush 30, 2) := by decide +kernel
theorem dX1_copy_20 : decode cX1_copy 20 = .ok (.invokestatic 46, 3) := by decide +kernel
theorem dX1_copy_23 : decode cX1_copy 23 = .ok (.aload_n 1, 1) := by decide +kernel
theorem dX1_copy_24 : decode cX1_copy 24 = .ok (.getfield 19, 3) := by decide +kernel
theorem dX1_copy_27 : decode cX1_copy 27 = .ok (.iconst 0, 1) := by decide +kernel
theorem dX1_copy_28 : decode cX1_copy 28 = .ok (.aload_n 0, 1) := by decide +kernel
theorem dX1_copy_29 : decode cX1_copy 29 = .ok (.getfield 19, 3) := by decide +kernel
theorem dX1_copy_32 : decode cX1_copy 32 = .ok (.iconst 0, 1) := by decide +kernel
theorem dX1_copy_33 : decode cX1_copy 33 = .ok (.bipush 30, 2) := by decide +kernel
theorem dX1_copy_35 : decode cX1_copy 35 = .ok (.invokestatic 46, 3) := by decide +kernel
theorem dX1_copy_38 : decode cX1_copy 38 = .ok (.aload_n 1, 1) := by decide +kernel
theorem dX1_copy_39 : decode cX1_copy 39 = .ok (.getfield 22, 3) := by decide +kernel
theorem dX1_copy_42 : decode cX1_copy 42 = .ok (.iconst 0, 1) := by decide +kernel
theorem dX1_copy_43 : decode cX1_copy 43 = .ok (.aload_n 0, 1) := by decide +kernel
theorem dX1_copy_44 : decode cX1_copy 44 = .ok (.getfield 22, 3) := by decide +kernel
theorem dX1_copy_47 : decode cX1_copy 47 = .ok (.iconst 0, 1) := by decide +kernel
theorem dX1_copy_48 : decode cX1_copy 48 = .ok (.bipush 30, 2) := by decide +kernel
theorem dX1_copy_50 : decode cX1_copy 50 = .ok (.invokestatic 46, 3) := by decide +kernel
theorem dX1_copy_53 : decode cX1_copy 53 = .ok (.aload_n 1, 1) := by decide +kernel
theorem dX1_copy_54 : decode cX1_copy 54 = .ok (.getfield 25, 3) := by decide +kernel
theorem dX1_copy_57 : decode cX1_copy 57 = .ok (.iconst 0, 1) := by decide +kernel
theorem dX1_copy_58 : decode cX1_copy 58 = .ok (.aload_n 0, 1) := by decide +kernel
theorem dX1_copy_59 : decode cX1_copy 59 = .ok (.getfield 25, 3) := by decide +kernel
theorem dX1_copy_62 : decode cX1_copy 62 = .ok (.iconst 0, 1) := by decide +kernel
theorem dX1_copy_63 : decode cX1_copy 63 = .ok (.bipush 30, 2) := by decide +kernel
theorem dX1_copy_65 : decode cX1_copy 65 = .ok (.invokestatic 46, 3) := by decide +kernel
theorem dX1_copy_68 : decode cX1_copy 68 = .ok (.aload_n 0, 1) := by decide +kernel
theorem dX1_copy_69 : decode cX1_copy 69 = .ok (.aload_n 1, 1) := by decide +kernel
theorem dX1_copy_70 : decode cX1_copy 70 = .ok (.getfield 28, 3) := by decide +kernel
theorem dX1_copy_73 : decode cX1_copy 73 = .ok (.putfield 28, 3) := by decide +kernel
theorem dX1_copy_76 : decode cX1_copy 76 = .ok (.aload_n 1, 1) := by decide +kernel
theorem dX1_copy_77 : decode cX1_copy 77 = .ok (.getfield 31, 3) := by decide +kernel
theorem dX1_copy_80 : decode cX1_copy 80 = .ok (.iconst 0, 1) := by decide +kernel
theorem dX1_copy_81 : decode cX1_copy 81 = .ok (.aload_n 0, 1) := by decide +kernel
theorem dX1_copy_82 : decode cX1_copy 82 = .ok (.getfield 31, 3) := by decide +kernel
theorem dX1_copy_85 : decode cX1_copy 85 = .ok (.iconst 0, 1) := by decide +kernel
theorem dX1_copy_86 : decode cX1_copy 86 = .ok (.bipush 12, 2) := by decide +kernel
theorem dX1_copy_88 : decode cX1_copy 88 = .ok (.invokestatic 46, 3) := by decide +kernel
theorem dX1_copy_91 : decode cX1_copy 91 = .ok (.aload_n 1, 1) := by decide +kernel
theorem dX1_copy_92 : decode cX1_copy 92 = .ok (.getfield 34, 3) := by decide +kernel
theorem dX1_copy_95 : decode cX1_copy 95 = .ok (.iconst 0, 1) := by decide +kernel
theorem dX1_copy_96 : decode cX1_copy 96 = .ok (.aload_n 0, 1) := by decide +kernel
theorem dX1_copy_97 : decode cX1_copy 97 = .ok (.getfield 34, 3) := by decide +kernel
theorem dX1_copy_100 : decode cX1_copy 100 = .ok (.iconst 0, 1) := by decide +kernel
theorem dX1_copy_101 : decode cX1_copy 101 = .ok (.bipush 12, 2) := by decide +kernel
theorem dX1_copy_103 : decode cX1_copy 103 = .ok (.invokestatic 46, 3) := by decide +kernel
theorem dX1_copy_106 : decode cX1_copy 106 = .ok (.aload_n 1, 1) := by decide +kernel
theorem dX1_copy_107 : decode cX1_copy 107 = .ok (.getfield 37, 3) := by decide +kernel
theorem dX1_copy_110 : decode cX1_copy 110 = .ok (.iconst 0, 1) := by decide +kernel
theorem dX1_copy_111 : decode cX1_copy 111 = .ok (.aload_n 0, 1) := by decide +kernel
theorem dX1_copy_112 : decode cX1_copy 112 = .ok (.getfield 37, 3) := by decide +kernel
theorem dX1_copy_115 : decode cX1_copy 115 = .ok (.iconst 0, 1) := by decide +kernel
theorem dX1_copy_116 : decode cX1_copy 116 = .ok (.bipush 12, 2) := by decide +kernel
theorem dX1_copy_118 : decode cX1_copy 118 = .ok (.invokestatic 46, 3) := by decide +kernel
theorem dX1_copy_121 : decode cX1_copy 121 = .ok (.aload_n 1, 1) := by decide +kernel
theorem dX1_copy_122 : decode cX1_copy 122 = .ok (.getfield 40, 3) := by decide +kernel
theorem dX1_copy_125 : decode cX1_copy 125 = .ok (.iconst 0, 1) := by decide +kernel
theorem dX1_copy_126 : decode cX1_copy 126 = .ok (.aload_n 0, 1) := by decide +kernel
theorem dX1_copy_127 : decode cX1_copy 127 = .ok (.getfield 40, 3) := by decide +kernel
theorem dX1_copy_130 : decode cX1_copy 130 = .ok (.iconst 0, 1) := by decide +kernel
theorem dX1_copy_131 : decode cX1_copy 131 = .ok (.bipush 12, 2) := by decide +kernel
theorem dX1_copy_133 : decode cX1_copy 133 = .ok (.invokestatic 46, 3) := by decide +kernel
theorem dX1_copy_136 : decode cX1_copy 136 = .ok (.aload_n 1, 1) := by decide +kernel
theorem dX1_copy_137 : decode cX1_copy 137 = .ok (.getfield 43, 3) := by decide +kernel
theorem dX1_copy_140 : decode cX1_copy 140 = .ok (.iconst 0, 1) := by decide +kernel
theorem dX1_copy_141 : decode cX1_copy 141 = .ok (.aload_n 0, 1) := by decide +kernel
theorem dX1_copy_142 : decode cX1_copy 142 = .ok (.getfield 43, 3) := by decide +kernel
theorem dX1_copy_145 : decode cX1_copy 145 = .ok (.iconst 0, 1) := by decide +kernel
theorem dX1_copy_146 : decode cX1_copy 146 = .ok (.bipush 120, 2) := by decide +kernel
theorem dX1_copy_148 : decode cX1_copy 148 = .ok (.invokestatic 46, 3) := by decide +kernel
theorem dX1_copy_151 : decode cX1_copy 151 = .ok (.return_, 1) := by decide +kernel
theorem cm_X1_copy : x_CM yX1_copy cX1_copy 2 (Option.none : Option Jvm.ClassFile.FieldType) 1 := ⟨w_3_65, w_1_3, by decide +kernel, by decide +kernel⟩
theorem ci_X1_copy : x_CI yX1_copy 3 := ⟨w_3_63, w_3_64, (RX1, TX1, 11), rfl, rfl⟩
set_option maxRecDepth 100000 in
set_option maxHeartbeats 4000000 in
theorem kX1_copy {ad : Nat → Nat} {σ : x_S} {τ : x_L} {Q : x_S → x_L → Prop} (h : wX1_copy σ τ Q) : x_Met yX1_copy cX1_copy 2 (Option.none : Option Jvm.ClassFile.FieldType) 2 ad dsX [.ref (ad 3), .ref (ad 14)] σ τ (x_PV Q) := by
  refine x_met (by decide +kernel) (Nat.le_of_ble_eq_true rfl) (fun V X => ?_)
  have X : x_Is V cX1_copy 2 RX1 (Option.none : Option Jvm.ClassFile.FieldType) ad dsX 2 (x_PV Q) := X
  show V σ τ 0 [(0, .ref (ad 3)), (1, .ref (ad 14))] []
  refine x_aload_n X dX1_copy_0 rfl 0 rfl ?_
  refine x_aload_n X dX1_copy_1 rfl 1 rfl ?_
  refine x_getI X dX1_copy_2 fl_1_9 dsX_14 rfl ?_
  refine x_putI X dX1_copy_5 fl_1_9 ft_1_0 dsX_3 rfl ?_
  refine x_aload_n X dX1_copy_8 rfl 1 rfl ?_
  refine x_getR X (j := 15) dX1_copy_9 fl_1_15 dsX_14 rfl ?_
  refine x_iconst X dX1_copy_12 ki_0 ?_
  refine x_aload_n X dX1_copy_13 rfl 0 rfl ?_
  refine x_getR X (j := 4) dX1_copy_14 fl_1_15 dsX_3 rfl ?_
  refine x_iconst X dX1_copy_17 ki_0 ?_
  refine x_bipush X dX1_copy_18 kb_30 ?_
  refine x_copy X dX1_copy_20 w_3_66 w_3_68 w_3_67 w_1_17 dsX_15 dsX_4 (by decide) (Nat.le_of_ble_eq_true rfl) (by decide) ?_
  refine x_aload_n X dX1_copy_23 rfl 1 rfl ?_
  refine x_getR X (j := 16) dX1_copy_24 fl_1_19 dsX_14 rfl ?_
  refine x_iconst X dX1_copy_27 ki_0 ?_
  refine x_aload_n X dX1_copy_28 rfl 0 rfl ?_
  refine x_getR X (j := 5) dX1_copy_29 fl_1_19 dsX_3 rfl ?_
  refine x_iconst X dX1_copy_32 ki_0 ?_
  refine x_bipush X dX1_copy_33 kb_30 ?_
  refine x_copy X dX1_copy_35 w_3_66 w_3_68 w_3_67 w_1_17 dsX_16 dsX_5 (by decide) (Nat.le_of_ble_eq_true rfl) (by decide) ?_
  refine x_aload_n X dX1_copy_38 rfl 1 rfl ?_
  refine x_getR X (j := 17) dX1_copy_39 fl_1_22 dsX_14 rfl ?_
  refine x_iconst X dX1_copy_42 ki_0 ?_
  refine x_aload_n X dX1_copy_43 rfl 0 rfl ?_
  refine x_getR X (j := 6) dX1_copy_44 fl_1_22 dsX_3 rfl ?_
  refine x_iconst X dX1_copy_47 ki_0 ?_
  refine x_bipush X dX1_copy_48 kb_30 ?_
  refine x_copy X dX1_copy_50 w_3_66 w_3_68 w_3_67 w_1_17 dsX_17 dsX_6 (by decide) (Nat.le_of_ble_eq_true rfl) (by decide) ?_
  refine x_aload_n X dX1_copy_53 rfl 1 rfl ?_
  refine x_getR X (j := 18) dX1_copy_54 fl_1_25 dsX_14 rfl ?_
  refine x_iconst X dX1_copy_57 ki_0 ?_
  refine x_aload_n X dX1_copy_58 rfl 0 rfl ?_
  refine x_getR X (j := 7) dX1_copy_59 fl_1_25 dsX_3 rfl ?_
  refine x_iconst X dX1_copy_62 ki_0 ?_
  refine x_bipush X dX1_copy_63 kb_30 ?_
  refine x_copy X dX1_copy_65 w_3_66 w_3_68 w_3_67 w_1_17 dsX_18 dsX_7 (by decide) (Nat.le_of_ble_eq_true rfl) (by decide) ?_
  refine x_aload_n X dX1_copy_68 rfl 0 rfl ?_
  refine x_aload_n X dX1_copy_69 rfl 1 rfl ?_
  refine x_getI X dX1_copy_70 fl_1_28 dsX_14 rfl ?_
  refine x_putI X dX1_copy_73 fl_1_28 ft_1_5 dsX_3 rfl ?_
  refine x_aload_n X dX1_copy_76 rfl 1 rfl ?_
  refine x_getR X (j := 19) dX1_copy_77 fl_1_31 dsX_14 rfl ?_
  refine x_iconst X dX1_copy_80 ki_0 ?_
  refine x_aload_n X dX1_copy_81 rfl 0 rfl ?_
  refine x_getR X (j := 8) dX1_copy_82 fl_1_31 dsX_3 rfl ?_
  refine x_iconst X dX1_copy_85 ki_0 ?_
  refine x_bipush X dX1_copy_86 kb_12 ?_
  refine x_copy X dX1_copy_88 w_3_66 w_3_68 w_3_67 w_1_17 dsX_19 dsX_8 (by decide) (Nat.le_of_ble_eq_true rfl) (by decide) ?_
  refine x_aload_n X dX1_copy_91 rfl 1 rfl ?_
  refine x_getR X (j := 20) dX1_copy_92 fl_1_34 dsX_14 rfl ?_
  refine x_iconst X dX1_copy_95 ki_0 ?_
  refine x_aload_n X dX1_copy_96 rfl 0 rfl ?_
  refine x_getR X (j := 9) dX1_copy_97 fl_1_34 dsX_3 rfl ?_
  refine x_iconst X dX1_copy_100 ki_0 ?_
  refine x_bipush X dX1_copy_101 kb_12 ?_
  refine x_copy X dX1_copy_103 w_3_66 w_3_68 w_3_67 w_1_17 dsX_20 dsX_9 (by decide) (Nat.le_of_ble_eq_true rfl) (by decide) ?_
  refine x_aload_n X dX1_copy_106 rfl 1 rfl ?_
  refine x_getR X (j := 21) dX1_copy_107 fl_1_37 dsX_14 rfl ?_
  refine x_iconst X dX1_copy_110 ki_0 ?_
  refine x_aload_n X dX1_copy_111 rfl 0 rfl ?_
  refine x_getR X (j := 10) dX1_copy_112 fl_1_37 dsX_3 rfl ?_
  refine x_iconst X dX1_copy_115 ki_0 ?_
  refine x_bipush X dX1_copy_116 kb_12 ?_
  refine x_copy X dX1_copy_118 w_3_66 w_3_68 w_3_67 w_1_17 dsX_21 dsX_10 (by decide) (Nat.le_of_ble_eq_true rfl) (by decide) ?_
  refine x_aload_n X dX1_copy_121 rfl 1 rfl ?_
  refine x_getR X (j := 22) dX1_copy_122 fl_1_40 dsX_14 rfl ?_
  refine x_iconst X dX1_copy_125 ki_0 ?_
  refine x_aload_n X dX1_copy_126 rfl 0 rfl ?_
  refine x_getR X (j := 11) dX1_copy_127 fl_1_40 dsX_3 rfl ?_
  refine x_iconst X dX1_copy_130 ki_0 ?_
  refine x_bipush X dX1_copy_131 kb_12 ?_
  refine x_copy X dX1_copy_133 w_3_66 w_3_68 w_3_67 w_1_17 dsX_22 dsX_11 (by decide) (Nat.le_of_ble_eq_true rfl) (by decide) ?_
  refine x_aload_n X dX1_copy_136 rfl 1 rfl ?_
  refine x_getR X (j := 23) dX1_copy_137 fl_1_43 dsX_14 rfl ?_
  refine x_iconst X dX1_copy_140 ki_0 ?_
  refine x_aload_n X dX1_copy_141 rfl 0 rfl ?_
  refine x_getR X (j := 12) dX1_copy_142 fl_1_43 dsX_3 rfl ?_
  refine x_iconst X dX1_copy_145 ki_0 ?_
  refine x_bipush X dX1_copy_146 kb_120 ?_
  refine x_copy X dX1_copy_148 w_3_66 w_3_68 w_3_67 w_1_17 dsX_23 dsX_12 (by decide) (Nat.le_of_ble_eq_true rfl) (by decide) ?_
  exact x_vret X dX1_copy_151 ⟨rfl, h⟩
theorem dX1_hasRoad_0 : decode cX1_hasRoad 0 = .ok (.iload_n 1, 1) := by decide +kernel
theorem dX1_hasRoad_1 : decode cX1_hasRoad 1 = .ok (.ifCond .lt 15, 3) := by decide +kernel
theorem dX1_hasRoad_4 : decode cX1_hasRoad 4 = .ok (.iload_n 1, 1) := by decide +kernel
theorem dX1_hasRoad_5 : decode cX1_hasRoad 5 = .ok (.aload_n 0, 1) := by decide +kernel
theorem dX1_hasRoad_6 : decode cX1_hasRoad 6 = .ok (.getfield 9, 3) := by decide +kernel
theorem dX1_hasRoad_9 : decode cX1_hasRoad 9 = .ok (.if_icmp .ge 7, 3) := by decide +kernel
theorem dX1_hasRoad_12 : decode cX1_hasRoad 12 = .ok (.iconst 1, 1) := by decide +kernel
theorem dX1_hasRoad_13 : decode cX1_hasRoad 13 = .ok (.goto 4, 3) := by decide +kernel
theorem dX1_hasRoad_16 : decode cX1_hasRoad 16 = .ok (.iconst 0, 1) := by decide +kernel
theorem dX1_hasRoad_17 : decode cX1_hasRoad 17 = .ok (.ireturn, 1) := by decide +kernel
theorem cm_X1_hasRoad : x_CM yX1_hasRoad cX1_hasRoad 2 (Option.some FieldType.boolean) 1 := ⟨w_5_28, w_1_3, by decide +kernel, by decide +kernel⟩
theorem ci_X1_hasRoad : x_CI yX1_hasRoad 3 := ⟨w_5_26, w_5_27, (RX1, TX1, 11), rfl, rfl⟩
set_option maxRecDepth 100000 in
set_option maxHeartbeats 4000000 in
theorem bX1_hasRoad_17 {V : x_J} {ad : Nat → Nat} {Q : Int32 → x_S → x_L → Prop} (X : x_Is V cX1_hasRoad 2 RX1 (Option.some FieldType.boolean) ad dsX 0 (x_PI Q)) {s0 : Int32} {σ : x_S} {τ : x_L} (h : wX1_hasRoad_17 Q s0 σ τ) : V σ τ 17 [] [.int s0] := by
  exact x_zret X dX1_hasRoad_17 ⟨h.1, _, rfl, h.2⟩
set_option maxRecDepth 100000 in
set_option maxHeartbeats 4000000 in
theorem bX1_hasRoad_16 {V : x_J} {ad : Nat → Nat} {Q : Int32 → x_S → x_L → Prop} (X : x_Is V cX1_hasRoad 2 RX1 (Option.some FieldType.boolean) ad dsX 0 (x_PI Q)) {σ : x_S} {τ : x_L} (h : wX1_hasRoad_16 Q σ τ) : V σ τ 16 [] [] := by
  refine x_iconst X dX1_hasRoad_16 ki_0 ?_
  exact bX1_hasRoad_17 X h
set_option maxRecDepth 100000 in
set_option maxHeartbeats 4000000 in
theorem kX1_hasRoad {ad : Nat → Nat} {a1 : Int32} {σ : x_S} {τ : x_L} {Q : Int32 → x_S → x_L → Prop} (h : wX1_hasRoad a1 σ τ Q) : x_Met yX1_hasRoad cX1_hasRoad 2 (Option.some FieldType.boolean) 0 ad dsX [.ref (ad 3), .int a1] σ τ (x_PI Q) := by
  refine x_met (by decide +kernel) (Nat.le_of_ble_eq_true rfl) (fun V X => ?_)
  have X : x_Is V cX1_hasRoad 2 RX1 (Option.some FieldType.boolean) ad dsX 0 (x_PI Q) := X
  show V σ τ 0 [(0, .ref (ad 3)), (1, .int a1)] []
  refine x_iload_n X dX1_hasRoad_0 rfl 1 rfl ?_
  refine x_if_lt X 16 dX1_hasRoad_1 (by decide) (fun hc => ?_) (fun hc => ?_)
  · have h := h.1 hc
    refine x_sub X [] (lv' := []) rfl ?_
    exact bX1_hasRoad_16 X h
  · have h := h.2 hc
    refine x_iload_n X dX1_hasRoad_4 rfl 1 rfl ?_
    refine x_aload_n X dX1_hasRoad_5 rfl 0 rfl ?_
    refine x_getI X dX1_hasRoad_6 fl_1_9 dsX_3 rfl ?_
    refine x_icmp_ge X 16 dX1_hasRoad_9 (by decide) (fun hc => ?_) (fun hc => ?_)
    · have h := h.1 hc
      refine x_sub X [] (lv' := []) rfl ?_
      exact bX1_hasRoad_16 X h
    · have h := h.2 hc
      refine x_iconst X dX1_hasRoad_12 ki_1 ?_
      refine x_goto X (tgt := 17) dX1_hasRoad_13 (by decide) ?_
      refine x_sub X [] (lv' := []) rfl ?_
      exact bX1_hasRoad_17 X h
theorem dX1_hasTruck_0 : decode cX1_hasTruck 0 = .ok (.iload_n 1, 1) := by decide +kernel
theorem dX1_hasTruck_1 : decode cX1_hasTruck 1 = .ok (.ifCond .lt 15, 3) := by decide +kernel
theorem dX1_hasTruck_4 : decode cX1_hasTruck 4 = .ok (.iload_n 1, 1) := by decide +kernel
theorem dX1_hasTruck_5 : decode cX1_hasTruck 5 = .ok (.aload_n 0, 1) := by decide +kernel
theorem dX1_hasTruck_6 : decode cX1_hasTruck 6 = .ok (.getfield 28, 3) := by decide +kernel
theorem dX1_hasTruck_9 : decode cX1_hasTruck 9 = .ok (.if_icmp .ge 7, 3) := by decide +kernel
theorem dX1_hasTruck_12 : decode cX1_hasTruck 12 = .ok (.iconst 1, 1) := by decide +kernel
theorem dX1_hasTruck_13 : decode cX1_hasTruck 13 = .ok (.goto 4, 3) := by decide +kernel
theorem dX1_hasTruck_16 : decode cX1_hasTruck 16 = .ok (.iconst 0, 1) := by decide +kernel
theorem dX1_hasTruck_17 : decode cX1_hasTruck 17 = .ok (.ireturn, 1) := by decide +kernel
theorem cm_X1_hasTruck : x_CM yX1_hasTruck cX1_hasTruck 2 (Option.some FieldType.boolean) 1 := ⟨w_4_97, w_1_3, by decide +kernel, by decide +kernel⟩
theorem ci_X1_hasTruck : x_CI yX1_hasTruck 3 := ⟨w_4_95, w_4_96, (RX1, TX1, 11), rfl, rfl⟩
set_option maxRecDepth 100000 in
set_option maxHeartbeats 4000000 in
theorem bX1_hasTruck_17 {V : x_J} {ad : Nat → Nat} {Q : Int32 → x_S → x_L → Prop} (X : x_Is V cX1_hasTruck 2 RX1 (Option.some FieldType.boolean) ad dsX 0 (x_PI Q)) {s0 : Int32} {σ : x_S} {τ : x_L} (h : wX1_hasTruck_17 Q s0 σ τ) : V σ τ 17 [] [.int s0] := by
  exact x_zret X dX1_hasTruck_17 ⟨h.1, _, rfl, h.2⟩
set_option maxRecDepth 100000 in
set_option maxHeartbeats 4000000 in
theorem bX1_hasTruck_16 {V : x_J} {ad : Nat → Nat} {Q : Int32 → x_S → x_L → Prop} (X : x_Is V cX1_hasTruck 2 RX1 (Option.some FieldType.boolean) ad dsX 0 (x_PI Q)) {σ : x_S} {τ : x_L} (h : wX1_hasTruck_16 Q σ τ) : V σ τ 16 [] [] := by
  refine x_iconst X dX1_hasTruck_16 ki_0 ?_
  exact bX1_hasTruck_17 X h
set_option maxRecDepth 100000 in
set_option maxHeartbeats 4000000 in
theorem kX1_hasTruck {ad : Nat → Nat} {a1 : Int32} {σ : x_S} {τ : x_L} {Q : Int32 → x_S → x_L → Prop} (h : wX1_hasTruck a1 σ τ Q) : x_Met yX1_hasTruck cX1_hasTruck 2 (Option.some FieldType.boolean) 0 ad dsX [.ref (ad 3), .int a1] σ τ (x_PI Q) := by
  refine x_met (by decide +kernel) (Nat.le_of_ble_eq_true rfl) (fun V X => ?_)
  have X : x_Is V cX1_hasTruck 2 RX1 (Option.some FieldType.boolean) ad dsX 0 (x_PI Q) := X
  show V σ τ 0 [(0, .ref (ad 3)), (1, .int a1)] []
  refine x_iload_n X dX1_hasTruck_0 rfl 1 rfl ?_
  refine x_if_lt X 16 dX1_hasTruck_1 (by decide) (fun hc => ?_) (fun hc => ?_)
  · have h := h.1 hc
    refine x_sub X [] (lv' := []) rfl ?_
    exact bX1_hasTruck_16 X h
  · have h := h.2 hc
    refine x_iload_n X dX1_hasTruck_4 rfl 1 rfl ?_
    refine x_aload_n X dX1_hasTruck_5 rfl 0 rfl ?_
    refine x_getI X dX1_hasTruck_6 fl_1_28 dsX_3 rfl ?_
    refine x_icmp_ge X 16 dX1_hasTruck_9 (by decide) (fun hc => ?_) (fun hc => ?_)
    · have h := h.1 hc
      refine x_sub X [] (lv' := []) rfl ?_
      exact bX1_hasTruck_16 X h
    · have h := h.2 hc
      refine x_iconst X dX1_hasTruck_12 ki_1 ?_
      refine x_goto X (tgt := 17) dX1_hasTruck_13 (by decide) ?_
      refine x_sub X [] (lv' := []) rfl ?_
      exact bX1_hasTruck_17 X h
theorem dX1_hasPlace_0 : decode cX1_hasPlace 0 = .ok (.aload_n 0, 1) := by decide +kernel
theorem dX1_hasPlace_1 : decode cX1_hasPlace 1 = .ok (.iload_n 1, 1) := by decide +kernel
theorem dX1_hasPlace_2 : decode cX1_hasPlace 2 = .ok (.invokevirtual 52, 3) := by decide +kernel
theorem dX1_hasPlace_5 : decode cX1_hasPlace 5 = .ok (.ifCond .eq 21, 3) := by decide +kernel
theorem dX1_hasPlace_8 : decode cX1_hasPlace 8 = .ok (.iload_n 2, 1) := by decide +kernel
theorem dX1_hasPlace_9 : decode cX1_hasPlace 9 = .ok (.ifCond .lt 17, 3) := by decide +kernel
theorem dX1_hasPlace_12 : decode cX1_hasPlace 12 = .ok (.iload_n 2, 1) := by decide +kernel
theorem dX1_hasPlace_13 : decode cX1_hasPlace 13 = .ok (.aload_n 0, 1) := by decide +kernel
theorem dX1_hasPlace_14 : decode cX1_hasPlace 14 = .ok (.getfield 40, 3) := by decide +kernel
theorem dX1_hasPlace_17 : decode cX1_hasPlace 17 = .ok (.iload_n 1, 1) := by decide +kernel
theorem dX1_hasPlace_18 : decode cX1_hasPlace 18 = .ok (.iaload, 1) := by decide +kernel
theorem dX1_hasPlace_19 : decode cX1_hasPlace 19 = .ok (.if_icmp .ge 7, 3) := by decide +kernel
theorem dX1_hasPlace_22 : decode cX1_hasPlace 22 = .ok (.iconst 1, 1) := by decide +kernel
theorem dX1_hasPlace_23 : decode cX1_hasPlace 23 = .ok (.goto 4, 3) := by decide +kernel
theorem dX1_hasPlace_26 : decode cX1_hasPlace 26 = .ok (.iconst 0, 1) := by decide +kernel
theorem dX1_hasPlace_27 : decode cX1_hasPlace 27 = .ok (.ireturn, 1) := by decide +kernel
theorem cm_X1_hasPlace : x_CM yX1_hasPlace cX1_hasPlace 3 (Option.some FieldType.boolean) 2 := ⟨w_4_105, w_1_3, by decide +kernel, by decide +kernel⟩
theorem ci_X1_hasPlace : x_CI yX1_hasPlace 3 := ⟨w_4_103, w_4_104, (RX1, TX1, 11), rfl, rfl⟩
set_option maxRecDepth 100000 in
set_option maxHeartbeats 4000000 in
theorem bX1_hasPlace_27 {V : x_J} {ad : Nat → Nat} {Q : Int32 → x_S → x_L → Prop} (X : x_Is V cX1_hasPlace 3 RX1 (Option.some FieldType.boolean) ad dsX 1 (x_PI Q)) {s0 : Int32} {σ : x_S} {τ : x_L} (h : wX1_hasPlace_27 Q s0 σ τ) : V σ τ 27 [] [.int s0] := by
  exact x_zret X dX1_hasPlace_27 ⟨h.1, _, rfl, h.2⟩
set_option maxRecDepth 100000 in
set_option maxHeartbeats 4000000 in
theorem bX1_hasPlace_26 {V : x_J} {ad : Nat → Nat} {Q : Int32 → x_S → x_L → Prop} (X : x_Is V cX1_hasPlace 3 RX1 (Option.some FieldType.boolean) ad dsX 1 (x_PI Q)) {σ : x_S} {τ : x_L} (h : wX1_hasPlace_26 Q σ τ) : V σ τ 26 [] [] := by
  refine x_iconst X dX1_hasPlace_26 ki_0 ?_
  exact bX1_hasPlace_27 X h
set_option maxRecDepth 100000 in
set_option maxHeartbeats 4000000 in
theorem kX1_hasPlace {ad : Nat → Nat} {a1 : Int32} {a2 : Int32} {σ : x_S} {τ : x_L} {Q : Int32 → x_S → x_L → Prop} (h : wX1_hasPlace a1 a2 σ τ Q) : x_Met yX1_hasPlace cX1_hasPlace 3 (Option.some FieldType.boolean) 1 ad dsX [.ref (ad 3), .int a1, .int a2] σ τ (x_PI Q) := by
  refine x_met (by decide +kernel) (Nat.le_of_ble_eq_true rfl) (fun V X => ?_)
  have X : x_Is V cX1_hasPlace 3 RX1 (Option.some FieldType.boolean) ad dsX 1 (x_PI Q) := X
  show V σ τ 0 [(0, .ref (ad 3)), (1, .int a1), (2, .int a2)] []
  refine x_aload_n X dX1_hasPlace_0 rfl 0 rfl ?_
  refine x_iload_n X dX1_hasPlace_1 rfl 1 rfl ?_
  refine x_callVi X [.int a1] [] dX1_hasPlace_2 (kX1_hasTruck h) cm_X1_hasTruck ci_X1_hasTruck w_4_106 dsX_3 ⟨by decide, by decide⟩ rfl (Nat.le_of_ble_eq_true rfl) (fun r2 σ2 τ2 h => ?_)
  refine x_if_eq X 26 dX1_hasPlace_5 (by decide) (fun hc => ?_) (fun hc => ?_)
  · have h := h.1 hc
    refine x_sub X [] (lv' := []) rfl ?_
    exact bX1_hasPlace_26 X h
  · have h := h.2 hc
    refine x_iload_n X dX1_hasPlace_8 rfl 2 rfl ?_
    refine x_if_lt X 26 dX1_hasPlace_9 (by decide) (fun hc => ?_) (fun hc => ?_)
    · have h := h.1 hc
      refine x_sub X [] (lv' := []) rfl ?_
      exact bX1_hasPlace_26 X h
    · have h := h.2 hc
      refine x_iload_n X dX1_hasPlace_12 rfl 2 rfl ?_
      refine x_aload_n X dX1_hasPlace_13 rfl 0 rfl ?_
      refine x_getR X (j := 11) dX1_hasPlace_14 fl_1_40 dsX_3 rfl ?_
      refine x_iload_n X dX1_hasPlace_17 rfl 1 rfl ?_
      have g18 := h.1
      have h := h.2
      refine x_iald X dX1_hasPlace_18 dsX_11 g18 ?_
      refine x_icmp_ge X 26 dX1_hasPlace_19 (by decide) (fun hc => ?_) (fun hc => ?_)
      · have h := h.1 hc
        refine x_sub X [] (lv' := []) rfl ?_
        exact bX1_hasPlace_26 X h
      · have h := h.2 hc
        refine x_iconst X dX1_hasPlace_22 ki_1 ?_
        refine x_goto X (tgt := 27) dX1_hasPlace_23 (by decide) ?_
        refine x_sub X [] (lv' := []) rfl ?_
        exact bX1_hasPlace_27 X h
theorem dX1_minutes_0 : decode cX1_minutes 0 = .ok (.iload_n 2, 1) := by decide +kernel
theorem dX1_minutes_1 : decode cX1_minutes 1 = .ok (.iconst 1, 1) := by decide +kernel
theorem dX1_minutes_2 : decode cX1_minutes 2 = .ok (.if_icmp .ge 7, 3) := by decide +kernel
theorem dX1_minutes_5 : decode cX1_minutes 5 = .ok (.iconst 0, 1) := by decide +kernel
theorem dX1_minutes_6 : decode cX1_minutes 6 = .ok (.goto 18, 3) := by decide +kernel
theorem dX1_minutes_9 : decode cX1_minutes 9 = .ok (.aload_n 0, 1) := by decide +kernel
theorem dX1_minutes_10 : decode cX1_minutes 10 = .ok (.getfield 22, 3) := by decide +kernel
theorem dX1_minutes_13 : decode cX1_minutes 13 = .ok (.iload_n 1, 1) := by decide +kernel
theorem dX1_minutes_14 : decode cX1_minutes 14 = .ok (.iaload, 1) := by decide +kernel
theorem dX1_minutes_15 : decode cX1_minutes 15 = .ok (.bipush 60, 2) := by decide +kernel
theorem dX1_minutes_17 : decode cX1_minutes 17 = .ok (.imul, 1) := by decide +kernel
theorem dX1_minutes_18 : decode cX1_minutes 18 = .ok (.iload_n 2, 1) := by decide +kernel
theorem dX1_minutes_19 : decode cX1_minutes 19 = .ok (.iadd, 1) := by decide +kernel
theorem dX1_minutes_20 : decode cX1_minutes 20 = .ok (.iconst 1, 1) := by decide +kernel
theorem dX1_minutes_21 : decode cX1_minutes 21 = .ok (.isub, 1) := by decide +kernel
theorem dX1_minutes_22 : decode cX1_minutes 22 = .ok (.iload_n 2, 1) := by decide +kernel
theorem dX1_minutes_23 : decode cX1_minutes 23 = .ok (.idiv, 1) := by decide +kernel
theorem dX1_minutes_24 : decode cX1_minutes 24 = .ok (.ireturn, 1) := by decide +kernel
theorem cm_X1_minutes : x_CM yX1_minutes cX1_minutes 3 (Option.some FieldType.int) 2 := ⟨w_3_109, w_1_3, by decide +kernel, by decide +kernel⟩
theorem ci_X1_minutes : x_CI yX1_minutes 3 := ⟨w_3_107, w_3_108, (RX1, TX1, 11), rfl, rfl⟩
set_option maxRecDepth 100000 in
set_option maxHeartbeats 4000000 in
theorem bX1_minutes_24 {V : x_J} {ad : Nat → Nat} {Q : Int32 → x_S → x_L → Prop} (X : x_Is V cX1_minutes 3 RX1 (Option.some FieldType.int) ad dsX 0 (x_PI Q)) {s0 : Int32} {σ : x_S} {τ : x_L} (h : wX1_minutes_24 Q s0 σ τ) : V σ τ 24 [] [.int s0] := by
  exact x_iret X dX1_minutes_24 ⟨_, rfl, h⟩
set_option maxRecDepth 100000 in
set_option maxHeartbeats 4000000 in
theorem kX1_minutes {ad : Nat → Nat} {a1 : Int32} {a2 : Int32} {σ : x_S} {τ : x_L} {Q : Int32 → x_S → x_L → Prop} (h : wX1_minutes a1 a2 σ τ Q) : x_Met yX1_minutes cX1_minutes 3 (Option.some FieldType.int) 0 ad dsX [.ref (ad 3), .int a1, .int a2] σ τ (x_PI Q) := by
  refine x_met (by decide +kernel) (Nat.le_of_ble_eq_true rfl) (fun V X => ?_)
  have X : x_Is V cX1_minutes 3 RX1 (Option.some FieldType.int) ad dsX 0 (x_PI Q) := X
  show V σ τ 0 [(0, .ref (ad 3)), (1, .int a1), (2, .int a2)] []
  refine x_iload_n X dX1_minutes_0 rfl 2 rfl ?_
  refine x_iconst X dX1_minutes_1 ki_1 ?_
  refine x_icmp_ge X 9 dX1_minutes_2 (by decide) (fun hc => ?_) (fun hc => ?_)
  · have h := h.1 hc
    refine x_aload_n X dX1_minutes_9 rfl 0 rfl ?_
    refine x_getR X (j := 6) dX1_minutes_10 fl_1_22 dsX_3 rfl ?_
    refine x_iload_n X dX1_minutes_13 rfl 1 rfl ?_
    have g14 := h.1
    have h := h.2
    refine x_iald X dX1_minutes_14 dsX_6 g14 ?_
    refine x_bipush X dX1_minutes_15 kb_60 ?_
    refine x_imul X dX1_minutes_17 ?_
    refine x_iload_n X dX1_minutes_18 rfl 2 rfl ?_
    refine x_iadd X dX1_minutes_19 ?_
    refine x_iconst X dX1_minutes_20 ki_1 ?_
    refine x_isub X dX1_minutes_21 ?_
    refine x_iload_n X dX1_minutes_22 rfl 2 rfl ?_
    refine x_idiv X dX1_minutes_23 h.1 ?_
    have h := h.2
    refine x_sub X [] (lv' := []) rfl ?_
    exact bX1_minutes_24 X h
  · have h := h.2 hc
    refine x_iconst X dX1_minutes_5 ki_0 ?_
    refine x_goto X (tgt := 24) dX1_minutes_6 (by decide) ?_
    refine x_sub X [] (lv' := []) rfl ?_
    exact bX1_minutes_24 X h
theorem dX10_stopAt_0 : decode cX10_stopAt 0 = .ok (.iload_n 0, 1) := by decide +kernel
theorem dX10_stopAt_1 : decode cX10_stopAt 1 = .ok (.bipush 10, 2) := by decide +kernel
theorem dX10_stopAt_3 : decode cX10_stopAt 3 = .ok (.imul, 1) := by decide +kernel
theorem dX10_stopAt_4 : decode cX10_stopAt 4 = .ok (.iload_n 1, 1) := by decide +kernel
theorem dX10_stopAt_5 : decode cX10_stopAt 5 = .ok (.iadd, 1) := by decide +kernel
theorem dX10_stopAt_6 : decode cX10_stopAt 6 = .ok (.ireturn, 1) := by decide +kernel
theorem cm_X10_stopAt : x_CM yX10_stopAt cX10_stopAt 2 (Option.some FieldType.int) 2 := ⟨w_3_61, w_1_1, by decide +kernel, by decide +kernel⟩
set_option maxRecDepth 100000 in
set_option maxHeartbeats 4000000 in
theorem kX10_stopAt {ad : Nat → Nat} {a0 : Int32} {a1 : Int32} {σ : x_S} {τ : x_L} {Q : Int32 → x_S → x_L → Prop} (h : wX10_stopAt a0 a1 σ τ Q) : x_Met yX10_stopAt cX10_stopAt 2 (Option.some FieldType.int) 0 ad dsX [.int a0, .int a1] σ τ (x_PI Q) := by
  refine x_met (by decide +kernel) (Nat.le_of_ble_eq_true rfl) (fun V X => ?_)
  have X : x_Is V cX10_stopAt 2 RX10 (Option.some FieldType.int) ad dsX 0 (x_PI Q) := X
  show V σ τ 0 [(0, .int a0), (1, .int a1)] []
  refine x_iload_n X dX10_stopAt_0 rfl 0 rfl ?_
  refine x_bipush X dX10_stopAt_1 kb_10 ?_
  refine x_imul X dX10_stopAt_3 ?_
  refine x_iload_n X dX10_stopAt_4 rfl 1 rfl ?_
  refine x_iadd X dX10_stopAt_5 ?_
  exact x_iret X dX10_stopAt_6 ⟨_, rfl, h⟩
theorem dX1_kilometers_0 : decode cX1_kilometers 0 = .ok (.iconst 0, 1) := by decide +kernel
theorem dX1_kilometers_1 : decode cX1_kilometers 1 = .ok (.istore_n 2, 1) := by decide +kernel
theorem dX1_kilometers_2 : decode cX1_kilometers 2 = .ok (.iconst 0, 1) := by decide +kernel
theorem dX1_kilometers_3 : decode cX1_kilometers 3 = .ok (.istore_n 3, 1) := by decide +kernel
theorem dX1_kilometers_4 : decode cX1_kilometers 4 = .ok (.iload_n 3, 1) := by decide +kernel
theorem dX1_kilometers_5 : decode cX1_kilometers 5 = .ok (.aload_n 0, 1) := by decide +kernel
theorem dX1_kilometers_6 : decode cX1_kilometers 6 = .ok (.getfield 40, 3) := by decide +kernel
theorem dX1_kilometers_9 : decode cX1_kilometers 9 = .ok (.iload_n 1, 1) := by decide +kernel
theorem dX1_kilometers_10 : decode cX1_kilometers 10 = .ok (.iaload, 1) := by decide +kernel
theorem dX1_kilometers_11 : decode cX1_kilometers 11 = .ok (.if_icmp .ge 27, 3) := by decide +kernel
theorem dX1_kilometers_14 : decode cX1_kilometers 14 = .ok (.iload_n 2, 1) := by decide +kernel
theorem dX1_kilometers_15 : decode cX1_kilometers 15 = .ok (.aload_n 0, 1) := by decide +kernel
theorem dX1_kilometers_16 : decode cX1_kilometers 16 = .ok (.getfield 22, 3) := by decide +kernel
theorem dX1_kilometers_19 : decode cX1_kilometers 19 = .ok (.aload_n 0, 1) := by decide +kernel
theorem dX1_kilometers_20 : decode cX1_kilometers 20 = .ok (.getfield 43, 3) := by decide +kernel
theorem dX1_kilometers_23 : decode cX1_kilometers 23 = .ok (.iload_n 1, 1) := by decide +kernel
theorem dX1_kilometers_24 : decode cX1_kilometers 24 = .ok (.iload_n 3, 1) := by decide +kernel
theorem dX1_kilometers_25 : decode cX1_kilometers 25 = .ok (.invokestatic 56, 3) := by decide +kernel
theorem dX1_kilometers_28 : decode cX1_kilometers 28 = .ok (.iaload, 1) := by decide +kernel
theorem dX1_kilometers_29 : decode cX1_kilometers 29 = .ok (.iaload, 1) := by decide +kernel
theorem dX1_kilometers_30 : decode cX1_kilometers 30 = .ok (.iadd, 1) := by decide +kernel
theorem dX1_kilometers_31 : decode cX1_kilometers 31 = .ok (.istore_n 2, 1) := by decide +kernel
theorem dX1_kilometers_32 : decode cX1_kilometers 32 = .ok (.iinc 3 1, 3) := by decide +kernel
theorem dX1_kilometers_35 : decode cX1_kilometers 35 = .ok (.goto (-31), 3) := by decide +kernel
theorem dX1_kilometers_38 : decode cX1_kilometers 38 = .ok (.iload_n 2, 1) := by decide +kernel
theorem dX1_kilometers_39 : decode cX1_kilometers 39 = .ok (.ireturn, 1) := by decide +kernel
theorem cm_X1_kilometers : x_CM yX1_kilometers cX1_kilometers 4 (Option.some FieldType.int) 1 := ⟨w_5_66, w_1_3, by decide +kernel, by decide +kernel⟩
theorem ci_X1_kilometers : x_CI yX1_kilometers 3 := ⟨w_5_64, w_5_65, (RX1, TX1, 11), rfl, rfl⟩
set_option maxRecDepth 100000 in
set_option maxHeartbeats 4000000 in
theorem bX1_kilometers_4 {V : x_J} {ad : Nat → Nat} {Q : Int32 → x_S → x_L → Prop} (X : x_Is V cX1_kilometers 4 RX1 (Option.some FieldType.int) ad dsX 1 (x_PI Q)) {K4 : Int32 → Int32 → Int32 → x_S → x_L → Prop} (hK4 : ∀ v1 v2 v3 σ τ, K4 v1 v2 v3 σ τ → V σ τ 4 [(0, .ref (ad 3)), (1, .int v1), (2, .int v2), (3, .int v3)] []) {v1 : Int32} {v2 : Int32} {v3 : Int32} {σ : x_S} {τ : x_L} (h : wX1_kilometers_4 Q K4 v1 v2 v3 σ τ) : V σ τ 4 [(0, .ref (ad 3)), (1, .int v1), (2, .int v2), (3, .int v3)] [] := by
  refine x_iload_n X dX1_kilometers_4 rfl 3 rfl ?_
  refine x_aload_n X dX1_kilometers_5 rfl 0 rfl ?_
  refine x_getR X (j := 11) dX1_kilometers_6 fl_1_40 dsX_3 rfl ?_
  refine x_iload_n X dX1_kilometers_9 rfl 1 rfl ?_
  have g10 := h.1
  have h := h.2
  refine x_iald X dX1_kilometers_10 dsX_11 g10 ?_
  refine x_icmp_ge X 38 dX1_kilometers_11 (by decide) (fun hc => ?_) (fun hc => ?_)
  · have h := h.1 hc
    refine x_iload_n X dX1_kilometers_38 rfl 2 rfl ?_
    exact x_iret X dX1_kilometers_39 ⟨_, rfl, h⟩
  · have h := h.2 hc
    refine x_iload_n X dX1_kilometers_14 rfl 2 rfl ?_
    refine x_aload_n X dX1_kilometers_15 rfl 0 rfl ?_
    refine x_getR X (j := 6) dX1_kilometers_16 fl_1_22 dsX_3 rfl ?_
    refine x_aload_n X dX1_kilometers_19 rfl 0 rfl ?_
    refine x_getR X (j := 12) dX1_kilometers_20 fl_1_43 dsX_3 rfl ?_
    refine x_iload_n X dX1_kilometers_23 rfl 1 rfl ?_
    refine x_iload_n X dX1_kilometers_24 rfl 3 rfl ?_
    refine x_callSNi X [.int v1, .int v3] [.ref (ad 12), .ref (ad 6), .int v2] dX1_kilometers_25 (kX10_stopAt h) cm_X10_stopAt w_3_60 (List.mem_of_getElem? (i := 4) rfl) ⟨by decide, by decide⟩ rfl (Nat.le_of_ble_eq_true rfl) (fun r25 σ25 τ25 h => ?_)
    have g28 := h.1
    have h := h.2
    refine x_iald X dX1_kilometers_28 dsX_12 g28 ?_
    have g29 := h.1
    have h := h.2
    refine x_iald X dX1_kilometers_29 dsX_6 g29 ?_
    refine x_iadd X dX1_kilometers_30 ?_
    refine x_istore_n X (lv' := [(2, .int (v2 + (σ25 6 (σ25 12 r25.toNatClampNeg).toNatClampNeg))), (0, .ref (ad 3)), (1, .int v1), (3, .int v3)]) dX1_kilometers_31 rfl (by decide) rfl ?_
    refine x_iinc X (k := 3) (lv' := [(3, .int (v3 + 1)), (2, .int (v2 + (σ25 6 (σ25 12 r25.toNatClampNeg).toNatClampNeg))), (0, .ref (ad 3)), (1, .int v1)]) dX1_kilometers_32 rfl ki_1 (by decide) rfl ?_
    refine x_goto X (tgt := 4) dX1_kilometers_35 (by decide) ?_
    refine x_sub X [2, 3, 1, 0] (lv' := [(0, .ref (ad 3)), (1, .int v1), (2, .int (v2 + (σ25 6 (σ25 12 r25.toNatClampNeg).toNatClampNeg))), (3, .int (v3 + 1))]) rfl ?_
    exact hK4 _ _ _ _ _ h
set_option maxRecDepth 100000 in
set_option maxHeartbeats 4000000 in
theorem kX1_kilometers {ad : Nat → Nat} {a1 : Int32} {σ : x_S} {τ : x_L} {Q : Int32 → x_S → x_L → Prop} (h : wX1_kilometers a1 σ τ Q) : x_Met yX1_kilometers cX1_kilometers 4 (Option.some FieldType.int) 1 ad dsX [.ref (ad 3), .int a1] σ τ (x_PI Q) := by
  refine x_met (by decide +kernel) (Nat.le_of_ble_eq_true rfl) (fun V X => ?_)
  have X : x_Is V cX1_kilometers 4 RX1 (Option.some FieldType.int) ad dsX 1 (x_PI Q) := X
  show V σ τ 0 [(0, .ref (ad 3)), (1, .int a1)] []
  refine x_iconst X dX1_kilometers_0 ki_0 ?_
  refine x_istore_n X (lv' := [(2, .int 0), (0, .ref (ad 3)), (1, .int a1)]) dX1_kilometers_1 rfl (by decide) rfl ?_
  refine x_iconst X dX1_kilometers_2 ki_0 ?_
  refine x_istore_n X (lv' := [(3, .int 0), (2, .int 0), (0, .ref (ad 3)), (1, .int a1)]) dX1_kilometers_3 rfl (by decide) rfl ?_
  refine x_sub X [2, 3, 1, 0] (lv' := [(0, .ref (ad 3)), (1, .int a1), (2, .int 0), (3, .int 0)]) rfl ?_
  exact x_l3_G (fun v1 v2 v3 σ τ => V σ τ 4 [(0, .ref (ad 3)), (1, .int v1), (2, .int v2), (3, .int v3)] []) (fun K4 hK4 v1 v2 v3 σ τ h => bX1_kilometers_4 X hK4 h) h
theorem dX6_writeChoices_0 : decode cX6_writeChoices 0 = .ok (.aload_n 0, 1) := by decide +kernel
theorem dX6_writeChoices_1 : decode cX6_writeChoices 1 = .ok (.getfield 9, 3) := by decide +kernel
theorem dX6_writeChoices_4 : decode cX6_writeChoices 4 = .ok (.iconst 0, 1) := by decide +kernel
theorem dX6_writeChoices_5 : decode cX6_writeChoices 5 = .ok (.aload_n 1, 1) := by decide +kernel
theorem dX6_writeChoices_6 : decode cX6_writeChoices 6 = .ok (.iconst 0, 1) := by decide +kernel
theorem dX6_writeChoices_7 : decode cX6_writeChoices 7 = .ok (.bipush 12, 2) := by decide +kernel
theorem dX6_writeChoices_9 : decode cX6_writeChoices 9 = .ok (.invokestatic 66, 3) := by decide +kernel
theorem dX6_writeChoices_12 : decode cX6_writeChoices 12 = .ok (.aload_n 0, 1) := by decide +kernel
theorem dX6_writeChoices_13 : decode cX6_writeChoices 13 = .ok (.getfield 15, 3) := by decide +kernel
theorem dX6_writeChoices_16 : decode cX6_writeChoices 16 = .ok (.iconst 0, 1) := by decide +kernel
theorem dX6_writeChoices_17 : decode cX6_writeChoices 17 = .ok (.aload_n 1, 1) := by decide +kernel
theorem dX6_writeChoices_18 : decode cX6_writeChoices 18 = .ok (.bipush 12, 2) := by decide +kernel
theorem dX6_writeChoices_20 : decode cX6_writeChoices 20 = .ok (.bipush 120, 2) := by decide +kernel
theorem dX6_writeChoices_22 : decode cX6_writeChoices 22 = .ok (.invokestatic 66, 3) := by decide +kernel
theorem dX6_writeChoices_25 : decode cX6_writeChoices 25 = .ok (.aload_n 0, 1) := by decide +kernel
theorem dX6_writeChoices_26 : decode cX6_writeChoices 26 = .ok (.getfield 18, 3) := by decide +kernel
theorem dX6_writeChoices_29 : decode cX6_writeChoices 29 = .ok (.iconst 0, 1) := by decide +kernel
theorem dX6_writeChoices_30 : decode cX6_writeChoices 30 = .ok (.aload_n 1, 1) := by decide +kernel
theorem dX6_writeChoices_31 : decode cX6_writeChoices 31 = .ok (.sipush 132, 3) := by decide +kernel
theorem dX6_writeChoices_34 : decode cX6_writeChoices 34 = .ok (.bipush 120, 2) := by decide +kernel
theorem dX6_writeChoices_36 : decode cX6_writeChoices 36 = .ok (.invokestatic 66, 3) := by decide +kernel
theorem dX6_writeChoices_39 : decode cX6_writeChoices 39 = .ok (.return_, 1) := by decide +kernel
theorem cm_X6_writeChoices : x_CM yX6_writeChoices cX6_writeChoices 2 (Option.none : Option Jvm.ClassFile.FieldType) 1 := ⟨w_3_230, w_1_7, by decide +kernel, by decide +kernel⟩
theorem ci_X6_writeChoices : x_CI yX6_writeChoices 8 := ⟨w_3_228, w_3_229, (RX6, TX6, 15), rfl, rfl⟩
set_option maxRecDepth 100000 in
set_option maxHeartbeats 4000000 in
theorem kX6_writeChoices {ad : Nat → Nat} {t : Nat} {b : Nat} {bn : Nat} (ht : x_pl t) (hb : dsX[b]? = some (1, bn, [])) {σ : x_S} {τ : x_L} {Q : x_S → x_L → Prop} (h : wX6_writeChoices t b bn σ τ Q) : x_Met yX6_writeChoices cX6_writeChoices 2 (Option.none : Option Jvm.ClassFile.FieldType) 2 ad dsX [.ref (ad t), .ref (ad b)] σ τ (x_PV Q) := by
  refine x_met (by decide +kernel) (Nat.le_of_ble_eq_true rfl) (fun V X => ?_)
  have X : x_Is V cX6_writeChoices 2 RX6 (Option.none : Option Jvm.ClassFile.FieldType) ad dsX 2 (x_PV Q) := X
  show V σ τ 0 [(0, .ref (ad t)), (1, .ref (ad b))] []
  refine x_aload_n X dX6_writeChoices_0 rfl 0 rfl ?_
  refine x_getR X (j := (t + 1)) dX6_writeChoices_1 fl_6_9 (dsX_pl ht) rfl ?_
  refine x_iconst X dX6_writeChoices_4 ki_0 ?_
  refine x_aload_n X dX6_writeChoices_5 rfl 1 rfl ?_
  refine x_iconst X dX6_writeChoices_6 ki_0 ?_
  refine x_bipush X dX6_writeChoices_7 kb_12 ?_
  refine x_copy X dX6_writeChoices_9 w_3_94 w_3_68 w_3_67 w_1_17 (dsX_pl1 ht) hb (by decide) (Nat.le_of_ble_eq_true rfl) h.1 ?_
  have h := h.2
  refine x_aload_n X dX6_writeChoices_12 rfl 0 rfl ?_
  refine x_getR X (j := (t + 2)) dX6_writeChoices_13 fl_6_15 (dsX_pl ht) rfl ?_
  refine x_iconst X dX6_writeChoices_16 ki_0 ?_
  refine x_aload_n X dX6_writeChoices_17 rfl 1 rfl ?_
  refine x_bipush X dX6_writeChoices_18 kb_12 ?_
  refine x_bipush X dX6_writeChoices_20 kb_120 ?_
  refine x_copy X dX6_writeChoices_22 w_3_94 w_3_68 w_3_67 w_1_17 (dsX_pl2 ht) hb (by decide) (Nat.le_of_ble_eq_true rfl) h.1 ?_
  have h := h.2
  refine x_aload_n X dX6_writeChoices_25 rfl 0 rfl ?_
  refine x_getR X (j := (t + 3)) dX6_writeChoices_26 fl_6_18 (dsX_pl ht) rfl ?_
  refine x_iconst X dX6_writeChoices_29 ki_0 ?_
  refine x_aload_n X dX6_writeChoices_30 rfl 1 rfl ?_
  refine x_sipush X dX6_writeChoices_31 ks_132 ?_
  refine x_bipush X dX6_writeChoices_34 kb_120 ?_
  refine x_copy X dX6_writeChoices_36 w_3_94 w_3_68 w_3_67 w_1_17 (dsX_pl3 ht) hb (by decide) (Nat.le_of_ble_eq_true rfl) h.1 ?_
  have h := h.2
  exact x_vret X dX6_writeChoices_39 ⟨rfl, h⟩
theorem dX2_keep_0 : decode cX2_keep 0 = .ok (.aload_n 0, 1) := by decide +kernel
theorem dX2_keep_1 : decode cX2_keep 1 = .ok (.aload_n 0, 1) := by decide +kernel
theorem dX2_keep_2 : decode cX2_keep 2 = .ok (.getfield 16, 3) := by decide +kernel
theorem dX2_keep_5 : decode cX2_keep 5 = .ok (.iconst 1, 1) := by decide +kernel
theorem dX2_keep_6 : decode cX2_keep 6 = .ok (.iadd, 1) := by decide +kernel
theorem dX2_keep_7 : decode cX2_keep 7 = .ok (.bipush 15, 2) := by decide +kernel
theorem dX2_keep_9 : decode cX2_keep 9 = .ok (.irem, 1) := by decide +kernel
theorem dX2_keep_10 : decode cX2_keep 10 = .ok (.putfield 16, 3) := by decide +kernel
theorem dX2_keep_13 : decode cX2_keep 13 = .ok (.aload_n 1, 1) := by decide +kernel
theorem dX2_keep_14 : decode cX2_keep 14 = .ok (.aload_n 0, 1) := by decide +kernel
theorem dX2_keep_15 : decode cX2_keep 15 = .ok (.getfield 13, 3) := by decide +kernel
theorem dX2_keep_18 : decode cX2_keep 18 = .ok (.aload_n 0, 1) := by decide +kernel
theorem dX2_keep_19 : decode cX2_keep 19 = .ok (.getfield 16, 3) := by decide +kernel
theorem dX2_keep_22 : decode cX2_keep 22 = .ok (.aaload, 1) := by decide +kernel
theorem dX2_keep_23 : decode cX2_keep 23 = .ok (.invokevirtual 30, 3) := by decide +kernel
theorem dX2_keep_26 : decode cX2_keep 26 = .ok (.aload_n 0, 1) := by decide +kernel
theorem dX2_keep_27 : decode cX2_keep 27 = .ok (.aload_n 0, 1) := by decide +kernel
theorem dX2_keep_28 : decode cX2_keep 28 = .ok (.getfield 20, 3) := by decide +kernel
theorem dX2_keep_31 : decode cX2_keep 31 = .ok (.iconst 1, 1) := by decide +kernel
theorem dX2_keep_32 : decode cX2_keep 32 = .ok (.iadd, 1) := by decide +kernel
theorem dX2_keep_33 : decode cX2_keep 33 = .ok (.bipush 15, 2) := by decide +kernel
theorem dX2_keep_35 : decode cX2_keep 35 = .ok (.invokestatic 34, 3) := by decide +kernel
theorem dX2_keep_38 : decode cX2_keep 38 = .ok (.putfield 20, 3) := by decide +kernel
theorem dX2_keep_41 : decode cX2_keep 41 = .ok (.return_, 1) := by decide +kernel
theorem cm_X2_keep : x_CM yX2_keep cX2_keep 2 (Option.none : Option Jvm.ClassFile.FieldType) 1 := ⟨w_3_226, w_1_10, by decide +kernel, by decide +kernel⟩
theorem ci_X2_keep : x_CI yX2_keep 4 := ⟨w_3_224, w_3_225, (RX2, TX2, 5), rfl, rfl⟩
set_option maxRecDepth 100000 in
set_option maxHeartbeats 4000000 in
theorem kX2_keep {ad : Nat → Nat} {o : Nat} (ho : x_pl o) {σ : x_S} {τ : x_L} {Q : x_S → x_L → Prop} (h : wX2_keep o σ τ Q) : x_Met yX2_keep cX2_keep 2 (Option.none : Option Jvm.ClassFile.FieldType) 3 ad dsX [.ref (ad 63), .ref (ad o)] σ τ (x_PV Q) := by
  refine x_met (by decide +kernel) (Nat.le_of_ble_eq_true rfl) (fun V X => ?_)
  have X : x_Is V cX2_keep 2 RX2 (Option.none : Option Jvm.ClassFile.FieldType) ad dsX 3 (x_PV Q) := X
  show V σ τ 0 [(0, .ref (ad 63)), (1, .ref (ad o))] []
  refine x_aload_n X dX2_keep_0 rfl 0 rfl ?_
  refine x_aload_n X dX2_keep_1 rfl 0 rfl ?_
  refine x_getI X dX2_keep_2 fl_2_16 dsX_63 rfl ?_
  refine x_iconst X dX2_keep_5 ki_1 ?_
  refine x_iadd X dX2_keep_6 ?_
  refine x_bipush X dX2_keep_7 kb_15 ?_
  refine x_irem X dX2_keep_9 (by decide) ?_
  refine x_putI X dX2_keep_10 fl_2_16 ft_2_1 dsX_63 rfl ?_
  refine x_aload_n X dX2_keep_13 rfl 1 rfl ?_
  refine x_aload_n X dX2_keep_14 rfl 0 rfl ?_
  refine x_getR X (j := 64) dX2_keep_15 fl_2_13 dsX_63 rfl ?_
  refine x_aload_n X dX2_keep_18 rfl 0 rfl ?_
  refine x_getI X dX2_keep_19 fl_2_16 dsX_63 rfl ?_
  have g22 := h.1
  have h := h.2
  refine x_aald X dX2_keep_22 dsX_64 g22 ?_
  refine x_callVv X [.ref (ad (65 + ((x_up σ 63 1 (((σ 63 1) + 1) - ((σ 63 1) + 1) / 15 * 15)) 63 1).toNatClampNeg))] [] dX2_keep_23 (kX6_writeChoices ho (dsX_row g22) h) cm_X6_writeChoices ci_X6_writeChoices w_3_227 (dsX_pl ho) ⟨by decide, by decide⟩ rfl (Nat.le_of_ble_eq_true rfl) (fun σ23 τ23 h => ?_)
  refine x_aload_n X dX2_keep_26 rfl 0 rfl ?_
  refine x_aload_n X dX2_keep_27 rfl 0 rfl ?_
  refine x_getI X dX2_keep_28 fl_2_20 dsX_63 rfl ?_
  refine x_iconst X dX2_keep_31 ki_1 ?_
  refine x_iadd X dX2_keep_32 ?_
  refine x_bipush X dX2_keep_33 kb_15 ?_
  refine x_mmin X dX2_keep_35 w_3_231 w_3_96 w_1_18 w_3_97 (by decide) (Nat.le_of_ble_eq_true rfl) ?_
  refine x_putI X dX2_keep_38 fl_2_20 ft_2_2 dsX_63 rfl ?_
  exact x_vret X dX2_keep_41 ⟨rfl, h⟩
theorem dX6_readChoices_0 : decode cX6_readChoices 0 = .ok (.aload_n 1, 1) := by decide +kernel
theorem dX6_readChoices_1 : decode cX6_readChoices 1 = .ok (.iconst 0, 1) := by decide +kernel
theorem dX6_readChoices_2 : decode cX6_readChoices 2 = .ok (.aload_n 0, 1) := by decide +kernel
theorem dX6_readChoices_3 : decode cX6_readChoices 3 = .ok (.getfield 9, 3) := by decide +kernel
theorem dX6_readChoices_6 : decode cX6_readChoices 6 = .ok (.iconst 0, 1) := by decide +kernel
theorem dX6_readChoices_7 : decode cX6_readChoices 7 = .ok (.bipush 12, 2) := by decide +kernel
theorem dX6_readChoices_9 : decode cX6_readChoices 9 = .ok (.invokestatic 66, 3) := by decide +kernel
theorem dX6_readChoices_12 : decode cX6_readChoices 12 = .ok (.aload_n 1, 1) := by decide +kernel
theorem dX6_readChoices_13 : decode cX6_readChoices 13 = .ok (.bipush 12, 2) := by decide +kernel
theorem dX6_readChoices_15 : decode cX6_readChoices 15 = .ok (.aload_n 0, 1) := by decide +kernel
theorem dX6_readChoices_16 : decode cX6_readChoices 16 = .ok (.getfield 15, 3) := by decide +kernel
theorem dX6_readChoices_19 : decode cX6_readChoices 19 = .ok (.iconst 0, 1) := by decide +kernel
theorem dX6_readChoices_20 : decode cX6_readChoices 20 = .ok (.bipush 120, 2) := by decide +kernel
theorem dX6_readChoices_22 : decode cX6_readChoices 22 = .ok (.invokestatic 66, 3) := by decide +kernel
theorem dX6_readChoices_25 : decode cX6_readChoices 25 = .ok (.aload_n 1, 1) := by decide +kernel
theorem dX6_readChoices_26 : decode cX6_readChoices 26 = .ok (.sipush 132, 3) := by decide +kernel
theorem dX6_readChoices_29 : decode cX6_readChoices 29 = .ok (.aload_n 0, 1) := by decide +kernel
theorem dX6_readChoices_30 : decode cX6_readChoices 30 = .ok (.getfield 18, 3) := by decide +kernel
theorem dX6_readChoices_33 : decode cX6_readChoices 33 = .ok (.iconst 0, 1) := by decide +kernel
theorem dX6_readChoices_34 : decode cX6_readChoices 34 = .ok (.bipush 120, 2) := by decide +kernel
theorem dX6_readChoices_36 : decode cX6_readChoices 36 = .ok (.invokestatic 66, 3) := by decide +kernel
theorem dX6_readChoices_39 : decode cX6_readChoices 39 = .ok (.return_, 1) := by decide +kernel
theorem cm_X6_readChoices : x_CM yX6_readChoices cX6_readChoices 2 (Option.none : Option Jvm.ClassFile.FieldType) 1 := ⟨w_4_152, w_1_7, by decide +kernel, by decide +kernel⟩
theorem ci_X6_readChoices : x_CI yX6_readChoices 8 := ⟨w_4_150, w_4_151, (RX6, TX6, 15), rfl, rfl⟩
set_option maxRecDepth 100000 in
set_option maxHeartbeats 4000000 in
theorem kX6_readChoices {ad : Nat → Nat} {t : Nat} {b : Nat} {bn : Nat} (ht : x_pl t) (hb : dsX[b]? = some (1, bn, [])) {σ : x_S} {τ : x_L} {Q : x_S → x_L → Prop} (h : wX6_readChoices t b bn σ τ Q) : x_Met yX6_readChoices cX6_readChoices 2 (Option.none : Option Jvm.ClassFile.FieldType) 2 ad dsX [.ref (ad t), .ref (ad b)] σ τ (x_PV Q) := by
  refine x_met (by decide +kernel) (Nat.le_of_ble_eq_true rfl) (fun V X => ?_)
  have X : x_Is V cX6_readChoices 2 RX6 (Option.none : Option Jvm.ClassFile.FieldType) ad dsX 2 (x_PV Q) := X
  show V σ τ 0 [(0, .ref (ad t)), (1, .ref (ad b))] []
  refine x_aload_n X dX6_readChoices_0 rfl 1 rfl ?_
  refine x_iconst X dX6_readChoices_1 ki_0 ?_
  refine x_aload_n X dX6_readChoices_2 rfl 0 rfl ?_
  refine x_getR X (j := (t + 1)) dX6_readChoices_3 fl_6_9 (dsX_pl ht) rfl ?_
  refine x_iconst X dX6_readChoices_6 ki_0 ?_
  refine x_bipush X dX6_readChoices_7 kb_12 ?_
  refine x_copy X dX6_readChoices_9 w_3_94 w_3_68 w_3_67 w_1_17 hb (dsX_pl1 ht) (by decide) (Nat.le_of_ble_eq_true rfl) h.1 ?_
  have h := h.2
  refine x_aload_n X dX6_readChoices_12 rfl 1 rfl ?_
  refine x_bipush X dX6_readChoices_13 kb_12 ?_
  refine x_aload_n X dX6_readChoices_15 rfl 0 rfl ?_
  refine x_getR X (j := (t + 2)) dX6_readChoices_16 fl_6_15 (dsX_pl ht) rfl ?_
  refine x_iconst X dX6_readChoices_19 ki_0 ?_
  refine x_bipush X dX6_readChoices_20 kb_120 ?_
  refine x_copy X dX6_readChoices_22 w_3_94 w_3_68 w_3_67 w_1_17 hb (dsX_pl2 ht) (by decide) (Nat.le_of_ble_eq_true rfl) h.1 ?_
  have h := h.2
  refine x_aload_n X dX6_readChoices_25 rfl 1 rfl ?_
  refine x_sipush X dX6_readChoices_26 ks_132 ?_
  refine x_aload_n X dX6_readChoices_29 rfl 0 rfl ?_
  refine x_getR X (j := (t + 3)) dX6_readChoices_30 fl_6_18 (dsX_pl ht) rfl ?_
  refine x_iconst X dX6_readChoices_33 ki_0 ?_
  refine x_bipush X dX6_readChoices_34 kb_120 ?_
  refine x_copy X dX6_readChoices_36 w_3_94 w_3_68 w_3_67 w_1_17 hb (dsX_pl3 ht) (by decide) (Nat.le_of_ble_eq_true rfl) h.1 ?_
  have h := h.2
  exact x_vret X dX6_readChoices_39 ⟨rfl, h⟩
theorem dX2_takeBack_0 : decode cX2_takeBack 0 = .ok (.aload_n 1, 1) := by decide +kernel
theorem dX2_takeBack_1 : decode cX2_takeBack 1 = .ok (.aload_n 0, 1) := by decide +kernel
theorem dX2_takeBack_2 : decode cX2_takeBack 2 = .ok (.getfield 13, 3) := by decide +kernel
theorem dX2_takeBack_5 : decode cX2_takeBack 5 = .ok (.aload_n 0, 1) := by decide +kernel
theorem dX2_takeBack_6 : decode cX2_takeBack 6 = .ok (.getfield 16, 3) := by decide +kernel
theorem dX2_takeBack_9 : decode cX2_takeBack 9 = .ok (.aaload, 1) := by decide +kernel
theorem dX2_takeBack_10 : decode cX2_takeBack 10 = .ok (.invokevirtual 40, 3) := by decide +kernel
theorem dX2_takeBack_13 : decode cX2_takeBack 13 = .ok (.aload_n 0, 1) := by decide +kernel
theorem dX2_takeBack_14 : decode cX2_takeBack 14 = .ok (.aload_n 0, 1) := by decide +kernel
theorem dX2_takeBack_15 : decode cX2_takeBack 15 = .ok (.getfield 16, 3) := by decide +kernel
theorem dX2_takeBack_18 : decode cX2_takeBack 18 = .ok (.bipush 15, 2) := by decide +kernel
theorem dX2_takeBack_20 : decode cX2_takeBack 20 = .ok (.iadd, 1) := by decide +kernel
theorem dX2_takeBack_21 : decode cX2_takeBack 21 = .ok (.iconst 1, 1) := by decide +kernel
theorem dX2_takeBack_22 : decode cX2_takeBack 22 = .ok (.isub, 1) := by decide +kernel
theorem dX2_takeBack_23 : decode cX2_takeBack 23 = .ok (.bipush 15, 2) := by decide +kernel
theorem dX2_takeBack_25 : decode cX2_takeBack 25 = .ok (.irem, 1) := by decide +kernel
theorem dX2_takeBack_26 : decode cX2_takeBack 26 = .ok (.putfield 16, 3) := by decide +kernel
theorem dX2_takeBack_29 : decode cX2_takeBack 29 = .ok (.aload_n 0, 1) := by decide +kernel
theorem dX2_takeBack_30 : decode cX2_takeBack 30 = .ok (.dup, 1) := by decide +kernel
theorem dX2_takeBack_31 : decode cX2_takeBack 31 = .ok (.getfield 20, 3) := by decide +kernel
theorem dX2_takeBack_34 : decode cX2_takeBack 34 = .ok (.iconst 1, 1) := by decide +kernel
theorem dX2_takeBack_35 : decode cX2_takeBack 35 = .ok (.isub, 1) := by decide +kernel
theorem dX2_takeBack_36 : decode cX2_takeBack 36 = .ok (.putfield 20, 3) := by decide +kernel
theorem dX2_takeBack_39 : decode cX2_takeBack 39 = .ok (.return_, 1) := by decide +kernel
theorem cm_X2_takeBack : x_CM yX2_takeBack cX2_takeBack 2 (Option.none : Option Jvm.ClassFile.FieldType) 1 := ⟨w_4_148, w_1_10, by decide +kernel, by decide +kernel⟩
theorem ci_X2_takeBack : x_CI yX2_takeBack 4 := ⟨w_4_146, w_4_147, (RX2, TX2, 5), rfl, rfl⟩
set_option maxRecDepth 100000 in
set_option maxHeartbeats 4000000 in
theorem kX2_takeBack {ad : Nat → Nat} {o : Nat} (ho : x_pl o) {σ : x_S} {τ : x_L} {Q : x_S → x_L → Prop} (h : wX2_takeBack o σ τ Q) : x_Met yX2_takeBack cX2_takeBack 2 (Option.none : Option Jvm.ClassFile.FieldType) 3 ad dsX [.ref (ad 63), .ref (ad o)] σ τ (x_PV Q) := by
  refine x_met (by decide +kernel) (Nat.le_of_ble_eq_true rfl) (fun V X => ?_)
  have X : x_Is V cX2_takeBack 2 RX2 (Option.none : Option Jvm.ClassFile.FieldType) ad dsX 3 (x_PV Q) := X
  show V σ τ 0 [(0, .ref (ad 63)), (1, .ref (ad o))] []
  refine x_aload_n X dX2_takeBack_0 rfl 1 rfl ?_
  refine x_aload_n X dX2_takeBack_1 rfl 0 rfl ?_
  refine x_getR X (j := 64) dX2_takeBack_2 fl_2_13 dsX_63 rfl ?_
  refine x_aload_n X dX2_takeBack_5 rfl 0 rfl ?_
  refine x_getI X dX2_takeBack_6 fl_2_16 dsX_63 rfl ?_
  have g9 := h.1
  have h := h.2
  refine x_aald X dX2_takeBack_9 dsX_64 g9 ?_
  refine x_callVv X [.ref (ad (65 + (σ 63 1).toNatClampNeg))] [] dX2_takeBack_10 (kX6_readChoices ho (dsX_row g9) h) cm_X6_readChoices ci_X6_readChoices w_4_149 (dsX_pl ho) ⟨by decide, by decide⟩ rfl (Nat.le_of_ble_eq_true rfl) (fun σ10 τ10 h => ?_)
  refine x_aload_n X dX2_takeBack_13 rfl 0 rfl ?_
  refine x_aload_n X dX2_takeBack_14 rfl 0 rfl ?_
  refine x_getI X dX2_takeBack_15 fl_2_16 dsX_63 rfl ?_
  refine x_bipush X dX2_takeBack_18 kb_15 ?_
  refine x_iadd X dX2_takeBack_20 ?_
  refine x_iconst X dX2_takeBack_21 ki_1 ?_
  refine x_isub X dX2_takeBack_22 ?_
  refine x_bipush X dX2_takeBack_23 kb_15 ?_
  refine x_irem X dX2_takeBack_25 (by decide) ?_
  refine x_putI X dX2_takeBack_26 fl_2_16 ft_2_1 dsX_63 rfl ?_
  refine x_aload_n X dX2_takeBack_29 rfl 0 rfl ?_
  refine x_dup X dX2_takeBack_30 rfl ?_
  refine x_getI X dX2_takeBack_31 fl_2_20 dsX_63 rfl ?_
  refine x_iconst X dX2_takeBack_34 ki_1 ?_
  refine x_isub X dX2_takeBack_35 ?_
  refine x_putI X dX2_takeBack_36 fl_2_20 ft_2_2 dsX_63 rfl ?_
  exact x_vret X dX2_takeBack_39 ⟨rfl, h⟩
theorem dX2_forgetEdits_0 : decode cX2_forgetEdits 0 = .ok (.aload_n 0, 1) := by decide +kernel
theorem dX2_forgetEdits_1 : decode cX2_forgetEdits 1 = .ok (.iconst 0, 1) := by decide +kernel
theorem dX2_forgetEdits_2 : decode cX2_forgetEdits 2 = .ok (.putfield 20, 3) := by decide +kernel
theorem dX2_forgetEdits_5 : decode cX2_forgetEdits 5 = .ok (.return_, 1) := by decide +kernel
theorem cm_X2_forgetEdits : x_CM yX2_forgetEdits cX2_forgetEdits 1 (Option.none : Option Jvm.ClassFile.FieldType) 0 := ⟨w_3_153, w_1_10, by decide +kernel, by decide +kernel⟩
theorem ci_X2_forgetEdits : x_CI yX2_forgetEdits 4 := ⟨w_3_151, w_3_152, (RX2, TX2, 5), rfl, rfl⟩
set_option maxRecDepth 100000 in
set_option maxHeartbeats 4000000 in
theorem kX2_forgetEdits {ad : Nat → Nat} {σ : x_S} {τ : x_L} {Q : x_S → x_L → Prop} (h : wX2_forgetEdits σ τ Q) : x_Met yX2_forgetEdits cX2_forgetEdits 1 (Option.none : Option Jvm.ClassFile.FieldType) 0 ad dsX [.ref (ad 63)] σ τ (x_PV Q) := by
  refine x_met (by decide +kernel) (Nat.le_of_ble_eq_true rfl) (fun V X => ?_)
  have X : x_Is V cX2_forgetEdits 1 RX2 (Option.none : Option Jvm.ClassFile.FieldType) ad dsX 0 (x_PV Q) := X
  show V σ τ 0 [(0, .ref (ad 63))] []
  refine x_aload_n X dX2_forgetEdits_0 rfl 0 rfl ?_
  refine x_iconst X dX2_forgetEdits_1 ki_0 ?_
  refine x_putI X dX2_forgetEdits_2 fl_2_20 ft_2_2 dsX_63 rfl ?_
  exact x_vret X dX2_forgetEdits_5 ⟨rfl, h⟩
theorem dX2_saveIn_0 : decode cX2_saveIn 0 = .ok (.aload_n 2, 1) := by decide +kernel
theorem dX2_saveIn_1 : decode cX2_saveIn 1 = .ok (.aload_n 0, 1) := by decide +kernel
theorem dX2_saveIn_2 : decode cX2_saveIn 2 = .ok (.getfield 23, 3) := by decide +kernel
theorem dX2_saveIn_5 : decode cX2_saveIn 5 = .ok (.iload_n 1, 1) := by decide +kernel
theorem dX2_saveIn_6 : decode cX2_saveIn 6 = .ok (.aaload, 1) := by decide +kernel
theorem dX2_saveIn_7 : decode cX2_saveIn 7 = .ok (.invokevirtual 30, 3) := by decide +kernel
theorem dX2_saveIn_10 : decode cX2_saveIn 10 = .ok (.aload_n 0, 1) := by decide +kernel
theorem dX2_saveIn_11 : decode cX2_saveIn 11 = .ok (.getfield 26, 3) := by decide +kernel
theorem dX2_saveIn_14 : decode cX2_saveIn 14 = .ok (.iload_n 1, 1) := by decide +kernel
theorem dX2_saveIn_15 : decode cX2_saveIn 15 = .ok (.iconst 1, 1) := by decide +kernel
theorem dX2_saveIn_16 : decode cX2_saveIn 16 = .ok (.bastore, 1) := by decide +kernel
theorem dX2_saveIn_17 : decode cX2_saveIn 17 = .ok (.return_, 1) := by decide +kernel
theorem cm_X2_saveIn : x_CM yX2_saveIn cX2_saveIn 3 (Option.none : Option Jvm.ClassFile.FieldType) 2 := ⟨w_4_168, w_1_10, by decide +kernel, by decide +kernel⟩
theorem ci_X2_saveIn : x_CI yX2_saveIn 4 := ⟨w_4_166, w_4_167, (RX2, TX2, 5), rfl, rfl⟩
set_option maxRecDepth 100000 in
set_option maxHeartbeats 4000000 in
theorem kX2_saveIn {ad : Nat → Nat} {o : Nat} (ho : x_pl o) {a1 : Int32} {σ : x_S} {τ : x_L} {Q : x_S → x_L → Prop} (h : wX2_saveIn o a1 σ τ Q) : x_Met yX2_saveIn cX2_saveIn 3 (Option.none : Option Jvm.ClassFile.FieldType) 3 ad dsX [.ref (ad 63), .int a1, .ref (ad o)] σ τ (x_PV Q) := by
  refine x_met (by decide +kernel) (Nat.le_of_ble_eq_true rfl) (fun V X => ?_)
  have X : x_Is V cX2_saveIn 3 RX2 (Option.none : Option Jvm.ClassFile.FieldType) ad dsX 3 (x_PV Q) := X
  show V σ τ 0 [(0, .ref (ad 63)), (1, .int a1), (2, .ref (ad o))] []
  refine x_aload_n X dX2_saveIn_0 rfl 2 rfl ?_
  refine x_aload_n X dX2_saveIn_1 rfl 0 rfl ?_
  refine x_getR X (j := 80) dX2_saveIn_2 fl_2_23 dsX_63 rfl ?_
  refine x_iload_n X dX2_saveIn_5 rfl 1 rfl ?_
  have g6 := h.1
  have h := h.2
  refine x_aald X dX2_saveIn_6 dsX_80 g6 ?_
  refine x_callVv X [.ref (ad (81 + a1.toNatClampNeg))] [] dX2_saveIn_7 (kX6_writeChoices ho (dsX_snap g6) h) cm_X6_writeChoices ci_X6_writeChoices w_3_227 (dsX_pl ho) ⟨by decide, by decide⟩ rfl (Nat.le_of_ble_eq_true rfl) (fun σ7 τ7 h => ?_)
  refine x_aload_n X dX2_saveIn_10 rfl 0 rfl ?_
  refine x_getR X (j := 83) dX2_saveIn_11 fl_2_26 dsX_63 rfl ?_
  refine x_iload_n X dX2_saveIn_14 rfl 1 rfl ?_
  refine x_iconst X dX2_saveIn_15 ki_1 ?_
  refine x_zast X dX2_saveIn_16 dsX_83 g6 ?_
  exact x_vret X dX2_saveIn_17 ⟨rfl, h⟩
theorem dX2_restoreFrom_0 : decode cX2_restoreFrom 0 = .ok (.aload_n 2, 1) := by decide +kernel
theorem dX2_restoreFrom_1 : decode cX2_restoreFrom 1 = .ok (.aload_n 0, 1) := by decide +kernel
theorem dX2_restoreFrom_2 : decode cX2_restoreFrom 2 = .ok (.getfield 23, 3) := by decide +kernel
theorem dX2_restoreFrom_5 : decode cX2_restoreFrom 5 = .ok (.iload_n 1, 1) := by decide +kernel
theorem dX2_restoreFrom_6 : decode cX2_restoreFrom 6 = .ok (.aaload, 1) := by decide +kernel
theorem dX2_restoreFrom_7 : decode cX2_restoreFrom 7 = .ok (.invokevirtual 40, 3) := by decide +kernel
theorem dX2_restoreFrom_10 : decode cX2_restoreFrom 10 = .ok (.return_, 1) := by decide +kernel
theorem cm_X2_restoreFrom : x_CM yX2_restoreFrom cX2_restoreFrom 3 (Option.none : Option Jvm.ClassFile.FieldType) 2 := ⟨w_4_176, w_1_10, by decide +kernel, by decide +kernel⟩
theorem ci_X2_restoreFrom : x_CI yX2_restoreFrom 4 := ⟨w_4_174, w_4_175, (RX2, TX2, 5), rfl, rfl⟩
set_option maxRecDepth 100000 in
set_option maxHeartbeats 4000000 in
theorem kX2_restoreFrom {ad : Nat → Nat} {o : Nat} (ho : x_pl o) {a1 : Int32} {σ : x_S} {τ : x_L} {Q : x_S → x_L → Prop} (h : wX2_restoreFrom o a1 σ τ Q) : x_Met yX2_restoreFrom cX2_restoreFrom 3 (Option.none : Option Jvm.ClassFile.FieldType) 3 ad dsX [.ref (ad 63), .int a1, .ref (ad o)] σ τ (x_PV Q) := by
  refine x_met (by decide +kernel) (Nat.le_of_ble_eq_true rfl) (fun V X => ?_)
  have X : x_Is V cX2_restoreFrom 3 RX2 (Option.none : Option Jvm.ClassFile.FieldType) ad dsX 3 (x_PV Q) := X
  show V σ τ 0 [(0, .ref (ad 63)), (1, .int a1), (2, .ref (ad o))] []
  refine x_aload_n X dX2_restoreFrom_0 rfl 2 rfl ?_
  refine x_aload_n X dX2_restoreFrom_1 rfl 0 rfl ?_
  refine x_getR X (j := 80) dX2_restoreFrom_2 fl_2_23 dsX_63 rfl ?_
  refine x_iload_n X dX2_restoreFrom_5 rfl 1 rfl ?_
  have g6 := h.1
  have h := h.2
  refine x_aald X dX2_restoreFrom_6 dsX_80 g6 ?_
  refine x_callVv X [.ref (ad (81 + a1.toNatClampNeg))] [] dX2_restoreFrom_7 (kX6_readChoices ho (dsX_snap g6) h) cm_X6_readChoices ci_X6_readChoices w_4_149 (dsX_pl ho) ⟨by decide, by decide⟩ rfl (Nat.le_of_ble_eq_true rfl) (fun σ7 τ7 h => ?_)
  exact x_vret X dX2_restoreFrom_10 ⟨rfl, h⟩
theorem dX2_forgetSnapshots_0 : decode cX2_forgetSnapshots 0 = .ok (.iconst 0, 1) := by decide +kernel
theorem dX2_forgetSnapshots_1 : decode cX2_forgetSnapshots 1 = .ok (.istore_n 1, 1) := by decide +kernel
theorem dX2_forgetSnapshots_2 : decode cX2_forgetSnapshots 2 = .ok (.iload_n 1, 1) := by decide +kernel
theorem dX2_forgetSnapshots_3 : decode cX2_forgetSnapshots 3 = .ok (.iconst 2, 1) := by decide +kernel
theorem dX2_forgetSnapshots_4 : decode cX2_forgetSnapshots 4 = .ok (.if_icmp .ge 16, 3) := by decide +kernel
theorem dX2_forgetSnapshots_7 : decode cX2_forgetSnapshots 7 = .ok (.aload_n 0, 1) := by decide +kernel
theorem dX2_forgetSnapshots_8 : decode cX2_forgetSnapshots 8 = .ok (.getfield 26, 3) := by decide +kernel
theorem dX2_forgetSnapshots_11 : decode cX2_forgetSnapshots 11 = .ok (.iload_n 1, 1) := by decide +kernel
theorem dX2_forgetSnapshots_12 : decode cX2_forgetSnapshots 12 = .ok (.iconst 0, 1) := by decide +kernel
theorem dX2_forgetSnapshots_13 : decode cX2_forgetSnapshots 13 = .ok (.bastore, 1) := by decide +kernel
theorem dX2_forgetSnapshots_14 : decode cX2_forgetSnapshots 14 = .ok (.iinc 1 1, 3) := by decide +kernel
theorem dX2_forgetSnapshots_17 : decode cX2_forgetSnapshots 17 = .ok (.goto (-15), 3) := by decide +kernel
theorem dX2_forgetSnapshots_20 : decode cX2_forgetSnapshots 20 = .ok (.return_, 1) := by decide +kernel
theorem cm_X2_forgetSnapshots : x_CM yX2_forgetSnapshots cX2_forgetSnapshots 2 (Option.none : Option Jvm.ClassFile.FieldType) 0 := ⟨w_3_157, w_1_10, by decide +kernel, by decide +kernel⟩
theorem ci_X2_forgetSnapshots : x_CI yX2_forgetSnapshots 4 := ⟨w_3_155, w_3_156, (RX2, TX2, 5), rfl, rfl⟩
set_option maxRecDepth 100000 in
set_option maxHeartbeats 4000000 in
theorem bX2_forgetSnapshots_2 {V : x_J} {ad : Nat → Nat} {Q : x_S → x_L → Prop} (X : x_Is V cX2_forgetSnapshots 2 RX2 (Option.none : Option Jvm.ClassFile.FieldType) ad dsX 0 (x_PV Q)) {K2 : Int32 → x_S → x_L → Prop} (hK2 : ∀ v1 σ τ, K2 v1 σ τ → V σ τ 2 [(0, .ref (ad 63)), (1, .int v1)] []) {v1 : Int32} {σ : x_S} {τ : x_L} (h : wX2_forgetSnapshots_2 Q K2 v1 σ τ) : V σ τ 2 [(0, .ref (ad 63)), (1, .int v1)] [] := by
  refine x_iload_n X dX2_forgetSnapshots_2 rfl 1 rfl ?_
  refine x_iconst X dX2_forgetSnapshots_3 ki_2 ?_
  refine x_icmp_ge X 20 dX2_forgetSnapshots_4 (by decide) (fun hc => ?_) (fun hc => ?_)
  · have h := h.1 hc
    exact x_vret X dX2_forgetSnapshots_20 ⟨rfl, h⟩
  · have h := h.2 hc
    refine x_aload_n X dX2_forgetSnapshots_7 rfl 0 rfl ?_
    refine x_getR X (j := 83) dX2_forgetSnapshots_8 fl_2_26 dsX_63 rfl ?_
    refine x_iload_n X dX2_forgetSnapshots_11 rfl 1 rfl ?_
    refine x_iconst X dX2_forgetSnapshots_12 ki_0 ?_
    have g13 := h.1
    have h := h.2
    refine x_zast X dX2_forgetSnapshots_13 dsX_83 g13 ?_
    refine x_iinc X (k := 1) (lv' := [(1, .int (v1 + 1)), (0, .ref (ad 63))]) dX2_forgetSnapshots_14 rfl ki_1 (by decide) rfl ?_
    refine x_goto X (tgt := 2) dX2_forgetSnapshots_17 (by decide) ?_
    refine x_sub X [1, 0] (lv' := [(0, .ref (ad 63)), (1, .int (v1 + 1))]) rfl ?_
    exact hK2 _ _ _ h
set_option maxRecDepth 100000 in
set_option maxHeartbeats 4000000 in
theorem kX2_forgetSnapshots {ad : Nat → Nat} {σ : x_S} {τ : x_L} {Q : x_S → x_L → Prop} (h : wX2_forgetSnapshots σ τ Q) : x_Met yX2_forgetSnapshots cX2_forgetSnapshots 2 (Option.none : Option Jvm.ClassFile.FieldType) 0 ad dsX [.ref (ad 63)] σ τ (x_PV Q) := by
  refine x_met (by decide +kernel) (Nat.le_of_ble_eq_true rfl) (fun V X => ?_)
  have X : x_Is V cX2_forgetSnapshots 2 RX2 (Option.none : Option Jvm.ClassFile.FieldType) ad dsX 0 (x_PV Q) := X
  show V σ τ 0 [(0, .ref (ad 63))] []
  refine x_iconst X dX2_forgetSnapshots_0 ki_0 ?_
  refine x_istore_n X (lv' := [(1, .int 0), (0, .ref (ad 63))]) dX2_forgetSnapshots_1 rfl (by decide) rfl ?_
  refine x_sub X [1, 0] (lv' := [(0, .ref (ad 63)), (1, .int 0)]) rfl ?_
  exact x_l1_G (fun v1 σ τ => V σ τ 2 [(0, .ref (ad 63)), (1, .int v1)] []) (fun K2 hK2 v1 σ τ h => bX2_forgetSnapshots_2 X hK2 h) h
theorem dX9_fail_0 : decode cX9_fail 0 = .ok (.aload_n 0, 1) := by decide +kernel
theorem dX9_fail_1 : decode cX9_fail 1 = .ok (.iload_n 1, 1) := by decide +kernel
theorem dX9_fail_2 : decode cX9_fail 2 = .ok (.putfield 19, 3) := by decide +kernel
theorem dX9_fail_5 : decode cX9_fail 5 = .ok (.aload_n 0, 1) := by decide +kernel
theorem dX9_fail_6 : decode cX9_fail 6 = .ok (.aload_n 0, 1) := by decide +kernel
theorem dX9_fail_7 : decode cX9_fail 7 = .ok (.getfield 28, 3) := by decide +kernel
theorem dX9_fail_10 : decode cX9_fail 10 = .ok (.putfield 22, 3) := by decide +kernel
theorem dX9_fail_13 : decode cX9_fail 13 = .ok (.iconst 0, 1) := by decide +kernel
theorem dX9_fail_14 : decode cX9_fail 14 = .ok (.ireturn, 1) := by decide +kernel
theorem cm_X9_fail : x_CM yX9_fail cX9_fail 2 (Option.some FieldType.boolean) 1 := ⟨w_3_44, w_1_2, by decide +kernel, by decide +kernel⟩
theorem ci_X9_fail : x_CI yX9_fail 11 := ⟨w_3_42, w_3_43, (RX9, TX9, 8), rfl, rfl⟩
set_option maxRecDepth 100000 in
set_option maxHeartbeats 4000000 in
theorem kX9_fail {ad : Nat → Nat} {a1 : Int32} {σ : x_S} {τ : x_L} {Q : Int32 → x_S → x_L → Prop} (h : wX9_fail a1 σ τ Q) : x_Met yX9_fail cX9_fail 2 (Option.some FieldType.boolean) 0 ad dsX [.ref (ad 1), .int a1] σ τ (x_PI Q) := by
  refine x_met (by decide +kernel) (Nat.le_of_ble_eq_true rfl) (fun V X => ?_)
  have X : x_Is V cX9_fail 2 RX9 (Option.some FieldType.boolean) ad dsX 0 (x_PI Q) := X
  show V σ τ 0 [(0, .ref (ad 1)), (1, .int a1)] []
  refine x_aload_n X dX9_fail_0 rfl 0 rfl ?_
  refine x_iload_n X dX9_fail_1 rfl 1 rfl ?_
  refine x_putI X dX9_fail_2 fl_9_19 ft_9_2 dsX_1 rfl ?_
  refine x_aload_n X dX9_fail_5 rfl 0 rfl ?_
  refine x_aload_n X dX9_fail_6 rfl 0 rfl ?_
  refine x_getI X dX9_fail_7 fl_9_28 dsX_1 rfl ?_
  refine x_putI X dX9_fail_10 fl_9_22 ft_9_3 dsX_1 rfl ?_
  refine x_iconst X dX9_fail_13 ki_0 ?_
  exact x_zret X dX9_fail_14 ⟨Or.inl rfl, _, rfl, h⟩
theorem dX9_isDigit_0 : decode cX9_isDigit 0 = .ok (.iload_n 0, 1) := by decide +kernel
theorem dX9_isDigit_1 : decode cX9_isDigit 1 = .ok (.bipush 48, 2) := by decide +kernel
theorem dX9_isDigit_3 : decode cX9_isDigit 3 = .ok (.if_icmp .lt 13, 3) := by decide +kernel
theorem dX9_isDigit_6 : decode cX9_isDigit 6 = .ok (.iload_n 0, 1) := by decide +kernel
theorem dX9_isDigit_7 : decode cX9_isDigit 7 = .ok (.bipush 57, 2) := by decide +kernel
theorem dX9_isDigit_9 : decode cX9_isDigit 9 = .ok (.if_icmp .gt 7, 3) := by decide +kernel
theorem dX9_isDigit_12 : decode cX9_isDigit 12 = .ok (.iconst 1, 1) := by decide +kernel
theorem dX9_isDigit_13 : decode cX9_isDigit 13 = .ok (.goto 4, 3) := by decide +kernel
theorem dX9_isDigit_16 : decode cX9_isDigit 16 = .ok (.iconst 0, 1) := by decide +kernel
theorem dX9_isDigit_17 : decode cX9_isDigit 17 = .ok (.ireturn, 1) := by decide +kernel
theorem cm_X9_isDigit : x_CM yX9_isDigit cX9_isDigit 1 (Option.some FieldType.boolean) 1 := ⟨w_2_207, w_1_2, by decide +kernel, by decide +kernel⟩
set_option maxRecDepth 100000 in
set_option maxHeartbeats 4000000 in
theorem bX9_isDigit_17 {V : x_J} {ad : Nat → Nat} {Q : Int32 → x_S → x_L → Prop} (X : x_Is V cX9_isDigit 1 RX9 (Option.some FieldType.boolean) ad dsX 0 (x_PI Q)) {s0 : Int32} {σ : x_S} {τ : x_L} (h : wX9_isDigit_17 Q s0 σ τ) : V σ τ 17 [] [.int s0] := by
  exact x_zret X dX9_isDigit_17 ⟨h.1, _, rfl, h.2⟩
set_option maxRecDepth 100000 in
set_option maxHeartbeats 4000000 in
theorem bX9_isDigit_16 {V : x_J} {ad : Nat → Nat} {Q : Int32 → x_S → x_L → Prop} (X : x_Is V cX9_isDigit 1 RX9 (Option.some FieldType.boolean) ad dsX 0 (x_PI Q)) {σ : x_S} {τ : x_L} (h : wX9_isDigit_16 Q σ τ) : V σ τ 16 [] [] := by
  refine x_iconst X dX9_isDigit_16 ki_0 ?_
  exact bX9_isDigit_17 X h
set_option maxRecDepth 100000 in
set_option maxHeartbeats 4000000 in
theorem kX9_isDigit {ad : Nat → Nat} {a0 : Int32} {σ : x_S} {τ : x_L} {Q : Int32 → x_S → x_L → Prop} (h : wX9_isDigit a0 σ τ Q) : x_Met yX9_isDigit cX9_isDigit 1 (Option.some FieldType.boolean) 0 ad dsX [.int a0] σ τ (x_PI Q) := by
  refine x_met (by decide +kernel) (Nat.le_of_ble_eq_true rfl) (fun V X => ?_)
  have X : x_Is V cX9_isDigit 1 RX9 (Option.some FieldType.boolean) ad dsX 0 (x_PI Q) := X
  show V σ τ 0 [(0, .int a0)] []
  refine x_iload_n X dX9_isDigit_0 rfl 0 rfl ?_
  refine x_bipush X dX9_isDigit_1 kb_48 ?_
  refine x_icmp_lt X 16 dX9_isDigit_3 (by decide) (fun hc => ?_) (fun hc => ?_)
  · have h := h.1 hc
    refine x_sub X [] (lv' := []) rfl ?_
    exact bX9_isDigit_16 X h
  · have h := h.2 hc
    refine x_iload_n X dX9_isDigit_6 rfl 0 rfl ?_
    refine x_bipush X dX9_isDigit_7 kb_57 ?_
    refine x_icmp_gt X 16 dX9_isDigit_9 (by decide) (fun hc => ?_) (fun hc => ?_)
    · have h := h.1 hc
      refine x_sub X [] (lv' := []) rfl ?_
      exact bX9_isDigit_16 X h
    · have h := h.2 hc
      refine x_iconst X dX9_isDigit_12 ki_1 ?_
      refine x_goto X (tgt := 17) dX9_isDigit_13 (by decide) ?_
      refine x_sub X [] (lv' := []) rfl ?_
      exact bX9_isDigit_17 X h
theorem dX9_isLetter_0 : decode cX9_isLetter 0 = .ok (.iload_n 0, 1) := by decide +kernel
theorem dX9_isLetter_1 : decode cX9_isLetter 1 = .ok (.bipush 97, 2) := by decide +kernel
theorem dX9_isLetter_3 : decode cX9_isLetter 3 = .ok (.if_icmp .lt 13, 3) := by decide +kernel
theorem dX9_isLetter_6 : decode cX9_isLetter 6 = .ok (.iload_n 0, 1) := by decide +kernel
theorem dX9_isLetter_7 : decode cX9_isLetter 7 = .ok (.bipush 122, 2) := by decide +kernel
theorem dX9_isLetter_9 : decode cX9_isLetter 9 = .ok (.if_icmp .gt 7, 3) := by decide +kernel
theorem dX9_isLetter_12 : decode cX9_isLetter 12 = .ok (.iconst 1, 1) := by decide +kernel
theorem dX9_isLetter_13 : decode cX9_isLetter 13 = .ok (.goto 4, 3) := by decide +kernel
theorem dX9_isLetter_16 : decode cX9_isLetter 16 = .ok (.iconst 0, 1) := by decide +kernel
theorem dX9_isLetter_17 : decode cX9_isLetter 17 = .ok (.ireturn, 1) := by decide +kernel
theorem cm_X9_isLetter : x_CM yX9_isLetter cX9_isLetter 1 (Option.some FieldType.boolean) 1 := ⟨w_2_214, w_1_2, by decide +kernel, by decide +kernel⟩
set_option maxRecDepth 100000 in
set_option maxHeartbeats 4000000 in
theorem bX9_isLetter_17 {V : x_J} {ad : Nat → Nat} {Q : Int32 → x_S → x_L → Prop} (X : x_Is V cX9_isLetter 1 RX9 (Option.some FieldType.boolean) ad dsX 0 (x_PI Q)) {s0 : Int32} {σ : x_S} {τ : x_L} (h : wX9_isLetter_17 Q s0 σ τ) : V σ τ 17 [] [.int s0] := by
  exact x_zret X dX9_isLetter_17 ⟨h.1, _, rfl, h.2⟩
set_option maxRecDepth 100000 in
set_option maxHeartbeats 4000000 in
theorem bX9_isLetter_16 {V : x_J} {ad : Nat → Nat} {Q : Int32 → x_S → x_L → Prop} (X : x_Is V cX9_isLetter 1 RX9 (Option.some FieldType.boolean) ad dsX 0 (x_PI Q)) {σ : x_S} {τ : x_L} (h : wX9_isLetter_16 Q σ τ) : V σ τ 16 [] [] := by
  refine x_iconst X dX9_isLetter_16 ki_0 ?_
  exact bX9_isLetter_17 X h
set_option maxRecDepth 100000 in
set_option maxHeartbeats 4000000 in
theorem kX9_isLetter {ad : Nat → Nat} {a0 : Int32} {σ : x_S} {τ : x_L} {Q : Int32 → x_S → x_L → Prop} (h : wX9_isLetter a0 σ τ Q) : x_Met yX9_isLetter cX9_isLetter 1 (Option.some FieldType.boolean) 0 ad dsX [.int a0] σ τ (x_PI Q) := by
  refine x_met (by decide +kernel) (Nat.le_of_ble_eq_true rfl) (fun V X => ?_)
  have X : x_Is V cX9_isLetter 1 RX9 (Option.some FieldType.boolean) ad dsX 0 (x_PI Q) := X
  show V σ τ 0 [(0, .int a0)] []
  refine x_iload_n X dX9_isLetter_0 rfl 0 rfl ?_
  refine x_bipush X dX9_isLetter_1 kb_97 ?_
  refine x_icmp_lt X 16 dX9_isLetter_3 (by decide) (fun hc => ?_) (fun hc => ?_)
  · have h := h.1 hc
    refine x_sub X [] (lv' := []) rfl ?_
    exact bX9_isLetter_16 X h
  · have h := h.2 hc
    refine x_iload_n X dX9_isLetter_6 rfl 0 rfl ?_
    refine x_bipush X dX9_isLetter_7 kb_122 ?_
    refine x_icmp_gt X 16 dX9_isLetter_9 (by decide) (fun hc => ?_) (fun hc => ?_)
    · have h := h.1 hc
      refine x_sub X [] (lv' := []) rfl ?_
      exact bX9_isLetter_16 X h
    · have h := h.2 hc
      refine x_iconst X dX9_isLetter_12 ki_1 ?_
      refine x_goto X (tgt := 17) dX9_isLetter_13 (by decide) ?_
      refine x_sub X [] (lv' := []) rfl ?_
      exact bX9_isLetter_17 X h
theorem dX9_readDigits_0 : decode cX9_readDigits 0 = .ok (.aload_n 0, 1) := by decide +kernel
theorem dX9_readDigits_1 : decode cX9_readDigits 1 = .ok (.iconst 0, 1) := by decide +kernel
theorem dX9_readDigits_2 : decode cX9_readDigits 2 = .ok (.putfield 34, 3) := by decide +kernel
theorem dX9_readDigits_5 : decode cX9_readDigits 5 = .ok (.aload_n 0, 1) := by decide +kernel
theorem dX9_readDigits_6 : decode cX9_readDigits 6 = .ok (.getfield 31, 3) := by decide +kernel
theorem dX9_readDigits_9 : decode cX9_readDigits 9 = .ok (.aload_n 0, 1) := by decide +kernel
theorem dX9_readDigits_10 : decode cX9_readDigits 10 = .ok (.getfield 15, 3) := by decide +kernel
theorem dX9_readDigits_13 : decode cX9_readDigits 13 = .ok (.if_icmp .ge 68, 3) := by decide +kernel
theorem dX9_readDigits_16 : decode cX9_readDigits 16 = .ok (.aload_n 0, 1) := by decide +kernel
theorem dX9_readDigits_17 : decode cX9_readDigits 17 = .ok (.getfield 11, 3) := by decide +kernel
theorem dX9_readDigits_20 : decode cX9_readDigits 20 = .ok (.aload_n 0, 1) := by decide +kernel
theorem dX9_readDigits_21 : decode cX9_readDigits 21 = .ok (.getfield 31, 3) := by decide +kernel
theorem dX9_readDigits_24 : decode cX9_readDigits 24 = .ok (.baload, 1) := by decide +kernel
theorem dX9_readDigits_25 : decode cX9_readDigits 25 = .ok (.invokestatic 37, 3) := by decide +kernel
theorem dX9_readDigits_28 : decode cX9_readDigits 28 = .ok (.ifCond .eq 53, 3) := by decide +kernel
theorem dX9_readDigits_31 : decode cX9_readDigits 31 = .ok (.aload_n 0, 1) := by decide +kernel
theorem dX9_readDigits_32 : decode cX9_readDigits 32 = .ok (.getfield 31, 3) := by decide +kernel
theorem dX9_readDigits_35 : decode cX9_readDigits 35 = .ok (.aload_n 0, 1) := by decide +kernel
theorem dX9_readDigits_36 : decode cX9_readDigits 36 = .ok (.getfield 28, 3) := by decide +kernel
theorem dX9_readDigits_39 : decode cX9_readDigits 39 = .ok (.isub, 1) := by decide +kernel
theorem dX9_readDigits_40 : decode cX9_readDigits 40 = .ok (.iconst 5, 1) := by decide +kernel
theorem dX9_readDigits_41 : decode cX9_readDigits 41 = .ok (.if_icmp .ge 27, 3) := by decide +kernel
theorem dX9_readDigits_44 : decode cX9_readDigits 44 = .ok (.aload_n 0, 1) := by decide +kernel
theorem dX9_readDigits_45 : decode cX9_readDigits 45 = .ok (.aload_n 0, 1) := by decide +kernel
theorem dX9_readDigits_46 : decode cX9_readDigits 46 = .ok (.getfield 34, 3) := by decide +kernel
theorem dX9_readDigits_49 : decode cX9_readDigits 49 = .ok (.bipush 10, 2) := by decide +kernel
theorem dX9_readDigits_51 : decode cX9_readDigits 51 = .ok (.imul, 1) := by decide +kernel
theorem dX9_readDigits_52 : decode cX9_readDigits 52 = .ok (.aload_n 0, 1) := by decide +kernel
theorem dX9_readDigits_53 : decode cX9_readDigits 53 = .ok (.getfield 11, 3) := by decide +kernel
theorem dX9_readDigits_56 : decode cX9_readDigits 56 = .ok (.aload_n 0, 1) := by decide +kernel
theorem dX9_readDigits_57 : decode cX9_readDigits 57 = .ok (.getfield 31, 3) := by decide +kernel
theorem dX9_readDigits_60 : decode cX9_readDigits 60 = .ok (.baload, 1) := by decide +kernel
theorem dX9_readDigits_61 : decode cX9_readDigits 61 = .ok (.iadd, 1) := by decide +kernel
theorem dX9_readDigits_62 : decode cX9_readDigits 62 = .ok (.bipush 48, 2) := by decide +kernel
theorem dX9_readDigits_64 : decode cX9_readDigits 64 = .ok (.isub, 1) := by decide +kernel
theorem dX9_readDigits_65 : decode cX9_readDigits 65 = .ok (.putfield 34, 3) := by decide +kernel
theorem dX9_readDigits_68 : decode cX9_readDigits 68 = .ok (.aload_n 0, 1) := by decide +kernel
theorem dX9_readDigits_69 : decode cX9_readDigits 69 = .ok (.dup, 1) := by decide +kernel
theorem dX9_readDigits_70 : decode cX9_readDigits 70 = .ok (.getfield 31, 3) := by decide +kernel
theorem dX9_readDigits_73 : decode cX9_readDigits 73 = .ok (.iconst 1, 1) := by decide +kernel
theorem dX9_readDigits_74 : decode cX9_readDigits 74 = .ok (.iadd, 1) := by decide +kernel
theorem dX9_readDigits_75 : decode cX9_readDigits 75 = .ok (.putfield 31, 3) := by decide +kernel
theorem dX9_readDigits_78 : decode cX9_readDigits 78 = .ok (.goto (-73), 3) := by decide +kernel
theorem dX9_readDigits_81 : decode cX9_readDigits 81 = .ok (.aload_n 0, 1) := by decide +kernel
theorem dX9_readDigits_82 : decode cX9_readDigits 82 = .ok (.aload_n 0, 1) := by decide +kernel
theorem dX9_readDigits_83 : decode cX9_readDigits 83 = .ok (.getfield 31, 3) := by decide +kernel
theorem dX9_readDigits_86 : decode cX9_readDigits 86 = .ok (.aload_n 0, 1) := by decide +kernel
theorem dX9_readDigits_87 : decode cX9_readDigits 87 = .ok (.getfield 28, 3) := by decide +kernel
theorem dX9_readDigits_90 : decode cX9_readDigits 90 = .ok (.isub, 1) := by decide +kernel
theorem dX9_readDigits_91 : decode cX9_readDigits 91 = .ok (.iconst 5, 1) := by decide +kernel
theorem dX9_readDigits_92 : decode cX9_readDigits 92 = .ok (.if_icmp .gt 7, 3) := by decide +kernel
theorem dX9_readDigits_95 : decode cX9_readDigits 95 = .ok (.iconst 2, 1) := by decide +kernel
theorem dX9_readDigits_96 : decode cX9_readDigits 96 = .ok (.goto 4, 3) := by decide +kernel
theorem dX9_readDigits_99 : decode cX9_readDigits 99 = .ok (.iconst 4, 1) := by decide +kernel
theorem dX9_readDigits_100 : decode cX9_readDigits 100 = .ok (.putfield 25, 3) := by decide +kernel
theorem dX9_readDigits_103 : decode cX9_readDigits 103 = .ok (.return_, 1) := by decide +kernel
theorem cm_X9_readDigits : x_CM yX9_readDigits cX9_readDigits 1 (Option.none : Option Jvm.ClassFile.FieldType) 0 := ⟨w_2_211, w_1_2, by decide +kernel, by decide +kernel⟩
theorem ci_X9_readDigits : x_CI yX9_readDigits 11 := ⟨w_2_210, wp_0, (RX9, TX9, 8), rfl, rfl⟩
set_option maxRecDepth 100000 in
set_option maxHeartbeats 4000000 in
theorem bX9_readDigits_68 {V : x_J} {ad : Nat → Nat} {Q : x_S → x_L → Prop} (X : x_Is V cX9_readDigits 1 RX9 (Option.none : Option Jvm.ClassFile.FieldType) ad dsX 1 (x_PV Q)) {K5 : x_S → x_L → Prop} (hK5 : ∀ σ τ, K5 σ τ → V σ τ 5 [(0, .ref (ad 1))] []) {σ : x_S} {τ : x_L} (h : wX9_readDigits_68 K5 Q σ τ) : V σ τ 68 [(0, .ref (ad 1))] [] := by
  refine x_aload_n X dX9_readDigits_68 rfl 0 rfl ?_
  refine x_dup X dX9_readDigits_69 rfl ?_
  refine x_getI X dX9_readDigits_70 fl_9_31 dsX_1 rfl ?_
  refine x_iconst X dX9_readDigits_73 ki_1 ?_
  refine x_iadd X dX9_readDigits_74 ?_
  refine x_putI X dX9_readDigits_75 fl_9_31 ft_9_6 dsX_1 rfl ?_
  refine x_goto X (tgt := 5) dX9_readDigits_78 (by decide) ?_
  exact hK5 _ _ h
set_option maxRecDepth 100000 in
set_option maxHeartbeats 4000000 in
theorem bX9_readDigits_100 {V : x_J} {ad : Nat → Nat} {Q : x_S → x_L → Prop} (X : x_Is V cX9_readDigits 1 RX9 (Option.none : Option Jvm.ClassFile.FieldType) ad dsX 1 (x_PV Q)) {s1 : Int32} {σ : x_S} {τ : x_L} (h : wX9_readDigits_100 Q s1 σ τ) : V σ τ 100 [] [.int s1, .ref (ad 1)] := by
  refine x_putI X dX9_readDigits_100 fl_9_25 ft_9_4 dsX_1 rfl ?_
  exact x_vret X dX9_readDigits_103 ⟨rfl, h⟩
set_option maxRecDepth 100000 in
set_option maxHeartbeats 4000000 in
theorem bX9_readDigits_81 {V : x_J} {ad : Nat → Nat} {Q : x_S → x_L → Prop} (X : x_Is V cX9_readDigits 1 RX9 (Option.none : Option Jvm.ClassFile.FieldType) ad dsX 1 (x_PV Q)) {σ : x_S} {τ : x_L} (h : wX9_readDigits_81 Q σ τ) : V σ τ 81 [(0, .ref (ad 1))] [] := by
  refine x_aload_n X dX9_readDigits_81 rfl 0 rfl ?_
  refine x_aload_n X dX9_readDigits_82 rfl 0 rfl ?_
  refine x_getI X dX9_readDigits_83 fl_9_31 dsX_1 rfl ?_
  refine x_aload_n X dX9_readDigits_86 rfl 0 rfl ?_
  refine x_getI X dX9_readDigits_87 fl_9_28 dsX_1 rfl ?_
  refine x_isub X dX9_readDigits_90 ?_
  refine x_iconst X dX9_readDigits_91 ki_5 ?_
  refine x_icmp_gt X 99 dX9_readDigits_92 (by decide) (fun hc => ?_) (fun hc => ?_)
  · have h := h.1 hc
    refine x_iconst X dX9_readDigits_99 ki_4 ?_
    refine x_sub X [] (lv' := []) rfl ?_
    exact bX9_readDigits_100 X h
  · have h := h.2 hc
    refine x_iconst X dX9_readDigits_95 ki_2 ?_
    refine x_goto X (tgt := 100) dX9_readDigits_96 (by decide) ?_
    refine x_sub X [] (lv' := []) rfl ?_
    exact bX9_readDigits_100 X h
set_option maxRecDepth 100000 in
set_option maxHeartbeats 4000000 in
theorem bX9_readDigits_5 {V : x_J} {ad : Nat → Nat} {Q : x_S → x_L → Prop} (X : x_Is V cX9_readDigits 1 RX9 (Option.none : Option Jvm.ClassFile.FieldType) ad dsX 1 (x_PV Q)) {K5 : x_S → x_L → Prop} (hK5 : ∀ σ τ, K5 σ τ → V σ τ 5 [(0, .ref (ad 1))] []) {σ : x_S} {τ : x_L} (h : wX9_readDigits_5 Q K5 σ τ) : V σ τ 5 [(0, .ref (ad 1))] [] := by
  refine x_aload_n X dX9_readDigits_5 rfl 0 rfl ?_
  refine x_getI X dX9_readDigits_6 fl_9_31 dsX_1 rfl ?_
  refine x_aload_n X dX9_readDigits_9 rfl 0 rfl ?_
  refine x_getI X dX9_readDigits_10 fl_9_15 dsX_1 rfl ?_
  refine x_icmp_ge X 81 dX9_readDigits_13 (by decide) (fun hc => ?_) (fun hc => ?_)
  · have h := h.1 hc
    exact bX9_readDigits_81 X h
  · have h := h.2 hc
    refine x_aload_n X dX9_readDigits_16 rfl 0 rfl ?_
    refine x_getR X (j := 2) dX9_readDigits_17 fl_9_11 dsX_1 rfl ?_
    refine x_aload_n X dX9_readDigits_20 rfl 0 rfl ?_
    refine x_getI X dX9_readDigits_21 fl_9_31 dsX_1 rfl ?_
    have g24 := h.1
    have h := h.2
    refine x_bald X dX9_readDigits_24 dsX_2 g24 ?_
    refine x_callSi X [.int (σ 2 (σ 1 6).toNatClampNeg)] [] dX9_readDigits_25 (kX9_isDigit h) cm_X9_isDigit w_2_206 rfl w_2_205 ⟨by decide, by decide⟩ rfl (Nat.le_of_ble_eq_true rfl) (fun r25 σ25 τ25 h => ?_)
    refine x_if_eq X 81 dX9_readDigits_28 (by decide) (fun hc => ?_) (fun hc => ?_)
    · have h := h.1 hc
      exact bX9_readDigits_81 X h
    · have h := h.2 hc
      refine x_aload_n X dX9_readDigits_31 rfl 0 rfl ?_
      refine x_getI X dX9_readDigits_32 fl_9_31 dsX_1 rfl ?_
      refine x_aload_n X dX9_readDigits_35 rfl 0 rfl ?_
      refine x_getI X dX9_readDigits_36 fl_9_28 dsX_1 rfl ?_
      refine x_isub X dX9_readDigits_39 ?_
      refine x_iconst X dX9_readDigits_40 ki_5 ?_
      refine x_icmp_ge X 68 dX9_readDigits_41 (by decide) (fun hc => ?_) (fun hc => ?_)
      · have h := h.1 hc
        exact bX9_readDigits_68 X hK5 h
      · have h := h.2 hc
        refine x_aload_n X dX9_readDigits_44 rfl 0 rfl ?_
        refine x_aload_n X dX9_readDigits_45 rfl 0 rfl ?_
        refine x_getI X dX9_readDigits_46 fl_9_34 dsX_1 rfl ?_
        refine x_bipush X dX9_readDigits_49 kb_10 ?_
        refine x_imul X dX9_readDigits_51 ?_
        refine x_aload_n X dX9_readDigits_52 rfl 0 rfl ?_
        refine x_getR X (j := 2) dX9_readDigits_53 fl_9_11 dsX_1 rfl ?_
        refine x_aload_n X dX9_readDigits_56 rfl 0 rfl ?_
        refine x_getI X dX9_readDigits_57 fl_9_31 dsX_1 rfl ?_
        have g60 := h.1
        have h := h.2
        refine x_bald X dX9_readDigits_60 dsX_2 g60 ?_
        refine x_iadd X dX9_readDigits_61 ?_
        refine x_bipush X dX9_readDigits_62 kb_48 ?_
        refine x_isub X dX9_readDigits_64 ?_
        refine x_putI X dX9_readDigits_65 fl_9_34 ft_9_7 dsX_1 rfl ?_
        exact bX9_readDigits_68 X hK5 h
set_option maxRecDepth 100000 in
set_option maxHeartbeats 4000000 in
theorem kX9_readDigits {ad : Nat → Nat} {σ : x_S} {τ : x_L} {Q : x_S → x_L → Prop} (h : wX9_readDigits σ τ Q) : x_Met yX9_readDigits cX9_readDigits 1 (Option.none : Option Jvm.ClassFile.FieldType) 1 ad dsX [.ref (ad 1)] σ τ (x_PV Q) := by
  refine x_met (by decide +kernel) (Nat.le_of_ble_eq_true rfl) (fun V X => ?_)
  have X : x_Is V cX9_readDigits 1 RX9 (Option.none : Option Jvm.ClassFile.FieldType) ad dsX 1 (x_PV Q) := X
  show V σ τ 0 [(0, .ref (ad 1))] []
  refine x_aload_n X dX9_readDigits_0 rfl 0 rfl ?_
  refine x_iconst X dX9_readDigits_1 ki_0 ?_
  refine x_putI X dX9_readDigits_2 fl_9_34 ft_9_7 dsX_1 rfl ?_
  exact x_l0_G (fun σ τ => V σ τ 5 [(0, .ref (ad 1))] []) (fun K5 hK5 σ τ h => bX9_readDigits_5 X hK5 h) h
theorem dX9_readLetters_0 : decode cX9_readLetters 0 = .ok (.aload_n 0, 1) := by decide +kernel
theorem dX9_readLetters_1 : decode cX9_readLetters 1 = .ok (.getfield 31, 3) := by decide +kernel
theorem dX9_readLetters_4 : decode cX9_readLetters 4 = .ok (.aload_n 0, 1) := by decide +kernel
theorem dX9_readLetters_5 : decode cX9_readLetters 5 = .ok (.getfield 15, 3) := by decide +kernel
theorem dX9_readLetters_8 : decode cX9_readLetters 8 = .ok (.if_icmp .ge 31, 3) := by decide +kernel
theorem dX9_readLetters_11 : decode cX9_readLetters 11 = .ok (.aload_n 0, 1) := by decide +kernel
theorem dX9_readLetters_12 : decode cX9_readLetters 12 = .ok (.getfield 11, 3) := by decide +kernel
theorem dX9_readLetters_15 : decode cX9_readLetters 15 = .ok (.aload_n 0, 1) := by decide +kernel
theorem dX9_readLetters_16 : decode cX9_readLetters 16 = .ok (.getfield 31, 3) := by decide +kernel
theorem dX9_readLetters_19 : decode cX9_readLetters 19 = .ok (.baload, 1) := by decide +kernel
theorem dX9_readLetters_20 : decode cX9_readLetters 20 = .ok (.invokestatic 44, 3) := by decide +kernel
theorem dX9_readLetters_23 : decode cX9_readLetters 23 = .ok (.ifCond .eq 16, 3) := by decide +kernel
theorem dX9_readLetters_26 : decode cX9_readLetters 26 = .ok (.aload_n 0, 1) := by decide +kernel
theorem dX9_readLetters_27 : decode cX9_readLetters 27 = .ok (.dup, 1) := by decide +kernel
theorem dX9_readLetters_28 : decode cX9_readLetters 28 = .ok (.getfield 31, 3) := by decide +kernel
theorem dX9_readLetters_31 : decode cX9_readLetters 31 = .ok (.iconst 1, 1) := by decide +kernel
theorem dX9_readLetters_32 : decode cX9_readLetters 32 = .ok (.iadd, 1) := by decide +kernel
theorem dX9_readLetters_33 : decode cX9_readLetters 33 = .ok (.putfield 31, 3) := by decide +kernel
theorem dX9_readLetters_36 : decode cX9_readLetters 36 = .ok (.goto (-36), 3) := by decide +kernel
theorem dX9_readLetters_39 : decode cX9_readLetters 39 = .ok (.aload_n 0, 1) := by decide +kernel
theorem dX9_readLetters_40 : decode cX9_readLetters 40 = .ok (.aload_n 0, 1) := by decide +kernel
theorem dX9_readLetters_41 : decode cX9_readLetters 41 = .ok (.getfield 31, 3) := by decide +kernel
theorem dX9_readLetters_44 : decode cX9_readLetters 44 = .ok (.aload_n 0, 1) := by decide +kernel
theorem dX9_readLetters_45 : decode cX9_readLetters 45 = .ok (.getfield 28, 3) := by decide +kernel
theorem dX9_readLetters_48 : decode cX9_readLetters 48 = .ok (.isub, 1) := by decide +kernel
theorem dX9_readLetters_49 : decode cX9_readLetters 49 = .ok (.bipush 8, 2) := by decide +kernel
theorem dX9_readLetters_51 : decode cX9_readLetters 51 = .ok (.if_icmp .gt 7, 3) := by decide +kernel
theorem dX9_readLetters_54 : decode cX9_readLetters 54 = .ok (.iconst 1, 1) := by decide +kernel
theorem dX9_readLetters_55 : decode cX9_readLetters 55 = .ok (.goto 4, 3) := by decide +kernel
theorem dX9_readLetters_58 : decode cX9_readLetters 58 = .ok (.iconst 4, 1) := by decide +kernel
theorem dX9_readLetters_59 : decode cX9_readLetters 59 = .ok (.putfield 25, 3) := by decide +kernel
theorem dX9_readLetters_62 : decode cX9_readLetters 62 = .ok (.return_, 1) := by decide +kernel
theorem cm_X9_readLetters : x_CM yX9_readLetters cX9_readLetters 1 (Option.none : Option Jvm.ClassFile.FieldType) 0 := ⟨w_2_218, w_1_2, by decide +kernel, by decide +kernel⟩
theorem ci_X9_readLetters : x_CI yX9_readLetters 11 := ⟨w_2_217, wp_1, (RX9, TX9, 8), rfl, rfl⟩
set_option maxRecDepth 100000 in
set_option maxHeartbeats 4000000 in
theorem bX9_readLetters_59 {V : x_J} {ad : Nat → Nat} {Q : x_S → x_L → Prop} (X : x_Is V cX9_readLetters 1 RX9 (Option.none : Option Jvm.ClassFile.FieldType) ad dsX 1 (x_PV Q)) {s1 : Int32} {σ : x_S} {τ : x_L} (h : wX9_readLetters_59 Q s1 σ τ) : V σ τ 59 [] [.int s1, .ref (ad 1)] := by
  refine x_putI X dX9_readLetters_59 fl_9_25 ft_9_4 dsX_1 rfl ?_
  exact x_vret X dX9_readLetters_62 ⟨rfl, h⟩
set_option maxRecDepth 100000 in
set_option maxHeartbeats 4000000 in
theorem bX9_readLetters_39 {V : x_J} {ad : Nat → Nat} {Q : x_S → x_L → Prop} (X : x_Is V cX9_readLetters 1 RX9 (Option.none : Option Jvm.ClassFile.FieldType) ad dsX 1 (x_PV Q)) {σ : x_S} {τ : x_L} (h : wX9_readLetters_39 Q σ τ) : V σ τ 39 [(0, .ref (ad 1))] [] := by
  refine x_aload_n X dX9_readLetters_39 rfl 0 rfl ?_
  refine x_aload_n X dX9_readLetters_40 rfl 0 rfl ?_
  refine x_getI X dX9_readLetters_41 fl_9_31 dsX_1 rfl ?_
  refine x_aload_n X dX9_readLetters_44 rfl 0 rfl ?_
  refine x_getI X dX9_readLetters_45 fl_9_28 dsX_1 rfl ?_
  refine x_isub X dX9_readLetters_48 ?_
  refine x_bipush X dX9_readLetters_49 kb_8 ?_
  refine x_icmp_gt X 58 dX9_readLetters_51 (by decide) (fun hc => ?_) (fun hc => ?_)
  · have h := h.1 hc
    refine x_iconst X dX9_readLetters_58 ki_4 ?_
    refine x_sub X [] (lv' := []) rfl ?_
    exact bX9_readLetters_59 X h
  · have h := h.2 hc
    refine x_iconst X dX9_readLetters_54 ki_1 ?_
    refine x_goto X (tgt := 59) dX9_readLetters_55 (by decide) ?_
    refine x_sub X [] (lv' := []) rfl ?_
    exact bX9_readLetters_59 X h
set_option maxRecDepth 100000 in
set_option maxHeartbeats 4000000 in
theorem bX9_readLetters_0 {V : x_J} {ad : Nat → Nat} {Q : x_S → x_L → Prop} (X : x_Is V cX9_readLetters 1 RX9 (Option.none : Option Jvm.ClassFile.FieldType) ad dsX 1 (x_PV Q)) {K0 : x_S → x_L → Prop} (hK0 : ∀ σ τ, K0 σ τ → V σ τ 0 [(0, .ref (ad 1))] []) {σ : x_S} {τ : x_L} (h : wX9_readLetters_0 Q K0 σ τ) : V σ τ 0 [(0, .ref (ad 1))] [] := by
  refine x_aload_n X dX9_readLetters_0 rfl 0 rfl ?_
  refine x_getI X dX9_readLetters_1 fl_9_31 dsX_1 rfl ?_
  refine x_aload_n X dX9_readLetters_4 rfl 0 rfl ?_
  refine x_getI X dX9_readLetters_5 fl_9_15 dsX_1 rfl ?_
  refine x_icmp_ge X 39 dX9_readLetters_8 (by decide) (fun hc => ?_) (fun hc => ?_)
  · have h := h.1 hc
    exact bX9_readLetters_39 X h
  · have h := h.2 hc
    refine x_aload_n X dX9_readLetters_11 rfl 0 rfl ?_
    refine x_getR X (j := 2) dX9_readLetters_12 fl_9_11 dsX_1 rfl ?_
    refine x_aload_n X dX9_readLetters_15 rfl 0 rfl ?_
    refine x_getI X dX9_readLetters_16 fl_9_31 dsX_1 rfl ?_
    have g19 := h.1
    have h := h.2
    refine x_bald X dX9_readLetters_19 dsX_2 g19 ?_
    refine x_callSi X [.int (σ 2 (σ 1 6).toNatClampNeg)] [] dX9_readLetters_20 (kX9_isLetter h) cm_X9_isLetter w_2_213 rfl w_2_212 ⟨by decide, by decide⟩ rfl (Nat.le_of_ble_eq_true rfl) (fun r20 σ20 τ20 h => ?_)
    refine x_if_eq X 39 dX9_readLetters_23 (by decide) (fun hc => ?_) (fun hc => ?_)
    · have h := h.1 hc
      exact bX9_readLetters_39 X h
    · have h := h.2 hc
      refine x_aload_n X dX9_readLetters_26 rfl 0 rfl ?_
      refine x_dup X dX9_readLetters_27 rfl ?_
      refine x_getI X dX9_readLetters_28 fl_9_31 dsX_1 rfl ?_
      refine x_iconst X dX9_readLetters_31 ki_1 ?_
      refine x_iadd X dX9_readLetters_32 ?_
      refine x_putI X dX9_readLetters_33 fl_9_31 ft_9_6 dsX_1 rfl ?_
      refine x_goto X (tgt := 0) dX9_readLetters_36 (by decide) ?_
      exact hK0 _ _ h
set_option maxRecDepth 100000 in
set_option maxHeartbeats 4000000 in
theorem kX9_readLetters {ad : Nat → Nat} {σ : x_S} {τ : x_L} {Q : x_S → x_L → Prop} (h : wX9_readLetters σ τ Q) : x_Met yX9_readLetters cX9_readLetters 1 (Option.none : Option Jvm.ClassFile.FieldType) 1 ad dsX [.ref (ad 1)] σ τ (x_PV Q) := by
  refine x_met (by decide +kernel) (Nat.le_of_ble_eq_true rfl) (fun V X => ?_)
  have X : x_Is V cX9_readLetters 1 RX9 (Option.none : Option Jvm.ClassFile.FieldType) ad dsX 1 (x_PV Q) := X
  show V σ τ 0 [(0, .ref (ad 1))] []
  exact x_l0_G (fun σ τ => V σ τ 0 [(0, .ref (ad 1))] []) (fun K0 hK0 σ τ h => bX9_readLetters_0 X hK0 h) h
theorem dX9_next_0 : decode cX9_next 0 = .ok (.aload_n 0, 1) := by decide +kernel
theorem dX9_next_1 : decode cX9_next 1 = .ok (.aload_n 0, 1) := by decide +kernel
theorem dX9_next_2 : decode cX9_next 2 = .ok (.getfield 31, 3) := by decide +kernel
theorem dX9_next_5 : decode cX9_next 5 = .ok (.putfield 28, 3) := by decide +kernel
theorem dX9_next_8 : decode cX9_next 8 = .ok (.aload_n 0, 1) := by decide +kernel
theorem dX9_next_9 : decode cX9_next 9 = .ok (.getfield 28, 3) := by decide +kernel
theorem dX9_next_12 : decode cX9_next 12 = .ok (.aload_n 0, 1) := by decide +kernel
theorem dX9_next_13 : decode cX9_next 13 = .ok (.getfield 15, 3) := by decide +kernel
theorem dX9_next_16 : decode cX9_next 16 = .ok (.if_icmp .ge 44, 3) := by decide +kernel
theorem dX9_next_19 : decode cX9_next 19 = .ok (.aload_n 0, 1) := by decide +kernel
theorem dX9_next_20 : decode cX9_next 20 = .ok (.getfield 11, 3) := by decide +kernel
theorem dX9_next_23 : decode cX9_next 23 = .ok (.aload_n 0, 1) := by decide +kernel
theorem dX9_next_24 : decode cX9_next 24 = .ok (.getfield 28, 3) := by decide +kernel
theorem dX9_next_27 : decode cX9_next 27 = .ok (.baload, 1) := by decide +kernel
theorem dX9_next_28 : decode cX9_next 28 = .ok (.bipush 32, 2) := by decide +kernel
theorem dX9_next_30 : decode cX9_next 30 = .ok (.if_icmp .eq 17, 3) := by decide +kernel
theorem dX9_next_33 : decode cX9_next 33 = .ok (.aload_n 0, 1) := by decide +kernel
theorem dX9_next_34 : decode cX9_next 34 = .ok (.getfield 11, 3) := by decide +kernel
theorem dX9_next_37 : decode cX9_next 37 = .ok (.aload_n 0, 1) := by decide +kernel
theorem dX9_next_38 : decode cX9_next 38 = .ok (.getfield 28, 3) := by decide +kernel
theorem dX9_next_41 : decode cX9_next 41 = .ok (.baload, 1) := by decide +kernel
theorem dX9_next_42 : decode cX9_next 42 = .ok (.bipush 10, 2) := by decide +kernel
theorem dX9_next_44 : decode cX9_next 44 = .ok (.if_icmp .ne 16, 3) := by decide +kernel
theorem dX9_next_47 : decode cX9_next 47 = .ok (.aload_n 0, 1) := by decide +kernel
theorem dX9_next_48 : decode cX9_next 48 = .ok (.dup, 1) := by decide +kernel
theorem dX9_next_49 : decode cX9_next 49 = .ok (.getfield 28, 3) := by decide +kernel
theorem dX9_next_52 : decode cX9_next 52 = .ok (.iconst 1, 1) := by decide +kernel
theorem dX9_next_53 : decode cX9_next 53 = .ok (.iadd, 1) := by decide +kernel
theorem dX9_next_54 : decode cX9_next 54 = .ok (.putfield 28, 3) := by decide +kernel
theorem dX9_next_57 : decode cX9_next 57 = .ok (.goto (-49), 3) := by decide +kernel
theorem dX9_next_60 : decode cX9_next 60 = .ok (.aload_n 0, 1) := by decide +kernel
theorem dX9_next_61 : decode cX9_next 61 = .ok (.aload_n 0, 1) := by decide +kernel
theorem dX9_next_62 : decode cX9_next 62 = .ok (.getfield 28, 3) := by decide +kernel
theorem dX9_next_65 : decode cX9_next 65 = .ok (.putfield 31, 3) := by decide +kernel
theorem dX9_next_68 : decode cX9_next 68 = .ok (.aload_n 0, 1) := by decide +kernel
theorem dX9_next_69 : decode cX9_next 69 = .ok (.getfield 28, 3) := by decide +kernel
theorem dX9_next_72 : decode cX9_next 72 = .ok (.aload_n 0, 1) := by decide +kernel
theorem dX9_next_73 : decode cX9_next 73 = .ok (.getfield 15, 3) := by decide +kernel
theorem dX9_next_76 : decode cX9_next 76 = .ok (.if_icmp .lt 11, 3) := by decide +kernel
theorem dX9_next_79 : decode cX9_next 79 = .ok (.aload_n 0, 1) := by decide +kernel
theorem dX9_next_80 : decode cX9_next 80 = .ok (.iconst 0, 1) := by decide +kernel
theorem dX9_next_81 : decode cX9_next 81 = .ok (.putfield 25, 3) := by decide +kernel
theorem dX9_next_84 : decode cX9_next 84 = .ok (.goto 80, 3) := by decide +kernel
theorem dX9_next_87 : decode cX9_next 87 = .ok (.aload_n 0, 1) := by decide +kernel
theorem dX9_next_88 : decode cX9_next 88 = .ok (.getfield 11, 3) := by decide +kernel
theorem dX9_next_91 : decode cX9_next 91 = .ok (.aload_n 0, 1) := by decide +kernel
theorem dX9_next_92 : decode cX9_next 92 = .ok (.getfield 28, 3) := by decide +kernel
theorem dX9_next_95 : decode cX9_next 95 = .ok (.baload, 1) := by decide +kernel
theorem dX9_next_96 : decode cX9_next 96 = .ok (.invokestatic 37, 3) := by decide +kernel
theorem dX9_next_99 : decode cX9_next 99 = .ok (.ifCond .eq 10, 3) := by decide +kernel
theorem dX9_next_102 : decode cX9_next 102 = .ok (.aload_n 0, 1) := by decide +kernel
theorem dX9_next_103 : decode cX9_next 103 = .ok (.invokevirtual 41, 3) := by decide +kernel
theorem dX9_next_106 : decode cX9_next 106 = .ok (.goto 58, 3) := by decide +kernel
theorem dX9_next_109 : decode cX9_next 109 = .ok (.aload_n 0, 1) := by decide +kernel
theorem dX9_next_110 : decode cX9_next 110 = .ok (.getfield 11, 3) := by decide +kernel
theorem dX9_next_113 : decode cX9_next 113 = .ok (.aload_n 0, 1) := by decide +kernel
theorem dX9_next_114 : decode cX9_next 114 = .ok (.getfield 28, 3) := by decide +kernel
theorem dX9_next_117 : decode cX9_next 117 = .ok (.baload, 1) := by decide +kernel
theorem dX9_next_118 : decode cX9_next 118 = .ok (.invokestatic 44, 3) := by decide +kernel
theorem dX9_next_121 : decode cX9_next 121 = .ok (.ifCond .eq 10, 3) := by decide +kernel
theorem dX9_next_124 : decode cX9_next 124 = .ok (.aload_n 0, 1) := by decide +kernel
theorem dX9_next_125 : decode cX9_next 125 = .ok (.invokevirtual 47, 3) := by decide +kernel
theorem dX9_next_128 : decode cX9_next 128 = .ok (.goto 36, 3) := by decide +kernel
theorem dX9_next_131 : decode cX9_next 131 = .ok (.aload_n 0, 1) := by decide +kernel
theorem dX9_next_132 : decode cX9_next 132 = .ok (.aload_n 0, 1) := by decide +kernel
theorem dX9_next_133 : decode cX9_next 133 = .ok (.getfield 11, 3) := by decide +kernel
theorem dX9_next_136 : decode cX9_next 136 = .ok (.aload_n 0, 1) := by decide +kernel
theorem dX9_next_137 : decode cX9_next 137 = .ok (.getfield 28, 3) := by decide +kernel
theorem dX9_next_140 : decode cX9_next 140 = .ok (.baload, 1) := by decide +kernel
theorem dX9_next_141 : decode cX9_next 141 = .ok (.bipush 59, 2) := by decide +kernel
theorem dX9_next_143 : decode cX9_next 143 = .ok (.if_icmp .ne 7, 3) := by decide +kernel
theorem dX9_next_146 : decode cX9_next 146 = .ok (.iconst 3, 1) := by decide +kernel
theorem dX9_next_147 : decode cX9_next 147 = .ok (.goto 4, 3) := by decide +kernel
theorem dX9_next_150 : decode cX9_next 150 = .ok (.iconst 4, 1) := by decide +kernel
theorem dX9_next_151 : decode cX9_next 151 = .ok (.putfield 25, 3) := by decide +kernel
theorem dX9_next_154 : decode cX9_next 154 = .ok (.aload_n 0, 1) := by decide +kernel
theorem dX9_next_155 : decode cX9_next 155 = .ok (.aload_n 0, 1) := by decide +kernel
theorem dX9_next_156 : decode cX9_next 156 = .ok (.getfield 28, 3) := by decide +kernel
theorem dX9_next_159 : decode cX9_next 159 = .ok (.iconst 1, 1) := by decide +kernel
theorem dX9_next_160 : decode cX9_next 160 = .ok (.iadd, 1) := by decide +kernel
theorem dX9_next_161 : decode cX9_next 161 = .ok (.putfield 31, 3) := by decide +kernel
theorem dX9_next_164 : decode cX9_next 164 = .ok (.return_, 1) := by decide +kernel
theorem cm_X9_next : x_CM yX9_next cX9_next 1 (Option.none : Option Jvm.ClassFile.FieldType) 0 := ⟨w_2_204, w_1_2, by decide +kernel, by decide +kernel⟩
theorem ci_X9_next : x_CI yX9_next 11 := ⟨w_2_202, w_2_203, (RX9, TX9, 8), rfl, rfl⟩
set_option maxRecDepth 100000 in
set_option maxHeartbeats 4000000 in
theorem bX9_next_47 {V : x_J} {ad : Nat → Nat} {Q : x_S → x_L → Prop} (X : x_Is V cX9_next 1 RX9 (Option.none : Option Jvm.ClassFile.FieldType) ad dsX 2 (x_PV Q)) {K8 : x_S → x_L → Prop} (hK8 : ∀ σ τ, K8 σ τ → V σ τ 8 [(0, .ref (ad 1))] []) {σ : x_S} {τ : x_L} (h : wX9_next_47 K8 Q σ τ) : V σ τ 47 [(0, .ref (ad 1))] [] := by
  refine x_aload_n X dX9_next_47 rfl 0 rfl ?_
  refine x_dup X dX9_next_48 rfl ?_
  refine x_getI X dX9_next_49 fl_9_28 dsX_1 rfl ?_
  refine x_iconst X dX9_next_52 ki_1 ?_
  refine x_iadd X dX9_next_53 ?_
  refine x_putI X dX9_next_54 fl_9_28 ft_9_5 dsX_1 rfl ?_
  refine x_goto X (tgt := 8) dX9_next_57 (by decide) ?_
  exact hK8 _ _ h
set_option maxRecDepth 100000 in
set_option maxHeartbeats 4000000 in
theorem bX9_next_164 {V : x_J} {ad : Nat → Nat} {Q : x_S → x_L → Prop} (X : x_Is V cX9_next 1 RX9 (Option.none : Option Jvm.ClassFile.FieldType) ad dsX 2 (x_PV Q)) {σ : x_S} {τ : x_L} (h : wX9_next_164 Q σ τ) : V σ τ 164 [] [] := by
  exact x_vret X dX9_next_164 ⟨rfl, h⟩
set_option maxRecDepth 100000 in
set_option maxHeartbeats 4000000 in
theorem bX9_next_151 {V : x_J} {ad : Nat → Nat} {Q : x_S → x_L → Prop} (X : x_Is V cX9_next 1 RX9 (Option.none : Option Jvm.ClassFile.FieldType) ad dsX 2 (x_PV Q)) {s1 : Int32} {σ : x_S} {τ : x_L} (h : wX9_next_151 Q s1 σ τ) : V σ τ 151 [(0, .ref (ad 1))] [.int s1, .ref (ad 1)] := by
  refine x_putI X dX9_next_151 fl_9_25 ft_9_4 dsX_1 rfl ?_
  refine x_aload_n X dX9_next_154 rfl 0 rfl ?_
  refine x_aload_n X dX9_next_155 rfl 0 rfl ?_
  refine x_getI X dX9_next_156 fl_9_28 dsX_1 rfl ?_
  refine x_iconst X dX9_next_159 ki_1 ?_
  refine x_iadd X dX9_next_160 ?_
  refine x_putI X dX9_next_161 fl_9_31 ft_9_6 dsX_1 rfl ?_
  refine x_sub X [] (lv' := []) rfl ?_
  exact bX9_next_164 X h
set_option maxRecDepth 100000 in
set_option maxHeartbeats 4000000 in
theorem bX9_next_60 {V : x_J} {ad : Nat → Nat} {Q : x_S → x_L → Prop} (X : x_Is V cX9_next 1 RX9 (Option.none : Option Jvm.ClassFile.FieldType) ad dsX 2 (x_PV Q)) {σ : x_S} {τ : x_L} (h : wX9_next_60 Q σ τ) : V σ τ 60 [(0, .ref (ad 1))] [] := by
  refine x_aload_n X dX9_next_60 rfl 0 rfl ?_
  refine x_aload_n X dX9_next_61 rfl 0 rfl ?_
  refine x_getI X dX9_next_62 fl_9_28 dsX_1 rfl ?_
  refine x_putI X dX9_next_65 fl_9_31 ft_9_6 dsX_1 rfl ?_
  refine x_aload_n X dX9_next_68 rfl 0 rfl ?_
  refine x_getI X dX9_next_69 fl_9_28 dsX_1 rfl ?_
  refine x_aload_n X dX9_next_72 rfl 0 rfl ?_
  refine x_getI X dX9_next_73 fl_9_15 dsX_1 rfl ?_
  refine x_icmp_lt X 87 dX9_next_76 (by decide) (fun hc => ?_) (fun hc => ?_)
  · have h := h.1 hc
    refine x_aload_n X dX9_next_87 rfl 0 rfl ?_
    refine x_getR X (j := 2) dX9_next_88 fl_9_11 dsX_1 rfl ?_
    refine x_aload_n X dX9_next_91 rfl 0 rfl ?_
    refine x_getI X dX9_next_92 fl_9_28 dsX_1 rfl ?_
    have g95 := h.1
    have h := h.2
    refine x_bald X dX9_next_95 dsX_2 g95 ?_
    refine x_callSi X [.int ((x_up σ 1 6 (σ 1 5)) 2 ((x_up σ 1 6 (σ 1 5)) 1 5).toNatClampNeg)] [] dX9_next_96 (kX9_isDigit h) cm_X9_isDigit w_2_206 rfl w_2_205 ⟨by decide, by decide⟩ rfl (Nat.le_of_ble_eq_true rfl) (fun r96 σ96 τ96 h => ?_)
    refine x_if_eq X 109 dX9_next_99 (by decide) (fun hc => ?_) (fun hc => ?_)
    · have h := h.1 hc
      refine x_aload_n X dX9_next_109 rfl 0 rfl ?_
      refine x_getR X (j := 2) dX9_next_110 fl_9_11 dsX_1 rfl ?_
      refine x_aload_n X dX9_next_113 rfl 0 rfl ?_
      refine x_getI X dX9_next_114 fl_9_28 dsX_1 rfl ?_
      have g117 := h.1
      have h := h.2
      refine x_bald X dX9_next_117 dsX_2 g117 ?_
      refine x_callSi X [.int (σ96 2 (σ96 1 5).toNatClampNeg)] [] dX9_next_118 (kX9_isLetter h) cm_X9_isLetter w_2_213 rfl w_2_212 ⟨by decide, by decide⟩ rfl (Nat.le_of_ble_eq_true rfl) (fun r118 σ118 τ118 h => ?_)
      refine x_if_eq X 131 dX9_next_121 (by decide) (fun hc => ?_) (fun hc => ?_)
      · have h := h.1 hc
        refine x_aload_n X dX9_next_131 rfl 0 rfl ?_
        refine x_aload_n X dX9_next_132 rfl 0 rfl ?_
        refine x_getR X (j := 2) dX9_next_133 fl_9_11 dsX_1 rfl ?_
        refine x_aload_n X dX9_next_136 rfl 0 rfl ?_
        refine x_getI X dX9_next_137 fl_9_28 dsX_1 rfl ?_
        have g140 := h.1
        have h := h.2
        refine x_bald X dX9_next_140 dsX_2 g140 ?_
        refine x_bipush X dX9_next_141 kb_59 ?_
        refine x_icmp_ne X 150 dX9_next_143 (by decide) (fun hc => ?_) (fun hc => ?_)
        · have h := h.1 hc
          refine x_iconst X dX9_next_150 ki_4 ?_
          exact bX9_next_151 X h
        · have h := h.2 hc
          refine x_iconst X dX9_next_146 ki_3 ?_
          refine x_goto X (tgt := 151) dX9_next_147 (by decide) ?_
          exact bX9_next_151 X h
      · have h := h.2 hc
        refine x_aload_n X dX9_next_124 rfl 0 rfl ?_
        refine x_callVv X [] [] dX9_next_125 (kX9_readLetters h) cm_X9_readLetters ci_X9_readLetters w_2_215 dsX_1 ⟨by decide, by decide⟩ rfl (Nat.le_of_ble_eq_true rfl) (fun σ125 τ125 h => ?_)
        refine x_goto X (tgt := 164) dX9_next_128 (by decide) ?_
        refine x_sub X [] (lv' := []) rfl ?_
        exact bX9_next_164 X h
    · have h := h.2 hc
      refine x_aload_n X dX9_next_102 rfl 0 rfl ?_
      refine x_callVv X [] [] dX9_next_103 (kX9_readDigits h) cm_X9_readDigits ci_X9_readDigits w_2_208 dsX_1 ⟨by decide, by decide⟩ rfl (Nat.le_of_ble_eq_true rfl) (fun σ103 τ103 h => ?_)
      refine x_goto X (tgt := 164) dX9_next_106 (by decide) ?_
      refine x_sub X [] (lv' := []) rfl ?_
      exact bX9_next_164 X h
  · have h := h.2 hc
    refine x_aload_n X dX9_next_79 rfl 0 rfl ?_
    refine x_iconst X dX9_next_80 ki_0 ?_
    refine x_putI X dX9_next_81 fl_9_25 ft_9_4 dsX_1 rfl ?_
    refine x_goto X (tgt := 164) dX9_next_84 (by decide) ?_
    refine x_sub X [] (lv' := []) rfl ?_
    exact bX9_next_164 X h
set_option maxRecDepth 100000 in
set_option maxHeartbeats 4000000 in
theorem bX9_next_8 {V : x_J} {ad : Nat → Nat} {Q : x_S → x_L → Prop} (X : x_Is V cX9_next 1 RX9 (Option.none : Option Jvm.ClassFile.FieldType) ad dsX 2 (x_PV Q)) {K8 : x_S → x_L → Prop} (hK8 : ∀ σ τ, K8 σ τ → V σ τ 8 [(0, .ref (ad 1))] []) {σ : x_S} {τ : x_L} (h : wX9_next_8 Q K8 σ τ) : V σ τ 8 [(0, .ref (ad 1))] [] := by
  refine x_aload_n X dX9_next_8 rfl 0 rfl ?_
  refine x_getI X dX9_next_9 fl_9_28 dsX_1 rfl ?_
  refine x_aload_n X dX9_next_12 rfl 0 rfl ?_
  refine x_getI X dX9_next_13 fl_9_15 dsX_1 rfl ?_
  refine x_icmp_ge X 60 dX9_next_16 (by decide) (fun hc => ?_) (fun hc => ?_)
  · have h := h.1 hc
    exact bX9_next_60 X h
  · have h := h.2 hc
    refine x_aload_n X dX9_next_19 rfl 0 rfl ?_
    refine x_getR X (j := 2) dX9_next_20 fl_9_11 dsX_1 rfl ?_
    refine x_aload_n X dX9_next_23 rfl 0 rfl ?_
    refine x_getI X dX9_next_24 fl_9_28 dsX_1 rfl ?_
    have g27 := h.1
    have h := h.2
    refine x_bald X dX9_next_27 dsX_2 g27 ?_
    refine x_bipush X dX9_next_28 kb_32 ?_
    refine x_icmp_eq X 47 dX9_next_30 (by decide) (fun hc => ?_) (fun hc => ?_)
    · have h := h.1 hc
      exact bX9_next_47 X hK8 h
    · have h := h.2 hc
      refine x_aload_n X dX9_next_33 rfl 0 rfl ?_
      refine x_getR X (j := 2) dX9_next_34 fl_9_11 dsX_1 rfl ?_
      refine x_aload_n X dX9_next_37 rfl 0 rfl ?_
      refine x_getI X dX9_next_38 fl_9_28 dsX_1 rfl ?_
      refine x_bald X dX9_next_41 dsX_2 g27 ?_
      refine x_bipush X dX9_next_42 kb_10 ?_
      refine x_icmp_ne X 60 dX9_next_44 (by decide) (fun hc => ?_) (fun hc => ?_)
      · have h := h.1 hc
        exact bX9_next_60 X h
      · have h := h.2 hc
        exact bX9_next_47 X hK8 h
set_option maxRecDepth 100000 in
set_option maxHeartbeats 4000000 in
theorem kX9_next {ad : Nat → Nat} {σ : x_S} {τ : x_L} {Q : x_S → x_L → Prop} (h : wX9_next σ τ Q) : x_Met yX9_next cX9_next 1 (Option.none : Option Jvm.ClassFile.FieldType) 2 ad dsX [.ref (ad 1)] σ τ (x_PV Q) := by
  refine x_met (by decide +kernel) (Nat.le_of_ble_eq_true rfl) (fun V X => ?_)
  have X : x_Is V cX9_next 1 RX9 (Option.none : Option Jvm.ClassFile.FieldType) ad dsX 2 (x_PV Q) := X
  show V σ τ 0 [(0, .ref (ad 1))] []
  refine x_aload_n X dX9_next_0 rfl 0 rfl ?_
  refine x_aload_n X dX9_next_1 rfl 0 rfl ?_
  refine x_getI X dX9_next_2 fl_9_31 dsX_1 rfl ?_
  refine x_putI X dX9_next_5 fl_9_28 ft_9_5 dsX_1 rfl ?_
  exact x_l0_G (fun σ τ => V σ τ 8 [(0, .ref (ad 1))] []) (fun K8 hK8 σ τ h => bX9_next_8 X hK8 h) h
theorem dX9_readNumber_0 : decode cX9_readNumber 0 = .ok (.aload_n 0, 1) := by decide +kernel
theorem dX9_readNumber_1 : decode cX9_readNumber 1 = .ok (.invokevirtual 59, 3) := by decide +kernel
theorem dX9_readNumber_4 : decode cX9_readNumber 4 = .ok (.aload_n 0, 1) := by decide +kernel
theorem dX9_readNumber_5 : decode cX9_readNumber 5 = .ok (.getfield 25, 3) := by decide +kernel
theorem dX9_readNumber_8 : decode cX9_readNumber 8 = .ok (.iconst 2, 1) := by decide +kernel
theorem dX9_readNumber_9 : decode cX9_readNumber 9 = .ok (.if_icmp .eq 9, 3) := by decide +kernel
theorem dX9_readNumber_12 : decode cX9_readNumber 12 = .ok (.aload_n 0, 1) := by decide +kernel
theorem dX9_readNumber_13 : decode cX9_readNumber 13 = .ok (.iconst 1, 1) := by decide +kernel
theorem dX9_readNumber_14 : decode cX9_readNumber 14 = .ok (.invokevirtual 62, 3) := by decide +kernel
theorem dX9_readNumber_17 : decode cX9_readNumber 17 = .ok (.ireturn, 1) := by decide +kernel
theorem dX9_readNumber_18 : decode cX9_readNumber 18 = .ok (.aload_n 0, 1) := by decide +kernel
theorem dX9_readNumber_19 : decode cX9_readNumber 19 = .ok (.getfield 34, 3) := by decide +kernel
theorem dX9_readNumber_22 : decode cX9_readNumber 22 = .ok (.iload_n 1, 1) := by decide +kernel
theorem dX9_readNumber_23 : decode cX9_readNumber 23 = .ok (.if_icmp .lt 11, 3) := by decide +kernel
theorem dX9_readNumber_26 : decode cX9_readNumber 26 = .ok (.aload_n 0, 1) := by decide +kernel
theorem dX9_readNumber_27 : decode cX9_readNumber 27 = .ok (.getfield 34, 3) := by decide +kernel
theorem dX9_readNumber_30 : decode cX9_readNumber 30 = .ok (.iload_n 2, 1) := by decide +kernel
theorem dX9_readNumber_31 : decode cX9_readNumber 31 = .ok (.if_icmp .le 11, 3) := by decide +kernel
theorem dX9_readNumber_34 : decode cX9_readNumber 34 = .ok (.aload_n 0, 1) := by decide +kernel
theorem dX9_readNumber_35 : decode cX9_readNumber 35 = .ok (.iconst 2, 1) := by decide +kernel
theorem dX9_readNumber_36 : decode cX9_readNumber 36 = .ok (.invokevirtual 62, 3) := by decide +kernel
theorem dX9_readNumber_39 : decode cX9_readNumber 39 = .ok (.ifCond .eq 7, 3) := by decide +kernel
theorem dX9_readNumber_42 : decode cX9_readNumber 42 = .ok (.iconst 1, 1) := by decide +kernel
theorem dX9_readNumber_43 : decode cX9_readNumber 43 = .ok (.goto 4, 3) := by decide +kernel
theorem dX9_readNumber_46 : decode cX9_readNumber 46 = .ok (.iconst 0, 1) := by decide +kernel
theorem dX9_readNumber_47 : decode cX9_readNumber 47 = .ok (.ireturn, 1) := by decide +kernel
theorem cm_X9_readNumber : x_CM yX9_readNumber cX9_readNumber 3 (Option.some FieldType.boolean) 2 := ⟨w_3_39, w_1_2, by decide +kernel, by decide +kernel⟩
theorem ci_X9_readNumber : x_CI yX9_readNumber 11 := ⟨w_3_37, w_3_38, (RX9, TX9, 8), rfl, rfl⟩
set_option maxRecDepth 100000 in
set_option maxHeartbeats 4000000 in
theorem bX9_readNumber_47 {V : x_J} {ad : Nat → Nat} {Q : Int32 → x_S → x_L → Prop} (X : x_Is V cX9_readNumber 3 RX9 (Option.some FieldType.boolean) ad dsX 3 (x_PI Q)) {s0 : Int32} {σ : x_S} {τ : x_L} (h : wX9_readNumber_47 Q s0 σ τ) : V σ τ 47 [] [.int s0] := by
  exact x_zret X dX9_readNumber_47 ⟨h.1, _, rfl, h.2⟩
set_option maxRecDepth 100000 in
set_option maxHeartbeats 4000000 in
theorem bX9_readNumber_42 {V : x_J} {ad : Nat → Nat} {Q : Int32 → x_S → x_L → Prop} (X : x_Is V cX9_readNumber 3 RX9 (Option.some FieldType.boolean) ad dsX 3 (x_PI Q)) {σ : x_S} {τ : x_L} (h : wX9_readNumber_42 Q σ τ) : V σ τ 42 [] [] := by
  refine x_iconst X dX9_readNumber_42 ki_1 ?_
  refine x_goto X (tgt := 47) dX9_readNumber_43 (by decide) ?_
  exact bX9_readNumber_47 X h
set_option maxRecDepth 100000 in
set_option maxHeartbeats 4000000 in
theorem bX9_readNumber_34 {V : x_J} {ad : Nat → Nat} {Q : Int32 → x_S → x_L → Prop} (X : x_Is V cX9_readNumber 3 RX9 (Option.some FieldType.boolean) ad dsX 3 (x_PI Q)) {σ : x_S} {τ : x_L} (h : wX9_readNumber_34 Q σ τ) : V σ τ 34 [(0, .ref (ad 1))] [] := by
  refine x_aload_n X dX9_readNumber_34 rfl 0 rfl ?_
  refine x_iconst X dX9_readNumber_35 ki_2 ?_
  refine x_callVi X [.int 2] [] dX9_readNumber_36 (kX9_fail h) cm_X9_fail ci_X9_fail w_3_41 dsX_1 ⟨by decide, by decide⟩ rfl (Nat.le_of_ble_eq_true rfl) (fun r36 σ36 τ36 h => ?_)
  refine x_if_eq X 46 dX9_readNumber_39 (by decide) (fun hc => ?_) (fun hc => ?_)
  · have h := h.1 hc
    refine x_iconst X dX9_readNumber_46 ki_0 ?_
    refine x_sub X [] (lv' := []) rfl ?_
    exact bX9_readNumber_47 X h
  · have h := h.2 hc
    refine x_sub X [] (lv' := []) rfl ?_
    exact bX9_readNumber_42 X h
set_option maxRecDepth 100000 in
set_option maxHeartbeats 4000000 in
theorem kX9_readNumber {ad : Nat → Nat} {a1 : Int32} {a2 : Int32} {σ : x_S} {τ : x_L} {Q : Int32 → x_S → x_L → Prop} (h : wX9_readNumber a1 a2 σ τ Q) : x_Met yX9_readNumber cX9_readNumber 3 (Option.some FieldType.boolean) 3 ad dsX [.ref (ad 1), .int a1, .int a2] σ τ (x_PI Q) := by
  refine x_met (by decide +kernel) (Nat.le_of_ble_eq_true rfl) (fun V X => ?_)
  have X : x_Is V cX9_readNumber 3 RX9 (Option.some FieldType.boolean) ad dsX 3 (x_PI Q) := X
  show V σ τ 0 [(0, .ref (ad 1)), (1, .int a1), (2, .int a2)] []
  refine x_aload_n X dX9_readNumber_0 rfl 0 rfl ?_
  refine x_callVv X [] [] dX9_readNumber_1 (kX9_next h) cm_X9_next ci_X9_next w_3_40 dsX_1 ⟨by decide, by decide⟩ rfl (Nat.le_of_ble_eq_true rfl) (fun σ1 τ1 h => ?_)
  refine x_aload_n X dX9_readNumber_4 rfl 0 rfl ?_
  refine x_getI X dX9_readNumber_5 fl_9_25 dsX_1 rfl ?_
  refine x_iconst X dX9_readNumber_8 ki_2 ?_
  refine x_icmp_eq X 18 dX9_readNumber_9 (by decide) (fun hc => ?_) (fun hc => ?_)
  · have h := h.1 hc
    refine x_aload_n X dX9_readNumber_18 rfl 0 rfl ?_
    refine x_getI X dX9_readNumber_19 fl_9_34 dsX_1 rfl ?_
    refine x_iload_n X dX9_readNumber_22 rfl 1 rfl ?_
    refine x_icmp_lt X 34 dX9_readNumber_23 (by decide) (fun hc => ?_) (fun hc => ?_)
    · have h := h.1 hc
      refine x_sub X [0] (lv' := [(0, .ref (ad 1))]) rfl ?_
      exact bX9_readNumber_34 X h
    · have h := h.2 hc
      refine x_aload_n X dX9_readNumber_26 rfl 0 rfl ?_
      refine x_getI X dX9_readNumber_27 fl_9_34 dsX_1 rfl ?_
      refine x_iload_n X dX9_readNumber_30 rfl 2 rfl ?_
      refine x_icmp_le X 42 dX9_readNumber_31 (by decide) (fun hc => ?_) (fun hc => ?_)
      · have h := h.1 hc
        refine x_sub X [] (lv' := []) rfl ?_
        exact bX9_readNumber_42 X h
      · have h := h.2 hc
        refine x_sub X [0] (lv' := [(0, .ref (ad 1))]) rfl ?_
        exact bX9_readNumber_34 X h
  · have h := h.2 hc
    refine x_aload_n X dX9_readNumber_12 rfl 0 rfl ?_
    refine x_iconst X dX9_readNumber_13 ki_1 ?_
    refine x_callVi X [.int 1] [] dX9_readNumber_14 (kX9_fail h) cm_X9_fail ci_X9_fail w_3_41 dsX_1 ⟨by decide, by decide⟩ rfl (Nat.le_of_ble_eq_true rfl) (fun r14 σ14 τ14 h => ?_)
    exact x_zret X dX9_readNumber_17 ⟨h.1, _, rfl, h.2⟩
theorem dX9_readSemicolon_0 : decode cX9_readSemicolon 0 = .ok (.aload_n 0, 1) := by decide +kernel
theorem dX9_readSemicolon_1 : decode cX9_readSemicolon 1 = .ok (.invokevirtual 59, 3) := by decide +kernel
theorem dX9_readSemicolon_4 : decode cX9_readSemicolon 4 = .ok (.aload_n 0, 1) := by decide +kernel
theorem dX9_readSemicolon_5 : decode cX9_readSemicolon 5 = .ok (.getfield 25, 3) := by decide +kernel
theorem dX9_readSemicolon_8 : decode cX9_readSemicolon 8 = .ok (.iconst 3, 1) := by decide +kernel
theorem dX9_readSemicolon_9 : decode cX9_readSemicolon 9 = .ok (.if_icmp .eq 11, 3) := by decide +kernel
theorem dX9_readSemicolon_12 : decode cX9_readSemicolon 12 = .ok (.aload_n 0, 1) := by decide +kernel
theorem dX9_readSemicolon_13 : decode cX9_readSemicolon 13 = .ok (.iconst 1, 1) := by decide +kernel
theorem dX9_readSemicolon_14 : decode cX9_readSemicolon 14 = .ok (.invokevirtual 62, 3) := by decide +kernel
theorem dX9_readSemicolon_17 : decode cX9_readSemicolon 17 = .ok (.ifCond .eq 7, 3) := by decide +kernel
theorem dX9_readSemicolon_20 : decode cX9_readSemicolon 20 = .ok (.iconst 1, 1) := by decide +kernel
theorem dX9_readSemicolon_21 : decode cX9_readSemicolon 21 = .ok (.goto 4, 3) := by decide +kernel
theorem dX9_readSemicolon_24 : decode cX9_readSemicolon 24 = .ok (.iconst 0, 1) := by decide +kernel
theorem dX9_readSemicolon_25 : decode cX9_readSemicolon 25 = .ok (.ireturn, 1) := by decide +kernel
theorem cm_X9_readSemicolon : x_CM yX9_readSemicolon cX9_readSemicolon 1 (Option.some FieldType.boolean) 0 := ⟨w_3_49, w_1_2, by decide +kernel, by decide +kernel⟩
theorem ci_X9_readSemicolon : x_CI yX9_readSemicolon 11 := ⟨w_3_47, w_3_48, (RX9, TX9, 8), rfl, rfl⟩
set_option maxRecDepth 100000 in
set_option maxHeartbeats 4000000 in
theorem bX9_readSemicolon_25 {V : x_J} {ad : Nat → Nat} {Q : Int32 → x_S → x_L → Prop} (X : x_Is V cX9_readSemicolon 1 RX9 (Option.some FieldType.boolean) ad dsX 3 (x_PI Q)) {s0 : Int32} {σ : x_S} {τ : x_L} (h : wX9_readSemicolon_25 Q s0 σ τ) : V σ τ 25 [] [.int s0] := by
  exact x_zret X dX9_readSemicolon_25 ⟨h.1, _, rfl, h.2⟩
set_option maxRecDepth 100000 in
set_option maxHeartbeats 4000000 in
theorem bX9_readSemicolon_20 {V : x_J} {ad : Nat → Nat} {Q : Int32 → x_S → x_L → Prop} (X : x_Is V cX9_readSemicolon 1 RX9 (Option.some FieldType.boolean) ad dsX 3 (x_PI Q)) {σ : x_S} {τ : x_L} (h : wX9_readSemicolon_20 Q σ τ) : V σ τ 20 [] [] := by
  refine x_iconst X dX9_readSemicolon_20 ki_1 ?_
  refine x_goto X (tgt := 25) dX9_readSemicolon_21 (by decide) ?_
  exact bX9_readSemicolon_25 X h
set_option maxRecDepth 100000 in
set_option maxHeartbeats 4000000 in
theorem kX9_readSemicolon {ad : Nat → Nat} {σ : x_S} {τ : x_L} {Q : Int32 → x_S → x_L → Prop} (h : wX9_readSemicolon σ τ Q) : x_Met yX9_readSemicolon cX9_readSemicolon 1 (Option.some FieldType.boolean) 3 ad dsX [.ref (ad 1)] σ τ (x_PI Q) := by
  refine x_met (by decide +kernel) (Nat.le_of_ble_eq_true rfl) (fun V X => ?_)
  have X : x_Is V cX9_readSemicolon 1 RX9 (Option.some FieldType.boolean) ad dsX 3 (x_PI Q) := X
  show V σ τ 0 [(0, .ref (ad 1))] []
  refine x_aload_n X dX9_readSemicolon_0 rfl 0 rfl ?_
  refine x_callVv X [] [] dX9_readSemicolon_1 (kX9_next h) cm_X9_next ci_X9_next w_3_40 dsX_1 ⟨by decide, by decide⟩ rfl (Nat.le_of_ble_eq_true rfl) (fun σ1 τ1 h => ?_)
  refine x_aload_n X dX9_readSemicolon_4 rfl 0 rfl ?_
  refine x_getI X dX9_readSemicolon_5 fl_9_25 dsX_1 rfl ?_
  refine x_iconst X dX9_readSemicolon_8 ki_3 ?_
  refine x_icmp_eq X 20 dX9_readSemicolon_9 (by decide) (fun hc => ?_) (fun hc => ?_)
  · have h := h.1 hc
    refine x_sub X [] (lv' := []) rfl ?_
    exact bX9_readSemicolon_20 X h
  · have h := h.2 hc
    refine x_aload_n X dX9_readSemicolon_12 rfl 0 rfl ?_
    refine x_iconst X dX9_readSemicolon_13 ki_1 ?_
    refine x_callVi X [.int 1] [] dX9_readSemicolon_14 (kX9_fail h) cm_X9_fail ci_X9_fail w_3_41 dsX_1 ⟨by decide, by decide⟩ rfl (Nat.le_of_ble_eq_true rfl) (fun r14 σ14 τ14 h => ?_)
    refine x_if_eq X 24 dX9_readSemicolon_17 (by decide) (fun hc => ?_) (fun hc => ?_)
    · have h := h.1 hc
      refine x_iconst X dX9_readSemicolon_24 ki_0 ?_
      refine x_sub X [] (lv' := []) rfl ?_
      exact bX9_readSemicolon_25 X h
    · have h := h.2 hc
      refine x_sub X [] (lv' := []) rfl ?_
      exact bX9_readSemicolon_20 X h
theorem dX3_readRoad_0 : decode cX3_readRoad 0 = .ok (.aload_n 1, 1) := by decide +kernel
theorem dX3_readRoad_1 : decode cX3_readRoad 1 = .ok (.iconst 0, 1) := by decide +kernel
theorem dX3_readRoad_2 : decode cX3_readRoad 2 = .ok (.bipush 19, 2) := by decide +kernel
theorem dX3_readRoad_4 : decode cX3_readRoad 4 = .ok (.invokevirtual 52, 3) := by decide +kernel
theorem dX3_readRoad_7 : decode cX3_readRoad 7 = .ok (.ifCond .ne 5, 3) := by decide +kernel
theorem dX3_readRoad_10 : decode cX3_readRoad 10 = .ok (.iconst 0, 1) := by decide +kernel
theorem dX3_readRoad_11 : decode cX3_readRoad 11 = .ok (.ireturn, 1) := by decide +kernel
theorem dX3_readRoad_12 : decode cX3_readRoad 12 = .ok (.aload_n 0, 1) := by decide +kernel
theorem dX3_readRoad_13 : decode cX3_readRoad 13 = .ok (.getfield 12, 3) := by decide +kernel
theorem dX3_readRoad_16 : decode cX3_readRoad 16 = .ok (.getfield 56, 3) := by decide +kernel
theorem dX3_readRoad_19 : decode cX3_readRoad 19 = .ok (.iload_n 2, 1) := by decide +kernel
theorem dX3_readRoad_20 : decode cX3_readRoad 20 = .ok (.aload_n 1, 1) := by decide +kernel
theorem dX3_readRoad_21 : decode cX3_readRoad 21 = .ok (.getfield 60, 3) := by decide +kernel
theorem dX3_readRoad_24 : decode cX3_readRoad 24 = .ok (.iastore, 1) := by decide +kernel
theorem dX3_readRoad_25 : decode cX3_readRoad 25 = .ok (.aload_n 1, 1) := by decide +kernel
theorem dX3_readRoad_26 : decode cX3_readRoad 26 = .ok (.iconst 0, 1) := by decide +kernel
theorem dX3_readRoad_27 : decode cX3_readRoad 27 = .ok (.bipush 19, 2) := by decide +kernel
theorem dX3_readRoad_29 : decode cX3_readRoad 29 = .ok (.invokevirtual 52, 3) := by decide +kernel
theorem dX3_readRoad_32 : decode cX3_readRoad 32 = .ok (.ifCond .ne 5, 3) := by decide +kernel
theorem dX3_readRoad_35 : decode cX3_readRoad 35 = .ok (.iconst 0, 1) := by decide +kernel
theorem dX3_readRoad_36 : decode cX3_readRoad 36 = .ok (.ireturn, 1) := by decide +kernel
theorem dX3_readRoad_37 : decode cX3_readRoad 37 = .ok (.aload_n 0, 1) := by decide +kernel
theorem dX3_readRoad_38 : decode cX3_readRoad 38 = .ok (.getfield 12, 3) := by decide +kernel
theorem dX3_readRoad_41 : decode cX3_readRoad 41 = .ok (.getfield 63, 3) := by decide +kernel
theorem dX3_readRoad_44 : decode cX3_readRoad 44 = .ok (.iload_n 2, 1) := by decide +kernel
theorem dX3_readRoad_45 : decode cX3_readRoad 45 = .ok (.aload_n 1, 1) := by decide +kernel
theorem dX3_readRoad_46 : decode cX3_readRoad 46 = .ok (.getfield 60, 3) := by decide +kernel
theorem dX3_readRoad_49 : decode cX3_readRoad 49 = .ok (.iastore, 1) := by decide +kernel
theorem dX3_readRoad_50 : decode cX3_readRoad 50 = .ok (.aload_n 0, 1) := by decide +kernel
theorem dX3_readRoad_51 : decode cX3_readRoad 51 = .ok (.getfield 12, 3) := by decide +kernel
theorem dX3_readRoad_54 : decode cX3_readRoad 54 = .ok (.getfield 63, 3) := by decide +kernel
theorem dX3_readRoad_57 : decode cX3_readRoad 57 = .ok (.iload_n 2, 1) := by decide +kernel
theorem dX3_readRoad_58 : decode cX3_readRoad 58 = .ok (.iaload, 1) := by decide +kernel
theorem dX3_readRoad_59 : decode cX3_readRoad 59 = .ok (.aload_n 0, 1) := by decide +kernel
theorem dX3_readRoad_60 : decode cX3_readRoad 60 = .ok (.getfield 12, 3) := by decide +kernel
theorem dX3_readRoad_63 : decode cX3_readRoad 63 = .ok (.getfield 56, 3) := by decide +kernel
theorem dX3_readRoad_66 : decode cX3_readRoad 66 = .ok (.iload_n 2, 1) := by decide +kernel
theorem dX3_readRoad_67 : decode cX3_readRoad 67 = .ok (.iaload, 1) := by decide +kernel
theorem dX3_readRoad_68 : decode cX3_readRoad 68 = .ok (.if_icmp .ne 9, 3) := by decide +kernel
theorem dX3_readRoad_71 : decode cX3_readRoad 71 = .ok (.aload_n 1, 1) := by decide +kernel
theorem dX3_readRoad_72 : decode cX3_readRoad 72 = .ok (.iconst 3, 1) := by decide +kernel
theorem dX3_readRoad_73 : decode cX3_readRoad 73 = .ok (.invokevirtual 43, 3) := by decide +kernel
theorem dX3_readRoad_76 : decode cX3_readRoad 76 = .ok (.ireturn, 1) := by decide +kernel
theorem dX3_readRoad_77 : decode cX3_readRoad 77 = .ok (.aload_n 1, 1) := by decide +kernel
theorem dX3_readRoad_78 : decode cX3_readRoad 78 = .ok (.iconst 1, 1) := by decide +kernel
theorem dX3_readRoad_79 : decode cX3_readRoad 79 = .ok (.sipush 300, 3) := by decide +kernel
theorem dX3_readRoad_82 : decode cX3_readRoad 82 = .ok (.invokevirtual 52, 3) := by decide +kernel
theorem dX3_readRoad_85 : decode cX3_readRoad 85 = .ok (.ifCond .ne 5, 3) := by decide +kernel
theorem dX3_readRoad_88 : decode cX3_readRoad 88 = .ok (.iconst 0, 1) := by decide +kernel
theorem dX3_readRoad_89 : decode cX3_readRoad 89 = .ok (.ireturn, 1) := by decide +kernel
theorem dX3_readRoad_90 : decode cX3_readRoad 90 = .ok (.aload_n 0, 1) := by decide +kernel
theorem dX3_readRoad_91 : decode cX3_readRoad 91 = .ok (.getfield 12, 3) := by decide +kernel
theorem dX3_readRoad_94 : decode cX3_readRoad 94 = .ok (.getfield 66, 3) := by decide +kernel
theorem dX3_readRoad_97 : decode cX3_readRoad 97 = .ok (.iload_n 2, 1) := by decide +kernel
theorem dX3_readRoad_98 : decode cX3_readRoad 98 = .ok (.aload_n 1, 1) := by decide +kernel
theorem dX3_readRoad_99 : decode cX3_readRoad 99 = .ok (.getfield 60, 3) := by decide +kernel
theorem dX3_readRoad_102 : decode cX3_readRoad 102 = .ok (.iastore, 1) := by decide +kernel
theorem dX3_readRoad_103 : decode cX3_readRoad 103 = .ok (.aload_n 1, 1) := by decide +kernel
theorem dX3_readRoad_104 : decode cX3_readRoad 104 = .ok (.bipush 40, 2) := by decide +kernel
theorem dX3_readRoad_106 : decode cX3_readRoad 106 = .ok (.bipush 120, 2) := by decide +kernel
theorem dX3_readRoad_108 : decode cX3_readRoad 108 = .ok (.invokevirtual 52, 3) := by decide +kernel
theorem dX3_readRoad_111 : decode cX3_readRoad 111 = .ok (.ifCond .ne 5, 3) := by decide +kernel
theorem dX3_readRoad_114 : decode cX3_readRoad 114 = .ok (.iconst 0, 1) := by decide +kernel
theorem dX3_readRoad_115 : decode cX3_readRoad 115 = .ok (.ireturn, 1) := by decide +kernel
theorem dX3_readRoad_116 : decode cX3_readRoad 116 = .ok (.aload_n 0, 1) := by decide +kernel
theorem dX3_readRoad_117 : decode cX3_readRoad 117 = .ok (.getfield 12, 3) := by decide +kernel
theorem dX3_readRoad_120 : decode cX3_readRoad 120 = .ok (.getfield 69, 3) := by decide +kernel
theorem dX3_readRoad_123 : decode cX3_readRoad 123 = .ok (.iload_n 2, 1) := by decide +kernel
theorem dX3_readRoad_124 : decode cX3_readRoad 124 = .ok (.aload_n 1, 1) := by decide +kernel
theorem dX3_readRoad_125 : decode cX3_readRoad 125 = .ok (.getfield 60, 3) := by decide +kernel
theorem dX3_readRoad_128 : decode cX3_readRoad 128 = .ok (.iastore, 1) := by decide +kernel
theorem dX3_readRoad_129 : decode cX3_readRoad 129 = .ok (.aload_n 0, 1) := by decide +kernel
theorem dX3_readRoad_130 : decode cX3_readRoad 130 = .ok (.getfield 12, 3) := by decide +kernel
theorem dX3_readRoad_133 : decode cX3_readRoad 133 = .ok (.iload_n 2, 1) := by decide +kernel
theorem dX3_readRoad_134 : decode cX3_readRoad 134 = .ok (.iconst 1, 1) := by decide +kernel
theorem dX3_readRoad_135 : decode cX3_readRoad 135 = .ok (.iadd, 1) := by decide +kernel
theorem dX3_readRoad_136 : decode cX3_readRoad 136 = .ok (.putfield 18, 3) := by decide +kernel
theorem dX3_readRoad_139 : decode cX3_readRoad 139 = .ok (.aload_n 1, 1) := by decide +kernel
theorem dX3_readRoad_140 : decode cX3_readRoad 140 = .ok (.invokevirtual 72, 3) := by decide +kernel
theorem dX3_readRoad_143 : decode cX3_readRoad 143 = .ok (.ireturn, 1) := by decide +kernel
theorem cm_X3_readRoad : x_CM yX3_readRoad cX3_readRoad 3 (Option.some FieldType.boolean) 2 := ⟨w_3_35, w_1_4, by decide +kernel, by decide +kernel⟩
theorem ci_X3_readRoad : x_CI yX3_readRoad 5 := ⟨w_3_34, wp_2, (RX3, TX3, 1), rfl, rfl⟩
set_option maxRecDepth 100000 in
set_option maxHeartbeats 4000000 in
theorem kX3_readRoad {ad : Nat → Nat} {a2 : Int32} {σ : x_S} {τ : x_L} {Q : Int32 → x_S → x_L → Prop} (h : wX3_readRoad a2 σ τ Q) : x_Met yX3_readRoad cX3_readRoad 3 (Option.some FieldType.boolean) 4 ad dsX [.ref (ad 13), .ref (ad 1), .int a2] σ τ (x_PI Q) := by
  refine x_met (by decide +kernel) (Nat.le_of_ble_eq_true rfl) (fun V X => ?_)
  have X : x_Is V cX3_readRoad 3 RX3 (Option.some FieldType.boolean) ad dsX 4 (x_PI Q) := X
  show V σ τ 0 [(0, .ref (ad 13)), (1, .ref (ad 1)), (2, .int a2)] []
  refine x_aload_n X dX3_readRoad_0 rfl 1 rfl ?_
  refine x_iconst X dX3_readRoad_1 ki_0 ?_
  refine x_bipush X dX3_readRoad_2 kb_19 ?_
  refine x_callVi X [.int 0, .int 19] [] dX3_readRoad_4 (kX9_readNumber h) cm_X9_readNumber ci_X9_readNumber w_3_36 dsX_1 ⟨by decide, by decide⟩ rfl (Nat.le_of_ble_eq_true rfl) (fun r4 σ4 τ4 h => ?_)
  refine x_if_ne X 12 dX3_readRoad_7 (by decide) (fun hc => ?_) (fun hc => ?_)
  · have h := h.1 hc
    refine x_aload_n X dX3_readRoad_12 rfl 0 rfl ?_
    refine x_getR X (j := 14) dX3_readRoad_13 fl_3_12 dsX_13 rfl ?_
    refine x_getR X (j := 15) dX3_readRoad_16 fl_3_56 dsX_14 rfl ?_
    refine x_iload_n X dX3_readRoad_19 rfl 2 rfl ?_
    refine x_aload_n X dX3_readRoad_20 rfl 1 rfl ?_
    refine x_getI X dX3_readRoad_21 fl_3_60 dsX_1 rfl ?_
    have g24 := h.1
    have h := h.2
    refine x_iast X dX3_readRoad_24 dsX_15 g24 ?_
    refine x_aload_n X dX3_readRoad_25 rfl 1 rfl ?_
    refine x_iconst X dX3_readRoad_26 ki_0 ?_
    refine x_bipush X dX3_readRoad_27 kb_19 ?_
    refine x_callVi X [.int 0, .int 19] [] dX3_readRoad_29 (kX9_readNumber h) cm_X9_readNumber ci_X9_readNumber w_3_36 dsX_1 ⟨by decide, by decide⟩ rfl (Nat.le_of_ble_eq_true rfl) (fun r29 σ29 τ29 h => ?_)
    refine x_if_ne X 37 dX3_readRoad_32 (by decide) (fun hc => ?_) (fun hc => ?_)
    · have h := h.1 hc
      refine x_aload_n X dX3_readRoad_37 rfl 0 rfl ?_
      refine x_getR X (j := 14) dX3_readRoad_38 fl_3_12 dsX_13 rfl ?_
      refine x_getR X (j := 16) dX3_readRoad_41 fl_3_63 dsX_14 rfl ?_
      refine x_iload_n X dX3_readRoad_44 rfl 2 rfl ?_
      refine x_aload_n X dX3_readRoad_45 rfl 1 rfl ?_
      refine x_getI X dX3_readRoad_46 fl_3_60 dsX_1 rfl ?_
      refine x_iast X dX3_readRoad_49 dsX_16 g24 ?_
      refine x_aload_n X dX3_readRoad_50 rfl 0 rfl ?_
      refine x_getR X (j := 14) dX3_readRoad_51 fl_3_12 dsX_13 rfl ?_
      refine x_getR X (j := 16) dX3_readRoad_54 fl_3_63 dsX_14 rfl ?_
      refine x_iload_n X dX3_readRoad_57 rfl 2 rfl ?_
      refine x_iald X dX3_readRoad_58 dsX_16 g24 ?_
      refine x_aload_n X dX3_readRoad_59 rfl 0 rfl ?_
      refine x_getR X (j := 14) dX3_readRoad_60 fl_3_12 dsX_13 rfl ?_
      refine x_getR X (j := 15) dX3_readRoad_63 fl_3_56 dsX_14 rfl ?_
      refine x_iload_n X dX3_readRoad_66 rfl 2 rfl ?_
      refine x_iald X dX3_readRoad_67 dsX_15 g24 ?_
      refine x_icmp_ne X 77 dX3_readRoad_68 (by decide) (fun hc => ?_) (fun hc => ?_)
      · have h := h.1 hc
        refine x_aload_n X dX3_readRoad_77 rfl 1 rfl ?_
        refine x_iconst X dX3_readRoad_78 ki_1 ?_
        refine x_sipush X dX3_readRoad_79 ks_300 ?_
        refine x_callVi X [.int 1, .int 300] [] dX3_readRoad_82 (kX9_readNumber h) cm_X9_readNumber ci_X9_readNumber w_3_36 dsX_1 ⟨by decide, by decide⟩ rfl (Nat.le_of_ble_eq_true rfl) (fun r82 σ82 τ82 h => ?_)
        refine x_if_ne X 90 dX3_readRoad_85 (by decide) (fun hc => ?_) (fun hc => ?_)
        · have h := h.1 hc
          refine x_aload_n X dX3_readRoad_90 rfl 0 rfl ?_
          refine x_getR X (j := 14) dX3_readRoad_91 fl_3_12 dsX_13 rfl ?_
          refine x_getR X (j := 17) dX3_readRoad_94 fl_3_66 dsX_14 rfl ?_
          refine x_iload_n X dX3_readRoad_97 rfl 2 rfl ?_
          refine x_aload_n X dX3_readRoad_98 rfl 1 rfl ?_
          refine x_getI X dX3_readRoad_99 fl_3_60 dsX_1 rfl ?_
          refine x_iast X dX3_readRoad_102 dsX_17 g24 ?_
          refine x_aload_n X dX3_readRoad_103 rfl 1 rfl ?_
          refine x_bipush X dX3_readRoad_104 kb_40 ?_
          refine x_bipush X dX3_readRoad_106 kb_120 ?_
          refine x_callVi X [.int 40, .int 120] [] dX3_readRoad_108 (kX9_readNumber h) cm_X9_readNumber ci_X9_readNumber w_3_36 dsX_1 ⟨by decide, by decide⟩ rfl (Nat.le_of_ble_eq_true rfl) (fun r108 σ108 τ108 h => ?_)
          refine x_if_ne X 116 dX3_readRoad_111 (by decide) (fun hc => ?_) (fun hc => ?_)
          · have h := h.1 hc
            refine x_aload_n X dX3_readRoad_116 rfl 0 rfl ?_
            refine x_getR X (j := 14) dX3_readRoad_117 fl_3_12 dsX_13 rfl ?_
            refine x_getR X (j := 18) dX3_readRoad_120 fl_3_69 dsX_14 rfl ?_
            refine x_iload_n X dX3_readRoad_123 rfl 2 rfl ?_
            refine x_aload_n X dX3_readRoad_124 rfl 1 rfl ?_
            refine x_getI X dX3_readRoad_125 fl_3_60 dsX_1 rfl ?_
            refine x_iast X dX3_readRoad_128 dsX_18 g24 ?_
            refine x_aload_n X dX3_readRoad_129 rfl 0 rfl ?_
            refine x_getR X (j := 14) dX3_readRoad_130 fl_3_12 dsX_13 rfl ?_
            refine x_iload_n X dX3_readRoad_133 rfl 2 rfl ?_
            refine x_iconst X dX3_readRoad_134 ki_1 ?_
            refine x_iadd X dX3_readRoad_135 ?_
            refine x_putI X dX3_readRoad_136 fl_3_18 ft_1_0 dsX_14 rfl ?_
            refine x_aload_n X dX3_readRoad_139 rfl 1 rfl ?_
            refine x_callVi X [] [] dX3_readRoad_140 (kX9_readSemicolon h) cm_X9_readSemicolon ci_X9_readSemicolon w_3_46 dsX_1 ⟨by decide, by decide⟩ rfl (Nat.le_of_ble_eq_true rfl) (fun r140 σ140 τ140 h => ?_)
            exact x_zret X dX3_readRoad_143 ⟨h.1, _, rfl, h.2⟩
          · have h := h.2 hc
            refine x_iconst X dX3_readRoad_114 ki_0 ?_
            exact x_zret X dX3_readRoad_115 ⟨Or.inl rfl, _, rfl, h⟩
        · have h := h.2 hc
          refine x_iconst X dX3_readRoad_88 ki_0 ?_
          exact x_zret X dX3_readRoad_89 ⟨Or.inl rfl, _, rfl, h⟩
      · have h := h.2 hc
        refine x_aload_n X dX3_readRoad_71 rfl 1 rfl ?_
        refine x_iconst X dX3_readRoad_72 ki_3 ?_
        refine x_callVi X [.int 3] [] dX3_readRoad_73 (kX9_fail h) cm_X9_fail ci_X9_fail w_3_45 dsX_1 ⟨by decide, by decide⟩ rfl (Nat.le_of_ble_eq_true rfl) (fun r73 σ73 τ73 h => ?_)
        exact x_zret X dX3_readRoad_76 ⟨h.1, _, rfl, h.2⟩
    · have h := h.2 hc
      refine x_iconst X dX3_readRoad_35 ki_0 ?_
      exact x_zret X dX3_readRoad_36 ⟨Or.inl rfl, _, rfl, h⟩
  · have h := h.2 hc
    refine x_iconst X dX3_readRoad_10 ki_0 ?_
    exact x_zret X dX3_readRoad_11 ⟨Or.inl rfl, _, rfl, h⟩
