theorem dX11_digest_0 : decode cX11_digest 0 = .ok (.aload_n 0, 1) := by decide +kernel
theorem dX11_digest_1 : decode cX11_digest 1 = .ok (.iconst 0, 1) := by decide +kernel
theorem dX11_digest_2 : decode cX11_digest 2 = .ok (.putfield 82, 3) := by decide +kernel
theorem dX11_digest_5 : decode cX11_digest 5 = .ok (.aload_n 0, 1) := by decide +kernel
theorem dX11_digest_6 : decode cX11_digest 6 = .ok (.invokevirtual 200, 3) := by decide +kernel
theorem dX11_digest_9 : decode cX11_digest 9 = .ok (.iconst 1, 1) := by decide +kernel
theorem dX11_digest_10 : decode cX11_digest 10 = .ok (.istore_n 1, 1) := by decide +kernel
theorem dX11_digest_11 : decode cX11_digest 11 = .ok (.iconst 0, 1) := by decide +kernel
theorem dX11_digest_12 : decode cX11_digest 12 = .ok (.istore_n 2, 1) := by decide +kernel
theorem dX11_digest_13 : decode cX11_digest 13 = .ok (.iload_n 2, 1) := by decide +kernel
theorem dX11_digest_14 : decode cX11_digest 14 = .ok (.aload_n 0, 1) := by decide +kernel
theorem dX11_digest_15 : decode cX11_digest 15 = .ok (.getfield 17, 3) := by decide +kernel
theorem dX11_digest_18 : decode cX11_digest 18 = .ok (.iconst 1, 1) := by decide +kernel
theorem dX11_digest_19 : decode cX11_digest 19 = .ok (.iaload, 1) := by decide +kernel
theorem dX11_digest_20 : decode cX11_digest 20 = .ok (.if_icmp .ge 62, 3) := by decide +kernel
theorem dX11_digest_23 : decode cX11_digest 23 = .ok (.iconst 0, 1) := by decide +kernel
theorem dX11_digest_24 : decode cX11_digest 24 = .ok (.istore_n 3, 1) := by decide +kernel
theorem dX11_digest_25 : decode cX11_digest 25 = .ok (.iload_n 3, 1) := by decide +kernel
theorem dX11_digest_26 : decode cX11_digest 26 = .ok (.aload_n 0, 1) := by decide +kernel
theorem dX11_digest_27 : decode cX11_digest 27 = .ok (.iload_n 2, 1) := by decide +kernel
theorem dX11_digest_28 : decode cX11_digest 28 = .ok (.invokevirtual 107, 3) := by decide +kernel
theorem dX11_digest_31 : decode cX11_digest 31 = .ok (.if_icmp .ge 45, 3) := by decide +kernel
theorem dX11_digest_34 : decode cX11_digest 34 = .ok (.bipush 31, 2) := by decide +kernel
theorem dX11_digest_36 : decode cX11_digest 36 = .ok (.bipush 31, 2) := by decide +kernel
theorem dX11_digest_38 : decode cX11_digest 38 = .ok (.bipush 31, 2) := by decide +kernel
theorem dX11_digest_40 : decode cX11_digest 40 = .ok (.iload_n 1, 1) := by decide +kernel
theorem dX11_digest_41 : decode cX11_digest 41 = .ok (.imul, 1) := by decide +kernel
theorem dX11_digest_42 : decode cX11_digest 42 = .ok (.aload_n 0, 1) := by decide +kernel
theorem dX11_digest_43 : decode cX11_digest 43 = .ok (.getfield 20, 3) := by decide +kernel
theorem dX11_digest_46 : decode cX11_digest 46 = .ok (.iload_n 2, 1) := by decide +kernel
theorem dX11_digest_47 : decode cX11_digest 47 = .ok (.iload_n 3, 1) := by decide +kernel
theorem dX11_digest_48 : decode cX11_digest 48 = .ok (.invokestatic 111, 3) := by decide +kernel
theorem dX11_digest_51 : decode cX11_digest 51 = .ok (.iaload, 1) := by decide +kernel
theorem dX11_digest_52 : decode cX11_digest 52 = .ok (.iadd, 1) := by decide +kernel
theorem dX11_digest_53 : decode cX11_digest 53 = .ok (.imul, 1) := by decide +kernel
theorem dX11_digest_54 : decode cX11_digest 54 = .ok (.aload_n 0, 1) := by decide +kernel
theorem dX11_digest_55 : decode cX11_digest 55 = .ok (.iload_n 2, 1) := by decide +kernel
theorem dX11_digest_56 : decode cX11_digest 56 = .ok (.iload_n 3, 1) := by decide +kernel
theorem dX11_digest_57 : decode cX11_digest 57 = .ok (.invokevirtual 120, 3) := by decide +kernel
theorem dX11_digest_60 : decode cX11_digest 60 = .ok (.iadd, 1) := by decide +kernel
theorem dX11_digest_61 : decode cX11_digest 61 = .ok (.imul, 1) := by decide +kernel
theorem dX11_digest_62 : decode cX11_digest 62 = .ok (.aload_n 0, 1) := by decide +kernel
theorem dX11_digest_63 : decode cX11_digest 63 = .ok (.iload_n 2, 1) := by decide +kernel
theorem dX11_digest_64 : decode cX11_digest 64 = .ok (.iload_n 3, 1) := by decide +kernel
theorem dX11_digest_65 : decode cX11_digest 65 = .ok (.invokevirtual 188, 3) := by decide +kernel
theorem dX11_digest_68 : decode cX11_digest 68 = .ok (.iadd, 1) := by decide +kernel
theorem dX11_digest_69 : decode cX11_digest 69 = .ok (.istore_n 1, 1) := by decide +kernel
theorem dX11_digest_70 : decode cX11_digest 70 = .ok (.iinc 3 1, 3) := by decide +kernel
theorem dX11_digest_73 : decode cX11_digest 73 = .ok (.goto (-48), 3) := by decide +kernel
theorem dX11_digest_76 : decode cX11_digest 76 = .ok (.iinc 2 1, 3) := by decide +kernel
theorem dX11_digest_79 : decode cX11_digest 79 = .ok (.goto (-66), 3) := by decide +kernel
theorem dX11_digest_82 : decode cX11_digest 82 = .ok (.iload_n 1, 1) := by decide +kernel
theorem dX11_digest_83 : decode cX11_digest 83 = .ok (.ireturn, 1) := by decide +kernel
theorem cm_X11_digest : x_CM yX11_digest cX11_digest 4 (Option.some FieldType.int) 0 := ⟨w_9_66, w_1_12, by decide +kernel, by decide +kernel⟩
theorem ci_X11_digest : x_CI yX11_digest 13 := ⟨w_9_64, w_9_65, (RX11, TX11, 41), rfl, rfl⟩
set_option maxRecDepth 100000 in
set_option maxHeartbeats 4000000 in
theorem bX11_digest_25 {V : x_J} {ad : Nat → Nat} {Q : Int32 → x_S → x_L → Prop} (X : x_Is V cX11_digest 4 RX11 (Option.some FieldType.int) ad dsM 6 (x_PI Q)) {K13 : Int32 → Int32 → x_S → x_L → Prop} {K25 : Int32 → Int32 → Int32 → x_S → x_L → Prop} (hK13 : ∀ v1 v2 σ τ, K13 v1 v2 σ τ → V σ τ 13 [(0, .ref (ad 0)), (1, .int v1), (2, .int v2)] []) (hK25 : ∀ v1 v2 v3 σ τ, K25 v1 v2 v3 σ τ → V σ τ 25 [(0, .ref (ad 0)), (1, .int v1), (2, .int v2), (3, .int v3)] []) {v1 : Int32} {v2 : Int32} {v3 : Int32} {σ : x_S} {τ : x_L} (h : wX11_digest_25 K13 Q K25 v1 v2 v3 σ τ) : V σ τ 25 [(0, .ref (ad 0)), (1, .int v1), (2, .int v2), (3, .int v3)] [] := by
  refine x_iload_n X dX11_digest_25 rfl 3 rfl ?_
  refine x_aload_n X dX11_digest_26 rfl 0 rfl ?_
  refine x_iload_n X dX11_digest_27 rfl 2 rfl ?_
  refine x_callVi X [.int v2] [.int v3] dX11_digest_28 (kX11_placesOf h) cm_X11_placesOf ci_X11_placesOf w_7_109 dsM_0 ⟨by decide, by decide⟩ rfl (Nat.le_of_ble_eq_true rfl) (fun r28 σ28 τ28 h => ?_)
  refine x_icmp_ge X 76 dX11_digest_31 (by decide) (fun hc => ?_) (fun hc => ?_)
  · have h := h.1 hc
    refine x_iinc X (k := 2) (lv' := [(2, .int (v2 + 1)), (0, .ref (ad 0)), (1, .int v1), (3, .int v3)]) dX11_digest_76 rfl ki_1 (by decide) rfl ?_
    refine x_goto X (tgt := 13) dX11_digest_79 (by decide) ?_
    refine x_sub X [1, 2, 0] (lv' := [(0, .ref (ad 0)), (1, .int v1), (2, .int (v2 + 1))]) rfl ?_
    exact hK13 _ _ _ _ h
  · have h := h.2 hc
    refine x_bipush X dX11_digest_34 kb_31 ?_
    refine x_bipush X dX11_digest_36 kb_31 ?_
    refine x_bipush X dX11_digest_38 kb_31 ?_
    refine x_iload_n X dX11_digest_40 rfl 1 rfl ?_
    refine x_imul X dX11_digest_41 ?_
    refine x_aload_n X dX11_digest_42 rfl 0 rfl ?_
    refine x_getR X (j := 4) dX11_digest_43 fl_11_20 dsM_0 rfl ?_
    refine x_iload_n X dX11_digest_46 rfl 2 rfl ?_
    refine x_iload_n X dX11_digest_47 rfl 3 rfl ?_
    refine x_callSi X [.int v2, .int v3] [.ref (ad 4), .int (31 * v1), .int 31, .int 31] dX11_digest_48 (kX11_spot h) cm_X11_spot w_7_118 rfl w_7_117 ⟨by decide, by decide⟩ rfl (Nat.le_of_ble_eq_true rfl) (fun r48 σ48 τ48 h => ?_)
    have g51 := h.1
    have h := h.2
    refine x_iald X dX11_digest_51 dsM_4 g51 ?_
    refine x_iadd X dX11_digest_52 ?_
    refine x_imul X dX11_digest_53 ?_
    refine x_aload_n X dX11_digest_54 rfl 0 rfl ?_
    refine x_iload_n X dX11_digest_55 rfl 2 rfl ?_
    refine x_iload_n X dX11_digest_56 rfl 3 rfl ?_
    refine x_callVi X [.int v2, .int v3] [.int (31 * ((31 * v1) + (σ48 4 r48.toNatClampNeg))), .int 31] dX11_digest_57 (kX11_speedAt h) cm_X11_speedAt ci_X11_speedAt w_7_128 dsM_0 ⟨by decide, by decide⟩ rfl (Nat.le_of_ble_eq_true rfl) (fun r57 σ57 τ57 h => ?_)
    refine x_iadd X dX11_digest_60 ?_
    refine x_imul X dX11_digest_61 ?_
    refine x_aload_n X dX11_digest_62 rfl 0 rfl ?_
    refine x_iload_n X dX11_digest_63 rfl 2 rfl ?_
    refine x_iload_n X dX11_digest_64 rfl 3 rfl ?_
    refine x_callVi X [.int v2, .int v3] [.int (31 * ((31 * ((31 * v1) + (σ48 4 r48.toNatClampNeg))) + r57))] dX11_digest_65 (kX11_fuelAt h) cm_X11_fuelAt ci_X11_fuelAt w_7_238 dsM_0 ⟨by decide, by decide⟩ rfl (Nat.le_of_ble_eq_true rfl) (fun r65 σ65 τ65 h => ?_)
    refine x_iadd X dX11_digest_68 ?_
    refine x_istore_n X (lv' := [(1, .int ((31 * ((31 * ((31 * v1) + (σ48 4 r48.toNatClampNeg))) + r57)) + r65)), (0, .ref (ad 0)), (2, .int v2), (3, .int v3)]) dX11_digest_69 rfl (by decide) rfl ?_
    refine x_iinc X (k := 3) (lv' := [(3, .int (v3 + 1)), (1, .int ((31 * ((31 * ((31 * v1) + (σ48 4 r48.toNatClampNeg))) + r57)) + r65)), (0, .ref (ad 0)), (2, .int v2)]) dX11_digest_70 rfl ki_1 (by decide) rfl ?_
    refine x_goto X (tgt := 25) dX11_digest_73 (by decide) ?_
    refine x_sub X [2, 1, 3, 0] (lv' := [(0, .ref (ad 0)), (1, .int ((31 * ((31 * ((31 * v1) + (σ48 4 r48.toNatClampNeg))) + r57)) + r65)), (2, .int v2), (3, .int (v3 + 1))]) rfl ?_
    exact hK25 _ _ _ _ _ h
set_option maxRecDepth 100000 in
set_option maxHeartbeats 4000000 in
theorem bX11_digest_13 {V : x_J} {ad : Nat → Nat} {Q : Int32 → x_S → x_L → Prop} (X : x_Is V cX11_digest 4 RX11 (Option.some FieldType.int) ad dsM 6 (x_PI Q)) {K13 : Int32 → Int32 → x_S → x_L → Prop} (hK13 : ∀ v1 v2 σ τ, K13 v1 v2 σ τ → V σ τ 13 [(0, .ref (ad 0)), (1, .int v1), (2, .int v2)] []) {v1 : Int32} {v2 : Int32} {σ : x_S} {τ : x_L} (h : wX11_digest_13 Q K13 v1 v2 σ τ) : V σ τ 13 [(0, .ref (ad 0)), (1, .int v1), (2, .int v2)] [] := by
  refine x_iload_n X dX11_digest_13 rfl 2 rfl ?_
  refine x_aload_n X dX11_digest_14 rfl 0 rfl ?_
  refine x_getR X (j := 3) dX11_digest_15 fl_11_17 dsM_0 rfl ?_
  refine x_iconst X dX11_digest_18 ki_1 ?_
  refine x_iald X dX11_digest_19 dsM_3 (x_inl (by decide)) ?_
  refine x_icmp_ge X 82 dX11_digest_20 (by decide) (fun hc => ?_) (fun hc => ?_)
  · have h := h.1 hc
    refine x_iload_n X dX11_digest_82 rfl 1 rfl ?_
    exact x_iret X dX11_digest_83 ⟨_, rfl, h⟩
  · have h := h.2 hc
    refine x_iconst X dX11_digest_23 ki_0 ?_
    refine x_istore_n X (lv' := [(3, .int 0), (0, .ref (ad 0)), (1, .int v1), (2, .int v2)]) dX11_digest_24 rfl (by decide) rfl ?_
    refine x_sub X [1, 2, 3, 0] (lv' := [(0, .ref (ad 0)), (1, .int v1), (2, .int v2), (3, .int 0)]) rfl ?_
    exact x_l3_G (fun v1 v2 v3 σ τ => V σ τ 25 [(0, .ref (ad 0)), (1, .int v1), (2, .int v2), (3, .int v3)] []) (fun K25 hK25 v1 v2 v3 σ τ h => bX11_digest_25 X hK13 hK25 h) h
set_option maxRecDepth 100000 in
set_option maxHeartbeats 4000000 in
theorem kX11_digest {ad : Nat → Nat} {σ : x_S} {τ : x_L} {Q : Int32 → x_S → x_L → Prop} (h : wX11_digest σ τ Q) : x_Met yX11_digest cX11_digest 4 (Option.some FieldType.int) 6 ad dsM [.ref (ad 0)] σ τ (x_PI Q) := by
  refine x_met (by decide +kernel) (Nat.le_of_ble_eq_true rfl) (fun V X => ?_)
  have X : x_Is V cX11_digest 4 RX11 (Option.some FieldType.int) ad dsM 6 (x_PI Q) := X
  show V σ τ 0 [(0, .ref (ad 0))] []
  refine x_aload_n X dX11_digest_0 rfl 0 rfl ?_
  refine x_iconst X dX11_digest_1 ki_0 ?_
  refine x_putI X dX11_digest_2 fl_11_82 ft_11_5 dsM_0 rfl ?_
  refine x_aload_n X dX11_digest_5 rfl 0 rfl ?_
  refine x_callVv X [] [] dX11_digest_6 (kX11_lay h) cm_X11_lay ci_X11_lay w_7_101 dsM_0 ⟨by decide, by decide⟩ rfl (Nat.le_of_ble_eq_true rfl) (fun σ6 τ6 h => ?_)
  refine x_iconst X dX11_digest_9 ki_1 ?_
  refine x_istore_n X (lv' := [(1, .int 1), (0, .ref (ad 0))]) dX11_digest_10 rfl (by decide) rfl ?_
  refine x_iconst X dX11_digest_11 ki_0 ?_
  refine x_istore_n X (lv' := [(2, .int 0), (1, .int 1), (0, .ref (ad 0))]) dX11_digest_12 rfl (by decide) rfl ?_
  refine x_sub X [2, 1, 0] (lv' := [(0, .ref (ad 0)), (1, .int 1), (2, .int 0)]) rfl ?_
  exact x_l2_G (fun v1 v2 σ τ => V σ τ 13 [(0, .ref (ad 0)), (1, .int v1), (2, .int v2)] []) (fun K13 hK13 v1 v2 σ τ h => bX11_digest_13 X hK13 h) h
theorem dX11_put_0 : decode cX11_put 0 = .ok (.aload_n 0, 1) := by decide +kernel
theorem dX11_put_1 : decode cX11_put 1 = .ok (.getfield 68, 3) := by decide +kernel
theorem dX11_put_4 : decode cX11_put 4 = .ok (.aload_n 0, 1) := by decide +kernel
theorem dX11_put_5 : decode cX11_put 5 = .ok (.getfield 374, 3) := by decide +kernel
theorem dX11_put_8 : decode cX11_put 8 = .ok (.iload_n 1, 1) := by decide +kernel
theorem dX11_put_9 : decode cX11_put 9 = .ok (.iastore, 1) := by decide +kernel
theorem dX11_put_10 : decode cX11_put 10 = .ok (.aload_n 0, 1) := by decide +kernel
theorem dX11_put_11 : decode cX11_put 11 = .ok (.dup, 1) := by decide +kernel
theorem dX11_put_12 : decode cX11_put 12 = .ok (.getfield 374, 3) := by decide +kernel
theorem dX11_put_15 : decode cX11_put 15 = .ok (.iconst 1, 1) := by decide +kernel
theorem dX11_put_16 : decode cX11_put 16 = .ok (.iadd, 1) := by decide +kernel
theorem dX11_put_17 : decode cX11_put 17 = .ok (.putfield 374, 3) := by decide +kernel
theorem dX11_put_20 : decode cX11_put 20 = .ok (.return_, 1) := by decide +kernel
theorem cm_X11_put : x_CM yX11_put cX11_put 2 (Option.none : Option Jvm.ClassFile.FieldType) 1 := ⟨w_9_74, w_1_12, by decide +kernel, by decide +kernel⟩
theorem ci_X11_put : x_CI yX11_put 13 := ⟨w_9_73, wp_112, (RX11, TX11, 41), rfl, rfl⟩
set_option maxRecDepth 100000 in
set_option maxHeartbeats 4000000 in
theorem kX11_put {ad : Nat → Nat} {a1 : Int32} {σ : x_S} {τ : x_L} {Q : x_S → x_L → Prop} (h : wX11_put a1 σ τ Q) : x_Met yX11_put cX11_put 2 (Option.none : Option Jvm.ClassFile.FieldType) 0 ad dsM [.ref (ad 0), .int a1] σ τ (x_PV Q) := by
  refine x_met (by decide +kernel) (Nat.le_of_ble_eq_true rfl) (fun V X => ?_)
  have X : x_Is V cX11_put 2 RX11 (Option.none : Option Jvm.ClassFile.FieldType) ad dsM 0 (x_PV Q) := X
  show V σ τ 0 [(0, .ref (ad 0)), (1, .int a1)] []
  refine x_aload_n X dX11_put_0 rfl 0 rfl ?_
  refine x_getR X (j := 20) dX11_put_1 fl_11_68 dsM_0 rfl ?_
  refine x_aload_n X dX11_put_4 rfl 0 rfl ?_
  refine x_getI X dX11_put_5 fl_11_374 dsM_0 rfl ?_
  refine x_iload_n X dX11_put_8 rfl 1 rfl ?_
  have g9 := h.1
  have h := h.2
  refine x_iast X dX11_put_9 dsM_20 g9 ?_
  refine x_aload_n X dX11_put_10 rfl 0 rfl ?_
  refine x_dup X dX11_put_11 rfl ?_
  refine x_getI X dX11_put_12 fl_11_374 dsM_0 rfl ?_
  refine x_iconst X dX11_put_15 ki_1 ?_
  refine x_iadd X dX11_put_16 ?_
  refine x_putI X dX11_put_17 fl_11_374 ft_11_29 dsM_0 rfl ?_
  exact x_vret X dX11_put_20 ⟨rfl, h⟩
theorem dX11_putNumber_0 : decode cX11_putNumber 0 = .ok (.iconst 1, 1) := by decide +kernel
theorem dX11_putNumber_1 : decode cX11_putNumber 1 = .ok (.istore_n 2, 1) := by decide +kernel
theorem dX11_putNumber_2 : decode cX11_putNumber 2 = .ok (.iload_n 1, 1) := by decide +kernel
theorem dX11_putNumber_3 : decode cX11_putNumber 3 = .ok (.iload_n 2, 1) := by decide +kernel
theorem dX11_putNumber_4 : decode cX11_putNumber 4 = .ok (.idiv, 1) := by decide +kernel
theorem dX11_putNumber_5 : decode cX11_putNumber 5 = .ok (.bipush 9, 2) := by decide +kernel
theorem dX11_putNumber_7 : decode cX11_putNumber 7 = .ok (.if_icmp .le 11, 3) := by decide +kernel
theorem dX11_putNumber_10 : decode cX11_putNumber 10 = .ok (.iload_n 2, 1) := by decide +kernel
theorem dX11_putNumber_11 : decode cX11_putNumber 11 = .ok (.bipush 10, 2) := by decide +kernel
theorem dX11_putNumber_13 : decode cX11_putNumber 13 = .ok (.imul, 1) := by decide +kernel
theorem dX11_putNumber_14 : decode cX11_putNumber 14 = .ok (.istore_n 2, 1) := by decide +kernel
theorem dX11_putNumber_15 : decode cX11_putNumber 15 = .ok (.goto (-13), 3) := by decide +kernel
theorem dX11_putNumber_18 : decode cX11_putNumber 18 = .ok (.iload_n 2, 1) := by decide +kernel
theorem dX11_putNumber_19 : decode cX11_putNumber 19 = .ok (.ifCond .le 24, 3) := by decide +kernel
theorem dX11_putNumber_22 : decode cX11_putNumber 22 = .ok (.aload_n 0, 1) := by decide +kernel
theorem dX11_putNumber_23 : decode cX11_putNumber 23 = .ok (.bipush 48, 2) := by decide +kernel
theorem dX11_putNumber_25 : decode cX11_putNumber 25 = .ok (.iload_n 1, 1) := by decide +kernel
theorem dX11_putNumber_26 : decode cX11_putNumber 26 = .ok (.iload_n 2, 1) := by decide +kernel
theorem dX11_putNumber_27 : decode cX11_putNumber 27 = .ok (.idiv, 1) := by decide +kernel
theorem dX11_putNumber_28 : decode cX11_putNumber 28 = .ok (.bipush 10, 2) := by decide +kernel
theorem dX11_putNumber_30 : decode cX11_putNumber 30 = .ok (.irem, 1) := by decide +kernel
theorem dX11_putNumber_31 : decode cX11_putNumber 31 = .ok (.iadd, 1) := by decide +kernel
theorem dX11_putNumber_32 : decode cX11_putNumber 32 = .ok (.invokevirtual 377, 3) := by decide +kernel
theorem dX11_putNumber_35 : decode cX11_putNumber 35 = .ok (.iload_n 2, 1) := by decide +kernel
theorem dX11_putNumber_36 : decode cX11_putNumber 36 = .ok (.bipush 10, 2) := by decide +kernel
theorem dX11_putNumber_38 : decode cX11_putNumber 38 = .ok (.idiv, 1) := by decide +kernel
theorem dX11_putNumber_39 : decode cX11_putNumber 39 = .ok (.istore_n 2, 1) := by decide +kernel
theorem dX11_putNumber_40 : decode cX11_putNumber 40 = .ok (.goto (-22), 3) := by decide +kernel
theorem dX11_putNumber_43 : decode cX11_putNumber 43 = .ok (.return_, 1) := by decide +kernel
theorem cm_X11_putNumber : x_CM yX11_putNumber cX11_putNumber 3 (Option.none : Option Jvm.ClassFile.FieldType) 1 := ⟨w_9_78, w_1_12, by decide +kernel, by decide +kernel⟩
theorem ci_X11_putNumber : x_CI yX11_putNumber 13 := ⟨w_9_77, wp_113, (RX11, TX11, 41), rfl, rfl⟩
set_option maxRecDepth 100000 in
set_option maxHeartbeats 4000000 in
theorem bX11_putNumber_18 {V : x_J} {ad : Nat → Nat} {Q : x_S → x_L → Prop} (X : x_Is V cX11_putNumber 3 RX11 (Option.none : Option Jvm.ClassFile.FieldType) ad dsM 1 (x_PV Q)) {K18 : Int32 → Int32 → x_S → x_L → Prop} (hK18 : ∀ v1 v2 σ τ, K18 v1 v2 σ τ → V σ τ 18 [(0, .ref (ad 0)), (1, .int v1), (2, .int v2)] []) {v1 : Int32} {v2 : Int32} {σ : x_S} {τ : x_L} (h : wX11_putNumber_18 Q K18 v1 v2 σ τ) : V σ τ 18 [(0, .ref (ad 0)), (1, .int v1), (2, .int v2)] [] := by
  refine x_iload_n X dX11_putNumber_18 rfl 2 rfl ?_
  refine x_if_le X 43 dX11_putNumber_19 (by decide) (fun hc => ?_) (fun hc => ?_)
  · have h := h.1 hc
    exact x_vret X dX11_putNumber_43 ⟨rfl, h⟩
  · have h := h.2 hc
    refine x_aload_n X dX11_putNumber_22 rfl 0 rfl ?_
    refine x_bipush X dX11_putNumber_23 kb_48 ?_
    refine x_iload_n X dX11_putNumber_25 rfl 1 rfl ?_
    refine x_iload_n X dX11_putNumber_26 rfl 2 rfl ?_
    refine x_idiv X dX11_putNumber_27 h.1 ?_
    have h := h.2
    refine x_bipush X dX11_putNumber_28 kb_10 ?_
    refine x_irem X dX11_putNumber_30 (by decide) ?_
    refine x_iadd X dX11_putNumber_31 ?_
    refine x_callVv X [.int (48 + ((v1 / v2) - (v1 / v2) / 10 * 10))] [] dX11_putNumber_32 (kX11_put h) cm_X11_put ci_X11_put w_9_71 dsM_0 ⟨by decide, by decide⟩ rfl (Nat.le_of_ble_eq_true rfl) (fun σ32 τ32 h => ?_)
    refine x_iload_n X dX11_putNumber_35 rfl 2 rfl ?_
    refine x_bipush X dX11_putNumber_36 kb_10 ?_
    refine x_idiv X dX11_putNumber_38 (by decide) ?_
    refine x_istore_n X (lv' := [(2, .int (v2 / 10)), (0, .ref (ad 0)), (1, .int v1)]) dX11_putNumber_39 rfl (by decide) rfl ?_
    refine x_goto X (tgt := 18) dX11_putNumber_40 (by decide) ?_
    refine x_sub X [1, 2, 0] (lv' := [(0, .ref (ad 0)), (1, .int v1), (2, .int (v2 / 10))]) rfl ?_
    exact hK18 _ _ _ _ h
set_option maxRecDepth 100000 in
set_option maxHeartbeats 4000000 in
theorem bX11_putNumber_2 {V : x_J} {ad : Nat → Nat} {Q : x_S → x_L → Prop} (X : x_Is V cX11_putNumber 3 RX11 (Option.none : Option Jvm.ClassFile.FieldType) ad dsM 1 (x_PV Q)) {K2 : Int32 → Int32 → x_S → x_L → Prop} (hK2 : ∀ v1 v2 σ τ, K2 v1 v2 σ τ → V σ τ 2 [(0, .ref (ad 0)), (1, .int v1), (2, .int v2)] []) {v1 : Int32} {v2 : Int32} {σ : x_S} {τ : x_L} (h : wX11_putNumber_2 Q K2 v1 v2 σ τ) : V σ τ 2 [(0, .ref (ad 0)), (1, .int v1), (2, .int v2)] [] := by
  refine x_iload_n X dX11_putNumber_2 rfl 1 rfl ?_
  refine x_iload_n X dX11_putNumber_3 rfl 2 rfl ?_
  refine x_idiv X dX11_putNumber_4 h.1 ?_
  have h := h.2
  refine x_bipush X dX11_putNumber_5 kb_9 ?_
  refine x_icmp_le X 18 dX11_putNumber_7 (by decide) (fun hc => ?_) (fun hc => ?_)
  · have h := h.1 hc
    exact x_l2_G (fun v1 v2 σ τ => V σ τ 18 [(0, .ref (ad 0)), (1, .int v1), (2, .int v2)] []) (fun K18 hK18 v1 v2 σ τ h => bX11_putNumber_18 X hK18 h) h
  · have h := h.2 hc
    refine x_iload_n X dX11_putNumber_10 rfl 2 rfl ?_
    refine x_bipush X dX11_putNumber_11 kb_10 ?_
    refine x_imul X dX11_putNumber_13 ?_
    refine x_istore_n X (lv' := [(2, .int (v2 * 10)), (0, .ref (ad 0)), (1, .int v1)]) dX11_putNumber_14 rfl (by decide) rfl ?_
    refine x_goto X (tgt := 2) dX11_putNumber_15 (by decide) ?_
    refine x_sub X [1, 2, 0] (lv' := [(0, .ref (ad 0)), (1, .int v1), (2, .int (v2 * 10))]) rfl ?_
    exact hK2 _ _ _ _ h
set_option maxRecDepth 100000 in
set_option maxHeartbeats 4000000 in
theorem kX11_putNumber {ad : Nat → Nat} {a1 : Int32} {σ : x_S} {τ : x_L} {Q : x_S → x_L → Prop} (h : wX11_putNumber a1 σ τ Q) : x_Met yX11_putNumber cX11_putNumber 3 (Option.none : Option Jvm.ClassFile.FieldType) 1 ad dsM [.ref (ad 0), .int a1] σ τ (x_PV Q) := by
  refine x_met (by decide +kernel) (Nat.le_of_ble_eq_true rfl) (fun V X => ?_)
  have X : x_Is V cX11_putNumber 3 RX11 (Option.none : Option Jvm.ClassFile.FieldType) ad dsM 1 (x_PV Q) := X
  show V σ τ 0 [(0, .ref (ad 0)), (1, .int a1)] []
  refine x_iconst X dX11_putNumber_0 ki_1 ?_
  refine x_istore_n X (lv' := [(2, .int 1), (0, .ref (ad 0)), (1, .int a1)]) dX11_putNumber_1 rfl (by decide) rfl ?_
  refine x_sub X [1, 2, 0] (lv' := [(0, .ref (ad 0)), (1, .int a1), (2, .int 1)]) rfl ?_
  exact x_l2_G (fun v1 v2 σ τ => V σ τ 2 [(0, .ref (ad 0)), (1, .int v1), (2, .int v2)] []) (fun K2 hK2 v1 v2 σ τ h => bX11_putNumber_2 X hK2 h) h
theorem dX11_write_0 : decode cX11_write 0 = .ok (.aload_n 0, 1) := by decide +kernel
theorem dX11_write_1 : decode cX11_write 1 = .ok (.iconst 0, 1) := by decide +kernel
theorem dX11_write_2 : decode cX11_write 2 = .ok (.putfield 82, 3) := by decide +kernel
theorem dX11_write_5 : decode cX11_write 5 = .ok (.aload_n 0, 1) := by decide +kernel
theorem dX11_write_6 : decode cX11_write 6 = .ok (.aload_n 0, 1) := by decide +kernel
theorem dX11_write_7 : decode cX11_write 7 = .ok (.iload_n 1, 1) := by decide +kernel
theorem dX11_write_8 : decode cX11_write 8 = .ok (.invokevirtual 103, 3) := by decide +kernel
theorem dX11_write_11 : decode cX11_write 11 = .ok (.ifCond .ne 7, 3) := by decide +kernel
theorem dX11_write_14 : decode cX11_write 14 = .ok (.iconst 1, 1) := by decide +kernel
theorem dX11_write_15 : decode cX11_write 15 = .ok (.goto 4, 3) := by decide +kernel
theorem dX11_write_18 : decode cX11_write 18 = .ok (.iconst 0, 1) := by decide +kernel
theorem dX11_write_19 : decode cX11_write 19 = .ok (.iconst 1, 1) := by decide +kernel
theorem dX11_write_20 : decode cX11_write 20 = .ok (.invokevirtual 235, 3) := by decide +kernel
theorem dX11_write_23 : decode cX11_write 23 = .ok (.ifCond .eq 5, 3) := by decide +kernel
theorem dX11_write_26 : decode cX11_write 26 = .ok (.iconst 0, 1) := by decide +kernel
theorem dX11_write_27 : decode cX11_write 27 = .ok (.ireturn, 1) := by decide +kernel
theorem dX11_write_28 : decode cX11_write 28 = .ok (.aload_n 0, 1) := by decide +kernel
theorem dX11_write_29 : decode cX11_write 29 = .ok (.invokevirtual 200, 3) := by decide +kernel
theorem dX11_write_32 : decode cX11_write 32 = .ok (.aload_n 0, 1) := by decide +kernel
theorem dX11_write_33 : decode cX11_write 33 = .ok (.iconst 0, 1) := by decide +kernel
theorem dX11_write_34 : decode cX11_write 34 = .ok (.putfield 374, 3) := by decide +kernel
theorem dX11_write_37 : decode cX11_write 37 = .ok (.iconst 0, 1) := by decide +kernel
theorem dX11_write_38 : decode cX11_write 38 = .ok (.istore_n 2, 1) := by decide +kernel
theorem dX11_write_39 : decode cX11_write 39 = .ok (.iload_n 2, 1) := by decide +kernel
theorem dX11_write_40 : decode cX11_write 40 = .ok (.aload_n 0, 1) := by decide +kernel
theorem dX11_write_41 : decode cX11_write 41 = .ok (.iload_n 1, 1) := by decide +kernel
theorem dX11_write_42 : decode cX11_write 42 = .ok (.invokevirtual 107, 3) := by decide +kernel
theorem dX11_write_45 : decode cX11_write 45 = .ok (.if_icmp .ge 80, 3) := by decide +kernel
theorem dX11_write_48 : decode cX11_write 48 = .ok (.iload_n 1, 1) := by decide +kernel
theorem dX11_write_49 : decode cX11_write 49 = .ok (.iload_n 2, 1) := by decide +kernel
theorem dX11_write_50 : decode cX11_write 50 = .ok (.invokestatic 111, 3) := by decide +kernel
theorem dX11_write_53 : decode cX11_write 53 = .ok (.istore_n 3, 1) := by decide +kernel
theorem dX11_write_54 : decode cX11_write 54 = .ok (.iload_n 2, 1) := by decide +kernel
theorem dX11_write_55 : decode cX11_write 55 = .ok (.ifCond .le 9, 3) := by decide +kernel
theorem dX11_write_58 : decode cX11_write 58 = .ok (.aload_n 0, 1) := by decide +kernel
theorem dX11_write_59 : decode cX11_write 59 = .ok (.bipush 32, 2) := by decide +kernel
theorem dX11_write_61 : decode cX11_write 61 = .ok (.invokevirtual 377, 3) := by decide +kernel
theorem dX11_write_64 : decode cX11_write 64 = .ok (.aload_n 0, 1) := by decide +kernel
theorem dX11_write_65 : decode cX11_write 65 = .ok (.aload_n 0, 1) := by decide +kernel
theorem dX11_write_66 : decode cX11_write 66 = .ok (.getfield 20, 3) := by decide +kernel
theorem dX11_write_69 : decode cX11_write 69 = .ok (.iload_n 3, 1) := by decide +kernel
theorem dX11_write_70 : decode cX11_write 70 = .ok (.iaload, 1) := by decide +kernel
theorem dX11_write_71 : decode cX11_write 71 = .ok (.invokevirtual 380, 3) := by decide +kernel
theorem dX11_write_74 : decode cX11_write 74 = .ok (.aload_n 0, 1) := by decide +kernel
theorem dX11_write_75 : decode cX11_write 75 = .ok (.bipush 45, 2) := by decide +kernel
theorem dX11_write_77 : decode cX11_write 77 = .ok (.invokevirtual 377, 3) := by decide +kernel
theorem dX11_write_80 : decode cX11_write 80 = .ok (.aload_n 0, 1) := by decide +kernel
theorem dX11_write_81 : decode cX11_write 81 = .ok (.aload_n 0, 1) := by decide +kernel
theorem dX11_write_82 : decode cX11_write 82 = .ok (.getfield 23, 3) := by decide +kernel
theorem dX11_write_85 : decode cX11_write 85 = .ok (.iload_n 3, 1) := by decide +kernel
theorem dX11_write_86 : decode cX11_write 86 = .ok (.iaload, 1) := by decide +kernel
theorem dX11_write_87 : decode cX11_write 87 = .ok (.invokevirtual 380, 3) := by decide +kernel
theorem dX11_write_90 : decode cX11_write 90 = .ok (.aload_n 0, 1) := by decide +kernel
theorem dX11_write_91 : decode cX11_write 91 = .ok (.getfield 29, 3) := by decide +kernel
theorem dX11_write_94 : decode cX11_write 94 = .ok (.iload_n 3, 1) := by decide +kernel
theorem dX11_write_95 : decode cX11_write 95 = .ok (.iaload, 1) := by decide +kernel
theorem dX11_write_96 : decode cX11_write 96 = .ok (.iconst 2, 1) := by decide +kernel
theorem dX11_write_97 : decode cX11_write 97 = .ok (.if_icmp .ge 6, 3) := by decide +kernel
theorem dX11_write_100 : decode cX11_write 100 = .ok (.goto 19, 3) := by decide +kernel
theorem dX11_write_103 : decode cX11_write 103 = .ok (.aload_n 0, 1) := by decide +kernel
theorem dX11_write_104 : decode cX11_write 104 = .ok (.bipush 42, 2) := by decide +kernel
theorem dX11_write_106 : decode cX11_write 106 = .ok (.invokevirtual 377, 3) := by decide +kernel
theorem dX11_write_109 : decode cX11_write 109 = .ok (.aload_n 0, 1) := by decide +kernel
theorem dX11_write_110 : decode cX11_write 110 = .ok (.aload_n 0, 1) := by decide +kernel
theorem dX11_write_111 : decode cX11_write 111 = .ok (.getfield 35, 3) := by decide +kernel
theorem dX11_write_114 : decode cX11_write 114 = .ok (.iload_n 3, 1) := by decide +kernel
theorem dX11_write_115 : decode cX11_write 115 = .ok (.iaload, 1) := by decide +kernel
theorem dX11_write_116 : decode cX11_write 116 = .ok (.invokevirtual 380, 3) := by decide +kernel
theorem dX11_write_119 : decode cX11_write 119 = .ok (.iinc 2 1, 3) := by decide +kernel
theorem dX11_write_122 : decode cX11_write 122 = .ok (.goto (-83), 3) := by decide +kernel
theorem dX11_write_125 : decode cX11_write 125 = .ok (.aload_n 0, 1) := by decide +kernel
theorem dX11_write_126 : decode cX11_write 126 = .ok (.getfield 374, 3) := by decide +kernel
theorem dX11_write_129 : decode cX11_write 129 = .ok (.ireturn, 1) := by decide +kernel
theorem cm_X11_write : x_CM yX11_write cX11_write 4 (Option.some FieldType.int) 1 := ⟨w_9_70, w_1_12, by decide +kernel, by decide +kernel⟩
theorem ci_X11_write : x_CI yX11_write 13 := ⟨w_9_68, w_9_69, (RX11, TX11, 41), rfl, rfl⟩
set_option maxRecDepth 100000 in
set_option maxHeartbeats 4000000 in
theorem bX11_write_119 {V : x_J} {ad : Nat → Nat} {Q : Int32 → x_S → x_L → Prop} (X : x_Is V cX11_write 4 RX11 (Option.some FieldType.int) ad dsM 6 (x_PI Q)) {K39 : Int32 → Int32 → x_S → x_L → Prop} (hK39 : ∀ v1 v2 σ τ, K39 v1 v2 σ τ → V σ τ 39 [(0, .ref (ad 0)), (1, .int v1), (2, .int v2)] []) {v1 : Int32} {v2 : Int32} {σ : x_S} {τ : x_L} (h : wX11_write_119 K39 Q v1 v2 σ τ) : V σ τ 119 [(0, .ref (ad 0)), (1, .int v1), (2, .int v2)] [] := by
  refine x_iinc X (k := 2) (lv' := [(2, .int (v2 + 1)), (0, .ref (ad 0)), (1, .int v1)]) dX11_write_119 rfl ki_1 (by decide) rfl ?_
  refine x_goto X (tgt := 39) dX11_write_122 (by decide) ?_
  refine x_sub X [1, 2, 0] (lv' := [(0, .ref (ad 0)), (1, .int v1), (2, .int (v2 + 1))]) rfl ?_
  exact hK39 _ _ _ _ h
set_option maxRecDepth 100000 in
set_option maxHeartbeats 4000000 in
theorem bX11_write_64 {V : x_J} {ad : Nat → Nat} {Q : Int32 → x_S → x_L → Prop} (X : x_Is V cX11_write 4 RX11 (Option.some FieldType.int) ad dsM 6 (x_PI Q)) {K39 : Int32 → Int32 → x_S → x_L → Prop} (hK39 : ∀ v1 v2 σ τ, K39 v1 v2 σ τ → V σ τ 39 [(0, .ref (ad 0)), (1, .int v1), (2, .int v2)] []) {v1 : Int32} {v2 : Int32} {v3 : Int32} {σ : x_S} {τ : x_L} (h : wX11_write_64 K39 Q v1 v2 v3 σ τ) : V σ τ 64 [(0, .ref (ad 0)), (1, .int v1), (2, .int v2), (3, .int v3)] [] := by
  refine x_aload_n X dX11_write_64 rfl 0 rfl ?_
  refine x_aload_n X dX11_write_65 rfl 0 rfl ?_
  refine x_getR X (j := 4) dX11_write_66 fl_11_20 dsM_0 rfl ?_
  refine x_iload_n X dX11_write_69 rfl 3 rfl ?_
  have g70 := h.1
  have h := h.2
  refine x_iald X dX11_write_70 dsM_4 g70 ?_
  refine x_callVv X [.int (σ 4 v3.toNatClampNeg)] [] dX11_write_71 (kX11_putNumber h) cm_X11_putNumber ci_X11_putNumber w_9_75 dsM_0 ⟨by decide, by decide⟩ rfl (Nat.le_of_ble_eq_true rfl) (fun σ71 τ71 h => ?_)
  refine x_aload_n X dX11_write_74 rfl 0 rfl ?_
  refine x_bipush X dX11_write_75 kb_45 ?_
  refine x_callVv X [.int 45] [] dX11_write_77 (kX11_put h) cm_X11_put ci_X11_put w_9_71 dsM_0 ⟨by decide, by decide⟩ rfl (Nat.le_of_ble_eq_true rfl) (fun σ77 τ77 h => ?_)
  refine x_aload_n X dX11_write_80 rfl 0 rfl ?_
  refine x_aload_n X dX11_write_81 rfl 0 rfl ?_
  refine x_getR X (j := 5) dX11_write_82 fl_11_23 dsM_0 rfl ?_
  refine x_iload_n X dX11_write_85 rfl 3 rfl ?_
  refine x_iald X dX11_write_86 dsM_5 g70 ?_
  refine x_callVv X [.int (σ77 5 v3.toNatClampNeg)] [] dX11_write_87 (kX11_putNumber h) cm_X11_putNumber ci_X11_putNumber w_9_75 dsM_0 ⟨by decide, by decide⟩ rfl (Nat.le_of_ble_eq_true rfl) (fun σ87 τ87 h => ?_)
  refine x_aload_n X dX11_write_90 rfl 0 rfl ?_
  refine x_getR X (j := 7) dX11_write_91 fl_11_29 dsM_0 rfl ?_
  refine x_iload_n X dX11_write_94 rfl 3 rfl ?_
  refine x_iald X dX11_write_95 dsM_7 g70 ?_
  refine x_iconst X dX11_write_96 ki_2 ?_
  refine x_icmp_ge X 103 dX11_write_97 (by decide) (fun hc => ?_) (fun hc => ?_)
  · have h := h.1 hc
    refine x_aload_n X dX11_write_103 rfl 0 rfl ?_
    refine x_bipush X dX11_write_104 kb_42 ?_
    refine x_callVv X [.int 42] [] dX11_write_106 (kX11_put h) cm_X11_put ci_X11_put w_9_71 dsM_0 ⟨by decide, by decide⟩ rfl (Nat.le_of_ble_eq_true rfl) (fun σ106 τ106 h => ?_)
    refine x_aload_n X dX11_write_109 rfl 0 rfl ?_
    refine x_aload_n X dX11_write_110 rfl 0 rfl ?_
    refine x_getR X (j := 9) dX11_write_111 fl_11_35 dsM_0 rfl ?_
    refine x_iload_n X dX11_write_114 rfl 3 rfl ?_
    refine x_iald X dX11_write_115 dsM_9 g70 ?_
    refine x_callVv X [.int (σ106 9 v3.toNatClampNeg)] [] dX11_write_116 (kX11_putNumber h) cm_X11_putNumber ci_X11_putNumber w_9_75 dsM_0 ⟨by decide, by decide⟩ rfl (Nat.le_of_ble_eq_true rfl) (fun σ116 τ116 h => ?_)
    refine x_sub X [0, 1, 2] (lv' := [(0, .ref (ad 0)), (1, .int v1), (2, .int v2)]) rfl ?_
    exact bX11_write_119 X hK39 h
  · have h := h.2 hc
    refine x_goto X (tgt := 119) dX11_write_100 (by decide) ?_
    refine x_sub X [0, 1, 2] (lv' := [(0, .ref (ad 0)), (1, .int v1), (2, .int v2)]) rfl ?_
    exact bX11_write_119 X hK39 h
set_option maxRecDepth 100000 in
set_option maxHeartbeats 4000000 in
theorem bX11_write_39 {V : x_J} {ad : Nat → Nat} {Q : Int32 → x_S → x_L → Prop} (X : x_Is V cX11_write 4 RX11 (Option.some FieldType.int) ad dsM 6 (x_PI Q)) {K39 : Int32 → Int32 → x_S → x_L → Prop} (hK39 : ∀ v1 v2 σ τ, K39 v1 v2 σ τ → V σ τ 39 [(0, .ref (ad 0)), (1, .int v1), (2, .int v2)] []) {v1 : Int32} {v2 : Int32} {σ : x_S} {τ : x_L} (h : wX11_write_39 Q K39 v1 v2 σ τ) : V σ τ 39 [(0, .ref (ad 0)), (1, .int v1), (2, .int v2)] [] := by
  refine x_iload_n X dX11_write_39 rfl 2 rfl ?_
  refine x_aload_n X dX11_write_40 rfl 0 rfl ?_
  refine x_iload_n X dX11_write_41 rfl 1 rfl ?_
  refine x_callVi X [.int v1] [.int v2] dX11_write_42 (kX11_placesOf h) cm_X11_placesOf ci_X11_placesOf w_7_109 dsM_0 ⟨by decide, by decide⟩ rfl (Nat.le_of_ble_eq_true rfl) (fun r42 σ42 τ42 h => ?_)
  refine x_icmp_ge X 125 dX11_write_45 (by decide) (fun hc => ?_) (fun hc => ?_)
  · have h := h.1 hc
    refine x_aload_n X dX11_write_125 rfl 0 rfl ?_
    refine x_getI X dX11_write_126 fl_11_374 dsM_0 rfl ?_
    exact x_iret X dX11_write_129 ⟨_, rfl, h⟩
  · have h := h.2 hc
    refine x_iload_n X dX11_write_48 rfl 1 rfl ?_
    refine x_iload_n X dX11_write_49 rfl 2 rfl ?_
    refine x_callSi X [.int v1, .int v2] [] dX11_write_50 (kX11_spot h) cm_X11_spot w_7_118 rfl w_7_117 ⟨by decide, by decide⟩ rfl (Nat.le_of_ble_eq_true rfl) (fun r50 σ50 τ50 h => ?_)
    refine x_istore_n X (lv' := [(3, .int r50), (0, .ref (ad 0)), (1, .int v1), (2, .int v2)]) dX11_write_53 rfl (by decide) rfl ?_
    refine x_iload_n X dX11_write_54 rfl 3 rfl ?_
    refine x_if_le X 64 dX11_write_55 (by decide) (fun hc => ?_) (fun hc => ?_)
    · have h := h.1 hc
      refine x_sub X [1, 2, 3, 0] (lv' := [(0, .ref (ad 0)), (1, .int v1), (2, .int v2), (3, .int r50)]) rfl ?_
      exact bX11_write_64 X hK39 h
    · have h := h.2 hc
      refine x_aload_n X dX11_write_58 rfl 1 rfl ?_
      refine x_bipush X dX11_write_59 kb_32 ?_
      refine x_callVv X [.int 32] [] dX11_write_61 (kX11_put h) cm_X11_put ci_X11_put w_9_71 dsM_0 ⟨by decide, by decide⟩ rfl (Nat.le_of_ble_eq_true rfl) (fun σ61 τ61 h => ?_)
      refine x_sub X [1, 2, 3, 0] (lv' := [(0, .ref (ad 0)), (1, .int v1), (2, .int v2), (3, .int r50)]) rfl ?_
      exact bX11_write_64 X hK39 h
set_option maxRecDepth 100000 in
set_option maxHeartbeats 4000000 in
theorem bX11_write_19 {V : x_J} {ad : Nat → Nat} {Q : Int32 → x_S → x_L → Prop} (X : x_Is V cX11_write 4 RX11 (Option.some FieldType.int) ad dsM 6 (x_PI Q)) {v1 : Int32} {s1 : Int32} {σ : x_S} {τ : x_L} (h : wX11_write_19 Q v1 s1 σ τ) : V σ τ 19 [(0, .ref (ad 0)), (1, .int v1)] [.int s1, .ref (ad 0)] := by
  refine x_iconst X dX11_write_19 ki_1 ?_
  refine x_callVi X [.int s1, .int 1] [] dX11_write_20 (kX11_throwsIf h) cm_X11_throwsIf ci_X11_throwsIf w_8_10 dsM_0 ⟨by decide, by decide⟩ rfl (Nat.le_of_ble_eq_true rfl) (fun r20 σ20 τ20 h => ?_)
  refine x_if_eq X 28 dX11_write_23 (by decide) (fun hc => ?_) (fun hc => ?_)
  · have h := h.1 hc
    refine x_aload_n X dX11_write_28 rfl 0 rfl ?_
    refine x_callVv X [] [] dX11_write_29 (kX11_lay h) cm_X11_lay ci_X11_lay w_7_101 dsM_0 ⟨by decide, by decide⟩ rfl (Nat.le_of_ble_eq_true rfl) (fun σ29 τ29 h => ?_)
    refine x_aload_n X dX11_write_32 rfl 0 rfl ?_
    refine x_iconst X dX11_write_33 ki_0 ?_
    refine x_putI X dX11_write_34 fl_11_374 ft_11_29 dsM_0 rfl ?_
    refine x_iconst X dX11_write_37 ki_0 ?_
    refine x_istore_n X (lv' := [(2, .int 0), (0, .ref (ad 0)), (1, .int v1)]) dX11_write_38 rfl (by decide) rfl ?_
    refine x_sub X [1, 2, 0] (lv' := [(0, .ref (ad 0)), (1, .int v1), (2, .int 0)]) rfl ?_
    exact x_l2_G (fun v1 v2 σ τ => V σ τ 39 [(0, .ref (ad 0)), (1, .int v1), (2, .int v2)] []) (fun K39 hK39 v1 v2 σ τ h => bX11_write_39 X hK39 h) h
  · have h := h.2 hc
    refine x_iconst X dX11_write_26 ki_0 ?_
    exact x_iret X dX11_write_27 ⟨_, rfl, h⟩
set_option maxRecDepth 100000 in
set_option maxHeartbeats 4000000 in
theorem kX11_write {ad : Nat → Nat} {a1 : Int32} {σ : x_S} {τ : x_L} {Q : Int32 → x_S → x_L → Prop} (h : wX11_write a1 σ τ Q) : x_Met yX11_write cX11_write 4 (Option.some FieldType.int) 6 ad dsM [.ref (ad 0), .int a1] σ τ (x_PI Q) := by
  refine x_met (by decide +kernel) (Nat.le_of_ble_eq_true rfl) (fun V X => ?_)
  have X : x_Is V cX11_write 4 RX11 (Option.some FieldType.int) ad dsM 6 (x_PI Q) := X
  show V σ τ 0 [(0, .ref (ad 0)), (1, .int a1)] []
  refine x_aload_n X dX11_write_0 rfl 0 rfl ?_
  refine x_iconst X dX11_write_1 ki_0 ?_
  refine x_putI X dX11_write_2 fl_11_82 ft_11_5 dsM_0 rfl ?_
  refine x_aload_n X dX11_write_5 rfl 0 rfl ?_
  refine x_aload_n X dX11_write_6 rfl 0 rfl ?_
  refine x_iload_n X dX11_write_7 rfl 1 rfl ?_
  refine x_callVi X [.int a1] [.ref (ad 0)] dX11_write_8 (kX11_isTruck h) cm_X11_isTruck ci_X11_isTruck w_8_26 dsM_0 ⟨by decide, by decide⟩ rfl (Nat.le_of_ble_eq_true rfl) (fun r8 σ8 τ8 h => ?_)
  refine x_if_ne X 18 dX11_write_11 (by decide) (fun hc => ?_) (fun hc => ?_)
  · have h := h.1 hc
    refine x_iconst X dX11_write_18 ki_0 ?_
    exact bX11_write_19 X h
  · have h := h.2 hc
    refine x_iconst X dX11_write_14 ki_1 ?_
    refine x_goto X (tgt := 19) dX11_write_15 (by decide) ?_
    exact bX11_write_19 X h
theorem dX11_outputByte_0 : decode cX11_outputByte 0 = .ok (.aload_n 0, 1) := by decide +kernel
theorem dX11_outputByte_1 : decode cX11_outputByte 1 = .ok (.iconst 0, 1) := by decide +kernel
theorem dX11_outputByte_2 : decode cX11_outputByte 2 = .ok (.putfield 82, 3) := by decide +kernel
theorem dX11_outputByte_5 : decode cX11_outputByte 5 = .ok (.iload_n 1, 1) := by decide +kernel
theorem dX11_outputByte_6 : decode cX11_outputByte 6 = .ok (.i2l, 1) := by decide +kernel
theorem dX11_outputByte_7 : decode cX11_outputByte 7 = .ok (.lconst 0, 1) := by decide +kernel
theorem dX11_outputByte_8 : decode cX11_outputByte 8 = .ok (.aload_n 0, 1) := by decide +kernel
theorem dX11_outputByte_9 : decode cX11_outputByte 9 = .ok (.getfield 374, 3) := by decide +kernel
theorem dX11_outputByte_12 : decode cX11_outputByte 12 = .ok (.iconst 1, 1) := by decide +kernel
theorem dX11_outputByte_13 : decode cX11_outputByte 13 = .ok (.isub, 1) := by decide +kernel
theorem dX11_outputByte_14 : decode cX11_outputByte 14 = .ok (.i2l, 1) := by decide +kernel
theorem dX11_outputByte_15 : decode cX11_outputByte 15 = .ok (.invokestatic 95, 3) := by decide +kernel
theorem dX11_outputByte_18 : decode cX11_outputByte 18 = .ok (.ifCond .eq 12, 3) := by decide +kernel
theorem dX11_outputByte_21 : decode cX11_outputByte 21 = .ok (.aload_n 0, 1) := by decide +kernel
theorem dX11_outputByte_22 : decode cX11_outputByte 22 = .ok (.getfield 68, 3) := by decide +kernel
theorem dX11_outputByte_25 : decode cX11_outputByte 25 = .ok (.iload_n 1, 1) := by decide +kernel
theorem dX11_outputByte_26 : decode cX11_outputByte 26 = .ok (.iaload, 1) := by decide +kernel
theorem dX11_outputByte_27 : decode cX11_outputByte 27 = .ok (.goto 4, 3) := by decide +kernel
theorem dX11_outputByte_30 : decode cX11_outputByte 30 = .ok (.iconst (-1), 1) := by decide +kernel
theorem dX11_outputByte_31 : decode cX11_outputByte 31 = .ok (.ireturn, 1) := by decide +kernel
theorem cm_X11_outputByte : x_CM yX11_outputByte cX11_outputByte 2 (Option.some FieldType.int) 1 := ⟨w_9_82, w_1_12, by decide +kernel, by decide +kernel⟩
theorem ci_X11_outputByte : x_CI yX11_outputByte 13 := ⟨w_9_80, w_9_81, (RX11, TX11, 41), rfl, rfl⟩
set_option maxRecDepth 100000 in
set_option maxHeartbeats 4000000 in
theorem bX11_outputByte_31 {V : x_J} {ad : Nat → Nat} {Q : Int32 → x_S → x_L → Prop} (X : x_Is V cX11_outputByte 2 RX11 (Option.some FieldType.int) ad dsM 1 (x_PI Q)) {s0 : Int32} {σ : x_S} {τ : x_L} (h : wX11_outputByte_31 Q s0 σ τ) : V σ τ 31 [] [.int s0] := by
  exact x_iret X dX11_outputByte_31 ⟨_, rfl, h⟩
set_option maxRecDepth 100000 in
set_option maxHeartbeats 4000000 in
theorem kX11_outputByte {ad : Nat → Nat} {a1 : Int32} {σ : x_S} {τ : x_L} {Q : Int32 → x_S → x_L → Prop} (h : wX11_outputByte a1 σ τ Q) : x_Met yX11_outputByte cX11_outputByte 2 (Option.some FieldType.int) 1 ad dsM [.ref (ad 0), .int a1] σ τ (x_PI Q) := by
  refine x_met (by decide +kernel) (Nat.le_of_ble_eq_true rfl) (fun V X => ?_)
  have X : x_Is V cX11_outputByte 2 RX11 (Option.some FieldType.int) ad dsM 1 (x_PI Q) := X
  show V σ τ 0 [(0, .ref (ad 0)), (1, .int a1)] []
  refine x_aload_n X dX11_outputByte_0 rfl 0 rfl ?_
  refine x_iconst X dX11_outputByte_1 ki_0 ?_
  refine x_putI X dX11_outputByte_2 fl_11_82 ft_11_5 dsM_0 rfl ?_
  refine x_iload_n X dX11_outputByte_5 rfl 1 rfl ?_
  refine x_i2l X dX11_outputByte_6 ?_
  refine x_lconst X (v := 0) dX11_outputByte_7 (by decide) ?_
  refine x_aload_n X dX11_outputByte_8 rfl 0 rfl ?_
  refine x_getI X dX11_outputByte_9 fl_11_374 dsM_0 rfl ?_
  refine x_iconst X dX11_outputByte_12 ki_1 ?_
  refine x_isub X dX11_outputByte_13 ?_
  refine x_i2l X dX11_outputByte_14 ?_
  refine x_callSi X [.long ((a1 : Int32).toInt64), .long 0, .long (((((x_up σ 0 5 0) 0 29) - 1) : Int32).toInt64)] [] dX11_outputByte_15 (kX11_inRange h) cm_X11_inRange w_7_91 rfl w_7_90 ⟨by decide, by decide⟩ rfl (Nat.le_of_ble_eq_true rfl) (fun r15 σ15 τ15 h => ?_)
  refine x_if_eq X 30 dX11_outputByte_18 (by decide) (fun hc => ?_) (fun hc => ?_)
  · have h := h.1 hc
    refine x_iconst X dX11_outputByte_30 ki_m1 ?_
    refine x_sub X [] (lv' := []) rfl ?_
    exact bX11_outputByte_31 X h
  · have h := h.2 hc
    refine x_aload_n X dX11_outputByte_21 rfl 0 rfl ?_
    refine x_getR X (j := 20) dX11_outputByte_22 fl_11_68 dsM_0 rfl ?_
    refine x_iload_n X dX11_outputByte_25 rfl 1 rfl ?_
    have g26 := h.1
    have h := h.2
    refine x_iald X dX11_outputByte_26 dsM_20 g26 ?_
    refine x_goto X (tgt := 31) dX11_outputByte_27 (by decide) ?_
    refine x_sub X [] (lv' := []) rfl ?_
    exact bX11_outputByte_31 X h
theorem dX11_appendBytes_0 : decode cX11_appendBytes 0 = .ok (.bipush 24, 2) := by decide +kernel
theorem dX11_appendBytes_2 : decode cX11_appendBytes 2 = .ok (.istore_n 2, 1) := by decide +kernel
theorem dX11_appendBytes_3 : decode cX11_appendBytes 3 = .ok (.iload_n 2, 1) := by decide +kernel
theorem dX11_appendBytes_4 : decode cX11_appendBytes 4 = .ok (.ifCond .lt 32, 3) := by decide +kernel
theorem dX11_appendBytes_7 : decode cX11_appendBytes 7 = .ok (.aload_n 0, 1) := by decide +kernel
theorem dX11_appendBytes_8 : decode cX11_appendBytes 8 = .ok (.getfield 71, 3) := by decide +kernel
theorem dX11_appendBytes_11 : decode cX11_appendBytes 11 = .ok (.aload_n 0, 1) := by decide +kernel
theorem dX11_appendBytes_12 : decode cX11_appendBytes 12 = .ok (.getfield 383, 3) := by decide +kernel
theorem dX11_appendBytes_15 : decode cX11_appendBytes 15 = .ok (.iload_n 1, 1) := by decide +kernel
theorem dX11_appendBytes_16 : decode cX11_appendBytes 16 = .ok (.iload_n 2, 1) := by decide +kernel
theorem dX11_appendBytes_17 : decode cX11_appendBytes 17 = .ok (.ishr, 1) := by decide +kernel
theorem dX11_appendBytes_18 : decode cX11_appendBytes 18 = .ok (.i2b, 1) := by decide +kernel
theorem dX11_appendBytes_19 : decode cX11_appendBytes 19 = .ok (.bastore, 1) := by decide +kernel
theorem dX11_appendBytes_20 : decode cX11_appendBytes 20 = .ok (.aload_n 0, 1) := by decide +kernel
theorem dX11_appendBytes_21 : decode cX11_appendBytes 21 = .ok (.dup, 1) := by decide +kernel
theorem dX11_appendBytes_22 : decode cX11_appendBytes 22 = .ok (.getfield 383, 3) := by decide +kernel
theorem dX11_appendBytes_25 : decode cX11_appendBytes 25 = .ok (.iconst 1, 1) := by decide +kernel
theorem dX11_appendBytes_26 : decode cX11_appendBytes 26 = .ok (.iadd, 1) := by decide +kernel
theorem dX11_appendBytes_27 : decode cX11_appendBytes 27 = .ok (.putfield 383, 3) := by decide +kernel
theorem dX11_appendBytes_30 : decode cX11_appendBytes 30 = .ok (.iinc 2 (-8), 3) := by decide +kernel
theorem dX11_appendBytes_33 : decode cX11_appendBytes 33 = .ok (.goto (-30), 3) := by decide +kernel
theorem dX11_appendBytes_36 : decode cX11_appendBytes 36 = .ok (.return_, 1) := by decide +kernel
theorem cm_X11_appendBytes : x_CM yX11_appendBytes cX11_appendBytes 3 (Option.none : Option Jvm.ClassFile.FieldType) 1 := ⟨w_9_90, w_1_12, by decide +kernel, by decide +kernel⟩
theorem ci_X11_appendBytes : x_CI yX11_appendBytes 13 := ⟨w_9_89, wp_114, (RX11, TX11, 41), rfl, rfl⟩
set_option maxRecDepth 100000 in
set_option maxHeartbeats 4000000 in
theorem bX11_appendBytes_3 {V : x_J} {ad : Nat → Nat} {Q : x_S → x_L → Prop} (X : x_Is V cX11_appendBytes 3 RX11 (Option.none : Option Jvm.ClassFile.FieldType) ad dsM 0 (x_PV Q)) {K3 : Int32 → Int32 → x_S → x_L → Prop} (hK3 : ∀ v1 v2 σ τ, K3 v1 v2 σ τ → V σ τ 3 [(0, .ref (ad 0)), (1, .int v1), (2, .int v2)] []) {v1 : Int32} {v2 : Int32} {σ : x_S} {τ : x_L} (h : wX11_appendBytes_3 Q K3 v1 v2 σ τ) : V σ τ 3 [(0, .ref (ad 0)), (1, .int v1), (2, .int v2)] [] := by
  refine x_iload_n X dX11_appendBytes_3 rfl 2 rfl ?_
  refine x_if_lt X 36 dX11_appendBytes_4 (by decide) (fun hc => ?_) (fun hc => ?_)
  · have h := h.1 hc
    exact x_vret X dX11_appendBytes_36 ⟨rfl, h⟩
  · have h := h.2 hc
    refine x_aload_n X dX11_appendBytes_7 rfl 0 rfl ?_
    refine x_getR X (j := 21) dX11_appendBytes_8 fl_11_71 dsM_0 rfl ?_
    refine x_aload_n X dX11_appendBytes_11 rfl 0 rfl ?_
    refine x_getI X dX11_appendBytes_12 fl_11_383 dsM_0 rfl ?_
    refine x_iload_n X dX11_appendBytes_15 rfl 1 rfl ?_
    refine x_iload_n X dX11_appendBytes_16 rfl 2 rfl ?_
    refine x_ishr X dX11_appendBytes_17 ?_
    refine x_i2b X dX11_appendBytes_18 ?_
    have g19 := h.1
    have h := h.2
    refine x_bast X dX11_appendBytes_19 dsM_21 g19 ?_
    refine x_aload_n X dX11_appendBytes_20 rfl 0 rfl ?_
    refine x_dup X dX11_appendBytes_21 rfl ?_
    refine x_getI X dX11_appendBytes_22 fl_11_383 dsM_0 rfl ?_
    refine x_iconst X dX11_appendBytes_25 ki_1 ?_
    refine x_iadd X dX11_appendBytes_26 ?_
    refine x_putI X dX11_appendBytes_27 fl_11_383 ft_11_31 dsM_0 rfl ?_
    refine x_iinc X (k := 2) (lv' := [(2, .int (v2 + (-8))), (0, .ref (ad 0)), (1, .int v1)]) dX11_appendBytes_30 rfl ki_m8 (by decide) rfl ?_
    refine x_goto X (tgt := 3) dX11_appendBytes_33 (by decide) ?_
    refine x_sub X [1, 2, 0] (lv' := [(0, .ref (ad 0)), (1, .int v1), (2, .int (v2 + (-8)))]) rfl ?_
    exact hK3 _ _ _ _ h
set_option maxRecDepth 100000 in
set_option maxHeartbeats 4000000 in
theorem kX11_appendBytes {ad : Nat → Nat} {a1 : Int32} {σ : x_S} {τ : x_L} {Q : x_S → x_L → Prop} (h : wX11_appendBytes a1 σ τ Q) : x_Met yX11_appendBytes cX11_appendBytes 3 (Option.none : Option Jvm.ClassFile.FieldType) 0 ad dsM [.ref (ad 0), .int a1] σ τ (x_PV Q) := by
  refine x_met (by decide +kernel) (Nat.le_of_ble_eq_true rfl) (fun V X => ?_)
  have X : x_Is V cX11_appendBytes 3 RX11 (Option.none : Option Jvm.ClassFile.FieldType) ad dsM 0 (x_PV Q) := X
  show V σ τ 0 [(0, .ref (ad 0)), (1, .int a1)] []
  refine x_bipush X dX11_appendBytes_0 kb_24 ?_
  refine x_istore_n X (lv' := [(2, .int 24), (0, .ref (ad 0)), (1, .int a1)]) dX11_appendBytes_2 rfl (by decide) rfl ?_
  refine x_sub X [1, 2, 0] (lv' := [(0, .ref (ad 0)), (1, .int a1), (2, .int 24)]) rfl ?_
  exact x_l2_G (fun v1 v2 σ τ => V σ τ 3 [(0, .ref (ad 0)), (1, .int v1), (2, .int v2)] []) (fun K3 hK3 v1 v2 σ τ h => bX11_appendBytes_3 X hK3 h) h
theorem dX11_appendInput_0 : decode cX11_appendInput 0 = .ok (.aload_n 0, 1) := by decide +kernel
theorem dX11_appendInput_1 : decode cX11_appendInput 1 = .ok (.iconst 0, 1) := by decide +kernel
theorem dX11_appendInput_2 : decode cX11_appendInput 2 = .ok (.putfield 82, 3) := by decide +kernel
theorem dX11_appendInput_5 : decode cX11_appendInput 5 = .ok (.aload_n 0, 1) := by decide +kernel
theorem dX11_appendInput_6 : decode cX11_appendInput 6 = .ok (.getfield 383, 3) := by decide +kernel
theorem dX11_appendInput_9 : decode cX11_appendInput 9 = .ok (.bipush 20, 2) := by decide +kernel
theorem dX11_appendInput_11 : decode cX11_appendInput 11 = .ok (.iadd, 1) := by decide +kernel
theorem dX11_appendInput_12 : decode cX11_appendInput 12 = .ok (.sipush 1500, 3) := by decide +kernel
theorem dX11_appendInput_15 : decode cX11_appendInput 15 = .ok (.if_icmp .le 5, 3) := by decide +kernel
theorem dX11_appendInput_18 : decode cX11_appendInput 18 = .ok (.iconst (-1), 1) := by decide +kernel
theorem dX11_appendInput_19 : decode cX11_appendInput 19 = .ok (.ireturn, 1) := by decide +kernel
theorem dX11_appendInput_20 : decode cX11_appendInput 20 = .ok (.aload_n 0, 1) := by decide +kernel
theorem dX11_appendInput_21 : decode cX11_appendInput 21 = .ok (.iload_n 1, 1) := by decide +kernel
theorem dX11_appendInput_22 : decode cX11_appendInput 22 = .ok (.invokevirtual 386, 3) := by decide +kernel
theorem dX11_appendInput_25 : decode cX11_appendInput 25 = .ok (.aload_n 0, 1) := by decide +kernel
theorem dX11_appendInput_26 : decode cX11_appendInput 26 = .ok (.iload_n 2, 1) := by decide +kernel
theorem dX11_appendInput_27 : decode cX11_appendInput 27 = .ok (.invokevirtual 386, 3) := by decide +kernel
theorem dX11_appendInput_30 : decode cX11_appendInput 30 = .ok (.aload_n 0, 1) := by decide +kernel
theorem dX11_appendInput_31 : decode cX11_appendInput 31 = .ok (.iload_n 3, 1) := by decide +kernel
theorem dX11_appendInput_32 : decode cX11_appendInput 32 = .ok (.invokevirtual 386, 3) := by decide +kernel
theorem dX11_appendInput_35 : decode cX11_appendInput 35 = .ok (.aload_n 0, 1) := by decide +kernel
theorem dX11_appendInput_36 : decode cX11_appendInput 36 = .ok (.iload 4, 2) := by decide +kernel
theorem dX11_appendInput_38 : decode cX11_appendInput 38 = .ok (.invokevirtual 386, 3) := by decide +kernel
theorem dX11_appendInput_41 : decode cX11_appendInput 41 = .ok (.aload_n 0, 1) := by decide +kernel
theorem dX11_appendInput_42 : decode cX11_appendInput 42 = .ok (.iload 5, 2) := by decide +kernel
theorem dX11_appendInput_44 : decode cX11_appendInput 44 = .ok (.invokevirtual 386, 3) := by decide +kernel
theorem dX11_appendInput_47 : decode cX11_appendInput 47 = .ok (.aload_n 0, 1) := by decide +kernel
theorem dX11_appendInput_48 : decode cX11_appendInput 48 = .ok (.getfield 383, 3) := by decide +kernel
theorem dX11_appendInput_51 : decode cX11_appendInput 51 = .ok (.ireturn, 1) := by decide +kernel
theorem cm_X11_appendInput : x_CM yX11_appendInput cX11_appendInput 6 (Option.some FieldType.int) 5 := ⟨w_9_86, w_1_12, by decide +kernel, by decide +kernel⟩
theorem ci_X11_appendInput : x_CI yX11_appendInput 13 := ⟨w_9_84, w_9_85, (RX11, TX11, 41), rfl, rfl⟩
set_option maxRecDepth 100000 in
set_option maxHeartbeats 4000000 in
theorem kX11_appendInput {ad : Nat → Nat} {a1 : Int32} {a2 : Int32} {a3 : Int32} {a4 : Int32} {a5 : Int32} {σ : x_S} {τ : x_L} {Q : Int32 → x_S → x_L → Prop} (h : wX11_appendInput a1 a2 a3 a4 a5 σ τ Q) : x_Met yX11_appendInput cX11_appendInput 6 (Option.some FieldType.int) 1 ad dsM [.ref (ad 0), .int a1, .int a2, .int a3, .int a4, .int a5] σ τ (x_PI Q) := by
  refine x_met (by decide +kernel) (Nat.le_of_ble_eq_true rfl) (fun V X => ?_)
  have X : x_Is V cX11_appendInput 6 RX11 (Option.some FieldType.int) ad dsM 1 (x_PI Q) := X
  show V σ τ 0 [(0, .ref (ad 0)), (1, .int a1), (2, .int a2), (3, .int a3), (4, .int a4), (5, .int a5)] []
  refine x_aload_n X dX11_appendInput_0 rfl 0 rfl ?_
  refine x_iconst X dX11_appendInput_1 ki_0 ?_
  refine x_putI X dX11_appendInput_2 fl_11_82 ft_11_5 dsM_0 rfl ?_
  refine x_aload_n X dX11_appendInput_5 rfl 0 rfl ?_
  refine x_getI X dX11_appendInput_6 fl_11_383 dsM_0 rfl ?_
  refine x_bipush X dX11_appendInput_9 kb_20 ?_
  refine x_iadd X dX11_appendInput_11 ?_
  refine x_sipush X dX11_appendInput_12 ks_1500 ?_
  refine x_icmp_le X 20 dX11_appendInput_15 (by decide) (fun hc => ?_) (fun hc => ?_)
  · have h := h.1 hc
    refine x_aload_n X dX11_appendInput_20 rfl 0 rfl ?_
    refine x_iload_n X dX11_appendInput_21 rfl 1 rfl ?_
    refine x_callVv X [.int a1] [] dX11_appendInput_22 (kX11_appendBytes h) cm_X11_appendBytes ci_X11_appendBytes w_9_87 dsM_0 ⟨by decide, by decide⟩ rfl (Nat.le_of_ble_eq_true rfl) (fun σ22 τ22 h => ?_)
    refine x_aload_n X dX11_appendInput_25 rfl 0 rfl ?_
    refine x_iload_n X dX11_appendInput_26 rfl 2 rfl ?_
    refine x_callVv X [.int a2] [] dX11_appendInput_27 (kX11_appendBytes h) cm_X11_appendBytes ci_X11_appendBytes w_9_87 dsM_0 ⟨by decide, by decide⟩ rfl (Nat.le_of_ble_eq_true rfl) (fun σ27 τ27 h => ?_)
    refine x_aload_n X dX11_appendInput_30 rfl 0 rfl ?_
    refine x_iload_n X dX11_appendInput_31 rfl 3 rfl ?_
    refine x_callVv X [.int a3] [] dX11_appendInput_32 (kX11_appendBytes h) cm_X11_appendBytes ci_X11_appendBytes w_9_87 dsM_0 ⟨by decide, by decide⟩ rfl (Nat.le_of_ble_eq_true rfl) (fun σ32 τ32 h => ?_)
    refine x_aload_n X dX11_appendInput_35 rfl 0 rfl ?_
    refine x_iload X dX11_appendInput_36 4 rfl ?_
    refine x_callVv X [.int a4] [] dX11_appendInput_38 (kX11_appendBytes h) cm_X11_appendBytes ci_X11_appendBytes w_9_87 dsM_0 ⟨by decide, by decide⟩ rfl (Nat.le_of_ble_eq_true rfl) (fun σ38 τ38 h => ?_)
    refine x_aload_n X dX11_appendInput_41 rfl 0 rfl ?_
    refine x_iload X dX11_appendInput_42 5 rfl ?_
    refine x_callVv X [.int a5] [] dX11_appendInput_44 (kX11_appendBytes h) cm_X11_appendBytes ci_X11_appendBytes w_9_87 dsM_0 ⟨by decide, by decide⟩ rfl (Nat.le_of_ble_eq_true rfl) (fun σ44 τ44 h => ?_)
    refine x_aload_n X dX11_appendInput_47 rfl 0 rfl ?_
    refine x_getI X dX11_appendInput_48 fl_11_383 dsM_0 rfl ?_
    exact x_iret X dX11_appendInput_51 ⟨_, rfl, h⟩
  · have h := h.2 hc
    refine x_iconst X dX11_appendInput_18 ki_m1 ?_
    exact x_iret X dX11_appendInput_19 ⟨_, rfl, h⟩
theorem dX11_truncateInput_0 : decode cX11_truncateInput 0 = .ok (.aload_n 0, 1) := by decide +kernel
theorem dX11_truncateInput_1 : decode cX11_truncateInput 1 = .ok (.iconst 0, 1) := by decide +kernel
theorem dX11_truncateInput_2 : decode cX11_truncateInput 2 = .ok (.putfield 82, 3) := by decide +kernel
theorem dX11_truncateInput_5 : decode cX11_truncateInput 5 = .ok (.iload_n 1, 1) := by decide +kernel
theorem dX11_truncateInput_6 : decode cX11_truncateInput 6 = .ok (.i2l, 1) := by decide +kernel
theorem dX11_truncateInput_7 : decode cX11_truncateInput 7 = .ok (.lconst 0, 1) := by decide +kernel
theorem dX11_truncateInput_8 : decode cX11_truncateInput 8 = .ok (.aload_n 0, 1) := by decide +kernel
theorem dX11_truncateInput_9 : decode cX11_truncateInput 9 = .ok (.getfield 383, 3) := by decide +kernel
theorem dX11_truncateInput_12 : decode cX11_truncateInput 12 = .ok (.i2l, 1) := by decide +kernel
theorem dX11_truncateInput_13 : decode cX11_truncateInput 13 = .ok (.invokestatic 95, 3) := by decide +kernel
theorem dX11_truncateInput_16 : decode cX11_truncateInput 16 = .ok (.ifCond .ne 5, 3) := by decide +kernel
theorem dX11_truncateInput_19 : decode cX11_truncateInput 19 = .ok (.iconst (-1), 1) := by decide +kernel
theorem dX11_truncateInput_20 : decode cX11_truncateInput 20 = .ok (.ireturn, 1) := by decide +kernel
theorem dX11_truncateInput_21 : decode cX11_truncateInput 21 = .ok (.aload_n 0, 1) := by decide +kernel
theorem dX11_truncateInput_22 : decode cX11_truncateInput 22 = .ok (.iload_n 1, 1) := by decide +kernel
theorem dX11_truncateInput_23 : decode cX11_truncateInput 23 = .ok (.putfield 383, 3) := by decide +kernel
theorem dX11_truncateInput_26 : decode cX11_truncateInput 26 = .ok (.iload_n 1, 1) := by decide +kernel
theorem dX11_truncateInput_27 : decode cX11_truncateInput 27 = .ok (.ireturn, 1) := by decide +kernel
theorem cm_X11_truncateInput : x_CM yX11_truncateInput cX11_truncateInput 2 (Option.some FieldType.int) 1 := ⟨w_9_94, w_1_12, by decide +kernel, by decide +kernel⟩
theorem ci_X11_truncateInput : x_CI yX11_truncateInput 13 := ⟨w_9_92, w_9_93, (RX11, TX11, 41), rfl, rfl⟩
set_option maxRecDepth 100000 in
set_option maxHeartbeats 4000000 in
theorem kX11_truncateInput {ad : Nat → Nat} {a1 : Int32} {σ : x_S} {τ : x_L} {Q : Int32 → x_S → x_L → Prop} (h : wX11_truncateInput a1 σ τ Q) : x_Met yX11_truncateInput cX11_truncateInput 2 (Option.some FieldType.int) 1 ad dsM [.ref (ad 0), .int a1] σ τ (x_PI Q) := by
  refine x_met (by decide +kernel) (Nat.le_of_ble_eq_true rfl) (fun V X => ?_)
  have X : x_Is V cX11_truncateInput 2 RX11 (Option.some FieldType.int) ad dsM 1 (x_PI Q) := X
  show V σ τ 0 [(0, .ref (ad 0)), (1, .int a1)] []
  refine x_aload_n X dX11_truncateInput_0 rfl 0 rfl ?_
  refine x_iconst X dX11_truncateInput_1 ki_0 ?_
  refine x_putI X dX11_truncateInput_2 fl_11_82 ft_11_5 dsM_0 rfl ?_
  refine x_iload_n X dX11_truncateInput_5 rfl 1 rfl ?_
  refine x_i2l X dX11_truncateInput_6 ?_
  refine x_lconst X (v := 0) dX11_truncateInput_7 (by decide) ?_
  refine x_aload_n X dX11_truncateInput_8 rfl 0 rfl ?_
  refine x_getI X dX11_truncateInput_9 fl_11_383 dsM_0 rfl ?_
  refine x_i2l X dX11_truncateInput_12 ?_
  refine x_callSi X [.long ((a1 : Int32).toInt64), .long 0, .long ((((x_up σ 0 5 0) 0 31) : Int32).toInt64)] [] dX11_truncateInput_13 (kX11_inRange h) cm_X11_inRange w_7_91 rfl w_7_90 ⟨by decide, by decide⟩ rfl (Nat.le_of_ble_eq_true rfl) (fun r13 σ13 τ13 h => ?_)
  refine x_if_ne X 21 dX11_truncateInput_16 (by decide) (fun hc => ?_) (fun hc => ?_)
  · have h := h.1 hc
    refine x_aload_n X dX11_truncateInput_21 rfl 0 rfl ?_
    refine x_iload_n X dX11_truncateInput_22 rfl 1 rfl ?_
    refine x_putI X dX11_truncateInput_23 fl_11_383 ft_11_31 dsM_0 rfl ?_
    refine x_iload_n X dX11_truncateInput_26 rfl 1 rfl ?_
    exact x_iret X dX11_truncateInput_27 ⟨_, rfl, h⟩
  · have h := h.2 hc
    refine x_iconst X dX11_truncateInput_19 ki_m1 ?_
    exact x_iret X dX11_truncateInput_20 ⟨_, rfl, h⟩
theorem dX11_errorCode_0 : decode cX11_errorCode 0 = .ok (.aload_n 0, 1) := by decide +kernel
theorem dX11_errorCode_1 : decode cX11_errorCode 1 = .ok (.iconst 0, 1) := by decide +kernel
theorem dX11_errorCode_2 : decode cX11_errorCode 2 = .ok (.putfield 82, 3) := by decide +kernel
theorem dX11_errorCode_5 : decode cX11_errorCode 5 = .ok (.aload_n 0, 1) := by decide +kernel
theorem dX11_errorCode_6 : decode cX11_errorCode 6 = .ok (.getfield 389, 3) := by decide +kernel
theorem dX11_errorCode_9 : decode cX11_errorCode 9 = .ok (.ireturn, 1) := by decide +kernel
theorem cm_X11_errorCode : x_CM yX11_errorCode cX11_errorCode 1 (Option.some FieldType.int) 0 := ⟨w_9_98, w_1_12, by decide +kernel, by decide +kernel⟩
theorem ci_X11_errorCode : x_CI yX11_errorCode 13 := ⟨w_9_96, w_9_97, (RX11, TX11, 41), rfl, rfl⟩
set_option maxRecDepth 100000 in
set_option maxHeartbeats 4000000 in
theorem kX11_errorCode {ad : Nat → Nat} {σ : x_S} {τ : x_L} {Q : Int32 → x_S → x_L → Prop} (h : wX11_errorCode σ τ Q) : x_Met yX11_errorCode cX11_errorCode 1 (Option.some FieldType.int) 0 ad dsM [.ref (ad 0)] σ τ (x_PI Q) := by
  refine x_met (by decide +kernel) (Nat.le_of_ble_eq_true rfl) (fun V X => ?_)
  have X : x_Is V cX11_errorCode 1 RX11 (Option.some FieldType.int) ad dsM 0 (x_PI Q) := X
  show V σ τ 0 [(0, .ref (ad 0))] []
  refine x_aload_n X dX11_errorCode_0 rfl 0 rfl ?_
  refine x_iconst X dX11_errorCode_1 ki_0 ?_
  refine x_putI X dX11_errorCode_2 fl_11_82 ft_11_5 dsM_0 rfl ?_
  refine x_aload_n X dX11_errorCode_5 rfl 0 rfl ?_
  refine x_getI X dX11_errorCode_6 fl_11_389 dsM_0 rfl ?_
  exact x_iret X dX11_errorCode_9 ⟨_, rfl, h⟩
theorem dX11_errorPosition_0 : decode cX11_errorPosition 0 = .ok (.aload_n 0, 1) := by decide +kernel
theorem dX11_errorPosition_1 : decode cX11_errorPosition 1 = .ok (.iconst 0, 1) := by decide +kernel
theorem dX11_errorPosition_2 : decode cX11_errorPosition 2 = .ok (.putfield 82, 3) := by decide +kernel
theorem dX11_errorPosition_5 : decode cX11_errorPosition 5 = .ok (.aload_n 0, 1) := by decide +kernel
theorem dX11_errorPosition_6 : decode cX11_errorPosition 6 = .ok (.getfield 75, 3) := by decide +kernel
theorem dX11_errorPosition_9 : decode cX11_errorPosition 9 = .ok (.ireturn, 1) := by decide +kernel
theorem cm_X11_errorPosition : x_CM yX11_errorPosition cX11_errorPosition 1 (Option.some FieldType.int) 0 := ⟨w_9_102, w_1_12, by decide +kernel, by decide +kernel⟩
theorem ci_X11_errorPosition : x_CI yX11_errorPosition 13 := ⟨w_9_100, w_9_101, (RX11, TX11, 41), rfl, rfl⟩
set_option maxRecDepth 100000 in
set_option maxHeartbeats 4000000 in
theorem kX11_errorPosition {ad : Nat → Nat} {σ : x_S} {τ : x_L} {Q : Int32 → x_S → x_L → Prop} (h : wX11_errorPosition σ τ Q) : x_Met yX11_errorPosition cX11_errorPosition 1 (Option.some FieldType.int) 0 ad dsM [.ref (ad 0)] σ τ (x_PI Q) := by
  refine x_met (by decide +kernel) (Nat.le_of_ble_eq_true rfl) (fun V X => ?_)
  have X : x_Is V cX11_errorPosition 1 RX11 (Option.some FieldType.int) ad dsM 0 (x_PI Q) := X
  show V σ τ 0 [(0, .ref (ad 0))] []
  refine x_aload_n X dX11_errorPosition_0 rfl 0 rfl ?_
  refine x_iconst X dX11_errorPosition_1 ki_0 ?_
  refine x_putI X dX11_errorPosition_2 fl_11_82 ft_11_5 dsM_0 rfl ?_
  refine x_aload_n X dX11_errorPosition_5 rfl 0 rfl ?_
  refine x_getI X dX11_errorPosition_6 fl_11_75 dsM_0 rfl ?_
  exact x_iret X dX11_errorPosition_9 ⟨_, rfl, h⟩
theorem dX11_byteAt_0 : decode cX11_byteAt 0 = .ok (.iload_n 1, 1) := by decide +kernel
theorem dX11_byteAt_1 : decode cX11_byteAt 1 = .ok (.aload_n 0, 1) := by decide +kernel
theorem dX11_byteAt_2 : decode cX11_byteAt 2 = .ok (.getfield 383, 3) := by decide +kernel
theorem dX11_byteAt_5 : decode cX11_byteAt 5 = .ok (.if_icmp .ge 16, 3) := by decide +kernel
theorem dX11_byteAt_8 : decode cX11_byteAt 8 = .ok (.aload_n 0, 1) := by decide +kernel
theorem dX11_byteAt_9 : decode cX11_byteAt 9 = .ok (.getfield 71, 3) := by decide +kernel
theorem dX11_byteAt_12 : decode cX11_byteAt 12 = .ok (.iload_n 1, 1) := by decide +kernel
theorem dX11_byteAt_13 : decode cX11_byteAt 13 = .ok (.baload, 1) := by decide +kernel
theorem dX11_byteAt_14 : decode cX11_byteAt 14 = .ok (.sipush 255, 3) := by decide +kernel
theorem dX11_byteAt_17 : decode cX11_byteAt 17 = .ok (.iand, 1) := by decide +kernel
theorem dX11_byteAt_18 : decode cX11_byteAt 18 = .ok (.goto 4, 3) := by decide +kernel
theorem dX11_byteAt_21 : decode cX11_byteAt 21 = .ok (.iconst (-1), 1) := by decide +kernel
theorem dX11_byteAt_22 : decode cX11_byteAt 22 = .ok (.ireturn, 1) := by decide +kernel
theorem cm_X11_byteAt : x_CM yX11_byteAt cX11_byteAt 2 (Option.some FieldType.int) 1 := ⟨w_9_118, w_1_12, by decide +kernel, by decide +kernel⟩
theorem ci_X11_byteAt : x_CI yX11_byteAt 13 := ⟨w_9_117, wp_117, (RX11, TX11, 41), rfl, rfl⟩
set_option maxRecDepth 100000 in
set_option maxHeartbeats 4000000 in
theorem bX11_byteAt_22 {V : x_J} {ad : Nat → Nat} {Q : Int32 → x_S → x_L → Prop} (X : x_Is V cX11_byteAt 2 RX11 (Option.some FieldType.int) ad dsM 0 (x_PI Q)) {s0 : Int32} {σ : x_S} {τ : x_L} (h : wX11_byteAt_22 Q s0 σ τ) : V σ τ 22 [] [.int s0] := by
  exact x_iret X dX11_byteAt_22 ⟨_, rfl, h⟩
set_option maxRecDepth 100000 in
set_option maxHeartbeats 4000000 in
theorem kX11_byteAt {ad : Nat → Nat} {a1 : Int32} {σ : x_S} {τ : x_L} {Q : Int32 → x_S → x_L → Prop} (h : wX11_byteAt a1 σ τ Q) : x_Met yX11_byteAt cX11_byteAt 2 (Option.some FieldType.int) 0 ad dsM [.ref (ad 0), .int a1] σ τ (x_PI Q) := by
  refine x_met (by decide +kernel) (Nat.le_of_ble_eq_true rfl) (fun V X => ?_)
  have X : x_Is V cX11_byteAt 2 RX11 (Option.some FieldType.int) ad dsM 0 (x_PI Q) := X
  show V σ τ 0 [(0, .ref (ad 0)), (1, .int a1)] []
  refine x_iload_n X dX11_byteAt_0 rfl 1 rfl ?_
  refine x_aload_n X dX11_byteAt_1 rfl 0 rfl ?_
  refine x_getI X dX11_byteAt_2 fl_11_383 dsM_0 rfl ?_
  refine x_icmp_ge X 21 dX11_byteAt_5 (by decide) (fun hc => ?_) (fun hc => ?_)
  · have h := h.1 hc
    refine x_iconst X dX11_byteAt_21 ki_m1 ?_
    refine x_sub X [] (lv' := []) rfl ?_
    exact bX11_byteAt_22 X h
  · have h := h.2 hc
    refine x_aload_n X dX11_byteAt_8 rfl 0 rfl ?_
    refine x_getR X (j := 21) dX11_byteAt_9 fl_11_71 dsM_0 rfl ?_
    refine x_iload_n X dX11_byteAt_12 rfl 1 rfl ?_
    have g13 := h.1
    have h := h.2
    refine x_bald X dX11_byteAt_13 dsM_21 g13 ?_
    refine x_sipush X dX11_byteAt_14 ks_255 ?_
    refine x_iand X dX11_byteAt_17 ?_
    refine x_goto X (tgt := 22) dX11_byteAt_18 (by decide) ?_
    refine x_sub X [] (lv' := []) rfl ?_
    exact bX11_byteAt_22 X h
theorem dX11_isLetter_0 : decode cX11_isLetter 0 = .ok (.iload_n 0, 1) := by decide +kernel
theorem dX11_isLetter_1 : decode cX11_isLetter 1 = .ok (.i2l, 1) := by decide +kernel
theorem dX11_isLetter_2 : decode cX11_isLetter 2 = .ok (.ldc2_w 392, 3) := by decide +kernel
theorem dX11_isLetter_5 : decode cX11_isLetter 5 = .ok (.ldc2_w 394, 3) := by decide +kernel
theorem dX11_isLetter_8 : decode cX11_isLetter 8 = .ok (.invokestatic 95, 3) := by decide +kernel
theorem dX11_isLetter_11 : decode cX11_isLetter 11 = .ok (.ireturn, 1) := by decide +kernel
theorem cm_X11_isLetter : x_CM yX11_isLetter cX11_isLetter 1 (Option.some FieldType.boolean) 1 := ⟨w_9_121, w_1_12, by decide +kernel, by decide +kernel⟩
set_option maxRecDepth 100000 in
set_option maxHeartbeats 4000000 in
theorem kX11_isLetter {ad : Nat → Nat} {a0 : Int32} {σ : x_S} {τ : x_L} {Q : Int32 → x_S → x_L → Prop} (h : wX11_isLetter a0 σ τ Q) : x_Met yX11_isLetter cX11_isLetter 1 (Option.some FieldType.boolean) 1 ad dsM [.int a0] σ τ (x_PI Q) := by
  refine x_met (by decide +kernel) (Nat.le_of_ble_eq_true rfl) (fun V X => ?_)
  have X : x_Is V cX11_isLetter 1 RX11 (Option.some FieldType.boolean) ad dsM 1 (x_PI Q) := X
  show V σ τ 0 [(0, .int a0)] []
  refine x_iload_n X dX11_isLetter_0 rfl 0 rfl ?_
  refine x_i2l X dX11_isLetter_1 ?_
  refine x_ldc2 X dX11_isLetter_2 w_9_122 ?_
  refine x_ldc2 X dX11_isLetter_5 w_9_123 ?_
  refine x_callSi X [.long ((a0 : Int32).toInt64), .long 97, .long 122] [] dX11_isLetter_8 (kX11_inRange h) cm_X11_inRange w_7_91 rfl w_7_90 ⟨by decide, by decide⟩ rfl (Nat.le_of_ble_eq_true rfl) (fun r8 σ8 τ8 h => ?_)
  exact x_zret X dX11_isLetter_11 ⟨h.1, _, rfl, h.2⟩
theorem dX11_isDigit_0 : decode cX11_isDigit 0 = .ok (.iload_n 0, 1) := by decide +kernel
theorem dX11_isDigit_1 : decode cX11_isDigit 1 = .ok (.i2l, 1) := by decide +kernel
theorem dX11_isDigit_2 : decode cX11_isDigit 2 = .ok (.ldc2_w 396, 3) := by decide +kernel
theorem dX11_isDigit_5 : decode cX11_isDigit 5 = .ok (.ldc2_w 398, 3) := by decide +kernel
theorem dX11_isDigit_8 : decode cX11_isDigit 8 = .ok (.invokestatic 95, 3) := by decide +kernel
theorem dX11_isDigit_11 : decode cX11_isDigit 11 = .ok (.ireturn, 1) := by decide +kernel
theorem cm_X11_isDigit : x_CM yX11_isDigit cX11_isDigit 1 (Option.some FieldType.boolean) 1 := ⟨w_9_126, w_1_12, by decide +kernel, by decide +kernel⟩
set_option maxRecDepth 100000 in
set_option maxHeartbeats 4000000 in
theorem kX11_isDigit {ad : Nat → Nat} {a0 : Int32} {σ : x_S} {τ : x_L} {Q : Int32 → x_S → x_L → Prop} (h : wX11_isDigit a0 σ τ Q) : x_Met yX11_isDigit cX11_isDigit 1 (Option.some FieldType.boolean) 1 ad dsM [.int a0] σ τ (x_PI Q) := by
  refine x_met (by decide +kernel) (Nat.le_of_ble_eq_true rfl) (fun V X => ?_)
  have X : x_Is V cX11_isDigit 1 RX11 (Option.some FieldType.boolean) ad dsM 1 (x_PI Q) := X
  show V σ τ 0 [(0, .int a0)] []
  refine x_iload_n X dX11_isDigit_0 rfl 0 rfl ?_
  refine x_i2l X dX11_isDigit_1 ?_
  refine x_ldc2 X dX11_isDigit_2 w_9_127 ?_
  refine x_ldc2 X dX11_isDigit_5 w_9_128 ?_
  refine x_callSi X [.long ((a0 : Int32).toInt64), .long 48, .long 57] [] dX11_isDigit_8 (kX11_inRange h) cm_X11_inRange w_7_91 rfl w_7_90 ⟨by decide, by decide⟩ rfl (Nat.le_of_ble_eq_true rfl) (fun r8 σ8 τ8 h => ?_)
  exact x_zret X dX11_isDigit_11 ⟨h.1, _, rfl, h.2⟩
theorem dX11_advance_0 : decode cX11_advance 0 = .ok (.aload_n 0, 1) := by decide +kernel
theorem dX11_advance_1 : decode cX11_advance 1 = .ok (.aload_n 0, 1) := by decide +kernel
theorem dX11_advance_2 : decode cX11_advance 2 = .ok (.getfield 400, 3) := by decide +kernel
theorem dX11_advance_5 : decode cX11_advance 5 = .ok (.invokevirtual 403, 3) := by decide +kernel
theorem dX11_advance_8 : decode cX11_advance 8 = .ok (.bipush 32, 2) := by decide +kernel
theorem dX11_advance_10 : decode cX11_advance 10 = .ok (.if_icmp .eq 16, 3) := by decide +kernel
theorem dX11_advance_13 : decode cX11_advance 13 = .ok (.aload_n 0, 1) := by decide +kernel
theorem dX11_advance_14 : decode cX11_advance 14 = .ok (.aload_n 0, 1) := by decide +kernel
theorem dX11_advance_15 : decode cX11_advance 15 = .ok (.getfield 400, 3) := by decide +kernel
theorem dX11_advance_18 : decode cX11_advance 18 = .ok (.invokevirtual 403, 3) := by decide +kernel
theorem dX11_advance_21 : decode cX11_advance 21 = .ok (.bipush 10, 2) := by decide +kernel
theorem dX11_advance_23 : decode cX11_advance 23 = .ok (.if_icmp .ne 16, 3) := by decide +kernel
theorem dX11_advance_26 : decode cX11_advance 26 = .ok (.aload_n 0, 1) := by decide +kernel
theorem dX11_advance_27 : decode cX11_advance 27 = .ok (.dup, 1) := by decide +kernel
theorem dX11_advance_28 : decode cX11_advance 28 = .ok (.getfield 400, 3) := by decide +kernel
theorem dX11_advance_31 : decode cX11_advance 31 = .ok (.iconst 1, 1) := by decide +kernel
theorem dX11_advance_32 : decode cX11_advance 32 = .ok (.iadd, 1) := by decide +kernel
theorem dX11_advance_33 : decode cX11_advance 33 = .ok (.putfield 400, 3) := by decide +kernel
theorem dX11_advance_36 : decode cX11_advance 36 = .ok (.goto (-36), 3) := by decide +kernel
theorem dX11_advance_39 : decode cX11_advance 39 = .ok (.aload_n 0, 1) := by decide +kernel
theorem dX11_advance_40 : decode cX11_advance 40 = .ok (.aload_n 0, 1) := by decide +kernel
theorem dX11_advance_41 : decode cX11_advance 41 = .ok (.getfield 400, 3) := by decide +kernel
theorem dX11_advance_44 : decode cX11_advance 44 = .ok (.putfield 406, 3) := by decide +kernel
theorem dX11_advance_47 : decode cX11_advance 47 = .ok (.aload_n 0, 1) := by decide +kernel
theorem dX11_advance_48 : decode cX11_advance 48 = .ok (.lconst 0, 1) := by decide +kernel
theorem dX11_advance_49 : decode cX11_advance 49 = .ok (.putfield 409, 3) := by decide +kernel
theorem dX11_advance_52 : decode cX11_advance 52 = .ok (.aload_n 0, 1) := by decide +kernel
theorem dX11_advance_53 : decode cX11_advance 53 = .ok (.aload_n 0, 1) := by decide +kernel
theorem dX11_advance_54 : decode cX11_advance 54 = .ok (.getfield 406, 3) := by decide +kernel
theorem dX11_advance_57 : decode cX11_advance 57 = .ok (.invokevirtual 403, 3) := by decide +kernel
theorem dX11_advance_60 : decode cX11_advance 60 = .ok (.istore_n 1, 1) := by decide +kernel
theorem dX11_advance_61 : decode cX11_advance 61 = .ok (.aload_n 0, 1) := by decide +kernel
theorem dX11_advance_62 : decode cX11_advance 62 = .ok (.iload_n 1, 1) := by decide +kernel
theorem dX11_advance_63 : decode cX11_advance 63 = .ok (.iconst (-1), 1) := by decide +kernel
theorem dX11_advance_64 : decode cX11_advance 64 = .ok (.if_icmp .ne 7, 3) := by decide +kernel
theorem dX11_advance_67 : decode cX11_advance 67 = .ok (.iconst 0, 1) := by decide +kernel
theorem dX11_advance_68 : decode cX11_advance 68 = .ok (.goto 36, 3) := by decide +kernel
theorem dX11_advance_71 : decode cX11_advance 71 = .ok (.iload_n 1, 1) := by decide +kernel
theorem dX11_advance_72 : decode cX11_advance 72 = .ok (.invokestatic 413, 3) := by decide +kernel
theorem dX11_advance_75 : decode cX11_advance 75 = .ok (.ifCond .eq 7, 3) := by decide +kernel
theorem dX11_advance_78 : decode cX11_advance 78 = .ok (.iconst 1, 1) := by decide +kernel
theorem dX11_advance_79 : decode cX11_advance 79 = .ok (.goto 25, 3) := by decide +kernel
theorem dX11_advance_82 : decode cX11_advance 82 = .ok (.iload_n 1, 1) := by decide +kernel
theorem dX11_advance_83 : decode cX11_advance 83 = .ok (.invokestatic 416, 3) := by decide +kernel
theorem dX11_advance_86 : decode cX11_advance 86 = .ok (.ifCond .eq 7, 3) := by decide +kernel
theorem dX11_advance_89 : decode cX11_advance 89 = .ok (.iconst 2, 1) := by decide +kernel
theorem dX11_advance_90 : decode cX11_advance 90 = .ok (.goto 14, 3) := by decide +kernel
theorem dX11_advance_93 : decode cX11_advance 93 = .ok (.iload_n 1, 1) := by decide +kernel
theorem dX11_advance_94 : decode cX11_advance 94 = .ok (.bipush 59, 2) := by decide +kernel
theorem dX11_advance_96 : decode cX11_advance 96 = .ok (.if_icmp .ne 7, 3) := by decide +kernel
theorem dX11_advance_99 : decode cX11_advance 99 = .ok (.iconst 3, 1) := by decide +kernel
theorem dX11_advance_100 : decode cX11_advance 100 = .ok (.goto 4, 3) := by decide +kernel
theorem dX11_advance_103 : decode cX11_advance 103 = .ok (.iconst 4, 1) := by decide +kernel
theorem dX11_advance_104 : decode cX11_advance 104 = .ok (.putfield 419, 3) := by decide +kernel
theorem dX11_advance_107 : decode cX11_advance 107 = .ok (.aload_n 0, 1) := by decide +kernel
theorem dX11_advance_108 : decode cX11_advance 108 = .ok (.getfield 419, 3) := by decide +kernel
theorem dX11_advance_111 : decode cX11_advance 111 = .ok (.iconst 2, 1) := by decide +kernel
theorem dX11_advance_112 : decode cX11_advance 112 = .ok (.if_icmp .le 13, 3) := by decide +kernel
theorem dX11_advance_115 : decode cX11_advance 115 = .ok (.aload_n 0, 1) := by decide +kernel
theorem dX11_advance_116 : decode cX11_advance 116 = .ok (.dup, 1) := by decide +kernel
theorem dX11_advance_117 : decode cX11_advance 117 = .ok (.getfield 400, 3) := by decide +kernel
theorem dX11_advance_120 : decode cX11_advance 120 = .ok (.iconst 1, 1) := by decide +kernel
theorem dX11_advance_121 : decode cX11_advance 121 = .ok (.iadd, 1) := by decide +kernel
theorem dX11_advance_122 : decode cX11_advance 122 = .ok (.putfield 400, 3) := by decide +kernel
theorem dX11_advance_125 : decode cX11_advance 125 = .ok (.aload_n 0, 1) := by decide +kernel
theorem dX11_advance_126 : decode cX11_advance 126 = .ok (.getfield 419, 3) := by decide +kernel
theorem dX11_advance_129 : decode cX11_advance 129 = .ok (.iconst 1, 1) := by decide +kernel
theorem dX11_advance_130 : decode cX11_advance 130 = .ok (.if_icmp .ne 70, 3) := by decide +kernel
theorem dX11_advance_133 : decode cX11_advance 133 = .ok (.aload_n 0, 1) := by decide +kernel
theorem dX11_advance_134 : decode cX11_advance 134 = .ok (.aload_n 0, 1) := by decide +kernel
theorem dX11_advance_135 : decode cX11_advance 135 = .ok (.getfield 400, 3) := by decide +kernel
theorem dX11_advance_138 : decode cX11_advance 138 = .ok (.invokevirtual 403, 3) := by decide +kernel
theorem dX11_advance_141 : decode cX11_advance 141 = .ok (.invokestatic 413, 3) := by decide +kernel
theorem dX11_advance_144 : decode cX11_advance 144 = .ok (.ifCond .eq 56, 3) := by decide +kernel
theorem dX11_advance_147 : decode cX11_advance 147 = .ok (.aload_n 0, 1) := by decide +kernel
theorem dX11_advance_148 : decode cX11_advance 148 = .ok (.getfield 400, 3) := by decide +kernel
theorem dX11_advance_151 : decode cX11_advance 151 = .ok (.aload_n 0, 1) := by decide +kernel
theorem dX11_advance_152 : decode cX11_advance 152 = .ok (.getfield 406, 3) := by decide +kernel
theorem dX11_advance_155 : decode cX11_advance 155 = .ok (.isub, 1) := by decide +kernel
theorem dX11_advance_156 : decode cX11_advance 156 = .ok (.bipush 8, 2) := by decide +kernel
theorem dX11_advance_158 : decode cX11_advance 158 = .ok (.if_icmp .ge 29, 3) := by decide +kernel
theorem dX11_advance_161 : decode cX11_advance 161 = .ok (.aload_n 0, 1) := by decide +kernel
theorem dX11_advance_162 : decode cX11_advance 162 = .ok (.aload_n 0, 1) := by decide +kernel
theorem dX11_advance_163 : decode cX11_advance 163 = .ok (.getfield 409, 3) := by decide +kernel
theorem dX11_advance_166 : decode cX11_advance 166 = .ok (.ldc2_w 422, 3) := by decide +kernel
theorem dX11_advance_169 : decode cX11_advance 169 = .ok (.lmul, 1) := by decide +kernel
theorem dX11_advance_170 : decode cX11_advance 170 = .ok (.aload_n 0, 1) := by decide +kernel
theorem dX11_advance_171 : decode cX11_advance 171 = .ok (.aload_n 0, 1) := by decide +kernel
theorem dX11_advance_172 : decode cX11_advance 172 = .ok (.getfield 400, 3) := by decide +kernel
theorem dX11_advance_175 : decode cX11_advance 175 = .ok (.invokevirtual 403, 3) := by decide +kernel
theorem dX11_advance_178 : decode cX11_advance 178 = .ok (.i2l, 1) := by decide +kernel
theorem dX11_advance_179 : decode cX11_advance 179 = .ok (.ladd, 1) := by decide +kernel
theorem dX11_advance_180 : decode cX11_advance 180 = .ok (.ldc2_w 424, 3) := by decide +kernel
theorem dX11_advance_183 : decode cX11_advance 183 = .ok (.lsub, 1) := by decide +kernel
theorem dX11_advance_184 : decode cX11_advance 184 = .ok (.putfield 409, 3) := by decide +kernel
theorem dX11_advance_187 : decode cX11_advance 187 = .ok (.aload_n 0, 1) := by decide +kernel
theorem dX11_advance_188 : decode cX11_advance 188 = .ok (.dup, 1) := by decide +kernel
theorem dX11_advance_189 : decode cX11_advance 189 = .ok (.getfield 400, 3) := by decide +kernel
theorem dX11_advance_192 : decode cX11_advance 192 = .ok (.iconst 1, 1) := by decide +kernel
theorem dX11_advance_193 : decode cX11_advance 193 = .ok (.iadd, 1) := by decide +kernel
theorem dX11_advance_194 : decode cX11_advance 194 = .ok (.putfield 400, 3) := by decide +kernel
theorem dX11_advance_197 : decode cX11_advance 197 = .ok (.goto (-72), 3) := by decide +kernel
theorem dX11_advance_200 : decode cX11_advance 200 = .ok (.aload_n 0, 1) := by decide +kernel
theorem dX11_advance_201 : decode cX11_advance 201 = .ok (.getfield 419, 3) := by decide +kernel
theorem dX11_advance_204 : decode cX11_advance 204 = .ok (.iconst 2, 1) := by decide +kernel
theorem dX11_advance_205 : decode cX11_advance 205 = .ok (.if_icmp .ne 69, 3) := by decide +kernel
theorem dX11_advance_208 : decode cX11_advance 208 = .ok (.aload_n 0, 1) := by decide +kernel
theorem dX11_advance_209 : decode cX11_advance 209 = .ok (.aload_n 0, 1) := by decide +kernel
theorem dX11_advance_210 : decode cX11_advance 210 = .ok (.getfield 400, 3) := by decide +kernel
theorem dX11_advance_213 : decode cX11_advance 213 = .ok (.invokevirtual 403, 3) := by decide +kernel
theorem dX11_advance_216 : decode cX11_advance 216 = .ok (.invokestatic 416, 3) := by decide +kernel
theorem dX11_advance_219 : decode cX11_advance 219 = .ok (.ifCond .eq 55, 3) := by decide +kernel
theorem dX11_advance_222 : decode cX11_advance 222 = .ok (.aload_n 0, 1) := by decide +kernel
theorem dX11_advance_223 : decode cX11_advance 223 = .ok (.getfield 400, 3) := by decide +kernel
theorem dX11_advance_226 : decode cX11_advance 226 = .ok (.aload_n 0, 1) := by decide +kernel
theorem dX11_advance_227 : decode cX11_advance 227 = .ok (.getfield 406, 3) := by decide +kernel
theorem dX11_advance_230 : decode cX11_advance 230 = .ok (.isub, 1) := by decide +kernel
theorem dX11_advance_231 : decode cX11_advance 231 = .ok (.iconst 5, 1) := by decide +kernel
theorem dX11_advance_232 : decode cX11_advance 232 = .ok (.if_icmp .ge 29, 3) := by decide +kernel
theorem dX11_advance_235 : decode cX11_advance 235 = .ok (.aload_n 0, 1) := by decide +kernel
theorem dX11_advance_236 : decode cX11_advance 236 = .ok (.aload_n 0, 1) := by decide +kernel
theorem dX11_advance_237 : decode cX11_advance 237 = .ok (.getfield 409, 3) := by decide +kernel
theorem dX11_advance_240 : decode cX11_advance 240 = .ok (.ldc2_w 426, 3) := by decide +kernel
theorem dX11_advance_243 : decode cX11_advance 243 = .ok (.lmul, 1) := by decide +kernel
theorem dX11_advance_244 : decode cX11_advance 244 = .ok (.aload_n 0, 1) := by decide +kernel
theorem dX11_advance_245 : decode cX11_advance 245 = .ok (.aload_n 0, 1) := by decide +kernel
theorem dX11_advance_246 : decode cX11_advance 246 = .ok (.getfield 400, 3) := by decide +kernel
theorem dX11_advance_249 : decode cX11_advance 249 = .ok (.invokevirtual 403, 3) := by decide +kernel
theorem dX11_advance_252 : decode cX11_advance 252 = .ok (.i2l, 1) := by decide +kernel
theorem dX11_advance_253 : decode cX11_advance 253 = .ok (.ladd, 1) := by decide +kernel
theorem dX11_advance_254 : decode cX11_advance 254 = .ok (.ldc2_w 396, 3) := by decide +kernel
theorem dX11_advance_257 : decode cX11_advance 257 = .ok (.lsub, 1) := by decide +kernel
theorem dX11_advance_258 : decode cX11_advance 258 = .ok (.putfield 409, 3) := by decide +kernel
theorem dX11_advance_261 : decode cX11_advance 261 = .ok (.aload_n 0, 1) := by decide +kernel
theorem dX11_advance_262 : decode cX11_advance 262 = .ok (.dup, 1) := by decide +kernel
theorem dX11_advance_263 : decode cX11_advance 263 = .ok (.getfield 400, 3) := by decide +kernel
theorem dX11_advance_266 : decode cX11_advance 266 = .ok (.iconst 1, 1) := by decide +kernel
theorem dX11_advance_267 : decode cX11_advance 267 = .ok (.iadd, 1) := by decide +kernel
theorem dX11_advance_268 : decode cX11_advance 268 = .ok (.putfield 400, 3) := by decide +kernel
theorem dX11_advance_271 : decode cX11_advance 271 = .ok (.goto (-71), 3) := by decide +kernel
theorem dX11_advance_274 : decode cX11_advance 274 = .ok (.aload_n 0, 1) := by decide +kernel
theorem dX11_advance_275 : decode cX11_advance 275 = .ok (.getfield 419, 3) := by decide +kernel
theorem dX11_advance_278 : decode cX11_advance 278 = .ok (.iconst 1, 1) := by decide +kernel
theorem dX11_advance_279 : decode cX11_advance 279 = .ok (.if_icmp .ne 17, 3) := by decide +kernel
theorem dX11_advance_282 : decode cX11_advance 282 = .ok (.aload_n 0, 1) := by decide +kernel
theorem dX11_advance_283 : decode cX11_advance 283 = .ok (.getfield 400, 3) := by decide +kernel
theorem dX11_advance_286 : decode cX11_advance 286 = .ok (.aload_n 0, 1) := by decide +kernel
theorem dX11_advance_287 : decode cX11_advance 287 = .ok (.getfield 406, 3) := by decide +kernel
theorem dX11_advance_290 : decode cX11_advance 290 = .ok (.isub, 1) := by decide +kernel
theorem dX11_advance_291 : decode cX11_advance 291 = .ok (.bipush 8, 2) := by decide +kernel
theorem dX11_advance_293 : decode cX11_advance 293 = .ok (.if_icmp .gt 24, 3) := by decide +kernel
theorem dX11_advance_296 : decode cX11_advance 296 = .ok (.aload_n 0, 1) := by decide +kernel
theorem dX11_advance_297 : decode cX11_advance 297 = .ok (.getfield 419, 3) := by decide +kernel
theorem dX11_advance_300 : decode cX11_advance 300 = .ok (.iconst 2, 1) := by decide +kernel
theorem dX11_advance_301 : decode cX11_advance 301 = .ok (.if_icmp .ne 21, 3) := by decide +kernel
theorem dX11_advance_304 : decode cX11_advance 304 = .ok (.aload_n 0, 1) := by decide +kernel
theorem dX11_advance_305 : decode cX11_advance 305 = .ok (.getfield 400, 3) := by decide +kernel
theorem dX11_advance_308 : decode cX11_advance 308 = .ok (.aload_n 0, 1) := by decide +kernel
theorem dX11_advance_309 : decode cX11_advance 309 = .ok (.getfield 406, 3) := by decide +kernel
theorem dX11_advance_312 : decode cX11_advance 312 = .ok (.isub, 1) := by decide +kernel
theorem dX11_advance_313 : decode cX11_advance 313 = .ok (.iconst 5, 1) := by decide +kernel
theorem dX11_advance_314 : decode cX11_advance 314 = .ok (.if_icmp .le 8, 3) := by decide +kernel
theorem dX11_advance_317 : decode cX11_advance 317 = .ok (.aload_n 0, 1) := by decide +kernel
theorem dX11_advance_318 : decode cX11_advance 318 = .ok (.iconst 4, 1) := by decide +kernel
theorem dX11_advance_319 : decode cX11_advance 319 = .ok (.putfield 419, 3) := by decide +kernel
theorem dX11_advance_322 : decode cX11_advance 322 = .ok (.return_, 1) := by decide +kernel
theorem cm_X11_advance : x_CM yX11_advance cX11_advance 2 (Option.none : Option Jvm.ClassFile.FieldType) 0 := ⟨w_9_114, w_1_12, by decide +kernel, by decide +kernel⟩
theorem ci_X11_advance : x_CI yX11_advance 13 := ⟨w_9_113, wp_116, (RX11, TX11, 41), rfl, rfl⟩
set_option maxRecDepth 100000 in
set_option maxHeartbeats 4000000 in
theorem bX11_advance_26 {V : x_J} {ad : Nat → Nat} {Q : x_S → x_L → Prop} (X : x_Is V cX11_advance 2 RX11 (Option.none : Option Jvm.ClassFile.FieldType) ad dsM 2 (x_PV Q)) {K0 : x_S → x_L → Prop} (hK0 : ∀ σ τ, K0 σ τ → V σ τ 0 [(0, .ref (ad 0))] []) {σ : x_S} {τ : x_L} (h : wX11_advance_26 K0 Q σ τ) : V σ τ 26 [(0, .ref (ad 0))] [] := by
  refine x_aload_n X dX11_advance_26 rfl 0 rfl ?_
  refine x_dup X dX11_advance_27 rfl ?_
  refine x_getI X dX11_advance_28 fl_11_400 dsM_0 rfl ?_
  refine x_iconst X dX11_advance_31 ki_1 ?_
  refine x_iadd X dX11_advance_32 ?_
  refine x_putI X dX11_advance_33 fl_11_400 ft_11_32 dsM_0 rfl ?_
  refine x_goto X (tgt := 0) dX11_advance_36 (by decide) ?_
  exact hK0 _ _ h
set_option maxRecDepth 100000 in
set_option maxHeartbeats 4000000 in
theorem bX11_advance_187 {V : x_J} {ad : Nat → Nat} {Q : x_S → x_L → Prop} (X : x_Is V cX11_advance 2 RX11 (Option.none : Option Jvm.ClassFile.FieldType) ad dsM 2 (x_PV Q)) {K125 : x_S → x_L → Prop} (hK125 : ∀ σ τ, K125 σ τ → V σ τ 125 [(0, .ref (ad 0))] []) {σ : x_S} {τ : x_L} (h : wX11_advance_187 K125 Q σ τ) : V σ τ 187 [(0, .ref (ad 0))] [] := by
  refine x_aload_n X dX11_advance_187 rfl 0 rfl ?_
  refine x_dup X dX11_advance_188 rfl ?_
  refine x_getI X dX11_advance_189 fl_11_400 dsM_0 rfl ?_
  refine x_iconst X dX11_advance_192 ki_1 ?_
  refine x_iadd X dX11_advance_193 ?_
  refine x_putI X dX11_advance_194 fl_11_400 ft_11_32 dsM_0 rfl ?_
  refine x_goto X (tgt := 125) dX11_advance_197 (by decide) ?_
  exact hK125 _ _ h
set_option maxRecDepth 100000 in
set_option maxHeartbeats 4000000 in
theorem bX11_advance_261 {V : x_J} {ad : Nat → Nat} {Q : x_S → x_L → Prop} (X : x_Is V cX11_advance 2 RX11 (Option.none : Option Jvm.ClassFile.FieldType) ad dsM 2 (x_PV Q)) {K200 : x_S → x_L → Prop} (hK200 : ∀ σ τ, K200 σ τ → V σ τ 200 [(0, .ref (ad 0))] []) {σ : x_S} {τ : x_L} (h : wX11_advance_261 K200 Q σ τ) : V σ τ 261 [(0, .ref (ad 0))] [] := by
  refine x_aload_n X dX11_advance_261 rfl 0 rfl ?_
  refine x_dup X dX11_advance_262 rfl ?_
  refine x_getI X dX11_advance_263 fl_11_400 dsM_0 rfl ?_
  refine x_iconst X dX11_advance_266 ki_1 ?_
  refine x_iadd X dX11_advance_267 ?_
  refine x_putI X dX11_advance_268 fl_11_400 ft_11_32 dsM_0 rfl ?_
  refine x_goto X (tgt := 200) dX11_advance_271 (by decide) ?_
  exact hK200 _ _ h
set_option maxRecDepth 100000 in
set_option maxHeartbeats 4000000 in
theorem bX11_advance_322 {V : x_J} {ad : Nat → Nat} {Q : x_S → x_L → Prop} (X : x_Is V cX11_advance 2 RX11 (Option.none : Option Jvm.ClassFile.FieldType) ad dsM 2 (x_PV Q)) {σ : x_S} {τ : x_L} (h : wX11_advance_322 Q σ τ) : V σ τ 322 [] [] := by
  exact x_vret X dX11_advance_322 ⟨rfl, h⟩
set_option maxRecDepth 100000 in
set_option maxHeartbeats 4000000 in
theorem bX11_advance_317 {V : x_J} {ad : Nat → Nat} {Q : x_S → x_L → Prop} (X : x_Is V cX11_advance 2 RX11 (Option.none : Option Jvm.ClassFile.FieldType) ad dsM 2 (x_PV Q)) {σ : x_S} {τ : x_L} (h : wX11_advance_317 Q σ τ) : V σ τ 317 [(0, .ref (ad 0))] [] := by
  refine x_aload_n X dX11_advance_317 rfl 0 rfl ?_
  refine x_iconst X dX11_advance_318 ki_4 ?_
  refine x_putI X dX11_advance_319 fl_11_419 ft_11_35 dsM_0 rfl ?_
  refine x_sub X [] (lv' := []) rfl ?_
  exact bX11_advance_322 X h
set_option maxRecDepth 100000 in
set_option maxHeartbeats 4000000 in
theorem bX11_advance_296 {V : x_J} {ad : Nat → Nat} {Q : x_S → x_L → Prop} (X : x_Is V cX11_advance 2 RX11 (Option.none : Option Jvm.ClassFile.FieldType) ad dsM 2 (x_PV Q)) {σ : x_S} {τ : x_L} (h : wX11_advance_296 Q σ τ) : V σ τ 296 [(0, .ref (ad 0))] [] := by
  refine x_aload_n X dX11_advance_296 rfl 0 rfl ?_
  refine x_getI X dX11_advance_297 fl_11_419 dsM_0 rfl ?_
  refine x_iconst X dX11_advance_300 ki_2 ?_
  refine x_icmp_ne X 322 dX11_advance_301 (by decide) (fun hc => ?_) (fun hc => ?_)
  · have h := h.1 hc
    refine x_sub X [] (lv' := []) rfl ?_
    exact bX11_advance_322 X h
  · have h := h.2 hc
    refine x_aload_n X dX11_advance_304 rfl 0 rfl ?_
    refine x_getI X dX11_advance_305 fl_11_400 dsM_0 rfl ?_
    refine x_aload_n X dX11_advance_308 rfl 0 rfl ?_
    refine x_getI X dX11_advance_309 fl_11_406 dsM_0 rfl ?_
    refine x_isub X dX11_advance_312 ?_
    refine x_iconst X dX11_advance_313 ki_5 ?_
    refine x_icmp_le X 322 dX11_advance_314 (by decide) (fun hc => ?_) (fun hc => ?_)
    · have h := h.1 hc
      refine x_sub X [] (lv' := []) rfl ?_
      exact bX11_advance_322 X h
    · have h := h.2 hc
      exact bX11_advance_317 X h
set_option maxRecDepth 100000 in
set_option maxHeartbeats 4000000 in
theorem bX11_advance_274 {V : x_J} {ad : Nat → Nat} {Q : x_S → x_L → Prop} (X : x_Is V cX11_advance 2 RX11 (Option.none : Option Jvm.ClassFile.FieldType) ad dsM 2 (x_PV Q)) {σ : x_S} {τ : x_L} (h : wX11_advance_274 Q σ τ) : V σ τ 274 [(0, .ref (ad 0))] [] := by
  refine x_aload_n X dX11_advance_274 rfl 0 rfl ?_
  refine x_getI X dX11_advance_275 fl_11_419 dsM_0 rfl ?_
  refine x_iconst X dX11_advance_278 ki_1 ?_
  refine x_icmp_ne X 296 dX11_advance_279 (by decide) (fun hc => ?_) (fun hc => ?_)
  · have h := h.1 hc
    exact bX11_advance_296 X h
  · have h := h.2 hc
    refine x_aload_n X dX11_advance_282 rfl 0 rfl ?_
    refine x_getI X dX11_advance_283 fl_11_400 dsM_0 rfl ?_
    refine x_aload_n X dX11_advance_286 rfl 0 rfl ?_
    refine x_getI X dX11_advance_287 fl_11_406 dsM_0 rfl ?_
    refine x_isub X dX11_advance_290 ?_
    refine x_bipush X dX11_advance_291 kb_8 ?_
    refine x_icmp_gt X 317 dX11_advance_293 (by decide) (fun hc => ?_) (fun hc => ?_)
    · have h := h.1 hc
      exact bX11_advance_317 X h
    · have h := h.2 hc
      exact bX11_advance_296 X h
set_option maxRecDepth 100000 in
set_option maxHeartbeats 4000000 in
theorem bX11_advance_200 {V : x_J} {ad : Nat → Nat} {Q : x_S → x_L → Prop} (X : x_Is V cX11_advance 2 RX11 (Option.none : Option Jvm.ClassFile.FieldType) ad dsM 2 (x_PV Q)) {K200 : x_S → x_L → Prop} (hK200 : ∀ σ τ, K200 σ τ → V σ τ 200 [(0, .ref (ad 0))] []) {σ : x_S} {τ : x_L} (h : wX11_advance_200 Q K200 σ τ) : V σ τ 200 [(0, .ref (ad 0))] [] := by
  refine x_aload_n X dX11_advance_200 rfl 0 rfl ?_
  refine x_getI X dX11_advance_201 fl_11_419 dsM_0 rfl ?_
  refine x_iconst X dX11_advance_204 ki_2 ?_
  refine x_icmp_ne X 274 dX11_advance_205 (by decide) (fun hc => ?_) (fun hc => ?_)
  · have h := h.1 hc
    exact bX11_advance_274 X h
  · have h := h.2 hc
    refine x_aload_n X dX11_advance_208 rfl 0 rfl ?_
    refine x_aload_n X dX11_advance_209 rfl 0 rfl ?_
    refine x_getI X dX11_advance_210 fl_11_400 dsM_0 rfl ?_
    refine x_callVi X [.int (σ 0 32)] [] dX11_advance_213 (kX11_byteAt h) cm_X11_byteAt ci_X11_byteAt w_9_115 dsM_0 ⟨by decide, by decide⟩ rfl (Nat.le_of_ble_eq_true rfl) (fun r213 σ213 τ213 h => ?_)
    refine x_callSi X [.int r213] [] dX11_advance_216 (kX11_isDigit h) cm_X11_isDigit w_9_125 rfl w_9_124 ⟨by decide, by decide⟩ rfl (Nat.le_of_ble_eq_true rfl) (fun r216 σ216 τ216 h => ?_)
    refine x_if_eq X 274 dX11_advance_219 (by decide) (fun hc => ?_) (fun hc => ?_)
    · have h := h.1 hc
      exact bX11_advance_274 X h
    · have h := h.2 hc
      refine x_aload_n X dX11_advance_222 rfl 0 rfl ?_
      refine x_getI X dX11_advance_223 fl_11_400 dsM_0 rfl ?_
      refine x_aload_n X dX11_advance_226 rfl 0 rfl ?_
      refine x_getI X dX11_advance_227 fl_11_406 dsM_0 rfl ?_
      refine x_isub X dX11_advance_230 ?_
      refine x_iconst X dX11_advance_231 ki_5 ?_
      refine x_icmp_ge X 261 dX11_advance_232 (by decide) (fun hc => ?_) (fun hc => ?_)
      · have h := h.1 hc
        exact bX11_advance_261 X hK200 h
      · have h := h.2 hc
        refine x_aload_n X dX11_advance_235 rfl 0 rfl ?_
        refine x_aload_n X dX11_advance_236 rfl 0 rfl ?_
        refine x_getL X dX11_advance_237 fl_11_409 dsM_0 rfl ?_
        refine x_ldc2 X dX11_advance_240 w_9_131 ?_
        refine x_lmul X dX11_advance_243 ?_
        refine x_aload_n X dX11_advance_244 rfl 0 rfl ?_
        refine x_aload_n X dX11_advance_245 rfl 0 rfl ?_
        refine x_getI X dX11_advance_246 fl_11_400 dsM_0 rfl ?_
        refine x_callVi X [.int (σ216 0 32)] [.long ((τ216 0 38) * 10), .ref (ad 0)] dX11_advance_249 (kX11_byteAt h) cm_X11_byteAt ci_X11_byteAt w_9_115 dsM_0 ⟨by decide, by decide⟩ rfl (Nat.le_of_ble_eq_true rfl) (fun r249 σ249 τ249 h => ?_)
        refine x_i2l X dX11_advance_252 ?_
        refine x_ladd X dX11_advance_253 ?_
        refine x_ldc2 X dX11_advance_254 w_9_127 ?_
        refine x_lsub X dX11_advance_257 ?_
        refine x_putL X dX11_advance_258 fl_11_409 ft_11_38 dsM_0 rfl ?_
        exact bX11_advance_261 X hK200 h
set_option maxRecDepth 100000 in
set_option maxHeartbeats 4000000 in
theorem bX11_advance_125 {V : x_J} {ad : Nat → Nat} {Q : x_S → x_L → Prop} (X : x_Is V cX11_advance 2 RX11 (Option.none : Option Jvm.ClassFile.FieldType) ad dsM 2 (x_PV Q)) {K125 : x_S → x_L → Prop} (hK125 : ∀ σ τ, K125 σ τ → V σ τ 125 [(0, .ref (ad 0))] []) {σ : x_S} {τ : x_L} (h : wX11_advance_125 Q K125 σ τ) : V σ τ 125 [(0, .ref (ad 0))] [] := by
  refine x_aload_n X dX11_advance_125 rfl 0 rfl ?_
  refine x_getI X dX11_advance_126 fl_11_419 dsM_0 rfl ?_
  refine x_iconst X dX11_advance_129 ki_1 ?_
  refine x_icmp_ne X 200 dX11_advance_130 (by decide) (fun hc => ?_) (fun hc => ?_)
  · have h := h.1 hc
    exact x_l0_G (fun σ τ => V σ τ 200 [(0, .ref (ad 0))] []) (fun K200 hK200 σ τ h => bX11_advance_200 X hK200 h) h
  · have h := h.2 hc
    refine x_aload_n X dX11_advance_133 rfl 0 rfl ?_
    refine x_aload_n X dX11_advance_134 rfl 0 rfl ?_
    refine x_getI X dX11_advance_135 fl_11_400 dsM_0 rfl ?_
    refine x_callVi X [.int (σ 0 32)] [] dX11_advance_138 (kX11_byteAt h) cm_X11_byteAt ci_X11_byteAt w_9_115 dsM_0 ⟨by decide, by decide⟩ rfl (Nat.le_of_ble_eq_true rfl) (fun r138 σ138 τ138 h => ?_)
    refine x_callSi X [.int r138] [] dX11_advance_141 (kX11_isLetter h) cm_X11_isLetter w_9_120 rfl w_9_119 ⟨by decide, by decide⟩ rfl (Nat.le_of_ble_eq_true rfl) (fun r141 σ141 τ141 h => ?_)
    refine x_if_eq X 200 dX11_advance_144 (by decide) (fun hc => ?_) (fun hc => ?_)
    · have h := h.1 hc
      exact x_l0_G (fun σ τ => V σ τ 200 [(0, .ref (ad 0))] []) (fun K200 hK200 σ τ h => bX11_advance_200 X hK200 h) h
    · have h := h.2 hc
      refine x_aload_n X dX11_advance_147 rfl 0 rfl ?_
      refine x_getI X dX11_advance_148 fl_11_400 dsM_0 rfl ?_
      refine x_aload_n X dX11_advance_151 rfl 0 rfl ?_
      refine x_getI X dX11_advance_152 fl_11_406 dsM_0 rfl ?_
      refine x_isub X dX11_advance_155 ?_
      refine x_bipush X dX11_advance_156 kb_8 ?_
      refine x_icmp_ge X 187 dX11_advance_158 (by decide) (fun hc => ?_) (fun hc => ?_)
      · have h := h.1 hc
        exact bX11_advance_187 X hK125 h
      · have h := h.2 hc
        refine x_aload_n X dX11_advance_161 rfl 0 rfl ?_
        refine x_aload_n X dX11_advance_162 rfl 0 rfl ?_
        refine x_getL X dX11_advance_163 fl_11_409 dsM_0 rfl ?_
        refine x_ldc2 X dX11_advance_166 w_9_129 ?_
        refine x_lmul X dX11_advance_169 ?_
        refine x_aload_n X dX11_advance_170 rfl 0 rfl ?_
        refine x_aload_n X dX11_advance_171 rfl 0 rfl ?_
        refine x_getI X dX11_advance_172 fl_11_400 dsM_0 rfl ?_
        refine x_callVi X [.int (σ141 0 32)] [.long ((τ141 0 38) * 32), .ref (ad 0)] dX11_advance_175 (kX11_byteAt h) cm_X11_byteAt ci_X11_byteAt w_9_115 dsM_0 ⟨by decide, by decide⟩ rfl (Nat.le_of_ble_eq_true rfl) (fun r175 σ175 τ175 h => ?_)
        refine x_i2l X dX11_advance_178 ?_
        refine x_ladd X dX11_advance_179 ?_
        refine x_ldc2 X dX11_advance_180 w_9_130 ?_
        refine x_lsub X dX11_advance_183 ?_
        refine x_putL X dX11_advance_184 fl_11_409 ft_11_38 dsM_0 rfl ?_
        exact bX11_advance_187 X hK125 h
set_option maxRecDepth 100000 in
set_option maxHeartbeats 4000000 in
theorem bX11_advance_104 {V : x_J} {ad : Nat → Nat} {Q : x_S → x_L → Prop} (X : x_Is V cX11_advance 2 RX11 (Option.none : Option Jvm.ClassFile.FieldType) ad dsM 2 (x_PV Q)) {s1 : Int32} {σ : x_S} {τ : x_L} (h : wX11_advance_104 Q s1 σ τ) : V σ τ 104 [(0, .ref (ad 0))] [.int s1, .ref (ad 0)] := by
  refine x_putI X dX11_advance_104 fl_11_419 ft_11_35 dsM_0 rfl ?_
  refine x_aload_n X dX11_advance_107 rfl 0 rfl ?_
  refine x_getI X dX11_advance_108 fl_11_419 dsM_0 rfl ?_
  refine x_iconst X dX11_advance_111 ki_2 ?_
  refine x_icmp_le X 125 dX11_advance_112 (by decide) (fun hc => ?_) (fun hc => ?_)
  · have h := h.1 hc
    exact x_l0_G (fun σ τ => V σ τ 125 [(0, .ref (ad 0))] []) (fun K125 hK125 σ τ h => bX11_advance_125 X hK125 h) h
  · have h := h.2 hc
    refine x_aload_n X dX11_advance_115 rfl 0 rfl ?_
    refine x_dup X dX11_advance_116 rfl ?_
    refine x_getI X dX11_advance_117 fl_11_400 dsM_0 rfl ?_
    refine x_iconst X dX11_advance_120 ki_1 ?_
    refine x_iadd X dX11_advance_121 ?_
    refine x_putI X dX11_advance_122 fl_11_400 ft_11_32 dsM_0 rfl ?_
    exact x_l0_G (fun σ τ => V σ τ 125 [(0, .ref (ad 0))] []) (fun K125 hK125 σ τ h => bX11_advance_125 X hK125 h) h
set_option maxRecDepth 100000 in
set_option maxHeartbeats 4000000 in
theorem bX11_advance_0 {V : x_J} {ad : Nat → Nat} {Q : x_S → x_L → Prop} (X : x_Is V cX11_advance 2 RX11 (Option.none : Option Jvm.ClassFile.FieldType) ad dsM 2 (x_PV Q)) {K0 : x_S → x_L → Prop} (hK0 : ∀ σ τ, K0 σ τ → V σ τ 0 [(0, .ref (ad 0))] []) {σ : x_S} {τ : x_L} (h : wX11_advance_0 Q K0 σ τ) : V σ τ 0 [(0, .ref (ad 0))] [] := by
  refine x_aload_n X dX11_advance_0 rfl 0 rfl ?_
  refine x_aload_n X dX11_advance_1 rfl 0 rfl ?_
  refine x_getI X dX11_advance_2 fl_11_400 dsM_0 rfl ?_
  refine x_callVi X [.int (σ 0 32)] [] dX11_advance_5 (kX11_byteAt h) cm_X11_byteAt ci_X11_byteAt w_9_115 dsM_0 ⟨by decide, by decide⟩ rfl (Nat.le_of_ble_eq_true rfl) (fun r5 σ5 τ5 h => ?_)
  refine x_bipush X dX11_advance_8 kb_32 ?_
  refine x_icmp_eq X 26 dX11_advance_10 (by decide) (fun hc => ?_) (fun hc => ?_)
  · have h := h.1 hc
    exact bX11_advance_26 X hK0 h
  · have h := h.2 hc
    refine x_aload_n X dX11_advance_13 rfl 0 rfl ?_
    refine x_aload_n X dX11_advance_14 rfl 0 rfl ?_
    refine x_getI X dX11_advance_15 fl_11_400 dsM_0 rfl ?_
    refine x_callVi X [.int (σ5 0 32)] [] dX11_advance_18 (kX11_byteAt h) cm_X11_byteAt ci_X11_byteAt w_9_115 dsM_0 ⟨by decide, by decide⟩ rfl (Nat.le_of_ble_eq_true rfl) (fun r18 σ18 τ18 h => ?_)
    refine x_bipush X dX11_advance_21 kb_10 ?_
    refine x_icmp_ne X 39 dX11_advance_23 (by decide) (fun hc => ?_) (fun hc => ?_)
    · have h := h.1 hc
      refine x_aload_n X dX11_advance_39 rfl 0 rfl ?_
      refine x_aload_n X dX11_advance_40 rfl 0 rfl ?_
      refine x_getI X dX11_advance_41 fl_11_400 dsM_0 rfl ?_
      refine x_putI X dX11_advance_44 fl_11_406 ft_11_36 dsM_0 rfl ?_
      refine x_aload_n X dX11_advance_47 rfl 0 rfl ?_
      refine x_lconst X (v := 0) dX11_advance_48 (by decide) ?_
      refine x_putL X dX11_advance_49 fl_11_409 ft_11_38 dsM_0 rfl ?_
      refine x_aload_n X dX11_advance_52 rfl 0 rfl ?_
      refine x_aload_n X dX11_advance_53 rfl 0 rfl ?_
      refine x_getI X dX11_advance_54 fl_11_406 dsM_0 rfl ?_
      refine x_callVi X [.int ((x_up σ18 0 36 (σ18 0 32)) 0 36)] [] dX11_advance_57 (kX11_byteAt h) cm_X11_byteAt ci_X11_byteAt w_9_115 dsM_0 ⟨by decide, by decide⟩ rfl (Nat.le_of_ble_eq_true rfl) (fun r57 σ57 τ57 h => ?_)
      refine x_istore_n X (lv' := [(1, .int r57), (0, .ref (ad 0))]) dX11_advance_60 rfl (by decide) rfl ?_
      refine x_aload_n X dX11_advance_61 rfl 1 rfl ?_
      refine x_iload_n X dX11_advance_62 rfl 0 rfl ?_
      refine x_iconst X dX11_advance_63 ki_m1 ?_
      refine x_icmp_ne X 71 dX11_advance_64 (by decide) (fun hc => ?_) (fun hc => ?_)
      · have h := h.1 hc
        refine x_iload_n X dX11_advance_71 rfl 0 rfl ?_
        refine x_callSi X [.int r57] [.ref (ad 0)] dX11_advance_72 (kX11_isLetter h) cm_X11_isLetter w_9_120 rfl w_9_119 ⟨by decide, by decide⟩ rfl (Nat.le_of_ble_eq_true rfl) (fun r72 σ72 τ72 h => ?_)
        refine x_if_eq X 82 dX11_advance_75 (by decide) (fun hc => ?_) (fun hc => ?_)
        · have h := h.1 hc
          refine x_iload_n X dX11_advance_82 rfl 0 rfl ?_
          refine x_callSi X [.int r57] [.ref (ad 0)] dX11_advance_83 (kX11_isDigit h) cm_X11_isDigit w_9_125 rfl w_9_124 ⟨by decide, by decide⟩ rfl (Nat.le_of_ble_eq_true rfl) (fun r83 σ83 τ83 h => ?_)
          refine x_if_eq X 93 dX11_advance_86 (by decide) (fun hc => ?_) (fun hc => ?_)
          · have h := h.1 hc
            refine x_iload_n X dX11_advance_93 rfl 0 rfl ?_
            refine x_bipush X dX11_advance_94 kb_59 ?_
            refine x_icmp_ne X 103 dX11_advance_96 (by decide) (fun hc => ?_) (fun hc => ?_)
            · have h := h.1 hc
              refine x_iconst X dX11_advance_103 ki_4 ?_
              refine x_sub X [1] (lv' := [(0, .ref (ad 0))]) rfl ?_
              exact bX11_advance_104 X h
            · have h := h.2 hc
              refine x_iconst X dX11_advance_99 ki_3 ?_
              refine x_goto X (tgt := 104) dX11_advance_100 (by decide) ?_
              refine x_sub X [1] (lv' := [(0, .ref (ad 0))]) rfl ?_
              exact bX11_advance_104 X h
          · have h := h.2 hc
            refine x_iconst X dX11_advance_89 ki_2 ?_
            refine x_goto X (tgt := 104) dX11_advance_90 (by decide) ?_
            refine x_sub X [1] (lv' := [(0, .ref (ad 0))]) rfl ?_
            exact bX11_advance_104 X h
        · have h := h.2 hc
          refine x_iconst X dX11_advance_78 ki_1 ?_
          refine x_goto X (tgt := 104) dX11_advance_79 (by decide) ?_
          refine x_sub X [1] (lv' := [(0, .ref (ad 0))]) rfl ?_
          exact bX11_advance_104 X h
      · have h := h.2 hc
        refine x_iconst X dX11_advance_67 ki_0 ?_
        refine x_goto X (tgt := 104) dX11_advance_68 (by decide) ?_
        refine x_sub X [1] (lv' := [(0, .ref (ad 0))]) rfl ?_
        exact bX11_advance_104 X h
    · have h := h.2 hc
      exact bX11_advance_26 X hK0 h
set_option maxRecDepth 100000 in
set_option maxHeartbeats 4000000 in
theorem kX11_advance {ad : Nat → Nat} {σ : x_S} {τ : x_L} {Q : x_S → x_L → Prop} (h : wX11_advance σ τ Q) : x_Met yX11_advance cX11_advance 2 (Option.none : Option Jvm.ClassFile.FieldType) 2 ad dsM [.ref (ad 0)] σ τ (x_PV Q) := by
  refine x_met (by decide +kernel) (Nat.le_of_ble_eq_true rfl) (fun V X => ?_)
  have X : x_Is V cX11_advance 2 RX11 (Option.none : Option Jvm.ClassFile.FieldType) ad dsM 2 (x_PV Q) := X
  show V σ τ 0 [(0, .ref (ad 0))] []
  exact x_l0_G (fun σ τ => V σ τ 0 [(0, .ref (ad 0))] []) (fun K0 hK0 σ τ h => bX11_advance_0 X hK0 h) h
theorem dX11_beginText_0 : decode cX11_beginText 0 = .ok (.aload_n 0, 1) := by decide +kernel
theorem dX11_beginText_1 : decode cX11_beginText 1 = .ok (.iconst 0, 1) := by decide +kernel
theorem dX11_beginText_2 : decode cX11_beginText 2 = .ok (.putfield 389, 3) := by decide +kernel
theorem dX11_beginText_5 : decode cX11_beginText 5 = .ok (.aload_n 0, 1) := by decide +kernel
theorem dX11_beginText_6 : decode cX11_beginText 6 = .ok (.iconst (-1), 1) := by decide +kernel
theorem dX11_beginText_7 : decode cX11_beginText 7 = .ok (.putfield 75, 3) := by decide +kernel
theorem dX11_beginText_10 : decode cX11_beginText 10 = .ok (.aload_n 0, 1) := by decide +kernel
theorem dX11_beginText_11 : decode cX11_beginText 11 = .ok (.iconst 0, 1) := by decide +kernel
theorem dX11_beginText_12 : decode cX11_beginText 12 = .ok (.putfield 400, 3) := by decide +kernel
theorem dX11_beginText_15 : decode cX11_beginText 15 = .ok (.aload_n 0, 1) := by decide +kernel
theorem dX11_beginText_16 : decode cX11_beginText 16 = .ok (.invokevirtual 428, 3) := by decide +kernel
theorem dX11_beginText_19 : decode cX11_beginText 19 = .ok (.return_, 1) := by decide +kernel
theorem cm_X11_beginText : x_CM yX11_beginText cX11_beginText 1 (Option.none : Option Jvm.ClassFile.FieldType) 0 := ⟨w_9_110, w_1_12, by decide +kernel, by decide +kernel⟩
theorem ci_X11_beginText : x_CI yX11_beginText 13 := ⟨w_9_109, wp_115, (RX11, TX11, 41), rfl, rfl⟩
set_option maxRecDepth 100000 in
set_option maxHeartbeats 4000000 in
theorem kX11_beginText {ad : Nat → Nat} {σ : x_S} {τ : x_L} {Q : x_S → x_L → Prop} (h : wX11_beginText σ τ Q) : x_Met yX11_beginText cX11_beginText 1 (Option.none : Option Jvm.ClassFile.FieldType) 3 ad dsM [.ref (ad 0)] σ τ (x_PV Q) := by
  refine x_met (by decide +kernel) (Nat.le_of_ble_eq_true rfl) (fun V X => ?_)
  have X : x_Is V cX11_beginText 1 RX11 (Option.none : Option Jvm.ClassFile.FieldType) ad dsM 3 (x_PV Q) := X
  show V σ τ 0 [(0, .ref (ad 0))] []
  refine x_aload_n X dX11_beginText_0 rfl 0 rfl ?_
  refine x_iconst X dX11_beginText_1 ki_0 ?_
  refine x_putI X dX11_beginText_2 fl_11_389 ft_11_33 dsM_0 rfl ?_
  refine x_aload_n X dX11_beginText_5 rfl 0 rfl ?_
  refine x_iconst X dX11_beginText_6 ki_m1 ?_
  refine x_putI X dX11_beginText_7 fl_11_75 ft_11_34 dsM_0 rfl ?_
  refine x_aload_n X dX11_beginText_10 rfl 0 rfl ?_
  refine x_iconst X dX11_beginText_11 ki_0 ?_
  refine x_putI X dX11_beginText_12 fl_11_400 ft_11_32 dsM_0 rfl ?_
  refine x_aload_n X dX11_beginText_15 rfl 0 rfl ?_
  refine x_callVv X [] [] dX11_beginText_16 (kX11_advance h) cm_X11_advance ci_X11_advance w_9_111 dsM_0 ⟨by decide, by decide⟩ rfl (Nat.le_of_ble_eq_true rfl) (fun σ16 τ16 h => ?_)
  exact x_vret X dX11_beginText_19 ⟨rfl, h⟩
theorem dX11_fail_0 : decode cX11_fail 0 = .ok (.aload_n 0, 1) := by decide +kernel
theorem dX11_fail_1 : decode cX11_fail 1 = .ok (.iload_n 1, 1) := by decide +kernel
theorem dX11_fail_2 : decode cX11_fail 2 = .ok (.putfield 389, 3) := by decide +kernel
theorem dX11_fail_5 : decode cX11_fail 5 = .ok (.aload_n 0, 1) := by decide +kernel
theorem dX11_fail_6 : decode cX11_fail 6 = .ok (.aload_n 0, 1) := by decide +kernel
theorem dX11_fail_7 : decode cX11_fail 7 = .ok (.getfield 406, 3) := by decide +kernel
theorem dX11_fail_10 : decode cX11_fail 10 = .ok (.putfield 75, 3) := by decide +kernel
theorem dX11_fail_13 : decode cX11_fail 13 = .ok (.iconst 0, 1) := by decide +kernel
theorem dX11_fail_14 : decode cX11_fail 14 = .ok (.ireturn, 1) := by decide +kernel
theorem cm_X11_fail : x_CM yX11_fail cX11_fail 2 (Option.some FieldType.boolean) 1 := ⟨w_9_150, w_1_12, by decide +kernel, by decide +kernel⟩
theorem ci_X11_fail : x_CI yX11_fail 13 := ⟨w_9_149, wp_121, (RX11, TX11, 41), rfl, rfl⟩
set_option maxRecDepth 100000 in
set_option maxHeartbeats 4000000 in
theorem kX11_fail {ad : Nat → Nat} {a1 : Int32} {σ : x_S} {τ : x_L} {Q : Int32 → x_S → x_L → Prop} (h : wX11_fail a1 σ τ Q) : x_Met yX11_fail cX11_fail 2 (Option.some FieldType.boolean) 0 ad dsM [.ref (ad 0), .int a1] σ τ (x_PI Q) := by
  refine x_met (by decide +kernel) (Nat.le_of_ble_eq_true rfl) (fun V X => ?_)
  have X : x_Is V cX11_fail 2 RX11 (Option.some FieldType.boolean) ad dsM 0 (x_PI Q) := X
  show V σ τ 0 [(0, .ref (ad 0)), (1, .int a1)] []
  refine x_aload_n X dX11_fail_0 rfl 0 rfl ?_
  refine x_iload_n X dX11_fail_1 rfl 1 rfl ?_
  refine x_putI X dX11_fail_2 fl_11_389 ft_11_33 dsM_0 rfl ?_
  refine x_aload_n X dX11_fail_5 rfl 0 rfl ?_
  refine x_aload_n X dX11_fail_6 rfl 0 rfl ?_
  refine x_getI X dX11_fail_7 fl_11_406 dsM_0 rfl ?_
  refine x_putI X dX11_fail_10 fl_11_75 ft_11_34 dsM_0 rfl ?_
  refine x_iconst X dX11_fail_13 ki_0 ?_
  exact x_zret X dX11_fail_14 ⟨Or.inl rfl, _, rfl, h⟩
theorem dX11_readNumber_0 : decode cX11_readNumber 0 = .ok (.aload_n 0, 1) := by decide +kernel
theorem dX11_readNumber_1 : decode cX11_readNumber 1 = .ok (.getfield 419, 3) := by decide +kernel
theorem dX11_readNumber_4 : decode cX11_readNumber 4 = .ok (.iconst 2, 1) := by decide +kernel
theorem dX11_readNumber_5 : decode cX11_readNumber 5 = .ok (.if_icmp .eq 9, 3) := by decide +kernel
theorem dX11_readNumber_8 : decode cX11_readNumber 8 = .ok (.aload_n 0, 1) := by decide +kernel
theorem dX11_readNumber_9 : decode cX11_readNumber 9 = .ok (.iconst 1, 1) := by decide +kernel
theorem dX11_readNumber_10 : decode cX11_readNumber 10 = .ok (.invokevirtual 431, 3) := by decide +kernel
theorem dX11_readNumber_13 : decode cX11_readNumber 13 = .ok (.ireturn, 1) := by decide +kernel
theorem dX11_readNumber_14 : decode cX11_readNumber 14 = .ok (.aload_n 0, 1) := by decide +kernel
theorem dX11_readNumber_15 : decode cX11_readNumber 15 = .ok (.getfield 409, 3) := by decide +kernel
theorem dX11_readNumber_18 : decode cX11_readNumber 18 = .ok (.iload_n 1, 1) := by decide +kernel
theorem dX11_readNumber_19 : decode cX11_readNumber 19 = .ok (.i2l, 1) := by decide +kernel
theorem dX11_readNumber_20 : decode cX11_readNumber 20 = .ok (.iload_n 2, 1) := by decide +kernel
theorem dX11_readNumber_21 : decode cX11_readNumber 21 = .ok (.i2l, 1) := by decide +kernel
theorem dX11_readNumber_22 : decode cX11_readNumber 22 = .ok (.invokestatic 95, 3) := by decide +kernel
theorem dX11_readNumber_25 : decode cX11_readNumber 25 = .ok (.ifCond .ne 9, 3) := by decide +kernel
theorem dX11_readNumber_28 : decode cX11_readNumber 28 = .ok (.aload_n 0, 1) := by decide +kernel
theorem dX11_readNumber_29 : decode cX11_readNumber 29 = .ok (.iconst 2, 1) := by decide +kernel
theorem dX11_readNumber_30 : decode cX11_readNumber 30 = .ok (.invokevirtual 431, 3) := by decide +kernel
theorem dX11_readNumber_33 : decode cX11_readNumber 33 = .ok (.ireturn, 1) := by decide +kernel
theorem dX11_readNumber_34 : decode cX11_readNumber 34 = .ok (.aload_n 0, 1) := by decide +kernel
theorem dX11_readNumber_35 : decode cX11_readNumber 35 = .ok (.aload_n 0, 1) := by decide +kernel
theorem dX11_readNumber_36 : decode cX11_readNumber 36 = .ok (.getfield 409, 3) := by decide +kernel
theorem dX11_readNumber_39 : decode cX11_readNumber 39 = .ok (.l2i, 1) := by decide +kernel
theorem dX11_readNumber_40 : decode cX11_readNumber 40 = .ok (.putfield 434, 3) := by decide +kernel
theorem dX11_readNumber_43 : decode cX11_readNumber 43 = .ok (.aload_n 0, 1) := by decide +kernel
theorem dX11_readNumber_44 : decode cX11_readNumber 44 = .ok (.invokevirtual 428, 3) := by decide +kernel
theorem dX11_readNumber_47 : decode cX11_readNumber 47 = .ok (.iconst 1, 1) := by decide +kernel
theorem dX11_readNumber_48 : decode cX11_readNumber 48 = .ok (.ireturn, 1) := by decide +kernel
theorem cm_X11_readNumber : x_CM yX11_readNumber cX11_readNumber 3 (Option.some FieldType.boolean) 2 := ⟨w_9_158, w_1_12, by decide +kernel, by decide +kernel⟩
theorem ci_X11_readNumber : x_CI yX11_readNumber 13 := ⟨w_9_157, wp_123, (RX11, TX11, 41), rfl, rfl⟩
set_option maxRecDepth 100000 in
set_option maxHeartbeats 4000000 in
theorem kX11_readNumber {ad : Nat → Nat} {a1 : Int32} {a2 : Int32} {σ : x_S} {τ : x_L} {Q : Int32 → x_S → x_L → Prop} (h : wX11_readNumber a1 a2 σ τ Q) : x_Met yX11_readNumber cX11_readNumber 3 (Option.some FieldType.boolean) 3 ad dsM [.ref (ad 0), .int a1, .int a2] σ τ (x_PI Q) := by
  refine x_met (by decide +kernel) (Nat.le_of_ble_eq_true rfl) (fun V X => ?_)
  have X : x_Is V cX11_readNumber 3 RX11 (Option.some FieldType.boolean) ad dsM 3 (x_PI Q) := X
  show V σ τ 0 [(0, .ref (ad 0)), (1, .int a1), (2, .int a2)] []
  refine x_aload_n X dX11_readNumber_0 rfl 0 rfl ?_
  refine x_getI X dX11_readNumber_1 fl_11_419 dsM_0 rfl ?_
  refine x_iconst X dX11_readNumber_4 ki_2 ?_
  refine x_icmp_eq X 14 dX11_readNumber_5 (by decide) (fun hc => ?_) (fun hc => ?_)
  · have h := h.1 hc
    refine x_aload_n X dX11_readNumber_14 rfl 0 rfl ?_
    refine x_getL X dX11_readNumber_15 fl_11_409 dsM_0 rfl ?_
    refine x_iload_n X dX11_readNumber_18 rfl 1 rfl ?_
    refine x_i2l X dX11_readNumber_19 ?_
    refine x_iload_n X dX11_readNumber_20 rfl 2 rfl ?_
    refine x_i2l X dX11_readNumber_21 ?_
    refine x_callSi X [.long (τ 0 38), .long ((a1 : Int32).toInt64), .long ((a2 : Int32).toInt64)] [] dX11_readNumber_22 (kX11_inRange h) cm_X11_inRange w_7_91 rfl w_7_90 ⟨by decide, by decide⟩ rfl (Nat.le_of_ble_eq_true rfl) (fun r22 σ22 τ22 h => ?_)
    refine x_if_ne X 34 dX11_readNumber_25 (by decide) (fun hc => ?_) (fun hc => ?_)
    · have h := h.1 hc
      refine x_aload_n X dX11_readNumber_34 rfl 0 rfl ?_
      refine x_aload_n X dX11_readNumber_35 rfl 0 rfl ?_
      refine x_getL X dX11_readNumber_36 fl_11_409 dsM_0 rfl ?_
      refine x_l2i X dX11_readNumber_39 ?_
      refine x_putI X dX11_readNumber_40 fl_11_434 ft_11_37 dsM_0 rfl ?_
      refine x_aload_n X dX11_readNumber_43 rfl 0 rfl ?_
      refine x_callVv X [] [] dX11_readNumber_44 (kX11_advance h) cm_X11_advance ci_X11_advance w_9_111 dsM_0 ⟨by decide, by decide⟩ rfl (Nat.le_of_ble_eq_true rfl) (fun σ44 τ44 h => ?_)
      refine x_iconst X dX11_readNumber_47 ki_1 ?_
      exact x_zret X dX11_readNumber_48 ⟨Or.inr rfl, _, rfl, h⟩
    · have h := h.2 hc
      refine x_aload_n X dX11_readNumber_28 rfl 0 rfl ?_
      refine x_iconst X dX11_readNumber_29 ki_2 ?_
      refine x_callVi X [.int 2] [] dX11_readNumber_30 (kX11_fail h) cm_X11_fail ci_X11_fail w_9_147 dsM_0 ⟨by decide, by decide⟩ rfl (Nat.le_of_ble_eq_true rfl) (fun r30 σ30 τ30 h => ?_)
      exact x_zret X dX11_readNumber_33 ⟨h.1, _, rfl, h.2⟩
  · have h := h.2 hc
    refine x_aload_n X dX11_readNumber_8 rfl 0 rfl ?_
    refine x_iconst X dX11_readNumber_9 ki_1 ?_
    refine x_callVi X [.int 1] [] dX11_readNumber_10 (kX11_fail h) cm_X11_fail ci_X11_fail w_9_147 dsM_0 ⟨by decide, by decide⟩ rfl (Nat.le_of_ble_eq_true rfl) (fun r10 σ10 τ10 h => ?_)
    exact x_zret X dX11_readNumber_13 ⟨h.1, _, rfl, h.2⟩
theorem dX11_readEnd_0 : decode cX11_readEnd 0 = .ok (.aload_n 0, 1) := by decide +kernel
theorem dX11_readEnd_1 : decode cX11_readEnd 1 = .ok (.getfield 419, 3) := by decide +kernel
theorem dX11_readEnd_4 : decode cX11_readEnd 4 = .ok (.iconst 3, 1) := by decide +kernel
theorem dX11_readEnd_5 : decode cX11_readEnd 5 = .ok (.if_icmp .eq 9, 3) := by decide +kernel
theorem dX11_readEnd_8 : decode cX11_readEnd 8 = .ok (.aload_n 0, 1) := by decide +kernel
theorem dX11_readEnd_9 : decode cX11_readEnd 9 = .ok (.iconst 1, 1) := by decide +kernel
theorem dX11_readEnd_10 : decode cX11_readEnd 10 = .ok (.invokevirtual 431, 3) := by decide +kernel
theorem dX11_readEnd_13 : decode cX11_readEnd 13 = .ok (.ireturn, 1) := by decide +kernel
theorem dX11_readEnd_14 : decode cX11_readEnd 14 = .ok (.aload_n 0, 1) := by decide +kernel
theorem dX11_readEnd_15 : decode cX11_readEnd 15 = .ok (.invokevirtual 428, 3) := by decide +kernel
theorem dX11_readEnd_18 : decode cX11_readEnd 18 = .ok (.iconst 1, 1) := by decide +kernel
theorem dX11_readEnd_19 : decode cX11_readEnd 19 = .ok (.ireturn, 1) := by decide +kernel
theorem cm_X11_readEnd : x_CM yX11_readEnd cX11_readEnd 1 (Option.some FieldType.boolean) 0 := ⟨w_9_162, w_1_12, by decide +kernel, by decide +kernel⟩
theorem ci_X11_readEnd : x_CI yX11_readEnd 13 := ⟨w_9_161, wp_124, (RX11, TX11, 41), rfl, rfl⟩
set_option maxRecDepth 100000 in
set_option maxHeartbeats 4000000 in
theorem kX11_readEnd {ad : Nat → Nat} {σ : x_S} {τ : x_L} {Q : Int32 → x_S → x_L → Prop} (h : wX11_readEnd σ τ Q) : x_Met yX11_readEnd cX11_readEnd 1 (Option.some FieldType.boolean) 3 ad dsM [.ref (ad 0)] σ τ (x_PI Q) := by
  refine x_met (by decide +kernel) (Nat.le_of_ble_eq_true rfl) (fun V X => ?_)
  have X : x_Is V cX11_readEnd 1 RX11 (Option.some FieldType.boolean) ad dsM 3 (x_PI Q) := X
  show V σ τ 0 [(0, .ref (ad 0))] []
  refine x_aload_n X dX11_readEnd_0 rfl 0 rfl ?_
  refine x_getI X dX11_readEnd_1 fl_11_419 dsM_0 rfl ?_
  refine x_iconst X dX11_readEnd_4 ki_3 ?_
  refine x_icmp_eq X 14 dX11_readEnd_5 (by decide) (fun hc => ?_) (fun hc => ?_)
  · have h := h.1 hc
    refine x_aload_n X dX11_readEnd_14 rfl 0 rfl ?_
    refine x_callVv X [] [] dX11_readEnd_15 (kX11_advance h) cm_X11_advance ci_X11_advance w_9_111 dsM_0 ⟨by decide, by decide⟩ rfl (Nat.le_of_ble_eq_true rfl) (fun σ15 τ15 h => ?_)
    refine x_iconst X dX11_readEnd_18 ki_1 ?_
    exact x_zret X dX11_readEnd_19 ⟨Or.inr rfl, _, rfl, h⟩
  · have h := h.2 hc
    refine x_aload_n X dX11_readEnd_8 rfl 0 rfl ?_
    refine x_iconst X dX11_readEnd_9 ki_1 ?_
    refine x_callVi X [.int 1] [] dX11_readEnd_10 (kX11_fail h) cm_X11_fail ci_X11_fail w_9_147 dsM_0 ⟨by decide, by decide⟩ rfl (Nat.le_of_ble_eq_true rfl) (fun r10 σ10 τ10 h => ?_)
    exact x_zret X dX11_readEnd_13 ⟨h.1, _, rfl, h.2⟩
theorem dX11_pack_0 : decode cX11_pack 0 = .ok (.iload_n 0, 1) := by decide +kernel
theorem dX11_pack_1 : decode cX11_pack 1 = .ok (.i2l, 1) := by decide +kernel
theorem dX11_pack_2 : decode cX11_pack 2 = .ok (.ldc2_w 424, 3) := by decide +kernel
theorem dX11_pack_5 : decode cX11_pack 5 = .ok (.lsub, 1) := by decide +kernel
theorem dX11_pack_6 : decode cX11_pack 6 = .ok (.ldc2_w 422, 3) := by decide +kernel
theorem dX11_pack_9 : decode cX11_pack 9 = .ok (.lmul, 1) := by decide +kernel
theorem dX11_pack_10 : decode cX11_pack 10 = .ok (.iload_n 1, 1) := by decide +kernel
theorem dX11_pack_11 : decode cX11_pack 11 = .ok (.i2l, 1) := by decide +kernel
theorem dX11_pack_12 : decode cX11_pack 12 = .ok (.ladd, 1) := by decide +kernel
theorem dX11_pack_13 : decode cX11_pack 13 = .ok (.ldc2_w 424, 3) := by decide +kernel
theorem dX11_pack_16 : decode cX11_pack 16 = .ok (.lsub, 1) := by decide +kernel
theorem dX11_pack_17 : decode cX11_pack 17 = .ok (.ldc2_w 422, 3) := by decide +kernel
theorem dX11_pack_20 : decode cX11_pack 20 = .ok (.lmul, 1) := by decide +kernel
theorem dX11_pack_21 : decode cX11_pack 21 = .ok (.iload_n 2, 1) := by decide +kernel
theorem dX11_pack_22 : decode cX11_pack 22 = .ok (.i2l, 1) := by decide +kernel
theorem dX11_pack_23 : decode cX11_pack 23 = .ok (.ladd, 1) := by decide +kernel
theorem dX11_pack_24 : decode cX11_pack 24 = .ok (.ldc2_w 424, 3) := by decide +kernel
theorem dX11_pack_27 : decode cX11_pack 27 = .ok (.lsub, 1) := by decide +kernel
theorem dX11_pack_28 : decode cX11_pack 28 = .ok (.lstore 5, 2) := by decide +kernel
theorem dX11_pack_30 : decode cX11_pack 30 = .ok (.iload_n 3, 1) := by decide +kernel
theorem dX11_pack_31 : decode cX11_pack 31 = .ok (.ifCond .ne 8, 3) := by decide +kernel
theorem dX11_pack_34 : decode cX11_pack 34 = .ok (.lload 5, 2) := by decide +kernel
theorem dX11_pack_36 : decode cX11_pack 36 = .ok (.goto 16, 3) := by decide +kernel
theorem dX11_pack_39 : decode cX11_pack 39 = .ok (.lload 5, 2) := by decide +kernel
theorem dX11_pack_41 : decode cX11_pack 41 = .ok (.ldc2_w 422, 3) := by decide +kernel
theorem dX11_pack_44 : decode cX11_pack 44 = .ok (.lmul, 1) := by decide +kernel
theorem dX11_pack_45 : decode cX11_pack 45 = .ok (.iload_n 3, 1) := by decide +kernel
theorem dX11_pack_46 : decode cX11_pack 46 = .ok (.i2l, 1) := by decide +kernel
theorem dX11_pack_47 : decode cX11_pack 47 = .ok (.ladd, 1) := by decide +kernel
theorem dX11_pack_48 : decode cX11_pack 48 = .ok (.ldc2_w 424, 3) := by decide +kernel
theorem dX11_pack_51 : decode cX11_pack 51 = .ok (.lsub, 1) := by decide +kernel
theorem dX11_pack_52 : decode cX11_pack 52 = .ok (.lstore 5, 2) := by decide +kernel
theorem dX11_pack_54 : decode cX11_pack 54 = .ok (.iload 4, 2) := by decide +kernel
theorem dX11_pack_56 : decode cX11_pack 56 = .ok (.ifCond .ne 8, 3) := by decide +kernel
theorem dX11_pack_59 : decode cX11_pack 59 = .ok (.lload 5, 2) := by decide +kernel
theorem dX11_pack_61 : decode cX11_pack 61 = .ok (.goto 17, 3) := by decide +kernel
theorem dX11_pack_64 : decode cX11_pack 64 = .ok (.lload 5, 2) := by decide +kernel
theorem dX11_pack_66 : decode cX11_pack 66 = .ok (.ldc2_w 422, 3) := by decide +kernel
theorem dX11_pack_69 : decode cX11_pack 69 = .ok (.lmul, 1) := by decide +kernel
theorem dX11_pack_70 : decode cX11_pack 70 = .ok (.iload 4, 2) := by decide +kernel
theorem dX11_pack_72 : decode cX11_pack 72 = .ok (.i2l, 1) := by decide +kernel
theorem dX11_pack_73 : decode cX11_pack 73 = .ok (.ladd, 1) := by decide +kernel
theorem dX11_pack_74 : decode cX11_pack 74 = .ok (.ldc2_w 424, 3) := by decide +kernel
theorem dX11_pack_77 : decode cX11_pack 77 = .ok (.lsub, 1) := by decide +kernel
theorem dX11_pack_78 : decode cX11_pack 78 = .ok (.lreturn, 1) := by decide +kernel
theorem cm_X11_pack : x_CM yX11_pack cX11_pack 7 (Option.some FieldType.long) 5 := ⟨w_9_138, w_1_12, by decide +kernel, by decide +kernel⟩
set_option maxRecDepth 100000 in
set_option maxHeartbeats 4000000 in
theorem bX11_pack_78 {V : x_J} {ad : Nat → Nat} {Q : Int64 → x_S → x_L → Prop} (X : x_Is V cX11_pack 7 RX11 (Option.some FieldType.long) ad dsM 0 (x_PJ Q)) {s0 : Int64} {σ : x_S} {τ : x_L} (h : wX11_pack_78 Q s0 σ τ) : V σ τ 78 [] [.long s0] := by
  exact x_lret X dX11_pack_78 ⟨_, rfl, h⟩
set_option maxRecDepth 100000 in
set_option maxHeartbeats 4000000 in
theorem bX11_pack_52 {V : x_J} {ad : Nat → Nat} {Q : Int64 → x_S → x_L → Prop} (X : x_Is V cX11_pack 7 RX11 (Option.some FieldType.long) ad dsM 0 (x_PJ Q)) {v4 : Int32} {s0 : Int64} {σ : x_S} {τ : x_L} (h : wX11_pack_52 Q v4 s0 σ τ) : V σ τ 52 [(4, .int v4)] [.long s0] := by
  refine x_lstore X (lv' := [(5, .long s0), (4, .int v4)]) dX11_pack_52 (by decide) rfl ?_
  refine x_iload X dX11_pack_54 1 rfl ?_
  refine x_if_ne X 64 dX11_pack_56 (by decide) (fun hc => ?_) (fun hc => ?_)
  · have h := h.1 hc
    refine x_lload X dX11_pack_64 0 rfl ?_
    refine x_ldc2 X dX11_pack_66 w_9_129 ?_
    refine x_lmul X dX11_pack_69 ?_
    refine x_iload X dX11_pack_70 1 rfl ?_
    refine x_i2l X dX11_pack_72 ?_
    refine x_ladd X dX11_pack_73 ?_
    refine x_ldc2 X dX11_pack_74 w_9_130 ?_
    refine x_lsub X dX11_pack_77 ?_
    refine x_sub X [] (lv' := []) rfl ?_
    exact bX11_pack_78 X h
  · have h := h.2 hc
    refine x_lload X dX11_pack_59 0 rfl ?_
    refine x_goto X (tgt := 78) dX11_pack_61 (by decide) ?_
    refine x_sub X [] (lv' := []) rfl ?_
    exact bX11_pack_78 X h
set_option maxRecDepth 100000 in
set_option maxHeartbeats 4000000 in
theorem kX11_pack {ad : Nat → Nat} {a0 : Int32} {a1 : Int32} {a2 : Int32} {a3 : Int32} {a4 : Int32} {σ : x_S} {τ : x_L} {Q : Int64 → x_S → x_L → Prop} (h : wX11_pack a0 a1 a2 a3 a4 σ τ Q) : x_Met yX11_pack cX11_pack 7 (Option.some FieldType.long) 0 ad dsM [.int a0, .int a1, .int a2, .int a3, .int a4] σ τ (x_PJ Q) := by
  refine x_met (by decide +kernel) (Nat.le_of_ble_eq_true rfl) (fun V X => ?_)
  have X : x_Is V cX11_pack 7 RX11 (Option.some FieldType.long) ad dsM 0 (x_PJ Q) := X
  show V σ τ 0 [(0, .int a0), (1, .int a1), (2, .int a2), (3, .int a3), (4, .int a4)] []
  refine x_iload_n X dX11_pack_0 rfl 0 rfl ?_
  refine x_i2l X dX11_pack_1 ?_
  refine x_ldc2 X dX11_pack_2 w_9_130 ?_
  refine x_lsub X dX11_pack_5 ?_
  refine x_ldc2 X dX11_pack_6 w_9_129 ?_
  refine x_lmul X dX11_pack_9 ?_
  refine x_iload_n X dX11_pack_10 rfl 1 rfl ?_
  refine x_i2l X dX11_pack_11 ?_
  refine x_ladd X dX11_pack_12 ?_
  refine x_ldc2 X dX11_pack_13 w_9_130 ?_
  refine x_lsub X dX11_pack_16 ?_
  refine x_ldc2 X dX11_pack_17 w_9_129 ?_
  refine x_lmul X dX11_pack_20 ?_
  refine x_iload_n X dX11_pack_21 rfl 2 rfl ?_
  refine x_i2l X dX11_pack_22 ?_
  refine x_ladd X dX11_pack_23 ?_
  refine x_ldc2 X dX11_pack_24 w_9_130 ?_
  refine x_lsub X dX11_pack_27 ?_
  refine x_lstore X (lv' := [(5, .long (((((((((a0 : Int32).toInt64) - 96) * 32) + ((a1 : Int32).toInt64)) - 96) * 32) + ((a2 : Int32).toInt64)) - 96)), (0, .int a0), (1, .int a1), (2, .int a2), (3, .int a3), (4, .int a4)]) dX11_pack_28 (by decide) rfl ?_
  refine x_iload_n X dX11_pack_30 rfl 4 rfl ?_
  refine x_if_ne X 39 dX11_pack_31 (by decide) (fun hc => ?_) (fun hc => ?_)
  · have h := h.1 hc
    refine x_lload X dX11_pack_39 0 rfl ?_
    refine x_ldc2 X dX11_pack_41 w_9_129 ?_
    refine x_lmul X dX11_pack_44 ?_
    refine x_iload_n X dX11_pack_45 rfl 4 rfl ?_
    refine x_i2l X dX11_pack_46 ?_
    refine x_ladd X dX11_pack_47 ?_
    refine x_ldc2 X dX11_pack_48 w_9_130 ?_
    refine x_lsub X dX11_pack_51 ?_
    refine x_sub X [5] (lv' := [(4, .int a4)]) rfl ?_
    exact bX11_pack_52 X h
  · have h := h.2 hc
    refine x_lload X dX11_pack_34 0 rfl ?_
    refine x_goto X (tgt := 52) dX11_pack_36 (by decide) ?_
    refine x_sub X [5] (lv' := [(4, .int a4)]) rfl ?_
    exact bX11_pack_52 X h
theorem dX11_isWord_0 : decode cX11_isWord 0 = .ok (.aload_n 0, 1) := by decide +kernel
theorem dX11_isWord_1 : decode cX11_isWord 1 = .ok (.getfield 419, 3) := by decide +kernel
theorem dX11_isWord_4 : decode cX11_isWord 4 = .ok (.iconst 1, 1) := by decide +kernel
theorem dX11_isWord_5 : decode cX11_isWord 5 = .ok (.if_icmp .ne 16, 3) := by decide +kernel
theorem dX11_isWord_8 : decode cX11_isWord 8 = .ok (.aload_n 0, 1) := by decide +kernel
theorem dX11_isWord_9 : decode cX11_isWord 9 = .ok (.getfield 409, 3) := by decide +kernel
theorem dX11_isWord_12 : decode cX11_isWord 12 = .ok (.lload_n 1, 1) := by decide +kernel
theorem dX11_isWord_13 : decode cX11_isWord 13 = .ok (.lcmp, 1) := by decide +kernel
theorem dX11_isWord_14 : decode cX11_isWord 14 = .ok (.ifCond .ne 7, 3) := by decide +kernel
theorem dX11_isWord_17 : decode cX11_isWord 17 = .ok (.iconst 1, 1) := by decide +kernel
theorem dX11_isWord_18 : decode cX11_isWord 18 = .ok (.goto 4, 3) := by decide +kernel
theorem dX11_isWord_21 : decode cX11_isWord 21 = .ok (.iconst 0, 1) := by decide +kernel
theorem dX11_isWord_22 : decode cX11_isWord 22 = .ok (.ireturn, 1) := by decide +kernel
theorem cm_X11_isWord : x_CM yX11_isWord cX11_isWord 3 (Option.some FieldType.boolean) 1 := ⟨w_9_142, w_1_12, by decide +kernel, by decide +kernel⟩
theorem ci_X11_isWord : x_CI yX11_isWord 13 := ⟨w_9_141, wp_119, (RX11, TX11, 41), rfl, rfl⟩
set_option maxRecDepth 100000 in
set_option maxHeartbeats 4000000 in
theorem bX11_isWord_22 {V : x_J} {ad : Nat → Nat} {Q : Int32 → x_S → x_L → Prop} (X : x_Is V cX11_isWord 3 RX11 (Option.some FieldType.boolean) ad dsM 0 (x_PI Q)) {s0 : Int32} {σ : x_S} {τ : x_L} (h : wX11_isWord_22 Q s0 σ τ) : V σ τ 22 [] [.int s0] := by
  exact x_zret X dX11_isWord_22 ⟨h.1, _, rfl, h.2⟩
set_option maxRecDepth 100000 in
set_option maxHeartbeats 4000000 in
theorem bX11_isWord_21 {V : x_J} {ad : Nat → Nat} {Q : Int32 → x_S → x_L → Prop} (X : x_Is V cX11_isWord 3 RX11 (Option.some FieldType.boolean) ad dsM 0 (x_PI Q)) {σ : x_S} {τ : x_L} (h : wX11_isWord_21 Q σ τ) : V σ τ 21 [] [] := by
  refine x_iconst X dX11_isWord_21 ki_0 ?_
  exact bX11_isWord_22 X h
set_option maxRecDepth 100000 in
set_option maxHeartbeats 4000000 in
theorem kX11_isWord {ad : Nat → Nat} {a1 : Int64} {σ : x_S} {τ : x_L} {Q : Int32 → x_S → x_L → Prop} (h : wX11_isWord a1 σ τ Q) : x_Met yX11_isWord cX11_isWord 3 (Option.some FieldType.boolean) 0 ad dsM [.ref (ad 0), .long a1] σ τ (x_PI Q) := by
  refine x_met (by decide +kernel) (Nat.le_of_ble_eq_true rfl) (fun V X => ?_)
  have X : x_Is V cX11_isWord 3 RX11 (Option.some FieldType.boolean) ad dsM 0 (x_PI Q) := X
  show V σ τ 0 [(0, .ref (ad 0)), (1, .long a1)] []
  refine x_aload_n X dX11_isWord_0 rfl 0 rfl ?_
  refine x_getI X dX11_isWord_1 fl_11_419 dsM_0 rfl ?_
  refine x_iconst X dX11_isWord_4 ki_1 ?_
  refine x_icmp_ne X 21 dX11_isWord_5 (by decide) (fun hc => ?_) (fun hc => ?_)
  · have h := h.1 hc
    refine x_sub X [] (lv' := []) rfl ?_
    exact bX11_isWord_21 X h
  · have h := h.2 hc
    refine x_aload_n X dX11_isWord_8 rfl 0 rfl ?_
    refine x_getL X dX11_isWord_9 fl_11_409 dsM_0 rfl ?_
    refine x_lload_n X dX11_isWord_12 rfl 1 rfl ?_
    refine x_lcmp X dX11_isWord_13 ?_
    refine x_if_ne X 21 dX11_isWord_14 (by decide) (fun hc => ?_) (fun hc => ?_)
    · have h := h.1 hc
      refine x_sub X [] (lv' := []) rfl ?_
      exact bX11_isWord_21 X h
    · have h := h.2 hc
      refine x_iconst X dX11_isWord_17 ki_1 ?_
      refine x_goto X (tgt := 22) dX11_isWord_18 (by decide) ?_
      refine x_sub X [] (lv' := []) rfl ?_
      exact bX11_isWord_22 X h
theorem dX11_readInto_0 : decode cX11_readInto 0 = .ok (.aload_n 0, 1) := by decide +kernel
theorem dX11_readInto_1 : decode cX11_readInto 1 = .ok (.iload_n 2, 1) := by decide +kernel
theorem dX11_readInto_2 : decode cX11_readInto 2 = .ok (.iload_n 3, 1) := by decide +kernel
theorem dX11_readInto_3 : decode cX11_readInto 3 = .ok (.invokevirtual 437, 3) := by decide +kernel
theorem dX11_readInto_6 : decode cX11_readInto 6 = .ok (.ifCond .ne 5, 3) := by decide +kernel
theorem dX11_readInto_9 : decode cX11_readInto 9 = .ok (.iconst 0, 1) := by decide +kernel
theorem dX11_readInto_10 : decode cX11_readInto 10 = .ok (.ireturn, 1) := by decide +kernel
theorem dX11_readInto_11 : decode cX11_readInto 11 = .ok (.aload_n 0, 1) := by decide +kernel
theorem dX11_readInto_12 : decode cX11_readInto 12 = .ok (.getfield 17, 3) := by decide +kernel
theorem dX11_readInto_15 : decode cX11_readInto 15 = .ok (.sipush 290, 3) := by decide +kernel
theorem dX11_readInto_18 : decode cX11_readInto 18 = .ok (.iload_n 1, 1) := by decide +kernel
theorem dX11_readInto_19 : decode cX11_readInto 19 = .ok (.iadd, 1) := by decide +kernel
theorem dX11_readInto_20 : decode cX11_readInto 20 = .ok (.aload_n 0, 1) := by decide +kernel
theorem dX11_readInto_21 : decode cX11_readInto 21 = .ok (.getfield 434, 3) := by decide +kernel
theorem dX11_readInto_24 : decode cX11_readInto 24 = .ok (.iastore, 1) := by decide +kernel
theorem dX11_readInto_25 : decode cX11_readInto 25 = .ok (.iconst 1, 1) := by decide +kernel
theorem dX11_readInto_26 : decode cX11_readInto 26 = .ok (.ireturn, 1) := by decide +kernel
theorem cm_X11_readInto : x_CM yX11_readInto cX11_readInto 4 (Option.some FieldType.boolean) 3 := ⟨w_9_154, w_1_12, by decide +kernel, by decide +kernel⟩
theorem ci_X11_readInto : x_CI yX11_readInto 13 := ⟨w_9_153, wp_122, (RX11, TX11, 41), rfl, rfl⟩
set_option maxRecDepth 100000 in
set_option maxHeartbeats 4000000 in
theorem kX11_readInto {ad : Nat → Nat} {a1 : Int32} {a2 : Int32} {a3 : Int32} {σ : x_S} {τ : x_L} {Q : Int32 → x_S → x_L → Prop} (h : wX11_readInto a1 a2 a3 σ τ Q) : x_Met yX11_readInto cX11_readInto 4 (Option.some FieldType.boolean) 4 ad dsM [.ref (ad 0), .int a1, .int a2, .int a3] σ τ (x_PI Q) := by
  refine x_met (by decide +kernel) (Nat.le_of_ble_eq_true rfl) (fun V X => ?_)
  have X : x_Is V cX11_readInto 4 RX11 (Option.some FieldType.boolean) ad dsM 4 (x_PI Q) := X
  show V σ τ 0 [(0, .ref (ad 0)), (1, .int a1), (2, .int a2), (3, .int a3)] []
  refine x_aload_n X dX11_readInto_0 rfl 0 rfl ?_
  refine x_iload_n X dX11_readInto_1 rfl 2 rfl ?_
  refine x_iload_n X dX11_readInto_2 rfl 3 rfl ?_
  refine x_callVi X [.int a2, .int a3] [] dX11_readInto_3 (kX11_readNumber h) cm_X11_readNumber ci_X11_readNumber w_9_155 dsM_0 ⟨by decide, by decide⟩ rfl (Nat.le_of_ble_eq_true rfl) (fun r3 σ3 τ3 h => ?_)
  refine x_if_ne X 11 dX11_readInto_6 (by decide) (fun hc => ?_) (fun hc => ?_)
  · have h := h.1 hc
    refine x_aload_n X dX11_readInto_11 rfl 0 rfl ?_
    refine x_getR X (j := 3) dX11_readInto_12 fl_11_17 dsM_0 rfl ?_
    refine x_sipush X dX11_readInto_15 ks_290 ?_
    refine x_iload_n X dX11_readInto_18 rfl 1 rfl ?_
    refine x_iadd X dX11_readInto_19 ?_
    refine x_aload_n X dX11_readInto_20 rfl 0 rfl ?_
    refine x_getI X dX11_readInto_21 fl_11_434 dsM_0 rfl ?_
    have g24 := h.1
    have h := h.2
    refine x_iast X dX11_readInto_24 dsM_3 g24 ?_
    refine x_iconst X dX11_readInto_25 ki_1 ?_
    exact x_zret X dX11_readInto_26 ⟨Or.inr rfl, _, rfl, h⟩
  · have h := h.2 hc
    refine x_iconst X dX11_readInto_9 ki_0 ?_
    exact x_zret X dX11_readInto_10 ⟨Or.inl rfl, _, rfl, h⟩
theorem dX11_readRoad_0 : decode cX11_readRoad 0 = .ok (.aload_n 0, 1) := by decide +kernel
theorem dX11_readRoad_1 : decode cX11_readRoad 1 = .ok (.getfield 17, 3) := by decide +kernel
theorem dX11_readRoad_4 : decode cX11_readRoad 4 = .ok (.sipush 290, 3) := by decide +kernel
theorem dX11_readRoad_7 : decode cX11_readRoad 7 = .ok (.iaload, 1) := by decide +kernel
theorem dX11_readRoad_8 : decode cX11_readRoad 8 = .ok (.bipush 30, 2) := by decide +kernel
theorem dX11_readRoad_10 : decode cX11_readRoad 10 = .ok (.if_icmp .ne 9, 3) := by decide +kernel
theorem dX11_readRoad_13 : decode cX11_readRoad 13 = .ok (.aload_n 0, 1) := by decide +kernel
theorem dX11_readRoad_14 : decode cX11_readRoad 14 = .ok (.iconst 4, 1) := by decide +kernel
theorem dX11_readRoad_15 : decode cX11_readRoad 15 = .ok (.invokevirtual 431, 3) := by decide +kernel
theorem dX11_readRoad_18 : decode cX11_readRoad 18 = .ok (.ireturn, 1) := by decide +kernel
theorem dX11_readRoad_19 : decode cX11_readRoad 19 = .ok (.aload_n 0, 1) := by decide +kernel
theorem dX11_readRoad_20 : decode cX11_readRoad 20 = .ok (.invokevirtual 428, 3) := by decide +kernel
theorem dX11_readRoad_23 : decode cX11_readRoad 23 = .ok (.iconst 2, 1) := by decide +kernel
theorem dX11_readRoad_24 : decode cX11_readRoad 24 = .ok (.iconst 4, 1) := by decide +kernel
theorem dX11_readRoad_25 : decode cX11_readRoad 25 = .ok (.aload_n 0, 1) := by decide +kernel
theorem dX11_readRoad_26 : decode cX11_readRoad 26 = .ok (.getfield 17, 3) := by decide +kernel
theorem dX11_readRoad_29 : decode cX11_readRoad 29 = .ok (.sipush 290, 3) := by decide +kernel
theorem dX11_readRoad_32 : decode cX11_readRoad 32 = .ok (.iaload, 1) := by decide +kernel
theorem dX11_readRoad_33 : decode cX11_readRoad 33 = .ok (.imul, 1) := by decide +kernel
theorem dX11_readRoad_34 : decode cX11_readRoad 34 = .ok (.iadd, 1) := by decide +kernel
theorem dX11_readRoad_35 : decode cX11_readRoad 35 = .ok (.istore_n 1, 1) := by decide +kernel
theorem dX11_readRoad_36 : decode cX11_readRoad 36 = .ok (.aload_n 0, 1) := by decide +kernel
theorem dX11_readRoad_37 : decode cX11_readRoad 37 = .ok (.iload_n 1, 1) := by decide +kernel
theorem dX11_readRoad_38 : decode cX11_readRoad 38 = .ok (.iconst 0, 1) := by decide +kernel
theorem dX11_readRoad_39 : decode cX11_readRoad 39 = .ok (.iadd, 1) := by decide +kernel
theorem dX11_readRoad_40 : decode cX11_readRoad 40 = .ok (.iconst 0, 1) := by decide +kernel
theorem dX11_readRoad_41 : decode cX11_readRoad 41 = .ok (.bipush 19, 2) := by decide +kernel
theorem dX11_readRoad_43 : decode cX11_readRoad 43 = .ok (.invokevirtual 440, 3) := by decide +kernel
theorem dX11_readRoad_46 : decode cX11_readRoad 46 = .ok (.ifCond .ne 5, 3) := by decide +kernel
theorem dX11_readRoad_49 : decode cX11_readRoad 49 = .ok (.iconst 0, 1) := by decide +kernel
theorem dX11_readRoad_50 : decode cX11_readRoad 50 = .ok (.ireturn, 1) := by decide +kernel
theorem dX11_readRoad_51 : decode cX11_readRoad 51 = .ok (.aload_n 0, 1) := by decide +kernel
theorem dX11_readRoad_52 : decode cX11_readRoad 52 = .ok (.getfield 419, 3) := by decide +kernel
theorem dX11_readRoad_55 : decode cX11_readRoad 55 = .ok (.iconst 2, 1) := by decide +kernel
theorem dX11_readRoad_56 : decode cX11_readRoad 56 = .ok (.if_icmp .ne 30, 3) := by decide +kernel
theorem dX11_readRoad_59 : decode cX11_readRoad 59 = .ok (.aload_n 0, 1) := by decide +kernel
theorem dX11_readRoad_60 : decode cX11_readRoad 60 = .ok (.getfield 409, 3) := by decide +kernel
theorem dX11_readRoad_63 : decode cX11_readRoad 63 = .ok (.aload_n 0, 1) := by decide +kernel
theorem dX11_readRoad_64 : decode cX11_readRoad 64 = .ok (.getfield 17, 3) := by decide +kernel
theorem dX11_readRoad_67 : decode cX11_readRoad 67 = .ok (.sipush 290, 3) := by decide +kernel
theorem dX11_readRoad_70 : decode cX11_readRoad 70 = .ok (.iload_n 1, 1) := by decide +kernel
theorem dX11_readRoad_71 : decode cX11_readRoad 71 = .ok (.iadd, 1) := by decide +kernel
theorem dX11_readRoad_72 : decode cX11_readRoad 72 = .ok (.iconst 0, 1) := by decide +kernel
theorem dX11_readRoad_73 : decode cX11_readRoad 73 = .ok (.iadd, 1) := by decide +kernel
theorem dX11_readRoad_74 : decode cX11_readRoad 74 = .ok (.iaload, 1) := by decide +kernel
theorem dX11_readRoad_75 : decode cX11_readRoad 75 = .ok (.i2l, 1) := by decide +kernel
theorem dX11_readRoad_76 : decode cX11_readRoad 76 = .ok (.lcmp, 1) := by decide +kernel
theorem dX11_readRoad_77 : decode cX11_readRoad 77 = .ok (.ifCond .ne 9, 3) := by decide +kernel
theorem dX11_readRoad_80 : decode cX11_readRoad 80 = .ok (.aload_n 0, 1) := by decide +kernel
theorem dX11_readRoad_81 : decode cX11_readRoad 81 = .ok (.iconst 3, 1) := by decide +kernel
theorem dX11_readRoad_82 : decode cX11_readRoad 82 = .ok (.invokevirtual 431, 3) := by decide +kernel
theorem dX11_readRoad_85 : decode cX11_readRoad 85 = .ok (.ireturn, 1) := by decide +kernel
theorem dX11_readRoad_86 : decode cX11_readRoad 86 = .ok (.aload_n 0, 1) := by decide +kernel
theorem dX11_readRoad_87 : decode cX11_readRoad 87 = .ok (.iload_n 1, 1) := by decide +kernel
theorem dX11_readRoad_88 : decode cX11_readRoad 88 = .ok (.iconst 1, 1) := by decide +kernel
theorem dX11_readRoad_89 : decode cX11_readRoad 89 = .ok (.iadd, 1) := by decide +kernel
theorem dX11_readRoad_90 : decode cX11_readRoad 90 = .ok (.iconst 0, 1) := by decide +kernel
theorem dX11_readRoad_91 : decode cX11_readRoad 91 = .ok (.bipush 19, 2) := by decide +kernel
theorem dX11_readRoad_93 : decode cX11_readRoad 93 = .ok (.invokevirtual 440, 3) := by decide +kernel
theorem dX11_readRoad_96 : decode cX11_readRoad 96 = .ok (.ifCond .eq 31, 3) := by decide +kernel
theorem dX11_readRoad_99 : decode cX11_readRoad 99 = .ok (.aload_n 0, 1) := by decide +kernel
theorem dX11_readRoad_100 : decode cX11_readRoad 100 = .ok (.iload_n 1, 1) := by decide +kernel
theorem dX11_readRoad_101 : decode cX11_readRoad 101 = .ok (.iconst 2, 1) := by decide +kernel
theorem dX11_readRoad_102 : decode cX11_readRoad 102 = .ok (.iadd, 1) := by decide +kernel
theorem dX11_readRoad_103 : decode cX11_readRoad 103 = .ok (.iconst 1, 1) := by decide +kernel
theorem dX11_readRoad_104 : decode cX11_readRoad 104 = .ok (.sipush 300, 3) := by decide +kernel
theorem dX11_readRoad_107 : decode cX11_readRoad 107 = .ok (.invokevirtual 440, 3) := by decide +kernel
theorem dX11_readRoad_110 : decode cX11_readRoad 110 = .ok (.ifCond .eq 17, 3) := by decide +kernel
theorem dX11_readRoad_113 : decode cX11_readRoad 113 = .ok (.aload_n 0, 1) := by decide +kernel
theorem dX11_readRoad_114 : decode cX11_readRoad 114 = .ok (.iload_n 1, 1) := by decide +kernel
theorem dX11_readRoad_115 : decode cX11_readRoad 115 = .ok (.iconst 3, 1) := by decide +kernel
theorem dX11_readRoad_116 : decode cX11_readRoad 116 = .ok (.iadd, 1) := by decide +kernel
theorem dX11_readRoad_117 : decode cX11_readRoad 117 = .ok (.bipush 40, 2) := by decide +kernel
theorem dX11_readRoad_119 : decode cX11_readRoad 119 = .ok (.bipush 120, 2) := by decide +kernel
theorem dX11_readRoad_121 : decode cX11_readRoad 121 = .ok (.invokevirtual 440, 3) := by decide +kernel
theorem dX11_readRoad_124 : decode cX11_readRoad 124 = .ok (.ifCond .ne 5, 3) := by decide +kernel
theorem dX11_readRoad_127 : decode cX11_readRoad 127 = .ok (.iconst 0, 1) := by decide +kernel
theorem dX11_readRoad_128 : decode cX11_readRoad 128 = .ok (.ireturn, 1) := by decide +kernel
theorem dX11_readRoad_129 : decode cX11_readRoad 129 = .ok (.aload_n 0, 1) := by decide +kernel
theorem dX11_readRoad_130 : decode cX11_readRoad 130 = .ok (.getfield 17, 3) := by decide +kernel
theorem dX11_readRoad_133 : decode cX11_readRoad 133 = .ok (.sipush 290, 3) := by decide +kernel
theorem dX11_readRoad_136 : decode cX11_readRoad 136 = .ok (.dup2, 1) := by decide +kernel
theorem dX11_readRoad_137 : decode cX11_readRoad 137 = .ok (.iaload, 1) := by decide +kernel
theorem dX11_readRoad_138 : decode cX11_readRoad 138 = .ok (.iconst 1, 1) := by decide +kernel
theorem dX11_readRoad_139 : decode cX11_readRoad 139 = .ok (.iadd, 1) := by decide +kernel
theorem dX11_readRoad_140 : decode cX11_readRoad 140 = .ok (.iastore, 1) := by decide +kernel
theorem dX11_readRoad_141 : decode cX11_readRoad 141 = .ok (.aload_n 0, 1) := by decide +kernel
theorem dX11_readRoad_142 : decode cX11_readRoad 142 = .ok (.invokevirtual 444, 3) := by decide +kernel
theorem dX11_readRoad_145 : decode cX11_readRoad 145 = .ok (.ireturn, 1) := by decide +kernel
theorem cm_X11_readRoad : x_CM yX11_readRoad cX11_readRoad 2 (Option.some FieldType.boolean) 0 := ⟨w_9_146, w_1_12, by decide +kernel, by decide +kernel⟩
theorem ci_X11_readRoad : x_CI yX11_readRoad 13 := ⟨w_9_145, wp_120, (RX11, TX11, 41), rfl, rfl⟩
set_option maxRecDepth 100000 in
set_option maxHeartbeats 4000000 in
theorem bX11_readRoad_127 {V : x_J} {ad : Nat → Nat} {Q : Int32 → x_S → x_L → Prop} (X : x_Is V cX11_readRoad 2 RX11 (Option.some FieldType.boolean) ad dsM 5 (x_PI Q)) {σ : x_S} {τ : x_L} (h : wX11_readRoad_127 Q σ τ) : V σ τ 127 [] [] := by
  refine x_iconst X dX11_readRoad_127 ki_0 ?_
  exact x_zret X dX11_readRoad_128 ⟨Or.inl rfl, _, rfl, h⟩
set_option maxRecDepth 100000 in
set_option maxHeartbeats 4000000 in
theorem bX11_readRoad_86 {V : x_J} {ad : Nat → Nat} {Q : Int32 → x_S → x_L → Prop} (X : x_Is V cX11_readRoad 2 RX11 (Option.some FieldType.boolean) ad dsM 5 (x_PI Q)) {v1 : Int32} {σ : x_S} {τ : x_L} (h : wX11_readRoad_86 Q v1 σ τ) : V σ τ 86 [(0, .ref (ad 0)), (1, .int v1)] [] := by
  refine x_aload_n X dX11_readRoad_86 rfl 0 rfl ?_
  refine x_iload_n X dX11_readRoad_87 rfl 1 rfl ?_
  refine x_iconst X dX11_readRoad_88 ki_1 ?_
  refine x_iadd X dX11_readRoad_89 ?_
  refine x_iconst X dX11_readRoad_90 ki_0 ?_
  refine x_bipush X dX11_readRoad_91 kb_19 ?_
  refine x_callVi X [.int (v1 + 1), .int 0, .int 19] [] dX11_readRoad_93 (kX11_readInto h) cm_X11_readInto ci_X11_readInto w_9_151 dsM_0 ⟨by decide, by decide⟩ rfl (Nat.le_of_ble_eq_true rfl) (fun r93 σ93 τ93 h => ?_)
  refine x_if_eq X 127 dX11_readRoad_96 (by decide) (fun hc => ?_) (fun hc => ?_)
  · have h := h.1 hc
    refine x_sub X [] (lv' := []) rfl ?_
    exact bX11_readRoad_127 X h
  · have h := h.2 hc
    refine x_aload_n X dX11_readRoad_99 rfl 0 rfl ?_
    refine x_iload_n X dX11_readRoad_100 rfl 1 rfl ?_
    refine x_iconst X dX11_readRoad_101 ki_2 ?_
    refine x_iadd X dX11_readRoad_102 ?_
    refine x_iconst X dX11_readRoad_103 ki_1 ?_
    refine x_sipush X dX11_readRoad_104 ks_300 ?_
    refine x_callVi X [.int (v1 + 2), .int 1, .int 300] [] dX11_readRoad_107 (kX11_readInto h) cm_X11_readInto ci_X11_readInto w_9_151 dsM_0 ⟨by decide, by decide⟩ rfl (Nat.le_of_ble_eq_true rfl) (fun r107 σ107 τ107 h => ?_)
    refine x_if_eq X 127 dX11_readRoad_110 (by decide) (fun hc => ?_) (fun hc => ?_)
    · have h := h.1 hc
      refine x_sub X [] (lv' := []) rfl ?_
      exact bX11_readRoad_127 X h
    · have h := h.2 hc
      refine x_aload_n X dX11_readRoad_113 rfl 0 rfl ?_
      refine x_iload_n X dX11_readRoad_114 rfl 1 rfl ?_
      refine x_iconst X dX11_readRoad_115 ki_3 ?_
      refine x_iadd X dX11_readRoad_116 ?_
      refine x_bipush X dX11_readRoad_117 kb_40 ?_
      refine x_bipush X dX11_readRoad_119 kb_120 ?_
      refine x_callVi X [.int (v1 + 3), .int 40, .int 120] [] dX11_readRoad_121 (kX11_readInto h) cm_X11_readInto ci_X11_readInto w_9_151 dsM_0 ⟨by decide, by decide⟩ rfl (Nat.le_of_ble_eq_true rfl) (fun r121 σ121 τ121 h => ?_)
      refine x_if_ne X 129 dX11_readRoad_124 (by decide) (fun hc => ?_) (fun hc => ?_)
      · have h := h.1 hc
        refine x_aload_n X dX11_readRoad_129 rfl 0 rfl ?_
        refine x_getR X (j := 3) dX11_readRoad_130 fl_11_17 dsM_0 rfl ?_
        refine x_sipush X dX11_readRoad_133 ks_290 ?_
        refine x_dup2 X dX11_readRoad_136 rfl rfl ?_
        refine x_iald X dX11_readRoad_137 dsM_3 (x_inl (by decide)) ?_
        refine x_iconst X dX11_readRoad_138 ki_1 ?_
        refine x_iadd X dX11_readRoad_139 ?_
        refine x_iast X dX11_readRoad_140 dsM_3 (x_inl (by decide)) ?_
        refine x_aload_n X dX11_readRoad_141 rfl 0 rfl ?_
        refine x_callVi X [] [] dX11_readRoad_142 (kX11_readEnd h) cm_X11_readEnd ci_X11_readEnd w_9_159 dsM_0 ⟨by decide, by decide⟩ rfl (Nat.le_of_ble_eq_true rfl) (fun r142 σ142 τ142 h => ?_)
        exact x_zret X dX11_readRoad_145 ⟨h.1, _, rfl, h.2⟩
      · have h := h.2 hc
        refine x_sub X [] (lv' := []) rfl ?_
        exact bX11_readRoad_127 X h
set_option maxRecDepth 100000 in
set_option maxHeartbeats 4000000 in
theorem kX11_readRoad {ad : Nat → Nat} {σ : x_S} {τ : x_L} {Q : Int32 → x_S → x_L → Prop} (h : wX11_readRoad σ τ Q) : x_Met yX11_readRoad cX11_readRoad 2 (Option.some FieldType.boolean) 5 ad dsM [.ref (ad 0)] σ τ (x_PI Q) := by
  refine x_met (by decide +kernel) (Nat.le_of_ble_eq_true rfl) (fun V X => ?_)
  have X : x_Is V cX11_readRoad 2 RX11 (Option.some FieldType.boolean) ad dsM 5 (x_PI Q) := X
  show V σ τ 0 [(0, .ref (ad 0))] []
  refine x_aload_n X dX11_readRoad_0 rfl 0 rfl ?_
  refine x_getR X (j := 3) dX11_readRoad_1 fl_11_17 dsM_0 rfl ?_
  refine x_sipush X dX11_readRoad_4 ks_290 ?_
  refine x_iald X dX11_readRoad_7 dsM_3 (x_inl (by decide)) ?_
  refine x_bipush X dX11_readRoad_8 kb_30 ?_
  refine x_icmp_ne X 19 dX11_readRoad_10 (by decide) (fun hc => ?_) (fun hc => ?_)
  · have h := h.1 hc
    refine x_aload_n X dX11_readRoad_19 rfl 0 rfl ?_
    refine x_callVv X [] [] dX11_readRoad_20 (kX11_advance h) cm_X11_advance ci_X11_advance w_9_111 dsM_0 ⟨by decide, by decide⟩ rfl (Nat.le_of_ble_eq_true rfl) (fun σ20 τ20 h => ?_)
    refine x_iconst X dX11_readRoad_23 ki_2 ?_
    refine x_iconst X dX11_readRoad_24 ki_4 ?_
    refine x_aload_n X dX11_readRoad_25 rfl 0 rfl ?_
    refine x_getR X (j := 3) dX11_readRoad_26 fl_11_17 dsM_0 rfl ?_
    refine x_sipush X dX11_readRoad_29 ks_290 ?_
    refine x_iald X dX11_readRoad_32 dsM_3 (x_inl (by decide)) ?_
    refine x_imul X dX11_readRoad_33 ?_
    refine x_iadd X dX11_readRoad_34 ?_
    refine x_istore_n X (lv' := [(1, .int (2 + (4 * (σ20 3 (290 : Int32).toNatClampNeg)))), (0, .ref (ad 0))]) dX11_readRoad_35 rfl (by decide) rfl ?_
    refine x_aload_n X dX11_readRoad_36 rfl 1 rfl ?_
    refine x_iload_n X dX11_readRoad_37 rfl 0 rfl ?_
    refine x_iconst X dX11_readRoad_38 ki_0 ?_
    refine x_iadd X dX11_readRoad_39 ?_
    refine x_iconst X dX11_readRoad_40 ki_0 ?_
    refine x_bipush X dX11_readRoad_41 kb_19 ?_
    refine x_callVi X [.int ((2 + (4 * (σ20 3 (290 : Int32).toNatClampNeg))) + 0), .int 0, .int 19] [] dX11_readRoad_43 (kX11_readInto h) cm_X11_readInto ci_X11_readInto w_9_151 dsM_0 ⟨by decide, by decide⟩ rfl (Nat.le_of_ble_eq_true rfl) (fun r43 σ43 τ43 h => ?_)
    refine x_if_ne X 51 dX11_readRoad_46 (by decide) (fun hc => ?_) (fun hc => ?_)
    · have h := h.1 hc
      refine x_aload_n X dX11_readRoad_51 rfl 1 rfl ?_
      refine x_getI X dX11_readRoad_52 fl_11_419 dsM_0 rfl ?_
      refine x_iconst X dX11_readRoad_55 ki_2 ?_
      refine x_icmp_ne X 86 dX11_readRoad_56 (by decide) (fun hc => ?_) (fun hc => ?_)
      · have h := h.1 hc
        refine x_sub X [1, 0] (lv' := [(0, .ref (ad 0)), (1, .int (2 + (4 * (σ20 3 (290 : Int32).toNatClampNeg))))]) rfl ?_
        exact bX11_readRoad_86 X h
      · have h := h.2 hc
        refine x_aload_n X dX11_readRoad_59 rfl 1 rfl ?_
        refine x_getL X dX11_readRoad_60 fl_11_409 dsM_0 rfl ?_
        refine x_aload_n X dX11_readRoad_63 rfl 1 rfl ?_
        refine x_getR X (j := 3) dX11_readRoad_64 fl_11_17 dsM_0 rfl ?_
        refine x_sipush X dX11_readRoad_67 ks_290 ?_
        refine x_iload_n X dX11_readRoad_70 rfl 0 rfl ?_
        refine x_iadd X dX11_readRoad_71 ?_
        refine x_iconst X dX11_readRoad_72 ki_0 ?_
        refine x_iadd X dX11_readRoad_73 ?_
        have g74 := h.1
        have h := h.2
        refine x_iald X dX11_readRoad_74 dsM_3 g74 ?_
        refine x_i2l X dX11_readRoad_75 ?_
        refine x_lcmp X dX11_readRoad_76 ?_
        refine x_if_ne X 86 dX11_readRoad_77 (by decide) (fun hc => ?_) (fun hc => ?_)
        · have h := h.1 hc
          refine x_sub X [1, 0] (lv' := [(0, .ref (ad 0)), (1, .int (2 + (4 * (σ20 3 (290 : Int32).toNatClampNeg))))]) rfl ?_
          exact bX11_readRoad_86 X h
        · have h := h.2 hc
          refine x_aload_n X dX11_readRoad_80 rfl 1 rfl ?_
          refine x_iconst X dX11_readRoad_81 ki_3 ?_
          refine x_callVi X [.int 3] [] dX11_readRoad_82 (kX11_fail h) cm_X11_fail ci_X11_fail w_9_147 dsM_0 ⟨by decide, by decide⟩ rfl (Nat.le_of_ble_eq_true rfl) (fun r82 σ82 τ82 h => ?_)
          exact x_zret X dX11_readRoad_85 ⟨h.1, _, rfl, h.2⟩
    · have h := h.2 hc
      refine x_iconst X dX11_readRoad_49 ki_0 ?_
      exact x_zret X dX11_readRoad_50 ⟨Or.inl rfl, _, rfl, h⟩
  · have h := h.2 hc
    refine x_aload_n X dX11_readRoad_13 rfl 0 rfl ?_
    refine x_iconst X dX11_readRoad_14 ki_4 ?_
    refine x_callVi X [.int 4] [] dX11_readRoad_15 (kX11_fail h) cm_X11_fail ci_X11_fail w_9_147 dsM_0 ⟨by decide, by decide⟩ rfl (Nat.le_of_ble_eq_true rfl) (fun r15 σ15 τ15 h => ?_)
    exact x_zret X dX11_readRoad_18 ⟨h.1, _, rfl, h.2⟩
theorem dX11_toldRoad_0 : decode cX11_toldRoad 0 = .ok (.aload_n 0, 1) := by decide +kernel
theorem dX11_toldRoad_1 : decode cX11_toldRoad 1 = .ok (.getfield 17, 3) := by decide +kernel
theorem dX11_toldRoad_4 : decode cX11_toldRoad 4 = .ok (.sipush 292, 3) := by decide +kernel
theorem dX11_toldRoad_7 : decode cX11_toldRoad 7 = .ok (.iconst 4, 1) := by decide +kernel
theorem dX11_toldRoad_8 : decode cX11_toldRoad 8 = .ok (.iload_n 1, 1) := by decide +kernel
theorem dX11_toldRoad_9 : decode cX11_toldRoad 9 = .ok (.imul, 1) := by decide +kernel
theorem dX11_toldRoad_10 : decode cX11_toldRoad 10 = .ok (.iadd, 1) := by decide +kernel
theorem dX11_toldRoad_11 : decode cX11_toldRoad 11 = .ok (.iload_n 2, 1) := by decide +kernel
theorem dX11_toldRoad_12 : decode cX11_toldRoad 12 = .ok (.iadd, 1) := by decide +kernel
theorem dX11_toldRoad_13 : decode cX11_toldRoad 13 = .ok (.iaload, 1) := by decide +kernel
theorem dX11_toldRoad_14 : decode cX11_toldRoad 14 = .ok (.ireturn, 1) := by decide +kernel
theorem cm_X11_toldRoad : x_CM yX11_toldRoad cX11_toldRoad 3 (Option.some FieldType.int) 2 := ⟨w_9_174, w_1_12, by decide +kernel, by decide +kernel⟩
theorem ci_X11_toldRoad : x_CI yX11_toldRoad 13 := ⟨w_9_173, wp_127, (RX11, TX11, 41), rfl, rfl⟩
set_option maxRecDepth 100000 in
set_option maxHeartbeats 4000000 in
theorem kX11_toldRoad {ad : Nat → Nat} {a1 : Int32} {a2 : Int32} {σ : x_S} {τ : x_L} {Q : Int32 → x_S → x_L → Prop} (h : wX11_toldRoad a1 a2 σ τ Q) : x_Met yX11_toldRoad cX11_toldRoad 3 (Option.some FieldType.int) 0 ad dsM [.ref (ad 0), .int a1, .int a2] σ τ (x_PI Q) := by
  refine x_met (by decide +kernel) (Nat.le_of_ble_eq_true rfl) (fun V X => ?_)
  have X : x_Is V cX11_toldRoad 3 RX11 (Option.some FieldType.int) ad dsM 0 (x_PI Q) := X
  show V σ τ 0 [(0, .ref (ad 0)), (1, .int a1), (2, .int a2)] []
  refine x_aload_n X dX11_toldRoad_0 rfl 0 rfl ?_
  refine x_getR X (j := 3) dX11_toldRoad_1 fl_11_17 dsM_0 rfl ?_
  refine x_sipush X dX11_toldRoad_4 ks_292 ?_
  refine x_iconst X dX11_toldRoad_7 ki_4 ?_
  refine x_iload_n X dX11_toldRoad_8 rfl 1 rfl ?_
  refine x_imul X dX11_toldRoad_9 ?_
  refine x_iadd X dX11_toldRoad_10 ?_
  refine x_iload_n X dX11_toldRoad_11 rfl 2 rfl ?_
  refine x_iadd X dX11_toldRoad_12 ?_
  have g13 := h.1
  have h := h.2
  refine x_iald X dX11_toldRoad_13 dsM_3 g13 ?_
  exact x_iret X dX11_toldRoad_14 ⟨_, rfl, h⟩
theorem dX11_readPlace_0 : decode cX11_readPlace 0 = .ok (.aload_n 0, 1) := by decide +kernel
theorem dX11_readPlace_1 : decode cX11_readPlace 1 = .ok (.getfield 17, 3) := by decide +kernel
theorem dX11_readPlace_4 : decode cX11_readPlace 4 = .ok (.sipush 290, 3) := by decide +kernel
theorem dX11_readPlace_7 : decode cX11_readPlace 7 = .ok (.iload_n 1, 1) := by decide +kernel
theorem dX11_readPlace_8 : decode cX11_readPlace 8 = .ok (.iadd, 1) := by decide +kernel
theorem dX11_readPlace_9 : decode cX11_readPlace 9 = .ok (.iconst 3, 1) := by decide +kernel
theorem dX11_readPlace_10 : decode cX11_readPlace 10 = .ok (.iadd, 1) := by decide +kernel
theorem dX11_readPlace_11 : decode cX11_readPlace 11 = .ok (.iaload, 1) := by decide +kernel
theorem dX11_readPlace_12 : decode cX11_readPlace 12 = .ok (.istore_n 2, 1) := by decide +kernel
theorem dX11_readPlace_13 : decode cX11_readPlace 13 = .ok (.aload_n 0, 1) := by decide +kernel
theorem dX11_readPlace_14 : decode cX11_readPlace 14 = .ok (.getfield 419, 3) := by decide +kernel
theorem dX11_readPlace_17 : decode cX11_readPlace 17 = .ok (.iconst 2, 1) := by decide +kernel
theorem dX11_readPlace_18 : decode cX11_readPlace 18 = .ok (.if_icmp .ne 29, 3) := by decide +kernel
theorem dX11_readPlace_21 : decode cX11_readPlace 21 = .ok (.aload_n 0, 1) := by decide +kernel
theorem dX11_readPlace_22 : decode cX11_readPlace 22 = .ok (.getfield 409, 3) := by decide +kernel
theorem dX11_readPlace_25 : decode cX11_readPlace 25 = .ok (.lconst 0, 1) := by decide +kernel
theorem dX11_readPlace_26 : decode cX11_readPlace 26 = .ok (.aload_n 0, 1) := by decide +kernel
theorem dX11_readPlace_27 : decode cX11_readPlace 27 = .ok (.getfield 17, 3) := by decide +kernel
theorem dX11_readPlace_30 : decode cX11_readPlace 30 = .ok (.sipush 290, 3) := by decide +kernel
theorem dX11_readPlace_33 : decode cX11_readPlace 33 = .ok (.iaload, 1) := by decide +kernel
theorem dX11_readPlace_34 : decode cX11_readPlace 34 = .ok (.iconst 1, 1) := by decide +kernel
theorem dX11_readPlace_35 : decode cX11_readPlace 35 = .ok (.isub, 1) := by decide +kernel
theorem dX11_readPlace_36 : decode cX11_readPlace 36 = .ok (.i2l, 1) := by decide +kernel
theorem dX11_readPlace_37 : decode cX11_readPlace 37 = .ok (.invokestatic 95, 3) := by decide +kernel
theorem dX11_readPlace_40 : decode cX11_readPlace 40 = .ok (.ifCond .eq 7, 3) := by decide +kernel
theorem dX11_readPlace_43 : decode cX11_readPlace 43 = .ok (.iconst 1, 1) := by decide +kernel
theorem dX11_readPlace_44 : decode cX11_readPlace 44 = .ok (.goto 4, 3) := by decide +kernel
theorem dX11_readPlace_47 : decode cX11_readPlace 47 = .ok (.iconst 0, 1) := by decide +kernel
theorem dX11_readPlace_48 : decode cX11_readPlace 48 = .ok (.istore_n 3, 1) := by decide +kernel
theorem dX11_readPlace_49 : decode cX11_readPlace 49 = .ok (.iload_n 3, 1) := by decide +kernel
theorem dX11_readPlace_50 : decode cX11_readPlace 50 = .ok (.ifCond .eq 47, 3) := by decide +kernel
theorem dX11_readPlace_53 : decode cX11_readPlace 53 = .ok (.iload_n 2, 1) := by decide +kernel
theorem dX11_readPlace_54 : decode cX11_readPlace 54 = .ok (.ifCond .le 43, 3) := by decide +kernel
theorem dX11_readPlace_57 : decode cX11_readPlace 57 = .ok (.aload_n 0, 1) := by decide +kernel
theorem dX11_readPlace_58 : decode cX11_readPlace 58 = .ok (.aload_n 0, 1) := by decide +kernel
theorem dX11_readPlace_59 : decode cX11_readPlace 59 = .ok (.getfield 409, 3) := by decide +kernel
theorem dX11_readPlace_62 : decode cX11_readPlace 62 = .ok (.l2i, 1) := by decide +kernel
theorem dX11_readPlace_63 : decode cX11_readPlace 63 = .ok (.iconst 0, 1) := by decide +kernel
theorem dX11_readPlace_64 : decode cX11_readPlace 64 = .ok (.invokevirtual 447, 3) := by decide +kernel
theorem dX11_readPlace_67 : decode cX11_readPlace 67 = .ok (.aload_n 0, 1) := by decide +kernel
theorem dX11_readPlace_68 : decode cX11_readPlace 68 = .ok (.aload_n 0, 1) := by decide +kernel
theorem dX11_readPlace_69 : decode cX11_readPlace 69 = .ok (.getfield 17, 3) := by decide +kernel
theorem dX11_readPlace_72 : decode cX11_readPlace 72 = .ok (.sipush 290, 3) := by decide +kernel
theorem dX11_readPlace_75 : decode cX11_readPlace 75 = .ok (.iload_n 1, 1) := by decide +kernel
theorem dX11_readPlace_76 : decode cX11_readPlace 76 = .ok (.iadd, 1) := by decide +kernel
theorem dX11_readPlace_77 : decode cX11_readPlace 77 = .ok (.iconst 4, 1) := by decide +kernel
theorem dX11_readPlace_78 : decode cX11_readPlace 78 = .ok (.iadd, 1) := by decide +kernel
theorem dX11_readPlace_79 : decode cX11_readPlace 79 = .ok (.iload_n 2, 1) := by decide +kernel
theorem dX11_readPlace_80 : decode cX11_readPlace 80 = .ok (.iadd, 1) := by decide +kernel
theorem dX11_readPlace_81 : decode cX11_readPlace 81 = .ok (.iconst 1, 1) := by decide +kernel
theorem dX11_readPlace_82 : decode cX11_readPlace 82 = .ok (.isub, 1) := by decide +kernel
theorem dX11_readPlace_83 : decode cX11_readPlace 83 = .ok (.iaload, 1) := by decide +kernel
theorem dX11_readPlace_84 : decode cX11_readPlace 84 = .ok (.iconst 1, 1) := by decide +kernel
theorem dX11_readPlace_85 : decode cX11_readPlace 85 = .ok (.invokevirtual 447, 3) := by decide +kernel
theorem dX11_readPlace_88 : decode cX11_readPlace 88 = .ok (.if_icmp .eq 9, 3) := by decide +kernel
theorem dX11_readPlace_91 : decode cX11_readPlace 91 = .ok (.aload_n 0, 1) := by decide +kernel
theorem dX11_readPlace_92 : decode cX11_readPlace 92 = .ok (.iconst 3, 1) := by decide +kernel
theorem dX11_readPlace_93 : decode cX11_readPlace 93 = .ok (.invokevirtual 431, 3) := by decide +kernel
theorem dX11_readPlace_96 : decode cX11_readPlace 96 = .ok (.ireturn, 1) := by decide +kernel
theorem dX11_readPlace_97 : decode cX11_readPlace 97 = .ok (.iload_n 3, 1) := by decide +kernel
theorem dX11_readPlace_98 : decode cX11_readPlace 98 = .ok (.ifCond .eq 15, 3) := by decide +kernel
theorem dX11_readPlace_101 : decode cX11_readPlace 101 = .ok (.iload_n 2, 1) := by decide +kernel
theorem dX11_readPlace_102 : decode cX11_readPlace 102 = .ok (.bipush 10, 2) := by decide +kernel
theorem dX11_readPlace_104 : decode cX11_readPlace 104 = .ok (.if_icmp .ne 9, 3) := by decide +kernel
theorem dX11_readPlace_107 : decode cX11_readPlace 107 = .ok (.aload_n 0, 1) := by decide +kernel
theorem dX11_readPlace_108 : decode cX11_readPlace 108 = .ok (.iconst 4, 1) := by decide +kernel
theorem dX11_readPlace_109 : decode cX11_readPlace 109 = .ok (.invokevirtual 431, 3) := by decide +kernel
theorem dX11_readPlace_112 : decode cX11_readPlace 112 = .ok (.ireturn, 1) := by decide +kernel
theorem dX11_readPlace_113 : decode cX11_readPlace 113 = .ok (.aload_n 0, 1) := by decide +kernel
theorem dX11_readPlace_114 : decode cX11_readPlace 114 = .ok (.iload_n 1, 1) := by decide +kernel
theorem dX11_readPlace_115 : decode cX11_readPlace 115 = .ok (.iload_n 2, 1) := by decide +kernel
theorem dX11_readPlace_116 : decode cX11_readPlace 116 = .ok (.bipush 10, 2) := by decide +kernel
theorem dX11_readPlace_118 : decode cX11_readPlace 118 = .ok (.if_icmp .ge 9, 3) := by decide +kernel
theorem dX11_readPlace_121 : decode cX11_readPlace 121 = .ok (.iconst 4, 1) := by decide +kernel
theorem dX11_readPlace_122 : decode cX11_readPlace 122 = .ok (.iload_n 2, 1) := by decide +kernel
theorem dX11_readPlace_123 : decode cX11_readPlace 123 = .ok (.iadd, 1) := by decide +kernel
theorem dX11_readPlace_124 : decode cX11_readPlace 124 = .ok (.goto 4, 3) := by decide +kernel
theorem dX11_readPlace_127 : decode cX11_readPlace 127 = .ok (.iconst 3, 1) := by decide +kernel
theorem dX11_readPlace_128 : decode cX11_readPlace 128 = .ok (.iadd, 1) := by decide +kernel
theorem dX11_readPlace_129 : decode cX11_readPlace 129 = .ok (.iconst 0, 1) := by decide +kernel
theorem dX11_readPlace_130 : decode cX11_readPlace 130 = .ok (.aload_n 0, 1) := by decide +kernel
theorem dX11_readPlace_131 : decode cX11_readPlace 131 = .ok (.getfield 17, 3) := by decide +kernel
theorem dX11_readPlace_134 : decode cX11_readPlace 134 = .ok (.sipush 290, 3) := by decide +kernel
theorem dX11_readPlace_137 : decode cX11_readPlace 137 = .ok (.iaload, 1) := by decide +kernel
theorem dX11_readPlace_138 : decode cX11_readPlace 138 = .ok (.iconst 1, 1) := by decide +kernel
theorem dX11_readPlace_139 : decode cX11_readPlace 139 = .ok (.isub, 1) := by decide +kernel
theorem dX11_readPlace_140 : decode cX11_readPlace 140 = .ok (.invokevirtual 440, 3) := by decide +kernel
theorem dX11_readPlace_143 : decode cX11_readPlace 143 = .ok (.ifCond .ne 5, 3) := by decide +kernel
theorem dX11_readPlace_146 : decode cX11_readPlace 146 = .ok (.iconst 0, 1) := by decide +kernel
theorem dX11_readPlace_147 : decode cX11_readPlace 147 = .ok (.ireturn, 1) := by decide +kernel
theorem dX11_readPlace_148 : decode cX11_readPlace 148 = .ok (.aload_n 0, 1) := by decide +kernel
theorem dX11_readPlace_149 : decode cX11_readPlace 149 = .ok (.getfield 17, 3) := by decide +kernel
theorem dX11_readPlace_152 : decode cX11_readPlace 152 = .ok (.sipush 290, 3) := by decide +kernel
theorem dX11_readPlace_155 : decode cX11_readPlace 155 = .ok (.iload_n 1, 1) := by decide +kernel
theorem dX11_readPlace_156 : decode cX11_readPlace 156 = .ok (.iadd, 1) := by decide +kernel
theorem dX11_readPlace_157 : decode cX11_readPlace 157 = .ok (.iconst 3, 1) := by decide +kernel
theorem dX11_readPlace_158 : decode cX11_readPlace 158 = .ok (.iadd, 1) := by decide +kernel
theorem dX11_readPlace_159 : decode cX11_readPlace 159 = .ok (.dup2, 1) := by decide +kernel
theorem dX11_readPlace_160 : decode cX11_readPlace 160 = .ok (.iaload, 1) := by decide +kernel
theorem dX11_readPlace_161 : decode cX11_readPlace 161 = .ok (.iconst 1, 1) := by decide +kernel
theorem dX11_readPlace_162 : decode cX11_readPlace 162 = .ok (.iadd, 1) := by decide +kernel
theorem dX11_readPlace_163 : decode cX11_readPlace 163 = .ok (.iastore, 1) := by decide +kernel
theorem dX11_readPlace_164 : decode cX11_readPlace 164 = .ok (.iconst 1, 1) := by decide +kernel
theorem dX11_readPlace_165 : decode cX11_readPlace 165 = .ok (.ireturn, 1) := by decide +kernel
theorem cm_X11_readPlace : x_CM yX11_readPlace cX11_readPlace 4 (Option.some FieldType.boolean) 1 := ⟨w_9_170, w_1_12, by decide +kernel, by decide +kernel⟩
theorem ci_X11_readPlace : x_CI yX11_readPlace 13 := ⟨w_9_169, wp_126, (RX11, TX11, 41), rfl, rfl⟩
set_option maxRecDepth 100000 in
set_option maxHeartbeats 4000000 in
theorem bX11_readPlace_128 {V : x_J} {ad : Nat → Nat} {Q : Int32 → x_S → x_L → Prop} (X : x_Is V cX11_readPlace 4 RX11 (Option.some FieldType.boolean) ad dsM 5 (x_PI Q)) {v1 : Int32} {s1 : Int32} {s2 : Int32} {σ : x_S} {τ : x_L} (h : wX11_readPlace_128 Q v1 s1 s2 σ τ) : V σ τ 128 [(0, .ref (ad 0)), (1, .int v1)] [.int s2, .int s1, .ref (ad 0)] := by
  refine x_iadd X dX11_readPlace_128 ?_
  refine x_iconst X dX11_readPlace_129 ki_0 ?_
  refine x_aload_n X dX11_readPlace_130 rfl 0 rfl ?_
  refine x_getR X (j := 3) dX11_readPlace_131 fl_11_17 dsM_0 rfl ?_
  refine x_sipush X dX11_readPlace_134 ks_290 ?_
  refine x_iald X dX11_readPlace_137 dsM_3 (x_inl (by decide)) ?_
  refine x_iconst X dX11_readPlace_138 ki_1 ?_
  refine x_isub X dX11_readPlace_139 ?_
  refine x_callVi X [.int (s1 + s2), .int 0, .int ((σ 3 (290 : Int32).toNatClampNeg) - 1)] [] dX11_readPlace_140 (kX11_readInto h) cm_X11_readInto ci_X11_readInto w_9_151 dsM_0 ⟨by decide, by decide⟩ rfl (Nat.le_of_ble_eq_true rfl) (fun r140 σ140 τ140 h => ?_)
  refine x_if_ne X 148 dX11_readPlace_143 (by decide) (fun hc => ?_) (fun hc => ?_)
  · have h := h.1 hc
    refine x_aload_n X dX11_readPlace_148 rfl 0 rfl ?_
    refine x_getR X (j := 3) dX11_readPlace_149 fl_11_17 dsM_0 rfl ?_
    refine x_sipush X dX11_readPlace_152 ks_290 ?_
    refine x_iload_n X dX11_readPlace_155 rfl 1 rfl ?_
    refine x_iadd X dX11_readPlace_156 ?_
    refine x_iconst X dX11_readPlace_157 ki_3 ?_
    refine x_iadd X dX11_readPlace_158 ?_
    refine x_dup2 X dX11_readPlace_159 rfl rfl ?_
    have g160 := h.1
    have h := h.2
    refine x_iald X dX11_readPlace_160 dsM_3 g160 ?_
    refine x_iconst X dX11_readPlace_161 ki_1 ?_
    refine x_iadd X dX11_readPlace_162 ?_
    refine x_iast X dX11_readPlace_163 dsM_3 g160 ?_
    refine x_iconst X dX11_readPlace_164 ki_1 ?_
    exact x_zret X dX11_readPlace_165 ⟨Or.inr rfl, _, rfl, h⟩
  · have h := h.2 hc
    refine x_iconst X dX11_readPlace_146 ki_0 ?_
    exact x_zret X dX11_readPlace_147 ⟨Or.inl rfl, _, rfl, h⟩
set_option maxRecDepth 100000 in
set_option maxHeartbeats 4000000 in
theorem bX11_readPlace_113 {V : x_J} {ad : Nat → Nat} {Q : Int32 → x_S → x_L → Prop} (X : x_Is V cX11_readPlace 4 RX11 (Option.some FieldType.boolean) ad dsM 5 (x_PI Q)) {v1 : Int32} {v2 : Int32} {σ : x_S} {τ : x_L} (h : wX11_readPlace_113 Q v1 v2 σ τ) : V σ τ 113 [(0, .ref (ad 0)), (1, .int v1), (2, .int v2)] [] := by
  refine x_aload_n X dX11_readPlace_113 rfl 0 rfl ?_
  refine x_iload_n X dX11_readPlace_114 rfl 1 rfl ?_
  refine x_iload_n X dX11_readPlace_115 rfl 2 rfl ?_
  refine x_bipush X dX11_readPlace_116 kb_10 ?_
  refine x_icmp_ge X 127 dX11_readPlace_118 (by decide) (fun hc => ?_) (fun hc => ?_)
  · have h := h.1 hc
    refine x_iconst X dX11_readPlace_127 ki_3 ?_
    refine x_sub X [0, 1] (lv' := [(0, .ref (ad 0)), (1, .int v1)]) rfl ?_
    exact bX11_readPlace_128 X h
  · have h := h.2 hc
    refine x_iconst X dX11_readPlace_121 ki_4 ?_
    refine x_iload_n X dX11_readPlace_122 rfl 2 rfl ?_
    refine x_iadd X dX11_readPlace_123 ?_
    refine x_goto X (tgt := 128) dX11_readPlace_124 (by decide) ?_
    refine x_sub X [0, 1] (lv' := [(0, .ref (ad 0)), (1, .int v1)]) rfl ?_
    exact bX11_readPlace_128 X h
set_option maxRecDepth 100000 in
set_option maxHeartbeats 4000000 in
theorem bX11_readPlace_97 {V : x_J} {ad : Nat → Nat} {Q : Int32 → x_S → x_L → Prop} (X : x_Is V cX11_readPlace 4 RX11 (Option.some FieldType.boolean) ad dsM 5 (x_PI Q)) {v1 : Int32} {v2 : Int32} {v3 : Int32} {σ : x_S} {τ : x_L} (h : wX11_readPlace_97 Q v1 v2 v3 σ τ) : V σ τ 97 [(0, .ref (ad 0)), (1, .int v1), (2, .int v2), (3, .int v3)] [] := by
  refine x_iload_n X dX11_readPlace_97 rfl 3 rfl ?_
  refine x_if_eq X 113 dX11_readPlace_98 (by decide) (fun hc => ?_) (fun hc => ?_)
  · have h := h.1 hc
    refine x_sub X [0, 1, 2] (lv' := [(0, .ref (ad 0)), (1, .int v1), (2, .int v2)]) rfl ?_
    exact bX11_readPlace_113 X h
  · have h := h.2 hc
    refine x_iload_n X dX11_readPlace_101 rfl 2 rfl ?_
    refine x_bipush X dX11_readPlace_102 kb_10 ?_
    refine x_icmp_ne X 113 dX11_readPlace_104 (by decide) (fun hc => ?_) (fun hc => ?_)
    · have h := h.1 hc
      refine x_sub X [0, 1, 2] (lv' := [(0, .ref (ad 0)), (1, .int v1), (2, .int v2)]) rfl ?_
      exact bX11_readPlace_113 X h
    · have h := h.2 hc
      refine x_aload_n X dX11_readPlace_107 rfl 0 rfl ?_
      refine x_iconst X dX11_readPlace_108 ki_4 ?_
      refine x_callVi X [.int 4] [] dX11_readPlace_109 (kX11_fail h) cm_X11_fail ci_X11_fail w_9_147 dsM_0 ⟨by decide, by decide⟩ rfl (Nat.le_of_ble_eq_true rfl) (fun r109 σ109 τ109 h => ?_)
      exact x_zret X dX11_readPlace_112 ⟨h.1, _, rfl, h.2⟩
set_option maxRecDepth 100000 in
set_option maxHeartbeats 4000000 in
theorem bX11_readPlace_48 {V : x_J} {ad : Nat → Nat} {Q : Int32 → x_S → x_L → Prop} (X : x_Is V cX11_readPlace 4 RX11 (Option.some FieldType.boolean) ad dsM 5 (x_PI Q)) {v1 : Int32} {v2 : Int32} {s0 : Int32} {σ : x_S} {τ : x_L} (h : wX11_readPlace_48 Q v1 v2 s0 σ τ) : V σ τ 48 [(0, .ref (ad 0)), (1, .int v1), (2, .int v2)] [.int s0] := by
  refine x_istore_n X (lv' := [(3, .int s0), (0, .ref (ad 0)), (1, .int v1), (2, .int v2)]) dX11_readPlace_48 rfl (by decide) rfl ?_
  refine x_iload_n X dX11_readPlace_49 rfl 0 rfl ?_
  refine x_if_eq X 97 dX11_readPlace_50 (by decide) (fun hc => ?_) (fun hc => ?_)
  · have h := h.1 hc
    refine x_sub X [1, 2, 3, 0] (lv' := [(0, .ref (ad 0)), (1, .int v1), (2, .int v2), (3, .int s0)]) rfl ?_
    exact bX11_readPlace_97 X h
  · have h := h.2 hc
    refine x_iload_n X dX11_readPlace_53 rfl 3 rfl ?_
    refine x_if_le X 97 dX11_readPlace_54 (by decide) (fun hc => ?_) (fun hc => ?_)
    · have h := h.1 hc
      refine x_sub X [1, 2, 3, 0] (lv' := [(0, .ref (ad 0)), (1, .int v1), (2, .int v2), (3, .int s0)]) rfl ?_
      exact bX11_readPlace_97 X h
    · have h := h.2 hc
      refine x_aload_n X dX11_readPlace_57 rfl 1 rfl ?_
      refine x_aload_n X dX11_readPlace_58 rfl 1 rfl ?_
      refine x_getL X dX11_readPlace_59 fl_11_409 dsM_0 rfl ?_
      refine x_l2i X dX11_readPlace_62 ?_
      refine x_iconst X dX11_readPlace_63 ki_0 ?_
      refine x_callVi X [.int (((τ 0 38) : Int64).toInt32), .int 0] [] dX11_readPlace_64 (kX11_toldRoad h) cm_X11_toldRoad ci_X11_toldRoad w_9_171 dsM_0 ⟨by decide, by decide⟩ rfl (Nat.le_of_ble_eq_true rfl) (fun r64 σ64 τ64 h => ?_)
      refine x_aload_n X dX11_readPlace_67 rfl 1 rfl ?_
      refine x_aload_n X dX11_readPlace_68 rfl 1 rfl ?_
      refine x_getR X (j := 3) dX11_readPlace_69 fl_11_17 dsM_0 rfl ?_
      refine x_sipush X dX11_readPlace_72 ks_290 ?_
      refine x_iload_n X dX11_readPlace_75 rfl 2 rfl ?_
      refine x_iadd X dX11_readPlace_76 ?_
      refine x_iconst X dX11_readPlace_77 ki_4 ?_
      refine x_iadd X dX11_readPlace_78 ?_
      refine x_iload_n X dX11_readPlace_79 rfl 3 rfl ?_
      refine x_iadd X dX11_readPlace_80 ?_
      refine x_iconst X dX11_readPlace_81 ki_1 ?_
      refine x_isub X dX11_readPlace_82 ?_
      have g83 := h.1
      have h := h.2
      refine x_iald X dX11_readPlace_83 dsM_3 g83 ?_
      refine x_iconst X dX11_readPlace_84 ki_1 ?_
      refine x_callVi X [.int (σ64 3 ((((290 + v1) + 4) + v2) - 1).toNatClampNeg), .int 1] [.int r64] dX11_readPlace_85 (kX11_toldRoad h) cm_X11_toldRoad ci_X11_toldRoad w_9_171 dsM_0 ⟨by decide, by decide⟩ rfl (Nat.le_of_ble_eq_true rfl) (fun r85 σ85 τ85 h => ?_)
      refine x_icmp_eq X 97 dX11_readPlace_88 (by decide) (fun hc => ?_) (fun hc => ?_)
      · have h := h.1 hc
        refine x_sub X [1, 2, 3, 0] (lv' := [(0, .ref (ad 0)), (1, .int v1), (2, .int v2), (3, .int s0)]) rfl ?_
        exact bX11_readPlace_97 X h
      · have h := h.2 hc
        refine x_aload_n X dX11_readPlace_91 rfl 1 rfl ?_
        refine x_iconst X dX11_readPlace_92 ki_3 ?_
        refine x_callVi X [.int 3] [] dX11_readPlace_93 (kX11_fail h) cm_X11_fail ci_X11_fail w_9_147 dsM_0 ⟨by decide, by decide⟩ rfl (Nat.le_of_ble_eq_true rfl) (fun r93 σ93 τ93 h => ?_)
        exact x_zret X dX11_readPlace_96 ⟨h.1, _, rfl, h.2⟩
set_option maxRecDepth 100000 in
set_option maxHeartbeats 4000000 in
theorem bX11_readPlace_47 {V : x_J} {ad : Nat → Nat} {Q : Int32 → x_S → x_L → Prop} (X : x_Is V cX11_readPlace 4 RX11 (Option.some FieldType.boolean) ad dsM 5 (x_PI Q)) {v1 : Int32} {v2 : Int32} {σ : x_S} {τ : x_L} (h : wX11_readPlace_47 Q v1 v2 σ τ) : V σ τ 47 [(0, .ref (ad 0)), (1, .int v1), (2, .int v2)] [] := by
  refine x_iconst X dX11_readPlace_47 ki_0 ?_
  exact bX11_readPlace_48 X h
set_option maxRecDepth 100000 in
set_option maxHeartbeats 4000000 in
theorem kX11_readPlace {ad : Nat → Nat} {a1 : Int32} {σ : x_S} {τ : x_L} {Q : Int32 → x_S → x_L → Prop} (h : wX11_readPlace a1 σ τ Q) : x_Met yX11_readPlace cX11_readPlace 4 (Option.some FieldType.boolean) 5 ad dsM [.ref (ad 0), .int a1] σ τ (x_PI Q) := by
  refine x_met (by decide +kernel) (Nat.le_of_ble_eq_true rfl) (fun V X => ?_)
  have X : x_Is V cX11_readPlace 4 RX11 (Option.some FieldType.boolean) ad dsM 5 (x_PI Q) := X
  show V σ τ 0 [(0, .ref (ad 0)), (1, .int a1)] []
  refine x_aload_n X dX11_readPlace_0 rfl 0 rfl ?_
  refine x_getR X (j := 3) dX11_readPlace_1 fl_11_17 dsM_0 rfl ?_
  refine x_sipush X dX11_readPlace_4 ks_290 ?_
  refine x_iload_n X dX11_readPlace_7 rfl 1 rfl ?_
  refine x_iadd X dX11_readPlace_8 ?_
  refine x_iconst X dX11_readPlace_9 ki_3 ?_
  refine x_iadd X dX11_readPlace_10 ?_
  have g11 := h.1
  have h := h.2
  refine x_iald X dX11_readPlace_11 dsM_3 g11 ?_
  refine x_istore_n X (lv' := [(2, .int (σ 3 ((290 + a1) + 3).toNatClampNeg)), (0, .ref (ad 0)), (1, .int a1)]) dX11_readPlace_12 rfl (by decide) rfl ?_
  refine x_aload_n X dX11_readPlace_13 rfl 1 rfl ?_
  refine x_getI X dX11_readPlace_14 fl_11_419 dsM_0 rfl ?_
  refine x_iconst X dX11_readPlace_17 ki_2 ?_
  refine x_icmp_ne X 47 dX11_readPlace_18 (by decide) (fun hc => ?_) (fun hc => ?_)
  · have h := h.1 hc
    refine x_sub X [1, 2, 0] (lv' := [(0, .ref (ad 0)), (1, .int a1), (2, .int (σ 3 ((290 + a1) + 3).toNatClampNeg))]) rfl ?_
    exact bX11_readPlace_47 X h
  · have h := h.2 hc
    refine x_aload_n X dX11_readPlace_21 rfl 1 rfl ?_
    refine x_getL X dX11_readPlace_22 fl_11_409 dsM_0 rfl ?_
    refine x_lconst X (v := 0) dX11_readPlace_25 (by decide) ?_
    refine x_aload_n X dX11_readPlace_26 rfl 1 rfl ?_
    refine x_getR X (j := 3) dX11_readPlace_27 fl_11_17 dsM_0 rfl ?_
    refine x_sipush X dX11_readPlace_30 ks_290 ?_
    refine x_iald X dX11_readPlace_33 dsM_3 (x_inl (by decide)) ?_
    refine x_iconst X dX11_readPlace_34 ki_1 ?_
    refine x_isub X dX11_readPlace_35 ?_
    refine x_i2l X dX11_readPlace_36 ?_
    refine x_callSi X [.long (τ 0 38), .long 0, .long ((((σ 3 (290 : Int32).toNatClampNeg) - 1) : Int32).toInt64)] [] dX11_readPlace_37 (kX11_inRange h) cm_X11_inRange w_7_91 rfl w_7_90 ⟨by decide, by decide⟩ rfl (Nat.le_of_ble_eq_true rfl) (fun r37 σ37 τ37 h => ?_)
    refine x_if_eq X 47 dX11_readPlace_40 (by decide) (fun hc => ?_) (fun hc => ?_)
    · have h := h.1 hc
      refine x_sub X [1, 2, 0] (lv' := [(0, .ref (ad 0)), (1, .int a1), (2, .int (σ 3 ((290 + a1) + 3).toNatClampNeg))]) rfl ?_
      exact bX11_readPlace_47 X h
    · have h := h.2 hc
      refine x_iconst X dX11_readPlace_43 ki_1 ?_
      refine x_goto X (tgt := 48) dX11_readPlace_44 (by decide) ?_
      refine x_sub X [1, 2, 0] (lv' := [(0, .ref (ad 0)), (1, .int a1), (2, .int (σ 3 ((290 + a1) + 3).toNatClampNeg))]) rfl ?_
      exact bX11_readPlace_48 X h
theorem dX11_readTruck_0 : decode cX11_readTruck 0 = .ok (.aload_n 0, 1) := by decide +kernel
theorem dX11_readTruck_1 : decode cX11_readTruck 1 = .ok (.getfield 17, 3) := by decide +kernel
theorem dX11_readTruck_4 : decode cX11_readTruck 4 = .ok (.sipush 291, 3) := by decide +kernel
theorem dX11_readTruck_7 : decode cX11_readTruck 7 = .ok (.iaload, 1) := by decide +kernel
theorem dX11_readTruck_8 : decode cX11_readTruck 8 = .ok (.bipush 12, 2) := by decide +kernel
theorem dX11_readTruck_10 : decode cX11_readTruck 10 = .ok (.if_icmp .ne 9, 3) := by decide +kernel
theorem dX11_readTruck_13 : decode cX11_readTruck 13 = .ok (.aload_n 0, 1) := by decide +kernel
theorem dX11_readTruck_14 : decode cX11_readTruck 14 = .ok (.iconst 4, 1) := by decide +kernel
theorem dX11_readTruck_15 : decode cX11_readTruck 15 = .ok (.invokevirtual 431, 3) := by decide +kernel
theorem dX11_readTruck_18 : decode cX11_readTruck 18 = .ok (.ireturn, 1) := by decide +kernel
theorem dX11_readTruck_19 : decode cX11_readTruck 19 = .ok (.aload_n 0, 1) := by decide +kernel
theorem dX11_readTruck_20 : decode cX11_readTruck 20 = .ok (.invokevirtual 428, 3) := by decide +kernel
theorem dX11_readTruck_23 : decode cX11_readTruck 23 = .ok (.bipush 122, 2) := by decide +kernel
theorem dX11_readTruck_25 : decode cX11_readTruck 25 = .ok (.bipush 14, 2) := by decide +kernel
theorem dX11_readTruck_27 : decode cX11_readTruck 27 = .ok (.aload_n 0, 1) := by decide +kernel
theorem dX11_readTruck_28 : decode cX11_readTruck 28 = .ok (.getfield 17, 3) := by decide +kernel
theorem dX11_readTruck_31 : decode cX11_readTruck 31 = .ok (.sipush 291, 3) := by decide +kernel
theorem dX11_readTruck_34 : decode cX11_readTruck 34 = .ok (.iaload, 1) := by decide +kernel
theorem dX11_readTruck_35 : decode cX11_readTruck 35 = .ok (.imul, 1) := by decide +kernel
theorem dX11_readTruck_36 : decode cX11_readTruck 36 = .ok (.iadd, 1) := by decide +kernel
theorem dX11_readTruck_37 : decode cX11_readTruck 37 = .ok (.istore_n 1, 1) := by decide +kernel
theorem dX11_readTruck_38 : decode cX11_readTruck 38 = .ok (.aload_n 0, 1) := by decide +kernel
theorem dX11_readTruck_39 : decode cX11_readTruck 39 = .ok (.getfield 17, 3) := by decide +kernel
theorem dX11_readTruck_42 : decode cX11_readTruck 42 = .ok (.sipush 290, 3) := by decide +kernel
theorem dX11_readTruck_45 : decode cX11_readTruck 45 = .ok (.iload_n 1, 1) := by decide +kernel
theorem dX11_readTruck_46 : decode cX11_readTruck 46 = .ok (.iadd, 1) := by decide +kernel
theorem dX11_readTruck_47 : decode cX11_readTruck 47 = .ok (.iconst 3, 1) := by decide +kernel
theorem dX11_readTruck_48 : decode cX11_readTruck 48 = .ok (.iadd, 1) := by decide +kernel
theorem dX11_readTruck_49 : decode cX11_readTruck 49 = .ok (.iconst 0, 1) := by decide +kernel
theorem dX11_readTruck_50 : decode cX11_readTruck 50 = .ok (.iastore, 1) := by decide +kernel
theorem dX11_readTruck_51 : decode cX11_readTruck 51 = .ok (.aload_n 0, 1) := by decide +kernel
theorem dX11_readTruck_52 : decode cX11_readTruck 52 = .ok (.iload_n 1, 1) := by decide +kernel
theorem dX11_readTruck_53 : decode cX11_readTruck 53 = .ok (.iconst 0, 1) := by decide +kernel
theorem dX11_readTruck_54 : decode cX11_readTruck 54 = .ok (.iadd, 1) := by decide +kernel
theorem dX11_readTruck_55 : decode cX11_readTruck 55 = .ok (.iconst 0, 1) := by decide +kernel
theorem dX11_readTruck_56 : decode cX11_readTruck 56 = .ok (.sipush 2000, 3) := by decide +kernel
theorem dX11_readTruck_59 : decode cX11_readTruck 59 = .ok (.invokevirtual 440, 3) := by decide +kernel
theorem dX11_readTruck_62 : decode cX11_readTruck 62 = .ok (.ifCond .eq 30, 3) := by decide +kernel
theorem dX11_readTruck_65 : decode cX11_readTruck 65 = .ok (.aload_n 0, 1) := by decide +kernel
theorem dX11_readTruck_66 : decode cX11_readTruck 66 = .ok (.iload_n 1, 1) := by decide +kernel
theorem dX11_readTruck_67 : decode cX11_readTruck 67 = .ok (.iconst 1, 1) := by decide +kernel
theorem dX11_readTruck_68 : decode cX11_readTruck 68 = .ok (.iadd, 1) := by decide +kernel
theorem dX11_readTruck_69 : decode cX11_readTruck 69 = .ok (.iconst 0, 1) := by decide +kernel
theorem dX11_readTruck_70 : decode cX11_readTruck 70 = .ok (.sipush 10000, 3) := by decide +kernel
theorem dX11_readTruck_73 : decode cX11_readTruck 73 = .ok (.invokevirtual 440, 3) := by decide +kernel
theorem dX11_readTruck_76 : decode cX11_readTruck 76 = .ok (.ifCond .eq 16, 3) := by decide +kernel
theorem dX11_readTruck_79 : decode cX11_readTruck 79 = .ok (.aload_n 0, 1) := by decide +kernel
theorem dX11_readTruck_80 : decode cX11_readTruck 80 = .ok (.iload_n 1, 1) := by decide +kernel
theorem dX11_readTruck_81 : decode cX11_readTruck 81 = .ok (.iconst 2, 1) := by decide +kernel
theorem dX11_readTruck_82 : decode cX11_readTruck 82 = .ok (.iadd, 1) := by decide +kernel
theorem dX11_readTruck_83 : decode cX11_readTruck 83 = .ok (.iconst 5, 1) := by decide +kernel
theorem dX11_readTruck_84 : decode cX11_readTruck 84 = .ok (.bipush 60, 2) := by decide +kernel
theorem dX11_readTruck_86 : decode cX11_readTruck 86 = .ok (.invokevirtual 440, 3) := by decide +kernel
theorem dX11_readTruck_89 : decode cX11_readTruck 89 = .ok (.ifCond .ne 5, 3) := by decide +kernel
theorem dX11_readTruck_92 : decode cX11_readTruck 92 = .ok (.iconst 0, 1) := by decide +kernel
theorem dX11_readTruck_93 : decode cX11_readTruck 93 = .ok (.ireturn, 1) := by decide +kernel
theorem dX11_readTruck_94 : decode cX11_readTruck 94 = .ok (.aload_n 0, 1) := by decide +kernel
theorem dX11_readTruck_95 : decode cX11_readTruck 95 = .ok (.iload_n 1, 1) := by decide +kernel
theorem dX11_readTruck_96 : decode cX11_readTruck 96 = .ok (.invokevirtual 450, 3) := by decide +kernel
theorem dX11_readTruck_99 : decode cX11_readTruck 99 = .ok (.ifCond .ne 5, 3) := by decide +kernel
theorem dX11_readTruck_102 : decode cX11_readTruck 102 = .ok (.iconst 0, 1) := by decide +kernel
theorem dX11_readTruck_103 : decode cX11_readTruck 103 = .ok (.ireturn, 1) := by decide +kernel
theorem dX11_readTruck_104 : decode cX11_readTruck 104 = .ok (.aload_n 0, 1) := by decide +kernel
theorem dX11_readTruck_105 : decode cX11_readTruck 105 = .ok (.getfield 419, 3) := by decide +kernel
theorem dX11_readTruck_108 : decode cX11_readTruck 108 = .ok (.iconst 2, 1) := by decide +kernel
theorem dX11_readTruck_109 : decode cX11_readTruck 109 = .ok (.if_icmp .ne 13, 3) := by decide +kernel
theorem dX11_readTruck_112 : decode cX11_readTruck 112 = .ok (.aload_n 0, 1) := by decide +kernel
theorem dX11_readTruck_113 : decode cX11_readTruck 113 = .ok (.iload_n 1, 1) := by decide +kernel
theorem dX11_readTruck_114 : decode cX11_readTruck 114 = .ok (.invokevirtual 450, 3) := by decide +kernel
theorem dX11_readTruck_117 : decode cX11_readTruck 117 = .ok (.ifCond .ne (-13), 3) := by decide +kernel
theorem dX11_readTruck_120 : decode cX11_readTruck 120 = .ok (.iconst 0, 1) := by decide +kernel
theorem dX11_readTruck_121 : decode cX11_readTruck 121 = .ok (.ireturn, 1) := by decide +kernel
theorem dX11_readTruck_122 : decode cX11_readTruck 122 = .ok (.aload_n 0, 1) := by decide +kernel
theorem dX11_readTruck_123 : decode cX11_readTruck 123 = .ok (.getfield 17, 3) := by decide +kernel
theorem dX11_readTruck_126 : decode cX11_readTruck 126 = .ok (.sipush 291, 3) := by decide +kernel
theorem dX11_readTruck_129 : decode cX11_readTruck 129 = .ok (.dup2, 1) := by decide +kernel
theorem dX11_readTruck_130 : decode cX11_readTruck 130 = .ok (.iaload, 1) := by decide +kernel
theorem dX11_readTruck_131 : decode cX11_readTruck 131 = .ok (.iconst 1, 1) := by decide +kernel
theorem dX11_readTruck_132 : decode cX11_readTruck 132 = .ok (.iadd, 1) := by decide +kernel
theorem dX11_readTruck_133 : decode cX11_readTruck 133 = .ok (.iastore, 1) := by decide +kernel
theorem dX11_readTruck_134 : decode cX11_readTruck 134 = .ok (.aload_n 0, 1) := by decide +kernel
theorem dX11_readTruck_135 : decode cX11_readTruck 135 = .ok (.invokevirtual 444, 3) := by decide +kernel
theorem dX11_readTruck_138 : decode cX11_readTruck 138 = .ok (.ireturn, 1) := by decide +kernel
theorem cm_X11_readTruck : x_CM yX11_readTruck cX11_readTruck 2 (Option.some FieldType.boolean) 0 := ⟨w_9_166, w_1_12, by decide +kernel, by decide +kernel⟩
theorem ci_X11_readTruck : x_CI yX11_readTruck 13 := ⟨w_9_165, wp_125, (RX11, TX11, 41), rfl, rfl⟩
set_option maxRecDepth 100000 in
set_option maxHeartbeats 4000000 in
theorem bX11_readTruck_92 {V : x_J} {ad : Nat → Nat} {Q : Int32 → x_S → x_L → Prop} (X : x_Is V cX11_readTruck 2 RX11 (Option.some FieldType.boolean) ad dsM 6 (x_PI Q)) {σ : x_S} {τ : x_L} (h : wX11_readTruck_92 Q σ τ) : V σ τ 92 [] [] := by
  refine x_iconst X dX11_readTruck_92 ki_0 ?_
  exact x_zret X dX11_readTruck_93 ⟨Or.inl rfl, _, rfl, h⟩
set_option maxRecDepth 100000 in
set_option maxHeartbeats 4000000 in
theorem bX11_readTruck_104 {V : x_J} {ad : Nat → Nat} {Q : Int32 → x_S → x_L → Prop} (X : x_Is V cX11_readTruck 2 RX11 (Option.some FieldType.boolean) ad dsM 6 (x_PI Q)) {K104 : Int32 → x_S → x_L → Prop} (hK104 : ∀ v1 σ τ, K104 v1 σ τ → V σ τ 104 [(0, .ref (ad 0)), (1, .int v1)] []) {v1 : Int32} {σ : x_S} {τ : x_L} (h : wX11_readTruck_104 Q K104 v1 σ τ) : V σ τ 104 [(0, .ref (ad 0)), (1, .int v1)] [] := by
  refine x_aload_n X dX11_readTruck_104 rfl 0 rfl ?_
  refine x_getI X dX11_readTruck_105 fl_11_419 dsM_0 rfl ?_
  refine x_iconst X dX11_readTruck_108 ki_2 ?_
  refine x_icmp_ne X 122 dX11_readTruck_109 (by decide) (fun hc => ?_) (fun hc => ?_)
  · have h := h.1 hc
    refine x_aload_n X dX11_readTruck_122 rfl 0 rfl ?_
    refine x_getR X (j := 3) dX11_readTruck_123 fl_11_17 dsM_0 rfl ?_
    refine x_sipush X dX11_readTruck_126 ks_291 ?_
    refine x_dup2 X dX11_readTruck_129 rfl rfl ?_
    refine x_iald X dX11_readTruck_130 dsM_3 (x_inl (by decide)) ?_
    refine x_iconst X dX11_readTruck_131 ki_1 ?_
    refine x_iadd X dX11_readTruck_132 ?_
    refine x_iast X dX11_readTruck_133 dsM_3 (x_inl (by decide)) ?_
    refine x_aload_n X dX11_readTruck_134 rfl 0 rfl ?_
    refine x_callVi X [] [] dX11_readTruck_135 (kX11_readEnd h) cm_X11_readEnd ci_X11_readEnd w_9_159 dsM_0 ⟨by decide, by decide⟩ rfl (Nat.le_of_ble_eq_true rfl) (fun r135 σ135 τ135 h => ?_)
    exact x_zret X dX11_readTruck_138 ⟨h.1, _, rfl, h.2⟩
  · have h := h.2 hc
    refine x_aload_n X dX11_readTruck_112 rfl 0 rfl ?_
    refine x_iload_n X dX11_readTruck_113 rfl 1 rfl ?_
    refine x_callVi X [.int v1] [] dX11_readTruck_114 (kX11_readPlace h) cm_X11_readPlace ci_X11_readPlace w_9_167 dsM_0 ⟨by decide, by decide⟩ rfl (Nat.le_of_ble_eq_true rfl) (fun r114 σ114 τ114 h => ?_)
    refine x_if_ne X 104 dX11_readTruck_117 (by decide) (fun hc => ?_) (fun hc => ?_)
    · have h := h.1 hc
      exact hK104 _ _ _ h
    · have h := h.2 hc
      refine x_iconst X dX11_readTruck_120 ki_0 ?_
      exact x_zret X dX11_readTruck_121 ⟨Or.inl rfl, _, rfl, h⟩
set_option maxRecDepth 100000 in
set_option maxHeartbeats 4000000 in
theorem kX11_readTruck {ad : Nat → Nat} {σ : x_S} {τ : x_L} {Q : Int32 → x_S → x_L → Prop} (h : wX11_readTruck σ τ Q) : x_Met yX11_readTruck cX11_readTruck 2 (Option.some FieldType.boolean) 6 ad dsM [.ref (ad 0)] σ τ (x_PI Q) := by
  refine x_met (by decide +kernel) (Nat.le_of_ble_eq_true rfl) (fun V X => ?_)
  have X : x_Is V cX11_readTruck 2 RX11 (Option.some FieldType.boolean) ad dsM 6 (x_PI Q) := X
  show V σ τ 0 [(0, .ref (ad 0))] []
  refine x_aload_n X dX11_readTruck_0 rfl 0 rfl ?_
  refine x_getR X (j := 3) dX11_readTruck_1 fl_11_17 dsM_0 rfl ?_
  refine x_sipush X dX11_readTruck_4 ks_291 ?_
  refine x_iald X dX11_readTruck_7 dsM_3 (x_inl (by decide)) ?_
  refine x_bipush X dX11_readTruck_8 kb_12 ?_
  refine x_icmp_ne X 19 dX11_readTruck_10 (by decide) (fun hc => ?_) (fun hc => ?_)
  · have h := h.1 hc
    refine x_aload_n X dX11_readTruck_19 rfl 0 rfl ?_
    refine x_callVv X [] [] dX11_readTruck_20 (kX11_advance h) cm_X11_advance ci_X11_advance w_9_111 dsM_0 ⟨by decide, by decide⟩ rfl (Nat.le_of_ble_eq_true rfl) (fun σ20 τ20 h => ?_)
    refine x_bipush X dX11_readTruck_23 kb_122 ?_
    refine x_bipush X dX11_readTruck_25 kb_14 ?_
    refine x_aload_n X dX11_readTruck_27 rfl 0 rfl ?_
    refine x_getR X (j := 3) dX11_readTruck_28 fl_11_17 dsM_0 rfl ?_
    refine x_sipush X dX11_readTruck_31 ks_291 ?_
    refine x_iald X dX11_readTruck_34 dsM_3 (x_inl (by decide)) ?_
    refine x_imul X dX11_readTruck_35 ?_
    refine x_iadd X dX11_readTruck_36 ?_
    refine x_istore_n X (lv' := [(1, .int (122 + (14 * (σ20 3 (291 : Int32).toNatClampNeg)))), (0, .ref (ad 0))]) dX11_readTruck_37 rfl (by decide) rfl ?_
    refine x_aload_n X dX11_readTruck_38 rfl 1 rfl ?_
    refine x_getR X (j := 3) dX11_readTruck_39 fl_11_17 dsM_0 rfl ?_
    refine x_sipush X dX11_readTruck_42 ks_290 ?_
    refine x_iload_n X dX11_readTruck_45 rfl 0 rfl ?_
    refine x_iadd X dX11_readTruck_46 ?_
    refine x_iconst X dX11_readTruck_47 ki_3 ?_
    refine x_iadd X dX11_readTruck_48 ?_
    refine x_iconst X dX11_readTruck_49 ki_0 ?_
    have g50 := h.1
    have h := h.2
    refine x_iast X dX11_readTruck_50 dsM_3 g50 ?_
    refine x_aload_n X dX11_readTruck_51 rfl 1 rfl ?_
    refine x_iload_n X dX11_readTruck_52 rfl 0 rfl ?_
    refine x_iconst X dX11_readTruck_53 ki_0 ?_
    refine x_iadd X dX11_readTruck_54 ?_
    refine x_iconst X dX11_readTruck_55 ki_0 ?_
    refine x_sipush X dX11_readTruck_56 ks_2000 ?_
    refine x_callVi X [.int ((122 + (14 * (σ20 3 (291 : Int32).toNatClampNeg))) + 0), .int 0, .int 2000] [] dX11_readTruck_59 (kX11_readInto h) cm_X11_readInto ci_X11_readInto w_9_151 dsM_0 ⟨by decide, by decide⟩ rfl (Nat.le_of_ble_eq_true rfl) (fun r59 σ59 τ59 h => ?_)
    refine x_if_eq X 92 dX11_readTruck_62 (by decide) (fun hc => ?_) (fun hc => ?_)
    · have h := h.1 hc
      refine x_sub X [] (lv' := []) rfl ?_
      exact bX11_readTruck_92 X h
    · have h := h.2 hc
      refine x_aload_n X dX11_readTruck_65 rfl 1 rfl ?_
      refine x_iload_n X dX11_readTruck_66 rfl 0 rfl ?_
      refine x_iconst X dX11_readTruck_67 ki_1 ?_
      refine x_iadd X dX11_readTruck_68 ?_
      refine x_iconst X dX11_readTruck_69 ki_0 ?_
      refine x_sipush X dX11_readTruck_70 ks_10000 ?_
      refine x_callVi X [.int ((122 + (14 * (σ20 3 (291 : Int32).toNatClampNeg))) + 1), .int 0, .int 10000] [] dX11_readTruck_73 (kX11_readInto h) cm_X11_readInto ci_X11_readInto w_9_151 dsM_0 ⟨by decide, by decide⟩ rfl (Nat.le_of_ble_eq_true rfl) (fun r73 σ73 τ73 h => ?_)
      refine x_if_eq X 92 dX11_readTruck_76 (by decide) (fun hc => ?_) (fun hc => ?_)
      · have h := h.1 hc
        refine x_sub X [] (lv' := []) rfl ?_
        exact bX11_readTruck_92 X h
      · have h := h.2 hc
        refine x_aload_n X dX11_readTruck_79 rfl 1 rfl ?_
        refine x_iload_n X dX11_readTruck_80 rfl 0 rfl ?_
        refine x_iconst X dX11_readTruck_81 ki_2 ?_
        refine x_iadd X dX11_readTruck_82 ?_
        refine x_iconst X dX11_readTruck_83 ki_5 ?_
        refine x_bipush X dX11_readTruck_84 kb_60 ?_
        refine x_callVi X [.int ((122 + (14 * (σ20 3 (291 : Int32).toNatClampNeg))) + 2), .int 5, .int 60] [] dX11_readTruck_86 (kX11_readInto h) cm_X11_readInto ci_X11_readInto w_9_151 dsM_0 ⟨by decide, by decide⟩ rfl (Nat.le_of_ble_eq_true rfl) (fun r86 σ86 τ86 h => ?_)
        refine x_if_ne X 94 dX11_readTruck_89 (by decide) (fun hc => ?_) (fun hc => ?_)
        · have h := h.1 hc
          refine x_aload_n X dX11_readTruck_94 rfl 1 rfl ?_
          refine x_iload_n X dX11_readTruck_95 rfl 0 rfl ?_
          refine x_callVi X [.int (122 + (14 * (σ20 3 (291 : Int32).toNatClampNeg)))] [] dX11_readTruck_96 (kX11_readPlace h) cm_X11_readPlace ci_X11_readPlace w_9_167 dsM_0 ⟨by decide, by decide⟩ rfl (Nat.le_of_ble_eq_true rfl) (fun r96 σ96 τ96 h => ?_)
          refine x_if_ne X 104 dX11_readTruck_99 (by decide) (fun hc => ?_) (fun hc => ?_)
          · have h := h.1 hc
            refine x_sub X [1, 0] (lv' := [(0, .ref (ad 0)), (1, .int (122 + (14 * (σ20 3 (291 : Int32).toNatClampNeg))))]) rfl ?_
            exact x_l1_G (fun v1 σ τ => V σ τ 104 [(0, .ref (ad 0)), (1, .int v1)] []) (fun K104 hK104 v1 σ τ h => bX11_readTruck_104 X hK104 h) h
          · have h := h.2 hc
            refine x_iconst X dX11_readTruck_102 ki_0 ?_
            exact x_zret X dX11_readTruck_103 ⟨Or.inl rfl, _, rfl, h⟩
        · have h := h.2 hc
          refine x_sub X [] (lv' := []) rfl ?_
          exact bX11_readTruck_92 X h
  · have h := h.2 hc
    refine x_aload_n X dX11_readTruck_13 rfl 0 rfl ?_
    refine x_iconst X dX11_readTruck_14 ki_4 ?_
    refine x_callVi X [.int 4] [] dX11_readTruck_15 (kX11_fail h) cm_X11_fail ci_X11_fail w_9_147 dsM_0 ⟨by decide, by decide⟩ rfl (Nat.le_of_ble_eq_true rfl) (fun r15 σ15 τ15 h => ?_)
    exact x_zret X dX11_readTruck_18 ⟨h.1, _, rfl, h.2⟩
theorem dX11_readStatement_0 : decode cX11_readStatement 0 = .ok (.aload_n 0, 1) := by decide +kernel
theorem dX11_readStatement_1 : decode cX11_readStatement 1 = .ok (.bipush 114, 2) := by decide +kernel
theorem dX11_readStatement_3 : decode cX11_readStatement 3 = .ok (.bipush 111, 2) := by decide +kernel
theorem dX11_readStatement_5 : decode cX11_readStatement 5 = .ok (.bipush 97, 2) := by decide +kernel
theorem dX11_readStatement_7 : decode cX11_readStatement 7 = .ok (.bipush 100, 2) := by decide +kernel
theorem dX11_readStatement_9 : decode cX11_readStatement 9 = .ok (.iconst 0, 1) := by decide +kernel
theorem dX11_readStatement_10 : decode cX11_readStatement 10 = .ok (.invokestatic 453, 3) := by decide +kernel
theorem dX11_readStatement_13 : decode cX11_readStatement 13 = .ok (.invokevirtual 457, 3) := by decide +kernel
theorem dX11_readStatement_16 : decode cX11_readStatement 16 = .ok (.ifCond .eq 8, 3) := by decide +kernel
theorem dX11_readStatement_19 : decode cX11_readStatement 19 = .ok (.aload_n 0, 1) := by decide +kernel
theorem dX11_readStatement_20 : decode cX11_readStatement 20 = .ok (.invokevirtual 461, 3) := by decide +kernel
theorem dX11_readStatement_23 : decode cX11_readStatement 23 = .ok (.ireturn, 1) := by decide +kernel
theorem dX11_readStatement_24 : decode cX11_readStatement 24 = .ok (.aload_n 0, 1) := by decide +kernel
theorem dX11_readStatement_25 : decode cX11_readStatement 25 = .ok (.bipush 116, 2) := by decide +kernel
theorem dX11_readStatement_27 : decode cX11_readStatement 27 = .ok (.bipush 114, 2) := by decide +kernel
theorem dX11_readStatement_29 : decode cX11_readStatement 29 = .ok (.bipush 117, 2) := by decide +kernel
theorem dX11_readStatement_31 : decode cX11_readStatement 31 = .ok (.bipush 99, 2) := by decide +kernel
theorem dX11_readStatement_33 : decode cX11_readStatement 33 = .ok (.bipush 107, 2) := by decide +kernel
theorem dX11_readStatement_35 : decode cX11_readStatement 35 = .ok (.invokestatic 453, 3) := by decide +kernel
theorem dX11_readStatement_38 : decode cX11_readStatement 38 = .ok (.invokevirtual 457, 3) := by decide +kernel
theorem dX11_readStatement_41 : decode cX11_readStatement 41 = .ok (.ifCond .eq 10, 3) := by decide +kernel
theorem dX11_readStatement_44 : decode cX11_readStatement 44 = .ok (.aload_n 0, 1) := by decide +kernel
theorem dX11_readStatement_45 : decode cX11_readStatement 45 = .ok (.invokevirtual 464, 3) := by decide +kernel
theorem dX11_readStatement_48 : decode cX11_readStatement 48 = .ok (.goto 8, 3) := by decide +kernel
theorem dX11_readStatement_51 : decode cX11_readStatement 51 = .ok (.aload_n 0, 1) := by decide +kernel
theorem dX11_readStatement_52 : decode cX11_readStatement 52 = .ok (.iconst 1, 1) := by decide +kernel
theorem dX11_readStatement_53 : decode cX11_readStatement 53 = .ok (.invokevirtual 431, 3) := by decide +kernel
theorem dX11_readStatement_56 : decode cX11_readStatement 56 = .ok (.ireturn, 1) := by decide +kernel
theorem cm_X11_readStatement : x_CM yX11_readStatement cX11_readStatement 1 (Option.some FieldType.boolean) 0 := ⟨w_9_135, w_1_12, by decide +kernel, by decide +kernel⟩
theorem ci_X11_readStatement : x_CI yX11_readStatement 13 := ⟨w_9_134, wp_118, (RX11, TX11, 41), rfl, rfl⟩
set_option maxRecDepth 100000 in
set_option maxHeartbeats 4000000 in
theorem bX11_readStatement_56 {V : x_J} {ad : Nat → Nat} {Q : Int32 → x_S → x_L → Prop} (X : x_Is V cX11_readStatement 1 RX11 (Option.some FieldType.boolean) ad dsM 7 (x_PI Q)) {s0 : Int32} {σ : x_S} {τ : x_L} (h : wX11_readStatement_56 Q s0 σ τ) : V σ τ 56 [] [.int s0] := by
  exact x_zret X dX11_readStatement_56 ⟨h.1, _, rfl, h.2⟩
set_option maxRecDepth 100000 in
set_option maxHeartbeats 4000000 in
theorem kX11_readStatement {ad : Nat → Nat} {σ : x_S} {τ : x_L} {Q : Int32 → x_S → x_L → Prop} (h : wX11_readStatement σ τ Q) : x_Met yX11_readStatement cX11_readStatement 1 (Option.some FieldType.boolean) 7 ad dsM [.ref (ad 0)] σ τ (x_PI Q) := by
  refine x_met (by decide +kernel) (Nat.le_of_ble_eq_true rfl) (fun V X => ?_)
  have X : x_Is V cX11_readStatement 1 RX11 (Option.some FieldType.boolean) ad dsM 7 (x_PI Q) := X
  show V σ τ 0 [(0, .ref (ad 0))] []
  refine x_aload_n X dX11_readStatement_0 rfl 0 rfl ?_
  refine x_bipush X dX11_readStatement_1 kb_114 ?_
  refine x_bipush X dX11_readStatement_3 kb_111 ?_
  refine x_bipush X dX11_readStatement_5 kb_97 ?_
  refine x_bipush X dX11_readStatement_7 kb_100 ?_
  refine x_iconst X dX11_readStatement_9 ki_0 ?_
  refine x_callSl X [.int 114, .int 111, .int 97, .int 100, .int 0] [.ref (ad 0)] dX11_readStatement_10 (kX11_pack h) cm_X11_pack w_9_137 rfl w_9_136 ⟨by decide, by decide⟩ rfl (Nat.le_of_ble_eq_true rfl) (fun r10 σ10 τ10 h => ?_)
  refine x_callVi X [.long r10] [] dX11_readStatement_13 (kX11_isWord h) cm_X11_isWord ci_X11_isWord w_9_139 dsM_0 ⟨by decide, by decide⟩ rfl (Nat.le_of_ble_eq_true rfl) (fun r13 σ13 τ13 h => ?_)
  refine x_if_eq X 24 dX11_readStatement_16 (by decide) (fun hc => ?_) (fun hc => ?_)
  · have h := h.1 hc
    refine x_aload_n X dX11_readStatement_24 rfl 0 rfl ?_
    refine x_bipush X dX11_readStatement_25 kb_116 ?_
    refine x_bipush X dX11_readStatement_27 kb_114 ?_
    refine x_bipush X dX11_readStatement_29 kb_117 ?_
    refine x_bipush X dX11_readStatement_31 kb_99 ?_
    refine x_bipush X dX11_readStatement_33 kb_107 ?_
    refine x_callSl X [.int 116, .int 114, .int 117, .int 99, .int 107] [.ref (ad 0)] dX11_readStatement_35 (kX11_pack h) cm_X11_pack w_9_137 rfl w_9_136 ⟨by decide, by decide⟩ rfl (Nat.le_of_ble_eq_true rfl) (fun r35 σ35 τ35 h => ?_)
    refine x_callVi X [.long r35] [] dX11_readStatement_38 (kX11_isWord h) cm_X11_isWord ci_X11_isWord w_9_139 dsM_0 ⟨by decide, by decide⟩ rfl (Nat.le_of_ble_eq_true rfl) (fun r38 σ38 τ38 h => ?_)
    refine x_if_eq X 51 dX11_readStatement_41 (by decide) (fun hc => ?_) (fun hc => ?_)
    · have h := h.1 hc
      refine x_aload_n X dX11_readStatement_51 rfl 0 rfl ?_
      refine x_iconst X dX11_readStatement_52 ki_1 ?_
      refine x_callVi X [.int 1] [] dX11_readStatement_53 (kX11_fail h) cm_X11_fail ci_X11_fail w_9_147 dsM_0 ⟨by decide, by decide⟩ rfl (Nat.le_of_ble_eq_true rfl) (fun r53 σ53 τ53 h => ?_)
      refine x_sub X [] (lv' := []) rfl ?_
      exact bX11_readStatement_56 X h
    · have h := h.2 hc
      refine x_aload_n X dX11_readStatement_44 rfl 0 rfl ?_
      refine x_callVi X [] [] dX11_readStatement_45 (kX11_readTruck h) cm_X11_readTruck ci_X11_readTruck w_9_163 dsM_0 ⟨by decide, by decide⟩ rfl (Nat.le_of_ble_eq_true rfl) (fun r45 σ45 τ45 h => ?_)
      refine x_goto X (tgt := 56) dX11_readStatement_48 (by decide) ?_
      refine x_sub X [] (lv' := []) rfl ?_
      exact bX11_readStatement_56 X h
  · have h := h.2 hc
    refine x_aload_n X dX11_readStatement_19 rfl 0 rfl ?_
    refine x_callVi X [] [] dX11_readStatement_20 (kX11_readRoad h) cm_X11_readRoad ci_X11_readRoad w_9_143 dsM_0 ⟨by decide, by decide⟩ rfl (Nat.le_of_ble_eq_true rfl) (fun r20 σ20 τ20 h => ?_)
    exact x_zret X dX11_readStatement_23 ⟨h.1, _, rfl, h.2⟩
