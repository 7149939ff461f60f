/-! the methods of the law that catch: printed from the decode rows by wip/whole/gen11.py -/
theorem dL_road_0 : decode cL_road 0 = .ok (.aload_n 3, 1) := by decide +kernel
theorem dL_road_1 : decode cL_road 1 = .ok (.iconst 0, 1) := by decide +kernel
theorem dL_road_2 : decode cL_road 2 = .ok (.aload_n 0, 1) := by decide +kernel
theorem dL_road_3 : decode cL_road 3 = .ok (.iload_n 1, 1) := by decide +kernel
theorem dL_road_4 : decode cL_road 4 = .ok (.iload_n 2, 1) := by decide +kernel
theorem dL_road_5 : decode cL_road 5 = .ok (.invokevirtual 7, 3) := by decide +kernel
theorem dL_road_8 : decode cL_road 8 = .ok (.i2l, 1) := by decide +kernel
theorem dL_road_9 : decode cL_road 9 = .ok (.lastore, 1) := by decide +kernel
theorem dL_road_10 : decode cL_road 10 = .ok (.goto 7, 3) := by decide +kernel
theorem dL_road_13 : decode cL_road 13 = .ok (.astore 4, 2) := by decide +kernel
theorem dL_road_15 : decode cL_road 15 = .ok (.iconst 1, 1) := by decide +kernel
theorem dL_road_16 : decode cL_road 16 = .ok (.ireturn, 1) := by decide +kernel
theorem dL_road_17 : decode cL_road 17 = .ok (.iconst 0, 1) := by decide +kernel
theorem dL_road_18 : decode cL_road 18 = .ok (.ireturn, 1) := by decide +kernel
theorem lw_road : Cond.codeWith yL_road cL_road 5 (some .int) [(0, 10, 13, 13)] ∈ lw_big := x_t4 (List.mem_of_getElem? (i := 179) rfl) rfl
theorem ls_road : Cond.static yL_road ∈ lw_big := x_t4 (List.mem_of_getElem? (i := 178) rfl) rfl
theorem lc_road : x_CW yL_road cL_road 5 (some .int) [(0, 10, 13, 13)] 4 := ⟨lw_road, w_1_0, by decide +kernel, by decide +kernel⟩
def wL_road (a1 : Int32) (a2 : Int32) (σ : x_S) (τ : x_L) (Q : Int32 → x_S → x_L → Prop) : Prop := wX10_road a1 a2 σ τ (fun (r : Int32) σ τ => Q 0 σ (x_upL τ 87 0 r.toInt64)) (fun E σ τ => (E = eIO ∧ Q 1 σ τ))
set_option maxRecDepth 100000 in
set_option maxHeartbeats 4000000 in
theorem kL_road {ad : Nat → Nat} {a1 : Int32} {a2 : Int32} {σ : x_S} {τ : x_L} {Q : Int32 → x_S → x_L → Prop} (h : wL_road a1 a2 σ τ Q) : x_MetK yL_road cL_road 5 (some .int) [(0, 10, 13, 13)] 8 4 ad dsX [.ref (ad 0), .int a1, .int a2, .ref (ad 87)] σ τ (x_PI Q) := by
  unfold wL_road at h
  refine x_metH (by decide +kernel) (Nat.le_of_ble_eq_true rfl) (fun V Y => ?_)
  have Y : x_IsH V cL_road 5 RL (some .int) ad dsX 8 (x_PI Q) [(0, 10, 13, 13)] 0 4 := Y
  have X := x_isH Y
  show V σ τ 0 [(0, .ref (ad 0)), (1, .int a1), (2, .int a2), (3, .ref (ad 87))] []
  refine x_aload_n X dL_road_0 rfl 3 rfl ?_
  refine x_iconst X (v := 0) dL_road_1 (by decide) ?_
  refine x_aload_n X dL_road_2 rfl 0 rfl ?_
  refine x_iload_n X dL_road_3 rfl 1 rfl ?_
  refine x_iload_n X dL_road_4 rfl 2 rfl ?_
  refine x_callH Y (k := 4) (As := [.int a1, .int a2]) [.int 0, .ref (ad 87)] dL_road_5 (kX10_road h) cm_X10_road ci_X10_road w_5_17 dsX_0 (by decide) (by decide) rfl (Nat.le_of_ble_eq_true rfl) (fun V' E σ' τ' q Y' hq => ?_) (fun V' v σ' τ' Y' hq => ?_)
  · obtain ⟨rfl, hq⟩ := hq
    refine ⟨13, ⟨[], _, _, rfl, fun z hz => (nomatch hz), rfl, by decide, w_4_180, rfl⟩, ?_⟩
    have X' := x_isH Y'
    refine x_astore X' dL_road_13 (by decide) rfl ?_
    refine x_iconst X' (v := 1) dL_road_15 (by decide) ?_
    exact x_iret X' dL_road_16 ⟨1, rfl, hq⟩
  · obtain ⟨r, rfl, hq⟩ := hq
    have X' := x_isH Y'
    show V' σ' τ' _ _ [.int r, .int 0, .ref (ad 87)]
    refine x_i2l X' dL_road_8 ?_
    refine x_last X' (k := 87) (n := 1) dL_road_9 dsX_87 z_in0 ?_
    refine x_goto X' dL_road_10 rfl ?_
    refine x_iconst X' (v := 0) dL_road_17 (by decide) ?_
    exact x_iret X' dL_road_18 ⟨0, rfl, hq⟩
theorem dL_truck_0 : decode cL_truck 0 = .ok (.aload_n 3, 1) := by decide +kernel
theorem dL_truck_1 : decode cL_truck 1 = .ok (.iconst 0, 1) := by decide +kernel
theorem dL_truck_2 : decode cL_truck 2 = .ok (.aload_n 0, 1) := by decide +kernel
theorem dL_truck_3 : decode cL_truck 3 = .ok (.iload_n 1, 1) := by decide +kernel
theorem dL_truck_4 : decode cL_truck 4 = .ok (.iload_n 2, 1) := by decide +kernel
theorem dL_truck_5 : decode cL_truck 5 = .ok (.invokevirtual 15, 3) := by decide +kernel
theorem dL_truck_8 : decode cL_truck 8 = .ok (.i2l, 1) := by decide +kernel
theorem dL_truck_9 : decode cL_truck 9 = .ok (.lastore, 1) := by decide +kernel
theorem dL_truck_10 : decode cL_truck 10 = .ok (.goto 7, 3) := by decide +kernel
theorem dL_truck_13 : decode cL_truck 13 = .ok (.astore 4, 2) := by decide +kernel
theorem dL_truck_15 : decode cL_truck 15 = .ok (.iconst 1, 1) := by decide +kernel
theorem dL_truck_16 : decode cL_truck 16 = .ok (.ireturn, 1) := by decide +kernel
theorem dL_truck_17 : decode cL_truck 17 = .ok (.iconst 0, 1) := by decide +kernel
theorem dL_truck_18 : decode cL_truck 18 = .ok (.ireturn, 1) := by decide +kernel
theorem lw_truck : Cond.codeWith yL_truck cL_truck 5 (some .int) [(0, 10, 13, 13)] ∈ lw_big := x_t5 (List.mem_of_getElem? (i := 52) rfl) rfl
theorem ls_truck : Cond.static yL_truck ∈ lw_big := x_t5 (List.mem_of_getElem? (i := 51) rfl) rfl
theorem lc_truck : x_CW yL_truck cL_truck 5 (some .int) [(0, 10, 13, 13)] 4 := ⟨lw_truck, w_1_0, by decide +kernel, by decide +kernel⟩
def wL_truck (a1 : Int32) (a2 : Int32) (σ : x_S) (τ : x_L) (Q : Int32 → x_S → x_L → Prop) : Prop := wX10_truck a1 a2 σ τ (fun (r : Int32) σ τ => Q 0 σ (x_upL τ 87 0 r.toInt64)) (fun E σ τ => (E = eIO ∧ Q 1 σ τ))
set_option maxRecDepth 100000 in
set_option maxHeartbeats 4000000 in
theorem kL_truck {ad : Nat → Nat} {a1 : Int32} {a2 : Int32} {σ : x_S} {τ : x_L} {Q : Int32 → x_S → x_L → Prop} (h : wL_truck a1 a2 σ τ Q) : x_MetK yL_truck cL_truck 5 (some .int) [(0, 10, 13, 13)] 8 4 ad dsX [.ref (ad 0), .int a1, .int a2, .ref (ad 87)] σ τ (x_PI Q) := by
  unfold wL_truck at h
  refine x_metH (by decide +kernel) (Nat.le_of_ble_eq_true rfl) (fun V Y => ?_)
  have Y : x_IsH V cL_truck 5 RL (some .int) ad dsX 8 (x_PI Q) [(0, 10, 13, 13)] 0 4 := Y
  have X := x_isH Y
  show V σ τ 0 [(0, .ref (ad 0)), (1, .int a1), (2, .int a2), (3, .ref (ad 87))] []
  refine x_aload_n X dL_truck_0 rfl 3 rfl ?_
  refine x_iconst X (v := 0) dL_truck_1 (by decide) ?_
  refine x_aload_n X dL_truck_2 rfl 0 rfl ?_
  refine x_iload_n X dL_truck_3 rfl 1 rfl ?_
  refine x_iload_n X dL_truck_4 rfl 2 rfl ?_
  refine x_callH Y (k := 4) (As := [.int a1, .int a2]) [.int 0, .ref (ad 87)] dL_truck_5 (kX10_truck h) cm_X10_truck ci_X10_truck w_5_53 dsX_0 (by decide) (by decide) rfl (Nat.le_of_ble_eq_true rfl) (fun V' E σ' τ' q Y' hq => ?_) (fun V' v σ' τ' Y' hq => ?_)
  · obtain ⟨rfl, hq⟩ := hq
    refine ⟨13, ⟨[], _, _, rfl, fun z hz => (nomatch hz), rfl, by decide, w_4_180, rfl⟩, ?_⟩
    have X' := x_isH Y'
    refine x_astore X' dL_truck_13 (by decide) rfl ?_
    refine x_iconst X' (v := 1) dL_truck_15 (by decide) ?_
    exact x_iret X' dL_truck_16 ⟨1, rfl, hq⟩
  · obtain ⟨r, rfl, hq⟩ := hq
    have X' := x_isH Y'
    show V' σ' τ' _ _ [.int r, .int 0, .ref (ad 87)]
    refine x_i2l X' dL_truck_8 ?_
    refine x_last X' (k := 87) (n := 1) dL_truck_9 dsX_87 z_in0 ?_
    refine x_goto X' dL_truck_10 rfl ?_
    refine x_iconst X' (v := 0) dL_truck_17 (by decide) ?_
    exact x_iret X' dL_truck_18 ⟨0, rfl, hq⟩
theorem dL_place_0 : decode cL_place 0 = .ok (.aload 4, 2) := by decide +kernel
theorem dL_place_2 : decode cL_place 2 = .ok (.iconst 0, 1) := by decide +kernel
theorem dL_place_3 : decode cL_place 3 = .ok (.aload_n 0, 1) := by decide +kernel
theorem dL_place_4 : decode cL_place 4 = .ok (.iload_n 1, 1) := by decide +kernel
theorem dL_place_5 : decode cL_place 5 = .ok (.iload_n 2, 1) := by decide +kernel
theorem dL_place_6 : decode cL_place 6 = .ok (.iload_n 3, 1) := by decide +kernel
theorem dL_place_7 : decode cL_place 7 = .ok (.invokevirtual 18, 3) := by decide +kernel
theorem dL_place_10 : decode cL_place 10 = .ok (.i2l, 1) := by decide +kernel
theorem dL_place_11 : decode cL_place 11 = .ok (.lastore, 1) := by decide +kernel
theorem dL_place_12 : decode cL_place 12 = .ok (.goto 7, 3) := by decide +kernel
theorem dL_place_15 : decode cL_place 15 = .ok (.astore 5, 2) := by decide +kernel
theorem dL_place_17 : decode cL_place 17 = .ok (.iconst 1, 1) := by decide +kernel
theorem dL_place_18 : decode cL_place 18 = .ok (.ireturn, 1) := by decide +kernel
theorem dL_place_19 : decode cL_place 19 = .ok (.iconst 0, 1) := by decide +kernel
theorem dL_place_20 : decode cL_place 20 = .ok (.ireturn, 1) := by decide +kernel
theorem lw_place : Cond.codeWith yL_place cL_place 6 (some .int) [(0, 12, 15, 13)] ∈ lw_big := x_t5 (List.mem_of_getElem? (i := 83) rfl) rfl
theorem ls_place : Cond.static yL_place ∈ lw_big := x_t5 (List.mem_of_getElem? (i := 82) rfl) rfl
theorem lc_place : x_CW yL_place cL_place 6 (some .int) [(0, 12, 15, 13)] 5 := ⟨lw_place, w_1_0, by decide +kernel, by decide +kernel⟩
def wL_place (a1 : Int32) (a2 : Int32) (a3 : Int32) (σ : x_S) (τ : x_L) (Q : Int32 → x_S → x_L → Prop) : Prop := wX10_place a1 a2 a3 σ τ (fun (r : Int32) σ τ => Q 0 σ (x_upL τ 87 0 r.toInt64)) (fun E σ τ => (E = eIO ∧ Q 1 σ τ))
set_option maxRecDepth 100000 in
set_option maxHeartbeats 4000000 in
theorem kL_place {ad : Nat → Nat} {a1 : Int32} {a2 : Int32} {a3 : Int32} {σ : x_S} {τ : x_L} {Q : Int32 → x_S → x_L → Prop} (h : wL_place a1 a2 a3 σ τ Q) : x_MetK yL_place cL_place 6 (some .int) [(0, 12, 15, 13)] 8 4 ad dsX [.ref (ad 0), .int a1, .int a2, .int a3, .ref (ad 87)] σ τ (x_PI Q) := by
  unfold wL_place at h
  refine x_metH (by decide +kernel) (Nat.le_of_ble_eq_true rfl) (fun V Y => ?_)
  have Y : x_IsH V cL_place 6 RL (some .int) ad dsX 8 (x_PI Q) [(0, 12, 15, 13)] 0 4 := Y
  have X := x_isH Y
  show V σ τ 0 [(0, .ref (ad 0)), (1, .int a1), (2, .int a2), (3, .int a3), (4, .ref (ad 87))] []
  refine x_aload X dL_place_0 4 rfl ?_
  refine x_iconst X (v := 0) dL_place_2 (by decide) ?_
  refine x_aload_n X dL_place_3 rfl 0 rfl ?_
  refine x_iload_n X dL_place_4 rfl 1 rfl ?_
  refine x_iload_n X dL_place_5 rfl 2 rfl ?_
  refine x_iload_n X dL_place_6 rfl 3 rfl ?_
  refine x_callH Y (k := 4) (As := [.int a1, .int a2, .int a3]) [.int 0, .ref (ad 87)] dL_place_7 (kX10_place h) cm_X10_place ci_X10_place w_5_84 dsX_0 (by decide) (by decide) rfl (Nat.le_of_ble_eq_true rfl) (fun V' E σ' τ' q Y' hq => ?_) (fun V' v σ' τ' Y' hq => ?_)
  · obtain ⟨rfl, hq⟩ := hq
    refine ⟨15, ⟨[], _, _, rfl, fun z hz => (nomatch hz), rfl, by decide, w_4_180, rfl⟩, ?_⟩
    have X' := x_isH Y'
    refine x_astore X' dL_place_15 (by decide) rfl ?_
    refine x_iconst X' (v := 1) dL_place_17 (by decide) ?_
    exact x_iret X' dL_place_18 ⟨1, rfl, hq⟩
  · obtain ⟨r, rfl, hq⟩ := hq
    have X' := x_isH Y'
    show V' σ' τ' _ _ [.int r, .int 0, .ref (ad 87)]
    refine x_i2l X' dL_place_10 ?_
    refine x_last X' (k := 87) (n := 1) dL_place_11 dsX_87 z_in0 ?_
    refine x_goto X' dL_place_12 rfl ?_
    refine x_iconst X' (v := 0) dL_place_19 (by decide) ?_
    exact x_iret X' dL_place_20 ⟨0, rfl, hq⟩
theorem dL_platoonOf_0 : decode cL_platoonOf 0 = .ok (.aload_n 3, 1) := by decide +kernel
theorem dL_platoonOf_1 : decode cL_platoonOf 1 = .ok (.iconst 0, 1) := by decide +kernel
theorem dL_platoonOf_2 : decode cL_platoonOf 2 = .ok (.aload_n 0, 1) := by decide +kernel
theorem dL_platoonOf_3 : decode cL_platoonOf 3 = .ok (.iload_n 1, 1) := by decide +kernel
theorem dL_platoonOf_4 : decode cL_platoonOf 4 = .ok (.iload_n 2, 1) := by decide +kernel
theorem dL_platoonOf_5 : decode cL_platoonOf 5 = .ok (.invokevirtual 22, 3) := by decide +kernel
theorem dL_platoonOf_8 : decode cL_platoonOf 8 = .ok (.i2l, 1) := by decide +kernel
theorem dL_platoonOf_9 : decode cL_platoonOf 9 = .ok (.lastore, 1) := by decide +kernel
theorem dL_platoonOf_10 : decode cL_platoonOf 10 = .ok (.goto 7, 3) := by decide +kernel
theorem dL_platoonOf_13 : decode cL_platoonOf 13 = .ok (.astore 4, 2) := by decide +kernel
theorem dL_platoonOf_15 : decode cL_platoonOf 15 = .ok (.iconst 1, 1) := by decide +kernel
theorem dL_platoonOf_16 : decode cL_platoonOf 16 = .ok (.ireturn, 1) := by decide +kernel
theorem dL_platoonOf_17 : decode cL_platoonOf 17 = .ok (.iconst 0, 1) := by decide +kernel
theorem dL_platoonOf_18 : decode cL_platoonOf 18 = .ok (.ireturn, 1) := by decide +kernel
theorem lw_platoonOf : Cond.codeWith yL_platoonOf cL_platoonOf 5 (some .int) [(0, 10, 13, 13)] ∈ lw_big := x_t5 (List.mem_of_getElem? (i := 97) rfl) rfl
theorem ls_platoonOf : Cond.static yL_platoonOf ∈ lw_big := x_t5 (List.mem_of_getElem? (i := 96) rfl) rfl
theorem lc_platoonOf : x_CW yL_platoonOf cL_platoonOf 5 (some .int) [(0, 10, 13, 13)] 4 := ⟨lw_platoonOf, w_1_0, by decide +kernel, by decide +kernel⟩
def wL_platoonOf (a1 : Int32) (a2 : Int32) (σ : x_S) (τ : x_L) (Q : Int32 → x_S → x_L → Prop) : Prop := wX10_platoonOf a1 a2 σ τ (fun (r : Int32) σ τ => Q 0 σ (x_upL τ 87 0 r.toInt64)) (fun E σ τ => (E = eIO ∧ Q 1 σ τ))
set_option maxRecDepth 100000 in
set_option maxHeartbeats 4000000 in
theorem kL_platoonOf {ad : Nat → Nat} {a1 : Int32} {a2 : Int32} {σ : x_S} {τ : x_L} {Q : Int32 → x_S → x_L → Prop} (h : wL_platoonOf a1 a2 σ τ Q) : x_MetK yL_platoonOf cL_platoonOf 5 (some .int) [(0, 10, 13, 13)] 8 4 ad dsX [.ref (ad 0), .int a1, .int a2, .ref (ad 87)] σ τ (x_PI Q) := by
  unfold wL_platoonOf at h
  refine x_metH (by decide +kernel) (Nat.le_of_ble_eq_true rfl) (fun V Y => ?_)
  have Y : x_IsH V cL_platoonOf 5 RL (some .int) ad dsX 8 (x_PI Q) [(0, 10, 13, 13)] 0 4 := Y
  have X := x_isH Y
  show V σ τ 0 [(0, .ref (ad 0)), (1, .int a1), (2, .int a2), (3, .ref (ad 87))] []
  refine x_aload_n X dL_platoonOf_0 rfl 3 rfl ?_
  refine x_iconst X (v := 0) dL_platoonOf_1 (by decide) ?_
  refine x_aload_n X dL_platoonOf_2 rfl 0 rfl ?_
  refine x_iload_n X dL_platoonOf_3 rfl 1 rfl ?_
  refine x_iload_n X dL_platoonOf_4 rfl 2 rfl ?_
  refine x_callH Y (k := 4) (As := [.int a1, .int a2]) [.int 0, .ref (ad 87)] dL_platoonOf_5 (kX10_platoonOf h) cm_X10_platoonOf ci_X10_platoonOf w_5_98 dsX_0 (by decide) (by decide) rfl (Nat.le_of_ble_eq_true rfl) (fun V' E σ' τ' q Y' hq => ?_) (fun V' v σ' τ' Y' hq => ?_)
  · obtain ⟨rfl, hq⟩ := hq
    refine ⟨13, ⟨[], _, _, rfl, fun z hz => (nomatch hz), rfl, by decide, w_4_180, rfl⟩, ?_⟩
    have X' := x_isH Y'
    refine x_astore X' dL_platoonOf_13 (by decide) rfl ?_
    refine x_iconst X' (v := 1) dL_platoonOf_15 (by decide) ?_
    exact x_iret X' dL_platoonOf_16 ⟨1, rfl, hq⟩
  · obtain ⟨r, rfl, hq⟩ := hq
    have X' := x_isH Y'
    show V' σ' τ' _ _ [.int r, .int 0, .ref (ad 87)]
    refine x_i2l X' dL_platoonOf_8 ?_
    refine x_last X' (k := 87) (n := 1) dL_platoonOf_9 dsX_87 z_in0 ?_
    refine x_goto X' dL_platoonOf_10 rfl ?_
    refine x_iconst X' (v := 0) dL_platoonOf_17 (by decide) ?_
    exact x_iret X' dL_platoonOf_18 ⟨0, rfl, hq⟩
theorem dL_position_0 : decode cL_position 0 = .ok (.aload_n 3, 1) := by decide +kernel
theorem dL_position_1 : decode cL_position 1 = .ok (.iconst 0, 1) := by decide +kernel
theorem dL_position_2 : decode cL_position 2 = .ok (.aload_n 0, 1) := by decide +kernel
theorem dL_position_3 : decode cL_position 3 = .ok (.iload_n 1, 1) := by decide +kernel
theorem dL_position_4 : decode cL_position 4 = .ok (.iload_n 2, 1) := by decide +kernel
theorem dL_position_5 : decode cL_position 5 = .ok (.invokevirtual 25, 3) := by decide +kernel
theorem dL_position_8 : decode cL_position 8 = .ok (.i2l, 1) := by decide +kernel
theorem dL_position_9 : decode cL_position 9 = .ok (.lastore, 1) := by decide +kernel
theorem dL_position_10 : decode cL_position 10 = .ok (.goto 7, 3) := by decide +kernel
theorem dL_position_13 : decode cL_position 13 = .ok (.astore 4, 2) := by decide +kernel
theorem dL_position_15 : decode cL_position 15 = .ok (.iconst 1, 1) := by decide +kernel
theorem dL_position_16 : decode cL_position 16 = .ok (.ireturn, 1) := by decide +kernel
theorem dL_position_17 : decode cL_position 17 = .ok (.iconst 0, 1) := by decide +kernel
theorem dL_position_18 : decode cL_position 18 = .ok (.ireturn, 1) := by decide +kernel
theorem lw_position : Cond.codeWith yL_position cL_position 5 (some .int) [(0, 10, 13, 13)] ∈ lw_big := x_t5 (List.mem_of_getElem? (i := 104) rfl) rfl
theorem ls_position : Cond.static yL_position ∈ lw_big := x_t5 (List.mem_of_getElem? (i := 103) rfl) rfl
theorem lc_position : x_CW yL_position cL_position 5 (some .int) [(0, 10, 13, 13)] 4 := ⟨lw_position, w_1_0, by decide +kernel, by decide +kernel⟩
def wL_position (a1 : Int32) (a2 : Int32) (σ : x_S) (τ : x_L) (Q : Int32 → x_S → x_L → Prop) : Prop := wX10_position a1 a2 σ τ (fun (r : Int32) σ τ => Q 0 σ (x_upL τ 87 0 r.toInt64)) (fun E σ τ => (E = eIO ∧ Q 1 σ τ))
set_option maxRecDepth 100000 in
set_option maxHeartbeats 4000000 in
theorem kL_position {ad : Nat → Nat} {a1 : Int32} {a2 : Int32} {σ : x_S} {τ : x_L} {Q : Int32 → x_S → x_L → Prop} (h : wL_position a1 a2 σ τ Q) : x_MetK yL_position cL_position 5 (some .int) [(0, 10, 13, 13)] 8 4 ad dsX [.ref (ad 0), .int a1, .int a2, .ref (ad 87)] σ τ (x_PI Q) := by
  unfold wL_position at h
  refine x_metH (by decide +kernel) (Nat.le_of_ble_eq_true rfl) (fun V Y => ?_)
  have Y : x_IsH V cL_position 5 RL (some .int) ad dsX 8 (x_PI Q) [(0, 10, 13, 13)] 0 4 := Y
  have X := x_isH Y
  show V σ τ 0 [(0, .ref (ad 0)), (1, .int a1), (2, .int a2), (3, .ref (ad 87))] []
  refine x_aload_n X dL_position_0 rfl 3 rfl ?_
  refine x_iconst X (v := 0) dL_position_1 (by decide) ?_
  refine x_aload_n X dL_position_2 rfl 0 rfl ?_
  refine x_iload_n X dL_position_3 rfl 1 rfl ?_
  refine x_iload_n X dL_position_4 rfl 2 rfl ?_
  refine x_callH Y (k := 4) (As := [.int a1, .int a2]) [.int 0, .ref (ad 87)] dL_position_5 (kX10_position h) cm_X10_position ci_X10_position w_5_105 dsX_0 (by decide) (by decide) rfl (Nat.le_of_ble_eq_true rfl) (fun V' E σ' τ' q Y' hq => ?_) (fun V' v σ' τ' Y' hq => ?_)
  · obtain ⟨rfl, hq⟩ := hq
    refine ⟨13, ⟨[], _, _, rfl, fun z hz => (nomatch hz), rfl, by decide, w_4_180, rfl⟩, ?_⟩
    have X' := x_isH Y'
    refine x_astore X' dL_position_13 (by decide) rfl ?_
    refine x_iconst X' (v := 1) dL_position_15 (by decide) ?_
    exact x_iret X' dL_position_16 ⟨1, rfl, hq⟩
  · obtain ⟨r, rfl, hq⟩ := hq
    have X' := x_isH Y'
    show V' σ' τ' _ _ [.int r, .int 0, .ref (ad 87)]
    refine x_i2l X' dL_position_8 ?_
    refine x_last X' (k := 87) (n := 1) dL_position_9 dsX_87 z_in0 ?_
    refine x_goto X' dL_position_10 rfl ?_
    refine x_iconst X' (v := 0) dL_position_17 (by decide) ?_
    exact x_iret X' dL_position_18 ⟨0, rfl, hq⟩
theorem dL_key_0 : decode cL_key 0 = .ok (.aload_n 3, 1) := by decide +kernel
theorem dL_key_1 : decode cL_key 1 = .ok (.iconst 0, 1) := by decide +kernel
theorem dL_key_2 : decode cL_key 2 = .ok (.aload_n 0, 1) := by decide +kernel
theorem dL_key_3 : decode cL_key 3 = .ok (.iload_n 1, 1) := by decide +kernel
theorem dL_key_4 : decode cL_key 4 = .ok (.iload_n 2, 1) := by decide +kernel
theorem dL_key_5 : decode cL_key 5 = .ok (.invokevirtual 28, 3) := by decide +kernel
theorem dL_key_8 : decode cL_key 8 = .ok (.i2l, 1) := by decide +kernel
theorem dL_key_9 : decode cL_key 9 = .ok (.lastore, 1) := by decide +kernel
theorem dL_key_10 : decode cL_key 10 = .ok (.goto 7, 3) := by decide +kernel
theorem dL_key_13 : decode cL_key 13 = .ok (.astore 4, 2) := by decide +kernel
theorem dL_key_15 : decode cL_key 15 = .ok (.iconst 1, 1) := by decide +kernel
theorem dL_key_16 : decode cL_key 16 = .ok (.ireturn, 1) := by decide +kernel
theorem dL_key_17 : decode cL_key 17 = .ok (.iconst 0, 1) := by decide +kernel
theorem dL_key_18 : decode cL_key 18 = .ok (.ireturn, 1) := by decide +kernel
theorem lw_key : Cond.codeWith yL_key cL_key 5 (some .int) [(0, 10, 13, 13)] ∈ lw_big := x_t5 (List.mem_of_getElem? (i := 111) rfl) rfl
theorem ls_key : Cond.static yL_key ∈ lw_big := x_t5 (List.mem_of_getElem? (i := 110) rfl) rfl
theorem lc_key : x_CW yL_key cL_key 5 (some .int) [(0, 10, 13, 13)] 4 := ⟨lw_key, w_1_0, by decide +kernel, by decide +kernel⟩
def wL_key (a1 : Int32) (a2 : Int32) (σ : x_S) (τ : x_L) (Q : Int32 → x_S → x_L → Prop) : Prop := wX10_key a1 a2 σ τ (fun (r : Int32) σ τ => Q 0 σ (x_upL τ 87 0 r.toInt64)) (fun E σ τ => (E = eIO ∧ Q 1 σ τ))
set_option maxRecDepth 100000 in
set_option maxHeartbeats 4000000 in
theorem kL_key {ad : Nat → Nat} {a1 : Int32} {a2 : Int32} {σ : x_S} {τ : x_L} {Q : Int32 → x_S → x_L → Prop} (h : wL_key a1 a2 σ τ Q) : x_MetK yL_key cL_key 5 (some .int) [(0, 10, 13, 13)] 8 4 ad dsX [.ref (ad 0), .int a1, .int a2, .ref (ad 87)] σ τ (x_PI Q) := by
  unfold wL_key at h
  refine x_metH (by decide +kernel) (Nat.le_of_ble_eq_true rfl) (fun V Y => ?_)
  have Y : x_IsH V cL_key 5 RL (some .int) ad dsX 8 (x_PI Q) [(0, 10, 13, 13)] 0 4 := Y
  have X := x_isH Y
  show V σ τ 0 [(0, .ref (ad 0)), (1, .int a1), (2, .int a2), (3, .ref (ad 87))] []
  refine x_aload_n X dL_key_0 rfl 3 rfl ?_
  refine x_iconst X (v := 0) dL_key_1 (by decide) ?_
  refine x_aload_n X dL_key_2 rfl 0 rfl ?_
  refine x_iload_n X dL_key_3 rfl 1 rfl ?_
  refine x_iload_n X dL_key_4 rfl 2 rfl ?_
  refine x_callH Y (k := 4) (As := [.int a1, .int a2]) [.int 0, .ref (ad 87)] dL_key_5 (kX10_key h) cm_X10_key ci_X10_key w_5_112 dsX_0 (by decide) (by decide) rfl (Nat.le_of_ble_eq_true rfl) (fun V' E σ' τ' q Y' hq => ?_) (fun V' v σ' τ' Y' hq => ?_)
  · obtain ⟨rfl, hq⟩ := hq
    refine ⟨13, ⟨[], _, _, rfl, fun z hz => (nomatch hz), rfl, by decide, w_4_180, rfl⟩, ?_⟩
    have X' := x_isH Y'
    refine x_astore X' dL_key_13 (by decide) rfl ?_
    refine x_iconst X' (v := 1) dL_key_15 (by decide) ?_
    exact x_iret X' dL_key_16 ⟨1, rfl, hq⟩
  · obtain ⟨r, rfl, hq⟩ := hq
    have X' := x_isH Y'
    show V' σ' τ' _ _ [.int r, .int 0, .ref (ad 87)]
    refine x_i2l X' dL_key_8 ?_
    refine x_last X' (k := 87) (n := 1) dL_key_9 dsX_87 z_in0 ?_
    refine x_goto X' dL_key_10 rfl ?_
    refine x_iconst X' (v := 0) dL_key_17 (by decide) ?_
    exact x_iret X' dL_key_18 ⟨0, rfl, hq⟩
theorem dL_platoon_0 : decode cL_platoon 0 = .ok (.aload 4, 2) := by decide +kernel
theorem dL_platoon_2 : decode cL_platoon 2 = .ok (.iconst 0, 1) := by decide +kernel
theorem dL_platoon_3 : decode cL_platoon 3 = .ok (.aload_n 0, 1) := by decide +kernel
theorem dL_platoon_4 : decode cL_platoon 4 = .ok (.iload_n 1, 1) := by decide +kernel
theorem dL_platoon_5 : decode cL_platoon 5 = .ok (.iload_n 2, 1) := by decide +kernel
theorem dL_platoon_6 : decode cL_platoon 6 = .ok (.iload_n 3, 1) := by decide +kernel
theorem dL_platoon_7 : decode cL_platoon 7 = .ok (.invokevirtual 31, 3) := by decide +kernel
theorem dL_platoon_10 : decode cL_platoon 10 = .ok (.i2l, 1) := by decide +kernel
theorem dL_platoon_11 : decode cL_platoon 11 = .ok (.lastore, 1) := by decide +kernel
theorem dL_platoon_12 : decode cL_platoon 12 = .ok (.goto 7, 3) := by decide +kernel
theorem dL_platoon_15 : decode cL_platoon 15 = .ok (.astore 5, 2) := by decide +kernel
theorem dL_platoon_17 : decode cL_platoon 17 = .ok (.iconst 1, 1) := by decide +kernel
theorem dL_platoon_18 : decode cL_platoon 18 = .ok (.ireturn, 1) := by decide +kernel
theorem dL_platoon_19 : decode cL_platoon 19 = .ok (.iconst 0, 1) := by decide +kernel
theorem dL_platoon_20 : decode cL_platoon 20 = .ok (.ireturn, 1) := by decide +kernel
theorem lw_platoon : Cond.codeWith yL_platoon cL_platoon 6 (some .int) [(0, 12, 15, 13)] ∈ lw_big := x_t5 (List.mem_of_getElem? (i := 118) rfl) rfl
theorem ls_platoon : Cond.static yL_platoon ∈ lw_big := x_t5 (List.mem_of_getElem? (i := 117) rfl) rfl
theorem lc_platoon : x_CW yL_platoon cL_platoon 6 (some .int) [(0, 12, 15, 13)] 5 := ⟨lw_platoon, w_1_0, by decide +kernel, by decide +kernel⟩
def wL_platoon (a1 : Int32) (a2 : Int32) (a3 : Int32) (σ : x_S) (τ : x_L) (Q : Int32 → x_S → x_L → Prop) : Prop := wX10_platoon a1 a2 a3 σ τ (fun (r : Int32) σ τ => Q 0 σ (x_upL τ 87 0 r.toInt64)) (fun E σ τ => (E = eIO ∧ Q 1 σ τ))
set_option maxRecDepth 100000 in
set_option maxHeartbeats 4000000 in
theorem kL_platoon {ad : Nat → Nat} {a1 : Int32} {a2 : Int32} {a3 : Int32} {σ : x_S} {τ : x_L} {Q : Int32 → x_S → x_L → Prop} (h : wL_platoon a1 a2 a3 σ τ Q) : x_MetK yL_platoon cL_platoon 6 (some .int) [(0, 12, 15, 13)] 8 4 ad dsX [.ref (ad 0), .int a1, .int a2, .int a3, .ref (ad 87)] σ τ (x_PI Q) := by
  unfold wL_platoon at h
  refine x_metH (by decide +kernel) (Nat.le_of_ble_eq_true rfl) (fun V Y => ?_)
  have Y : x_IsH V cL_platoon 6 RL (some .int) ad dsX 8 (x_PI Q) [(0, 12, 15, 13)] 0 4 := Y
  have X := x_isH Y
  show V σ τ 0 [(0, .ref (ad 0)), (1, .int a1), (2, .int a2), (3, .int a3), (4, .ref (ad 87))] []
  refine x_aload X dL_platoon_0 4 rfl ?_
  refine x_iconst X (v := 0) dL_platoon_2 (by decide) ?_
  refine x_aload_n X dL_platoon_3 rfl 0 rfl ?_
  refine x_iload_n X dL_platoon_4 rfl 1 rfl ?_
  refine x_iload_n X dL_platoon_5 rfl 2 rfl ?_
  refine x_iload_n X dL_platoon_6 rfl 3 rfl ?_
  refine x_callH Y (k := 4) (As := [.int a1, .int a2, .int a3]) [.int 0, .ref (ad 87)] dL_platoon_7 (kX10_platoon h) cm_X10_platoon ci_X10_platoon w_5_119 dsX_0 (by decide) (by decide) rfl (Nat.le_of_ble_eq_true rfl) (fun V' E σ' τ' q Y' hq => ?_) (fun V' v σ' τ' Y' hq => ?_)
  · obtain ⟨rfl, hq⟩ := hq
    refine ⟨15, ⟨[], _, _, rfl, fun z hz => (nomatch hz), rfl, by decide, w_4_180, rfl⟩, ?_⟩
    have X' := x_isH Y'
    refine x_astore X' dL_platoon_15 (by decide) rfl ?_
    refine x_iconst X' (v := 1) dL_platoon_17 (by decide) ?_
    exact x_iret X' dL_platoon_18 ⟨1, rfl, hq⟩
  · obtain ⟨r, rfl, hq⟩ := hq
    have X' := x_isH Y'
    show V' σ' τ' _ _ [.int r, .int 0, .ref (ad 87)]
    refine x_i2l X' dL_platoon_10 ?_
    refine x_last X' (k := 87) (n := 1) dL_platoon_11 dsX_87 z_in0 ?_
    refine x_goto X' dL_platoon_12 rfl ?_
    refine x_iconst X' (v := 0) dL_platoon_19 (by decide) ?_
    exact x_iret X' dL_platoon_20 ⟨0, rfl, hq⟩
theorem dL_member_0 : decode cL_member 0 = .ok (.aload 4, 2) := by decide +kernel
theorem dL_member_2 : decode cL_member 2 = .ok (.iconst 0, 1) := by decide +kernel
theorem dL_member_3 : decode cL_member 3 = .ok (.aload_n 0, 1) := by decide +kernel
theorem dL_member_4 : decode cL_member 4 = .ok (.iload_n 1, 1) := by decide +kernel
theorem dL_member_5 : decode cL_member 5 = .ok (.iload_n 2, 1) := by decide +kernel
theorem dL_member_6 : decode cL_member 6 = .ok (.iload_n 3, 1) := by decide +kernel
theorem dL_member_7 : decode cL_member 7 = .ok (.invokevirtual 34, 3) := by decide +kernel
theorem dL_member_10 : decode cL_member 10 = .ok (.i2l, 1) := by decide +kernel
theorem dL_member_11 : decode cL_member 11 = .ok (.lastore, 1) := by decide +kernel
theorem dL_member_12 : decode cL_member 12 = .ok (.goto 7, 3) := by decide +kernel
theorem dL_member_15 : decode cL_member 15 = .ok (.astore 5, 2) := by decide +kernel
theorem dL_member_17 : decode cL_member 17 = .ok (.iconst 1, 1) := by decide +kernel
theorem dL_member_18 : decode cL_member 18 = .ok (.ireturn, 1) := by decide +kernel
theorem dL_member_19 : decode cL_member 19 = .ok (.iconst 0, 1) := by decide +kernel
theorem dL_member_20 : decode cL_member 20 = .ok (.ireturn, 1) := by decide +kernel
theorem lw_member : Cond.codeWith yL_member cL_member 6 (some .int) [(0, 12, 15, 13)] ∈ lw_big := x_t5 (List.mem_of_getElem? (i := 142) rfl) rfl
theorem ls_member : Cond.static yL_member ∈ lw_big := x_t5 (List.mem_of_getElem? (i := 141) rfl) rfl
theorem lc_member : x_CW yL_member cL_member 6 (some .int) [(0, 12, 15, 13)] 5 := ⟨lw_member, w_1_0, by decide +kernel, by decide +kernel⟩
def wL_member (a1 : Int32) (a2 : Int32) (a3 : Int32) (σ : x_S) (τ : x_L) (Q : Int32 → x_S → x_L → Prop) : Prop := wX10_member a1 a2 a3 σ τ (fun (r : Int32) σ τ => Q 0 σ (x_upL τ 87 0 r.toInt64)) (fun E σ τ => (E = eIO ∧ Q 1 σ τ))
set_option maxRecDepth 100000 in
set_option maxHeartbeats 4000000 in
theorem kL_member {ad : Nat → Nat} {a1 : Int32} {a2 : Int32} {a3 : Int32} {σ : x_S} {τ : x_L} {Q : Int32 → x_S → x_L → Prop} (h : wL_member a1 a2 a3 σ τ Q) : x_MetK yL_member cL_member 6 (some .int) [(0, 12, 15, 13)] 8 4 ad dsX [.ref (ad 0), .int a1, .int a2, .int a3, .ref (ad 87)] σ τ (x_PI Q) := by
  unfold wL_member at h
  refine x_metH (by decide +kernel) (Nat.le_of_ble_eq_true rfl) (fun V Y => ?_)
  have Y : x_IsH V cL_member 6 RL (some .int) ad dsX 8 (x_PI Q) [(0, 12, 15, 13)] 0 4 := Y
  have X := x_isH Y
  show V σ τ 0 [(0, .ref (ad 0)), (1, .int a1), (2, .int a2), (3, .int a3), (4, .ref (ad 87))] []
  refine x_aload X dL_member_0 4 rfl ?_
  refine x_iconst X (v := 0) dL_member_2 (by decide) ?_
  refine x_aload_n X dL_member_3 rfl 0 rfl ?_
  refine x_iload_n X dL_member_4 rfl 1 rfl ?_
  refine x_iload_n X dL_member_5 rfl 2 rfl ?_
  refine x_iload_n X dL_member_6 rfl 3 rfl ?_
  refine x_callH Y (k := 4) (As := [.int a1, .int a2, .int a3]) [.int 0, .ref (ad 87)] dL_member_7 (kX10_member h) cm_X10_member ci_X10_member w_5_143 dsX_0 (by decide) (by decide) rfl (Nat.le_of_ble_eq_true rfl) (fun V' E σ' τ' q Y' hq => ?_) (fun V' v σ' τ' Y' hq => ?_)
  · obtain ⟨rfl, hq⟩ := hq
    refine ⟨15, ⟨[], _, _, rfl, fun z hz => (nomatch hz), rfl, by decide, w_4_180, rfl⟩, ?_⟩
    have X' := x_isH Y'
    refine x_astore X' dL_member_15 (by decide) rfl ?_
    refine x_iconst X' (v := 1) dL_member_17 (by decide) ?_
    exact x_iret X' dL_member_18 ⟨1, rfl, hq⟩
  · obtain ⟨r, rfl, hq⟩ := hq
    have X' := x_isH Y'
    show V' σ' τ' _ _ [.int r, .int 0, .ref (ad 87)]
    refine x_i2l X' dL_member_10 ?_
    refine x_last X' (k := 87) (n := 1) dL_member_11 dsX_87 z_in0 ?_
    refine x_goto X' dL_member_12 rfl ?_
    refine x_iconst X' (v := 0) dL_member_19 (by decide) ?_
    exact x_iret X' dL_member_20 ⟨0, rfl, hq⟩
theorem dL_together_0 : decode cL_together 0 = .ok (.aload_n 3, 1) := by decide +kernel
theorem dL_together_1 : decode cL_together 1 = .ok (.iconst 0, 1) := by decide +kernel
theorem dL_together_2 : decode cL_together 2 = .ok (.aload_n 0, 1) := by decide +kernel
theorem dL_together_3 : decode cL_together 3 = .ok (.iload_n 1, 1) := by decide +kernel
theorem dL_together_4 : decode cL_together 4 = .ok (.iload_n 2, 1) := by decide +kernel
theorem dL_together_5 : decode cL_together 5 = .ok (.invokevirtual 37, 3) := by decide +kernel
theorem dL_together_8 : decode cL_together 8 = .ok (.i2l, 1) := by decide +kernel
theorem dL_together_9 : decode cL_together 9 = .ok (.lastore, 1) := by decide +kernel
theorem dL_together_10 : decode cL_together 10 = .ok (.goto 7, 3) := by decide +kernel
theorem dL_together_13 : decode cL_together 13 = .ok (.astore 4, 2) := by decide +kernel
theorem dL_together_15 : decode cL_together 15 = .ok (.iconst 1, 1) := by decide +kernel
theorem dL_together_16 : decode cL_together 16 = .ok (.ireturn, 1) := by decide +kernel
theorem dL_together_17 : decode cL_together 17 = .ok (.iconst 0, 1) := by decide +kernel
theorem dL_together_18 : decode cL_together 18 = .ok (.ireturn, 1) := by decide +kernel
theorem lw_together : Cond.codeWith yL_together cL_together 5 (some .int) [(0, 10, 13, 13)] ∈ lw_big := x_t5 (List.mem_of_getElem? (i := 153) rfl) rfl
theorem ls_together : Cond.static yL_together ∈ lw_big := x_t5 (List.mem_of_getElem? (i := 152) rfl) rfl
theorem lc_together : x_CW yL_together cL_together 5 (some .int) [(0, 10, 13, 13)] 4 := ⟨lw_together, w_1_0, by decide +kernel, by decide +kernel⟩
def wL_together (a1 : Int32) (a2 : Int32) (σ : x_S) (τ : x_L) (Q : Int32 → x_S → x_L → Prop) : Prop := wX10_together a1 a2 σ τ (fun (r : Int32) σ τ => Q 0 σ (x_upL τ 87 0 r.toInt64)) (fun E σ τ => (E = eIO ∧ Q 1 σ τ))
set_option maxRecDepth 100000 in
set_option maxHeartbeats 4000000 in
theorem kL_together {ad : Nat → Nat} {a1 : Int32} {a2 : Int32} {σ : x_S} {τ : x_L} {Q : Int32 → x_S → x_L → Prop} (h : wL_together a1 a2 σ τ Q) : x_MetK yL_together cL_together 5 (some .int) [(0, 10, 13, 13)] 8 4 ad dsX [.ref (ad 0), .int a1, .int a2, .ref (ad 87)] σ τ (x_PI Q) := by
  unfold wL_together at h
  refine x_metH (by decide +kernel) (Nat.le_of_ble_eq_true rfl) (fun V Y => ?_)
  have Y : x_IsH V cL_together 5 RL (some .int) ad dsX 8 (x_PI Q) [(0, 10, 13, 13)] 0 4 := Y
  have X := x_isH Y
  show V σ τ 0 [(0, .ref (ad 0)), (1, .int a1), (2, .int a2), (3, .ref (ad 87))] []
  refine x_aload_n X dL_together_0 rfl 3 rfl ?_
  refine x_iconst X (v := 0) dL_together_1 (by decide) ?_
  refine x_aload_n X dL_together_2 rfl 0 rfl ?_
  refine x_iload_n X dL_together_3 rfl 1 rfl ?_
  refine x_iload_n X dL_together_4 rfl 2 rfl ?_
  refine x_callH Y (k := 4) (As := [.int a1, .int a2]) [.int 0, .ref (ad 87)] dL_together_5 (kX10_together h) cm_X10_together ci_X10_together w_5_154 dsX_0 (by decide) (by decide) rfl (Nat.le_of_ble_eq_true rfl) (fun V' E σ' τ' q Y' hq => ?_) (fun V' v σ' τ' Y' hq => ?_)
  · obtain ⟨rfl, hq⟩ := hq
    refine ⟨13, ⟨[], _, _, rfl, fun z hz => (nomatch hz), rfl, by decide, w_4_180, rfl⟩, ?_⟩
    have X' := x_isH Y'
    refine x_astore X' dL_together_13 (by decide) rfl ?_
    refine x_iconst X' (v := 1) dL_together_15 (by decide) ?_
    exact x_iret X' dL_together_16 ⟨1, rfl, hq⟩
  · obtain ⟨r, rfl, hq⟩ := hq
    have X' := x_isH Y'
    show V' σ' τ' _ _ [.int r, .int 0, .ref (ad 87)]
    refine x_i2l X' dL_together_8 ?_
    refine x_last X' (k := 87) (n := 1) dL_together_9 dsX_87 z_in0 ?_
    refine x_goto X' dL_together_10 rfl ?_
    refine x_iconst X' (v := 0) dL_together_17 (by decide) ?_
    exact x_iret X' dL_together_18 ⟨0, rfl, hq⟩
theorem dL_pairSaved_0 : decode cL_pairSaved 0 = .ok (.aload_n 3, 1) := by decide +kernel
theorem dL_pairSaved_1 : decode cL_pairSaved 1 = .ok (.iconst 0, 1) := by decide +kernel
theorem dL_pairSaved_2 : decode cL_pairSaved 2 = .ok (.aload_n 0, 1) := by decide +kernel
theorem dL_pairSaved_3 : decode cL_pairSaved 3 = .ok (.iload_n 1, 1) := by decide +kernel
theorem dL_pairSaved_4 : decode cL_pairSaved 4 = .ok (.iload_n 2, 1) := by decide +kernel
theorem dL_pairSaved_5 : decode cL_pairSaved 5 = .ok (.invokevirtual 40, 3) := by decide +kernel
theorem dL_pairSaved_8 : decode cL_pairSaved 8 = .ok (.i2l, 1) := by decide +kernel
theorem dL_pairSaved_9 : decode cL_pairSaved 9 = .ok (.lastore, 1) := by decide +kernel
theorem dL_pairSaved_10 : decode cL_pairSaved 10 = .ok (.goto 7, 3) := by decide +kernel
theorem dL_pairSaved_13 : decode cL_pairSaved 13 = .ok (.astore 4, 2) := by decide +kernel
theorem dL_pairSaved_15 : decode cL_pairSaved 15 = .ok (.iconst 1, 1) := by decide +kernel
theorem dL_pairSaved_16 : decode cL_pairSaved 16 = .ok (.ireturn, 1) := by decide +kernel
theorem dL_pairSaved_17 : decode cL_pairSaved 17 = .ok (.iconst 0, 1) := by decide +kernel
theorem dL_pairSaved_18 : decode cL_pairSaved 18 = .ok (.ireturn, 1) := by decide +kernel
theorem lw_pairSaved : Cond.codeWith yL_pairSaved cL_pairSaved 5 (some .int) [(0, 10, 13, 13)] ∈ lw_big := x_t5 (List.mem_of_getElem? (i := 164) rfl) rfl
theorem ls_pairSaved : Cond.static yL_pairSaved ∈ lw_big := x_t5 (List.mem_of_getElem? (i := 163) rfl) rfl
theorem lc_pairSaved : x_CW yL_pairSaved cL_pairSaved 5 (some .int) [(0, 10, 13, 13)] 4 := ⟨lw_pairSaved, w_1_0, by decide +kernel, by decide +kernel⟩
def wL_pairSaved (a1 : Int32) (a2 : Int32) (σ : x_S) (τ : x_L) (Q : Int32 → x_S → x_L → Prop) : Prop := wX10_pairSaved a1 a2 σ τ (fun (r : Int32) σ τ => Q 0 σ (x_upL τ 87 0 r.toInt64)) (fun E σ τ => (E = eIO ∧ Q 1 σ τ))
set_option maxRecDepth 100000 in
set_option maxHeartbeats 4000000 in
theorem kL_pairSaved {ad : Nat → Nat} {a1 : Int32} {a2 : Int32} {σ : x_S} {τ : x_L} {Q : Int32 → x_S → x_L → Prop} (h : wL_pairSaved a1 a2 σ τ Q) : x_MetK yL_pairSaved cL_pairSaved 5 (some .int) [(0, 10, 13, 13)] 8 4 ad dsX [.ref (ad 0), .int a1, .int a2, .ref (ad 87)] σ τ (x_PI Q) := by
  unfold wL_pairSaved at h
  refine x_metH (by decide +kernel) (Nat.le_of_ble_eq_true rfl) (fun V Y => ?_)
  have Y : x_IsH V cL_pairSaved 5 RL (some .int) ad dsX 8 (x_PI Q) [(0, 10, 13, 13)] 0 4 := Y
  have X := x_isH Y
  show V σ τ 0 [(0, .ref (ad 0)), (1, .int a1), (2, .int a2), (3, .ref (ad 87))] []
  refine x_aload_n X dL_pairSaved_0 rfl 3 rfl ?_
  refine x_iconst X (v := 0) dL_pairSaved_1 (by decide) ?_
  refine x_aload_n X dL_pairSaved_2 rfl 0 rfl ?_
  refine x_iload_n X dL_pairSaved_3 rfl 1 rfl ?_
  refine x_iload_n X dL_pairSaved_4 rfl 2 rfl ?_
  refine x_callH Y (k := 4) (As := [.int a1, .int a2]) [.int 0, .ref (ad 87)] dL_pairSaved_5 (kX10_pairSaved h) cm_X10_pairSaved ci_X10_pairSaved w_5_165 dsX_0 (by decide) (by decide) rfl (Nat.le_of_ble_eq_true rfl) (fun V' E σ' τ' q Y' hq => ?_) (fun V' v σ' τ' Y' hq => ?_)
  · obtain ⟨rfl, hq⟩ := hq
    refine ⟨13, ⟨[], _, _, rfl, fun z hz => (nomatch hz), rfl, by decide, w_4_180, rfl⟩, ?_⟩
    have X' := x_isH Y'
    refine x_astore X' dL_pairSaved_13 (by decide) rfl ?_
    refine x_iconst X' (v := 1) dL_pairSaved_15 (by decide) ?_
    exact x_iret X' dL_pairSaved_16 ⟨1, rfl, hq⟩
  · obtain ⟨r, rfl, hq⟩ := hq
    have X' := x_isH Y'
    show V' σ' τ' _ _ [.int r, .int 0, .ref (ad 87)]
    refine x_i2l X' dL_pairSaved_8 ?_
    refine x_last X' (k := 87) (n := 1) dL_pairSaved_9 dsX_87 z_in0 ?_
    refine x_goto X' dL_pairSaved_10 rfl ?_
    refine x_iconst X' (v := 0) dL_pairSaved_17 (by decide) ?_
    exact x_iret X' dL_pairSaved_18 ⟨0, rfl, hq⟩
theorem dL_run_0 : decode cL_run 0 = .ok (.aload 4, 2) := by decide +kernel
theorem dL_run_2 : decode cL_run 2 = .ok (.iconst 0, 1) := by decide +kernel
theorem dL_run_3 : decode cL_run 3 = .ok (.aload_n 0, 1) := by decide +kernel
theorem dL_run_4 : decode cL_run 4 = .ok (.iload_n 1, 1) := by decide +kernel
theorem dL_run_5 : decode cL_run 5 = .ok (.iload_n 2, 1) := by decide +kernel
theorem dL_run_6 : decode cL_run 6 = .ok (.iload_n 3, 1) := by decide +kernel
theorem dL_run_7 : decode cL_run 7 = .ok (.invokevirtual 43, 3) := by decide +kernel
theorem dL_run_10 : decode cL_run 10 = .ok (.i2l, 1) := by decide +kernel
theorem dL_run_11 : decode cL_run 11 = .ok (.lastore, 1) := by decide +kernel
theorem dL_run_12 : decode cL_run 12 = .ok (.goto 11, 3) := by decide +kernel
theorem dL_run_15 : decode cL_run 15 = .ok (.astore 5, 2) := by decide +kernel
theorem dL_run_17 : decode cL_run 17 = .ok (.iconst 1, 1) := by decide +kernel
theorem dL_run_18 : decode cL_run 18 = .ok (.ireturn, 1) := by decide +kernel
theorem dL_run_19 : decode cL_run 19 = .ok (.astore 5, 2) := by decide +kernel
theorem dL_run_21 : decode cL_run 21 = .ok (.iconst 2, 1) := by decide +kernel
theorem dL_run_22 : decode cL_run 22 = .ok (.ireturn, 1) := by decide +kernel
theorem dL_run_23 : decode cL_run 23 = .ok (.iconst 0, 1) := by decide +kernel
theorem dL_run_24 : decode cL_run 24 = .ok (.ireturn, 1) := by decide +kernel
theorem lw_run : Cond.codeWith yL_run cL_run 6 (some .int) [(0, 12, 15, 13), (0, 12, 19, 46)] ∈ lw_big := x_t5 (List.mem_of_getElem? (i := 176) rfl) rfl
theorem ls_run : Cond.static yL_run ∈ lw_big := x_t5 (List.mem_of_getElem? (i := 175) rfl) rfl
theorem lc_run : x_CW yL_run cL_run 6 (some .int) [(0, 12, 15, 13), (0, 12, 19, 46)] 5 := ⟨lw_run, w_1_0, by decide +kernel, by decide +kernel⟩
def wL_run (a1 : Int32) (a2 : Int32) (a3 : Int32) (σ : x_S) (τ : x_L) (Q : Int32 → x_S → x_L → Prop) : Prop := wX10_run a1 a2 a3 σ τ (fun (r : Int32) σ τ => Q 0 σ (x_upL τ 87 0 r.toInt64)) (fun E σ τ => (E = eIO ∧ Q 1 σ τ) ∨ (E = eIA ∧ Q 2 σ τ))
set_option maxRecDepth 100000 in
set_option maxHeartbeats 4000000 in
theorem kL_run {ad : Nat → Nat} {a1 : Int32} {a2 : Int32} {a3 : Int32} {σ : x_S} {τ : x_L} {Q : Int32 → x_S → x_L → Prop} (h : wL_run a1 a2 a3 σ τ Q) : x_MetK yL_run cL_run 6 (some .int) [(0, 12, 15, 13), (0, 12, 19, 46)] 8 4 ad dsX [.ref (ad 0), .int a1, .int a2, .int a3, .ref (ad 87)] σ τ (x_PI Q) := by
  unfold wL_run at h
  refine x_metH (by decide +kernel) (Nat.le_of_ble_eq_true rfl) (fun V Y => ?_)
  have Y : x_IsH V cL_run 6 RL (some .int) ad dsX 8 (x_PI Q) [(0, 12, 15, 13), (0, 12, 19, 46)] 0 4 := Y
  have X := x_isH Y
  show V σ τ 0 [(0, .ref (ad 0)), (1, .int a1), (2, .int a2), (3, .int a3), (4, .ref (ad 87))] []
  refine x_aload X dL_run_0 4 rfl ?_
  refine x_iconst X (v := 0) dL_run_2 (by decide) ?_
  refine x_aload_n X dL_run_3 rfl 0 rfl ?_
  refine x_iload_n X dL_run_4 rfl 1 rfl ?_
  refine x_iload_n X dL_run_5 rfl 2 rfl ?_
  refine x_iload_n X dL_run_6 rfl 3 rfl ?_
  refine x_callH Y (k := 4) (As := [.int a1, .int a2, .int a3]) [.int 0, .ref (ad 87)] dL_run_7 (kX10_run h) cm_X10_run ci_X10_run w_5_178 dsX_0 (by decide) (by decide) rfl (Nat.le_of_ble_eq_true rfl) (fun V' E σ' τ' q Y' hq => ?_) (fun V' v σ' τ' Y' hq => ?_)
  · rcases hq with hq | hq
    · obtain ⟨rfl, hq⟩ := hq
      refine ⟨15, ⟨[], _, _, rfl, fun z hz => (nomatch hz), rfl, by decide, w_4_180, rfl⟩, ?_⟩
      have X' := x_isH Y'
      refine x_astore X' dL_run_15 (by decide) rfl ?_
      refine x_iconst X' (v := 1) dL_run_17 (by decide) ?_
      exact x_iret X' dL_run_18 ⟨1, rfl, hq⟩
    · obtain ⟨rfl, hq⟩ := hq
      refine ⟨19, ⟨[_], _, [], rfl, fun z hz => by
      obtain rfl := List.mem_singleton.mp hz
      exact Or.inr ⟨by decide, eIO, w_4_180, by decide⟩, rfl, by decide, w_5_177, rfl⟩, ?_⟩
      have X' := x_isH Y'
      refine x_astore X' dL_run_19 (by decide) rfl ?_
      refine x_iconst X' (v := 2) dL_run_21 (by decide) ?_
      exact x_iret X' dL_run_22 ⟨2, rfl, hq⟩
  · obtain ⟨r, rfl, hq⟩ := hq
    have X' := x_isH Y'
    show V' σ' τ' _ _ [.int r, .int 0, .ref (ad 87)]
    refine x_i2l X' dL_run_10 ?_
    refine x_last X' (k := 87) (n := 1) dL_run_11 dsX_87 z_in0 ?_
    refine x_goto X' dL_run_12 rfl ?_
    refine x_iconst X' (v := 0) dL_run_23 (by decide) ?_
    exact x_iret X' dL_run_24 ⟨0, rfl, hq⟩
theorem dL_common_0 : decode cL_common 0 = .ok (.aload_n 3, 1) := by decide +kernel
theorem dL_common_1 : decode cL_common 1 = .ok (.iconst 0, 1) := by decide +kernel
theorem dL_common_2 : decode cL_common 2 = .ok (.aload_n 0, 1) := by decide +kernel
theorem dL_common_3 : decode cL_common 3 = .ok (.iload_n 1, 1) := by decide +kernel
theorem dL_common_4 : decode cL_common 4 = .ok (.iload_n 2, 1) := by decide +kernel
theorem dL_common_5 : decode cL_common 5 = .ok (.invokevirtual 48, 3) := by decide +kernel
theorem dL_common_8 : decode cL_common 8 = .ok (.i2l, 1) := by decide +kernel
theorem dL_common_9 : decode cL_common 9 = .ok (.lastore, 1) := by decide +kernel
theorem dL_common_10 : decode cL_common 10 = .ok (.goto 7, 3) := by decide +kernel
theorem dL_common_13 : decode cL_common 13 = .ok (.astore 4, 2) := by decide +kernel
theorem dL_common_15 : decode cL_common 15 = .ok (.iconst 1, 1) := by decide +kernel
theorem dL_common_16 : decode cL_common 16 = .ok (.ireturn, 1) := by decide +kernel
theorem dL_common_17 : decode cL_common 17 = .ok (.iconst 0, 1) := by decide +kernel
theorem dL_common_18 : decode cL_common 18 = .ok (.ireturn, 1) := by decide +kernel
theorem lw_common : Cond.codeWith yL_common cL_common 5 (some .int) [(0, 10, 13, 13)] ∈ lw_big := x_t5 (List.mem_of_getElem? (i := 204) rfl) rfl
theorem ls_common : Cond.static yL_common ∈ lw_big := x_t5 (List.mem_of_getElem? (i := 203) rfl) rfl
theorem lc_common : x_CW yL_common cL_common 5 (some .int) [(0, 10, 13, 13)] 4 := ⟨lw_common, w_1_0, by decide +kernel, by decide +kernel⟩
def wL_common (a1 : Int32) (a2 : Int32) (σ : x_S) (τ : x_L) (Q : Int32 → x_S → x_L → Prop) : Prop := wX10_common a1 a2 σ τ (fun (r : Int32) σ τ => Q 0 σ (x_upL τ 87 0 r.toInt64)) (fun E σ τ => (E = eIO ∧ Q 1 σ τ))
set_option maxRecDepth 100000 in
set_option maxHeartbeats 4000000 in
theorem kL_common {ad : Nat → Nat} {a1 : Int32} {a2 : Int32} {σ : x_S} {τ : x_L} {Q : Int32 → x_S → x_L → Prop} (h : wL_common a1 a2 σ τ Q) : x_MetK yL_common cL_common 5 (some .int) [(0, 10, 13, 13)] 8 4 ad dsX [.ref (ad 0), .int a1, .int a2, .ref (ad 87)] σ τ (x_PI Q) := by
  unfold wL_common at h
  refine x_metH (by decide +kernel) (Nat.le_of_ble_eq_true rfl) (fun V Y => ?_)
  have Y : x_IsH V cL_common 5 RL (some .int) ad dsX 8 (x_PI Q) [(0, 10, 13, 13)] 0 4 := Y
  have X := x_isH Y
  show V σ τ 0 [(0, .ref (ad 0)), (1, .int a1), (2, .int a2), (3, .ref (ad 87))] []
  refine x_aload_n X dL_common_0 rfl 3 rfl ?_
  refine x_iconst X (v := 0) dL_common_1 (by decide) ?_
  refine x_aload_n X dL_common_2 rfl 0 rfl ?_
  refine x_iload_n X dL_common_3 rfl 1 rfl ?_
  refine x_iload_n X dL_common_4 rfl 2 rfl ?_
  refine x_callH Y (k := 4) (As := [.int a1, .int a2]) [.int 0, .ref (ad 87)] dL_common_5 (kX10_common h) cm_X10_common ci_X10_common w_5_205 dsX_0 (by decide) (by decide) rfl (Nat.le_of_ble_eq_true rfl) (fun V' E σ' τ' q Y' hq => ?_) (fun V' v σ' τ' Y' hq => ?_)
  · obtain ⟨rfl, hq⟩ := hq
    refine ⟨13, ⟨[], _, _, rfl, fun z hz => (nomatch hz), rfl, by decide, w_4_180, rfl⟩, ?_⟩
    have X' := x_isH Y'
    refine x_astore X' dL_common_13 (by decide) rfl ?_
    refine x_iconst X' (v := 1) dL_common_15 (by decide) ?_
    exact x_iret X' dL_common_16 ⟨1, rfl, hq⟩
  · obtain ⟨r, rfl, hq⟩ := hq
    have X' := x_isH Y'
    show V' σ' τ' _ _ [.int r, .int 0, .ref (ad 87)]
    refine x_i2l X' dL_common_8 ?_
    refine x_last X' (k := 87) (n := 1) dL_common_9 dsX_87 z_in0 ?_
    refine x_goto X' dL_common_10 rfl ?_
    refine x_iconst X' (v := 0) dL_common_17 (by decide) ?_
    exact x_iret X' dL_common_18 ⟨0, rfl, hq⟩
theorem dL_slack_0 : decode cL_slack 0 = .ok (.aload_n 2, 1) := by decide +kernel
theorem dL_slack_1 : decode cL_slack 1 = .ok (.iconst 0, 1) := by decide +kernel
theorem dL_slack_2 : decode cL_slack 2 = .ok (.aload_n 0, 1) := by decide +kernel
theorem dL_slack_3 : decode cL_slack 3 = .ok (.iload_n 1, 1) := by decide +kernel
theorem dL_slack_4 : decode cL_slack 4 = .ok (.invokevirtual 51, 3) := by decide +kernel
theorem dL_slack_7 : decode cL_slack 7 = .ok (.i2l, 1) := by decide +kernel
theorem dL_slack_8 : decode cL_slack 8 = .ok (.lastore, 1) := by decide +kernel
theorem dL_slack_9 : decode cL_slack 9 = .ok (.goto 6, 3) := by decide +kernel
theorem dL_slack_12 : decode cL_slack 12 = .ok (.astore_n 3, 1) := by decide +kernel
theorem dL_slack_13 : decode cL_slack 13 = .ok (.iconst 1, 1) := by decide +kernel
theorem dL_slack_14 : decode cL_slack 14 = .ok (.ireturn, 1) := by decide +kernel
theorem dL_slack_15 : decode cL_slack 15 = .ok (.iconst 0, 1) := by decide +kernel
theorem dL_slack_16 : decode cL_slack 16 = .ok (.ireturn, 1) := by decide +kernel
theorem lw_slack : Cond.codeWith yL_slack cL_slack 4 (some .int) [(0, 9, 12, 13)] ∈ lw_big := x_t5 (List.mem_of_getElem? (i := 216) rfl) rfl
theorem ls_slack : Cond.static yL_slack ∈ lw_big := x_t5 (List.mem_of_getElem? (i := 215) rfl) rfl
theorem lc_slack : x_CW yL_slack cL_slack 4 (some .int) [(0, 9, 12, 13)] 3 := ⟨lw_slack, w_1_0, by decide +kernel, by decide +kernel⟩
def wL_slack (a1 : Int32) (σ : x_S) (τ : x_L) (Q : Int32 → x_S → x_L → Prop) : Prop := wX10_slack a1 σ τ (fun (r : Int32) σ τ => Q 0 σ (x_upL τ 87 0 r.toInt64)) (fun E σ τ => (E = eIO ∧ Q 1 σ τ))
set_option maxRecDepth 100000 in
set_option maxHeartbeats 4000000 in
theorem kL_slack {ad : Nat → Nat} {a1 : Int32} {σ : x_S} {τ : x_L} {Q : Int32 → x_S → x_L → Prop} (h : wL_slack a1 σ τ Q) : x_MetK yL_slack cL_slack 4 (some .int) [(0, 9, 12, 13)] 8 4 ad dsX [.ref (ad 0), .int a1, .ref (ad 87)] σ τ (x_PI Q) := by
  unfold wL_slack at h
  refine x_metH (by decide +kernel) (Nat.le_of_ble_eq_true rfl) (fun V Y => ?_)
  have Y : x_IsH V cL_slack 4 RL (some .int) ad dsX 8 (x_PI Q) [(0, 9, 12, 13)] 0 4 := Y
  have X := x_isH Y
  show V σ τ 0 [(0, .ref (ad 0)), (1, .int a1), (2, .ref (ad 87))] []
  refine x_aload_n X dL_slack_0 rfl 2 rfl ?_
  refine x_iconst X (v := 0) dL_slack_1 (by decide) ?_
  refine x_aload_n X dL_slack_2 rfl 0 rfl ?_
  refine x_iload_n X dL_slack_3 rfl 1 rfl ?_
  refine x_callH Y (k := 4) (As := [.int a1]) [.int 0, .ref (ad 87)] dL_slack_4 (kX10_slack h) cm_X10_slack ci_X10_slack w_5_217 dsX_0 (by decide) (by decide) rfl (Nat.le_of_ble_eq_true rfl) (fun V' E σ' τ' q Y' hq => ?_) (fun V' v σ' τ' Y' hq => ?_)
  · obtain ⟨rfl, hq⟩ := hq
    refine ⟨12, ⟨[], _, _, rfl, fun z hz => (nomatch hz), rfl, by decide, w_4_180, rfl⟩, ?_⟩
    have X' := x_isH Y'
    refine x_astore_n X' dL_slack_12 rfl (by decide) rfl ?_
    refine x_iconst X' (v := 1) dL_slack_13 (by decide) ?_
    exact x_iret X' dL_slack_14 ⟨1, rfl, hq⟩
  · obtain ⟨r, rfl, hq⟩ := hq
    have X' := x_isH Y'
    show V' σ' τ' _ _ [.int r, .int 0, .ref (ad 87)]
    refine x_i2l X' dL_slack_7 ?_
    refine x_last X' (k := 87) (n := 1) dL_slack_8 dsX_87 z_in0 ?_
    refine x_goto X' dL_slack_9 rfl ?_
    refine x_iconst X' (v := 0) dL_slack_15 (by decide) ?_
    exact x_iret X' dL_slack_16 ⟨0, rfl, hq⟩
theorem dL_neededSpeed_0 : decode cL_neededSpeed 0 = .ok (.aload 4, 2) := by decide +kernel
theorem dL_neededSpeed_2 : decode cL_neededSpeed 2 = .ok (.iconst 0, 1) := by decide +kernel
theorem dL_neededSpeed_3 : decode cL_neededSpeed 3 = .ok (.aload_n 0, 1) := by decide +kernel
theorem dL_neededSpeed_4 : decode cL_neededSpeed 4 = .ok (.iload_n 1, 1) := by decide +kernel
theorem dL_neededSpeed_5 : decode cL_neededSpeed 5 = .ok (.iload_n 2, 1) := by decide +kernel
theorem dL_neededSpeed_6 : decode cL_neededSpeed 6 = .ok (.iload_n 3, 1) := by decide +kernel
theorem dL_neededSpeed_7 : decode cL_neededSpeed 7 = .ok (.invokevirtual 55, 3) := by decide +kernel
theorem dL_neededSpeed_10 : decode cL_neededSpeed 10 = .ok (.i2l, 1) := by decide +kernel
theorem dL_neededSpeed_11 : decode cL_neededSpeed 11 = .ok (.lastore, 1) := by decide +kernel
theorem dL_neededSpeed_12 : decode cL_neededSpeed 12 = .ok (.goto 11, 3) := by decide +kernel
theorem dL_neededSpeed_15 : decode cL_neededSpeed 15 = .ok (.astore 5, 2) := by decide +kernel
theorem dL_neededSpeed_17 : decode cL_neededSpeed 17 = .ok (.iconst 1, 1) := by decide +kernel
theorem dL_neededSpeed_18 : decode cL_neededSpeed 18 = .ok (.ireturn, 1) := by decide +kernel
theorem dL_neededSpeed_19 : decode cL_neededSpeed 19 = .ok (.astore 5, 2) := by decide +kernel
theorem dL_neededSpeed_21 : decode cL_neededSpeed 21 = .ok (.iconst 2, 1) := by decide +kernel
theorem dL_neededSpeed_22 : decode cL_neededSpeed 22 = .ok (.ireturn, 1) := by decide +kernel
theorem dL_neededSpeed_23 : decode cL_neededSpeed 23 = .ok (.iconst 0, 1) := by decide +kernel
theorem dL_neededSpeed_24 : decode cL_neededSpeed 24 = .ok (.ireturn, 1) := by decide +kernel
theorem lw_neededSpeed : Cond.codeWith yL_neededSpeed cL_neededSpeed 6 (some .int) [(0, 12, 15, 13), (0, 12, 19, 46)] ∈ lw_big := x_t5 (List.mem_of_getElem? (i := 223) rfl) rfl
theorem ls_neededSpeed : Cond.static yL_neededSpeed ∈ lw_big := x_t5 (List.mem_of_getElem? (i := 222) rfl) rfl
theorem lc_neededSpeed : x_CW yL_neededSpeed cL_neededSpeed 6 (some .int) [(0, 12, 15, 13), (0, 12, 19, 46)] 5 := ⟨lw_neededSpeed, w_1_0, by decide +kernel, by decide +kernel⟩
def wL_neededSpeed (a1 : Int32) (a2 : Int32) (a3 : Int32) (σ : x_S) (τ : x_L) (Q : Int32 → x_S → x_L → Prop) : Prop := wX10_neededSpeed a1 a2 a3 σ τ (fun (r : Int32) σ τ => Q 0 σ (x_upL τ 87 0 r.toInt64)) (fun E σ τ => (E = eIO ∧ Q 1 σ τ) ∨ (E = eIA ∧ Q 2 σ τ))
set_option maxRecDepth 100000 in
set_option maxHeartbeats 4000000 in
theorem kL_neededSpeed {ad : Nat → Nat} {a1 : Int32} {a2 : Int32} {a3 : Int32} {σ : x_S} {τ : x_L} {Q : Int32 → x_S → x_L → Prop} (h : wL_neededSpeed a1 a2 a3 σ τ Q) : x_MetK yL_neededSpeed cL_neededSpeed 6 (some .int) [(0, 12, 15, 13), (0, 12, 19, 46)] 8 4 ad dsX [.ref (ad 0), .int a1, .int a2, .int a3, .ref (ad 87)] σ τ (x_PI Q) := by
  unfold wL_neededSpeed at h
  refine x_metH (by decide +kernel) (Nat.le_of_ble_eq_true rfl) (fun V Y => ?_)
  have Y : x_IsH V cL_neededSpeed 6 RL (some .int) ad dsX 8 (x_PI Q) [(0, 12, 15, 13), (0, 12, 19, 46)] 0 4 := Y
  have X := x_isH Y
  show V σ τ 0 [(0, .ref (ad 0)), (1, .int a1), (2, .int a2), (3, .int a3), (4, .ref (ad 87))] []
  refine x_aload X dL_neededSpeed_0 4 rfl ?_
  refine x_iconst X (v := 0) dL_neededSpeed_2 (by decide) ?_
  refine x_aload_n X dL_neededSpeed_3 rfl 0 rfl ?_
  refine x_iload_n X dL_neededSpeed_4 rfl 1 rfl ?_
  refine x_iload_n X dL_neededSpeed_5 rfl 2 rfl ?_
  refine x_iload_n X dL_neededSpeed_6 rfl 3 rfl ?_
  refine x_callH Y (k := 4) (As := [.int a1, .int a2, .int a3]) [.int 0, .ref (ad 87)] dL_neededSpeed_7 (kX10_neededSpeed h) cm_X10_neededSpeed ci_X10_neededSpeed w_5_224 dsX_0 (by decide) (by decide) rfl (Nat.le_of_ble_eq_true rfl) (fun V' E σ' τ' q Y' hq => ?_) (fun V' v σ' τ' Y' hq => ?_)
  · rcases hq with hq | hq
    · obtain ⟨rfl, hq⟩ := hq
      refine ⟨15, ⟨[], _, _, rfl, fun z hz => (nomatch hz), rfl, by decide, w_4_180, rfl⟩, ?_⟩
      have X' := x_isH Y'
      refine x_astore X' dL_neededSpeed_15 (by decide) rfl ?_
      refine x_iconst X' (v := 1) dL_neededSpeed_17 (by decide) ?_
      exact x_iret X' dL_neededSpeed_18 ⟨1, rfl, hq⟩
    · obtain ⟨rfl, hq⟩ := hq
      refine ⟨19, ⟨[_], _, [], rfl, fun z hz => by
      obtain rfl := List.mem_singleton.mp hz
      exact Or.inr ⟨by decide, eIO, w_4_180, by decide⟩, rfl, by decide, w_5_177, rfl⟩, ?_⟩
      have X' := x_isH Y'
      refine x_astore X' dL_neededSpeed_19 (by decide) rfl ?_
      refine x_iconst X' (v := 2) dL_neededSpeed_21 (by decide) ?_
      exact x_iret X' dL_neededSpeed_22 ⟨2, rfl, hq⟩
  · obtain ⟨r, rfl, hq⟩ := hq
    have X' := x_isH Y'
    show V' σ' τ' _ _ [.int r, .int 0, .ref (ad 87)]
    refine x_i2l X' dL_neededSpeed_10 ?_
    refine x_last X' (k := 87) (n := 1) dL_neededSpeed_11 dsX_87 z_in0 ?_
    refine x_goto X' dL_neededSpeed_12 rfl ?_
    refine x_iconst X' (v := 0) dL_neededSpeed_23 (by decide) ?_
    exact x_iret X' dL_neededSpeed_24 ⟨0, rfl, hq⟩
theorem dL_setWait_0 : decode cL_setWait 0 = .ok (.aload 4, 2) := by decide +kernel
theorem dL_setWait_2 : decode cL_setWait 2 = .ok (.iconst 0, 1) := by decide +kernel
theorem dL_setWait_3 : decode cL_setWait 3 = .ok (.aload_n 0, 1) := by decide +kernel
theorem dL_setWait_4 : decode cL_setWait 4 = .ok (.iload_n 1, 1) := by decide +kernel
theorem dL_setWait_5 : decode cL_setWait 5 = .ok (.iload_n 2, 1) := by decide +kernel
theorem dL_setWait_6 : decode cL_setWait 6 = .ok (.iload_n 3, 1) := by decide +kernel
theorem dL_setWait_7 : decode cL_setWait 7 = .ok (.invokevirtual 58, 3) := by decide +kernel
theorem dL_setWait_10 : decode cL_setWait 10 = .ok (.i2l, 1) := by decide +kernel
theorem dL_setWait_11 : decode cL_setWait 11 = .ok (.lastore, 1) := by decide +kernel
theorem dL_setWait_12 : decode cL_setWait 12 = .ok (.goto 11, 3) := by decide +kernel
theorem dL_setWait_15 : decode cL_setWait 15 = .ok (.astore 5, 2) := by decide +kernel
theorem dL_setWait_17 : decode cL_setWait 17 = .ok (.iconst 1, 1) := by decide +kernel
theorem dL_setWait_18 : decode cL_setWait 18 = .ok (.ireturn, 1) := by decide +kernel
theorem dL_setWait_19 : decode cL_setWait 19 = .ok (.astore 5, 2) := by decide +kernel
theorem dL_setWait_21 : decode cL_setWait 21 = .ok (.iconst 2, 1) := by decide +kernel
theorem dL_setWait_22 : decode cL_setWait 22 = .ok (.ireturn, 1) := by decide +kernel
theorem dL_setWait_23 : decode cL_setWait 23 = .ok (.iconst 0, 1) := by decide +kernel
theorem dL_setWait_24 : decode cL_setWait 24 = .ok (.ireturn, 1) := by decide +kernel
theorem lw_setWait : Cond.codeWith yL_setWait cL_setWait 6 (some .int) [(0, 12, 15, 13), (0, 12, 19, 46)] ∈ lw_big := x_t5 (List.mem_of_getElem? (i := 231) rfl) rfl
theorem ls_setWait : Cond.static yL_setWait ∈ lw_big := x_t5 (List.mem_of_getElem? (i := 230) rfl) rfl
theorem lc_setWait : x_CW yL_setWait cL_setWait 6 (some .int) [(0, 12, 15, 13), (0, 12, 19, 46)] 5 := ⟨lw_setWait, w_1_0, by decide +kernel, by decide +kernel⟩
def wL_setWait (a1 : Int32) (a2 : Int32) (a3 : Int32) (σ : x_S) (τ : x_L) (Q : Int32 → x_S → x_L → Prop) : Prop := wX10_setWait a1 a2 a3 σ τ (fun (r : Int32) σ τ => Q 0 σ (x_upL τ 87 0 r.toInt64)) (fun E σ τ => (E = eIO ∧ Q 1 σ τ) ∨ (E = eIA ∧ Q 2 σ τ))
set_option maxRecDepth 100000 in
set_option maxHeartbeats 4000000 in
theorem kL_setWait {ad : Nat → Nat} {a1 : Int32} {a2 : Int32} {a3 : Int32} {σ : x_S} {τ : x_L} {Q : Int32 → x_S → x_L → Prop} (h : wL_setWait a1 a2 a3 σ τ Q) : x_MetK yL_setWait cL_setWait 6 (some .int) [(0, 12, 15, 13), (0, 12, 19, 46)] 8 4 ad dsX [.ref (ad 0), .int a1, .int a2, .int a3, .ref (ad 87)] σ τ (x_PI Q) := by
  unfold wL_setWait at h
  refine x_metH (by decide +kernel) (Nat.le_of_ble_eq_true rfl) (fun V Y => ?_)
  have Y : x_IsH V cL_setWait 6 RL (some .int) ad dsX 8 (x_PI Q) [(0, 12, 15, 13), (0, 12, 19, 46)] 0 4 := Y
  have X := x_isH Y
  show V σ τ 0 [(0, .ref (ad 0)), (1, .int a1), (2, .int a2), (3, .int a3), (4, .ref (ad 87))] []
  refine x_aload X dL_setWait_0 4 rfl ?_
  refine x_iconst X (v := 0) dL_setWait_2 (by decide) ?_
  refine x_aload_n X dL_setWait_3 rfl 0 rfl ?_
  refine x_iload_n X dL_setWait_4 rfl 1 rfl ?_
  refine x_iload_n X dL_setWait_5 rfl 2 rfl ?_
  refine x_iload_n X dL_setWait_6 rfl 3 rfl ?_
  refine x_callH Y (k := 4) (As := [.int a1, .int a2, .int a3]) [.int 0, .ref (ad 87)] dL_setWait_7 (kX10_setWait h) cm_X10_setWait ci_X10_setWait w_5_232 dsX_0 (by decide) (by decide) rfl (Nat.le_of_ble_eq_true rfl) (fun V' E σ' τ' q Y' hq => ?_) (fun V' v σ' τ' Y' hq => ?_)
  · rcases hq with hq | hq
    · obtain ⟨rfl, hq⟩ := hq
      refine ⟨15, ⟨[], _, _, rfl, fun z hz => (nomatch hz), rfl, by decide, w_4_180, rfl⟩, ?_⟩
      have X' := x_isH Y'
      refine x_astore X' dL_setWait_15 (by decide) rfl ?_
      refine x_iconst X' (v := 1) dL_setWait_17 (by decide) ?_
      exact x_iret X' dL_setWait_18 ⟨1, rfl, hq⟩
    · obtain ⟨rfl, hq⟩ := hq
      refine ⟨19, ⟨[_], _, [], rfl, fun z hz => by
      obtain rfl := List.mem_singleton.mp hz
      exact Or.inr ⟨by decide, eIO, w_4_180, by decide⟩, rfl, by decide, w_5_177, rfl⟩, ?_⟩
      have X' := x_isH Y'
      refine x_astore X' dL_setWait_19 (by decide) rfl ?_
      refine x_iconst X' (v := 2) dL_setWait_21 (by decide) ?_
      exact x_iret X' dL_setWait_22 ⟨2, rfl, hq⟩
  · obtain ⟨r, rfl, hq⟩ := hq
    have X' := x_isH Y'
    show V' σ' τ' _ _ [.int r, .int 0, .ref (ad 87)]
    refine x_i2l X' dL_setWait_10 ?_
    refine x_last X' (k := 87) (n := 1) dL_setWait_11 dsX_87 z_in0 ?_
    refine x_goto X' dL_setWait_12 rfl ?_
    refine x_iconst X' (v := 0) dL_setWait_23 (by decide) ?_
    exact x_iret X' dL_setWait_24 ⟨0, rfl, hq⟩
theorem dL_setSpeed_0 : decode cL_setSpeed 0 = .ok (.aload 4, 2) := by decide +kernel
theorem dL_setSpeed_2 : decode cL_setSpeed 2 = .ok (.iconst 0, 1) := by decide +kernel
theorem dL_setSpeed_3 : decode cL_setSpeed 3 = .ok (.aload_n 0, 1) := by decide +kernel
theorem dL_setSpeed_4 : decode cL_setSpeed 4 = .ok (.iload_n 1, 1) := by decide +kernel
theorem dL_setSpeed_5 : decode cL_setSpeed 5 = .ok (.iload_n 2, 1) := by decide +kernel
theorem dL_setSpeed_6 : decode cL_setSpeed 6 = .ok (.iload_n 3, 1) := by decide +kernel
theorem dL_setSpeed_7 : decode cL_setSpeed 7 = .ok (.invokevirtual 61, 3) := by decide +kernel
theorem dL_setSpeed_10 : decode cL_setSpeed 10 = .ok (.i2l, 1) := by decide +kernel
theorem dL_setSpeed_11 : decode cL_setSpeed 11 = .ok (.lastore, 1) := by decide +kernel
theorem dL_setSpeed_12 : decode cL_setSpeed 12 = .ok (.goto 11, 3) := by decide +kernel
theorem dL_setSpeed_15 : decode cL_setSpeed 15 = .ok (.astore 5, 2) := by decide +kernel
theorem dL_setSpeed_17 : decode cL_setSpeed 17 = .ok (.iconst 1, 1) := by decide +kernel
theorem dL_setSpeed_18 : decode cL_setSpeed 18 = .ok (.ireturn, 1) := by decide +kernel
theorem dL_setSpeed_19 : decode cL_setSpeed 19 = .ok (.astore 5, 2) := by decide +kernel
theorem dL_setSpeed_21 : decode cL_setSpeed 21 = .ok (.iconst 2, 1) := by decide +kernel
theorem dL_setSpeed_22 : decode cL_setSpeed 22 = .ok (.ireturn, 1) := by decide +kernel
theorem dL_setSpeed_23 : decode cL_setSpeed 23 = .ok (.iconst 0, 1) := by decide +kernel
theorem dL_setSpeed_24 : decode cL_setSpeed 24 = .ok (.ireturn, 1) := by decide +kernel
theorem lw_setSpeed : Cond.codeWith yL_setSpeed cL_setSpeed 6 (some .int) [(0, 12, 15, 13), (0, 12, 19, 46)] ∈ lw_big := x_t5 (List.mem_of_getElem? (i := 238) rfl) rfl
theorem ls_setSpeed : Cond.static yL_setSpeed ∈ lw_big := x_t5 (List.mem_of_getElem? (i := 237) rfl) rfl
theorem lc_setSpeed : x_CW yL_setSpeed cL_setSpeed 6 (some .int) [(0, 12, 15, 13), (0, 12, 19, 46)] 5 := ⟨lw_setSpeed, w_1_0, by decide +kernel, by decide +kernel⟩
def wL_setSpeed (a1 : Int32) (a2 : Int32) (a3 : Int32) (σ : x_S) (τ : x_L) (Q : Int32 → x_S → x_L → Prop) : Prop := wX10_setSpeed a1 a2 a3 σ τ (fun (r : Int32) σ τ => Q 0 σ (x_upL τ 87 0 r.toInt64)) (fun E σ τ => (E = eIO ∧ Q 1 σ τ) ∨ (E = eIA ∧ Q 2 σ τ))
set_option maxRecDepth 100000 in
set_option maxHeartbeats 4000000 in
theorem kL_setSpeed {ad : Nat → Nat} {a1 : Int32} {a2 : Int32} {a3 : Int32} {σ : x_S} {τ : x_L} {Q : Int32 → x_S → x_L → Prop} (h : wL_setSpeed a1 a2 a3 σ τ Q) : x_MetK yL_setSpeed cL_setSpeed 6 (some .int) [(0, 12, 15, 13), (0, 12, 19, 46)] 8 4 ad dsX [.ref (ad 0), .int a1, .int a2, .int a3, .ref (ad 87)] σ τ (x_PI Q) := by
  unfold wL_setSpeed at h
  refine x_metH (by decide +kernel) (Nat.le_of_ble_eq_true rfl) (fun V Y => ?_)
  have Y : x_IsH V cL_setSpeed 6 RL (some .int) ad dsX 8 (x_PI Q) [(0, 12, 15, 13), (0, 12, 19, 46)] 0 4 := Y
  have X := x_isH Y
  show V σ τ 0 [(0, .ref (ad 0)), (1, .int a1), (2, .int a2), (3, .int a3), (4, .ref (ad 87))] []
  refine x_aload X dL_setSpeed_0 4 rfl ?_
  refine x_iconst X (v := 0) dL_setSpeed_2 (by decide) ?_
  refine x_aload_n X dL_setSpeed_3 rfl 0 rfl ?_
  refine x_iload_n X dL_setSpeed_4 rfl 1 rfl ?_
  refine x_iload_n X dL_setSpeed_5 rfl 2 rfl ?_
  refine x_iload_n X dL_setSpeed_6 rfl 3 rfl ?_
  refine x_callH Y (k := 4) (As := [.int a1, .int a2, .int a3]) [.int 0, .ref (ad 87)] dL_setSpeed_7 (kX10_setSpeed h) cm_X10_setSpeed ci_X10_setSpeed w_5_239 dsX_0 (by decide) (by decide) rfl (Nat.le_of_ble_eq_true rfl) (fun V' E σ' τ' q Y' hq => ?_) (fun V' v σ' τ' Y' hq => ?_)
  · rcases hq with hq | hq
    · obtain ⟨rfl, hq⟩ := hq
      refine ⟨15, ⟨[], _, _, rfl, fun z hz => (nomatch hz), rfl, by decide, w_4_180, rfl⟩, ?_⟩
      have X' := x_isH Y'
      refine x_astore X' dL_setSpeed_15 (by decide) rfl ?_
      refine x_iconst X' (v := 1) dL_setSpeed_17 (by decide) ?_
      exact x_iret X' dL_setSpeed_18 ⟨1, rfl, hq⟩
    · obtain ⟨rfl, hq⟩ := hq
      refine ⟨19, ⟨[_], _, [], rfl, fun z hz => by
      obtain rfl := List.mem_singleton.mp hz
      exact Or.inr ⟨by decide, eIO, w_4_180, by decide⟩, rfl, by decide, w_5_177, rfl⟩, ?_⟩
      have X' := x_isH Y'
      refine x_astore X' dL_setSpeed_19 (by decide) rfl ?_
      refine x_iconst X' (v := 2) dL_setSpeed_21 (by decide) ?_
      exact x_iret X' dL_setSpeed_22 ⟨2, rfl, hq⟩
  · obtain ⟨r, rfl, hq⟩ := hq
    have X' := x_isH Y'
    show V' σ' τ' _ _ [.int r, .int 0, .ref (ad 87)]
    refine x_i2l X' dL_setSpeed_10 ?_
    refine x_last X' (k := 87) (n := 1) dL_setSpeed_11 dsX_87 z_in0 ?_
    refine x_goto X' dL_setSpeed_12 rfl ?_
    refine x_iconst X' (v := 0) dL_setSpeed_23 (by decide) ?_
    exact x_iret X' dL_setSpeed_24 ⟨0, rfl, hq⟩
theorem dL_setStart_0 : decode cL_setStart 0 = .ok (.aload_n 3, 1) := by decide +kernel
theorem dL_setStart_1 : decode cL_setStart 1 = .ok (.iconst 0, 1) := by decide +kernel
theorem dL_setStart_2 : decode cL_setStart 2 = .ok (.aload_n 0, 1) := by decide +kernel
theorem dL_setStart_3 : decode cL_setStart 3 = .ok (.iload_n 1, 1) := by decide +kernel
theorem dL_setStart_4 : decode cL_setStart 4 = .ok (.iload_n 2, 1) := by decide +kernel
theorem dL_setStart_5 : decode cL_setStart 5 = .ok (.invokevirtual 64, 3) := by decide +kernel
theorem dL_setStart_8 : decode cL_setStart 8 = .ok (.i2l, 1) := by decide +kernel
theorem dL_setStart_9 : decode cL_setStart 9 = .ok (.lastore, 1) := by decide +kernel
theorem dL_setStart_10 : decode cL_setStart 10 = .ok (.goto 11, 3) := by decide +kernel
theorem dL_setStart_13 : decode cL_setStart 13 = .ok (.astore 4, 2) := by decide +kernel
theorem dL_setStart_15 : decode cL_setStart 15 = .ok (.iconst 1, 1) := by decide +kernel
theorem dL_setStart_16 : decode cL_setStart 16 = .ok (.ireturn, 1) := by decide +kernel
theorem dL_setStart_17 : decode cL_setStart 17 = .ok (.astore 4, 2) := by decide +kernel
theorem dL_setStart_19 : decode cL_setStart 19 = .ok (.iconst 2, 1) := by decide +kernel
theorem dL_setStart_20 : decode cL_setStart 20 = .ok (.ireturn, 1) := by decide +kernel
theorem dL_setStart_21 : decode cL_setStart 21 = .ok (.iconst 0, 1) := by decide +kernel
theorem dL_setStart_22 : decode cL_setStart 22 = .ok (.ireturn, 1) := by decide +kernel
theorem lw_setStart : Cond.codeWith yL_setStart cL_setStart 5 (some .int) [(0, 10, 13, 13), (0, 10, 17, 46)] ∈ lw_big := x_t6 (List.mem_of_getElem? (i := 5) rfl) rfl
theorem ls_setStart : Cond.static yL_setStart ∈ lw_big := x_t6 (List.mem_of_getElem? (i := 4) rfl) rfl
theorem lc_setStart : x_CW yL_setStart cL_setStart 5 (some .int) [(0, 10, 13, 13), (0, 10, 17, 46)] 4 := ⟨lw_setStart, w_1_0, by decide +kernel, by decide +kernel⟩
def wL_setStart (a1 : Int32) (a2 : Int32) (σ : x_S) (τ : x_L) (Q : Int32 → x_S → x_L → Prop) : Prop := wX10_setStart a1 a2 σ τ (fun (r : Int32) σ τ => Q 0 σ (x_upL τ 87 0 r.toInt64)) (fun E σ τ => (E = eIO ∧ Q 1 σ τ) ∨ (E = eIA ∧ Q 2 σ τ))
set_option maxRecDepth 100000 in
set_option maxHeartbeats 4000000 in
theorem kL_setStart {ad : Nat → Nat} {a1 : Int32} {a2 : Int32} {σ : x_S} {τ : x_L} {Q : Int32 → x_S → x_L → Prop} (h : wL_setStart a1 a2 σ τ Q) : x_MetK yL_setStart cL_setStart 5 (some .int) [(0, 10, 13, 13), (0, 10, 17, 46)] 8 4 ad dsX [.ref (ad 0), .int a1, .int a2, .ref (ad 87)] σ τ (x_PI Q) := by
  unfold wL_setStart at h
  refine x_metH (by decide +kernel) (Nat.le_of_ble_eq_true rfl) (fun V Y => ?_)
  have Y : x_IsH V cL_setStart 5 RL (some .int) ad dsX 8 (x_PI Q) [(0, 10, 13, 13), (0, 10, 17, 46)] 0 4 := Y
  have X := x_isH Y
  show V σ τ 0 [(0, .ref (ad 0)), (1, .int a1), (2, .int a2), (3, .ref (ad 87))] []
  refine x_aload_n X dL_setStart_0 rfl 3 rfl ?_
  refine x_iconst X (v := 0) dL_setStart_1 (by decide) ?_
  refine x_aload_n X dL_setStart_2 rfl 0 rfl ?_
  refine x_iload_n X dL_setStart_3 rfl 1 rfl ?_
  refine x_iload_n X dL_setStart_4 rfl 2 rfl ?_
  refine x_callH Y (k := 4) (As := [.int a1, .int a2]) [.int 0, .ref (ad 87)] dL_setStart_5 (kX10_setStart h) cm_X10_setStart ci_X10_setStart w_6_6 dsX_0 (by decide) (by decide) rfl (Nat.le_of_ble_eq_true rfl) (fun V' E σ' τ' q Y' hq => ?_) (fun V' v σ' τ' Y' hq => ?_)
  · rcases hq with hq | hq
    · obtain ⟨rfl, hq⟩ := hq
      refine ⟨13, ⟨[], _, _, rfl, fun z hz => (nomatch hz), rfl, by decide, w_4_180, rfl⟩, ?_⟩
      have X' := x_isH Y'
      refine x_astore X' dL_setStart_13 (by decide) rfl ?_
      refine x_iconst X' (v := 1) dL_setStart_15 (by decide) ?_
      exact x_iret X' dL_setStart_16 ⟨1, rfl, hq⟩
    · obtain ⟨rfl, hq⟩ := hq
      refine ⟨17, ⟨[_], _, [], rfl, fun z hz => by
      obtain rfl := List.mem_singleton.mp hz
      exact Or.inr ⟨by decide, eIO, w_4_180, by decide⟩, rfl, by decide, w_5_177, rfl⟩, ?_⟩
      have X' := x_isH Y'
      refine x_astore X' dL_setStart_17 (by decide) rfl ?_
      refine x_iconst X' (v := 2) dL_setStart_19 (by decide) ?_
      exact x_iret X' dL_setStart_20 ⟨2, rfl, hq⟩
  · obtain ⟨r, rfl, hq⟩ := hq
    have X' := x_isH Y'
    show V' σ' τ' _ _ [.int r, .int 0, .ref (ad 87)]
    refine x_i2l X' dL_setStart_8 ?_
    refine x_last X' (k := 87) (n := 1) dL_setStart_9 dsX_87 z_in0 ?_
    refine x_goto X' dL_setStart_10 rfl ?_
    refine x_iconst X' (v := 0) dL_setStart_21 (by decide) ?_
    exact x_iret X' dL_setStart_22 ⟨0, rfl, hq⟩
theorem dL_reason_0 : decode cL_reason 0 = .ok (.aload_n 3, 1) := by decide +kernel
theorem dL_reason_1 : decode cL_reason 1 = .ok (.iconst 0, 1) := by decide +kernel
theorem dL_reason_2 : decode cL_reason 2 = .ok (.aload_n 0, 1) := by decide +kernel
theorem dL_reason_3 : decode cL_reason 3 = .ok (.iload_n 1, 1) := by decide +kernel
theorem dL_reason_4 : decode cL_reason 4 = .ok (.iload_n 2, 1) := by decide +kernel
theorem dL_reason_5 : decode cL_reason 5 = .ok (.invokevirtual 67, 3) := by decide +kernel
theorem dL_reason_8 : decode cL_reason 8 = .ok (.i2l, 1) := by decide +kernel
theorem dL_reason_9 : decode cL_reason 9 = .ok (.lastore, 1) := by decide +kernel
theorem dL_reason_10 : decode cL_reason 10 = .ok (.goto 7, 3) := by decide +kernel
theorem dL_reason_13 : decode cL_reason 13 = .ok (.astore 4, 2) := by decide +kernel
theorem dL_reason_15 : decode cL_reason 15 = .ok (.iconst 1, 1) := by decide +kernel
theorem dL_reason_16 : decode cL_reason 16 = .ok (.ireturn, 1) := by decide +kernel
theorem dL_reason_17 : decode cL_reason 17 = .ok (.iconst 0, 1) := by decide +kernel
theorem dL_reason_18 : decode cL_reason 18 = .ok (.ireturn, 1) := by decide +kernel
theorem lw_reason : Cond.codeWith yL_reason cL_reason 5 (some .int) [(0, 10, 13, 13)] ∈ lw_big := x_t6 (List.mem_of_getElem? (i := 12) rfl) rfl
theorem ls_reason : Cond.static yL_reason ∈ lw_big := x_t6 (List.mem_of_getElem? (i := 11) rfl) rfl
theorem lc_reason : x_CW yL_reason cL_reason 5 (some .int) [(0, 10, 13, 13)] 4 := ⟨lw_reason, w_1_0, by decide +kernel, by decide +kernel⟩
def wL_reason (a1 : Int32) (a2 : Int32) (σ : x_S) (τ : x_L) (Q : Int32 → x_S → x_L → Prop) : Prop := wX10_reason a1 a2 σ τ (fun (r : Int32) σ τ => Q 0 σ (x_upL τ 87 0 r.toInt64)) (fun E σ τ => (E = eIO ∧ Q 1 σ τ))
set_option maxRecDepth 100000 in
set_option maxHeartbeats 4000000 in
theorem kL_reason {ad : Nat → Nat} {a1 : Int32} {a2 : Int32} {σ : x_S} {τ : x_L} {Q : Int32 → x_S → x_L → Prop} (h : wL_reason a1 a2 σ τ Q) : x_MetK yL_reason cL_reason 5 (some .int) [(0, 10, 13, 13)] 8 4 ad dsX [.ref (ad 0), .int a1, .int a2, .ref (ad 87)] σ τ (x_PI Q) := by
  unfold wL_reason at h
  refine x_metH (by decide +kernel) (Nat.le_of_ble_eq_true rfl) (fun V Y => ?_)
  have Y : x_IsH V cL_reason 5 RL (some .int) ad dsX 8 (x_PI Q) [(0, 10, 13, 13)] 0 4 := Y
  have X := x_isH Y
  show V σ τ 0 [(0, .ref (ad 0)), (1, .int a1), (2, .int a2), (3, .ref (ad 87))] []
  refine x_aload_n X dL_reason_0 rfl 3 rfl ?_
  refine x_iconst X (v := 0) dL_reason_1 (by decide) ?_
  refine x_aload_n X dL_reason_2 rfl 0 rfl ?_
  refine x_iload_n X dL_reason_3 rfl 1 rfl ?_
  refine x_iload_n X dL_reason_4 rfl 2 rfl ?_
  refine x_callH Y (k := 4) (As := [.int a1, .int a2]) [.int 0, .ref (ad 87)] dL_reason_5 (kX10_reason h) cm_X10_reason ci_X10_reason w_6_13 dsX_0 (by decide) (by decide) rfl (Nat.le_of_ble_eq_true rfl) (fun V' E σ' τ' q Y' hq => ?_) (fun V' v σ' τ' Y' hq => ?_)
  · obtain ⟨rfl, hq⟩ := hq
    refine ⟨13, ⟨[], _, _, rfl, fun z hz => (nomatch hz), rfl, by decide, w_4_180, rfl⟩, ?_⟩
    have X' := x_isH Y'
    refine x_astore X' dL_reason_13 (by decide) rfl ?_
    refine x_iconst X' (v := 1) dL_reason_15 (by decide) ?_
    exact x_iret X' dL_reason_16 ⟨1, rfl, hq⟩
  · obtain ⟨r, rfl, hq⟩ := hq
    have X' := x_isH Y'
    show V' σ' τ' _ _ [.int r, .int 0, .ref (ad 87)]
    refine x_i2l X' dL_reason_8 ?_
    refine x_last X' (k := 87) (n := 1) dL_reason_9 dsX_87 z_in0 ?_
    refine x_goto X' dL_reason_10 rfl ?_
    refine x_iconst X' (v := 0) dL_reason_17 (by decide) ?_
    exact x_iret X' dL_reason_18 ⟨0, rfl, hq⟩
theorem dL_merge_0 : decode cL_merge 0 = .ok (.aload_n 3, 1) := by decide +kernel
theorem dL_merge_1 : decode cL_merge 1 = .ok (.iconst 0, 1) := by decide +kernel
theorem dL_merge_2 : decode cL_merge 2 = .ok (.aload_n 0, 1) := by decide +kernel
theorem dL_merge_3 : decode cL_merge 3 = .ok (.iload_n 1, 1) := by decide +kernel
theorem dL_merge_4 : decode cL_merge 4 = .ok (.iload_n 2, 1) := by decide +kernel
theorem dL_merge_5 : decode cL_merge 5 = .ok (.invokevirtual 70, 3) := by decide +kernel
theorem dL_merge_8 : decode cL_merge 8 = .ok (.i2l, 1) := by decide +kernel
theorem dL_merge_9 : decode cL_merge 9 = .ok (.lastore, 1) := by decide +kernel
theorem dL_merge_10 : decode cL_merge 10 = .ok (.goto 7, 3) := by decide +kernel
theorem dL_merge_13 : decode cL_merge 13 = .ok (.astore 4, 2) := by decide +kernel
theorem dL_merge_15 : decode cL_merge 15 = .ok (.iconst 1, 1) := by decide +kernel
theorem dL_merge_16 : decode cL_merge 16 = .ok (.ireturn, 1) := by decide +kernel
theorem dL_merge_17 : decode cL_merge 17 = .ok (.iconst 0, 1) := by decide +kernel
theorem dL_merge_18 : decode cL_merge 18 = .ok (.ireturn, 1) := by decide +kernel
theorem lw_merge : Cond.codeWith yL_merge cL_merge 5 (some .int) [(0, 10, 13, 13)] ∈ lw_big := x_t6 (List.mem_of_getElem? (i := 19) rfl) rfl
theorem ls_merge : Cond.static yL_merge ∈ lw_big := x_t6 (List.mem_of_getElem? (i := 18) rfl) rfl
theorem lc_merge : x_CW yL_merge cL_merge 5 (some .int) [(0, 10, 13, 13)] 4 := ⟨lw_merge, w_1_0, by decide +kernel, by decide +kernel⟩
def wL_merge (a1 : Int32) (a2 : Int32) (σ : x_S) (τ : x_L) (Q : Int32 → x_S → x_L → Prop) : Prop := wX10_merge a1 a2 σ τ (fun (r : Int32) σ τ => Q 0 σ (x_upL τ 87 0 r.toInt64)) (fun E σ τ => (E = eIO ∧ Q 1 σ τ))
set_option maxRecDepth 100000 in
set_option maxHeartbeats 4000000 in
theorem kL_merge {ad : Nat → Nat} {a1 : Int32} {a2 : Int32} {σ : x_S} {τ : x_L} {Q : Int32 → x_S → x_L → Prop} (h : wL_merge a1 a2 σ τ Q) : x_MetK yL_merge cL_merge 5 (some .int) [(0, 10, 13, 13)] 8 4 ad dsX [.ref (ad 0), .int a1, .int a2, .ref (ad 87)] σ τ (x_PI Q) := by
  unfold wL_merge at h
  refine x_metH (by decide +kernel) (Nat.le_of_ble_eq_true rfl) (fun V Y => ?_)
  have Y : x_IsH V cL_merge 5 RL (some .int) ad dsX 8 (x_PI Q) [(0, 10, 13, 13)] 0 4 := Y
  have X := x_isH Y
  show V σ τ 0 [(0, .ref (ad 0)), (1, .int a1), (2, .int a2), (3, .ref (ad 87))] []
  refine x_aload_n X dL_merge_0 rfl 3 rfl ?_
  refine x_iconst X (v := 0) dL_merge_1 (by decide) ?_
  refine x_aload_n X dL_merge_2 rfl 0 rfl ?_
  refine x_iload_n X dL_merge_3 rfl 1 rfl ?_
  refine x_iload_n X dL_merge_4 rfl 2 rfl ?_
  refine x_callH Y (k := 4) (As := [.int a1, .int a2]) [.int 0, .ref (ad 87)] dL_merge_5 (kX10_merge h) cm_X10_merge ci_X10_merge w_6_20 dsX_0 (by decide) (by decide) rfl (Nat.le_of_ble_eq_true rfl) (fun V' E σ' τ' q Y' hq => ?_) (fun V' v σ' τ' Y' hq => ?_)
  · obtain ⟨rfl, hq⟩ := hq
    refine ⟨13, ⟨[], _, _, rfl, fun z hz => (nomatch hz), rfl, by decide, w_4_180, rfl⟩, ?_⟩
    have X' := x_isH Y'
    refine x_astore X' dL_merge_13 (by decide) rfl ?_
    refine x_iconst X' (v := 1) dL_merge_15 (by decide) ?_
    exact x_iret X' dL_merge_16 ⟨1, rfl, hq⟩
  · obtain ⟨r, rfl, hq⟩ := hq
    have X' := x_isH Y'
    show V' σ' τ' _ _ [.int r, .int 0, .ref (ad 87)]
    refine x_i2l X' dL_merge_8 ?_
    refine x_last X' (k := 87) (n := 1) dL_merge_9 dsX_87 z_in0 ?_
    refine x_goto X' dL_merge_10 rfl ?_
    refine x_iconst X' (v := 0) dL_merge_17 (by decide) ?_
    exact x_iret X' dL_merge_18 ⟨0, rfl, hq⟩
theorem dL_gain_0 : decode cL_gain 0 = .ok (.aload_n 3, 1) := by decide +kernel
theorem dL_gain_1 : decode cL_gain 1 = .ok (.iconst 0, 1) := by decide +kernel
theorem dL_gain_2 : decode cL_gain 2 = .ok (.aload_n 0, 1) := by decide +kernel
theorem dL_gain_3 : decode cL_gain 3 = .ok (.iload_n 1, 1) := by decide +kernel
theorem dL_gain_4 : decode cL_gain 4 = .ok (.iload_n 2, 1) := by decide +kernel
theorem dL_gain_5 : decode cL_gain 5 = .ok (.invokevirtual 73, 3) := by decide +kernel
theorem dL_gain_8 : decode cL_gain 8 = .ok (.i2l, 1) := by decide +kernel
theorem dL_gain_9 : decode cL_gain 9 = .ok (.lastore, 1) := by decide +kernel
theorem dL_gain_10 : decode cL_gain 10 = .ok (.goto 11, 3) := by decide +kernel
theorem dL_gain_13 : decode cL_gain 13 = .ok (.astore 4, 2) := by decide +kernel
theorem dL_gain_15 : decode cL_gain 15 = .ok (.iconst 1, 1) := by decide +kernel
theorem dL_gain_16 : decode cL_gain 16 = .ok (.ireturn, 1) := by decide +kernel
theorem dL_gain_17 : decode cL_gain 17 = .ok (.astore 4, 2) := by decide +kernel
theorem dL_gain_19 : decode cL_gain 19 = .ok (.iconst 2, 1) := by decide +kernel
theorem dL_gain_20 : decode cL_gain 20 = .ok (.ireturn, 1) := by decide +kernel
theorem dL_gain_21 : decode cL_gain 21 = .ok (.iconst 0, 1) := by decide +kernel
theorem dL_gain_22 : decode cL_gain 22 = .ok (.ireturn, 1) := by decide +kernel
theorem lw_gain : Cond.codeWith yL_gain cL_gain 5 (some .int) [(0, 10, 13, 13), (0, 10, 17, 76)] ∈ lw_big := x_t6 (List.mem_of_getElem? (i := 26) rfl) rfl
theorem ls_gain : Cond.static yL_gain ∈ lw_big := x_t6 (List.mem_of_getElem? (i := 25) rfl) rfl
theorem lc_gain : x_CW yL_gain cL_gain 5 (some .int) [(0, 10, 13, 13), (0, 10, 17, 76)] 4 := ⟨lw_gain, w_1_0, by decide +kernel, by decide +kernel⟩
def wL_gain (a1 : Int32) (a2 : Int32) (σ : x_S) (τ : x_L) (Q : Int32 → x_S → x_L → Prop) : Prop := wX10_gain a1 a2 σ τ (fun (r : Int32) σ τ => Q 0 σ (x_upL τ 87 0 r.toInt64)) (fun E σ τ => (E = eIO ∧ Q 1 σ τ) ∨ (E = eIS ∧ Q 2 σ τ))
set_option maxRecDepth 100000 in
set_option maxHeartbeats 4000000 in
theorem kL_gain {ad : Nat → Nat} {a1 : Int32} {a2 : Int32} {σ : x_S} {τ : x_L} {Q : Int32 → x_S → x_L → Prop} (h : wL_gain a1 a2 σ τ Q) : x_MetK yL_gain cL_gain 5 (some .int) [(0, 10, 13, 13), (0, 10, 17, 76)] 8 4 ad dsX [.ref (ad 0), .int a1, .int a2, .ref (ad 87)] σ τ (x_PI Q) := by
  unfold wL_gain at h
  refine x_metH (by decide +kernel) (Nat.le_of_ble_eq_true rfl) (fun V Y => ?_)
  have Y : x_IsH V cL_gain 5 RL (some .int) ad dsX 8 (x_PI Q) [(0, 10, 13, 13), (0, 10, 17, 76)] 0 4 := Y
  have X := x_isH Y
  show V σ τ 0 [(0, .ref (ad 0)), (1, .int a1), (2, .int a2), (3, .ref (ad 87))] []
  refine x_aload_n X dL_gain_0 rfl 3 rfl ?_
  refine x_iconst X (v := 0) dL_gain_1 (by decide) ?_
  refine x_aload_n X dL_gain_2 rfl 0 rfl ?_
  refine x_iload_n X dL_gain_3 rfl 1 rfl ?_
  refine x_iload_n X dL_gain_4 rfl 2 rfl ?_
  refine x_callH Y (k := 4) (As := [.int a1, .int a2]) [.int 0, .ref (ad 87)] dL_gain_5 (kX10_gain h) cm_X10_gain ci_X10_gain w_6_28 dsX_0 (by decide) (by decide) rfl (Nat.le_of_ble_eq_true rfl) (fun V' E σ' τ' q Y' hq => ?_) (fun V' v σ' τ' Y' hq => ?_)
  · rcases hq with hq | hq
    · obtain ⟨rfl, hq⟩ := hq
      refine ⟨13, ⟨[], _, _, rfl, fun z hz => (nomatch hz), rfl, by decide, w_4_180, rfl⟩, ?_⟩
      have X' := x_isH Y'
      refine x_astore X' dL_gain_13 (by decide) rfl ?_
      refine x_iconst X' (v := 1) dL_gain_15 (by decide) ?_
      exact x_iret X' dL_gain_16 ⟨1, rfl, hq⟩
    · obtain ⟨rfl, hq⟩ := hq
      refine ⟨17, ⟨[_], _, [], rfl, fun z hz => by
      obtain rfl := List.mem_singleton.mp hz
      exact Or.inr ⟨by decide, eIO, w_4_180, by decide⟩, rfl, by decide, w_6_27, rfl⟩, ?_⟩
      have X' := x_isH Y'
      refine x_astore X' dL_gain_17 (by decide) rfl ?_
      refine x_iconst X' (v := 2) dL_gain_19 (by decide) ?_
      exact x_iret X' dL_gain_20 ⟨2, rfl, hq⟩
  · obtain ⟨r, rfl, hq⟩ := hq
    have X' := x_isH Y'
    show V' σ' τ' _ _ [.int r, .int 0, .ref (ad 87)]
    refine x_i2l X' dL_gain_8 ?_
    refine x_last X' (k := 87) (n := 1) dL_gain_9 dsX_87 z_in0 ?_
    refine x_goto X' dL_gain_10 rfl ?_
    refine x_iconst X' (v := 0) dL_gain_21 (by decide) ?_
    exact x_iret X' dL_gain_22 ⟨0, rfl, hq⟩
theorem dL_bestPartner_0 : decode cL_bestPartner 0 = .ok (.aload_n 2, 1) := by decide +kernel
theorem dL_bestPartner_1 : decode cL_bestPartner 1 = .ok (.iconst 0, 1) := by decide +kernel
theorem dL_bestPartner_2 : decode cL_bestPartner 2 = .ok (.aload_n 0, 1) := by decide +kernel
theorem dL_bestPartner_3 : decode cL_bestPartner 3 = .ok (.iload_n 1, 1) := by decide +kernel
theorem dL_bestPartner_4 : decode cL_bestPartner 4 = .ok (.invokevirtual 78, 3) := by decide +kernel
theorem dL_bestPartner_7 : decode cL_bestPartner 7 = .ok (.i2l, 1) := by decide +kernel
theorem dL_bestPartner_8 : decode cL_bestPartner 8 = .ok (.lastore, 1) := by decide +kernel
theorem dL_bestPartner_9 : decode cL_bestPartner 9 = .ok (.goto 6, 3) := by decide +kernel
theorem dL_bestPartner_12 : decode cL_bestPartner 12 = .ok (.astore_n 3, 1) := by decide +kernel
theorem dL_bestPartner_13 : decode cL_bestPartner 13 = .ok (.iconst 1, 1) := by decide +kernel
theorem dL_bestPartner_14 : decode cL_bestPartner 14 = .ok (.ireturn, 1) := by decide +kernel
theorem dL_bestPartner_15 : decode cL_bestPartner 15 = .ok (.iconst 0, 1) := by decide +kernel
theorem dL_bestPartner_16 : decode cL_bestPartner 16 = .ok (.ireturn, 1) := by decide +kernel
theorem lw_bestPartner : Cond.codeWith yL_bestPartner cL_bestPartner 4 (some .int) [(0, 9, 12, 13)] ∈ lw_big := x_t6 (List.mem_of_getElem? (i := 50) rfl) rfl
theorem ls_bestPartner : Cond.static yL_bestPartner ∈ lw_big := x_t6 (List.mem_of_getElem? (i := 49) rfl) rfl
theorem lc_bestPartner : x_CW yL_bestPartner cL_bestPartner 4 (some .int) [(0, 9, 12, 13)] 3 := ⟨lw_bestPartner, w_1_0, by decide +kernel, by decide +kernel⟩
def wL_bestPartner (a1 : Int32) (σ : x_S) (τ : x_L) (Q : Int32 → x_S → x_L → Prop) : Prop := wX10_bestPartner a1 σ τ (fun (r : Int32) σ τ => Q 0 σ (x_upL τ 87 0 r.toInt64)) (fun E σ τ => (E = eIO ∧ Q 1 σ τ))
set_option maxRecDepth 100000 in
set_option maxHeartbeats 4000000 in
theorem kL_bestPartner {ad : Nat → Nat} {a1 : Int32} {σ : x_S} {τ : x_L} {Q : Int32 → x_S → x_L → Prop} (h : wL_bestPartner a1 σ τ Q) : x_MetK yL_bestPartner cL_bestPartner 4 (some .int) [(0, 9, 12, 13)] 8 4 ad dsX [.ref (ad 0), .int a1, .ref (ad 87)] σ τ (x_PI Q) := by
  unfold wL_bestPartner at h
  refine x_metH (by decide +kernel) (Nat.le_of_ble_eq_true rfl) (fun V Y => ?_)
  have Y : x_IsH V cL_bestPartner 4 RL (some .int) ad dsX 8 (x_PI Q) [(0, 9, 12, 13)] 0 4 := Y
  have X := x_isH Y
  show V σ τ 0 [(0, .ref (ad 0)), (1, .int a1), (2, .ref (ad 87))] []
  refine x_aload_n X dL_bestPartner_0 rfl 2 rfl ?_
  refine x_iconst X (v := 0) dL_bestPartner_1 (by decide) ?_
  refine x_aload_n X dL_bestPartner_2 rfl 0 rfl ?_
  refine x_iload_n X dL_bestPartner_3 rfl 1 rfl ?_
  refine x_callH Y (k := 4) (As := [.int a1]) [.int 0, .ref (ad 87)] dL_bestPartner_4 (kX10_bestPartner h) cm_X10_bestPartner ci_X10_bestPartner w_6_51 dsX_0 (by decide) (by decide) rfl (Nat.le_of_ble_eq_true rfl) (fun V' E σ' τ' q Y' hq => ?_) (fun V' v σ' τ' Y' hq => ?_)
  · obtain ⟨rfl, hq⟩ := hq
    refine ⟨12, ⟨[], _, _, rfl, fun z hz => (nomatch hz), rfl, by decide, w_4_180, rfl⟩, ?_⟩
    have X' := x_isH Y'
    refine x_astore_n X' dL_bestPartner_12 rfl (by decide) rfl ?_
    refine x_iconst X' (v := 1) dL_bestPartner_13 (by decide) ?_
    exact x_iret X' dL_bestPartner_14 ⟨1, rfl, hq⟩
  · obtain ⟨r, rfl, hq⟩ := hq
    have X' := x_isH Y'
    show V' σ' τ' _ _ [.int r, .int 0, .ref (ad 87)]
    refine x_i2l X' dL_bestPartner_7 ?_
    refine x_last X' (k := 87) (n := 1) dL_bestPartner_8 dsX_87 z_in0 ?_
    refine x_goto X' dL_bestPartner_9 rfl ?_
    refine x_iconst X' (v := 0) dL_bestPartner_15 (by decide) ?_
    exact x_iret X' dL_bestPartner_16 ⟨0, rfl, hq⟩
theorem dL_hurry_0 : decode cL_hurry 0 = .ok (.aload_n 2, 1) := by decide +kernel
theorem dL_hurry_1 : decode cL_hurry 1 = .ok (.iconst 0, 1) := by decide +kernel
theorem dL_hurry_2 : decode cL_hurry 2 = .ok (.aload_n 0, 1) := by decide +kernel
theorem dL_hurry_3 : decode cL_hurry 3 = .ok (.iload_n 1, 1) := by decide +kernel
theorem dL_hurry_4 : decode cL_hurry 4 = .ok (.invokevirtual 81, 3) := by decide +kernel
theorem dL_hurry_7 : decode cL_hurry 7 = .ok (.i2l, 1) := by decide +kernel
theorem dL_hurry_8 : decode cL_hurry 8 = .ok (.lastore, 1) := by decide +kernel
theorem dL_hurry_9 : decode cL_hurry 9 = .ok (.goto 6, 3) := by decide +kernel
theorem dL_hurry_12 : decode cL_hurry 12 = .ok (.astore_n 3, 1) := by decide +kernel
theorem dL_hurry_13 : decode cL_hurry 13 = .ok (.iconst 1, 1) := by decide +kernel
theorem dL_hurry_14 : decode cL_hurry 14 = .ok (.ireturn, 1) := by decide +kernel
theorem dL_hurry_15 : decode cL_hurry 15 = .ok (.iconst 0, 1) := by decide +kernel
theorem dL_hurry_16 : decode cL_hurry 16 = .ok (.ireturn, 1) := by decide +kernel
theorem lw_hurry : Cond.codeWith yL_hurry cL_hurry 4 (some .int) [(0, 9, 12, 13)] ∈ lw_big := x_t6 (List.mem_of_getElem? (i := 57) rfl) rfl
theorem ls_hurry : Cond.static yL_hurry ∈ lw_big := x_t6 (List.mem_of_getElem? (i := 56) rfl) rfl
theorem lc_hurry : x_CW yL_hurry cL_hurry 4 (some .int) [(0, 9, 12, 13)] 3 := ⟨lw_hurry, w_1_0, by decide +kernel, by decide +kernel⟩
def wL_hurry (a1 : Int32) (σ : x_S) (τ : x_L) (Q : Int32 → x_S → x_L → Prop) : Prop := wX10_hurry a1 σ τ (fun (r : Int32) σ τ => Q 0 σ (x_upL τ 87 0 r.toInt64)) (fun E σ τ => (E = eIO ∧ Q 1 σ τ))
set_option maxRecDepth 100000 in
set_option maxHeartbeats 4000000 in
theorem kL_hurry {ad : Nat → Nat} {a1 : Int32} {σ : x_S} {τ : x_L} {Q : Int32 → x_S → x_L → Prop} (h : wL_hurry a1 σ τ Q) : x_MetK yL_hurry cL_hurry 4 (some .int) [(0, 9, 12, 13)] 8 4 ad dsX [.ref (ad 0), .int a1, .ref (ad 87)] σ τ (x_PI Q) := by
  unfold wL_hurry at h
  refine x_metH (by decide +kernel) (Nat.le_of_ble_eq_true rfl) (fun V Y => ?_)
  have Y : x_IsH V cL_hurry 4 RL (some .int) ad dsX 8 (x_PI Q) [(0, 9, 12, 13)] 0 4 := Y
  have X := x_isH Y
  show V σ τ 0 [(0, .ref (ad 0)), (1, .int a1), (2, .ref (ad 87))] []
  refine x_aload_n X dL_hurry_0 rfl 2 rfl ?_
  refine x_iconst X (v := 0) dL_hurry_1 (by decide) ?_
  refine x_aload_n X dL_hurry_2 rfl 0 rfl ?_
  refine x_iload_n X dL_hurry_3 rfl 1 rfl ?_
  refine x_callH Y (k := 4) (As := [.int a1]) [.int 0, .ref (ad 87)] dL_hurry_4 (kX10_hurry h) cm_X10_hurry ci_X10_hurry w_6_58 dsX_0 (by decide) (by decide) rfl (Nat.le_of_ble_eq_true rfl) (fun V' E σ' τ' q Y' hq => ?_) (fun V' v σ' τ' Y' hq => ?_)
  · obtain ⟨rfl, hq⟩ := hq
    refine ⟨12, ⟨[], _, _, rfl, fun z hz => (nomatch hz), rfl, by decide, w_4_180, rfl⟩, ?_⟩
    have X' := x_isH Y'
    refine x_astore_n X' dL_hurry_12 rfl (by decide) rfl ?_
    refine x_iconst X' (v := 1) dL_hurry_13 (by decide) ?_
    exact x_iret X' dL_hurry_14 ⟨1, rfl, hq⟩
  · obtain ⟨r, rfl, hq⟩ := hq
    have X' := x_isH Y'
    show V' σ' τ' _ _ [.int r, .int 0, .ref (ad 87)]
    refine x_i2l X' dL_hurry_7 ?_
    refine x_last X' (k := 87) (n := 1) dL_hurry_8 dsX_87 z_in0 ?_
    refine x_goto X' dL_hurry_9 rfl ?_
    refine x_iconst X' (v := 0) dL_hurry_15 (by decide) ?_
    exact x_iret X' dL_hurry_16 ⟨0, rfl, hq⟩
theorem dL_relax_0 : decode cL_relax 0 = .ok (.aload_n 2, 1) := by decide +kernel
theorem dL_relax_1 : decode cL_relax 1 = .ok (.iconst 0, 1) := by decide +kernel
theorem dL_relax_2 : decode cL_relax 2 = .ok (.aload_n 0, 1) := by decide +kernel
theorem dL_relax_3 : decode cL_relax 3 = .ok (.iload_n 1, 1) := by decide +kernel
theorem dL_relax_4 : decode cL_relax 4 = .ok (.invokevirtual 84, 3) := by decide +kernel
theorem dL_relax_7 : decode cL_relax 7 = .ok (.i2l, 1) := by decide +kernel
theorem dL_relax_8 : decode cL_relax 8 = .ok (.lastore, 1) := by decide +kernel
theorem dL_relax_9 : decode cL_relax 9 = .ok (.goto 6, 3) := by decide +kernel
theorem dL_relax_12 : decode cL_relax 12 = .ok (.astore_n 3, 1) := by decide +kernel
theorem dL_relax_13 : decode cL_relax 13 = .ok (.iconst 1, 1) := by decide +kernel
theorem dL_relax_14 : decode cL_relax 14 = .ok (.ireturn, 1) := by decide +kernel
theorem dL_relax_15 : decode cL_relax 15 = .ok (.iconst 0, 1) := by decide +kernel
theorem dL_relax_16 : decode cL_relax 16 = .ok (.ireturn, 1) := by decide +kernel
theorem lw_relax : Cond.codeWith yL_relax cL_relax 4 (some .int) [(0, 9, 12, 13)] ∈ lw_big := x_t6 (List.mem_of_getElem? (i := 64) rfl) rfl
theorem ls_relax : Cond.static yL_relax ∈ lw_big := x_t6 (List.mem_of_getElem? (i := 63) rfl) rfl
theorem lc_relax : x_CW yL_relax cL_relax 4 (some .int) [(0, 9, 12, 13)] 3 := ⟨lw_relax, w_1_0, by decide +kernel, by decide +kernel⟩
def wL_relax (a1 : Int32) (σ : x_S) (τ : x_L) (Q : Int32 → x_S → x_L → Prop) : Prop := wX10_relax a1 σ τ (fun (r : Int32) σ τ => Q 0 σ (x_upL τ 87 0 r.toInt64)) (fun E σ τ => (E = eIO ∧ Q 1 σ τ))
set_option maxRecDepth 100000 in
set_option maxHeartbeats 4000000 in
theorem kL_relax {ad : Nat → Nat} {a1 : Int32} {σ : x_S} {τ : x_L} {Q : Int32 → x_S → x_L → Prop} (h : wL_relax a1 σ τ Q) : x_MetK yL_relax cL_relax 4 (some .int) [(0, 9, 12, 13)] 8 4 ad dsX [.ref (ad 0), .int a1, .ref (ad 87)] σ τ (x_PI Q) := by
  unfold wL_relax at h
  refine x_metH (by decide +kernel) (Nat.le_of_ble_eq_true rfl) (fun V Y => ?_)
  have Y : x_IsH V cL_relax 4 RL (some .int) ad dsX 8 (x_PI Q) [(0, 9, 12, 13)] 0 4 := Y
  have X := x_isH Y
  show V σ τ 0 [(0, .ref (ad 0)), (1, .int a1), (2, .ref (ad 87))] []
  refine x_aload_n X dL_relax_0 rfl 2 rfl ?_
  refine x_iconst X (v := 0) dL_relax_1 (by decide) ?_
  refine x_aload_n X dL_relax_2 rfl 0 rfl ?_
  refine x_iload_n X dL_relax_3 rfl 1 rfl ?_
  refine x_callH Y (k := 4) (As := [.int a1]) [.int 0, .ref (ad 87)] dL_relax_4 (kX10_relax h) cm_X10_relax ci_X10_relax w_6_65 dsX_0 (by decide) (by decide) rfl (Nat.le_of_ble_eq_true rfl) (fun V' E σ' τ' q Y' hq => ?_) (fun V' v σ' τ' Y' hq => ?_)
  · obtain ⟨rfl, hq⟩ := hq
    refine ⟨12, ⟨[], _, _, rfl, fun z hz => (nomatch hz), rfl, by decide, w_4_180, rfl⟩, ?_⟩
    have X' := x_isH Y'
    refine x_astore_n X' dL_relax_12 rfl (by decide) rfl ?_
    refine x_iconst X' (v := 1) dL_relax_13 (by decide) ?_
    exact x_iret X' dL_relax_14 ⟨1, rfl, hq⟩
  · obtain ⟨r, rfl, hq⟩ := hq
    have X' := x_isH Y'
    show V' σ' τ' _ _ [.int r, .int 0, .ref (ad 87)]
    refine x_i2l X' dL_relax_7 ?_
    refine x_last X' (k := 87) (n := 1) dL_relax_8 dsX_87 z_in0 ?_
    refine x_goto X' dL_relax_9 rfl ?_
    refine x_iconst X' (v := 0) dL_relax_15 (by decide) ?_
    exact x_iret X' dL_relax_16 ⟨0, rfl, hq⟩
theorem dL_onRoad_0 : decode cL_onRoad 0 = .ok (.aload_n 3, 1) := by decide +kernel
theorem dL_onRoad_1 : decode cL_onRoad 1 = .ok (.iconst 0, 1) := by decide +kernel
theorem dL_onRoad_2 : decode cL_onRoad 2 = .ok (.aload_n 0, 1) := by decide +kernel
theorem dL_onRoad_3 : decode cL_onRoad 3 = .ok (.iload_n 1, 1) := by decide +kernel
theorem dL_onRoad_4 : decode cL_onRoad 4 = .ok (.iload_n 2, 1) := by decide +kernel
theorem dL_onRoad_5 : decode cL_onRoad 5 = .ok (.invokevirtual 87, 3) := by decide +kernel
theorem dL_onRoad_8 : decode cL_onRoad 8 = .ok (.i2l, 1) := by decide +kernel
theorem dL_onRoad_9 : decode cL_onRoad 9 = .ok (.lastore, 1) := by decide +kernel
theorem dL_onRoad_10 : decode cL_onRoad 10 = .ok (.goto 7, 3) := by decide +kernel
theorem dL_onRoad_13 : decode cL_onRoad 13 = .ok (.astore 4, 2) := by decide +kernel
theorem dL_onRoad_15 : decode cL_onRoad 15 = .ok (.iconst 1, 1) := by decide +kernel
theorem dL_onRoad_16 : decode cL_onRoad 16 = .ok (.ireturn, 1) := by decide +kernel
theorem dL_onRoad_17 : decode cL_onRoad 17 = .ok (.iconst 0, 1) := by decide +kernel
theorem dL_onRoad_18 : decode cL_onRoad 18 = .ok (.ireturn, 1) := by decide +kernel
theorem lw_onRoad : Cond.codeWith yL_onRoad cL_onRoad 5 (some .int) [(0, 10, 13, 13)] ∈ lw_big := x_t6 (List.mem_of_getElem? (i := 71) rfl) rfl
theorem ls_onRoad : Cond.static yL_onRoad ∈ lw_big := x_t6 (List.mem_of_getElem? (i := 70) rfl) rfl
theorem lc_onRoad : x_CW yL_onRoad cL_onRoad 5 (some .int) [(0, 10, 13, 13)] 4 := ⟨lw_onRoad, w_1_0, by decide +kernel, by decide +kernel⟩
def wL_onRoad (a1 : Int32) (a2 : Int32) (σ : x_S) (τ : x_L) (Q : Int32 → x_S → x_L → Prop) : Prop := wX10_onRoad a1 a2 σ τ (fun (r : Int32) σ τ => Q 0 σ (x_upL τ 87 0 r.toInt64)) (fun E σ τ => (E = eIO ∧ Q 1 σ τ))
set_option maxRecDepth 100000 in
set_option maxHeartbeats 4000000 in
theorem kL_onRoad {ad : Nat → Nat} {a1 : Int32} {a2 : Int32} {σ : x_S} {τ : x_L} {Q : Int32 → x_S → x_L → Prop} (h : wL_onRoad a1 a2 σ τ Q) : x_MetK yL_onRoad cL_onRoad 5 (some .int) [(0, 10, 13, 13)] 8 4 ad dsX [.ref (ad 0), .int a1, .int a2, .ref (ad 87)] σ τ (x_PI Q) := by
  unfold wL_onRoad at h
  refine x_metH (by decide +kernel) (Nat.le_of_ble_eq_true rfl) (fun V Y => ?_)
  have Y : x_IsH V cL_onRoad 5 RL (some .int) ad dsX 8 (x_PI Q) [(0, 10, 13, 13)] 0 4 := Y
  have X := x_isH Y
  show V σ τ 0 [(0, .ref (ad 0)), (1, .int a1), (2, .int a2), (3, .ref (ad 87))] []
  refine x_aload_n X dL_onRoad_0 rfl 3 rfl ?_
  refine x_iconst X (v := 0) dL_onRoad_1 (by decide) ?_
  refine x_aload_n X dL_onRoad_2 rfl 0 rfl ?_
  refine x_iload_n X dL_onRoad_3 rfl 1 rfl ?_
  refine x_iload_n X dL_onRoad_4 rfl 2 rfl ?_
  refine x_callH Y (k := 4) (As := [.int a1, .int a2]) [.int 0, .ref (ad 87)] dL_onRoad_5 (kX10_onRoad h) cm_X10_onRoad ci_X10_onRoad w_6_72 dsX_0 (by decide) (by decide) rfl (Nat.le_of_ble_eq_true rfl) (fun V' E σ' τ' q Y' hq => ?_) (fun V' v σ' τ' Y' hq => ?_)
  · obtain ⟨rfl, hq⟩ := hq
    refine ⟨13, ⟨[], _, _, rfl, fun z hz => (nomatch hz), rfl, by decide, w_4_180, rfl⟩, ?_⟩
    have X' := x_isH Y'
    refine x_astore X' dL_onRoad_13 (by decide) rfl ?_
    refine x_iconst X' (v := 1) dL_onRoad_15 (by decide) ?_
    exact x_iret X' dL_onRoad_16 ⟨1, rfl, hq⟩
  · obtain ⟨r, rfl, hq⟩ := hq
    have X' := x_isH Y'
    show V' σ' τ' _ _ [.int r, .int 0, .ref (ad 87)]
    refine x_i2l X' dL_onRoad_8 ?_
    refine x_last X' (k := 87) (n := 1) dL_onRoad_9 dsX_87 z_in0 ?_
    refine x_goto X' dL_onRoad_10 rfl ?_
    refine x_iconst X' (v := 0) dL_onRoad_17 (by decide) ?_
    exact x_iret X' dL_onRoad_18 ⟨0, rfl, hq⟩
theorem dL_orderLoss_0 : decode cL_orderLoss 0 = .ok (.aload_n 3, 1) := by decide +kernel
theorem dL_orderLoss_1 : decode cL_orderLoss 1 = .ok (.iconst 0, 1) := by decide +kernel
theorem dL_orderLoss_2 : decode cL_orderLoss 2 = .ok (.aload_n 0, 1) := by decide +kernel
theorem dL_orderLoss_3 : decode cL_orderLoss 3 = .ok (.iload_n 1, 1) := by decide +kernel
theorem dL_orderLoss_4 : decode cL_orderLoss 4 = .ok (.iload_n 2, 1) := by decide +kernel
theorem dL_orderLoss_5 : decode cL_orderLoss 5 = .ok (.invokevirtual 90, 3) := by decide +kernel
theorem dL_orderLoss_8 : decode cL_orderLoss 8 = .ok (.i2l, 1) := by decide +kernel
theorem dL_orderLoss_9 : decode cL_orderLoss 9 = .ok (.lastore, 1) := by decide +kernel
theorem dL_orderLoss_10 : decode cL_orderLoss 10 = .ok (.goto 11, 3) := by decide +kernel
theorem dL_orderLoss_13 : decode cL_orderLoss 13 = .ok (.astore 4, 2) := by decide +kernel
theorem dL_orderLoss_15 : decode cL_orderLoss 15 = .ok (.iconst 1, 1) := by decide +kernel
theorem dL_orderLoss_16 : decode cL_orderLoss 16 = .ok (.ireturn, 1) := by decide +kernel
theorem dL_orderLoss_17 : decode cL_orderLoss 17 = .ok (.astore 4, 2) := by decide +kernel
theorem dL_orderLoss_19 : decode cL_orderLoss 19 = .ok (.iconst 2, 1) := by decide +kernel
theorem dL_orderLoss_20 : decode cL_orderLoss 20 = .ok (.ireturn, 1) := by decide +kernel
theorem dL_orderLoss_21 : decode cL_orderLoss 21 = .ok (.iconst 0, 1) := by decide +kernel
theorem dL_orderLoss_22 : decode cL_orderLoss 22 = .ok (.ireturn, 1) := by decide +kernel
theorem lw_orderLoss : Cond.codeWith yL_orderLoss cL_orderLoss 5 (some .int) [(0, 10, 13, 13), (0, 10, 17, 76)] ∈ lw_big := x_t6 (List.mem_of_getElem? (i := 78) rfl) rfl
theorem ls_orderLoss : Cond.static yL_orderLoss ∈ lw_big := x_t6 (List.mem_of_getElem? (i := 77) rfl) rfl
theorem lc_orderLoss : x_CW yL_orderLoss cL_orderLoss 5 (some .int) [(0, 10, 13, 13), (0, 10, 17, 76)] 4 := ⟨lw_orderLoss, w_1_0, by decide +kernel, by decide +kernel⟩
def wL_orderLoss (a1 : Int32) (a2 : Int32) (σ : x_S) (τ : x_L) (Q : Int32 → x_S → x_L → Prop) : Prop := wX10_orderLoss a1 a2 σ τ (fun (r : Int32) σ τ => Q 0 σ (x_upL τ 87 0 r.toInt64)) (fun E σ τ => (E = eIO ∧ Q 1 σ τ) ∨ (E = eIS ∧ Q 2 σ τ))
set_option maxRecDepth 100000 in
set_option maxHeartbeats 4000000 in
theorem kL_orderLoss {ad : Nat → Nat} {a1 : Int32} {a2 : Int32} {σ : x_S} {τ : x_L} {Q : Int32 → x_S → x_L → Prop} (h : wL_orderLoss a1 a2 σ τ Q) : x_MetK yL_orderLoss cL_orderLoss 5 (some .int) [(0, 10, 13, 13), (0, 10, 17, 76)] 8 4 ad dsX [.ref (ad 0), .int a1, .int a2, .ref (ad 87)] σ τ (x_PI Q) := by
  unfold wL_orderLoss at h
  refine x_metH (by decide +kernel) (Nat.le_of_ble_eq_true rfl) (fun V Y => ?_)
  have Y : x_IsH V cL_orderLoss 5 RL (some .int) ad dsX 8 (x_PI Q) [(0, 10, 13, 13), (0, 10, 17, 76)] 0 4 := Y
  have X := x_isH Y
  show V σ τ 0 [(0, .ref (ad 0)), (1, .int a1), (2, .int a2), (3, .ref (ad 87))] []
  refine x_aload_n X dL_orderLoss_0 rfl 3 rfl ?_
  refine x_iconst X (v := 0) dL_orderLoss_1 (by decide) ?_
  refine x_aload_n X dL_orderLoss_2 rfl 0 rfl ?_
  refine x_iload_n X dL_orderLoss_3 rfl 1 rfl ?_
  refine x_iload_n X dL_orderLoss_4 rfl 2 rfl ?_
  refine x_callH Y (k := 4) (As := [.int a1, .int a2]) [.int 0, .ref (ad 87)] dL_orderLoss_5 (kX10_orderLoss h) cm_X10_orderLoss ci_X10_orderLoss w_6_79 dsX_0 (by decide) (by decide) rfl (Nat.le_of_ble_eq_true rfl) (fun V' E σ' τ' q Y' hq => ?_) (fun V' v σ' τ' Y' hq => ?_)
  · rcases hq with hq | hq
    · obtain ⟨rfl, hq⟩ := hq
      refine ⟨13, ⟨[], _, _, rfl, fun z hz => (nomatch hz), rfl, by decide, w_4_180, rfl⟩, ?_⟩
      have X' := x_isH Y'
      refine x_astore X' dL_orderLoss_13 (by decide) rfl ?_
      refine x_iconst X' (v := 1) dL_orderLoss_15 (by decide) ?_
      exact x_iret X' dL_orderLoss_16 ⟨1, rfl, hq⟩
    · obtain ⟨rfl, hq⟩ := hq
      refine ⟨17, ⟨[_], _, [], rfl, fun z hz => by
      obtain rfl := List.mem_singleton.mp hz
      exact Or.inr ⟨by decide, eIO, w_4_180, by decide⟩, rfl, by decide, w_6_27, rfl⟩, ?_⟩
      have X' := x_isH Y'
      refine x_astore X' dL_orderLoss_17 (by decide) rfl ?_
      refine x_iconst X' (v := 2) dL_orderLoss_19 (by decide) ?_
      exact x_iret X' dL_orderLoss_20 ⟨2, rfl, hq⟩
  · obtain ⟨r, rfl, hq⟩ := hq
    have X' := x_isH Y'
    show V' σ' τ' _ _ [.int r, .int 0, .ref (ad 87)]
    refine x_i2l X' dL_orderLoss_8 ?_
    refine x_last X' (k := 87) (n := 1) dL_orderLoss_9 dsX_87 z_in0 ?_
    refine x_goto X' dL_orderLoss_10 rfl ?_
    refine x_iconst X' (v := 0) dL_orderLoss_21 (by decide) ?_
    exact x_iret X' dL_orderLoss_22 ⟨0, rfl, hq⟩
theorem dL_bestMember_0 : decode cL_bestMember 0 = .ok (.aload 4, 2) := by decide +kernel
theorem dL_bestMember_2 : decode cL_bestMember 2 = .ok (.iconst 0, 1) := by decide +kernel
theorem dL_bestMember_3 : decode cL_bestMember 3 = .ok (.aload_n 0, 1) := by decide +kernel
theorem dL_bestMember_4 : decode cL_bestMember 4 = .ok (.iload_n 1, 1) := by decide +kernel
theorem dL_bestMember_5 : decode cL_bestMember 5 = .ok (.iload_n 2, 1) := by decide +kernel
theorem dL_bestMember_6 : decode cL_bestMember 6 = .ok (.iload_n 3, 1) := by decide +kernel
theorem dL_bestMember_7 : decode cL_bestMember 7 = .ok (.invokevirtual 93, 3) := by decide +kernel
theorem dL_bestMember_10 : decode cL_bestMember 10 = .ok (.i2l, 1) := by decide +kernel
theorem dL_bestMember_11 : decode cL_bestMember 11 = .ok (.lastore, 1) := by decide +kernel
theorem dL_bestMember_12 : decode cL_bestMember 12 = .ok (.goto 11, 3) := by decide +kernel
theorem dL_bestMember_15 : decode cL_bestMember 15 = .ok (.astore 5, 2) := by decide +kernel
theorem dL_bestMember_17 : decode cL_bestMember 17 = .ok (.iconst 1, 1) := by decide +kernel
theorem dL_bestMember_18 : decode cL_bestMember 18 = .ok (.ireturn, 1) := by decide +kernel
theorem dL_bestMember_19 : decode cL_bestMember 19 = .ok (.astore 5, 2) := by decide +kernel
theorem dL_bestMember_21 : decode cL_bestMember 21 = .ok (.iconst 2, 1) := by decide +kernel
theorem dL_bestMember_22 : decode cL_bestMember 22 = .ok (.ireturn, 1) := by decide +kernel
theorem dL_bestMember_23 : decode cL_bestMember 23 = .ok (.iconst 0, 1) := by decide +kernel
theorem dL_bestMember_24 : decode cL_bestMember 24 = .ok (.ireturn, 1) := by decide +kernel
theorem lw_bestMember : Cond.codeWith yL_bestMember cL_bestMember 6 (some .int) [(0, 12, 15, 13), (0, 12, 19, 76)] ∈ lw_big := x_t6 (List.mem_of_getElem? (i := 112) rfl) rfl
theorem ls_bestMember : Cond.static yL_bestMember ∈ lw_big := x_t6 (List.mem_of_getElem? (i := 111) rfl) rfl
theorem lc_bestMember : x_CW yL_bestMember cL_bestMember 6 (some .int) [(0, 12, 15, 13), (0, 12, 19, 76)] 5 := ⟨lw_bestMember, w_1_0, by decide +kernel, by decide +kernel⟩
def wL_bestMember (a1 : Int32) (a2 : Int32) (a3 : Int32) (σ : x_S) (τ : x_L) (Q : Int32 → x_S → x_L → Prop) : Prop := wX10_bestMember a1 a2 a3 σ τ (fun (r : Int32) σ τ => Q 0 σ (x_upL τ 87 0 r.toInt64)) (fun E σ τ => (E = eIO ∧ Q 1 σ τ) ∨ (E = eIS ∧ Q 2 σ τ))
set_option maxRecDepth 100000 in
set_option maxHeartbeats 4000000 in
theorem kL_bestMember {ad : Nat → Nat} {a1 : Int32} {a2 : Int32} {a3 : Int32} {σ : x_S} {τ : x_L} {Q : Int32 → x_S → x_L → Prop} (h : wL_bestMember a1 a2 a3 σ τ Q) : x_MetK yL_bestMember cL_bestMember 6 (some .int) [(0, 12, 15, 13), (0, 12, 19, 76)] 8 4 ad dsX [.ref (ad 0), .int a1, .int a2, .int a3, .ref (ad 87)] σ τ (x_PI Q) := by
  unfold wL_bestMember at h
  refine x_metH (by decide +kernel) (Nat.le_of_ble_eq_true rfl) (fun V Y => ?_)
  have Y : x_IsH V cL_bestMember 6 RL (some .int) ad dsX 8 (x_PI Q) [(0, 12, 15, 13), (0, 12, 19, 76)] 0 4 := Y
  have X := x_isH Y
  show V σ τ 0 [(0, .ref (ad 0)), (1, .int a1), (2, .int a2), (3, .int a3), (4, .ref (ad 87))] []
  refine x_aload X dL_bestMember_0 4 rfl ?_
  refine x_iconst X (v := 0) dL_bestMember_2 (by decide) ?_
  refine x_aload_n X dL_bestMember_3 rfl 0 rfl ?_
  refine x_iload_n X dL_bestMember_4 rfl 1 rfl ?_
  refine x_iload_n X dL_bestMember_5 rfl 2 rfl ?_
  refine x_iload_n X dL_bestMember_6 rfl 3 rfl ?_
  refine x_callH Y (k := 4) (As := [.int a1, .int a2, .int a3]) [.int 0, .ref (ad 87)] dL_bestMember_7 (kX10_bestMember h) cm_X10_bestMember ci_X10_bestMember w_6_113 dsX_0 (by decide) (by decide) rfl (Nat.le_of_ble_eq_true rfl) (fun V' E σ' τ' q Y' hq => ?_) (fun V' v σ' τ' Y' hq => ?_)
  · rcases hq with hq | hq
    · obtain ⟨rfl, hq⟩ := hq
      refine ⟨15, ⟨[], _, _, rfl, fun z hz => (nomatch hz), rfl, by decide, w_4_180, rfl⟩, ?_⟩
      have X' := x_isH Y'
      refine x_astore X' dL_bestMember_15 (by decide) rfl ?_
      refine x_iconst X' (v := 1) dL_bestMember_17 (by decide) ?_
      exact x_iret X' dL_bestMember_18 ⟨1, rfl, hq⟩
    · obtain ⟨rfl, hq⟩ := hq
      refine ⟨19, ⟨[_], _, [], rfl, fun z hz => by
      obtain rfl := List.mem_singleton.mp hz
      exact Or.inr ⟨by decide, eIO, w_4_180, by decide⟩, rfl, by decide, w_6_27, rfl⟩, ?_⟩
      have X' := x_isH Y'
      refine x_astore X' dL_bestMember_19 (by decide) rfl ?_
      refine x_iconst X' (v := 2) dL_bestMember_21 (by decide) ?_
      exact x_iret X' dL_bestMember_22 ⟨2, rfl, hq⟩
  · obtain ⟨r, rfl, hq⟩ := hq
    have X' := x_isH Y'
    show V' σ' τ' _ _ [.int r, .int 0, .ref (ad 87)]
    refine x_i2l X' dL_bestMember_10 ?_
    refine x_last X' (k := 87) (n := 1) dL_bestMember_11 dsX_87 z_in0 ?_
    refine x_goto X' dL_bestMember_12 rfl ?_
    refine x_iconst X' (v := 0) dL_bestMember_23 (by decide) ?_
    exact x_iret X' dL_bestMember_24 ⟨0, rfl, hq⟩
theorem dL_rate_0 : decode cL_rate 0 = .ok (.aload_n 2, 1) := by decide +kernel
theorem dL_rate_1 : decode cL_rate 1 = .ok (.iconst 0, 1) := by decide +kernel
theorem dL_rate_2 : decode cL_rate 2 = .ok (.aload_n 0, 1) := by decide +kernel
theorem dL_rate_3 : decode cL_rate 3 = .ok (.iload_n 1, 1) := by decide +kernel
theorem dL_rate_4 : decode cL_rate 4 = .ok (.invokevirtual 96, 3) := by decide +kernel
theorem dL_rate_7 : decode cL_rate 7 = .ok (.f2d, 1) := by decide +kernel
theorem dL_rate_8 : decode cL_rate 8 = .ok (.dastore, 1) := by decide +kernel
theorem dL_rate_9 : decode cL_rate 9 = .ok (.goto 6, 3) := by decide +kernel
theorem dL_rate_12 : decode cL_rate 12 = .ok (.astore_n 3, 1) := by decide +kernel
theorem dL_rate_13 : decode cL_rate 13 = .ok (.iconst 1, 1) := by decide +kernel
theorem dL_rate_14 : decode cL_rate 14 = .ok (.ireturn, 1) := by decide +kernel
theorem dL_rate_15 : decode cL_rate 15 = .ok (.iconst 0, 1) := by decide +kernel
theorem dL_rate_16 : decode cL_rate 16 = .ok (.ireturn, 1) := by decide +kernel
theorem lw_rate : Cond.codeWith yL_rate cL_rate 4 (some .int) [(0, 9, 12, 13)] ∈ lw_big := x_t6 (List.mem_of_getElem? (i := 119) rfl) rfl
theorem ls_rate : Cond.static yL_rate ∈ lw_big := x_t6 (List.mem_of_getElem? (i := 118) rfl) rfl
theorem lc_rate : x_CW yL_rate cL_rate 4 (some .int) [(0, 9, 12, 13)] 3 := ⟨lw_rate, w_1_0, by decide +kernel, by decide +kernel⟩
def wL_rate (a1 : Int32) (σ : x_S) (τ : x_L) (Q : Int32 → x_S → x_L → Prop) : Prop := wX10_rate a1 σ τ (fun (r : UInt32) σ τ => vf_n64 (FP.f2d r) ∧ Q 0 σ (x_upL τ 88 0 (FP.f2d r).toInt64)) (fun E σ τ => (E = eIO ∧ Q 1 σ τ))
set_option maxRecDepth 100000 in
set_option maxHeartbeats 4000000 in
theorem kL_rate {ad : Nat → Nat} {a1 : Int32} {σ : x_S} {τ : x_L} {Q : Int32 → x_S → x_L → Prop} (h : wL_rate a1 σ τ Q) : x_MetK yL_rate cL_rate 4 (some .int) [(0, 9, 12, 13)] 8 4 ad dsX [.ref (ad 0), .int a1, .ref (ad 88)] σ τ (x_PI Q) := by
  unfold wL_rate at h
  refine x_metH (by decide +kernel) (Nat.le_of_ble_eq_true rfl) (fun V Y => ?_)
  have Y : x_IsH V cL_rate 4 RL (some .int) ad dsX 8 (x_PI Q) [(0, 9, 12, 13)] 0 4 := Y
  have X := x_isH Y
  show V σ τ 0 [(0, .ref (ad 0)), (1, .int a1), (2, .ref (ad 88))] []
  refine x_aload_n X dL_rate_0 rfl 2 rfl ?_
  refine x_iconst X (v := 0) dL_rate_1 (by decide) ?_
  refine x_aload_n X dL_rate_2 rfl 0 rfl ?_
  refine x_iload_n X dL_rate_3 rfl 1 rfl ?_
  refine x_callH Y (k := 4) (As := [.int a1]) [.int 0, .ref (ad 88)] dL_rate_4 (kX10_rate h) cm_X10_rate ci_X10_rate w_6_120 dsX_0 (by decide) (by decide) rfl (Nat.le_of_ble_eq_true rfl) (fun V' E σ' τ' q Y' hq => ?_) (fun V' v σ' τ' Y' hq => ?_)
  · obtain ⟨rfl, hq⟩ := hq
    refine ⟨12, ⟨[], _, _, rfl, fun z hz => (nomatch hz), rfl, by decide, w_4_180, rfl⟩, ?_⟩
    have X' := x_isH Y'
    refine x_astore_n X' dL_rate_12 rfl (by decide) rfl ?_
    refine x_iconst X' (v := 1) dL_rate_13 (by decide) ?_
    exact x_iret X' dL_rate_14 ⟨1, rfl, hq⟩
  · obtain ⟨r, rfl, hq⟩ := hq
    have X' := x_isH Y'
    show V' σ' τ' _ _ [.float r, .int 0, .ref (ad 88)]
    refine x_f2d X' dL_rate_7 hq.1 ?_
    refine x_dast X' (k := 88) (n := 1) dL_rate_8 dsX_88 z_in0 ?_
    refine x_goto X' dL_rate_9 rfl ?_
    refine x_iconst X' (v := 0) dL_rate_15 (by decide) ?_
    exact x_iret X' dL_rate_16 ⟨0, rfl, hq.2⟩
theorem dL_shareBits_0 : decode cL_shareBits 0 = .ok (.aload_n 1, 1) := by decide +kernel
theorem dL_shareBits_1 : decode cL_shareBits 1 = .ok (.iconst 0, 1) := by decide +kernel
theorem dL_shareBits_2 : decode cL_shareBits 2 = .ok (.aload_n 0, 1) := by decide +kernel
theorem dL_shareBits_3 : decode cL_shareBits 3 = .ok (.invokevirtual 100, 3) := by decide +kernel
theorem dL_shareBits_6 : decode cL_shareBits 6 = .ok (.i2l, 1) := by decide +kernel
theorem dL_shareBits_7 : decode cL_shareBits 7 = .ok (.lastore, 1) := by decide +kernel
theorem dL_shareBits_8 : decode cL_shareBits 8 = .ok (.goto 6, 3) := by decide +kernel
theorem dL_shareBits_11 : decode cL_shareBits 11 = .ok (.astore_n 2, 1) := by decide +kernel
theorem dL_shareBits_12 : decode cL_shareBits 12 = .ok (.iconst 1, 1) := by decide +kernel
theorem dL_shareBits_13 : decode cL_shareBits 13 = .ok (.ireturn, 1) := by decide +kernel
theorem dL_shareBits_14 : decode cL_shareBits 14 = .ok (.iconst 0, 1) := by decide +kernel
theorem dL_shareBits_15 : decode cL_shareBits 15 = .ok (.ireturn, 1) := by decide +kernel
theorem lw_shareBits : Cond.codeWith yL_shareBits cL_shareBits 3 (some .int) [(0, 8, 11, 104)] ∈ lw_big := x_t6 (List.mem_of_getElem? (i := 126) rfl) rfl
theorem ls_shareBits : Cond.static yL_shareBits ∈ lw_big := x_t6 (List.mem_of_getElem? (i := 125) rfl) rfl
theorem lc_shareBits : x_CW yL_shareBits cL_shareBits 3 (some .int) [(0, 8, 11, 104)] 2 := ⟨lw_shareBits, w_1_0, by decide +kernel, by decide +kernel⟩
def wL_shareBits (σ : x_S) (τ : x_L) (Q : Int32 → x_S → x_L → Prop) : Prop := wX10_shareBits σ τ (fun (r : Int32) σ τ => Q 0 σ (x_upL τ 87 0 r.toInt64)) (fun E σ τ => (E = eAr ∧ Q 1 σ τ))
set_option maxRecDepth 100000 in
set_option maxHeartbeats 4000000 in
theorem kL_shareBits {ad : Nat → Nat} {σ : x_S} {τ : x_L} {Q : Int32 → x_S → x_L → Prop} (h : wL_shareBits σ τ Q) : x_MetK yL_shareBits cL_shareBits 3 (some .int) [(0, 8, 11, 104)] 7 4 ad dsX [.ref (ad 0), .ref (ad 87)] σ τ (x_PI Q) := by
  unfold wL_shareBits at h
  refine x_metH (by decide +kernel) (Nat.le_of_ble_eq_true rfl) (fun V Y => ?_)
  have Y : x_IsH V cL_shareBits 3 RL (some .int) ad dsX 7 (x_PI Q) [(0, 8, 11, 104)] 0 4 := Y
  have X := x_isH Y
  show V σ τ 0 [(0, .ref (ad 0)), (1, .ref (ad 87))] []
  refine x_aload_n X dL_shareBits_0 rfl 1 rfl ?_
  refine x_iconst X (v := 0) dL_shareBits_1 (by decide) ?_
  refine x_aload_n X dL_shareBits_2 rfl 0 rfl ?_
  refine x_callH Y (k := 4) (As := []) [.int 0, .ref (ad 87)] dL_shareBits_3 (kX10_shareBits h) cm_X10_shareBits ci_X10_shareBits w_6_141 dsX_0 (by decide) (by decide) rfl (Nat.le_of_ble_eq_true rfl) (fun V' E σ' τ' q Y' hq => ?_) (fun V' v σ' τ' Y' hq => ?_)
  · obtain ⟨rfl, hq⟩ := hq
    refine ⟨11, ⟨[], _, _, rfl, fun z hz => (nomatch hz), rfl, by decide, w_6_127, rfl⟩, ?_⟩
    have X' := x_isH Y'
    refine x_astore_n X' dL_shareBits_11 rfl (by decide) rfl ?_
    refine x_iconst X' (v := 1) dL_shareBits_12 (by decide) ?_
    exact x_iret X' dL_shareBits_13 ⟨1, rfl, hq⟩
  · obtain ⟨r, rfl, hq⟩ := hq
    have X' := x_isH Y'
    show V' σ' τ' _ _ [.int r, .int 0, .ref (ad 87)]
    refine x_i2l X' dL_shareBits_6 ?_
    refine x_last X' (k := 87) (n := 1) dL_shareBits_7 dsX_87 z_in0 ?_
    refine x_goto X' dL_shareBits_8 rfl ?_
    refine x_iconst X' (v := 0) dL_shareBits_14 (by decide) ?_
    exact x_iret X' dL_shareBits_15 ⟨0, rfl, hq⟩
theorem dL_quickest_0 : decode cL_quickest 0 = .ok (.aload_n 3, 1) := by decide +kernel
theorem dL_quickest_1 : decode cL_quickest 1 = .ok (.iconst 0, 1) := by decide +kernel
theorem dL_quickest_2 : decode cL_quickest 2 = .ok (.aload_n 0, 1) := by decide +kernel
theorem dL_quickest_3 : decode cL_quickest 3 = .ok (.iload_n 1, 1) := by decide +kernel
theorem dL_quickest_4 : decode cL_quickest 4 = .ok (.iload_n 2, 1) := by decide +kernel
theorem dL_quickest_5 : decode cL_quickest 5 = .ok (.invokevirtual 106, 3) := by decide +kernel
theorem dL_quickest_8 : decode cL_quickest 8 = .ok (.i2l, 1) := by decide +kernel
theorem dL_quickest_9 : decode cL_quickest 9 = .ok (.lastore, 1) := by decide +kernel
theorem dL_quickest_10 : decode cL_quickest 10 = .ok (.goto 7, 3) := by decide +kernel
theorem dL_quickest_13 : decode cL_quickest 13 = .ok (.astore 4, 2) := by decide +kernel
theorem dL_quickest_15 : decode cL_quickest 15 = .ok (.iconst 1, 1) := by decide +kernel
theorem dL_quickest_16 : decode cL_quickest 16 = .ok (.ireturn, 1) := by decide +kernel
theorem dL_quickest_17 : decode cL_quickest 17 = .ok (.iconst 0, 1) := by decide +kernel
theorem dL_quickest_18 : decode cL_quickest 18 = .ok (.ireturn, 1) := by decide +kernel
theorem lw_quickest : Cond.codeWith yL_quickest cL_quickest 5 (some .int) [(0, 10, 13, 46)] ∈ lw_big := x_t6 (List.mem_of_getElem? (i := 159) rfl) rfl
theorem ls_quickest : Cond.static yL_quickest ∈ lw_big := x_t6 (List.mem_of_getElem? (i := 158) rfl) rfl
theorem lc_quickest : x_CW yL_quickest cL_quickest 5 (some .int) [(0, 10, 13, 46)] 4 := ⟨lw_quickest, w_1_0, by decide +kernel, by decide +kernel⟩
def wL_quickest (a1 : Int32) (a2 : Int32) (σ : x_S) (τ : x_L) (Q : Int32 → x_S → x_L → Prop) : Prop := wX10_quickest a1 a2 σ τ (fun (r : Int32) σ τ => Q 0 σ (x_upL τ 87 0 r.toInt64)) (fun E σ τ => (E = eIA ∧ Q 1 σ τ))
set_option maxRecDepth 100000 in
set_option maxHeartbeats 4000000 in
theorem kL_quickest {ad : Nat → Nat} {a1 : Int32} {a2 : Int32} {σ : x_S} {τ : x_L} {Q : Int32 → x_S → x_L → Prop} (h : wL_quickest a1 a2 σ τ Q) : x_MetK yL_quickest cL_quickest 5 (some .int) [(0, 10, 13, 46)] 8 4 ad dsX [.ref (ad 0), .int a1, .int a2, .ref (ad 87)] σ τ (x_PI Q) := by
  unfold wL_quickest at h
  refine x_metH (by decide +kernel) (Nat.le_of_ble_eq_true rfl) (fun V Y => ?_)
  have Y : x_IsH V cL_quickest 5 RL (some .int) ad dsX 8 (x_PI Q) [(0, 10, 13, 46)] 0 4 := Y
  have X := x_isH Y
  show V σ τ 0 [(0, .ref (ad 0)), (1, .int a1), (2, .int a2), (3, .ref (ad 87))] []
  refine x_aload_n X dL_quickest_0 rfl 3 rfl ?_
  refine x_iconst X (v := 0) dL_quickest_1 (by decide) ?_
  refine x_aload_n X dL_quickest_2 rfl 0 rfl ?_
  refine x_iload_n X dL_quickest_3 rfl 1 rfl ?_
  refine x_iload_n X dL_quickest_4 rfl 2 rfl ?_
  refine x_callH Y (k := 4) (As := [.int a1, .int a2]) [.int 0, .ref (ad 87)] dL_quickest_5 (kX10_quickest h) cm_X10_quickest ci_X10_quickest w_6_160 dsX_0 (by decide) (by decide) rfl (Nat.le_of_ble_eq_true rfl) (fun V' E σ' τ' q Y' hq => ?_) (fun V' v σ' τ' Y' hq => ?_)
  · obtain ⟨rfl, hq⟩ := hq
    refine ⟨13, ⟨[], _, _, rfl, fun z hz => (nomatch hz), rfl, by decide, w_5_177, rfl⟩, ?_⟩
    have X' := x_isH Y'
    refine x_astore X' dL_quickest_13 (by decide) rfl ?_
    refine x_iconst X' (v := 1) dL_quickest_15 (by decide) ?_
    exact x_iret X' dL_quickest_16 ⟨1, rfl, hq⟩
  · obtain ⟨r, rfl, hq⟩ := hq
    have X' := x_isH Y'
    show V' σ' τ' _ _ [.int r, .int 0, .ref (ad 87)]
    refine x_i2l X' dL_quickest_8 ?_
    refine x_last X' (k := 87) (n := 1) dL_quickest_9 dsX_87 z_in0 ?_
    refine x_goto X' dL_quickest_10 rfl ?_
    refine x_iconst X' (v := 0) dL_quickest_17 (by decide) ?_
    exact x_iret X' dL_quickest_18 ⟨0, rfl, hq⟩
theorem dL_write_0 : decode cL_write 0 = .ok (.aload_n 2, 1) := by decide +kernel
theorem dL_write_1 : decode cL_write 1 = .ok (.iconst 0, 1) := by decide +kernel
theorem dL_write_2 : decode cL_write 2 = .ok (.aload_n 0, 1) := by decide +kernel
theorem dL_write_3 : decode cL_write 3 = .ok (.iload_n 1, 1) := by decide +kernel
theorem dL_write_4 : decode cL_write 4 = .ok (.invokevirtual 109, 3) := by decide +kernel
theorem dL_write_7 : decode cL_write 7 = .ok (.i2l, 1) := by decide +kernel
theorem dL_write_8 : decode cL_write 8 = .ok (.lastore, 1) := by decide +kernel
theorem dL_write_9 : decode cL_write 9 = .ok (.goto 6, 3) := by decide +kernel
theorem dL_write_12 : decode cL_write 12 = .ok (.astore_n 3, 1) := by decide +kernel
theorem dL_write_13 : decode cL_write 13 = .ok (.iconst 1, 1) := by decide +kernel
theorem dL_write_14 : decode cL_write 14 = .ok (.ireturn, 1) := by decide +kernel
theorem dL_write_15 : decode cL_write 15 = .ok (.iconst 0, 1) := by decide +kernel
theorem dL_write_16 : decode cL_write 16 = .ok (.ireturn, 1) := by decide +kernel
theorem lw_write : Cond.codeWith yL_write cL_write 4 (some .int) [(0, 9, 12, 13)] ∈ lw_big := x_t6 (List.mem_of_getElem? (i := 170) rfl) rfl
theorem ls_write : Cond.static yL_write ∈ lw_big := x_t6 (List.mem_of_getElem? (i := 169) rfl) rfl
theorem lc_write : x_CW yL_write cL_write 4 (some .int) [(0, 9, 12, 13)] 3 := ⟨lw_write, w_1_0, by decide +kernel, by decide +kernel⟩
def wL_write (a1 : Int32) (σ : x_S) (τ : x_L) (Q : Int32 → x_S → x_L → Prop) : Prop := wX10_write a1 σ τ (fun (r : Int32) σ τ => Q 0 σ (x_upL τ 87 0 r.toInt64)) (fun E σ τ => (E = eIO ∧ Q 1 σ τ))
set_option maxRecDepth 100000 in
set_option maxHeartbeats 4000000 in
theorem kL_write {ad : Nat → Nat} {a1 : Int32} {σ : x_S} {τ : x_L} {Q : Int32 → x_S → x_L → Prop} (h : wL_write a1 σ τ Q) : x_MetK yL_write cL_write 4 (some .int) [(0, 9, 12, 13)] 8 4 ad dsX [.ref (ad 0), .int a1, .ref (ad 87)] σ τ (x_PI Q) := by
  unfold wL_write at h
  refine x_metH (by decide +kernel) (Nat.le_of_ble_eq_true rfl) (fun V Y => ?_)
  have Y : x_IsH V cL_write 4 RL (some .int) ad dsX 8 (x_PI Q) [(0, 9, 12, 13)] 0 4 := Y
  have X := x_isH Y
  show V σ τ 0 [(0, .ref (ad 0)), (1, .int a1), (2, .ref (ad 87))] []
  refine x_aload_n X dL_write_0 rfl 2 rfl ?_
  refine x_iconst X (v := 0) dL_write_1 (by decide) ?_
  refine x_aload_n X dL_write_2 rfl 0 rfl ?_
  refine x_iload_n X dL_write_3 rfl 1 rfl ?_
  refine x_callH Y (k := 4) (As := [.int a1]) [.int 0, .ref (ad 87)] dL_write_4 (kX10_write h) cm_X10_write ci_X10_write w_6_171 dsX_0 (by decide) (by decide) rfl (Nat.le_of_ble_eq_true rfl) (fun V' E σ' τ' q Y' hq => ?_) (fun V' v σ' τ' Y' hq => ?_)
  · obtain ⟨rfl, hq⟩ := hq
    refine ⟨12, ⟨[], _, _, rfl, fun z hz => (nomatch hz), rfl, by decide, w_4_180, rfl⟩, ?_⟩
    have X' := x_isH Y'
    refine x_astore_n X' dL_write_12 rfl (by decide) rfl ?_
    refine x_iconst X' (v := 1) dL_write_13 (by decide) ?_
    exact x_iret X' dL_write_14 ⟨1, rfl, hq⟩
  · obtain ⟨r, rfl, hq⟩ := hq
    have X' := x_isH Y'
    show V' σ' τ' _ _ [.int r, .int 0, .ref (ad 87)]
    refine x_i2l X' dL_write_7 ?_
    refine x_last X' (k := 87) (n := 1) dL_write_8 dsX_87 z_in0 ?_
    refine x_goto X' dL_write_9 rfl ?_
    refine x_iconst X' (v := 0) dL_write_15 (by decide) ?_
    exact x_iret X' dL_write_16 ⟨0, rfl, hq⟩
