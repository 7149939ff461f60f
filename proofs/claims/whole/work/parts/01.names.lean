-- PART A is the skeleton's own text; the names are those that NAMES.whole prints (starting texts)
-- ===== PART A: goes FIRST, ahead of the names: the tables' words, and 'selects' of the private methods out of them =====
/-- a private method of a class that the tables say can be made, by its rows of tables_1 -/
def lw_okq (q : MethodName × Nat) : Prop := (q.1.cls ≠ "java/lang/invoke/MethodHandle" ∧ q.1.cls ≠ "java/lang/invoke/VarHandle") ∧ Cond.instantiable q.1.cls q.2 ∈ tables_1 ∧ Cond.privateMethod q.1 ∈ tables_1 ∧ Cond.instanceMethod q.1 ∈ tables_1
theorem lw_p0 : lw_okq (⟨"TruckPlatoons$Text", "readDigits", "()V"⟩, 8) := ⟨⟨by decide +kernel, by decide +kernel⟩, List.mem_of_getElem? (i := 38) (by decide +kernel), List.mem_of_getElem? (i := 449) (by decide +kernel), List.mem_of_getElem? (i := 450) (by decide +kernel)⟩
theorem lw_p1 : lw_okq (⟨"TruckPlatoons$Text", "readLetters", "()V"⟩, 8) := ⟨⟨by decide +kernel, by decide +kernel⟩, List.mem_of_getElem? (i := 38) (by decide +kernel), List.mem_of_getElem? (i := 456) (by decide +kernel), List.mem_of_getElem? (i := 457) (by decide +kernel)⟩
theorem lw_p2 : lw_okq (⟨"TruckPlatoons$Loader", "readRoad", "(LTruckPlatoons$Text;I)Z"⟩, 1) := ⟨⟨by decide +kernel, by decide +kernel⟩, List.mem_of_getElem? (i := 153) (by decide +kernel), List.mem_of_getElem? (i := 513) (by decide +kernel), List.mem_of_getElem? (i := 514) (by decide +kernel)⟩
theorem lw_p3 : lw_okq (⟨"TruckPlatoons$Loader", "readTruck", "(LTruckPlatoons$Text;I)Z"⟩, 1) := ⟨⟨by decide +kernel, by decide +kernel⟩, List.mem_of_getElem? (i := 153) (by decide +kernel), List.mem_of_getElem? (i := 532) (by decide +kernel), List.mem_of_getElem? (i := 533) (by decide +kernel)⟩
theorem lw_p4 : lw_okq (⟨"TruckPlatoons$Loader", "readRoute", "(LTruckPlatoons$Text;I)Z"⟩, 1) := ⟨⟨by decide +kernel, by decide +kernel⟩, List.mem_of_getElem? (i := 153) (by decide +kernel), List.mem_of_getElem? (i := 536) (by decide +kernel), List.mem_of_getElem? (i := 537) (by decide +kernel)⟩
theorem lw_p5 : lw_okq (⟨"TruckPlatoons$Routes", "listByRoad", "()V"⟩, 6) := ⟨⟨by decide +kernel, by decide +kernel⟩, List.mem_of_getElem? (i := 183) (by decide +kernel), List.mem_of_getElem? (i := 555) (by decide +kernel), List.mem_of_getElem? (i := 556) (by decide +kernel)⟩
theorem lw_p6 : lw_okq (⟨"TruckPlatoons$Routes", "setNext", "()V"⟩, 6) := ⟨⟨by decide +kernel, by decide +kernel⟩, List.mem_of_getElem? (i := 183) (by decide +kernel), List.mem_of_getElem? (i := 559) (by decide +kernel), List.mem_of_getElem? (i := 560) (by decide +kernel)⟩
theorem lw_p7 : lw_okq (⟨"TruckPlatoons$Routes", "setShared", "(II)V"⟩, 6) := ⟨⟨by decide +kernel, by decide +kernel⟩, List.mem_of_getElem? (i := 183) (by decide +kernel), List.mem_of_getElem? (i := 563) (by decide +kernel), List.mem_of_getElem? (i := 564) (by decide +kernel)⟩
theorem lw_p8 : lw_okq (⟨"TruckPlatoons$Plan", "sortByTime", "(II)V"⟩, 15) := ⟨⟨by decide +kernel, by decide +kernel⟩, List.mem_of_getElem? (i := 216) (by decide +kernel), List.mem_of_getElem? (i := 591) (by decide +kernel), List.mem_of_getElem? (i := 592) (by decide +kernel)⟩
theorem lw_p9 : lw_okq (⟨"TruckPlatoons$Plan", "isEarlier", "(II)Z"⟩, 15) := ⟨⟨by decide +kernel, by decide +kernel⟩, List.mem_of_getElem? (i := 216) (by decide +kernel), List.mem_of_getElem? (i := 595) (by decide +kernel), List.mem_of_getElem? (i := 596) (by decide +kernel)⟩
theorem lw_p10 : lw_okq (⟨"TruckPlatoons$Plan", "setKeys", "(II)V"⟩, 15) := ⟨⟨by decide +kernel, by decide +kernel⟩, List.mem_of_getElem? (i := 216) (by decide +kernel), List.mem_of_getElem? (i := 599) (by decide +kernel), List.mem_of_getElem? (i := 600) (by decide +kernel)⟩
theorem lw_p11 : lw_okq (⟨"TruckPlatoons$Plan", "sortByKey", "(II)V"⟩, 15) := ⟨⟨by decide +kernel, by decide +kernel⟩, List.mem_of_getElem? (i := 216) (by decide +kernel), List.mem_of_getElem? (i := 604) (by decide +kernel), List.mem_of_getElem? (i := 605) (by decide +kernel)⟩
theorem lw_p12 : lw_okq (⟨"TruckPlatoons$Plan", "isAhead", "(II)Z"⟩, 15) := ⟨⟨by decide +kernel, by decide +kernel⟩, List.mem_of_getElem? (i := 216) (by decide +kernel), List.mem_of_getElem? (i := 608) (by decide +kernel), List.mem_of_getElem? (i := 609) (by decide +kernel)⟩
theorem lw_p13 : lw_okq (⟨"TruckPlatoons$Plan", "setPlatoon", "(III)V"⟩, 15) := ⟨⟨by decide +kernel, by decide +kernel⟩, List.mem_of_getElem? (i := 216) (by decide +kernel), List.mem_of_getElem? (i := 612) (by decide +kernel), List.mem_of_getElem? (i := 613) (by decide +kernel)⟩
theorem lw_p14 : lw_okq (⟨"TruckPlatoons$Plan", "distanceAt", "([II)I"⟩, 15) := ⟨⟨by decide +kernel, by decide +kernel⟩, List.mem_of_getElem? (i := 216) (by decide +kernel), List.mem_of_getElem? (i := 620) (by decide +kernel), List.mem_of_getElem? (i := 621) (by decide +kernel)⟩
theorem lw_p15 : lw_okq (⟨"TruckPlatoons$Plan", "closesUpAt", "([III)Z"⟩, 15) := ⟨⟨by decide +kernel, by decide +kernel⟩, List.mem_of_getElem? (i := 216) (by decide +kernel), List.mem_of_getElem? (i := 624) (by decide +kernel), List.mem_of_getElem? (i := 625) (by decide +kernel)⟩
def lw_privs_1 : List (MethodName × Nat) := [(⟨"TruckPlatoons$Text", "readDigits", "()V"⟩, 8), (⟨"TruckPlatoons$Text", "readLetters", "()V"⟩, 8), (⟨"TruckPlatoons$Loader", "readRoad", "(LTruckPlatoons$Text;I)Z"⟩, 1), (⟨"TruckPlatoons$Loader", "readTruck", "(LTruckPlatoons$Text;I)Z"⟩, 1), (⟨"TruckPlatoons$Loader", "readRoute", "(LTruckPlatoons$Text;I)Z"⟩, 1), (⟨"TruckPlatoons$Routes", "listByRoad", "()V"⟩, 6), (⟨"TruckPlatoons$Routes", "setNext", "()V"⟩, 6), (⟨"TruckPlatoons$Routes", "setShared", "(II)V"⟩, 6), (⟨"TruckPlatoons$Plan", "sortByTime", "(II)V"⟩, 15), (⟨"TruckPlatoons$Plan", "isEarlier", "(II)Z"⟩, 15), (⟨"TruckPlatoons$Plan", "setKeys", "(II)V"⟩, 15), (⟨"TruckPlatoons$Plan", "sortByKey", "(II)V"⟩, 15), (⟨"TruckPlatoons$Plan", "isAhead", "(II)Z"⟩, 15), (⟨"TruckPlatoons$Plan", "setPlatoon", "(III)V"⟩, 15), (⟨"TruckPlatoons$Plan", "distanceAt", "([II)I"⟩, 15), (⟨"TruckPlatoons$Plan", "closesUpAt", "([III)Z"⟩, 15)]
theorem lw_r1 : ∀ q ∈ lw_privs_1, lw_okq q := List.forall_mem_cons.mpr ⟨lw_p0, List.forall_mem_cons.mpr ⟨lw_p1, List.forall_mem_cons.mpr ⟨lw_p2, List.forall_mem_cons.mpr ⟨lw_p3, List.forall_mem_cons.mpr ⟨lw_p4, List.forall_mem_cons.mpr ⟨lw_p5, List.forall_mem_cons.mpr ⟨lw_p6, List.forall_mem_cons.mpr ⟨lw_p7, List.forall_mem_cons.mpr ⟨lw_p8, List.forall_mem_cons.mpr ⟨lw_p9, List.forall_mem_cons.mpr ⟨lw_p10, List.forall_mem_cons.mpr ⟨lw_p11, List.forall_mem_cons.mpr ⟨lw_p12, List.forall_mem_cons.mpr ⟨lw_p13, List.forall_mem_cons.mpr ⟨lw_p14, List.forall_mem_cons.mpr ⟨lw_p15, fun _ h => absurd h List.not_mem_nil⟩⟩⟩⟩⟩⟩⟩⟩⟩⟩⟩⟩⟩⟩⟩⟩
theorem lw_p16 : lw_okq (⟨"TruckPlatoons", "companies", "()I"⟩, 12) := ⟨⟨by decide +kernel, by decide +kernel⟩, List.mem_of_getElem? (i := 30) (by decide +kernel), List.mem_of_getElem? (i := 655) (by decide +kernel), List.mem_of_getElem? (i := 656) (by decide +kernel)⟩
theorem lw_p17 : lw_okq (⟨"TruckPlatoons", "lateSet", "()I"⟩, 12) := ⟨⟨by decide +kernel, by decide +kernel⟩, List.mem_of_getElem? (i := 30) (by decide +kernel), List.mem_of_getElem? (i := 663) (by decide +kernel), List.mem_of_getElem? (i := 664) (by decide +kernel)⟩
theorem lw_p18 : lw_okq (⟨"TruckPlatoons", "greatestPlatoon", "()I"⟩, 12) := ⟨⟨by decide +kernel, by decide +kernel⟩, List.mem_of_getElem? (i := 30) (by decide +kernel), List.mem_of_getElem? (i := 689) (by decide +kernel), List.mem_of_getElem? (i := 690) (by decide +kernel)⟩
theorem lw_p19 : lw_okq (⟨"TruckPlatoons", "mergeByGain", "()I"⟩, 12) := ⟨⟨by decide +kernel, by decide +kernel⟩, List.mem_of_getElem? (i := 30) (by decide +kernel), List.mem_of_getElem? (i := 700) (by decide +kernel), List.mem_of_getElem? (i := 701) (by decide +kernel)⟩
theorem lw_p20 : lw_okq (⟨"TruckPlatoons", "mergeBestTwo", "()Z"⟩, 12) := ⟨⟨by decide +kernel, by decide +kernel⟩, List.mem_of_getElem? (i := 30) (by decide +kernel), List.mem_of_getElem? (i := 713) (by decide +kernel), List.mem_of_getElem? (i := 714) (by decide +kernel)⟩
theorem lw_p21 : lw_okq (⟨"TruckPlatoons$Merger", "drive", "(III)V"⟩, 7) := ⟨⟨by decide +kernel, by decide +kernel⟩, List.mem_of_getElem? (i := 285) (by decide +kernel), List.mem_of_getElem? (i := 739) (by decide +kernel), List.mem_of_getElem? (i := 740) (by decide +kernel)⟩
theorem lw_p22 : lw_okq (⟨"TruckPlatoons$Script", "readArguments", "(LTruckPlatoons$Text;I)Z"⟩, 3) := ⟨⟨by decide +kernel, by decide +kernel⟩, List.mem_of_getElem? (i := 166) (by decide +kernel), List.mem_of_getElem? (i := 791) (by decide +kernel), List.mem_of_getElem? (i := 792) (by decide +kernel)⟩
theorem lw_p23 : lw_okq (⟨"TruckPlatoons", "perform", "(I)Z"⟩, 12) := ⟨⟨by decide +kernel, by decide +kernel⟩, List.mem_of_getElem? (i := 30) (by decide +kernel), List.mem_of_getElem? (i := 803) (by decide +kernel), List.mem_of_getElem? (i := 804) (by decide +kernel)⟩
theorem lw_p24 : lw_okq (⟨"TruckPlatoons", "performWait", "(III)Z"⟩, 12) := ⟨⟨by decide +kernel, by decide +kernel⟩, List.mem_of_getElem? (i := 30) (by decide +kernel), List.mem_of_getElem? (i := 819) (by decide +kernel), List.mem_of_getElem? (i := 820) (by decide +kernel)⟩
theorem lw_p25 : lw_okq (⟨"TruckPlatoons", "changeWait", "(II)I"⟩, 12) := ⟨⟨by decide +kernel, by decide +kernel⟩, List.mem_of_getElem? (i := 30) (by decide +kernel), List.mem_of_getElem? (i := 829) (by decide +kernel), List.mem_of_getElem? (i := 830) (by decide +kernel)⟩
theorem lw_p26 : lw_okq (⟨"TruckPlatoons", "performSpeed", "(III)Z"⟩, 12) := ⟨⟨by decide +kernel, by decide +kernel⟩, List.mem_of_getElem? (i := 30) (by decide +kernel), List.mem_of_getElem? (i := 833) (by decide +kernel), List.mem_of_getElem? (i := 834) (by decide +kernel)⟩
theorem lw_p27 : lw_okq (⟨"TruckPlatoons", "changeSpeed", "(II)I"⟩, 12) := ⟨⟨by decide +kernel, by decide +kernel⟩, List.mem_of_getElem? (i := 30) (by decide +kernel), List.mem_of_getElem? (i := 837) (by decide +kernel), List.mem_of_getElem? (i := 838) (by decide +kernel)⟩
theorem lw_p28 : lw_okq (⟨"TruckPlatoons", "changeStart", "(II)I"⟩, 12) := ⟨⟨by decide +kernel, by decide +kernel⟩, List.mem_of_getElem? (i := 30) (by decide +kernel), List.mem_of_getElem? (i := 841) (by decide +kernel), List.mem_of_getElem? (i := 842) (by decide +kernel)⟩
theorem lw_p29 : lw_okq (⟨"TruckPlatoons", "mergeTwo", "(II)I"⟩, 12) := ⟨⟨by decide +kernel, by decide +kernel⟩, List.mem_of_getElem? (i := 30) (by decide +kernel), List.mem_of_getElem? (i := 845) (by decide +kernel), List.mem_of_getElem? (i := 846) (by decide +kernel)⟩
theorem lw_p30 : lw_okq (⟨"TruckPlatoons", "speedUp", "(I)I"⟩, 12) := ⟨⟨by decide +kernel, by decide +kernel⟩, List.mem_of_getElem? (i := 30) (by decide +kernel), List.mem_of_getElem? (i := 849) (by decide +kernel), List.mem_of_getElem? (i := 850) (by decide +kernel)⟩
theorem lw_p31 : lw_okq (⟨"TruckPlatoons", "slowDown", "(I)I"⟩, 12) := ⟨⟨by decide +kernel, by decide +kernel⟩, List.mem_of_getElem? (i := 30) (by decide +kernel), List.mem_of_getElem? (i := 854) (by decide +kernel), List.mem_of_getElem? (i := 855) (by decide +kernel)⟩
def lw_privs_2 : List (MethodName × Nat) := [(⟨"TruckPlatoons", "companies", "()I"⟩, 12), (⟨"TruckPlatoons", "lateSet", "()I"⟩, 12), (⟨"TruckPlatoons", "greatestPlatoon", "()I"⟩, 12), (⟨"TruckPlatoons", "mergeByGain", "()I"⟩, 12), (⟨"TruckPlatoons", "mergeBestTwo", "()Z"⟩, 12), (⟨"TruckPlatoons$Merger", "drive", "(III)V"⟩, 7), (⟨"TruckPlatoons$Script", "readArguments", "(LTruckPlatoons$Text;I)Z"⟩, 3), (⟨"TruckPlatoons", "perform", "(I)Z"⟩, 12), (⟨"TruckPlatoons", "performWait", "(III)Z"⟩, 12), (⟨"TruckPlatoons", "changeWait", "(II)I"⟩, 12), (⟨"TruckPlatoons", "performSpeed", "(III)Z"⟩, 12), (⟨"TruckPlatoons", "changeSpeed", "(II)I"⟩, 12), (⟨"TruckPlatoons", "changeStart", "(II)I"⟩, 12), (⟨"TruckPlatoons", "mergeTwo", "(II)I"⟩, 12), (⟨"TruckPlatoons", "speedUp", "(I)I"⟩, 12), (⟨"TruckPlatoons", "slowDown", "(I)I"⟩, 12)]
theorem lw_r2 : ∀ q ∈ lw_privs_2, lw_okq q := List.forall_mem_cons.mpr ⟨lw_p16, List.forall_mem_cons.mpr ⟨lw_p17, List.forall_mem_cons.mpr ⟨lw_p18, List.forall_mem_cons.mpr ⟨lw_p19, List.forall_mem_cons.mpr ⟨lw_p20, List.forall_mem_cons.mpr ⟨lw_p21, List.forall_mem_cons.mpr ⟨lw_p22, List.forall_mem_cons.mpr ⟨lw_p23, List.forall_mem_cons.mpr ⟨lw_p24, List.forall_mem_cons.mpr ⟨lw_p25, List.forall_mem_cons.mpr ⟨lw_p26, List.forall_mem_cons.mpr ⟨lw_p27, List.forall_mem_cons.mpr ⟨lw_p28, List.forall_mem_cons.mpr ⟨lw_p29, List.forall_mem_cons.mpr ⟨lw_p30, List.forall_mem_cons.mpr ⟨lw_p31, fun _ h => absurd h List.not_mem_nil⟩⟩⟩⟩⟩⟩⟩⟩⟩⟩⟩⟩⟩⟩⟩⟩
theorem lw_p32 : lw_okq (⟨"java/lang/Throwable", "fillInStackTrace", "(I)Ljava/lang/Throwable;"⟩, 6) := ⟨⟨by decide +kernel, by decide +kernel⟩, List.mem_of_getElem? (i := 933) (by decide +kernel), List.mem_of_getElem? (i := 931) (by decide +kernel), List.mem_of_getElem? (i := 932) (by decide +kernel)⟩
theorem lw_p33 : lw_okq (⟨"TruckPlatoons", "checkRoad", "(I)V"⟩, 12) := ⟨⟨by decide +kernel, by decide +kernel⟩, List.mem_of_getElem? (i := 30) (by decide +kernel), List.mem_of_getElem? (i := 982) (by decide +kernel), List.mem_of_getElem? (i := 983) (by decide +kernel)⟩
theorem lw_p34 : lw_okq (⟨"TruckPlatoons", "checkTruck", "(I)V"⟩, 12) := ⟨⟨by decide +kernel, by decide +kernel⟩, List.mem_of_getElem? (i := 30) (by decide +kernel), List.mem_of_getElem? (i := 1018) (by decide +kernel), List.mem_of_getElem? (i := 1019) (by decide +kernel)⟩
theorem lw_p35 : lw_okq (⟨"TruckPlatoons", "checkPlace", "(II)V"⟩, 12) := ⟨⟨by decide +kernel, by decide +kernel⟩, List.mem_of_getElem? (i := 30) (by decide +kernel), List.mem_of_getElem? (i := 1049) (by decide +kernel), List.mem_of_getElem? (i := 1050) (by decide +kernel)⟩
theorem lw_p36 : lw_okq (⟨"TruckPlatoons", "checkPlatoon", "(II)V"⟩, 12) := ⟨⟨by decide +kernel, by decide +kernel⟩, List.mem_of_getElem? (i := 30) (by decide +kernel), List.mem_of_getElem? (i := 1084) (by decide +kernel), List.mem_of_getElem? (i := 1085) (by decide +kernel)⟩
theorem lw_p37 : lw_okq (⟨"TruckPlatoons$BestOrder", "takeMembers", "(I)V"⟩, 5) := ⟨⟨by decide +kernel, by decide +kernel⟩, List.mem_of_getElem? (i := 316) (by decide +kernel), List.mem_of_getElem? (i := 1293) (by decide +kernel), List.mem_of_getElem? (i := 1294) (by decide +kernel)⟩
theorem lw_p38 : lw_okq (⟨"TruckPlatoons$BestOrder", "stepOn", "()Z"⟩, 5) := ⟨⟨by decide +kernel, by decide +kernel⟩, List.mem_of_getElem? (i := 316) (by decide +kernel), List.mem_of_getElem? (i := 1302) (by decide +kernel), List.mem_of_getElem? (i := 1303) (by decide +kernel)⟩
theorem lw_p39 : lw_okq (⟨"TruckPlatoons$BestOrder", "swap", "(II)V"⟩, 5) := ⟨⟨by decide +kernel, by decide +kernel⟩, List.mem_of_getElem? (i := 316) (by decide +kernel), List.mem_of_getElem? (i := 1306) (by decide +kernel), List.mem_of_getElem? (i := 1307) (by decide +kernel)⟩
theorem lw_p40 : lw_okq (⟨"TruckPlatoons", "reachFurther", "()V"⟩, 12) := ⟨⟨by decide +kernel, by decide +kernel⟩, List.mem_of_getElem? (i := 30) (by decide +kernel), List.mem_of_getElem? (i := 1365) (by decide +kernel), List.mem_of_getElem? (i := 1366) (by decide +kernel)⟩
theorem lw_p41 : lw_okq (⟨"TruckPlatoonsModel", "copyPlan", "(II)V"⟩, 41) := ⟨⟨by decide +kernel, by decide +kernel⟩, List.mem_of_getElem? (i := 1385) (by decide +kernel), List.mem_of_getElem? (i := 1523) (by decide +kernel), List.mem_of_getElem? (i := 1524) (by decide +kernel)⟩
theorem lw_p42 : lw_okq (⟨"TruckPlatoonsModel", "lay", "()V"⟩, 41) := ⟨⟨by decide +kernel, by decide +kernel⟩, List.mem_of_getElem? (i := 1385) (by decide +kernel), List.mem_of_getElem? (i := 1542) (by decide +kernel), List.mem_of_getElem? (i := 1543) (by decide +kernel)⟩
theorem lw_p43 : lw_okq (⟨"TruckPlatoonsModel", "layTimes", "(I)V"⟩, 41) := ⟨⟨by decide +kernel, by decide +kernel⟩, List.mem_of_getElem? (i := 1385) (by decide +kernel), List.mem_of_getElem? (i := 1546) (by decide +kernel), List.mem_of_getElem? (i := 1547) (by decide +kernel)⟩
theorem lw_p44 : lw_okq (⟨"TruckPlatoonsModel", "placesOf", "(I)I"⟩, 41) := ⟨⟨by decide +kernel, by decide +kernel⟩, List.mem_of_getElem? (i := 1385) (by decide +kernel), List.mem_of_getElem? (i := 1550) (by decide +kernel), List.mem_of_getElem? (i := 1551) (by decide +kernel)⟩
theorem lw_p45 : lw_okq (⟨"TruckPlatoonsModel", "ofTruck", "(II)I"⟩, 41) := ⟨⟨by decide +kernel, by decide +kernel⟩, List.mem_of_getElem? (i := 1385) (by decide +kernel), List.mem_of_getElem? (i := 1554) (by decide +kernel), List.mem_of_getElem? (i := 1555) (by decide +kernel)⟩
theorem lw_p46 : lw_okq (⟨"TruckPlatoonsModel", "waitAt", "(II)I"⟩, 41) := ⟨⟨by decide +kernel, by decide +kernel⟩, List.mem_of_getElem? (i := 1385) (by decide +kernel), List.mem_of_getElem? (i := 1561) (by decide +kernel), List.mem_of_getElem? (i := 1562) (by decide +kernel)⟩
theorem lw_p47 : lw_okq (⟨"TruckPlatoonsModel", "roadAt", "(II)I"⟩, 41) := ⟨⟨by decide +kernel, by decide +kernel⟩, List.mem_of_getElem? (i := 1385) (by decide +kernel), List.mem_of_getElem? (i := 1565) (by decide +kernel), List.mem_of_getElem? (i := 1566) (by decide +kernel)⟩
def lw_privs_3 : List (MethodName × Nat) := [(⟨"java/lang/Throwable", "fillInStackTrace", "(I)Ljava/lang/Throwable;"⟩, 6), (⟨"TruckPlatoons", "checkRoad", "(I)V"⟩, 12), (⟨"TruckPlatoons", "checkTruck", "(I)V"⟩, 12), (⟨"TruckPlatoons", "checkPlace", "(II)V"⟩, 12), (⟨"TruckPlatoons", "checkPlatoon", "(II)V"⟩, 12), (⟨"TruckPlatoons$BestOrder", "takeMembers", "(I)V"⟩, 5), (⟨"TruckPlatoons$BestOrder", "stepOn", "()Z"⟩, 5), (⟨"TruckPlatoons$BestOrder", "swap", "(II)V"⟩, 5), (⟨"TruckPlatoons", "reachFurther", "()V"⟩, 12), (⟨"TruckPlatoonsModel", "copyPlan", "(II)V"⟩, 41), (⟨"TruckPlatoonsModel", "lay", "()V"⟩, 41), (⟨"TruckPlatoonsModel", "layTimes", "(I)V"⟩, 41), (⟨"TruckPlatoonsModel", "placesOf", "(I)I"⟩, 41), (⟨"TruckPlatoonsModel", "ofTruck", "(II)I"⟩, 41), (⟨"TruckPlatoonsModel", "waitAt", "(II)I"⟩, 41), (⟨"TruckPlatoonsModel", "roadAt", "(II)I"⟩, 41)]
theorem lw_r3 : ∀ q ∈ lw_privs_3, lw_okq q := List.forall_mem_cons.mpr ⟨lw_p32, List.forall_mem_cons.mpr ⟨lw_p33, List.forall_mem_cons.mpr ⟨lw_p34, List.forall_mem_cons.mpr ⟨lw_p35, List.forall_mem_cons.mpr ⟨lw_p36, List.forall_mem_cons.mpr ⟨lw_p37, List.forall_mem_cons.mpr ⟨lw_p38, List.forall_mem_cons.mpr ⟨lw_p39, List.forall_mem_cons.mpr ⟨lw_p40, List.forall_mem_cons.mpr ⟨lw_p41, List.forall_mem_cons.mpr ⟨lw_p42, List.forall_mem_cons.mpr ⟨lw_p43, List.forall_mem_cons.mpr ⟨lw_p44, List.forall_mem_cons.mpr ⟨lw_p45, List.forall_mem_cons.mpr ⟨lw_p46, List.forall_mem_cons.mpr ⟨lw_p47, fun _ h => absurd h List.not_mem_nil⟩⟩⟩⟩⟩⟩⟩⟩⟩⟩⟩⟩⟩⟩⟩⟩
theorem lw_p48 : lw_okq (⟨"TruckPlatoonsModel", "speedAt", "(II)I"⟩, 41) := ⟨⟨by decide +kernel, by decide +kernel⟩, List.mem_of_getElem? (i := 1385) (by decide +kernel), List.mem_of_getElem? (i := 1569) (by decide +kernel), List.mem_of_getElem? (i := 1570) (by decide +kernel)⟩
theorem lw_p49 : lw_okq (⟨"TruckPlatoonsModel", "minutes", "(II)I"⟩, 41) := ⟨⟨by decide +kernel, by decide +kernel⟩, List.mem_of_getElem? (i := 1385) (by decide +kernel), List.mem_of_getElem? (i := 1573) (by decide +kernel), List.mem_of_getElem? (i := 1574) (by decide +kernel)⟩
theorem lw_p50 : lw_okq (⟨"TruckPlatoonsModel", "ofRoad", "(II)I"⟩, 41) := ⟨⟨by decide +kernel, by decide +kernel⟩, List.mem_of_getElem? (i := 1385) (by decide +kernel), List.mem_of_getElem? (i := 1577) (by decide +kernel), List.mem_of_getElem? (i := 1578) (by decide +kernel)⟩
theorem lw_p51 : lw_okq (⟨"TruckPlatoonsModel", "layMates", "()V"⟩, 41) := ⟨⟨by decide +kernel, by decide +kernel⟩, List.mem_of_getElem? (i := 1385) (by decide +kernel), List.mem_of_getElem? (i := 1581) (by decide +kernel), List.mem_of_getElem? (i := 1582) (by decide +kernel)⟩
theorem lw_p52 : lw_okq (⟨"TruckPlatoonsModel", "setMate", "(IIII)V"⟩, 41) := ⟨⟨by decide +kernel, by decide +kernel⟩, List.mem_of_getElem? (i := 1385) (by decide +kernel), List.mem_of_getElem? (i := 1585) (by decide +kernel), List.mem_of_getElem? (i := 1586) (by decide +kernel)⟩
theorem lw_p53 : lw_okq (⟨"TruckPlatoonsModel", "areMates", "(IIII)Z"⟩, 41) := ⟨⟨by decide +kernel, by decide +kernel⟩, List.mem_of_getElem? (i := 1385) (by decide +kernel), List.mem_of_getElem? (i := 1589) (by decide +kernel), List.mem_of_getElem? (i := 1590) (by decide +kernel)⟩
theorem lw_p54 : lw_okq (⟨"TruckPlatoonsModel", "layKey", "(II)V"⟩, 41) := ⟨⟨by decide +kernel, by decide +kernel⟩, List.mem_of_getElem? (i := 1385) (by decide +kernel), List.mem_of_getElem? (i := 1593) (by decide +kernel), List.mem_of_getElem? (i := 1594) (by decide +kernel)⟩
theorem lw_p55 : lw_okq (⟨"TruckPlatoonsModel", "mateOf", "(III)I"⟩, 41) := ⟨⟨by decide +kernel, by decide +kernel⟩, List.mem_of_getElem? (i := 1385) (by decide +kernel), List.mem_of_getElem? (i := 1597) (by decide +kernel), List.mem_of_getElem? (i := 1598) (by decide +kernel)⟩
theorem lw_p56 : lw_okq (⟨"TruckPlatoonsModel", "shared", "(IIII)I"⟩, 41) := ⟨⟨by decide +kernel, by decide +kernel⟩, List.mem_of_getElem? (i := 1385) (by decide +kernel), List.mem_of_getElem? (i := 1601) (by decide +kernel), List.mem_of_getElem? (i := 1602) (by decide +kernel)⟩
theorem lw_p57 : lw_okq (⟨"TruckPlatoonsModel", "layPosition", "(II)V"⟩, 41) := ⟨⟨by decide +kernel, by decide +kernel⟩, List.mem_of_getElem? (i := 1385) (by decide +kernel), List.mem_of_getElem? (i := 1608) (by decide +kernel), List.mem_of_getElem? (i := 1609) (by decide +kernel)⟩
theorem lw_p58 : lw_okq (⟨"TruckPlatoonsModel", "layPlatoon", "(II)V"⟩, 41) := ⟨⟨by decide +kernel, by decide +kernel⟩, List.mem_of_getElem? (i := 1385) (by decide +kernel), List.mem_of_getElem? (i := 1612) (by decide +kernel), List.mem_of_getElem? (i := 1613) (by decide +kernel)⟩
theorem lw_p59 : lw_okq (⟨"TruckPlatoonsModel", "layOrder", "(II)I"⟩, 41) := ⟨⟨by decide +kernel, by decide +kernel⟩, List.mem_of_getElem? (i := 1385) (by decide +kernel), List.mem_of_getElem? (i := 1616) (by decide +kernel), List.mem_of_getElem? (i := 1617) (by decide +kernel)⟩
theorem lw_p60 : lw_okq (⟨"TruckPlatoonsModel", "memberAt", "(III)I"⟩, 41) := ⟨⟨by decide +kernel, by decide +kernel⟩, List.mem_of_getElem? (i := 1385) (by decide +kernel), List.mem_of_getElem? (i := 1620) (by decide +kernel), List.mem_of_getElem? (i := 1621) (by decide +kernel)⟩
theorem lw_p61 : lw_okq (⟨"TruckPlatoonsModel", "distanceBehind", "(I)I"⟩, 41) := ⟨⟨by decide +kernel, by decide +kernel⟩, List.mem_of_getElem? (i := 1385) (by decide +kernel), List.mem_of_getElem? (i := 1624) (by decide +kernel), List.mem_of_getElem? (i := 1625) (by decide +kernel)⟩
theorem lw_p62 : lw_okq (⟨"TruckPlatoonsModel", "savingOf", "(II)I"⟩, 41) := ⟨⟨by decide +kernel, by decide +kernel⟩, List.mem_of_getElem? (i := 1385) (by decide +kernel), List.mem_of_getElem? (i := 1628) (by decide +kernel), List.mem_of_getElem? (i := 1629) (by decide +kernel)⟩
theorem lw_p63 : lw_okq (⟨"TruckPlatoonsModel", "baseAt", "(II)I"⟩, 41) := ⟨⟨by decide +kernel, by decide +kernel⟩, List.mem_of_getElem? (i := 1385) (by decide +kernel), List.mem_of_getElem? (i := 1632) (by decide +kernel), List.mem_of_getElem? (i := 1633) (by decide +kernel)⟩
def lw_privs_4 : List (MethodName × Nat) := [(⟨"TruckPlatoonsModel", "speedAt", "(II)I"⟩, 41), (⟨"TruckPlatoonsModel", "minutes", "(II)I"⟩, 41), (⟨"TruckPlatoonsModel", "ofRoad", "(II)I"⟩, 41), (⟨"TruckPlatoonsModel", "layMates", "()V"⟩, 41), (⟨"TruckPlatoonsModel", "setMate", "(IIII)V"⟩, 41), (⟨"TruckPlatoonsModel", "areMates", "(IIII)Z"⟩, 41), (⟨"TruckPlatoonsModel", "layKey", "(II)V"⟩, 41), (⟨"TruckPlatoonsModel", "mateOf", "(III)I"⟩, 41), (⟨"TruckPlatoonsModel", "shared", "(IIII)I"⟩, 41), (⟨"TruckPlatoonsModel", "layPosition", "(II)V"⟩, 41), (⟨"TruckPlatoonsModel", "layPlatoon", "(II)V"⟩, 41), (⟨"TruckPlatoonsModel", "layOrder", "(II)I"⟩, 41), (⟨"TruckPlatoonsModel", "memberAt", "(III)I"⟩, 41), (⟨"TruckPlatoonsModel", "distanceBehind", "(I)I"⟩, 41), (⟨"TruckPlatoonsModel", "savingOf", "(II)I"⟩, 41), (⟨"TruckPlatoonsModel", "baseAt", "(II)I"⟩, 41)]
theorem lw_r4 : ∀ q ∈ lw_privs_4, lw_okq q := List.forall_mem_cons.mpr ⟨lw_p48, List.forall_mem_cons.mpr ⟨lw_p49, List.forall_mem_cons.mpr ⟨lw_p50, List.forall_mem_cons.mpr ⟨lw_p51, List.forall_mem_cons.mpr ⟨lw_p52, List.forall_mem_cons.mpr ⟨lw_p53, List.forall_mem_cons.mpr ⟨lw_p54, List.forall_mem_cons.mpr ⟨lw_p55, List.forall_mem_cons.mpr ⟨lw_p56, List.forall_mem_cons.mpr ⟨lw_p57, List.forall_mem_cons.mpr ⟨lw_p58, List.forall_mem_cons.mpr ⟨lw_p59, List.forall_mem_cons.mpr ⟨lw_p60, List.forall_mem_cons.mpr ⟨lw_p61, List.forall_mem_cons.mpr ⟨lw_p62, List.forall_mem_cons.mpr ⟨lw_p63, fun _ h => absurd h List.not_mem_nil⟩⟩⟩⟩⟩⟩⟩⟩⟩⟩⟩⟩⟩⟩⟩⟩
theorem lw_p64 : lw_okq (⟨"TruckPlatoonsModel", "shareOf", "(I)I"⟩, 41) := ⟨⟨by decide +kernel, by decide +kernel⟩, List.mem_of_getElem? (i := 1385) (by decide +kernel), List.mem_of_getElem? (i := 1636) (by decide +kernel), List.mem_of_getElem? (i := 1637) (by decide +kernel)⟩
theorem lw_p65 : lw_okq (⟨"TruckPlatoonsModel", "isClosing", "(I)Z"⟩, 41) := ⟨⟨by decide +kernel, by decide +kernel⟩, List.mem_of_getElem? (i := 1385) (by decide +kernel), List.mem_of_getElem? (i := 1640) (by decide +kernel), List.mem_of_getElem? (i := 1641) (by decide +kernel)⟩
theorem lw_p66 : lw_okq (⟨"TruckPlatoonsModel", "nextRoad", "(II)I"⟩, 41) := ⟨⟨by decide +kernel, by decide +kernel⟩, List.mem_of_getElem? (i := 1385) (by decide +kernel), List.mem_of_getElem? (i := 1644) (by decide +kernel), List.mem_of_getElem? (i := 1645) (by decide +kernel)⟩
theorem lw_p67 : lw_okq (⟨"TruckPlatoonsModel", "allPlaces", "()I"⟩, 41) := ⟨⟨by decide +kernel, by decide +kernel⟩, List.mem_of_getElem? (i := 1385) (by decide +kernel), List.mem_of_getElem? (i := 1648) (by decide +kernel), List.mem_of_getElem? (i := 1649) (by decide +kernel)⟩
theorem lw_p68 : lw_okq (⟨"TruckPlatoonsModel", "platoons", "(Z)I"⟩, 41) := ⟨⟨by decide +kernel, by decide +kernel⟩, List.mem_of_getElem? (i := 1385) (by decide +kernel), List.mem_of_getElem? (i := 1652) (by decide +kernel), List.mem_of_getElem? (i := 1653) (by decide +kernel)⟩
theorem lw_p69 : lw_okq (⟨"TruckPlatoonsModel", "lateSet", "()I"⟩, 41) := ⟨⟨by decide +kernel, by decide +kernel⟩, List.mem_of_getElem? (i := 1385) (by decide +kernel), List.mem_of_getElem? (i := 1656) (by decide +kernel), List.mem_of_getElem? (i := 1657) (by decide +kernel)⟩
theorem lw_p70 : lw_okq (⟨"TruckPlatoonsModel", "isLate", "(I)Z"⟩, 41) := ⟨⟨by decide +kernel, by decide +kernel⟩, List.mem_of_getElem? (i := 1385) (by decide +kernel), List.mem_of_getElem? (i := 1660) (by decide +kernel), List.mem_of_getElem? (i := 1661) (by decide +kernel)⟩
theorem lw_p71 : lw_okq (⟨"TruckPlatoonsModel", "arrival", "(I)I"⟩, 41) := ⟨⟨by decide +kernel, by decide +kernel⟩, List.mem_of_getElem? (i := 1385) (by decide +kernel), List.mem_of_getElem? (i := 1664) (by decide +kernel), List.mem_of_getElem? (i := 1665) (by decide +kernel)⟩
theorem lw_p72 : lw_okq (⟨"TruckPlatoonsModel", "sumOfAll", "(I)I"⟩, 41) := ⟨⟨by decide +kernel, by decide +kernel⟩, List.mem_of_getElem? (i := 1385) (by decide +kernel), List.mem_of_getElem? (i := 1671) (by decide +kernel), List.mem_of_getElem? (i := 1672) (by decide +kernel)⟩
theorem lw_p73 : lw_okq (⟨"TruckPlatoonsModel", "sumOf", "(II)I"⟩, 41) := ⟨⟨by decide +kernel, by decide +kernel⟩, List.mem_of_getElem? (i := 1385) (by decide +kernel), List.mem_of_getElem? (i := 1675) (by decide +kernel), List.mem_of_getElem? (i := 1676) (by decide +kernel)⟩
theorem lw_p74 : lw_okq (⟨"TruckPlatoonsModel", "fuelAt", "(II)I"⟩, 41) := ⟨⟨by decide +kernel, by decide +kernel⟩, List.mem_of_getElem? (i := 1385) (by decide +kernel), List.mem_of_getElem? (i := 1679) (by decide +kernel), List.mem_of_getElem? (i := 1680) (by decide +kernel)⟩
theorem lw_p75 : lw_okq (⟨"TruckPlatoonsModel", "isRoad", "(I)Z"⟩, 41) := ⟨⟨by decide +kernel, by decide +kernel⟩, List.mem_of_getElem? (i := 1385) (by decide +kernel), List.mem_of_getElem? (i := 1687) (by decide +kernel), List.mem_of_getElem? (i := 1688) (by decide +kernel)⟩
theorem lw_p76 : lw_okq (⟨"TruckPlatoonsModel", "throwsIf", "(ZI)Z"⟩, 41) := ⟨⟨by decide +kernel, by decide +kernel⟩, List.mem_of_getElem? (i := 1385) (by decide +kernel), List.mem_of_getElem? (i := 1691) (by decide +kernel), List.mem_of_getElem? (i := 1692) (by decide +kernel)⟩
theorem lw_p77 : lw_okq (⟨"TruckPlatoonsModel", "platoonsOn", "(I)I"⟩, 41) := ⟨⟨by decide +kernel, by decide +kernel⟩, List.mem_of_getElem? (i := 1385) (by decide +kernel), List.mem_of_getElem? (i := 1695) (by decide +kernel), List.mem_of_getElem? (i := 1696) (by decide +kernel)⟩
theorem lw_p78 : lw_okq (⟨"TruckPlatoonsModel", "trucksOn", "(I)I"⟩, 41) := ⟨⟨by decide +kernel, by decide +kernel⟩, List.mem_of_getElem? (i := 1385) (by decide +kernel), List.mem_of_getElem? (i := 1699) (by decide +kernel), List.mem_of_getElem? (i := 1700) (by decide +kernel)⟩
theorem lw_p79 : lw_okq (⟨"TruckPlatoonsModel", "isTruck", "(I)Z"⟩, 41) := ⟨⟨by decide +kernel, by decide +kernel⟩, List.mem_of_getElem? (i := 1385) (by decide +kernel), List.mem_of_getElem? (i := 1707) (by decide +kernel), List.mem_of_getElem? (i := 1708) (by decide +kernel)⟩
def lw_privs_5 : List (MethodName × Nat) := [(⟨"TruckPlatoonsModel", "shareOf", "(I)I"⟩, 41), (⟨"TruckPlatoonsModel", "isClosing", "(I)Z"⟩, 41), (⟨"TruckPlatoonsModel", "nextRoad", "(II)I"⟩, 41), (⟨"TruckPlatoonsModel", "allPlaces", "()I"⟩, 41), (⟨"TruckPlatoonsModel", "platoons", "(Z)I"⟩, 41), (⟨"TruckPlatoonsModel", "lateSet", "()I"⟩, 41), (⟨"TruckPlatoonsModel", "isLate", "(I)Z"⟩, 41), (⟨"TruckPlatoonsModel", "arrival", "(I)I"⟩, 41), (⟨"TruckPlatoonsModel", "sumOfAll", "(I)I"⟩, 41), (⟨"TruckPlatoonsModel", "sumOf", "(II)I"⟩, 41), (⟨"TruckPlatoonsModel", "fuelAt", "(II)I"⟩, 41), (⟨"TruckPlatoonsModel", "isRoad", "(I)Z"⟩, 41), (⟨"TruckPlatoonsModel", "throwsIf", "(ZI)Z"⟩, 41), (⟨"TruckPlatoonsModel", "platoonsOn", "(I)I"⟩, 41), (⟨"TruckPlatoonsModel", "trucksOn", "(I)I"⟩, 41), (⟨"TruckPlatoonsModel", "isTruck", "(I)Z"⟩, 41)]
theorem lw_r5 : ∀ q ∈ lw_privs_5, lw_okq q := List.forall_mem_cons.mpr ⟨lw_p64, List.forall_mem_cons.mpr ⟨lw_p65, List.forall_mem_cons.mpr ⟨lw_p66, List.forall_mem_cons.mpr ⟨lw_p67, List.forall_mem_cons.mpr ⟨lw_p68, List.forall_mem_cons.mpr ⟨lw_p69, List.forall_mem_cons.mpr ⟨lw_p70, List.forall_mem_cons.mpr ⟨lw_p71, List.forall_mem_cons.mpr ⟨lw_p72, List.forall_mem_cons.mpr ⟨lw_p73, List.forall_mem_cons.mpr ⟨lw_p74, List.forall_mem_cons.mpr ⟨lw_p75, List.forall_mem_cons.mpr ⟨lw_p76, List.forall_mem_cons.mpr ⟨lw_p77, List.forall_mem_cons.mpr ⟨lw_p78, List.forall_mem_cons.mpr ⟨lw_p79, fun _ h => absurd h List.not_mem_nil⟩⟩⟩⟩⟩⟩⟩⟩⟩⟩⟩⟩⟩⟩⟩⟩
theorem lw_p80 : lw_okq (⟨"TruckPlatoonsModel", "noPlace", "(II)Z"⟩, 41) := ⟨⟨by decide +kernel, by decide +kernel⟩, List.mem_of_getElem? (i := 1385) (by decide +kernel), List.mem_of_getElem? (i := 1715) (by decide +kernel), List.mem_of_getElem? (i := 1716) (by decide +kernel)⟩
theorem lw_p81 : lw_okq (⟨"TruckPlatoonsModel", "isPlace", "(II)Z"⟩, 41) := ⟨⟨by decide +kernel, by decide +kernel⟩, List.mem_of_getElem? (i := 1385) (by decide +kernel), List.mem_of_getElem? (i := 1719) (by decide +kernel), List.mem_of_getElem? (i := 1720) (by decide +kernel)⟩
theorem lw_p82 : lw_okq (⟨"TruckPlatoonsModel", "readyAt", "(II)I"⟩, 41) := ⟨⟨by decide +kernel, by decide +kernel⟩, List.mem_of_getElem? (i := 1385) (by decide +kernel), List.mem_of_getElem? (i := 1723) (by decide +kernel), List.mem_of_getElem? (i := 1724) (by decide +kernel)⟩
theorem lw_p83 : lw_okq (⟨"TruckPlatoonsModel", "numberOf", "(II)I"⟩, 41) := ⟨⟨by decide +kernel, by decide +kernel⟩, List.mem_of_getElem? (i := 1385) (by decide +kernel), List.mem_of_getElem? (i := 1731) (by decide +kernel), List.mem_of_getElem? (i := 1732) (by decide +kernel)⟩
theorem lw_p84 : lw_okq (⟨"TruckPlatoonsModel", "comesAhead", "(IIII)Z"⟩, 41) := ⟨⟨by decide +kernel, by decide +kernel⟩, List.mem_of_getElem? (i := 1385) (by decide +kernel), List.mem_of_getElem? (i := 1735) (by decide +kernel), List.mem_of_getElem? (i := 1736) (by decide +kernel)⟩
theorem lw_p85 : lw_okq (⟨"TruckPlatoonsModel", "noPlatoon", "(II)Z"⟩, 41) := ⟨⟨by decide +kernel, by decide +kernel⟩, List.mem_of_getElem? (i := 1385) (by decide +kernel), List.mem_of_getElem? (i := 1751) (by decide +kernel), List.mem_of_getElem? (i := 1752) (by decide +kernel)⟩
theorem lw_p86 : lw_okq (⟨"TruckPlatoonsModel", "findPlatoon", "(II)Z"⟩, 41) := ⟨⟨by decide +kernel, by decide +kernel⟩, List.mem_of_getElem? (i := 1385) (by decide +kernel), List.mem_of_getElem? (i := 1755) (by decide +kernel), List.mem_of_getElem? (i := 1756) (by decide +kernel)⟩
theorem lw_p87 : lw_okq (⟨"TruckPlatoonsModel", "notTwo", "(II)Z"⟩, 41) := ⟨⟨by decide +kernel, by decide +kernel⟩, List.mem_of_getElem? (i := 1385) (by decide +kernel), List.mem_of_getElem? (i := 1767) (by decide +kernel), List.mem_of_getElem? (i := 1768) (by decide +kernel)⟩
theorem lw_p88 : lw_okq (⟨"TruckPlatoonsModel", "layRun", "(II)V"⟩, 41) := ⟨⟨by decide +kernel, by decide +kernel⟩, List.mem_of_getElem? (i := 1385) (by decide +kernel), List.mem_of_getElem? (i := 1780) (by decide +kernel), List.mem_of_getElem? (i := 1781) (by decide +kernel)⟩
theorem lw_p89 : lw_okq (⟨"TruckPlatoonsModel", "placeOf", "(II)I"⟩, 41) := ⟨⟨by decide +kernel, by decide +kernel⟩, List.mem_of_getElem? (i := 1385) (by decide +kernel), List.mem_of_getElem? (i := 1784) (by decide +kernel), List.mem_of_getElem? (i := 1785) (by decide +kernel)⟩
theorem lw_p90 : lw_okq (⟨"TruckPlatoonsModel", "limitAt", "(II)I"⟩, 41) := ⟨⟨by decide +kernel, by decide +kernel⟩, List.mem_of_getElem? (i := 1385) (by decide +kernel), List.mem_of_getElem? (i := 1801) (by decide +kernel), List.mem_of_getElem? (i := 1802) (by decide +kernel)⟩
theorem lw_p91 : lw_okq (⟨"TruckPlatoonsModel", "setWaitNow", "(III)I"⟩, 41) := ⟨⟨by decide +kernel, by decide +kernel⟩, List.mem_of_getElem? (i := 1385) (by decide +kernel), List.mem_of_getElem? (i := 1810) (by decide +kernel), List.mem_of_getElem? (i := 1811) (by decide +kernel)⟩
theorem lw_p92 : lw_okq (⟨"TruckPlatoonsModel", "keep", "()V"⟩, 41) := ⟨⟨by decide +kernel, by decide +kernel⟩, List.mem_of_getElem? (i := 1385) (by decide +kernel), List.mem_of_getElem? (i := 1814) (by decide +kernel), List.mem_of_getElem? (i := 1815) (by decide +kernel)⟩
theorem lw_p93 : lw_okq (⟨"TruckPlatoonsModel", "setSpeedNow", "(III)I"⟩, 41) := ⟨⟨by decide +kernel, by decide +kernel⟩, List.mem_of_getElem? (i := 1385) (by decide +kernel), List.mem_of_getElem? (i := 1823) (by decide +kernel), List.mem_of_getElem? (i := 1824) (by decide +kernel)⟩
theorem lw_p94 : lw_okq (⟨"TruckPlatoonsModel", "setStartNow", "(II)I"⟩, 41) := ⟨⟨by decide +kernel, by decide +kernel⟩, List.mem_of_getElem? (i := 1385) (by decide +kernel), List.mem_of_getElem? (i := 1832) (by decide +kernel), List.mem_of_getElem? (i := 1833) (by decide +kernel)⟩
theorem lw_p95 : lw_okq (⟨"TruckPlatoonsModel", "reasonNow", "(II)I"⟩, 41) := ⟨⟨by decide +kernel, by decide +kernel⟩, List.mem_of_getElem? (i := 1385) (by decide +kernel), List.mem_of_getElem? (i := 1840) (by decide +kernel), List.mem_of_getElem? (i := 1841) (by decide +kernel)⟩
def lw_privs_6 : List (MethodName × Nat) := [(⟨"TruckPlatoonsModel", "noPlace", "(II)Z"⟩, 41), (⟨"TruckPlatoonsModel", "isPlace", "(II)Z"⟩, 41), (⟨"TruckPlatoonsModel", "readyAt", "(II)I"⟩, 41), (⟨"TruckPlatoonsModel", "numberOf", "(II)I"⟩, 41), (⟨"TruckPlatoonsModel", "comesAhead", "(IIII)Z"⟩, 41), (⟨"TruckPlatoonsModel", "noPlatoon", "(II)Z"⟩, 41), (⟨"TruckPlatoonsModel", "findPlatoon", "(II)Z"⟩, 41), (⟨"TruckPlatoonsModel", "notTwo", "(II)Z"⟩, 41), (⟨"TruckPlatoonsModel", "layRun", "(II)V"⟩, 41), (⟨"TruckPlatoonsModel", "placeOf", "(II)I"⟩, 41), (⟨"TruckPlatoonsModel", "limitAt", "(II)I"⟩, 41), (⟨"TruckPlatoonsModel", "setWaitNow", "(III)I"⟩, 41), (⟨"TruckPlatoonsModel", "keep", "()V"⟩, 41), (⟨"TruckPlatoonsModel", "setSpeedNow", "(III)I"⟩, 41), (⟨"TruckPlatoonsModel", "setStartNow", "(II)I"⟩, 41), (⟨"TruckPlatoonsModel", "reasonNow", "(II)I"⟩, 41)]
theorem lw_r6 : ∀ q ∈ lw_privs_6, lw_okq q := List.forall_mem_cons.mpr ⟨lw_p80, List.forall_mem_cons.mpr ⟨lw_p81, List.forall_mem_cons.mpr ⟨lw_p82, List.forall_mem_cons.mpr ⟨lw_p83, List.forall_mem_cons.mpr ⟨lw_p84, List.forall_mem_cons.mpr ⟨lw_p85, List.forall_mem_cons.mpr ⟨lw_p86, List.forall_mem_cons.mpr ⟨lw_p87, List.forall_mem_cons.mpr ⟨lw_p88, List.forall_mem_cons.mpr ⟨lw_p89, List.forall_mem_cons.mpr ⟨lw_p90, List.forall_mem_cons.mpr ⟨lw_p91, List.forall_mem_cons.mpr ⟨lw_p92, List.forall_mem_cons.mpr ⟨lw_p93, List.forall_mem_cons.mpr ⟨lw_p94, List.forall_mem_cons.mpr ⟨lw_p95, fun _ h => absurd h List.not_mem_nil⟩⟩⟩⟩⟩⟩⟩⟩⟩⟩⟩⟩⟩⟩⟩⟩
theorem lw_p96 : lw_okq (⟨"TruckPlatoonsModel", "lateness", "(II)I"⟩, 41) := ⟨⟨by decide +kernel, by decide +kernel⟩, List.mem_of_getElem? (i := 1385) (by decide +kernel), List.mem_of_getElem? (i := 1845) (by decide +kernel), List.mem_of_getElem? (i := 1846) (by decide +kernel)⟩
theorem lw_p97 : lw_okq (⟨"TruckPlatoonsModel", "joinRun", "(II)V"⟩, 41) := ⟨⟨by decide +kernel, by decide +kernel⟩, List.mem_of_getElem? (i := 1385) (by decide +kernel), List.mem_of_getElem? (i := 1849) (by decide +kernel), List.mem_of_getElem? (i := 1850) (by decide +kernel)⟩
theorem lw_p98 : lw_okq (⟨"TruckPlatoonsModel", "mergeNow", "(II)I"⟩, 41) := ⟨⟨by decide +kernel, by decide +kernel⟩, List.mem_of_getElem? (i := 1385) (by decide +kernel), List.mem_of_getElem? (i := 1860) (by decide +kernel), List.mem_of_getElem? (i := 1861) (by decide +kernel)⟩
theorem lw_p99 : lw_okq (⟨"TruckPlatoonsModel", "gainNow", "(III)I"⟩, 41) := ⟨⟨by decide +kernel, by decide +kernel⟩, List.mem_of_getElem? (i := 1385) (by decide +kernel), List.mem_of_getElem? (i := 1868) (by decide +kernel), List.mem_of_getElem? (i := 1869) (by decide +kernel)⟩
theorem lw_p100 : lw_okq (⟨"TruckPlatoonsModel", "mergeAllNow", "()I"⟩, 41) := ⟨⟨by decide +kernel, by decide +kernel⟩, List.mem_of_getElem? (i := 1385) (by decide +kernel), List.mem_of_getElem? (i := 1880) (by decide +kernel), List.mem_of_getElem? (i := 1881) (by decide +kernel)⟩
theorem lw_p101 : lw_okq (⟨"TruckPlatoonsModel", "mergedBest", "()Z"⟩, 41) := ⟨⟨by decide +kernel, by decide +kernel⟩, List.mem_of_getElem? (i := 1385) (by decide +kernel), List.mem_of_getElem? (i := 1884) (by decide +kernel), List.mem_of_getElem? (i := 1885) (by decide +kernel)⟩
theorem lw_p102 : lw_okq (⟨"TruckPlatoonsModel", "hurryNow", "(I)I"⟩, 41) := ⟨⟨by decide +kernel, by decide +kernel⟩, List.mem_of_getElem? (i := 1385) (by decide +kernel), List.mem_of_getElem? (i := 1892) (by decide +kernel), List.mem_of_getElem? (i := 1893) (by decide +kernel)⟩
theorem lw_p103 : lw_okq (⟨"TruckPlatoonsModel", "relaxNow", "(I)I"⟩, 41) := ⟨⟨by decide +kernel, by decide +kernel⟩, List.mem_of_getElem? (i := 1385) (by decide +kernel), List.mem_of_getElem? (i := 1900) (by decide +kernel), List.mem_of_getElem? (i := 1901) (by decide +kernel)⟩
theorem lw_p104 : lw_okq (⟨"TruckPlatoonsModel", "savedOn", "(I)I"⟩, 41) := ⟨⟨by decide +kernel, by decide +kernel⟩, List.mem_of_getElem? (i := 1385) (by decide +kernel), List.mem_of_getElem? (i := 1920) (by decide +kernel), List.mem_of_getElem? (i := 1921) (by decide +kernel)⟩
theorem lw_p105 : lw_okq (⟨"TruckPlatoonsModel", "isLong", "()Z"⟩, 41) := ⟨⟨by decide +kernel, by decide +kernel⟩, List.mem_of_getElem? (i := 1385) (by decide +kernel), List.mem_of_getElem? (i := 1928) (by decide +kernel), List.mem_of_getElem? (i := 1929) (by decide +kernel)⟩
theorem lw_p106 : lw_okq (⟨"TruckPlatoonsModel", "layBest", "()I"⟩, 41) := ⟨⟨by decide +kernel, by decide +kernel⟩, List.mem_of_getElem? (i := 1385) (by decide +kernel), List.mem_of_getElem? (i := 1932) (by decide +kernel), List.mem_of_getElem? (i := 1933) (by decide +kernel)⟩
theorem lw_p107 : lw_okq (⟨"TruckPlatoonsModel", "worth", "(I)I"⟩, 41) := ⟨⟨by decide +kernel, by decide +kernel⟩, List.mem_of_getElem? (i := 1385) (by decide +kernel), List.mem_of_getElem? (i := 1936) (by decide +kernel), List.mem_of_getElem? (i := 1937) (by decide +kernel)⟩
theorem lw_p108 : lw_okq (⟨"TruckPlatoonsModel", "meetTurn", "(IZ)V"⟩, 41) := ⟨⟨by decide +kernel, by decide +kernel⟩, List.mem_of_getElem? (i := 1385) (by decide +kernel), List.mem_of_getElem? (i := 1940) (by decide +kernel), List.mem_of_getElem? (i := 1941) (by decide +kernel)⟩
theorem lw_p109 : lw_okq (⟨"TruckPlatoonsModel", "layTurns", "(I)V"⟩, 41) := ⟨⟨by decide +kernel, by decide +kernel⟩, List.mem_of_getElem? (i := 1385) (by decide +kernel), List.mem_of_getElem? (i := 1944) (by decide +kernel), List.mem_of_getElem? (i := 1945) (by decide +kernel)⟩
theorem lw_p110 : lw_okq (⟨"TruckPlatoonsModel", "nextTurn", "(I)Z"⟩, 41) := ⟨⟨by decide +kernel, by decide +kernel⟩, List.mem_of_getElem? (i := 1385) (by decide +kernel), List.mem_of_getElem? (i := 1948) (by decide +kernel), List.mem_of_getElem? (i := 1949) (by decide +kernel)⟩
theorem lw_p111 : lw_okq (⟨"TruckPlatoonsModel", "swapTurns", "(II)V"⟩, 41) := ⟨⟨by decide +kernel, by decide +kernel⟩, List.mem_of_getElem? (i := 1385) (by decide +kernel), List.mem_of_getElem? (i := 1952) (by decide +kernel), List.mem_of_getElem? (i := 1953) (by decide +kernel)⟩
def lw_privs_7 : List (MethodName × Nat) := [(⟨"TruckPlatoonsModel", "lateness", "(II)I"⟩, 41), (⟨"TruckPlatoonsModel", "joinRun", "(II)V"⟩, 41), (⟨"TruckPlatoonsModel", "mergeNow", "(II)I"⟩, 41), (⟨"TruckPlatoonsModel", "gainNow", "(III)I"⟩, 41), (⟨"TruckPlatoonsModel", "mergeAllNow", "()I"⟩, 41), (⟨"TruckPlatoonsModel", "mergedBest", "()Z"⟩, 41), (⟨"TruckPlatoonsModel", "hurryNow", "(I)I"⟩, 41), (⟨"TruckPlatoonsModel", "relaxNow", "(I)I"⟩, 41), (⟨"TruckPlatoonsModel", "savedOn", "(I)I"⟩, 41), (⟨"TruckPlatoonsModel", "isLong", "()Z"⟩, 41), (⟨"TruckPlatoonsModel", "layBest", "()I"⟩, 41), (⟨"TruckPlatoonsModel", "worth", "(I)I"⟩, 41), (⟨"TruckPlatoonsModel", "meetTurn", "(IZ)V"⟩, 41), (⟨"TruckPlatoonsModel", "layTurns", "(I)V"⟩, 41), (⟨"TruckPlatoonsModel", "nextTurn", "(I)Z"⟩, 41), (⟨"TruckPlatoonsModel", "swapTurns", "(II)V"⟩, 41)]
theorem lw_r7 : ∀ q ∈ lw_privs_7, lw_okq q := List.forall_mem_cons.mpr ⟨lw_p96, List.forall_mem_cons.mpr ⟨lw_p97, List.forall_mem_cons.mpr ⟨lw_p98, List.forall_mem_cons.mpr ⟨lw_p99, List.forall_mem_cons.mpr ⟨lw_p100, List.forall_mem_cons.mpr ⟨lw_p101, List.forall_mem_cons.mpr ⟨lw_p102, List.forall_mem_cons.mpr ⟨lw_p103, List.forall_mem_cons.mpr ⟨lw_p104, List.forall_mem_cons.mpr ⟨lw_p105, List.forall_mem_cons.mpr ⟨lw_p106, List.forall_mem_cons.mpr ⟨lw_p107, List.forall_mem_cons.mpr ⟨lw_p108, List.forall_mem_cons.mpr ⟨lw_p109, List.forall_mem_cons.mpr ⟨lw_p110, List.forall_mem_cons.mpr ⟨lw_p111, fun _ h => absurd h List.not_mem_nil⟩⟩⟩⟩⟩⟩⟩⟩⟩⟩⟩⟩⟩⟩⟩⟩
theorem lw_p112 : lw_okq (⟨"TruckPlatoonsModel", "put", "(I)V"⟩, 41) := ⟨⟨by decide +kernel, by decide +kernel⟩, List.mem_of_getElem? (i := 1385) (by decide +kernel), List.mem_of_getElem? (i := 1992) (by decide +kernel), List.mem_of_getElem? (i := 1993) (by decide +kernel)⟩
theorem lw_p113 : lw_okq (⟨"TruckPlatoonsModel", "putNumber", "(I)V"⟩, 41) := ⟨⟨by decide +kernel, by decide +kernel⟩, List.mem_of_getElem? (i := 1385) (by decide +kernel), List.mem_of_getElem? (i := 1996) (by decide +kernel), List.mem_of_getElem? (i := 1997) (by decide +kernel)⟩
theorem lw_p114 : lw_okq (⟨"TruckPlatoonsModel", "appendBytes", "(I)V"⟩, 41) := ⟨⟨by decide +kernel, by decide +kernel⟩, List.mem_of_getElem? (i := 1385) (by decide +kernel), List.mem_of_getElem? (i := 2008) (by decide +kernel), List.mem_of_getElem? (i := 2009) (by decide +kernel)⟩
theorem lw_p115 : lw_okq (⟨"TruckPlatoonsModel", "beginText", "()V"⟩, 41) := ⟨⟨by decide +kernel, by decide +kernel⟩, List.mem_of_getElem? (i := 1385) (by decide +kernel), List.mem_of_getElem? (i := 2028) (by decide +kernel), List.mem_of_getElem? (i := 2029) (by decide +kernel)⟩
theorem lw_p116 : lw_okq (⟨"TruckPlatoonsModel", "advance", "()V"⟩, 41) := ⟨⟨by decide +kernel, by decide +kernel⟩, List.mem_of_getElem? (i := 1385) (by decide +kernel), List.mem_of_getElem? (i := 2032) (by decide +kernel), List.mem_of_getElem? (i := 2033) (by decide +kernel)⟩
theorem lw_p117 : lw_okq (⟨"TruckPlatoonsModel", "byteAt", "(I)I"⟩, 41) := ⟨⟨by decide +kernel, by decide +kernel⟩, List.mem_of_getElem? (i := 1385) (by decide +kernel), List.mem_of_getElem? (i := 2036) (by decide +kernel), List.mem_of_getElem? (i := 2037) (by decide +kernel)⟩
theorem lw_p118 : lw_okq (⟨"TruckPlatoonsModel", "readStatement", "()Z"⟩, 41) := ⟨⟨by decide +kernel, by decide +kernel⟩, List.mem_of_getElem? (i := 1385) (by decide +kernel), List.mem_of_getElem? (i := 2053) (by decide +kernel), List.mem_of_getElem? (i := 2054) (by decide +kernel)⟩
theorem lw_p119 : lw_okq (⟨"TruckPlatoonsModel", "isWord", "(J)Z"⟩, 41) := ⟨⟨by decide +kernel, by decide +kernel⟩, List.mem_of_getElem? (i := 1385) (by decide +kernel), List.mem_of_getElem? (i := 2060) (by decide +kernel), List.mem_of_getElem? (i := 2061) (by decide +kernel)⟩
theorem lw_p120 : lw_okq (⟨"TruckPlatoonsModel", "readRoad", "()Z"⟩, 41) := ⟨⟨by decide +kernel, by decide +kernel⟩, List.mem_of_getElem? (i := 1385) (by decide +kernel), List.mem_of_getElem? (i := 2064) (by decide +kernel), List.mem_of_getElem? (i := 2065) (by decide +kernel)⟩
theorem lw_p121 : lw_okq (⟨"TruckPlatoonsModel", "fail", "(I)Z"⟩, 41) := ⟨⟨by decide +kernel, by decide +kernel⟩, List.mem_of_getElem? (i := 1385) (by decide +kernel), List.mem_of_getElem? (i := 2068) (by decide +kernel), List.mem_of_getElem? (i := 2069) (by decide +kernel)⟩
theorem lw_p122 : lw_okq (⟨"TruckPlatoonsModel", "readInto", "(III)Z"⟩, 41) := ⟨⟨by decide +kernel, by decide +kernel⟩, List.mem_of_getElem? (i := 1385) (by decide +kernel), List.mem_of_getElem? (i := 2072) (by decide +kernel), List.mem_of_getElem? (i := 2073) (by decide +kernel)⟩
theorem lw_p123 : lw_okq (⟨"TruckPlatoonsModel", "readNumber", "(II)Z"⟩, 41) := ⟨⟨by decide +kernel, by decide +kernel⟩, List.mem_of_getElem? (i := 1385) (by decide +kernel), List.mem_of_getElem? (i := 2076) (by decide +kernel), List.mem_of_getElem? (i := 2077) (by decide +kernel)⟩
theorem lw_p124 : lw_okq (⟨"TruckPlatoonsModel", "readEnd", "()Z"⟩, 41) := ⟨⟨by decide +kernel, by decide +kernel⟩, List.mem_of_getElem? (i := 1385) (by decide +kernel), List.mem_of_getElem? (i := 2080) (by decide +kernel), List.mem_of_getElem? (i := 2081) (by decide +kernel)⟩
theorem lw_p125 : lw_okq (⟨"TruckPlatoonsModel", "readTruck", "()Z"⟩, 41) := ⟨⟨by decide +kernel, by decide +kernel⟩, List.mem_of_getElem? (i := 1385) (by decide +kernel), List.mem_of_getElem? (i := 2084) (by decide +kernel), List.mem_of_getElem? (i := 2085) (by decide +kernel)⟩
theorem lw_p126 : lw_okq (⟨"TruckPlatoonsModel", "readPlace", "(I)Z"⟩, 41) := ⟨⟨by decide +kernel, by decide +kernel⟩, List.mem_of_getElem? (i := 1385) (by decide +kernel), List.mem_of_getElem? (i := 2088) (by decide +kernel), List.mem_of_getElem? (i := 2089) (by decide +kernel)⟩
theorem lw_p127 : lw_okq (⟨"TruckPlatoonsModel", "toldRoad", "(II)I"⟩, 41) := ⟨⟨by decide +kernel, by decide +kernel⟩, List.mem_of_getElem? (i := 1385) (by decide +kernel), List.mem_of_getElem? (i := 2092) (by decide +kernel), List.mem_of_getElem? (i := 2093) (by decide +kernel)⟩
def lw_privs_8 : List (MethodName × Nat) := [(⟨"TruckPlatoonsModel", "put", "(I)V"⟩, 41), (⟨"TruckPlatoonsModel", "putNumber", "(I)V"⟩, 41), (⟨"TruckPlatoonsModel", "appendBytes", "(I)V"⟩, 41), (⟨"TruckPlatoonsModel", "beginText", "()V"⟩, 41), (⟨"TruckPlatoonsModel", "advance", "()V"⟩, 41), (⟨"TruckPlatoonsModel", "byteAt", "(I)I"⟩, 41), (⟨"TruckPlatoonsModel", "readStatement", "()Z"⟩, 41), (⟨"TruckPlatoonsModel", "isWord", "(J)Z"⟩, 41), (⟨"TruckPlatoonsModel", "readRoad", "()Z"⟩, 41), (⟨"TruckPlatoonsModel", "fail", "(I)Z"⟩, 41), (⟨"TruckPlatoonsModel", "readInto", "(III)Z"⟩, 41), (⟨"TruckPlatoonsModel", "readNumber", "(II)Z"⟩, 41), (⟨"TruckPlatoonsModel", "readEnd", "()Z"⟩, 41), (⟨"TruckPlatoonsModel", "readTruck", "()Z"⟩, 41), (⟨"TruckPlatoonsModel", "readPlace", "(I)Z"⟩, 41), (⟨"TruckPlatoonsModel", "toldRoad", "(II)I"⟩, 41)]
theorem lw_r8 : ∀ q ∈ lw_privs_8, lw_okq q := List.forall_mem_cons.mpr ⟨lw_p112, List.forall_mem_cons.mpr ⟨lw_p113, List.forall_mem_cons.mpr ⟨lw_p114, List.forall_mem_cons.mpr ⟨lw_p115, List.forall_mem_cons.mpr ⟨lw_p116, List.forall_mem_cons.mpr ⟨lw_p117, List.forall_mem_cons.mpr ⟨lw_p118, List.forall_mem_cons.mpr ⟨lw_p119, List.forall_mem_cons.mpr ⟨lw_p120, List.forall_mem_cons.mpr ⟨lw_p121, List.forall_mem_cons.mpr ⟨lw_p122, List.forall_mem_cons.mpr ⟨lw_p123, List.forall_mem_cons.mpr ⟨lw_p124, List.forall_mem_cons.mpr ⟨lw_p125, List.forall_mem_cons.mpr ⟨lw_p126, List.forall_mem_cons.mpr ⟨lw_p127, fun _ h => absurd h List.not_mem_nil⟩⟩⟩⟩⟩⟩⟩⟩⟩⟩⟩⟩⟩⟩⟩⟩
theorem lw_p128 : lw_okq (⟨"TruckPlatoonsModel", "readCommand", "()Z"⟩, 41) := ⟨⟨by decide +kernel, by decide +kernel⟩, List.mem_of_getElem? (i := 1385) (by decide +kernel), List.mem_of_getElem? (i := 2100) (by decide +kernel), List.mem_of_getElem? (i := 2101) (by decide +kernel)⟩
theorem lw_p129 : lw_okq (⟨"TruckPlatoonsModel", "commandHere", "()I"⟩, 41) := ⟨⟨by decide +kernel, by decide +kernel⟩, List.mem_of_getElem? (i := 1385) (by decide +kernel), List.mem_of_getElem? (i := 2104) (by decide +kernel), List.mem_of_getElem? (i := 2105) (by decide +kernel)⟩
theorem lw_p130 : lw_okq (⟨"TruckPlatoonsModel", "readArguments", "(I)Z"⟩, 41) := ⟨⟨by decide +kernel, by decide +kernel⟩, List.mem_of_getElem? (i := 1385) (by decide +kernel), List.mem_of_getElem? (i := 2108) (by decide +kernel), List.mem_of_getElem? (i := 2109) (by decide +kernel)⟩
theorem lw_p131 : lw_okq (⟨"TruckPlatoonsModel", "readNumberOf", "(III)Z"⟩, 41) := ⟨⟨by decide +kernel, by decide +kernel⟩, List.mem_of_getElem? (i := 1385) (by decide +kernel), List.mem_of_getElem? (i := 2112) (by decide +kernel), List.mem_of_getElem? (i := 2113) (by decide +kernel)⟩
theorem lw_p132 : lw_okq (⟨"TruckPlatoonsModel", "isDone", "(I)Z"⟩, 41) := ⟨⟨by decide +kernel, by decide +kernel⟩, List.mem_of_getElem? (i := 1385) (by decide +kernel), List.mem_of_getElem? (i := 2116) (by decide +kernel), List.mem_of_getElem? (i := 2117) (by decide +kernel)⟩
def lw_privs_9 : List (MethodName × Nat) := [(⟨"TruckPlatoonsModel", "readCommand", "()Z"⟩, 41), (⟨"TruckPlatoonsModel", "commandHere", "()I"⟩, 41), (⟨"TruckPlatoonsModel", "readArguments", "(I)Z"⟩, 41), (⟨"TruckPlatoonsModel", "readNumberOf", "(III)Z"⟩, 41), (⟨"TruckPlatoonsModel", "isDone", "(I)Z"⟩, 41)]
theorem lw_r9 : ∀ q ∈ lw_privs_9, lw_okq q := List.forall_mem_cons.mpr ⟨lw_p128, List.forall_mem_cons.mpr ⟨lw_p129, List.forall_mem_cons.mpr ⟨lw_p130, List.forall_mem_cons.mpr ⟨lw_p131, List.forall_mem_cons.mpr ⟨lw_p132, fun _ h => absurd h List.not_mem_nil⟩⟩⟩⟩⟩
def lw_privs : List (MethodName × Nat) := lw_privs_1 ++ (lw_privs_2 ++ (lw_privs_3 ++ (lw_privs_4 ++ (lw_privs_5 ++ (lw_privs_6 ++ (lw_privs_7 ++ (lw_privs_8 ++ (lw_privs_9))))))))
def lw_tbl : List Cond := k2_sels lw_privs ++ tables_1
theorem lw_privs_ok : ∀ q ∈ lw_privs, lw_okq q := by
  show ∀ q ∈ lw_privs_1 ++ (lw_privs_2 ++ (lw_privs_3 ++ (lw_privs_4 ++ (lw_privs_5 ++ (lw_privs_6 ++ (lw_privs_7 ++ (lw_privs_8 ++ (lw_privs_9)))))))), lw_okq q
  exact List.forall_mem_append.mpr ⟨lw_r1, List.forall_mem_append.mpr ⟨lw_r2, List.forall_mem_append.mpr ⟨lw_r3, List.forall_mem_append.mpr ⟨lw_r4, List.forall_mem_append.mpr ⟨lw_r5, List.forall_mem_append.mpr ⟨lw_r6, List.forall_mem_append.mpr ⟨lw_r7, List.forall_mem_append.mpr ⟨lw_r8, lw_r9⟩⟩⟩⟩⟩⟩⟩⟩
/-- the streams that the claim lets the run draw from -/
abbrev lw_cs : List Choice := [Jvm.Choice.named "NaN.bits"]
theorem lw_bits : nanBits ∈ lw_cs := by first | decide | exact List.mem_cons_self | simp [lw_cs, nanBits]
def RX0 : String := "TruckPlatoons$BestOrder"
def TX0 : u_T := fun k => match k with
  | 0 => ("TruckPlatoons$BestOrder", "plan", "LTruckPlatoons$Plan;", true)
  | 1 => ("TruckPlatoons$BestOrder", "order", "[I", true)
  | 2 => ("TruckPlatoons$BestOrder", "members", "I", false)
  | 3 => ("TruckPlatoons$BestOrder", "best", "[I", true)
  | _ => ("TruckPlatoons$BestOrder", "value", "I", false)
def tyX0 : Nat → FieldType := fun k => match k with
  | 0 => .object "TruckPlatoons$Plan"
  | 1 => .array .int
  | 2 => .int
  | 3 => .array .int
  | _ => .int
abbrev wsX00 : List Cond := u_ws RX0 TX0 5
theorem nmX0 : ∀ a, a < 5 → ∀ b, b < 5 → a ≠ b → (TX0 a).2.1 ≠ (TX0 b).2.1 := by decide +kernel
theorem tyX0_ok : ∀ k, k < 5 → parseFieldDescriptor (TX0 k).2.2.1 = some (tyX0 k) := by decide +kernel
abbrev cX0_init : ByteArray := prog_2_method_1_code
def yX0_init : MethodName := ⟨RX0, "<init>", "(LTruckPlatoons$Plan;)V"⟩
abbrev cX0_search : ByteArray := prog_2_method_2_code
def yX0_search : MethodName := ⟨RX0, "search", "(II)V"⟩
abbrev cX0_takeMembers : ByteArray := prog_2_method_3_code
def yX0_takeMembers : MethodName := ⟨RX0, "takeMembers", "(I)V"⟩
abbrev cX0_stepOn : ByteArray := prog_2_method_4_code
def yX0_stepOn : MethodName := ⟨RX0, "stepOn", "()Z"⟩
abbrev cX0_swap : ByteArray := prog_2_method_5_code
def yX0_swap : MethodName := ⟨RX0, "swap", "(II)V"⟩
def RX1 : String := "TruckPlatoons$Fleet"
def TX1 : u_T := fun k => match k with
  | 0 => ("TruckPlatoons$Fleet", "roads", "I", false)
  | 1 => ("TruckPlatoons$Fleet", "from", "[I", true)
  | 2 => ("TruckPlatoons$Fleet", "to", "[I", true)
  | 3 => ("TruckPlatoons$Fleet", "length", "[I", true)
  | 4 => ("TruckPlatoons$Fleet", "limit", "[I", true)
  | 5 => ("TruckPlatoons$Fleet", "trucks", "I", false)
  | 6 => ("TruckPlatoons$Fleet", "firstStart", "[I", true)
  | 7 => ("TruckPlatoons$Fleet", "deadline", "[I", true)
  | 8 => ("TruckPlatoons$Fleet", "gap", "[I", true)
  | 9 => ("TruckPlatoons$Fleet", "places", "[I", true)
  | _ => ("TruckPlatoons$Fleet", "route", "[I", true)
def tyX1 : Nat → FieldType := fun k => match k with
  | 0 => .int
  | 1 => .array .int
  | 2 => .array .int
  | 3 => .array .int
  | 4 => .array .int
  | 5 => .int
  | 6 => .array .int
  | 7 => .array .int
  | 8 => .array .int
  | 9 => .array .int
  | _ => .array .int
abbrev wsX10 : List Cond := u_ws RX1 TX1 11
theorem nmX1 : ∀ a, a < 11 → ∀ b, b < 11 → a ≠ b → (TX1 a).2.1 ≠ (TX1 b).2.1 := by decide +kernel
theorem tyX1_ok : ∀ k, k < 11 → parseFieldDescriptor (TX1 k).2.2.1 = some (tyX1 k) := by decide +kernel
abbrev cX1_init : ByteArray := prog_3_method_1_code
def yX1_init : MethodName := ⟨RX1, "<init>", "()V"⟩
abbrev cX1_copy : ByteArray := prog_3_method_2_code
def yX1_copy : MethodName := ⟨RX1, "copy", "(LTruckPlatoons$Fleet;)V"⟩
abbrev cX1_hasRoad : ByteArray := prog_3_method_3_code
def yX1_hasRoad : MethodName := ⟨RX1, "hasRoad", "(I)Z"⟩
abbrev cX1_hasTruck : ByteArray := prog_3_method_4_code
def yX1_hasTruck : MethodName := ⟨RX1, "hasTruck", "(I)Z"⟩
abbrev cX1_hasPlace : ByteArray := prog_3_method_5_code
def yX1_hasPlace : MethodName := ⟨RX1, "hasPlace", "(II)Z"⟩
abbrev cX1_minutes : ByteArray := prog_3_method_6_code
def yX1_minutes : MethodName := ⟨RX1, "minutes", "(II)I"⟩
abbrev cX1_kilometers : ByteArray := prog_3_method_7_code
def yX1_kilometers : MethodName := ⟨RX1, "kilometers", "(I)I"⟩
def RX2 : String := "TruckPlatoons$History"
def TX2 : u_T := fun k => match k with
  | 0 => ("TruckPlatoons$History", "ahead", "[[I", true)
  | 1 => ("TruckPlatoons$History", "latest", "I", false)
  | 2 => ("TruckPlatoons$History", "edits", "I", false)
  | 3 => ("TruckPlatoons$History", "snapshots", "[[I", true)
  | _ => ("TruckPlatoons$History", "isSaved", "[Z", true)
def tyX2 : Nat → FieldType := fun k => match k with
  | 0 => .array (.array .int)
  | 1 => .int
  | 2 => .int
  | 3 => .array (.array .int)
  | _ => .array .boolean
abbrev wsX20 : List Cond := u_ws RX2 TX2 5
theorem nmX2 : ∀ a, a < 5 → ∀ b, b < 5 → a ≠ b → (TX2 a).2.1 ≠ (TX2 b).2.1 := by decide +kernel
theorem tyX2_ok : ∀ k, k < 5 → parseFieldDescriptor (TX2 k).2.2.1 = some (tyX2 k) := by decide +kernel
abbrev cX2_init : ByteArray := prog_4_method_1_code
def yX2_init : MethodName := ⟨RX2, "<init>", "()V"⟩
abbrev cX2_keep : ByteArray := prog_4_method_2_code
def yX2_keep : MethodName := ⟨RX2, "keep", "(LTruckPlatoons$Plan;)V"⟩
abbrev cX2_takeBack : ByteArray := prog_4_method_3_code
def yX2_takeBack : MethodName := ⟨RX2, "takeBack", "(LTruckPlatoons$Plan;)V"⟩
abbrev cX2_forgetEdits : ByteArray := prog_4_method_4_code
def yX2_forgetEdits : MethodName := ⟨RX2, "forgetEdits", "()V"⟩
abbrev cX2_saveIn : ByteArray := prog_4_method_5_code
def yX2_saveIn : MethodName := ⟨RX2, "saveIn", "(ILTruckPlatoons$Plan;)V"⟩
abbrev cX2_restoreFrom : ByteArray := prog_4_method_6_code
def yX2_restoreFrom : MethodName := ⟨RX2, "restoreFrom", "(ILTruckPlatoons$Plan;)V"⟩
abbrev cX2_forgetSnapshots : ByteArray := prog_4_method_7_code
def yX2_forgetSnapshots : MethodName := ⟨RX2, "forgetSnapshots", "()V"⟩
def RX3 : String := "TruckPlatoons$Loader"
def TX3 : u_T := fun k => match k with
  | _ => ("TruckPlatoons$Loader", "draft", "LTruckPlatoons$Fleet;", true)
def tyX3 : Nat → FieldType := fun k => match k with
  | _ => .object "TruckPlatoons$Fleet"
abbrev wsX30 : List Cond := u_ws RX3 TX3 1
theorem nmX3 : ∀ a, a < 1 → ∀ b, b < 1 → a ≠ b → (TX3 a).2.1 ≠ (TX3 b).2.1 := by decide +kernel
theorem tyX3_ok : ∀ k, k < 1 → parseFieldDescriptor (TX3 k).2.2.1 = some (tyX3 k) := by decide +kernel
abbrev cX3_init : ByteArray := prog_5_method_1_code
def yX3_init : MethodName := ⟨RX3, "<init>", "()V"⟩
abbrev cX3_read : ByteArray := prog_5_method_2_code
def yX3_read : MethodName := ⟨RX3, "read", "(LTruckPlatoons$Text;)Z"⟩
abbrev cX3_readRoad : ByteArray := prog_5_method_3_code
def yX3_readRoad : MethodName := ⟨RX3, "readRoad", "(LTruckPlatoons$Text;I)Z"⟩
abbrev cX3_readTruck : ByteArray := prog_5_method_4_code
def yX3_readTruck : MethodName := ⟨RX3, "readTruck", "(LTruckPlatoons$Text;I)Z"⟩
abbrev cX3_readRoute : ByteArray := prog_5_method_5_code
def yX3_readRoute : MethodName := ⟨RX3, "readRoute", "(LTruckPlatoons$Text;I)Z"⟩
def RX4 : String := "TruckPlatoons$Merger"
def TX4 : u_T := fun k => match k with
  | 0 => ("TruckPlatoons$Merger", "fleet", "LTruckPlatoons$Fleet;", true)
  | 1 => ("TruckPlatoons$Merger", "routes", "LTruckPlatoons$Routes;", true)
  | 2 => ("TruckPlatoons$Merger", "plan", "LTruckPlatoons$Plan;", true)
  | 3 => ("TruckPlatoons$Merger", "trial", "LTruckPlatoons$Plan;", true)
  | 4 => ("TruckPlatoons$Merger", "placeOfOne", "I", false)
  | 5 => ("TruckPlatoons$Merger", "placeOfOther", "I", false)
  | _ => ("TruckPlatoons$Merger", "runLength", "I", false)
def tyX4 : Nat → FieldType := fun k => match k with
  | 0 => .object "TruckPlatoons$Fleet"
  | 1 => .object "TruckPlatoons$Routes"
  | 2 => .object "TruckPlatoons$Plan"
  | 3 => .object "TruckPlatoons$Plan"
  | 4 => .int
  | 5 => .int
  | _ => .int
abbrev wsX40 : List Cond := u_ws RX4 TX4 7
theorem nmX4 : ∀ a, a < 7 → ∀ b, b < 7 → a ≠ b → (TX4 a).2.1 ≠ (TX4 b).2.1 := by decide +kernel
theorem tyX4_ok : ∀ k, k < 7 → parseFieldDescriptor (TX4 k).2.2.1 = some (tyX4 k) := by decide +kernel
abbrev cX4_init : ByteArray := prog_6_method_1_code
def yX4_init : MethodName := ⟨RX4, "<init>", "(LTruckPlatoons$Fleet;LTruckPlatoons$Routes;LTruckPlatoons$Plan;LTruckPlatoons$Plan;)V"⟩
abbrev cX4_findRun : ByteArray := prog_6_method_2_code
def yX4_findRun : MethodName := ⟨RX4, "findRun", "(II)V"⟩
abbrev cX4_attempt : ByteArray := prog_6_method_3_code
def yX4_attempt : MethodName := ⟨RX4, "attempt", "(II)I"⟩
abbrev cX4_drive : ByteArray := prog_6_method_4_code
def yX4_drive : MethodName := ⟨RX4, "drive", "(III)V"⟩
def RX5 : String := "TruckPlatoons$Output"
def TX5 : u_T := fun k => match k with
  | 0 => ("TruckPlatoons$Output", "bytes", "[B", true)
  | _ => ("TruckPlatoons$Output", "length", "I", false)
def tyX5 : Nat → FieldType := fun k => match k with
  | 0 => .array .byte
  | _ => .int
abbrev wsX50 : List Cond := u_ws RX5 TX5 2
theorem nmX5 : ∀ a, a < 2 → ∀ b, b < 2 → a ≠ b → (TX5 a).2.1 ≠ (TX5 b).2.1 := by decide +kernel
theorem tyX5_ok : ∀ k, k < 2 → parseFieldDescriptor (TX5 k).2.2.1 = some (tyX5 k) := by decide +kernel
abbrev cX5_init : ByteArray := prog_7_method_1_code
def yX5_init : MethodName := ⟨RX5, "<init>", "()V"⟩
abbrev cX5_put : ByteArray := prog_7_method_2_code
def yX5_put : MethodName := ⟨RX5, "put", "(I)V"⟩
abbrev cX5_putNumber : ByteArray := prog_7_method_3_code
def yX5_putNumber : MethodName := ⟨RX5, "putNumber", "(I)V"⟩
def RX6 : String := "TruckPlatoons$Plan"
def TX6 : u_T := fun k => match k with
  | 0 => ("TruckPlatoons$Plan", "fleet", "LTruckPlatoons$Fleet;", true)
  | 1 => ("TruckPlatoons$Plan", "routes", "LTruckPlatoons$Routes;", true)
  | 2 => ("TruckPlatoons$Plan", "start", "[I", true)
  | 3 => ("TruckPlatoons$Plan", "wait", "[I", true)
  | 4 => ("TruckPlatoons$Plan", "speed", "[I", true)
  | 5 => ("TruckPlatoons$Plan", "enter", "[I", true)
  | 6 => ("TruckPlatoons$Plan", "leave", "[I", true)
  | 7 => ("TruckPlatoons$Plan", "row", "[I", true)
  | 8 => ("TruckPlatoons$Plan", "number", "[I", true)
  | 9 => ("TruckPlatoons$Plan", "position", "[I", true)
  | 10 => ("TruckPlatoons$Plan", "key", "[I", true)
  | 11 => ("TruckPlatoons$Plan", "distance", "[I", true)
  | 12 => ("TruckPlatoons$Plan", "saved", "[I", true)
  | 13 => ("TruckPlatoons$Plan", "closes", "[Z", true)
  | _ => ("TruckPlatoons$Plan", "allFuel", "I", false)
def tyX6 : Nat → FieldType := fun k => match k with
  | 0 => .object "TruckPlatoons$Fleet"
  | 1 => .object "TruckPlatoons$Routes"
  | 2 => .array .int
  | 3 => .array .int
  | 4 => .array .int
  | 5 => .array .int
  | 6 => .array .int
  | 7 => .array .int
  | 8 => .array .int
  | 9 => .array .int
  | 10 => .array .int
  | 11 => .array .int
  | 12 => .array .int
  | 13 => .array .boolean
  | _ => .int
abbrev wsX60 : List Cond := u_ws RX6 TX6 15
theorem nmX6 : ∀ a, a < 15 → ∀ b, b < 15 → a ≠ b → (TX6 a).2.1 ≠ (TX6 b).2.1 := by decide +kernel
theorem tyX6_ok : ∀ k, k < 15 → parseFieldDescriptor (TX6 k).2.2.1 = some (tyX6 k) := by decide +kernel
abbrev cX6_init : ByteArray := prog_8_method_1_code
def yX6_init : MethodName := ⟨RX6, "<init>", "(LTruckPlatoons$Fleet;LTruckPlatoons$Routes;)V"⟩
abbrev cX6_begin : ByteArray := prog_8_method_2_code
def yX6_begin : MethodName := ⟨RX6, "begin", "()V"⟩
abbrev cX6_copyChoices : ByteArray := prog_8_method_3_code
def yX6_copyChoices : MethodName := ⟨RX6, "copyChoices", "(LTruckPlatoons$Plan;)V"⟩
abbrev cX6_writeChoices : ByteArray := prog_8_method_4_code
def yX6_writeChoices : MethodName := ⟨RX6, "writeChoices", "([I)V"⟩
abbrev cX6_readChoices : ByteArray := prog_8_method_5_code
def yX6_readChoices : MethodName := ⟨RX6, "readChoices", "([I)V"⟩
abbrev cX6_arrange : ByteArray := prog_8_method_6_code
def yX6_arrange : MethodName := ⟨RX6, "arrange", "()V"⟩
abbrev cX6_setTimes : ByteArray := prog_8_method_7_code
def yX6_setTimes : MethodName := ⟨RX6, "setTimes", "(I)V"⟩
abbrev cX6_sortByTime : ByteArray := prog_8_method_8_code
def yX6_sortByTime : MethodName := ⟨RX6, "sortByTime", "(II)V"⟩
abbrev cX6_isEarlier : ByteArray := prog_8_method_9_code
def yX6_isEarlier : MethodName := ⟨RX6, "isEarlier", "(II)Z"⟩
abbrev cX6_setKeys : ByteArray := prog_8_method_10_code
def yX6_setKeys : MethodName := ⟨RX6, "setKeys", "(II)V"⟩
abbrev cX6_sortByKey : ByteArray := prog_8_method_11_code
def yX6_sortByKey : MethodName := ⟨RX6, "sortByKey", "(II)V"⟩
abbrev cX6_isAhead : ByteArray := prog_8_method_12_code
def yX6_isAhead : MethodName := ⟨RX6, "isAhead", "(II)Z"⟩
abbrev cX6_setPlatoon : ByteArray := prog_8_method_13_code
def yX6_setPlatoon : MethodName := ⟨RX6, "setPlatoon", "(III)V"⟩
abbrev cX6_distanceAt : ByteArray := prog_8_method_14_code
def yX6_distanceAt : MethodName := ⟨RX6, "distanceAt", "([II)I"⟩
abbrev cX6_closesUpAt : ByteArray := prog_8_method_15_code
def yX6_closesUpAt : MethodName := ⟨RX6, "closesUpAt", "([III)Z"⟩
abbrev cX6_shareByDistance : ByteArray := prog_8_method_16_code
def yX6_shareByDistance : MethodName := ⟨RX6, "shareByDistance", "(I)I"⟩
abbrev cX6_valueOfOrder : ByteArray := prog_8_method_17_code
def yX6_valueOfOrder : MethodName := ⟨RX6, "valueOfOrder", "([III)I"⟩
abbrev cX6_platoonsOn : ByteArray := prog_8_method_18_code
def yX6_platoonsOn : MethodName := ⟨RX6, "platoonsOn", "(I)I"⟩
abbrev cX6_firstOf : ByteArray := prog_8_method_19_code
def yX6_firstOf : MethodName := ⟨RX6, "firstOf", "(II)I"⟩
abbrev cX6_afterPlatoon : ByteArray := prog_8_method_20_code
def yX6_afterPlatoon : MethodName := ⟨RX6, "afterPlatoon", "(II)I"⟩
abbrev cX6_ready : ByteArray := prog_8_method_21_code
def yX6_ready : MethodName := ⟨RX6, "ready", "(II)I"⟩
abbrev cX6_arrival : ByteArray := prog_8_method_22_code
def yX6_arrival : MethodName := ⟨RX6, "arrival", "(I)I"⟩
abbrev cX6_isLate : ByteArray := prog_8_method_23_code
def yX6_isLate : MethodName := ⟨RX6, "isLate", "(I)Z"⟩
abbrev cX6_leastTimelySpeed : ByteArray := prog_8_method_24_code
def yX6_leastTimelySpeed : MethodName := ⟨RX6, "leastTimelySpeed", "(II)I"⟩
abbrev cX6_base : ByteArray := prog_8_method_25_code
def yX6_base : MethodName := ⟨RX6, "base", "(I)I"⟩
abbrev cX6_fuel : ByteArray := prog_8_method_26_code
def yX6_fuel : MethodName := ⟨RX6, "fuel", "(I)I"⟩
abbrev cX6_allBases : ByteArray := prog_8_method_27_code
def yX6_allBases : MethodName := ⟨RX6, "allBases", "()I"⟩
abbrev cX6_fuelOf : ByteArray := prog_8_method_28_code
def yX6_fuelOf : MethodName := ⟨RX6, "fuelOf", "(I)I"⟩
abbrev cX6_savedBy : ByteArray := prog_8_method_29_code
def yX6_savedBy : MethodName := ⟨RX6, "savedBy", "(I)I"⟩
abbrev cX6_closedBy : ByteArray := prog_8_method_30_code
def yX6_closedBy : MethodName := ⟨RX6, "closedBy", "(I)I"⟩
abbrev cX6_savedOnRows : ByteArray := prog_8_method_31_code
def yX6_savedOnRows : MethodName := ⟨RX6, "savedOnRows", "(II)I"⟩
abbrev cX6_closedOnRows : ByteArray := prog_8_method_32_code
def yX6_closedOnRows : MethodName := ⟨RX6, "closedOnRows", "(II)I"⟩
abbrev cX6_trucksOnRows : ByteArray := prog_8_method_33_code
def yX6_trucksOnRows : MethodName := ⟨RX6, "trucksOnRows", "(II)I"⟩
abbrev cX6_inCompany : ByteArray := prog_8_method_34_code
def yX6_inCompany : MethodName := ⟨RX6, "inCompany", "(I)Z"⟩
abbrev cX6_meetsOthers : ByteArray := prog_8_method_35_code
def yX6_meetsOthers : MethodName := ⟨RX6, "meetsOthers", "(I)Z"⟩
abbrev cX6_inOnePlatoon : ByteArray := prog_8_method_36_code
def yX6_inOnePlatoon : MethodName := ⟨RX6, "inOnePlatoon", "(II)Z"⟩
abbrev cX6_savedByPair : ByteArray := prog_8_method_37_code
def yX6_savedByPair : MethodName := ⟨RX6, "savedByPair", "(II)I"⟩
def RX7 : String := "TruckPlatoons$Routes"
def TX7 : u_T := fun k => match k with
  | 0 => ("TruckPlatoons$Routes", "fleet", "LTruckPlatoons$Fleet;", true)
  | 1 => ("TruckPlatoons$Routes", "byRoad", "[I", true)
  | 2 => ("TruckPlatoons$Routes", "begin", "[I", true)
  | 3 => ("TruckPlatoons$Routes", "after", "[I", true)
  | 4 => ("TruckPlatoons$Routes", "next", "[I", true)
  | _ => ("TruckPlatoons$Routes", "shared", "[J", true)
def tyX7 : Nat → FieldType := fun k => match k with
  | 0 => .object "TruckPlatoons$Fleet"
  | 1 => .array .int
  | 2 => .array .int
  | 3 => .array .int
  | 4 => .array .int
  | _ => .array .long
abbrev wsX70 : List Cond := u_ws RX7 TX7 6
theorem nmX7 : ∀ a, a < 6 → ∀ b, b < 6 → a ≠ b → (TX7 a).2.1 ≠ (TX7 b).2.1 := by decide +kernel
theorem tyX7_ok : ∀ k, k < 6 → parseFieldDescriptor (TX7 k).2.2.1 = some (tyX7 k) := by decide +kernel
abbrev cX7_init : ByteArray := prog_9_method_1_code
def yX7_init : MethodName := ⟨RX7, "<init>", "(LTruckPlatoons$Fleet;)V"⟩
abbrev cX7_prepare : ByteArray := prog_9_method_2_code
def yX7_prepare : MethodName := ⟨RX7, "prepare", "()V"⟩
abbrev cX7_listByRoad : ByteArray := prog_9_method_3_code
def yX7_listByRoad : MethodName := ⟨RX7, "listByRoad", "()V"⟩
abbrev cX7_setNext : ByteArray := prog_9_method_4_code
def yX7_setNext : MethodName := ⟨RX7, "setNext", "()V"⟩
abbrev cX7_setShared : ByteArray := prog_9_method_5_code
def yX7_setShared : MethodName := ⟨RX7, "setShared", "(II)V"⟩
abbrev cX7_sharedPlaces : ByteArray := prog_9_method_6_code
def yX7_sharedPlaces : MethodName := ⟨RX7, "sharedPlaces", "(II)I"⟩
abbrev cX7_allStops : ByteArray := prog_9_method_7_code
def yX7_allStops : MethodName := ⟨RX7, "allStops", "()I"⟩
abbrev cX7_isOn : ByteArray := prog_9_method_8_code
def yX7_isOn : MethodName := ⟨RX7, "isOn", "(II)Z"⟩
abbrev cX7_trucksOn : ByteArray := prog_9_method_9_code
def yX7_trucksOn : MethodName := ⟨RX7, "trucksOn", "(I)I"⟩
def RX8 : String := "TruckPlatoons$Script"
def TX8 : u_T := fun k => match k with
  | 0 => ("TruckPlatoons$Script", "commands", "I", false)
  | 1 => ("TruckPlatoons$Script", "words", "[I", true)
  | _ => ("TruckPlatoons$Script", "arguments", "[I", true)
def tyX8 : Nat → FieldType := fun k => match k with
  | 0 => .int
  | 1 => .array .int
  | _ => .array .int
abbrev wsX80 : List Cond := u_ws RX8 TX8 3
theorem nmX8 : ∀ a, a < 3 → ∀ b, b < 3 → a ≠ b → (TX8 a).2.1 ≠ (TX8 b).2.1 := by decide +kernel
theorem tyX8_ok : ∀ k, k < 3 → parseFieldDescriptor (TX8 k).2.2.1 = some (tyX8 k) := by decide +kernel
abbrev cX8_init : ByteArray := prog_10_method_1_code
def yX8_init : MethodName := ⟨RX8, "<init>", "()V"⟩
abbrev cX8_word : ByteArray := prog_10_method_2_code
def yX8_word : MethodName := ⟨RX8, "word", "(I)I"⟩
abbrev cX8_argument : ByteArray := prog_10_method_3_code
def yX8_argument : MethodName := ⟨RX8, "argument", "(II)I"⟩
abbrev cX8_read : ByteArray := prog_10_method_4_code
def yX8_read : MethodName := ⟨RX8, "read", "(LTruckPlatoons$Text;)Z"⟩
abbrev cX8_commandWord : ByteArray := prog_10_method_5_code
def yX8_commandWord : MethodName := ⟨RX8, "commandWord", "(LTruckPlatoons$Text;)I"⟩
abbrev cX8_readArguments : ByteArray := prog_10_method_6_code
def yX8_readArguments : MethodName := ⟨RX8, "readArguments", "(LTruckPlatoons$Text;I)Z"⟩
abbrev cX8_argumentsOf : ByteArray := prog_10_method_7_code
def yX8_argumentsOf : MethodName := ⟨RX8, "argumentsOf", "(I)I"⟩
abbrev cX8_mostOf : ByteArray := prog_10_method_8_code
def yX8_mostOf : MethodName := ⟨RX8, "mostOf", "(II)I"⟩
def RX9 : String := "TruckPlatoons$Text"
def TX9 : u_T := fun k => match k with
  | 0 => ("TruckPlatoons$Text", "bytes", "[B", true)
  | 1 => ("TruckPlatoons$Text", "length", "I", false)
  | 2 => ("TruckPlatoons$Text", "errorCode", "I", false)
  | 3 => ("TruckPlatoons$Text", "errorPosition", "I", false)
  | 4 => ("TruckPlatoons$Text", "kind", "I", false)
  | 5 => ("TruckPlatoons$Text", "begin", "I", false)
  | 6 => ("TruckPlatoons$Text", "end", "I", false)
  | _ => ("TruckPlatoons$Text", "value", "I", false)
def tyX9 : Nat → FieldType := fun k => match k with
  | 0 => .array .byte
  | 1 => .int
  | 2 => .int
  | 3 => .int
  | 4 => .int
  | 5 => .int
  | 6 => .int
  | _ => .int
abbrev wsX90 : List Cond := u_ws RX9 TX9 8
theorem nmX9 : ∀ a, a < 8 → ∀ b, b < 8 → a ≠ b → (TX9 a).2.1 ≠ (TX9 b).2.1 := by decide +kernel
theorem tyX9_ok : ∀ k, k < 8 → parseFieldDescriptor (TX9 k).2.2.1 = some (tyX9 k) := by decide +kernel
abbrev cX9_init : ByteArray := prog_11_method_1_code
def yX9_init : MethodName := ⟨RX9, "<init>", "()V"⟩
abbrev cX9_append : ByteArray := prog_11_method_2_code
def yX9_append : MethodName := ⟨RX9, "append", "(I)V"⟩
abbrev cX9_open : ByteArray := prog_11_method_3_code
def yX9_open : MethodName := ⟨RX9, "open", "()V"⟩
abbrev cX9_next : ByteArray := prog_11_method_4_code
def yX9_next : MethodName := ⟨RX9, "next", "()V"⟩
abbrev cX9_readDigits : ByteArray := prog_11_method_5_code
def yX9_readDigits : MethodName := ⟨RX9, "readDigits", "()V"⟩
abbrev cX9_readLetters : ByteArray := prog_11_method_6_code
def yX9_readLetters : MethodName := ⟨RX9, "readLetters", "()V"⟩
abbrev cX9_isDigit : ByteArray := prog_11_method_7_code
def yX9_isDigit : MethodName := ⟨RX9, "isDigit", "(B)Z"⟩
abbrev cX9_isLetter : ByteArray := prog_11_method_8_code
def yX9_isLetter : MethodName := ⟨RX9, "isLetter", "(B)Z"⟩
abbrev cX9_isWord : ByteArray := prog_11_method_9_code
def yX9_isWord : MethodName := ⟨RX9, "isWord", "(Ljava/lang/String;)Z"⟩
abbrev cX9_fail : ByteArray := prog_11_method_10_code
def yX9_fail : MethodName := ⟨RX9, "fail", "(I)Z"⟩
abbrev cX9_readNumber : ByteArray := prog_11_method_11_code
def yX9_readNumber : MethodName := ⟨RX9, "readNumber", "(II)Z"⟩
abbrev cX9_readSemicolon : ByteArray := prog_11_method_12_code
def yX9_readSemicolon : MethodName := ⟨RX9, "readSemicolon", "()Z"⟩
def RX10 : String := "TruckPlatoons"
def TX10 : u_T := fun k => match k with
  | 0 => ("TruckPlatoons", "text", "LTruckPlatoons$Text;", true)
  | 1 => ("TruckPlatoons", "fleet", "LTruckPlatoons$Fleet;", true)
  | 2 => ("TruckPlatoons", "loader", "LTruckPlatoons$Loader;", true)
  | 3 => ("TruckPlatoons", "script", "LTruckPlatoons$Script;", true)
  | 4 => ("TruckPlatoons", "routes", "LTruckPlatoons$Routes;", true)
  | 5 => ("TruckPlatoons", "plan", "LTruckPlatoons$Plan;", true)
  | 6 => ("TruckPlatoons", "trial", "LTruckPlatoons$Plan;", true)
  | 7 => ("TruckPlatoons", "merger", "LTruckPlatoons$Merger;", true)
  | 8 => ("TruckPlatoons", "bestOrder", "LTruckPlatoons$BestOrder;", true)
  | 9 => ("TruckPlatoons", "history", "LTruckPlatoons$History;", true)
  | 10 => ("TruckPlatoons", "output", "LTruckPlatoons$Output;", true)
  | _ => ("TruckPlatoons", "reached", "[I", true)
def tyX10 : Nat → FieldType := fun k => match k with
  | 0 => .object "TruckPlatoons$Text"
  | 1 => .object "TruckPlatoons$Fleet"
  | 2 => .object "TruckPlatoons$Loader"
  | 3 => .object "TruckPlatoons$Script"
  | 4 => .object "TruckPlatoons$Routes"
  | 5 => .object "TruckPlatoons$Plan"
  | 6 => .object "TruckPlatoons$Plan"
  | 7 => .object "TruckPlatoons$Merger"
  | 8 => .object "TruckPlatoons$BestOrder"
  | 9 => .object "TruckPlatoons$History"
  | 10 => .object "TruckPlatoons$Output"
  | _ => .array .int
abbrev wsX100 : List Cond := u_ws RX10 TX10 12
theorem nmX10 : ∀ a, a < 12 → ∀ b, b < 12 → a ≠ b → (TX10 a).2.1 ≠ (TX10 b).2.1 := by decide +kernel
theorem tyX10_ok : ∀ k, k < 12 → parseFieldDescriptor (TX10 k).2.2.1 = some (tyX10 k) := by decide +kernel
abbrev cX10_init : ByteArray := prog_1_method_1_code
def yX10_init : MethodName := ⟨RX10, "<init>", "()V"⟩
abbrev cX10_appendInput : ByteArray := prog_1_method_2_code
def yX10_appendInput : MethodName := ⟨RX10, "appendInput", "(IIIII)I"⟩
abbrev cX10_truncateInput : ByteArray := prog_1_method_3_code
def yX10_truncateInput : MethodName := ⟨RX10, "truncateInput", "(I)I"⟩
abbrev cX10_load : ByteArray := prog_1_method_4_code
def yX10_load : MethodName := ⟨RX10, "load", "()I"⟩
abbrev cX10_errorCode : ByteArray := prog_1_method_5_code
def yX10_errorCode : MethodName := ⟨RX10, "errorCode", "()I"⟩
abbrev cX10_errorPosition : ByteArray := prog_1_method_6_code
def yX10_errorPosition : MethodName := ⟨RX10, "errorPosition", "()I"⟩
abbrev cX10_count : ByteArray := prog_1_method_7_code
def yX10_count : MethodName := ⟨RX10, "count", "(I)I"⟩
abbrev cX10_companies : ByteArray := prog_1_method_8_code
def yX10_companies : MethodName := ⟨RX10, "companies", "()I"⟩
abbrev cX10_greatestPlatoon : ByteArray := prog_1_method_9_code
def yX10_greatestPlatoon : MethodName := ⟨RX10, "greatestPlatoon", "()I"⟩
abbrev cX10_lateSet : ByteArray := prog_1_method_10_code
def yX10_lateSet : MethodName := ⟨RX10, "lateSet", "()I"⟩
abbrev cX10_road : ByteArray := prog_1_method_11_code
def yX10_road : MethodName := ⟨RX10, "road", "(II)I"⟩
abbrev cX10_truck : ByteArray := prog_1_method_12_code
def yX10_truck : MethodName := ⟨RX10, "truck", "(II)I"⟩
abbrev cX10_place : ByteArray := prog_1_method_13_code
def yX10_place : MethodName := ⟨RX10, "place", "(III)I"⟩
abbrev cX10_platoonOf : ByteArray := prog_1_method_14_code
def yX10_platoonOf : MethodName := ⟨RX10, "platoonOf", "(II)I"⟩
abbrev cX10_position : ByteArray := prog_1_method_15_code
def yX10_position : MethodName := ⟨RX10, "position", "(II)I"⟩
abbrev cX10_key : ByteArray := prog_1_method_16_code
def yX10_key : MethodName := ⟨RX10, "key", "(II)I"⟩
abbrev cX10_platoon : ByteArray := prog_1_method_17_code
def yX10_platoon : MethodName := ⟨RX10, "platoon", "(III)I"⟩
abbrev cX10_member : ByteArray := prog_1_method_18_code
def yX10_member : MethodName := ⟨RX10, "member", "(III)I"⟩
abbrev cX10_together : ByteArray := prog_1_method_19_code
def yX10_together : MethodName := ⟨RX10, "together", "(II)I"⟩
abbrev cX10_pairSaved : ByteArray := prog_1_method_20_code
def yX10_pairSaved : MethodName := ⟨RX10, "pairSaved", "(II)I"⟩
abbrev cX10_run : ByteArray := prog_1_method_21_code
def yX10_run : MethodName := ⟨RX10, "run", "(III)I"⟩
abbrev cX10_common : ByteArray := prog_1_method_22_code
def yX10_common : MethodName := ⟨RX10, "common", "(II)I"⟩
abbrev cX10_slack : ByteArray := prog_1_method_23_code
def yX10_slack : MethodName := ⟨RX10, "slack", "(I)I"⟩
abbrev cX10_neededSpeed : ByteArray := prog_1_method_24_code
def yX10_neededSpeed : MethodName := ⟨RX10, "neededSpeed", "(III)I"⟩
abbrev cX10_setWait : ByteArray := prog_1_method_25_code
def yX10_setWait : MethodName := ⟨RX10, "setWait", "(III)I"⟩
abbrev cX10_changeWait : ByteArray := prog_1_method_26_code
def yX10_changeWait : MethodName := ⟨RX10, "changeWait", "(II)I"⟩
abbrev cX10_setSpeed : ByteArray := prog_1_method_27_code
def yX10_setSpeed : MethodName := ⟨RX10, "setSpeed", "(III)I"⟩
abbrev cX10_changeSpeed : ByteArray := prog_1_method_28_code
def yX10_changeSpeed : MethodName := ⟨RX10, "changeSpeed", "(II)I"⟩
abbrev cX10_setStart : ByteArray := prog_1_method_29_code
def yX10_setStart : MethodName := ⟨RX10, "setStart", "(II)I"⟩
abbrev cX10_changeStart : ByteArray := prog_1_method_30_code
def yX10_changeStart : MethodName := ⟨RX10, "changeStart", "(II)I"⟩
abbrev cX10_reason : ByteArray := prog_1_method_31_code
def yX10_reason : MethodName := ⟨RX10, "reason", "(II)I"⟩
abbrev cX10_merge : ByteArray := prog_1_method_32_code
def yX10_merge : MethodName := ⟨RX10, "merge", "(II)I"⟩
abbrev cX10_mergeTwo : ByteArray := prog_1_method_33_code
def yX10_mergeTwo : MethodName := ⟨RX10, "mergeTwo", "(II)I"⟩
abbrev cX10_gain : ByteArray := prog_1_method_34_code
def yX10_gain : MethodName := ⟨RX10, "gain", "(II)I"⟩
abbrev cX10_bestPartner : ByteArray := prog_1_method_35_code
def yX10_bestPartner : MethodName := ⟨RX10, "bestPartner", "(I)I"⟩
abbrev cX10_mergeAll : ByteArray := prog_1_method_36_code
def yX10_mergeAll : MethodName := ⟨RX10, "mergeAll", "()I"⟩
abbrev cX10_mergeByGain : ByteArray := prog_1_method_37_code
def yX10_mergeByGain : MethodName := ⟨RX10, "mergeByGain", "()I"⟩
abbrev cX10_mergeBestTwo : ByteArray := prog_1_method_38_code
def yX10_mergeBestTwo : MethodName := ⟨RX10, "mergeBestTwo", "()Z"⟩
abbrev cX10_hurry : ByteArray := prog_1_method_39_code
def yX10_hurry : MethodName := ⟨RX10, "hurry", "(I)I"⟩
abbrev cX10_speedUp : ByteArray := prog_1_method_40_code
def yX10_speedUp : MethodName := ⟨RX10, "speedUp", "(I)I"⟩
abbrev cX10_relax : ByteArray := prog_1_method_41_code
def yX10_relax : MethodName := ⟨RX10, "relax", "(I)I"⟩
abbrev cX10_slowDown : ByteArray := prog_1_method_42_code
def yX10_slowDown : MethodName := ⟨RX10, "slowDown", "(I)I"⟩
abbrev cX10_onRoad : ByteArray := prog_1_method_43_code
def yX10_onRoad : MethodName := ⟨RX10, "onRoad", "(II)I"⟩
abbrev cX10_alone : ByteArray := prog_1_method_44_code
def yX10_alone : MethodName := ⟨RX10, "alone", "()I"⟩
abbrev cX10_lateOnes : ByteArray := prog_1_method_45_code
def yX10_lateOnes : MethodName := ⟨RX10, "lateOnes", "()I"⟩
abbrev cX10_bestRoad : ByteArray := prog_1_method_46_code
def yX10_bestRoad : MethodName := ⟨RX10, "bestRoad", "()I"⟩
abbrev cX10_orderLoss : ByteArray := prog_1_method_47_code
def yX10_orderLoss : MethodName := ⟨RX10, "orderLoss", "(II)I"⟩
abbrev cX10_bestMember : ByteArray := prog_1_method_48_code
def yX10_bestMember : MethodName := ⟨RX10, "bestMember", "(III)I"⟩
abbrev cX10_rate : ByteArray := prog_1_method_49_code
def yX10_rate : MethodName := ⟨RX10, "rate", "(I)F"⟩
abbrev cX10_shareBits : ByteArray := prog_1_method_50_code
def yX10_shareBits : MethodName := ⟨RX10, "shareBits", "()I"⟩
abbrev cX10_floatBits : ByteArray := prog_1_method_51_code
def yX10_floatBits : MethodName := ⟨RX10, "floatBits", "(F)I"⟩
abbrev cX10_quickest : ByteArray := prog_1_method_52_code
def yX10_quickest : MethodName := ⟨RX10, "quickest", "(II)I"⟩
abbrev cX10_reachFurther : ByteArray := prog_1_method_53_code
def yX10_reachFurther : MethodName := ⟨RX10, "reachFurther", "()V"⟩
abbrev cX10_write : ByteArray := prog_1_method_54_code
def yX10_write : MethodName := ⟨RX10, "write", "(I)I"⟩
abbrev cX10_outputByte : ByteArray := prog_1_method_55_code
def yX10_outputByte : MethodName := ⟨RX10, "outputByte", "(I)I"⟩
abbrev cX10_play : ByteArray := prog_1_method_56_code
def yX10_play : MethodName := ⟨RX10, "play", "()I"⟩
abbrev cX10_perform : ByteArray := prog_1_method_57_code
def yX10_perform : MethodName := ⟨RX10, "perform", "(I)Z"⟩
abbrev cX10_performWait : ByteArray := prog_1_method_58_code
def yX10_performWait : MethodName := ⟨RX10, "performWait", "(III)Z"⟩
abbrev cX10_performSpeed : ByteArray := prog_1_method_59_code
def yX10_performSpeed : MethodName := ⟨RX10, "performSpeed", "(III)Z"⟩
abbrev cX10_undo : ByteArray := prog_1_method_60_code
def yX10_undo : MethodName := ⟨RX10, "undo", "()I"⟩
abbrev cX10_digest : ByteArray := prog_1_method_61_code
def yX10_digest : MethodName := ⟨RX10, "digest", "()I"⟩
abbrev cX10_saveSnapshot : ByteArray := prog_1_method_62_code
def yX10_saveSnapshot : MethodName := ⟨RX10, "saveSnapshot", "(I)Z"⟩
abbrev cX10_restoreSnapshot : ByteArray := prog_1_method_63_code
def yX10_restoreSnapshot : MethodName := ⟨RX10, "restoreSnapshot", "(I)Z"⟩
abbrev cX10_stopAt : ByteArray := prog_1_method_64_code
def yX10_stopAt : MethodName := ⟨RX10, "stopAt", "(II)I"⟩
abbrev cX10_checkRoad : ByteArray := prog_1_method_65_code
def yX10_checkRoad : MethodName := ⟨RX10, "checkRoad", "(I)V"⟩
abbrev cX10_checkTruck : ByteArray := prog_1_method_66_code
def yX10_checkTruck : MethodName := ⟨RX10, "checkTruck", "(I)V"⟩
abbrev cX10_checkPlace : ByteArray := prog_1_method_67_code
def yX10_checkPlace : MethodName := ⟨RX10, "checkPlace", "(II)V"⟩
abbrev cX10_checkPlatoon : ByteArray := prog_1_method_68_code
def yX10_checkPlatoon : MethodName := ⟨RX10, "checkPlatoon", "(II)V"⟩
abbrev cX10_checkPosition : ByteArray := prog_1_method_69_code
def yX10_checkPosition : MethodName := ⟨RX10, "checkPosition", "(I)V"⟩
abbrev cX10_checkRange : ByteArray := prog_1_method_70_code
def yX10_checkRange : MethodName := ⟨RX10, "checkRange", "(III)V"⟩
abbrev cX10_checkOrdered : ByteArray := prog_1_method_71_code
def yX10_checkOrdered : MethodName := ⟨RX10, "checkOrdered", "(I)V"⟩
def RX11 : String := "TruckPlatoonsModel"
def TX11 : u_T := fun k => match k with
  | 0 => ("TruckPlatoonsModel", "plans", "[I", true)
  | 1 => ("TruckPlatoonsModel", "hasSnapshot", "[Z", true)
  | 2 => ("TruckPlatoonsModel", "editFirst", "I", false)
  | 3 => ("TruckPlatoonsModel", "editMany", "I", false)
  | 4 => ("TruckPlatoonsModel", "net", "[I", true)
  | 5 => ("TruckPlatoonsModel", "thrown", "I", false)
  | 6 => ("TruckPlatoonsModel", "enter", "[I", true)
  | 7 => ("TruckPlatoonsModel", "leave", "[I", true)
  | 8 => ("TruckPlatoonsModel", "mate", "[I", true)
  | 9 => ("TruckPlatoonsModel", "together", "[I", true)
  | 10 => ("TruckPlatoonsModel", "keyOf", "[I", true)
  | 11 => ("TruckPlatoonsModel", "positionOf", "[I", true)
  | 12 => ("TruckPlatoonsModel", "distanceOf", "[I", true)
  | 13 => ("TruckPlatoonsModel", "savedOf", "[I", true)
  | 14 => ("TruckPlatoonsModel", "closesUp", "[Z", true)
  | 15 => ("TruckPlatoonsModel", "order", "[I", true)
  | 16 => ("TruckPlatoonsModel", "orderPlace", "[I", true)
  | 17 => ("TruckPlatoonsModel", "leader", "I", false)
  | 18 => ("TruckPlatoonsModel", "leaderPlace", "I", false)
  | 19 => ("TruckPlatoonsModel", "runPlace", "I", false)
  | 20 => ("TruckPlatoonsModel", "runOther", "I", false)
  | 21 => ("TruckPlatoonsModel", "runMany", "I", false)
  | 22 => ("TruckPlatoonsModel", "byTruck", "[I", true)
  | 23 => ("TruckPlatoonsModel", "byTruckPlace", "[I", true)
  | 24 => ("TruckPlatoonsModel", "turn", "[I", true)
  | 25 => ("TruckPlatoonsModel", "bestOrder", "[I", true)
  | 26 => ("TruckPlatoonsModel", "bestWorth", "I", false)
  | 27 => ("TruckPlatoonsModel", "wayTo", "[I", true)
  | 28 => ("TruckPlatoonsModel", "output", "[I", true)
  | 29 => ("TruckPlatoonsModel", "outputLength", "I", false)
  | 30 => ("TruckPlatoonsModel", "input", "[B", true)
  | 31 => ("TruckPlatoonsModel", "inputLength", "I", false)
  | 32 => ("TruckPlatoonsModel", "next", "I", false)
  | 33 => ("TruckPlatoonsModel", "errorCode", "I", false)
  | 34 => ("TruckPlatoonsModel", "errorPosition", "I", false)
  | 35 => ("TruckPlatoonsModel", "kind", "I", false)
  | 36 => ("TruckPlatoonsModel", "start", "I", false)
  | 37 => ("TruckPlatoonsModel", "number", "I", false)
  | 38 => ("TruckPlatoonsModel", "value", "J", false)
  | 39 => ("TruckPlatoonsModel", "commands", "[I", true)
  | _ => ("TruckPlatoonsModel", "commandMany", "I", false)
def tyX11 : Nat → FieldType := fun k => match k with
  | 0 => .array .int
  | 1 => .array .boolean
  | 2 => .int
  | 3 => .int
  | 4 => .array .int
  | 5 => .int
  | 6 => .array .int
  | 7 => .array .int
  | 8 => .array .int
  | 9 => .array .int
  | 10 => .array .int
  | 11 => .array .int
  | 12 => .array .int
  | 13 => .array .int
  | 14 => .array .boolean
  | 15 => .array .int
  | 16 => .array .int
  | 17 => .int
  | 18 => .int
  | 19 => .int
  | 20 => .int
  | 21 => .int
  | 22 => .array .int
  | 23 => .array .int
  | 24 => .array .int
  | 25 => .array .int
  | 26 => .int
  | 27 => .array .int
  | 28 => .array .int
  | 29 => .int
  | 30 => .array .byte
  | 31 => .int
  | 32 => .int
  | 33 => .int
  | 34 => .int
  | 35 => .int
  | 36 => .int
  | 37 => .int
  | 38 => .long
  | 39 => .array .int
  | _ => .int
abbrev wsX110 : List Cond := u_ws RX11 TX11 41
theorem nmX11 : ∀ a, a < 41 → ∀ b, b < 41 → a ≠ b → (TX11 a).2.1 ≠ (TX11 b).2.1 := by decide +kernel
theorem tyX11_ok : ∀ k, k < 41 → parseFieldDescriptor (TX11 k).2.2.1 = some (tyX11 k) := by decide +kernel
abbrev cX11_init : ByteArray := prog_13_method_1_code
def yX11_init : MethodName := ⟨RX11, "<init>", "()V"⟩
abbrev cX11_thrown : ByteArray := prog_13_method_2_code
def yX11_thrown : MethodName := ⟨RX11, "thrown", "()I"⟩
abbrev cX11_throwsIf : ByteArray := prog_13_method_3_code
def yX11_throwsIf : MethodName := ⟨RX11, "throwsIf", "(ZI)Z"⟩
abbrev cX11_inRange : ByteArray := prog_13_method_4_code
def yX11_inRange : MethodName := ⟨RX11, "inRange", "(JJJ)Z"⟩
abbrev cX11_max : ByteArray := prog_13_method_5_code
def yX11_max : MethodName := ⟨RX11, "max", "(II)I"⟩
abbrev cX11_min : ByteArray := prog_13_method_6_code
def yX11_min : MethodName := ⟨RX11, "min", "(II)I"⟩
abbrev cX11_copyPlan : ByteArray := prog_13_method_7_code
def yX11_copyPlan : MethodName := ⟨RX11, "copyPlan", "(II)V"⟩
abbrev cX11_keep : ByteArray := prog_13_method_8_code
def yX11_keep : MethodName := ⟨RX11, "keep", "()V"⟩
abbrev cX11_undo : ByteArray := prog_13_method_9_code
def yX11_undo : MethodName := ⟨RX11, "undo", "()I"⟩
abbrev cX11_saveSnapshot : ByteArray := prog_13_method_10_code
def yX11_saveSnapshot : MethodName := ⟨RX11, "saveSnapshot", "(I)Z"⟩
abbrev cX11_restoreSnapshot : ByteArray := prog_13_method_11_code
def yX11_restoreSnapshot : MethodName := ⟨RX11, "restoreSnapshot", "(I)Z"⟩
abbrev cX11_ofRoad : ByteArray := prog_13_method_12_code
def yX11_ofRoad : MethodName := ⟨RX11, "ofRoad", "(II)I"⟩
abbrev cX11_ofTruck : ByteArray := prog_13_method_13_code
def yX11_ofTruck : MethodName := ⟨RX11, "ofTruck", "(II)I"⟩
abbrev cX11_placesOf : ByteArray := prog_13_method_14_code
def yX11_placesOf : MethodName := ⟨RX11, "placesOf", "(I)I"⟩
abbrev cX11_roadAt : ByteArray := prog_13_method_15_code
def yX11_roadAt : MethodName := ⟨RX11, "roadAt", "(II)I"⟩
abbrev cX11_isRoad : ByteArray := prog_13_method_16_code
def yX11_isRoad : MethodName := ⟨RX11, "isRoad", "(I)Z"⟩
abbrev cX11_isTruck : ByteArray := prog_13_method_17_code
def yX11_isTruck : MethodName := ⟨RX11, "isTruck", "(I)Z"⟩
abbrev cX11_isPlace : ByteArray := prog_13_method_18_code
def yX11_isPlace : MethodName := ⟨RX11, "isPlace", "(II)Z"⟩
abbrev cX11_spot : ByteArray := prog_13_method_19_code
def yX11_spot : MethodName := ⟨RX11, "spot", "(II)I"⟩
abbrev cX11_waitAt : ByteArray := prog_13_method_20_code
def yX11_waitAt : MethodName := ⟨RX11, "waitAt", "(II)I"⟩
abbrev cX11_speedAt : ByteArray := prog_13_method_21_code
def yX11_speedAt : MethodName := ⟨RX11, "speedAt", "(II)I"⟩
abbrev cX11_limitAt : ByteArray := prog_13_method_22_code
def yX11_limitAt : MethodName := ⟨RX11, "limitAt", "(II)I"⟩
abbrev cX11_nextRoad : ByteArray := prog_13_method_23_code
def yX11_nextRoad : MethodName := ⟨RX11, "nextRoad", "(II)I"⟩
abbrev cX11_minutes : ByteArray := prog_13_method_24_code
def yX11_minutes : MethodName := ⟨RX11, "minutes", "(II)I"⟩
abbrev cX11_baseAt : ByteArray := prog_13_method_25_code
def yX11_baseAt : MethodName := ⟨RX11, "baseAt", "(II)I"⟩
abbrev cX11_layTimes : ByteArray := prog_13_method_26_code
def yX11_layTimes : MethodName := ⟨RX11, "layTimes", "(I)V"⟩
abbrev cX11_areMates : ByteArray := prog_13_method_27_code
def yX11_areMates : MethodName := ⟨RX11, "areMates", "(IIII)Z"⟩
abbrev cX11_mateOf : ByteArray := prog_13_method_28_code
def yX11_mateOf : MethodName := ⟨RX11, "mateOf", "(III)I"⟩
abbrev cX11_setMate : ByteArray := prog_13_method_29_code
def yX11_setMate : MethodName := ⟨RX11, "setMate", "(IIII)V"⟩
abbrev cX11_layMates : ByteArray := prog_13_method_30_code
def yX11_layMates : MethodName := ⟨RX11, "layMates", "()V"⟩
abbrev cX11_shared : ByteArray := prog_13_method_31_code
def yX11_shared : MethodName := ⟨RX11, "shared", "(IIII)I"⟩
abbrev cX11_layKey : ByteArray := prog_13_method_32_code
def yX11_layKey : MethodName := ⟨RX11, "layKey", "(II)V"⟩
abbrev cX11_layPosition : ByteArray := prog_13_method_33_code
def yX11_layPosition : MethodName := ⟨RX11, "layPosition", "(II)V"⟩
abbrev cX11_memberAt : ByteArray := prog_13_method_34_code
def yX11_memberAt : MethodName := ⟨RX11, "memberAt", "(III)I"⟩
abbrev cX11_distanceBehind : ByteArray := prog_13_method_35_code
def yX11_distanceBehind : MethodName := ⟨RX11, "distanceBehind", "(I)I"⟩
abbrev cX11_shareOf : ByteArray := prog_13_method_36_code
def yX11_shareOf : MethodName := ⟨RX11, "shareOf", "(I)I"⟩
abbrev cX11_savingOf : ByteArray := prog_13_method_37_code
def yX11_savingOf : MethodName := ⟨RX11, "savingOf", "(II)I"⟩
abbrev cX11_isClosing : ByteArray := prog_13_method_38_code
def yX11_isClosing : MethodName := ⟨RX11, "isClosing", "(I)Z"⟩
abbrev cX11_layOrder : ByteArray := prog_13_method_39_code
def yX11_layOrder : MethodName := ⟨RX11, "layOrder", "(II)I"⟩
abbrev cX11_layPlatoon : ByteArray := prog_13_method_40_code
def yX11_layPlatoon : MethodName := ⟨RX11, "layPlatoon", "(II)V"⟩
abbrev cX11_lay : ByteArray := prog_13_method_41_code
def yX11_lay : MethodName := ⟨RX11, "lay", "()V"⟩
abbrev cX11_fuelAt : ByteArray := prog_13_method_42_code
def yX11_fuelAt : MethodName := ⟨RX11, "fuelAt", "(II)I"⟩
abbrev cX11_sumOf : ByteArray := prog_13_method_43_code
def yX11_sumOf : MethodName := ⟨RX11, "sumOf", "(II)I"⟩
abbrev cX11_sumOfAll : ByteArray := prog_13_method_44_code
def yX11_sumOfAll : MethodName := ⟨RX11, "sumOfAll", "(I)I"⟩
abbrev cX11_arrival : ByteArray := prog_13_method_45_code
def yX11_arrival : MethodName := ⟨RX11, "arrival", "(I)I"⟩
abbrev cX11_isLate : ByteArray := prog_13_method_46_code
def yX11_isLate : MethodName := ⟨RX11, "isLate", "(I)Z"⟩
abbrev cX11_readyAt : ByteArray := prog_13_method_47_code
def yX11_readyAt : MethodName := ⟨RX11, "readyAt", "(II)I"⟩
abbrev cX11_allPlaces : ByteArray := prog_13_method_48_code
def yX11_allPlaces : MethodName := ⟨RX11, "allPlaces", "()I"⟩
abbrev cX11_lateSet : ByteArray := prog_13_method_49_code
def yX11_lateSet : MethodName := ⟨RX11, "lateSet", "()I"⟩
abbrev cX11_bits : ByteArray := prog_13_method_50_code
def yX11_bits : MethodName := ⟨RX11, "bits", "(I)I"⟩
abbrev cX11_platoons : ByteArray := prog_13_method_51_code
def yX11_platoons : MethodName := ⟨RX11, "platoons", "(Z)I"⟩
abbrev cX11_count : ByteArray := prog_13_method_52_code
def yX11_count : MethodName := ⟨RX11, "count", "(I)I"⟩
abbrev cX11_comesAhead : ByteArray := prog_13_method_53_code
def yX11_comesAhead : MethodName := ⟨RX11, "comesAhead", "(IIII)Z"⟩
abbrev cX11_numberOf : ByteArray := prog_13_method_54_code
def yX11_numberOf : MethodName := ⟨RX11, "numberOf", "(II)I"⟩
abbrev cX11_platoonsOn : ByteArray := prog_13_method_55_code
def yX11_platoonsOn : MethodName := ⟨RX11, "platoonsOn", "(I)I"⟩
abbrev cX11_findPlatoon : ByteArray := prog_13_method_56_code
def yX11_findPlatoon : MethodName := ⟨RX11, "findPlatoon", "(II)Z"⟩
abbrev cX11_trucksOn : ByteArray := prog_13_method_57_code
def yX11_trucksOn : MethodName := ⟨RX11, "trucksOn", "(I)I"⟩
abbrev cX11_road : ByteArray := prog_13_method_58_code
def yX11_road : MethodName := ⟨RX11, "road", "(II)I"⟩
abbrev cX11_truck : ByteArray := prog_13_method_59_code
def yX11_truck : MethodName := ⟨RX11, "truck", "(II)I"⟩
abbrev cX11_noPlace : ByteArray := prog_13_method_60_code
def yX11_noPlace : MethodName := ⟨RX11, "noPlace", "(II)Z"⟩
abbrev cX11_place : ByteArray := prog_13_method_61_code
def yX11_place : MethodName := ⟨RX11, "place", "(III)I"⟩
abbrev cX11_platoonOf : ByteArray := prog_13_method_62_code
def yX11_platoonOf : MethodName := ⟨RX11, "platoonOf", "(II)I"⟩
abbrev cX11_position : ByteArray := prog_13_method_63_code
def yX11_position : MethodName := ⟨RX11, "position", "(II)I"⟩
abbrev cX11_key : ByteArray := prog_13_method_64_code
def yX11_key : MethodName := ⟨RX11, "key", "(II)I"⟩
abbrev cX11_noPlatoon : ByteArray := prog_13_method_65_code
def yX11_noPlatoon : MethodName := ⟨RX11, "noPlatoon", "(II)Z"⟩
abbrev cX11_platoon : ByteArray := prog_13_method_66_code
def yX11_platoon : MethodName := ⟨RX11, "platoon", "(III)I"⟩
abbrev cX11_member : ByteArray := prog_13_method_67_code
def yX11_member : MethodName := ⟨RX11, "member", "(III)I"⟩
abbrev cX11_notTwo : ByteArray := prog_13_method_68_code
def yX11_notTwo : MethodName := ⟨RX11, "notTwo", "(II)Z"⟩
abbrev cX11_together : ByteArray := prog_13_method_69_code
def yX11_together : MethodName := ⟨RX11, "together", "(II)I"⟩
abbrev cX11_pairSaved : ByteArray := prog_13_method_70_code
def yX11_pairSaved : MethodName := ⟨RX11, "pairSaved", "(II)I"⟩
abbrev cX11_placeOf : ByteArray := prog_13_method_71_code
def yX11_placeOf : MethodName := ⟨RX11, "placeOf", "(II)I"⟩
abbrev cX11_layRun : ByteArray := prog_13_method_72_code
def yX11_layRun : MethodName := ⟨RX11, "layRun", "(II)V"⟩
abbrev cX11_run : ByteArray := prog_13_method_73_code
def yX11_run : MethodName := ⟨RX11, "run", "(III)I"⟩
abbrev cX11_common : ByteArray := prog_13_method_74_code
def yX11_common : MethodName := ⟨RX11, "common", "(II)I"⟩
abbrev cX11_slack : ByteArray := prog_13_method_75_code
def yX11_slack : MethodName := ⟨RX11, "slack", "(I)I"⟩
abbrev cX11_neededSpeed : ByteArray := prog_13_method_76_code
def yX11_neededSpeed : MethodName := ⟨RX11, "neededSpeed", "(III)I"⟩
abbrev cX11_setWaitNow : ByteArray := prog_13_method_77_code
def yX11_setWaitNow : MethodName := ⟨RX11, "setWaitNow", "(III)I"⟩
abbrev cX11_setWait : ByteArray := prog_13_method_78_code
def yX11_setWait : MethodName := ⟨RX11, "setWait", "(III)I"⟩
abbrev cX11_setSpeedNow : ByteArray := prog_13_method_79_code
def yX11_setSpeedNow : MethodName := ⟨RX11, "setSpeedNow", "(III)I"⟩
abbrev cX11_setSpeed : ByteArray := prog_13_method_80_code
def yX11_setSpeed : MethodName := ⟨RX11, "setSpeed", "(III)I"⟩
abbrev cX11_setStartNow : ByteArray := prog_13_method_81_code
def yX11_setStartNow : MethodName := ⟨RX11, "setStartNow", "(II)I"⟩
abbrev cX11_setStart : ByteArray := prog_13_method_82_code
def yX11_setStart : MethodName := ⟨RX11, "setStart", "(II)I"⟩
abbrev cX11_joinRun : ByteArray := prog_13_method_83_code
def yX11_joinRun : MethodName := ⟨RX11, "joinRun", "(II)V"⟩
abbrev cX11_lateness : ByteArray := prog_13_method_84_code
def yX11_lateness : MethodName := ⟨RX11, "lateness", "(II)I"⟩
abbrev cX11_reasonNow : ByteArray := prog_13_method_85_code
def yX11_reasonNow : MethodName := ⟨RX11, "reasonNow", "(II)I"⟩
abbrev cX11_reason : ByteArray := prog_13_method_86_code
def yX11_reason : MethodName := ⟨RX11, "reason", "(II)I"⟩
abbrev cX11_mergeNow : ByteArray := prog_13_method_87_code
def yX11_mergeNow : MethodName := ⟨RX11, "mergeNow", "(II)I"⟩
abbrev cX11_merge : ByteArray := prog_13_method_88_code
def yX11_merge : MethodName := ⟨RX11, "merge", "(II)I"⟩
abbrev cX11_gainNow : ByteArray := prog_13_method_89_code
def yX11_gainNow : MethodName := ⟨RX11, "gainNow", "(III)I"⟩
abbrev cX11_gain : ByteArray := prog_13_method_90_code
def yX11_gain : MethodName := ⟨RX11, "gain", "(II)I"⟩
abbrev cX11_bestPartner : ByteArray := prog_13_method_91_code
def yX11_bestPartner : MethodName := ⟨RX11, "bestPartner", "(I)I"⟩
abbrev cX11_mergedBest : ByteArray := prog_13_method_92_code
def yX11_mergedBest : MethodName := ⟨RX11, "mergedBest", "()Z"⟩
abbrev cX11_mergeAllNow : ByteArray := prog_13_method_93_code
def yX11_mergeAllNow : MethodName := ⟨RX11, "mergeAllNow", "()I"⟩
abbrev cX11_mergeAll : ByteArray := prog_13_method_94_code
def yX11_mergeAll : MethodName := ⟨RX11, "mergeAll", "()I"⟩
abbrev cX11_hurryNow : ByteArray := prog_13_method_95_code
def yX11_hurryNow : MethodName := ⟨RX11, "hurryNow", "(I)I"⟩
abbrev cX11_hurry : ByteArray := prog_13_method_96_code
def yX11_hurry : MethodName := ⟨RX11, "hurry", "(I)I"⟩
abbrev cX11_relaxNow : ByteArray := prog_13_method_97_code
def yX11_relaxNow : MethodName := ⟨RX11, "relaxNow", "(I)I"⟩
abbrev cX11_relax : ByteArray := prog_13_method_98_code
def yX11_relax : MethodName := ⟨RX11, "relax", "(I)I"⟩
abbrev cX11_onRoad : ByteArray := prog_13_method_99_code
def yX11_onRoad : MethodName := ⟨RX11, "onRoad", "(II)I"⟩
abbrev cX11_alone : ByteArray := prog_13_method_100_code
def yX11_alone : MethodName := ⟨RX11, "alone", "()I"⟩
abbrev cX11_lateOnes : ByteArray := prog_13_method_101_code
def yX11_lateOnes : MethodName := ⟨RX11, "lateOnes", "()I"⟩
abbrev cX11_savedOn : ByteArray := prog_13_method_102_code
def yX11_savedOn : MethodName := ⟨RX11, "savedOn", "(I)I"⟩
abbrev cX11_bestRoad : ByteArray := prog_13_method_103_code
def yX11_bestRoad : MethodName := ⟨RX11, "bestRoad", "()I"⟩
abbrev cX11_worth : ByteArray := prog_13_method_104_code
def yX11_worth : MethodName := ⟨RX11, "worth", "(I)I"⟩
abbrev cX11_nextTurn : ByteArray := prog_13_method_105_code
def yX11_nextTurn : MethodName := ⟨RX11, "nextTurn", "(I)Z"⟩
abbrev cX11_swapTurns : ByteArray := prog_13_method_106_code
def yX11_swapTurns : MethodName := ⟨RX11, "swapTurns", "(II)V"⟩
abbrev cX11_layTurns : ByteArray := prog_13_method_107_code
def yX11_layTurns : MethodName := ⟨RX11, "layTurns", "(I)V"⟩
abbrev cX11_meetTurn : ByteArray := prog_13_method_108_code
def yX11_meetTurn : MethodName := ⟨RX11, "meetTurn", "(IZ)V"⟩
abbrev cX11_layBest : ByteArray := prog_13_method_109_code
def yX11_layBest : MethodName := ⟨RX11, "layBest", "()I"⟩
abbrev cX11_isLong : ByteArray := prog_13_method_110_code
def yX11_isLong : MethodName := ⟨RX11, "isLong", "()Z"⟩
abbrev cX11_orderLoss : ByteArray := prog_13_method_111_code
def yX11_orderLoss : MethodName := ⟨RX11, "orderLoss", "(II)I"⟩
abbrev cX11_bestMember : ByteArray := prog_13_method_112_code
def yX11_bestMember : MethodName := ⟨RX11, "bestMember", "(III)I"⟩
abbrev cX11_rate : ByteArray := prog_13_method_113_code
def yX11_rate : MethodName := ⟨RX11, "rate", "(I)F"⟩
abbrev cX11_shareBits : ByteArray := prog_13_method_114_code
def yX11_shareBits : MethodName := ⟨RX11, "shareBits", "()I"⟩
abbrev cX11_quickest : ByteArray := prog_13_method_115_code
def yX11_quickest : MethodName := ⟨RX11, "quickest", "(II)I"⟩
abbrev cX11_digest : ByteArray := prog_13_method_116_code
def yX11_digest : MethodName := ⟨RX11, "digest", "()I"⟩
abbrev cX11_put : ByteArray := prog_13_method_117_code
def yX11_put : MethodName := ⟨RX11, "put", "(I)V"⟩
abbrev cX11_putNumber : ByteArray := prog_13_method_118_code
def yX11_putNumber : MethodName := ⟨RX11, "putNumber", "(I)V"⟩
abbrev cX11_write : ByteArray := prog_13_method_119_code
def yX11_write : MethodName := ⟨RX11, "write", "(I)I"⟩
abbrev cX11_outputByte : ByteArray := prog_13_method_120_code
def yX11_outputByte : MethodName := ⟨RX11, "outputByte", "(I)I"⟩
abbrev cX11_appendBytes : ByteArray := prog_13_method_121_code
def yX11_appendBytes : MethodName := ⟨RX11, "appendBytes", "(I)V"⟩
abbrev cX11_appendInput : ByteArray := prog_13_method_122_code
def yX11_appendInput : MethodName := ⟨RX11, "appendInput", "(IIIII)I"⟩
abbrev cX11_truncateInput : ByteArray := prog_13_method_123_code
def yX11_truncateInput : MethodName := ⟨RX11, "truncateInput", "(I)I"⟩
abbrev cX11_errorCode : ByteArray := prog_13_method_124_code
def yX11_errorCode : MethodName := ⟨RX11, "errorCode", "()I"⟩
abbrev cX11_errorPosition : ByteArray := prog_13_method_125_code
def yX11_errorPosition : MethodName := ⟨RX11, "errorPosition", "()I"⟩
abbrev cX11_byteAt : ByteArray := prog_13_method_126_code
def yX11_byteAt : MethodName := ⟨RX11, "byteAt", "(I)I"⟩
abbrev cX11_isLetter : ByteArray := prog_13_method_127_code
def yX11_isLetter : MethodName := ⟨RX11, "isLetter", "(I)Z"⟩
abbrev cX11_isDigit : ByteArray := prog_13_method_128_code
def yX11_isDigit : MethodName := ⟨RX11, "isDigit", "(I)Z"⟩
abbrev cX11_advance : ByteArray := prog_13_method_129_code
def yX11_advance : MethodName := ⟨RX11, "advance", "()V"⟩
abbrev cX11_beginText : ByteArray := prog_13_method_130_code
def yX11_beginText : MethodName := ⟨RX11, "beginText", "()V"⟩
abbrev cX11_fail : ByteArray := prog_13_method_131_code
def yX11_fail : MethodName := ⟨RX11, "fail", "(I)Z"⟩
abbrev cX11_readNumber : ByteArray := prog_13_method_132_code
def yX11_readNumber : MethodName := ⟨RX11, "readNumber", "(II)Z"⟩
abbrev cX11_readEnd : ByteArray := prog_13_method_133_code
def yX11_readEnd : MethodName := ⟨RX11, "readEnd", "()Z"⟩
abbrev cX11_pack : ByteArray := prog_13_method_134_code
def yX11_pack : MethodName := ⟨RX11, "pack", "(IIIII)J"⟩
abbrev cX11_isWord : ByteArray := prog_13_method_135_code
def yX11_isWord : MethodName := ⟨RX11, "isWord", "(J)Z"⟩
abbrev cX11_readInto : ByteArray := prog_13_method_136_code
def yX11_readInto : MethodName := ⟨RX11, "readInto", "(III)Z"⟩
abbrev cX11_readRoad : ByteArray := prog_13_method_137_code
def yX11_readRoad : MethodName := ⟨RX11, "readRoad", "()Z"⟩
abbrev cX11_toldRoad : ByteArray := prog_13_method_138_code
def yX11_toldRoad : MethodName := ⟨RX11, "toldRoad", "(II)I"⟩
abbrev cX11_readPlace : ByteArray := prog_13_method_139_code
def yX11_readPlace : MethodName := ⟨RX11, "readPlace", "(I)Z"⟩
abbrev cX11_readTruck : ByteArray := prog_13_method_140_code
def yX11_readTruck : MethodName := ⟨RX11, "readTruck", "()Z"⟩
abbrev cX11_readStatement : ByteArray := prog_13_method_141_code
def yX11_readStatement : MethodName := ⟨RX11, "readStatement", "()Z"⟩
abbrev cX11_load : ByteArray := prog_13_method_142_code
def yX11_load : MethodName := ⟨RX11, "load", "()I"⟩
abbrev cX11_commandHere : ByteArray := prog_13_method_143_code
def yX11_commandHere : MethodName := ⟨RX11, "commandHere", "()I"⟩
abbrev cX11_readNumberOf : ByteArray := prog_13_method_144_code
def yX11_readNumberOf : MethodName := ⟨RX11, "readNumberOf", "(III)Z"⟩
abbrev cX11_readArguments : ByteArray := prog_13_method_145_code
def yX11_readArguments : MethodName := ⟨RX11, "readArguments", "(I)Z"⟩
abbrev cX11_readCommand : ByteArray := prog_13_method_146_code
def yX11_readCommand : MethodName := ⟨RX11, "readCommand", "()Z"⟩
abbrev cX11_isDone : ByteArray := prog_13_method_147_code
def yX11_isDone : MethodName := ⟨RX11, "isDone", "(I)Z"⟩
abbrev cX11_play : ByteArray := prog_13_method_148_code
def yX11_play : MethodName := ⟨RX11, "play", "()I"⟩
def RJx00060 : String := "java/lang/ArrayIndexOutOfBoundsException"
def TJx00060 : u_T := fun k => match k with
  | 0 => ("java/lang/Throwable", "backtrace", "Ljava/lang/Object;", false)
  | 1 => ("java/lang/Throwable", "detailMessage", "Ljava/lang/String;", false)
  | 2 => ("java/lang/Throwable", "cause", "Ljava/lang/Throwable;", false)
  | 3 => ("java/lang/Throwable", "stackTrace", "[Ljava/lang/StackTraceElement;", false)
  | 4 => ("java/lang/Throwable", "depth", "I", false)
  | _ => ("java/lang/Throwable", "suppressedExceptions", "Ljava/util/List;", false)
def tyJx00060 : Nat → FieldType := fun k => match k with
  | 0 => .object "java/lang/Object"
  | 1 => .object "java/lang/String"
  | 2 => .object "java/lang/Throwable"
  | 3 => .array (.object "java/lang/StackTraceElement")
  | 4 => .int
  | _ => .object "java/util/List"
abbrev wsJx000600 : List Cond := u_ws RJx00060 TJx00060 6
theorem nmJx00060 : ∀ a, a < 6 → ∀ b, b < 6 → a ≠ b → (TJx00060 a).2.1 ≠ (TJx00060 b).2.1 := by decide +kernel
theorem tyJx00060_ok : ∀ k, k < 6 → parseFieldDescriptor (TJx00060 k).2.2.1 = some (tyJx00060 k) := by decide +kernel
abbrev cJx00060_init_a7421 : ByteArray := prog_15_method_2_code
def yJx00060_init_a7421 : MethodName := ⟨RJx00060, "<init>", "(Ljava/lang/String;)V"⟩
def RJxf58ca : String := "java/lang/Float"
def TJxf58ca : u_T := fun k => match k with
  | _ => ("", "", "", false)
def tyJxf58ca : Nat → FieldType := fun k => match k with
  | _ => .int
abbrev wsJxf58ca0 : List Cond := u_ws RJxf58ca TJxf58ca 0
theorem nmJxf58ca : ∀ a, a < 0 → ∀ b, b < 0 → a ≠ b → (TJxf58ca a).2.1 ≠ (TJxf58ca b).2.1 := by decide +kernel
theorem tyJxf58ca_ok : ∀ k, k < 0 → parseFieldDescriptor (TJxf58ca k).2.2.1 = some (tyJxf58ca k) := by decide +kernel
abbrev cJxf58ca_isNaN_12338 : ByteArray := prog_17_method_6_code
def yJxf58ca_isNaN_12338 : MethodName := ⟨RJxf58ca, "isNaN", "(F)Z"⟩
abbrev cJxf58ca_floatToIntBits_5c35a : ByteArray := prog_17_method_24_code
def yJxf58ca_floatToIntBits_5c35a : MethodName := ⟨RJxf58ca, "floatToIntBits", "(F)I"⟩
def RJ6 : String := "java/lang/Integer"
def TJ6 : u_T := fun k => match k with
  | _ => ("", "", "", false)
def tyJ6 : Nat → FieldType := fun k => match k with
  | _ => .int
abbrev wsJ60 : List Cond := u_ws RJ6 TJ6 0
theorem nmJ6 : ∀ a, a < 0 → ∀ b, b < 0 → a ≠ b → (TJ6 a).2.1 ≠ (TJ6 b).2.1 := by decide +kernel
theorem tyJ6_ok : ∀ k, k < 0 → parseFieldDescriptor (TJ6 k).2.2.1 = some (tyJ6 k) := by decide +kernel
abbrev cJ6_bitCount_0f7a4 : ByteArray := prog_21_method_49_code
def yJ6_bitCount_0f7a4 : MethodName := ⟨RJ6, "bitCount", "(I)I"⟩
def RJ9 : String := "java/lang/Math"
def TJ9 : u_T := fun k => match k with
  | _ => ("", "", "", false)
def tyJ9 : Nat → FieldType := fun k => match k with
  | _ => .int
abbrev wsJ90 : List Cond := u_ws RJ9 TJ9 0
theorem nmJ9 : ∀ a, a < 0 → ∀ b, b < 0 → a ≠ b → (TJ9 a).2.1 ≠ (TJ9 b).2.1 := by decide +kernel
theorem tyJ9_ok : ∀ k, k < 0 → parseFieldDescriptor (TJ9 k).2.2.1 = some (tyJ9 k) := by decide +kernel
abbrev cJ9_abs_0f7a4 : ByteArray := prog_22_method_59_code
def yJ9_abs_0f7a4 : MethodName := ⟨RJ9, "abs", "(I)I"⟩
abbrev cJ9_max_7cf53 : ByteArray := prog_22_method_65_code
def yJ9_max_7cf53 : MethodName := ⟨RJ9, "max", "(II)I"⟩
abbrev cJ9_min_7cf53 : ByteArray := prog_22_method_69_code
def yJ9_min_7cf53 : MethodName := ⟨RJ9, "min", "(II)I"⟩
def RJ0 : String := "java/lang/String"
def TJ0 : u_T := fun k => match k with
  | 0 => ("java/lang/String", "value", "[B", true)
  | _ => ("java/lang/String", "coder", "B", true)
def tyJ0 : Nat → FieldType := fun k => match k with
  | 0 => .array .byte
  | _ => .byte
abbrev wsJ00 : List Cond := u_ws RJ0 TJ0 2
theorem nmJ0 : ∀ a, a < 2 → ∀ b, b < 2 → a ≠ b → (TJ0 a).2.1 ≠ (TJ0 b).2.1 := by decide +kernel
theorem tyJ0_ok : ∀ k, k < 2 → parseFieldDescriptor (TJ0 k).2.2.1 = some (tyJ0 k) := by decide +kernel
abbrev cJ0_length_8abf5 : ByteArray := prog_24_method_54_code
def yJ0_length_8abf5 : MethodName := ⟨RJ0, "length", "()I"⟩
abbrev cJ0_charAt_5068e : ByteArray := prog_24_method_56_code
def yJ0_charAt_5068e : MethodName := ⟨RJ0, "charAt", "(I)C"⟩
abbrev cJ0_coder_7d493 : ByteArray := prog_24_method_152_code
def yJ0_coder_7d493 : MethodName := ⟨RJ0, "coder", "()B"⟩
abbrev cJ0_isLatin1_aae02 : ByteArray := prog_24_method_154_code
def yJ0_isLatin1_aae02 : MethodName := ⟨RJ0, "isLatin1", "()Z"⟩
abbrev cJ0_checkIndex_df160 : ByteArray := prog_24_method_155_code
def yJ0_checkIndex_df160 : MethodName := ⟨RJ0, "checkIndex", "(II)V"⟩
def RJ1 : String := "java/lang/StringLatin1"
def TJ1 : u_T := fun k => match k with
  | _ => ("", "", "", false)
def tyJ1 : Nat → FieldType := fun k => match k with
  | _ => .int
abbrev wsJ10 : List Cond := u_ws RJ1 TJ1 0
theorem nmJ1 : ∀ a, a < 0 → ∀ b, b < 0 → a ≠ b → (TJ1 a).2.1 ≠ (TJ1 b).2.1 := by decide +kernel
theorem tyJ1_ok : ∀ k, k < 0 → parseFieldDescriptor (TJ1 k).2.2.1 = some (tyJ1 k) := by decide +kernel
abbrev cJ1_charAt_3b067 : ByteArray := prog_25_method_2_code
def yJ1_charAt_3b067 : MethodName := ⟨RJ1, "charAt", "([BI)C"⟩
def RJ2 : String := "java/lang/StringUTF16"
def TJ2 : u_T := fun k => match k with
  | _ => ("", "", "", false)
def tyJ2 : Nat → FieldType := fun k => match k with
  | _ => .int
abbrev wsJ20 : List Cond := u_ws RJ2 TJ2 0
theorem nmJ2 : ∀ a, a < 0 → ∀ b, b < 0 → a ≠ b → (TJ2 a).2.1 ≠ (TJ2 b).2.1 := by decide +kernel
theorem tyJ2_ok : ∀ k, k < 0 → parseFieldDescriptor (TJ2 k).2.2.1 = some (tyJ2 k) := by decide +kernel
abbrev cJ2_getChar_3b067 : ByteArray := prog_26_method_5_code
def yJ2_getChar_3b067 : MethodName := ⟨RJ2, "getChar", "([BI)C"⟩
abbrev cJ2_length_9d52b : ByteArray := prog_26_method_6_code
def yJ2_length_9d52b : MethodName := ⟨RJ2, "length", "([B)I"⟩
abbrev cJ2_charAt_3b067 : ByteArray := prog_26_method_83_code
def yJ2_charAt_3b067 : MethodName := ⟨RJ2, "charAt", "([BI)C"⟩
abbrev cJ2_checkIndex_2214a : ByteArray := prog_26_method_91_code
def yJ2_checkIndex_2214a : MethodName := ⟨RJ2, "checkIndex", "(I[B)V"⟩
def RJ10 : String := "java/lang/System"
def TJ10 : u_T := fun k => match k with
  | _ => ("", "", "", false)
def tyJ10 : Nat → FieldType := fun k => match k with
  | _ => .int
abbrev wsJ100 : List Cond := u_ws RJ10 TJ10 0
theorem nmJ10 : ∀ a, a < 0 → ∀ b, b < 0 → a ≠ b → (TJ10 a).2.1 ≠ (TJ10 b).2.1 := by decide +kernel
theorem tyJ10_ok : ∀ k, k < 0 → parseFieldDescriptor (TJ10 k).2.2.1 = some (tyJ10 k) := by decide +kernel
def RJ3 : String := "jdk/internal/util/Preconditions"
def TJ3 : u_T := fun k => match k with
  | _ => ("", "", "", false)
def tyJ3 : Nat → FieldType := fun k => match k with
  | _ => .int
abbrev wsJ30 : List Cond := u_ws RJ3 TJ3 0
theorem nmJ3 : ∀ a, a < 0 → ∀ b, b < 0 → a ≠ b → (TJ3 a).2.1 ≠ (TJ3 b).2.1 := by decide +kernel
theorem tyJ3_ok : ∀ k, k < 0 → parseFieldDescriptor (TJ3 k).2.2.1 = some (tyJ3 k) := by decide +kernel
abbrev cJ3_checkIndex_8e157 : ByteArray := prog_29_method_11_code
def yJ3_checkIndex_8e157 : MethodName := ⟨RJ3, "checkIndex", "(IILjava/util/function/BiFunction;)I"⟩
def RL : String := "TruckPlatoonsLaw"
abbrev cL_road : ByteArray := method_3_code
def yL_road : MethodName := ⟨RL, "road", "(LTruckPlatoons;II[J)I"⟩
abbrev cL_truck : ByteArray := method_4_code
def yL_truck : MethodName := ⟨RL, "truck", "(LTruckPlatoons;II[J)I"⟩
abbrev cL_place : ByteArray := method_5_code
def yL_place : MethodName := ⟨RL, "place", "(LTruckPlatoons;III[J)I"⟩
abbrev cL_platoonOf : ByteArray := method_6_code
def yL_platoonOf : MethodName := ⟨RL, "platoonOf", "(LTruckPlatoons;II[J)I"⟩
abbrev cL_position : ByteArray := method_7_code
def yL_position : MethodName := ⟨RL, "position", "(LTruckPlatoons;II[J)I"⟩
abbrev cL_key : ByteArray := method_8_code
def yL_key : MethodName := ⟨RL, "key", "(LTruckPlatoons;II[J)I"⟩
abbrev cL_platoon : ByteArray := method_9_code
def yL_platoon : MethodName := ⟨RL, "platoon", "(LTruckPlatoons;III[J)I"⟩
abbrev cL_member : ByteArray := method_10_code
def yL_member : MethodName := ⟨RL, "member", "(LTruckPlatoons;III[J)I"⟩
abbrev cL_together : ByteArray := method_11_code
def yL_together : MethodName := ⟨RL, "together", "(LTruckPlatoons;II[J)I"⟩
abbrev cL_pairSaved : ByteArray := method_12_code
def yL_pairSaved : MethodName := ⟨RL, "pairSaved", "(LTruckPlatoons;II[J)I"⟩
abbrev cL_run : ByteArray := method_13_code
def yL_run : MethodName := ⟨RL, "run", "(LTruckPlatoons;III[J)I"⟩
abbrev cL_common : ByteArray := method_14_code
def yL_common : MethodName := ⟨RL, "common", "(LTruckPlatoons;II[J)I"⟩
abbrev cL_slack : ByteArray := method_15_code
def yL_slack : MethodName := ⟨RL, "slack", "(LTruckPlatoons;I[J)I"⟩
abbrev cL_neededSpeed : ByteArray := method_16_code
def yL_neededSpeed : MethodName := ⟨RL, "neededSpeed", "(LTruckPlatoons;III[J)I"⟩
abbrev cL_setWait : ByteArray := method_17_code
def yL_setWait : MethodName := ⟨RL, "setWait", "(LTruckPlatoons;III[J)I"⟩
abbrev cL_setSpeed : ByteArray := method_18_code
def yL_setSpeed : MethodName := ⟨RL, "setSpeed", "(LTruckPlatoons;III[J)I"⟩
abbrev cL_setStart : ByteArray := method_19_code
def yL_setStart : MethodName := ⟨RL, "setStart", "(LTruckPlatoons;II[J)I"⟩
abbrev cL_reason : ByteArray := method_20_code
def yL_reason : MethodName := ⟨RL, "reason", "(LTruckPlatoons;II[J)I"⟩
abbrev cL_merge : ByteArray := method_21_code
def yL_merge : MethodName := ⟨RL, "merge", "(LTruckPlatoons;II[J)I"⟩
abbrev cL_gain : ByteArray := method_22_code
def yL_gain : MethodName := ⟨RL, "gain", "(LTruckPlatoons;II[J)I"⟩
abbrev cL_bestPartner : ByteArray := method_23_code
def yL_bestPartner : MethodName := ⟨RL, "bestPartner", "(LTruckPlatoons;I[J)I"⟩
abbrev cL_hurry : ByteArray := method_24_code
def yL_hurry : MethodName := ⟨RL, "hurry", "(LTruckPlatoons;I[J)I"⟩
abbrev cL_relax : ByteArray := method_25_code
def yL_relax : MethodName := ⟨RL, "relax", "(LTruckPlatoons;I[J)I"⟩
abbrev cL_onRoad : ByteArray := method_26_code
def yL_onRoad : MethodName := ⟨RL, "onRoad", "(LTruckPlatoons;II[J)I"⟩
abbrev cL_orderLoss : ByteArray := method_27_code
def yL_orderLoss : MethodName := ⟨RL, "orderLoss", "(LTruckPlatoons;II[J)I"⟩
abbrev cL_bestMember : ByteArray := method_28_code
def yL_bestMember : MethodName := ⟨RL, "bestMember", "(LTruckPlatoons;III[J)I"⟩
abbrev cL_rate : ByteArray := method_29_code
def yL_rate : MethodName := ⟨RL, "rate", "(LTruckPlatoons;I[D)I"⟩
abbrev cL_shareBits : ByteArray := method_30_code
def yL_shareBits : MethodName := ⟨RL, "shareBits", "(LTruckPlatoons;[J)I"⟩
abbrev cL_quickest : ByteArray := method_31_code
def yL_quickest : MethodName := ⟨RL, "quickest", "(LTruckPlatoons;II[J)I"⟩
abbrev cL_write : ByteArray := method_32_code
def yL_write : MethodName := ⟨RL, "write", "(LTruckPlatoons;I[J)I"⟩
abbrev cL_law : ByteArray := code
def yL_law : MethodName := ⟨RL, "law", "([I)Z"⟩
abbrev vwCl : List vw_C := [(RJ0, TJ0, 2), (RJx00060, TJx00060, 6), (RX0, TX0, 5), (RX1, TX1, 11), (RX2, TX2, 5), (RX3, TX3, 1), (RX4, TX4, 7), (RX5, TX5, 2), (RX6, TX6, 15), (RX7, TX7, 6), (RX8, TX8, 3), (RX9, TX9, 8), (RX10, TX10, 12), (RX11, TX11, 41)]
