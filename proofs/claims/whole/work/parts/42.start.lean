/-! the law from its entry to its loop: printed by wip/whole/gen12.py -/
theorem z_t1 {w : Cond} (h : w ∈ tables_1_1) : w ∈ lw_tbl := List.mem_append_right _ (show w ∈ tables_1 from List.mem_append_left _ h)
theorem z_t2 {w : Cond} (h : w ∈ tables_1_2) : w ∈ lw_tbl := List.mem_append_right _ (show w ∈ tables_1 from List.mem_append_right _ (List.mem_append_left _ h))
theorem z_t3 {w : Cond} (h : w ∈ tables_1_3) : w ∈ lw_tbl := List.mem_append_right _ (show w ∈ tables_1 from List.mem_append_right _ (List.mem_append_right _ (List.mem_append_left _ h)))
theorem z_t4 {w : Cond} (h : w ∈ tables_1_4) : w ∈ lw_tbl := List.mem_append_right _ (show w ∈ tables_1 from List.mem_append_right _ (List.mem_append_right _ (List.mem_append_right _ (List.mem_append_left _ h))))
theorem z_t5 {w : Cond} (h : w ∈ tables_1_5) : w ∈ lw_tbl := List.mem_append_right _ (show w ∈ tables_1 from List.mem_append_right _ (List.mem_append_right _ (List.mem_append_right _ (List.mem_append_right _ (List.mem_append_left _ h)))))
theorem z_t6 {w : Cond} (h : w ∈ tables_1_6) : w ∈ lw_tbl := List.mem_append_right _ (show w ∈ tables_1 from List.mem_append_right _ (List.mem_append_right _ (List.mem_append_right _ (List.mem_append_right _ (List.mem_append_right _ (List.mem_append_left _ h))))))
theorem z_t7 {w : Cond} (h : w ∈ tables_1_7) : w ∈ lw_tbl := List.mem_append_right _ (show w ∈ tables_1 from List.mem_append_right _ (List.mem_append_right _ (List.mem_append_right _ (List.mem_append_right _ (List.mem_append_right _ (List.mem_append_right _ (List.mem_append_left _ h)))))))
theorem z_t8 {w : Cond} (h : w ∈ tables_1_8) : w ∈ lw_tbl := List.mem_append_right _ (show w ∈ tables_1 from List.mem_append_right _ (List.mem_append_right _ (List.mem_append_right _ (List.mem_append_right _ (List.mem_append_right _ (List.mem_append_right _ (List.mem_append_right _ (List.mem_append_left _ h))))))))
theorem z_t9 {w : Cond} (h : w ∈ tables_1_9) : w ∈ lw_tbl := List.mem_append_right _ (show w ∈ tables_1 from List.mem_append_right _ (List.mem_append_right _ (List.mem_append_right _ (List.mem_append_right _ (List.mem_append_right _ (List.mem_append_right _ (List.mem_append_right _ (List.mem_append_right _ (h)))))))))
theorem z_inRJ0 : ∀ w ∈ u_ws RJ0 TJ0 2, w ∈ lw_big := x_uws (fun k hk => match k, hk with
    | 0, _ => x_t5 (List.mem_of_getElem? (i := 13) rfl) rfl
    | 1, _ => x_t5 (List.mem_of_getElem? (i := 15) rfl) rfl
    | n + 2, hk => absurd hk (by omega))
theorem z_inRJx00060 : ∀ w ∈ u_ws RJx00060 TJx00060 6, w ∈ lw_big := x_uws (fun k hk => match k, hk with
    | 0, _ => x_t4 (List.mem_of_getElem? (i := 220) rfl) rfl
    | 1, _ => x_t4 (List.mem_of_getElem? (i := 222) rfl) rfl
    | 2, _ => x_t4 (List.mem_of_getElem? (i := 224) rfl) rfl
    | 3, _ => x_t4 (List.mem_of_getElem? (i := 226) rfl) rfl
    | 4, _ => x_t4 (List.mem_of_getElem? (i := 228) rfl) rfl
    | 5, _ => x_t4 (List.mem_of_getElem? (i := 230) rfl) rfl
    | n + 6, hk => absurd hk (by omega))
theorem z_Kn {s : State} {args : Array Value} (hb : ∀ w ∈ lw_big, w.before args s = true) : ∃ D : va_G, ∀ (c : Nat) (q : vw_C), vwCl[c]? = some q → u_Kn s q.1 q.2.1 q.2.2 (D.1 c) (D.2 c) := by
  have h : ∀ c : Nat, ∃ z : ClassId × (Nat → Nat), ∀ q : vw_C, vwCl[c]? = some q → u_Kn s q.1 q.2.1 q.2.2 z.1 z.2 := by
    intro c
    match c with
    | 0 =>
      obtain ⟨cC, iS, hk⟩ := u_known (ws := lw_big) hb z_inRJ0 (hb _ w_5_12)
      exact ⟨(cC, iS), fun q hq => by cases hq; exact hk⟩
    | 1 =>
      obtain ⟨cC, iS, hk⟩ := u_known (ws := lw_big) hb z_inRJx00060 (hb _ w_4_181)
      exact ⟨(cC, iS), fun q hq => by cases hq; exact hk⟩
    | 2 =>
      obtain ⟨cC, iS, hk⟩ := u_known (ws := lw_big) hb inB0 (hb _ w_2_76)
      exact ⟨(cC, iS), fun q hq => by cases hq; exact hk⟩
    | 3 =>
      obtain ⟨cC, iS, hk⟩ := u_known (ws := lw_big) hb inB1 (hb _ w_1_77)
      exact ⟨(cC, iS), fun q hq => by cases hq; exact hk⟩
    | 4 =>
      obtain ⟨cC, iS, hk⟩ := u_known (ws := lw_big) hb inB2 (hb _ w_2_100)
      exact ⟨(cC, iS), fun q hq => by cases hq; exact hk⟩
    | 5 =>
      obtain ⟨cC, iS, hk⟩ := u_known (ws := lw_big) hb inB3 (hb _ w_1_153)
      exact ⟨(cC, iS), fun q hq => by cases hq; exact hk⟩
    | 6 =>
      obtain ⟨cC, iS, hk⟩ := u_known (ws := lw_big) hb inB4 (hb _ w_2_45)
      exact ⟨(cC, iS), fun q hq => by cases hq; exact hk⟩
    | 7 =>
      obtain ⟨cC, iS, hk⟩ := u_known (ws := lw_big) hb inB5 (hb _ w_2_126)
      exact ⟨(cC, iS), fun q hq => by cases hq; exact hk⟩
    | 8 =>
      obtain ⟨cC, iS, hk⟩ := u_known (ws := lw_big) hb inB6 (hb _ w_1_216)
      exact ⟨(cC, iS), fun q hq => by cases hq; exact hk⟩
    | 9 =>
      obtain ⟨cC, iS, hk⟩ := u_known (ws := lw_big) hb inB7 (hb _ w_1_183)
      exact ⟨(cC, iS), fun q hq => by cases hq; exact hk⟩
    | 10 =>
      obtain ⟨cC, iS, hk⟩ := u_known (ws := lw_big) hb inB8 (hb _ w_1_166)
      exact ⟨(cC, iS), fun q hq => by cases hq; exact hk⟩
    | 11 =>
      obtain ⟨cC, iS, hk⟩ := u_known (ws := lw_big) hb inB9 (hb _ w_1_38)
      exact ⟨(cC, iS), fun q hq => by cases hq; exact hk⟩
    | 12 =>
      obtain ⟨cC, iS, hk⟩ := u_known (ws := lw_big) hb inB10 (hb _ w_1_30)
      exact ⟨(cC, iS), fun q hq => by cases hq; exact hk⟩
    | 13 =>
      obtain ⟨cC, iS, hk⟩ := u_known (ws := lw_big) hb inB11 (hb _ w_6_185)
      exact ⟨(cC, iS), fun q hq => by cases hq; exact hk⟩
    | n + 14 => exact ⟨(0, fun _ => 0), fun q hq => by cases hq⟩
  obtain ⟨f, hf⟩ := Classical.axiomOfChoice h
  exact ⟨(fun c => (f c).1, fun c => (f c).2), hf⟩
theorem z_ar {s : State} {args : Array Value} {ty : FieldType} (h : (Cond.arrayClass ty).before args s = true) : ∃ cA : ClassId, ArrOfT s cA ty ∧ s.vm.findClass ("[" ++ ty.toString) = some cA := by
  obtain ⟨cA, kA, comp, h1, h2, h3⟩ := Cond.arrayClass_spec h
  exact ⟨cA, fun n z => ⟨(fun _ hk => by cases hk), kA, h2, comp, h3⟩, h1⟩
theorem z_arO {s : State} {args : Array Value} (h : (Cond.arrayOver (.array .int)).before args s = true) : ∃ cA : ClassId, ArrOfT s cA (.array .int) ∧ s.vm.findClass ("[" ++ (FieldType.array .int).toString) = some cA := by
  obtain ⟨comp, c, k, h1, h2, h3, ⟨cm, h4⟩, h5⟩ := y_AOspec h
  exact ⟨c, fun n z => ⟨(fun _ hk => by cases hk), k, h3, cm, h4⟩, h5⟩
def z_ca (c1 c2 c3 c4 c5 c6 : ClassId) : Nat → ClassId
  | 1 => c1
  | 2 => c2
  | 3 => c3
  | 4 => c4
  | 5 => c5
  | _ => c6
theorem z_K {s : State} {args : Array Value} (ht : ∀ w ∈ lw_tbl, w.before args s = true) (hb : ∀ w ∈ lw_big, w.before args s = true) : ∃ (D : va_G) (ca : Nat → ClassId), va_K D vwCl (x_tys ca) s := by
  obtain ⟨D, hD⟩ := z_Kn hb
  obtain ⟨c1, a1, b1⟩ := z_ar (ht _ (z_t1 (List.mem_of_getElem? (i := 151) rfl)))
  obtain ⟨c2, a2, b2⟩ := z_ar (ht _ (z_t2 (List.mem_of_getElem? (i := 43) rfl)))
  obtain ⟨c3, a3, b3⟩ := z_ar (ht _ (z_t1 (List.mem_of_getElem? (i := 75) rfl)))
  obtain ⟨c4, a4, b4⟩ := z_ar (ht _ (z_t1 (List.mem_of_getElem? (i := 214) rfl)))
  obtain ⟨c5, a5, b5⟩ := z_ar (ht _ (z_t9 (List.mem_of_getElem? (i := 199) rfl)))
  obtain ⟨c6, a6, b6⟩ := z_arO (ht _ (z_t2 (List.mem_of_getElem? (i := 106) rfl)))
  refine ⟨D, z_ca c1 c2 c3 c4 c5 c6, hD, fun k q hk => ?_⟩
  match k with
  | 0 => cases hk; exact ⟨a1, b1⟩
  | 1 => cases hk; exact ⟨a2, b2⟩
  | 2 => cases hk; exact ⟨a3, b3⟩
  | 3 => cases hk; exact ⟨a4, b4⟩
  | 4 => cases hk; exact ⟨a5, b5⟩
  | 5 => cases hk; exact ⟨a6, b6⟩
  | n + 6 => cases hk
theorem z_NC {s : State} {args : Array Value} (ht : ∀ w ∈ lw_tbl, w.before args s = true) : y_NC s := ⟨(List.forall_mem_cons.mpr ⟨va_Nw.of rfl (ht _ (z_t1 (List.mem_of_getElem? (i := 39) rfl))), (List.forall_mem_cons.mpr ⟨va_Nw.of rfl (ht _ (z_t1 (List.mem_of_getElem? (i := 78) rfl))), (List.forall_mem_cons.mpr ⟨va_Nw.of rfl (ht _ (z_t1 (List.mem_of_getElem? (i := 154) rfl))), (List.forall_mem_cons.mpr ⟨va_Nw.of rfl (ht _ (z_t1 (List.mem_of_getElem? (i := 159) rfl))), (List.forall_mem_cons.mpr ⟨va_Nw.of rfl (ht _ (z_t1 (List.mem_of_getElem? (i := 167) rfl))), (List.forall_mem_cons.mpr ⟨va_Nw.of rfl (ht _ (z_t2 (List.mem_of_getElem? (i := 101) rfl))), (List.forall_mem_cons.mpr ⟨va_Nw.of rfl (ht _ (z_t2 (List.mem_of_getElem? (i := 127) rfl))), (fun _ h => absurd h List.not_mem_nil)⟩)⟩)⟩)⟩)⟩)⟩)⟩), y_AOmoved (Vm.Alike.refl _) (ht _ (z_t2 (List.mem_of_getElem? (i := 106) rfl)))⟩
/-- the String constants, by their numbers -/
def z_tm : Nat → Term
  | 0 => .string "TruckPlatoons$Loader" 33
  | 1 => .string "TruckPlatoons$Loader" 47
  | 2 => .string "TruckPlatoons$Script" 46
  | 3 => .string "TruckPlatoons$Script" 52
  | 4 => .string "TruckPlatoons$Script" 54
  | 5 => .string "TruckPlatoons$Script" 56
  | 6 => .string "TruckPlatoons$Script" 58
  | 7 => .string "TruckPlatoons$Script" 60
  | 8 => .string "TruckPlatoons$Script" 62
  | 9 => .string "TruckPlatoons" 475
  | 10 => .string "TruckPlatoons" 478
  | 11 => .string "TruckPlatoons" 480
  | 12 => .string "TruckPlatoons" 482
  | 13 => .string "TruckPlatoons" 484
  | 14 => .string "TruckPlatoons" 488
  | 15 => .string "TruckPlatoons" 359
  | 16 => .string "TruckPlatoons" 491
  | _ => .string "TruckPlatoons" 409
set_option maxRecDepth 100000 in
theorem z_strs {s : State} {args : Array Value} (hs : ∀ w ∈ flatC (Jvm.Cond.and given_1 narrow_1), w.before args s = true) : ∀ i, i < 18 → (Cond.exactly (z_tm i) "java/lang/String").before args s = true
  | 0, _ => (hs _ (List.mem_of_getElem? (i := 74) rfl))
  | 1, _ => (hs _ (List.mem_of_getElem? (i := 82) rfl))
  | 2, _ => (hs _ (List.mem_of_getElem? (i := 92) rfl))
  | 3, _ => (hs _ (List.mem_of_getElem? (i := 102) rfl))
  | 4, _ => (hs _ (List.mem_of_getElem? (i := 114) rfl))
  | 5, _ => (hs _ (List.mem_of_getElem? (i := 127) rfl))
  | 6, _ => (hs _ (List.mem_of_getElem? (i := 141) rfl))
  | 7, _ => (hs _ (List.mem_of_getElem? (i := 156) rfl))
  | 8, _ => (hs _ (List.mem_of_getElem? (i := 172) rfl))
  | 9, _ => (hs _ (List.mem_of_getElem? (i := 187) rfl))
  | 10, _ => (hs _ (List.mem_of_getElem? (i := 212) rfl))
  | 11, _ => (hs _ (List.mem_of_getElem? (i := 239) rfl))
  | 12, _ => (hs _ (List.mem_of_getElem? (i := 276) rfl))
  | 13, _ => (hs _ (List.mem_of_getElem? (i := 315) rfl))
  | 14, _ => (hs _ (List.mem_of_getElem? (i := 358) rfl))
  | 15, _ => (hs _ (List.mem_of_getElem? (i := 388) rfl))
  | 16, _ => (hs _ (List.mem_of_getElem? (i := 436) rfl))
  | 17, _ => (hs _ (List.mem_of_getElem? (i := 488) rfl))
  | n + 18, h => absurd h (by omega)
set_option maxRecDepth 100000 in
theorem z_sco {s : State} {args : Array Value} (hs : ∀ w ∈ flatC (Jvm.Cond.and given_1 narrow_1), w.before args s = true) : ∀ i, i < 9 → (Cond.eq (.field (z_tm i) "java/lang/String" "coder" "B") (.int 0)).before args s = true
  | 0, _ => (hs _ (List.mem_of_getElem? (i := 75) rfl))
  | 1, _ => (hs _ (List.mem_of_getElem? (i := 83) rfl))
  | 2, _ => (hs _ (List.mem_of_getElem? (i := 93) rfl))
  | 3, _ => (hs _ (List.mem_of_getElem? (i := 103) rfl))
  | 4, _ => (hs _ (List.mem_of_getElem? (i := 115) rfl))
  | 5, _ => (hs _ (List.mem_of_getElem? (i := 128) rfl))
  | 6, _ => (hs _ (List.mem_of_getElem? (i := 142) rfl))
  | 7, _ => (hs _ (List.mem_of_getElem? (i := 157) rfl))
  | 8, _ => (hs _ (List.mem_of_getElem? (i := 173) rfl))
  | n + 9, h => absurd h (by omega)
set_option maxRecDepth 100000 in
theorem z_sar {s : State} {args : Array Value} (hs : ∀ w ∈ flatC (Jvm.Cond.and given_1 narrow_1), w.before args s = true) : ∀ i, i < 9 → (Cond.arrayOf (.field (z_tm i) "java/lang/String" "value" "[B") .byte).before args s = true
  | 0, _ => (hs _ (List.mem_of_getElem? (i := 76) rfl))
  | 1, _ => (hs _ (List.mem_of_getElem? (i := 84) rfl))
  | 2, _ => (hs _ (List.mem_of_getElem? (i := 94) rfl))
  | 3, _ => (hs _ (List.mem_of_getElem? (i := 104) rfl))
  | 4, _ => (hs _ (List.mem_of_getElem? (i := 116) rfl))
  | 5, _ => (hs _ (List.mem_of_getElem? (i := 129) rfl))
  | 6, _ => (hs _ (List.mem_of_getElem? (i := 143) rfl))
  | 7, _ => (hs _ (List.mem_of_getElem? (i := 158) rfl))
  | 8, _ => (hs _ (List.mem_of_getElem? (i := 174) rfl))
  | n + 9, h => absurd h (by omega)
set_option maxRecDepth 100000 in
theorem z_sle {s : State} {args : Array Value} (hs : ∀ w ∈ flatC (Jvm.Cond.and given_1 narrow_1), w.before args s = true) : ∀ i, i < 9 → (Cond.eq (.length (.field (z_tm i) "java/lang/String" "value" "[B")) (.int (Int32.ofNat (x_len.getD i 0)))).before args s = true
  | 0, _ => (hs _ (List.mem_of_getElem? (i := 77) rfl))
  | 1, _ => (hs _ (List.mem_of_getElem? (i := 85) rfl))
  | 2, _ => (hs _ (List.mem_of_getElem? (i := 95) rfl))
  | 3, _ => (hs _ (List.mem_of_getElem? (i := 105) rfl))
  | 4, _ => (hs _ (List.mem_of_getElem? (i := 117) rfl))
  | 5, _ => (hs _ (List.mem_of_getElem? (i := 130) rfl))
  | 6, _ => (hs _ (List.mem_of_getElem? (i := 144) rfl))
  | 7, _ => (hs _ (List.mem_of_getElem? (i := 159) rfl))
  | 8, _ => (hs _ (List.mem_of_getElem? (i := 175) rfl))
  | n + 9, h => absurd h (by omega)
set_option maxRecDepth 100000 in
theorem z_sel0 {s : State} {args : Array Value} (hs : ∀ w ∈ flatC (Jvm.Cond.and given_1 narrow_1), w.before args s = true) : ∀ j, j < 4 → (Cond.eq (.elem (.field (z_tm 0) "java/lang/String" "value" "[B") (.int (Int32.ofNat j))) (.int ((x_byt.getD 0 []).getD j 0))).before args s = true
  | 0, _ => (hs _ (List.mem_of_getElem? (i := 78) rfl))
  | 1, _ => (hs _ (List.mem_of_getElem? (i := 79) rfl))
  | 2, _ => (hs _ (List.mem_of_getElem? (i := 80) rfl))
  | 3, _ => (hs _ (List.mem_of_getElem? (i := 81) rfl))
  | n + 4, h => absurd h (by omega)
set_option maxRecDepth 100000 in
theorem z_sel1 {s : State} {args : Array Value} (hs : ∀ w ∈ flatC (Jvm.Cond.and given_1 narrow_1), w.before args s = true) : ∀ j, j < 5 → (Cond.eq (.elem (.field (z_tm 1) "java/lang/String" "value" "[B") (.int (Int32.ofNat j))) (.int ((x_byt.getD 1 []).getD j 0))).before args s = true
  | 0, _ => (hs _ (List.mem_of_getElem? (i := 86) rfl))
  | 1, _ => (hs _ (List.mem_of_getElem? (i := 87) rfl))
  | 2, _ => (hs _ (List.mem_of_getElem? (i := 88) rfl))
  | 3, _ => (hs _ (List.mem_of_getElem? (i := 89) rfl))
  | 4, _ => (hs _ (List.mem_of_getElem? (i := 90) rfl))
  | n + 5, h => absurd h (by omega)
set_option maxRecDepth 100000 in
theorem z_sel2 {s : State} {args : Array Value} (hs : ∀ w ∈ flatC (Jvm.Cond.and given_1 narrow_1), w.before args s = true) : ∀ j, j < 4 → (Cond.eq (.elem (.field (z_tm 2) "java/lang/String" "value" "[B") (.int (Int32.ofNat j))) (.int ((x_byt.getD 2 []).getD j 0))).before args s = true
  | 0, _ => (hs _ (List.mem_of_getElem? (i := 96) rfl))
  | 1, _ => (hs _ (List.mem_of_getElem? (i := 97) rfl))
  | 2, _ => (hs _ (List.mem_of_getElem? (i := 98) rfl))
  | 3, _ => (hs _ (List.mem_of_getElem? (i := 99) rfl))
  | n + 4, h => absurd h (by omega)
set_option maxRecDepth 100000 in
theorem z_sel3 {s : State} {args : Array Value} (hs : ∀ w ∈ flatC (Jvm.Cond.and given_1 narrow_1), w.before args s = true) : ∀ j, j < 5 → (Cond.eq (.elem (.field (z_tm 3) "java/lang/String" "value" "[B") (.int (Int32.ofNat j))) (.int ((x_byt.getD 3 []).getD j 0))).before args s = true
  | 0, _ => (hs _ (List.mem_of_getElem? (i := 106) rfl))
  | 1, _ => (hs _ (List.mem_of_getElem? (i := 107) rfl))
  | 2, _ => (hs _ (List.mem_of_getElem? (i := 108) rfl))
  | 3, _ => (hs _ (List.mem_of_getElem? (i := 109) rfl))
  | 4, _ => (hs _ (List.mem_of_getElem? (i := 110) rfl))
  | n + 5, h => absurd h (by omega)
set_option maxRecDepth 100000 in
theorem z_sel4 {s : State} {args : Array Value} (hs : ∀ w ∈ flatC (Jvm.Cond.and given_1 narrow_1), w.before args s = true) : ∀ j, j < 5 → (Cond.eq (.elem (.field (z_tm 4) "java/lang/String" "value" "[B") (.int (Int32.ofNat j))) (.int ((x_byt.getD 4 []).getD j 0))).before args s = true
  | 0, _ => (hs _ (List.mem_of_getElem? (i := 118) rfl))
  | 1, _ => (hs _ (List.mem_of_getElem? (i := 119) rfl))
  | 2, _ => (hs _ (List.mem_of_getElem? (i := 120) rfl))
  | 3, _ => (hs _ (List.mem_of_getElem? (i := 121) rfl))
  | 4, _ => (hs _ (List.mem_of_getElem? (i := 122) rfl))
  | n + 5, h => absurd h (by omega)
set_option maxRecDepth 100000 in
theorem z_sel5 {s : State} {args : Array Value} (hs : ∀ w ∈ flatC (Jvm.Cond.and given_1 narrow_1), w.before args s = true) : ∀ j, j < 5 → (Cond.eq (.elem (.field (z_tm 5) "java/lang/String" "value" "[B") (.int (Int32.ofNat j))) (.int ((x_byt.getD 5 []).getD j 0))).before args s = true
  | 0, _ => (hs _ (List.mem_of_getElem? (i := 131) rfl))
  | 1, _ => (hs _ (List.mem_of_getElem? (i := 132) rfl))
  | 2, _ => (hs _ (List.mem_of_getElem? (i := 133) rfl))
  | 3, _ => (hs _ (List.mem_of_getElem? (i := 134) rfl))
  | 4, _ => (hs _ (List.mem_of_getElem? (i := 135) rfl))
  | n + 5, h => absurd h (by omega)
set_option maxRecDepth 100000 in
theorem z_sel6 {s : State} {args : Array Value} (hs : ∀ w ∈ flatC (Jvm.Cond.and given_1 narrow_1), w.before args s = true) : ∀ j, j < 5 → (Cond.eq (.elem (.field (z_tm 6) "java/lang/String" "value" "[B") (.int (Int32.ofNat j))) (.int ((x_byt.getD 6 []).getD j 0))).before args s = true
  | 0, _ => (hs _ (List.mem_of_getElem? (i := 145) rfl))
  | 1, _ => (hs _ (List.mem_of_getElem? (i := 146) rfl))
  | 2, _ => (hs _ (List.mem_of_getElem? (i := 147) rfl))
  | 3, _ => (hs _ (List.mem_of_getElem? (i := 148) rfl))
  | 4, _ => (hs _ (List.mem_of_getElem? (i := 149) rfl))
  | n + 5, h => absurd h (by omega)
set_option maxRecDepth 100000 in
theorem z_sel7 {s : State} {args : Array Value} (hs : ∀ w ∈ flatC (Jvm.Cond.and given_1 narrow_1), w.before args s = true) : ∀ j, j < 5 → (Cond.eq (.elem (.field (z_tm 7) "java/lang/String" "value" "[B") (.int (Int32.ofNat j))) (.int ((x_byt.getD 7 []).getD j 0))).before args s = true
  | 0, _ => (hs _ (List.mem_of_getElem? (i := 160) rfl))
  | 1, _ => (hs _ (List.mem_of_getElem? (i := 161) rfl))
  | 2, _ => (hs _ (List.mem_of_getElem? (i := 162) rfl))
  | 3, _ => (hs _ (List.mem_of_getElem? (i := 163) rfl))
  | 4, _ => (hs _ (List.mem_of_getElem? (i := 164) rfl))
  | n + 5, h => absurd h (by omega)
set_option maxRecDepth 100000 in
theorem z_sel8 {s : State} {args : Array Value} (hs : ∀ w ∈ flatC (Jvm.Cond.and given_1 narrow_1), w.before args s = true) : ∀ j, j < 3 → (Cond.eq (.elem (.field (z_tm 8) "java/lang/String" "value" "[B") (.int (Int32.ofNat j))) (.int ((x_byt.getD 8 []).getD j 0))).before args s = true
  | 0, _ => (hs _ (List.mem_of_getElem? (i := 176) rfl))
  | 1, _ => (hs _ (List.mem_of_getElem? (i := 177) rfl))
  | 2, _ => (hs _ (List.mem_of_getElem? (i := 178) rfl))
  | n + 3, h => absurd h (by omega)
set_option maxRecDepth 100000 in
theorem z_sel {s : State} {args : Array Value} (hs : ∀ w ∈ flatC (Jvm.Cond.and given_1 narrow_1), w.before args s = true) : ∀ i, i < 9 → ∀ j, j < x_len.getD i 0 → (Cond.eq (.elem (.field (z_tm i) "java/lang/String" "value" "[B") (.int (Int32.ofNat j))) (.int ((x_byt.getD i []).getD j 0))).before args s = true
  | 0, _ => z_sel0 hs
  | 1, _ => z_sel1 hs
  | 2, _ => z_sel2 hs
  | 3, _ => z_sel3 hs
  | 4, _ => z_sel4 hs
  | 5, _ => z_sel5 hs
  | 6, _ => z_sel6 hs
  | 7, _ => z_sel7 hs
  | 8, _ => z_sel8 hs
  | n + 9, h => absurd h (by omega)
set_option maxRecDepth 100000 in
theorem z_sne0 {s : State} {args : Array Value} (hs : ∀ w ∈ flatC (Jvm.Cond.and given_1 narrow_1), w.before args s = true) : ∀ j, j < 9 → 0 ≠ j → (Cond.not (Cond.eq (z_tm 0) (z_tm j))).before args s = true ∨ (Cond.not (Cond.eq (z_tm j) (z_tm 0))).before args s = true
  | 0, _, h => absurd rfl h
  | 1, _, _ => Or.inl (hs _ (List.mem_of_getElem? (i := 91) rfl))
  | 2, _, _ => Or.inl (hs _ (List.mem_of_getElem? (i := 100) rfl))
  | 3, _, _ => Or.inl (hs _ (List.mem_of_getElem? (i := 111) rfl))
  | 4, _, _ => Or.inl (hs _ (List.mem_of_getElem? (i := 123) rfl))
  | 5, _, _ => Or.inl (hs _ (List.mem_of_getElem? (i := 136) rfl))
  | 6, _, _ => Or.inl (hs _ (List.mem_of_getElem? (i := 150) rfl))
  | 7, _, _ => Or.inl (hs _ (List.mem_of_getElem? (i := 165) rfl))
  | 8, _, _ => Or.inl (hs _ (List.mem_of_getElem? (i := 179) rfl))
  | n + 9, h, _ => absurd h (by omega)
set_option maxRecDepth 100000 in
theorem z_sne1 {s : State} {args : Array Value} (hs : ∀ w ∈ flatC (Jvm.Cond.and given_1 narrow_1), w.before args s = true) : ∀ j, j < 9 → 1 ≠ j → (Cond.not (Cond.eq (z_tm 1) (z_tm j))).before args s = true ∨ (Cond.not (Cond.eq (z_tm j) (z_tm 1))).before args s = true
  | 0, _, _ => Or.inr (hs _ (List.mem_of_getElem? (i := 91) rfl))
  | 1, _, h => absurd rfl h
  | 2, _, _ => Or.inl (hs _ (List.mem_of_getElem? (i := 101) rfl))
  | 3, _, _ => Or.inl (hs _ (List.mem_of_getElem? (i := 112) rfl))
  | 4, _, _ => Or.inl (hs _ (List.mem_of_getElem? (i := 124) rfl))
  | 5, _, _ => Or.inl (hs _ (List.mem_of_getElem? (i := 137) rfl))
  | 6, _, _ => Or.inl (hs _ (List.mem_of_getElem? (i := 151) rfl))
  | 7, _, _ => Or.inl (hs _ (List.mem_of_getElem? (i := 166) rfl))
  | 8, _, _ => Or.inl (hs _ (List.mem_of_getElem? (i := 180) rfl))
  | n + 9, h, _ => absurd h (by omega)
set_option maxRecDepth 100000 in
theorem z_sne2 {s : State} {args : Array Value} (hs : ∀ w ∈ flatC (Jvm.Cond.and given_1 narrow_1), w.before args s = true) : ∀ j, j < 9 → 2 ≠ j → (Cond.not (Cond.eq (z_tm 2) (z_tm j))).before args s = true ∨ (Cond.not (Cond.eq (z_tm j) (z_tm 2))).before args s = true
  | 0, _, _ => Or.inr (hs _ (List.mem_of_getElem? (i := 100) rfl))
  | 1, _, _ => Or.inr (hs _ (List.mem_of_getElem? (i := 101) rfl))
  | 2, _, h => absurd rfl h
  | 3, _, _ => Or.inl (hs _ (List.mem_of_getElem? (i := 113) rfl))
  | 4, _, _ => Or.inl (hs _ (List.mem_of_getElem? (i := 125) rfl))
  | 5, _, _ => Or.inl (hs _ (List.mem_of_getElem? (i := 138) rfl))
  | 6, _, _ => Or.inl (hs _ (List.mem_of_getElem? (i := 152) rfl))
  | 7, _, _ => Or.inl (hs _ (List.mem_of_getElem? (i := 167) rfl))
  | 8, _, _ => Or.inl (hs _ (List.mem_of_getElem? (i := 181) rfl))
  | n + 9, h, _ => absurd h (by omega)
set_option maxRecDepth 100000 in
theorem z_sne3 {s : State} {args : Array Value} (hs : ∀ w ∈ flatC (Jvm.Cond.and given_1 narrow_1), w.before args s = true) : ∀ j, j < 9 → 3 ≠ j → (Cond.not (Cond.eq (z_tm 3) (z_tm j))).before args s = true ∨ (Cond.not (Cond.eq (z_tm j) (z_tm 3))).before args s = true
  | 0, _, _ => Or.inr (hs _ (List.mem_of_getElem? (i := 111) rfl))
  | 1, _, _ => Or.inr (hs _ (List.mem_of_getElem? (i := 112) rfl))
  | 2, _, _ => Or.inr (hs _ (List.mem_of_getElem? (i := 113) rfl))
  | 3, _, h => absurd rfl h
  | 4, _, _ => Or.inl (hs _ (List.mem_of_getElem? (i := 126) rfl))
  | 5, _, _ => Or.inl (hs _ (List.mem_of_getElem? (i := 139) rfl))
  | 6, _, _ => Or.inl (hs _ (List.mem_of_getElem? (i := 153) rfl))
  | 7, _, _ => Or.inl (hs _ (List.mem_of_getElem? (i := 168) rfl))
  | 8, _, _ => Or.inl (hs _ (List.mem_of_getElem? (i := 182) rfl))
  | n + 9, h, _ => absurd h (by omega)
set_option maxRecDepth 100000 in
theorem z_sne4 {s : State} {args : Array Value} (hs : ∀ w ∈ flatC (Jvm.Cond.and given_1 narrow_1), w.before args s = true) : ∀ j, j < 9 → 4 ≠ j → (Cond.not (Cond.eq (z_tm 4) (z_tm j))).before args s = true ∨ (Cond.not (Cond.eq (z_tm j) (z_tm 4))).before args s = true
  | 0, _, _ => Or.inr (hs _ (List.mem_of_getElem? (i := 123) rfl))
  | 1, _, _ => Or.inr (hs _ (List.mem_of_getElem? (i := 124) rfl))
  | 2, _, _ => Or.inr (hs _ (List.mem_of_getElem? (i := 125) rfl))
  | 3, _, _ => Or.inr (hs _ (List.mem_of_getElem? (i := 126) rfl))
  | 4, _, h => absurd rfl h
  | 5, _, _ => Or.inl (hs _ (List.mem_of_getElem? (i := 140) rfl))
  | 6, _, _ => Or.inl (hs _ (List.mem_of_getElem? (i := 154) rfl))
  | 7, _, _ => Or.inl (hs _ (List.mem_of_getElem? (i := 169) rfl))
  | 8, _, _ => Or.inl (hs _ (List.mem_of_getElem? (i := 183) rfl))
  | n + 9, h, _ => absurd h (by omega)
set_option maxRecDepth 100000 in
theorem z_sne5 {s : State} {args : Array Value} (hs : ∀ w ∈ flatC (Jvm.Cond.and given_1 narrow_1), w.before args s = true) : ∀ j, j < 9 → 5 ≠ j → (Cond.not (Cond.eq (z_tm 5) (z_tm j))).before args s = true ∨ (Cond.not (Cond.eq (z_tm j) (z_tm 5))).before args s = true
  | 0, _, _ => Or.inr (hs _ (List.mem_of_getElem? (i := 136) rfl))
  | 1, _, _ => Or.inr (hs _ (List.mem_of_getElem? (i := 137) rfl))
  | 2, _, _ => Or.inr (hs _ (List.mem_of_getElem? (i := 138) rfl))
  | 3, _, _ => Or.inr (hs _ (List.mem_of_getElem? (i := 139) rfl))
  | 4, _, _ => Or.inr (hs _ (List.mem_of_getElem? (i := 140) rfl))
  | 5, _, h => absurd rfl h
  | 6, _, _ => Or.inl (hs _ (List.mem_of_getElem? (i := 155) rfl))
  | 7, _, _ => Or.inl (hs _ (List.mem_of_getElem? (i := 170) rfl))
  | 8, _, _ => Or.inl (hs _ (List.mem_of_getElem? (i := 184) rfl))
  | n + 9, h, _ => absurd h (by omega)
set_option maxRecDepth 100000 in
theorem z_sne6 {s : State} {args : Array Value} (hs : ∀ w ∈ flatC (Jvm.Cond.and given_1 narrow_1), w.before args s = true) : ∀ j, j < 9 → 6 ≠ j → (Cond.not (Cond.eq (z_tm 6) (z_tm j))).before args s = true ∨ (Cond.not (Cond.eq (z_tm j) (z_tm 6))).before args s = true
  | 0, _, _ => Or.inr (hs _ (List.mem_of_getElem? (i := 150) rfl))
  | 1, _, _ => Or.inr (hs _ (List.mem_of_getElem? (i := 151) rfl))
  | 2, _, _ => Or.inr (hs _ (List.mem_of_getElem? (i := 152) rfl))
  | 3, _, _ => Or.inr (hs _ (List.mem_of_getElem? (i := 153) rfl))
  | 4, _, _ => Or.inr (hs _ (List.mem_of_getElem? (i := 154) rfl))
  | 5, _, _ => Or.inr (hs _ (List.mem_of_getElem? (i := 155) rfl))
  | 6, _, h => absurd rfl h
  | 7, _, _ => Or.inl (hs _ (List.mem_of_getElem? (i := 171) rfl))
  | 8, _, _ => Or.inl (hs _ (List.mem_of_getElem? (i := 185) rfl))
  | n + 9, h, _ => absurd h (by omega)
set_option maxRecDepth 100000 in
theorem z_sne7 {s : State} {args : Array Value} (hs : ∀ w ∈ flatC (Jvm.Cond.and given_1 narrow_1), w.before args s = true) : ∀ j, j < 9 → 7 ≠ j → (Cond.not (Cond.eq (z_tm 7) (z_tm j))).before args s = true ∨ (Cond.not (Cond.eq (z_tm j) (z_tm 7))).before args s = true
  | 0, _, _ => Or.inr (hs _ (List.mem_of_getElem? (i := 165) rfl))
  | 1, _, _ => Or.inr (hs _ (List.mem_of_getElem? (i := 166) rfl))
  | 2, _, _ => Or.inr (hs _ (List.mem_of_getElem? (i := 167) rfl))
  | 3, _, _ => Or.inr (hs _ (List.mem_of_getElem? (i := 168) rfl))
  | 4, _, _ => Or.inr (hs _ (List.mem_of_getElem? (i := 169) rfl))
  | 5, _, _ => Or.inr (hs _ (List.mem_of_getElem? (i := 170) rfl))
  | 6, _, _ => Or.inr (hs _ (List.mem_of_getElem? (i := 171) rfl))
  | 7, _, h => absurd rfl h
  | 8, _, _ => Or.inl (hs _ (List.mem_of_getElem? (i := 186) rfl))
  | n + 9, h, _ => absurd h (by omega)
set_option maxRecDepth 100000 in
theorem z_sne8 {s : State} {args : Array Value} (hs : ∀ w ∈ flatC (Jvm.Cond.and given_1 narrow_1), w.before args s = true) : ∀ j, j < 9 → 8 ≠ j → (Cond.not (Cond.eq (z_tm 8) (z_tm j))).before args s = true ∨ (Cond.not (Cond.eq (z_tm j) (z_tm 8))).before args s = true
  | 0, _, _ => Or.inr (hs _ (List.mem_of_getElem? (i := 179) rfl))
  | 1, _, _ => Or.inr (hs _ (List.mem_of_getElem? (i := 180) rfl))
  | 2, _, _ => Or.inr (hs _ (List.mem_of_getElem? (i := 181) rfl))
  | 3, _, _ => Or.inr (hs _ (List.mem_of_getElem? (i := 182) rfl))
  | 4, _, _ => Or.inr (hs _ (List.mem_of_getElem? (i := 183) rfl))
  | 5, _, _ => Or.inr (hs _ (List.mem_of_getElem? (i := 184) rfl))
  | 6, _, _ => Or.inr (hs _ (List.mem_of_getElem? (i := 185) rfl))
  | 7, _, _ => Or.inr (hs _ (List.mem_of_getElem? (i := 186) rfl))
  | 8, _, h => absurd rfl h
  | n + 9, h, _ => absurd h (by omega)
set_option maxRecDepth 100000 in
theorem z_sne {s : State} {args : Array Value} (hs : ∀ w ∈ flatC (Jvm.Cond.and given_1 narrow_1), w.before args s = true) : ∀ i j, i < 9 → j < 9 → i ≠ j → (Cond.not (Cond.eq (z_tm i) (z_tm j))).before args s = true ∨ (Cond.not (Cond.eq (z_tm j) (z_tm i))).before args s = true
  | 0, j, _, hj, h => z_sne0 hs j hj h
  | 1, j, _, hj, h => z_sne1 hs j hj h
  | 2, j, _, hj, h => z_sne2 hs j hj h
  | 3, j, _, hj, h => z_sne3 hs j hj h
  | 4, j, _, hj, h => z_sne4 hs j hj h
  | 5, j, _, hj, h => z_sne5 hs j hj h
  | 6, j, _, hj, h => z_sne6 hs j hj h
  | 7, j, _, hj, h => z_sne7 hs j hj h
  | 8, j, _, hj, h => z_sne8 hs j hj h
  | n + 9, _, h, _, _ => absurd h (by omega)
set_option maxRecDepth 100000 in
set_option maxHeartbeats 4000000 in
theorem z_NWST {s : State} {args : Array Value} (b : Nat) (ht : ∀ w ∈ lw_tbl, w.before args s = true) (hv : (Jvm.Cond.and given_1 narrow_1).before args s = true) : ∃ ad : Nat → Nat, ad 990 = b ∧ x_NW ad s ∧ x_ST ad (fun q => s.heap.size ≤ q) s s.heap := by
  have hs := flat_of_before _ hv
  have hA : ∀ a : Nat, a < s.heap.size → ¬ s.heap.size ≤ a := fun a h => Nat.not_le.mpr h
  obtain ⟨adK, adV, hS, hE⟩ := vk_Sof (N := 9) (tm := z_tm) (len := x_len) (byt := x_byt) (A := fun q => s.heap.size ≤ q) (by decide) (fun i hi => z_strs hs i (by omega)) (z_sco hs) (z_sar hs) (z_sle hs) (z_sel hs) (z_sne hs) hA
  have h18 : ∀ i : Nat, ∃ a : Nat, i < 18 → (z_tm i).eval args s none [] s = some (.ref a) := fun i => by
    by_cases hi : i < 18
    · obtain ⟨a, c, cA, kA, q1, -⟩ := Cond.exactly_spec (args := args) (first := s) (o := none) (s := s) (idx := []) (t := z_tm i) (cls := "java/lang/String") (z_strs hs i hi)
      exact ⟨a, fun _ => q1⟩
    · exact ⟨0, fun h => absurd h hi⟩
  obtain ⟨adA, hAe⟩ := Classical.axiomOfChoice h18
  have hKA : ∀ i, i < 9 → adA i = adK i := fun i hi => by
    have e1 := hAe i (by omega)
    rw [hE i hi] at e1
    exact (Value.ref.inj (Option.some.inj e1)).symm
  refine ⟨fun k => if k = 990 then b else if k < 2000 then adA (k - 1000) else adV (k - 2000), rfl, ?_, ?_⟩
  · have he : ∀ i, i < 18 → (z_tm i).eval args s none [] s = some (.ref ((fun k => if k = 990 then b else if k < 2000 then adA (k - 1000) else adV (k - 2000)) (1000 + i))) := fun i hi => by
      show (z_tm i).eval args s none [] s = some (.ref (if 1000 + i = 990 then b else if 1000 + i < 2000 then adA (1000 + i - 1000) else adV (1000 + i - 2000)))
      rw [if_neg (by omega), if_pos (by omega), show 1000 + i - 1000 = i by omega]
      exact hAe i hi
    exact ⟨(List.forall_mem_cons.mpr ⟨va_Nw.of rfl (ht _ (z_t3 (List.mem_of_getElem? (i := 59) rfl))), (List.forall_mem_cons.mpr ⟨va_Nw.of rfl (ht _ (z_t3 (List.mem_of_getElem? (i := 73) rfl))), (List.forall_mem_cons.mpr ⟨va_Nw.of rfl (ht _ (z_t4 (List.mem_of_getElem? (i := 4) rfl))), (List.forall_mem_cons.mpr ⟨va_Nw.of rfl (ht _ (z_t4 (List.mem_of_getElem? (i := 10) rfl))), (List.forall_mem_cons.mpr ⟨va_Nw.of rfl (ht _ (z_t5 (List.mem_of_getElem? (i := 67) rfl))), (fun _ h => absurd h List.not_mem_nil)⟩)⟩)⟩)⟩)⟩), (List.forall_mem_cons.mpr ⟨va_Nw.of rfl (ht _ (z_t5 (List.mem_of_getElem? (i := 31) rfl))), (List.forall_mem_cons.mpr ⟨va_Nw.of rfl (ht _ (z_t5 (List.mem_of_getElem? (i := 187) rfl))), (List.forall_mem_cons.mpr ⟨va_Nw.of rfl (ht _ (z_t6 (List.mem_of_getElem? (i := 34) rfl))), (List.forall_mem_cons.mpr ⟨va_Nw.of rfl (ht _ (z_t6 (List.mem_of_getElem? (i := 139) rfl))), (fun _ h => absurd h List.not_mem_nil)⟩)⟩)⟩)⟩), (List.forall_mem_cons.mpr ⟨va_Nc.of (hs _ (List.mem_of_getElem? (i := 23) rfl)), (List.forall_mem_cons.mpr ⟨va_Nc.of (hs _ (List.mem_of_getElem? (i := 24) rfl)), (fun _ h => absurd h List.not_mem_nil)⟩)⟩), (List.forall_mem_cons.mpr ⟨va_Nw.of rfl (ht _ (z_t4 (List.mem_of_getElem? (i := 237) rfl))), (List.forall_mem_cons.mpr ⟨va_Nw.of rfl (ht _ (z_t4 (List.mem_of_getElem? (i := 239) rfl))), (List.forall_mem_cons.mpr ⟨va_Nw.of rfl (ht _ (z_t5 (List.mem_of_getElem? (i := 1) rfl))), (fun _ h => absurd h List.not_mem_nil)⟩)⟩)⟩), (List.forall_mem_cons.mpr ⟨vk_R.of (ht _ (z_t2 (List.mem_of_getElem? (i := 219) rfl))) (he 0 (by decide)), (List.forall_mem_cons.mpr ⟨vk_R.of (ht _ (z_t3 (List.mem_of_getElem? (i := 50) rfl))) (he 1 (by decide)), (List.forall_mem_cons.mpr ⟨vk_R.of (ht _ (z_t4 (List.mem_of_getElem? (i := 61) rfl))) (he 2 (by decide)), (List.forall_mem_cons.mpr ⟨vk_R.of (ht _ (z_t4 (List.mem_of_getElem? (i := 63) rfl))) (he 3 (by decide)), (List.forall_mem_cons.mpr ⟨vk_R.of (ht _ (z_t4 (List.mem_of_getElem? (i := 64) rfl))) (he 4 (by decide)), (List.forall_mem_cons.mpr ⟨vk_R.of (ht _ (z_t4 (List.mem_of_getElem? (i := 65) rfl))) (he 5 (by decide)), (List.forall_mem_cons.mpr ⟨vk_R.of (ht _ (z_t4 (List.mem_of_getElem? (i := 66) rfl))) (he 6 (by decide)), (List.forall_mem_cons.mpr ⟨vk_R.of (ht _ (z_t4 (List.mem_of_getElem? (i := 67) rfl))) (he 7 (by decide)), (List.forall_mem_cons.mpr ⟨vk_R.of (ht _ (z_t4 (List.mem_of_getElem? (i := 68) rfl))) (he 8 (by decide)), (List.forall_mem_cons.mpr ⟨vk_R.of (ht _ (z_t5 (List.mem_of_getElem? (i := 38) rfl))) (he 9 (by decide)), (List.forall_mem_cons.mpr ⟨vk_R.of (ht _ (z_t5 (List.mem_of_getElem? (i := 61) rfl))) (he 10 (by decide)), (List.forall_mem_cons.mpr ⟨vk_R.of (ht _ (z_t5 (List.mem_of_getElem? (i := 92) rfl))) (he 11 (by decide)), (List.forall_mem_cons.mpr ⟨vk_R.of (ht _ (z_t5 (List.mem_of_getElem? (i := 127) rfl))) (he 12 (by decide)), (List.forall_mem_cons.mpr ⟨vk_R.of (ht _ (z_t5 (List.mem_of_getElem? (i := 150) rfl))) (he 13 (by decide)), (List.forall_mem_cons.mpr ⟨vk_R.of (ht _ (z_t5 (List.mem_of_getElem? (i := 194) rfl))) (he 14 (by decide)), (List.forall_mem_cons.mpr ⟨vk_R.of (ht _ (z_t6 (List.mem_of_getElem? (i := 41) rfl))) (he 15 (by decide)), (List.forall_mem_cons.mpr ⟨vk_R.of (ht _ (z_t6 (List.mem_of_getElem? (i := 86) rfl))) (he 16 (by decide)), (List.forall_mem_cons.mpr ⟨vk_R.of (ht _ (z_t6 (List.mem_of_getElem? (i := 151) rfl))) (he 17 (by decide)), (fun _ h => absurd h List.not_mem_nil)⟩)⟩)⟩)⟩)⟩)⟩)⟩)⟩)⟩)⟩)⟩)⟩)⟩)⟩)⟩)⟩)⟩)⟩)⟩
  · refine ⟨?_, vx_Zqof (ht _ (z_t4 (List.mem_of_getElem? (i := 198) rfl))) (ht _ (z_t1 (List.mem_of_getElem? (i := 20) rfl))) (hs _ (List.mem_of_getElem? (i := 9) rfl)) hA, vx_Zqof (ht _ (z_t4 (List.mem_of_getElem? (i := 200) rfl))) (ht _ (z_t1 (List.mem_of_getElem? (i := 20) rfl))) (hs _ (List.mem_of_getElem? (i := 10) rfl)) hA, va_Zof (ht _ (z_t2 (List.mem_of_getElem? (i := 233) rfl))) (ht _ (z_t1 (List.mem_of_getElem? (i := 13) rfl))) (va_eqi (hs _ (List.mem_of_getElem? (i := 4) rfl))) hA, va_Zqof (ht _ (z_t3 (List.mem_of_getElem? (i := 9) rfl))) (ht _ (z_t1 (List.mem_of_getElem? (i := 15) rfl))) (hs _ (List.mem_of_getElem? (i := 5) rfl)) hA⟩
    have e1 : ∀ i, i < 9 → (fun i => (fun k => if k = 990 then b else if k < 2000 then adA (k - 1000) else adV (k - 2000)) (1000 + i)) i = adK i := fun i hi => by
      show (if 1000 + i = 990 then b else if 1000 + i < 2000 then adA (1000 + i - 1000) else adV (1000 + i - 2000)) = adK i
      rw [if_neg (by omega), if_pos (by omega), show 1000 + i - 1000 = i by omega]
      exact hKA i hi
    have e2 : ∀ i, (fun i => (fun k => if k = 990 then b else if k < 2000 then adA (k - 1000) else adV (k - 2000)) (2000 + i)) i = adV i := fun i => by
      show (if 2000 + i = 990 then b else if 2000 + i < 2000 then adA (2000 + i - 1000) else adV (2000 + i - 2000)) = adV i
      rw [if_neg (by omega), if_neg (by omega), show 2000 + i - 2000 = i by omega]
    refine ⟨fun i hi => ?_, fun i j hi hj h => hS.2 i j hi hj ?_⟩
    · rw [e1 i hi, e2 i]
      exact hS.1 i hi
    · rw [← e1 i hi, ← e1 j hj]
      exact h
