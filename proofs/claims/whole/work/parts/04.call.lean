/-! calls of methods over the same world -/
theorem x_blind {D : va_G} {ad : Nat → Nat} {ca : Nat → ClassId} {ds : List x_D} {As : List Value} {σ : x_S} {τ : x_L} {sz : Nat} : FrameBlind (x_Pc D ad ca ds As σ τ sz) := by
  intro a U g mk q
  obtain ⟨q0, q1, qP, qK, qD, qN, qS⟩ := q
  exact ⟨q0, q1, qP, va_K.moved (u := U) (U := U.calling g mk a) (Vm.Alike.refl U.vm) qK, qD, qN.same rfl, qS.moved (u := U) (U := U.calling g mk a) (Vm.Alike.refl U.vm)⟩
theorem x_STcall {ad : Nat → Nat} {ca : Nat → ClassId} {ds : List x_D} {σ : x_S} {τ : x_L} {A : Nat → Prop} {s U : State} {H : Heap} {locs : List Loc} (h : x_ST ad A s s.heap) (hD : va_D A (x_ws ad ca σ τ 0 ds)) (hS : va_S A s.heap H locs) (hA : ∀ q, s.heap.size ≤ q → A q) (hW : s.WarmedH U.vm) : x_ST ad (x_A ad ds H.size) U H := by
  refine ((h.kept hS.2.1).narrow ?_).moved hW.alike
  rintro q (⟨k, hk, rfl⟩ | h)
  · exact hD.2 k _ (x_at (List.getElem?_eq_getElem hk))
  · exact hA q (Nat.le_trans hS.1 h)
section XC
variable {p : Program} {l : Launch} {e : Env} {R : Room} {s : State} {m : MethodId} {args : Array Value} {below : List Frame} {meth : Method} {c : Code} {H : Heap} {locs : List Loc} {cells slots : Nat} {Q : State → Prop} {D : va_G} {ad : Nat → Nat} {ca : Nat → ClassId} {ds : List x_D} {A : Nat → Prop} {P : x_P} {pc : Nat} {ls : Array Slot} {st0 rest : List Value} {a : Array Value} {σ : x_S} {τ : x_L}
theorem x_cont (hr : va_Run p l e R s m args below meth c H locs cells slots 0 0 (F0 m pc ls st0) rest (x_Qm D ad ca ds P H.size a) (x_A ad ds H.size)) (hP : va_P D vwCl (x_ws ad ca σ τ 0 ds) H) (hD : va_D A (x_ws ad ca σ τ 0 ds)) (hS : va_S A s.heap H locs) (hA : ∀ q, s.heap.size ≤ q → A q)
    (kk : ∀ (v : Option Value) (σ' : x_S) (τ' : x_L), P v σ' τ' → ∀ (H1 : Heap) (locs1 : List Loc), va_P D vwCl (x_ws ad ca σ' τ' 0 ds) H1 → va_D A (x_ws ad ca σ' τ' 0 ds) → va_S A s.heap H1 locs1 → W p l e R s m args below meth c H1 locs1 cells slots Q (F0 m (pc + 3) ls (v.toList ++ rest))) : W p l e R s m args below meth c H locs cells slots Q (F0 m pc ls st0) := by
  have hAd : ∀ q, x_A ad ds H.size q → A q := by
    rintro q (⟨k, hk, rfl⟩ | h)
    · obtain ⟨d, hd⟩ : ∃ d, ds[k]? = some d := ⟨ds[k], List.getElem?_eq_getElem hk⟩
      exact hD.2 k _ (x_at hd)
    · exact hA q (Nat.le_trans hS.1 h)
  intro T hT X
  obtain ⟨v, st₀, t, T', L, h0, X', hL, e1, e2, ⟨⟨v', σ', τ', hv, hp, hb⟩, hz, hk⟩, st⟩ := hr T hT X
  cases hv
  rw [h0] at hz hk
  obtain ⟨t2, a1, b1⟩ := kk v σ' τ' hp T'.heap (locs ++ L) (by rw [e1]; exact hb) (x_Dm hD (fun _ _ h => h))
    ⟨Nat.le_trans hS.1 (by rw [e1]; exact hz), fun q h1 h2 => by rw [e1, hk q (Nat.lt_of_lt_of_le h1 hS.1) (fun z => h2 (hAd q z))]; exact hS.2.1 q h1 h2, fun q hq => by
      rcases List.mem_append.mp hq with h | h
      · exact hS.2.2 q h
      · exact hAd _ (hL q h)⟩ T' rfl X'
  exact ⟨t2, st t2 a1, b1⟩
end XC
def x_CM (y : MethodName) (bytes : ByteArray) (maxL : Nat) (ret : Option FieldType) (n : Nat) : Prop := Cond.code y bytes maxL ret ∈ lw_big ∧ Cond.initialized y.cls ∈ lw_big ∧ (y.cls ≠ "java/lang/invoke/MethodHandle" ∧ y.cls ≠ "java/lang/invoke/VarHandle") ∧ (parseMethodDescriptor y.desc).map (fun d => d.parameters.length) = some n
def x_CI (y : MethodName) (ci : Nat) : Prop := Cond.instanceMethod y ∈ lw_big ∧ Cond.selects y.cls y y ∈ lw_big ∧ ∃ q : vw_C, vwCl[ci]? = some q ∧ q.1 = y.cls
section XS
variable {V : x_J} {cc : ByteArray} {nL : Nat} {own : String} {ret : Option FieldType} {ad : Nat → Nat} {ds : List x_D} {dp : Nat} {P : x_P} {σ : x_S} {τ : x_L} {pc : Nat} {lv : List (Nat × Value)} {st : List Value}
theorem x_callV (X : x_Is V cc nL own ret ad ds dp P) {index k ci : Nat} {y : MethodName} {bytes : ByteArray} {maxL : Nat} {ret' : Option FieldType} {dp' : Nat} {As : List Value} {P' : x_P} {fs : List Nat} (rest : List Value)
    (hd : decode cc pc = .ok (.invokevirtual index, 3)) (hM : x_Met y bytes maxL ret' dp' ad ds (.ref (ad k) :: As) σ τ P') (hc : x_CM y bytes maxL ret' As.length) (hi : x_CI y ci) (hl : Cond.methodLink own index y ∈ lw_big) (hds : ds[k]? = some (0, ci, fs))
    (hdp : dp' + 1 ≤ dp ∧ maxL ≤ 31) (hst : st = As.reverse ++ .ref (ad k) :: rest) (hrest : (rest.map fun v => v.category).sum ≤ 8)
    (kk : ∀ (v : Option Value) (σ' : x_S) (τ' : x_L), P' v σ' τ' → V σ' τ' (pc + 3) lv (v.toList ++ rest)) : V σ τ pc lv st := by
  obtain ⟨p, l, e, R, s, m, args, below, meth, c, w0, D, ca, A, cells, slots, Q, rfl, S, ⟨hK, hN, hST⟩, hr, hlk, hf1, hf2, hf3, hf4, hA, hA2, hQ⟩ := X
  obtain ⟨hc1, hc2, hc3, hc4⟩ := hc
  obtain ⟨hi1, hi2, q, hq, hq2⟩ := hi
  intro H locs ls h1 h2 h3 h4
  have hG : GoodIn (w0 :: lw_big) (wsV own index y.cls y (Cond.code y bytes maxL ret' :: lw_big)) := lw_big_good (fun w hw => by
    simp only [wsV, List.cons_append, List.nil_append, List.mem_cons] at hw
    rcases hw with rfl | rfl | rfl | rfl | rfl | hw
    · exact hl
    · exact hi1
    · exact hi2
    · exact hc2
    · exact hc1
    · exact hw)
  refine x_cont (va_runV (C := y.cls) (As := As) (rest := rest) S (hM l D ca H.size) (cwV As.length S.2.2.2.2 hG rfl rfl rfl ⟨rfl, hc3.1, hc3.2, hc4⟩ ⟨by show dp' + 1 ≤ R.frames; omega, by show 8 + (maxL + 11) + 50 * dp' ≤ R.locals; omega⟩)
    ⟨x_blind, by rw [← hq2]; exact va_recv hK h1 hq (x_at hds), fun U hU hW => ⟨rfl, by rw [hU], by rw [hU]; exact h1, va_K.moved hW.alike hK, x_Dm h2 (fun _ _ _ => trivial), hN.warm hW, by rw [hU]; exact x_STcall hST h2 h3 hA hW⟩⟩ rfl rfl h4.1 hst (lv_room hrest) hd ⟨hf3, hf4⟩) h1 h2 h3 hA (fun v σ' τ' hp H1 locs1 g1 g2 g3 => kk v σ' τ' hp H1 locs1 ls g1 g2 g3 h4)
theorem x_callS (X : x_Is V cc nL own ret ad ds dp P) {index : Nat} {y : MethodName} {bytes : ByteArray} {maxL : Nat} {ret' : Option FieldType} {dp' : Nat} {As : List Value} {P' : x_P} (rest : List Value)
    (hd : decode cc pc = .ok (.invokestatic index, 3)) (hM : x_Met y bytes maxL ret' dp' ad ds As σ τ P') (hc : x_CM y bytes maxL ret' As.length) (hi : Cond.static y ∈ lw_big) (ho : y.cls = own) (hl : Cond.methodLink own index y ∈ lw_big)
    (hdp : dp' + 1 ≤ dp ∧ maxL ≤ 31) (hst : st = As.reverse ++ rest) (hrest : (rest.map fun v => v.category).sum ≤ 8)
    (kk : ∀ (v : Option Value) (σ' : x_S) (τ' : x_L), P' v σ' τ' → V σ' τ' (pc + 3) lv (v.toList ++ rest)) : V σ τ pc lv st := by
  obtain ⟨p, l, e, R, s, m, args, below, meth, c, w0, D, ca, A, cells, slots, Q, rfl, S, ⟨hK, hN, hST⟩, hr, hlk, hf1, hf2, hf3, hf4, hA, hA2, hQ⟩ := X
  obtain ⟨hc1, hc2, hc3, hc4⟩ := hc
  intro H locs ls h1 h2 h3 h4
  have hG : GoodIn (w0 :: lw_big) (wsS own index y (Cond.code y bytes maxL ret' :: lw_big)) := lw_big_good (fun w hw => by
    simp only [wsS, List.cons_append, List.nil_append, List.mem_cons] at hw
    rcases hw with rfl | rfl | rfl | rfl | hw
    · exact hl
    · exact hi
    · rw [← ho]; exact hc2
    · exact hc1
    · exact hw)
  refine x_cont (va_runS (As := As) (rest := rest) S (hM l D ca H.size) (cwS As.length S.2.2.2.2 hG rfl rfl rfl ⟨ho, hc3.1, hc3.2, hc4⟩ ⟨by show dp' + 1 ≤ R.frames; omega, by show 8 + (maxL + 11) + 50 * dp' ≤ R.locals; omega⟩)
    ⟨x_blind, fun U hU hW => ⟨rfl, by rw [hU], by rw [hU]; exact h1, va_K.moved hW.alike hK, x_Dm h2 (fun _ _ _ => trivial), hN.warm hW, by rw [hU]; exact x_STcall hST h2 h3 hA hW⟩⟩ rfl rfl h4.1 hst (lv_room hrest) hd ⟨hf3, hf4⟩) h1 h2 h3 hA (fun v σ' τ' hp H1 locs1 g1 g2 g3 => kk v σ' τ' hp H1 locs1 ls g1 g2 g3 h4)
theorem x_callSN (X : x_Is V cc nL own ret ad ds dp P) {index : Nat} {y : MethodName} {host : String} {bytes : ByteArray} {maxL : Nat} {ret' : Option FieldType} {dp' : Nat} {As : List Value} {P' : x_P} (rest : List Value)
    (hd : decode cc pc = .ok (.invokestatic index, 3)) (hM : x_Met y bytes maxL ret' dp' ad ds As σ τ P') (hc : x_CM y bytes maxL ret' As.length) (hi : Cond.static y ∈ lw_big) (hl : (own, index, y, host) ∈ lw_nest)
    (hdp : dp' + 1 ≤ dp ∧ maxL ≤ 31) (hst : st = As.reverse ++ rest) (hrest : (rest.map fun v => v.category).sum ≤ 8)
    (kk : ∀ (v : Option Value) (σ' : x_S) (τ' : x_L), P' v σ' τ' → V σ' τ' (pc + 3) lv (v.toList ++ rest)) : V σ τ pc lv st := by
  obtain ⟨p, l, e, R, s, m, args, below, meth, c, w0, D, ca, A, cells, slots, Q, rfl, S, ⟨hK, hN, hST⟩, hr, hlk, hf1, hf2, hf3, hf4, hA, hA2, hQ⟩ := X
  obtain ⟨hc1, hc2, hc3, hc4⟩ := hc
  have hT := S.2.2.2.2
  have hb : ∀ w ∈ lw_big, w.before args s = true := fun w h => hT w (List.mem_cons_of_mem _ h)
  intro H locs ls h1 h2 h3 h4
  refine x_cont (va_runSN (As := As) (rest := rest) S (hM l D ca H.size) ⟨va_cnB As.length hT (lw_big_good (ws := Cond.code y bytes maxL ret' :: lw_big) (fun w hw => by
      rcases List.mem_cons.mp hw with rfl | hw
      · exact hc1
      · exact hw)) rfl rfl rfl (hN.1 _ hl) (hb _ hc2) ⟨hc3.1, hc3.2, hc4⟩ ⟨by show dp' + 1 ≤ R.frames; omega, by show 8 + (maxL + 11) + 50 * dp' ≤ R.locals; omega⟩, hb _ hi, trivial⟩
    ⟨x_blind, fun U hU hW => ⟨rfl, by rw [hU], by rw [hU]; exact h1, va_K.moved hW.alike hK, x_Dm h2 (fun _ _ _ => trivial), hN.warm hW, by rw [hU]; exact x_STcall hST h2 h3 hA hW⟩⟩ rfl rfl h4.1 hst (lv_room hrest) hd ⟨hf3, hf4⟩) h1 h2 h3 hA (fun v σ' τ' hp H1 locs1 g1 g2 g3 => kk v σ' τ' hp H1 locs1 ls g1 g2 g3 h4)
/-! Math, arraycopy -/
theorem x_mmax (X : x_Is V cc nL own ret ad ds dp P) {index : Nat} {rest : List Value} {x y : Int32} (hd : decode cc pc = .ok (.invokestatic index, 3)) (hl : Cond.methodLink own index Lib.Math.max.name ∈ lw_big) (hs : Cond.static Lib.Math.max.name ∈ lw_big) (hi : Cond.initialized "java/lang/Math" ∈ lw_big) (hc : Cond.code Lib.Math.max.name Lib.Math.max.code 2 (some .int) ∈ lw_big)
    (hdp : 1 ≤ dp) (hrest : (rest.map fun v => v.category).sum ≤ 8) (k9 : V σ τ (pc + 3) lv (.int (if x < y then y else x) :: rest)) : V σ τ pc lv (.int y :: .int x :: rest) := by
  obtain ⟨p, l, e, R, s, m, args, below, meth, c, w0, D, ca, A, cells, slots, Q, rfl, S, ⟨hK, hN, hST⟩, hr, hlk, hf1, hf2, hf3, hf4, hA, hA2, hQ⟩ := X
  have hb : ∀ w ∈ lw_big, w.before args s = true := fun w h => S.2.2.2.2 w (List.mem_cons_of_mem _ h)
  exact fun H locs ls h1 h2 h3 h4 => va_mmax S.1 S.2.1 (S.2.2.1.trans h4.1.symm) S.2.2.2.1 (hb _ hl) (hb _ hs) (hb _ hi) (hb _ hc) (by omega) (by omega) hf3 hf4 hd (k9 H locs ls h1 h2 h3 h4)
theorem x_mmin (X : x_Is V cc nL own ret ad ds dp P) {index : Nat} {rest : List Value} {x y : Int32} (hd : decode cc pc = .ok (.invokestatic index, 3)) (hl : Cond.methodLink own index Lib.Math.min.name ∈ lw_big) (hs : Cond.static Lib.Math.min.name ∈ lw_big) (hi : Cond.initialized "java/lang/Math" ∈ lw_big) (hc : Cond.code Lib.Math.min.name Lib.Math.min.code 2 (some .int) ∈ lw_big)
    (hdp : 1 ≤ dp) (hrest : (rest.map fun v => v.category).sum ≤ 8) (k9 : V σ τ (pc + 3) lv (.int (if y < x then y else x) :: rest)) : V σ τ pc lv (.int y :: .int x :: rest) := by
  obtain ⟨p, l, e, R, s, m, args, below, meth, c, w0, D, ca, A, cells, slots, Q, rfl, S, ⟨hK, hN, hST⟩, hr, hlk, hf1, hf2, hf3, hf4, hA, hA2, hQ⟩ := X
  have hb : ∀ w ∈ lw_big, w.before args s = true := fun w h => S.2.2.2.2 w (List.mem_cons_of_mem _ h)
  exact fun H locs ls h1 h2 h3 h4 => va_mmin S.1 S.2.1 (S.2.2.1.trans h4.1.symm) S.2.2.2.1 (hb _ hl) (hb _ hs) (hb _ hi) (hb _ hc) (by omega) (by omega) hf3 hf4 hd (k9 H locs ls h1 h2 h3 h4)
theorem x_mabs (X : x_Is V cc nL own ret ad ds dp P) {index : Nat} {rest : List Value} {x : Int32} (hd : decode cc pc = .ok (.invokestatic index, 3)) (hl : Cond.methodLink own index Lib.Math.abs.name ∈ lw_big) (hs : Cond.static Lib.Math.abs.name ∈ lw_big) (hi : Cond.initialized "java/lang/Math" ∈ lw_big) (hc : Cond.code Lib.Math.abs.name Lib.Math.abs.code 1 (some .int) ∈ lw_big)
    (hdp : 1 ≤ dp) (hrest : (rest.map fun v => v.category).sum ≤ 8) (k9 : V σ τ (pc + 3) lv (.int (if 0 ≤ x then x else 0 - x) :: rest)) : V σ τ pc lv (.int x :: rest) := by
  obtain ⟨p, l, e, R, s, m, args, below, meth, c, w0, D, ca, A, cells, slots, Q, rfl, S, ⟨hK, hN, hST⟩, hr, hlk, hf1, hf2, hf3, hf4, hA, hA2, hQ⟩ := X
  have hb : ∀ w ∈ lw_big, w.before args s = true := fun w h => S.2.2.2.2 w (List.mem_cons_of_mem _ h)
  exact fun H locs ls h1 h2 h3 h4 => va_mabs S.1 S.2.1 (S.2.2.1.trans h4.1.symm) S.2.2.2.1 (hb _ hl) (hb _ hs) (hb _ hi) (hb _ hc) (by omega) (by omega) hf3 hf4 hd (k9 H locs ls h1 h2 h3 h4)
theorem x_copy (X : x_Is V cc nL own ret ad ds dp P) {index k0 k1 n0 n1 : Nat} {l0 l1 : List Nat} {rest : List Value} {sp dq n : Int32} (hd : decode cc pc = .ok (.invokestatic index, 3)) (hl : Cond.methodLink own index arraycopyName ∈ lw_big) (hn : Cond.native arraycopyName ∈ lw_big) (hs : Cond.static arraycopyName ∈ lw_big) (hi : Cond.initialized "java/lang/System" ∈ lw_big)
    (hds0 : ds[k0]? = some (1, n0, l0)) (hds1 : ds[k1]? = some (1, n1, l1)) (hdp : 2 ≤ dp) (hrest : (rest.map fun v => v.category).sum ≤ 8)
    (hb9 : (¬ sp < 0 ∧ ¬ dq < 0 ∧ ¬ n < 0) ∧ sp.toNatClampNeg + n.toNatClampNeg ≤ n0 ∧ dq.toNatClampNeg + n.toNatClampNeg ≤ n1)
    (k9 : V (x_cp σ k0 sp.toNatClampNeg k1 dq.toNatClampNeg n.toNatClampNeg) τ (pc + 3) lv rest) : V σ τ pc lv (.int n :: .int dq :: .ref (ad k1) :: .int sp :: .ref (ad k0) :: rest) := by
  obtain ⟨p, l, e, R, s, m, args, below, meth, c, w0, D, ca, A, cells, slots, Q, rfl, S, ⟨hK, hN, hST⟩, hr, hlk, hf1, hf2, hf3, hf4, hA, hA2, hQ⟩ := X
  have hb : ∀ w ∈ lw_big, w.before args s = true := fun w h => S.2.2.2.2 w (List.mem_cons_of_mem _ h)
  intro H locs ls h1 h2 h3 h4
  have hw : nativeFrameWords "java/lang/System" "arraycopy" 5 + 11 ≤ 60 := by decide
  refine va_copyi S.1 S.2.1 (S.2.2.1.trans h4.1.symm) S.2.2.2.1 (hb _ hl) (hb _ hn) (hb _ hs) (hb _ hi) hK h1 h2 h3 k0 k1 0 0 (x_at hds0) (x_at hds1) rfl rfl rfl hb9.1.1 hb9.1.2.1 hb9.1.2.2 hb9.2.1 hb9.2.2 (fun i _ => rfl) (by omega) (by omega) hd (fun H1 locs1 g1 g2 g3 => ?_)
  have e9 : (x_ws ad ca σ τ 0 ds).set k1 (ad k1, .inl (ca 1, n1, .inl (va_cpy (σ k0) (σ k1) sp.toNatClampNeg dq.toNatClampNeg n.toNatClampNeg))) = x_ws ad ca (x_cp σ k0 sp.toNatClampNeg k1 dq.toNatClampNeg n.toNatClampNeg) τ 0 ds := x_set hds1 (by
    show Sum.inl (ca 1, n1, Sum.inl (x_cp σ k0 sp.toNatClampNeg k1 dq.toNatClampNeg n.toNatClampNeg k1)) = _
    rw [x_cp_s]) (fun _ d' _ ha => x_ent_n (x_cp_n ha) rfl d')
  rw [e9] at g1 g2
  exact k9 H1 locs1 ls g1 g2 g3 h4
end XS
