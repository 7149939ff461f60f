/-! methods that may throw: an exception is a cell of its own that nobody keeps; the world is as it was when it was made -/
def x_rmX (dp k : Nat) : Room := { frames := dp, cells := k, slots := 6 * k, locals := 50 * dp }
abbrev x_PE : Type := String → x_S → x_L → Prop
def x_XC (D : va_G) (ad : Nat → Nat) (ca : Nat → ClassId) (ds : List x_D) (PX : x_PE) (sz : Nat) : String → State → State → Prop := fun E st t =>
  (E ∈ lw_cast ∧ ∃ (σ : x_S) (τ : x_L), PX E σ τ ∧ va_P D vwCl (x_ws ad ca σ τ 0 ds) t.heap) ∧ va_F (x_A ad ds sz) st t
def x_MetX (y : MethodName) (cc : ByteArray) (nL : Nat) (ret : Option FieldType) (dp k : Nat) (ad : Nat → Nat) (ds : List x_D) (As : List Value) (σ : x_S) (τ : x_L) (P : x_P) (PX : x_PE) : Prop :=
  ∀ (l : Launch) (_ : l.stackTraces = false) (D : va_G) (ca : Nat → ClassId) (sz : Nat), vx_Met l y (Cond.code y cc nL ret :: lw_big) (x_rmX dp k) (x_Pc D ad ca ds As σ τ sz) (x_Qm D ad ca ds P sz) (x_XC D ad ca ds PX sz) k (6 * k) (x_A ad ds sz)
/-- as x_Is, in a method that may throw; j cells of the K that it may make are accounted for -/
def x_IsX (V : x_J) (cc : ByteArray) (nL : Nat) (own : String) (ret : Option FieldType) (ad : Nat → Nat) (ds : List x_D) (dp : Nat) (P : x_P) (PX : x_PE) (j K : Nat) : Prop :=
  ∃ (p : Program) (l : Launch) (e : Env) (R : Room) (s : State) (m : MethodId) (args : Array Value) (below : List Frame) (meth : Method) (c : Code) (w0 : Cond) (D : va_G) (ca : Nat → ClassId),
    V = x_V p l e R s m args below meth c nL D ad ca ds (x_A ad ds s.heap.size) j (6 * j) (vx_MQ below (x_Qm D ad ca ds P s.heap.size) (x_XC D ad ca ds PX s.heap.size) args s K (6 * K) (x_A ad ds s.heap.size)) ∧ CallFix p m c cc nL s args (w0 :: lw_big) own ∧ (va_K D vwCl (x_tys ca) s ∧ x_NW ad s ∧ x_ST ad (x_A ad ds s.heap.size) s s.heap) ∧ meth.sig.returnType = ret ∧ meth.locks = false ∧ dp ≤ R.frames ∧ 50 * dp ≤ R.locals ∧ K ≤ R.cells ∧ 6 * K ≤ R.slots ∧
    l.stackTraces = false ∧ (∀ x ∈ c.exceptionTable.toList, False) ∧ j ≤ K
section XX
variable {V : x_J} {cc : ByteArray} {nL : Nat} {own : String} {ret : Option FieldType} {ad : Nat → Nat} {ds : List x_D} {dp j K : Nat} {P : x_P} {PX : x_PE} {σ : x_S} {τ : x_L} {pc : Nat} {lv : List (Nat × Value)} {st : List Value}
theorem x_isX (X : x_IsX V cc nL own ret ad ds dp P PX j K) : x_Is V cc nL own ret ad ds dp P := by
  obtain ⟨p, l, e, R, s, m, args, below, meth, c, w0, D, ca, rfl, S, hN, hr, hlk, hf1, hf2, hf3, hf4, hst, hex, hj⟩ := X
  refine ⟨p, l, e, R, s, m, args, below, meth, c, w0, D, ca, x_A ad ds s.heap.size, j, 6 * j, _, rfl, S, hN, hr, hlk, hf1, hf2, by omega, by omega, fun q h => Or.inr h, fun q h => h, fun H locs g k => ?_⟩
  intro T hT X
  obtain ⟨t, a1, o, b1, b2, b3, L, ⟨f1, f2, f3⟩, f4⟩ := k T hT X
  exact ⟨t, a1, o, b1, b2, Or.inl ⟨b3, L, ⟨f1, f2, f3.mono hj (by omega)⟩, f4⟩⟩
theorem x_metX {y : MethodName} {As : List Value} {σ : x_S} {τ : x_L} (hy : plainName y.cls = true) (hn : (lg_sl As).length ≤ nL)
    (body : ∀ V, x_IsX V cc nL y.cls ret ad ds dp P PX 0 K → V σ τ 0 (lv_args 0 As) []) : x_MetX y cc nL ret dp K ad ds As σ τ P PX := by
  intro l hl D ca sz
  refine vx_ofW (cc := cc) (maxL := nL) (ret := ret) hy rfl ?_
  intro p e s m args below meth c s₁ B hml hex hv
  obtain ⟨rfl, hsz, hP, hK, hD0, hN, hST⟩ := hv
  subst hsz
  rw [lg_entry_eq]
  exact body _ ⟨p, l, e, _, s, m, _, below, meth, c, _, D, ca, rfl, ⟨B.exec, B.bytes, hml, findClass_of_methodNamed B.named, atoms_spec (ws := Cond.code y cc nL ret :: lw_big) B.pre⟩, ⟨hK, hN, hST⟩, B.returns, B.notSynchronized, Nat.le_refl _, Nat.le_refl _, Nat.le_refl _, Nat.le_refl _, hl, hex, Nat.zero_le _⟩ s.heap [] _ hP (x_Dm hD0 (fun k hk _ => Or.inl ⟨k, hk, rfl⟩)) va_S.rf (lv_entry As hn)
/-- behind a call that returns or throws -/
theorem x_contX {p : Program} {l : Launch} {e : Env} {R : Room} {s : State} {m : MethodId} {args : Array Value} {below : List Frame} {meth : Method} {c : Code} {H : Heap} {locs : List Loc} {cells slots : Nat} {Q : State → Prop} {D : va_G} {ca : Nat → ClassId} {A : Nat → Prop} {ls : Array Slot} {st0 rest : List Value} {a : Array Value} {k : Nat} {P' : x_P} {PX' : x_PE}
    (hr : vx_Run p l e R s m args below meth c H locs cells slots k (6 * k) (F0 m pc ls st0) rest (x_Qm D ad ca ds P' H.size a) (x_XC D ad ca ds PX' H.size) (x_A ad ds H.size)) (hD : va_D A (x_ws ad ca σ τ 0 ds)) (hS : va_S A s.heap H locs) (hA : ∀ q, s.heap.size ≤ q → A q)
    (kx : ∀ (E : String) (σ' : x_S) (τ' : x_L), E ∈ lw_cast → PX' E σ' τ' → ∀ (H1 : Heap) (locs1 : List Loc) (q9 : Addr) (ce : Cell), va_P D vwCl (x_ws ad ca σ' τ' 0 ds) H1 → va_D A (x_ws ad ca σ' τ' 0 ds) → va_S A s.heap H1 locs1 → H1[q9]? = some ce → ce.vm = .none → s.vm.findClass E = some ce.cls → vx_W p l e R s m args below meth c H1 locs1 (cells + k) (slots + 6 * k) Q (F0 m pc ls rest) q9)
    (kk : ∀ (v : Option Value) (σ' : x_S) (τ' : x_L), P' v σ' τ' → ∀ (H1 : Heap) (locs1 : List Loc), va_P D vwCl (x_ws ad ca σ' τ' 0 ds) H1 → va_D A (x_ws ad ca σ' τ' 0 ds) → va_S A s.heap H1 locs1 → W p l e R s m args below meth c H1 locs1 (cells + k) (slots + 6 * k) Q (F0 m (pc + 3) ls (v.toList ++ rest))) : W p l e R s m args below meth c H locs cells slots Q (F0 m pc ls st0) := by
  have hAd : ∀ q, x_A ad ds H.size q → A q := by
    rintro q (⟨k, hk, rfl⟩ | h)
    · exact hD.2 k _ (x_at (List.getElem?_eq_getElem hk))
    · exact hA q (Nat.le_trans hS.1 h)
  intro T hT X
  have keep : ∀ {T' t : State} {L : List Loc} {st₀ : State}, st₀.heap = H → T'.heap = t.heap → (∀ z ∈ L, x_A ad ds H.size z.base) → va_F (x_A ad ds H.size) st₀ t → va_S A s.heap T'.heap (locs ++ L) := by
    intro T' t L st₀ h0 e1 hL hF
    refine ⟨Nat.le_trans hS.1 (by rw [e1, ← h0]; exact hF.1), fun q h1 h2 => ?_, fun q hq => ?_⟩
    · rw [e1, hF.2 q (by rw [h0]; exact Nat.lt_of_lt_of_le h1 hS.1) (fun z => h2 (hAd q z)), h0]
      exact hS.2.1 q h1 h2
    · rcases List.mem_append.mp hq with h | h
      · exact hS.2.2 q h
      · exact hAd _ (hL q h)
  rcases hr T hT X with ⟨v, st₀, t, T', L, h0, X', hL, e1, e2, ⟨⟨v', σ', τ', hv, hp, hb⟩, hF⟩, st⟩ | ⟨q, st₀, t, T', L, E, ce, h0, X', hL, e1, e2, ⟨⟨hE, σ', τ', hp, hb⟩, hF⟩, hce, hcv, hcl, st⟩
  · cases hv
    obtain ⟨t2, a1, b1⟩ := kk v σ' τ' hp T'.heap (locs ++ L) (by rw [e1]; exact hb) (x_Dm hD (fun _ _ h => h)) (keep h0 e1 hL hF) T' rfl X'
    exact ⟨t2, st t2 a1, b1⟩
  · obtain ⟨t2, a1, b1⟩ := kx E σ' τ' hE hp T'.heap (locs ++ L) q ce (by rw [e1]; exact hb) (x_Dm hD (fun _ _ h => h)) (keep h0 e1 hL hF) (by rw [e1]; exact hce) hcv hcl T' rfl X'
    exact ⟨t2, st.trans a1, b1⟩
theorem x_callVX (X : x_IsX V cc nL own ret ad ds dp P PX j K) {index k q0 ci : Nat} {y : MethodName} {bytes : ByteArray} {maxL : Nat} {ret' : Option FieldType} {dp' : Nat} {As : List Value} {P' : x_P} {PX' : x_PE} {fs : List Nat} (rest : List Value)
    (hd : decode cc pc = .ok (.invokevirtual index, 3)) (hM : x_MetX y bytes maxL ret' dp' k ad ds (.ref (ad q0) :: As) σ τ P' PX') (hc : x_CM y bytes maxL ret' As.length) (hi : x_CI y ci) (hl : Cond.methodLink own index y ∈ lw_big) (hds : ds[q0]? = some (0, ci, fs))
    (hdp : dp' + 1 ≤ dp ∧ maxL ≤ 31) (hj : j + k ≤ K) (hst : st = As.reverse ++ .ref (ad q0) :: rest) (hrest : (rest.map fun v => v.category).sum ≤ 8)
    (kx : ∀ (E : String) (σ' : x_S) (τ' : x_L), PX' E σ' τ' → PX E σ' τ')
    (kk : ∀ (V' : x_J) (v : Option Value) (σ' : x_S) (τ' : x_L), x_IsX V' cc nL own ret ad ds dp P PX (j + k) K → P' v σ' τ' → V' σ' τ' (pc + 3) lv (v.toList ++ rest)) : V σ τ pc lv st := by
  obtain ⟨p, l, e, R, s, m, args, below, meth, c, w0, D, ca, rfl, S, ⟨hK, hN, hST⟩, hr, hlk, hf1, hf2, hf3, hf4, hst0, hex, hj0⟩ := X
  obtain ⟨hc1, hc2, hc3, hc4⟩ := hc
  obtain ⟨hi1, hi2, q, hq, hq2⟩ := hi
  intro H locs ls h1 h2 h3 h4
  have hA : ∀ q, s.heap.size ≤ q → x_A ad ds s.heap.size q := fun q h => Or.inr h
  have hG : GoodIn (w0 :: lw_big) (wsV own index y.cls y (Cond.code y bytes maxL ret' :: lw_big)) := lw_big_good (fun w hw => by
    simp only [wsV, List.cons_append, List.nil_append, List.mem_cons] at hw
    rcases hw with rfl | rfl | rfl | rfl | rfl | hw
    · exact hl
    · exact hi1
    · exact hi2
    · exact hc2
    · exact hc1
    · exact hw)
  refine x_contX (σ := σ) (τ := τ) (vx_runV (C := y.cls) (As := As) (rest := rest) S (hM l hst0 D ca H.size) (cwV As.length S.2.2.2.2 hG rfl rfl rfl ⟨rfl, hc3.1, hc3.2, hc4⟩ ⟨by show dp' + 1 ≤ R.frames; omega, by show 8 + (maxL + 11) + 50 * dp' ≤ R.locals; omega⟩)
    ⟨x_blind, by rw [← hq2]; exact va_recv hK h1 hq (x_at hds), fun U hU hW => ⟨rfl, by rw [hU], by rw [hU]; exact h1, va_K.moved hW.alike hK, x_Dm h2 (fun _ _ _ => trivial), hN.warm hW, by rw [hU]; exact x_STcall hST h2 h3 hA hW⟩⟩ rfl rfl h4.1 hst (lv_room hrest) hd ⟨by omega, by omega⟩) h2 h3 hA
    (fun E σ' τ' hE hp H1 locs1 q9 ce g1 g2 g3 g4 g5 g6 => vx_out (fun x hx => (hex x hx).elim) hlk g4 g5 g6 (fun t ht _ => ⟨⟨hE, σ', τ', kx E σ' τ' hp, by rw [ht]; exact g1⟩, ⟨by rw [ht]; exact g3.1, fun q a b => by rw [ht]; exact g3.2.1 q a b⟩⟩) g3.2.2 (by omega) (by omega))
    (fun v σ' τ' hp H1 locs1 g1 g2 g3 => kk _ v σ' τ' ⟨p, l, e, R, s, m, args, below, meth, c, w0, D, ca, rfl, S, ⟨hK, hN, hST⟩, hr, hlk, hf1, hf2, hf3, hf4, hst0, hex, hj⟩ hp H1 locs1 ls g1 g2 (by exact g3) h4 |> fun z => by
      have e6 : 6 * (j + k) = 6 * j + 6 * k := by omega
      rw [e6] at z
      exact z)
theorem x_callSX (X : x_IsX V cc nL own ret ad ds dp P PX j K) {index k : Nat} {y : MethodName} {bytes : ByteArray} {maxL : Nat} {ret' : Option FieldType} {dp' : Nat} {As : List Value} {P' : x_P} {PX' : x_PE} (rest : List Value)
    (hd : decode cc pc = .ok (.invokestatic index, 3)) (hM : x_MetX y bytes maxL ret' dp' k ad ds As σ τ P' PX') (hc : x_CM y bytes maxL ret' As.length) (hi : Cond.static y ∈ lw_big) (ho : y.cls = own) (hl : Cond.methodLink own index y ∈ lw_big)
    (hdp : dp' + 1 ≤ dp ∧ maxL ≤ 31) (hj : j + k ≤ K) (hst : st = As.reverse ++ rest) (hrest : (rest.map fun v => v.category).sum ≤ 8)
    (kx : ∀ (E : String) (σ' : x_S) (τ' : x_L), PX' E σ' τ' → PX E σ' τ')
    (kk : ∀ (V' : x_J) (v : Option Value) (σ' : x_S) (τ' : x_L), x_IsX V' cc nL own ret ad ds dp P PX (j + k) K → P' v σ' τ' → V' σ' τ' (pc + 3) lv (v.toList ++ rest)) : V σ τ pc lv st := by
  obtain ⟨p, l, e, R, s, m, args, below, meth, c, w0, D, ca, rfl, S, ⟨hK, hN, hST⟩, hr, hlk, hf1, hf2, hf3, hf4, hst0, hex, hj0⟩ := X
  obtain ⟨hc1, hc2, hc3, hc4⟩ := hc
  intro H locs ls h1 h2 h3 h4
  have hA : ∀ q, s.heap.size ≤ q → x_A ad ds s.heap.size q := fun q h => Or.inr h
  have hG : GoodIn (w0 :: lw_big) (wsS own index y (Cond.code y bytes maxL ret' :: lw_big)) := lw_big_good (fun w hw => by
    simp only [wsS, List.cons_append, List.nil_append, List.mem_cons] at hw
    rcases hw with rfl | rfl | rfl | rfl | hw
    · exact hl
    · exact hi
    · rw [← ho]; exact hc2
    · exact hc1
    · exact hw)
  refine x_contX (σ := σ) (τ := τ) (vx_runS (As := As) (rest := rest) S (hM l hst0 D ca H.size) (cwS As.length S.2.2.2.2 hG rfl rfl rfl ⟨ho, hc3.1, hc3.2, hc4⟩ ⟨by show dp' + 1 ≤ R.frames; omega, by show 8 + (maxL + 11) + 50 * dp' ≤ R.locals; omega⟩)
    ⟨x_blind, fun U hU hW => ⟨rfl, by rw [hU], by rw [hU]; exact h1, va_K.moved hW.alike hK, x_Dm h2 (fun _ _ _ => trivial), hN.warm hW, by rw [hU]; exact x_STcall hST h2 h3 hA hW⟩⟩ rfl rfl h4.1 hst (lv_room hrest) hd ⟨by omega, by omega⟩) h2 h3 hA
    (fun E σ' τ' hE hp H1 locs1 q9 ce g1 g2 g3 g4 g5 g6 => vx_out (fun x hx => (hex x hx).elim) hlk g4 g5 g6 (fun t ht _ => ⟨⟨hE, σ', τ', kx E σ' τ' hp, by rw [ht]; exact g1⟩, ⟨by rw [ht]; exact g3.1, fun q a b => by rw [ht]; exact g3.2.1 q a b⟩⟩) g3.2.2 (by omega) (by omega))
    (fun v σ' τ' hp H1 locs1 g1 g2 g3 => kk _ v σ' τ' ⟨p, l, e, R, s, m, args, below, meth, c, w0, D, ca, rfl, S, ⟨hK, hN, hST⟩, hr, hlk, hf1, hf2, hf3, hf4, hst0, hex, hj⟩ hp H1 locs1 ls g1 g2 (by exact g3) h4 |> fun z => by
      have e6 : 6 * (j + k) = 6 * j + 6 * k := by omega
      rw [e6] at z
      exact z)
/-- new X(text), thrown -/
theorem x_throw (X : x_IsX V cc nL own ret ad ds dp P PX j K) {cls text : String} {ik is ic i : Nat}
    (d0 : decode cc pc = .ok (.new ik, 3)) (d3 : decode cc (pc + 3) = .ok (.dup, 1)) (d4 : decode cc (pc + 4) = .ok (.ldc_w is, 3)) (d7 : decode cc (pc + 7) = .ok (.invokespecial ic, 3)) (d10 : decode cc (pc + 10) = .ok (.athrow, 1))
    (hcls : Bundle.fit cls = true) (hk : Cond.classLink own ik cls ∈ lw_big) (hini : Cond.initialized cls ∈ lw_big) (hE : cls ∈ lw_cast) (hstr : (own, is, text, i) ∈ lw_str)
    (hat : ∀ w ∈ (vx_atS own ic cls ["java/lang/RuntimeException", "java/lang/Exception"]).filter goodWord, w ∈ lw_big)
    (hat2 : ∀ w ∈ (vx_atS own ic cls ["java/lang/RuntimeException", "java/lang/Exception"]).filter (fun w => !goodWord w), w ∈ Cond.castable cls cls :: lw_decl.map (fun c => Cond.declares ⟨c, "<init>", "(Ljava/lang/String;)V"⟩))
    (hgood : ∀ w ∈ Cond.classLink own ik cls :: Cond.initialized cls :: vx_atS own ic cls ["java/lang/RuntimeException", "java/lang/Exception"], vx_ot w = true)
    (hj : j + 1 ≤ K) (hdp : 6 ≤ dp) (hrest : (st.map fun v => v.category).sum ≤ 8) (h : PX cls σ τ) : V σ τ pc lv st := by
  obtain ⟨p, l, e, R, s, m, args, below, meth, c, w0, D, ca, rfl, S, ⟨hK, hN, hST⟩, hr, hlk, hf1, hf2, hf3, hf4, hst0, hex, hj0⟩ := X
  have hb : ∀ w ∈ lw_big, w.before args s = true := fun w h => S.2.2.2.2 w (List.mem_cons_of_mem _ h)
  intro H locs ls h1 h2 h3 h4
  refine vx_throwSW (names := ["java/lang/RuntimeException", "java/lang/Exception"]) (text := text) S.1 S.2.1 hst0 S.2.2.2.1 hcls (by decide +kernel) (hb _ hk) (hb _ hini) (hN.2.2.2.2 _ hstr)
    (vx_hat (fun w hw => hb w (hat w hw)) hat2 (fun w hw => by
      rcases List.mem_cons.mp hw with rfl | hw
      · exact va_Nw.use rfl (hN.2.1 _ hE)
      · obtain ⟨c9, hc9, rfl⟩ := List.mem_map.mp hw
        exact va_Nw.use rfl (hN.2.2.2.1 _ hc9)))
    hgood hST.2.1 hST.2.2.1 h3 (h4.1.trans S.2.2.1.symm) d0 d3 d4 d7 d10 (fun x hx => (hex x hx).elim) (by show 2 + 3 < R.frames; omega) (by show _ + (13 * (2 + 1) + 43) ≤ R.locals; omega) (by omega) (by omega) hlk ?_ h3.2.2 hj (by omega)
  intro t hal hsz hkeep
  refine ⟨⟨hE, σ, τ, h, ?_⟩, ⟨Nat.le_trans h3.1 hsz, fun q a b => ?_⟩⟩
  · exact h1.kept (fun k q hk => hkeep q.1 (va_at.lt (h1 k q hk)))
  · rw [hkeep q (Nat.lt_of_lt_of_le a h3.1)]
    exact h3.2.1 q a b
end XX
