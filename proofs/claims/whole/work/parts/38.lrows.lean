/-! methods of the law that catch what a method of the class throws -/
def x_MetK (y : MethodName) (cc : ByteArray) (nL : Nat) (ret : Option FieldType) (hh : List (Nat × Nat × Nat × Nat)) (dp K : Nat) (ad : Nat → Nat) (ds : List x_D) (As : List Value) (σ : x_S) (τ : x_L) (P : x_P) : Prop :=
  ∀ (l : Launch) (_ : l.stackTraces = false) (D : va_G) (ca : Nat → ClassId) (sz : Nat), Met l y (Cond.codeWith y cc nL ret hh :: lw_big) (x_rmX dp K) (x_Pc D ad ca ds As σ τ sz) (x_Qm D ad ca ds P sz) K (6 * K) (x_A ad ds sz)
def x_IsH (V : x_J) (cc : ByteArray) (nL : Nat) (own : String) (ret : Option FieldType) (ad : Nat → Nat) (ds : List x_D) (dp : Nat) (P : x_P) (hh : List (Nat × Nat × Nat × Nat)) (j K : Nat) : Prop :=
  ∃ (p : Program) (l : Launch) (e : Env) (R : Room) (s : State) (m : MethodId) (args : Array Value) (below : List Frame) (meth : Method) (c : Code) (w0 : Cond) (D : va_G) (ca : Nat → ClassId),
    V = x_V p l e R s m args below meth c nL D ad ca ds (x_A ad ds s.heap.size) j (6 * j) (MQ below (x_Qm D ad ca ds P s.heap.size) args s K (6 * K) (x_A ad ds s.heap.size)) ∧ CallFix p m c cc nL s args (w0 :: lw_big) own ∧ (va_K D vwCl (x_tys ca) s ∧ x_NW ad s ∧ x_ST ad (x_A ad ds s.heap.size) s s.heap) ∧ meth.sig.returnType = ret ∧ meth.locks = false ∧ dp ≤ R.frames ∧ 50 * dp ≤ R.locals ∧ K ≤ R.cells ∧ 6 * K ≤ R.slots ∧
    l.stackTraces = false ∧ c.exceptionTable.toList = tableOf hh ∧ j ≤ K
/-- the row of the table that takes what E is thrown at pc -/
def x_HC (own : String) (hh : List (Nat × Nat × Nat × Nat)) (pc : Nat) (E : String) (hpc : Nat) : Prop := ∃ (pre : List ExceptionTableEntry) (x : ExceptionTableEntry) (suf : List ExceptionTableEntry), tableOf hh = pre ++ x :: suf ∧ (∀ z ∈ pre, covers z pc = false ∨ (z.catchType ≠ 0 ∧ ∃ nm : String, Cond.classLink own z.catchType nm ∈ lw_big ∧ (E, nm) ∈ lw_ncast)) ∧ covers x pc = true ∧ x.catchType ≠ 0 ∧ Cond.classLink own x.catchType E ∈ lw_big ∧ x.handlerPc = hpc
theorem x_ofWH {l : Launch} {y : MethodName} {ws ws' : List Cond} {rm : Room} {Pc : Array Value → State → Prop} {Qc : Array Value → State → Outcome → State → Prop} {mc ms : Nat} {free : Addr → Prop} {cc : ByteArray} {maxL : Nat} {ret : Option FieldType} {hh : List (Nat × Nat × Nat × Nat)}
    (hy : plainName y.cls = true) (hw : ws = Cond.codeWith y cc maxL ret hh :: ws')
    (body : ∀ p e s m args below meth c s₁, BodyLoose p l y (headSpec ws rm) cc maxL ret e s m args below meth c s₁ → c.maxLocals = maxL → Pc args s →
      W p l e (headSpec ws rm).room s m args below meth c s.heap [] 0 0 (MQ below Qc args s mc ms free) (entryFrame m args maxL)) : Met l y ws rm Pc Qc mc ms free := by
  refine MetFree.of_bodyS (code := cc) (maxLocals := maxL) (ret := ret) hy ?_ ?_
  · intro args s m h hn
    obtain ⟨m9, meth, c, hn9, h1, h2, h3, h4, -, h5, h6, -⟩ := Cond.codeWith_spec (atoms_spec (ws := ws) h _ (by rw [hw]; exact List.mem_cons_self))
    cases hn.symm.trans hn9
    exact ⟨meth, c, h1, h2, h3, h4, h5, h6⟩
  · intro p e s m args below meth c s₁ B hml hP _
    have hh0 : s₁.heap = s.heap := by rw [B.state]; rfl
    obtain ⟨t, a1, o, b1, b2, b3⟩ := body p e s m args below meth c s₁ B hml hP s₁ hh0 (Stand.of_body B)
    exact ⟨t, o, a1, b1, b2, ⟨b3.1, b3.2⟩⟩
section XH
variable {V : x_J} {cc : ByteArray} {nL : Nat} {own : String} {ret : Option FieldType} {ad : Nat → Nat} {ds : List x_D} {dp j K : Nat} {P : x_P} {hh : List (Nat × Nat × Nat × Nat)} {σ : x_S} {τ : x_L} {pc : Nat} {lv lv' : List (Nat × Value)} {st rest : List Value}
theorem x_isH (X : x_IsH V cc nL own ret ad ds dp P hh j K) : x_Is V cc nL own ret ad ds dp P := by
  obtain ⟨p, l, e, R, s, m, args, below, meth, c, w0, D, ca, rfl, S, hN, hr, hlk, hf1, hf2, hf3, hf4, hst, hex, hj⟩ := X
  refine ⟨p, l, e, R, s, m, args, below, meth, c, w0, D, ca, x_A ad ds s.heap.size, j, 6 * j, _, rfl, S, hN, hr, hlk, hf1, hf2, by omega, by omega, fun q h => Or.inr h, fun q h => h, fun H locs g k => ?_⟩
  intro T hT X
  obtain ⟨t, a1, o, b1, b2, b3, L, ⟨f1, f2, f3⟩, f4⟩ := k T hT X
  exact ⟨t, a1, o, b1, b2, b3, L, ⟨f1, f2, f3.mono hj (by omega)⟩, f4⟩
theorem x_metH {y : MethodName} {As : List Value} {σ : x_S} {τ : x_L} (hy : plainName y.cls = true) (hn : (lg_sl As).length ≤ nL)
    (body : ∀ V, x_IsH V cc nL y.cls ret ad ds dp P hh 0 K → V σ τ 0 (lv_args 0 As) []) : x_MetK y cc nL ret hh dp K ad ds As σ τ P := by
  intro l hl D ca sz
  refine x_ofWH (cc := cc) (maxL := nL) (ret := ret) (hh := hh) hy rfl ?_
  intro p e s m args below meth c s₁ B hml hv
  obtain ⟨rfl, hsz, hP, hK, hD0, hN, hST⟩ := hv
  subst hsz
  rw [lg_entry_eq]
  have hat := atoms_spec (ws := Cond.codeWith y cc nL ret hh :: lw_big) B.pre
  exact body _ ⟨p, l, e, _, s, m, _, below, meth, c, _, D, ca, rfl, ⟨B.exec, B.bytes, hml, findClass_of_methodNamed B.named, hat⟩, ⟨hK, hN, hST⟩, B.returns, B.notSynchronized, Nat.le_refl _, Nat.le_refl _, Nat.le_refl _, Nat.le_refl _, hl, vx_table (x := y) B (hat _ List.mem_cons_self), Nat.zero_le _⟩ s.heap [] _ hP (x_Dm hD0 (fun k hk _ => Or.inl ⟨k, hk, rfl⟩)) va_S.rf (lv_entry As hn)
theorem x_callH (X : x_IsH V cc nL own ret ad ds dp P hh j K) {index k q0 ci : Nat} {y : MethodName} {bytes : ByteArray} {maxL : Nat} {ret' : Option FieldType} {dp' : Nat} {As : List Value} {P' : x_P} {PX' : x_PE} {fs : List Nat} (rest : List Value)
    (hd : decode cc pc = .ok (.invokevirtual index, 3)) (hM : x_MetX y bytes maxL ret' dp' k ad ds (.ref (ad q0) :: As) σ τ P' PX') (hc : x_CM y bytes maxL ret' As.length) (hi : x_CI y ci) (hl : Cond.methodLink own index y ∈ lw_big) (hds : ds[q0]? = some (0, ci, fs))
    (hdp : dp' + 1 ≤ dp ∧ maxL ≤ 31) (hj : j + k ≤ K) (hst : st = As.reverse ++ .ref (ad q0) :: rest) (hrest : (rest.map fun v => v.category).sum ≤ 8)
    (kx : ∀ (V' : x_J) (E : String) (σ' : x_S) (τ' : x_L) (q : Nat), x_IsH V' cc nL own ret ad ds dp P hh (j + k) K → PX' E σ' τ' → ∃ hpc, x_HC own hh pc E hpc ∧ V' σ' τ' hpc lv [.ref q])
    (kk : ∀ (V' : x_J) (v : Option Value) (σ' : x_S) (τ' : x_L), x_IsH V' cc nL own ret ad ds dp P hh (j + k) K → P' v σ' τ' → V' σ' τ' (pc + 3) lv (v.toList ++ rest)) : V σ τ pc lv st := by
  obtain ⟨p, l, e, R, s, m, args, below, meth, c, w0, D, ca, rfl, S, ⟨hK, hN, hST⟩, hr, hlk, hf1, hf2, hf3, hf4, hst0, hex, hj0⟩ := X
  obtain ⟨hc1, hc2, hc3, hc4⟩ := hc
  obtain ⟨hi1, hi2, q, hq, hq2⟩ := hi
  have hb : ∀ w ∈ lw_big, w.before args s = true := fun w h => S.2.2.2.2 w (List.mem_cons_of_mem _ h)
  intro H locs ls h1 h2 h3 h4
  have hA : ∀ q, s.heap.size ≤ q → x_A ad ds s.heap.size q := fun q h => Or.inr h
  have hG : GoodIn (w0 :: lw_big) (wsV own index y.cls y (Cond.code y bytes maxL ret' :: lw_big)) := lw_big_good (fun w hw => by
    simp only [wsV, List.cons_append, List.nil_append, List.mem_cons] at hw
    rcases hw with rfl | rfl | rfl | rfl | rfl | hw
    · exact hl
    · exact hi1
    · exact hi2
    · exact hc2
    · exact hc1
    · exact hw)
  have e6 : 6 * (j + k) = 6 * j + 6 * k := by omega
  refine x_contX (σ := σ) (τ := τ) (vx_runV (C := y.cls) (As := As) (rest := rest) S (hM l hst0 D ca H.size) (cwV As.length S.2.2.2.2 hG rfl rfl rfl ⟨rfl, hc3.1, hc3.2, hc4⟩ ⟨by show dp' + 1 ≤ R.frames; omega, by show 8 + (maxL + 11) + 50 * dp' ≤ R.locals; omega⟩)
    ⟨x_blind, by rw [← hq2]; exact va_recv hK h1 hq (x_at hds), fun U hU hW => ⟨rfl, by rw [hU], by rw [hU]; exact h1, va_K.moved hW.alike hK, x_Dm h2 (fun _ _ _ => trivial), hN.warm hW, by rw [hU]; exact x_STcall hST h2 h3 hA hW⟩⟩ rfl rfl h4.1 hst (lv_room hrest) hd ⟨by omega, by omega⟩) h2 h3 hA
    (fun E σ' τ' hE hp H1 locs1 q9 ce g1 g2 g3 g4 g5 g6 => ?_)
    (fun v σ' τ' hp H1 locs1 g1 g2 g3 => kk _ v σ' τ' ⟨p, l, e, R, s, m, args, below, meth, c, w0, D, ca, rfl, S, ⟨hK, hN, hST⟩, hr, hlk, hf1, hf2, hf3, hf4, hst0, hex, hj⟩ hp H1 locs1 ls g1 g2 (by exact g3) h4 |> fun z => by
      rw [e6] at z
      exact z)
  obtain ⟨hpc, ⟨pre, x, suf, t1, t2, t3, t4, t5, rfl⟩, hv⟩ := kx _ E σ' τ' q9 ⟨p, l, e, R, s, m, args, below, meth, c, w0, D, ca, rfl, S, ⟨hK, hN, hST⟩, hr, hlk, hf1, hf2, hf3, hf4, hst0, hex, hj⟩ hp
  have z := hv H1 locs1 ls g1 g2 g3 h4
  rw [e6] at z
  exact vx_catch S.2.2.2.1 pre x suf (hex.trans t1) (fun z hz => (t2 z hz).imp id (fun ⟨z0, nm, a, b⟩ => ⟨z0, nm, hb _ a, hN.2.2.1 _ b⟩)) t3 t4 (name := E) (hb _ t5) (va_Nw.use rfl (hN.2.1 _ hE)) g4 g5 g6 z
end XH
section XD
variable {V : x_J} {cc : ByteArray} {nL : Nat} {own : String} {ret : Option FieldType} {ad : Nat → Nat} {ds : List x_D} {dp : Nat} {P : x_P} {σ : x_S} {τ : x_L} {pc : Nat} {lv lv' : List (Nat × Value)} {rest : List Value}
theorem x_f2d (X : x_Is V cc nL own ret ad ds dp P) {x : UInt32} (hd : decode cc pc = .ok (.f2d, 1)) (hne : vf_n64 (FP.f2d x)) (k : V σ τ (pc + 1) lv (.double (FP.f2d x) :: rest)) : V σ τ pc lv (.float x :: rest) := by
  obtain ⟨p, l, e, R, s, m, args, below, meth, c, w0, D, ca, A, cells, slots, Q, rfl, S, -⟩ := X
  exact fun H locs ls h1 h2 h3 h4 => lv_f2d S.1 S.2.1 hd hne (k H locs ls h1 h2 h3 h4)
theorem x_dcmp (X : x_Is V cc nL own ret ad ds dp P) {x y : UInt64} {op : CmpOp} (hd : decode cc pc = .ok (.dcmp op, 1)) (k : V σ τ (pc + 1) lv (.int (Op.cmpValue (FP.dcmp x y) op) :: rest)) : V σ τ pc lv (.double y :: .double x :: rest) := by
  obtain ⟨p, l, e, R, s, m, args, below, meth, c, w0, D, ca, A, cells, slots, Q, rfl, S, -⟩ := X
  exact fun H locs ls h1 h2 h3 h4 => lv_dcmp S.1 S.2.1 hd (k H locs ls h1 h2 h3 h4)
theorem x_dald (X : x_Is V cc nL own ret ad ds dp P) {k n : Nat} {ls0 : List Nat} {i : Int32} (hd : decode cc pc = .ok (.daload, 1)) (hds : ds[k]? = some (5, n, ls0)) (hin : vp_in i n) (k9 : V σ τ (pc + 1) lv (.double (τ k i.toNatClampNeg).toUInt64 :: rest)) : V σ τ pc lv (.int i :: .ref (ad k) :: rest) := by
  obtain ⟨p, l, e, R, s, m, args, below, meth, c, w0, D, ca, A, cells, slots, Q, rfl, S, ⟨hK, -⟩, -⟩ := X
  exact fun H locs ls h1 h2 h3 h4 => va_dald S.1 S.2.1 hK h1 k 4 (x_at hds) rfl hin hd (k9 H locs ls h1 h2 h3 h4)
theorem x_dast (X : x_Is V cc nL own ret ad ds dp P) {k n : Nat} {ls0 : List Nat} {i : Int32} {x : UInt64} (hd : decode cc pc = .ok (.dastore, 1)) (hds : ds[k]? = some (5, n, ls0)) (hin : vp_in i n) (k9 : V σ (x_upL τ k i.toNatClampNeg x.toInt64) (pc + 1) lv rest) : V σ τ pc lv (.double x :: .int i :: .ref (ad k) :: rest) := by
  obtain ⟨p, l, e, R, s, m, args, below, meth, c, w0, D, ca, A, cells, slots, Q, rfl, S, ⟨hK, -⟩, -⟩ := X
  intro H locs ls h1 h2 h3 h4
  refine va_dast S.1 S.2.1 hK h1 h2 h3 k 4 (x_at hds) rfl hin hd (fun H1 locs1 g1 g2 g3 => ?_)
  have e9 : (x_ws ad ca σ τ 0 ds).set k (ad k, .inl (ca 5, n, .inr (.inr (.inr (.inl (vf_upd (fun j => (τ k j).toUInt64) i.toNatClampNeg x)))))) = x_ws ad ca σ (x_upL τ k i.toNatClampNeg x.toInt64) 0 ds := x_set_l hds (by
    show Sum.inl (ca 5, n, Sum.inr (Sum.inr (Sum.inr (Sum.inl (fun j => (x_upL τ k i.toNatClampNeg x.toInt64 k j).toUInt64))))) = _
    rw [show (fun j => (x_upL τ k i.toNatClampNeg x.toInt64 k j).toUInt64) = vf_upd (fun j => (τ k j).toUInt64) i.toNatClampNeg x from by
      funext j
      rw [x_upL_s]
      unfold vp_updL vf_upd
      by_cases h : j = i.toNatClampNeg
      · simp [h]
      · simp [h]])
  rw [e9] at g1 g2
  exact k9 H1 locs1 ls g1 g2 g3 h4
end XD
