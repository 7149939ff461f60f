/-! worlds under construction hold nothing but starting contents; a code says what a field, a local or a place of the stack holds: 0 int 0, 1 int -1, 2 null, 3 long 0, k + 4 the cell k -/
def y_f (ad : Nat → Nat) : Nat → Value
  | 0 => .int 0
  | 1 => .int (-1)
  | 2 => .null
  | 3 => .long 0
  | k + 4 => .ref (ad k)
def y_ent (ad : Nat → Nat) (ca : Nat → ClassId) (d : x_D) : va_E := match d.1 with
  | 0 => .inr (d.2.1, d.2.2.map (y_f ad))
  | 1 => .inl (ca 1, d.2.1, .inl (fun _ => 0))
  | 2 => .inl (ca 2, d.2.1, .inl (fun _ => 0))
  | 3 => .inl (ca 3, d.2.1, .inl (fun _ => 0))
  | 4 => .inl (ca 4, d.2.1, .inr (.inl (fun _ => 0)))
  | 5 => .inl (ca 5, d.2.1, .inr (.inr (.inr (.inl (fun _ => 0)))))
  | _ => .inl (ca 6, d.2.1, .inr (.inr (.inr (.inr (fun j => if j < d.2.1 then some (ad (d.2.2.headD 0 + j)) else none)))))
def y_ws (ad : Nat → Nat) (ca : Nat → ClassId) : Nat → List x_D → va_W
  | _, [] => []
  | k, d :: r => (ad k, y_ent ad ca d) :: y_ws ad ca (k + 1) r
theorem y_ws_at (ad : Nat → Nat) (ca : Nat → ClassId) : ∀ (ds : List x_D) (k0 k : Nat), (y_ws ad ca k0 ds)[k]? = (ds[k]?).map (fun d => (ad (k0 + k), y_ent ad ca d))
  | [], k0, k => by simp [y_ws]
  | d :: r, k0, 0 => by simp [y_ws]
  | d :: r, k0, k + 1 => by
    rw [y_ws, List.getElem?_cons_succ, List.getElem?_cons_succ, y_ws_at ad ca r (k0 + 1) k]
    rw [show k0 + 1 + k = k0 + (k + 1) from by omega]
theorem y_at {ad : Nat → Nat} {ca : Nat → ClassId} {ds : List x_D} {k : Nat} {d : x_D} (h : ds[k]? = some d) : (y_ws ad ca 0 ds)[k]? = some (ad k, y_ent ad ca d) := by
  rw [y_ws_at, h, Option.map_some, Nat.zero_add]
theorem y_ws_app (ad : Nat → Nat) (ca : Nat → ClassId) : ∀ (a : List x_D) (k0 : Nat) (b : List x_D), y_ws ad ca k0 (a ++ b) = y_ws ad ca k0 a ++ y_ws ad ca (k0 + a.length) b
  | [], k0, b => by simp [y_ws]
  | d :: r, k0, b => by
    rw [List.cons_append, y_ws, y_ws, List.cons_append, y_ws_app ad ca r (k0 + 1) b, List.length_cons]
    rw [show k0 + 1 + r.length = k0 + (r.length + 1) from by omega]
theorem y_ws_len (ad : Nat → Nat) (ca : Nat → ClassId) : ∀ (ds : List x_D) (k0 : Nat), (y_ws ad ca k0 ds).length = ds.length
  | [], _ => rfl
  | d :: r, k0 => by rw [y_ws, List.length_cons, List.length_cons, y_ws_len ad ca r (k0 + 1)]
def y_okc (n c : Nat) : Bool := decide (c < n + 4) || decide (904 ≤ c)
def y_okd (n : Nat) (d : x_D) : Bool := match d.1 with
  | 0 => d.2.2.all (y_okc n)
  | 1 => true
  | 2 => true
  | 3 => true
  | 4 => true
  | 5 => true
  | _ => decide (d.2.2.headD 0 + d.2.1 ≤ n)
def y_agr (n : Nat) (ad' ad : Nat → Nat) : Prop := ∀ k, k < n ∨ 900 ≤ k → ad' k = ad k
theorem y_f_mv {n : Nat} {ad' ad : Nat → Nat} (h : y_agr n ad' ad) {c : Nat} (hc : y_okc n c = true) : y_f ad' c = y_f ad c := by
  unfold y_okc at hc
  simp only [Bool.or_eq_true, decide_eq_true_eq] at hc
  match c with
  | 0 => rfl
  | 1 => rfl
  | 2 => rfl
  | 3 => rfl
  | k + 4 =>
    show Value.ref (ad' k) = Value.ref (ad k)
    rw [h k (by omega)]
theorem y_l_mv {n : Nat} {ad' ad : Nat → Nat} (h : y_agr n ad' ad) {l : List Nat} (hl : l.all (y_okc n) = true) : l.map (y_f ad') = l.map (y_f ad) :=
  List.map_congr_left (fun c hc => y_f_mv h (List.all_eq_true.mp hl c hc))
theorem y_ent_mv {n : Nat} {ad' ad : Nat → Nat} (h : y_agr n ad' ad) {ca : Nat → ClassId} {d : x_D} (hd : y_okd n d = true) : y_ent ad' ca d = y_ent ad ca d := by
  obtain ⟨t, m, l⟩ := d
  match t with
  | 0 => exact congrArg Sum.inr (congrArg (Prod.mk m) (y_l_mv h (l := l) hd))
  | 1 => rfl
  | 2 => rfl
  | 3 => rfl
  | 4 => rfl
  | 5 => rfl
  | t + 6 =>
    have hd' : l.headD 0 + m ≤ n := of_decide_eq_true hd
    show Sum.inl (ca 6, m, Sum.inr (Sum.inr (Sum.inr (Sum.inr (fun j => if j < m then some (ad' (l.headD 0 + j)) else none))))) = Sum.inl (ca 6, m, Sum.inr (Sum.inr (Sum.inr (Sum.inr (fun j => if j < m then some (ad (l.headD 0 + j)) else none)))))
    rw [show (fun j => if j < m then some (ad' (l.headD 0 + j)) else none) = (fun j => if j < m then some (ad (l.headD 0 + j)) else none) from by
      funext j
      by_cases hj : j < m
      · rw [if_pos hj, if_pos hj, h _ (by omega)]
      · rw [if_neg hj, if_neg hj]]
theorem y_ws_mv {n : Nat} {ad' ad : Nat → Nat} (h : y_agr n ad' ad) {ca : Nat → ClassId} : ∀ (ds : List x_D) (k0 : Nat), k0 + ds.length ≤ n → ds.all (y_okd n) = true → y_ws ad' ca k0 ds = y_ws ad ca k0 ds
  | [], k0, _, _ => rfl
  | d :: r, k0, hn, hd => by
    rw [List.length_cons] at hn
    rw [List.all_cons, Bool.and_eq_true] at hd
    rw [y_ws, y_ws, h k0 (by omega), y_ent_mv h hd.1, y_ws_mv h r (k0 + 1) (by omega) hd.2]
def y_ad (ad : Nat → Nat) (n q : Nat) : Nat → Nat := fun k => if k = n then q else ad k
theorem y_ad_agr {ad : Nat → Nat} {n q : Nat} (hn : n < 900) : y_agr n (y_ad ad n q) ad := fun k hk => if_neg (by omega)
theorem y_agr.trans {n m : Nat} {a b c : Nat → Nat} (h1 : y_agr m a b) (h2 : y_agr n b c) (hnm : n ≤ m) : y_agr n a c := fun k hk => (h1 k (by omega)).trans (h2 k hk)
/-- all that is there speaks of cells that are there -/
def y_ok (ds : List x_D) (lv : List (Nat × Nat)) (st : List Nat) : Bool := ds.all (y_okd ds.length) && lv.all (fun q => y_okc ds.length q.2) && st.all (y_okc ds.length) && decide (ds.length < 900)
def y_lv (ad : Nat → Nat) (lv : List (Nat × Nat)) : List (Nat × Value) := lv.map (fun q => (q.1, y_f ad q.2))
theorem y_lv_mv {n : Nat} {ad' ad : Nat → Nat} (h : y_agr n ad' ad) {lv : List (Nat × Nat)} (hl : lv.all (fun q => y_okc n q.2) = true) : y_lv ad' lv = y_lv ad lv :=
  List.map_congr_left (fun q hq => by rw [y_f_mv h (List.all_eq_true.mp hl q hq)])
theorem y_lv_at {ad : Nat → Nat} {lv : List (Nat × Nat)} {j i c : Nat} (h : lv[j]? = some (i, c)) : (y_lv ad lv)[j]? = some (i, y_f ad c) := by
  unfold y_lv
  rw [List.getElem?_map, h]
  rfl
theorem y_set {ad : Nat → Nat} {ca : Nat → ClassId} {ds : List x_D} {k ci i cd : Nat} {fs : List Nat} (h : ds[k]? = some (0, ci, fs)) : (y_ws ad ca 0 ds).set k (ad k, .inr (ci, (fs.map (y_f ad)).set i (y_f ad cd))) = y_ws ad ca 0 (ds.set k (0, ci, fs.set i cd)) := by
  have hk : k < ds.length := (List.getElem?_eq_some_iff.mp h).1
  have hk2 : k < (y_ws ad ca 0 ds).length := (List.getElem?_eq_some_iff.mp (y_at (ad := ad) (ca := ca) h)).1
  apply List.ext_getElem?
  intro a
  by_cases ha : a = k
  · subst ha
    rw [List.getElem?_set_self hk2, y_at (List.getElem?_set_self hk)]
    show some (ad a, Sum.inr (ci, (fs.map (y_f ad)).set i (y_f ad cd))) = some (ad a, Sum.inr (ci, (fs.set i cd).map (y_f ad)))
    rw [List.map_set]
  · rw [List.getElem?_set_ne (Ne.symm ha), y_ws_at, y_ws_at, List.getElem?_set_ne (Ne.symm ha)]
/-- links of the private constructors of a nest mate -/
def y_nest : List (String × Nat × MethodName × String) := [(RX10, 11, yX9_init, RX10), (RX10, 18, yX1_init, RX10), (RX10, 25, yX3_init, RX10), (RX3, 11, yX1_init, RX10), (RX10, 32, yX8_init, RX10), (RX10, 78, yX2_init, RX10), (RX10, 85, yX5_init, RX10)]
theorem y_AOspec {A : Array Value} {s : State} (h : (Cond.arrayOver (.array .int)).before A s = true) : ∃ (comp c : ClassId) (k : Class), s.vm.findClass (FieldType.array .int).toString = some comp ∧ (s.vm.classes.findIdx? fun (x : Class) => match x.kind with | .array component _ => component == comp | _ => false) = some c ∧ s.vm.classes[c]? = some k ∧ (∃ cm : ClassId, k.kind = .array cm (.array .int)) ∧ s.vm.findClass ("[" ++ (FieldType.array .int).toString) = some c := by
  simp only [Cond.before, Cond.holds, Cond.value, beq_iff_eq] at h
  cases hc : s.vm.findClass (FieldType.array .int).toString with
  | none => simp [hc] at h
  | some comp =>
    simp only [hc, Option.bind_some, Option.bind_eq_some_iff, Option.map_eq_some_iff] at h
    obtain ⟨c, hi, k, hk, hb⟩ := h
    cases hkind : k.kind with
    | array cm ty =>
      rw [hkind] at hb
      simp at hb
      exact ⟨comp, c, k, rfl, hi, hk, ⟨cm, by rw [hkind, hb.1]⟩, hb.2⟩
    | _ => rw [hkind] at hb; simp at hb
theorem y_AOmoved {A A' : Array Value} {u U : State} (hvm : u.vm.Alike U.vm) (h : (Cond.arrayOver (.array .int)).before A u = true) : (Cond.arrayOver (.array .int)).before A' U = true := by
  obtain ⟨comp, c, k, h1, h2, h3, ⟨cm, h4⟩, h5⟩ := y_AOspec h
  obtain ⟨k', hk', he⟩ := hvm.2.2 _ _ h3
  have hi : (U.vm.classes.findIdx? fun (x : Class) => match x.kind with | .array component _ => component == comp | _ => false) = some c := by
    have e1 := va_idx_bare U.vm comp
    have e2 := va_idx_bare u.vm comp
    have e3 : U.vm.bare = u.vm.bare := by first | exact hvm.bare_eq | exact hvm.bare_eq.symm
    rw [e3] at e1
    exact e1.symm.trans (e2.trans h2)
  have hkind : k'.kind = .array cm (.array .int) := by rw [he]; exact h4
  have f1 : U.vm.findClass (FieldType.array .int).toString = some comp := by rw [hvm.findClass]; exact h1
  have f2 : U.vm.findClass ("[" ++ (FieldType.array .int).toString) = some c := by rw [hvm.findClass]; exact h5
  unfold Cond.before Cond.holds
  simp only [Cond.value]
  rw [f1, Option.bind_some]
  refine (congrArg (fun o : Option Nat => (o.bind (fun c => (U.vm.classes[c]?).map fun (k : Class) => match k.kind with | .array _ ty => decide (ty = FieldType.array .int) && decide (U.vm.findClass ("[" ++ (FieldType.array .int).toString) = some c) | _ => false) == some true)) hi).trans ?_
  simp [hk', hkind, f2]
def y_NC (U : State) : Prop := (∀ q ∈ y_nest, va_Nw (.methodLinkNest q.1 q.2.1 q.2.2.1 q.2.2.2) U) ∧ va_Nw (.arrayOver (.array .int)) U
abbrev y_J : Type := List x_D → Nat → Nat → Nat → List (Nat × Nat) → List Nat → Prop
def y_V (p : Program) (l : Launch) (e : Env) (R : Room) (s : State) (m : MethodId) (args : Array Value) (below : List Frame) (meth : Method) (c : Code) (nL : Nat) (D : va_G) (ca : Nat → ClassId) (n0 : Nat) (ad0 : Nat → Nat) (A : Nat → Prop) (Q : State → Prop) : y_J := fun ds cells slots pc lv st =>
  ∀ (ad : Nat → Nat) (H : Heap) (locs : List Loc) (ls : Array Slot), y_agr n0 ad ad0 → va_P D vwCl (y_ws ad ca 0 ds) H → va_D A (y_ws ad ca 0 ds) → va_S A s.heap H locs → lv_has ls nL (y_lv ad lv) → W p l e R s m args below meth c H locs cells slots Q (F0 m pc ls (st.map (y_f ad)))
def y_A (ad : Nat → Nat) (n0 sz : Nat) : Nat → Prop := fun q => (∃ k, k < n0 ∧ q = ad k) ∨ sz ≤ q
def y_Qm (D : va_G) (ad : Nat → Nat) (ca : Nat → ClassId) (n0 : Nat) (ds' : List x_D) (sz : Nat) : Array Value → State → Outcome → State → Prop := fun _ st oc t =>
  (oc = .returned none ∧ ∃ ad' : Nat → Nat, y_agr n0 ad' ad ∧ va_P D vwCl (y_ws ad' ca 0 ds') t.heap ∧ va_D (y_A ad n0 sz) (y_ws ad' ca 0 ds')) ∧ va_F (y_A ad n0 sz) st t
def y_Pc (D : va_G) (ad : Nat → Nat) (ca : Nat → ClassId) (ds : List x_D) (As : List Nat) (sz : Nat) : Array Value → State → Prop :=
  va_Pc (As.map (y_f ad)) (fun U => U.heap.size = sz ∧ va_P D vwCl (y_ws ad ca 0 ds) U.heap ∧ va_K D vwCl (x_tys ca) U ∧ va_D (fun _ => True) (y_ws ad ca 0 ds) ∧ y_NC U)
def y_rm (dp mc ms : Nat) : Room := { frames := dp, cells := mc, slots := ms, locals := 50 * dp }
/-- the contract of a constructor: from the cells ds with the arguments As it makes the cells ds' -/
def y_Met (y : MethodName) (cc : ByteArray) (nL : Nat) (dp mc ms : Nat) (ds : List x_D) (As : List Nat) (ds' : List x_D) : Prop :=
  ∀ (l : Launch) (D : va_G) (ad : Nat → Nat) (ca : Nat → ClassId) (sz : Nat), Met l y (Cond.code y cc nL none :: lw_big) (y_rm dp mc ms) (y_Pc D ad ca ds As sz) (y_Qm D ad ca ds.length ds' sz) mc ms (y_A ad ds.length sz)
/-- what stands fixed while something is made -/
def y_Is (V : y_J) (cc : ByteArray) (nL : Nat) (own : String) (n0 dp mc ms : Nat) : Prop :=
  ∃ (p : Program) (l : Launch) (e : Env) (R : Room) (s : State) (m : MethodId) (args : Array Value) (below : List Frame) (meth : Method) (c : Code) (w0 : Cond) (D : va_G) (ca : Nat → ClassId) (ad0 : Nat → Nat) (A : Nat → Prop) (Q : State → Prop),
    V = y_V p l e R s m args below meth c nL D ca n0 ad0 A Q ∧ CallFix p m c cc nL s args (w0 :: lw_big) own ∧ (va_K D vwCl (x_tys ca) s ∧ y_NC s) ∧ dp ≤ R.frames ∧ 50 * dp ≤ R.locals ∧ mc ≤ R.cells ∧ ms ≤ R.slots ∧ (∀ q, s.heap.size ≤ q → A q)
/-- as y_Is, in a constructor -/
def y_IsC (V : y_J) (cc : ByteArray) (nL : Nat) (own : String) (n0 dp mc ms : Nat) (ds' : List x_D) : Prop :=
  ∃ (p : Program) (l : Launch) (e : Env) (R : Room) (s : State) (m : MethodId) (args : Array Value) (below : List Frame) (meth : Method) (c : Code) (w0 : Cond) (D : va_G) (ca : Nat → ClassId) (ad0 : Nat → Nat),
    V = y_V p l e R s m args below meth c nL D ca n0 ad0 (y_A ad0 n0 s.heap.size) (MQ below (y_Qm D ad0 ca n0 ds' s.heap.size) args s mc ms (y_A ad0 n0 s.heap.size)) ∧ CallFix p m c cc nL s args (w0 :: lw_big) own ∧ (va_K D vwCl (x_tys ca) s ∧ y_NC s) ∧ dp ≤ R.frames ∧ 50 * dp ≤ R.locals ∧ mc ≤ R.cells ∧ ms ≤ R.slots ∧ meth.sig.returnType = none ∧ meth.locks = false ∧ meth.name = "<init>"
theorem y_NC.moved {u U : State} (h : u.vm = U.vm) (hZ : y_NC u) : y_NC U := ⟨fun q hq => va_Nw.same rfl h (hZ.1 q hq), y_AOmoved (by rw [h]; exact Vm.Alike.refl _) hZ.2⟩
def y_args : Nat → List Nat → List (Nat × Nat)
  | _, [] => []
  | i, c :: r => (i, c) :: y_args (i + 1) r
def y_refs (As : List Nat) : Bool := As.all (fun c => decide (4 ≤ c))
theorem y_f_cat {ad : Nat → Nat} {c : Nat} (h : 4 ≤ c) : (y_f ad c).category = 1 := by
  match c, h with
  | k + 4, _ => rfl
theorem y_args_lv (ad : Nat → Nat) : ∀ (As : List Nat) (i : Nat), y_refs As = true → lv_args i (As.map (y_f ad)) = y_lv ad (y_args i As)
  | [], i, _ => rfl
  | c :: r, i, h => by
    unfold y_refs at h
    rw [List.all_cons, Bool.and_eq_true] at h
    have h1 : 4 ≤ c := of_decide_eq_true h.1
    rw [List.map_cons, lv_args, if_neg (by rw [y_f_cat h1]; decide), y_args_lv ad r (i + 1) h.2]
    rfl
theorem y_lg_len (ad : Nat → Nat) : ∀ (As : List Nat), y_refs As = true → (lg_sl (As.map (y_f ad))).length = As.length
  | [], _ => rfl
  | c :: r, h => by
    unfold y_refs at h
    rw [List.all_cons, Bool.and_eq_true] at h
    have h1 : 4 ≤ c := of_decide_eq_true h.1
    match c, h1 with
    | k + 4, _ =>
      have := y_lg_len ad r h.2
      have e : lg_sl (.ref (ad k) :: r.map (y_f ad)) = .val (.ref (ad k)) :: lg_sl (r.map (y_f ad)) := rfl
      show (lg_sl (.ref (ad k) :: r.map (y_f ad))).length = _
      rw [e, List.length_cons, this, List.length_cons]
section YE
variable {V : y_J} {cc : ByteArray} {nL : Nat} {own : String} {n0 dp mc ms : Nat} {ds ds' : List x_D} {cells slots pc : Nat} {lv : List (Nat × Nat)} {st : List Nat}
theorem y_isC (X : y_IsC V cc nL own n0 dp mc ms ds') : y_Is V cc nL own n0 dp mc ms := by
  obtain ⟨p, l, e, R, s, m, args, below, meth, c, w0, D, ca, ad0, h, S, hK, hf1, hf2, hf3, hf4, -⟩ := X
  exact ⟨p, l, e, R, s, m, args, below, meth, c, w0, D, ca, ad0, _, _, h, S, hK, hf1, hf2, hf3, hf4, fun q hq => Or.inr hq⟩
theorem y_met {y : MethodName} {As : List Nat} (hy : plainName y.cls = true) (hi : y.name = "<init>") (hr : y_refs As = true) (hn : As.length ≤ nL)
    (body : ∀ V, y_IsC V cc nL y.cls ds.length dp mc ms ds' → V ds 0 0 0 (y_args 0 As) []) : y_Met y cc nL dp mc ms ds As ds' := by
  intro l D ad ca sz
  refine Met.ofW (cc := cc) (maxL := nL) (ret := none) hy rfl ?_
  intro p e s m args below meth c s₁ B hml hv
  obtain ⟨rfl, hsz, hP, hK, hD0, hN⟩ := hv
  subst hsz
  rw [lg_entry_eq]
  refine body _ ⟨p, l, e, _, s, m, _, below, meth, c, _, D, ca, ad, rfl, ⟨B.exec, B.bytes, hml, findClass_of_methodNamed B.named, atoms_spec (ws := Cond.code y cc nL none :: lw_big) B.pre⟩, ⟨hK, hN⟩, Nat.le_refl _, Nat.le_refl _, Nat.le_refl _, Nat.le_refl _, B.returns, B.notSynchronized, (name_of_methodNamed B.named B.method).1.trans hi⟩ ad s.heap [] _ (fun _ _ => rfl) hP ?_ va_S.rf ?_
  · refine hD0.weaken (fun k q hk _ => Or.inl ?_)
    rw [y_ws_at] at hk
    cases hd : ds[k]? with
    | none => rw [hd] at hk; cases hk
    | some d =>
      rw [hd] at hk
      cases hk
      exact ⟨k, (List.getElem?_eq_some_iff.mp hd).1, by simp⟩
  · rw [← y_args_lv ad As 0 hr]
    exact lv_entry (As.map (y_f ad)) (by rw [y_lg_len ad As hr]; exact hn)
theorem y_iconst (X : y_Is V cc nL own n0 dp mc ms) {n : Int} (cd : Nat) (hd : decode cc pc = .ok (.iconst n, 1)) (hv : ∀ ad, y_f ad cd = Value.int (Int32.ofInt n)) (k9 : V ds cells slots (pc + 1) lv (cd :: st)) : V ds cells slots pc lv st := by
  obtain ⟨p, l, e, R, s, m, args, below, meth, c, w0, D, ca, ad0, A, Q, rfl, S, -⟩ := X
  intro ad H locs ls h0 h1 h2 h3 h4
  have k := k9 ad H locs ls h0 h1 h2 h3 h4
  rw [List.map_cons, hv ad] at k
  exact lv_iconst S.1 S.2.1 hd rfl k
theorem y_aload_n (X : y_Is V cc nL own n0 dp mc ms) {k : Fin 4} {i x : Nat} (hd : decode cc pc = .ok (.aload_n k, 1)) (hi : (k : Nat) = i) (j : Nat) (hl : lv[j]? = some (i, x + 4)) (k9 : V ds cells slots (pc + 1) lv ((x + 4) :: st)) : V ds cells slots pc lv st := by
  obtain ⟨p, l, e, R, s, m, args, below, meth, c, w0, D, ca, ad0, A, Q, rfl, S, -⟩ := X
  intro ad H locs ls h0 h1 h2 h3 h4
  exact lv_aload_n (x := ad x) S.1 S.2.1 hd hi (lv_at h4 j (y_lv_at hl)) (k9 ad H locs ls h0 h1 h2 h3 h4)
theorem y_aload (X : y_Is V cc nL own n0 dp mc ms) {i x : Nat} (hd : decode cc pc = .ok (.aload i, 2)) (j : Nat) (hl : lv[j]? = some (i, x + 4)) (k9 : V ds cells slots (pc + 2) lv ((x + 4) :: st)) : V ds cells slots pc lv st := by
  obtain ⟨p, l, e, R, s, m, args, below, meth, c, w0, D, ca, ad0, A, Q, rfl, S, -⟩ := X
  intro ad H locs ls h0 h1 h2 h3 h4
  exact lv_aload (x := ad x) S.1 S.2.1 hd (lv_at h4 j (y_lv_at hl)) (k9 ad H locs ls h0 h1 h2 h3 h4)
theorem y_dup (X : y_Is V cc nL own n0 dp mc ms) {x : Nat} (hd : decode cc pc = .ok (.dup, 1)) (k9 : V ds cells slots (pc + 1) lv ((x + 4) :: (x + 4) :: st)) : V ds cells slots pc lv ((x + 4) :: st) := by
  obtain ⟨p, l, e, R, s, m, args, below, meth, c, w0, D, ca, ad0, A, Q, rfl, S, -⟩ := X
  intro ad H locs ls h0 h1 h2 h3 h4
  exact lv_dup (va := .ref (ad x)) S.1 S.2.1 hd rfl (k9 ad H locs ls h0 h1 h2 h3 h4)
theorem y_get (X : y_Is V cc nL own n0 dp mc ms) {index k i ci cd : Nat} {fs : List Nat} (hd : decode cc pc = .ok (.getfield index, 3)) (hF : x_FL own index ci i) (hds : ds[k]? = some (0, ci, fs)) (hf : fs[i]? = some cd) (k9 : V ds cells slots (pc + 3) lv (cd :: st)) : V ds cells slots pc lv ((k + 4) :: st) := by
  obtain ⟨p, l, e, R, s, m, args, below, meth, c, w0, D, ca, ad0, A, Q, rfl, S, ⟨hK, -⟩, -⟩ := X
  obtain ⟨C, T, N, ref, hc, hi, hin, hl, hr⟩ := hF
  intro ad H locs ls h0 h1 h2 h3 h4
  exact va_get (D := D) (ci := ci) (C := C) (T := T) (N := N) (Ts := w0 :: lw_big) (ref := ref) S.1 S.2.1 S.2.2.2.2 (fun w h => List.mem_cons_of_mem _ (hin w h)) S.2.2.2.1 hK h1 k (fs := fs.map (y_f ad)) (y_at hds) hc i hi (S.2.2.2.2 _ (List.mem_cons_of_mem _ hl)) (fun x h => by rw [← hr]; exact h) (v := y_f ad cd) (by rw [List.getElem?_map, hf]; rfl) hd (k9 ad H locs ls h0 h1 h2 h3 h4)
/-- what fits a field of that type -/
def y_fit (ty : FieldType) (cd : Nat) : Bool := match ty with
  | .int => decide (cd < 2)
  | .object _ => decide (4 ≤ cd)
  | .array _ => decide (4 ≤ cd)
  | _ => false
theorem y_fit_ok {ty : FieldType} {cd : Nat} (h : y_fit ty cd = true) (ad : Nat → Nat) : narrow ty (y_f ad cd) = y_f ad cd ∧ fits ty (y_f ad cd) = true := by
  cases ty with
  | int =>
    have h1 : cd < 2 := of_decide_eq_true h
    match cd, h1 with
    | 0, _ => exact ⟨rfl, rfl⟩
    | 1, _ => exact ⟨rfl, rfl⟩
  | object C =>
    have h1 : 4 ≤ cd := of_decide_eq_true h
    match cd, h1 with
    | k + 4, _ => exact ⟨rfl, rfl⟩
  | array C =>
    have h1 : 4 ≤ cd := of_decide_eq_true h
    match cd, h1 with
    | k + 4, _ => exact ⟨rfl, rfl⟩
  | _ => cases h
/-- a field that the code of own may set in a constructor, final or not -/
def y_FT (own : String) (ci i : Nat) (ty : FieldType) : Prop := ∃ (C : String) (T : u_T) (N : Nat) (t0 : Nat → FieldType), vwCl[ci]? = some (C, T, N) ∧ (∀ k, k < N → parseFieldDescriptor (T k).2.2.1 = some (t0 k)) ∧ (∀ a, a < N → ∀ b, b < N → a ≠ b → (T a).2.1 ≠ (T b).2.1) ∧ (T i).1 = own ∧ parseFieldDescriptor (T i).2.2.1 = some ty
theorem y_put (X : y_IsC V cc nL own n0 dp mc ms ds') {index k i ci cd : Nat} {fs : List Nat} {ty : FieldType} (hd : decode cc pc = .ok (.putfield index, 3)) (hF : x_FL own index ci i) (hT : y_FT own ci i ty) (hfit : y_fit ty cd = true) (hds : ds[k]? = some (0, ci, fs)) (hil : i < fs.length) {dsn : List x_D} (hdn : ds.set k (0, ci, fs.set i cd) = dsn) (k9 : V dsn cells slots (pc + 3) lv st) : V ds cells slots pc lv (cd :: (k + 4) :: st) := by
  subst hdn
  obtain ⟨p, l, e, R, s, m, args, below, meth, c, w0, D, ca, ad0, rfl, S, ⟨hK, -⟩, -, -, -, -, -, -, hnm0⟩ := X
  obtain ⟨C, T, N, ref, hc, hi, hin, hl, hr⟩ := hF
  obtain ⟨C', T', N', t0, hc', ht0, hnm, hown, hty⟩ := hT
  cases hc.symm.trans hc'
  intro ad H locs ls h0 h1 h2 h3 h4
  have hf := y_fit_ok hfit ad
  have kk : ∀ (H1 : Heap) (locs1 : List Loc), va_P D vwCl ((y_ws ad ca 0 ds).set k (ad k, .inr (ci, (fs.map (y_f ad)).set i (y_f ad cd)))) H1 → va_D (y_A ad0 n0 s.heap.size) ((y_ws ad ca 0 ds).set k (ad k, .inr (ci, (fs.map (y_f ad)).set i (y_f ad cd)))) → va_S (y_A ad0 n0 s.heap.size) s.heap H1 locs1 → W p l e R s m args below meth c H1 locs1 cells slots (MQ below (y_Qm D ad0 ca n0 ds' s.heap.size) args s mc ms (y_A ad0 n0 s.heap.size)) (F0 m (pc + 3) ls (st.map (y_f ad))) := by
    intro H1 locs1 g1 g2 g3
    rw [y_set hds] at g1 g2
    exact k9 ad H1 locs1 ls h0 g1 g2 g3 h4
  cases hfin : (T i).2.2.2 with
  | false => exact va_put (D := D) (ci := ci) (C := C) (T := T) (N := N) (Ts := w0 :: lw_big) (ref := ref) (v := y_f ad cd) (ty := ty) S.1 S.2.1 S.2.2.2.2 (fun w h => List.mem_cons_of_mem _ (hin w h)) t0 ht0 hnm S.2.2.2.1 hK h1 h2 h3 k (fs := fs.map (y_f ad)) (y_at hds) hc i hi (S.2.2.2.2 _ (List.mem_cons_of_mem _ hl)) (fun x h => by rw [← hr]; exact h) hfin hty hf.1 hf.2 (by rw [List.length_map]; exact hil) hd kk
  | true => exact va_putF (D := D) (ci := ci) (C := C) (T := T) (N := N) (Ts := w0 :: lw_big) (ref := ref) (v := y_f ad cd) (ty := ty) S.1 S.2.1 S.2.2.2.2 (fun w h => List.mem_cons_of_mem _ (hin w h)) t0 ht0 hnm S.2.2.2.1 hK h1 h2 h3 k (fs := fs.map (y_f ad)) (y_at hds) hc i hi (S.2.2.2.2 _ (List.mem_cons_of_mem _ hl)) (fun x h => by rw [← hr]; exact h) hfin hnm0 hown hty hf.1 hf.2 (by rw [List.length_map]; exact hil) hd kk
theorem y_objInit (X : y_Is V cc nL own n0 dp mc ms) {index k : Nat} (hd : decode cc pc = .ok (.invokespecial index, 3)) (hl : Cond.methodLink own index Lib.objectInit ∈ lw_big) (hi : Cond.instanceMethod Lib.objectInit ∈ lw_big) (hc : Cond.code Lib.objectInit ⟨#[0xb1]⟩ 1 none ∈ lw_big) (hdp : 1 ≤ dp) (k9 : V ds cells slots (pc + 3) lv []) : V ds cells slots pc lv [k + 4] := by
  obtain ⟨p, l, e, R, s, m, args, below, meth, c, w0, D, ca, ad0, A, Q, rfl, S, -, hf1, hf2, hf3, hf4, hA⟩ := X
  have hb : ∀ w ∈ lw_big, w.before args s = true := fun w h => S.2.2.2.2 w (List.mem_cons_of_mem _ h)
  intro ad H locs ls h0 h1 h2 h3 h4
  exact W.objInit S.1 S.2.1 S.2.2.2.1 (hb _ hl) (hb _ hi) (hb _ hc) rfl (h4.1.trans S.2.2.1.symm) (a := ad k) (rest := []) rfl hd (by omega) (by show 2 * 0 + 0 + 12 ≤ R.locals; omega) (k9 ad H locs ls h0 h1 h2 h3 h4)
/-- the world with one cell more -/
theorem y_grow {ad : Nat → Nat} {ca : Nat → ClassId} {ds : List x_D} {d : x_D} {q n : Nat} (hn : ds.length = n) (h9 : n < 900) (hds : ds.all (y_okd n) = true) : y_ws ad ca 0 ds ++ [(q, y_ent (y_ad ad n q) ca d)] = y_ws (y_ad ad n q) ca 0 (ds ++ [d]) := by
  rw [y_ws_app, y_ws_mv (y_ad_agr h9) ds 0 (by omega) hds]
  show _ = _ ++ [(y_ad ad n q (0 + ds.length), _)]
  rw [Nat.zero_add, hn]
  unfold y_ad
  rw [if_pos rfl]
theorem y_ok_of {ds : List x_D} {lv : List (Nat × Nat)} {st : List Nat} (h : y_ok ds lv st = true) : ds.all (y_okd ds.length) = true ∧ lv.all (fun q => y_okc ds.length q.2) = true ∧ st.all (y_okc ds.length) = true ∧ ds.length < 900 := by
  unfold y_ok at h
  simp only [Bool.and_eq_true, decide_eq_true_eq] at h
  exact ⟨h.1.1.1, h.1.1.2, h.1.2, h.2⟩
/-- the arrays of primitive elements that are made -/
def y_aty : Jvm.ClassFile.ArrayType → Nat
  | .int => 1
  | .boolean => 2
  | .byte => 3
  | .long => 4
  | .double => 5
  | _ => 0
theorem y_arrC {D : va_G} {ca : Nat → ClassId} {s : State} {args : Array Value} (hK : va_K D vwCl (x_tys ca) s) {k t : Nat} {ty : FieldType} (h : (x_tys ca)[k]? = some (ca t, ty)) (hf : s.vm.findClass ("[" ++ ty.toString) = some (ca t)) : (Cond.arrayClass ty).before args s = true := by
  obtain ⟨-, kA, h1, cm, h2⟩ := (hK.2 k _ h).1 0 (fun _ => .null)
  have h1 : s.vm.classes[ca t]? = some kA := h1
  simp [Cond.before, Cond.holds, Cond.value, hf, h1, h2]
theorem y_arrF {D : va_G} {ca : Nat → ClassId} {s : State} {args : Array Value} (hK : va_K D vwCl (x_tys ca) s) (a : Jvm.ClassFile.ArrayType) {t : Nat} (ht : y_aty a = t) (h0 : t ≠ 0) : (Cond.arrayClass (newarray.typeOf a)).before args s = true ∧ s.vm.findClass ("[" ++ (newarray.typeOf a).toString) = some (ca t) ∧ componentBytes (newarray.typeOf a) ≤ 8 ∧
    ∀ (ad : Nat → Nat) (q N : Nat) (H1 : Heap), H1[q]? = some (arrV (ca t) N (fun _ => defaultValue (newarray.typeOf a))) → va_at D vwCl (q, y_ent ad ca (t, N, [])) H1 := by
  subst ht
  cases a with
  | int => exact ⟨y_arrC hK (k := 0) rfl (hK.2 0 _ rfl).2, (hK.2 0 _ rfl).2, by decide, fun ad q N H1 h => h⟩
  | boolean => exact ⟨y_arrC hK (k := 1) rfl (hK.2 1 _ rfl).2, (hK.2 1 _ rfl).2, by decide, fun ad q N H1 h => h⟩
  | byte => exact ⟨y_arrC hK (k := 2) rfl (hK.2 2 _ rfl).2, (hK.2 2 _ rfl).2, by decide, fun ad q N H1 h => h⟩
  | long => exact ⟨y_arrC hK (k := 3) rfl (hK.2 3 _ rfl).2, (hK.2 3 _ rfl).2, by decide, fun ad q N H1 h => h⟩
  | double => exact ⟨y_arrC hK (k := 4) rfl (hK.2 4 _ rfl).2, (hK.2 4 _ rfl).2, by decide, fun ad q N H1 h => h⟩
  | _ => exact absurd rfl h0
theorem y_newaW {p : Program} {l : Launch} {e : Env} {R : Room} {s : State} {m : MethodId} {args : Array Value} {below : List Frame} {meth : Method} {c : Code} {Ts : List Cond} {D : va_G} {ca : Nat → ClassId} {ad0 : Nat → Nat} {A : Nat → Prop} {Q : State → Prop} {ad : Nat → Nat} {H : Heap} {locs : List Loc} {ls : Array Slot}
    (S : CallFix p m c cc nL s args Ts own) (hK : va_K D vwCl (x_tys ca) s) (hf3 : mc ≤ R.cells) (hf4 : ms ≤ R.slots) (hA : ∀ q, s.heap.size ≤ q → A q) {a : Jvm.ClassFile.ArrayType} {t N : Nat} {n : Int32} (hd : decode cc pc = .ok (.newarray a, 2)) (ht : y_aty a = t) (h9 : t ≠ 0) (hn : ¬ n < 0) (hN : n.toNatClampNeg = N) (hb : N ≤ 10000) (hc : cells + 1 ≤ mc ∧ slots + N ≤ ms) (hok : y_ok ds lv st = true) (hn0 : n0 ≤ ds.length)
    (h0 : y_agr n0 ad ad0) (h1 : va_P D vwCl (y_ws ad ca 0 ds) H) (h2 : va_D A (y_ws ad ca 0 ds)) (h3 : va_S A s.heap H locs) (h4 : lv_has ls nL (y_lv ad lv))
    (k9 : y_V p l e R s m args below meth c nL D ca n0 ad0 A Q (ds ++ [(t, N, [])]) (cells + 1) (slots + N) (pc + 2) lv ((ds.length + 4) :: st)) : W p l e R s m args below meth c H locs cells slots Q (F0 m pc ls (.int n :: st.map (y_f ad))) := by
  obtain ⟨o1, o2, o3, o4⟩ := y_ok_of hok
  obtain ⟨f1, f2, f3, f4⟩ := y_arrF (args := args) hK a ht h9
  have hmul : N * componentBytes (newarray.typeOf a) ≤ 10000 * 8 := Nat.mul_le_mul hb f3
  refine va_newaK S.1 S.2.1 f1 rfl hd rfl hn hN (by omega) (by omega) (by omega) rfl fun H1 cA e1 z1 e2 hAr hNm => ?_
  have ec : some cA = some (ca t) := hNm.symm.trans f2
  cases ec
  have hg := y_grow (ad := ad) (ca := ca) (d := (t, N, [])) (q := H.size) rfl o4 o1
  have hk : ∀ (k : Nat) (x : Nat × va_E), (y_ws ad ca 0 ds)[k]? = some x → H1[x.1]? = H[x.1]? := fun k x hx => e2 x.1 ((h1 k x hx).lt)
  have g1 := (h1.kept hk).app (w2 := [(H.size, y_ent (y_ad ad ds.length H.size) ca (t, N, []))]) (fun k x hx => by
    have hz : k < 1 := (List.getElem?_eq_some_iff.mp hx).1
    rw [show k = 0 by omega] at hx
    cases hx
    exact f4 _ _ _ _ e1)
  have g2 := h2.push (e := y_ent (y_ad ad ds.length H.size) ca (t, N, [])) h1 rfl (hA _ h3.1)
  rw [hg] at g1 g2
  have hagr := y_ad_agr (ad := ad) (q := H.size) o4
  have k := k9 (y_ad ad ds.length H.size) H1 locs ls (hagr.trans h0 hn0) g1 g2 ⟨Nat.le_trans h3.1 (by omega), fun x g5 g6 => (e2 x (Nat.lt_of_lt_of_le g5 h3.1)).trans (h3.2.1 x g5 g6), h3.2.2⟩ (by rw [y_lv_mv hagr o2]; exact h4)
  rw [List.map_cons, y_l_mv hagr o3, show y_f (y_ad ad ds.length H.size) (ds.length + 4) = .ref H.size from by show Value.ref (y_ad ad ds.length H.size ds.length) = _; unfold y_ad; rw [if_pos rfl]] at k
  exact k
theorem y_newB (X : y_Is V cc nL own n0 dp mc ms) {a : Jvm.ClassFile.ArrayType} (t N : Nat) {n : Int} {v : Int32} (hp : decode cc pc = .ok (.bipush n, 2)) (hv : (Int8.ofInt n).toInt32 = v) (hd : decode cc (pc + 2) = .ok (.newarray a, 2)) (ht : y_aty a = t) (h9 : t ≠ 0) (hn : ¬ v < 0) (hN : v.toNatClampNeg = N) (hb : N ≤ 10000) (hc : cells + 1 ≤ mc ∧ slots + N ≤ ms) (hok : y_ok ds lv st = true) (hn0 : n0 ≤ ds.length) {h : Nat} (hh : ds.length + 4 = h) {dsn : List x_D} (hdn : ds ++ [(t, N, [])] = dsn)
    (k9 : V dsn (cells + 1) (slots + N) (pc + 2 + 2) lv (h :: st)) : V ds cells slots pc lv st := by
  subst hdn
  subst hh
  obtain ⟨p, l, e, R, s, m, args, below, meth, c, w0, D, ca, ad0, A, Q, rfl, S, ⟨hK, -⟩, hf1, hf2, hf3, hf4, hA⟩ := X
  intro ad H locs ls h0 h1 h2 h3 h4
  exact lv_bipush S.1 S.2.1 hp hv (y_newaW S hK hf3 hf4 hA hd ht h9 hn hN hb hc hok hn0 h0 h1 h2 h3 h4 k9)
theorem y_newS (X : y_Is V cc nL own n0 dp mc ms) {a : Jvm.ClassFile.ArrayType} (t N : Nat) {n : Int} {v : Int32} (hp : decode cc pc = .ok (.sipush n, 3)) (hv : (Int16.ofInt n).toInt32 = v) (hd : decode cc (pc + 3) = .ok (.newarray a, 2)) (ht : y_aty a = t) (h9 : t ≠ 0) (hn : ¬ v < 0) (hN : v.toNatClampNeg = N) (hb : N ≤ 10000) (hc : cells + 1 ≤ mc ∧ slots + N ≤ ms) (hok : y_ok ds lv st = true) (hn0 : n0 ≤ ds.length) {h : Nat} (hh : ds.length + 4 = h) {dsn : List x_D} (hdn : ds ++ [(t, N, [])] = dsn)
    (k9 : V dsn (cells + 1) (slots + N) (pc + 3 + 2) lv (h :: st)) : V ds cells slots pc lv st := by
  subst hdn
  subst hh
  obtain ⟨p, l, e, R, s, m, args, below, meth, c, w0, D, ca, ad0, A, Q, rfl, S, ⟨hK, -⟩, hf1, hf2, hf3, hf4, hA⟩ := X
  intro ad H locs ls h0 h1 h2 h3 h4
  exact lv_sipush S.1 S.2.1 hp hv (y_newaW S hK hf3 hf4 hA hd ht h9 hn hN hb hc hok hn0 h0 h1 h2 h3 h4 k9)
theorem y_newI (X : y_Is V cc nL own n0 dp mc ms) {a : Jvm.ClassFile.ArrayType} (t N : Nat) {n : Int} {v : Int32} (hp : decode cc pc = .ok (.iconst n, 1)) (hv : Int32.ofInt n = v) (hd : decode cc (pc + 1) = .ok (.newarray a, 2)) (ht : y_aty a = t) (h9 : t ≠ 0) (hn : ¬ v < 0) (hN : v.toNatClampNeg = N) (hb : N ≤ 10000) (hc : cells + 1 ≤ mc ∧ slots + N ≤ ms) (hok : y_ok ds lv st = true) (hn0 : n0 ≤ ds.length) {h : Nat} (hh : ds.length + 4 = h) {dsn : List x_D} (hdn : ds ++ [(t, N, [])] = dsn)
    (k9 : V dsn (cells + 1) (slots + N) (pc + 1 + 2) lv (h :: st)) : V ds cells slots pc lv st := by
  subst hdn
  subst hh
  obtain ⟨p, l, e, R, s, m, args, below, meth, c, w0, D, ca, ad0, A, Q, rfl, S, ⟨hK, -⟩, hf1, hf2, hf3, hf4, hA⟩ := X
  intro ad H locs ls h0 h1 h2 h3 h4
  exact lv_iconst S.1 S.2.1 hp hv (y_newaW S hK hf3 hf4 hA hd ht h9 hn hN hb hc hok hn0 h0 h1 h2 h3 h4 k9)
def y_dc : FieldType → Nat
  | .long => 3
  | .object _ => 2
  | .array _ => 2
  | _ => 0
def y_dok : FieldType → Bool
  | .float => false
  | .double => false
  | _ => true
theorem y_dc_ok {ty : FieldType} (h : y_dok ty = true) (ad : Nat → Nat) : defaultValue ty = y_f ad (y_dc ty) := by
  cases ty with
  | float => cases h
  | double => cases h
  | _ => rfl
/-- a new object of that class, its fields' codes -/
def y_NO (own : String) (index ci N : Nat) (codes : List Nat) : Prop := ∃ (C : String) (T : u_T) (t0 : Nat → FieldType), vwCl[ci]? = some (C, T, N) ∧ (∀ w ∈ u_ws C T N, w ∈ lw_big) ∧ (∀ k, k < N → parseFieldDescriptor (T k).2.2.1 = some (t0 k)) ∧ (∀ j, j < N → codes[j]? = some (y_dc (t0 j)) ∧ y_dok (t0 j) = true) ∧ Cond.classLink own index C ∈ lw_big ∧ Cond.instantiable C N ∈ lw_big ∧ Cond.initialized C ∈ lw_big ∧ codes.all (fun c => decide (c < 4)) = true
theorem y_new (X : y_Is V cc nL own n0 dp mc ms) {index ci N : Nat} {codes : List Nat} (hd : decode cc pc = .ok (.new index, 3)) (hN : y_NO own index ci N codes) (hc : cells + 1 ≤ mc ∧ slots + N ≤ ms) (hok : y_ok ds lv st = true) (hn0 : n0 ≤ ds.length) {h : Nat} (hh : ds.length + 4 = h) {dsn : List x_D} (hdn : ds ++ [(0, ci, codes)] = dsn)
    (k9 : V dsn (cells + 1) (slots + N) (pc + 3) lv (h :: st)) : V ds cells slots pc lv st := by
  subst hdn
  subst hh
  obtain ⟨p, l, e, R, s, m, args, below, meth, c, w0, D, ca, ad0, A, Q, rfl, S, ⟨hK, -⟩, hf1, hf2, hf3, hf4, hA⟩ := X
  obtain ⟨C, T, t0, n1, n2, n3, n4, n5, n6, n7, n8⟩ := hN
  have hb : ∀ w ∈ lw_big, w.before args s = true := fun w h => S.2.2.2.2 w (List.mem_cons_of_mem _ h)
  obtain ⟨o1, o2, o3, o4⟩ := y_ok_of hok
  intro ad H locs ls h0 h1 h2 h3 h4
  refine va_new (D := D) (ci := ci) (C := C) (T := T) (N := N) (Ts := w0 :: lw_big) (fs := codes.map (y_f ad)) S.1 S.2.1 S.2.2.2.2 (fun w h => List.mem_cons_of_mem _ (n2 w h)) t0 n3 S.2.2.2.1 (hb _ n5) (hb _ n6) (hb _ n7) hK h1 h2 h3 hA n1 (fun j hj => ?_) (by omega) (by omega) hd (fun q H1 g1 g2 g3 => ?_)
  · rw [y_dc_ok (n4 j hj).2 ad]
    show _ = (codes.map (y_f ad)).getD j .null
    rw [List.getD_eq_getElem?_getD, List.getElem?_map, (n4 j hj).1]
    rfl
  · have hagr := y_ad_agr (ad := ad) (q := q) o4
    have ec : codes.map (y_f ad) = codes.map (y_f (y_ad ad ds.length q)) := (y_l_mv hagr (List.all_eq_true.mpr (fun x hx => by
      have := of_decide_eq_true (List.all_eq_true.mp n8 x hx)
      unfold y_okc
      simp only [Bool.or_eq_true, decide_eq_true_eq]
      omega))).symm
    rw [ec] at g1 g2
    have hg := y_grow (ad := ad) (ca := ca) (d := (0, ci, codes)) (q := q) rfl o4 o1
    have hg2 : y_ws ad ca 0 ds ++ [(q, Sum.inr (ci, codes.map (y_f (y_ad ad ds.length q))))] = y_ws (y_ad ad ds.length q) ca 0 (ds ++ [(0, ci, codes)]) := hg
    rw [hg2] at g1 g2
    have k := k9 (y_ad ad ds.length q) H1 locs ls (hagr.trans h0 hn0) g1 g2 g3 (by rw [y_lv_mv hagr o2]; exact h4)
    rw [List.map_cons, y_l_mv hagr o3, show y_f (y_ad ad ds.length q) (ds.length + 4) = .ref q from by show Value.ref (y_ad ad ds.length q ds.length) = _; unfold y_ad; rw [if_pos rfl]] at k
    exact k
theorem y_sum {ad : Nat → Nat} : ∀ (l : List Nat), y_refs l = true → ((l.map (y_f ad)).map fun v => v.category).sum = l.length
  | [], _ => rfl
  | c :: r, h => by
    unfold y_refs at h
    rw [List.all_cons, Bool.and_eq_true] at h
    rw [List.map_cons, List.map_cons, List.sum_cons, y_f_cat (of_decide_eq_true h.1), y_sum r h.2, List.length_cons]
    omega
theorem y_blind {D : va_G} {ad : Nat → Nat} {ca : Nat → ClassId} {As : List Nat} {sz : Nat} : FrameBlind (y_Pc D ad ca ds As sz) := by
  intro a U g mk q
  obtain ⟨q0, q1, qP, qK, qD, qN⟩ := q
  exact ⟨q0, q1, qP, va_K.moved (u := U) (U := U.calling g mk a) (Vm.Alike.refl U.vm) qK, qD, qN.moved rfl⟩
theorem y_NC.warm {s U : State} (hW : s.WarmedH U.vm) (hZ : y_NC s) : y_NC U := ⟨fun q hq => va_Nw.warmM hW (hZ.1 q hq), y_AOmoved hW.alike hZ.2⟩
theorem y_callI (X : y_Is V cc nL own n0 dp mc ms) {index k : Nat} {y : MethodName} {bytes : ByteArray} {maxL dp' mc' ms' : Nat} {As : List Nat} {ds2 : List x_D} (rest : List Nat)
    (hd : decode cc pc = .ok (.invokespecial index, 3)) (hM : y_Met y bytes maxL dp' mc' ms' ds ((k + 4) :: As) ds2) (hcm : x_CM y bytes maxL none As.length) (hin : Cond.instanceMethod y ∈ lw_big) (hnm : y.name = "<init>") (hl : Cond.methodLink own index y ∈ lw_big ∨ (own, index, y, RX10) ∈ y_nest) (hdp : dp' + 1 ≤ dp ∧ maxL ≤ 31) (hc : cells + mc' ≤ mc ∧ slots + ms' ≤ ms) (hst : st = As.reverse ++ (k + 4) :: rest) (hrest : y_refs rest = true ∧ rest.length ≤ 8) (hok : y_ok ds lv st = true) (hn0 : n0 ≤ ds.length)
    (k9 : V ds2 (cells + mc') (slots + ms') (pc + 3) lv rest) : V ds cells slots pc lv st := by
  obtain ⟨p, l, e, R, s, m, args, below, meth, c, w0, D, ca, ad0, A, Q, rfl, S, ⟨hK, hN⟩, hf1, hf2, hf3, hf4, hA⟩ := X
  obtain ⟨hc1, hc2, hc3, hc4⟩ := hcm
  have hT := S.2.2.2.2
  have hb : ∀ w ∈ lw_big, w.before args s = true := fun w h => hT w (List.mem_cons_of_mem _ h)
  obtain ⟨o1, o2, o3, o4⟩ := y_ok_of hok
  intro ad H locs ls h0 h1 h2 h3 h4
  have hAd : ∀ q, y_A ad ds.length H.size q → A q := by
    rintro q (⟨k, hk, rfl⟩ | h)
    · exact h2.2 k _ (y_at (List.getElem?_eq_getElem hk))
    · exact hA q (Nat.le_trans h3.1 h)
  have hr : va_Run p l e R s m args below meth c H locs cells slots mc' ms' (F0 m pc ls (st.map (y_f ad))) (rest.map (y_f ad)) (y_Qm D ad ca ds.length ds2 H.size (((k + 4) :: As).map (y_f ad)).toArray) (y_A ad ds.length H.size) := by
    have hG : GoodIn (w0 :: lw_big) (Cond.code y bytes maxL none :: lw_big) := lw_big_good (fun w hw => by
      rcases List.mem_cons.mp hw with rfl | hw
      · exact hc1
      · exact hw)
    have hpre : PreS s H (y_Pc D ad ca ds ((k + 4) :: As) H.size) (.ref (ad k) :: As.map (y_f ad)) := ⟨y_blind, fun U hU hW => ⟨rfl, by rw [hU], by rw [hU]; exact h1, va_K.moved hW.alike hK, h2.weaken (fun _ _ _ _ => trivial), hN.warm hW⟩⟩
    have hst2 : (F0 m pc ls (st.map (y_f ad))).stack = (As.map (y_f ad)).reverse ++ .ref (ad k) :: rest.map (y_f ad) := by
      show st.map (y_f ad) = _
      rw [hst, List.map_append, List.map_reverse, List.map_cons]
      rfl
    have hrm : 2 * (F0 m pc ls (st.map (y_f ad))).monitorRoom + ((rest.map (y_f ad)).map fun v => v.category).sum ≤ 8 := lv_room (by rw [y_sum rest hrest.1]; exact hrest.2)
    have hd4 : y.cls ≠ "java/lang/invoke/MethodHandle" ∧ y.cls ≠ "java/lang/invoke/VarHandle" ∧ (parseMethodDescriptor y.desc).map (fun d => d.parameters.length) = some (As.map (y_f ad)).length := ⟨hc3.1, hc3.2, by rw [List.length_map]; exact hc4⟩
    rcases hl with hl | hl
    · exact va_runI (As := As.map (y_f ad)) (rest := rest.map (y_f ad)) S (hM l D ad ca H.size) (cwI (As.map (y_f ad)).length hT hG rfl rfl rfl (hb _ hc2) (hb _ hl) (hb _ hin) hnm hd4 ⟨by show dp' + 1 ≤ R.frames; omega, by show 8 + (maxL + 11) + 50 * dp' ≤ R.locals; omega⟩) hpre rfl rfl h4.1 hst2 hrm hd ⟨by omega, by omega⟩
    · exact va_runIN (As := As.map (y_f ad)) (rest := rest.map (y_f ad)) S (hM l D ad ca H.size) ⟨va_cnB (As.map (y_f ad)).length hT hG rfl rfl rfl (hN.1 _ hl) (hb _ hc2) hd4 ⟨by show dp' + 1 ≤ R.frames; omega, by show 8 + (maxL + 11) + 50 * dp' ≤ R.locals; omega⟩, hnm, hb _ hin⟩ hpre rfl rfl h4.1 hst2 hrm hd ⟨by omega, by omega⟩
  intro T hT0 X
  obtain ⟨v, st₀, t, T', L, e0, X', hL, e1, e2, ⟨⟨hv, ad', ha, hb1, hb2⟩, hz, hk⟩, stp⟩ := hr T hT0 X
  cases hv
  rw [e0] at hz hk
  have hrst : rest.all (y_okc ds.length) = true := by
    rw [hst] at o3
    simp only [List.all_append, List.all_cons, Bool.and_eq_true] at o3
    exact o3.2.2
  have k := k9 ad' T'.heap (locs ++ L) ls (ha.trans h0 hn0) (by rw [e1]; exact hb1) (hb2.weaken (fun k q _ h => hAd _ h))
    ⟨Nat.le_trans h3.1 (by rw [e1]; exact hz), fun q g1 g2 => by rw [e1, hk q (Nat.lt_of_lt_of_le g1 h3.1) (fun z => g2 (hAd q z))]; exact h3.2.1 q g1 g2, fun q hq => by
      rcases List.mem_append.mp hq with h | h
      · exact h3.2.2 q h
      · exact hAd _ (hL q h)⟩ (by rw [y_lv_mv ha o2]; exact h4)
  rw [y_l_mv ha hrst] at k
  obtain ⟨t2, a1, b1⟩ := k T' rfl X'
  exact ⟨t2, stp t2 a1, b1⟩
theorem y_ret (X : y_IsC V cc nL own n0 dp mc ms ds') (hd : decode cc pc = .ok (.return_, 1)) (h : ds = ds' ∧ cells = mc ∧ slots = ms) : V ds cells slots pc lv [] := by
  obtain ⟨rfl, rfl, rfl⟩ := h
  obtain ⟨p, l, e, R, s, m, args, below, meth, c, w0, D, ca, ad0, rfl, S, ⟨hK, hN⟩, hf1, hf2, hf3, hf4, hr, hlk, hnm⟩ := X
  intro ad H locs ls h0 h1 h2 h3 h4
  exact W.vret S.1 S.2.1 hr (fun t ht _ => ⟨⟨rfl, ad, h0, by rw [ht]; exact h1, h2⟩, ⟨by rw [ht]; exact h3.1, fun q a b => by rw [ht]; exact h3.2.1 q a b⟩⟩) h3.2.2 hd hlk
end YE
