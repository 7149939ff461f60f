/-! a world of fixed cells: cell k lies at ad k; its ints are σ k, its longs (and doubles' bits) τ k; a description says what each cell is -/
abbrev x_S : Type := Nat → Nat → Int32
abbrev x_L : Type := Nat → Nat → Int64
abbrev x_D : Type := Nat × Nat × List Nat
def x_fv (ad : Nat → Nat) (σ : x_S) (τ : x_L) (k i c : Nat) : Value := if c = 0 then .int (σ k i) else if c = 1 then .long (τ k i) else .ref (ad (c - 2))
def x_fs (ad : Nat → Nat) (σ : x_S) (τ : x_L) (k : Nat) : Nat → List Nat → List Value
  | _, [] => []
  | i, c :: r => x_fv ad σ τ k i c :: x_fs ad σ τ k (i + 1) r
def x_ent (ad : Nat → Nat) (ca : Nat → ClassId) (σ : x_S) (τ : x_L) (k : Nat) (d : x_D) : va_E := match d.1 with
  | 0 => .inr (d.2.1, x_fs ad σ τ k 0 d.2.2)
  | 1 => .inl (ca 1, d.2.1, .inl (σ k))
  | 2 => .inl (ca 2, d.2.1, .inl (σ k))
  | 3 => .inl (ca 3, d.2.1, .inl (σ k))
  | 4 => .inl (ca 4, d.2.1, .inr (.inl (τ k)))
  | 5 => .inl (ca 5, d.2.1, .inr (.inr (.inr (.inl (fun j => (τ k j).toUInt64)))))
  | _ => .inl (ca 6, d.2.1, .inr (.inr (.inr (.inr (fun j => some (ad (d.2.2.headD 0 + j)))))))
def x_ws (ad : Nat → Nat) (ca : Nat → ClassId) (σ : x_S) (τ : x_L) : Nat → List x_D → va_W
  | _, [] => []
  | k, d :: r => (ad k, x_ent ad ca σ τ k d) :: x_ws ad ca σ τ (k + 1) r
def x_tys (ca : Nat → ClassId) : List (ClassId × FieldType) := [(ca 1, .int), (ca 2, .boolean), (ca 3, .byte), (ca 4, .long), (ca 5, .double), (ca 6, .array .int)]
def x_up (σ : x_S) (k j : Nat) (v : Int32) : x_S := fun a => if a = k then upd (σ a) j v else σ a
def x_upL (τ : x_L) (k j : Nat) (v : Int64) : x_L := fun a => if a = k then vp_updL (τ a) j v else τ a
def x_cp (σ : x_S) (k0 sp k1 dp n : Nat) : x_S := fun a => if a = k1 then va_cpy (σ k0) (σ a) sp dp n else σ a
theorem x_up_s (σ : x_S) (k j : Nat) (v : Int32) : x_up σ k j v k = upd (σ k) j v := if_pos rfl
theorem x_up_n {σ : x_S} {k j : Nat} {v : Int32} {a : Nat} (h : a ≠ k) : x_up σ k j v a = σ a := if_neg h
theorem x_upL_s (τ : x_L) (k j : Nat) (v : Int64) : x_upL τ k j v k = vp_updL (τ k) j v := if_pos rfl
theorem x_upL_n {τ : x_L} {k j : Nat} {v : Int64} {a : Nat} (h : a ≠ k) : x_upL τ k j v a = τ a := if_neg h
theorem x_cp_s (σ : x_S) (k0 sp k1 dp n : Nat) : x_cp σ k0 sp k1 dp n k1 = va_cpy (σ k0) (σ k1) sp dp n := if_pos rfl
theorem x_cp_n {σ : x_S} {k0 sp k1 dp n a : Nat} (h : a ≠ k1) : x_cp σ k0 sp k1 dp n a = σ a := if_neg h
theorem x_fs_at (ad : Nat → Nat) (σ : x_S) (τ : x_L) (k : Nat) : ∀ (fs : List Nat) (i j : Nat), (x_fs ad σ τ k i fs)[j]? = (fs[j]?).map (fun c => x_fv ad σ τ k (i + j) c)
  | [], i, j => by simp [x_fs]
  | c :: r, i, 0 => by simp [x_fs]
  | c :: r, i, j + 1 => by
    rw [x_fs, List.getElem?_cons_succ, List.getElem?_cons_succ, x_fs_at ad σ τ k r (i + 1) j]
    rw [show i + 1 + j = i + (j + 1) from by omega]
theorem x_fs_len (ad : Nat → Nat) (σ : x_S) (τ : x_L) (k : Nat) : ∀ (fs : List Nat) (i : Nat), (x_fs ad σ τ k i fs).length = fs.length
  | [], i => rfl
  | c :: r, i => by rw [x_fs, List.length_cons, List.length_cons, x_fs_len ad σ τ k r (i + 1)]
theorem x_ws_at (ad : Nat → Nat) (ca : Nat → ClassId) (σ : x_S) (τ : x_L) : ∀ (ds : List x_D) (k0 k : Nat), (x_ws ad ca σ τ k0 ds)[k]? = (ds[k]?).map (fun d => (ad (k0 + k), x_ent ad ca σ τ (k0 + k) d))
  | [], k0, k => by simp [x_ws]
  | d :: r, k0, 0 => by simp [x_ws]
  | d :: r, k0, k + 1 => by
    rw [x_ws, List.getElem?_cons_succ, List.getElem?_cons_succ, x_ws_at ad ca σ τ r (k0 + 1) k]
    rw [show k0 + 1 + k = k0 + (k + 1) from by omega]
theorem x_at {ad : Nat → Nat} {ca : Nat → ClassId} {σ : x_S} {τ : x_L} {ds : List x_D} {k : Nat} {d : x_D} (h : ds[k]? = some d) : (x_ws ad ca σ τ 0 ds)[k]? = some (ad k, x_ent ad ca σ τ k d) := by
  rw [x_ws_at, h, Option.map_some, Nat.zero_add]
theorem x_set {ad : Nat → Nat} {ca : Nat → ClassId} {σ σ' : x_S} {τ τ' : x_L} {ds : List x_D} {k : Nat} {d : x_D} {e : va_E} (h : ds[k]? = some d) (he : x_ent ad ca σ' τ' k d = e)
    (ho : ∀ a d', ds[a]? = some d' → a ≠ k → x_ent ad ca σ' τ' a d' = x_ent ad ca σ τ a d') : (x_ws ad ca σ τ 0 ds).set k (ad k, e) = x_ws ad ca σ' τ' 0 ds := by
  have hk : k < (x_ws ad ca σ τ 0 ds).length := (List.getElem?_eq_some_iff.mp (x_at (ad := ad) (ca := ca) (σ := σ) (τ := τ) h)).1
  apply List.ext_getElem?
  intro a
  by_cases ha : a = k
  · subst ha
    rw [List.getElem?_set_self hk, x_at h, he]
  · rw [List.getElem?_set_ne (Ne.symm ha), x_ws_at, x_ws_at]
    cases hd : ds[a]? with
    | none => rfl
    | some d' => simp only [Option.map_some, Nat.zero_add]; rw [ho a d' hd ha]
/-- entries of other cells don't speak of cell k -/
theorem x_ent_n {ad : Nat → Nat} {ca : Nat → ClassId} {σ σ' : x_S} {τ τ' : x_L} {a : Nat} (h1 : σ' a = σ a) (h2 : τ' a = τ a) (d : x_D) : x_ent ad ca σ' τ' a d = x_ent ad ca σ τ a d := by
  have hf : ∀ (l : List Nat) (i : Nat), x_fs ad σ' τ' a i l = x_fs ad σ τ a i l := by
    intro l
    induction l with
    | nil => intro i; rfl
    | cons c r ih => intro i; rw [x_fs, x_fs, ih]; simp only [x_fv, h1, h2]
  unfold x_ent
  split <;> simp only [h1, h2, hf]
theorem x_set_i {ad : Nat → Nat} {ca : Nat → ClassId} {σ : x_S} {τ : x_L} {ds : List x_D} {k : Nat} {d : x_D} {j : Nat} {v : Int32} {e : va_E} (h : ds[k]? = some d) (he : x_ent ad ca (x_up σ k j v) τ k d = e) : (x_ws ad ca σ τ 0 ds).set k (ad k, e) = x_ws ad ca (x_up σ k j v) τ 0 ds :=
  x_set h he (fun _ d' _ ha => x_ent_n (x_up_n ha) rfl d')
theorem x_set_l {ad : Nat → Nat} {ca : Nat → ClassId} {σ : x_S} {τ : x_L} {ds : List x_D} {k : Nat} {d : x_D} {j : Nat} {v : Int64} {e : va_E} (h : ds[k]? = some d) (he : x_ent ad ca σ (x_upL τ k j v) k d = e) : (x_ws ad ca σ τ 0 ds).set k (ad k, e) = x_ws ad ca σ (x_upL τ k j v) 0 ds :=
  x_set h he (fun _ d' _ ha => x_ent_n rfl (x_upL_n ha) d')
theorem x_fs_set (ad : Nat → Nat) (σ : x_S) (τ : x_L) (k : Nat) (v : Int32) : ∀ (fs : List Nat) (i j : Nat), fs[j]? = some 0 → x_fs ad (x_up σ k (i + j) v) τ k i fs = (x_fs ad σ τ k i fs).set j (.int v) := by
  intro fs i j hj
  apply List.ext_getElem?
  intro a
  have hl : j < fs.length := (List.getElem?_eq_some_iff.mp hj).1
  by_cases ha : a = j
  · subst ha
    rw [List.getElem?_set_self (by rw [x_fs_len]; exact hl), x_fs_at, hj]
    simp [x_fv, x_up, upd]
  · rw [List.getElem?_set_ne (Ne.symm ha), x_fs_at, x_fs_at]
    cases hc : fs[a]? with
    | none => rfl
    | some c =>
      simp only [Option.map_some, x_fv, x_up, if_true, upd]
      rw [if_neg (show ¬ i + a = i + j by omega)]
theorem x_fs_setL (ad : Nat → Nat) (σ : x_S) (τ : x_L) (k : Nat) (v : Int64) : ∀ (fs : List Nat) (i j : Nat), fs[j]? = some 1 → x_fs ad σ (x_upL τ k (i + j) v) k i fs = (x_fs ad σ τ k i fs).set j (.long v) := by
  intro fs i j hj
  apply List.ext_getElem?
  intro a
  have hl : j < fs.length := (List.getElem?_eq_some_iff.mp hj).1
  by_cases ha : a = j
  · subst ha
    rw [List.getElem?_set_self (by rw [x_fs_len]; exact hl), x_fs_at, hj]
    simp [x_fv, x_upL, vp_updL]
  · rw [List.getElem?_set_ne (Ne.symm ha), x_fs_at, x_fs_at]
    cases hc : fs[a]? with
    | none => rfl
    | some c =>
      simp only [Option.map_some, x_fv, x_upL, if_true, vp_updL]
      rw [if_neg (show ¬ i + a = i + j by omega)]
/-- which cells a method over this world may change -/
def x_A (ad : Nat → Nat) (ds : List x_D) (sz : Nat) : Nat → Prop := fun q => (∃ k, k < ds.length ∧ q = ad k) ∨ sz ≤ q
theorem x_ws_len (ad : Nat → Nat) (ca : Nat → ClassId) (σ : x_S) (τ : x_L) : ∀ (ds : List x_D) (k0 : Nat), (x_ws ad ca σ τ k0 ds).length = ds.length
  | [], _ => rfl
  | d :: r, k0 => by rw [x_ws, List.length_cons, List.length_cons, x_ws_len ad ca σ τ r (k0 + 1)]
/-- the addresses are apart whatever the cells hold -/
theorem x_Dm {ad : Nat → Nat} {ca : Nat → ClassId} {σ σ' : x_S} {τ τ' : x_L} {ds : List x_D} {A B : Nat → Prop} (h : va_D A (x_ws ad ca σ τ 0 ds)) (hAB : ∀ k, k < ds.length → A (ad k) → B (ad k)) : va_D B (x_ws ad ca σ' τ' 0 ds) := by
  have key : ∀ (k : Nat) (q : Nat × va_E), (x_ws ad ca σ' τ' 0 ds)[k]? = some q → ∃ q0, (x_ws ad ca σ τ 0 ds)[k]? = some q0 ∧ q0.1 = q.1 ∧ q.1 = ad k ∧ k < ds.length := by
    intro k q hq
    rw [x_ws_at] at hq
    cases hd : ds[k]? with
    | none => rw [hd] at hq; cases hq
    | some d =>
      rw [hd] at hq
      cases hq
      exact ⟨_, x_at hd, by simp, by simp, (List.getElem?_eq_some_iff.mp hd).1⟩
  refine ⟨fun i j x y hi hj hxy => ?_, fun k q hk => ?_⟩
  · obtain ⟨x0, h1, h2, -⟩ := key i x hi
    obtain ⟨y0, h3, h4, -⟩ := key j y hj
    exact h.1 i j x0 y0 h1 h3 (h2.trans (hxy.trans h4.symm))
  · obtain ⟨q0, h1, h2, h3, h4⟩ := key k q hk
    rw [h3]
    exact hAB k h4 (by rw [← h3, ← h2]; exact h.2 k q0 h1)
/-! the words of the tables that every method takes -/
def lw_big : List Cond := lw_tbl.filter goodWord
theorem lw_big_good {w0 : Cond} {ws : List Cond} (h : ∀ w ∈ ws, w ∈ lw_big) : GoodIn (w0 :: lw_big) ws := fun w hw => ⟨List.mem_cons_of_mem _ (h w hw), good_of_word (List.mem_filter.mp (h w hw)).2⟩
theorem lw_big_of {w : Cond} (h : w ∈ lw_tbl) (hg : goodWord w = true) : w ∈ lw_big := List.mem_filter.mpr ⟨h, hg⟩
/-! the judgement with the world in it -/
abbrev x_J : Type := x_S → x_L → Nat → List (Nat × Value) → List Value → Prop
abbrev x_P : Type := Option Value → x_S → x_L → Prop
def x_V (p : Program) (l : Launch) (e : Env) (R : Room) (s : State) (m : MethodId) (args : Array Value) (below : List Frame) (meth : Method) (c : Code) (nL : Nat) (D : va_G) (ad : Nat → Nat) (ca : Nat → ClassId) (ds : List x_D) (A : Nat → Prop) (cells slots : Nat) (Q : State → Prop) : x_J := fun σ τ pc lv st =>
  ∀ (H : Heap) (locs : List Loc) (ls : Array Slot), va_P D vwCl (x_ws ad ca σ τ 0 ds) H → va_D A (x_ws ad ca σ τ 0 ds) → va_S A s.heap H locs → lv_has ls nL lv → W p l e R s m args below meth c H locs cells slots Q (F0 m pc ls st)
def x_Qm (D : va_G) (ad : Nat → Nat) (ca : Nat → ClassId) (ds : List x_D) (P : x_P) (sz : Nat) : Array Value → State → Outcome → State → Prop := fun _ st oc t =>
  (∃ (v : Option Value) (σ : x_S) (τ : x_L), oc = .returned v ∧ P v σ τ ∧ va_P D vwCl (x_ws ad ca σ τ 0 ds) t.heap) ∧ va_F (x_A ad ds sz) st t
/-! what stays true of the tables and of the cells that no method of the world writes: links to private methods of a nest mate, casts of exceptions, the String constants, Throwable's two statics -/
def lw_nest : List (String × Nat × MethodName × String) := [("TruckPlatoons$Loader", 94, ⟨"TruckPlatoons", "stopAt", "(II)I"⟩, "TruckPlatoons"), ("TruckPlatoons$Routes", 41, ⟨"TruckPlatoons", "stopAt", "(II)I"⟩, "TruckPlatoons"), ("TruckPlatoons$Merger", 42, ⟨"TruckPlatoons", "stopAt", "(II)I"⟩, "TruckPlatoons"), ("TruckPlatoons$Plan", 156, ⟨"TruckPlatoons", "stopAt", "(II)I"⟩, "TruckPlatoons"), ("TruckPlatoons$Fleet", 56, ⟨"TruckPlatoons", "stopAt", "(II)I"⟩, "TruckPlatoons")]
def eIO : String := "java/lang/IndexOutOfBoundsException"
def eIA : String := "java/lang/IllegalArgumentException"
def eIS : String := "java/lang/IllegalStateException"
def eAr : String := "java/lang/ArithmeticException"
def lw_cast : List String := [eIO, eIA, eIS, eAr]
/-- constructors of a text that are passed on -/
def lw_decl : List String := ["java/lang/RuntimeException", "java/lang/Exception", "java/lang/Throwable"]
/-- (thrown, not caught as) -/
def lw_ncast : List (String × String) := [(eIA, eIO), (eIS, eIO)]
/-- the String constants: (class, its place in the pool, text, number) -/
def lw_str : List (String × Nat × String × Nat) := [("TruckPlatoons$Loader", 33, "road", 0), ("TruckPlatoons$Loader", 47, "truck", 1), ("TruckPlatoons$Script", 46, "wait", 2), ("TruckPlatoons$Script", 52, "speed", 3), ("TruckPlatoons$Script", 54, "start", 4), ("TruckPlatoons$Script", 56, "merge", 5), ("TruckPlatoons$Script", 58, "hurry", 6), ("TruckPlatoons$Script", 60, "relax", 7), ("TruckPlatoons$Script", 62, "all", 8),
  ("TruckPlatoons", 475, "no such road", 9), ("TruckPlatoons", 478, "no such truck", 10), ("TruckPlatoons", 480, "no such truck or place", 11), ("TruckPlatoons", 482, "no such road or platoon", 12), ("TruckPlatoons", 484, "a position is not negative", 13), ("TruckPlatoons", 488, "out of range", 14), ("TruckPlatoons", 359, "these trucks cannot be merged", 15), ("TruckPlatoons", 491, "the platoon has too many members", 16), ("TruckPlatoons", 409, "there are no trucks", 17)]
/-- the bytes of the words that scripts and texts know -/
def x_byt : List (List Int32) := [[114, 111, 97, 100], [116, 114, 117, 99, 107], [119, 97, 105, 116], [115, 112, 101, 101, 100], [115, 116, 97, 114, 116], [109, 101, 114, 103, 101], [104, 117, 114, 114, 121], [114, 101, 108, 97, 120], [97, 108, 108]]
def x_len : List Nat := [4, 5, 4, 5, 5, 5, 5, 5, 3]
def x_NW (ad : Nat → Nat) (U : State) : Prop := (∀ q ∈ lw_nest, va_Nw (.methodLinkNest q.1 q.2.1 q.2.2.1 q.2.2.2) U) ∧ (∀ c ∈ lw_cast, va_Nw (.castable c c) U) ∧ (∀ q ∈ lw_ncast, va_Nc q.1 q.2 U) ∧ (∀ c ∈ lw_decl, va_Nw (.declares ⟨c, "<init>", "(Ljava/lang/String;)V"⟩) U) ∧ (∀ q ∈ lw_str, vk_R q.1 q.2.1 q.2.2.1 (ad (1000 + q.2.2.2)) U)
theorem va_Nc.alike {C T : String} {u U : State} (h : u.vm.Alike U.vm) (hZ : va_Nc C T u) : va_Nc C T U := hZ.moved h
theorem x_NW.same {ad : Nat → Nat} {u U : State} (h : u.vm = U.vm) (hZ : x_NW ad u) : x_NW ad U := ⟨fun q hq => va_Nw.same rfl h (hZ.1 q hq), fun q hq => va_Nw.same rfl h (hZ.2.1 q hq), fun q hq => (hZ.2.2.1 q hq).alike (by rw [h]; exact Vm.Alike.refl _), fun q hq => va_Nw.same rfl h (hZ.2.2.2.1 q hq), fun q hq => vk_R.same h.symm (hZ.2.2.2.2 q hq)⟩
theorem x_NW.warm {ad : Nat → Nat} {s U : State} (hW : s.WarmedH U.vm) (hZ : x_NW ad s) : x_NW ad U := ⟨fun q hq => va_Nw.warmM hW (hZ.1 q hq), fun q hq => va_Nw.warmC hW (hZ.2.1 q hq), fun q hq => (hZ.2.2.1 q hq).alike hW.alike, fun q hq => va_Nw.warmD hW (hZ.2.2.2.1 q hq), fun q hq => vk_R.warm hW (hZ.2.2.2.2 q hq)⟩
/-- of the cells outside A: the words' texts, Throwable's statics -/
def x_ST (ad : Nat → Nat) (A : Nat → Prop) (U : State) (H : Heap) : Prop := vk_S 9 x_len x_byt (fun i => ad (1000 + i)) (fun i => ad (2000 + i)) A U H ∧ vx_Zq Bundle.tN "UNASSIGNED_STACK" Bundle.steD A U H ∧ vx_Zq Bundle.tN "SUPPRESSED_SENTINEL" Bundle.listD A U H ∧ va_Z "java/lang/String" "COMPACT_STRINGS" "Z" (.int 1) A U H ∧ va_Zq "jdk/internal/util/Preconditions" "SIOOBE_FORMATTER" "Ljava/util/function/BiFunction;" A U H
theorem x_ST.moved {ad : Nat → Nat} {A : Nat → Prop} {u U : State} {H : Heap} (hvm : u.vm.Alike U.vm) (h : x_ST ad A u H) : x_ST ad A U H := ⟨h.1.moved hvm, h.2.1.moved hvm, h.2.2.1.moved hvm, va_Z.moved hvm h.2.2.2.1, va_Zq.moved hvm h.2.2.2.2⟩
theorem x_ST.kept {ad : Nat → Nat} {A : Nat → Prop} {U : State} {H H1 : Heap} (h : x_ST ad A U H) (hq : ∀ a : Nat, a < H.size → ¬ A a → H1[a]? = H[a]?) : x_ST ad A U H1 := ⟨h.1.kept hq, h.2.1.kept hq, h.2.2.1.kept hq, h.2.2.2.1.kept hq, h.2.2.2.2.kept hq⟩
theorem x_ST.narrow {ad : Nat → Nat} {A B : Nat → Prop} {U : State} {H : Heap} (h : x_ST ad A U H) (hAB : ∀ q, B q → A q) : x_ST ad B U H := ⟨h.1.narrow hAB, h.2.1.narrow hAB, h.2.2.1.narrow hAB, h.2.2.2.1.narrow hAB, h.2.2.2.2.narrow hAB⟩
def x_Pc (D : va_G) (ad : Nat → Nat) (ca : Nat → ClassId) (ds : List x_D) (As : List Value) (σ : x_S) (τ : x_L) (sz : Nat) : Array Value → State → Prop :=
  va_Pc As (fun U => U.heap.size = sz ∧ va_P D vwCl (x_ws ad ca σ τ 0 ds) U.heap ∧ va_K D vwCl (x_tys ca) U ∧ va_D (fun _ => True) (x_ws ad ca σ τ 0 ds) ∧ x_NW ad U ∧ x_ST ad (x_A ad ds sz) U U.heap)
def x_rm (dp : Nat) : Room := { frames := dp, cells := 0, slots := 0, locals := 50 * dp }
/-- the contract of a method over a world, that makes nothing and throws nothing -/
def x_Met (y : MethodName) (cc : ByteArray) (nL : Nat) (ret : Option FieldType) (dp : Nat) (ad : Nat → Nat) (ds : List x_D) (As : List Value) (σ : x_S) (τ : x_L) (P : x_P) : Prop :=
  ∀ (l : Launch) (D : va_G) (ca : Nat → ClassId) (sz : Nat), Met l y (Cond.code y cc nL ret :: lw_big) (x_rm dp) (x_Pc D ad ca ds As σ τ sz) (x_Qm D ad ca ds P sz) 0 0 (x_A ad ds sz)
/-- what stands fixed while a method is walked -/
def x_Is (V : x_J) (cc : ByteArray) (nL : Nat) (own : String) (ret : Option FieldType) (ad : Nat → Nat) (ds : List x_D) (dp : Nat) (P : x_P) : Prop :=
  ∃ (p : Program) (l : Launch) (e : Env) (R : Room) (s : State) (m : MethodId) (args : Array Value) (below : List Frame) (meth : Method) (c : Code) (w0 : Cond) (D : va_G) (ca : Nat → ClassId) (A : Nat → Prop) (cells slots : Nat) (Q : State → Prop),
    V = x_V p l e R s m args below meth c nL D ad ca ds A cells slots Q ∧ CallFix p m c cc nL s args (w0 :: lw_big) own ∧ (va_K D vwCl (x_tys ca) s ∧ x_NW ad s ∧ x_ST ad A s s.heap) ∧ meth.sig.returnType = ret ∧ meth.locks = false ∧ dp ≤ R.frames ∧ 50 * dp ≤ R.locals ∧ cells ≤ R.cells ∧ slots ≤ R.slots ∧
    (∀ q, s.heap.size ≤ q → A q) ∧ (∀ q, A q → x_A ad ds s.heap.size q) ∧ (∀ (H : Heap) (locs : List Loc) (g : JFrame), W p l e R s m args below meth c H locs cells slots (MQ below (x_Qm D ad ca ds P s.heap.size) args s cells slots A) g → W p l e R s m args below meth c H locs cells slots Q g)
section XE
variable {V : x_J} {cc : ByteArray} {nL : Nat} {own : String} {ret : Option FieldType} {ad : Nat → Nat} {ds : List x_D} {dp : Nat} {P : x_P}
theorem x_met {y : MethodName} {As : List Value} {σ : x_S} {τ : x_L} (hy : plainName y.cls = true) (hn : (lg_sl As).length ≤ nL)
    (body : ∀ V, x_Is V cc nL y.cls ret ad ds dp P → V σ τ 0 (lv_args 0 As) []) : x_Met y cc nL ret dp ad ds As σ τ P := by
  intro l D ca sz
  refine Met.ofW (cc := cc) (maxL := nL) (ret := ret) hy rfl ?_
  intro p e s m args below meth c s₁ B hml hv
  obtain ⟨rfl, hsz, hP, hK, hD0, hN⟩ := hv
  subst hsz
  rw [lg_entry_eq]
  refine body _ ⟨p, l, e, _, s, m, _, below, meth, c, _, D, ca, x_A ad ds s.heap.size, 0, 0, _, rfl, ⟨B.exec, B.bytes, hml, findClass_of_methodNamed B.named, atoms_spec (ws := Cond.code y cc nL ret :: lw_big) B.pre⟩, ⟨hK, hN⟩, B.returns, B.notSynchronized, Nat.le_refl _, Nat.le_refl _, Nat.le_refl _, Nat.le_refl _, fun q h => Or.inr h, fun q h => h, fun _ _ _ h => h⟩ s.heap [] _ hP (x_Dm hD0 (fun k hk _ => Or.inl ⟨k, hk, rfl⟩)) va_S.rf (lv_entry As hn)
theorem x_metF {y : MethodName} {As : List Value} {σ : x_S} {τ : x_L} (hy : plainFor y = true) (hn : (lg_sl As).length ≤ nL)
    (body : ∀ V, x_Is V cc nL y.cls ret ad ds dp P → V σ τ 0 (lv_args 0 As) []) : x_Met y cc nL ret dp ad ds As σ τ P := by
  intro l D ca sz
  refine va_MetF (cc := cc) (maxL := nL) (ret := ret) hy rfl ?_
  intro p e s m args below meth c s₁ B hml hv
  obtain ⟨rfl, hsz, hP, hK, hD0, hN⟩ := hv
  subst hsz
  rw [lg_entry_eq]
  refine body _ ⟨p, l, e, _, s, m, _, below, meth, c, _, D, ca, x_A ad ds s.heap.size, 0, 0, _, rfl, ⟨B.exec, B.bytes, hml, findClass_of_methodNamed B.named, atoms_spec (ws := Cond.code y cc nL ret :: lw_big) B.pre⟩, ⟨hK, hN⟩, B.returns, B.notSynchronized, Nat.le_refl _, Nat.le_refl _, Nat.le_refl _, Nat.le_refl _, fun q h => Or.inr h, fun q h => h, fun _ _ _ h => h⟩ s.heap [] _ hP (x_Dm hD0 (fun k hk _ => Or.inl ⟨k, hk, rfl⟩)) va_S.rf (lv_entry As hn)
theorem x_sub {lv lv' : List (Nat × Value)} {σ : x_S} {τ : x_L} {pc : Nat} {st : List Value} (X : x_Is V cc nL own ret ad ds dp P) (ks : List Nat) (hl : lv_pick lv ks = lv') (k : V σ τ pc lv' st) : V σ τ pc lv st := by
  obtain ⟨p, l, e, R, s, m, args, below, meth, c, w0, D, ca, A, cells, slots, Q, rfl, -⟩ := X
  exact fun H locs ls h1 h2 h3 h4 => k H locs ls h1 h2 h3 (lv_sub h4 ks hl)
end XE
