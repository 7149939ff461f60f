/-! THE CLAIM OUT OF ONE WALK OF THE LAW'S BODY. Your part is whole_start (and what it stands on); all else here is the same for every law, but numbers. -/
def R_law : String := "TruckPlatoonsLaw"
def lw_P (b : Addr) (xs : List Int32) (args : Array Value) (s : State) : Prop := args = #[.ref b] ∧ s.IntsAt b xs ∧ xs.length ≤ 3072 ∧ (Jvm.Cond.and given_1 narrow_1).before args s = true
/-- what a walk over the start with the record d0 says of its end, said of the start itself -/
theorem lw_closed {s t : State} {o : Outcome} {d0 : Drawn} {L : List Loc} {k n : Nat} (hd0 : s.drawn.sameBut d0 lw_cs) (hv : ∃ v, o = .returned v) (hW : (s.setDrawn d0).WarmedH t.vm) (hs : (s.setDrawn d0).sameButNew ({ t with vm := s.vm } : State) L k n) : State.butDraws s t lw_cs (fun t1 => Framed s o t1 L k n) := by
  have h2 : t.drawn = d0 := congrArg State.drawn hs.1
  refine ⟨⟨hv, hW, State.sameButNew.setDrawn hs s.drawn⟩, ?_, by decide⟩
  rw [h2]
  exact hd0
def lw_Q (_ : Array Value) (s : State) (o : Outcome) (t : State) : Prop := o = .returned (some (.int 1)) ∧ State.butDraws s t lw_cs (fun t1 => Framed s o t1 [] 603072 7194730)
def lw_Z (below : List Frame) (a : Array Value) (s : State) : State → Prop := fun t => ∃ o, t.status = .running ∧ Ended t below o ∧ lw_Q a s o t
/-- the law's own end, with 1 on the stack, nothing written that was there before, its room as the claim has it; d0: the record of draws at this point (at the entry s.drawn: begin with 'refine W.base ?_' and 'have hd0 := Drawn.sameBut.refl s.drawn lw_cs') -/
theorem lw_ret {p : Program} {l : Launch} {e : Env} {s : State} {m : MethodId} {below : List Frame} {meth : Method} {c : Code} {b : Nat} {d0 : Drawn} (hd0 : s.drawn.sameBut d0 lw_cs) (hx : p.tables.exec = Jvm.exec) (hb : c.code = code) (hr : meth.sig.returnType = ret) (hlocks : meth.locks = false) {pc : Nat} {H : Heap} {ls : Array Slot} (hdg : decode code pc = .ok (.ireturn, 1)) : W p l e room_1 (s.setDrawn d0) m #[Value.ref b] below meth c H [] 603072 7194730 (lw_Z below #[Value.ref b] s) (F0 m pc ls [.int 1]) := by
  intro T hT X
  obtain ⟨fs, hret, hrun, hended, hW, hframe⟩ := X.leave (v := some (.int 1)) (hlocks := hlocks) (fun h => by rw [hr] at h; cases h)
  have hmeth' : T.vm.method? m = some meth := X.method'
  refine ⟨T.setFrames fs, ?_, .returned (some (.int 1)), hrun, hended, rfl, lw_closed hd0 ⟨_, rfl⟩ hW hframe⟩
  jvm_step X.here [X.here.top, hx, hb, hdg, hmeth', hr, ret, narrow_b1]
  (try refine ⟨rfl, ?_⟩); (try refine ⟨rfl, ?_⟩)
  first | (intro acts; rw [hret _ acts rfl rfl rfl]) | rw [hret _ _ rfl rfl rfl]
  exact Steps.refl _
/-- what holds at the law's entry: the machine, the code, the tables' words (any of lw_tbl by 'hts w (by decide +kernel)'), the script of L ints xs at the cell b, what the Statement gives of the start (any of its parts by flat_of_before) -/
def lw_At (p : Program) (s : State) (m : MethodId) (meth : Method) (c : Code) (b L : Nat) (xs : Nat → Int32) : Prop :=
  p.tables.exec = Jvm.exec ∧ c.code = code ∧ meth.sig.returnType = ret ∧ c.maxLocals = 8 ∧ s.vm.findClass R_law = some m.cls ∧ (∀ w ∈ lw_tbl, w.before #[Value.ref b] s = true) ∧ va_X b L xs s s.heap ∧ b < s.heap.size ∧ meth.locks = false ∧ (Jvm.Cond.and given_1 narrow_1).before #[Value.ref b] s = true
/-! the law's world: the cells of the class with the two rows for answers, and behind them those of the reference -/
def z_sh (d : x_D) : x_D := if d.1 = 0 then (0, d.2.1, d.2.2.map (fun c => if c < 2 then c else c + 89)) else d
def dsZ : List x_D := dsX ++ dsM.map z_sh
def z_bd (ad : Nat → Nat) : Nat → Nat := fun k => if k < 900 then ad (89 + k) else ad k
def z_c (σ ρ : x_S) : x_S := fun k => if k < 89 then σ k else ρ (k - 89)
def z_cL (τ θ : x_L) : x_L := fun k => if k < 89 then τ k else θ (k - 89)
theorem z_c_r (σ ρ : x_S) (k : Nat) : z_c σ ρ (89 + k) = ρ k := by
  unfold z_c
  rw [if_neg (by omega), show 89 + k - 89 = k by omega]
theorem z_cL_r (τ θ : x_L) (k : Nat) : z_cL τ θ (89 + k) = θ k := by
  unfold z_cL
  rw [if_neg (by omega), show 89 + k - 89 = k by omega]
theorem x_ws_app (ad : Nat → Nat) (ca : Nat → ClassId) (σ : x_S) (τ : x_L) : ∀ (a : List x_D) (k0 : Nat) (b : List x_D), x_ws ad ca σ τ k0 (a ++ b) = x_ws ad ca σ τ k0 a ++ x_ws ad ca σ τ (k0 + a.length) b
  | [], k0, b => by simp [x_ws]
  | d :: r, k0, b => by
    rw [List.cons_append, x_ws, x_ws, List.cons_append, x_ws_app ad ca σ τ r (k0 + 1) b, List.length_cons]
    rw [show k0 + 1 + r.length = k0 + (r.length + 1) from by omega]
theorem x_ws_cong {ad : Nat → Nat} {ca : Nat → ClassId} {σ σ' : x_S} {τ τ' : x_L} : ∀ (ds : List x_D) (k0 : Nat), (∀ k, k < k0 + ds.length → σ' k = σ k ∧ τ' k = τ k) → x_ws ad ca σ' τ' k0 ds = x_ws ad ca σ τ k0 ds
  | [], _, _ => rfl
  | d :: r, k0, h => by
    have h0 := h k0 (by rw [List.length_cons]; omega)
    rw [x_ws, x_ws, x_ent_n h0.1 h0.2, x_ws_cong r (k0 + 1) (fun k hk => h k (by rw [List.length_cons]; omega))]
/-- what z_sub asks of a description -/
def z_okd (d : x_D) : Bool := if d.1 = 0 then d.2.2.all (fun c => decide (c < 800)) else decide (d.1 < 6)
theorem z_fs (ad : Nat → Nat) (σ ρ : x_S) (τ θ : x_L) (k : Nat) : ∀ (l : List Nat) (i : Nat), l.all (fun c => decide (c < 800)) = true → x_fs ad (z_c σ ρ) (z_cL τ θ) (89 + k) i (l.map (fun c => if c < 2 then c else c + 89)) = x_fs (z_bd ad) ρ θ k i l
  | [], _, _ => rfl
  | c :: r, i, h => by
    rw [List.all_cons, Bool.and_eq_true] at h
    have hc : c < 800 := of_decide_eq_true h.1
    rw [List.map_cons, x_fs, x_fs, z_fs ad σ ρ τ θ k r (i + 1) h.2]
    congr 1
    unfold x_fv
    rw [z_c_r, z_cL_r]
    match c, hc with
    | 0, _ => rfl
    | 1, _ => rfl
    | c + 2, hc =>
      rw [if_neg (show ¬ c + 2 < 2 by omega), if_neg (show ¬ c + 2 + 89 = 0 by omega), if_neg (show ¬ c + 2 + 89 = 1 by omega), if_neg (show ¬ c + 2 = 0 by omega), if_neg (show ¬ c + 2 = 1 by omega)]
      unfold z_bd
      rw [if_pos (by omega), show c + 2 + 89 - 2 = 89 + (c + 2 - 2) by omega]
theorem z_ent (ad : Nat → Nat) (ca : Nat → ClassId) (σ ρ : x_S) (τ θ : x_L) (k : Nat) (d : x_D) (h : z_okd d = true) : x_ent ad ca (z_c σ ρ) (z_cL τ θ) (89 + k) (z_sh d) = x_ent (z_bd ad) ca ρ θ k d := by
  obtain ⟨t, m, l⟩ := d
  match t with
  | 0 => exact congrArg Sum.inr (congrArg (Prod.mk m) (z_fs ad σ ρ τ θ k l 0 h))
  | 1 => show Sum.inl (ca 1, m, Sum.inl (z_c σ ρ (89 + k))) = _; rw [z_c_r]; rfl
  | 2 => show Sum.inl (ca 2, m, Sum.inl (z_c σ ρ (89 + k))) = _; rw [z_c_r]; rfl
  | 3 => show Sum.inl (ca 3, m, Sum.inl (z_c σ ρ (89 + k))) = _; rw [z_c_r]; rfl
  | 4 => show Sum.inl (ca 4, m, Sum.inr (Sum.inl (z_cL τ θ (89 + k)))) = _; rw [z_cL_r]; rfl
  | 5 => show Sum.inl (ca 5, m, Sum.inr (Sum.inr (Sum.inr (Sum.inl (fun j => (z_cL τ θ (89 + k) j).toUInt64))))) = _; rw [z_cL_r]; rfl
  | t + 6 =>
    have h1 : t + 6 < 6 := of_decide_eq_true h
    omega
theorem z_sub (ad : Nat → Nat) (ca : Nat → ClassId) (σ ρ : x_S) (τ θ : x_L) : ∀ (ds : List x_D) (k0 : Nat), k0 + ds.length ≤ 900 → ds.all z_okd = true → x_ws ad ca (z_c σ ρ) (z_cL τ θ) (89 + k0) (ds.map z_sh) = x_ws (z_bd ad) ca ρ θ k0 ds
  | [], _, _, _ => rfl
  | d :: r, k0, hl, h => by
    rw [List.length_cons] at hl
    rw [List.all_cons, Bool.and_eq_true] at h
    rw [List.map_cons, x_ws, x_ws, z_ent ad ca σ ρ τ θ k0 d h.1, show 89 + k0 + 1 = 89 + (k0 + 1) from rfl, z_sub ad ca σ ρ τ θ r (k0 + 1) (by omega) h.2]
    congr 2
    unfold z_bd
    rw [if_pos (by omega)]
theorem z_ws (ad : Nat → Nat) (ca : Nat → ClassId) (σ ρ : x_S) (τ θ : x_L) : x_ws ad ca (z_c σ ρ) (z_cL τ θ) 0 dsZ = x_ws ad ca σ τ 0 dsX ++ x_ws (z_bd ad) ca ρ θ 0 dsM := by
  have h89 : dsX.length = 89 := by decide +kernel
  unfold dsZ
  rw [x_ws_app, h89, z_sub ad ca σ ρ τ θ dsM 0 (by decide +kernel) (by decide +kernel)]
  rw [x_ws_cong (σ := σ) (σ' := z_c σ ρ) (τ := τ) (τ' := z_cL τ θ) dsX 0 (fun k hk => by
    have hk9 : k < 89 := by omega
    exact ⟨if_pos hk9, if_pos hk9⟩)]
theorem z_Dm {A : Nat → Prop} {ws ws' : va_W} (h : va_D A ws) (e : ws'.map Prod.fst = ws.map Prod.fst) : va_D A ws' := by
  have key : ∀ (k : Nat) (q : Nat × va_E), ws'[k]? = some q → ∃ q0, ws[k]? = some q0 ∧ q0.1 = q.1 := by
    intro k q hq
    have h1 : (ws'.map Prod.fst)[k]? = some q.1 := by rw [List.getElem?_map, hq]; rfl
    rw [e, List.getElem?_map] at h1
    cases h2 : ws[k]? with
    | none => rw [h2] at h1; cases h1
    | some q0 => rw [h2] at h1; exact ⟨q0, rfl, Option.some.inj h1⟩
  refine ⟨fun i j x y hi hj hxy => ?_, fun k q hk => ?_⟩
  · obtain ⟨x0, h1, h2⟩ := key i x hi
    obtain ⟨y0, h3, h4⟩ := key j y hj
    exact h.1 i j x0 y0 h1 h3 (h2.trans (hxy.trans h4.symm))
  · obtain ⟨q0, h1, h2⟩ := key k q hk
    rw [← h2]
    exact h.2 k q0 h1
theorem x_ws_fst (ad : Nat → Nat) (ca : Nat → ClassId) (σ σ' : x_S) (τ τ' : x_L) : ∀ (ds : List x_D) (k0 : Nat), (x_ws ad ca σ' τ' k0 ds).map Prod.fst = (x_ws ad ca σ τ k0 ds).map Prod.fst
  | [], _ => rfl
  | d :: r, k0 => by rw [x_ws, x_ws, List.map_cons, List.map_cons, x_ws_fst ad ca σ σ' τ τ' r (k0 + 1)]
theorem z_Pl {D : va_G} {cl : List vw_C} {w1 w2 : va_W} {H : Heap} (h : va_P D cl (w1 ++ w2) H) : va_P D cl w1 H := fun k q hk => h k q (by rw [List.getElem?_append_left (List.getElem?_eq_some_iff.mp hk).1]; exact hk)
theorem z_Pr {D : va_G} {cl : List vw_C} {w1 w2 : va_W} {H : Heap} (h : va_P D cl (w1 ++ w2) H) : va_P D cl w2 H := fun k q hk => h (w1.length + k) q (by rw [List.getElem?_append_right (by omega), Nat.add_sub_cancel_left]; exact hk)
theorem z_Dl {A : Nat → Prop} {w1 w2 : va_W} (h : va_D A (w1 ++ w2)) : va_D A w1 := by
  have e : ∀ (k : Nat) (q : Nat × va_E), w1[k]? = some q → (w1 ++ w2)[k]? = some q := fun k q hk => by rw [List.getElem?_append_left (List.getElem?_eq_some_iff.mp hk).1]; exact hk
  exact ⟨fun i j x y hi hj hxy => h.1 i j x y (e i x hi) (e j y hj) hxy, fun k q hk => h.2 k q (e k q hk)⟩
theorem z_Dr {A : Nat → Prop} {w1 w2 : va_W} (h : va_D A (w1 ++ w2)) : va_D A w2 := by
  have e : ∀ (k : Nat) (q : Nat × va_E), w2[k]? = some q → (w1 ++ w2)[w1.length + k]? = some q := fun k q hk => by rw [List.getElem?_append_right (by omega), Nat.add_sub_cancel_left]; exact hk
  exact ⟨fun i j x y hi hj hxy => by have := h.1 _ _ x y (e i x hi) (e j y hj) hxy; omega, fun k q hk => h.2 _ q (e k q hk)⟩
theorem z_Dx {A : Nat → Prop} {w1 w2 : va_W} (h : va_D A (w1 ++ w2)) {i j : Nat} {x y : Nat × va_E} (hi : w1[i]? = some x) (hj : w2[j]? = some y) : x.1 ≠ y.1 := by
  intro hxy
  have hl := (List.getElem?_eq_some_iff.mp hi).1
  have := h.1 i (w1.length + j) x y (by rw [List.getElem?_append_left hl]; exact hi) (by rw [List.getElem?_append_right (by omega), Nat.add_sub_cancel_left]; exact hj) hxy
  omega
theorem x_NW.cong {ad bd : Nat → Nat} {U : State} (h : x_NW ad U) (e : ∀ k, 900 ≤ k → bd k = ad k) : x_NW bd U := ⟨h.1, h.2.1, h.2.2.1, h.2.2.2.1, fun q hq => by rw [e _ (by omega)]; exact h.2.2.2.2 q hq⟩
theorem x_ST.cong {ad bd : Nat → Nat} {A : Nat → Prop} {U : State} {H : Heap} (h : x_ST ad A U H) (e : ∀ k, 900 ≤ k → bd k = ad k) : x_ST bd A U H := by
  refine ⟨?_, h.2⟩
  rw [show (fun i => bd (1000 + i)) = (fun i => ad (1000 + i)) from funext fun i => e _ (by omega), show (fun i => bd (2000 + i)) = (fun i => ad (2000 + i)) from funext fun i => e _ (by omega)]
  exact h.1
theorem z_bd_hi (ad : Nat → Nat) : ∀ k, 900 ≤ k → z_bd ad k = ad k := fun k hk => if_neg (by omega)
/-- the law's walk, j cells of exceptions made so far -/
def z_Is (V : x_J) (ad : Nat → Nat) (b L : Nat) (xs : Nat → Int32) (j : Nat) : Prop :=
  ∃ (p : Program) (l : Launch) (e : Env) (s : State) (m : MethodId) (below : List Frame) (meth : Method) (c : Code) (w0 : Cond) (D : va_G) (ca : Nat → ClassId),
    V = x_V p l e room_1 s m #[.ref b] below meth c 8 D ad ca dsZ (fun q => s.heap.size ≤ q) (112 + j) (20974 + 6 * j) (lw_Z below #[.ref b] s) ∧ CallFix p m c code 8 s #[.ref b] (w0 :: lw_big) RL ∧ (va_K D vwCl (x_tys ca) s ∧ x_NW ad s ∧ x_ST ad (fun q => s.heap.size ≤ q) s s.heap) ∧ meth.sig.returnType = some .boolean ∧ meth.locks = false ∧ l.stackTraces = false ∧ va_X b L xs s s.heap ∧ b < s.heap.size ∧ j ≤ 600000
section ZL
variable {V : x_J} {ad : Nat → Nat} {b L : Nat} {xs : Nat → Int32} {j : Nat} {σ ρ : x_S} {τ θ : x_L} {pc : Nat} {lv : List (Nat × Value)} {st : List Value}
theorem z_isX (X : z_Is V ad b L xs j) : x_Is V code 8 RL (some .boolean) ad dsZ 21 (fun _ _ _ => False) := by
  obtain ⟨p, l, e, s, m, below, meth, c, w0, D, ca, rfl, S, hN, hr, hlk, hst, hX, hb, hj⟩ := X
  refine ⟨p, l, e, room_1, s, m, _, below, meth, c, w0, D, ca, _, 112 + j, 20974 + 6 * j, _, rfl, S, hN, hr, hlk, by decide, by decide, by show 112 + j ≤ 603072; omega, by show 20974 + 6 * j ≤ 7194730; omega, fun q h => h, fun q h => Or.inr h, fun H locs g k => ?_⟩
  intro T hT X
  obtain ⟨t, -, o, -, -, ⟨⟨v, σ, τ, -, h, -⟩, -⟩, -⟩ := k T hT X
  exact h.elim
theorem z_sld (X : z_Is V ad b L xs j) {i : Int32} {rest : List Value} {σ : x_S} {τ : x_L} (hin : vp_in i L) (hd : decode code pc = .ok (.iaload, 1)) (k9 : V σ τ (pc + 1) lv (.int (xs i.toNatClampNeg) :: rest)) : V σ τ pc lv (.int i :: .ref b :: rest) := by
  obtain ⟨p, l, e, s, m, below, meth, c, w0, D, ca, rfl, S, hN, hr, hlk, hst, hX, hb, hj⟩ := X
  intro H locs ls h1 h2 h3 h4
  exact va_sld (A := fun q => s.heap.size ≤ q) S.1 S.2.1 hX hb (Nat.not_le.mpr hb) h3 hin hd (k9 H locs ls h1 h2 h3 h4)
theorem z_slen (X : z_Is V ad b L xs j) {rest : List Value} {σ : x_S} {τ : x_L} (hd : decode code pc = .ok (.arraylength, 1)) (k9 : V σ τ (pc + 1) lv (.int (Int32.ofNat L) :: rest)) : V σ τ pc lv (.ref b :: rest) := by
  obtain ⟨p, l, e, s, m, below, meth, c, w0, D, ca, rfl, S, hN, hr, hlk, hst, hX, hb, hj⟩ := X
  intro H locs ls h1 h2 h3 h4
  exact va_slen (A := fun q => s.heap.size ≤ q) S.1 S.2.1 hX hb (Nat.not_le.mpr hb) h3 hd (k9 H locs ls h1 h2 h3 h4)
theorem z_end (X : z_Is V ad b L xs j) {σ : x_S} {τ : x_L} (hd : decode code pc = .ok (.ireturn, 1)) : V σ τ pc lv [.int 1] := by
  obtain ⟨p, l, e, s, m, below, meth, c, w0, D, ca, rfl, S, hN, hr, hlk, hst, hX, hb, hj⟩ := X
  intro H locs ls h1 h2 h3 h4
  refine va_forget (fun q hq => h3.2.2 q hq) ?_
  have k : W p l e room_1 (s.setDrawn s.drawn) m #[Value.ref b] below meth c H [] 603072 7194730 (lw_Z below #[Value.ref b] s) (F0 m pc ls [.int 1]) := lw_ret (Drawn.sameBut.refl s.drawn lw_cs) S.1 S.2.1 hr hlk hd
  exact fun T hT Y => k T hT (stand_widen Y (by omega) (by omega))
theorem z_cont {p : Program} {l : Launch} {e : Env} {R : Room} {s : State} {m : MethodId} {args : Array Value} {below : List Frame} {meth : Method} {c : Code} {H : Heap} {locs : List Loc} {cells slots mc ms : Nat} {Q : State → Prop} {D : va_G} {ad' : Nat → Nat} {ca : Nat → ClassId} {ds' : List x_D} {A : Nat → Prop} {P' : x_P} {ls : Array Slot} {st0 rest : List Value} {a : Array Value} {wO : va_W}
    (hr : va_Run p l e R s m args below meth c H locs cells slots mc ms (F0 m pc ls st0) rest (x_Qm D ad' ca ds' P' H.size a) (x_A ad' ds' H.size)) (hPO : va_P D vwCl wO H) (hsep : ∀ (k : Nat) (q : Nat × va_E), wO[k]? = some q → ¬ x_A ad' ds' H.size q.1) (hS : va_S A s.heap H locs) (hAd : ∀ q, x_A ad' ds' H.size q → A q)
    (kk : ∀ (v : Option Value) (σ' : x_S) (τ' : x_L), P' v σ' τ' → ∀ (H1 : Heap) (locs1 : List Loc), va_P D vwCl (x_ws ad' ca σ' τ' 0 ds') H1 → va_P D vwCl wO H1 → va_S A s.heap H1 locs1 → W p l e R s m args below meth c H1 locs1 (cells + mc) (slots + ms) Q (F0 m (pc + 3) ls (v.toList ++ rest))) : W p l e R s m args below meth c H locs cells slots Q (F0 m pc ls st0) := by
  intro T hT X
  obtain ⟨v, st₀, t, T', L9, h0, X', hL, e1, e2, ⟨⟨v', σ', τ', hv, hp, hb⟩, hz, hk⟩, stp⟩ := hr T hT X
  cases hv
  rw [h0] at hz hk
  obtain ⟨t2, a1, b1⟩ := kk v σ' τ' hp T'.heap (locs ++ L9) (by rw [e1]; exact hb) (by rw [e1]; exact hPO.kept (fun k q hq => hk q.1 ((hPO k q hq).lt) (hsep k q hq)))
    ⟨Nat.le_trans hS.1 (by rw [e1]; exact hz), fun q h1 h2 => by rw [e1, hk q (Nat.lt_of_lt_of_le h1 hS.1) (fun z => h2 (hAd q z))]; exact hS.2.1 q h1 h2, fun q hq => by
      rcases List.mem_append.mp hq with h | h
      · exact hS.2.2 q h
      · exact hAd _ (hL q h)⟩ T' rfl X'
  exact ⟨t2, stp t2 a1, b1⟩
theorem z_callX (X : z_Is V ad b L xs j) {index ci : Nat} {y : MethodName} {bytes : ByteArray} {maxL : Nat} {ret' : Option FieldType} {dp' : Nat} {As : List Value} {P' : x_P} {fs : List Nat} (rest : List Value)
    (hd : decode code pc = .ok (.invokevirtual index, 3)) (hM : x_Met y bytes maxL ret' dp' ad dsX (.ref (ad 0) :: As) σ τ P') (hc : x_CM y bytes maxL ret' As.length) (hi : x_CI y ci) (hl : Cond.methodLink RL index y ∈ lw_big) (hds : dsX[0]? = some (0, ci, fs))
    (hdp : dp' + 1 ≤ 21 ∧ maxL ≤ 31) (hst : st = As.reverse ++ .ref (ad 0) :: rest) (hrest : (rest.map fun v => v.category).sum ≤ 8)
    (kk : ∀ (v : Option Value) (σ' : x_S) (τ' : x_L), P' v σ' τ' → V (z_c σ' ρ) (z_cL τ' θ) (pc + 3) lv (v.toList ++ rest)) : V (z_c σ ρ) (z_cL τ θ) pc lv st := by
  obtain ⟨p, l, e, s, m, below, meth, c, w0, D, ca, rfl, S, ⟨hK, hN, hST⟩, hr, hlk, hst0, hX, hb, hj⟩ := X
  obtain ⟨hc1, hc2, hc3, hc4⟩ := hc
  obtain ⟨hi1, hi2, q, hq, hq2⟩ := hi
  intro H locs ls h1 h2 h3 h4
  rw [z_ws] at h1 h2
  have hG : GoodIn (w0 :: lw_big) (wsV RL index y.cls y (Cond.code y bytes maxL ret' :: lw_big)) := lw_big_good (fun w hw => by
    simp only [wsV, List.cons_append, List.nil_append, List.mem_cons] at hw
    rcases hw with rfl | rfl | rfl | rfl | rfl | hw
    · exact hl
    · exact hi1
    · exact hi2
    · exact hc2
    · exact hc1
    · exact hw)
  have hR1 : room_1.frames = 21 := rfl
  have hR2 : room_1.locals = 10920 := rfl
  have hR3 : room_1.cells = 603072 := rfl
  have hR4 : room_1.slots = 7194730 := rfl
  refine z_cont (va_runV (C := y.cls) (As := As) (rest := rest) S (hM l D ca H.size) (cwV As.length S.2.2.2.2 hG rfl rfl rfl ⟨rfl, hc3.1, hc3.2, hc4⟩ ⟨by show dp' + 1 ≤ room_1.frames; omega, by show 8 + (maxL + 11) + 50 * dp' ≤ room_1.locals; omega⟩)
    ⟨x_blind, by rw [← hq2]; exact va_recv hK (z_Pl h1) hq (x_at hds), fun U hU hW => ⟨rfl, by rw [hU], by rw [hU]; exact z_Pl h1, va_K.moved hW.alike hK, (z_Dl h2).weaken (fun _ _ _ _ => trivial), hN.warm hW, by rw [hU]; exact x_STcall hST (z_Dl h2) h3 (fun q h => h) hW⟩⟩ rfl rfl h4.1 hst (lv_room hrest) hd ⟨by omega, by omega⟩) (z_Pr h1) (fun k q hk => ?_) h3 (fun q hq => ?_)
    (fun v σ' τ' hp H1 locs1 g1 g2 g3 => kk v σ' τ' hp H1 locs1 ls (by rw [z_ws]; exact g1.app g2) (by rw [z_ws]; exact z_Dm h2 (by rw [List.map_append, List.map_append, x_ws_fst ad ca σ σ' τ τ'])) g3 h4)
  · rintro (⟨k2, hk2, e2⟩ | h)
    · exact z_Dx h2 (x_at (List.getElem?_eq_getElem hk2)) hk e2.symm
    · exact absurd (z_Pr h1 k q hk).lt (by omega)
  · rcases hq with ⟨k2, hk2, rfl⟩ | h
    · exact (z_Dl h2).2 k2 _ (x_at (List.getElem?_eq_getElem hk2))
    · exact Nat.le_trans h3.1 h
theorem z_callM (X : z_Is V ad b L xs j) {index ci : Nat} {y : MethodName} {bytes : ByteArray} {maxL : Nat} {ret' : Option FieldType} {dp' : Nat} {As : List Value} {P' : x_P} {fs : List Nat} (rest : List Value)
    (hd : decode code pc = .ok (.invokevirtual index, 3)) (hM : x_Met y bytes maxL ret' dp' (z_bd ad) dsM (.ref (z_bd ad 0) :: As) ρ θ P') (hc : x_CM y bytes maxL ret' As.length) (hi : x_CI y ci) (hl : Cond.methodLink RL index y ∈ lw_big) (hds : dsM[0]? = some (0, ci, fs))
    (hdp : dp' + 1 ≤ 21 ∧ maxL ≤ 31) (hst : st = As.reverse ++ .ref (ad 89) :: rest) (hrest : (rest.map fun v => v.category).sum ≤ 8)
    (kk : ∀ (v : Option Value) (ρ' : x_S) (θ' : x_L), P' v ρ' θ' → V (z_c σ ρ') (z_cL τ θ') (pc + 3) lv (v.toList ++ rest)) : V (z_c σ ρ) (z_cL τ θ) pc lv st := by
  obtain ⟨p, l, e, s, m, below, meth, c, w0, D, ca, rfl, S, ⟨hK, hN, hST⟩, hr, hlk, hst0, hX, hb, hj⟩ := X
  obtain ⟨hc1, hc2, hc3, hc4⟩ := hc
  obtain ⟨hi1, hi2, q, hq, hq2⟩ := hi
  intro H locs ls h1 h2 h3 h4
  rw [z_ws] at h1 h2
  have hG : GoodIn (w0 :: lw_big) (wsV RL index y.cls y (Cond.code y bytes maxL ret' :: lw_big)) := lw_big_good (fun w hw => by
    simp only [wsV, List.cons_append, List.nil_append, List.mem_cons] at hw
    rcases hw with rfl | rfl | rfl | rfl | rfl | hw
    · exact hl
    · exact hi1
    · exact hi2
    · exact hc2
    · exact hc1
    · exact hw)
  have hR1 : room_1.frames = 21 := rfl
  have hR2 : room_1.locals = 10920 := rfl
  have hR3 : room_1.cells = 603072 := rfl
  have hR4 : room_1.slots = 7194730 := rfl
  have hst1 : st = As.reverse ++ .ref (z_bd ad 0) :: rest := hst
  refine z_cont (va_runV (C := y.cls) (As := As) (rest := rest) S (hM l D ca H.size) (cwV As.length S.2.2.2.2 hG rfl rfl rfl ⟨rfl, hc3.1, hc3.2, hc4⟩ ⟨by show dp' + 1 ≤ room_1.frames; omega, by show 8 + (maxL + 11) + 50 * dp' ≤ room_1.locals; omega⟩)
    ⟨x_blind, by rw [← hq2]; exact va_recv hK (z_Pr h1) hq (x_at hds), fun U hU hW => ⟨rfl, by rw [hU], by rw [hU]; exact z_Pr h1, va_K.moved hW.alike hK, (z_Dr h2).weaken (fun _ _ _ _ => trivial), (hN.cong (z_bd_hi ad)).warm hW, by rw [hU]; exact x_STcall (hST.cong (z_bd_hi ad)) (z_Dr h2) h3 (fun q h => h) hW⟩⟩ rfl rfl h4.1 hst1 (lv_room hrest) hd ⟨by omega, by omega⟩) (z_Pl h1) (fun k q hk => ?_) h3 (fun q hq => ?_)
    (fun v ρ' θ' hp H1 locs1 g1 g2 g3 => kk v ρ' θ' hp H1 locs1 ls (by rw [z_ws]; exact g2.app g1) (by rw [z_ws]; exact z_Dm h2 (by rw [List.map_append, List.map_append, x_ws_fst (z_bd ad) ca ρ ρ' θ θ'])) g3 h4)
  · rintro (⟨k2, hk2, e2⟩ | h)
    · exact z_Dx h2 hk (x_at (List.getElem?_eq_getElem hk2)) e2
    · exact absurd (z_Pl h1 k q hk).lt (by omega)
  · rcases hq with ⟨k2, hk2, rfl⟩ | h
    · exact (z_Dr h2).2 k2 _ (x_at (List.getElem?_eq_getElem hk2))
    · exact Nat.le_trans h3.1 h
def x_CW (y : MethodName) (bytes : ByteArray) (maxL : Nat) (ret : Option FieldType) (hh : List (Nat × Nat × Nat × Nat)) (n : Nat) : Prop := Cond.codeWith y bytes maxL ret hh ∈ lw_big ∧ Cond.initialized y.cls ∈ lw_big ∧ (y.cls ≠ "java/lang/invoke/MethodHandle" ∧ y.cls ≠ "java/lang/invoke/VarHandle") ∧ (parseMethodDescriptor y.desc).map (fun d => d.parameters.length) = some n
theorem z_callW (X : z_Is V ad b L xs j) {index K : Nat} {y : MethodName} {bytes : ByteArray} {maxL : Nat} {ret' : Option FieldType} {hh : List (Nat × Nat × Nat × Nat)} {dp' : Nat} {As : List Value} {P' : x_P} (rest : List Value)
    (hd : decode code pc = .ok (.invokestatic index, 3)) (hM : x_MetK y bytes maxL ret' hh dp' K ad dsX As σ τ P') (hc : x_CW y bytes maxL ret' hh As.length) (hi : Cond.static y ∈ lw_big) (hl : Cond.methodLink RL index y ∈ lw_big)
    (hdp : dp' + 1 ≤ 21 ∧ maxL ≤ 31) (hj1 : j + K ≤ 600000) (hst : st = As.reverse ++ rest) (hrest : (rest.map fun v => v.category).sum ≤ 8)
    (kk : ∀ (V' : x_J) (v : Option Value) (σ' : x_S) (τ' : x_L), z_Is V' ad b L xs (j + K) → P' v σ' τ' → V' (z_c σ' ρ) (z_cL τ' θ) (pc + 3) lv (v.toList ++ rest)) : V (z_c σ ρ) (z_cL τ θ) pc lv st := by
  obtain ⟨p, l, e, s, m, below, meth, c, w0, D, ca, rfl, S, ⟨hK, hN, hST⟩, hr, hlk, hst0, hX, hb, hj⟩ := X
  obtain ⟨hc1, hc2, hc3, hc4⟩ := hc
  intro H locs ls h1 h2 h3 h4
  rw [z_ws] at h1 h2
  have hG : GoodIn (w0 :: lw_big) (va_wsS RL index y (Cond.codeWith y bytes maxL ret' hh :: lw_big)) := lw_big_good (fun w hw => by
    simp only [va_wsS, List.cons_append, List.nil_append, List.mem_cons] at hw
    rcases hw with rfl | rfl | rfl | rfl | hw
    · exact hl
    · exact hi
    · exact hc2
    · exact hc1
    · exact hw)
  have hR1 : room_1.frames = 21 := rfl
  have hR2 : room_1.locals = 10920 := rfl
  have hR3 : room_1.cells = 603072 := rfl
  have hR4 : room_1.slots = 7194730 := rfl
  have e1 : 112 + (j + K) = 112 + j + K := by omega
  have e2 : 20974 + 6 * (j + K) = 20974 + 6 * j + 6 * K := by omega
  refine z_cont (vx_runSW (As := As) (rest := rest) S (hM l hst0 D ca H.size) (vx_cwSW As.length S.2.2.2.2 hG rfl rfl rfl ⟨hc3.1, hc3.2, hc4⟩ ⟨by show dp' + 1 ≤ room_1.frames; omega, by show 8 + (maxL + 11) + 50 * dp' ≤ room_1.locals; omega⟩)
    ⟨x_blind, fun U hU hW => ⟨rfl, by rw [hU], by rw [hU]; exact z_Pl h1, va_K.moved hW.alike hK, (z_Dl h2).weaken (fun _ _ _ _ => trivial), hN.warm hW, by rw [hU]; exact x_STcall hST (z_Dl h2) h3 (fun q h => h) hW⟩⟩ rfl rfl h4.1 hst (lv_room hrest) hd ⟨by omega, by omega⟩) (z_Pr h1) (fun k q hk => ?_) h3 (fun q hq => ?_)
    (fun v σ' τ' hp H1 locs1 g1 g2 g3 => kk _ v σ' τ' ⟨p, l, e, s, m, below, meth, c, w0, D, ca, rfl, S, ⟨hK, hN, hST⟩, hr, hlk, hst0, hX, hb, hj1⟩ hp H1 locs1 ls (by rw [z_ws]; exact g1.app g2) (by rw [z_ws]; exact z_Dm h2 (by rw [List.map_append, List.map_append, x_ws_fst ad ca σ σ' τ τ'])) g3 h4 |> fun z => by
      rw [e1, e2] at z
      exact z)
  · rintro (⟨k2, hk2, e2⟩ | h)
    · exact z_Dx h2 (x_at (List.getElem?_eq_getElem hk2)) hk e2.symm
    · exact absurd (z_Pr h1 k q hk).lt (by omega)
  · rcases hq with ⟨k2, hk2, rfl⟩ | h
    · exact (z_Dl h2).2 k2 _ (x_at (List.getElem?_eq_getElem hk2))
    · exact Nat.le_trans h3.1 h
end ZL
theorem z_in0 : vp_in 0 1 := by
  unfold vp_in
  decide
