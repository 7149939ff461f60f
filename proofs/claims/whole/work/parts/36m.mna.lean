/-! new int[n][k]: the outer array and behind it its rows -/
theorem y_outer (c : ClassId) (N h0 : Nat) : ∀ i : Nat, Jvm.Free.Multi.outerC c N h0 i = arrV c N (fun j => va_rf (if j < i then some (h0 + 1 + j) else none))
  | 0 => by
    show ({ cls := c, slots := Array.replicate N .null, vm := .none } : Cell) = _
    rw [arrV_new]
    refine congrArg (arrV c N) (funext fun j => ?_)
    simp [va_rf]
  | i + 1 => by
    show (Jvm.Free.Multi.outerC c N h0 i).setSlot i (.ref (h0 + 1 + i)) = _
    rw [y_outer c N h0 i, arrV_store]
    refine congrArg (arrV c N) (funext fun j => ?_)
    by_cases e : j = i
    · subst e
      simp [updV, va_rf]
    · by_cases h : j < i
      · simp [updV, e, h, Nat.lt_succ_of_lt h]
      · simp [updV, e, h, show ¬ j < i + 1 by omega]
def y_adM (ad : Nat → Nat) (n N q : Nat) : Nat → Nat := fun k => if n ≤ k ∧ k < n + (1 + N) then q + (k - n) else ad k
theorem y_mnaW {p : Program} {l : Launch} {e : Env} {R : Room} {s : State} {m : MethodId} {args : Array Value} {below : List Frame} {meth : Method} {c : Code} {D : va_G} {ca : Nat → ClassId} {ad0 : Nat → Nat} {A : Nat → Prop} {Q : State → Prop} {ad : Nat → Nat} {H : Heap} {locs : List Loc} {ls : Array Slot} {cc : ByteArray} {nL : Nat} {own : String} {n0 mc ms : Nat} {ds : List x_D} {cells slots pc : Nat} {lv : List (Nat × Nat)} {st : List Nat} {w0 : Cond}
    (S : CallFix p m c cc nL s args (w0 :: lw_big) own) (hK : va_K D vwCl (x_tys ca) s) (hNC : y_NC s) (hf3 : mc ≤ R.cells) (hf4 : ms ≤ R.slots) (hA : ∀ q, s.heap.size ≤ q → A q) {index N K : Nat} {n k : Int32} (hd : decode cc pc = .ok (.multianewarray index 2, 4)) (hl : Cond.classLink own index "[[I" ∈ lw_big) (hn : ¬ n < 0) (hN : n.toNatClampNeg = N) (hk : ¬ k < 0) (hM : k.toNatClampNeg = K) (hb : N ≤ 100 ∧ K ≤ 10000) (hc : cells + (1 + N) ≤ mc ∧ slots + (N + N * K) ≤ ms) (hok : y_ok ds lv st = true) (hn0 : n0 ≤ ds.length) (h9 : ds.length + (1 + N) ≤ 900)
    (h0 : y_agr n0 ad ad0) (h1 : va_P D vwCl (y_ws ad ca 0 ds) H) (h2 : va_D A (y_ws ad ca 0 ds)) (h3 : va_S A s.heap H locs) (h4 : lv_has ls nL (y_lv ad lv))
    (k9 : y_V p l e R s m args below meth c nL D ca n0 ad0 A Q (ds ++ ((6, N, [ds.length + 1]) :: List.replicate N (1, K, []))) (cells + (1 + N)) (slots + (N + N * K)) (pc + 4) lv ((ds.length + 4) :: st)) : W p l e R s m args below meth c H locs cells slots Q (F0 m pc ls (.int k :: .int n :: st.map (y_f ad))) := by
  subst hN
  subst hM
  obtain ⟨o1, o2, o3, o4⟩ := y_ok_of hok
  have hb1 : ∀ w ∈ lw_big, w.before args s = true := fun w h => S.2.2.2.2 w (List.mem_cons_of_mem _ h)
  have hmul : k.toNatClampNeg * componentBytes .int ≤ 10000 * 8 := Nat.mul_le_mul hb.2 (by decide)
  have hcl : (Cond.classLink own index ("[" ++ (FieldType.array .int).toString)).before args s = true := by
    rw [show "[" ++ (FieldType.array .int).toString = "[[I" from by decide +kernel]
    exact hb1 _ hl
  have hAC : (Cond.arrayClass .int).before args s = true := y_arrC hK (k := 0) rfl (hK.2 0 _ rfl).2
  have hAO : (Cond.arrayOver (.array .int)).before args s = true := y_AOmoved (Vm.Alike.refl _) hNC.2
  intro T hT Xs
  obtain ⟨vm₁, cA, comp, -, fA, fC, -, -, X', step⟩ := Xs.multianewarray2F S.1 S.2.2.2.1 hcl hAO hAC (g := F0 m pc ls (.int k :: .int n :: st.map (y_f ad))) rfl (by rw [S.2.1]; exact hd) rfl hn hk (by omega) (by omega) (by omega) rfl rfl (by omega) (by omega)
  have eA : some cA = some (ca 6) := fA.symm.trans (hK.2 5 _ rfl).2
  have eC : some comp = some (ca 1) := fC.symm.trans (hK.2 0 _ rfl).2
  cases eA
  cases eC
  generalize hF : Jvm.Free.Multi.fill (T.setVm vm₁) (ca 6) (ca 1) n.toNatClampNeg k.toNatClampNeg (defaultValue .int) n.toNatClampNeg = F at X' step
  have hTh : (T.setVm vm₁).heap = H := hT
  obtain ⟨f1, f2, -, -⟩ := Jvm.Free.Multi.fill_facts (T.setVm vm₁) (ca 6) (ca 1) n.toNatClampNeg k.toNatClampNeg (defaultValue .int) n.toNatClampNeg
  rw [hF, hTh] at f1 f2
  have hold : ∀ x : Nat, x < H.size → F.heap[x]? = H[x]? := fun x hx => by
    have := Jvm.Free.Multi.fill_old (T.setVm vm₁) (ca 6) (ca 1) n.toNatClampNeg k.toNatClampNeg (defaultValue .int) (a := x) (by rw [hTh]; exact hx) n.toNatClampNeg
    rw [hF, hTh] at this
    exact this
  have hrow : ∀ j : Nat, j < n.toNatClampNeg → F.heap[H.size + 1 + j]? = some (arrV (ca 1) k.toNatClampNeg (fun _ => .int 0)) := fun j hj => by
    have := Jvm.Free.Multi.fill_inner (T.setVm vm₁) (ca 6) (ca 1) n.toNatClampNeg k.toNatClampNeg (defaultValue .int) n.toNatClampNeg j hj
    rw [hF, hTh] at this
    rw [this]
    show some ({ cls := ca 1, slots := Array.replicate k.toNatClampNeg (.int 0), vm := .none } : Cell) = _
    rw [arrV_new]
  rw [y_outer] at f2
  generalize hNn : n.toNatClampNeg = N at *
  generalize hKk : k.toNatClampNeg = K at *
  have hagr : y_agr ds.length (y_adM ad ds.length N H.size) ad := fun k hk => if_neg (by omega)
  have hnew : ∀ i, i < 1 + N → y_adM ad ds.length N H.size (ds.length + i) = H.size + i := fun i hi => by
    unfold y_adM
    rw [if_pos (by omega), show ds.length + i - ds.length = i by omega]
  have hrep : ∀ j, j < N → (List.replicate N ((1, K, []) : x_D))[j]? = some (1, K, []) := fun j hj => by rw [List.getElem?_replicate, if_pos hj]
  have e9 : y_ws (y_adM ad ds.length N H.size) ca 0 (ds ++ ((6, N, [ds.length + 1]) :: List.replicate N (1, K, []))) = y_ws ad ca 0 ds ++ y_ws (y_adM ad ds.length N H.size) ca ds.length ((6, N, [ds.length + 1]) :: List.replicate N (1, K, [])) := by
    rw [y_ws_app, y_ws_mv hagr ds 0 (by omega) o1, Nat.zero_add]
  have hlen : (((6, N, [ds.length + 1]) :: List.replicate N (1, K, [])) : List x_D).length = 1 + N := by rw [List.length_cons, List.length_replicate]; omega
  have hnewat : ∀ (i : Nat) (x : Nat × va_E), (y_ws (y_adM ad ds.length N H.size) ca ds.length ((6, N, [ds.length + 1]) :: List.replicate N (1, K, [])))[i]? = some x → i < 1 + N ∧ x.1 = H.size + i := fun i x hx => by
    rw [y_ws_at] at hx
    cases hd9 : (((6, N, [ds.length + 1]) :: List.replicate N (1, K, [])) : List x_D)[i]? with
    | none => rw [hd9] at hx; cases hx
    | some d =>
      rw [hd9] at hx
      have hi : i < 1 + N := by rw [← hlen]; exact (List.getElem?_eq_some_iff.mp hd9).1
      cases hx
      exact ⟨hi, hnew i hi⟩
  have hP : va_P D vwCl (y_ws (y_adM ad ds.length N H.size) ca 0 (ds ++ ((6, N, [ds.length + 1]) :: List.replicate N (1, K, [])))) F.heap := by
    rw [e9]
    refine va_P.app (h1.kept (fun k9 x hx => hold x.1 ((h1 k9 x hx).lt))) (fun i x hx => ?_)
    obtain ⟨hi, hx1⟩ := hnewat i x hx
    rw [y_ws_at] at hx
    match i with
    | 0 =>
      cases hx
      show F.heap[y_adM ad ds.length N H.size (ds.length + 0)]? = some (vp_cell (ca 6) (N, .inr (.inr (.inr (.inr (fun j => if j < N then some (y_adM ad ds.length N H.size (ds.length + 1 + j)) else none))))))
      rw [hnew 0 (by omega), vp_cell_q]
      rw [show (fun j => va_rf (if j < N then some (y_adM ad ds.length N H.size (ds.length + 1 + j)) else none)) = (fun j => va_rf (if j < N then some (H.size + 1 + j) else none)) from by
        funext j
        by_cases hj : j < N
        · rw [if_pos hj, if_pos hj, show ds.length + 1 + j = ds.length + (1 + j) by omega, hnew (1 + j) (by omega), show H.size + (1 + j) = H.size + 1 + j by omega]
        · rw [if_neg hj, if_neg hj]]
      exact f2
    | i + 1 =>
      rw [List.getElem?_cons_succ, hrep i (by omega)] at hx
      cases hx
      show F.heap[y_adM ad ds.length N H.size (ds.length + (i + 1))]? = some (arrV (ca 1) K (fun _ => .int 0))
      rw [hnew (i + 1) hi, show H.size + (i + 1) = H.size + 1 + i by omega]
      exact hrow i (by omega)
  have hcases : ∀ (i : Nat) (x : Nat × va_E), (y_ws (y_adM ad ds.length N H.size) ca 0 (ds ++ ((6, N, [ds.length + 1]) :: List.replicate N (1, K, []))))[i]? = some x → ((y_ws ad ca 0 ds)[i]? = some x ∧ x.1 < H.size) ∨ (ds.length ≤ i ∧ x.1 = H.size + (i - ds.length)) := fun i x hx => by
    rw [e9] at hx
    have hl9 : (y_ws ad ca 0 ds).length = ds.length := y_ws_len ad ca ds 0
    by_cases hi : i < ds.length
    · rw [List.getElem?_append_left (by omega)] at hx
      exact Or.inl ⟨hx, (h1 i x hx).lt⟩
    · rw [List.getElem?_append_right (by omega), hl9] at hx
      exact Or.inr ⟨by omega, (hnewat _ x hx).2⟩
  have hDn : va_D A (y_ws (y_adM ad ds.length N H.size) ca 0 (ds ++ ((6, N, [ds.length + 1]) :: List.replicate N (1, K, [])))) := by
    refine ⟨fun i j x y hi hj hxy => ?_, fun i x hx => ?_⟩
    · rcases hcases i x hi with ⟨a1, a2⟩ | ⟨a1, a2⟩ <;> rcases hcases j y hj with ⟨b1, b2⟩ | ⟨b1, b2⟩
      · exact h2.1 i j x y a1 b1 hxy
      · omega
      · omega
      · omega
    · rcases hcases i x hx with ⟨a1, -⟩ | ⟨-, a2⟩
      · exact h2.2 i x a1
      · exact hA _ (by have := h3.1; omega)
  have kz := k9 (y_adM ad ds.length N H.size) F.heap locs ls (hagr.trans h0 hn0) hP hDn ⟨by rw [f1]; have := h3.1; omega, fun x g1 g2 => (hold x (Nat.lt_of_lt_of_le g1 h3.1)).trans (h3.2.1 x g1 g2), h3.2.2⟩ (by rw [y_lv_mv hagr o2]; exact h4)
  rw [List.map_cons, y_l_mv hagr o3, show y_f (y_adM ad ds.length N H.size) (ds.length + 4) = .ref H.size from by show Value.ref (y_adM ad ds.length N H.size (ds.length + 0)) = _; rw [hnew 0 (by omega)]; rfl] at kz
  obtain ⟨t, a1, b1⟩ := kz F rfl (by rw [show cells + (1 + N) = cells + 1 + N by omega, show slots + (N + N * K) = slots + N + N * K by omega]; exact X')
  refine ⟨t, step t ?_, b1⟩
  have e : T.heap.size = H.size := by rw [hT]
  rw [e]
  exact a1
section YM
variable {V : y_J} {cc : ByteArray} {nL : Nat} {own : String} {n0 dp mc ms : Nat} {ds ds' : List x_D} {cells slots pc : Nat} {lv : List (Nat × Nat)} {st : List Nat}
theorem y_mnaB (X : y_Is V cc nL own n0 dp mc ms) {index N K : Nat} {i1 i2 : Int} {n k : Int32} (hp : decode cc pc = .ok (.bipush i1, 2)) (hv : (Int8.ofInt i1).toInt32 = n) (hp2 : decode cc (pc + 2) = .ok (.sipush i2, 3)) (hv2 : (Int16.ofInt i2).toInt32 = k) (hd : decode cc (pc + 2 + 3) = .ok (.multianewarray index 2, 4)) (hl : Cond.classLink own index "[[I" ∈ lw_big) (hn : ¬ n < 0) (hN : n.toNatClampNeg = N) (hk : ¬ k < 0) (hM : k.toNatClampNeg = K) (hb : N ≤ 100 ∧ K ≤ 10000) (hc : cells + (1 + N) ≤ mc ∧ slots + (N + N * K) ≤ ms) (hok : y_ok ds lv st = true) (hn0 : n0 ≤ ds.length) (h9 : ds.length + (1 + N) ≤ 900) {h : Nat} (hh : ds.length + 4 = h) {dsn : List x_D} (hdn : ds ++ ((6, N, [ds.length + 1]) :: List.replicate N (1, K, [])) = dsn)
    (k9 : V dsn (cells + (1 + N)) (slots + (N + N * K)) (pc + 2 + 3 + 4) lv (h :: st)) : V ds cells slots pc lv st := by
  subst hdn
  subst hh
  obtain ⟨p, l, e, R, s, m, args, below, meth, c, w0, D, ca, ad0, A, Q, rfl, S, ⟨hK, hNC⟩, hf1, hf2, hf3, hf4, hA⟩ := X
  intro ad H locs ls h0 h1 h2 h3 h4
  exact lv_bipush S.1 S.2.1 hp hv (lv_sipush S.1 S.2.1 hp2 hv2 (y_mnaW S hK hNC hf3 hf4 hA hd hl hn hN hk hM hb hc hok hn0 h9 h0 h1 h2 h3 h4 k9))
theorem y_mnaI (X : y_Is V cc nL own n0 dp mc ms) {index N K : Nat} {i1 i2 : Int} {n k : Int32} (hp : decode cc pc = .ok (.iconst i1, 1)) (hv : Int32.ofInt i1 = n) (hp2 : decode cc (pc + 1) = .ok (.sipush i2, 3)) (hv2 : (Int16.ofInt i2).toInt32 = k) (hd : decode cc (pc + 1 + 3) = .ok (.multianewarray index 2, 4)) (hl : Cond.classLink own index "[[I" ∈ lw_big) (hn : ¬ n < 0) (hN : n.toNatClampNeg = N) (hk : ¬ k < 0) (hM : k.toNatClampNeg = K) (hb : N ≤ 100 ∧ K ≤ 10000) (hc : cells + (1 + N) ≤ mc ∧ slots + (N + N * K) ≤ ms) (hok : y_ok ds lv st = true) (hn0 : n0 ≤ ds.length) (h9 : ds.length + (1 + N) ≤ 900) {h : Nat} (hh : ds.length + 4 = h) {dsn : List x_D} (hdn : ds ++ ((6, N, [ds.length + 1]) :: List.replicate N (1, K, [])) = dsn)
    (k9 : V dsn (cells + (1 + N)) (slots + (N + N * K)) (pc + 1 + 3 + 4) lv (h :: st)) : V ds cells slots pc lv st := by
  subst hdn
  subst hh
  obtain ⟨p, l, e, R, s, m, args, below, meth, c, w0, D, ca, ad0, A, Q, rfl, S, ⟨hK, hNC⟩, hf1, hf2, hf3, hf4, hA⟩ := X
  intro ad H locs ls h0 h1 h2 h3 h4
  exact lv_iconst S.1 S.2.1 hp hv (lv_sipush S.1 S.2.1 hp2 hv2 (y_mnaW S hK hNC hf3 hf4 hA hd hl hn hN hk hM hb hc hok hn0 h9 h0 h1 h2 h3 h4 k9))
end YM
