/-! new int[n][k] -/
theorem y_mnaW {p : Program} {l : Launch} {e : Env} {R : Room} {s : State} {m : MethodId} {args : Array Value} {below : List Frame} {meth : Method} {c : Code} {D : va_G} {ca : Nat → ClassId} {ad0 : Nat → Nat} {A : Nat → Prop} {Q : State → Prop} {ad : Nat → Nat} {H : Heap} {locs : List Loc} {ls : Array Slot} {cc : ByteArray} {nL : Nat} {own : String} {n0 mc ms : Nat} {ds : List x_D} {cells slots pc : Nat} {lv : List (Nat × Nat)} {st : List Nat} {w0 : Cond}
    (S : CallFix p m c cc nL s args (w0 :: lw_big) own) (hK : va_K D vwCl (x_tys ca) s) (hNC : y_NC s) (hf3 : mc ≤ R.cells) (hf4 : ms ≤ R.slots) (hA : ∀ q, s.heap.size ≤ q → A q) {index N K : Nat} {n k : Int32} (hd : decode cc pc = .ok (.multianewarray index 2, 4)) (hl : Cond.classLink own index "[[I" ∈ lw_big) (hn : ¬ n < 0) (hN : n.toNatClampNeg = N) (hk : ¬ k < 0) (hM : k.toNatClampNeg = K) (hb : N ≤ 100 ∧ K ≤ 10000) (hc : cells + (1 + N) ≤ mc ∧ slots + (N + N * K) ≤ ms) (hok : y_ok ds lv st = true) (hn0 : n0 ≤ ds.length) (h9 : ds.length + (1 + N) ≤ 900)
    (h0 : y_agr n0 ad ad0) (h1 : va_P D vwCl (y_ws ad ca 0 ds) H) (h2 : va_D A (y_ws ad ca 0 ds)) (h3 : va_S A s.heap H locs) (h4 : lv_has ls nL (y_lv ad lv))
    (k9 : y_V p l e R s m args below meth c nL D ca n0 ad0 A Q (ds ++ ((6, N, [ds.length + 1]) :: List.replicate N (1, K, []))) (cells + (1 + N)) (slots + (N + N * K)) (pc + 4) lv ((ds.length + 4) :: st)) : W p l e R s m args below meth c H locs cells slots Q (F0 m pc ls (.int k :: .int n :: st.map (y_f ad))) := by
  sorry
section YM
variable {V : y_J} {cc : ByteArray} {nL : Nat} {own : String} {n0 dp mc ms : Nat} {ds ds' : List x_D} {cells slots pc : Nat} {lv : List (Nat × Nat)} {st : List Nat}
theorem y_mnaB (X : y_Is V cc nL own n0 dp mc ms) {index N K : Nat} {i1 i2 : Int} {n k : Int32} (hp : decode cc pc = .ok (.bipush i1, 2)) (hv : (Int8.ofInt i1).toInt32 = n) (hp2 : decode cc (pc + 2) = .ok (.sipush i2, 3)) (hv2 : (Int16.ofInt i2).toInt32 = k) (hd : decode cc (pc + 2 + 3) = .ok (.multianewarray index 2, 4)) (hl : Cond.classLink own index "[[I" ∈ lw_big) (hn : ¬ n < 0) (hN : n.toNatClampNeg = N) (hk : ¬ k < 0) (hM : k.toNatClampNeg = K) (hb : N ≤ 100 ∧ K ≤ 10000) (hc : cells + (1 + N) ≤ mc ∧ slots + (N + N * K) ≤ ms) (hok : y_ok ds lv st = true) (hn0 : n0 ≤ ds.length) (h9 : ds.length + (1 + N) ≤ 900) {h : Nat} (hh : ds.length + 4 = h) {dsn : List x_D} (hdn : ds ++ ((6, N, [ds.length + 1]) :: List.replicate N (1, K, [])) = dsn)
    (k9 : V dsn (cells + (1 + N)) (slots + (N + N * K)) (pc + 2 + 3 + 4) lv (h :: st)) : V ds cells slots pc lv st := by
  subst hdn
  subst hh
  obtain ⟨p, l, e, R, s, m, args, below, meth, c, w0, D, ca, ad0, A, Q, rfl, S, ⟨hK, hNC⟩, hf1, hf2, hf3, hf4, hA⟩ := X
  intro ad H locs ls h0 h1 h2 h3 h4
  exact lv_bipush S.1 S.2.1 hp hv (lv_sipush S.1 S.2.1 hp2 hv2 (y_mnaW S hK hNC hf3 hf4 hA hd hl hn hN hk hM hb hc hok hn0 h9 h0 h1 h2 h3 h4 k9))
theorem y_mnaI (X : y_Is V cc nL own n0 dp mc ms) {index N K : Nat} {i1 i2 : Int} {n k : Int32} (hp : decode cc pc = .ok (.iconst i1, 1)) (hv : Int32.ofInt i1 = n) (hp2 : decode cc (pc + 1) = .ok (.sipush i2, 3)) (hv2 : (Int16.ofInt i2).toInt32 = k) (hd : decode cc (pc + 1 + 3) = .ok (.multianewarray index 2, 4)) (hl : Cond.classLink own index "[[I" ∈ lw_big) (hn : ¬ n < 0) (hN : n.toNatClampNeg = N) (hk : ¬ k < 0) (hM : k.toNatClampNeg = K) (hb : N ≤ 100 ∧ K ≤ 10000) (hc : cells + (1 + N) ≤ mc ∧ slots + (N + N * K) ≤ ms) (hok : y_ok ds lv st = true) (hn0 : n0 ≤ ds.length) (h9 : ds.length + (1 + N) ≤ 900) {h : Nat} (hh : ds.length + 4 = h) {dsn : List x_D} (hdn : ds ++ ((6, N, [ds.length + 1]) :: List.replicate N (1, K, [])) = dsn)
    (k9 : V dsn (cells + (1 + N)) (slots + (N + N * K)) (pc + 1 + 3 + 4) lv (h :: st)) : V ds cells slots pc lv st := by
  subst hdn
  subst hh
  obtain ⟨p, l, e, R, s, m, args, below, meth, c, w0, D, ca, ad0, A, Q, rfl, S, ⟨hK, hNC⟩, hf1, hf2, hf3, hf4, hA⟩ := X
  intro ad H locs ls h0 h1 h2 h3 h4
  exact lv_iconst S.1 S.2.1 hp hv (lv_sipush S.1 S.2.1 hp2 hv2 (y_mnaW S hK hNC hf3 hf4 hA hd hl hn hN hk hM hb hc hok hn0 h9 h0 h1 h2 h3 h4 k9))
end YM
