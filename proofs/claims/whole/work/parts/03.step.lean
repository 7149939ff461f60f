section XS
variable {V : x_J} {cc : ByteArray} {nL : Nat} {own : String} {ret : Option FieldType} {ad : Nat → Nat} {ds : List x_D} {dp : Nat} {P : x_P} {σ : x_S} {τ : x_L} {pc : Nat} {lv lv' : List (Nat × Value)} {rest : List Value}
theorem x_iconst (X : x_Is V cc nL own ret ad ds dp P) {n : Int} {v : Int32} (hd : decode cc pc = .ok (.iconst n, 1)) (hv : Int32.ofInt n = v) (k : V σ τ (pc + 1) lv (.int v :: rest)) : V σ τ pc lv (rest) := by
  obtain ⟨p, l, e, R, s, m, args, below, meth, c, w0, D, ca, A, cells, slots, Q, rfl, S, -⟩ := X
  exact fun H locs ls h1 h2 h3 h4 => lv_iconst S.1 S.2.1 hd hv (k H locs ls h1 h2 h3 h4)
theorem x_bipush (X : x_Is V cc nL own ret ad ds dp P) {n : Int} {v : Int32} (hd : decode cc pc = .ok (.bipush n, 2)) (hv : (Int8.ofInt n).toInt32 = v) (k : V σ τ (pc + 2) lv (.int v :: rest)) : V σ τ pc lv (rest) := by
  obtain ⟨p, l, e, R, s, m, args, below, meth, c, w0, D, ca, A, cells, slots, Q, rfl, S, -⟩ := X
  exact fun H locs ls h1 h2 h3 h4 => lv_bipush S.1 S.2.1 hd hv (k H locs ls h1 h2 h3 h4)
theorem x_sipush (X : x_Is V cc nL own ret ad ds dp P) {n : Int} {v : Int32} (hd : decode cc pc = .ok (.sipush n, 3)) (hv : (Int16.ofInt n).toInt32 = v) (k : V σ τ (pc + 3) lv (.int v :: rest)) : V σ τ pc lv (rest) := by
  obtain ⟨p, l, e, R, s, m, args, below, meth, c, w0, D, ca, A, cells, slots, Q, rfl, S, -⟩ := X
  exact fun H locs ls h1 h2 h3 h4 => lv_sipush S.1 S.2.1 hd hv (k H locs ls h1 h2 h3 h4)
theorem x_iadd (X : x_Is V cc nL own ret ad ds dp P) {x y : Int32} (hd : decode cc pc = .ok (.iadd, 1)) (k : V σ τ (pc + 1) lv (.int (x + y) :: rest)) : V σ τ pc lv (.int y :: .int x :: rest) := by
  obtain ⟨p, l, e, R, s, m, args, below, meth, c, w0, D, ca, A, cells, slots, Q, rfl, S, -⟩ := X
  exact fun H locs ls h1 h2 h3 h4 => lv_iadd S.1 S.2.1 hd  (k H locs ls h1 h2 h3 h4)
theorem x_isub (X : x_Is V cc nL own ret ad ds dp P) {x y : Int32} (hd : decode cc pc = .ok (.isub, 1)) (k : V σ τ (pc + 1) lv (.int (x - y) :: rest)) : V σ τ pc lv (.int y :: .int x :: rest) := by
  obtain ⟨p, l, e, R, s, m, args, below, meth, c, w0, D, ca, A, cells, slots, Q, rfl, S, -⟩ := X
  exact fun H locs ls h1 h2 h3 h4 => lv_isub S.1 S.2.1 hd  (k H locs ls h1 h2 h3 h4)
theorem x_imul (X : x_Is V cc nL own ret ad ds dp P) {x y : Int32} (hd : decode cc pc = .ok (.imul, 1)) (k : V σ τ (pc + 1) lv (.int (x * y) :: rest)) : V σ τ pc lv (.int y :: .int x :: rest) := by
  obtain ⟨p, l, e, R, s, m, args, below, meth, c, w0, D, ca, A, cells, slots, Q, rfl, S, -⟩ := X
  exact fun H locs ls h1 h2 h3 h4 => lv_imul S.1 S.2.1 hd  (k H locs ls h1 h2 h3 h4)
theorem x_iand (X : x_Is V cc nL own ret ad ds dp P) {x y : Int32} (hd : decode cc pc = .ok (.iand, 1)) (k : V σ τ (pc + 1) lv (.int (x &&& y) :: rest)) : V σ τ pc lv (.int y :: .int x :: rest) := by
  obtain ⟨p, l, e, R, s, m, args, below, meth, c, w0, D, ca, A, cells, slots, Q, rfl, S, -⟩ := X
  exact fun H locs ls h1 h2 h3 h4 => lv_iand S.1 S.2.1 hd  (k H locs ls h1 h2 h3 h4)
theorem x_ior (X : x_Is V cc nL own ret ad ds dp P) {x y : Int32} (hd : decode cc pc = .ok (.ior, 1)) (k : V σ τ (pc + 1) lv (.int (x ||| y) :: rest)) : V σ τ pc lv (.int y :: .int x :: rest) := by
  obtain ⟨p, l, e, R, s, m, args, below, meth, c, w0, D, ca, A, cells, slots, Q, rfl, S, -⟩ := X
  exact fun H locs ls h1 h2 h3 h4 => lv_ior S.1 S.2.1 hd  (k H locs ls h1 h2 h3 h4)
theorem x_ishl (X : x_Is V cc nL own ret ad ds dp P) {x y : Int32} (hd : decode cc pc = .ok (.ishl, 1)) (k : V σ τ (pc + 1) lv (.int (x <<< (y &&& 31)) :: rest)) : V σ τ pc lv (.int y :: .int x :: rest) := by
  obtain ⟨p, l, e, R, s, m, args, below, meth, c, w0, D, ca, A, cells, slots, Q, rfl, S, -⟩ := X
  exact fun H locs ls h1 h2 h3 h4 => lv_ishl S.1 S.2.1 hd  (k H locs ls h1 h2 h3 h4)
theorem x_ishr (X : x_Is V cc nL own ret ad ds dp P) {x y : Int32} (hd : decode cc pc = .ok (.ishr, 1)) (k : V σ τ (pc + 1) lv (.int (x >>> (y &&& 31)) :: rest)) : V σ τ pc lv (.int y :: .int x :: rest) := by
  obtain ⟨p, l, e, R, s, m, args, below, meth, c, w0, D, ca, A, cells, slots, Q, rfl, S, -⟩ := X
  exact fun H locs ls h1 h2 h3 h4 => lv_ishr S.1 S.2.1 hd  (k H locs ls h1 h2 h3 h4)
theorem x_idiv (X : x_Is V cc nL own ret ad ds dp P) {x y : Int32} (hd : decode cc pc = .ok (.idiv, 1)) (hne : ¬ y = 0) (k : V σ τ (pc + 1) lv (.int (x / y) :: rest)) : V σ τ pc lv (.int y :: .int x :: rest) := by
  obtain ⟨p, l, e, R, s, m, args, below, meth, c, w0, D, ca, A, cells, slots, Q, rfl, S, -⟩ := X
  exact fun H locs ls h1 h2 h3 h4 => lv_idiv S.1 S.2.1 hd hne (k H locs ls h1 h2 h3 h4)
theorem x_irem (X : x_Is V cc nL own ret ad ds dp P) {x y : Int32} (hd : decode cc pc = .ok (.irem, 1)) (hne : ¬ y = 0) (k : V σ τ (pc + 1) lv (.int (x - x / y * y) :: rest)) : V σ τ pc lv (.int y :: .int x :: rest) := by
  obtain ⟨p, l, e, R, s, m, args, below, meth, c, w0, D, ca, A, cells, slots, Q, rfl, S, -⟩ := X
  exact fun H locs ls h1 h2 h3 h4 => lv_irem S.1 S.2.1 hd hne (k H locs ls h1 h2 h3 h4)
theorem x_ineg (X : x_Is V cc nL own ret ad ds dp P) {x : Int32} (hd : decode cc pc = .ok (.ineg, 1)) (k : V σ τ (pc + 1) lv (.int (-x) :: rest)) : V σ τ pc lv (.int x :: rest) := by
  obtain ⟨p, l, e, R, s, m, args, below, meth, c, w0, D, ca, A, cells, slots, Q, rfl, S, -⟩ := X
  exact fun H locs ls h1 h2 h3 h4 => lv_ineg S.1 S.2.1 hd  (k H locs ls h1 h2 h3 h4)
theorem x_ladd (X : x_Is V cc nL own ret ad ds dp P) {x y : Int64} (hd : decode cc pc = .ok (.ladd, 1)) (k : V σ τ (pc + 1) lv (.long (x + y) :: rest)) : V σ τ pc lv (.long y :: .long x :: rest) := by
  obtain ⟨p, l, e, R, s, m, args, below, meth, c, w0, D, ca, A, cells, slots, Q, rfl, S, -⟩ := X
  exact fun H locs ls h1 h2 h3 h4 => lv_ladd S.1 S.2.1 hd  (k H locs ls h1 h2 h3 h4)
theorem x_lsub (X : x_Is V cc nL own ret ad ds dp P) {x y : Int64} (hd : decode cc pc = .ok (.lsub, 1)) (k : V σ τ (pc + 1) lv (.long (x - y) :: rest)) : V σ τ pc lv (.long y :: .long x :: rest) := by
  obtain ⟨p, l, e, R, s, m, args, below, meth, c, w0, D, ca, A, cells, slots, Q, rfl, S, -⟩ := X
  exact fun H locs ls h1 h2 h3 h4 => lv_lsub S.1 S.2.1 hd  (k H locs ls h1 h2 h3 h4)
theorem x_lmul (X : x_Is V cc nL own ret ad ds dp P) {x y : Int64} (hd : decode cc pc = .ok (.lmul, 1)) (k : V σ τ (pc + 1) lv (.long (x * y) :: rest)) : V σ τ pc lv (.long y :: .long x :: rest) := by
  obtain ⟨p, l, e, R, s, m, args, below, meth, c, w0, D, ca, A, cells, slots, Q, rfl, S, -⟩ := X
  exact fun H locs ls h1 h2 h3 h4 => lv_lmul S.1 S.2.1 hd  (k H locs ls h1 h2 h3 h4)
theorem x_lor (X : x_Is V cc nL own ret ad ds dp P) {x y : Int64} (hd : decode cc pc = .ok (.lor, 1)) (k : V σ τ (pc + 1) lv (.long (x ||| y) :: rest)) : V σ τ pc lv (.long y :: .long x :: rest) := by
  obtain ⟨p, l, e, R, s, m, args, below, meth, c, w0, D, ca, A, cells, slots, Q, rfl, S, -⟩ := X
  exact fun H locs ls h1 h2 h3 h4 => lv_lor S.1 S.2.1 hd  (k H locs ls h1 h2 h3 h4)
theorem x_land (X : x_Is V cc nL own ret ad ds dp P) {x y : Int64} (hd : decode cc pc = .ok (.land, 1)) (k : V σ τ (pc + 1) lv (.long (x &&& y) :: rest)) : V σ τ pc lv (.long y :: .long x :: rest) := by
  obtain ⟨p, l, e, R, s, m, args, below, meth, c, w0, D, ca, A, cells, slots, Q, rfl, S, -⟩ := X
  exact fun H locs ls h1 h2 h3 h4 => lv_land S.1 S.2.1 hd  (k H locs ls h1 h2 h3 h4)
theorem x_lshl (X : x_Is V cc nL own ret ad ds dp P) {x : Int64} {y : Int32} (hd : decode cc pc = .ok (.lshl, 1)) (k : V σ τ (pc + 1) lv (.long (x <<< (y.toInt64 &&& 63)) :: rest)) : V σ τ pc lv (.int y :: .long x :: rest) := by
  obtain ⟨p, l, e, R, s, m, args, below, meth, c, w0, D, ca, A, cells, slots, Q, rfl, S, -⟩ := X
  exact fun H locs ls h1 h2 h3 h4 => lv_lshl S.1 S.2.1 hd rfl (k H locs ls h1 h2 h3 h4)
theorem x_lshr (X : x_Is V cc nL own ret ad ds dp P) {x : Int64} {y : Int32} (hd : decode cc pc = .ok (.lshr, 1)) (k : V σ τ (pc + 1) lv (.long (x >>> (y.toInt64 &&& 63)) :: rest)) : V σ τ pc lv (.int y :: .long x :: rest) := by
  obtain ⟨p, l, e, R, s, m, args, below, meth, c, w0, D, ca, A, cells, slots, Q, rfl, S, -⟩ := X
  exact fun H locs ls h1 h2 h3 h4 => lv_lshr S.1 S.2.1 hd rfl (k H locs ls h1 h2 h3 h4)
theorem x_i2l (X : x_Is V cc nL own ret ad ds dp P) {x : Int32} (hd : decode cc pc = .ok (.i2l, 1)) (k : V σ τ (pc + 1) lv (.long x.toInt64 :: rest)) : V σ τ pc lv (.int x :: rest) := by
  obtain ⟨p, l, e, R, s, m, args, below, meth, c, w0, D, ca, A, cells, slots, Q, rfl, S, -⟩ := X
  exact fun H locs ls h1 h2 h3 h4 => lv_i2l S.1 S.2.1 hd rfl (k H locs ls h1 h2 h3 h4)
theorem x_l2i (X : x_Is V cc nL own ret ad ds dp P) {x : Int64} (hd : decode cc pc = .ok (.l2i, 1)) (k : V σ τ (pc + 1) lv (.int x.toInt32 :: rest)) : V σ τ pc lv (.long x :: rest) := by
  obtain ⟨p, l, e, R, s, m, args, below, meth, c, w0, D, ca, A, cells, slots, Q, rfl, S, -⟩ := X
  exact fun H locs ls h1 h2 h3 h4 => lv_l2i S.1 S.2.1 hd rfl (k H locs ls h1 h2 h3 h4)
theorem x_i2b (X : x_Is V cc nL own ret ad ds dp P) {x : Int32} (hd : decode cc pc = .ok (.i2b, 1)) (k : V σ τ (pc + 1) lv (.int x.toInt8.toInt32 :: rest)) : V σ τ pc lv (.int x :: rest) := by
  obtain ⟨p, l, e, R, s, m, args, below, meth, c, w0, D, ca, A, cells, slots, Q, rfl, S, -⟩ := X
  exact fun H locs ls h1 h2 h3 h4 => lv_i2b S.1 S.2.1 hd rfl (k H locs ls h1 h2 h3 h4)
theorem x_lcmp (X : x_Is V cc nL own ret ad ds dp P) {x y : Int64} (hd : decode cc pc = .ok (.lcmp, 1)) (k : V σ τ (pc + 1) lv (.int (lg_cmp x y) :: rest)) : V σ τ pc lv (.long y :: .long x :: rest) := by
  obtain ⟨p, l, e, R, s, m, args, below, meth, c, w0, D, ca, A, cells, slots, Q, rfl, S, -⟩ := X
  exact fun H locs ls h1 h2 h3 h4 => W.lcmp S.1 S.2.1 hd  (k H locs ls h1 h2 h3 h4)
theorem x_dup (X : x_Is V cc nL own ret ad ds dp P) {va : Value} (hd : decode cc pc = .ok (.dup, 1)) (hc : va.category = 1) (k : V σ τ (pc + 1) lv (va :: va :: rest)) : V σ τ pc lv (va :: rest) := by
  obtain ⟨p, l, e, R, s, m, args, below, meth, c, w0, D, ca, A, cells, slots, Q, rfl, S, -⟩ := X
  exact fun H locs ls h1 h2 h3 h4 => lv_dup S.1 S.2.1 hd hc (k H locs ls h1 h2 h3 h4)
theorem x_pop (X : x_Is V cc nL own ret ad ds dp P) {va : Value} (hd : decode cc pc = .ok (.pop, 1)) (hc : va.category = 1) (k : V σ τ (pc + 1) lv (rest)) : V σ τ pc lv (va :: rest) := by
  obtain ⟨p, l, e, R, s, m, args, below, meth, c, w0, D, ca, A, cells, slots, Q, rfl, S, -⟩ := X
  exact fun H locs ls h1 h2 h3 h4 => lv_pop S.1 S.2.1 hd hc (k H locs ls h1 h2 h3 h4)
theorem x_dup2 (X : x_Is V cc nL own ret ad ds dp P) {va vb : Value} (hd : decode cc pc = .ok (.dup2, 1)) (hc : va.category = 1) (hc2 : vb.category = 1) (k : V σ τ (pc + 1) lv (va :: vb :: va :: vb :: rest)) : V σ τ pc lv (va :: vb :: rest) := by
  obtain ⟨p, l, e, R, s, m, args, below, meth, c, w0, D, ca, A, cells, slots, Q, rfl, S, -⟩ := X
  exact fun H locs ls h1 h2 h3 h4 => lv_dup2_11 S.1 S.2.1 hd hc hc2 (k H locs ls h1 h2 h3 h4)
theorem x_iload_n (X : x_Is V cc nL own ret ad ds dp P) {k : Fin 4} {i : Nat} {x : Int32} (hd : decode cc pc = .ok (.iload_n k, 1)) (hi : (k : Nat) = i) (j : Nat) (hl : lv[j]? = some (i, .int x)) (k9 : V σ τ (pc + 1) lv (.int x :: rest)) : V σ τ pc lv rest := by
  obtain ⟨p, l, e, R, s, m, args, below, meth, c, w0, D, ca, A, cells, slots, Q, rfl, S, -⟩ := X
  exact fun H locs ls h1 h2 h3 h4 => lv_iload_n S.1 S.2.1 hd hi (lv_at h4 j hl) (k9 H locs ls h1 h2 h3 h4)
theorem x_iload (X : x_Is V cc nL own ret ad ds dp P) {i : Nat} {x : Int32} (hd : decode cc pc = .ok (.iload i, 2)) (j : Nat) (hl : lv[j]? = some (i, .int x)) (k9 : V σ τ (pc + 2) lv (.int x :: rest)) : V σ τ pc lv rest := by
  obtain ⟨p, l, e, R, s, m, args, below, meth, c, w0, D, ca, A, cells, slots, Q, rfl, S, -⟩ := X
  exact fun H locs ls h1 h2 h3 h4 => lv_iload S.1 S.2.1 hd (lv_at h4 j hl) (k9 H locs ls h1 h2 h3 h4)
theorem x_lload_n (X : x_Is V cc nL own ret ad ds dp P) {k : Fin 4} {i : Nat} {x : Int64} (hd : decode cc pc = .ok (.lload_n k, 1)) (hi : (k : Nat) = i) (j : Nat) (hl : lv[j]? = some (i, .long x)) (k9 : V σ τ (pc + 1) lv (.long x :: rest)) : V σ τ pc lv rest := by
  obtain ⟨p, l, e, R, s, m, args, below, meth, c, w0, D, ca, A, cells, slots, Q, rfl, S, -⟩ := X
  exact fun H locs ls h1 h2 h3 h4 => lv_lload_n S.1 S.2.1 hd hi (lv_at h4 j hl) (k9 H locs ls h1 h2 h3 h4)
theorem x_lload (X : x_Is V cc nL own ret ad ds dp P) {i : Nat} {x : Int64} (hd : decode cc pc = .ok (.lload i, 2)) (j : Nat) (hl : lv[j]? = some (i, .long x)) (k9 : V σ τ (pc + 2) lv (.long x :: rest)) : V σ τ pc lv rest := by
  obtain ⟨p, l, e, R, s, m, args, below, meth, c, w0, D, ca, A, cells, slots, Q, rfl, S, -⟩ := X
  exact fun H locs ls h1 h2 h3 h4 => lv_lload S.1 S.2.1 hd (lv_at h4 j hl) (k9 H locs ls h1 h2 h3 h4)
theorem x_aload_n (X : x_Is V cc nL own ret ad ds dp P) {k : Fin 4} {i : Nat} {x : Nat} (hd : decode cc pc = .ok (.aload_n k, 1)) (hi : (k : Nat) = i) (j : Nat) (hl : lv[j]? = some (i, .ref x)) (k9 : V σ τ (pc + 1) lv (.ref x :: rest)) : V σ τ pc lv rest := by
  obtain ⟨p, l, e, R, s, m, args, below, meth, c, w0, D, ca, A, cells, slots, Q, rfl, S, -⟩ := X
  exact fun H locs ls h1 h2 h3 h4 => lv_aload_n S.1 S.2.1 hd hi (lv_at h4 j hl) (k9 H locs ls h1 h2 h3 h4)
theorem x_aload (X : x_Is V cc nL own ret ad ds dp P) {i : Nat} {x : Nat} (hd : decode cc pc = .ok (.aload i, 2)) (j : Nat) (hl : lv[j]? = some (i, .ref x)) (k9 : V σ τ (pc + 2) lv (.ref x :: rest)) : V σ τ pc lv rest := by
  obtain ⟨p, l, e, R, s, m, args, below, meth, c, w0, D, ca, A, cells, slots, Q, rfl, S, -⟩ := X
  exact fun H locs ls h1 h2 h3 h4 => lv_aload S.1 S.2.1 hd (lv_at h4 j hl) (k9 H locs ls h1 h2 h3 h4)
theorem x_fload_n (X : x_Is V cc nL own ret ad ds dp P) {k : Fin 4} {i : Nat} {x : UInt32} (hd : decode cc pc = .ok (.fload_n k, 1)) (hi : (k : Nat) = i) (j : Nat) (hl : lv[j]? = some (i, .float x)) (k9 : V σ τ (pc + 1) lv (.float x :: rest)) : V σ τ pc lv rest := by
  obtain ⟨p, l, e, R, s, m, args, below, meth, c, w0, D, ca, A, cells, slots, Q, rfl, S, -⟩ := X
  exact fun H locs ls h1 h2 h3 h4 => lv_fload_n S.1 S.2.1 hd hi (lv_at h4 j hl) (k9 H locs ls h1 h2 h3 h4)
theorem x_fload (X : x_Is V cc nL own ret ad ds dp P) {i : Nat} {x : UInt32} (hd : decode cc pc = .ok (.fload i, 2)) (j : Nat) (hl : lv[j]? = some (i, .float x)) (k9 : V σ τ (pc + 2) lv (.float x :: rest)) : V σ τ pc lv rest := by
  obtain ⟨p, l, e, R, s, m, args, below, meth, c, w0, D, ca, A, cells, slots, Q, rfl, S, -⟩ := X
  exact fun H locs ls h1 h2 h3 h4 => lv_fload S.1 S.2.1 hd (lv_at h4 j hl) (k9 H locs ls h1 h2 h3 h4)
theorem x_istore_n (X : x_Is V cc nL own ret ad ds dp P) {k : Fin 4} {i : Nat} {x : Int32} (hd : decode cc pc = .ok (.istore_n k, 1)) (hi : (k : Nat) = i) (hn : i < nL) (hl : (i, Value.int x) :: lv.filter (fun q => !(q.1 == i) && !(q.1 + 1 == i && q.2.category == 2)) = lv') (k9 : V σ τ (pc + 1) lv' rest) : V σ τ pc lv (.int x :: rest) := by
  obtain ⟨p, l, e, R, s, m, args, below, meth, c, w0, D, ca, A, cells, slots, Q, rfl, S, -⟩ := X
  exact fun H locs ls h1 h2 h3 h4 => lv_istore_n S.1 S.2.1 hd hi h4 hn hl (fun ls' h5 => k9 H locs ls' h1 h2 h3 h5)
theorem x_istore (X : x_Is V cc nL own ret ad ds dp P) {i : Nat} {x : Int32} (hd : decode cc pc = .ok (.istore i, 2)) (hn : i < nL) (hl : (i, Value.int x) :: lv.filter (fun q => !(q.1 == i) && !(q.1 + 1 == i && q.2.category == 2)) = lv') (k9 : V σ τ (pc + 2) lv' rest) : V σ τ pc lv (.int x :: rest) := by
  obtain ⟨p, l, e, R, s, m, args, below, meth, c, w0, D, ca, A, cells, slots, Q, rfl, S, -⟩ := X
  exact fun H locs ls h1 h2 h3 h4 => lv_istore S.1 S.2.1 hd h4 hn hl (fun ls' h5 => k9 H locs ls' h1 h2 h3 h5)
theorem x_astore_n (X : x_Is V cc nL own ret ad ds dp P) {k : Fin 4} {i : Nat} {x : Nat} (hd : decode cc pc = .ok (.astore_n k, 1)) (hi : (k : Nat) = i) (hn : i < nL) (hl : (i, Value.ref x) :: lv.filter (fun q => !(q.1 == i) && !(q.1 + 1 == i && q.2.category == 2)) = lv') (k9 : V σ τ (pc + 1) lv' rest) : V σ τ pc lv (.ref x :: rest) := by
  obtain ⟨p, l, e, R, s, m, args, below, meth, c, w0, D, ca, A, cells, slots, Q, rfl, S, -⟩ := X
  exact fun H locs ls h1 h2 h3 h4 => lv_astore_n S.1 S.2.1 hd hi h4 hn hl (fun ls' h5 => k9 H locs ls' h1 h2 h3 h5)
theorem x_astore (X : x_Is V cc nL own ret ad ds dp P) {i : Nat} {x : Nat} (hd : decode cc pc = .ok (.astore i, 2)) (hn : i < nL) (hl : (i, Value.ref x) :: lv.filter (fun q => !(q.1 == i) && !(q.1 + 1 == i && q.2.category == 2)) = lv') (k9 : V σ τ (pc + 2) lv' rest) : V σ τ pc lv (.ref x :: rest) := by
  obtain ⟨p, l, e, R, s, m, args, below, meth, c, w0, D, ca, A, cells, slots, Q, rfl, S, -⟩ := X
  exact fun H locs ls h1 h2 h3 h4 => lv_astore S.1 S.2.1 hd h4 hn hl (fun ls' h5 => k9 H locs ls' h1 h2 h3 h5)
theorem x_fstore_n (X : x_Is V cc nL own ret ad ds dp P) {k : Fin 4} {i : Nat} {x : UInt32} (hd : decode cc pc = .ok (.fstore_n k, 1)) (hi : (k : Nat) = i) (hn : i < nL) (hl : (i, Value.float x) :: lv.filter (fun q => !(q.1 == i) && !(q.1 + 1 == i && q.2.category == 2)) = lv') (k9 : V σ τ (pc + 1) lv' rest) : V σ τ pc lv (.float x :: rest) := by
  obtain ⟨p, l, e, R, s, m, args, below, meth, c, w0, D, ca, A, cells, slots, Q, rfl, S, -⟩ := X
  exact fun H locs ls h1 h2 h3 h4 => lv_fstore_n S.1 S.2.1 hd hi h4 hn hl (fun ls' h5 => k9 H locs ls' h1 h2 h3 h5)
theorem x_fstore (X : x_Is V cc nL own ret ad ds dp P) {i : Nat} {x : UInt32} (hd : decode cc pc = .ok (.fstore i, 2)) (hn : i < nL) (hl : (i, Value.float x) :: lv.filter (fun q => !(q.1 == i) && !(q.1 + 1 == i && q.2.category == 2)) = lv') (k9 : V σ τ (pc + 2) lv' rest) : V σ τ pc lv (.float x :: rest) := by
  obtain ⟨p, l, e, R, s, m, args, below, meth, c, w0, D, ca, A, cells, slots, Q, rfl, S, -⟩ := X
  exact fun H locs ls h1 h2 h3 h4 => lv_fstore S.1 S.2.1 hd h4 hn hl (fun ls' h5 => k9 H locs ls' h1 h2 h3 h5)
theorem x_iinc (X : x_Is V cc nL own ret ad ds dp P) {i k : Nat} {n : Int} {x v : Int32} (hd : decode cc pc = .ok (.iinc i n, 3)) (hk : lv[k]? = some (i, .int x)) (hv : Int32.ofInt n = v) (hn : i < nL) (hl : (i, Value.int (x + v)) :: lv.filter (fun q => !(q.1 == i) && !(q.1 + 1 == i && q.2.category == 2)) = lv') (k9 : V σ τ (pc + 3) lv' rest) : V σ τ pc lv rest := by
  obtain ⟨p, l, e, R, s, m, args, below, meth, c, w0, D, ca, A, cells, slots, Q, rfl, S, -⟩ := X
  exact fun H locs ls h1 h2 h3 h4 => lv_iinc S.1 S.2.1 hd h4 hk (by rw [hv]) hn hl (fun ls' h5 => k9 H locs ls' h1 h2 h3 h5)
theorem x_iincW (X : x_Is V cc nL own ret ad ds dp P) {i k : Nat} {n : Int} {x v : Int32} (hd : decode cc pc = .ok (.iinc i n, 6)) (hk : lv[k]? = some (i, .int x)) (hv : Int32.ofInt n = v) (hn : i < nL) (hl : (i, Value.int (x + v)) :: lv.filter (fun q => !(q.1 == i) && !(q.1 + 1 == i && q.2.category == 2)) = lv') (k9 : V σ τ (pc + 6) lv' rest) : V σ τ pc lv rest := by
  obtain ⟨p, l, e, R, s, m, args, below, meth, c, w0, D, ca, A, cells, slots, Q, rfl, S, -⟩ := X
  exact fun H locs ls h1 h2 h3 h4 => lv_iincW S.1 S.2.1 hd h4 hk (by rw [hv]) hn hl (fun ls' h5 => k9 H locs ls' h1 h2 h3 h5)
theorem x_lconst (X : x_Is V cc nL own ret ad ds dp P) {n : Fin 2} {v : Int64} (hd : decode cc pc = .ok (.lconst n, 1)) (hv : Int64.ofNat n = v) (k9 : V σ τ (pc + 1) lv (.long v :: rest)) : V σ τ pc lv rest := by
  obtain ⟨p, l, e, R, s, m, args, below, meth, c, w0, D, ca, A, cells, slots, Q, rfl, S, -⟩ := X
  exact fun H locs ls h1 h2 h3 h4 => lv_lconst S.1 S.2.1 hd hv (k9 H locs ls h1 h2 h3 h4)
theorem x_lstore_n (X : x_Is V cc nL own ret ad ds dp P) {k : Fin 4} {i : Nat} {x : Int64} (hd : decode cc pc = .ok (.lstore_n k, 1)) (hi : (k : Nat) = i) (hn : i + 1 < nL) (hl : (i, Value.long x) :: lv.filter (fun q => !(q.1 == i) && (!(q.1 == i + 1) && !(q.1 + 1 == i && q.2.category == 2))) = lv') (k9 : V σ τ (pc + 1) lv' rest) : V σ τ pc lv (.long x :: rest) := by
  obtain ⟨p, l, e, R, s, m, args, below, meth, c, w0, D, ca, A, cells, slots, Q, rfl, S, -⟩ := X
  exact fun H locs ls h1 h2 h3 h4 => lv_lstore_n S.1 S.2.1 hd hi h4 hn hl (fun ls' h5 => k9 H locs ls' h1 h2 h3 h5)
theorem x_lstore (X : x_Is V cc nL own ret ad ds dp P) {i : Nat} {x : Int64} (hd : decode cc pc = .ok (.lstore i, 2)) (hn : i + 1 < nL) (hl : (i, Value.long x) :: lv.filter (fun q => !(q.1 == i) && (!(q.1 == i + 1) && !(q.1 + 1 == i && q.2.category == 2))) = lv') (k9 : V σ τ (pc + 2) lv' rest) : V σ τ pc lv (.long x :: rest) := by
  obtain ⟨p, l, e, R, s, m, args, below, meth, c, w0, D, ca, A, cells, slots, Q, rfl, S, -⟩ := X
  exact fun H locs ls h1 h2 h3 h4 => lv_lstore S.1 S.2.1 hd h4 hn hl (fun ls' h5 => k9 H locs ls' h1 h2 h3 h5)
theorem x_ldc (X : x_Is V cc nL own ret ad ds dp P) {index : Nat} {v : Int32} (hd : decode cc pc = .ok (.ldc index, 2)) (hw : Cond.constant own index v ∈ lw_big) (k9 : V σ τ (pc + 2) lv (.int v :: rest)) : V σ τ pc lv rest := by
  obtain ⟨p, l, e, R, s, m, args, below, meth, c, w0, D, ca, A, cells, slots, Q, rfl, S, -⟩ := X
  exact fun H locs ls h1 h2 h3 h4 => lv_ldc S.1 S.2.1 S.2.2.2.1 (S.2.2.2.2 _ (List.mem_cons_of_mem _ hw)) hd (k9 H locs ls h1 h2 h3 h4)
theorem x_ldc2 (X : x_Is V cc nL own ret ad ds dp P) {index : Nat} {v : Int64} (hd : decode cc pc = .ok (.ldc2_w index, 3)) (hw : Cond.constantLong own index v ∈ lw_big) (k9 : V σ τ (pc + 3) lv (.long v :: rest)) : V σ τ pc lv rest := by
  obtain ⟨p, l, e, R, s, m, args, below, meth, c, w0, D, ca, A, cells, slots, Q, rfl, S, -⟩ := X
  exact fun H locs ls h1 h2 h3 h4 => lv_ldc2 S.1 S.2.1 S.2.2.2.1 (S.2.2.2.2 _ (List.mem_cons_of_mem _ hw)) hd (k9 H locs ls h1 h2 h3 h4)
theorem x_goto (X : x_Is V cc nL own ret ad ds dp P) {off : Int} {tgt : Nat} (hd : decode cc pc = .ok (.goto off, 3)) (ht : (pc : Int) + off = (tgt : Int)) (k9 : V σ τ tgt lv rest) : V σ τ pc lv rest := by
  obtain ⟨p, l, e, R, s, m, args, below, meth, c, w0, D, ca, A, cells, slots, Q, rfl, S, -⟩ := X
  exact fun H locs ls h1 h2 h3 h4 => lv_goto S.1 S.2.1 hd ht (k9 H locs ls h1 h2 h3 h4)
theorem x_if_eq (X : x_Is V cc nL own ret ad ds dp P) {x : Int32} {off : Int} (tgt : Nat) (hd : decode cc pc = .ok (.ifCond .eq off, 3)) (ht : (pc : Int) + off = (tgt : Int)) (kt : x = 0 → V σ τ tgt lv rest) (kf : ¬ x = 0 → V σ τ (pc + 3) lv rest) : V σ τ pc lv (.int x :: rest) := by
  obtain ⟨p, l, e, R, s, m, args, below, meth, c, w0, D, ca, A, cells, slots, Q, rfl, S, -⟩ := X
  exact fun H locs ls h1 h2 h3 h4 => lv_if_eq S.1 S.2.1 hd ht (fun hc => kt hc H locs ls h1 h2 h3 h4) (fun hc => kf hc H locs ls h1 h2 h3 h4)
theorem x_icmp_eq (X : x_Is V cc nL own ret ad ds dp P) {x y : Int32} {off : Int} (tgt : Nat) (hd : decode cc pc = .ok (.if_icmp .eq off, 3)) (ht : (pc : Int) + off = (tgt : Int)) (kt : x = y → V σ τ tgt lv rest) (kf : ¬ x = y → V σ τ (pc + 3) lv rest) : V σ τ pc lv (.int y :: .int x :: rest) := by
  obtain ⟨p, l, e, R, s, m, args, below, meth, c, w0, D, ca, A, cells, slots, Q, rfl, S, -⟩ := X
  exact fun H locs ls h1 h2 h3 h4 => lv_icmp_eq S.1 S.2.1 hd ht (fun hc => kt hc H locs ls h1 h2 h3 h4) (fun hc => kf hc H locs ls h1 h2 h3 h4)
theorem x_if_ne (X : x_Is V cc nL own ret ad ds dp P) {x : Int32} {off : Int} (tgt : Nat) (hd : decode cc pc = .ok (.ifCond .ne off, 3)) (ht : (pc : Int) + off = (tgt : Int)) (kt : ¬ x = 0 → V σ τ tgt lv rest) (kf : x = 0 → V σ τ (pc + 3) lv rest) : V σ τ pc lv (.int x :: rest) := by
  obtain ⟨p, l, e, R, s, m, args, below, meth, c, w0, D, ca, A, cells, slots, Q, rfl, S, -⟩ := X
  exact fun H locs ls h1 h2 h3 h4 => lv_if_ne S.1 S.2.1 hd ht (fun hc => kt hc H locs ls h1 h2 h3 h4) (fun hc => kf hc H locs ls h1 h2 h3 h4)
theorem x_icmp_ne (X : x_Is V cc nL own ret ad ds dp P) {x y : Int32} {off : Int} (tgt : Nat) (hd : decode cc pc = .ok (.if_icmp .ne off, 3)) (ht : (pc : Int) + off = (tgt : Int)) (kt : ¬ x = y → V σ τ tgt lv rest) (kf : x = y → V σ τ (pc + 3) lv rest) : V σ τ pc lv (.int y :: .int x :: rest) := by
  obtain ⟨p, l, e, R, s, m, args, below, meth, c, w0, D, ca, A, cells, slots, Q, rfl, S, -⟩ := X
  exact fun H locs ls h1 h2 h3 h4 => lv_icmp_ne S.1 S.2.1 hd ht (fun hc => kt hc H locs ls h1 h2 h3 h4) (fun hc => kf hc H locs ls h1 h2 h3 h4)
theorem x_if_lt (X : x_Is V cc nL own ret ad ds dp P) {x : Int32} {off : Int} (tgt : Nat) (hd : decode cc pc = .ok (.ifCond .lt off, 3)) (ht : (pc : Int) + off = (tgt : Int)) (kt : x < 0 → V σ τ tgt lv rest) (kf : ¬ x < 0 → V σ τ (pc + 3) lv rest) : V σ τ pc lv (.int x :: rest) := by
  obtain ⟨p, l, e, R, s, m, args, below, meth, c, w0, D, ca, A, cells, slots, Q, rfl, S, -⟩ := X
  exact fun H locs ls h1 h2 h3 h4 => lv_if_lt S.1 S.2.1 hd ht (fun hc => kt hc H locs ls h1 h2 h3 h4) (fun hc => kf hc H locs ls h1 h2 h3 h4)
theorem x_icmp_lt (X : x_Is V cc nL own ret ad ds dp P) {x y : Int32} {off : Int} (tgt : Nat) (hd : decode cc pc = .ok (.if_icmp .lt off, 3)) (ht : (pc : Int) + off = (tgt : Int)) (kt : x < y → V σ τ tgt lv rest) (kf : ¬ x < y → V σ τ (pc + 3) lv rest) : V σ τ pc lv (.int y :: .int x :: rest) := by
  obtain ⟨p, l, e, R, s, m, args, below, meth, c, w0, D, ca, A, cells, slots, Q, rfl, S, -⟩ := X
  exact fun H locs ls h1 h2 h3 h4 => lv_icmp_lt S.1 S.2.1 hd ht (fun hc => kt hc H locs ls h1 h2 h3 h4) (fun hc => kf hc H locs ls h1 h2 h3 h4)
theorem x_if_ge (X : x_Is V cc nL own ret ad ds dp P) {x : Int32} {off : Int} (tgt : Nat) (hd : decode cc pc = .ok (.ifCond .ge off, 3)) (ht : (pc : Int) + off = (tgt : Int)) (kt : 0 ≤ x → V σ τ tgt lv rest) (kf : ¬ 0 ≤ x → V σ τ (pc + 3) lv rest) : V σ τ pc lv (.int x :: rest) := by
  obtain ⟨p, l, e, R, s, m, args, below, meth, c, w0, D, ca, A, cells, slots, Q, rfl, S, -⟩ := X
  exact fun H locs ls h1 h2 h3 h4 => lv_if_ge S.1 S.2.1 hd ht (fun hc => kt hc H locs ls h1 h2 h3 h4) (fun hc => kf hc H locs ls h1 h2 h3 h4)
theorem x_icmp_ge (X : x_Is V cc nL own ret ad ds dp P) {x y : Int32} {off : Int} (tgt : Nat) (hd : decode cc pc = .ok (.if_icmp .ge off, 3)) (ht : (pc : Int) + off = (tgt : Int)) (kt : y ≤ x → V σ τ tgt lv rest) (kf : ¬ y ≤ x → V σ τ (pc + 3) lv rest) : V σ τ pc lv (.int y :: .int x :: rest) := by
  obtain ⟨p, l, e, R, s, m, args, below, meth, c, w0, D, ca, A, cells, slots, Q, rfl, S, -⟩ := X
  exact fun H locs ls h1 h2 h3 h4 => lv_icmp_ge S.1 S.2.1 hd ht (fun hc => kt hc H locs ls h1 h2 h3 h4) (fun hc => kf hc H locs ls h1 h2 h3 h4)
theorem x_if_gt (X : x_Is V cc nL own ret ad ds dp P) {x : Int32} {off : Int} (tgt : Nat) (hd : decode cc pc = .ok (.ifCond .gt off, 3)) (ht : (pc : Int) + off = (tgt : Int)) (kt : 0 < x → V σ τ tgt lv rest) (kf : ¬ 0 < x → V σ τ (pc + 3) lv rest) : V σ τ pc lv (.int x :: rest) := by
  obtain ⟨p, l, e, R, s, m, args, below, meth, c, w0, D, ca, A, cells, slots, Q, rfl, S, -⟩ := X
  exact fun H locs ls h1 h2 h3 h4 => lv_if_gt S.1 S.2.1 hd ht (fun hc => kt hc H locs ls h1 h2 h3 h4) (fun hc => kf hc H locs ls h1 h2 h3 h4)
theorem x_icmp_gt (X : x_Is V cc nL own ret ad ds dp P) {x y : Int32} {off : Int} (tgt : Nat) (hd : decode cc pc = .ok (.if_icmp .gt off, 3)) (ht : (pc : Int) + off = (tgt : Int)) (kt : y < x → V σ τ tgt lv rest) (kf : ¬ y < x → V σ τ (pc + 3) lv rest) : V σ τ pc lv (.int y :: .int x :: rest) := by
  obtain ⟨p, l, e, R, s, m, args, below, meth, c, w0, D, ca, A, cells, slots, Q, rfl, S, -⟩ := X
  exact fun H locs ls h1 h2 h3 h4 => lv_icmp_gt S.1 S.2.1 hd ht (fun hc => kt hc H locs ls h1 h2 h3 h4) (fun hc => kf hc H locs ls h1 h2 h3 h4)
theorem x_if_le (X : x_Is V cc nL own ret ad ds dp P) {x : Int32} {off : Int} (tgt : Nat) (hd : decode cc pc = .ok (.ifCond .le off, 3)) (ht : (pc : Int) + off = (tgt : Int)) (kt : x ≤ 0 → V σ τ tgt lv rest) (kf : ¬ x ≤ 0 → V σ τ (pc + 3) lv rest) : V σ τ pc lv (.int x :: rest) := by
  obtain ⟨p, l, e, R, s, m, args, below, meth, c, w0, D, ca, A, cells, slots, Q, rfl, S, -⟩ := X
  exact fun H locs ls h1 h2 h3 h4 => lv_if_le S.1 S.2.1 hd ht (fun hc => kt hc H locs ls h1 h2 h3 h4) (fun hc => kf hc H locs ls h1 h2 h3 h4)
theorem x_icmp_le (X : x_Is V cc nL own ret ad ds dp P) {x y : Int32} {off : Int} (tgt : Nat) (hd : decode cc pc = .ok (.if_icmp .le off, 3)) (ht : (pc : Int) + off = (tgt : Int)) (kt : x ≤ y → V σ τ tgt lv rest) (kf : ¬ x ≤ y → V σ τ (pc + 3) lv rest) : V σ τ pc lv (.int y :: .int x :: rest) := by
  obtain ⟨p, l, e, R, s, m, args, below, meth, c, w0, D, ca, A, cells, slots, Q, rfl, S, -⟩ := X
  exact fun H locs ls h1 h2 h3 h4 => lv_icmp_le S.1 S.2.1 hd ht (fun hc => kt hc H locs ls h1 h2 h3 h4) (fun hc => kf hc H locs ls h1 h2 h3 h4)
theorem x_tin (X : x_Is V cc nL own ret ad ds dp P) {dflt lo hi : Int} {offs : Array Int} {len : Nat} {x : Int32} (v : Int32) {off : Int} (tgt : Nat) (hx : x = v) (hd : decode cc pc = .ok (.tableswitch dflt lo hi offs, len)) (h1 : ¬ v.toInt < lo) (h2 : ¬ hi < v.toInt) (ho : offs[(v.toInt - lo).toNat]? = some off) (ht : (pc : Int) + off = (tgt : Int)) (k9 : V σ τ tgt lv rest) : V σ τ pc lv (.int x :: rest) := by
  obtain ⟨p, l, e, R, s, m, args, below, meth, c, w0, D, ca, A, cells, slots, Q, rfl, S, -⟩ := X
  subst hx
  exact fun H locs ls g1 g2 g3 g4 => lv_tableIn S.1 S.2.1 hd h1 h2 ho ht (k9 H locs ls g1 g2 g3 g4)
theorem x_tout (X : x_Is V cc nL own ret ad ds dp P) {dflt lo hi : Int} {offs : Array Int} {len : Nat} {x : Int32} (tgt : Nat) (hd : decode cc pc = .ok (.tableswitch dflt lo hi offs, len)) (h : x.toInt < lo ∨ hi < x.toInt) (ht : (pc : Int) + dflt = (tgt : Int)) (k9 : V σ τ tgt lv rest) : V σ τ pc lv (.int x :: rest) := by
  obtain ⟨p, l, e, R, s, m, args, below, meth, c, w0, D, ca, A, cells, slots, Q, rfl, S, -⟩ := X
  exact fun H locs ls g1 g2 g3 g4 => lv_tableOut S.1 S.2.1 hd h ht (k9 H locs ls g1 g2 g3 g4)
theorem x_lsw (X : x_Is V cc nL own ret ad ds dp P) {dflt : Int} {ps : Array (Int × Int)} {len : Nat} {x : Int32} {off : Int} (tgt : Nat) (hd : decode cc pc = .ok (.lookupswitch dflt ps, len)) (hp : (ps.toList.zip (ps.toList.drop 1)).all (fun (a, next) => a.1 < next.1) = true) (ho : Op.lookupswitch.offset ps.toList dflt x.toInt = off) (ht : (pc : Int) + off = (tgt : Int)) (k9 : V σ τ tgt lv rest) : V σ τ pc lv (.int x :: rest) := by
  obtain ⟨p, l, e, R, s, m, args, below, meth, c, w0, D, ca, A, cells, slots, Q, rfl, S, -⟩ := X
  exact fun H locs ls g1 g2 g3 g4 => lv_lookup S.1 S.2.1 hd hp ho ht (k9 H locs ls g1 g2 g3 g4)
theorem x_toInt_ne {x v : Int32} {n : Int} (h : ¬ x = v) (hv : v.toInt = n) : x.toInt ≠ n := fun q => h (Int32.toInt_inj.mp (q.trans hv.symm))
/-! fields and arrays -/
def x_FL (own : String) (index ci i : Nat) : Prop := ∃ (C : String) (T : u_T) (N : Nat) (ref : String), vwCl[ci]? = some (C, T, N) ∧ i < N ∧ (∀ w ∈ u_ws C T N, w ∈ lw_big) ∧ Cond.fieldLink own index ref (T i).2.1 (T i).2.2.1 ∈ lw_big ∧ (T i).1 = ref
def x_FT (ci i : Nat) (ty : FieldType) : Prop := ∃ (C : String) (T : u_T) (N : Nat) (t0 : Nat → FieldType), vwCl[ci]? = some (C, T, N) ∧ (∀ k, k < N → parseFieldDescriptor (T k).2.2.1 = some (t0 k)) ∧ (∀ a, a < N → ∀ b, b < N → a ≠ b → (T a).2.1 ≠ (T b).2.1) ∧ (T i).2.2.2 = false ∧ parseFieldDescriptor (T i).2.2.1 = some ty
theorem x_get (X : x_Is V cc nL own ret ad ds dp P) {index k i ci : Nat} {fs : List Nat} {cd : Nat} {v : Value} (hd : decode cc pc = .ok (.getfield index, 3)) (hF : x_FL own index ci i) (hds : ds[k]? = some (0, ci, fs)) (hf : fs[i]? = some cd) (hv : x_fv ad σ τ k i cd = v) (k9 : V σ τ (pc + 3) lv (v :: rest)) : V σ τ pc lv (.ref (ad k) :: rest) := by
  obtain ⟨p, l, e, R, s, m, args, below, meth, c, w0, D, ca, A, cells, slots, Q, rfl, S, ⟨hK, -⟩, -⟩ := X
  obtain ⟨C, T, N, ref, hc, hi, hin, hl, hr⟩ := hF
  intro H locs ls h1 h2 h3 h4
  refine va_get (D := D) (ci := ci) (C := C) (T := T) (N := N) (Ts := w0 :: lw_big) (ref := ref) S.1 S.2.1 S.2.2.2.2 (fun w h => List.mem_cons_of_mem _ (hin w h)) S.2.2.2.1 hK h1 k (fs := x_fs ad σ τ k 0 fs) (x_at hds) hc i hi (S.2.2.2.2 _ (List.mem_cons_of_mem _ hl)) (fun x h => by rw [← hr]; exact h) (v := v) (by rw [x_fs_at, hf, ← hv, Nat.zero_add]; rfl) hd (k9 H locs ls h1 h2 h3 h4)
theorem x_getI (X : x_Is V cc nL own ret ad ds dp P) {index k i ci : Nat} {fs : List Nat} (hd : decode cc pc = .ok (.getfield index, 3)) (hF : x_FL own index ci i) (hds : ds[k]? = some (0, ci, fs)) (hf : fs[i]? = some 0) (k9 : V σ τ (pc + 3) lv (.int (σ k i) :: rest)) : V σ τ pc lv (.ref (ad k) :: rest) := x_get X hd hF hds hf rfl k9
theorem x_getL (X : x_Is V cc nL own ret ad ds dp P) {index k i ci : Nat} {fs : List Nat} (hd : decode cc pc = .ok (.getfield index, 3)) (hF : x_FL own index ci i) (hds : ds[k]? = some (0, ci, fs)) (hf : fs[i]? = some 1) (k9 : V σ τ (pc + 3) lv (.long (τ k i) :: rest)) : V σ τ pc lv (.ref (ad k) :: rest) := x_get X hd hF hds hf rfl k9
theorem x_getR (X : x_Is V cc nL own ret ad ds dp P) {index k i ci j : Nat} {fs : List Nat} (hd : decode cc pc = .ok (.getfield index, 3)) (hF : x_FL own index ci i) (hds : ds[k]? = some (0, ci, fs)) (hf : fs[i]? = some (j + 2)) (k9 : V σ τ (pc + 3) lv (.ref (ad j) :: rest)) : V σ τ pc lv (.ref (ad k) :: rest) := x_get X hd hF hds hf (by simp [x_fv]) k9
theorem x_putI (X : x_Is V cc nL own ret ad ds dp P) {index k i ci : Nat} {fs : List Nat} {v : Int32} (hd : decode cc pc = .ok (.putfield index, 3)) (hF : x_FL own index ci i) (hT : x_FT ci i .int) (hds : ds[k]? = some (0, ci, fs)) (hf : fs[i]? = some 0) (k9 : V (x_up σ k i v) τ (pc + 3) lv rest) : V σ τ pc lv (.int v :: .ref (ad k) :: rest) := by
  obtain ⟨p, l, e, R, s, m, args, below, meth, c, w0, D, ca, A, cells, slots, Q, rfl, S, ⟨hK, -⟩, -⟩ := X
  obtain ⟨C, T, N, ref, hc, hi, hin, hl, hr⟩ := hF
  obtain ⟨C', T', N', t0, hc', ht0, hnm, hfin, hty⟩ := hT
  cases hc.symm.trans hc'
  intro H locs ls h1 h2 h3 h4
  have hfl : i < fs.length := (List.getElem?_eq_some_iff.mp hf).1
  refine va_put (D := D) (ci := ci) (C := C) (T := T) (N := N) (Ts := w0 :: lw_big) (ref := ref) (v := .int v) (ty := .int) S.1 S.2.1 S.2.2.2.2 (fun w h => List.mem_cons_of_mem _ (hin w h)) t0 ht0 hnm S.2.2.2.1 hK h1 h2 h3 k (fs := x_fs ad σ τ k 0 fs) (x_at hds) hc i hi (S.2.2.2.2 _ (List.mem_cons_of_mem _ hl)) (fun x h => by rw [← hr]; exact h) hfin hty rfl rfl (by rw [x_fs_len]; exact hfl) hd (fun H1 locs1 g1 g2 g3 => ?_)
  have e9 : (x_ws ad ca σ τ 0 ds).set k (ad k, .inr (ci, (x_fs ad σ τ k 0 fs).set i (.int v))) = x_ws ad ca (x_up σ k i v) τ 0 ds := x_set_i hds (by
    have := x_fs_set ad σ τ k v fs 0 i hf
    rw [Nat.zero_add] at this
    show Sum.inr (ci, x_fs ad (x_up σ k i v) τ k 0 fs) = _
    rw [this])
  rw [e9] at g1 g2
  exact k9 H1 locs1 ls g1 g2 g3 h4
theorem x_putL (X : x_Is V cc nL own ret ad ds dp P) {index k i ci : Nat} {fs : List Nat} {v : Int64} (hd : decode cc pc = .ok (.putfield index, 3)) (hF : x_FL own index ci i) (hT : x_FT ci i .long) (hds : ds[k]? = some (0, ci, fs)) (hf : fs[i]? = some 1) (k9 : V σ (x_upL τ k i v) (pc + 3) lv rest) : V σ τ pc lv (.long v :: .ref (ad k) :: rest) := by
  obtain ⟨p, l, e, R, s, m, args, below, meth, c, w0, D, ca, A, cells, slots, Q, rfl, S, ⟨hK, -⟩, -⟩ := X
  obtain ⟨C, T, N, ref, hc, hi, hin, hl, hr⟩ := hF
  obtain ⟨C', T', N', t0, hc', ht0, hnm, hfin, hty⟩ := hT
  cases hc.symm.trans hc'
  intro H locs ls h1 h2 h3 h4
  have hfl : i < fs.length := (List.getElem?_eq_some_iff.mp hf).1
  refine va_put (D := D) (ci := ci) (C := C) (T := T) (N := N) (Ts := w0 :: lw_big) (ref := ref) (v := .long v) (ty := .long) S.1 S.2.1 S.2.2.2.2 (fun w h => List.mem_cons_of_mem _ (hin w h)) t0 ht0 hnm S.2.2.2.1 hK h1 h2 h3 k (fs := x_fs ad σ τ k 0 fs) (x_at hds) hc i hi (S.2.2.2.2 _ (List.mem_cons_of_mem _ hl)) (fun x h => by rw [← hr]; exact h) hfin hty rfl rfl (by rw [x_fs_len]; exact hfl) hd (fun H1 locs1 g1 g2 g3 => ?_)
  have e9 : (x_ws ad ca σ τ 0 ds).set k (ad k, .inr (ci, (x_fs ad σ τ k 0 fs).set i (.long v))) = x_ws ad ca σ (x_upL τ k i v) 0 ds := x_set_l hds (by
    have := x_fs_setL ad σ τ k v fs 0 i hf
    rw [Nat.zero_add] at this
    show Sum.inr (ci, x_fs ad σ (x_upL τ k i v) k 0 fs) = _
    rw [this])
  rw [e9] at g1 g2
  exact k9 H1 locs1 ls g1 g2 g3 h4
theorem x_iald (X : x_Is V cc nL own ret ad ds dp P) {k n : Nat} {ls0 : List Nat} {i : Int32} (hd : decode cc pc = .ok (.iaload, 1)) (hds : ds[k]? = some (1, n, ls0)) (hin : vp_in i n) (k9 : V σ τ (pc + 1) lv (.int (σ k i.toNatClampNeg) :: rest)) : V σ τ pc lv (.int i :: .ref (ad k) :: rest) := by
  obtain ⟨p, l, e, R, s, m, args, below, meth, c, w0, D, ca, A, cells, slots, Q, rfl, S, ⟨hK, -⟩, -⟩ := X
  exact fun H locs ls h1 h2 h3 h4 => va_iald S.1 S.2.1 hK h1 k 0 (x_at hds) rfl hin hd (k9 H locs ls h1 h2 h3 h4)
theorem x_zald (X : x_Is V cc nL own ret ad ds dp P) {k n : Nat} {ls0 : List Nat} {i : Int32} (hd : decode cc pc = .ok (.baload, 1)) (hds : ds[k]? = some (2, n, ls0)) (hin : vp_in i n) (k9 : V σ τ (pc + 1) lv (.int (σ k i.toNatClampNeg) :: rest)) : V σ τ pc lv (.int i :: .ref (ad k) :: rest) := by
  obtain ⟨p, l, e, R, s, m, args, below, meth, c, w0, D, ca, A, cells, slots, Q, rfl, S, ⟨hK, -⟩, -⟩ := X
  exact fun H locs ls h1 h2 h3 h4 => va_zald S.1 S.2.1 hK h1 k 1 (x_at hds) rfl hin hd (k9 H locs ls h1 h2 h3 h4)
theorem x_bald (X : x_Is V cc nL own ret ad ds dp P) {k n : Nat} {ls0 : List Nat} {i : Int32} (hd : decode cc pc = .ok (.baload, 1)) (hds : ds[k]? = some (3, n, ls0)) (hin : vp_in i n) (k9 : V σ τ (pc + 1) lv (.int (σ k i.toNatClampNeg) :: rest)) : V σ τ pc lv (.int i :: .ref (ad k) :: rest) := by
  obtain ⟨p, l, e, R, s, m, args, below, meth, c, w0, D, ca, A, cells, slots, Q, rfl, S, ⟨hK, -⟩, -⟩ := X
  exact fun H locs ls h1 h2 h3 h4 => va_bald S.1 S.2.1 hK h1 k 2 (x_at hds) rfl hin hd (k9 H locs ls h1 h2 h3 h4)
theorem x_iast (X : x_Is V cc nL own ret ad ds dp P) {k n : Nat} {ls0 : List Nat} {i x : Int32} (hd : decode cc pc = .ok (.iastore, 1)) (hds : ds[k]? = some (1, n, ls0)) (hin : vp_in i n) (k9 : V (x_up σ k i.toNatClampNeg (x)) τ (pc + 1) lv rest) : V σ τ pc lv (.int x :: .int i :: .ref (ad k) :: rest) := by
  obtain ⟨p, l, e, R, s, m, args, below, meth, c, w0, D, ca, A, cells, slots, Q, rfl, S, ⟨hK, -⟩, -⟩ := X
  intro H locs ls h1 h2 h3 h4
  refine va_iast S.1 S.2.1 hK h1 h2 h3 k 0 (x_at hds) rfl hin hd (fun H1 locs1 g1 g2 g3 => ?_)
  have e9 : (x_ws ad ca σ τ 0 ds).set k (ad k, .inl (ca 1, n, .inl (upd (σ k) i.toNatClampNeg (x)))) = x_ws ad ca (x_up σ k i.toNatClampNeg (x)) τ 0 ds := x_set_i hds (by
    show Sum.inl (ca 1, n, Sum.inl (x_up σ k i.toNatClampNeg (x) k)) = _
    rw [x_up_s])
  rw [e9] at g1 g2
  exact k9 H1 locs1 ls g1 g2 g3 h4
theorem x_zast (X : x_Is V cc nL own ret ad ds dp P) {k n : Nat} {ls0 : List Nat} {i x : Int32} (hd : decode cc pc = .ok (.bastore, 1)) (hds : ds[k]? = some (2, n, ls0)) (hin : vp_in i n) (k9 : V (x_up σ k i.toNatClampNeg (vp_nar .boolean x)) τ (pc + 1) lv rest) : V σ τ pc lv (.int x :: .int i :: .ref (ad k) :: rest) := by
  obtain ⟨p, l, e, R, s, m, args, below, meth, c, w0, D, ca, A, cells, slots, Q, rfl, S, ⟨hK, -⟩, -⟩ := X
  intro H locs ls h1 h2 h3 h4
  refine va_zast S.1 S.2.1 hK h1 h2 h3 k 1 (x_at hds) rfl hin hd (fun H1 locs1 g1 g2 g3 => ?_)
  have e9 : (x_ws ad ca σ τ 0 ds).set k (ad k, .inl (ca 2, n, .inl (upd (σ k) i.toNatClampNeg (vp_nar .boolean x)))) = x_ws ad ca (x_up σ k i.toNatClampNeg (vp_nar .boolean x)) τ 0 ds := x_set_i hds (by
    show Sum.inl (ca 2, n, Sum.inl (x_up σ k i.toNatClampNeg (vp_nar .boolean x) k)) = _
    rw [x_up_s])
  rw [e9] at g1 g2
  exact k9 H1 locs1 ls g1 g2 g3 h4
theorem x_bast (X : x_Is V cc nL own ret ad ds dp P) {k n : Nat} {ls0 : List Nat} {i x : Int32} (hd : decode cc pc = .ok (.bastore, 1)) (hds : ds[k]? = some (3, n, ls0)) (hin : vp_in i n) (k9 : V (x_up σ k i.toNatClampNeg (vp_nar .byte x)) τ (pc + 1) lv rest) : V σ τ pc lv (.int x :: .int i :: .ref (ad k) :: rest) := by
  obtain ⟨p, l, e, R, s, m, args, below, meth, c, w0, D, ca, A, cells, slots, Q, rfl, S, ⟨hK, -⟩, -⟩ := X
  intro H locs ls h1 h2 h3 h4
  refine va_bast S.1 S.2.1 hK h1 h2 h3 k 2 (x_at hds) rfl hin hd (fun H1 locs1 g1 g2 g3 => ?_)
  have e9 : (x_ws ad ca σ τ 0 ds).set k (ad k, .inl (ca 3, n, .inl (upd (σ k) i.toNatClampNeg (vp_nar .byte x)))) = x_ws ad ca (x_up σ k i.toNatClampNeg (vp_nar .byte x)) τ 0 ds := x_set_i hds (by
    show Sum.inl (ca 3, n, Sum.inl (x_up σ k i.toNatClampNeg (vp_nar .byte x) k)) = _
    rw [x_up_s])
  rw [e9] at g1 g2
  exact k9 H1 locs1 ls g1 g2 g3 h4
theorem x_lald (X : x_Is V cc nL own ret ad ds dp P) {k n : Nat} {ls0 : List Nat} {i : Int32} (hd : decode cc pc = .ok (.laload, 1)) (hds : ds[k]? = some (4, n, ls0)) (hin : vp_in i n) (k9 : V σ τ (pc + 1) lv (.long (τ k i.toNatClampNeg) :: rest)) : V σ τ pc lv (.int i :: .ref (ad k) :: rest) := by
  obtain ⟨p, l, e, R, s, m, args, below, meth, c, w0, D, ca, A, cells, slots, Q, rfl, S, ⟨hK, -⟩, -⟩ := X
  exact fun H locs ls h1 h2 h3 h4 => va_lald S.1 S.2.1 hK h1 k 3 (x_at hds) rfl hin hd (k9 H locs ls h1 h2 h3 h4)
theorem x_last (X : x_Is V cc nL own ret ad ds dp P) {k n : Nat} {ls0 : List Nat} {i : Int32} {x : Int64} (hd : decode cc pc = .ok (.lastore, 1)) (hds : ds[k]? = some (4, n, ls0)) (hin : vp_in i n) (k9 : V σ (x_upL τ k i.toNatClampNeg x) (pc + 1) lv rest) : V σ τ pc lv (.long x :: .int i :: .ref (ad k) :: rest) := by
  obtain ⟨p, l, e, R, s, m, args, below, meth, c, w0, D, ca, A, cells, slots, Q, rfl, S, ⟨hK, -⟩, -⟩ := X
  intro H locs ls h1 h2 h3 h4
  refine va_last S.1 S.2.1 hK h1 h2 h3 k 3 (x_at hds) rfl hin hd (fun H1 locs1 g1 g2 g3 => ?_)
  have e9 : (x_ws ad ca σ τ 0 ds).set k (ad k, .inl (ca 4, n, .inr (.inl (vp_updL (τ k) i.toNatClampNeg x)))) = x_ws ad ca σ (x_upL τ k i.toNatClampNeg x) 0 ds := x_set_l hds (by
    show Sum.inl (ca 4, n, Sum.inr (Sum.inl (x_upL τ k i.toNatClampNeg x k))) = _
    rw [x_upL_s])
  rw [e9] at g1 g2
  exact k9 H1 locs1 ls g1 g2 g3 h4
theorem x_aald (X : x_Is V cc nL own ret ad ds dp P) {k n b : Nat} {i : Int32} (hd : decode cc pc = .ok (.aaload, 1)) (hds : ds[k]? = some (6, n, [b])) (hin : vp_in i n) (k9 : V σ τ (pc + 1) lv (.ref (ad (b + i.toNatClampNeg)) :: rest)) : V σ τ pc lv (.int i :: .ref (ad k) :: rest) := by
  obtain ⟨p, l, e, R, s, m, args, below, meth, c, w0, D, ca, A, cells, slots, Q, rfl, S, ⟨hK, -⟩, -⟩ := X
  intro H locs ls h1 h2 h3 h4
  have hlt : i.toNatClampNeg < n := Nat.not_le.mp fun q => hin (Or.inr q)
  exact W.aald (v := .ref (ad (b + i.toNatClampNeg))) (ty := .array .int) S.1 S.2.1 (h1 k _ (x_at hds)) ((hK.2 5 _ rfl).1 n (fun j => va_rf (some (ad (b + j))))) rfl (fun q => by cases q) (by show ¬ (i < 0 ∨ (arrV _ _ _).slots.size ≤ _); rw [arrV_size]; exact hin) (by show (arrV _ _ _).slots[_]? = _; rw [arrV_read _ _ hlt]; rfl) rfl rfl hd (k9 H locs ls h1 h2 h3 h4)
/-! the method's end -/
theorem x_iret (X : x_Is V cc nL own (some .int) ad ds dp P) {v : Int32} (hd : decode cc pc = .ok (.ireturn, 1)) (h : P (some (.int v)) σ τ) : V σ τ pc lv [.int v] := by
  obtain ⟨p, l, e, R, s, m, args, below, meth, c, w0, D, ca, A, cells, slots, Q, rfl, S, ⟨hK, hN⟩, hr, hlk, hf1, hf2, hf3, hf4, hA, hA2, hQ⟩ := X
  intro H locs ls h1 h2 h3 h4
  exact hQ H locs _ (W.iret S.1 S.2.1 hr (fun t ht _ => ⟨⟨_, σ, τ, rfl, h, by rw [ht]; exact h1⟩, ⟨by rw [ht]; exact h3.1, fun q a b => by rw [ht]; exact h3.2.1 q a (fun z => b (hA2 q z))⟩⟩) h3.2.2 hd hlk)
theorem x_zret (X : x_Is V cc nL own (some .boolean) ad ds dp P) {v : Int32} (hd : decode cc pc = .ok (.ireturn, 1)) (h : (v = 0 ∨ v = 1) ∧ P (some (.int v)) σ τ) : V σ τ pc lv [.int v] := by
  obtain ⟨p, l, e, R, s, m, args, below, meth, c, w0, D, ca, A, cells, slots, Q, rfl, S, ⟨hK, hN⟩, hr, hlk, hf1, hf2, hf3, hf4, hA, hA2, hQ⟩ := X
  intro H locs ls h1 h2 h3 h4
  exact hQ H locs _ (W.zret S.1 S.2.1 hr (by rcases h.1 with rfl | rfl <;> rfl) (fun t ht _ => ⟨⟨_, σ, τ, rfl, h.2, by rw [ht]; exact h1⟩, ⟨by rw [ht]; exact h3.1, fun q a b => by rw [ht]; exact h3.2.1 q a (fun z => b (hA2 q z))⟩⟩) h3.2.2 hd hlk)
theorem x_vret (X : x_Is V cc nL own none ad ds dp P) (hd : decode cc pc = .ok (.return_, 1)) (h : P none σ τ) : V σ τ pc lv [] := by
  obtain ⟨p, l, e, R, s, m, args, below, meth, c, w0, D, ca, A, cells, slots, Q, rfl, S, ⟨hK, hN⟩, hr, hlk, hf1, hf2, hf3, hf4, hA, hA2, hQ⟩ := X
  intro H locs ls h1 h2 h3 h4
  exact hQ H locs _ (W.vret S.1 S.2.1 hr (fun t ht _ => ⟨⟨_, σ, τ, rfl, h, by rw [ht]; exact h1⟩, ⟨by rw [ht]; exact h3.1, fun q a b => by rw [ht]; exact h3.2.1 q a (fun z => b (hA2 q z))⟩⟩) h3.2.2 hd hlk)
theorem x_lret (X : x_Is V cc nL own (some .long) ad ds dp P) {v : Int64} (hd : decode cc pc = .ok (.lreturn, 1)) (h : P (some (.long v)) σ τ) : V σ τ pc lv [.long v] := by
  obtain ⟨p, l, e, R, s, m, args, below, meth, c, w0, D, ca, A, cells, slots, Q, rfl, S, ⟨hK, hN⟩, hr, hlk, hf1, hf2, hf3, hf4, hA, hA2, hQ⟩ := X
  intro H locs ls h1 h2 h3 h4
  exact hQ H locs _ (W.lret S.1 S.2.1 hr (fun t ht _ => ⟨⟨_, σ, τ, rfl, h, by rw [ht]; exact h1⟩, ⟨by rw [ht]; exact h3.1, fun q a b => by rw [ht]; exact h3.2.1 q a (fun z => b (hA2 q z))⟩⟩) h3.2.2 hd hlk)
end XS
