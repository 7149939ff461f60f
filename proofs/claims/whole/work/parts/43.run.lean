/-! from the law's entry through the constructors to its loop: printed by wip/whole/gen13.py -/
theorem y_f_c2 {ad : Nat → Nat} {c : Nat} (h : c ≠ 3) : ¬ (y_f ad c).category = 2 := by
  match c, h with
  | 0, _ => exact (by show ¬ (1 : Nat) = 2; decide)
  | 1, _ => exact (by show ¬ (1 : Nat) = 2; decide)
  | 2, _ => exact (by show ¬ (1 : Nat) = 2; decide)
  | 3, h => exact absurd rfl h
  | k + 4, _ => exact (by show ¬ (1 : Nat) = 2; decide)
theorem y_filt {ad : Nat → Nat} {lv : List (Nat × Nat)} {i : Nat} (h : lv.all (fun q => !(q.1 == i) && !(q.2 == 3)) = true) : (y_lv ad lv).filter (fun q => !(q.1 == i) && !(q.1 + 1 == i && q.2.category == 2)) = y_lv ad lv := by
  apply List.filter_eq_self.mpr
  intro q hq
  obtain ⟨q0, h0, rfl⟩ := List.mem_map.mp hq
  have h1 := List.all_eq_true.mp h q0 h0
  simp only [Bool.and_eq_true, Bool.not_eq_true', beq_eq_false_iff_ne] at h1 ⊢
  refine ⟨h1.1, ?_⟩
  rw [Bool.and_eq_false_iff]
  right
  rw [beq_eq_false_iff_ne]
  exact y_f_c2 h1.2
section YL
variable {V : y_J} {cc : ByteArray} {nL : Nat} {own : String} {n0 dp mc ms : Nat} {ds : List x_D} {cells slots pc : Nat} {lv : List (Nat × Nat)} {st : List Nat}
theorem y_astore_n (X : y_Is V cc nL own n0 dp mc ms) {k : Fin 4} {i x : Nat} (hd : decode cc pc = .ok (.astore_n k, 1)) (hi : (k : Nat) = i) (hn : i < nL) (hf : lv.all (fun q => !(q.1 == i) && !(q.2 == 3)) = true) (k9 : V ds cells slots (pc + 1) ((i, x + 4) :: lv) st) : V ds cells slots pc lv ((x + 4) :: st) := by
  obtain ⟨p, l, e, R, s, m, args, below, meth, c, w0, D, ca, ad0, A, Q, rfl, S, -⟩ := X
  intro ad H locs ls h0 h1 h2 h3 h4
  exact lv_astore_n (x := ad x) S.1 S.2.1 hd hi h4 hn (lv' := y_lv ad ((i, x + 4) :: lv)) (by rw [y_filt hf]; rfl) (fun ls' h5 => k9 ad H locs ls' h0 h1 h2 h3 h5)
theorem y_astore (X : y_Is V cc nL own n0 dp mc ms) {i x : Nat} (hd : decode cc pc = .ok (.astore i, 2)) (hn : i < nL) (hf : lv.all (fun q => !(q.1 == i) && !(q.2 == 3)) = true) (k9 : V ds cells slots (pc + 2) ((i, x + 4) :: lv) st) : V ds cells slots pc lv ((x + 4) :: st) := by
  obtain ⟨p, l, e, R, s, m, args, below, meth, c, w0, D, ca, ad0, A, Q, rfl, S, -⟩ := X
  intro ad H locs ls h0 h1 h2 h3 h4
  exact lv_astore (x := ad x) S.1 S.2.1 hd h4 hn (lv' := y_lv ad ((i, x + 4) :: lv)) (by rw [y_filt hf]; rfl) (fun ls' h5 => k9 ad H locs ls' h0 h1 h2 h3 h5)
theorem y_istore0 (X : y_Is V cc nL own n0 dp mc ms) {i : Nat} (hd : decode cc pc = .ok (.istore i, 2)) (hn : i < nL) (hf : lv.all (fun q => !(q.1 == i) && !(q.2 == 3)) = true) (k9 : V ds cells slots (pc + 2) ((i, 0) :: lv) st) : V ds cells slots pc lv (0 :: st) := by
  obtain ⟨p, l, e, R, s, m, args, below, meth, c, w0, D, ca, ad0, A, Q, rfl, S, -⟩ := X
  intro ad H locs ls h0 h1 h2 h3 h4
  exact lv_istore (x := 0) S.1 S.2.1 hd h4 hn (lv' := y_lv ad ((i, 0) :: lv)) (by rw [y_filt hf]; rfl) (fun ls' h5 => k9 ad H locs ls' h0 h1 h2 h3 h5)
end YL
theorem yo_L_8 : y_NO RL 8 12 12 [2, 2, 2, 2, 2, 2, 2, 2, 2, 2, 2, 2] := ⟨RX10, TX10, tyX10, rfl, inB10, tyX10_ok, by decide +kernel, w_1_29, w_1_30, w_1_1, by decide⟩
theorem yo_L_113 : y_NO RL 113 13 41 [2, 2, 0, 0, 2, 0, 2, 2, 2, 2, 2, 2, 2, 2, 2, 2, 2, 0, 0, 0, 0, 0, 2, 2, 2, 2, 0, 2, 2, 0, 2, 0, 0, 0, 0, 0, 0, 0, 3, 2, 0] := ⟨RX11, TX11, tyX11, rfl, inB11, tyX11_ok, by decide +kernel, w_6_184, w_6_185, w_1_12, by decide⟩
theorem ym_10 : x_CM yX10_init cX10_init 1 none 0 := ⟨w_1_33, w_1_1, by decide +kernel, by decide +kernel⟩
theorem ym_11 : x_CM yX11_init cX11_init 1 none 0 := ⟨w_6_188, w_1_12, by decide +kernel, by decide +kernel⟩
set_option maxRecDepth 100000 in
set_option maxHeartbeats 4000000 in
theorem z_made {V : y_J} (X : y_Is V code 8 RL 0 21 603072 7194730) (k : V fY 112 20974 28 [(5, 0), (4, 115), (3, 114), (2, 91), (1, 4), (0, 994)] []) : V [] 0 0 0 [(0, 994)] [] := by
  refine y_new X (h := 4) (dsn := ((fY.take 1).set 0 (0, 12, [2, 2, 2, 2, 2, 2, 2, 2, 2, 2, 2, 2]))) dL_law_0 yo_L_8 (by decide) (by decide +kernel) (by decide) (by decide +kernel) (by decide +kernel) ?_
  refine y_dup X dL_law_3 ?_
  refine y_callI X (k := 0) (As := []) [4] dL_law_4 yk10_0 ym_10 w_1_32 rfl (Or.inl w_1_31) (by decide) (by decide) rfl (by decide) (by decide +kernel) (by decide) ?_
  refine y_astore_n X dL_law_7 rfl (by decide) (by decide) ?_
  refine y_new X (h := 91) (dsn := ((fY.take 88).set 87 (0, 13, [2, 2, 0, 0, 2, 0, 2, 2, 2, 2, 2, 2, 2, 2, 2, 2, 2, 0, 0, 0, 0, 0, 2, 2, 2, 2, 0, 2, 2, 0, 2, 0, 0, 0, 0, 0, 0, 0, 3, 2, 0]))) dL_law_8 yo_L_113 (by decide) (by decide +kernel) (by decide) (by decide +kernel) (by decide +kernel) ?_
  refine y_dup X dL_law_11 ?_
  refine y_callI X (k := 87) (As := []) [91] dL_law_12 yk11_0 ym_11 w_6_187 rfl (Or.inl w_6_186) (by decide) (by decide) rfl (by decide) (by decide +kernel) (by decide) ?_
  refine y_astore_n X dL_law_15 rfl (by decide) (by decide) ?_
  refine y_newI X 4 1 (v := 1) (h := 114) (dsn := (fY.take 111)) dL_law_16 (by decide) dL_law_17 rfl (by decide) (by decide) (by decide) (by decide) (by decide) (by decide +kernel) (by decide) (by decide +kernel) (by decide +kernel) ?_
  refine y_astore_n X dL_law_19 rfl (by decide) (by decide) ?_
  refine y_newI X 5 1 (v := 1) (h := 115) (dsn := fY) dL_law_20 (by decide) dL_law_21 rfl (by decide) (by decide) (by decide) (by decide) (by decide) (by decide +kernel) (by decide) (by decide +kernel) (by decide +kernel) ?_
  refine y_astore X dL_law_23 (by decide) (by decide) ?_
  refine y_iconst X 0 dL_law_25 (fun _ => rfl) ?_
  refine y_istore0 X dL_law_26 (by decide) (by decide) ?_
  exact k
/-! what was made, as the loop's world -/
def z_s0 : x_S
  | 1, 3 => -1
  | 59, 4 => -1
  | 59, 5 => -1
  | _, _ => 0
def z_r0 : x_S
  | 0, 34 => -1
  | _, _ => 0
def z_t0 : x_L := fun _ _ => 0
def z_pm (k : Nat) : Nat := if k < 87 then k else if k = 87 then 110 else if k = 88 then 111 else if k < 112 then k - 2 else k
def z_chkl (k : Nat) : Nat → List Nat → List Nat → Bool
  | _, [], [] => true
  | i, c :: r, c' :: r' => (if c = 0 then decide (z_c z_s0 z_r0 k i = 0 ∧ c' = 0 ∨ z_c z_s0 z_r0 k i = -1 ∧ c' = 1) else if c = 1 then decide (c' = 3) else decide (c' = z_pm (c - 2) + 4)) && z_chkl k (i + 1) r r'
  | _, _, _ => false
def z_chk (k : Nat) (d d' : x_D) : Bool := decide (d.1 = d'.1) && decide (d.2.1 = d'.2.1) && match d.1 with
  | 0 => z_chkl k 0 d.2.2 d'.2.2
  | 1 => decide (k ≠ 1 ∧ k ≠ 59 ∧ k ≠ 89)
  | 2 => decide (k ≠ 1 ∧ k ≠ 59 ∧ k ≠ 89)
  | 3 => decide (k ≠ 1 ∧ k ≠ 59 ∧ k ≠ 89)
  | 4 => true
  | 5 => true
  | _ => decide (d.2.2.headD 0 = d'.2.2.headD 0 ∧ d.2.2.headD 0 + d.2.1 ≤ 87)
theorem z_zero {k : Nat} (h : k ≠ 1 ∧ k ≠ 59 ∧ k ≠ 89) : z_c z_s0 z_r0 k = fun _ => 0 := by
  funext i
  unfold z_c
  by_cases hk : k < 89
  · rw [if_pos hk]
    unfold z_s0
    split
    · exact absurd rfl h.1
    · exact absurd rfl h.2.1
    · exact absurd rfl h.2.1
    · rfl
  · rw [if_neg hk]
    unfold z_r0
    split
    · rename_i h1
      omega
    · rfl
theorem z_fsx {ad ad2 : Nat → Nat} (h2 : ∀ k, k < 112 → ad2 k = ad (z_pm k)) (k : Nat) : ∀ (l l' : List Nat) (i : Nat), z_chkl k i l l' = true → l.all (fun c => decide (c < 114)) = true → x_fs ad2 (z_c z_s0 z_r0) (z_cL z_t0 z_t0) k i l = l'.map (y_f ad)
  | [], [], _, _, _ => rfl
  | [], c' :: r', _, h, _ => by cases h
  | c :: r, [], _, h, _ => by cases h
  | c :: r, c' :: r', i, h, hl => by
    unfold z_chkl at h
    rw [Bool.and_eq_true] at h
    rw [List.all_cons, Bool.and_eq_true] at hl
    rw [x_fs, List.map_cons, z_fsx h2 k r r' (i + 1) h.2 hl.2]
    congr 1
    have h1 := h.1
    unfold x_fv
    by_cases c0 : c = 0
    · rw [if_pos c0] at h1 ⊢
      rcases of_decide_eq_true h1 with ⟨e1, rfl⟩ | ⟨e1, rfl⟩
      · rw [e1]; rfl
      · rw [e1]; rfl
    · rw [if_neg c0] at h1 ⊢
      by_cases c1 : c = 1
      · rw [if_pos c1] at h1 ⊢
        have e1 : c' = 3 := of_decide_eq_true h1
        subst e1
        show Value.long (z_cL z_t0 z_t0 k i) = Value.long 0
        unfold z_cL z_t0
        split <;> rfl
      · rw [if_neg c1] at h1 ⊢
        have e1 : c' = z_pm (c - 2) + 4 := of_decide_eq_true h1
        have hc : c < 114 := of_decide_eq_true hl.1
        subst e1
        show Value.ref (ad2 (c - 2)) = Value.ref (ad (z_pm (c - 2)))
        rw [h2 (c - 2) (by omega)]
theorem z_atx {D : va_G} {ca : Nat → ClassId} {ad ad2 : Nat → Nat} {H : Heap} (h2 : ∀ k, k < 112 → ad2 k = ad (z_pm k)) {k : Nat} {d d' : x_D} (hk : k < 112) (h : z_chk k d d' = true) (hl : d.2.2.all (fun c => decide (c < 114)) = true) (hy : va_at D vwCl (ad (z_pm k), y_ent ad ca d') H) : va_at D vwCl (ad2 k, x_ent ad2 ca (z_c z_s0 z_r0) (z_cL z_t0 z_t0) k d) H := by
  obtain ⟨t, n, l⟩ := d
  obtain ⟨t', n', l'⟩ := d'
  unfold z_chk at h
  rw [Bool.and_eq_true, Bool.and_eq_true] at h
  obtain ⟨⟨f1, f2⟩, h⟩ := h
  have e1 : t = t' := of_decide_eq_true f1
  have e2 : n = n' := of_decide_eq_true f2
  clear f1 f2
  subst e1
  subst e2
  rw [h2 k hk]
  have eT : z_cL z_t0 z_t0 k = fun _ => 0 := by
    funext i
    unfold z_cL z_t0
    split <;> rfl
  match t with
  | 0 =>
    have e : x_ent ad2 ca (z_c z_s0 z_r0) (z_cL z_t0 z_t0) k (0, n, l) = y_ent ad ca (0, n, l') := congrArg Sum.inr (congrArg (Prod.mk n) (z_fsx h2 k l l' 0 h hl))
    rw [e]
    exact hy
  | 1 =>
    have e : x_ent ad2 ca (z_c z_s0 z_r0) (z_cL z_t0 z_t0) k (1, n, l) = y_ent ad ca (1, n, l') := congrArg (fun f => Sum.inl (ca 1, n, Sum.inl f)) (z_zero (of_decide_eq_true h))
    rw [e]
    exact hy
  | 2 =>
    have e : x_ent ad2 ca (z_c z_s0 z_r0) (z_cL z_t0 z_t0) k (2, n, l) = y_ent ad ca (2, n, l') := congrArg (fun f => Sum.inl (ca 2, n, Sum.inl f)) (z_zero (of_decide_eq_true h))
    rw [e]
    exact hy
  | 3 =>
    have e : x_ent ad2 ca (z_c z_s0 z_r0) (z_cL z_t0 z_t0) k (3, n, l) = y_ent ad ca (3, n, l') := congrArg (fun f => Sum.inl (ca 3, n, Sum.inl f)) (z_zero (of_decide_eq_true h))
    rw [e]
    exact hy
  | 4 =>
    have e : x_ent ad2 ca (z_c z_s0 z_r0) (z_cL z_t0 z_t0) k (4, n, l) = y_ent ad ca (4, n, l') := congrArg (fun f => Sum.inl (ca 4, n, Sum.inr (Sum.inl f))) eT
    rw [e]
    exact hy
  | 5 =>
    have e : x_ent ad2 ca (z_c z_s0 z_r0) (z_cL z_t0 z_t0) k (5, n, l) = y_ent ad ca (5, n, l') := congrArg (fun f : Nat → Int64 => Sum.inl (ca 5, n, Sum.inr (Sum.inr (Sum.inr (Sum.inl (fun j => (f j).toUInt64)))))) eT
    rw [e]
    exact hy
  | t + 6 =>
    have hb : l.headD 0 = l'.headD 0 ∧ l.headD 0 + n ≤ 87 := of_decide_eq_true h
    show H[ad (z_pm k)]? = some (vp_cell (ca 6) (n, .inr (.inr (.inr (.inr (fun j => some (ad2 (l.headD 0 + j))))))))
    have hy : H[ad (z_pm k)]? = some (vp_cell (ca 6) (n, .inr (.inr (.inr (.inr (fun j => if j < n then some (ad (l'.headD 0 + j)) else none)))))) := hy
    rw [hy, vp_cell_q, vp_cell_q]
    congr 1
    unfold arrV
    congr 1
    apply congrArg
    funext j
    have hj := j.2
    show va_rf (if j.1 < n then some (ad (l'.headD 0 + j.1)) else none) = va_rf (some (ad2 (l.headD 0 + j.1)))
    rw [if_pos hj, ← hb.1, h2 _ (by omega)]
    unfold z_pm
    rw [if_pos (by omega)]
theorem z_pm_inj {i j : Nat} (hi : i < 112) (hj : j < 112) (h : z_pm i = z_pm j) : i = j := by
  unfold z_pm at h
  repeat' split at h
  all_goals omega
theorem z_allchk : ∀ k, k < 112 → ∃ d d' : x_D, dsZ[k]? = some d ∧ fY[z_pm k]? = some d' ∧ z_chk k d d' = true ∧ d.2.2.all (fun c => decide (c < 114)) = true := by
  have h : ∀ k, k < 112 → (match dsZ[k]?, fY[z_pm k]? with | some d, some d' => z_chk k d d' && d.2.2.all (fun c => decide (c < 114)) | _, _ => false) = true := by decide +kernel
  intro k hk
  have h1 := h k hk
  cases e1 : dsZ[k]? with
  | none => rw [e1] at h1; cases h1
  | some d =>
    cases e2 : fY[z_pm k]? with
    | none => rw [e1, e2] at h1; cases h1
    | some d' =>
      rw [e1, e2] at h1
      rw [Bool.and_eq_true] at h1
      exact ⟨d, d', rfl, rfl, h1.1, h1.2⟩
theorem z_conv {D : va_G} {ca : Nat → ClassId} {ad ad2 : Nat → Nat} {H : Heap} {A : Nat → Prop} (h2 : ∀ k, k < 112 → ad2 k = ad (z_pm k)) (hP : va_P D vwCl (y_ws ad ca 0 fY) H) (hD : va_D A (y_ws ad ca 0 fY)) : va_P D vwCl (x_ws ad2 ca (z_c z_s0 z_r0) (z_cL z_t0 z_t0) 0 dsZ) H ∧ va_D A (x_ws ad2 ca (z_c z_s0 z_r0) (z_cL z_t0 z_t0) 0 dsZ) := by
  have hlen : dsZ.length = 112 := by decide +kernel
  have key : ∀ (k : Nat) (q : Nat × va_E), (x_ws ad2 ca (z_c z_s0 z_r0) (z_cL z_t0 z_t0) 0 dsZ)[k]? = some q → k < 112 ∧ ∃ d d' : x_D, q = (ad2 k, x_ent ad2 ca (z_c z_s0 z_r0) (z_cL z_t0 z_t0) k d) ∧ (y_ws ad ca 0 fY)[z_pm k]? = some (ad (z_pm k), y_ent ad ca d') ∧ z_chk k d d' = true ∧ d.2.2.all (fun c => decide (c < 114)) = true := by
    intro k q hq
    rw [x_ws_at] at hq
    have hk : k < 112 := by
      cases hd : dsZ[k]? with
      | none => rw [hd] at hq; cases hq
      | some d => rw [← hlen]; exact (List.getElem?_eq_some_iff.mp hd).1
    obtain ⟨d, d', e1, e2, e3, e4⟩ := z_allchk k hk
    rw [e1, Option.map_some, Nat.zero_add] at hq
    exact ⟨hk, d, d', (Option.some.inj hq).symm, y_at e2, e3, e4⟩
  refine ⟨fun k q hq => ?_, fun i j x y hi hj hxy => ?_, fun k q hq => ?_⟩
  · obtain ⟨hk, d, d', rfl, e2, e3, e4⟩ := key k q hq
    exact z_atx h2 hk e3 e4 (hP _ _ e2)
  · obtain ⟨hi1, d, d', rfl, e2, -, -⟩ := key i x hi
    obtain ⟨hj1, b, b', rfl, f2, -, -⟩ := key j y hj
    have hxy : ad2 i = ad2 j := hxy
    rw [h2 i hi1, h2 j hj1] at hxy
    exact z_pm_inj hi1 hj1 (hD.1 _ _ _ _ e2 f2 hxy)
  · obtain ⟨hk, d, d', rfl, e2, -, -⟩ := key k q hq
    show A (ad2 k)
    rw [h2 k hk]
    exact hD.2 _ _ e2
set_option maxRecDepth 100000 in
set_option maxHeartbeats 4000000 in
/-- the law's way, if class and reference keep to a relation R -/
theorem z_start {R : x_S → x_L → x_S → x_L → Prop} (hp : z_ok R) (h0 : R z_s0 z_t0 z_r0 z_t0) {p : Program} {e : Env} {s : State} {m : MethodId} {below : List Frame} {meth : Method} {c : Code} (l : Launch) (hflags : l.flags = flags0) {b L : Nat} {xs : Nat → Int32} (hL : L ≤ 3072) (C0 : lw_At p s m meth c b L xs) : W p l e room_1 s m #[Value.ref b] below meth c s.heap [] 0 0 (lw_Z below #[Value.ref b] s) (entryFrame m ([Value.ref b] : List Value).toArray 8) := by
  obtain ⟨hx, hb, hr, hml, hown, hts, hX, hbl, hlk, hgv⟩ := C0
  have hst : l.stackTraces = false := by
    unfold Launch.stackTraces
    rw [hflags]
    decide +kernel
  have hbig : ∀ w ∈ lw_big, w.before #[Value.ref b] s = true := fun w hw => hts w (List.mem_filter.mp hw).1
  obtain ⟨D, ca, hK⟩ := z_K hts hbig
  obtain ⟨ad0, h990, hN, hST⟩ := z_NWST b hts hgv
  have S : CallFix p m c code 8 s #[Value.ref b] (Cond.initialized "TruckPlatoonsLaw" :: lw_big) RL := ⟨hx, hb, hml, hown, fun w hw => by
    rcases List.mem_cons.mp hw with rfl | hw
    · exact hbig _ w_1_0
    · exact hbig _ hw⟩
  have X : y_Is (y_V p l e room_1 s m #[Value.ref b] below meth c 8 D ca 0 ad0 (fun q => s.heap.size ≤ q) (lw_Z below #[Value.ref b] s)) code 8 RL 0 21 603072 7194730 := ⟨p, l, e, room_1, s, m, _, below, meth, c, _, D, ca, ad0, _, _, rfl, S, ⟨hK, z_NC hts⟩, by decide, by decide, by decide, by decide, fun q h => h⟩
  have go := z_made X (fun ad H locs ls g0 g1 g2 g3 g4 => by
    have h2 : ∀ k, k < 112 → (fun k => ad (z_pm k)) k = ad (z_pm k) := fun k _ => rfl
    obtain ⟨c1, c2⟩ := z_conv (ad2 := fun k => ad (z_pm k)) h2 g1 g2
    have hhi : ∀ k, 900 ≤ k → (fun k => ad (z_pm k)) k = ad0 k := fun k hk => by
      show ad (z_pm k) = ad0 k
      rw [show z_pm k = k from by unfold z_pm; rw [if_neg (by omega), if_neg (by omega), if_neg (by omega), if_neg (by omega)]]
      exact g0 k (Or.inr hk)
    have Z : z_Is (x_V p l e room_1 s m #[Value.ref b] below meth c 8 D (fun k => ad (z_pm k)) ca dsZ (fun q => s.heap.size ≤ q) (112 + 0) (20974 + 6 * 0) (lw_Z below #[Value.ref b] s)) (fun k => ad (z_pm k)) b L xs 0 := ⟨p, l, e, s, m, below, meth, c, _, D, ca, rfl, S, ⟨hK, hN.cong hhi, hST.cong hhi⟩, hr, hlk, hst, hX, hbl, by omega⟩
    have go := z_loop hp hL 1000 0 _ 0 0 z_s0 z_r0 z_t0 z_t0 (by omega) (by decide) (by omega) (by omega) Z h0
    refine go H locs ls c1 c2 g3 ?_
    refine lv_sub g4 [5, 4, 3, 2, 1, 0] ?_
    have e990 : ad 990 = b := (g0 990 (Or.inr (by omega))).trans h990
    show [(0, Value.ref (ad 990)), (1, .ref (ad 0)), (2, .ref (ad 87)), (3, .ref (ad 110)), (4, .ref (ad 111)), (5, .int 0)] = _
    rw [e990]
    rfl)
  have hls := lv_entry ([Value.ref b]) (n := 8) (Nat.le_of_ble_eq_true rfl)
  rw [lg_entry_eq]
  exact go ad0 s.heap [] _ (fun _ _ => rfl) (fun k q hk => (by cases hk)) ⟨fun i j x y hi => (by cases hi), fun k q hk => (by cases hk)⟩ va_S.rf (by
    show lv_has _ 8 [(0, Value.ref (ad0 990))]
    rw [h990]
    exact hls)
