/-! code that makes cells: the k-th cell made lies k behind the heap that was there -/
def kA3 (cA : Nat → ClassId) (U : State) : Prop := ∃ k : Class, U.vm.classes[cA 3]? = some k ∧ k.kind = .array (cA 0) (.array .int)
theorem kA3.moved {cA : Nat → ClassId} {u U : State} (hvm : u.vm.Alike U.vm) (h : kA3 cA u) : kA3 cA U := by
  obtain ⟨k, h1, h2⟩ := h
  obtain ⟨k', h3, he⟩ := hvm.2.2 _ _ h1
  exact ⟨k', h3, by rw [he]; exact h2⟩
def ck_ad (ad : Nat → Nat) (N sz nc : Nat) : Prop := aw_J ad N ∧ (∀ k, k < N → ad k < sz) ∧ ∀ i, i < nc → ad (N + i) = sz + i
theorem ck_ad.J {ad : Nat → Nat} {N sz nc kc : Nat} (h : ck_ad ad N sz nc) (hk : kc ≤ nc) : aw_J ad (N + kc) := by
  have key : ∀ i, i < N + kc → (i < N ∧ ad i < sz) ∨ (N ≤ i ∧ ad i = sz + (i - N)) := by
    intro i hi
    by_cases c : i < N
    · exact Or.inl ⟨c, h.2.1 i c⟩
    · have := h.2.2 (i - N) (by omega)
      rw [show N + (i - N) = i by omega] at this
      exact Or.inr ⟨by omega, this⟩
  intro i j hi hj e
  rcases key i hi with ⟨a1, a2⟩ | ⟨a1, a2⟩ <;> rcases key j hj with ⟨b1, b2⟩ | ⟨b1, b2⟩
  · exact h.1 i j a1 b1 e
  · omega
  · omega
  · omega
theorem ck_ad.A {ad : Nat → Nat} {N sz nc kc : Nat} (h : ck_ad ad N sz nc) (hk : kc ≤ nc) : aw_A ad (N + kc) sz = aw_A ad N sz := by
  funext q
  refine propext ⟨?_, ?_⟩
  · rintro (⟨k, h1, h2⟩ | h1)
    · by_cases c : k < N
      · exact Or.inl ⟨k, c, h2⟩
      · refine Or.inr ?_
        have := h.2.2 (k - N) (by omega)
        rw [show N + (k - N) = k by omega] at this
        omega
    · exact Or.inr h1
  · rintro (⟨k, h1, h2⟩ | h1)
    · exact Or.inl ⟨k, by omega, h2⟩
    · exact Or.inr h1
def ck_rm (d nc ns : Nat) : Room := { frames := d, cells := nc, slots := ns, locals := 60 * d }
def ck_P (av : List Value) (C : aw_H) (D : va_G) (cA : Nat → ClassId) (ad : Nat → Nat) (sz : Nat) : Array Value → State → Prop := va_Pc (av.map (aw_cv ad)) (fun U => U.heap.size = sz ∧ va_P D aw_cl (aw_cn ad cA 0 C) U.heap ∧ aw_K D cA U ∧ kA3 cA U)
theorem ck_blind (av : List Value) (C : aw_H) (D : va_G) (cA : Nat → ClassId) (ad : Nat → Nat) (sz : Nat) : FrameBlind (ck_P av C D cA ad sz) := by
  intro a U g mk h
  obtain ⟨q0, q1, qP, qK, q3⟩ := h
  exact ⟨q0, q1, qP, aw_K.same rfl qK, kA3.moved (u := U) (Vm.Alike.refl _) q3⟩
def ck_Q (Q : aw_H → Prop) (D : va_G) (cA : Nat → ClassId) (ad : Nat → Nat) (N nc sz : Nat) : Array Value → State → Outcome → State → Prop := fun _ st oc t =>
  ∃ C' : aw_H, oc = .returned none ∧ Q C' ∧ C'.length = N + nc ∧ va_P D aw_cl (aw_cn ad cA 0 C') t.heap ∧ va_F (aw_A ad N sz) st t
/-- a constructor's contract: nc cells of ns slots are made -/
def CMet (l : Launch) (M : aw_M) (d : Nat) (av : List Value) (C : aw_H) (nc ns : Nat) (Q : aw_H → Prop) : Prop :=
  ∀ (D : va_G) (cA : Nat → ClassId) (ad : Nat → Nat) (N sz : Nat), C.length = N → ck_ad ad N sz nc → Met l M.1 (aw_ws M) (ck_rm d nc ns) (ck_P av C D cA ad sz) (ck_Q Q D cA ad N nc sz) nc ns (aw_A ad N sz)
def kst (D : va_G) (cA : Nat → ClassId) (ad : Nat → Nat) (N : Nat) (s : State) (C : aw_H) (H : Heap) (locs : List Loc) : Prop := va_P D aw_cl (aw_cn ad cA 0 C) H ∧ va_S (aw_A ad N s.heap.size) s.heap H locs
def kg (l : Launch) (M : aw_M) (d tc ts : Nat) (X : Nat → aw_Kt) (fi : Bool) (p : Program) (e : Env) (R : Room) (s : State) (m : MethodId) (args : Array Value) (below : List Frame) (meth : Method) (c : Code) (D : va_G) (cA : Nat → ClassId) (ad : Nat → Nat) (N : Nat) (Z : State → Prop) : Prop :=
  (p.tables.exec = Jvm.exec ∧ c.code = M.2.1 ∧ c.maxLocals = M.2.2.1 ∧ s.vm.findClass M.1.cls = some m.cls ∧ (∀ w ∈ aw_B, w.before args s = true)) ∧ (d ≤ R.frames ∧ 60 * d ≤ R.locals ∧ tc ≤ R.cells ∧ ts ≤ R.slots) ∧ aw_K D cA s ∧ kA3 cA s ∧ ck_ad ad N s.heap.size tc ∧ (fi = true → meth.name = "<init>") ∧
  ∀ (pc : Nat) (L : aw_L) (st : List Value) (C : aw_H) (H : Heap) (locs : List Loc) (ls : Array Slot), X pc L st C → C.length = N + tc → kst D cA ad N s C H locs → lv_has ls M.2.2.1 (aw_al ad 0 L) → W p l e R s m args below meth c H locs tc ts Z (F0 m pc ls (st.map (aw_cv ad)))
def SK (l : Launch) (M : aw_M) (d tc ts : Nat) (X : Nat → aw_Kt) (fi : Bool) (kc ks pc : Nat) (L : aw_L) (st : List Value) (C : aw_H) : Prop :=
  ∀ (p : Program) (e : Env) (R : Room) (s : State) (m : MethodId) (args : Array Value) (below : List Frame) (meth : Method) (c : Code) (D : va_G) (cA : Nat → ClassId) (ad : Nat → Nat) (N : Nat) (Z : State → Prop), kg l M d tc ts X fi p e R s m args below meth c D cA ad N Z → C.length = N + kc →
  ∀ (H : Heap) (locs : List Loc) (ls : Array Slot), kst D cA ad N s C H locs → lv_has ls M.2.2.1 (aw_al ad 0 L) → W p l e R s m args below meth c H locs kc ks Z (F0 m pc ls (st.map (aw_cv ad)))
section SKL
variable {l : Launch} {M : aw_M} {d tc ts : Nat} {X : Nat → aw_Kt} {fi : Bool} {kc ks pc : Nat} {L : aw_L} {st : List Value} {C : aw_H}
theorem sk_exit (h : X pc L st C) : SK l M d tc ts X fi tc ts pc L st C := fun p e R s m args below meth c D cA ad N Z G hC H locs ls hS hl => G.2.2.2.2.2.2 pc L st C H locs ls h hC hS hl
/-- code that makes nothing -/
theorem sk_sw (h1 : kc ≤ tc) (h2 : ks ≤ ts) (h : SW l M none (fun pc L st C => SK l M d tc ts X fi kc ks pc L st C) d kc ks (fun _ _ => False) pc L st C) : SK l M d tc ts X fi kc ks pc L st C := by
  intro p e R s m args below meth c D cA ad N Z G hC H locs ls hS hl
  have G0 := G
  obtain ⟨g1, ⟨r1, r2, r3, r4⟩, gK, gA, gad, -, -⟩ := G
  have eA := gad.A h1
  refine h p e R s m args below meth c D cA ad (N + kc) Z ⟨g1, ⟨r1, r2, by omega, by omega⟩, gK, gad.J h1, (fun q hq => by cases hq), (fun _ _ _ _ _ _ _ _ hq => hq.elim), fun pc L st C H locs ls hX hSt hl => ?_⟩ H locs ls ⟨hC, hS.1, by rw [eA]; exact hS.2⟩ hl
  exact hX p e R s m args below meth c D cA ad N Z G0 hSt.1 H locs ls ⟨hSt.2.1, by rw [← eA]; exact hSt.2.2⟩ hl
theorem sk_size {p : Program} {e : Env} {R : Room} {s : State} {m : MethodId} {args : Array Value} {below : List Frame} {meth : Method} {c : Code} {D : va_G} {cA : Nat → ClassId} {ad : Nat → Nat} {N : Nat} {T : State} {H : Heap} {locs : List Loc} (X : Stand p l e R s m args below meth c T locs kc ks) (hT : T.heap = H) (gad : ck_ad ad N s.heap.size tc) (h1 : kc ≤ tc) (hC : C.length = N + kc) (hS : kst D cA ad N s C H locs) : H.size = s.heap.size + kc := by
  have h2 := X.heapSize
  rw [hT] at h2
  refine Nat.le_antisymm h2 ?_
  cases kc with
  | zero => exact hS.2.1
  | succ j =>
    have hg : ∃ c, aw_g C (N + j) = some c := by
      rw [aw_g_eq]
      exact ⟨_, List.getElem?_eq_getElem (by omega)⟩
    obtain ⟨c9, hg⟩ := hg
    have h3 := (hS.1 _ _ (aw_at hg)).lt
    have h4 : ad (N + j) = s.heap.size + j := gad.2.2 j (by omega)
    have h5 : ad (N + j) < H.size := h3
    omega
theorem sk_push {D : va_G} {cA : Nat → ClassId} {ad : Nat → Nat} {x : aw_Cel} {H H1 : Heap} {h : Nat} (hP : va_P D aw_cl (aw_cn ad cA 0 C) H) (hh : H.size = h) (ha : ad C.length = h) (o1 : ∀ q, q < h → H1[q]? = H[q]?) (hx : va_at D aw_cl (h, aw_ce ad cA x) H1) : va_P D aw_cl (aw_cn ad cA 0 (C ++ [x])) H1 := by
  rw [cn_app, P_app, Nat.zero_add]
  refine ⟨P_kept hP (fun k _ hlt => o1 _ (by omega)), ?_⟩
  intro k q hq
  have hz : k < 1 := (List.getElem?_eq_some_iff.mp hq).1
  rw [show k = 0 by omega] at hq
  have e : (ad C.length, aw_ce ad cA x) = q := Option.some.inj hq
  rw [← e, ha]
  exact hx
theorem sk_newa {atype : ArrayType} {ty : FieldType} {n : Int32} {N' t : Nat} {b : (Nat → Int32) ⊕ (Nat → Int64) ⊕ (Nat → UInt32) ⊕ (Nat → UInt64) ⊕ (Nat → Option Nat)} (hd : decode M.2.1 pc = .ok (.newarray atype, 2)) (hty : newarray.typeOf atype = ty) (ht : ∀ cA : Nat → ClassId, (aw_ty cA)[t]? = some (cA t, ty)) (hra : ∀ (U : State) (c : ClassId), va_RA U c ty → U.vm.findClass ("[" ++ ty.toString) = some c) (harr : Jvm.Cond.arrayClass ty ∈ aw_B) (ha : ∀ c : ClassId, vp_cell c (N', b) = arrV c N' (fun _ => defaultValue ty)) (hb : ∀ ad, aw_cb ad b = b) (hn : ¬ n < 0) (hN : n.toNatClampNeg = N') (hby : N' * componentBytes ty ≤ 536870912) (h1 : kc + 1 ≤ tc) (h2 : ks + N' ≤ ts)
    (h : SK l M d tc ts X fi (kc + 1) (ks + N') (pc + 2) L (.ref C.length :: st) (C ++ [.inl (t, N', b)])) : SK l M d tc ts X fi kc ks pc L (.int n :: st) C := by
  subst hty
  intro p e R s m args below meth c D cA ad N Z G hC H locs ls hS hl T hT Xs
  have G0 := G
  obtain ⟨⟨hx, hbb, hml, hown, hts⟩, ⟨r1, r2, r3, r4⟩, gK, gA, gad, -, -⟩ := G
  have hz := sk_size Xs hT gad (by omega) hC hS
  have had : ad C.length = H.size := by rw [hC, gad.2.2 kc (by omega), hz]
  refine (va_newaK (g := F0 m pc ls (.int n :: st.map (aw_cv ad))) hx hbb (hts _ harr) rfl hd rfl hn hN hby (by omega) (by omega) rfl (fun H1 cA' e1 z1 o1 hAr hNm => ?_) : W p l e R s m args below meth c H locs kc ks Z _) T hT Xs
  have hc : cA' = cA t := Option.some.inj (hNm.symm.trans (hra s _ (gK.1.2 t _ (ht cA)).2))
  subst hc
  have e2 : (Value.ref H.size :: st.map (aw_cv ad)) = (Value.ref C.length :: st).map (aw_cv ad) := by
    show _ = Value.ref (ad C.length) :: _
    rw [had]
  show W p l e R s m args below meth c H1 locs (kc + 1) (ks + N') Z (F0 m (pc + 2) ls (Value.ref H.size :: st.map (aw_cv ad)))
  rw [e2]
  refine h p e R s m args below meth c D cA ad N Z G0 (by rw [List.length_append]; show C.length + 1 = _; omega) H1 locs ls ⟨sk_push hS.1 rfl had o1 ?_, Nat.le_trans hS.2.1 (by omega), fun q q1 q2 => (o1 q (Nat.lt_of_lt_of_le q1 hS.2.1)).trans (hS.2.2.1 q q1 q2), hS.2.2.2⟩ hl
  show H1[H.size]? = some (vp_cell (cA t) (N', aw_cb ad b))
  rw [hb, ha]
  exact e1
theorem sk_new {Cn : String} {T0 : u_T} {Nf ci ix : Nat} {ty0 : Nat → FieldType} {fs : List Value} (hd : decode M.2.1 pc = .ok (.new ix, 3)) (hc : aw_cl[ci]? = some (Cn, T0, Nf)) (hin : ∀ w ∈ u_ws Cn T0 Nf, w ∈ aw_B) (hty : ∀ k, k < Nf → parseFieldDescriptor (T0 k).2.2.1 = some (ty0 k)) (hcl : Jvm.Cond.classLink M.1.cls ix Cn ∈ aw_B) (hins : Jvm.Cond.instantiable Cn Nf ∈ aw_B) (hini : Jvm.Cond.initialized Cn ∈ aw_B) (hfs : ∀ (ad : Nat → Nat) (j : Nat), j < Nf → defaultValue (ty0 j) = vp_V (fs.map (aw_cv ad)) j) (h1 : kc + 1 ≤ tc) (h2 : ks + Nf ≤ ts)
    (h : SK l M d tc ts X fi (kc + 1) (ks + Nf) (pc + 3) L (.ref C.length :: st) (C ++ [.inr (ci, fs)])) : SK l M d tc ts X fi kc ks pc L st C := by
  intro p e R s m args below meth c D cA ad N Z G hC H locs ls hS hl T hT Xs
  have G0 := G
  obtain ⟨⟨hx, hbb, hml, hown, hts⟩, ⟨r1, r2, r3, r4⟩, gK, gA, gad, -, -⟩ := G
  have hz := sk_size Xs hT gad (by omega) hC hS
  have had : ad C.length = H.size := by rw [hC, gad.2.2 kc (by omega), hz]
  have hKn := gK.1.1 ci _ hc
  refine (W.newcK (g := F0 m pc ls (st.map (aw_cv ad))) hx hbb hown (hts _ hcl) (hts _ hins) (hts _ hini) rfl hd (by omega) (by omega) hKn.2.1 rfl (fun H1 kC hkC e1 z1 o1 => ?_) : W p l e R s m args below meth c H locs kc ks Z _) T hT Xs
  have e2 : (Value.ref H.size :: st.map (aw_cv ad)) = (Value.ref C.length :: st).map (aw_cv ad) := by
    show _ = Value.ref (ad C.length) :: _
    rw [had]
  show W p l e R s m args below meth c H1 locs (kc + 1) (ks + Nf) Z (F0 m (pc + 3) ls (Value.ref H.size :: st.map (aw_cv ad)))
  rw [e2]
  refine h p e R s m args below meth c D cA ad N Z G0 (by rw [List.length_append]; show C.length + 1 = _; omega) H1 locs ls ⟨sk_push hS.1 rfl had o1 ?_, Nat.le_trans hS.2.1 (by omega), fun q q1 q2 => (o1 q (Nat.lt_of_lt_of_le q1 hS.2.1)).trans (hS.2.2.1 q q1 q2), hS.2.2.2⟩ hl
  exact ⟨_, hc, (u_born ty0 hts hin hKn hkC e1 hty).to (hfs ad)⟩
theorem sk_putF {ix ci kf Nf a : Nat} {Cn : String} {T0 : u_T} {ty0 : Nat → FieldType} {ty : FieldType} {b : Nat} {fs : List Value} (hd : decode M.2.1 pc = .ok (.putfield ix, 3)) (hc : aw_cl[ci]? = some (Cn, T0, Nf)) (hin : ∀ w ∈ u_ws Cn T0 Nf, w ∈ aw_B) (hty : ∀ k, k < Nf → parseFieldDescriptor (T0 k).2.2.1 = some (ty0 k)) (hnm : ∀ a, a < Nf → ∀ b, b < Nf → a ≠ b → (T0 a).2.1 ≠ (T0 b).2.1) (hk : kf < Nf) (hfin : (T0 kf).2.2.2 = true) (hdc : (T0 kf).1 = M.1.cls) (hde : parseFieldDescriptor (T0 kf).2.2.1 = some ty) (hnr : ∀ a : Nat, narrow ty (.ref a) = .ref a ∧ fits ty (.ref a) = true) (hli : Jvm.Cond.fieldLink M.1.cls ix (T0 kf).1 (T0 kf).2.1 (T0 kf).2.2.1 ∈ aw_B) (hg : aw_g C a = some (.inr (ci, fs))) (hlen : kf < fs.length) (h1 : kc ≤ tc) (hfi : fi = true)
    (h : SK l M d tc ts X fi kc ks (pc + 3) L st (aw_s C a (.inr (ci, aw_s fs kf (.ref b))))) : SK l M d tc ts X fi kc ks pc L (.ref b :: .ref a :: st) C := by
  intro p e R s m args below meth c D cA ad N Z G hC H locs ls hS hl
  have G0 := G
  obtain ⟨⟨hx, hbb, hml, hown, hts⟩, ⟨r1, r2, r3, r4⟩, gK, gA, gad, gname, -⟩ := G
  have eA := gad.A h1
  refine va_putF (v := .ref (ad b)) (ty := ty) (A := aw_A ad (N + kc) s.heap.size) hx hbb hts hin ty0 hty hnm hown gK.1 hS.1 (aw_D (gad.J h1) hC) (by rw [eA]; exact hS.2) a (aw_at hg) hc kf hk (hts _ hli) (fun _ h9 => h9) hfin (gname hfi) hdc hde (hnr _).1 (hnr _).2 (by rw [List.length_map]; exact hlen) hd (fun H1 locs1 hP hD hS1 => ?_)
  refine h p e R s m args below meth c D cA ad N Z G0 (by rw [aw_s_len]; exact hC) H1 locs1 ls ⟨aw_Pset hP (by show Sum.inr _ = Sum.inr _; rw [← aw_fset]; rfl), by rw [← eA]; exact hS1⟩ hl
theorem sk_obj {ix a : Nat} (hd : decode M.2.1 pc = .ok (.invokespecial ix, 3)) (hli : Jvm.Cond.methodLink M.1.cls ix objectInit ∈ aw_B) (hin : Jvm.Cond.instanceMethod objectInit ∈ aw_B) (hco : Jvm.Cond.code objectInit ⟨#[0xb1]⟩ 1 none ∈ aw_B) (h1 : 1 ≤ d) (hst : aw_cs st ≤ 8)
    (h : SK l M d tc ts X fi kc ks (pc + 3) L st C) : SK l M d tc ts X fi kc ks pc L (.ref a :: st) C := by
  intro p e R s m args below meth c D cA ad N Z G hC H locs ls hS hl
  have G0 := G
  obtain ⟨⟨hx, hbb, hml, hown, hts⟩, ⟨r1, r2, r3, r4⟩, gK, gA, gad, gname, -⟩ := G
  refine W.objInit (g := F0 m pc ls (.ref (ad a) :: st.map (aw_cv ad))) hx hbb hown (hts _ hli) (hts _ hin) (hts _ hco) rfl (hl.1.trans hml.symm) rfl hd (by omega) (by
    have := aw_cs_eq ad st
    show 2 * 0 + _ + 12 ≤ R.locals
    rw [this]
    omega) ?_
  exact h p e R s m args below meth c D cA ad N Z G0 hC H locs ls hS hl
theorem sk_call {M' : aw_M} {ix a nc ns : Nat} {Q : aw_H → Prop} (hd : decode M.2.1 pc = .ok (.invokespecial ix, 3)) (hM : CMet l M' d [.ref a] C nc ns Q) (hy : M'.1.name = "<init>") (hr : M'.2.2.2 = none) (hm : M'.2.2.1 ≤ 41) (hli : Jvm.Cond.methodLink M.1.cls ix M'.1 ∈ aw_B) (hin : Jvm.Cond.instanceMethod M'.1 ∈ aw_B) (hini : Jvm.Cond.initialized M'.1.cls ∈ aw_B) (hco : Jvm.Cond.code M'.1 M'.2.1 M'.2.2.1 M'.2.2.2 ∈ aw_B) (hde : M'.1.cls ≠ "java/lang/invoke/MethodHandle" ∧ M'.1.cls ≠ "java/lang/invoke/VarHandle" ∧ (parseMethodDescriptor M'.1.desc).map (fun d => d.parameters.length) = some 0) (hst : aw_cs st ≤ 8) (h1 : kc + nc ≤ tc) (h2 : ks + ns ≤ ts)
    (h : ∀ C', Q C' → SK l M (d + 1) tc ts X fi (kc + nc) (ks + ns) (pc + 3) L st C') : SK l M (d + 1) tc ts X fi kc ks pc L (.ref a :: st) C := by
  intro p e R s m args below meth c D cA ad N Z G hC H locs ls hS hl T hT Xs
  have G0 := G
  obtain ⟨⟨hx, hbb, hml, hown, hts⟩, ⟨r1, r2, r3, r4⟩, gK, gA, gad, -, -⟩ := G
  have hz := sk_size Xs hT gad (by omega) hC hS
  have had : ck_ad ad (N + kc) H.size nc := by
    refine ⟨gad.J (by omega), fun k hk => ?_, fun i hi => ?_⟩
    · by_cases c9 : k < N
      · have := gad.2.1 k c9
        omega
      · have := gad.2.2 (k - N) (by omega)
        rw [show N + (k - N) = k by omega] at this
        omega
    · rw [show N + kc + i = N + (kc + i) by omega, gad.2.2 (kc + i) (by omega)]
      omega
  have eA := gad.A (show kc ≤ tc by omega)
  have hrun : va_Run p l e R s m args below meth c H locs kc ks nc ns (F0 m pc ls ((Value.ref a :: st).map (aw_cv ad))) (st.map (aw_cv ad)) (ck_Q Q D cA ad (N + kc) nc H.size (Value.ref (ad a) :: []).toArray) (aw_A ad (N + kc) H.size) :=
    va_runI (b := ad a) (As := []) (n := 0) (rm := ck_rm d nc ns) (maxL := M'.2.2.1) (bytes := M'.2.1) ⟨hx, hbb, hml, hown, hts⟩ (hM D cA ad (N + kc) H.size hC had) ⟨callB_of 0 hts (aw_GI hco) (by rw [← hr]; rfl) rfl rfl (hts _ hini) (hts _ hli) hde ⟨r1, by show 8 + (_ + 11) + 60 * d ≤ _; omega⟩, hy, hts _ hin⟩
      ⟨ck_blind _ _ _ _ _ _, fun U hU hW => ⟨rfl, by rw [hU], by rw [hU]; exact hS.1, aw_K.warm hW gK, kA3.moved hW.alike gA⟩⟩ rfl rfl hl.1 rfl (lv_room (by rw [aw_cs_eq]; exact hst)) hd ⟨by omega, by omega⟩
  obtain ⟨v, st₀, t, T', Lc, h0, X', hL, e1, e2, ⟨C', hv, hq, hN, hP, hzz, hk⟩, stp⟩ := hrun T hT Xs
  have hv : v = none := by cases hv; rfl
  subst hv
  rw [h0] at hzz hk
  have hA : ∀ q, aw_A ad (N + kc) H.size q → aw_A ad N s.heap.size q := fun q z => by
    rw [← eA]
    rcases z with z | z
    · exact Or.inl z
    · exact Or.inr (Nat.le_trans hS.2.1 z)
  have hSt : kst D cA ad N s C' T'.heap (locs ++ Lc) := ⟨by rw [e1]; exact hP, Nat.le_trans hS.2.1 (by rw [e1]; exact hzz), fun q h1 h2 => by rw [e1, hk q (Nat.lt_of_lt_of_le h1 hS.2.1) (fun z => h2 (hA q z))]; exact hS.2.2.1 q h1 h2, fun q hq => by
      rcases List.mem_append.mp hq with h | h
      · exact hS.2.2.2 q h
      · exact hA _ (hL q h)⟩
  obtain ⟨t2, a1, b1⟩ := h C' hq p e R s m args below meth c D cA ad N Z G0 (by omega) T'.heap (locs ++ Lc) ls hSt hl T' rfl X'
  exact ⟨t2, stp t2 a1, b1⟩
theorem sk_mna {ix : Nat} {n : Int32} {N' : Nat} (hd : decode M.2.1 pc = .ok (.multianewarray ix 2, 4)) (hcl : Jvm.Cond.classLink M.1.cls ix "[[I" ∈ aw_B) (hn : ¬ n < 0) (hN : n.toNatClampNeg = N') (hN2 : N' ≤ 1000) (h1 : kc + 1 + N' ≤ tc) (h2 : ks + N' + N' * 40 ≤ ts)
    (h : SK l M d tc ts X fi (kc + 1 + N') (ks + N' + N' * 40) (pc + 4) L (.ref C.length :: st) (C ++ (.inl (3, N', .inr (.inr (.inr (.inr (fun j => if j < N' then some (C.length + 1 + j) else none))))) :: List.replicate N' (.inl (0, 40, .inl (fun _ => 0)))))) : SK l M d tc ts X fi kc ks pc L (.int 40 :: .int n :: st) C := by
  intro p e R s m args below meth c D cA ad N Z G hC H locs ls hS hl T hT Xs
  have G0 := G
  obtain ⟨⟨hx, hbb, hml, hown, hts⟩, ⟨r1, r2, r3, r4⟩, gK, ⟨kA, gA1, gA2⟩, gad, -, -⟩ := G
  have hz := sk_size Xs hT gad (by omega) hC hS
  have had : ∀ i, i < 1 + N' → ad (C.length + i) = H.size + i := fun i hi => by rw [hC, show N + kc + i = N + (kc + i) by omega, gad.2.2 (kc + i) (by omega)]; omega
  obtain ⟨-, kC, hkC, c0, hkind⟩ := (gK.1.2 0 _ rfl).1 0 (fun _ => .int 0)
  refine (ax_mna (N := N') (K := 40) hx hbb hown (hts _ hcl) (gK.1.2 3 _ rfl).2 gA1 gA2 hkC hkind hn (by decide) hN (by decide) hN2 (by decide) (by omega) (by omega) hd hS.2.1 (fun H1 z1 f2 f3 o1 => ?_) : W p l e R s m args below meth c H locs kc ks Z _) T hT Xs
  have h00 : ad C.length = H.size := by have := had 0 (by omega); simpa using this
  have e2 : (Value.ref H.size :: st.map (aw_cv ad)) = (Value.ref C.length :: st).map (aw_cv ad) := by
    show _ = Value.ref (ad C.length) :: _
    rw [h00]
  rw [e2]
  refine h p e R s m args below meth c D cA ad N Z G0 (by rw [List.length_append, List.length_cons, List.length_replicate]; omega) H1 locs ls ⟨?_, Nat.le_trans hS.2.1 (by omega), fun q q1 q2 => (o1 q (Nat.lt_of_lt_of_le q1 hS.2.1)).trans (hS.2.2.1 q q1 q2), hS.2.2.2⟩ hl
  rw [cn_app, P_app, Nat.zero_add]
  refine ⟨P_kept hS.1 (fun k _ hlt => o1 _ (by omega)), ?_⟩
  intro k q hq
  rw [aw_cn_get] at hq
  cases k with
  | zero =>
    have e : q = (ad C.length, _) := (Option.some.inj hq).symm
    rw [e, h00]
    show H1[H.size]? = some (vp_cell (cA 3) (N', .inr (.inr (.inr (.inr (fun i => (if i < N' then some (C.length + 1 + i) else none).map ad))))))
    rw [f2, vp_cell_q]
    unfold mz_o
    congr 2
    funext j
    by_cases c9 : j < N'
    · rw [if_pos c9, if_pos c9]
      show Value.ref _ = Value.ref (ad (C.length + 1 + j))
      rw [Nat.add_assoc C.length, had (1 + j) (by omega)]
      congr 1
      exact Nat.add_assoc _ 1 j
    · rw [if_neg c9, if_neg c9]
      rfl
  | succ j =>
    have hj : j < N' := by
      have hl9 : (aw_g (.inl (3, N', .inr (.inr (.inr (.inr (fun j => if j < N' then some (C.length + 1 + j) else none))))) :: List.replicate N' (.inl (0, 40, .inl (fun _ => 0))) : aw_H) (j + 1)).isSome := by
        cases hgg : aw_g (.inl (3, N', .inr (.inr (.inr (.inr (fun j => if j < N' then some (C.length + 1 + j) else none))))) :: List.replicate N' (.inl (0, 40, .inl (fun _ => 0))) : aw_H) (j + 1) with
        | none => rw [hgg] at hq; cases hq
        | some _ => rfl
      obtain ⟨c9, h9⟩ := Option.isSome_iff_exists.mp hl9
      have := aw_lt h9
      rw [List.length_cons, List.length_replicate] at this
      omega
    have hgg : aw_g (.inl (3, N', .inr (.inr (.inr (.inr (fun j => if j < N' then some (C.length + 1 + j) else none))))) :: List.replicate N' (.inl (0, 40, .inl (fun _ => 0))) : aw_H) (j + 1) = some (.inl (0, 40, .inl (fun _ => 0))) := by
      rw [aw_g_eq, List.getElem?_cons_succ, List.getElem?_replicate, if_pos hj]
    rw [hgg] at hq
    have e : q = (ad (C.length + (j + 1)), _) := (Option.some.inj hq).symm
    rw [e, had (j + 1) (by omega), show H.size + (j + 1) = H.size + 1 + j by omega]
    show H1[H.size + 1 + j]? = some (vp_cell (cA 0) (40, .inl (fun _ => 0)))
    rw [f3 j hj]
    rfl
end SKL
/-- a constructor's contract from its body -/
theorem CMet_of {l : Launch} {M : aw_M} {d nc ns : Nat} {av : List Value} {C : aw_H} {Q : aw_H → Prop} (n : Nat) (hy : plainName M.1.cls = true) (hnm : M.1.name = "<init>") (hr0 : M.2.2.2 = none) (hn : aw_cs av ≤ M.2.2.1)
    (h : SK l M d nc ns (fun pc _ st C' => st = [] ∧ decode M.2.1 pc = .ok (.return_, 1) ∧ Q C') true 0 0 0 (aw_en av ++ List.replicate n none) [] C) : CMet l M d av C nc ns Q := by
  intro D cA ad N sz hN had
  refine Met.ofW (cc := M.2.1) (maxL := M.2.2.1) (ret := M.2.2.2) hy rfl ?_
  intro p e s m args below meth c s₁ B hml hv
  obtain ⟨rfl, hsz, hP, hK, hK3⟩ := hv
  have hx := B.exec
  have hb := B.bytes
  have hr := B.returns
  have hts := atoms_spec (ws := aw_ws M) B.pre
  have hown : s.vm.findClass M.1.cls = some m.cls := findClass_of_methodNamed B.named
  have hlocks := B.notSynchronized
  subst hsz
  have hl := lv_entry (av.map (aw_cv ad)) (n := M.2.2.1) (by rw [aw_sl_len]; exact hn)
  rw [lg_entry_eq]
  generalize (lg_sl (av.map (aw_cv ad)) ++ List.replicate (M.2.2.1 - (lg_sl (av.map (aw_cv ad))).length) Slot.unset).toArray = ls at hl ⊢
  refine h p e (ck_rm d nc ns) s m _ below meth c D cA ad N _ ⟨⟨hx, hb, hml, hown, fun w hw => hts w (List.mem_cons_of_mem _ hw)⟩, ⟨Nat.le_refl _, Nat.le_refl _, Nat.le_refl _, Nat.le_refl _⟩, hK, hK3, had, fun _ => (name_of_methodNamed B.named B.method).1.trans hnm, ?_⟩ hN s.heap [] ls ⟨hP, va_S.rf⟩ ⟨hl.1, hl.2.1, fun q hq => hl.2.2 q (aw_en_mem ad av 0 n q hq)⟩
  rintro pc L st C' H locs ls2 ⟨rfl, hd, hq⟩ hC' hS hl2
  exact W.vret hx hb (hr.trans hr0) (fun t ht hW => ⟨C', rfl, hq, hC', by rw [ht]; exact hS.1, hS.2.F ht⟩) hS.2.2.2 hd
