/-! new int[n][K]: the instruction, by a proof of our own over the library's words -/
section MZ
variable {p : Program} {l : Launch} {e : Env} {R : Room} {s : State} {m : MethodId} {args : Array Value} {below : List Frame} {meth : Method} {c : Code} {T : State} {H : Heap} {locs : List Loc} {cells slots : Nat} {Q : State → Prop}
/-- the outer row when i of its places are laid -/
def mz_o (cA : ClassId) (n h i : Nat) : Cell := arrV cA n (fun j => va_rf (if j < i then some (h + 1 + j) else none))
def mz_r (cI : ClassId) (K : Nat) : Cell := arrV cI K (fun _ => .int 0)
def mz (cA cI : ClassId) (n K : Nat) (T : State) : Nat → State
  | 0 => T.pushCell (mz_o cA n T.heap.size 0)
  | i + 1 => ((mz cA cI n K T i).pushCell (mz_r cI K)).setCell T.heap.size (mz_o cA n T.heap.size (i + 1))
theorem mz_o_next (cA : ClassId) (n h i : Nat) : (mz_o cA n h i).setSlot i (.ref (h + 1 + i)) = mz_o cA n h (i + 1) := by
  unfold mz_o
  rw [arrV_store]
  congr 1
  funext j
  unfold updV
  by_cases e1 : j = i
  · rw [if_pos e1, if_pos (by omega), e1]
    rfl
  · rw [if_neg e1]
    show va_rf (if j < i then some (h + 1 + j) else none) = _
    by_cases e2 : j < i
    · rw [if_pos e2, if_pos (by omega)]
    · rw [if_neg e2, if_neg (by omega)]
theorem mz_top (cA cI : ClassId) (n K : Nat) (T : State) (g : JFrame) : ∀ i, mz cA cI n K (T.setTop g) i = (mz cA cI n K T i).setTop g
  | 0 => rfl
  | i + 1 => by
    show ((mz cA cI n K (T.setTop g) i).pushCell (mz_r cI K)).setCell T.heap.size (mz_o cA n T.heap.size (i + 1)) = _
    rw [mz_top cA cI n K T g i, State.pushCell_setTop, State.setCell_setTop]
    rfl
/-- what the machine holds after i rows -/
theorem mz_at (X : Stand p l e R s m args below meth c T locs cells slots) (cA cI : ClassId) (n K : Nat) : ∀ i, (∃ lc : List Loc, (∀ q ∈ lc, q.base = T.heap.size) ∧ Stand p l e R s m args below meth c (mz cA cI n K T i) (locs ++ lc) (cells + 1 + i) (slots + n + i * K)) ∧
    (mz cA cI n K T i).heap.size = T.heap.size + 1 + i ∧ (mz cA cI n K T i).heap[T.heap.size]? = some (mz_o cA n T.heap.size i) ∧ (∀ j, j < i → (mz cA cI n K T i).heap[T.heap.size + 1 + j]? = some (mz_r cI K)) ∧ ∀ q, q < T.heap.size → (mz cA cI n K T i).heap[q]? = T.heap[q]?
  | 0 => by
    have h := X.pushed (mz_o cA n T.heap.size 0)
    rw [show (mz_o cA n T.heap.size 0).slots.size = n from arrV_size _ _ _] at h
    refine ⟨⟨[], fun _ h => (nomatch h), ?_⟩, ?_, State.heap_pushCell_size _ _, fun j hj => absurd hj (Nat.not_lt_zero _), fun q hq => State.heap_pushCell_of_lt _ _ hq⟩
    · rw [List.append_nil, Nat.zero_mul]
      exact h
    · show (T.heap.push _).size = _
      rw [Array.size_push]
  | i + 1 => by
    obtain ⟨⟨lc, h0, Y⟩, h1, h2, h3, h4⟩ := mz_at X cA cI n K i
    have hlt : T.heap.size < (mz cA cI n K T i).heap.size := by omega
    have hc : ((mz cA cI n K T i).pushCell (mz_r cI K)).heap[T.heap.size]? = some (mz_o cA n T.heap.size i) := (State.heap_pushCell_of_lt _ _ hlt).trans h2
    have Y2 := (Y.pushed (mz_r cI K)).stored hc i (.ref (T.heap.size + 1 + i))
    rw [mz_o_next, show (mz_r cI K).slots.size = K from arrV_size _ _ _, List.append_assoc] at Y2
    have other : ∀ q, q ≠ T.heap.size → (mz cA cI n K T (i + 1)).heap[q]? = ((mz cA cI n K T i).pushCell (mz_r cI K)).heap[q]? := fun q hq => State.heap_setCell_other (Ne.symm hq)
    refine ⟨⟨lc ++ [⟨T.heap.size, i⟩], fun q hq => ?_, ?_⟩, ?_, State.heap_setCell_self hc, fun j hj => ?_, fun q hq => ?_⟩
    · rcases List.mem_append.mp hq with z | z
      · exact h0 q z
      · rw [List.mem_singleton.mp z]
    · rw [show cells + 1 + (i + 1) = cells + 1 + i + 1 by omega, show slots + n + (i + 1) * K = slots + n + i * K + K by rw [Nat.succ_mul]; omega]
      exact Y2
    · show ((((mz cA cI n K T i).pushCell (mz_r cI K)).heap).setIfInBounds _ _).size = _
      rw [Array.size_setIfInBounds]
      show ((mz cA cI n K T i).heap.push _).size = _
      rw [Array.size_push, h1]
      omega
    · rw [other _ (by omega)]
      by_cases hji : j < i
      · have z : T.heap.size + 1 + j < (mz cA cI n K T i).heap.size := by omega
        exact (State.heap_pushCell_of_lt _ _ z).trans (h3 j hji)
      · rw [show T.heap.size + 1 + j = (mz cA cI n K T i).heap.size by omega]
        exact State.heap_pushCell_size _ _
    · rw [other _ (by omega)]
      have z : q < (mz cA cI n K T i).heap.size := by omega
      exact (State.heap_pushCell_of_lt _ _ z).trans (h4 q hq)
section
variable {E : Jvm.CtlPost} {d : Bool} {acts : List Action}
/-- a row -/
theorem mz_row {g : JFrame} {cI cc : ClassId} {kC : Class} {k : Int32} (X : Stand p l e R s m args below meth c T locs cells slots) (hkC : s.vm.classes[cI]? = some kC) (hkind : kC.kind = .array cc .int) (hk : ¬ k < 0) (hK : k.toNatClampNeg ≤ 1000) (hcells : cells + 1 ≤ R.cells) (hslots : slots + k.toNatClampNeg ≤ R.slots) {P : Addr → Jvm.Pre}
    (hq : ∀ acts', P T.heap.size d acts' ((T.pushCell (mz_r cI k.toNatClampNeg)).setTop g)) : Sem.wp (multianewarray.make cI [k]) P E e d acts (T.setTop g) := by
  obtain ⟨k1, hk1, he⟩ := X.warmed.alike.2.2 _ _ hkC
  have hkind1 : k1.kind = .array cc .int := by rw [he]; exact hkind
  obtain ⟨r1, r2⟩ := X.roomAbove hcells hslots
  rw [multianewarray.make]
  have hk1' : (T.setTop g).vm.classes[cI]? = some k1 := hk1
  simp only [wp_bind', W.ite, hk, if_false, wp_pure', W.theClass, hk1', hkind1, Option.some.injEq, exists_eq_left']
  refine W.newArray_of hk1' hkind1 (by rw [Launch.admits_arrayLengthLimit X.admits]; omega) (by rw [Launch.admits_maxHeapBytes X.admits]; show ¬ k.toNatClampNeg * 4 > 536870912; omega) (by show T.heap.size < _; omega) (by show T.slotsUsed + _ ≤ _; exact r2) rfl (fun acts' => ?_)
  have e9 : ({ cls := cI, slots := Array.replicate k.toNatClampNeg (defaultValue .int) } : Cell) = mz_r cI k.toNatClampNeg := arrV_new cI k.toNatClampNeg (.int 0)
  rw [e9, State.pushCell_setTop]
  exact hq acts'
/-- the whole -/
theorem mz_make {g : JFrame} {cA cI cc : ClassId} {kA kC : Class} {n k : Int32} (X : Stand p l e R s m args below meth c T locs cells slots) (hkA : s.vm.classes[cA]? = some kA) (hkindA : kA.kind = .array cI (.array .int)) (hkC : s.vm.classes[cI]? = some kC) (hkind : kC.kind = .array cc .int) (hn : ¬ n < 0) (hk : ¬ k < 0) (hN : n.toNatClampNeg ≤ 1000) (hK : k.toNatClampNeg ≤ 1000)
    (hcells : cells + (1 + n.toNatClampNeg) ≤ R.cells) (hslots : slots + (n.toNatClampNeg + n.toNatClampNeg * k.toNatClampNeg) ≤ R.slots) {P : Addr → Jvm.Pre}
    (hq : ∀ d' acts', P T.heap.size d' acts' ((mz cA cI n.toNatClampNeg k.toNatClampNeg T n.toNatClampNeg).setTop g)) : Sem.wp (multianewarray.make cA [n, k]) P E e d acts (T.setTop g) := by
  obtain ⟨k1, hk1, he⟩ := X.warmed.alike.2.2 _ _ hkA
  have hkind1 : k1.kind = .array cI (.array .int) := by rw [he]; exact hkindA
  obtain ⟨r1, r2⟩ := X.roomAbove hcells hslots
  have hk1' : (T.setTop g).vm.classes[cA]? = some k1 := hk1
  have hnone : ([k].find? (· < 0)) = none := by simp [hk]
  rw [multianewarray.make]
  simp only [wp_bind', W.ite, hn, if_false, wp_pure', W.theClass, hk1', hkind1, Option.some.injEq, exists_eq_left']
  refine W.newArray_of hk1' hkind1 (by rw [Launch.admits_arrayLengthLimit X.admits]; omega) (by rw [Launch.admits_maxHeapBytes X.admits]; show ¬ n.toNatClampNeg * 4 > 536870912; omega) (by show T.heap.size < _; omega) (by show T.slotsUsed + _ ≤ _; omega) rfl (fun acts1 => ?_)
  have e9 : ({ cls := cA, slots := Array.replicate n.toNatClampNeg Value.null } : Cell) = mz_o cA n.toNatClampNeg T.heap.size 0 := by
    rw [show ({ cls := cA, slots := Array.replicate n.toNatClampNeg Value.null } : Cell) = arrV cA n.toNatClampNeg (fun _ => .null) from arrV_new cA n.toNatClampNeg .null]
    unfold mz_o
    congr 1
  rw [e9, State.pushCell_setTop]
  simp only [hnone]
  rw [ite_self, wp_bind', Std.Legacy.Range.forIn_eq_forIn_range']
  have hsz : ([:n.toNatClampNeg] : Std.Legacy.Range).size = n.toNatClampNeg := by simp [Std.Legacy.Range.size]
  rw [hsz]
  show Sem.wp (forIn (List.range' 0 n.toNatClampNeg 1) PUnit.unit _) _ E e d acts1 _
  refine wp_forIn_inv (fun r S => ∃ i, i + r.length = n.toNatClampNeg ∧ r = List.range' i r.length ∧ S = (mz cA cI n.toNatClampNeg k.toNatClampNeg T i).setTop g) _ _ ⟨0, by rw [List.length_range', Nat.zero_add], by rw [List.length_range'], rfl⟩ ?_ ?_
  · rintro x r S d' acts' P' ⟨i, hlen, hr, rfl⟩ hnext
    rw [List.length_cons] at hlen
    rw [List.length_cons, List.range'_succ] at hr
    obtain ⟨hxi, hr2⟩ := List.cons.inj hr
    subst hxi
    obtain ⟨⟨lc, -, Y⟩, f1, f2, f3, f4⟩ := mz_at X cA cI n.toNatClampNeg k.toNatClampNeg x
    have hmul : (x + 1) * k.toNatClampNeg ≤ n.toNatClampNeg * k.toNatClampNeg := Nat.mul_le_mul_right _ (by omega)
    rw [Nat.succ_mul] at hmul
    simp only [wp_bind']
    refine mz_row Y hkC hkind hk hK (by omega) (by omega) (fun acts2 => ?_)
    have hlt : T.heap.size < (mz cA cI n.toNatClampNeg k.toNatClampNeg T x).heap.size := by omega
    obtain ⟨k2, hk2, he2⟩ := Y.warmed.alike.2.2 _ _ hkA
    have hkind2 : k2.kind = .array cI (.array .int) := by rw [he2]; exact hkindA
    simp only [wp_bind', W.writeLoc, wp_pure']
    refine ⟨mz_o cA n.toNatClampNeg T.heap.size x, (State.heap_pushCell_of_lt _ _ hlt).trans f2, fun h => (by cases h), by rw [show (mz_o cA n.toNatClampNeg T.heap.size x).slots.size = n.toNatClampNeg from arrV_size _ _ _]; omega, ?_, hnext _ _ _ ⟨x + 1, by omega, hr2, ?_⟩⟩
    · have hk2' : ((mz cA cI n.toNatClampNeg k.toNatClampNeg T x).vm.classes[cA]?) = some k2 := hk2
      show State.fitsSlot ((((mz cA cI n.toNatClampNeg k.toNatClampNeg T x).pushCell (mz_r cI k.toNatClampNeg)).setTop g)) cA .none x (.ref (mz cA cI n.toNatClampNeg k.toNatClampNeg T x).heap.size) = true
      simp [State.fitsSlot, State.slotType?, hk2', hkind2, fits]
    · rw [f1, mz_o_next, State.setCell_setTop]
      rfl
  · rintro S d' acts' ⟨i, hlen, -, rfl⟩
    have hi : i = n.toNatClampNeg := by simpa using hlen
    subst hi
    simp only [wp_pure']
    exact hq _ _
end
theorem ax_mna {cc : ByteArray} {pc index : Nat} {ls : Array Slot} {rest : List Value} {own : String} {cA cI c0 : ClassId} {kA kC : Class} {n k : Int32} {N K : Nat} (hexec : p.tables.exec = Jvm.exec) (hb : c.code = cc) (hown : s.vm.findClass own = some m.cls) (hclink : (Jvm.Cond.classLink own index "[[I").before args s = true) (hA : s.vm.findClass "[[I" = some cA) (hkA : s.vm.classes[cA]? = some kA) (hkindA : kA.kind = .array cI (.array .int)) (hkC : s.vm.classes[cI]? = some kC) (hkind : kC.kind = .array c0 .int)
    (hn : ¬ n < 0) (hk : ¬ k < 0) (hN : n.toNatClampNeg = N) (hK : k.toNatClampNeg = K) (hN2 : N ≤ 1000) (hK2 : K ≤ 1000) (hcells : cells + (1 + N) ≤ R.cells) (hslots : slots + (N + N * K) ≤ R.slots) (hd : decode cc pc = .ok (.multianewarray index 2, 4)) (hH : s.heap.size ≤ H.size)
    (kk : ∀ H1 : Heap, H1.size = H.size + 1 + N → H1[H.size]? = some (mz_o cA N H.size N) → (∀ j, j < N → H1[H.size + 1 + j]? = some (mz_r cI K)) → (∀ q, q < H.size → H1[q]? = H[q]?) → W p l e R s m args below meth c H1 locs (cells + 1 + N) (slots + N + N * K) Q (F0 m (pc + 4) ls (.ref H.size :: rest))) :
    W p l e R s m args below meth c H locs cells slots Q (F0 m pc ls (.int k :: .int n :: rest)) := by
  subst hN
  subst hK
  subst hb
  intro T hT X
  subst hT
  have hpl : e.platform.magicAccessors = ({} : Platform).magicAccessors := by rw [X.admits.platform]
  obtain ⟨c7, hc7, h7⟩ := Cond.classLink_spec hown hclink e.platform hpl
  cases Option.some.inj (hA.symm.trans hc7)
  obtain ⟨_, _, _, _, hd7, _, _, _, _, _, _, hopen⟩ := h7.here
  have hg := resolveClass_links e.toSetting (X.warmed.classLinks h7)
  have hw := X.warmed.noted hd7 hopen (State.rightAt_cls h7)
  generalize T.vm.noted m.cls index (.cls cA) = vm₁ at hg hw
  have X1 := X.noted hw
  obtain ⟨⟨lc, hlc, Y⟩, f1, f2, f3, f4⟩ := mz_at X1 cA cI n.toNatClampNeg k.toNatClampNeg n.toNatClampNeg
  have Y2 := Stand.forget (extra := lc) Y (fun q hq => by rw [hlc q hq]; exact hH)
  obtain ⟨t, a1, b1⟩ := kk (mz cA cI n.toNatClampNeg k.toNatClampNeg (T.setVm vm₁) n.toNatClampNeg).heap f1 f2 f3 f4 _ rfl Y2
  refine ⟨t, ?_, b1⟩
  jvm_step X.here [hexec, hd]
  simp only [multianewarray.sem, wp_bind', W.resolveClassAt_links (State.method?_setTop (F0 m pc ls (.int k :: .int n :: rest)) X.here.top) hg]
  rw [W.popN, if_neg (by decide)]
  refine ⟨_, State.topJava?_setTop' (s := T.setVm vm₁) (F0 m pc ls (.int k :: .int n :: rest)) X.here.top, [.int n, .int k], rest, rfl, rfl, ?_⟩
  simp only [List.mapM_cons, List.mapM_nil, wp_bind', wp_pure']
  have eS : (((T.setTop (F0 m pc ls (.int k :: .int n :: rest))).setVm vm₁).setTop (F0 m pc ls rest)) = (T.setVm vm₁).setTop (F0 m pc ls rest) := by
    show ((T.setVm vm₁).setTop _).setTop _ = _
    rw [State.setTop_setTop]
  have eS2 : ((T.setTop (F0 m pc ls (.int k :: .int n :: rest))).setVm vm₁).setTop { (F0 m pc ls (.int k :: .int n :: rest)) with stack := rest } = (T.setVm vm₁).setTop (F0 m pc ls rest) := eS
  rw [eS2]
  refine mz_make X1 hkA hkindA hkC hkind hn hk hN2 hK2 hcells hslots (fun d' acts' => ?_)
  simp only [wp_bind', W.mark, W.pushRef, State.topJava?_setTop' _ Y.here.top, Option.some.injEq, exists_eq_left', State.setTop_setTop, State.heap_setTop]
  intro acts
  simp [jvm, Y.here.top]
  exact a1
end MZ
