/-! abstract worlds: a heap is a list of cells, a reference is a place in it -/
abbrev aw_Cel : Type := (Nat × vp_A) ⊕ (Nat × List Value)
abbrev aw_H : Type := List aw_Cel
abbrev aw_L : Type := List (Option Value)
abbrev aw_Kt : Type := aw_L → List Value → aw_H → Prop
abbrev aw_M : Type := MethodName × ByteArray × Nat × Option FieldType
def aw_g {α : Type} : List α → Nat → Option α
  | [], _ => none
  | a :: _, 0 => some a
  | _ :: r, n + 1 => aw_g r n
def aw_s {α : Type} : List α → Nat → α → List α
  | [], _, _ => []
  | _ :: r, 0, x => x :: r
  | a :: r, n + 1, x => a :: aw_s r n x
theorem aw_g_eq {α : Type} : ∀ (l : List α) (i : Nat), aw_g l i = l[i]?
  | [], i => by simp [aw_g]
  | a :: r, 0 => by simp [aw_g]
  | a :: r, n + 1 => by simp [aw_g, aw_g_eq r n]
theorem aw_s_eq {α : Type} : ∀ (l : List α) (i : Nat) (x : α), aw_s l i x = l.set i x
  | [], i, x => by simp [aw_s]
  | a :: r, 0, x => by simp [aw_s]
  | a :: r, n + 1, x => by simp [aw_s, aw_s_eq r n x]
theorem aw_s_len {α : Type} (l : List α) (i : Nat) (x : α) : (aw_s l i x).length = l.length := by rw [aw_s_eq, List.length_set]
def aw_cv (ad : Nat → Nat) : Value → Value
  | .ref k => .ref (ad k)
  | v => v
theorem aw_cv_cat (ad : Nat → Nat) (v : Value) : (aw_cv ad v).category = v.category := by cases v <;> rfl
def aw_cb (ad : Nat → Nat) : ((Nat → Int32) ⊕ (Nat → Int64) ⊕ (Nat → UInt32) ⊕ (Nat → UInt64) ⊕ (Nat → Option Nat)) → ((Nat → Int32) ⊕ (Nat → Int64) ⊕ (Nat → UInt32) ⊕ (Nat → UInt64) ⊕ (Nat → Option Nat))
  | .inr (.inr (.inr (.inr f))) => .inr (.inr (.inr (.inr (fun i => (f i).map ad))))
  | x => x
def aw_ca (ad : Nat → Nat) (a : vp_A) : vp_A := (a.1, aw_cb ad a.2)
def aw_ce (ad : Nat → Nat) (cA : Nat → ClassId) : aw_Cel → va_E
  | .inl (t, a) => .inl (cA t, aw_ca ad a)
  | .inr (ci, fs) => .inr (ci, fs.map (aw_cv ad))
def aw_cn (ad : Nat → Nat) (cA : Nat → ClassId) : Nat → aw_H → va_W
  | _, [] => []
  | k, c :: r => (ad k, aw_ce ad cA c) :: aw_cn ad cA (k + 1) r
theorem aw_cn_get (ad : Nat → Nat) (cA : Nat → ClassId) : ∀ (C : aw_H) (k i : Nat), (aw_cn ad cA k C)[i]? = (aw_g C i).map (fun c => (ad (k + i), aw_ce ad cA c))
  | [], k, i => by simp [aw_cn, aw_g]
  | c :: r, k, 0 => by simp [aw_cn, aw_g]
  | c :: r, k, i + 1 => by
    simp only [aw_cn, aw_g, List.getElem?_cons_succ]
    rw [aw_cn_get ad cA r (k + 1) i, show k + 1 + i = k + (i + 1) by omega]
theorem aw_cn_set (ad : Nat → Nat) (cA : Nat → ClassId) : ∀ (C : aw_H) (k i : Nat) (c : aw_Cel), aw_cn ad cA k (aw_s C i c) = (aw_cn ad cA k C).set i (ad (k + i), aw_ce ad cA c)
  | [], k, i, c => by simp [aw_cn, aw_s]
  | a :: r, k, 0, c => by simp [aw_cn, aw_s]
  | a :: r, k, i + 1, c => by
    simp only [aw_cn, aw_s, List.set_cons_succ]
    rw [aw_cn_set ad cA r (k + 1) i, show k + 1 + i = k + (i + 1) by omega]
theorem aw_at {ad : Nat → Nat} {cA : Nat → ClassId} {C : aw_H} {i : Nat} {c : aw_Cel} (h : aw_g C i = some c) : (aw_cn ad cA 0 C)[i]? = some (ad i, aw_ce ad cA c) := by
  rw [aw_cn_get, h, Nat.zero_add]
  rfl
theorem aw_lt {α : Type} {l : List α} {i : Nat} {c : α} (h : aw_g l i = some c) : i < l.length := by
  rw [aw_g_eq] at h
  exact (List.getElem?_eq_some_iff.mp h).1
/-- which addresses a method may write -/
def aw_A (ad : Nat → Nat) (N sz : Nat) : Nat → Prop := fun q => (∃ k, k < N ∧ q = ad k) ∨ sz ≤ q
def aw_J (ad : Nat → Nat) (N : Nat) : Prop := ∀ i j : Nat, i < N → j < N → ad i = ad j → i = j
theorem aw_D {ad : Nat → Nat} {cA : Nat → ClassId} {C : aw_H} {N sz : Nat} (hJ : aw_J ad N) (hN : C.length = N) : va_D (aw_A ad N sz) (aw_cn ad cA 0 C) := by
  have key : ∀ (k : Nat) (q : Nat × va_E), (aw_cn ad cA 0 C)[k]? = some q → k < N ∧ q.1 = ad k := by
    intro k q h
    rw [aw_cn_get] at h
    cases hg : aw_g C k with
    | none => rw [hg] at h; cases h
    | some c =>
      rw [hg] at h
      have e := (Option.some.inj h).symm
      subst e
      exact ⟨by rw [← hN]; exact aw_lt hg, by simp⟩
  refine ⟨fun i j x y hi hj hxy => ?_, fun k q hk => ?_⟩
  · obtain ⟨a1, a2⟩ := key i x hi
    obtain ⟨b1, b2⟩ := key j y hj
    exact hJ i j a1 b1 (by rw [← a2, ← b2]; exact hxy)
  · obtain ⟨a1, a2⟩ := key k q hk
    exact Or.inl ⟨k, a1, a2⟩
abbrev aw_cl : List vw_C := [(RX0, TX0, 6), (RX1, TX1, 7), (RX2, TX2, 5), (RX3, TX3, 9), (RX4, TX4, 20)]
def aw_ty (cA : Nat → ClassId) : List (ClassId × FieldType) := [(cA 0, .int), (cA 1, .boolean), (cA 2, .long), (cA 3, .array .int)]
/-- the words that all methods are given -/
def aw_B : List Jvm.Cond := lw_tbl.filter goodWord
theorem aw_in {w : Jvm.Cond} (h : w ∈ lw_tbl) (g : goodWord w = true) : w ∈ aw_B := List.mem_filter.mpr ⟨h, g⟩
theorem aw_B_good : ∀ w ∈ aw_B, goodWord w = true := fun w h => (List.mem_filter.mp h).2
def aw_ws (M : aw_M) : List Jvm.Cond := Jvm.Cond.code M.1 M.2.1 M.2.2.1 M.2.2.2 :: aw_B
theorem aw_GI {M : aw_M} (h : Jvm.Cond.code M.1 M.2.1 M.2.2.1 M.2.2.2 ∈ aw_B) : GoodIn aw_B (aw_ws M) := by
  intro w hw
  rcases List.mem_cons.mp hw with e | e
  · rw [e]
    exact ⟨h, good_of_word (aw_B_good _ h)⟩
  · exact ⟨e, good_of_word (aw_B_good _ e)⟩
def aw_rm (d : Nat) : Room := { frames := d, cells := 0, slots := 0, locals := 60 * d }
abbrev aw_n1 : Jvm.Cond := .methodLinkNest RX1 46 yX3_isPlace "LabelPeople"
abbrev aw_n2 : Jvm.Cond := .methodLinkNest RX0 51 yX3_isLabel "LabelPeople"
def aw_K (D : va_G) (cA : Nat → ClassId) (U : State) : Prop := va_K D aw_cl (aw_ty cA) U ∧ va_Nw aw_n1 U ∧ va_Nw aw_n2 U
theorem aw_K.warm {D : va_G} {cA : Nat → ClassId} {s U : State} (hW : s.WarmedH U.vm) (h : aw_K D cA s) : aw_K D cA U := ⟨va_K.moved hW.alike h.1, va_Nw.warmM hW h.2.1, va_Nw.warmM hW h.2.2⟩
theorem aw_K.same {D : va_G} {cA : Nat → ClassId} {s U : State} (e : s.vm = U.vm) (h : aw_K D cA s) : aw_K D cA U := ⟨va_K.moved (by rw [← e]; exact Vm.Alike.refl _) h.1, va_Nw.same rfl e h.2.1, va_Nw.same rfl e h.2.2⟩
def aw_Q (Q : Option Value → aw_H → Prop) (D : va_G) (cA : Nat → ClassId) (ad : Nat → Nat) (N sz : Nat) : Array Value → State → Outcome → State → Prop := fun _ st oc t =>
  ∃ (v : Option Value) (C : aw_H), oc = .returned (v.map (aw_cv ad)) ∧ Q v C ∧ C.length = N ∧ va_P D aw_cl (aw_cn ad cA 0 C) t.heap ∧ va_F (aw_A ad N sz) st t
def aw_P (av : List Value) (C : aw_H) (D : va_G) (cA : Nat → ClassId) (ad : Nat → Nat) (sz : Nat) : Array Value → State → Prop := va_Pc (av.map (aw_cv ad)) (fun U => U.heap.size = sz ∧ va_P D aw_cl (aw_cn ad cA 0 C) U.heap ∧ aw_K D cA U)
/-- a method's contract at arguments and a world: it ends, with Q -/
def SMet (l : Launch) (M : aw_M) (d : Nat) (av : List Value) (C : aw_H) (Q : Option Value → aw_H → Prop) : Prop :=
  ∀ (D : va_G) (cA : Nat → ClassId) (ad : Nat → Nat) (N sz : Nat), C.length = N → aw_J ad N → Met l M.1 (aw_ws M) (aw_rm d) (aw_P av C D cA ad sz) (aw_Q Q D cA ad N sz) 0 0 (aw_A ad N sz)
theorem aw_blind (av : List Value) (C : aw_H) (D : va_G) (cA : Nat → ClassId) (ad : Nat → Nat) (sz : Nat) : FrameBlind (aw_P av C D cA ad sz) := by
  intro a U g mk h
  obtain ⟨q0, q1, qP, qK⟩ := h
  exact ⟨q0, q1, qP, aw_K.same rfl qK⟩
def aw_al (ad : Nat → Nat) : Nat → aw_L → List (Nat × Value)
  | _, [] => []
  | k, some v :: r => (k, aw_cv ad v) :: aw_al ad (k + 1) r
  | k, none :: r => aw_al ad (k + 1) r
theorem aw_al_mem (ad : Nat → Nat) : ∀ (L : aw_L) (k : Nat) (q : Nat × Value), q ∈ aw_al ad k L ↔ ∃ (i : Nat) (v : Value), aw_g L i = some (some v) ∧ q = (k + i, aw_cv ad v)
  | [], k, q => by simp [aw_al, aw_g]
  | some v :: r, k, q => by
    simp only [aw_al, List.mem_cons]
    rw [aw_al_mem ad r (k + 1) q]
    constructor
    · rintro (h | ⟨i, w, h1, h2⟩)
      · exact ⟨0, v, rfl, h⟩
      · exact ⟨i + 1, w, h1, by rw [h2, show k + 1 + i = k + (i + 1) by omega]⟩
    · rintro ⟨i, w, h1, h2⟩
      cases i with
      | zero =>
        cases h1
        exact Or.inl h2
      | succ i => exact Or.inr ⟨i, w, h1, by rw [h2, show k + 1 + i = k + (i + 1) by omega]⟩
  | none :: r, k, q => by
    simp only [aw_al]
    rw [aw_al_mem ad r (k + 1) q]
    constructor
    · rintro ⟨i, w, h1, h2⟩
      exact ⟨i + 1, w, h1, by rw [h2, show k + 1 + i = k + (i + 1) by omega]⟩
    · rintro ⟨i, w, h1, h2⟩
      cases i with
      | zero => cases h1
      | succ i => exact ⟨i, w, h1, by rw [h2, show k + 1 + i = k + (i + 1) by omega]⟩
def aw_kl : Option Value → Option Value
  | some (.long _) => none
  | some (.double _) => none
  | a => a
def aw_kz : Nat → Option Value → Option Value
  | 0, a => aw_kl a
  | _ + 1, a => a
def aw_l1 : aw_L → Nat → Value → aw_L
  | [], _, _ => []
  | _ :: r, 0, v => some v :: r
  | a :: r, n + 1, v => aw_kz n a :: aw_l1 r n v
def aw_hd : aw_L → aw_L
  | [] => []
  | _ :: r => none :: r
def aw_l2 : aw_L → Nat → Value → aw_L
  | [], _, _ => []
  | _ :: r, 0, v => some v :: aw_hd r
  | a :: r, n + 1, v => aw_kz n a :: aw_l2 r n v
theorem aw_kl_some {a : Option Value} {u : Value} (h : aw_kl a = some u) : a = some u ∧ u.category ≠ 2 := by
  cases a with
  | none => cases h
  | some w => cases w <;> simp [aw_kl] at h <;> subst h <;> simp [Value.category]
theorem aw_l1_get : ∀ (L : aw_L) (i : Nat) (v : Value) (j : Nat) (u : Value), aw_g (aw_l1 L i v) j = some (some u) → (j = i ∧ u = v) ∨ (j ≠ i ∧ aw_g L j = some (some u) ∧ (j + 1 = i → u.category ≠ 2))
  | [], i, v, j, u, h => by simp [aw_l1, aw_g] at h
  | a :: r, 0, v, j, u, h => by
    cases j with
    | zero =>
      simp [aw_l1, aw_g] at h
      exact Or.inl ⟨rfl, h.symm⟩
    | succ j => exact Or.inr ⟨by omega, h, by omega⟩
  | a :: r, n + 1, v, j, u, h => by
    cases j with
    | zero =>
      simp only [aw_l1, aw_g, Option.some.injEq] at h
      cases n with
      | zero =>
        obtain ⟨h1, h2⟩ := aw_kl_some h
        exact Or.inr ⟨by omega, by rw [h1]; rfl, fun _ => h2⟩
      | succ n =>
        refine Or.inr ⟨by omega, ?_, by omega⟩
        have h' : a = some u := h
        rw [h']
        rfl
    | succ j =>
      rcases aw_l1_get r n v j u h with ⟨h1, h2⟩ | ⟨h1, h2, h3⟩
      · exact Or.inl ⟨by omega, h2⟩
      · exact Or.inr ⟨by omega, h2, fun e => h3 (by omega)⟩
theorem aw_hd_get {r : aw_L} {j : Nat} {u : Value} (h : aw_g (aw_hd r) j = some (some u)) : j ≠ 0 ∧ aw_g r j = some (some u) := by
  cases r with
  | nil => cases j <;> cases h
  | cons a r =>
    cases j with
    | zero => cases h
    | succ j => exact ⟨by omega, h⟩
theorem aw_l2_get : ∀ (L : aw_L) (i : Nat) (v : Value) (j : Nat) (u : Value), aw_g (aw_l2 L i v) j = some (some u) → (j = i ∧ u = v) ∨ (j ≠ i ∧ j ≠ i + 1 ∧ aw_g L j = some (some u) ∧ (j + 1 = i → u.category ≠ 2))
  | [], i, v, j, u, h => by simp [aw_l2, aw_g] at h
  | a :: r, 0, v, j, u, h => by
    cases j with
    | zero =>
      simp [aw_l2, aw_g] at h
      exact Or.inl ⟨rfl, h.symm⟩
    | succ j =>
      obtain ⟨h1, h2⟩ := aw_hd_get (r := r) h
      exact Or.inr ⟨by omega, by omega, h2, by omega⟩
  | a :: r, n + 1, v, j, u, h => by
    cases j with
    | zero =>
      simp only [aw_l2, aw_g, Option.some.injEq] at h
      cases n with
      | zero =>
        obtain ⟨h1, h2⟩ := aw_kl_some h
        exact Or.inr ⟨by omega, by omega, by rw [h1]; rfl, fun _ => h2⟩
      | succ n =>
        refine Or.inr ⟨by omega, by omega, ?_, by omega⟩
        have h' : a = some u := h
        rw [h']
        rfl
    | succ j =>
      rcases aw_l2_get r n v j u h with ⟨h1, h2⟩ | ⟨h1, h2, h3, h4⟩
      · exact Or.inl ⟨by omega, h2⟩
      · exact Or.inr ⟨by omega, by omega, h3, fun e => h4 (by omega)⟩
theorem aw_st1 {ad : Nat → Nat} {ls : Array Slot} {nL : Nat} {L : aw_L} {i : Nat} {v : Value} (h : lv_has ls nL ((i, aw_cv ad v) :: (aw_al ad 0 L).filter (fun q => !(q.1 == i) && !(q.1 + 1 == i && q.2.category == 2)))) : lv_has ls nL (aw_al ad 0 (aw_l1 L i v)) := by
  refine ⟨h.1, h.2.1, fun q hq => h.2.2 q ?_⟩
  obtain ⟨j, u, h1, rfl⟩ := (aw_al_mem ad _ 0 q).mp hq
  rcases aw_l1_get L i v j u h1 with ⟨e1, e2⟩ | ⟨e1, e2, e3⟩
  · subst e1; subst e2
    simp
  · refine List.mem_cons_of_mem _ (List.mem_filter.mpr ⟨(aw_al_mem ad _ 0 _).mpr ⟨j, u, e2, rfl⟩, ?_⟩)
    rw [aw_cv_cat]
    by_cases e : j + 1 = i
    · simp [e1, e3 e]
    · simp [e1, e]
theorem aw_st2 {ad : Nat → Nat} {ls : Array Slot} {nL : Nat} {L : aw_L} {i : Nat} {v : Value} (h : lv_has ls nL ((i, aw_cv ad v) :: (aw_al ad 0 L).filter (fun q => !(q.1 == i) && (!(q.1 == i + 1) && !(q.1 + 1 == i && q.2.category == 2))))) : lv_has ls nL (aw_al ad 0 (aw_l2 L i v)) := by
  refine ⟨h.1, h.2.1, fun q hq => h.2.2 q ?_⟩
  obtain ⟨j, u, h1, rfl⟩ := (aw_al_mem ad _ 0 q).mp hq
  rcases aw_l2_get L i v j u h1 with ⟨e1, e2⟩ | ⟨e1, e0, e2, e3⟩
  · subst e1; subst e2
    simp
  · refine List.mem_cons_of_mem _ (List.mem_filter.mpr ⟨(aw_al_mem ad _ 0 _).mpr ⟨j, u, e2, rfl⟩, ?_⟩)
    rw [aw_cv_cat]
    by_cases e : j + 1 = i
    · simp [e1, e0, e3 e]
    · simp [e1, e0, e]
def aw_lg (L : aw_L) (i : Nat) : Option Value := match aw_g L i with
  | some (some v) => some v
  | _ => none
theorem aw_lg_at {ad : Nat → Nat} {ls : Array Slot} {nL : Nat} {L : aw_L} {i : Nat} {v : Value} (hl : lv_has ls nL (aw_al ad 0 L)) (h : aw_lg L i = some v) : ls[i]? = some (.val (aw_cv ad v)) := by
  unfold aw_lg at h
  split at h
  next w hw =>
    have e := Option.some.inj h
    subst e
    have := hl.2.2 (0 + i, aw_cv ad w) ((aw_al_mem ad _ 0 _).mpr ⟨i, w, hw, rfl⟩)
    simpa using this
  next => cases h
def aw_St (D : va_G) (cA : Nat → ClassId) (ad : Nat → Nat) (N : Nat) (s : State) (C : aw_H) (H : Heap) (locs : List Loc) : Prop := C.length = N ∧ va_P D aw_cl (aw_cn ad cA 0 C) H ∧ va_S (aw_A ad N s.heap.size) s.heap H locs
/-- how a method gives its answer back -/
def aw_R (r : Option FieldType) (v : Option Value) (i : Instr) : Prop := (∃ (x : Int32) (ty : FieldType), r = some ty ∧ v = some (.int x) ∧ i = .ireturn ∧ narrow ty (.int x) = .int x) ∨ (∃ x : Int64, r = some .long ∧ v = some (.long x) ∧ i = .lreturn) ∨ (r = none ∧ v = none ∧ i = .return_)
def aw_X (xl : Option (Nat × (Nat → Int32))) (ad : Nat → Nat) (N : Nat) (s : State) : Prop := ∀ q, xl = some q → va_X (ad 1000) q.1 q.2 s s.heap ∧ ad 1000 < s.heap.size ∧ (∀ k, k < N → ad k ≠ ad 1000) ∧ q.1 < 2 ^ 31
def aw_G (l : Launch) (M : aw_M) (xl : Option (Nat × (Nat → Int32))) (X : Nat → aw_Kt) (d kc ks : Nat) (Q : Option Value → aw_H → Prop) (p : Program) (e : Env) (R : Room) (s : State) (m : MethodId) (args : Array Value) (below : List Frame) (meth : Method) (c : Code) (D : va_G) (cA : Nat → ClassId) (ad : Nat → Nat) (N : Nat) (Z : State → Prop) : Prop :=
  (p.tables.exec = Jvm.exec ∧ c.code = M.2.1 ∧ c.maxLocals = M.2.2.1 ∧ s.vm.findClass M.1.cls = some m.cls ∧ (∀ w ∈ aw_B, w.before args s = true)) ∧ (d ≤ R.frames ∧ 60 * d ≤ R.locals ∧ kc ≤ R.cells ∧ ks ≤ R.slots) ∧ aw_K D cA s ∧ aw_J ad N ∧ aw_X xl ad N s ∧
  (∀ (v : Option Value) (C : aw_H) (H : Heap) (locs : List Loc) (pc : Nat) (ls : Array Slot) (i : Instr), aw_R M.2.2.2 v i → Q v C → aw_St D cA ad N s C H locs → decode M.2.1 pc = .ok (i, 1) → W p l e R s m args below meth c H locs kc ks Z (F0 m pc ls (v.toList.map (aw_cv ad)))) ∧
  ∀ (pc : Nat) (L : aw_L) (st : List Value) (C : aw_H) (H : Heap) (locs : List Loc) (ls : Array Slot), X pc L st C → aw_St D cA ad N s C H locs → lv_has ls M.2.2.1 (aw_al ad 0 L) → W p l e R s m args below meth c H locs kc ks Z (F0 m pc ls (st.map (aw_cv ad)))
/-- the machine at pc, with these locals, this stack and this world, comes to the method's end with Q -/
def SW (l : Launch) (M : aw_M) (xl : Option (Nat × (Nat → Int32))) (X : Nat → aw_Kt) (d kc ks : Nat) (Q : Option Value → aw_H → Prop) (pc : Nat) (L : aw_L) (st : List Value) (C : aw_H) : Prop :=
  ∀ (p : Program) (e : Env) (R : Room) (s : State) (m : MethodId) (args : Array Value) (below : List Frame) (meth : Method) (c : Code) (D : va_G) (cA : Nat → ClassId) (ad : Nat → Nat) (N : Nat) (Z : State → Prop), aw_G l M xl X d kc ks Q p e R s m args below meth c D cA ad N Z →
  ∀ (H : Heap) (locs : List Loc) (ls : Array Slot), aw_St D cA ad N s C H locs → lv_has ls M.2.2.1 (aw_al ad 0 L) → W p l e R s m args below meth c H locs kc ks Z (F0 m pc ls (st.map (aw_cv ad)))
def aw_Sn (l : Launch) (M : aw_M) (xl : Option (Nat × (Nat → Int32))) (X : Nat → aw_Kt) (d kc ks : Nat) (Q : Option Value → aw_H → Prop) (pc : Nat) (k : aw_Kt) : Prop := ∀ (L : aw_L) (st : List Value) (C : aw_H), k L st C → SW l M xl X d kc ks Q pc L st C
/-! taking values off the stack, cells out of the world -/
def p_i (st : List Value) (k : Int32 → List Value → Prop) : Prop := match st with
  | .int x :: r => k x r
  | _ => False
theorem e_i {st : List Value} {k : Int32 → List Value → Prop} (h : p_i st k) : ∃ x r, st = .int x :: r ∧ k x r := by
  unfold p_i at h
  split at h
  next x r => exact ⟨x, r, rfl, h⟩
  next => exact h.elim
def p_l (st : List Value) (k : Int64 → List Value → Prop) : Prop := match st with
  | .long x :: r => k x r
  | _ => False
theorem e_l {st : List Value} {k : Int64 → List Value → Prop} (h : p_l st k) : ∃ x r, st = .long x :: r ∧ k x r := by
  unfold p_l at h
  split at h
  next x r => exact ⟨x, r, rfl, h⟩
  next => exact h.elim
def p_a (st : List Value) (k : Nat → List Value → Prop) : Prop := match st with
  | .ref x :: r => k x r
  | _ => False
theorem e_a {st : List Value} {k : Nat → List Value → Prop} (h : p_a st k) : ∃ x r, st = .ref x :: r ∧ k x r := by
  unfold p_a at h
  split at h
  next x r => exact ⟨x, r, rfl, h⟩
  next => exact h.elim
def p_t (b : Bool) (k : Prop) : Prop := match b with
  | true => k
  | false => False
theorem e_t {b : Bool} {k : Prop} (h : p_t b k) : b = true ∧ k := by
  cases b with
  | true => exact ⟨rfl, h⟩
  | false => exact h.elim
def p_v (st : List Value) (k : Value → List Value → Prop) : Prop := match st with
  | .int x :: r => k (.int x) r
  | .ref x :: r => k (.ref x) r
  | _ => False
theorem e_v {st : List Value} {k : Value → List Value → Prop} (h : p_v st k) : ∃ x r, st = x :: r ∧ x.category = 1 ∧ k x r := by
  unfold p_v at h
  split at h
  next x r => exact ⟨.int x, r, rfl, rfl, h⟩
  next x r => exact ⟨.ref x, r, rfl, rfl, h⟩
  next => exact h.elim
def p_o (C : aw_H) (a ci : Nat) (k : List Value → Prop) : Prop := match aw_g C a with
  | some (.inr (c, fs)) => p_t (Nat.beq c ci) (k fs)
  | _ => False
theorem e_o {C : aw_H} {a ci : Nat} {k : List Value → Prop} (h : p_o C a ci k) : ∃ fs, aw_g C a = some (.inr (ci, fs)) ∧ k fs := by
  unfold p_o at h
  split at h
  next c fs hg =>
    obtain ⟨h1, h2⟩ := e_t h
    have := Nat.eq_of_beq_eq_true h1
    subst this
    exact ⟨fs, hg, h2⟩
  next => exact h.elim
def p_r (C : aw_H) (a t : Nat) (k : Nat → (Nat → Int32) → Prop) : Prop := match aw_g C a with
  | some (.inl (u, n, .inl f)) => p_t (Nat.beq u t && Nat.ble n 100000) (k n f)
  | _ => False
theorem e_r {C : aw_H} {a t : Nat} {k : Nat → (Nat → Int32) → Prop} (h : p_r C a t k) : ∃ n f, aw_g C a = some (.inl (t, n, .inl f)) ∧ n ≤ 100000 ∧ k n f := by
  unfold p_r at h
  split at h
  next u n f hg =>
    obtain ⟨h1, h2⟩ := e_t h
    rw [Bool.and_eq_true] at h1
    have := Nat.eq_of_beq_eq_true h1.1
    subst this
    exact ⟨n, f, hg, Nat.le_of_ble_eq_true h1.2, h2⟩
  next => exact h.elim
def p_rl (C : aw_H) (a : Nat) (k : Nat → (Nat → Int64) → Prop) : Prop := match aw_g C a with
  | some (.inl (u, n, .inr (.inl f))) => p_t (Nat.beq u 2 && Nat.ble n 100000) (k n f)
  | _ => False
theorem e_rl {C : aw_H} {a : Nat} {k : Nat → (Nat → Int64) → Prop} (h : p_rl C a k) : ∃ n f, aw_g C a = some (.inl (2, n, .inr (.inl f))) ∧ n ≤ 100000 ∧ k n f := by
  unfold p_rl at h
  split at h
  next u n f hg =>
    obtain ⟨h1, h2⟩ := e_t h
    rw [Bool.and_eq_true] at h1
    have := Nat.eq_of_beq_eq_true h1.1
    subst this
    exact ⟨n, f, hg, Nat.le_of_ble_eq_true h1.2, h2⟩
  next => exact h.elim
def p_ra (C : aw_H) (a : Nat) (k : Nat → (Nat → Option Nat) → Prop) : Prop := match aw_g C a with
  | some (.inl (u, n, .inr (.inr (.inr (.inr f))))) => p_t (Nat.beq u 3 && Nat.ble n 100000) (k n f)
  | _ => False
theorem e_ra {C : aw_H} {a : Nat} {k : Nat → (Nat → Option Nat) → Prop} (h : p_ra C a k) : ∃ n f, aw_g C a = some (.inl (3, n, .inr (.inr (.inr (.inr f))))) ∧ n ≤ 100000 ∧ k n f := by
  unfold p_ra at h
  split at h
  next u n f hg =>
    obtain ⟨h1, h2⟩ := e_t h
    rw [Bool.and_eq_true] at h1
    have := Nat.eq_of_beq_eq_true h1.1
    subst this
    exact ⟨n, f, hg, Nat.le_of_ble_eq_true h1.2, h2⟩
  next => exact h.elim
def p_f {α : Type} (o : Option α) (k : α → Prop) : Prop := match o with
  | some v => k v
  | none => False
theorem e_f {α : Type} {o : Option α} {k : α → Prop} (h : p_f o k) : ∃ v, o = some v ∧ k v := by
  cases o with
  | none => exact h.elim
  | some v => exact ⟨v, rfl, h⟩
def p_fi (o : Option Value) (k : Int32 → Prop) : Prop := match o with
  | some (.int v) => k v
  | _ => False
theorem e_fi {o : Option Value} {k : Int32 → Prop} (h : p_fi o k) : ∃ v, o = some (.int v) ∧ k v := by
  unfold p_fi at h
  split at h
  next v => exact ⟨v, rfl, h⟩
  next => exact h.elim
def p_fl (o : Option Value) (k : Int64 → Prop) : Prop := match o with
  | some (.long v) => k v
  | _ => False
theorem e_fl {o : Option Value} {k : Int64 → Prop} (h : p_fl o k) : ∃ v, o = some (.long v) ∧ k v := by
  unfold p_fl at h
  split at h
  next v => exact ⟨v, rfl, h⟩
  next => exact h.elim
def p_fa (o : Option Value) (k : Nat → Prop) : Prop := match o with
  | some (.ref v) => k v
  | _ => False
theorem e_fa {o : Option Value} {k : Nat → Prop} (h : p_fa o k) : ∃ v, o = some (.ref v) ∧ k v := by
  unfold p_fa at h
  split at h
  next v => exact ⟨v, rfl, h⟩
  next => exact h.elim
def aw_pop : Nat → List Value → List Value → Option (List Value × List Value)
  | 0, acc, st => some (acc, st)
  | n + 1, acc, v :: st => aw_pop n (v :: acc) st
  | _ + 1, _, [] => none
theorem aw_pop_eq : ∀ (n : Nat) (acc st as r : List Value), aw_pop n acc st = some (as, r) → as.length = acc.length + n ∧ acc.reverse ++ st = as.reverse ++ r
  | 0, acc, st, as, r, h => by
    cases h
    exact ⟨rfl, rfl⟩
  | n + 1, acc, v :: st, as, r, h => by
    obtain ⟨h1, h2⟩ := aw_pop_eq n (v :: acc) st as r h
    refine ⟨by rw [h1]; simp; omega, ?_⟩
    rw [← h2]
    simp
  | n + 1, acc, [], as, r, h => by cases h
def aw_cs : List Value → Nat
  | [] => 0
  | v :: r => v.category + aw_cs r
theorem aw_cs_eq (ad : Nat → Nat) : ∀ r : List Value, ((r.map (aw_cv ad)).map fun v => v.category).sum = aw_cs r
  | [] => rfl
  | v :: r => by
    simp only [List.map_cons, List.sum_cons, aw_cs]
    rw [aw_cs_eq ad r, aw_cv_cat]
