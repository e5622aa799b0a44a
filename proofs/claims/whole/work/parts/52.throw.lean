/-! throws of the class, calls that may throw -/
abbrev nRE : List String := ["java/lang/RuntimeException", "java/lang/Exception"]
abbrev nIX : List String := ["java/lang/IndexOutOfBoundsException", "java/lang/RuntimeException", "java/lang/Exception"]
abbrev eIA : String := "java/lang/IllegalArgumentException"
abbrev eAR : String := "java/lang/ArithmeticException"
abbrev eIX : String := "java/lang/ArrayIndexOutOfBoundsException"
def tw_IA : List Jvm.Cond := Jvm.Cond.classLink RX3 118 eIA :: Jvm.Cond.initialized eIA :: vx_atS RX3 122 eIA nRE
def tw_AR : List Jvm.Cond := Jvm.Cond.classLink RX3 129 eAR :: Jvm.Cond.initialized eAR :: vx_atS RX3 133 eAR nRE
def tw_IX : List Jvm.Cond := Jvm.Cond.classLink RX3 134 eIX :: Jvm.Cond.initialized eIX :: vx_atS RX3 138 eIX nIX
def ax_dc : Jvm.Cond → Bool
  | .declares _ => true
  | .castable _ _ => true
  | _ => false
/-- the words of throws that aren't among the good ones -/
def ax_ex : List Jvm.Cond := (tw_IA ++ tw_AR ++ tw_IX).filter (fun w => !goodWord w)
theorem ax_ex_dc : ∀ w ∈ ax_ex, ax_dc w = true := by decide +kernel
theorem ax_ex_in : ∀ w ∈ ax_ex, w ∈ lw_tbl := by decide +kernel
theorem tw_in : ∀ w ∈ tw_IA ++ tw_AR ++ tw_IX, w ∈ lw_tbl := by decide +kernel
theorem tw_ot : ∀ w ∈ tw_IA ++ tw_AR ++ tw_IX, vx_ot w = true := by decide +kernel
theorem tw_split {w : Jvm.Cond} (h : w ∈ tw_IA ++ tw_AR ++ tw_IX) : w ∈ aw_B ∨ w ∈ ax_ex := by
  cases g : goodWord w with
  | true => exact Or.inl (aw_in (tw_in w h) g)
  | false => exact Or.inr (List.mem_filter.mpr ⟨h, by rw [g]; rfl⟩)
def ax_txt : List (Nat × String) := [(120, "there is no such rule or row"), (131, "the rule abstains: division by 0"), (136, "the rule abstains: no such place"), (154, "these are not two persons"), (156, "there is no such part"), (217, "the denominator is 0")]
/-- what throws and catches take from the tables beside the good words -/
def ax_T (U : State) : Prop := (∀ q ∈ ax_txt, ∃ a : Nat, vk_R RX3 q.1 q.2 a U) ∧ (∀ w ∈ ax_ex, w.before #[] U = true) ∧ va_Nc eAR eIA U ∧ va_Nc eIX eIA U ∧ va_Nc eIX eAR U
def ax_S (A : Nat → Prop) (U : State) (H : Heap) : Prop := vx_Zq Jvm.Bundle.tN "UNASSIGNED_STACK" Jvm.Bundle.steD A U H ∧ vx_Zq Jvm.Bundle.tN "SUPPRESSED_SENTINEL" Jvm.Bundle.listD A U H
theorem ax_S.moved {A : Nat → Prop} {u U : State} {H : Heap} (hvm : u.vm.Alike U.vm) (h : ax_S A u H) : ax_S A U H := ⟨h.1.moved hvm, h.2.moved hvm⟩
theorem ax_S.kept {A : Nat → Prop} {U : State} {H H1 : Heap} (h : ax_S A U H) (hq : ∀ a : Nat, a < H.size → ¬ A a → H1[a]? = H[a]?) : ax_S A U H1 := ⟨h.1.kept hq, h.2.kept hq⟩
theorem ax_S.narrow {A B : Nat → Prop} {U : State} {H : Heap} (h : ax_S A U H) (hAB : ∀ q, B q → A q) : ax_S B U H := ⟨h.1.narrow hAB, h.2.narrow hAB⟩
theorem ax_T.warm {s U : State} (hW : s.WarmedH U.vm) (h : ax_T s) : ax_T U := by
  refine ⟨fun q hq => ?_, fun w hw => ?_, va_Nc.moved hW.alike h.2.2.1, va_Nc.moved hW.alike h.2.2.2.1, va_Nc.moved hW.alike h.2.2.2.2⟩
  · obtain ⟨a, ha⟩ := h.1 q hq
    exact ⟨a, vk_R.warm hW ha⟩
  · have h1 := ax_ex_dc w hw
    have h2 := h.2.1 w hw
    cases w <;> first | (cases h1; done) | skip
    · exact va_tabs rfl (rfl : (s.setVm U.vm).vm = U.vm) (by rw [Jvm.Cond.declares_setVm hW.alike]; exact h2)
    · exact va_tabs rfl (rfl : (s.setVm U.vm).vm = U.vm) (by rw [Jvm.Cond.castable_setVm hW.alike]; exact h2)
theorem ax_T.same {s U : State} (e : s.vm = U.vm) (h : ax_T s) : ax_T U := ax_T.warm (by rw [← e]; exact State.WarmedH.refl s) h
def ax_rm (d : Nat) : Room := { frames := d, cells := 1, slots := 6, locals := 60 * d }
def ax_P (av : List Value) (C : aw_H) (D : va_G) (cA : Nat → ClassId) (ad : Nat → Nat) (N sz : Nat) : Array Value → State → Prop := va_Pc (av.map (aw_cv ad)) (fun U => U.heap.size = sz ∧ va_P D aw_cl (aw_cn ad cA 0 C) U.heap ∧ aw_K D cA U ∧ ax_S (aw_A ad N sz) U U.heap ∧ ax_T U)
theorem ax_blind (av : List Value) (C : aw_H) (D : va_G) (cA : Nat → ClassId) (ad : Nat → Nat) (N sz : Nat) : FrameBlind (ax_P av C D cA ad N sz) := by
  intro a U g mk h
  obtain ⟨q0, q1, qP, qK, qS, qT⟩ := h
  exact ⟨q0, q1, qP, aw_K.same rfl qK, ax_S.moved (u := U) (Vm.Alike.refl _) qS, ax_T.same (s := U) rfl qT⟩
def ax_X (E : String → aw_H → Prop) (D : va_G) (cA : Nat → ClassId) (ad : Nat → Nat) (N sz : Nat) : String → State → State → Prop := fun n st t => ∃ C : aw_H, E n C ∧ C.length = N ∧ va_P D aw_cl (aw_cn ad cA 0 C) t.heap ∧ va_F (aw_A ad N sz) st t
/-- a method that returns with Q or throws with E -/
def XMet (l : Launch) (M : aw_M) (d : Nat) (av : List Value) (C : aw_H) (Q : Option Value → aw_H → Prop) (E : String → aw_H → Prop) : Prop :=
  ∀ (D : va_G) (cA : Nat → ClassId) (ad : Nat → Nat) (N sz : Nat), C.length = N → aw_J ad N → vx_Met l M.1 (aw_ws M) (ax_rm d) (ax_P av C D cA ad N sz) (aw_Q Q D cA ad N sz) (ax_X E D cA ad N sz) 1 6 (aw_A ad N sz)
/-- a place where an exception of this class is made and thrown -/
def ax_at (M : aw_M) (pc : Nat) (cls : String) : Prop := ∃ (ik is ic : Nat) (text : String) (names : List String), decode M.2.1 pc = .ok (.new ik, 3) ∧ decode M.2.1 (pc + 3) = .ok (.dup, 1) ∧ decode M.2.1 (pc + 4) = .ok (.ldc is, 2) ∧ decode M.2.1 (pc + 6) = .ok (.invokespecial ic, 3) ∧ decode M.2.1 (pc + 9) = .ok (.athrow, 1) ∧
  (is, text) ∈ ax_txt ∧ Jvm.Bundle.fit cls = true ∧ (∀ n ∈ names, Jvm.Bundle.fit n = true) ∧ names.length ≤ 3 ∧ ∀ w ∈ Jvm.Cond.classLink RX3 ik cls :: Jvm.Cond.initialized cls :: vx_atS RX3 ic cls names, w ∈ tw_IA ++ tw_AR ++ tw_IX
section AXR
variable {l : Launch} {M : aw_M} {kc ks pc : Nat}
theorem ax_call {p : Program} {e : Env} {R : Room} {s : State} {m : MethodId} {args : Array Value} {below : List Frame} {meth : Method} {c : Code} {D : va_G} {cA : Nat → ClassId} {ad : Nat → Nat} {N : Nat} {Z : State → Prop} {H : Heap} {locs : List Loc} {ls : Array Slot} {Q' : Option Value → aw_H → Prop} {E' : String → aw_H → Prop} {a : Array Value} {st0 rest : List Value}
    (hr : vx_Run p l e R s m args below meth c H locs kc ks 1 6 (F0 m pc ls st0) rest (aw_Q Q' D cA ad N H.size a) (ax_X E' D cA ad N H.size) (aw_A ad N H.size)) (hS : va_S (aw_A ad N s.heap.size) s.heap H locs)
    (kk : ∀ (v : Option Value) (C' : aw_H) (H1 : Heap) (locs1 : List Loc), Q' v C' → aw_St D cA ad N s C' H1 locs1 → W p l e R s m args below meth c H1 locs1 (kc + 1) (ks + 6) Z (F0 m (pc + 3) ls ((v.map (aw_cv ad)).toList ++ rest)))
    (kx : ∀ (n : String) (C' : aw_H) (H1 : Heap) (locs1 : List Loc) (q : Addr) (ce : Cell), E' n C' → aw_St D cA ad N s C' H1 locs1 → H1[q]? = some ce → ce.vm = .none → s.vm.findClass n = some ce.cls → vx_W p l e R s m args below meth c H1 locs1 (kc + 1) (ks + 6) Z (F0 m pc ls rest) q) :
    W p l e R s m args below meth c H locs kc ks Z (F0 m pc ls st0) := by
  have hA : ∀ q, aw_A ad N H.size q → aw_A ad N s.heap.size q := fun q z => by
    rcases z with z | z
    · exact Or.inl z
    · exact Or.inr (Nat.le_trans hS.1 z)
  have keep : ∀ (t T' : State) (L : List Loc) (C' : aw_H), T'.heap = t.heap → (∀ q ∈ L, aw_A ad N H.size q.base) → C'.length = N → va_P D aw_cl (aw_cn ad cA 0 C') t.heap → H.size ≤ t.heap.size → (∀ q : Nat, q < H.size → ¬ aw_A ad N H.size q → t.heap[q]? = H[q]?) → aw_St D cA ad N s C' T'.heap (locs ++ L) := by
    intro t T' L C' e1 hL hN hP hz hk
    exact ⟨hN, by rw [e1]; exact hP, Nat.le_trans hS.1 (by rw [e1]; exact hz), fun q h1 h2 => by rw [e1, hk q (Nat.lt_of_lt_of_le h1 hS.1) (fun z => h2 (hA q z))]; exact hS.2.1 q h1 h2, fun q hq => by
      rcases List.mem_append.mp hq with h | h
      · exact hS.2.2 q h
      · exact hA _ (hL q h)⟩
  intro T hT X
  rcases hr T hT X with ⟨v, st₀, t, T', L, h0, X', hL, e1, e2, ⟨v', C', hv, hq, hN, hP, hz, hk⟩, st⟩ | ⟨q, st₀, t, T', L, n, ce, h0, X', hL, e1, e2, ⟨C', hq, hN, hP, hz, hk⟩, hce, hcv, hcl, st⟩
  · cases hv
    rw [h0] at hz hk
    obtain ⟨t2, a1, b1⟩ := kk v' C' T'.heap (locs ++ L) hq (keep t T' L C' e1 hL hN hP hz hk) T' rfl X'
    exact ⟨t2, st t2 a1, b1⟩
  · rw [h0] at hz hk
    obtain ⟨t2, a1, b1⟩ := kx n C' T'.heap (locs ++ L) q ce hq (keep t T' L C' e1 hL hN hP hz hk) (by rw [e1]; exact hce) hcv hcl T' rfl X'
    exact ⟨t2, st.trans a1, b1⟩
end AXR
/-- the exits of a method that throws: a throw, or a call of partOfAgreement whose answer it gives back -/
def ax_Xs (l : Launch) (M : aw_M) (d : Nat) (Q : Option Value → aw_H → Prop) (E : String → aw_H → Prop) : Nat → aw_Kt := fun pc _ st C =>
  (st = [] ∧ ∃ cls, ax_at M pc cls ∧ E cls C) ∨
  (∃ (d' : Nat) (x : Int32) (fs : List Value), d = d' + 1 ∧ st = [.int x, .ref 0] ∧ aw_g C 0 = some (.inr (3, fs)) ∧ decode M.2.1 pc = .ok (.invokevirtual 162, 3) ∧ decode M.2.1 (pc + 3) = .ok (.lreturn, 1) ∧ M.2.2.2 = some .long ∧ XMet l m_X3_partOfAgreement d' [.ref 0, .int x] C (fun v C' => Q v C' ∧ ∃ y, v = some (.long y)) E)
theorem XMet_of {l : Launch} {M : aw_M} {d : Nat} {av : List Value} {C : aw_H} {Q : Option Value → aw_H → Prop} {E : String → aw_H → Prop} (n : Nat) (hl0 : l.stackTraces = false) (hd : 7 ≤ d) (hy : M.1.cls = RX3) (hy2 : plainName RX3 = true) (hn : aw_cs av ≤ M.2.2.1)
    (h : SW l M none (ax_Xs l M d Q E) d 0 0 Q 0 (aw_en av ++ List.replicate n none) [] C) : XMet l M d av C Q E := by
  intro D cA ad N sz hN hJ
  refine vx_ofW (cc := M.2.1) (maxL := M.2.2.1) (ret := M.2.2.2) (by rw [hy]; exact hy2) rfl ?_
  intro p e s m args below meth c s₁ B hml htab hv
  obtain ⟨rfl, hsz, hP, hK, hSt, hTt⟩ := hv
  have hx := B.exec
  have hb := B.bytes
  have hr := B.returns
  have hts := atoms_spec (ws := aw_ws M) B.pre
  have hown : s.vm.findClass M.1.cls = some m.cls := findClass_of_methodNamed B.named
  have hlocks := B.notSynchronized
  have hB : ∀ w ∈ aw_B, w.before (av.map (aw_cv ad)).toArray s = true := fun w hw => hts w (List.mem_cons_of_mem _ hw)
  have hTw : ∀ w ∈ tw_IA ++ tw_AR ++ tw_IX, w.before (av.map (aw_cv ad)).toArray s = true := by
    intro w hw
    rcases tw_split hw with z | z
    · exact hB w z
    · have q := hTt.2.1 w z
      have o : w.onTables = true := by
        have := ax_ex_dc w z
        cases w <;> first | (cases this; done) | rfl
      exact va_tabs o rfl q
  subst hsz
  have hl := lv_entry (av.map (aw_cv ad)) (n := M.2.2.1) (by rw [aw_sl_len]; exact hn)
  rw [lg_entry_eq]
  generalize (lg_sl (av.map (aw_cv ad)) ++ List.replicate (M.2.2.1 - (lg_sl (av.map (aw_cv ad))).length) Slot.unset).toArray = ls at hl ⊢
  refine h p e (ax_rm d) s m _ below meth c D cA ad N _ ⟨⟨hx, hb, hml, hown, hB⟩, ⟨Nat.le_refl _, Nat.le_refl _, Nat.zero_le _, Nat.zero_le _⟩, hK, hJ, (fun q hq => by cases hq), ?_, ?_⟩ s.heap [] ls ⟨hN, hP, va_S.rf⟩ ⟨hl.1, hl.2.1, fun q hq => hl.2.2 q (aw_en_mem ad av 0 n q hq)⟩
  · intro v C2 H locs pc ls2 i hR hq hS hd
    refine vx_ret (W.widen (k := 1) (n := 6) (Nat.zero_le _) (Nat.zero_le _) ?_)
    rcases hR with ⟨x, ty, r1, rfl, rfl, r2⟩ | ⟨x, r1, rfl, rfl⟩ | ⟨r1, rfl, rfl⟩
    · exact W.zret hx hb (hr.trans r1) r2 (fun t ht hW => ⟨some (.int x), C2, rfl, hq, hS.1, by rw [ht]; exact hS.2.1, hS.2.2.F ht⟩) hS.2.2.2.2 hd
    · exact W.lret hx hb (hr.trans r1) (fun t ht hW => ⟨some (.long x), C2, rfl, hq, hS.1, by rw [ht]; exact hS.2.1, hS.2.2.F ht⟩) hS.2.2.2.2 hd
    · exact W.vret hx hb (hr.trans r1) (fun t ht hW => ⟨none, C2, rfl, hq, hS.1, by rw [ht]; exact hS.2.1, hS.2.2.F ht⟩) hS.2.2.2.2 hd
  · intro pc L st C2 H locs ls2 hX hS hl2
    rcases hX with ⟨rfl, cls, ⟨ik, is, ic, text, names, d0, d3, d4, d6, d9, ht1, ht2, ht3, ht4, ht5⟩, hE⟩ | ⟨d', x, fs, rfl, rfl, hg, dc, dr, hrt, hM⟩
    · obtain ⟨sa, hsa⟩ := hTt.1 _ ht1
      refine vx_throwS (names := names) (ik := ik) (is := is) (ic := ic) (own := RX3) (cls := cls) (text := text) (sa := sa) (A := aw_A ad N s.heap.size) hx hb hl0 (by rw [← hy]; exact hown) ht2 ht3 (hTw _ (ht5 _ List.mem_cons_self)) (hTw _ (ht5 _ (List.mem_cons_of_mem _ List.mem_cons_self))) hsa
        (fun w hw => hTw _ (ht5 _ (List.mem_cons_of_mem _ (List.mem_cons_of_mem _ hw)))) (fun w hw => tw_ot _ (ht5 _ hw)) hSt.1 hSt.2 hS.2.2 (by rw [hl2.1, hml]) d0 d3 d4 d6 d9 (fun x hx => (htab x hx).elim) (by show names.length + 3 < d; omega) (by show 0 + _ ≤ 60 * d; omega) (Nat.le_refl _) (Nat.le_refl _) hlocks ?_ hS.2.2.2.2 (Nat.le_refl _) (Nat.le_refl _)
      intro t hal hz hk
      refine ⟨C2, hE, hS.1, P_kept hS.2.1 (fun k _ hlt => hk _ hlt), Nat.le_trans hS.2.2.1 hz, fun q h1 h2 => ?_⟩
      rw [hk q (Nat.lt_of_lt_of_le h1 hS.2.2.1)]
      exact hS.2.2.2.1 q h1 h2
    · have ho : s.vm.findClass RX3 = some m.cls := by rw [← hy]; exact hown
      refine ax_call (rest := []) (vx_runV (C := RX3) (b := ad 0) (As := [.int x]) (n := 1) (rm := ax_rm d') ⟨hx, hb, hml, ho, hB⟩ (hM D cA ad N H.size hS.1 hJ) ⟨callB_of 1 hB (aw_GI wc_X3_partOfAgreement) rfl rfl rfl (hB _ w_10) (hB _ w_69) wd_X3_partOfAgreement ⟨Nat.le_refl _, by show 8 + (_ + 11) + 60 * d' ≤ 60 * (d' + 1); have : m_X3_partOfAgreement.2.2.1 = 2 := rfl; omega⟩, hB _ wi_X3_partOfAgreement, hB _ ws_X3_partOfAgreement⟩
        ⟨ax_blind _ _ _ _ _ _ _, va_recv hK.1 hS.2.1 (q := (RX3, TX3, 9)) (ci := 3) rfl (aw_at hg), fun U hU hW => ⟨rfl, by rw [hU], by rw [hU]; exact hS.2.1, aw_K.warm hW hK, ?_, ax_T.warm hW hTt⟩⟩ rfl rfl hl2.1 rfl (lv_room (by show 0 ≤ 8; omega)) dc ⟨Nat.le_refl _, Nat.le_refl _⟩) hS.2.2 (fun v C' H1 locs1 hq1 hS1 => ?_) (fun n C' H1 locs1 q ce hq1 hS1 g1 g2 g3 => ?_)
      · rw [hU]
        refine ax_S.moved hW.alike (ax_S.narrow (hSt.kept hS.2.2.2.1) (fun q z => ?_))
        rcases z with z | z
        · exact Or.inl z
        · exact Or.inr (Nat.le_trans hS.2.2.1 z)
      · obtain ⟨hq2, y, rfl⟩ := hq1
        exact vx_ret (W.lret hx hb (hr.trans hrt) (fun t ht hW => ⟨some (.long y), C', rfl, hq2, hS1.1, by rw [ht]; exact hS1.2.1, hS1.2.2.F ht⟩) hS1.2.2.2.2 dr)
      · exact vx_out (E := n) (fun x hx => (htab x hx).elim) hlocks g1 g2 g3 (fun t ht hal => ⟨C', hq1, hS1.1, by rw [ht]; exact hS1.2.1, hS1.2.2.F ht⟩) hS1.2.2.2.2 (Nat.le_refl _) (Nat.le_refl _)
