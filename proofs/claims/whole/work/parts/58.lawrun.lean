/-! the law's loop, over the machine -/
section LR
variable {l : Launch} {p : Program} {e : Env} {R : Room} {s : State} {m : MethodId} {args : Array Value} {below : List Frame} {meth : Method} {c : Code} {D : va_G} {cA : Nat → ClassId} {ad : Nat → Nat} {Z : State → Prop} {n : Nat} {xs : Nat → Int32} {kc ks pc : Nat}
theorem ax_callR {N : Nat} {H : Heap} {locs : List Loc} {ls : Array Slot} {Q' : Option Value → aw_H → Prop} {a : Array Value} {st0 rest : List Value}
    (hr : va_Run p l e R s m args below meth c H locs kc ks 1 6 (F0 m pc ls st0) rest (aw_Q Q' D cA ad N H.size a) (aw_A ad N H.size)) (hS : va_S (aw_A ad N s.heap.size) s.heap H locs)
    (kk : ∀ (v : Option Value) (C' : aw_H) (H1 : Heap) (locs1 : List Loc), Q' v C' → aw_St D cA ad N s C' H1 locs1 → W p l e R s m args below meth c H1 locs1 (kc + 1) (ks + 6) Z (F0 m (pc + 3) ls ((v.map (aw_cv ad)).toList ++ rest))) : W p l e R s m args below meth c H locs kc ks Z (F0 m pc ls st0) := by
  intro T hT X
  obtain ⟨v, st₀, t, T', L, h0, X', hL, e1, e2, ⟨v', C', hv, hq, hN, hP, hz, hk⟩, st⟩ := hr T hT X
  cases hv
  rw [h0] at hz hk
  have hA : ∀ q, aw_A ad N H.size q → aw_A ad N s.heap.size q := fun q z => by
    rcases z with z | z
    · exact Or.inl z
    · exact Or.inr (Nat.le_trans hS.1 z)
  obtain ⟨t2, a1, b1⟩ := kk v' C' T'.heap (locs ++ L) hq ⟨hN, by rw [e1]; exact hP, Nat.le_trans hS.1 (by rw [e1]; exact hz), fun q h1 h2 => by rw [e1, hk q (Nat.lt_of_lt_of_le h1 hS.1) (fun z => h2 (hA q z))]; exact hS.2.1 q h1 h2, fun q hq => by
      rcases List.mem_append.mp hq with h | h
      · exact hS.2.2 q h
      · exact hA _ (hL q h)⟩ T' rfl X'
  exact ⟨t2, st t2 a1, b1⟩
/-- what holds all along the law's loop -/
def lr (l : Launch) (p : Program) (e : Env) (R : Room) (s : State) (m : MethodId) (args : Array Value) (below : List Frame) (meth : Method) (c : Code) (D : va_G) (cA : Nat → ClassId) (ad : Nat → Nat) (Z : State → Prop) (n : Nat) (xs : Nat → Int32) : Prop :=
  (p.tables.exec = Jvm.exec ∧ c.code = m_L_law.2.1 ∧ c.maxLocals = m_L_law.2.2.1 ∧ s.vm.findClass RL = some m.cls ∧ (∀ w ∈ aw_B, w.before args s = true)) ∧ (19 ≤ R.frames ∧ 1140 ≤ R.locals ∧ 603072 ≤ R.cells ∧ 7202922 ≤ R.slots) ∧ aw_K D cA s ∧ aw_J ad 48 ∧ aw_X (some (n, xs)) ad 48 s ∧ ax_S (aw_A ad 48 s.heap.size) s s.heap ∧ ax_T s ∧
  ∀ (C : aw_H) (H : Heap) (locs : List Loc) (pc : Nat) (ls : Array Slot) (kc ks : Nat), kc ≤ 603072 → ks ≤ 7202922 → aw_St D cA ad 48 s C H locs → decode m_L_law.2.1 pc = .ok (.ireturn, 1) → W p l e R s m args below meth c H locs kc ks Z (F0 m pc ls [.int 1])
theorem lr_G (G : lr l p e R s m args below meth c D cA ad Z n xs) {X : Nat → aw_Kt} (hkc : kc ≤ 603072) (hks : ks ≤ 7202922) (hX : ∀ (pc : Nat) (L : aw_L) (st : List Value) (C : aw_H) (H : Heap) (locs : List Loc) (ls : Array Slot), X pc L st C → aw_St D cA ad 48 s C H locs → lv_has ls m_L_law.2.2.1 (aw_al ad 0 L) → W p l e R s m args below meth c H locs kc ks Z (F0 m pc ls (st.map (aw_cv ad)))) :
    aw_G l m_L_law (some (n, xs)) X (9 + 10) kc ks lQ p e R s m args below meth c D cA ad 48 Z := by
  obtain ⟨g1, g2, g3, g4, g5, g6, g7, g8⟩ := G
  refine ⟨g1, ⟨g2.1, g2.2.1, Nat.le_trans hkc g2.2.2.1, Nat.le_trans hks g2.2.2.2⟩, g3, g4, g5, ?_, hX⟩
  intro v C H locs pc ls i hR hq hS hd
  have hq : v = some (.int 1) := hq
  subst hq
  rcases hR with ⟨x, ty, r1, r2, rfl, r3⟩ | ⟨x, r1, r2, r3⟩ | ⟨r1, r2, r3⟩
  · exact g8 C H locs pc ls kc ks hkc hks hS hd
  · cases r2
  · cases r2
/-- a call of a wrapper -/
theorem lr_call (G : lr l p e R s m args below meth c D cA ad Z n xs) {M : aw_M} {hh : List (Nat × Nat × Nat × Nat)} {ixm np : Nat} {av : List Value} {C : aw_H} {Q' : Option Value → aw_H → Prop} {H : Heap} {locs : List Loc} {ls : Array Slot} {L : aw_L} (hM : WMet l M hh 18 av C Q') (hcls : M.1.cls = RL) (hm : M.2.2.1 ≤ 41)
    (hco : Jvm.Cond.codeWith M.1 M.2.1 M.2.2.1 M.2.2.2 hh ∈ aw_B) (hst : Jvm.Cond.static M.1 ∈ aw_B) (hli : Jvm.Cond.methodLink RL ixm M.1 ∈ aw_B) (hde : M.1.cls ≠ "java/lang/invoke/MethodHandle" ∧ M.1.cls ≠ "java/lang/invoke/VarHandle" ∧ (parseMethodDescriptor M.1.desc).map (fun d => d.parameters.length) = some np) (hnp : av.length = np)
    (hd : decode m_L_law.2.1 pc = .ok (.invokestatic ixm, 3)) (hkc : kc + 1 ≤ 603072) (hks : ks + 6 ≤ 7202922) (hS : aw_St D cA ad 48 s C H locs) (hl : lv_has ls m_L_law.2.2.1 (aw_al ad 0 L))
    (kk : ∀ (v : Option Value) (C' : aw_H) (H1 : Heap) (locs1 : List Loc), Q' v C' → aw_St D cA ad 48 s C' H1 locs1 → W p l e R s m args below meth c H1 locs1 (kc + 1) (ks + 6) Z (F0 m (pc + 3) ls (v.toList.map (aw_cv ad)))) :
    W p l e R s m args below meth c H locs kc ks Z (F0 m pc ls ((av.reverse).map (aw_cv ad))) := by
  obtain ⟨⟨hx, hb, hml, hown, hts⟩, ⟨r1, r2, r3, r4⟩, hK, hJ, -, hSt, hTt, -⟩ := G
  have hG : GoodIn aw_B (Jvm.Cond.codeWith M.1 M.2.1 M.2.2.1 M.2.2.2 hh :: aw_B) := by
    intro w hw
    rcases List.mem_cons.mp hw with z | z
    · rw [z]
      exact ⟨hco, good_of_word (aw_B_good _ hco)⟩
    · exact ⟨z, good_of_word (aw_B_good _ z)⟩
  have cw : vx_CSW R s args RL ixm M.1 M.2.1 M.2.2.1 M.2.2.2 hh (Jvm.Cond.codeWith M.1 M.2.1 M.2.2.1 M.2.2.2 hh :: aw_B) (ax_rm 18) 1 6 np := by
    refine ⟨⟨rfl, rfl, r1, by show 8 + (_ + 11) + 60 * 18 ≤ _; omega, pay_in hts hG, List.mem_cons_self⟩, hts _ hco, by rw [hcls]; exact hts _ v_RL, ⟨hde.1, hde.2.1⟩, fun sig h => ?_, hts _ hli, hts _ hst⟩
    have h2 := hde.2.2
    rw [h] at h2
    exact (Option.some.inj h2).symm
  rw [List.map_reverse]
  refine ax_callR (Q' := Q') (rest := []) (vx_runSW (As := av.map (aw_cv ad)) (n := np) (hh := hh) ⟨hx, hb, hml, hown, hts⟩ (hM D cA ad 48 H.size hS.1 hJ) cw ⟨ax_blind _ _ _ _ _ _ _, fun U hU hW => ⟨rfl, by rw [hU], by rw [hU]; exact hS.2.1, aw_K.warm hW hK, ?_, ax_T.warm hW hTt⟩⟩ rfl (by rw [List.length_map]; exact hnp) hl.1 (by rw [List.append_nil]) (lv_room (by show 0 ≤ 8; omega)) hd ⟨Nat.le_trans hkc r3, Nat.le_trans hks r4⟩) hS.2.2 (fun v C' H1 locs1 hq hS1 => ?_)
  · rw [hU]
    refine ax_S.moved hW.alike (ax_S.narrow (hSt.kept hS.2.2.2.1) (fun q z => ?_))
    rcases z with z | z
    · exact Or.inl z
    · exact Or.inr (Nat.le_trans hS.2.2.1 z)
  · have e9 : (v.map (aw_cv ad)).toList ++ [] = v.toList.map (aw_cv ad) := by cases v <;> rfl
    rw [e9]
    exact kk v C' H1 locs1 hq hS1
theorem law_loop (hl0 : l.stackTraces = false) (G : lr l p e R s m args below meth c D cA ad Z n xs) (hn : n ≤ 2560) : ∀ (m' t kc ks : Nat) (k : cK) (z : cZ) (a : mA) (y : mZ) (f : Nat → Int64) (j5 j6 j7 : Option Value) (H : Heap) (locs : List Loc) (ls : Array Slot), t + m' = 513 → kc + m' ≤ 603072 → ks + 6 * m' ≤ 7202922 → WF k → Rl k a → aw_St D cA ad 48 s (LW k z a y f) H locs → lv_has ls m_L_law.2.2.1 (aw_al ad 0 (LL t j5 j6 j7)) → W p l e R s m args below meth c H locs kc ks Z (F0 m 23 ls []) := by
  intro m'
  induction m' with
  | zero =>
    intro t kc ks k z a y f j5 j6 j7 H locs ls ht hkc hks w Rk hS hl
    have h : SW l m_L_law (some (n, xs)) (fun _ _ _ _ => False) (9 + 10) kc ks lQ 23 (LL t j5 j6 j7) [] (LW k z a y f) := t_L_law_23 _ _ _ ⟨fun _ => ⟨Or.inr rfl, rfl⟩, fun q => absurd (law_in hn (by omega) q) (by omega)⟩
    exact h p e R s m args below meth c D cA ad 48 Z (lr_G G (by omega) (by omega) (fun _ _ _ _ _ _ _ q => q.elim)) H locs ls hS hl
  | succ m' ih =>
    intro t kc ks k z a y f j5 j6 j7 H locs ls ht hkc hks w Rk hS hl
    have back : ∀ (kc ks : Nat), kc + m' ≤ 603072 → ks + 6 * m' ≤ 7202922 → ∀ (pc : Nat) (L : aw_L) (st : List Value) (C : aw_H) (H : Heap) (locs : List Loc) (ls : Array Slot), lx2 t pc L st C → aw_St D cA ad 48 s C H locs → lv_has ls m_L_law.2.2.1 (aw_al ad 0 L) → W p l e R s m args below meth c H locs kc ks Z (F0 m pc ls (st.map (aw_cv ad))) := by
      rintro kc ks q1 q2 pc L st C H locs ls ⟨rfl, rfl, k', z', a', y', f', i5, i6, i7, rfl, rfl, w', R'⟩ hS hl
      exact ih (t + 1) kc ks k' z' a' y' f' i5 i6 i7 H locs ls (by omega) q1 q2 w' R' hS hl
    refine law_step (l := l) (d := 9) (kc := kc) (ks := ks) (xs := xs) hn (show t ≤ 513 by omega) k z a y f j5 j6 j7 w Rk p e R s m args below meth c D cA ad 48 Z (lr_G G (by omega) (by omega) ?_) H locs ls hS hl
    rintro pc L st C H locs ls (h | ⟨h4, rfl, rfl, ⟨rfl, rfl⟩ | ⟨rfl, rfl⟩ | ⟨rfl, rfl⟩⟩) hS hl
    · exact back kc ks (by omega) (by omega) pc L st C H locs ls h hS hl
    · refine lr_call (np := 4) G (w_says l hl0 9 k z (nK k) a y f (xs (5 * t + 1)) (xs (5 * t + 2)) w) rfl (by decide) vc_says vt_says v_75 (by decide +kernel) rfl dL_law_592 (by omega) (by omega) hS hl ?_
      rintro _ _ H1 locs1 ⟨rfl, z', f', rfl, hf⟩ hS1
      exact law_says_b (l := l) (d := 9) hn h4 k z' a y f' j5 j6 j7 w Rk hf p e R s m args below meth c D cA ad 48 Z (lr_G G (by omega) (by omega) (back (kc + 1) (ks + 6) (by omega) (by omega))) H1 locs1 ls hS1 hl
    · refine lr_call (np := 5) G (w_agree l hl0 9 k z (nK k) a y f (xs (5 * t + 1)) (xs (5 * t + 2)) (xs (5 * t + 3)) w) rfl (by decide) vc_agree vt_agree v_101 (by decide +kernel) rfl dL_law_778 (by omega) (by omega) hS hl ?_
      rintro _ _ H1 locs1 ⟨rfl, z', f', rfl, hf⟩ hS1
      exact law_agree_b (l := l) (d := 9) hn h4 k z' a y f' j5 j6 j7 w Rk hf p e R s m args below meth c D cA ad 48 Z (lr_G G (by omega) (by omega) (back (kc + 1) (ks + 6) (by omega) (by omega))) H1 locs1 ls hS1 hl
    · refine lr_call (np := 3) G (w_all l hl0 9 k z (nK k) a y f (xs (5 * t + 1)) w) rfl (by decide) vc_all vt_all v_105 (by decide +kernel) rfl dL_law_845 (by omega) (by omega) hS hl ?_
      rintro _ _ H1 locs1 ⟨rfl, z', f', rfl, hf⟩ hS1
      exact law_all_b (l := l) (d := 9) hn h4 k z' a y f' j5 j6 j7 w Rk hf p e R s m args below meth c D cA ad 48 Z (lr_G G (by omega) (by omega) (back (kc + 1) (ks + 6) (by omega) (by omega))) H1 locs1 ls hS1 hl
end LR
