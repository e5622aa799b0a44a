/-! the law's three wrappers: a call, its answer kept, its exceptions turned to numbers -/
abbrev m_L_says : aw_M := (yL_says, cL_says, 5, some .int)
abbrev m_L_agree : aw_M := (yL_agree, cL_agree, 6, some .int)
abbrev m_L_all : aw_M := (yL_all, cL_all, 4, some .int)
theorem v_1 : Jvm.Cond.methodLink RL 7 yX3_says ∈ aw_B := aw_in (by decide +kernel) (by decide +kernel)
theorem v_2 : Jvm.Cond.methodLink RL 19 yX3_agree ∈ aw_B := aw_in (by decide +kernel) (by decide +kernel)
theorem v_3 : Jvm.Cond.methodLink RL 23 yX3_all ∈ aw_B := aw_in (by decide +kernel) (by decide +kernel)
theorem v_4 : Jvm.Cond.classLink RL 13 eIA ∈ aw_B := aw_in (by decide +kernel) (by decide +kernel)
theorem v_5 : Jvm.Cond.classLink RL 15 eAR ∈ aw_B := aw_in (by decide +kernel) (by decide +kernel)
theorem v_6 : Jvm.Cond.classLink RL 17 eIX ∈ aw_B := aw_in (by decide +kernel) (by decide +kernel)
theorem v_7 : Jvm.Cond.castable eIA eIA ∈ ax_ex := by decide +kernel
theorem v_8 : Jvm.Cond.castable eAR eAR ∈ ax_ex := by decide +kernel
theorem v_9 : Jvm.Cond.castable eIX eIX ∈ ax_ex := by decide +kernel
abbrev hh_says : List (Nat × Nat × Nat × Nat) := [(0, 10, 13, 13), (0, 10, 17, 15), (0, 10, 21, 17)]
abbrev hh_agree : List (Nat × Nat × Nat × Nat) := [(0, 11, 14, 13), (0, 11, 18, 15)]
abbrev hh_all : List (Nat × Nat × Nat × Nat) := [(0, 8, 11, 13), (0, 8, 14, 15)]
section AXL
variable {l : Launch} {M : aw_M} {xl : Option (Nat × (Nat → Int32))} {X : Nat → aw_Kt} {d kc ks : Nat} {Q : Option Value → aw_H → Prop} {pc : Nat} {k : aw_Kt}
def o_xl (k : aw_Kt) : aw_Kt := fun L st C => p_l st fun x r => p_i r fun i r => p_a r fun a r => p_rl C a fun n f => ∃ j : Nat, i = nI j ∧ j < n ∧ k L r (aw_s C a (.inl (2, n, .inr (.inl (vp_updL f j x)))))
theorem s_lastore (hd : decode M.2.1 pc = .ok (.lastore, 1)) (h : aw_Sn l M xl X d kc ks Q (pc + 1) k) : aw_Sn l M xl X d kc ks Q pc (o_xl k) := by
  intro L st C hk0 p e R s m args below meth c D cA ad N Z G H locs ls hS hl
  obtain ⟨x, r, rfl, hk9⟩ := e_l hk0
  obtain ⟨i, r, rfl, hk1⟩ := e_i hk9
  obtain ⟨a, r, rfl, hk2⟩ := e_a hk1
  obtain ⟨n, f, ha, hn, j, rfl, hj, hk3⟩ := e_rl hk2
  refine va_last G.1.1 G.1.2.1 G.2.2.1.1 hS.2.1 (aw_D G.2.2.2.1 hS.1) hS.2.2 a 2 (aw_at ha) rfl (vp_in_nI hj (by omega)) hd (fun H1 locs1 hP hD hS1 => ?_)
  rw [nI_clamp (by omega)] at hP
  exact h _ _ _ hk3 _ _ _ _ _ _ _ _ _ _ _ _ _ _ G _ _ _ ⟨by rw [aw_s_len]; exact hS.1, aw_Pset hP rfl, hS1⟩ hl
end AXL
/-- a method with a table of handlers, from its body -/
theorem ax_MetH {l : Launch} {y : MethodName} {ws ws' : List Jvm.Cond} {rm : Room} {Pc : Array Value → State → Prop} {Qc : Array Value → State → Outcome → State → Prop} {mc ms : Nat} {free : Addr → Prop} {cc : ByteArray} {maxL : Nat} {ret : Option FieldType} {hh : List (Nat × Nat × Nat × Nat)}
    (hy : plainName y.cls = true) (hw : ws = Jvm.Cond.codeWith y cc maxL ret hh :: ws')
    (body : ∀ p e s m args below meth c s₁, BodyLoose p l y (headSpec ws rm) cc maxL ret e s m args below meth c s₁ → c.maxLocals = maxL → c.exceptionTable.toList = tableOf hh → Pc args s →
      W p l e (headSpec ws rm).room s m args below meth c s.heap [] 0 0 (MQ below Qc args s mc ms free) (entryFrame m args maxL)) : Met l y ws rm Pc Qc mc ms free := by
  have hin : ∀ args s, (headSpec ws rm).pre.before args s = true → (Jvm.Cond.codeWith y cc maxL ret hh).before args s = true := fun args s h => atoms_spec (ws := ws) h _ (by rw [hw]; exact List.mem_cons_self)
  refine MetFree.of_bodyS (code := cc) (maxLocals := maxL) (ret := ret) hy ?_ ?_
  · intro args s m h hn
    obtain ⟨m9, meth, c, hn9, h1, h2, h3, h4, -, h5, h6, -⟩ := Cond.codeWith_spec (hin args s h)
    cases hn.symm.trans hn9
    exact ⟨meth, c, h1, h2, h3, h4, h5, h6⟩
  · intro p e s m args below meth c s₁ B hml hP _
    have hh0 : s₁.heap = s.heap := by rw [B.state]; rfl
    obtain ⟨t, a1, o, b1, b2, b3⟩ := body p e s m args below meth c s₁ B hml (vx_table (x := y) B (hin args s B.pre)) hP s₁ hh0 (Stand.of_body B)
    exact ⟨t, o, a1, b1, b2, b3⟩
def WMet (l : Launch) (M : aw_M) (hh : List (Nat × Nat × Nat × Nat)) (d : Nat) (av : List Value) (C : aw_H) (Q : Option Value → aw_H → Prop) : Prop :=
  ∀ (D : va_G) (cA : Nat → ClassId) (ad : Nat → Nat) (N sz : Nat), C.length = N → aw_J ad N → Met l M.1 (Jvm.Cond.codeWith M.1 M.2.1 M.2.2.1 M.2.2.2 hh :: aw_B) (ax_rm d) (ax_P av C D cA ad N sz) (aw_Q Q D cA ad N sz) 1 6 (aw_A ad N sz)
/-- a handler: the exception laid away, a number given back -/
def ax_hd (M : aw_M) (pc : Nat) (r : Int32) : Prop := ∃ (i : Nat) (n : Int), i < M.2.2.1 ∧ Int32.ofInt n = r ∧ ((decode M.2.1 pc = .ok (.astore i, 2) ∧ decode M.2.1 (pc + 2) = .ok (.iconst n, 1) ∧ decode M.2.1 (pc + 3) = .ok (.ireturn, 1)) ∨ (∃ k : Fin 4, (k : Nat) = i ∧ decode M.2.1 pc = .ok (.astore_n k, 1) ∧ decode M.2.1 (pc + 1) = .ok (.iconst n, 1) ∧ decode M.2.1 (pc + 2) = .ok (.ireturn, 1)))
theorem WMet_of {l : Launch} {M M' : aw_M} {hh : List (Nat × Nat × Nat × Nat)} {d n np ixm pcC : Nat} {av As rest fs : List Value} {L0 : aw_L} {C : aw_H} {Q Qc : Option Value → aw_H → Prop} {Ec : String → aw_H → Prop}
    (hy : M.1.cls = RL) (hr0 : M.2.2.2 = some .int) (hn : aw_cs av ≤ M.2.2.1)
    (h1 : SW l M none (fun pc L st C' => pc = pcC ∧ L = L0 ∧ st = As.reverse ++ .ref 0 :: rest ∧ C' = C) (d + 1) 0 0 Q 0 (aw_en av ++ List.replicate n none) [] C)
    (hM : XMet l M' d (.ref 0 :: As) C Qc Ec) (hg : aw_g C 0 = some (.inr (3, fs))) (hy' : M'.1.cls = RX3) (hnp : As.length = np) (hsum : aw_cs rest ≤ 8) (hm : M'.2.2.1 ≤ 41)
    (hdc : decode M.2.1 pcC = .ok (.invokevirtual ixm, 3)) (hli : Jvm.Cond.methodLink RL ixm M'.1 ∈ aw_B) (hin : Jvm.Cond.instanceMethod M'.1 ∈ aw_B) (hse : Jvm.Cond.selects RX3 M'.1 M'.1 ∈ aw_B) (hco : Jvm.Cond.code M'.1 M'.2.1 M'.2.2.1 M'.2.2.2 ∈ aw_B)
    (hde : M'.1.cls ≠ "java/lang/invoke/MethodHandle" ∧ M'.1.cls ≠ "java/lang/invoke/VarHandle" ∧ (parseMethodDescriptor M'.1.desc).map (fun d => d.parameters.length) = some np)
    (h2 : ∀ v C', Qc v C' → SW l M none (fun _ _ _ _ => False) (d + 1) 1 6 Q (pcC + 3) L0 (v.toList ++ rest) C')
    (h3 : ∀ nm C', Ec nm C' → ∃ (pre : List ExceptionTableEntry) (x : ExceptionTableEntry) (suf : List ExceptionTableEntry) (r : Int32), tableOf hh = pre ++ x :: suf ∧ (∀ z ∈ pre, z.catchType ≠ 0 ∧ ∃ n2 : String, Jvm.Cond.classLink RL z.catchType n2 ∈ aw_B ∧ ((nm = eAR ∧ n2 = eIA) ∨ (nm = eIX ∧ n2 = eIA) ∨ (nm = eIX ∧ n2 = eAR))) ∧
      covers x pcC = true ∧ x.catchType ≠ 0 ∧ Jvm.Cond.classLink RL x.catchType nm ∈ aw_B ∧ Jvm.Cond.castable nm nm ∈ ax_ex ∧ ax_hd M x.handlerPc r ∧ Q (some (.int r)) C') : WMet l M hh (d + 1) av C Q := by
  intro D cA ad N sz hN hJ
  refine ax_MetH (cc := M.2.1) (maxL := M.2.2.1) (ret := M.2.2.2) (hh := hh) (by rw [hy]; decide) rfl ?_
  intro p e s m args below meth c s₁ B hml htab hv
  obtain ⟨rfl, hsz, hP, hK, hSt, hTt⟩ := hv
  have hx := B.exec
  have hb := B.bytes
  have hr := B.returns
  have hts := atoms_spec (ws := Jvm.Cond.codeWith M.1 M.2.1 M.2.2.1 M.2.2.2 hh :: aw_B) B.pre
  have hown : s.vm.findClass M.1.cls = some m.cls := findClass_of_methodNamed B.named
  have ho : s.vm.findClass RL = some m.cls := by rw [← hy]; exact hown
  have hlocks := B.notSynchronized
  have hB : ∀ w ∈ aw_B, w.before (av.map (aw_cv ad)).toArray s = true := fun w hw => hts w (List.mem_cons_of_mem _ hw)
  subst hsz
  have hl := lv_entry (av.map (aw_cv ad)) (n := M.2.2.1) (by rw [aw_sl_len]; exact hn)
  rw [lg_entry_eq]
  generalize (lg_sl (av.map (aw_cv ad)) ++ List.replicate (M.2.2.1 - (lg_sl (av.map (aw_cv ad))).length) Slot.unset).toArray = ls at hl ⊢
  have ret16 : ∀ (v : Option Value) (C2 : aw_H) (H : Heap) (locs : List Loc) (pc : Nat) (ls : Array Slot) (i : Instr), aw_R M.2.2.2 v i → Q v C2 → aw_St D cA ad N s C2 H locs → decode M.2.1 pc = .ok (i, 1) → W p l e (ax_rm (d + 1)) s m (av.map (aw_cv ad)).toArray below meth c H locs 1 6 (MQ below (aw_Q Q D cA ad N s.heap.size) (av.map (aw_cv ad)).toArray s 1 6 (aw_A ad N s.heap.size)) (F0 m pc ls (v.toList.map (aw_cv ad))) := by
    intro v C2 H locs pc ls2 i hR hq hS hd
    rcases hR with ⟨x, ty, r1, rfl, rfl, r2⟩ | ⟨x, r1, rfl, rfl⟩ | ⟨r1, rfl, rfl⟩
    · exact W.zret hx hb (hr.trans r1) r2 (fun t ht hW => ⟨some (.int x), C2, rfl, hq, hS.1, by rw [ht]; exact hS.2.1, hS.2.2.F ht⟩) hS.2.2.2.2 hd
    · rw [hr0] at r1; cases r1
    · rw [hr0] at r1; cases r1
  refine h1 p e (ax_rm (d + 1)) s m _ below meth c D cA ad N _ ⟨⟨hx, hb, hml, hown, hB⟩, ⟨Nat.le_refl _, Nat.le_refl _, Nat.zero_le _, Nat.zero_le _⟩, hK, hJ, (fun q hq => by cases hq), ?_, ?_⟩ s.heap [] ls ⟨hN, hP, va_S.rf⟩ ⟨hl.1, hl.2.1, fun q hq => hl.2.2 q (aw_en_mem ad av 0 n q hq)⟩
  · intro v C2 H locs pc ls2 i hR hq hS hd
    exact W.widen (k := 1) (n := 6) (Nat.zero_le _) (Nat.zero_le _) (ret16 v C2 H locs pc ls2 i hR hq hS hd)
  · rintro pc L st C2 H locs ls2 ⟨rfl, rfl, rfl, rfl⟩ hS hl2
    rw [List.map_append, List.map_cons, List.map_reverse]
    refine ax_call (rest := rest.map (aw_cv ad)) (vx_runV (C := RX3) (b := ad 0) (As := As.map (aw_cv ad)) (n := np) (rm := ax_rm d) ⟨hx, hb, hml, ho, hB⟩ (hM D cA ad N H.size hS.1 hJ) ⟨callB_of np hB (aw_GI hco) rfl rfl rfl (by rw [hy']; exact hB _ w_10) (hB _ hli) hde ⟨Nat.le_refl _, by show 8 + (_ + 11) + 60 * d ≤ 60 * (d + 1); omega⟩, hB _ hin, hB _ hse⟩
        ⟨ax_blind _ _ _ _ _ _ _, va_recv hK.1 hS.2.1 (q := (RX3, TX3, 9)) (ci := 3) rfl (aw_at hg), fun U hU hW => ⟨rfl, by rw [hU], by rw [hU]; exact hS.2.1, aw_K.warm hW hK, ?_, ax_T.warm hW hTt⟩⟩ rfl (by rw [List.length_map]; exact hnp) hl2.1 rfl (lv_room (by rw [aw_cs_eq]; exact hsum)) hdc ⟨Nat.le_refl _, Nat.le_refl _⟩) hS.2.2 (fun v C' H1 locs1 hq1 hS1 => ?_) (fun nm C' H1 locs1 q ce hq1 hS1 g1 g2 g3 => ?_)
    · rw [hU]
      refine ax_S.moved hW.alike (ax_S.narrow (hSt.kept hS.2.2.2.1) (fun q z => ?_))
      rcases z with z | z
      · exact Or.inl z
      · exact Or.inr (Nat.le_trans hS.2.2.1 z)
    · rw [aw_tl]
      exact h2 v C' hq1 p e (ax_rm (d + 1)) s m _ below meth c D cA ad N _ ⟨⟨hx, hb, hml, hown, hB⟩, ⟨Nat.le_refl _, Nat.le_refl _, Nat.le_refl _, Nat.le_refl _⟩, hK, hJ, (fun q hq => by cases hq), ret16, fun _ _ _ _ _ _ _ h => h.elim⟩ H1 locs1 ls2 hS1 hl2
    · obtain ⟨pre, x, suf, r, t1, t2, t3, t4, t5, t6, ⟨i, ni, hi, hni, hdl⟩, hQ⟩ := h3 nm C' hq1
      refine ax_catch (own := RL) (name := nm) (E := nm) (ce := ce) ho pre x suf (by rw [htab]; exact t1) (fun z hz => ?_) t3 t4 (hB _ t5) (va_tabs rfl rfl (hTt.2.1 _ t6)) g1 g2 g3 ?_
      · obtain ⟨z1, n2, z2, z3⟩ := t2 z hz
        refine Or.inr ⟨z1, n2, hB _ z2, ?_⟩
        rcases z3 with ⟨rfl, rfl⟩ | ⟨rfl, rfl⟩ | ⟨rfl, rfl⟩
        · exact hTt.2.2.1
        · exact hTt.2.2.2.1
        · exact hTt.2.2.2.2
      · rcases hdl with ⟨q1, q2, q3⟩ | ⟨kf, q0, q1, q2, q3⟩
        · refine lv_astore hx hb q1 hl2 hi rfl (fun ls3 hl3 => ?_)
          refine lv_iconst hx hb q2 hni ?_
          exact ret16 (some (.int r)) C' H1 locs1 _ ls3 .ireturn (Or.inl ⟨r, .int, hr0, rfl, rfl, rfl⟩) hQ hS1 q3
        · refine lv_astore_n hx hb q1 q0 hl2 hi rfl (fun ls3 hl3 => ?_)
          refine lv_iconst hx hb q2 hni ?_
          exact ret16 (some (.int r)) C' H1 locs1 _ ls3 .ireturn (Or.inl ⟨r, .int, hr0, rfl, rfl, rfl⟩) hQ hS1 q3
theorem wc_X3_says : Jvm.Cond.code m_X3_says.1 m_X3_says.2.1 m_X3_says.2.2.1 m_X3_says.2.2.2 ∈ aw_B := aw_in (by decide +kernel) (by decide +kernel)
theorem wi_X3_says : Jvm.Cond.instanceMethod yX3_says ∈ aw_B := aw_in (by decide +kernel) (by decide +kernel)
theorem ws_X3_says : Jvm.Cond.selects RX3 yX3_says yX3_says ∈ aw_B := aw_in (by decide +kernel) (by decide +kernel)
theorem wd_X3_says : yX3_says.cls ≠ "java/lang/invoke/MethodHandle" ∧ yX3_says.cls ≠ "java/lang/invoke/VarHandle" ∧ (parseMethodDescriptor yX3_says.desc).map (fun d => d.parameters.length) = some 2 := by decide +kernel
theorem wc_X3_agree : Jvm.Cond.code m_X3_agree.1 m_X3_agree.2.1 m_X3_agree.2.2.1 m_X3_agree.2.2.2 ∈ aw_B := aw_in (by decide +kernel) (by decide +kernel)
theorem wi_X3_agree : Jvm.Cond.instanceMethod yX3_agree ∈ aw_B := aw_in (by decide +kernel) (by decide +kernel)
theorem ws_X3_agree : Jvm.Cond.selects RX3 yX3_agree yX3_agree ∈ aw_B := aw_in (by decide +kernel) (by decide +kernel)
theorem wd_X3_agree : yX3_agree.cls ≠ "java/lang/invoke/MethodHandle" ∧ yX3_agree.cls ≠ "java/lang/invoke/VarHandle" ∧ (parseMethodDescriptor yX3_agree.desc).map (fun d => d.parameters.length) = some 3 := by decide +kernel
theorem wc_X3_all : Jvm.Cond.code m_X3_all.1 m_X3_all.2.1 m_X3_all.2.2.1 m_X3_all.2.2.2 ∈ aw_B := aw_in (by decide +kernel) (by decide +kernel)
theorem wi_X3_all : Jvm.Cond.instanceMethod yX3_all ∈ aw_B := aw_in (by decide +kernel) (by decide +kernel)
theorem ws_X3_all : Jvm.Cond.selects RX3 yX3_all yX3_all ∈ aw_B := aw_in (by decide +kernel) (by decide +kernel)
theorem wd_X3_all : yX3_all.cls ≠ "java/lang/invoke/MethodHandle" ∧ yX3_all.cls ≠ "java/lang/invoke/VarHandle" ∧ (parseMethodDescriptor yX3_all.desc).map (fun d => d.parameters.length) = some 1 := by decide +kernel
section AXB
variable {l : Launch} {X : Nat → aw_Kt} {d kc ks : Nat} {Q : Option Value → aw_H → Prop}
theorem t_L_says_0 : aw_Sn l m_L_says none X d kc ks Q 0 (o_al 3 (o_ic 0 (o_al 0 (o_il 1 (o_il 2 (SW l m_L_says none X d kc ks Q 5)))))) := s_aload_n dL_says_0 rfl (s_iconst dL_says_1 (by decide) (s_aload_n dL_says_2 rfl (s_iload_n dL_says_3 rfl (s_iload_n dL_says_4 rfl s_stop))))
theorem t_L_says_8 : aw_Sn l m_L_says none X d kc ks Q 8 (o_i2 (o_xl (o_ic 0 (o_ri Q)))) := s_i2l dL_says_8 (s_lastore dL_says_9 (s_goto dL_says_10 (by decide) (s_iconst dL_says_25 (by decide) (s_iret dL_says_26 rfl))))
theorem t_L_agree_0 : aw_Sn l m_L_agree none X d kc ks Q 0 (o_al 4 (o_ic 0 (o_al 0 (o_il 1 (o_il 2 (o_il 3 (SW l m_L_agree none X d kc ks Q 7))))))) := s_aload dL_agree_0 (s_iconst dL_agree_2 (by decide) (s_aload_n dL_agree_3 rfl (s_iload_n dL_agree_4 rfl (s_iload_n dL_agree_5 rfl (s_iload_n dL_agree_6 rfl s_stop)))))
theorem t_L_agree_10 : aw_Sn l m_L_agree none X d kc ks Q 10 (o_xl (o_ic 0 (o_ri Q))) := s_lastore dL_agree_10 (s_goto dL_agree_11 (by decide) (s_iconst dL_agree_22 (by decide) (s_iret dL_agree_23 rfl)))
theorem t_L_all_0 : aw_Sn l m_L_all none X d kc ks Q 0 (o_al 2 (o_ic 0 (o_al 0 (o_il 1 (SW l m_L_all none X d kc ks Q 4))))) := s_aload_n dL_all_0 rfl (s_iconst dL_all_1 (by decide) (s_aload_n dL_all_2 rfl (s_iload_n dL_all_3 rfl s_stop)))
theorem t_L_all_7 : aw_Sn l m_L_all none X d kc ks Q 7 (o_xl (o_ic 0 (o_ri Q))) := s_lastore dL_all_7 (s_goto dL_all_8 (by decide) (s_iconst dL_all_17 (by decide) (s_iret dL_all_18 rfl)))
end AXB
