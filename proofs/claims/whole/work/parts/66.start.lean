/-! from the law's entry to its end -/
theorem ao_spec {s : State} {args : Array Value} (h : (Jvm.Cond.arrayOver (.array .int)).before args s = true) : ∃ (comp c : ClassId) (k : Class), s.vm.findClass (FieldType.array .int).toString = some comp ∧ s.vm.classes[c]? = some k ∧ k.kind = .array comp (.array .int) ∧ s.vm.findClass ("[" ++ (FieldType.array .int).toString) = some c := by
  simp only [Cond.before, Cond.holds, Cond.value, beq_iff_eq, Option.bind_eq_some_iff, Option.map_eq_some_iff] at h
  obtain ⟨comp, h1, c, h2, k, h3, h4⟩ := h
  obtain ⟨hlt, h5, -⟩ := Array.findIdx?_eq_some_iff_getElem.mp h2
  rw [(Array.getElem?_eq_some_iff.mp h3).2] at h5
  generalize hk : k.kind = kd at h4 h5
  cases kd with
  | array cp ty =>
    simp only [Bool.and_eq_true, decide_eq_true_eq, beq_iff_eq] at h4 h5
    exact ⟨comp, c, k, h1, h3, by rw [hk, h5, h4.1], h4.2⟩
  | _ => cases h5
theorem ar_of {s : State} {c comp : ClassId} {k : Class} {ty : FieldType} (h1 : s.vm.classes[c]? = some k) (h2 : k.kind = .array comp ty) : ArrOfT s c ty := fun n z => ⟨fun k h => (by cases h), k, h1, comp, h2⟩
theorem aw_K_of {s : State} {args : Array Value} (hts : ∀ w ∈ lw_tbl, w.before args s = true) : ∃ (D : va_G) (cA : Nat → ClassId), aw_K D cA s ∧ kA3 cA s := by
  have hB : ∀ w ∈ aw_B, w.before args s = true := fun w hw => hts w (List.mem_filter.mp hw).1
  obtain ⟨c0, i0, q0⟩ := u_known hB u_X0 (hts (.instantiable RX0 6) (by decide +kernel))
  obtain ⟨c1, i1, q1⟩ := u_known hB u_X1 (hts (.instantiable RX1 7) (by decide +kernel))
  obtain ⟨c2, i2, q2⟩ := u_known hB u_X2 (hts (.instantiable RX2 5) (by decide +kernel))
  obtain ⟨c3, i3, q3⟩ := u_known hB u_X3 (hts (.instantiable RX3 9) (by decide +kernel))
  obtain ⟨c4, i4, q4⟩ := u_known hB u_X4 (hts (.instantiable RX4 20) (by decide +kernel))
  obtain ⟨g0, k0, p0, n0, h0, d0⟩ := Cond.arrayClass_spec (hts (.arrayClass .int) (by decide +kernel))
  obtain ⟨g1, k1, p1, n1, h1, d1⟩ := Cond.arrayClass_spec (hts (.arrayClass .boolean) (by decide +kernel))
  obtain ⟨g2, k2, p2, n2, h2, d2⟩ := Cond.arrayClass_spec (hts (.arrayClass .long) (by decide +kernel))
  obtain ⟨p3, g3, k3, m3, h3, d3, n3⟩ := ao_spec (hts (.arrayOver (.array .int)) (by decide +kernel))
  have e : p3 = g0 := Option.some.inj (m3.symm.trans n0)
  subst e
  refine ⟨(fun c => match c with | 0 => c0 | 1 => c1 | 2 => c2 | 3 => c3 | _ => c4, fun c => match c with | 0 => i0 | 1 => i1 | 2 => i2 | 3 => i3 | _ => i4), fun t => match t with | 0 => p3 | 1 => g1 | 2 => g2 | _ => g3, ⟨⟨fun c q hq => ?_, fun k q hq => ?_⟩, va_Nw.of rfl (hts aw_n1 (by decide +kernel)), va_Nw.of rfl (hts aw_n2 (by decide +kernel))⟩, k3, h3, d3⟩
  · have hc : c < 5 := (List.getElem?_eq_some_iff.mp hq).1
    rcases (show c = 0 ∨ c = 1 ∨ c = 2 ∨ c = 3 ∨ c = 4 by omega) with rfl | rfl | rfl | rfl | rfl
    · cases hq; exact q0
    · cases hq; exact q1
    · cases hq; exact q2
    · cases hq; exact q3
    · cases hq; exact q4
  · have hc : k < 4 := (List.getElem?_eq_some_iff.mp hq).1
    rcases (show k = 0 ∨ k = 1 ∨ k = 2 ∨ k = 3 by omega) with rfl | rfl | rfl | rfl
    · cases hq; exact ⟨ar_of h0 d0, n0⟩
    · cases hq; exact ⟨ar_of h1 d1, n1⟩
    · cases hq; exact ⟨ar_of h2 d2, n2⟩
    · cases hq; exact ⟨ar_of h3 d3, n3⟩
theorem ax_T_of {s : State} {args : Array Value} (hts : ∀ w ∈ lw_tbl, w.before args s = true) (hgv : (Jvm.Cond.and given_1 narrow_1).before args s = true) : ax_T s := by
  have hs := flat_of_before _ hgv
  have str : ∀ (i : Nat) (tx : String), (Jvm.Cond.stringRef RX3 i tx).before args s = true → (Jvm.Cond.exactly (.string RX3 i) "java/lang/String").before args s = true → ∃ a : Nat, vk_R RX3 i tx a s := by
    intro i tx h1 h2
    obtain ⟨a, -, -, -, ha, -⟩ := Cond.exactly_spec h2
    exact ⟨a, vk_R.of h1 ha⟩
  refine ⟨fun q hq => ?_, fun w hw => ?_, va_Nc.of (hs (.not (.castable eAR eIA)) (by decide +kernel)), va_Nc.of (hs (.not (.castable eIX eIA)) (by decide +kernel)), va_Nc.of (hs (.not (.castable eIX eAR)) (by decide +kernel))⟩
  · rcases List.mem_cons.mp hq with rfl | hq
    · exact str _ _ (hts _ (by decide +kernel)) (hs (.exactly (.string RX3 120) "java/lang/String") (by decide +kernel))
    rcases List.mem_cons.mp hq with rfl | hq
    · exact str _ _ (hts _ (by decide +kernel)) (hs (.exactly (.string RX3 131) "java/lang/String") (by decide +kernel))
    rcases List.mem_cons.mp hq with rfl | hq
    · exact str _ _ (hts _ (by decide +kernel)) (hs (.exactly (.string RX3 136) "java/lang/String") (by decide +kernel))
    rcases List.mem_cons.mp hq with rfl | hq
    · exact str _ _ (hts _ (by decide +kernel)) (hs (.exactly (.string RX3 154) "java/lang/String") (by decide +kernel))
    rcases List.mem_cons.mp hq with rfl | hq
    · exact str _ _ (hts _ (by decide +kernel)) (hs (.exactly (.string RX3 156) "java/lang/String") (by decide +kernel))
    rcases List.mem_cons.mp hq with rfl | hq
    · exact str _ _ (hts _ (by decide +kernel)) (hs (.exactly (.string RX3 217) "java/lang/String") (by decide +kernel))
    · exact absurd hq List.not_mem_nil
  · have q := hts w (ax_ex_in w hw)
    have o : w.onTables = true := by
      have := ax_ex_dc w hw
      cases w <;> first | (cases this; done) | rfl
    exact va_tabs o rfl q
theorem ax_S_of {s : State} {args : Array Value} {A : Nat → Prop} (hts : ∀ w ∈ lw_tbl, w.before args s = true) (hgv : (Jvm.Cond.and given_1 narrow_1).before args s = true) (hA : ∀ a : Nat, a < s.heap.size → ¬ A a) : ax_S A s s.heap := by
  have hs := flat_of_before _ hgv
  exact ⟨vx_Zqof (hts (.laysStatic Jvm.Bundle.tN "UNASSIGNED_STACK" Jvm.Bundle.steD) (by decide +kernel)) (hts (.initialized Jvm.Bundle.tN) (by decide +kernel)) (hs (.isRef (.static Jvm.Bundle.tN "UNASSIGNED_STACK" Jvm.Bundle.steD)) (by decide +kernel)) hA,
    vx_Zqof (hts (.laysStatic Jvm.Bundle.tN "SUPPRESSED_SENTINEL" Jvm.Bundle.listD) (by decide +kernel)) (hts (.initialized Jvm.Bundle.tN) (by decide +kernel)) (hs (.isRef (.static Jvm.Bundle.tN "SUPPRESSED_SENTINEL" Jvm.Bundle.listD)) (by decide +kernel)) hA⟩
theorem whole_start {p : Program} {e : Env} {s : State} {m : MethodId} {below : List Frame} {meth : Method} {c : Code} (l : Launch) (hl0 : l.stackTraces = false) {b L : Nat} {xs : Nat → Int32} (hL : L ≤ 2560) (C0 : lw_At p s m meth c b L xs) : W p l e room_1 s m #[Value.ref b] below meth c s.heap [] 0 0 (lw_Z below #[Value.ref b] s) (entryFrame m ([Value.ref b] : List Value).toArray 8) := by
  obtain ⟨hx, hb, hr, hml, hown, hts, hX, hbl, hlocks, hgv⟩ := C0
  have hB : ∀ w ∈ aw_B, w.before #[Value.ref b] s = true := fun w hw => hts w (List.mem_filter.mp hw).1
  obtain ⟨D, cA, hK, hK3⟩ := aw_K_of hts
  obtain ⟨ad, had⟩ : ∃ ad : Nat → Nat, ad = fun k => if k = 1000 then b else s.heap.size + k := ⟨_, rfl⟩
  have hadb : ad 1000 = b := by rw [had]; exact if_pos rfl
  have hadk : ∀ k, k < 48 → ad k = s.heap.size + k := fun k hk => by rw [had]; exact if_neg (by omega)
  have hJ : aw_J (fun k => ad (pm k)) 48 := by
    intro i j hi hj e
    have e' : ad (pm i) = ad (pm j) := e
    rw [hadk _ (pm_in i hi), hadk _ (pm_in j hj)] at e'
    exact pm_inj i hi j hj (by omega)
  have hge : ∀ q, aw_A (fun k => ad (pm k)) 48 s.heap.size q → s.heap.size ≤ q := by
    rintro q (⟨k, h1, h2⟩ | h)
    · have h2 : q = ad (pm k) := h2
      rw [hadk _ (pm_in k h1)] at h2
      omega
    · exact h
  have G : lr l p e room_1 s m #[Value.ref b] below meth c D cA (fun k => ad (pm k)) (lw_Z below #[Value.ref b] s) L xs := by
    refine ⟨⟨hx, hb, hml, hown, hB⟩, ⟨by decide, by decide, by decide, by decide⟩, hK, hJ, fun q hq => ?_, ax_S_of hts hgv (fun a ha z => absurd (hge a z) (by omega)), ax_T_of hts hgv, fun C H locs pc ls kc ks h1 h2 hS hd => ?_⟩
    · cases hq
      have e1 : ad (pm 1000) = b := hadb
      refine ⟨?_, ?_, fun k hk => ?_, by show L < 2 ^ 31; omega⟩
      · show va_X (ad (pm 1000)) L xs s s.heap
        rw [e1]; exact hX
      · show ad (pm 1000) < _
        rw [e1]; exact hbl
      · show ad (pm k) ≠ ad (pm 1000)
        rw [e1, hadk _ (pm_in k hk)]
        omega
    · refine va_forget (fun q hq => hge _ (hS.2.2.2.2 q hq)) (W.widen h1 h2 (lw_ret hx hb hr hlocks hd))
  have hl := lv_entry [Value.ref b] (n := 8) (Nat.le_of_ble_eq_true rfl)
  rw [lg_entry_eq]
  generalize (lg_sl [Value.ref b] ++ List.replicate (8 - (lg_sl [Value.ref b]).length) Slot.unset).toArray = ls at hl ⊢
  have hmap : [Value.ref 1000].map (aw_cv ad) = [Value.ref b] := by
    show [Value.ref (ad 1000)] = _
    rw [hadb]
  refine law_new l p e room_1 s m #[Value.ref b] below meth c D cA ad 0 _ ⟨⟨hx, hb, hml, hown, hB⟩, ⟨by decide, by decide, by decide, by decide⟩, hK, hK3, ⟨fun i j hi => absurd hi (Nat.not_lt_zero _), fun k hk => absurd hk (Nat.not_lt_zero _), fun i hi => by rw [Nat.zero_add]; exact hadk i hi⟩, (fun h => by cases h), ?_⟩ rfl s.heap [] ls ⟨fun k q hq => (by cases k <;> cases hq), va_S.rf⟩ ⟨hl.1, hl.2.1, fun q hq => hl.2.2 q (by rw [← hmap]; exact aw_en_mem ad [.ref 1000] 0 7 q hq)⟩
  rintro pc Lc st C H locs ls2 ⟨rfl, rfl, rfl, rfl⟩ hC hS hl2
  refine law_loop hl0 G hL 513 0 48 1327 k0 z0 a0 y0 (fun _ => 0) none none none H locs ls2 rfl (by decide) (by decide) WF_0 Rl_0 ⟨rfl, wAll_perm hS.1, hS.2.1, fun q h1 h2 => hS.2.2.1 q h1 (fun z => h2 ?_), fun q hq => ?_⟩ hl2
  · rcases z with ⟨k, h3, -⟩ | z
    · exact absurd h3 (Nat.not_lt_zero _)
    · exact Or.inr z
  · rcases hS.2.2.2 q hq with ⟨k, h3, -⟩ | z
    · exact absurd h3 (Nat.not_lt_zero _)
    · exact Or.inr z
