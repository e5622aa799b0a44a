/-! cells, calls, ends -/
theorem aw_Pset {ad : Nat → Nat} {cA : Nat → ClassId} {C : aw_H} {D : va_G} {H : Heap} {i : Nat} {c : aw_Cel} {E : va_E} (h : va_P D aw_cl ((aw_cn ad cA 0 C).set i (ad i, E)) H) (e : E = aw_ce ad cA c) : va_P D aw_cl (aw_cn ad cA 0 (aw_s C i c)) H := by
  rw [aw_cn_set, Nat.zero_add, ← e]
  exact h
theorem aw_fmap {ad : Nat → Nat} {fs : List Value} {k : Nat} {v : Value} (h : aw_g fs k = some v) : (fs.map (aw_cv ad))[k]? = some (aw_cv ad v) := by
  rw [List.getElem?_map, ← aw_g_eq, h]
  rfl
theorem aw_fset {ad : Nat → Nat} {fs : List Value} {k : Nat} {v : Value} : (fs.map (aw_cv ad)).set k (aw_cv ad v) = (aw_s fs k v).map (aw_cv ad) := by
  rw [aw_s_eq, List.map_set]
def p_e (st : List Value) (k : Prop) : Prop := match st with
  | [] => k
  | _ => False
theorem e_e {st : List Value} {k : Prop} (h : p_e st k) : st = [] ∧ k := by
  cases st with
  | nil => exact ⟨rfl, h⟩
  | cons a r => exact h.elim
section AWH
variable {l : Launch} {M : aw_M} {xl : Option (Nat × (Nat → Int32))} {X : Nat → aw_Kt} {d kc ks : Nat} {Q : Option Value → aw_H → Prop} {pc : Nat} {k kt kf : aw_Kt}
def o_gf (ci kf : Nat) (k : aw_Kt) : aw_Kt := fun L st C => p_a st fun a r => p_o C a ci fun fs => p_f (aw_g fs kf) fun v => k L (v :: r) C
theorem s_getf {ix ci kf Nf : Nat} {Cn : String} {T : u_T} (hd : decode M.2.1 pc = .ok (.getfield ix, 3)) (hc : aw_cl[ci]? = some (Cn, T, Nf)) (hin : ∀ w ∈ u_ws Cn T Nf, w ∈ aw_B) (hk : kf < Nf) (hli : Jvm.Cond.fieldLink M.1.cls ix (T kf).1 (T kf).2.1 (T kf).2.2.1 ∈ aw_B) (h : aw_Sn l M xl X d kc ks Q (pc + 3) k) : aw_Sn l M xl X d kc ks Q pc (o_gf ci kf k) := by
  intro L st C hk0 p e R s m args below meth c D cA ad N Z G H locs ls hS hl
  obtain ⟨a, r, rfl, hk1⟩ := e_a hk0
  obtain ⟨fs, ha, hk2⟩ := e_o hk1
  obtain ⟨v, hv, hk3⟩ := e_f hk2
  exact va_get G.1.1 G.1.2.1 G.1.2.2.2.2 hin G.1.2.2.2.1 G.2.2.1.1 hS.2.1 a (aw_at ha) hc kf hk (G.1.2.2.2.2 _ hli) (fun _ h9 => h9) (aw_fmap hv) hd (h _ _ _ hk3 _ _ _ _ _ _ _ _ _ _ _ _ _ _ G _ _ _ hS hl)
def o_pi (ci kf : Nat) (k : aw_Kt) : aw_Kt := fun L st C => p_i st fun x r => p_a r fun a r => p_o C a ci fun fs => p_f (aw_g fs kf) fun _ => k L r (aw_s C a (.inr (ci, aw_s fs kf (.int x))))
theorem s_puti {ix ci kf Nf : Nat} {Cn : String} {T : u_T} {ty0 : Nat → FieldType} (hd : decode M.2.1 pc = .ok (.putfield ix, 3)) (hc : aw_cl[ci]? = some (Cn, T, Nf)) (hin : ∀ w ∈ u_ws Cn T Nf, w ∈ aw_B) (hty : ∀ k, k < Nf → parseFieldDescriptor (T k).2.2.1 = some (ty0 k)) (hnm : ∀ a, a < Nf → ∀ b, b < Nf → a ≠ b → (T a).2.1 ≠ (T b).2.1) (hk : kf < Nf) (hfin : (T kf).2.2.2 = false) (hde : parseFieldDescriptor (T kf).2.2.1 = some .int) (hli : Jvm.Cond.fieldLink M.1.cls ix (T kf).1 (T kf).2.1 (T kf).2.2.1 ∈ aw_B) (h : aw_Sn l M xl X d kc ks Q (pc + 3) k) : aw_Sn l M xl X d kc ks Q pc (o_pi ci kf k) := by
  intro L st C hk0 p e R s m args below meth c D cA ad N Z G H locs ls hS hl
  obtain ⟨x, r, rfl, hk1⟩ := e_i hk0
  obtain ⟨a, r, rfl, hk2⟩ := e_a hk1
  obtain ⟨fs, ha, hk3⟩ := e_o hk2
  obtain ⟨v, hv, hk4⟩ := e_f hk3
  refine va_put (v := .int x) (ty := .int) G.1.1 G.1.2.1 G.1.2.2.2.2 hin ty0 hty hnm G.1.2.2.2.1 G.2.2.1.1 hS.2.1 (aw_D G.2.2.2.1 hS.1) hS.2.2 a (aw_at ha) hc kf hk (G.1.2.2.2.2 _ hli) (fun _ h9 => h9) hfin hde rfl rfl (by rw [List.length_map]; exact aw_lt hv) hd (fun H1 locs1 hP hD hS1 => ?_)
  exact h _ _ _ hk4 _ _ _ _ _ _ _ _ _ _ _ _ _ _ G _ _ _ ⟨by rw [aw_s_len]; exact hS.1, aw_Pset hP (by show Sum.inr _ = Sum.inr _; rw [← aw_fset]; rfl), hS1⟩ hl
def o_pl (ci kf : Nat) (k : aw_Kt) : aw_Kt := fun L st C => p_l st fun x r => p_a r fun a r => p_o C a ci fun fs => p_f (aw_g fs kf) fun _ => k L r (aw_s C a (.inr (ci, aw_s fs kf (.long x))))
theorem s_putl {ix ci kf Nf : Nat} {Cn : String} {T : u_T} {ty0 : Nat → FieldType} (hd : decode M.2.1 pc = .ok (.putfield ix, 3)) (hc : aw_cl[ci]? = some (Cn, T, Nf)) (hin : ∀ w ∈ u_ws Cn T Nf, w ∈ aw_B) (hty : ∀ k, k < Nf → parseFieldDescriptor (T k).2.2.1 = some (ty0 k)) (hnm : ∀ a, a < Nf → ∀ b, b < Nf → a ≠ b → (T a).2.1 ≠ (T b).2.1) (hk : kf < Nf) (hfin : (T kf).2.2.2 = false) (hde : parseFieldDescriptor (T kf).2.2.1 = some .long) (hli : Jvm.Cond.fieldLink M.1.cls ix (T kf).1 (T kf).2.1 (T kf).2.2.1 ∈ aw_B) (h : aw_Sn l M xl X d kc ks Q (pc + 3) k) : aw_Sn l M xl X d kc ks Q pc (o_pl ci kf k) := by
  intro L st C hk0 p e R s m args below meth c D cA ad N Z G H locs ls hS hl
  obtain ⟨x, r, rfl, hk1⟩ := e_l hk0
  obtain ⟨a, r, rfl, hk2⟩ := e_a hk1
  obtain ⟨fs, ha, hk3⟩ := e_o hk2
  obtain ⟨v, hv, hk4⟩ := e_f hk3
  refine va_put (v := .long x) (ty := .long) G.1.1 G.1.2.1 G.1.2.2.2.2 hin ty0 hty hnm G.1.2.2.2.1 G.2.2.1.1 hS.2.1 (aw_D G.2.2.2.1 hS.1) hS.2.2 a (aw_at ha) hc kf hk (G.1.2.2.2.2 _ hli) (fun _ h9 => h9) hfin hde rfl rfl (by rw [List.length_map]; exact aw_lt hv) hd (fun H1 locs1 hP hD hS1 => ?_)
  exact h _ _ _ hk4 _ _ _ _ _ _ _ _ _ _ _ _ _ _ G _ _ _ ⟨by rw [aw_s_len]; exact hS.1, aw_Pset hP (by show Sum.inr _ = Sum.inr _; rw [← aw_fset]; rfl), hS1⟩ hl
/-- an int or boolean array is read: its place is in it -/
def o_ia (t : Nat) (k : aw_Kt) : aw_Kt := fun L st C => p_i st fun i r => p_a r fun a r => p_r C a t fun n f => ∃ j : Nat, i = nI j ∧ j < n ∧ k L (.int (f j) :: r) C
theorem s_iaload (hd : decode M.2.1 pc = .ok (.iaload, 1)) (h : aw_Sn l M xl X d kc ks Q (pc + 1) k) : aw_Sn l M xl X d kc ks Q pc (o_ia 0 k) := by
  intro L st C hk0 p e R s m args below meth c D cA ad N Z G H locs ls hS hl
  obtain ⟨i, r, rfl, hk1⟩ := e_i hk0
  obtain ⟨a, r, rfl, hk2⟩ := e_a hk1
  obtain ⟨n, f, ha, hn, j, rfl, hj, hk3⟩ := e_r hk2
  refine va_iald G.1.1 G.1.2.1 G.2.2.1.1 hS.2.1 a 0 (aw_at ha) rfl (vp_in_nI hj (by omega)) hd ?_
  rw [nI_clamp (by omega)]
  exact h _ _ _ hk3 _ _ _ _ _ _ _ _ _ _ _ _ _ _ G _ _ _ hS hl
theorem s_baload (hd : decode M.2.1 pc = .ok (.baload, 1)) (h : aw_Sn l M xl X d kc ks Q (pc + 1) k) : aw_Sn l M xl X d kc ks Q pc (o_ia 1 k) := by
  intro L st C hk0 p e R s m args below meth c D cA ad N Z G H locs ls hS hl
  obtain ⟨i, r, rfl, hk1⟩ := e_i hk0
  obtain ⟨a, r, rfl, hk2⟩ := e_a hk1
  obtain ⟨n, f, ha, hn, j, rfl, hj, hk3⟩ := e_r hk2
  refine va_zald G.1.1 G.1.2.1 G.2.2.1.1 hS.2.1 a 1 (aw_at ha) rfl (vp_in_nI hj (by omega)) hd ?_
  rw [nI_clamp (by omega)]
  exact h _ _ _ hk3 _ _ _ _ _ _ _ _ _ _ _ _ _ _ G _ _ _ hS hl
def o_xa (k : aw_Kt) : aw_Kt := fun L st C => p_i st fun x r => p_i r fun i r => p_a r fun a r => p_r C a 0 fun n f => ∃ j : Nat, i = nI j ∧ j < n ∧ k L r (aw_s C a (.inl (0, n, .inl (upd f j x))))
theorem s_iastore (hd : decode M.2.1 pc = .ok (.iastore, 1)) (h : aw_Sn l M xl X d kc ks Q (pc + 1) k) : aw_Sn l M xl X d kc ks Q pc (o_xa k) := by
  intro L st C hk0 p e R s m args below meth c D cA ad N Z G H locs ls hS hl
  obtain ⟨x, r, rfl, hk9⟩ := e_i hk0
  obtain ⟨i, r, rfl, hk1⟩ := e_i hk9
  obtain ⟨a, r, rfl, hk2⟩ := e_a hk1
  obtain ⟨n, f, ha, hn, j, rfl, hj, hk3⟩ := e_r hk2
  refine va_iast G.1.1 G.1.2.1 G.2.2.1.1 hS.2.1 (aw_D G.2.2.2.1 hS.1) hS.2.2 a 0 (aw_at ha) rfl (vp_in_nI hj (by omega)) hd (fun H1 locs1 hP hD hS1 => ?_)
  rw [nI_clamp (by omega)] at hP
  exact h _ _ _ hk3 _ _ _ _ _ _ _ _ _ _ _ _ _ _ G _ _ _ ⟨by rw [aw_s_len]; exact hS.1, aw_Pset hP rfl, hS1⟩ hl
theorem aw_nz {x : Int32} (h : x = 0 ∨ x = 1) : vp_nar .boolean x = x := by rcases h with rfl | rfl <;> decide +kernel
def o_zs (k : aw_Kt) : aw_Kt := fun L st C => p_i st fun x r => p_i r fun i r => p_a r fun a r => p_r C a 1 fun n f => ∃ j : Nat, i = nI j ∧ j < n ∧ (x = 0 ∨ x = 1) ∧ k L r (aw_s C a (.inl (1, n, .inl (upd f j x))))
theorem s_bastore (hd : decode M.2.1 pc = .ok (.bastore, 1)) (h : aw_Sn l M xl X d kc ks Q (pc + 1) k) : aw_Sn l M xl X d kc ks Q pc (o_zs k) := by
  intro L st C hk0 p e R s m args below meth c D cA ad N Z G H locs ls hS hl
  obtain ⟨x, r, rfl, hk9⟩ := e_i hk0
  obtain ⟨i, r, rfl, hk1⟩ := e_i hk9
  obtain ⟨a, r, rfl, hk2⟩ := e_a hk1
  obtain ⟨n, f, ha, hn, j, rfl, hj, hx, hk3⟩ := e_r hk2
  refine va_zast G.1.1 G.1.2.1 G.2.2.1.1 hS.2.1 (aw_D G.2.2.2.1 hS.1) hS.2.2 a 1 (aw_at ha) rfl (vp_in_nI hj (by omega)) hd (fun H1 locs1 hP hD hS1 => ?_)
  rw [nI_clamp (by omega), aw_nz hx] at hP
  exact h _ _ _ hk3 _ _ _ _ _ _ _ _ _ _ _ _ _ _ G _ _ _ ⟨by rw [aw_s_len]; exact hS.1, aw_Pset hP rfl, hS1⟩ hl
def o_ja (k : aw_Kt) : aw_Kt := fun L st C => p_i st fun i r => p_a r fun a r => p_rl C a fun n f => ∃ j : Nat, i = nI j ∧ j < n ∧ k L (.long (f j) :: r) C
theorem s_laload (hd : decode M.2.1 pc = .ok (.laload, 1)) (h : aw_Sn l M xl X d kc ks Q (pc + 1) k) : aw_Sn l M xl X d kc ks Q pc (o_ja k) := by
  intro L st C hk0 p e R s m args below meth c D cA ad N Z G H locs ls hS hl
  obtain ⟨i, r, rfl, hk1⟩ := e_i hk0
  obtain ⟨a, r, rfl, hk2⟩ := e_a hk1
  obtain ⟨n, f, ha, hn, j, rfl, hj, hk3⟩ := e_rl hk2
  refine va_lald G.1.1 G.1.2.1 G.2.2.1.1 hS.2.1 a 2 (aw_at ha) rfl (vp_in_nI hj (by omega)) hd ?_
  rw [nI_clamp (by omega)]
  exact h _ _ _ hk3 _ _ _ _ _ _ _ _ _ _ _ _ _ _ G _ _ _ hS hl
def o_aa (k : aw_Kt) : aw_Kt := fun L st C => p_i st fun i r => p_a r fun a r => p_ra C a fun n f => ∃ j : Nat, i = nI j ∧ j < n ∧ p_f (f j) fun b => k L (.ref b :: r) C
theorem s_aaload (hd : decode M.2.1 pc = .ok (.aaload, 1)) (h : aw_Sn l M xl X d kc ks Q (pc + 1) k) : aw_Sn l M xl X d kc ks Q pc (o_aa k) := by
  intro L st C hk0 p e R s m args below meth c D cA ad N Z G H locs ls hS hl
  obtain ⟨i, r, rfl, hk1⟩ := e_i hk0
  obtain ⟨a, r, rfl, hk2⟩ := e_a hk1
  obtain ⟨n, f, ha, hn, j, rfl, hj, hk3⟩ := e_ra hk2
  obtain ⟨b, hb, hk4⟩ := e_f hk3
  have hi := vp_in_nI hj (show n < 2 ^ 31 by omega)
  have hcl : (nI j).toNatClampNeg = j := nI_clamp (by omega)
  have hg : (fun i => (f i).map ad) (nI j).toNatClampNeg = some (ad b) := by
    show (f (nI j).toNatClampNeg).map ad = some (ad b)
    rw [hcl, hb]
    rfl
  refine W.aald (v := va_rf (some (ad b))) (ty := .array .int) G.1.1 G.1.2.1 (hS.2.1 a _ (aw_at ha)) ((G.2.2.1.1.2 3 _ rfl).1 n (fun j => va_rf ((f j).map ad))) rfl (fun q => by cases q) (by show ¬ (_ < 0 ∨ (arrV _ _ _).slots.size ≤ _); rw [arrV_size]; exact hi) (by show (arrV _ _ _).slots[_]? = _; rw [arrV_read _ _ (by rw [hcl]; exact hj)]; exact congrArg (fun x => some (va_rf x)) hg) rfl rfl hd ?_
  exact h _ _ _ hk4 _ _ _ _ _ _ _ _ _ _ _ _ _ _ G _ _ _ hS hl
def o_an (k : aw_Kt) : aw_Kt := fun L st C => p_a st fun a r => p_r C a 0 fun n f => k L (.int (nI n) :: r) C
theorem s_alen (hd : decode M.2.1 pc = .ok (.arraylength, 1)) (h : aw_Sn l M xl X d kc ks Q (pc + 1) k) : aw_Sn l M xl X d kc ks Q pc (o_an k) := by
  intro L st C hk0 p e R s m args below meth c D cA ad N Z G H locs ls hS hl
  obtain ⟨a, r, rfl, hk1⟩ := e_a hk0
  obtain ⟨n, f, ha, hn, hk2⟩ := e_r hk1
  exact va_alen (v := nI n) G.1.1 G.1.2.1 G.2.2.1.1 hS.2.1 a 0 (aw_at ha) (ty := .int) rfl rfl hd (h _ _ _ hk2 _ _ _ _ _ _ _ _ _ _ _ _ _ _ G _ _ _ hS hl)
/-- the script of the law -/
def o_sa (xl : Option (Nat × (Nat → Int32))) (k : aw_Kt) : aw_Kt := fun L st C => p_i st fun i r => p_a r fun a r => p_t (Nat.beq a 1000) (p_f xl fun q => ∃ j : Nat, i = nI j ∧ j < q.1 ∧ k L (.int (q.2 j) :: r) C)
theorem s_sld (hd : decode M.2.1 pc = .ok (.iaload, 1)) (h : aw_Sn l M xl X d kc ks Q (pc + 1) k) : aw_Sn l M xl X d kc ks Q pc (o_sa xl k) := by
  intro L st C hk0 p e R s m args below meth c D cA ad N Z G H locs ls hS hl
  obtain ⟨i, r, rfl, hk1⟩ := e_i hk0
  obtain ⟨a, r, rfl, hk2⟩ := e_a hk1
  obtain ⟨h1, hk3⟩ := e_t hk2
  have := Nat.eq_of_beq_eq_true h1
  subst this
  obtain ⟨q, hq, j, rfl, hj, hk4⟩ := e_f hk3
  obtain ⟨x1, x2, x3, x4⟩ := G.2.2.2.2.1 q hq
  have hbA : ¬ aw_A ad N s.heap.size (ad 1000) := fun z => by
    rcases z with ⟨k1, z1, z2⟩ | z
    · exact x3 k1 z1 z2.symm
    · omega
  refine va_sld G.1.1 G.1.2.1 x1 x2 hbA hS.2.2 (vp_in_nI hj x4) hd ?_
  rw [nI_clamp (by omega)]
  exact h _ _ _ hk4 _ _ _ _ _ _ _ _ _ _ _ _ _ _ G _ _ _ hS hl
def o_sn (xl : Option (Nat × (Nat → Int32))) (k : aw_Kt) : aw_Kt := fun L st C => p_a st fun a r => p_t (Nat.beq a 1000) (p_f xl fun q => k L (.int (nI q.1) :: r) C)
theorem s_slen (hd : decode M.2.1 pc = .ok (.arraylength, 1)) (h : aw_Sn l M xl X d kc ks Q (pc + 1) k) : aw_Sn l M xl X d kc ks Q pc (o_sn xl k) := by
  intro L st C hk0 p e R s m args below meth c D cA ad N Z G H locs ls hS hl
  obtain ⟨a, r, rfl, hk2⟩ := e_a hk0
  obtain ⟨h1, hk3⟩ := e_t hk2
  have := Nat.eq_of_beq_eq_true h1
  subst this
  obtain ⟨q, hq, hk4⟩ := e_f hk3
  obtain ⟨x1, x2, x3, x4⟩ := G.2.2.2.2.1 q hq
  have hbA : ¬ aw_A ad N s.heap.size (ad 1000) := fun z => by
    rcases z with ⟨k1, z1, z2⟩ | z
    · exact x3 k1 z1 z2.symm
    · omega
  exact va_slen G.1.1 G.1.2.1 x1 x2 hbA hS.2.2 hd (h _ _ _ hk4 _ _ _ _ _ _ _ _ _ _ _ _ _ _ G _ _ _ hS hl)
/-! ends -/
def o_ri (Q : Option Value → aw_H → Prop) : aw_Kt := fun _ st C => p_i st fun x r => p_e r (Q (some (.int x)) C)
theorem s_iret (hd : decode M.2.1 pc = .ok (.ireturn, 1)) (hr : M.2.2.2 = some .int) : aw_Sn l M xl X d kc ks Q pc (o_ri Q) := by
  intro L st C hk0 p e R s m args below meth c D cA ad N Z G H locs ls hS hl
  obtain ⟨x, r, rfl, hk1⟩ := e_i hk0
  obtain ⟨rfl, hk2⟩ := e_e hk1
  exact G.2.2.2.2.2.1 (some (.int x)) C H locs pc ls .ireturn (Or.inl ⟨x, .int, hr, rfl, rfl, rfl⟩) hk2 hS hd
def o_rz (Q : Option Value → aw_H → Prop) : aw_Kt := fun _ st C => p_i st fun x r => p_e r ((x = 0 ∨ x = 1) ∧ Q (some (.int x)) C)
theorem s_zret (hd : decode M.2.1 pc = .ok (.ireturn, 1)) (hr : M.2.2.2 = some .boolean) : aw_Sn l M xl X d kc ks Q pc (o_rz Q) := by
  intro L st C hk0 p e R s m args below meth c D cA ad N Z G H locs ls hS hl
  obtain ⟨x, r, rfl, hk1⟩ := e_i hk0
  obtain ⟨rfl, hx, hk2⟩ := e_e hk1
  exact G.2.2.2.2.2.1 (some (.int x)) C H locs pc ls .ireturn (Or.inl ⟨x, .boolean, hr, rfl, rfl, by rcases hx with rfl | rfl <;> decide +kernel⟩) hk2 hS hd
def o_rl (Q : Option Value → aw_H → Prop) : aw_Kt := fun _ st C => p_l st fun x r => p_e r (Q (some (.long x)) C)
theorem s_lret (hd : decode M.2.1 pc = .ok (.lreturn, 1)) (hr : M.2.2.2 = some .long) : aw_Sn l M xl X d kc ks Q pc (o_rl Q) := by
  intro L st C hk0 p e R s m args below meth c D cA ad N Z G H locs ls hS hl
  obtain ⟨x, r, rfl, hk1⟩ := e_l hk0
  obtain ⟨rfl, hk2⟩ := e_e hk1
  exact G.2.2.2.2.2.1 (some (.long x)) C H locs pc ls .lreturn (Or.inr (Or.inl ⟨x, hr, rfl, rfl⟩)) hk2 hS hd
def o_rv (Q : Option Value → aw_H → Prop) : aw_Kt := fun _ st C => p_e st (Q none C)
theorem s_vret (hd : decode M.2.1 pc = .ok (.return_, 1)) (hr : M.2.2.2 = none) : aw_Sn l M xl X d kc ks Q pc (o_rv Q) := by
  intro L st C hk0 p e R s m args below meth c D cA ad N Z G H locs ls hS hl
  obtain ⟨rfl, hk2⟩ := e_e hk0
  exact G.2.2.2.2.2.1 none C H locs pc ls .return_ (Or.inr (Or.inr ⟨hr, rfl, rfl⟩)) hk2 hS hd
/-! switches -/
def aw_sw (x : Int32) (L : aw_L) (r : List Value) (C : aw_H) (kd : aw_Kt) : Int → List aw_Kt → Prop
  | _, [] => True
  | lo, k :: ks => (x = Int32.ofInt lo → k L r C) ∧ aw_sw x L r C kd (lo + 1) ks
def o_ts (lo hi : Int) (ks : List aw_Kt) (kd : aw_Kt) : aw_Kt := fun L st C => p_i st fun x r => (x.toInt < lo ∨ hi < x.toInt → kd L r C) ∧ aw_sw x L r C kd lo ks
def aw_tw (l : Launch) (M : aw_M) (xl : Option (Nat × (Nat → Int32))) (X : Nat → aw_Kt) (d kc ks : Nat) (Q : Option Value → aw_H → Prop) (pc : Nat) : List Int → List aw_Kt → Prop
  | [], [] => True
  | o :: os, k :: ks9 => (∃ tgt : Nat, (pc : Int) + o = (tgt : Int) ∧ aw_Sn l M xl X d kc ks Q tgt k) ∧ aw_tw l M xl X d kc ks Q pc os ks9
  | _, _ => False
theorem aw_tw_get : ∀ (os : List Int) (ks9 : List aw_Kt) (lo : Int) (j : Nat) (o : Int) (x : Int32) (L : aw_L) (r : List Value) (C : aw_H) (kd : aw_Kt), aw_tw l M xl X d kc ks Q pc os ks9 → os[j]? = some o → aw_sw x L r C kd lo ks9 → x = Int32.ofInt (lo + j) → ∃ tgt : Nat, (pc : Int) + o = (tgt : Int) ∧ SW l M xl X d kc ks Q tgt L r C
  | [], _, lo, j, o, x, L, r, C, kd, _, h, _, _ => by simp at h
  | _ :: _, [], lo, j, o, x, L, r, C, kd, h, _, _, _ => h.elim
  | a :: os, k9 :: ks9, lo, j, o, x, L, r, C, kd, h1, h2, h3, h4 => by
    cases j with
    | zero =>
      simp at h2
      subst h2
      obtain ⟨tgt, e1, e2⟩ := h1.1
      exact ⟨tgt, e1, e2 _ _ _ (h3.1 (by rw [h4]; simp))⟩
    | succ j => exact aw_tw_get os ks9 (lo + 1) j o x L r C kd h1.2 (by simpa using h2) h3.2 (by rw [h4]; congr 1; push_cast; omega)
theorem s_tsw {dflt lo hi : Int} {offs : Array Int} {len td : Nat} {ks9 : List aw_Kt} (hd : decode M.2.1 pc = .ok (.tableswitch dflt lo hi offs, len)) (hlen : (offs.size : Int) = hi - lo + 1) (hlo : -1000 < lo ∧ hi < 1000) (htd : (pc : Int) + dflt = (td : Int)) (h1 : aw_Sn l M xl X d kc ks Q td kf) (h2 : aw_tw l M xl X d kc ks Q pc offs.toList ks9) : aw_Sn l M xl X d kc ks Q pc (o_ts lo hi ks9 kf) := by
  intro L st C hk0 p e R s m args below meth c D cA ad N Z G H locs ls hS hl
  obtain ⟨x, r, rfl, hk1, hk2⟩ := e_i hk0
  by_cases hx : x.toInt < lo ∨ hi < x.toInt
  · exact lv_tableOut G.1.1 G.1.2.1 hd hx htd (h1 _ _ _ (hk1 hx) _ _ _ _ _ _ _ _ _ _ _ _ _ _ G _ _ _ hS hl)
  · have hj : (x.toInt - lo).toNat < offs.size := by omega
    have hg : offs[(x.toInt - lo).toNat]? = some offs[(x.toInt - lo).toNat] := Array.getElem?_eq_getElem hj
    obtain ⟨tgt, e1, e2⟩ := aw_tw_get offs.toList ks9 lo (x.toInt - lo).toNat _ x L r C kf h2 (by rw [Array.getElem?_toList]; exact hg) hk2 (by
      rw [← Int32.toInt_inj, show lo + ((x.toInt - lo).toNat : Int) = x.toInt by omega]
      simp)
    exact lv_tableIn G.1.1 G.1.2.1 hd (by omega) (by omega) hg e1 (e2 _ _ _ _ _ _ _ _ _ _ _ _ _ _ G _ _ _ hS hl)
/-! calls -/
theorem aw_call {p : Program} {e : Env} {R : Room} {s : State} {m : MethodId} {args : Array Value} {below : List Frame} {meth : Method} {c : Code} {D : va_G} {cA : Nat → ClassId} {ad : Nat → Nat} {N : Nat} {Z : State → Prop} {H : Heap} {locs : List Loc} {ls : Array Slot} {Q' : Option Value → aw_H → Prop} {a : Array Value} {st0 rest : List Value}
    (hr : va_Run p l e R s m args below meth c H locs kc ks 0 0 (F0 m pc ls st0) rest (aw_Q Q' D cA ad N H.size a) (aw_A ad N H.size)) (hS : va_S (aw_A ad N s.heap.size) s.heap H locs)
    (kk : ∀ (v : Option Value) (C' : aw_H) (H1 : Heap) (locs1 : List Loc), Q' v C' → aw_St D cA ad N s C' H1 locs1 → W p l e R s m args below meth c H1 locs1 kc ks Z (F0 m (pc + 3) ls ((v.map (aw_cv ad)).toList ++ rest))) : W p l e R s m args below meth c H locs kc ks Z (F0 m pc ls st0) := by
  intro T hT X
  obtain ⟨v, st₀, t, T', L, h0, X', hL, e1, e2, ⟨v', C', hv, hq, hN, hP, hz, hk⟩, st⟩ := hr T hT X
  cases hv
  rw [h0] at hz hk
  have hA : ∀ q, aw_A ad N H.size q → aw_A ad N s.heap.size q := fun q z => by
    rcases z with z | z
    · exact Or.inl z
    · exact Or.inr (Nat.le_trans hS.1 z)
  obtain ⟨t2, a1, b1⟩ := kk v' C' T'.heap (locs ++ L) hq ⟨hN, by rw [e1]; exact hP, Nat.le_trans hS.1 (by rw [e1]; exact hz), fun q h1 h2 => by rw [e1, hk q (Nat.lt_of_lt_of_le h1 hS.1) (fun z => h2 (hA q z))]; exact hS.2.1 q h1 h2, fun q hq => by
      rcases List.mem_append.mp hq with h | h
      · exact hS.2.2 q h
      · exact hA _ (hL q h)⟩ T' rfl X'
  exact ⟨t2, st t2 a1, b1⟩
/-- what a call answers, and goes on with -/
def aw_cK (l : Launch) (M' : aw_M) (d : Nat) (av rest : List Value) (L : aw_L) (C : aw_H) (k : aw_Kt) : Prop := ∃ Qc : Option Value → aw_H → Prop, SMet l M' d av C Qc ∧ ∀ v C', Qc v C' → k L (v.toList ++ rest) C'
def o_cv (l : Launch) (d : Nat) (M' : aw_M) (ci n : Nat) (k : aw_Kt) : aw_Kt := fun L st C => match d with
  | 0 => False
  | d' + 1 => p_f (aw_pop n [] st) fun q => p_a q.2 fun b rest => p_o C b ci fun _ => p_t (Nat.ble (aw_cs rest) 8) (aw_cK l M' d' (.ref b :: q.1) rest L C k)
def o_cs (l : Launch) (d : Nat) (M' : aw_M) (n : Nat) (k : aw_Kt) : aw_Kt := fun L st C => match d with
  | 0 => False
  | d' + 1 => p_f (aw_pop n [] st) fun q => p_t (Nat.ble (aw_cs q.2) 8) (aw_cK l M' d' q.1 q.2 L C k)
theorem aw_tl (v : Option Value) (ad : Nat → Nat) (rest : List Value) : (v.map (aw_cv ad)).toList ++ rest.map (aw_cv ad) = (v.toList ++ rest).map (aw_cv ad) := by cases v <;> simp
theorem aw_stk {n : Nat} {st as r : List Value} (ad : Nat → Nat) (h : aw_pop n [] st = some (as, r)) : as.length = n ∧ st.map (aw_cv ad) = (as.map (aw_cv ad)).reverse ++ r.map (aw_cv ad) := by
  obtain ⟨h1, h2⟩ := aw_pop_eq n [] st as r h
  refine ⟨by simpa using h1, ?_⟩
  have h3 : st = as.reverse ++ r := by simpa using h2
  rw [h3]
  simp
theorem s_cv {M' : aw_M} {ix ci n Nf : Nat} {T : u_T} (hd : decode M.2.1 pc = .ok (.invokevirtual ix, 3)) (hc : aw_cl[ci]? = some (M'.1.cls, T, Nf)) (hm : M'.2.2.1 ≤ 41) (hli : Jvm.Cond.methodLink M.1.cls ix M'.1 ∈ aw_B) (hin : Jvm.Cond.instanceMethod M'.1 ∈ aw_B) (hse : Jvm.Cond.selects M'.1.cls M'.1 M'.1 ∈ aw_B) (hini : Jvm.Cond.initialized M'.1.cls ∈ aw_B) (hco : Jvm.Cond.code M'.1 M'.2.1 M'.2.2.1 M'.2.2.2 ∈ aw_B)
    (hde : M'.1.cls ≠ "java/lang/invoke/MethodHandle" ∧ M'.1.cls ≠ "java/lang/invoke/VarHandle" ∧ (parseMethodDescriptor M'.1.desc).map (fun d => d.parameters.length) = some n) (h : aw_Sn l M xl X d kc ks Q (pc + 3) k) : aw_Sn l M xl X d kc ks Q pc (o_cv l d M' ci n k) := by
  intro L st C hk0 p e R s m args below meth c D cA ad N Z G H locs ls hS hl
  cases d with
  | zero => exact hk0.elim
  | succ d' =>
    obtain ⟨⟨as, q2⟩, hq, hk1⟩ := e_f hk0
    obtain ⟨b, rest, hb, hk2⟩ := e_a hk1
    obtain ⟨fs, ha, hk3⟩ := e_o hk2
    obtain ⟨hsum, Qc, hM, hk4⟩ := e_t hk3
    dsimp only at hb hM
    subst hb
    obtain ⟨hn, hst⟩ := aw_stk ad hq
    have G0 := G
    obtain ⟨⟨hx, hbb, hml, hown, hts⟩, ⟨hf, hlo, hcl, hsl⟩, hK, hJ, -, -⟩ := G
    rw [hst]
    refine aw_call (Q' := Qc) (rest := rest.map (aw_cv ad)) (va_runV (C := M'.1.cls) (b := ad b) (As := as.map (aw_cv ad)) (n := n) (rm := aw_rm d') ⟨hx, hbb, hml, hown, hts⟩ (hM D cA ad N H.size hS.1 hJ) ⟨callB_of n hts (aw_GI hco) rfl rfl rfl (hts _ hini) (hts _ hli) hde ⟨hf, by show 8 + (_ + 11) + 60 * d' ≤ _; omega⟩, hts _ hin, hts _ hse⟩
      ⟨aw_blind _ _ _ _ _ _, va_recv hK.1 hS.2.1 hc (aw_at ha), fun U hU hW => ⟨rfl, by rw [hU], by rw [hU]; exact hS.2.1, aw_K.warm hW hK⟩⟩ rfl (by rw [List.length_map]; exact hn) hl.1 rfl (lv_room (by rw [aw_cs_eq]; exact Nat.le_of_ble_eq_true hsum)) hd ⟨hcl, hsl⟩) hS.2.2 (fun v C' H1 locs1 hq1 hS1 => ?_)
    rw [aw_tl]
    exact h _ _ _ (hk4 v C' hq1) _ _ _ _ _ _ _ _ _ _ _ _ _ _ G0 _ _ _ hS1 hl
theorem s_cs {M' : aw_M} {ix n : Nat} (hd : decode M.2.1 pc = .ok (.invokestatic ix, 3)) (hm : M'.2.2.1 ≤ 41) (hli : Jvm.Cond.methodLink M.1.cls ix M'.1 ∈ aw_B) (hst : Jvm.Cond.static M'.1 ∈ aw_B) (hini : Jvm.Cond.initialized M'.1.cls ∈ aw_B) (hco : Jvm.Cond.code M'.1 M'.2.1 M'.2.2.1 M'.2.2.2 ∈ aw_B)
    (hde : M'.1.cls ≠ "java/lang/invoke/MethodHandle" ∧ M'.1.cls ≠ "java/lang/invoke/VarHandle" ∧ (parseMethodDescriptor M'.1.desc).map (fun d => d.parameters.length) = some n) (h : aw_Sn l M xl X d kc ks Q (pc + 3) k) : aw_Sn l M xl X d kc ks Q pc (o_cs l d M' n k) := by
  intro L st C hk0 p e R s m args below meth c D cA ad N Z G H locs ls hS hl
  cases d with
  | zero => exact hk0.elim
  | succ d' =>
    obtain ⟨⟨as, rest⟩, hq, hk1⟩ := e_f hk0
    obtain ⟨hsum, Qc, hM, hk4⟩ := e_t hk1
    dsimp only at hM hsum
    obtain ⟨hn, hst0⟩ := aw_stk ad hq
    have G0 := G
    obtain ⟨⟨hx, hbb, hml, hown, hts⟩, ⟨hf, hlo, hcl, hsl⟩, hK, hJ, -, -⟩ := G
    rw [hst0]
    refine aw_call (Q' := Qc) (rest := rest.map (aw_cv ad)) (va_runS (As := as.map (aw_cv ad)) (n := n) (rm := aw_rm d') ⟨hx, hbb, hml, hown, hts⟩ (hM D cA ad N H.size hS.1 hJ) ⟨callB_of n hts (aw_GI hco) rfl rfl rfl (hts _ hini) (hts _ hli) hde ⟨hf, by show 8 + (_ + 11) + 60 * d' ≤ _; omega⟩, hts _ hst⟩
      ⟨aw_blind _ _ _ _ _ _, fun U hU hW => ⟨rfl, by rw [hU], by rw [hU]; exact hS.2.1, aw_K.warm hW hK⟩⟩ rfl (by rw [List.length_map]; exact hn) hl.1 rfl (lv_room (by rw [aw_cs_eq]; exact Nat.le_of_ble_eq_true hsum)) hd ⟨hcl, hsl⟩) hS.2.2 (fun v C' H1 locs1 hq1 hS1 => ?_)
    rw [aw_tl]
    exact h _ _ _ (hk4 v C' hq1) _ _ _ _ _ _ _ _ _ _ _ _ _ _ G0 _ _ _ hS1 hl
/-- a static method of the nest host -/
theorem s_cn {M' : aw_M} {ix n : Nat} (hd : decode M.2.1 pc = .ok (.invokestatic ix, 3)) (hm : M'.2.2.1 ≤ 41) (hli : Jvm.Cond.methodLinkNest M.1.cls ix M'.1 "LabelPeople" = aw_n1 ∨ Jvm.Cond.methodLinkNest M.1.cls ix M'.1 "LabelPeople" = aw_n2) (hst : Jvm.Cond.static M'.1 ∈ aw_B) (hini : Jvm.Cond.initialized M'.1.cls ∈ aw_B) (hco : Jvm.Cond.code M'.1 M'.2.1 M'.2.2.1 M'.2.2.2 ∈ aw_B)
    (hde : M'.1.cls ≠ "java/lang/invoke/MethodHandle" ∧ M'.1.cls ≠ "java/lang/invoke/VarHandle" ∧ (parseMethodDescriptor M'.1.desc).map (fun d => d.parameters.length) = some n) (h : aw_Sn l M xl X d kc ks Q (pc + 3) k) : aw_Sn l M xl X d kc ks Q pc (o_cs l d M' n k) := by
  intro L st C hk0 p e R s m args below meth c D cA ad N Z G H locs ls hS hl
  cases d with
  | zero => exact hk0.elim
  | succ d' =>
    obtain ⟨⟨as, rest⟩, hq, hk1⟩ := e_f hk0
    obtain ⟨hsum, Qc, hM, hk4⟩ := e_t hk1
    dsimp only at hM hsum
    obtain ⟨hn, hst0⟩ := aw_stk ad hq
    have G0 := G
    obtain ⟨⟨hx, hbb, hml, hown, hts⟩, ⟨hf, hlo, hcl, hsl⟩, hK, hJ, -, -⟩ := G
    have hnw : va_Nw (.methodLinkNest M.1.cls ix M'.1 "LabelPeople") s := by
      rcases hli with z | z
      · rw [z]; exact hK.2.1
      · rw [z]; exact hK.2.2
    rw [hst0]
    refine aw_call (Q' := Qc) (rest := rest.map (aw_cv ad)) (va_runSN (As := as.map (aw_cv ad)) (n := n) (rm := aw_rm d') ⟨hx, hbb, hml, hown, hts⟩ (hM D cA ad N H.size hS.1 hJ) ⟨va_cnB n hts (aw_GI hco) rfl rfl rfl hnw (hts _ hini) hde ⟨hf, by show 8 + (_ + 11) + 60 * d' ≤ _; omega⟩, hts _ hst, trivial⟩
      ⟨aw_blind _ _ _ _ _ _, fun U hU hW => ⟨rfl, by rw [hU], by rw [hU]; exact hS.2.1, aw_K.warm hW hK⟩⟩ rfl (by rw [List.length_map]; exact hn) hl.1 rfl (lv_room (by rw [aw_cs_eq]; exact Nat.le_of_ble_eq_true hsum)) hd ⟨hcl, hsl⟩) hS.2.2 (fun v C' H1 locs1 hq1 hS1 => ?_)
    rw [aw_tl]
    exact h _ _ _ (hk4 v C' hq1) _ _ _ _ _ _ _ _ _ _ _ _ _ _ G0 _ _ _ hS1 hl
end AWH
/-! a method's contract from the walk of its body -/
def aw_en : List Value → aw_L
  | [] => []
  | .long x :: r => some (.long x) :: none :: aw_en r
  | .double x :: r => some (.double x) :: none :: aw_en r
  | v :: r => some v :: aw_en r
theorem aw_en_mem (ad : Nat → Nat) : ∀ (av : List Value) (k n : Nat) (q : Nat × Value), q ∈ aw_al ad k (aw_en av ++ List.replicate n none) → q ∈ lv_args k (av.map (aw_cv ad))
  | [], k, n, q, h => by
    obtain ⟨i, v, h1, -⟩ := (aw_al_mem ad _ k q).mp h
    rw [aw_g_eq] at h1
    simp only [aw_en, List.nil_append, List.getElem?_replicate] at h1
    split at h1
    · cases h1
    · cases h1
  | v :: r, k, n, q, h => by
    cases v with
    | long x =>
      simp only [aw_en, List.cons_append, aw_al, List.mem_cons] at h
      rcases h with h | h
      · rw [h]; simp [lv_args]
      · exact List.mem_cons_of_mem _ (by simpa [aw_cv, Value.category] using aw_en_mem ad r (k + 1 + 1) n q h)
    | double x =>
      simp only [aw_en, List.cons_append, aw_al, List.mem_cons] at h
      rcases h with h | h
      · rw [h]; simp [lv_args]
      · exact List.mem_cons_of_mem _ (by simpa [aw_cv, Value.category] using aw_en_mem ad r (k + 1 + 1) n q h)
    | int x =>
      simp only [aw_en, List.cons_append, aw_al, List.mem_cons] at h
      rcases h with h | h
      · rw [h]; simp [lv_args]
      · exact List.mem_cons_of_mem _ (by simpa [aw_cv, Value.category] using aw_en_mem ad r (k + 1) n q h)
    | float x =>
      simp only [aw_en, List.cons_append, aw_al, List.mem_cons] at h
      rcases h with h | h
      · rw [h]; simp [lv_args]
      · exact List.mem_cons_of_mem _ (by simpa [aw_cv, Value.category] using aw_en_mem ad r (k + 1) n q h)
    | null =>
      simp only [aw_en, List.cons_append, aw_al, List.mem_cons] at h
      rcases h with h | h
      · rw [h]; simp [lv_args]
      · exact List.mem_cons_of_mem _ (by simpa [aw_cv, Value.category] using aw_en_mem ad r (k + 1) n q h)
    | ref x =>
      simp only [aw_en, List.cons_append, aw_al, List.mem_cons] at h
      rcases h with h | h
      · rw [h]; simp [lv_args]
      · exact List.mem_cons_of_mem _ (by simpa [aw_cv, Value.category] using aw_en_mem ad r (k + 1) n q h)
    | retAddr x =>
      simp only [aw_en, List.cons_append, aw_al, List.mem_cons] at h
      rcases h with h | h
      · rw [h]; simp [lv_args]
      · exact List.mem_cons_of_mem _ (by simpa [aw_cv, Value.category] using aw_en_mem ad r (k + 1) n q h)
theorem aw_sl_len (ad : Nat → Nat) : ∀ av : List Value, (lg_sl (av.map (aw_cv ad))).length = aw_cs av
  | [] => rfl
  | v :: r => by
    have h := aw_sl_len ad r
    simp only [lg_sl, List.map_cons, List.flatMap_cons, List.length_append, aw_cs] at h ⊢
    rw [h, aw_cv_cat]
    rcases lv_cat v with q | q <;> simp [q]
theorem SMet_ofF {l : Launch} {M : aw_M} {d : Nat} {av : List Value} {C : aw_H} {Q : Option Value → aw_H → Prop} (n : Nat) (hy : plainFor M.1 = true) (hn : aw_cs av ≤ M.2.2.1) (h : SW l M none (fun _ _ _ _ => False) d 0 0 Q 0 (aw_en av ++ List.replicate n none) [] C) : SMet l M d av C Q := by
  intro D cA ad N sz hN hJ
  refine va_MetF (cc := M.2.1) (maxL := M.2.2.1) (ret := M.2.2.2) hy rfl ?_
  intro p e s m args below meth c s₁ B hml hv
  obtain ⟨rfl, hsz, hP, hK⟩ := hv
  have hx := B.exec
  have hb := B.bytes
  have hr := B.returns
  have hts := atoms_spec (ws := aw_ws M) B.pre
  have hown : s.vm.findClass M.1.cls = some m.cls := findClass_of_methodNamed B.named
  have hlocks := B.notSynchronized
  subst hsz
  have hl := lv_entry (av.map (aw_cv ad)) (n := M.2.2.1) (by rw [aw_sl_len]; exact hn)
  rw [lg_entry_eq]
  generalize (lg_sl (av.map (aw_cv ad)) ++ List.replicate (M.2.2.1 - (lg_sl (av.map (aw_cv ad))).length) Slot.unset).toArray = ls at hl ⊢
  refine h p e (aw_rm d) s m _ below meth c D cA ad N _ ⟨⟨hx, hb, hml, hown, fun w hw => hts w (List.mem_cons_of_mem _ hw)⟩, ⟨Nat.le_refl _, Nat.le_refl _, Nat.le_refl _, Nat.le_refl _⟩, hK, hJ, (fun q hq => by cases hq), ?_, fun _ _ _ _ _ _ _ h => h.elim⟩ s.heap [] ls ⟨hN, hP, va_S.rf⟩ ⟨hl.1, hl.2.1, fun q hq => hl.2.2 q (aw_en_mem ad av 0 n q hq)⟩
  intro v C2 H locs pc ls2 i hR hq hS hd
  rcases hR with ⟨x, ty, r1, rfl, rfl, r2⟩ | ⟨x, r1, rfl, rfl⟩ | ⟨r1, rfl, rfl⟩
  · exact W.zret hx hb (hr.trans r1) r2 (fun t ht hW => ⟨some (.int x), C2, rfl, hq, hS.1, by rw [ht]; exact hS.2.1, hS.2.2.F ht⟩) hS.2.2.2.2 hd
  · exact W.lret hx hb (hr.trans r1) (fun t ht hW => ⟨some (.long x), C2, rfl, hq, hS.1, by rw [ht]; exact hS.2.1, hS.2.2.F ht⟩) hS.2.2.2.2 hd
  · exact W.vret hx hb (hr.trans r1) (fun t ht hW => ⟨none, C2, rfl, hq, hS.1, by rw [ht]; exact hS.2.1, hS.2.2.F ht⟩) hS.2.2.2.2 hd
theorem SMet_of {l : Launch} {M : aw_M} {d : Nat} {av : List Value} {C : aw_H} {Q : Option Value → aw_H → Prop} (n : Nat) (hy : plainName M.1.cls = true) (hn : aw_cs av ≤ M.2.2.1) (h : SW l M none (fun _ _ _ _ => False) d 0 0 Q 0 (aw_en av ++ List.replicate n none) [] C) : SMet l M d av C Q := SMet_ofF n (plainFor_of_name hy) hn h
