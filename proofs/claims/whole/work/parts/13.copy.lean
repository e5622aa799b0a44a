/-! System.arraycopy of ints from the beginning on -/
section AWC
variable {l : Launch} {M : aw_M} {xl : Option (Nat × (Nat → Int32))} {X : Nat → aw_Kt} {d kc ks : Nat} {Q : Option Value → aw_H → Prop} {pc : Nat} {k : aw_Kt}
def o_cp (d : Nat) (k : aw_Kt) : aw_Kt := fun L st C => match d with
  | 0 => False
  | _ + 1 => p_i st fun n r => p_i r fun dp r => p_a r fun a r => p_i r fun sp r => p_a r fun b r => p_e r (p_r C b 0 fun n0 f => p_r C a 0 fun n1 g => ∃ j : Nat, n = nI j ∧ dp = nI 0 ∧ sp = nI 0 ∧ j ≤ n0 ∧ j ≤ n1 ∧ k L [] (aw_s C a (.inl (0, n1, .inl (va_cpy f g 0 0 j)))))
theorem s_copy {ix : Nat} (hd : decode M.2.1 pc = .ok (.invokestatic ix, 3)) (hli : Jvm.Cond.methodLink M.1.cls ix arraycopyName ∈ aw_B) (hna : Jvm.Cond.native arraycopyName ∈ aw_B) (hst : Jvm.Cond.static arraycopyName ∈ aw_B) (hini : Jvm.Cond.initialized "java/lang/System" ∈ aw_B) (h : aw_Sn l M xl X d kc ks Q (pc + 3) k) : aw_Sn l M xl X d kc ks Q pc (o_cp d k) := by
  intro L st C hk0 p e R s m args below meth c D cA ad N Z G H locs ls hS hl
  cases d with
  | zero => exact hk0.elim
  | succ d' =>
    obtain ⟨n, r1, rfl, hk1⟩ := e_i hk0
    obtain ⟨dp, r2, rfl, hk2⟩ := e_i hk1
    obtain ⟨a, r3, rfl, hk3⟩ := e_a hk2
    obtain ⟨sp, r4, rfl, hk4⟩ := e_i hk3
    obtain ⟨b, r5, rfl, hk5⟩ := e_a hk4
    obtain ⟨rfl, hk6⟩ := e_e hk5
    obtain ⟨n0, f, hb0, hn0, hk7⟩ := e_r hk6
    obtain ⟨n1, g, ha0, hn1, j, rfl, rfl, rfl, hj0, hj1, hk8⟩ := e_r hk7
    have hf := G.2.1.1
    have hlo := G.2.1.2.1
    have z0 : (nI 0).toNatClampNeg = 0 := nI_clamp (by omega)
    have zj : (nI j).toNatClampNeg = j := nI_clamp (by omega)
    refine va_copyi (ls := ls) (rest := []) (n0 := n0) (n1 := n1) (f := f) (g := g) (ty := .int) G.1.1 G.1.2.1 (G.1.2.2.1.trans hl.1.symm) G.1.2.2.2.1 (G.1.2.2.2.2 _ hli) (G.1.2.2.2.2 _ hna) (G.1.2.2.2.2 _ hst) (G.1.2.2.2.2 _ hini) G.2.2.1.1 hS.2.1 (aw_D G.2.2.2.1 hS.1) hS.2.2 b a 0 0 (aw_at hb0) (aw_at ha0) rfl rfl rfl (nI_pos (by omega)) (nI_pos (by omega)) (nI_pos (by omega)) (by rw [z0, zj]; omega) (by rw [z0, zj]; omega) (fun _ _ => rfl) (by omega) (Nat.le_trans (show _ ≤ 60 * 1 by decide) (Nat.le_trans (Nat.mul_le_mul_left 60 (by omega)) hlo)) hd (fun H1 locs1 hP hD hS1 => ?_)
    rw [z0, zj] at hP
    exact h _ _ _ hk8 _ _ _ _ _ _ _ _ _ _ _ _ _ _ G _ _ _ ⟨by rw [aw_s_len]; exact hS.1, aw_Pset hP rfl, hS1⟩ hl
end AWC
