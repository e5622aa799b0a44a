/-! the class's calls that may throw (the blocks of agree and all anew: partOfAgreement is a stop) -/
def k9_X3_agree_48 (l : Launch) (X : Nat → aw_Kt) (d : Nat) (Q : Option Value → aw_H → Prop) : aw_Kt := o_al 0 (o_gf 3 2 (o_al 0 (o_gf 3 0 (o_il 1 (o_il 2 (o_cv l d m_X0_measureTwo 0 3 (o_al 0 (o_il 3 (SW l m_X3_agree none X d 0 0 Q 63)))))))))
theorem t9_X3_agree_48 {l : Launch} {X : Nat → aw_Kt} {d : Nat} {Q : Option Value → aw_H → Prop} : aw_Sn l m_X3_agree none X d 0 0 Q 48 (k9_X3_agree_48 l X d Q) := by
  unfold k9_X3_agree_48
  exact s_aload_n dX3_agree_48 rfl (s_getf dX3_agree_49 rfl u_X3 (by decide) w_68 (s_aload_n dX3_agree_52 rfl (s_getf dX3_agree_53 rfl u_X3 (by decide) w_37 (s_iload_n dX3_agree_56 rfl (s_iload_n dX3_agree_57 rfl (s_cv dX3_agree_58 rfl (by decide) w_70 wi_X0_measureTwo ws_X0_measureTwo w_6 wc_X0_measureTwo wd_X0_measureTwo (s_aload_n dX3_agree_61 rfl (s_iload_n dX3_agree_62 rfl s_stop))))))))
def k9_X3_agree_29 (l : Launch) (X : Nat → aw_Kt) (d : Nat) (Q : Option Value → aw_H → Prop) : aw_Kt := o_il 3 (o_if (fun x => x < 0) (SW l m_X3_agree none X d 0 0 Q 38) (o_il 3 (o_ic 4 (o_i3 (fun x y => x < y) (k9_X3_agree_48 l X d Q) (SW l m_X3_agree none X d 0 0 Q 38)))))
theorem t9_X3_agree_29 {l : Launch} {X : Nat → aw_Kt} {d : Nat} {Q : Option Value → aw_H → Prop} : aw_Sn l m_X3_agree none X d 0 0 Q 29 (k9_X3_agree_29 l X d Q) := by
  unfold k9_X3_agree_29
  exact s_iload_n dX3_agree_29 rfl (s_if_lt dX3_agree_30 (by decide) s_stop (s_iload_n dX3_agree_33 rfl (s_iconst dX3_agree_34 (by decide) (s_icmp_lt dX3_agree_35 (by decide) t9_X3_agree_48 s_stop))))
def k9_X3_agree_0 (l : Launch) (X : Nat → aw_Kt) (d : Nat) (Q : Option Value → aw_H → Prop) : aw_Kt := o_il 1 (o_cs l d m_X3_isPerson 1 (o_if (fun x => x = 0) (SW l m_X3_agree none X d 0 0 Q 19) (o_il 2 (o_cs l d m_X3_isPerson 1 (o_if (fun x => x = 0) (SW l m_X3_agree none X d 0 0 Q 19) (o_il 1 (o_il 2 (o_i3 (fun x y => x = y) (SW l m_X3_agree none X d 0 0 Q 19) (k9_X3_agree_29 l X d Q)))))))))
theorem t9_X3_agree_0 {l : Launch} {X : Nat → aw_Kt} {d : Nat} {Q : Option Value → aw_H → Prop} : aw_Sn l m_X3_agree none X d 0 0 Q 0 (k9_X3_agree_0 l X d Q) := by
  unfold k9_X3_agree_0
  exact s_iload_n dX3_agree_0 rfl (s_cs dX3_agree_1 (by decide) w_43 wt_X3_isPerson w_10 wc_X3_isPerson wd_X3_isPerson (s_if_eq dX3_agree_4 (by decide) s_stop (s_iload_n dX3_agree_7 rfl (s_cs dX3_agree_8 (by decide) w_43 wt_X3_isPerson w_10 wc_X3_isPerson wd_X3_isPerson (s_if_eq dX3_agree_11 (by decide) s_stop (s_iload_n dX3_agree_14 rfl (s_iload_n dX3_agree_15 rfl (s_icmp_ne dX3_agree_16 (by decide) s_stop t9_X3_agree_29))))))))
def k9_X3_all_19 (l : Launch) (X : Nat → aw_Kt) (d : Nat) (Q : Option Value → aw_H → Prop) : aw_Kt := o_al 0 (o_gf 3 2 (o_al 0 (o_gf 3 0 (o_cv l d m_X0_measureAll 0 1 (o_al 0 (o_il 1 (SW l m_X3_all none X d 0 0 Q 32)))))))
theorem t9_X3_all_19 {l : Launch} {X : Nat → aw_Kt} {d : Nat} {Q : Option Value → aw_H → Prop} : aw_Sn l m_X3_all none X d 0 0 Q 19 (k9_X3_all_19 l X d Q) := by
  unfold k9_X3_all_19
  exact s_aload_n dX3_all_19 rfl (s_getf dX3_all_20 rfl u_X3 (by decide) w_68 (s_aload_n dX3_all_23 rfl (s_getf dX3_all_24 rfl u_X3 (by decide) w_37 (s_cv dX3_all_27 rfl (by decide) w_71 wi_X0_measureAll ws_X0_measureAll w_6 wc_X0_measureAll wd_X0_measureAll (s_aload_n dX3_all_30 rfl (s_iload_n dX3_all_31 rfl s_stop))))))
def k9_X3_all_0 (l : Launch) (X : Nat → aw_Kt) (d : Nat) (Q : Option Value → aw_H → Prop) : aw_Kt := o_il 1 (o_if (fun x => x < 0) (SW l m_X3_all none X d 0 0 Q 9) (o_il 1 (o_ic 4 (o_i3 (fun x y => x < y) (k9_X3_all_19 l X d Q) (SW l m_X3_all none X d 0 0 Q 9)))))
theorem t9_X3_all_0 {l : Launch} {X : Nat → aw_Kt} {d : Nat} {Q : Option Value → aw_H → Prop} : aw_Sn l m_X3_all none X d 0 0 Q 0 (k9_X3_all_0 l X d Q) := by
  unfold k9_X3_all_0
  exact s_iload_n dX3_all_0 rfl (s_if_lt dX3_all_1 (by decide) s_stop (s_iload_n dX3_all_4 rfl (s_iconst dX3_all_5 (by decide) (s_icmp_lt dX3_all_6 (by decide) t9_X3_all_19 s_stop))))
/-- how a call ends: 0 an answer, 1 to 3 an exception -/
abbrev uI (k : cK) (B : aw_H) (s : Nat × Int32) : Option Value → aw_H → Prop := fun v C => s.1 = 0 ∧ v = some (.int s.2) ∧ ∃ z, C = xC k z ++ B
abbrev uL (k : cK) (B : aw_H) (s : Nat × Int64) : Option Value → aw_H → Prop := fun v C => s.1 = 0 ∧ v = some (.long s.2) ∧ ∃ z, C = xC k z ++ B
abbrev uE (k : cK) (B : aw_H) (c : Nat) : String → aw_H → Prop := fun n C => ((c = 1 ∧ n = eIA) ∨ (c = 2 ∧ n = eAR) ∨ (c = 3 ∧ n = eIX)) ∧ ∃ z, C = xC k z ++ B
theorem at_says_22 : ax_at m_X3_says 22 eIA := ⟨118, 120, 122, _, nRE, dX3_says_22, dX3_says_25, dX3_says_26, dX3_says_28, dX3_says_31, List.mem_of_getElem? (i := 0) rfl, by decide +kernel, by decide +kernel, by decide, fun w hw => List.mem_append_left _ (List.mem_append_left _ hw)⟩
theorem at_says_52 : ax_at m_X3_says 52 eAR := ⟨129, 131, 133, _, nRE, dX3_says_52, dX3_says_55, dX3_says_56, dX3_says_58, dX3_says_61, List.mem_of_getElem? (i := 1) rfl, by decide +kernel, by decide +kernel, by decide, fun w hw => List.mem_append_left _ (List.mem_append_right _ hw)⟩
theorem at_says_68 : ax_at m_X3_says 68 eIX := ⟨134, 136, 138, _, nIX, dX3_says_68, dX3_says_71, dX3_says_72, dX3_says_74, dX3_says_77, List.mem_of_getElem? (i := 2) rfl, by decide +kernel, by decide +kernel, by decide, fun w hw => List.mem_append_right _ hw⟩
theorem at_agree_19 : ax_at m_X3_agree 19 eIA := ⟨118, 154, 122, _, nRE, dX3_agree_19, dX3_agree_22, dX3_agree_23, dX3_agree_25, dX3_agree_28, List.mem_of_getElem? (i := 3) rfl, by decide +kernel, by decide +kernel, by decide, fun w hw => List.mem_append_left _ (List.mem_append_left _ hw)⟩
theorem at_agree_38 : ax_at m_X3_agree 38 eIA := ⟨118, 156, 122, _, nRE, dX3_agree_38, dX3_agree_41, dX3_agree_42, dX3_agree_44, dX3_agree_47, List.mem_of_getElem? (i := 4) rfl, by decide +kernel, by decide +kernel, by decide, fun w hw => List.mem_append_left _ (List.mem_append_left _ hw)⟩
theorem at_all_9 : ax_at m_X3_all 9 eIA := ⟨118, 156, 122, _, nRE, dX3_all_9, dX3_all_12, dX3_all_13, dX3_all_15, dX3_all_18, List.mem_of_getElem? (i := 4) rfl, by decide +kernel, by decide +kernel, by decide, fun w hw => List.mem_append_left _ (List.mem_append_left _ hw)⟩
theorem at_part_40 : ax_at m_X3_partOfAgreement 40 eAR := ⟨129, 217, 133, _, nRE, dX3_partOfAgreement_40, dX3_partOfAgreement_43, dX3_partOfAgreement_44, dX3_partOfAgreement_46, dX3_partOfAgreement_49, List.mem_of_getElem? (i := 5) rfl, by decide +kernel, by decide +kernel, by decide, fun w hw => List.mem_append_left _ (List.mem_append_right _ hw)⟩
theorem x_says (l : Launch) (hl0 : l.stackTraces = false) (d : Nat) (k : cK) (z : cZ) (B : aw_H) (q r : Int32) (w : WF k) : XMet l m_X3_says (d + 7) [.ref 0, .int q, .int r] (xC k z ++ B) (uI k B (S_says k q r)) (uE k B (S_says k q r).1) := by
  refine XMet_of 1 hl0 (by omega) rfl (by decide) (Nat.le_of_ble_eq_true rfl) (t_X3_says_0 _ _ _ ?_)
  have bad : ¬ (ix q (k_rn k) ∧ ix r (k_n k)) → SW l m_X3_says none (ax_Xs l m_X3_says (d + 7) (uI k B (S_says k q r)) (uE k B (S_says k q r).1)) (d + 7) 0 0 (uI k B (S_says k q r)) 22 (aw_en [.ref 0, .int q, .int r] ++ List.replicate 1 none) [] (xC k z ++ B) := by
    intro h
    exact s_exit (Or.inl ⟨rfl, eIA, at_says_22, Or.inl ⟨by rw [S_says, cE_f h], rfl⟩, z, rfl⟩)
  refine ⟨_, SMet_f0 B (c_hasRule l (d + 6) k z q w.rn), ?_⟩
  rintro _ _ ⟨_, ⟨rfl, rfl⟩, rfl⟩
  refine br_b (fun c => bad (fun h => c h.1)) (fun c => ?_)
  refine ⟨_, SMet_f0 B (c_hasRow l (d + 6) k z r w.n), ?_⟩
  rintro _ _ ⟨_, ⟨rfl, rfl⟩, rfl⟩
  refine br_b (fun c2 => bad (fun h => c2 h.2)) (fun c2 => ?_)
  have hs : S_says k q r = cE (wI k (tN q) (tN r) = -2) (2, 0) (cE (wI k (tN q) (tN r) = -3) (3, 0) (0, wI k (tN q) (tN r))) := by
    rw [S_says, cE_t ⟨c, c2⟩]
  obtain ⟨qn, hq, rfl⟩ := c
  obtain ⟨rn, hr, rfl⟩ := c2
  have e1 : tN (nI qn) = qn := nI_clamp (by have := w.rn; omega)
  have e2 : tN (nI rn) = rn := nI_clamp (by have := w.n; omega)
  rw [e1, e2] at hs
  rw [hs]
  refine ⟨_, SMet_f0 B (c_wordOn l (d + 5) k z hq (Nat.lt_of_lt_of_le hr w.n) w), ?_⟩
  rintro _ _ ⟨_, ⟨rfl, rfl⟩, rfl⟩
  refine ⟨fun c3 => s_exit (Or.inl ⟨rfl, eAR, at_says_52, Or.inr (Or.inl ⟨by rw [cE_t c3], rfl⟩), z, rfl⟩), fun c3 => ?_⟩
  refine ⟨fun c4 => s_exit (Or.inl ⟨rfl, eIX, at_says_68, Or.inr (Or.inr ⟨by rw [cE_f c3, cE_t c4], rfl⟩), z, rfl⟩), fun c4 => ?_⟩
  rw [cE_f c3, cE_f c4]
  exact ⟨rfl, rfl, z, rfl⟩
theorem c_num (l : Launch) (d : Nat) (k : cK) (z : cZ) : SMet l m_X0_numerator d [.ref 3] (xC k z) (fun v C => v = some (.long (z_tp z)) ∧ C = xC k z) := SMet_of 0 (by decide) (by decide) (t_X0_numerator_0 _ _ _ ⟨rfl, rfl⟩)
theorem c_den (l : Launch) (d : Nat) (k : cK) (z : cZ) : SMet l m_X0_denominator d [.ref 3] (xC k z) (fun v C => v = some (.long (z_bt z)) ∧ C = xC k z) := SMet_of 0 (by decide) (by decide) (t_X0_denominator_0 _ _ _ ⟨rfl, rfl⟩)
theorem c_rwc (l : Launch) (d : Nat) (k : cK) (z : cZ) : SMet l m_X0_rowCount d [.ref 3] (xC k z) (rI k z (z_rc z)) := SMet_of 0 (by decide) (by decide) (t_X0_rowCount_0 _ _ _ ⟨rfl, rfl⟩)
theorem c_sec (l : Launch) (d : Nat) (k : cK) (z : cZ) : SMet l m_X0_secondCount d [.ref 3] (xC k z) (rI k z (z_sc z)) := SMet_of 0 (by decide) (by decide) (t_X0_secondCount_0 _ _ _ ⟨rfl, rfl⟩)
theorem dv_zero {o : Int64} {u : Nat} (ho : ∃ A : Nat, A < 2 ^ 63 ∧ abL o = lN A) (hu : u < 2 ^ 63) : lN u / dvL o (lN u) = 0 ↔ lN u = 0 := by
  obtain ⟨A, hA, eA⟩ := ho
  by_cases h : u = 0
  · subst h
    have e : ∀ x : Int64, (0 : Int64) / x = 0 := fun x => Int64.zero_div
    exact ⟨fun _ => rfl, fun _ => e _⟩
  · have hu0 : 0 < u := by omega
    have hg : gcL 200 (abL o) (lN u) = lN (Nat.gcd A u) := by rw [eA]; exact gcL_eq hA hu
    have hgp : 0 < Nat.gcd A u := Nat.gcd_pos_of_pos_right _ hu0
    have hle : Nat.gcd A u ≤ u := Nat.gcd_le_right _ hu0
    have hdv : dvL o (lN u) = lN (Nat.gcd A u) := by
      unfold dvL
      rw [hg, cE_f (lN_ne hgp (by omega))]
    rw [hdv, pk_lDiv hu hgp (by omega)]
    have hq : 0 < u / Nat.gcd A u := Nat.div_pos hle hgp
    have hq2 : u / Nat.gcd A u ≤ u := Nat.div_le_self _ _
    exact ⟨fun e => absurd e (lN_ne hq (by omega)), fun e => absurd e (lN_ne hu0 hu)⟩
theorem x_part (l : Launch) (hl0 : l.stackTraces = false) (d : Nat) (k : cK) (z : cZ) (B : aw_H) (x : Int32) (n a u : Nat) (o : Int64) (hn : n < 2 ^ 31) (ha : a < 2 ^ 31) (ho : ∃ A : Nat, A < 2 ^ 63 ∧ abL o = lN A) (hu : u < 2 ^ 63) (h1 : z_rc z = nI n) (h2 : z_sc z = nI a) (h3 : z_tp z = o / dvL o (lN u)) (h4 : z_bt z = lN u / dvL o (lN u)) :
    XMet l m_X3_partOfAgreement (d + 7) [.ref 0, .int x] (xC k z ++ B) (fun v C' => uL k B (S_part x (lN n) (lN a) o (lN u)) v C' ∧ ∃ y, v = some (.long y)) (uE k B (S_part x (lN n) (lN a) o (lN u)).1) := by
  refine XMet_of 0 hl0 (by omega) rfl (by decide) (Nat.le_of_ble_eq_true rfl) (t_X3_partOfAgreement_0 _ _ _ ?_)
  refine ⟨fun c => ?_, fun c => ⟨fun c2 => ?_, fun c2 => ?_⟩⟩
  · refine ⟨_, SMet_f0 B (c_rwc l (d + 6) k z), ?_⟩
    rintro _ _ ⟨_, ⟨rfl, rfl⟩, rfl⟩
    rw [S_part, cE_t c]
    exact ⟨⟨rfl, by rw [h1, nI_l hn], z, rfl⟩, _, rfl⟩
  · refine ⟨_, SMet_f0 B (c_sec l (d + 6) k z), ?_⟩
    rintro _ _ ⟨_, ⟨rfl, rfl⟩, rfl⟩
    rw [S_part, cE_f c, cE_t c2]
    exact ⟨⟨rfl, by rw [h2, nI_l ha], z, rfl⟩, _, rfl⟩
  · refine ⟨_, SMet_f0 B (c_den l (d + 6) k z), ?_⟩
    rintro _ _ ⟨_, ⟨rfl, rfl⟩, rfl⟩
    refine br_l (fun c3 => ?_) (fun c3 => ?_)
    · rw [h4, dv_zero ho hu] at c3
      exact s_exit (Or.inl ⟨rfl, eAR, at_part_40, Or.inr (Or.inl ⟨by rw [S_part, cE_f c, cE_f c2, cE_t c3], rfl⟩), z, rfl⟩)
    · rw [h4, dv_zero ho hu] at c3
      rw [S_part, cE_f c, cE_f c2, cE_f c3]
      refine ⟨fun c4 => ?_, fun c4 => ?_⟩
      · refine ⟨_, SMet_f0 B (c_num l (d + 6) k z), ?_⟩
        rintro _ _ ⟨_, ⟨rfl, rfl⟩, rfl⟩
        rw [cE_t c4]
        exact ⟨⟨rfl, by rw [h3], z, rfl⟩, _, rfl⟩
      · refine ⟨_, SMet_f0 B (c_den l (d + 6) k z), ?_⟩
        rintro _ _ ⟨_, ⟨rfl, rfl⟩, rfl⟩
        rw [cE_f c4]
        exact ⟨⟨rfl, by rw [h4], z, rfl⟩, _, rfl⟩
theorem x_agree (l : Launch) (hl0 : l.stackTraces = false) (d : Nat) (k : cK) (z : cZ) (B : aw_H) (p q x : Int32) (w : WF k) : XMet l m_X3_agree (d + 8) [.ref 0, .int p, .int q, .int x] (xC k z ++ B) (uL k B (S_agree k p q x)) (uE k B (S_agree k p q x).1) := by
  refine XMet_of 0 hl0 (by omega) rfl (by decide) (Nat.le_of_ble_eq_true rfl) (t9_X3_agree_0 _ _ _ ?_)
  have hn := w.n
  have bad : ∀ pc, (pc = 19 ∨ pc = 38) → ¬ (ix p 8 ∧ ix q 8 ∧ ¬ p = q ∧ ix x 4) → SW l m_X3_agree none (ax_Xs l m_X3_agree (d + 8) (uL k B (S_agree k p q x)) (uE k B (S_agree k p q x).1)) (d + 8) 0 0 (uL k B (S_agree k p q x)) pc (aw_en [.ref 0, .int p, .int q, .int x] ++ List.replicate 0 none) [] (xC k z ++ B) := by
    intro pc hpc h
    refine s_exit (Or.inl ⟨rfl, eIA, ?_, Or.inl ⟨by rw [S_agree, cE_f h], rfl⟩, z, rfl⟩)
    rcases hpc with rfl | rfl
    · exact at_agree_19
    · exact at_agree_38
  refine ⟨_, c_isPerson l (d + 7) _ p, ?_⟩
  rintro _ _ ⟨rfl, rfl⟩
  refine br_b (fun c => bad 19 (Or.inl rfl) (fun h => c h.1)) (fun c => ?_)
  refine ⟨_, c_isPerson l (d + 7) _ q, ?_⟩
  rintro _ _ ⟨rfl, rfl⟩
  refine br_b (fun c2 => bad 19 (Or.inl rfl) (fun h => c2 h.2.1)) (fun c2 => ?_)
  refine ⟨fun c3 => bad 19 (Or.inl rfl) (fun h => h.2.2.1 c3), fun c3 => ?_⟩
  refine ⟨fun c4 => bad 38 (Or.inr rfl) (fun h => ix_neg c4 (by decide) h.2.2.2), fun c4 => ⟨fun c5 => ?_, fun c5 => bad 38 (Or.inr rfl) (fun h => ?_)⟩⟩
  · have hx : ix x 4 := ix_of c4 (fun e => absurd (Int32.lt_of_lt_of_le c5 e) Int32.lt_irrefl) (by decide)
    rw [S_agree, cE_t ⟨c, c2, c3, hx⟩]
    obtain ⟨pn, hp, rfl⟩ := c
    obtain ⟨qn, hq, rfl⟩ := c2
    rw [show tN (nI pn) = pn from nI_clamp (by omega), show tN (nI qn) = qn from nI_clamp (by omega)]
    refine ⟨_, SMet_f0 B (c_measureTwo l (d + 5) k z hp hq w), ?_⟩
    rintro _ _ ⟨_, ⟨rfl, z2, rfl, g1, g2, g3, g4⟩, rfl⟩
    have hN := N2_le k pn qn hn
    have hA := A2_le k pn qn hn
    have hNN : N2 k pn qn * N2 k pn qn ≤ 40 * 40 := Nat.mul_le_mul hN hN
    have hNA : N2 k pn qn * A2 k pn qn ≤ 40 * 40 := Nat.mul_le_mul hN hA
    have hS := S2_le k pn qn
    rw [un2_eq k pn qn hn] at g3 g4 ⊢
    exact s_exit (Or.inr ⟨d + 7, x, _, rfl, rfl, rfl, dX3_agree_63, dX3_agree_66, rfl, x_part l hl0 d k z2 B x (N2 k pn qn) (A2 k pn qn) _ (ov2 k pn qn) (by omega) (by omega) (by rw [ov2_eq k pn qn hn]; exact ab_sub (by omega) (by omega)) (by omega) g1 g2 g3 g4⟩)
  · obtain ⟨j, hj, rfl⟩ := h.2.2.2
    exact c5 (nI_lt hj (by decide))
theorem x_all (l : Launch) (hl0 : l.stackTraces = false) (d : Nat) (k : cK) (z : cZ) (B : aw_H) (x : Int32) (w : WF k) : XMet l m_X3_all (d + 8) [.ref 0, .int x] (xC k z ++ B) (uL k B (S_all k x)) (uE k B (S_all k x).1) := by
  refine XMet_of 0 hl0 (by omega) rfl (by decide) (Nat.le_of_ble_eq_true rfl) (t9_X3_all_0 _ _ _ ?_)
  have hn := w.n
  have bad : ¬ ix x 4 → SW l m_X3_all none (ax_Xs l m_X3_all (d + 8) (uL k B (S_all k x)) (uE k B (S_all k x).1)) (d + 8) 0 0 (uL k B (S_all k x)) 9 (aw_en [.ref 0, .int x] ++ List.replicate 0 none) [] (xC k z ++ B) := by
    intro h
    exact s_exit (Or.inl ⟨rfl, eIA, at_all_9, Or.inl ⟨by rw [S_all, cE_f h], rfl⟩, z, rfl⟩)
  refine ⟨fun c4 => bad (fun h => ix_neg c4 (by decide) h), fun c4 => ⟨fun c5 => ?_, fun c5 => bad (fun h => ?_)⟩⟩
  · have hx : ix x 4 := ix_of c4 (fun e => absurd (Int32.lt_of_lt_of_le c5 e) Int32.lt_irrefl) (by decide)
    rw [S_all, cE_t hx]
    refine ⟨_, SMet_f0 B (c_measureAll l (d + 5) k z w), ?_⟩
    rintro _ _ ⟨_, ⟨rfl, z2, rfl, g1, g2, g3, g4⟩, rfl⟩
    have hM := MA_le k hn
    have hC : CA k ≤ 320 := sc_le k _ hn
    have hH : HA k ≤ 2150400 := sh_le k _ hn
    have hS := SA_le k w
    have hCC : CA k * CA k ≤ 320 * 320 := Nat.mul_le_mul hC hC
    have hHC : HA k * (CA k * CA k) ≤ 2150400 * (320 * 320) := Nat.mul_le_mul hH hCC
    have hSM : SA k * (840 * MA k) ≤ (320 * 320) * (840 * 40) := Nat.mul_le_mul (by omega) (by omega)
    have hU : 840 * MA k * (CA k * CA k - SA k) ≤ (840 * 40) * (320 * 320) := Nat.mul_le_mul (by omega) (by omega)
    rw [unA_eq k w] at g3 g4 ⊢
    exact s_exit (Or.inr ⟨d + 7, x, _, rfl, rfl, rfl, dX3_all_32, dX3_all_35, rfl, x_part l hl0 d k z2 B x (MA k) (CA k) _ (ovA k) (by omega) (by omega) (by rw [ovA_eq k w]; exact ab_sub (by omega) (by omega)) (by omega) g1 g2 g3 g4⟩)
  · obtain ⟨j, hj, rfl⟩ := h
    exact c5 (nI_lt hj (by decide))
