/-! the reference: what rules say, votes -/
theorem c4_saysOf (l : Launch) (d : Nat) (k : cK) (a : mA) (y : mZ) {q r : Nat} (hq : q < k_rn k) (hr : r < k_n k) (w : WF k) (R : Rl k a) : SMet l m_X4_saysOf (d + 1) [.ref 0, .int (nI q), .int (nI r)] (yC (nK k) a y) (qI k a y (wI k q r)) := by
  have hn := w.n
  have h6 : q < 6 := Nat.lt_of_lt_of_le hq w.rn
  obtain ⟨⟨K, hK, eK⟩, ⟨i, hi, ei⟩, ⟨j, hj, ej⟩⟩ := w.ru hq
  obtain ⟨r1, r2, r3, r4, r5⟩ := R.ru hq
  have ci : (k_fi k q).toNatClampNeg = i := by rw [ei]; exact nI_clamp (by omega)
  have cj : (k_se k q).toNatClampNeg = j := by rw [ej]; exact nI_clamp (by omega)
  refine SMet_of 4 (by decide) (Nat.le_of_ble_eq_true rfl) (t_X4_saysOf_0 _ _ _ ?_)
  unfold wI
  rw [ci, cj]
  have fin : ∀ (Q : Option Value → aw_H → Prop) (v : Int32) (l1 l2 l3 l4 l5 j9 : Option Value) (C : aw_H), Q (some (.int (rest5 v))) C → k_X4_saysOf_139 l (fun _ _ _ _ => False) (d + 1) Q [l1, l2, l3, l4, l5, some (.int v), j9] [] C := by
    intro Q v l1 l2 l3 l4 l5 j9 C h
    refine ⟨by decide, ⟨fun c => ?_, fun c => ?_⟩⟩
    · rw [rest5, if_neg (Int32.not_lt.mpr c)] at h
      exact h
    · rw [rest5, if_pos (Int32.not_le.mp c)] at h
      exact h
  refine ⟨q, rfl, h6, ?_⟩
  rw [r2, ei]
  refine ⟨4 * r + i, ix4 r i, by omega, ?_⟩
  rw [R.fe hr hi]
  refine ⟨q, rfl, h6, ?_⟩
  rw [r3, ej]
  refine ⟨4 * r + j, ix4 r j, by omega, ?_⟩
  rw [R.fe hr hj]
  refine ⟨q, rfl, h6, ?_⟩
  rw [r1, eK]
  rcases (show K = 0 ∨ K = 1 ∨ K = 2 ∨ K = 3 by omega) with rfl | rfl | rfl | rfl
  · rw [cI_t (show nI 0 = 0 from rfl)]
    refine br_f (by decide) ⟨fun c => ⟨by rw [cI_t c], rfl⟩, fun c => ⟨q, rfl, h6, ?_⟩⟩
    rw [r1, eK]
    exact br_t rfl ⟨c, fin _ _ _ _ _ _ _ _ _ ⟨by rw [cI_f c], rfl⟩⟩
  · rw [cI_f (show ¬ nI 1 = 0 by decide), cI_t (show nI 1 = 1 from rfl)]
    refine br_f (by decide) ⟨fun c => ⟨by rw [cI_t c], rfl⟩, fun c => ⟨q, rfl, h6, ?_⟩⟩
    rw [r1, eK]
    exact br_f (by decide) ⟨c, fin _ _ _ _ _ _ _ _ _ ⟨by rw [cI_f c], rfl⟩⟩
  · rw [cI_f (show ¬ nI 2 = 0 by decide), cI_f (show ¬ nI 2 = 1 by decide), cI_t (show nI 2 = 2 from rfl)]
    refine br_t (by decide) ⟨q, rfl, h6, ?_⟩
    rw [r1, eK]
    refine br_t rfl ⟨q, rfl, h6, ?_⟩
    rw [r4]
    refine ⟨_, c4_inX l d _ _ 7 (n := 8) (by decide) (by decide), ?_⟩
    rintro _ _ ⟨rfl, rfl⟩
    refine br_b (fun c => ⟨by rw [cI_f c], rfl⟩) (fun c => ?_)
    rw [cI_t c]
    obtain ⟨g, hg, eg⟩ := c
    refine ⟨g, eg, hg, ?_⟩
    rw [R.pl hg]
    refine fin _ _ _ _ _ _ _ _ _ ⟨?_, rfl⟩
    have eg2 : k_ft k i r + k_co k q = nI g := eg
    rw [eg2, nI_clamp (by omega)]
  · rw [cI_f (show ¬ nI 3 = 0 by decide), cI_f (show ¬ nI 3 = 1 by decide), cI_f (show ¬ nI 3 = 2 by decide)]
    refine br_t (by decide) ⟨q, rfl, h6, ?_⟩
    rw [r1, eK]
    refine br_f (by decide) ⟨q, rfl, h6, ?_⟩
    rw [r4]
    exact ⟨fun c => fin _ _ _ _ _ _ _ _ _ ⟨by rw [cI_t c]; rfl, rfl⟩, fun c => fin _ _ _ _ _ _ _ _ _ ⟨by rw [cI_f c]; rfl, rfl⟩⟩
theorem c4_votesOf (l : Launch) (d : Nat) (k : cK) (a : mA) (y : mZ) {r b : Nat} (hr : r < k_n k) (w : WF k) (R : Rl k a) : SMet l m_X4_votesOf (d + 2) [.ref 0, .int (nI r), .int (nI b)] (yC (nK k) a y) (qI k a y (vtI k r b)) := by
  have hn := w.n
  have hrn := w.rn
  refine SMet_of 2 (by decide) (Nat.le_of_ble_eq_true rfl) (t_X4_votesOf_0 _ _ _ ?_)
  have rules : ∀ q, q ≤ k_rn k → SW l m_X4_votesOf none (fun _ _ _ _ => False) (d + 2) 0 0 (qI k a y (vtI k r b)) 62 [some (.ref 0), some (.int (nI r)), some (.int (nI b)), some (.int (vR k r b q)), some (.int (nI q))] [] (yC (nK k) a y) := by
    refine aw_up (k_rn k) _ ?_ ?_
    · exact t_X4_votesOf_62 _ _ _ (br_t (nI_le (Nat.le_refl _) (by omega)) ⟨rfl, rfl⟩)
    · intro q hq ih
      simp only [nI_succ, vR] at ih
      have h6 : q < 6 := by omega
      refine t_X4_votesOf_62 _ _ _ (br_f (nI_ge (b := k_rn k) hq (by omega)) ⟨q, rfl, h6, ?_⟩)
      rw [(R.ru hq).2.2.2.2]
      refine ⟨fun c => ?_, fun c => ⟨_, c4_saysOf l d k a y hq hr w R, ?_⟩⟩
      · rw [cI_f (fun h => h.1 c), ← Int32.add_zero (vR k r b q)] at ih
        exact ih
      · rintro _ _ ⟨rfl, rfl⟩
        refine ⟨fun c2 => ?_, fun c2 => ?_⟩
        · rw [cI_t ⟨c, c2⟩] at ih
          exact ih
        · rw [cI_f (fun h => c2 h.2), ← Int32.add_zero (vR k r b q)] at ih
          exact ih
  refine aw_up 8 (fun p => SW l m_X4_votesOf none _ (d + 2) 0 0 _ 5 [some (.ref 0), some (.int (nI r)), some (.int (nI b)), some (.int (vP k r b p)), some (.int (nI p))] [] (yC (nK k) a y)) ?_ ?_ 0 (Nat.zero_le _)
  · exact t_X4_votesOf_5 _ _ _ (br_t (nI_le (Nat.le_refl _) (by decide)) (rules 0 (Nat.zero_le _)))
  · intro p hp ih
    simp only [nI_succ, vP] at ih
    refine t_X4_votesOf_5 _ _ _ (br_f (nI_ge (b := 8) hp (by decide)) ⟨8 * r + p, ix8 r p, by omega, ?_⟩)
    rw [R.sa (by omega) hp]
    refine ⟨fun c => ⟨_, c4_isBarred l d k a y hp w R, ?_⟩, fun c => ?_⟩
    · rintro _ _ ⟨rfl, rfl⟩
      refine br_b (fun c2 => ⟨p, rfl, hp, ?_⟩) (fun c2 => ?_)
      · rw [R.tr hp]
        rw [cI_t ⟨add1.mp c, c2⟩] at ih
        exact ih
      · rw [cI_f (fun h => h.2 c2), ← Int32.add_zero (vP k r b p)] at ih
        exact ih
    · rw [cI_f (fun h => c (add1.mpr h.1)), ← Int32.add_zero (vP k r b p)] at ih
      exact ih
/-- the most, the second most, the best, among the first -/
noncomputable def wgF (f : vF) : Nat → Int32 × Int32 × Int32
  | 0 => (-1, -1, -1)
  | b + 1 => cE (f b ≤ (wgF f b).1) (cE (f b ≤ (wgF f b).2.1) (wgF f b) ((wgF f b).1, f b, (wgF f b).2.2)) (f b, (wgF f b).1, nI b)
abbrev y_sw (y : mZ) (m : Int32 × Int32 × Int32) : mZ := (y_th y, y_nt y, m.1, m.2.1, m.2.2, y_de y)
theorem c4_weigh (l : Launch) (d : Nat) (k : cK) (a : mA) (y : mZ) {r : Nat} (hr : r < k_n k) (w : WF k) (R : Rl k a) : SMet l m_X4_weigh (d + 3) [.ref 0, .int (nI r)] (yC (nK k) a y) (fun v C => v = none ∧ C = yC (nK k) a (y_sw y (wgF (vtI k r) 5))) := by
  refine SMet_of 2 (by decide) (Nat.le_of_ble_eq_true rfl) (t_X4_weigh_0 _ _ _ ?_)
  refine aw_up 5 (fun b => ∀ j, SW l m_X4_weigh none _ (d + 3) 0 0 _ 17 [some (.ref 0), some (.int (nI r)), some (.int (nI b)), j] [] (yC (nK k) a (y_sw y (wgF (vtI k r) b)))) ?_ ?_ 0 (Nat.zero_le _) none
  · intro j
    exact t_X4_weigh_17 _ _ _ (br_t (nI_le (Nat.le_refl _) (by decide)) ⟨rfl, rfl⟩)
  · intro b hb ih j
    simp only [nI_succ, wgF] at ih
    refine t_X4_weigh_17 _ _ _ (br_f (nI_ge (b := 5) hb (by decide)) ⟨_, c4_votesOf l d k a _ hr w R, ?_⟩)
    rintro _ _ ⟨rfl, rfl⟩
    refine ⟨fun c => ⟨fun c2 => ?_, fun c2 => ?_⟩, fun c => ?_⟩
    · rw [cE_t c, cE_t c2] at ih
      exact ih _
    · rw [cE_t c, cE_f c2] at ih
      exact ih _
    · rw [cE_f c] at ih
      exact ih _
/-! the two ways to weigh -/
theorem vP_le (k : cK) (r b : Nat) (w : WF k) : ∀ p, p ≤ 8 → ∃ t : Nat, t ≤ 10 * p ∧ vP k r b p = nI t
  | 0, _ => ⟨0, by decide, rfl⟩
  | p + 1, hp => by
    obtain ⟨t, h1, h2⟩ := vP_le k r b w p (by omega)
    obtain ⟨u, h3, h4⟩ := w.tr (q := p) (by omega)
    unfold vP
    by_cases c : k_gv k p r = nI b ∧ ¬ brd k p
    · exact ⟨t + u, by omega, by rw [cI_t c, h2, h4, nI_add]⟩
    · exact ⟨t, by omega, by rw [cI_f c, h2]⟩
theorem vR_le (k : cK) (r b : Nat) (w : WF k) : ∀ q, ∃ t : Nat, t ≤ 80 + q ∧ vR k r b q = nI t
  | 0 => vP_le k r b w 8 (Nat.le_refl _)
  | q + 1 => by
    obtain ⟨t, h1, h2⟩ := vR_le k r b w q
    unfold vR
    by_cases c : k_on k q ≠ 0 ∧ wI k q r = nI b
    · exact ⟨t + 1, by omega, by rw [cI_t c, h2, nI_1]⟩
    · exact ⟨t, by omega, by rw [cI_f c, h2]⟩
theorem vt_nn (k : cK) (r b : Nat) (w : WF k) : 0 ≤ (vtI k r b).toInt := by
  obtain ⟨t, h1, h2⟩ := vR_le k r b w (k_rn k)
  have := w.rn
  unfold vtI
  rw [h2, nI_toInt (by omega)]
  omega
def J1 (f : vF) (b : Nat) : Prop := ((wgF f b).2.1.toInt ≤ (wgF f b).1.toInt) ∧ -1 ≤ (wgF f b).2.1.toInt ∧
  ((b = 0 ∧ (wgF f b).1 = -1) ∨ (0 < b ∧ 0 ≤ (wgF f b).1.toInt)) ∧ ((b ≤ 1 ∧ (wgF f b).2.1 = -1) ∨ (1 < b ∧ 0 ≤ (wgF f b).2.1.toInt)) ∧
  ((wnF f b).2.toInt = max 0 (wgF f b).1.toInt) ∧ ((ldF f b).1.toInt = max 0 (wgF f b).1.toInt) ∧ ((ldF f b).2.toInt = max 0 (wgF f b).2.1.toInt) ∧
  ((0 < (wgF f b).1.toInt ∧ (wgF f b).2.1.toInt < (wgF f b).1.toInt ∧ (wnF f b).1 = (wgF f b).2.2 ∧ (wnF f b).1 ≠ -1) ∨ (¬ (0 < (wgF f b).1.toInt ∧ (wgF f b).2.1.toInt < (wgF f b).1.toInt) ∧ (wnF f b).1 = -1))
theorem nI_nm {b : Nat} (h : b < 1000) : nI b ≠ -1 := fun e => by
  have := nI_pos (n := b) (by omega)
  rw [e] at this
  exact this (by decide)
theorem i_le {x y : Int32} : x ≤ y ↔ x.toInt ≤ y.toInt := Int32.le_iff_toInt_le
theorem i_eq {x y : Int32} : x = y ↔ x.toInt = y.toInt := Int32.toInt_inj.symm
theorem J1_all (f : vF) (h : ∀ b, 0 ≤ (f b).toInt) : ∀ b, b < 1000 → J1 f b
  | 0, _ => by
    unfold J1
    simp only [wgF, wnF, ldF]
    decide
  | b + 1, hb => by
    obtain ⟨h1, h2, h3, h4, h5, h6, h7, h8⟩ := J1_all f h b (by omega)
    have hf := h b
    have nb := nI_nm (b := b) (by omega)
    have m1 : (-1 : Int32).toInt = -1 := rfl
    unfold J1
    simp only [wgF, wnF, ldF]
    by_cases c1 : f b ≤ (wgF f b).1
    · have c1' := i_le.mp c1
      have hb0 : 0 < b := by
        rcases h3 with ⟨q1, q2⟩ | ⟨q1, q2⟩
        · rw [q2, m1] at c1'; omega
        · exact q1
      have hM : 0 ≤ (wgF f b).1.toInt := by omega
      have hm : (wnF f b).2 = (wgF f b).1 := i_eq.mpr (by omega)
      have hm2 : (ldF f b).1 = (wgF f b).1 := i_eq.mpr (by omega)
      rw [hm, hm2]
      repeat rw [cI_t c1]
      by_cases c2 : f b ≤ (wgF f b).2.1
      · have c2' := i_le.mp c2
        rw [cE_t c1, cE_t c2]
        have hb1 : 1 < b := by
          rcases h4 with ⟨q1, q2⟩ | ⟨q1, q2⟩
          · rw [q2, m1] at c2'; omega
          · exact q1
        have hs : (ldF f b).2 = (wgF f b).2.1 := i_eq.mpr (by omega)
        rw [hs, cI_t c2]
        refine ⟨h1, h2, Or.inr ⟨by omega, hM⟩, Or.inr ⟨by omega, by omega⟩, by omega, by omega, by omega, ?_⟩
        by_cases c3 : f b = (wgF f b).1
        · have c3' := i_eq.mp c3
          rw [cI_t c3]
          exact Or.inr ⟨by omega, rfl⟩
        · rw [cI_f c3]
          exact h8
      · have c2' : ¬ (f b).toInt ≤ (wgF f b).2.1.toInt := fun q => c2 (i_le.mpr q)
        rw [cE_t c1, cE_f c2]
        dsimp only
        have e : (cI (f b ≤ (ldF f b).2) (ldF f b).2 (f b)).toInt = max 0 (f b).toInt := by
          by_cases c4 : f b ≤ (ldF f b).2
          · rw [cI_t c4]
            have c4' := i_le.mp c4
            omega
          · rw [cI_f c4]
            omega
        rw [e]
        refine ⟨c1', by omega, Or.inr ⟨by omega, hM⟩, Or.inr ⟨by omega, by omega⟩, by omega, by omega, by omega, ?_⟩
        by_cases c3 : f b = (wgF f b).1
        · have c3' := i_eq.mp c3
          rw [cI_t c3]
          exact Or.inr ⟨by omega, rfl⟩
        · have c3' : ¬ (f b).toInt = (wgF f b).1.toInt := fun q => c3 (i_eq.mpr q)
          rw [cI_f c3]
          rcases h8 with ⟨g1, g2, g3, g4⟩ | ⟨g1, g2⟩
          · exact Or.inl ⟨g1, by omega, g3, g4⟩
          · exact Or.inr ⟨by omega, g2⟩
    · have c1' : ¬ (f b).toInt ≤ (wgF f b).1.toInt := fun q => c1 (i_le.mpr q)
      rw [cE_f c1]
      dsimp only
      by_cases c5 : f b ≤ (wnF f b).2
      · have c5' := i_le.mp c5
        have hb0 : b = 0 := by
          rcases h3 with ⟨q1, q2⟩ | ⟨q1, q2⟩
          · exact q1
          · omega
        subst hb0
        have z1 : (wgF f 0).1.toInt = -1 := rfl
        have z2 : (wnF f 0).2.toInt = 0 := rfl
        have z3 : (ldF f 0).1 = 0 := rfl
        have z4 : (ldF f 0).2 = 0 := rfl
        have hz : (f 0).toInt = 0 := by omega
        have hz2 : f 0 = 0 := i_eq.mpr hz
        have z5 : (wnF f 0).2 = 0 := rfl
        have z6 : (wgF f 0).1 = -1 := rfl
        rw [z5, z3, z4, z6, hz2]
        repeat rw [cI_t (show (0 : Int32) ≤ 0 by decide)]
        repeat rw [cI_t (show (0 : Int32) = 0 from rfl)]
        exact ⟨by decide, by decide, Or.inr ⟨by decide, by decide⟩, Or.inl ⟨by decide, rfl⟩, by decide, by decide, by decide, Or.inr ⟨by decide, rfl⟩⟩
      · have c5' : ¬ (f b).toInt ≤ (wnF f b).2.toInt := fun q => c5 (i_le.mpr q)
        have c6 : ¬ f b ≤ (ldF f b).1 := fun q => by
          have := i_le.mp q
          omega
        rw [cI_f c5, cI_f c5, cI_f c6, cI_f c6]
        refine ⟨by omega, by omega, Or.inr ⟨by omega, by omega⟩, ?_, by omega, by omega, by omega, Or.inl ⟨by omega, by omega, rfl, nb⟩⟩
        rcases h3 with ⟨q1, q2⟩ | ⟨q1, q2⟩
        · exact Or.inl ⟨by omega, q2⟩
        · exact Or.inr ⟨by omega, q2⟩
theorem dec_w {f : vF} (h : ∀ b, 0 ≤ (f b).toInt) : (0 < (wgF f 5).1 ∧ (wgF f 5).2.1 < (wgF f 5).1 ∧ (wnF f 5).1 = (wgF f 5).2.2 ∧ (wnF f 5).1 ≠ -1) ∨ (¬ (0 < (wgF f 5).1 ∧ (wgF f 5).2.1 < (wgF f 5).1) ∧ (wnF f 5).1 = -1) := by
  have q := (J1_all f h 5 (by decide)).2.2.2.2.2.2.2
  rw [Int32.lt_iff_toInt_lt, Int32.lt_iff_toInt_lt, Int32.toInt_zero]
  exact q
theorem ld_w {f : vF} (h : ∀ b, 0 ≤ (f b).toInt) : (wgF f 5).1 - (wgF f 5).2.1 = (ldF f 5).1 - (ldF f 5).2 := by
  obtain ⟨-, -, h3, h4, -, h6, h7, -⟩ := J1_all f h 5 (by decide)
  have e1 : (ldF f 5).1 = (wgF f 5).1 := i_eq.mpr (by omega)
  have e2 : (ldF f 5).2 = (wgF f 5).2.1 := i_eq.mpr (by omega)
  rw [e1, e2]
abbrev qZ (k : cK) (a : mA) (y : mZ) (x : Int32) : Option Value → aw_H → Prop := fun v C => v = some (.int x) ∧ ∃ m, C = yC (nK k) a (y_sw y m)
theorem c4_decidedOf (l : Launch) (d : Nat) (k : cK) (a : mA) (y : mZ) {r : Nat} (hr : r < k_n k) (w : WF k) (R : Rl k a) : SMet l m_X4_decidedOf (d + 4) [.ref 0, .int (nI r)] (yC (nK k) a y) (qZ k a y (decI k r)) := by
  have hn := w.n
  refine SMet_of 1 (by decide) (Nat.le_of_ble_eq_true rfl) (t_X4_decidedOf_0 _ _ _ ?_)
  refine ⟨r, rfl, by omega, ?_⟩
  rw [R.go hr]
  refine ⟨fun c => ⟨_, c4_weigh l d k a y hr w R, ?_⟩, fun c => ⟨r, rfl, by omega, ?_⟩⟩
  · rintro _ _ ⟨rfl, rfl⟩
    have hd := dec_w (f := vtI k r) (fun b => vt_nn k r b w)
    have exp : (wnF (vtI k r) 5).1 = -1 → ∀ j, SW l m_X4_decidedOf none (fun _ _ _ _ => False) (d + 4) 0 0 (qZ k a y (decI k r)) 47 [some (.ref 0), some (.int (nI r)), some (.int (nI 0))] j (yC (nK k) a (y_sw y (wgF (vtI k r) 5))) ∨ j ≠ [] := by
      intro e j
      by_cases hj : j = []
      · subst hj
        refine Or.inl ?_
        have ed : decI k r = exI k r := by rw [decI, cI_t c, cI_t e]
        rw [ed]
        have key : ∀ m p, p + m = 8 → exI k r = fst1 (exC k r) (fun p => k_gv k p r) m p → SW l m_X4_decidedOf none (fun _ _ _ _ => False) (d + 4) 0 0 (qZ k a y (exI k r)) 47 [some (.ref 0), some (.int (nI r)), some (.int (nI p))] [] (yC (nK k) a (y_sw y (wgF (vtI k r) 5))) := by
          intro m
          induction m with
          | zero =>
            intro p hp e
            have : p = 8 := by omega
            subst this
            exact t_X4_decidedOf_47 _ _ _ (br_t (nI_le (Nat.le_refl _) (by decide)) ⟨by rw [e]; rfl, _, rfl⟩)
          | succ m ih =>
            intro p hp e
            have hp8 : p < 8 := by omega
            have ih := ih (p + 1) (by omega)
            simp only [nI_succ] at ih
            have e : exI k r = cI (exC k r p) (k_gv k p r) (fst1 (exC k r) (fun p => k_gv k p r) m (p + 1)) := e
            refine t_X4_decidedOf_47 _ _ _ (br_f (nI_ge (b := 8) hp8 (by decide)) ⟨p, rfl, hp8, ?_⟩)
            rw [R.ex hp8]
            refine ⟨fun c => ih ?_, fun c => ⟨_, c4_isBarred l (d + 2) k a _ hp8 w R, ?_⟩⟩
            · rw [e, cI_f (fun h => h.1 c)]
            · rintro _ _ ⟨rfl, rfl⟩
              refine br_b (fun c3 => ⟨8 * r + p, ix8 r p, by omega, ?_⟩) (fun c3 => ih ?_)
              · rw [R.sa (by omega) hp8]
                refine ⟨fun c4 => ih ?_, fun c4 => ⟨8 * r + p, ix8 r p, by omega, ?_⟩⟩
                · rw [e, cI_f (fun h => h.2.1 ((sa_le (w.gv hp8 (by omega))).mp c4))]
                · rw [R.sa (by omega) hp8]
                  have c2 : k_gv k p r ≠ -1 := fun q => c4 ((sa_le (w.gv hp8 (by omega))).mpr q)
                  refine ⟨?_, _, rfl⟩
                  rw [e, cI_t ⟨c, c2, c3⟩]
                  exact congrArg (fun x => some (Value.int x)) (sub1 _)
              · rw [e, cI_f (fun h => h.2.2 c3)]
        exact key 8 0 rfl rfl
      · exact Or.inr hj
    have exp2 : (wnF (vtI k r) 5).1 = -1 → SW l m_X4_decidedOf none (fun _ _ _ _ => False) (d + 4) 0 0 (qZ k a y (decI k r)) 47 [some (.ref 0), some (.int (nI r)), some (.int (nI 0))] [] (yC (nK k) a (y_sw y (wgF (vtI k r) 5))) := fun e => (exp e []).elim id (fun h => absurd rfl h)
    refine ⟨fun c1 => ?_, fun c1 => ⟨fun c2 => ?_, fun c2 => ?_⟩⟩
    · rcases hd with ⟨g1, g2, g3, g4⟩ | ⟨g1, g2⟩
      · exact absurd g1 (Int32.not_lt.mpr c1)
      · exact exp2 g2
    · rcases hd with ⟨g1, g2, g3, g4⟩ | ⟨g1, g2⟩
      · exact absurd g2 (Int32.not_lt.mpr c2)
      · exact exp2 g2
    · rcases hd with ⟨g1, g2, g3, g4⟩ | ⟨g1, g2⟩
      · refine ⟨?_, _, rfl⟩
        rw [decI, cI_t c, cI_f g4, g3]
      · exact absurd ⟨Int32.not_le.mp c1, Int32.not_le.mp c2⟩ g1
  · rw [R.go hr]
    exact ⟨by rw [decI, cI_f c], (y_mo y, y_se y, y_be y), rfl⟩
