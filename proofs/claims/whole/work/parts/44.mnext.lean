/-! the reference: next, about -/
theorem sa_0 {x : Int32} (h : x = -1 ∨ ix x 5) : x + 1 = 0 ↔ x = -1 := by
  rw [← sa_le h]
  rcases h with rfl | ⟨j, hj, rfl⟩
  · decide
  · rw [nI_1]
    constructor
    · intro h
      exact absurd h (nI_ne0 (by omega) (by omega))
    · intro h
      exact absurd h (nI_nle (by omega) (by omega))
theorem c4_next (l : Launch) (d : Nat) (k : cK) (a : mA) (y : mZ) (p : Int32) (w : WF k) (R : Rl k a) : SMet l m_X4_next (d + 4) [.ref 0, .int p] (yC (nK k) a y) (qS (S_next k p)) := by
  have hn := w.n
  refine SMet_of 6 (by decide) (Nat.le_of_ble_eq_true rfl) (t_X4_next_0 _ _ _ ?_)
  refine ⟨_, c4_isPerson l (d + 2) _ _, ?_⟩
  rintro _ _ ⟨rfl, rfl⟩
  refine br_b (fun c => ?_) (fun c => ?_)
  · rw [S_next, cE_f c]
    exact ⟨rfl, a, y, rfl, R⟩
  rw [S_next, cE_t c]
  obtain ⟨P, hP, rfl⟩ := c
  rw [tN_n (show P < 1000 by omega)]
  by_cases hb : brd k P
  · rw [cE_t hb]
    show SW l m_X4_next none (fun _ _ _ _ => False) (d + 4) 0 0 (qS (-1, k)) 20 [some (.ref 0), some (.int (nI P)), some (.int (-1)), some (.int 0), some (.int 0), some (.int (nI 0)), none, none] [] (yC (nK k) a y)
    refine t_X4_next_20 _ _ _ ⟨fun c => ⟨rfl, a, y, rfl, R⟩, fun c => ⟨_, c4_isBarred l (d + 2) k a y hP w R, ?_⟩⟩
    rintro _ _ ⟨rfl, rfl⟩
    exact br_b (fun c2 => absurd hb c2) (fun c2 => ⟨rfl, a, y, rfl, R⟩)
  · rw [cE_f hb]
    have key : ∀ r, r ≤ k_n k → ∀ (y : mZ) (j1 j2 : Option Value), SW l m_X4_next none (fun _ _ _ _ => False) (d + 4) 0 0 (qS ((nxF k P (k_n k)).1, k)) 20 [some (.ref 0), some (.int (nI P)), some (.int (nxF k P r).1), some (.int (nxF k P r).2.1), some (.int (nxF k P r).2.2), some (.int (nI r)), j1, j2] [] (yC (nK k) a y) := by
      refine aw_up (k_n k) _ ?_ ?_
      · intro y j1 j2
        exact t_X4_next_20 _ _ _ (br_t (nI_le (Nat.le_refl _) (by omega)) ⟨rfl, a, y, rfl, R⟩)
      · intro r hr ih y j1 j2
        simp only [nI_succ, nxF] at ih
        refine t_X4_next_20 _ _ _ (br_f (nI_ge (b := k_n k) hr (by omega)) ⟨_, c4_isBarred l (d + 2) k a y hP w R, ?_⟩)
        rintro _ _ ⟨rfl, rfl⟩
        refine br_b (fun _ => ⟨8 * r + P, ix8 r P, by omega, ?_⟩) (fun c => absurd c hb)
        rw [R.sa (by omega) hP]
        refine ⟨fun c1 => ⟨r, rfl, by omega, ?_⟩, fun c1 => ?_⟩
        · have c1' := (sa_0 (w.gv hP (show r < 40 by omega))).mp c1
          rw [R.go hr]
          refine ⟨fun c2 => ⟨_, c4_weigh l d k a y hr w R, ?_⟩, fun c2 => ?_⟩
          · rintro _ _ ⟨rfl, rfl⟩
            refine ⟨_, c4_labellings l (d + 3) k a _ (by omega) w R, ?_⟩
            rintro _ _ ⟨rfl, rfl⟩
            have e : (wgF (vtI k r) 5).1 - (wgF (vtI k r) 5).2.1 = ldI k r := ld_w (fun b => vt_nn k r b w)
            rw [cE_t ⟨c1', c2⟩] at ih
            rw [← e] at ih
            refine ⟨fun c3 => ?_, fun c3 => ⟨fun c4 => ?_, fun c4 => ⟨fun c5 => ⟨fun c6 => ?_, fun c6 => ?_⟩, fun c5 => ?_⟩⟩⟩
            · rw [cE_t (Or.inl c3)] at ih
              exact ih _ _ _
            · rw [cE_t (Or.inr (Or.inl c4))] at ih
              exact ih _ _ _
            · rw [cE_f (fun h => h.elim c3 (fun h => h.elim c4 (fun h => absurd h.2 (Int32.not_lt.mpr c6))))] at ih
              exact ih _ _ _
            · rw [cE_t (Or.inr (Or.inr ⟨c5, Int32.not_le.mp c6⟩))] at ih
              exact ih _ _ _
            · rw [cE_f (fun h => h.elim c3 (fun h => h.elim c4 (fun h => c5 h.1)))] at ih
              exact ih _ _ _
          · rw [cE_f (fun h => c2 h.2)] at ih
            exact ih _ _ _
        · rw [cE_f (fun h => c1 ((sa_0 (w.gv hP (show r < 40 by omega))).mpr h.1))] at ih
          exact ih _ _ _
    exact key 0 (Nat.zero_le _) y none none
/-! rules that say unlike labels -/
def unP (k : cK) (r q t : Nat) : Prop := onl k r q ∧ onl k r t ∧ wI k q r ≠ wI k t r
def unU (k : cK) (r q t : Nat) : Prop := (∃ q' t', q' < q ∧ t' < q' ∧ unP k r q' t') ∨ ∃ t', t' < t ∧ unP k r q t'
def unl (k : cK) (r : Nat) : Prop := unU k r (k_rn k) 0
theorem c4_isUnlike (l : Launch) (d : Nat) (k : cK) (a : mA) (y : mZ) {r : Nat} (hr : r < k_n k) (w : WF k) (R : Rl k a) : SMet l m_X4_isUnlike (d + 2) [.ref 0, .int (nI r)] (yC (nK k) a y) (qI k a y (bI (unl k r))) := by
  have hn := w.n
  have hrn := w.rn
  refine SMet_of 5 (by decide) (Nat.le_of_ble_eq_true rfl) (t_X4_isUnlike_0 _ _ _ ?_)
  have key : ∀ q, q ≤ k_rn k → ∀ (j4 j5 j6 : Option Value), SW l m_X4_isUnlike none (fun _ _ _ _ => False) (d + 2) 0 0 (qI k a y (bI (unl k r))) 4 [some (.ref 0), some (.int (nI r)), some (.int (bI (unU k r q 0))), some (.int (nI q)), j4, j5, j6] [] (yC (nK k) a y) := by
    refine aw_up (k_rn k) _ ?_ ?_
    · intro j4 j5 j6
      exact t_X4_isUnlike_4 _ _ _ (br_t (nI_le (Nat.le_refl _) (by omega)) ⟨bI_01, rfl, rfl⟩)
    · intro q hq ih j4 j5 j6
      simp only [nI_succ] at ih
      refine t_X4_isUnlike_4 _ _ _ (br_f (nI_ge (b := k_rn k) hq (by omega)) ?_)
      refine aw_up q (fun t => ∀ (j5 j6 : Option Value), SW l m_X4_isUnlike none (fun _ _ _ _ => False) (d + 2) 0 0 (qI k a y (bI (unl k r))) 15 [some (.ref 0), some (.int (nI r)), some (.int (bI (unU k r q t))), some (.int (nI q)), some (.int (nI t)), j5, j6] [] (yC (nK k) a y)) ?_ ?_ 0 (Nat.zero_le _) j5 j6
      · intro j5 j6
        refine t_X4_isUnlike_15 _ _ _ (br_t (nI_le (Nat.le_refl _) (by omega)) ?_)
        have e : unU k r q q ↔ unU k r (q + 1) 0 := by
          constructor
          · rintro (⟨q', t', h1, h2, h3⟩ | ⟨t', h1, h2⟩)
            · exact Or.inl ⟨q', t', by omega, h2, h3⟩
            · exact Or.inl ⟨q, t', by omega, h1, h2⟩
          · rintro (⟨q', t', h1, h2, h3⟩ | ⟨t', h1, h2⟩)
            · by_cases e : q' = q
              · subst e
                exact Or.inr ⟨t', h2, h3⟩
              · exact Or.inl ⟨q', t', by omega, h2, h3⟩
            · omega
        rw [bI_c e]
        exact ih _ _ _
      · intro t ht ih2 j5 j6
        simp only [nI_succ] at ih2
        have ht2 : t < k_rn k := by omega
        refine t_X4_isUnlike_15 _ _ _ (br_f (nI_ge ht (by omega)) ⟨_, c4_saysOf l d k a y hq hr w R, ?_⟩)
        rintro _ _ ⟨rfl, rfl⟩
        refine ⟨_, c4_saysOf l d k a y ht2 hr w R, ?_⟩
        rintro _ _ ⟨rfl, rfl⟩
        have no : ¬ unU k r q t → ¬ unP k r q t → ¬ unU k r q (t + 1) := by
          rintro h1 h2 (h | ⟨t', h3, h4⟩)
          · exact h1 (Or.inl h)
          · by_cases e : t' = t
            · rw [e] at h4; exact h2 h4
            · exact h1 (Or.inr ⟨t', by omega, h4⟩)
        refine br_b (fun c => ⟨q, rfl, by omega, ?_⟩) (fun c => ?_)
        · rw [(R.ru hq).2.2.2.2]
          have fl : ¬ unP k r q t → ∀ j5 j6, SW l m_X4_isUnlike none (fun _ _ _ _ => False) (d + 2) 0 0 (qI k a y (bI (unl k r))) 15 [some (.ref 0), some (.int (nI r)), some (.int 0), some (.int (nI q)), some (.int (nI t + 1)), j5, j6] [] (yC (nK k) a y) := fun h j5 j6 => by
            have h2 := ih2 j5 j6
            rw [bI_f (no c h)] at h2
            exact h2
          refine ⟨fun c1 => fl (fun h => h.1.1 c1) _ _, fun c1 => ⟨t, rfl, by omega, ?_⟩⟩
          rw [(R.ru ht2).2.2.2.2]
          refine ⟨fun c2 => fl (fun h => h.2.1.1 c2) _ _, fun c2 => ⟨fun c3 => fl (fun h => absurd ((wI_ge k q r).mpr h.1.2) (Int32.not_le.mpr c3)) _ _, fun c3 => ⟨fun c4 => fl (fun h => absurd ((wI_ge k t r).mpr h.2.1.2) (Int32.not_le.mpr c4)) _ _, fun c4 => ⟨fun c5 => fl (fun h => h.2.2 c5) _ _, fun c5 => ?_⟩⟩⟩⟩
          have h2 := ih2 (some (.int (wI k q r))) (some (.int (wI k t r)))
          rw [bI_t (show unU k r q (t + 1) from Or.inr ⟨t, by omega, ⟨c1, (wI_ge k q r).mp (Int32.not_lt.mp c3)⟩, ⟨c2, (wI_ge k t r).mp (Int32.not_lt.mp c4)⟩, c5⟩)] at h2
          exact h2
        · have h2 := ih2 (some (.int (wI k q r))) (some (.int (wI k t r)))
          rw [bI_t (show unU k r q (t + 1) from by
            rcases c with h | ⟨t', h1, h3⟩
            · exact Or.inl h
            · exact Or.inr ⟨t', by omega, h3⟩)] at h2
          exact h2
  have h := key 0 (Nat.zero_le _) none none none
  rw [bI_f (show ¬ unU k r 0 0 from by
    rintro (⟨q', t', h1, -⟩ | ⟨t', h1, -⟩) <;> omega)] at h
  exact h
/-- both ways to find unlike labels -/
theorem ls_some (k : cK) (r : Nat) : ∀ q, lsI k r q ≠ -1 → ∃ t, t < q ∧ onl k r t ∧ lsI k r q = wI k t r
  | 0, h => absurd rfl h
  | q + 1, h => by
    unfold lsI at h ⊢
    by_cases c : onl k r q
    · rw [cI_t c]
      exact ⟨q, by omega, c, rfl⟩
    · rw [cI_f c] at h ⊢
      obtain ⟨t, h1, h2, h3⟩ := ls_some k r q h
      exact ⟨t, by omega, h2, h3⟩
theorem onl_ne {k : cK} {r q : Nat} (h : onl k r q) : wI k q r ≠ -1 := fun e => by
  obtain ⟨j, hj, ej⟩ := h.2
  rw [e] at ej
  exact nI_nm (b := j) (by omega) ej.symm
theorem ls_all (k : cK) (r : Nat) : ∀ q, (∀ q', q' < q → ¬ dsq k r q') → ∀ t, t < q → onl k r t → lsI k r q = wI k t r
  | 0, _, t, ht, _ => by omega
  | q + 1, h, t, ht, ho => by
    have ih := ls_all k r q (fun q' hq' => h q' (by omega))
    unfold lsI
    by_cases c : onl k r q
    · rw [cI_t c]
      by_cases e : t = q
      · rw [e]
      · have e2 := ih t (by omega) ho
        have nd := h q (by omega)
        by_cases e3 : wI k q r = lsI k r q
        · rw [e3, e2]
        · exact absurd ⟨c, by rw [e2]; exact onl_ne ho, e3⟩ nd
    · rw [cI_f c]
      have : t ≠ q := fun e => c (e ▸ ho)
      exact ih t (by omega) ho
theorem dsp_unl (k : cK) (r : Nat) : dsp k r ↔ unl k r := by
  constructor
  · rintro ⟨q, hq, h1, h2, h3⟩
    obtain ⟨t, h4, h5, h6⟩ := ls_some k r q h2
    exact Or.inl ⟨q, t, hq, h4, h1, h5, by rw [← h6]; exact h3⟩
  · rintro (⟨q, t, hq, ht, h1, h2, h3⟩ | ⟨t', h, -⟩)
    · refine Classical.byContradiction fun hno => h3 ?_
      have hn : ∀ q', q' < q + 1 → ¬ dsq k r q' := fun q' hq' hd => hno ⟨q', by omega, hd⟩
      have e1 := ls_all k r (q + 1) hn q (by omega) h1
      have e2 := ls_all k r (q + 1) hn t (by omega) h2
      rw [← e1, e2]
    · omega
