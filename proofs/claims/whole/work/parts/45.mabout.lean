/-! the reference: about -/
noncomputable def abR (k : cK) (x n0 : Int32) : Nat → Int32
  | 0 => n0
  | r + 1 => abR k x n0 r + cI (x = 1) (nI (goN k r)) 0 + bI ((x = 3 ∧ decI k r ≠ -1) ∨ (x = 4 ∧ k_kn k r ≠ -1) ∨ (x = 7 ∧ unl k r))
noncomputable def abP (k : cK) (x n0 : Int32) : Nat → Int32
  | 0 => n0
  | p + 1 => abP k x n0 p + bI (x = 6 ∧ brd k p)
theorem sumN_s {f : Nat → Nat} (n : Nat) : sumN (n + 1) f = sumN n f + f n := rfl
theorem sumN_add {f g : Nat → Nat} : ∀ n, sumN n (fun i => f i + g i) = sumN n f + sumN n g
  | 0 => rfl
  | n + 1 => by
    rw [sumN_s, sumN_s, sumN_s, sumN_add n]
    omega
theorem sumN_0 : ∀ n, sumN n (fun _ => 0) = 0
  | 0 => rfl
  | n + 1 => by
    rw [sumN_s, sumN_0 n]
theorem cnt_sum (P : Nat → Prop) : ∀ n, cnt n P = sumN n (fun i => cE (P i) 1 0)
  | 0 => rfl
  | n + 1 => by
    rw [sumN_s, ← cnt_sum P n]
    by_cases h : P n
    · rw [cnt_t h, cE_t h]
    · rw [cnt_f h, cE_f h]
      rfl
theorem sum_swap (P : Nat → Nat → Prop) (b : Nat) : ∀ a, sumN a (fun i => cnt b (P i)) = sumN b (fun j => cnt a (fun i => P i j))
  | 0 => by
    show 0 = sumN b (fun j => 0)
    rw [sumN_0]
  | a + 1 => by
    rw [sumN_s, sum_swap P b a, cnt_sum (P a) b, ← sumN_add]
    refine sumN_c b (fun j hj => ?_)
    by_cases h : P a j
    · rw [cE_t h, cnt_t (P := fun i => P i j) h]
    · rw [cE_f h, cnt_f (P := fun i => P i j) h]
      rfl
theorem sum8_eq (k : cK) : ∀ p, sum8 k p = nI (sumN p (gbN k))
  | 0 => rfl
  | p + 1 => by
    unfold sum8 sumN
    rw [sum8_eq k p, nI_add]
theorem sum8_rows (k : cK) : sum8 k 8 = nI (sumN (k_n k) (goN k)) := by
  rw [sum8_eq]
  congr 1
  exact sum_swap (fun p r => k_gv k p r ≠ -1) (k_n k) 8
theorem abP_n {k : cK} {x n0 : Int32} (h : x ≠ 6) : ∀ p, abP k x n0 p = n0
  | 0 => rfl
  | p + 1 => by
    unfold abP
    rw [abP_n h p, bI_f (fun q => h q.1), Int32.add_zero]
theorem abR_n {k : cK} {x n0 : Int32} (h1 : x ≠ 1) (h3 : x ≠ 3) (h4 : x ≠ 4) (h7 : x ≠ 7) : ∀ r, abR k x n0 r = n0
  | 0 => rfl
  | r + 1 => by
    unfold abR
    rw [abR_n h1 h3 h4 h7 r, cI_f h1, bI_f (fun q => q.elim (fun q => h3 q.1) (fun q => q.elim (fun q => h4 q.1) (fun q => h7 q.1))), Int32.add_zero, Int32.add_zero]
theorem abR_1 (k : cK) : ∀ r, abR k 1 0 r = nI (sumN r (goN k))
  | 0 => rfl
  | r + 1 => by
    unfold abR sumN
    rw [abR_1 k r, cI_t rfl, bI_f (fun q => q.elim (fun q => absurd q.1 (by decide)) (fun q => q.elim (fun q => absurd q.1 (by decide)) (fun q => absurd q.1 (by decide)))), Int32.add_zero, nI_add]
theorem abR_c {k : cK} {x : Int32} {P : Nat → Prop} (h1 : x ≠ 1) (hP : ∀ r, ((x = 3 ∧ decI k r ≠ -1) ∨ (x = 4 ∧ k_kn k r ≠ -1) ∨ (x = 7 ∧ unl k r)) ↔ P r) : ∀ r, abR k x 0 r = nI (cnt r P)
  | 0 => rfl
  | r + 1 => by
    unfold abR
    rw [abR_c h1 hP r, cI_f h1, Int32.add_zero, bI_c (hP r)]
    by_cases h : P r
    · rw [bI_t h, cnt_t h, nI_succ]
    · rw [bI_f h, cnt_f h, Int32.add_zero]
theorem abP_6 (k : cK) : ∀ p, abP k 6 0 p = nI (cnt p (brd k))
  | 0 => rfl
  | p + 1 => by
    unfold abP
    rw [abP_6 k p]
    by_cases h : brd k p
    · rw [bI_t ⟨rfl, h⟩, cnt_t h, nI_succ]
    · rw [bI_f (fun q => h q.2), cnt_f h, Int32.add_zero]
theorem cnt_dsp (k : cK) (n : Nat) : cnt n (dsp k) = cnt n (unl k) := cnt_c n (fun i _ => dsp_unl k i)
theorem c4_about (l : Launch) (d : Nat) (k : cK) (a : mA) (y : mZ) (x : Int32) (w : WF k) (R : Rl k a) : SMet l m_X4_about (d + 5) [.ref 0, .int x] (yC (nK k) a y) (qS (S_about k x)) := by
  have hn := w.n
  refine SMet_of 2 (by decide) (Nat.le_of_ble_eq_true rfl) (t_X4_about_0 _ _ _ ?_)
  refine ⟨_, c4_inX l (d + 4) _ _ 7 (n := 8) (by decide) (by decide), ?_⟩
  rintro _ _ ⟨rfl, rfl⟩
  have lp : ∀ (T n0 : Int32), abP k x (abR k x n0 (k_n k)) 8 = T → ∀ (j : Option Value), k_X4_about_49 l (fun _ _ _ _ => False) (d + 5) (qS (T, k)) [some (.ref 0), some (.int x), j, none] [.int n0] (yC (nK k) a y) := by
    intro T n0 hT j
    have ps : ∀ p, p ≤ 8 → ∀ (y : mZ), SW l m_X4_about none (fun _ _ _ _ => False) (d + 5) 0 0 (qS (T, k)) 136 [some (.ref 0), some (.int x), some (.int (abP k x (abR k x n0 (k_n k)) p)), some (.int (nI p))] [] (yC (nK k) a y) := by
      refine aw_up 8 _ ?_ ?_
      · intro y
        refine t_X4_about_136 _ _ _ (br_t (nI_le (Nat.le_refl _) (by decide)) ?_)
        rw [hT]
        exact ⟨rfl, a, y, rfl, R⟩
      · intro p hp ih y
        simp only [nI_succ, abP] at ih
        refine t_X4_about_136 _ _ _ (br_f (nI_ge (b := 8) hp (by decide)) ⟨fun c => ⟨_, c4_isBarred l (d + 3) k a y hp w R, ?_⟩, fun c => ?_⟩)
        · rintro _ _ ⟨rfl, rfl⟩
          refine br_b (fun c2 => ?_) (fun c2 => ?_)
          · rw [bI_f (fun q => c2 q.2)] at ih
            exact ih y
          · rw [bI_t ⟨c, c2⟩] at ih
            exact ih y
        · rw [bI_f (fun q => c q.1)] at ih
          exact ih y
    have rs : ∀ r, r ≤ k_n k → ∀ (y : mZ), SW l m_X4_about none (fun _ _ _ _ => False) (d + 5) 0 0 (qS (T, k)) 52 [some (.ref 0), some (.int x), some (.int (abR k x n0 r)), some (.int (nI r))] [] (yC (nK k) a y) := by
      refine aw_up (k_n k) _ ?_ ?_
      · intro y
        exact t_X4_about_52 _ _ _ (br_t (nI_le (Nat.le_refl _) (by omega)) (ps 0 (Nat.zero_le _) y))
      · intro r hr ih y
        simp only [nI_succ, abR] at ih
        have no : ¬ ((x = 3 ∧ decI k r ≠ -1) ∨ (x = 4 ∧ k_kn k r ≠ -1) ∨ (x = 7 ∧ unl k r)) → ∀ v y, v = cI (x = 1) (nI (goN k r)) 0 → SW l m_X4_about none (fun _ _ _ _ => False) (d + 5) 0 0 (qS (T, k)) 52 [some (.ref 0), some (.int x), some (.int (abR k x n0 r + v + 0)), some (.int (nI r + 1))] [] (yC (nK k) a y) := fun h v y hv => by
          rw [bI_f h, ← hv] at ih
          exact ih y
        have ye : ((x = 3 ∧ decI k r ≠ -1) ∨ (x = 4 ∧ k_kn k r ≠ -1) ∨ (x = 7 ∧ unl k r)) → ∀ v y, v = cI (x = 1) (nI (goN k r)) 0 → SW l m_X4_about none (fun _ _ _ _ => False) (d + 5) 0 0 (qS (T, k)) 52 [some (.ref 0), some (.int x), some (.int (abR k x n0 r + v + 1)), some (.int (nI r + 1))] [] (yC (nK k) a y) := fun h v y hv => by
          rw [bI_t h, ← hv] at ih
          exact ih y
        have c107 : ¬ (x = 3 ∧ decI k r ≠ -1) → ¬ (x = 4 ∧ k_kn k r ≠ -1) → ∀ v y, v = cI (x = 1) (nI (goN k r)) 0 → k_X4_about_107 l (fun _ _ _ _ => False) (d + 5) (qS (T, k)) [some (.ref 0), some (.int x), some (.int (abR k x n0 r + v)), some (.int (nI r))] [.int (abR k x n0 r + v)] (yC (nK k) a y) := by
          intro h1 h2 v y hv
          refine ⟨fun c => ⟨_, c4_isUnlike l (d + 2) k a y hr w R, ?_⟩, fun c => no (fun h => h.elim h1 (fun h => h.elim h2 (fun h => c h.1))) v y hv⟩
          rintro _ _ ⟨rfl, rfl⟩
          exact br_b (fun c2 => no (fun h => h.elim h1 (fun h => h.elim h2 (fun h => c2 h.2))) v y hv) (fun c2 => ye (Or.inr (Or.inr ⟨c, c2⟩)) v y hv)
        have c92 : ¬ (x = 3 ∧ decI k r ≠ -1) → ∀ v y, v = cI (x = 1) (nI (goN k r)) 0 → k_X4_about_92 l (fun _ _ _ _ => False) (d + 5) (qS (T, k)) [some (.ref 0), some (.int x), some (.int (abR k x n0 r + v)), some (.int (nI r))] [.int (abR k x n0 r + v)] (yC (nK k) a y) := by
          intro h1 v y hv
          refine ⟨fun c => ⟨r, rfl, by omega, ?_⟩, fun c => c107 h1 (fun h => c h.1) v y hv⟩
          rw [R.go hr]
          exact ⟨fun c2 => c107 h1 (fun h => h.2 c2) v y hv, fun c2 => ye (Or.inr (Or.inl ⟨c, c2⟩)) v y hv⟩
        have c75 : ∀ v y, v = cI (x = 1) (nI (goN k r)) 0 → k_X4_about_75 l (fun _ _ _ _ => False) (d + 5) (qS (T, k)) [some (.ref 0), some (.int x), some (.int (abR k x n0 r)), some (.int (nI r))] [.int v, .int (abR k x n0 r)] (yC (nK k) a y) := by
          intro v y hv
          refine ⟨fun c => ⟨_, c4_decidedOf l d k a y hr w R, ?_⟩, fun c => c92 (fun h => c h.1) v y hv⟩
          rintro _ _ ⟨rfl, m, rfl⟩
          exact ⟨fun c2 => c92 (fun h => h.2 c2) v _ hv, fun c2 => ye (Or.inl ⟨c, c2⟩) v _ hv⟩
        refine t_X4_about_52 _ _ _ (br_f (nI_ge (b := k_n k) hr (by omega)) ⟨fun c => ⟨_, c4_labellings l (d + 4) k a y (by omega) w R, ?_⟩, fun c => c75 0 y (by rw [cI_f c])⟩)
        rintro _ _ ⟨rfl, rfl⟩
        exact c75 _ y (by rw [cI_t c])
    exact rs 0 (Nat.zero_le _) y
  refine br_b (fun c => ?_) (fun c => ?_)
  · have nx : ∀ j : Nat, j < 8 → ¬ x = nI j := fun j hj e => c ⟨j, hj, e⟩
    rw [S_about, cE_f (show ¬ x = 0 from nx 0 (by decide)), cE_f (show ¬ x = 1 from nx 1 (by decide)), cE_f (show ¬ x = 2 from nx 2 (by decide)), cE_f (show ¬ x = 3 from nx 3 (by decide)), cE_f (show ¬ x = 4 from nx 4 (by decide)), cE_f (show ¬ x = 5 from nx 5 (by decide)), cE_f (show ¬ x = 6 from nx 6 (by decide)), cE_f (show ¬ x = 7 from nx 7 (by decide))]
    exact ⟨rfl, a, y, rfl, R⟩
  obtain ⟨X, hX, rfl⟩ := c
  rcases (show X = 0 ∨ X = 1 ∨ X = 2 ∨ X = 3 ∨ X = 4 ∨ X = 5 ∨ X = 6 ∨ X = 7 by omega) with rfl | rfl | rfl | rfl | rfl | rfl | rfl | rfl
  · rw [S_about, cE_t (show nI 0 = 0 from rfl)]
    refine br_t rfl (lp _ (nI (k_n k)) ?_ _)
    rw [abP_n (by decide), abR_n (by decide) (by decide) (by decide) (by decide)]
  · rw [S_about, cE_f (show ¬ nI 1 = 0 by decide), cE_t (show nI 1 = 1 from rfl)]
    refine br_f (by decide) (br_f (by decide) (br_f (by decide) (lp _ 0 ?_ _)))
    rw [abP_n (by decide), sum8_rows]
    exact abR_1 k _
  · rw [S_about, cE_f (show ¬ nI 2 = 0 by decide), cE_f (show ¬ nI 2 = 1 by decide), cE_t (show nI 2 = 2 from rfl)]
    refine br_f (by decide) (br_t rfl (lp _ (nI (k_rn k)) ?_ _))
    rw [abP_n (by decide), abR_n (by decide) (by decide) (by decide) (by decide)]
  · rw [S_about, cE_f (show ¬ nI 3 = 0 by decide), cE_f (show ¬ nI 3 = 1 by decide), cE_f (show ¬ nI 3 = 2 by decide), cE_t (show nI 3 = 3 from rfl)]
    refine br_f (by decide) (br_f (by decide) (br_f (by decide) (lp _ 0 ?_ _)))
    rw [abP_n (by decide), abR_c (x := nI 3) (P := fun r => decI k r ≠ -1) (by decide) (fun r => ⟨fun h => h.elim (fun h => h.2) (fun h => h.elim (fun h => absurd h.1 (by decide)) (fun h => absurd h.1 (by decide))), fun h => Or.inl ⟨rfl, h⟩⟩)]
    rfl
  · rw [S_about, cE_f (show ¬ nI 4 = 0 by decide), cE_f (show ¬ nI 4 = 1 by decide), cE_f (show ¬ nI 4 = 2 by decide), cE_f (show ¬ nI 4 = 3 by decide), cE_t (show nI 4 = 4 from rfl)]
    refine br_f (by decide) (br_f (by decide) (br_f (by decide) (lp _ 0 ?_ _)))
    rw [abP_n (by decide), abR_c (x := nI 4) (P := fun r => k_kn k r ≠ -1) (by decide) (fun r => ⟨fun h => h.elim (fun h => absurd h.1 (by decide)) (fun h => h.elim (fun h => h.2) (fun h => absurd h.1 (by decide))), fun h => Or.inr (Or.inl ⟨rfl, h⟩)⟩)]
    rfl
  · rw [S_about, cE_f (show ¬ nI 5 = 0 by decide), cE_f (show ¬ nI 5 = 1 by decide), cE_f (show ¬ nI 5 = 2 by decide), cE_f (show ¬ nI 5 = 3 by decide), cE_f (show ¬ nI 5 = 4 by decide), cE_t (show nI 5 = 5 from rfl)]
    refine br_f (by decide) (br_f (by decide) (br_t rfl (lp _ (k_bd k) ?_ _)))
    rw [abP_n (by decide), abR_n (by decide) (by decide) (by decide) (by decide)]
  · rw [S_about, cE_f (show ¬ nI 6 = 0 by decide), cE_f (show ¬ nI 6 = 1 by decide), cE_f (show ¬ nI 6 = 2 by decide), cE_f (show ¬ nI 6 = 3 by decide), cE_f (show ¬ nI 6 = 4 by decide), cE_f (show ¬ nI 6 = 5 by decide), cE_t (show nI 6 = 6 from rfl)]
    refine br_f (by decide) (br_f (by decide) (br_f (by decide) (lp _ 0 ?_ _)))
    rw [abR_n (by decide) (by decide) (by decide) (by decide)]
    exact abP_6 k 8
  · rw [S_about, cE_f (show ¬ nI 7 = 0 by decide), cE_f (show ¬ nI 7 = 1 by decide), cE_f (show ¬ nI 7 = 2 by decide), cE_f (show ¬ nI 7 = 3 by decide), cE_f (show ¬ nI 7 = 4 by decide), cE_f (show ¬ nI 7 = 5 by decide), cE_f (show ¬ nI 7 = 6 by decide), cE_t (show nI 7 = 7 from rfl)]
    refine br_f (by decide) (br_f (by decide) (br_f (by decide) (lp _ 0 ?_ _)))
    rw [abP_n (by decide), abR_c (x := nI 7) (P := unl k) (by decide) (fun r => ⟨fun h => h.elim (fun h => absurd h.1 (by decide)) (fun h => h.elim (fun h => absurd h.1 (by decide)) (fun h => h.2)), fun h => Or.inr (Or.inr ⟨rfl, h⟩)⟩)]
    rw [dsN, cnt_dsp]
