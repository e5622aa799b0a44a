/-! the reference: agreement of all -/
theorem sumN_swap2 (f : Nat → Nat → Nat) (b : Nat) : ∀ a, sumN a (fun i => sumN b (f i)) = sumN b (fun j => sumN a (fun i => f i j))
  | 0 => by
    show 0 = sumN b (fun j => 0)
    rw [sumN_0]
  | a + 1 => by
    rw [sumN_s, sumN_swap2 f b a, ← sumN_add]
    exact sumN_c b (fun j _ => rfl)
theorem sumN_upd {f g : Nat → Nat} {t e : Nat} : ∀ n, (∀ i, i < n → i ≠ t → g i = f i) → g t = f t + e → sumN n g = sumN n f + cE (t < n) e 0
  | 0, _, _ => by
    rw [cE_f (by omega)]
    rfl
  | n + 1, h1, h2 => by
    have ih := sumN_upd (f := f) (g := g) (t := t) (e := e) n (fun i hi => h1 i (by omega)) h2
    rw [sumN_s, sumN_s, ih]
    by_cases c : n = t
    · rw [cE_f (show ¬ t < n by omega), cE_t (show t < n + 1 by omega), c, h2]
      omega
    · rw [h1 n (by omega) c]
      by_cases c2 : t < n
      · rw [cE_t c2, cE_t (show t < n + 1 by omega)]
        omega
      · rw [cE_f c2, cE_f (show ¬ t < n + 1 by omega)]
        omega
theorem tri_s (c : Nat) : (c + 1) * (c + 1 - 1) / 2 = c * (c - 1) / 2 + c := by
  cases c with
  | zero => rfl
  | succ c =>
    show (c + 1 + 1) * (c + 1) / 2 = (c + 1) * c / 2 + (c + 1)
    rw [show (c + 1 + 1) * (c + 1) = (c + 1) * c + (c + 1) * 2 by rw [Nat.mul_comm (c + 1 + 1), ← Nat.mul_add], Nat.add_mul_div_right _ _ (by decide)]
theorem lk_tri (k : cK) (r : Nat) (hr : r < 40) (w : WF k) : ∀ n, n ≤ 8 → lkN k r n = sumN 5 (fun b => cnt n (fun p => k_gv k p r = nI b) * (cnt n (fun p => k_gv k p r = nI b) - 1) / 2)
  | 0, _ => by
    show 0 = sumN 5 (fun b => 0 * (0 - 1) / 2)
    rfl
  | n + 1, hn => by
    have ih := lk_tri k r hr w n (by omega)
    unfold lkN at ih ⊢
    rw [sumN_s, ih]
    rcases w.gv (show n < 8 by omega) hr with e | ⟨g, hg, e⟩
    · rw [cnt_F n (fun q _ h => h.1 e), Nat.add_zero]
      refine sumN_c 5 (fun b hb => ?_)
      rw [cnt_f (P := fun p => k_gv k p r = nI b) (fun h => nI_nm (b := b) (by omega) (h.symm.trans e))]
    · rw [sumN_upd (f := fun b => cnt n (fun p => k_gv k p r = nI b) * (cnt n (fun p => k_gv k p r = nI b) - 1) / 2) (g := fun b => cnt (n + 1) (fun p => k_gv k p r = nI b) * (cnt (n + 1) (fun p => k_gv k p r = nI b) - 1) / 2) (t := g) (e := cnt n (fun p => k_gv k p r = nI g)) 5 (fun b hb hbg => by
        rw [cnt_f (P := fun p => k_gv k p r = nI b) (fun h => hbg ((nI_eq (by omega) (by omega)).mp (h.symm.trans e)))]) (by
        rw [cnt_t (P := fun p => k_gv k p r = nI g) e, tri_s]), cE_t hg]
      congr 1
      refine cnt_c n (fun q _ => ?_)
      constructor
      · intro h
        exact h.2.symm.trans e
      · intro h
        exact ⟨fun h2 => nI_nm (b := g) (by omega) (e.symm.trans h2), e.trans h.symm⟩
theorem go_lb (k : cK) (r : Nat) (hr : r < 40) (w : WF k) : sumN 5 (lbN k r) = goN k r := by
  have e1 : sumN 5 (lbN k r) = sumN 8 (fun p => cnt 5 (fun b => k_gv k p r = nI b)) := sum_swap (fun b p => k_gv k p r = nI b) 8 5
  rw [e1]
  unfold goN
  rw [cnt_sum]
  refine sumN_c 8 (fun p hp => ?_)
  rw [← cnt_one (P := k_gv k p r ≠ -1) (v := k_gv k p r) (fun h => (w.gv hp hr).elim (fun q => absurd q h) id)]
  refine cnt_c 5 (fun b hb => ⟨fun h => ⟨fun q => nI_nm (b := b) (by omega) (h.symm.trans q), h⟩, fun h => h.2⟩)
theorem og_sc (k : cK) (w : WF k) : sumN 5 (ogN k (k_n k)) = scN k (k_n k) := by
  have hn := w.n
  have e1 : sumN 5 (ogN k (k_n k)) = sumN (k_n k) (fun r => sumN 5 (fun b => cE (two k r) (lbN k r b) 0)) := sumN_swap2 (fun b r => cE (two k r) (lbN k r b) 0) (k_n k) 5
  rw [e1]
  refine sumN_c _ (fun r hr => ?_)
  by_cases c : two k r
  · rw [cE_t c, ← go_lb k r (by omega) w]
    exact sumN_c 5 (fun b _ => cE_t c)
  · rw [cE_f c, sumN_c 5 (g := fun _ => 0) (fun b _ => cE_f c), sumN_0]
noncomputable def MA (k : cK) : Nat := cnt (k_n k) (two k)
noncomputable def CA (k : cK) : Nat := scN k (k_n k)
noncomputable def SA (k : cK) : Nat := sumN 5 (fun b => ogN k (k_n k) b * ogN k (k_n k) b)
noncomputable def HA (k : cK) : Nat := shN k (k_n k)
theorem SA_le (k : cK) (w : WF k) : SA k ≤ CA k * CA k := by
  have h := sum_prod (f := ogN k (k_n k)) (g := ogN k (k_n k)) 5
  rw [og_sc k w] at h
  exact h
theorem lbN_le (k : cK) (r b : Nat) : lbN k r b ≤ 8 := cnt_le _ 8
theorem MA_le (k : cK) (hn : k_n k ≤ 40) : MA k ≤ 40 := by have := cnt_le (two k) (k_n k); unfold MA; omega
theorem m_le {n b : Nat} {P : Nat → Prop} {f : Nat → Nat} (hf : ∀ i, i < n → f i ≤ b) : sumN n (fun r => cE (P r) (f r) 0) ≤ n * b := sumN_le n (fun i hi => by
  by_cases c : P i
  · rw [cE_t c]; exact hf i hi
  · rw [cE_f c]; omega)
theorem sc_le (k : cK) (n : Nat) (hn : n ≤ 40) : scN k n ≤ 320 := by
  have h := m_le (n := n) (P := two k) (f := goN k) (b := 8) (fun i _ => goN_le k i)
  have : n * 8 ≤ 40 * 8 := Nat.mul_le_mul_right 8 hn
  unfold scN
  omega
theorem og_le (k : cK) (n b : Nat) (hn : n ≤ 40) : ogN k n b ≤ 320 := by
  have h := m_le (n := n) (P := two k) (f := fun r => lbN k r b) (b := 8) (fun i _ => lbN_le k i b)
  have : n * 8 ≤ 40 * 8 := Nat.mul_le_mul_right 8 hn
  unfold ogN
  omega
theorem sh_le (k : cK) (n : Nat) (hn : n ≤ 40) : shN k n ≤ 2150400 := by
  have h := m_le (n := n) (P := two k) (f := fun r => 840 * lkN k r 8 / (goN k r * (goN k r - 1) / 2)) (b := 53760) (fun i _ => by
    have h1 := lkN_le k i
    exact Nat.le_trans (Nat.div_le_self _ _) (by omega))
  have : n * 53760 ≤ 40 * 53760 := Nat.mul_le_mul_right 53760 hn
  unfold shN
  omega
theorem sA_eq (k : cK) (hn : k_n k ≤ 40) : sA k = lN (SA k) := spL_eq 5 (fun i _ => by have := og_le k (k_n k) i hn; omega) (fun i _ => by have := og_le k (k_n k) i hn; omega)
theorem scA_eq (k : cK) (hn : k_n k ≤ 40) : scA k = lN (840 * MA k) := by
  have := MA_le k hn
  unfold scA
  rw [show cnt (k_n k) (two k) = MA k from rfl, nI_l (by omega), show (840 : Int64) = lN 840 from rfl, lN_mul]
theorem sqA_eq (k : cK) (hn : k_n k ≤ 40) : sqA k = lN (CA k * CA k) := by
  have := sc_le k (k_n k) hn
  unfold sqA
  rw [show scN k (k_n k) = CA k from rfl, nI_l (by unfold CA; omega), lN_mul]
theorem ovA_eq (k : cK) (w : WF k) : ovA k = lN (HA k * (CA k * CA k)) - lN (SA k * (840 * MA k)) := by
  unfold ovA
  rw [sA_eq k w.n, scA_eq k w.n, sqA_eq k w.n, show shN k (k_n k) = HA k from rfl, lN_mul, lN_mul]
theorem unA_eq (k : cK) (w : WF k) : unA k = lN (840 * MA k * (CA k * CA k - SA k)) := by
  unfold unA
  rw [sA_eq k w.n, scA_eq k w.n, sqA_eq k w.n, lN_sub (SA_le k w), lN_mul]
noncomputable def S_all (k : cK) (x : Int32) : Nat × Int64 := cE (ix x 4) (S_part x (lN (MA k)) (lN (CA k)) (ovA k) (unA k)) (1, 0)
theorem tri_I {m : Nat} (h : m ≤ 8) : nI m * (nI m - 1) / 2 = nI (m * (m - 1) / 2) := by
  cases m with
  | zero => decide
  | succ m =>
    have hm : (m + 1) * (m + 1 - 1) ≤ 8 * 8 := Nat.mul_le_mul h (by omega)
    rw [show (1 : Int32) = nI 1 from rfl, show (2 : Int32) = nI 2 from rfl, pk_sub (by omega), pk_mul, pk_div (by omega) (by decide) (by decide)]
theorem c4_all (l : Launch) (d : Nat) (k : cK) (a : mA) (y : mZ) (x : Int32) (w : WF k) (R : Rl k a) : SMet l m_X4_all (d + 1) [.ref 0, .int x] (yC (nK k) a y) (qT k (S_all k x)) := by
  have hn := w.n
  refine SMet_of 12 (by decide) (Nat.le_of_ble_eq_true rfl) (t_X4_all_0 _ _ _ ?_)
  refine ⟨_, c4_inX l d _ _ 3 (n := 4) (by decide) (by decide), ?_⟩
  rintro _ _ ⟨rfl, rfl⟩
  refine br_b (fun c => ?_) (fun c => ?_)
  · rw [S_all, cE_f c]
    exact br_f (by decide) ⟨rfl, a, y_sth y 1, rfl, R, rfl⟩
  rw [S_all, cE_t c]
  refine br_t (by decide) ?_
  have hM := MA_le k hn
  have hC : CA k ≤ 320 := sc_le k _ hn
  have hH : HA k ≤ 2150400 := sh_le k _ hn
  have hS := SA_le k w
  have hCC : CA k * CA k ≤ 320 * 320 := Nat.mul_le_mul hC hC
  have hHC : HA k * (CA k * CA k) ≤ 2150400 * (320 * 320) := Nat.mul_le_mul hH hCC
  have hSM : SA k * (840 * MA k) ≤ (320 * 320) * (840 * 40) := Nat.mul_le_mul (by omega) (by omega)
  have hU : 840 * MA k * (CA k * CA k - SA k) ≤ (840 * 40) * (320 * 320) := Nat.mul_le_mul (by omega) (by omega)
  -- the squares
  have sq : ∀ b, b ≤ 5 → ∀ (j11 j12 j13 : Option Value), SW l m_X4_all none (fun _ _ _ _ => False) (d + 1) 0 0 (qT k (S_part x (lN (MA k)) (lN (CA k)) (ovA k) (unA k))) 149 [some (.ref 0), some (.int x), some (.long (lN (MA k))), none, some (.long (lN (HA k))), none, some (.long (lN (CA k))), none, some (.long (lN (sumN b (fun b => ogN k (k_n k) b * ogN k (k_n k) b)))), none, some (.int (nI b)), j11, j12, j13] [] (yC (nK k) a (y_sth y 0)) := by
    refine aw_up 5 _ ?_ ?_
    · intro j11 j12 j13
      refine t_X4_all_149 _ _ _ (br_t (nI_le (Nat.le_refl _) (by decide)) ?_)
      rw [show sumN 5 (fun b => ogN k (k_n k) b * ogN k (k_n k) b) = SA k from rfl]
      refine ⟨fun c5 => ?_, fun c5 => ⟨fun c6 => ?_, fun c6 => ?_⟩⟩
      · rw [S_part, cE_t c5]
        exact ⟨rfl, a, _, rfl, R, rfl⟩
      · rw [S_part, cE_f c5, cE_t c6]
        exact ⟨rfl, a, _, rfl, R, rfl⟩
      · rw [S_part, cE_f c5, cE_f c6]
        have cu := c4_cut l d k a (y_sth y 0) (lN (HA k * (CA k * CA k)) - lN (SA k * (840 * MA k))) (840 * MA k * (CA k * CA k - SA k)) x (ab_sub (by omega) (by omega)) (by omega)
        have e1 : lN (HA k) * lN (CA k) * lN (CA k) - lN (SA k) * 840 * lN (MA k) = lN (HA k * (CA k * CA k)) - lN (SA k * (840 * MA k)) := by
          rw [show (840 : Int64) = lN 840 from rfl, lN_mul, lN_mul, lN_mul, lN_mul, Nat.mul_assoc, Nat.mul_assoc]
        have e2 : (840 : Int64) * lN (MA k) * (lN (CA k) * lN (CA k) - lN (SA k)) = lN (840 * MA k * (CA k * CA k - SA k)) := by
          rw [show (840 : Int64) = lN 840 from rfl, lN_mul, lN_mul, lN_sub hS, lN_mul]
        rw [ovA_eq k w, unA_eq k w]
        rw [← e1, ← e2] at cu ⊢
        refine ⟨_, cu, ?_⟩
        rintro _ _ (⟨h1, rfl, rfl⟩ | ⟨h1, rfl, rfl⟩)
        · have e0 : (840 : Int64) * lN (MA k) * (lN (CA k) * lN (CA k) - lN (SA k)) = 0 := by
            rw [e2, h1]
            rfl
          rw [cE_t e0]
          exact ⟨rfl, a, _, rfl, R, rfl⟩
        · have e0 : ¬ (840 : Int64) * lN (MA k) * (lN (CA k) * lN (CA k) - lN (SA k)) = 0 := by
            rw [e2]
            exact lN_ne h1 (by omega)
          rw [cE_f e0]
          exact ⟨rfl, a, _, rfl, R, rfl⟩
    · intro b hb ih j11 j12 j13
      simp only [nI_succ, sumN_s, ← lN_add, ← lN_mul] at ih
      refine t_X4_all_149 _ _ _ (br_f (nI_ge (b := 5) hb (by decide)) ?_)
      generalize hz3 : lN (sumN b (fun b => ogN k (k_n k) b * ogN k (k_n k) b)) = z3 at ih ⊢
      refine aw_up (k_n k) (fun r => SW l m_X4_all none (fun _ _ _ _ => False) (d + 1) 0 0 (qT k (S_part x (lN (MA k)) (lN (CA k)) (ovA k) (unA k))) 161 [some (.ref 0), some (.int x), some (.long (lN (MA k))), none, some (.long (lN (HA k))), none, some (.long (lN (CA k))), none, some (.long z3), none, some (.int (nI b)), some (.long (lN (ogN k r b))), none, some (.int (nI r))] [] (yC (nK k) a (y_sth y 0))) ?_ ?_ 0 (Nat.zero_le _)
      · exact t_X4_all_161 _ _ _ (br_t (nI_le (Nat.le_refl _) (by omega)) (ih _ _ _))
      · intro r hr ih2
        simp only [nI_succ] at ih2
        have hg := goN_le k r
        refine t_X4_all_161 _ _ _ (br_f (nI_ge (b := k_n k) hr (by omega)) ⟨_, c4_labellings l d k a _ (by omega) w R, ?_⟩)
        rintro _ _ ⟨rfl, rfl⟩
        by_cases h2 : two k r
        · have h2' : 2 ≤ goN k r := h2
          refine br_f (nI_ge (a := 1) (by omega) (by omega)) ⟨_, c4_countOf l d k a _ (by omega) R, ?_⟩
          rintro _ _ ⟨rfl, rfl⟩
          have e : ogN k (r + 1) b = ogN k r b + lbN k r b := by
            unfold ogN
            rw [sumN_s, cE_t h2]
          have hl := lbN_le k r b
          rw [e, ← lN_add, ← nI_l (n := lbN k r b) (by omega)] at ih2
          exact ih2
        · have h2' : ¬ 2 ≤ goN k r := h2
          refine br_t (nI_le (b := 1) (by omega) (by decide)) ?_
          have e : ogN k (r + 1) b = ogN k r b := by
            unfold ogN
            rw [sumN_s, cE_f h2]
            rfl
          rw [e, ← Int64.add_zero (lN (ogN k r b))] at ih2
          exact ih2
  -- the rows
  have rs : ∀ r, r ≤ k_n k → ∀ (j9 j10 j11 j12 : Option Value), SW l m_X4_all none (fun _ _ _ _ => False) (d + 1) 0 0 (qT k (S_part x (lN (MA k)) (lN (CA k)) (ovA k) (unA k))) 38 [some (.ref 0), some (.int x), some (.long (lN (cnt r (two k)))), none, some (.long (lN (shN k r))), none, some (.long (lN (scN k r))), none, some (.int (nI r)), j9, j10, j11, j12, none] [] (yC (nK k) a (y_sth y 0)) := by
    refine aw_up (k_n k) _ ?_ ?_
    · intro j9 j10 j11 j12
      exact t_X4_all_38 _ _ _ (br_t (nI_le (Nat.le_refl _) (by omega)) (sq 0 (Nat.zero_le _) _ _ _))
    · intro r hr ih j9 j10 j11 j12
      simp only [nI_succ] at ih
      have hg := goN_le k r
      refine t_X4_all_38 _ _ _ (br_f (nI_ge (b := k_n k) hr (by omega)) ⟨_, c4_labellings l d k a _ (by omega) w R, ?_⟩)
      rintro _ _ ⟨rfl, rfl⟩
      by_cases h2 : two k r
      · have h2' : 2 ≤ goN k r := h2
        refine br_f (nI_ge (a := 1) (by omega) (by omega)) ?_
        have hpr : 1 ≤ goN k r * (goN k r - 1) / 2 := by
          have : 2 * 1 ≤ goN k r * (goN k r - 1) := Nat.mul_le_mul h2' (by omega)
          omega
        have hpr2 : goN k r * (goN k r - 1) ≤ 8 * 8 := Nat.mul_le_mul hg (by omega)
        have hl := lkN_le k r
        have el := lk_tri k r (by omega) w 8 (by decide)
        have e1 : shN k (r + 1) = shN k r + 840 * lkN k r 8 / (goN k r * (goN k r - 1) / 2) := by
          unfold shN
          rw [sumN_s, cE_t h2]
        have e2 : scN k (r + 1) = scN k r + goN k r := by
          unfold scN
          rw [sumN_s, cE_t h2]
        have hdl := Nat.div_le_self (840 * lkN k r 8) (goN k r * (goN k r - 1) / 2)
        rw [cnt_t h2, e1, e2, ← lN_1, ← lN_add, ← lN_add, ← nI_l (n := goN k r) (by omega), ← nI_l (n := 840 * lkN k r 8 / (goN k r * (goN k r - 1) / 2)) (by omega), ← pk_div (a := 840 * lkN k r 8) (by omega) (by omega) (by omega), ← tri_I hg, ← pk_mul] at ih
        refine aw_up 5 (fun b => ∀ (j12 : Option Value), SW l m_X4_all none (fun _ _ _ _ => False) (d + 1) 0 0 (qT k (S_part x (lN (MA k)) (lN (CA k)) (ovA k) (unA k))) 79 [some (.ref 0), some (.int x), some (.long (lN (cnt r (two k)) + 1)), none, some (.long (lN (shN k r))), none, some (.long (lN (scN k r) + (nI (goN k r)).toInt64)), none, some (.int (nI r)), some (.int (nI (goN k r))), some (.int (nI (sumN b (fun b => lbN k r b * (lbN k r b - 1) / 2)))), some (.int (nI b)), j12, none] [] (yC (nK k) a (y_sth y 0))) ?_ ?_ 0 (Nat.zero_le _) j12
        · intro j12
          refine t_X4_all_79 _ _ _ (br_t (nI_le (Nat.le_refl _) (by decide)) ⟨by decide, ?_, ?_⟩)
          · show ¬ nI (goN k r) * (nI (goN k r) - 1) / 2 = 0
            rw [tri_I hg]
            exact nI_ne0 (by omega) (by omega)
          · rw [show sumN 5 (fun b => lbN k r b * (lbN k r b - 1) / 2) = lkN k r 8 from el.symm]
            exact ih _ _ _ _
        · intro b hb ih3 j12
          simp only [nI_succ, sumN_s, ← nI_add] at ih3
          refine t_X4_all_79 _ _ _ (br_f (nI_ge (b := 5) hb (by decide)) ⟨_, c4_countOf l d k a _ (by omega) R, ?_⟩)
          rintro _ _ ⟨rfl, rfl⟩
          rw [← tri_I (lbN_le k r b)] at ih3
          exact ⟨by decide, ih3 _⟩
      · have h2' : ¬ 2 ≤ goN k r := h2
        refine br_t (nI_le (b := 1) (by omega) (by decide)) ?_
        have e1 : shN k (r + 1) = shN k r := by
          unfold shN
          rw [sumN_s, cE_f h2]
          rfl
        have e2 : scN k (r + 1) = scN k r := by
          unfold scN
          rw [sumN_s, cE_f h2]
          rfl
        rw [cnt_f h2, e1, e2] at ih
        exact ih _ _ _ _
  exact rs 0 (Nat.zero_le _) none none none none
