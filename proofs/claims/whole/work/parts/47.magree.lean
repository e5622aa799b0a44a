/-! the reference: two persons -/
theorem cnt_eq (g : Nat) : ∀ n, cnt n (fun b => b = g) = cE (g < n) 1 0
  | 0 => by
    rw [cE_f (by omega)]
    rfl
  | n + 1 => by
    by_cases h : n = g
    · rw [cnt_t (P := fun b => b = g) h, cnt_eq g n, cE_f (by omega), cE_t (by omega)]
    · rw [cnt_f (P := fun b => b = g) h, cnt_eq g n]
      by_cases h2 : g < n
      · rw [cE_t h2, cE_t (by omega)]
      · rw [cE_f h2, cE_f (by omega)]
theorem cnt_F {P : Nat → Prop} : ∀ n, (∀ i, i < n → ¬ P i) → cnt n P = 0
  | 0, _ => rfl
  | n + 1, h => by rw [cnt_f (h n (by omega)), cnt_F n (fun i hi => h i (by omega))]
theorem cnt_one {P : Prop} {v : Int32} (h : P → ix v 5) : cnt 5 (fun b => P ∧ v = nI b) = cE P 1 0 := by
  by_cases c : P
  · obtain ⟨g, hg, e⟩ := h c
    rw [cE_t c, cnt_c 5 (P' := fun b => b = g) (fun b hb => ⟨fun q => (nI_eq (by omega) (by omega)).mp (q.2.symm.trans e), fun q => ⟨c, by rw [q]; exact e⟩⟩), cnt_eq, cE_t hg]
  · rw [cE_f c]
    exact cnt_F 5 (fun i _ q => c q.1)
theorem cnt_part {P : Nat → Prop} {v : vF} (n : Nat) (h : ∀ r, P r → ix (v r) 5) : sumN 5 (fun b => cnt n (fun r => P r ∧ v r = nI b)) = cnt n P := by
  rw [sum_swap (fun b r => P r ∧ v r = nI b) n 5, cnt_sum P n]
  exact sumN_c n (fun r _ => cnt_one (h r))
theorem sum_prod {f g : Nat → Nat} : ∀ n, sumN n (fun i => f i * g i) ≤ sumN n f * sumN n g
  | 0 => Nat.le_refl _
  | n + 1 => by
    have ih := sum_prod (f := f) (g := g) n
    rw [sumN_s, sumN_s, sumN_s, Nat.add_mul, Nat.mul_add, Nat.mul_add]
    omega
theorem spL_eq {f g : Nat → Nat} : ∀ n, (∀ i, i < n → f i < 2 ^ 31) → (∀ i, i < n → g i < 2 ^ 31) → spL (fun a => nI (f a)) (fun a => nI (g a)) n = lN (sumN n (fun i => f i * g i))
  | 0, _, _ => rfl
  | n + 1, h1, h2 => by
    rw [sumN_s, ← lN_add, ← spL_eq n (fun i hi => h1 i (by omega)) (fun i hi => h2 i (by omega)), ← lN_mul, ← nI_l (h1 n (by omega)), ← nI_l (h2 n (by omega))]
    rfl
theorem ab_sub {x s : Nat} (hx : x < 2 ^ 62) (hs : s < 2 ^ 62) : ∃ A : Nat, A < 2 ^ 63 ∧ abL (lN x - lN s) = lN A := by
  by_cases h : s ≤ x
  · refine ⟨x - s, by omega, ?_⟩
    rw [lN_sub h]
    unfold abL
    rw [cE_t (show (0 : Int64) ≤ lN (x - s) from (pk_lLE (a := 0) (b := x - s) (by omega) (by omega)).mpr (by omega))]
  · refine ⟨s - x, by omega, ?_⟩
    have e : lN x - lN s = -lN (s - x) := by
      rw [← lN_sub (show x ≤ s by omega)]
      simp
    rw [e]
    unfold abL
    have hn : ¬ (0 : Int64) ≤ -lN (s - x) := by
      rw [Int64.le_iff_toInt_le]
      have e2 : (-lN (s - x)).toInt = -(((s - x : Nat)) : Int) := by
        rw [Int64.toInt_neg, pk_lT (by omega)]
        exact Int.bmod_eq_of_le (by omega) (by omega)
      rw [e2]
      have : (0 : Int64).toInt = 0 := rfl
      omega
    rw [cE_f hn]
    simp
noncomputable def N2 (k : cK) (p q : Nat) : Nat := cnt (k_n k) (bth k p q)
noncomputable def A2 (k : cK) (p q : Nat) : Nat := cnt (k_n k) (bthA k p q)
noncomputable def S2 (k : cK) (p q : Nat) : Nat := sumN 5 (fun b => cnt (k_n k) (bthL k p q b) * cnt (k_n k) (bthM k p q b))
def bthB (k : cK) (p q b : Nat) : Nat → Prop := fun r => bth k p q r ∧ k_gv k p r = nI b ∧ k_gv k q r = nI b
theorem N2_L (k : cK) (p q : Nat) : sumN 5 (fun b => cnt (k_n k) (bthL k p q b)) = N2 k p q := cnt_part (v := k_gv k p) (k_n k) (fun r h => h.1)
theorem N2_M (k : cK) (p q : Nat) : sumN 5 (fun b => cnt (k_n k) (bthM k p q b)) = N2 k p q := cnt_part (v := k_gv k q) (k_n k) (fun r h => h.2)
theorem A2_B (k : cK) (p q : Nat) : sumN 5 (fun b => cnt (k_n k) (bthB k p q b)) = A2 k p q := by
  unfold A2
  rw [← cnt_part (P := bthA k p q) (v := k_gv k p) (k_n k) (fun r h => h.1.1)]
  refine sumN_c 5 (fun b _ => cnt_c _ (fun r _ => ?_))
  constructor
  · rintro ⟨h1, h2, h3⟩
    exact ⟨⟨h1, h2.trans h3.symm⟩, h2⟩
  · rintro ⟨⟨h1, h2⟩, h3⟩
    exact ⟨h1, h3, h2.symm.trans h3⟩
theorem S2_le (k : cK) (p q : Nat) : S2 k p q ≤ N2 k p q * N2 k p q := by
  have h := sum_prod (f := fun b => cnt (k_n k) (bthL k p q b)) (g := fun b => cnt (k_n k) (bthM k p q b)) 5
  rw [N2_L, N2_M] at h
  exact h
theorem sN2_eq (k : cK) (p q : Nat) (hn : k_n k ≤ 40) : sN2 k p q = lN (S2 k p q) := spL_eq 5 (fun i _ => by have := cnt_le (bthL k p q i) (k_n k); omega) (fun i _ => by have := cnt_le (bthM k p q i) (k_n k); omega)
theorem N2_le (k : cK) (p q : Nat) (hn : k_n k ≤ 40) : N2 k p q ≤ 40 := by have := cnt_le (bth k p q) (k_n k); unfold N2; omega
theorem A2_le (k : cK) (p q : Nat) (hn : k_n k ≤ 40) : A2 k p q ≤ 40 := by have := cnt_le (bthA k p q) (k_n k); unfold A2; omega
theorem ov2_eq (k : cK) (p q : Nat) (hn : k_n k ≤ 40) : ov2 k p q = lN (N2 k p q * A2 k p q) - lN (S2 k p q) := by
  have h1 := N2_le k p q hn
  have h2 := A2_le k p q hn
  unfold ov2
  rw [sN2_eq k p q hn, ← lN_mul]
  rw [show cnt (k_n k) (bth k p q) = N2 k p q from rfl, show cnt (k_n k) (bthA k p q) = A2 k p q from rfl, nI_l (by omega), nI_l (by omega)]
theorem un2_eq (k : cK) (p q : Nat) (hn : k_n k ≤ 40) : un2 k p q = lN (N2 k p q * N2 k p q - S2 k p q) := by
  have h1 := N2_le k p q hn
  unfold un2
  rw [sN2_eq k p q hn, show cnt (k_n k) (bth k p q) = N2 k p q from rfl, nI_l (by omega), lN_mul, lN_sub (S2_le k p q)]
/-- what an agreement answers: how it ends (0, 1, 2), and the number -/
noncomputable def S_part (x : Int32) (n a o u : Int64) : Nat × Int64 := cE (x = 2) (0, n) (cE (x = 3) (0, a) (cE (u = 0) (2, 0) (0, cE (x = 0) (o / dvL o u) (u / dvL o u))))
noncomputable def S_agree (k : cK) (p q x : Int32) : Nat × Int64 := cE (ix p 8 ∧ ix q 8 ∧ ¬ p = q ∧ ix x 4) (S_part x (lN (N2 k (tN p) (tN q))) (lN (A2 k (tN p) (tN q))) (ov2 k (tN p) (tN q)) (un2 k (tN p) (tN q))) (1, 0)
abbrev qT (k : cK) (s : Nat × Int64) : Option Value → aw_H → Prop := fun v C => v = some (.long s.2) ∧ ∃ a y, C = yC (nK k) a y ∧ Rl k a ∧ y_th y = nI s.1
theorem gv_lt {x : Int32} (h : x = -1 ∨ ix x 5) : x < 0 ↔ ¬ ix x 5 := by
  rcases h with rfl | h
  · constructor
    · intro _; exact ix_neg (by decide) (by decide)
    · intro _; decide
  · constructor
    · intro q _; exact ix_neg q (by decide) h
    · intro q; exact absurd h q
theorem c4_agree (l : Launch) (d : Nat) (k : cK) (a : mA) (y : mZ) (p q x : Int32) (w : WF k) (R : Rl k a) : SMet l m_X4_agree (d + 2) [.ref 0, .int p, .int q, .int x] (yC (nK k) a y) (qT k (S_agree k p q x)) := by
  have hn := w.n
  refine SMet_of 14 (by decide) (Nat.le_of_ble_eq_true rfl) (t_X4_agree_0 _ _ _ ?_)
  have bad : ¬ (ix p 8 ∧ ix q 8 ∧ ¬ p = q ∧ ix x 4) → k_X4_agree_33 l (fun _ _ _ _ => False) (d + 2) (qT k (S_agree k p q x)) (aw_en [.ref 0, .int p, .int q, .int x] ++ List.replicate 14 none) [.ref 0] (yC (nK k) a y) := by
    intro h
    rw [S_agree, cE_f h]
    exact br_f (by decide) ⟨rfl, a, y_sth y 1, rfl, R, rfl⟩
  refine ⟨_, c4_isPerson l d _ _, ?_⟩
  rintro _ _ ⟨rfl, rfl⟩
  refine br_b (fun c => bad (fun h => c h.1)) (fun c => ⟨_, c4_isPerson l d _ _, ?_⟩)
  rintro _ _ ⟨rfl, rfl⟩
  refine br_b (fun c2 => bad (fun h => c2 h.2.1)) (fun c2 => ⟨fun c3 => bad (fun h => h.2.2.1 c3), fun c3 => ⟨_, c4_inX l (d + 1) _ _ 3 (n := 4) (by decide) (by decide), ?_⟩⟩)
  rintro _ _ ⟨rfl, rfl⟩
  refine br_b (fun c4 => bad (fun h => c4 h.2.2.2)) (fun c4 => ?_)
  rw [S_agree, cE_t ⟨c, c2, c3, c4⟩]
  obtain ⟨P, hP, rfl⟩ := c
  obtain ⟨Q, hQ, rfl⟩ := c2
  rw [tN_n (show P < 1000 by omega), tN_n (show Q < 1000 by omega)]
  refine br_t (by decide) ?_
  have hN := N2_le k P Q hn
  have hA := A2_le k P Q hn
  have hS := S2_le k P Q
  have hNN : N2 k P Q * N2 k P Q ≤ 40 * 40 := Nat.mul_le_mul hN hN
  have hNA : N2 k P Q * A2 k P Q ≤ 40 * 40 := Nat.mul_le_mul hN hA
  -- labels
  have key : ∀ b, b ≤ 5 → ∀ (j11 j13 j15 j16 j17 : Option Value), SW l m_X4_agree none (fun _ _ _ _ => False) (d + 2) 0 0 (qT k (S_part x (lN (N2 k P Q)) (lN (A2 k P Q)) (ov2 k P Q) (un2 k P Q))) 58 [some (.ref 0), some (.int (nI P)), some (.int (nI Q)), some (.int x), some (.long (lN (sumN b (fun b => cnt (k_n k) (bthL k P Q b))))), none, some (.long (lN (sumN b (fun b => cnt (k_n k) (bthB k P Q b))))), none, some (.long (lN (sumN b (fun b => cnt (k_n k) (bthL k P Q b) * cnt (k_n k) (bthM k P Q b))))), none, some (.int (nI b)), j11, none, j13, none, j15, j16, j17] [] (yC (nK k) a (y_sth y 0)) := by
    refine aw_up 5 _ ?_ ?_
    · intro j11 j13 j15 j16 j17
      refine t_X4_agree_58 _ _ _ (br_t (nI_le (Nat.le_refl _) (by decide)) ?_)
      rw [N2_L, A2_B, show sumN 5 (fun b => cnt (k_n k) (bthL k P Q b) * cnt (k_n k) (bthM k P Q b)) = S2 k P Q from rfl]
      refine ⟨fun c5 => ?_, fun c5 => ⟨fun c6 => ?_, fun c6 => ?_⟩⟩
      · rw [S_part, cE_t c5]
        exact ⟨rfl, a, _, rfl, R, rfl⟩
      · rw [S_part, cE_f c5, cE_t c6]
        exact ⟨rfl, a, _, rfl, R, rfl⟩
      · rw [S_part, cE_f c5, cE_f c6]
        have cu := c4_cut l (d + 1) k a (y_sth y 0) (lN (N2 k P Q * A2 k P Q) - lN (S2 k P Q)) (N2 k P Q * N2 k P Q - S2 k P Q) x (ab_sub (by omega) (by omega)) (by omega)
        rw [← lN_sub hS, ← lN_mul, ← lN_mul] at cu
        refine ⟨_, cu, ?_⟩
        rw [ov2_eq k P Q hn, un2_eq k P Q hn, ← lN_sub hS, ← lN_mul, ← lN_mul]
        rintro _ _ (⟨h1, rfl, rfl⟩ | ⟨h1, rfl, rfl⟩)
        · have e0 : lN (N2 k P Q) * lN (N2 k P Q) - lN (S2 k P Q) = 0 := by
            rw [lN_mul, lN_sub hS, h1]
            rfl
          rw [cE_t e0]
          exact ⟨rfl, a, _, rfl, R, rfl⟩
        · have e0 : ¬ lN (N2 k P Q) * lN (N2 k P Q) - lN (S2 k P Q) = 0 := by
            rw [lN_mul, lN_sub hS]
            exact lN_ne h1 (by omega)
          rw [cE_f e0]
          exact ⟨rfl, a, _, rfl, R, rfl⟩
    · intro b hb ih j11 j13 j15 j16 j17
      simp only [nI_succ, sumN_s, ← lN_add, ← lN_mul] at ih
      refine t_X4_agree_58 _ _ _ (br_f (nI_ge (b := 5) hb (by decide)) ?_)
      generalize hz1 : lN (sumN b (fun b => cnt (k_n k) (bthL k P Q b))) = z1 at ih ⊢
      generalize hz2 : lN (sumN b (fun b => cnt (k_n k) (bthB k P Q b))) = z2 at ih ⊢
      generalize hz3 : lN (sumN b (fun b => cnt (k_n k) (bthL k P Q b) * cnt (k_n k) (bthM k P Q b))) = z3 at ih ⊢
      have inner : ∀ r, r ≤ k_n k → ∀ (j16 j17 : Option Value), SW l m_X4_agree none (fun _ _ _ _ => False) (d + 2) 0 0 (qT k (S_part x (lN (N2 k P Q)) (lN (A2 k P Q)) (ov2 k P Q) (un2 k P Q))) 73 [some (.ref 0), some (.int (nI P)), some (.int (nI Q)), some (.int x), some (.long z1), none, some (.long (z2 + lN (cnt r (bthB k P Q b)))), none, some (.long z3), none, some (.int (nI b)), some (.long (lN (cnt r (bthL k P Q b)))), none, some (.long (lN (cnt r (bthM k P Q b)))), none, some (.int (nI r)), j16, j17] [] (yC (nK k) a (y_sth y 0)) := by
        refine aw_up (k_n k) _ ?_ ?_
        · intro j16 j17
          exact t_X4_agree_73 _ _ _ (br_t (nI_le (Nat.le_refl _) (by omega)) (ih _ _ _ _ _))
        · intro r hr ih2 j16 j17
          simp only [nI_succ] at ih2
          refine t_X4_agree_73 _ _ _ (br_f (nI_ge (b := k_n k) hr (by omega)) ⟨8 * r + P, ix8 r P, by omega, ⟨8 * r + Q, ix8 r Q, by omega, ?_⟩⟩)
          rw [R.sa (by omega) hP, R.sa (by omega) hQ]
          have gP := w.gv hP (show r < 40 by omega)
          have gQ := w.gv hQ (show r < 40 by omega)
          have s1 : (k_gv k P r + 1 - 1 < 0) ↔ ¬ ix (k_gv k P r) 5 := by rw [sub1]; exact gv_lt gP
          have s2 : (k_gv k Q r + 1 - 1 < 0) ↔ ¬ ix (k_gv k Q r) 5 := by rw [sub1]; exact gv_lt gQ
          have no : ¬ bth k P Q r → ∀ j16 j17 : Option Value, SW l m_X4_agree none (fun _ _ _ _ => False) (d + 2) 0 0 (qT k (S_part x (lN (N2 k P Q)) (lN (A2 k P Q)) (ov2 k P Q) (un2 k P Q))) 73 [some (.ref 0), some (.int (nI P)), some (.int (nI Q)), some (.int x), some (.long z1), none, some (.long (z2 + lN (cnt r (bthB k P Q b)))), none, some (.long z3), none, some (.int (nI b)), some (.long (lN (cnt r (bthL k P Q b)))), none, some (.long (lN (cnt r (bthM k P Q b)))), none, some (.int (nI r + 1)), j16, j17] [] (yC (nK k) a (y_sth y 0)) := fun h j16 j17 => by
            have h2 := ih2 j16 j17
            rw [cnt_f (P := bthB k P Q b) (fun q => h q.1), cnt_f (P := bthL k P Q b) (fun q => h q.1), cnt_f (P := bthM k P Q b) (fun q => h q.1)] at h2
            exact h2
          refine ⟨fun c5 => no (fun h => (s1.mp c5) h.1) _ _, fun c5 => ⟨fun c6 => no (fun h => (s2.mp c6) h.2) _ _, fun c6 => ?_⟩⟩
          have hb2 : bth k P Q r := ⟨Classical.byContradiction fun q => c5 (s1.mpr q), Classical.byContradiction fun q => c6 (s2.mpr q)⟩
          have e1 : k_gv k P r + 1 - 1 = k_gv k P r := sub1 _
          have e2 : k_gv k Q r + 1 - 1 = k_gv k Q r := sub1 _
          refine ⟨fun c7 => ⟨fun c8 => br_t c7 (br_t c8 ?_), fun c8 => br_t c7 (br_f c8 ?_)⟩, fun c7 => ⟨fun c8 => br_f c7 ?_, fun c8 => br_f c7 ?_⟩⟩
          · have f1 : k_gv k P r = nI b := e1.symm.trans c7
            have f2 : k_gv k Q r = nI b := e2.symm.trans c8
            rw [cnt_t (show bthB k P Q b r from ⟨hb2, f1, f2⟩), cnt_t (show bthL k P Q b r from ⟨hb2, f1⟩), cnt_t (show bthM k P Q b r from ⟨hb2, f2⟩), ← lN_1, ← lN_1, ← lN_1, ← Int64.add_assoc] at ih2
            exact ih2 _ _
          · have f1 : k_gv k P r = nI b := e1.symm.trans c7
            have f2 : ¬ k_gv k Q r = nI b := fun h => c8 (e2.trans h)
            rw [cnt_f (P := bthB k P Q b) (fun h => f2 h.2.2), cnt_t (show bthL k P Q b r from ⟨hb2, f1⟩), cnt_f (P := bthM k P Q b) (fun h => f2 h.2), ← lN_1, ← Int64.add_zero (z2 + lN (cnt r (bthB k P Q b))), ← Int64.add_zero (lN (cnt r (bthM k P Q b)))] at ih2
            exact ih2 _ _
          · have f1 : ¬ k_gv k P r = nI b := fun h => c7 (e1.trans h)
            have f2 : k_gv k Q r = nI b := e2.symm.trans c8
            rw [cnt_f (P := bthB k P Q b) (fun h => f1 h.2.1), cnt_f (P := bthL k P Q b) (fun h => f1 h.2), cnt_t (show bthM k P Q b r from ⟨hb2, f2⟩), ← lN_1, ← Int64.add_zero (z2 + lN (cnt r (bthB k P Q b))), ← Int64.add_zero (lN (cnt r (bthL k P Q b)))] at ih2
            exact ih2 _ _
          · have f1 : ¬ k_gv k P r = nI b := fun h => c7 (e1.trans h)
            have f2 : ¬ k_gv k Q r = nI b := fun h => c8 (e2.trans h)
            rw [cnt_f (P := bthB k P Q b) (fun h => f1 h.2.1), cnt_f (P := bthL k P Q b) (fun h => f1 h.2), cnt_f (P := bthM k P Q b) (fun h => f2 h.2), ← Int64.add_zero (z2 + lN (cnt r (bthB k P Q b))), ← Int64.add_zero (lN (cnt r (bthL k P Q b))), ← Int64.add_zero (lN (cnt r (bthM k P Q b)))] at ih2
            exact ih2 _ _
      have h0 := inner 0 (Nat.zero_le _) j16 j17
      rw [show z2 + lN (cnt 0 (bthB k P Q b)) = z2 from Int64.add_zero z2] at h0
      exact h0
  exact key 0 (Nat.zero_le _) none none none none none
