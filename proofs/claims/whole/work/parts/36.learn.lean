/-! learning -/
def etA (k : cK) (g : vF) (p : Nat) : Nat → Prop := fun r => k_gv k p r ≠ -1 ∧ g r ≠ -1
def etH (k : cK) (g : vF) (p : Nat) : Nat → Prop := fun r => k_gv k p r ≠ -1 ∧ g r ≠ -1 ∧ k_gv k p r = g r
noncomputable def etI (k : cK) (g : vF) (p : Nat) : Int32 := cI (nI (cnt (k_n k) (etA k g p)) = 0) 1 (1 + 9 * nI (cnt (k_n k) (etH k g p)) / nI (cnt (k_n k) (etA k g p)))
theorem etI_c (k : cK) {g h : vF} (p : Nat) (e : ∀ r, r < k_n k → g r = h r) : etI k g p = etI k h p := by
  unfold etI
  rw [cnt_c (k_n k) (P := etA k g p) (P' := etA k h p) (fun i hi => by unfold etA; rw [e i hi]), cnt_c (k_n k) (P := etH k g p) (P' := etH k h p) (fun i hi => by unfold etH; rw [e i hi])]
theorem c_earnedTrust (l : Launch) (d : Nat) (k : cK) (z : cZ) {p : Nat} (hp : p < 8) (w : WF k) : SMet l m_X3_earnedTrust (d + 1) [.ref 0, .int (nI p)] (xC k z) (rI k z (etI k (z_de z) p)) := by
  have hn := w.n
  refine SMet_of 4 (by decide) (Nat.le_of_ble_eq_true rfl) (t_X3_earnedTrust_0 _ _ _ ?_)
  refine aw_up (k_n k) (fun r => ∀ j, SW l m_X3_earnedTrust none _ (d + 1) 0 0 _ 7 [some (.ref 0), some (.int (nI p)), some (.int (nI (cnt r (etA k (z_de z) p)))), some (.int (nI (cnt r (etH k (z_de z) p)))), some (.int (nI r)), j] [] (xC k z)) ?_ ?_ 0 (Nat.zero_le _) none
  · intro j
    refine t_X3_earnedTrust_7 _ _ _ ⟨_, c_size l d k z, ?_⟩
    rintro _ _ ⟨rfl, rfl⟩
    refine br_t (nI_le (Nat.le_refl _) (by omega)) ⟨fun c => ⟨?_, rfl⟩, fun c => ⟨c, ?_, rfl⟩⟩
    · rw [etI, cI_t c]
    · rw [etI, cI_f c]
  · intro r hr ih j
    simp only [nI_succ] at ih
    refine t_X3_earnedTrust_7 _ _ _ ⟨_, c_size l d k z, ?_⟩
    rintro _ _ ⟨rfl, rfl⟩
    refine br_f (nI_ge hr (by omega)) ⟨_, c_given l d k z hp (by omega), ?_⟩
    rintro _ _ ⟨rfl, rfl⟩
    refine ⟨fun c => ?_, fun c => ⟨r, rfl, by omega, ⟨fun c2 => ?_, fun c2 => ⟨r, rfl, by omega, ⟨fun c3 => ?_, fun c3 => ?_⟩⟩⟩⟩⟩
    · rw [cnt_f (P := etA k (z_de z) p) (fun h => h.1 c), cnt_f (P := etH k (z_de z) p) (fun h => h.1 c)] at ih
      exact ih _
    · rw [cnt_f (P := etA k (z_de z) p) (fun h => h.2 c2), cnt_f (P := etH k (z_de z) p) (fun h => h.2.1 c2)] at ih
      exact ih _
    · rw [cnt_t (P := etA k (z_de z) p) ⟨c, c2⟩, cnt_t (P := etH k (z_de z) p) ⟨c, c2, c3⟩, nI_succ, nI_succ] at ih
      exact ih _
    · rw [cnt_t (P := etA k (z_de z) p) ⟨c, c2⟩, cnt_f (P := etH k (z_de z) p) (fun h => c3 h.2.2), nI_succ] at ih
      exact ih _
noncomputable def etV (k : cK) : vF := fun p => etI k (decI k) p
abbrev s_tr (k : cK) (f : vF) : cK := (k.1, k.2.1, k_ex k, f, k_bd k)
def chgN (k : cK) (n : Nat) : Prop := ∃ p, p < n ∧ etV k p ≠ k_tr k p
def chg (k : cK) : Prop := chgN k 8
noncomputable def lrK (k : cK) : cK := s_tr k (va_cpy (etV k) (k_tr k) 0 0 8)
theorem bI_or0 (b : Prop) : bI b ||| 0 = bI b := by
  by_cases h : b
  · rw [bI_t h]; decide
  · rw [bI_f h]; decide
theorem bI_or1 (b : Prop) : bI b ||| 1 = 1 := by
  by_cases h : b
  · rw [bI_t h]; decide
  · rw [bI_f h]; decide
theorem cpy_c {f g h : vF} {n : Nat} (e : ∀ p, p < n → f p = g p) : va_cpy f h 0 0 n = va_cpy g h 0 0 n := by
  funext j
  unfold va_cpy
  by_cases q : 0 ≤ j ∧ j < 0 + n
  · rw [if_pos q, if_pos q, e _ (by omega)]
  · rw [if_neg q, if_neg q]
theorem c_learnRound (l : Launch) (d : Nat) (k : cK) (z : cZ) (w : WF k) : SMet l m_X3_learnRound (d + 4) [.ref 0] (xC k z) (fun v C => v = some (.int (bI (chg k))) ∧ ∃ z', C = xC (lrK k) z') := by
  have hn := w.n
  refine SMet_of 2 (by decide) (Nat.le_of_ble_eq_true rfl) (t_X3_learnRound_0 _ _ _ ?_)
  have loop2 : ∀ p, p ≤ 8 → ∀ (z : cZ), (∀ r, r < k_n k → z_de z r = decI k r) → (∀ q, q < p → z_fr z q = etV k q) → SW l m_X3_learnRound none (fun _ _ _ _ => False) (d + 4) 0 0 (fun v C => v = some (.int (bI (chg k))) ∧ ∃ z', C = xC (lrK k) z') 34 [some (.ref 0), some (.int (bI (chgN k p))), some (.int (nI p))] [] (xC k z) := by
    refine aw_up 8 _ ?_ ?_
    · intro z hd hf
      refine t_X3_learnRound_34 _ _ _ (br_t (nI_le (Nat.le_refl _) (by decide)) ?_)
      refine ⟨8, rfl, rfl, rfl, by decide, by decide, bI_01, rfl, (z.1, z.2.1, z.2.2.1, z.2.2.2), ?_⟩
      have e : va_cpy (z_fr z) (k_tr k) 0 0 8 = va_cpy (etV k) (k_tr k) 0 0 8 := cpy_c hf
      show xC (s_tr k (va_cpy (z_fr z) (k_tr k) 0 0 8)) z = xC (lrK k) z
      rw [e]
      rfl
    · intro p hp ih z hd hf
      simp only [nI_succ] at ih
      refine t_X3_learnRound_34 _ _ _ (br_f (nI_ge (b := 8) hp (by decide)) ⟨_, c_earnedTrust l (d + 2) k z hp w, ?_⟩)
      rintro _ _ ⟨rfl, rfl⟩
      have e : etI k (z_de z) p = etV k p := etI_c k p hd
      rw [e]
      have hf2 : ∀ q, q < p + 1 → upd (z_fr z) p (etV k p) q = etV k q := fun q hq => by
        by_cases h : q = p
        · rw [h, pk_us]
        · rw [pk_un h, hf q (by omega)]
      have ih2 := ih (z.1, z.2.1, z.2.2.1, upd (z_fr z) p (etV k p)) hd hf2
      refine ⟨p, rfl, hp, ⟨p, rfl, hp, ⟨p, rfl, hp, ⟨fun c => ?_, fun c => ?_⟩⟩⟩⟩
      · have c2 : etV k p = k_tr k p := by rw [← hf2 p (by omega)]; exact c
        have e2 : chgN k (p + 1) ↔ chgN k p := ⟨fun ⟨q, h1, h2⟩ => ⟨q, by
            have : q ≠ p := fun e => h2 (by rw [e]; exact c2)
            omega, h2⟩, fun ⟨q, h1, h2⟩ => ⟨q, by omega, h2⟩⟩
        rw [bI_c e2] at ih2
        exact ih2
      · have c2 : ¬ etV k p = k_tr k p := by rw [← hf2 p (by omega)]; exact c
        rw [bI_t (show chgN k (p + 1) from ⟨p, by omega, c2⟩)] at ih2
        exact ih2
  have loop1 : ∀ r, r ≤ k_n k → ∀ (z : cZ) (j : Option Value), (∀ q, q < r → z_de z q = decI k q) → SW l m_X3_learnRound none (fun _ _ _ _ => False) (d + 4) 0 0 (fun v C => v = some (.int (bI (chg k))) ∧ ∃ z', C = xC (lrK k) z') 2 [some (.ref 0), some (.int (nI r)), j] [] (xC k z) := by
    refine aw_up (k_n k) _ ?_ ?_
    · intro z j hd
      refine t_X3_learnRound_2 _ _ _ ⟨_, c_size l (d + 3) k z, ?_⟩
      rintro _ _ ⟨rfl, rfl⟩
      refine br_t (nI_le (Nat.le_refl _) (by omega)) ?_
      have h := loop2 0 (Nat.zero_le _) z hd (fun q hq => by omega)
      rw [bI_f (show ¬ chgN k 0 from fun ⟨q, h1, h2⟩ => by omega)] at h
      exact h
    · intro r hr ih z j hd
      simp only [nI_succ] at ih
      refine t_X3_learnRound_2 _ _ _ ⟨_, c_size l (d + 3) k z, ?_⟩
      rintro _ _ ⟨rfl, rfl⟩
      refine br_f (nI_ge hr (by omega)) ⟨_, c_decide l d k z (by omega) w, ?_⟩
      rintro _ _ ⟨rfl, f, rfl⟩
      refine ⟨r, rfl, by omega, ih (z.1, f, upd (z_de z) r (decI k r), z_fr z) j (fun q hq => ?_)⟩
      by_cases h : q = r
      · rw [h]
        exact pk_us
      · exact (pk_un h).trans (hd q (by omega))
  exact loop1 0 (Nat.zero_le _) z none (fun q hq => by omega)
/-! WF through learning -/
theorem cnt_mono {P P' : Nat → Prop} : ∀ n, (∀ i, i < n → P i → P' i) → cnt n P ≤ cnt n P'
  | 0, _ => Nat.le_refl _
  | n + 1, h => by
    have ih := cnt_mono n (fun i hi => h i (by omega))
    by_cases q : P n
    · rw [cnt_t q, cnt_t (h n (by omega) q)]
      omega
    · rw [cnt_f q]
      by_cases q2 : P' n
      · rw [cnt_t q2]
        omega
      · rw [cnt_f q2]
        exact ih
theorem etI_le (k : cK) (g : vF) (p : Nat) (hn : k_n k ≤ 40) : ∃ t : Nat, t ≤ 10 ∧ etI k g p = nI t := by
  have h1 := cnt_le (etA k g p) (k_n k)
  have h2 : cnt (k_n k) (etH k g p) ≤ cnt (k_n k) (etA k g p) := cnt_mono _ (fun i _ h => ⟨h.1, h.2.1⟩)
  unfold etI
  by_cases c : nI (cnt (k_n k) (etA k g p)) = 0
  · exact ⟨1, by decide, by rw [cI_t c]; rfl⟩
  · rw [cI_f c]
    have h0 : 0 < cnt (k_n k) (etA k g p) := Nat.pos_of_ne_zero (fun e => c (by rw [e]; rfl))
    refine ⟨1 + 9 * cnt (k_n k) (etH k g p) / cnt (k_n k) (etA k g p), ?_, ?_⟩
    · have : 9 * cnt (k_n k) (etH k g p) / cnt (k_n k) (etA k g p) ≤ 9 := by
        refine Nat.div_le_of_le_mul ?_
        rw [Nat.mul_comm (cnt (k_n k) (etA k g p))]
        exact Nat.mul_le_mul_left 9 h2
      omega
    · rw [show (9 : Int32) = nI 9 from rfl, pk_mul, pk_div (by omega) h0 (by omega), show (1 : Int32) = nI 1 from rfl, nI_add]
theorem WF_tr {k : cK} (w : WF k) (f : vF) (h : ∀ p, p < 8 → ∃ t : Nat, t ≤ 10 ∧ f p = nI t) : WF (s_tr k f) := ⟨w.1, w.2.1, w.2.2.1, w.2.2.2.1, w.2.2.2.2.1, h, w.2.2.2.2.2.2.1, w.2.2.2.2.2.2.2.1, w.2.2.2.2.2.2.2.2.1, w.2.2.2.2.2.2.2.2.2.1, w.2.2.2.2.2.2.2.2.2.2⟩
theorem cpy_at {f g : vF} {n p : Nat} (h : p < n) : va_cpy f g 0 0 n p = f p := by
  rw [pk_cpy_in (by omega) (by omega)]
  simp
theorem WF_lr {k : cK} (w : WF k) : WF (lrK k) := WF_tr w _ (fun p hp => by
  rw [cpy_at hp]
  exact etI_le k _ p w.n)
theorem WF_tr10 {k : cK} (w : WF k) : WF (s_tr k (flF (k_tr k) 10 8)) := WF_tr w _ (fun p hp => ⟨10, by decide, by unfold flF; rw [if_pos hp]; rfl⟩)
/-- so many rounds more at most -/
noncomputable def lnS : Nat → Nat → cK → Int32 × cK
  | 0, r, k => (nI r, lrK k)
  | m + 1, r, k => cE (chg k) (lnS m (r + 1) (lrK k)) (nI r, lrK k)
noncomputable def S_learn (k : cK) (n : Int32) : Int32 × cK := cE (¬ n < 1 ∧ n ≤ 20) (lnS (tN n - 1) 1 (s_tr k (flF (k_tr k) 10 8))) (-102, k)
theorem c_learn (l : Launch) (d : Nat) (k : cK) (z : cZ) (n : Int32) (w : WF k) : SMet l m_X3_learn (d + 5) [.ref 0, .int n] (xC k z) (rS (S_learn k n)) := by
  refine SMet_of 1 (by decide) (Nat.le_of_ble_eq_true rfl) (t_X3_learn_0 _ _ _ ?_)
  refine ⟨fun c => ?_, fun c => ⟨fun c2 => ?_, fun c2 => ?_⟩⟩
  · rw [S_learn, cE_f (fun h => h.1 c)]
    exact ⟨rfl, _, rfl⟩
  · rw [S_learn, cE_t ⟨c, c2⟩]
    have c' : ¬ n < 1 := c
    have c2' : n ≤ 20 := c2
    obtain ⟨N, hN, rfl⟩ := ix_of (n := 21) (x := n) (fun h => c' (by
      rw [Int32.lt_iff_toInt_lt] at h ⊢
      exact Int.lt_trans h (by decide))) (fun h => by
      rw [Int32.le_iff_toInt_le] at h c2'
      exact absurd (Int.le_trans h c2') (by decide)) (by decide)
    have hN1 : 1 ≤ N := Nat.pos_of_ne_zero (fun e => c (by rw [e]; decide))
    rw [tN_n (show N < 1000 by omega)]
    refine ⟨_, c_fill l (d + 4) (xC k z) (a := 5) (n := 8) (f := k_tr k) 10 rfl (by decide), ?_⟩
    rintro _ _ ⟨rfl, rfl⟩
    have key : ∀ m r, r + m = N → ∀ (k1 : cK) (z1 : cZ), WF k1 → lnS (N - 1) 1 (s_tr k (flF (k_tr k) 10 8)) = lnS m r k1 → SW l m_X3_learn none (fun _ _ _ _ => False) (d + 5) 0 0 (rS (lnS (N - 1) 1 (s_tr k (flF (k_tr k) 10 8)))) 25 [some (.ref 0), some (.int (nI N)), some (.int (nI r))] [] (xC k1 z1) := by
      intro m
      induction m with
      | zero =>
        intro r hr k1 z1 w1 e
        have : r = N := by omega
        subst this
        rw [e]
        refine t_X3_learn_25 _ _ _ (br_t (nI_le (Nat.le_refl _) (by omega)) ⟨_, c_learnRound l d k1 z1 w1, ?_⟩)
        rintro _ _ ⟨rfl, z2, rfl⟩
        exact ⟨rfl, _, rfl⟩
      | succ m ih =>
        intro r hr k1 z1 w1 e
        refine t_X3_learn_25 _ _ _ (br_f (nI_ge (show r < N by omega) (by omega)) ⟨_, c_learnRound l d k1 z1 w1, ?_⟩)
        rintro _ _ ⟨rfl, z2, rfl⟩
        refine br_b (fun c => ?_) (fun c => ?_)
        · rw [e]
          unfold lnS
          rw [cE_f c]
          exact ⟨rfl, _, rfl⟩
        · have h := ih (r + 1) (by omega) (lrK k1) z2 (WF_lr w1) (by
            rw [e]
            conv => lhs; unfold lnS
            rw [cE_t c])
          rw [nI_succ] at h
          exact h
    exact key (N - 1) 1 (by omega) (s_tr k (flF (k_tr k) 10 8)) z (WF_tr10 w) rfl
  · rw [S_learn, cE_f (fun h => c2 h.2)]
    exact ⟨rfl, _, rfl⟩
