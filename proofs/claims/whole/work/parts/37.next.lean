/-! next, about -/
noncomputable def ldI (k : cK) (r : Nat) : Int32 := (ldF (vtI k r) 5).1 - (ldF (vtI k r) 5).2
noncomputable def nxF (k : cK) (p : Nat) : Nat → Int32 × Int32 × Int32
  | 0 => (-1, 0, 0)
  | r + 1 => cE (k_gv k p r = -1 ∧ k_kn k r = -1) (cE ((nxF k p r).1 = -1 ∨ ldI k r < (nxF k p r).2.1 ∨ (ldI k r = (nxF k p r).2.1 ∧ nI (goN k r) < (nxF k p r).2.2)) (nI r, ldI k r, nI (goN k r)) (nxF k p r)) (nxF k p r)
noncomputable def S_next (k : cK) (p : Int32) : Int32 × cK := cE (ix p 8) (cE (brd k (tN p)) (-1, k) ((nxF k (tN p) (k_n k)).1, k)) (-101, k)
theorem c_next (l : Launch) (d : Nat) (k : cK) (z : cZ) (p : Int32) (w : WF k) : SMet l m_X3_next (d + 3) [.ref 0, .int p] (xC k z) (rS (S_next k p)) := by
  have hn := w.n
  refine SMet_of 6 (by decide) (Nat.le_of_ble_eq_true rfl) (t_X3_next_0 _ _ _ ?_)
  refine ⟨_, c_isPerson l (d + 2) _ _, ?_⟩
  rintro _ _ ⟨rfl, rfl⟩
  refine br_b (fun c => ?_) (fun c => ?_)
  · rw [S_next, cE_f c]
    exact ⟨rfl, _, rfl⟩
  rw [S_next, cE_t c]
  obtain ⟨P, hP, rfl⟩ := c
  rw [tN_n (show P < 1000 by omega)]
  refine ⟨_, c_isBarred l (d + 1) k z hP, ?_⟩
  rintro _ _ ⟨rfl, rfl⟩
  refine br_b (fun c => ?_) (fun c => ?_)
  · rw [cE_f c]
    have key : ∀ r, r ≤ k_n k → ∀ (z : cZ) (j1 j2 : Option Value), SW l m_X3_next none (fun _ _ _ _ => False) (d + 3) 0 0 (rS ((nxF k P (k_n k)).1, k)) 30 [some (.ref 0), some (.int (nI P)), some (.int (nxF k P r).1), some (.int (nxF k P r).2.1), some (.int (nxF k P r).2.2), some (.int (nI r)), j1, j2] [] (xC k z) := by
      refine aw_up (k_n k) _ ?_ ?_
      · intro z j1 j2
        refine t_X3_next_30 _ _ _ ⟨_, c_size l (d + 2) k z, ?_⟩
        rintro _ _ ⟨rfl, rfl⟩
        exact br_t (nI_le (Nat.le_refl _) (by omega)) ⟨rfl, _, rfl⟩
      · intro r hr ih z j1 j2
        simp only [nI_succ, nxF] at ih
        refine t_X3_next_30 _ _ _ ⟨_, c_size l (d + 2) k z, ?_⟩
        rintro _ _ ⟨rfl, rfl⟩
        refine br_f (nI_ge hr (by omega)) ⟨_, c_given l (d + 2) k z hP (by omega), ?_⟩
        rintro _ _ ⟨rfl, rfl⟩
        refine ⟨fun c1 => ⟨_, c_known l (d + 2) k z (by omega), ?_⟩, fun c1 => ?_⟩
        · rintro _ _ ⟨rfl, rfl⟩
          refine ⟨fun c2 => ⟨_, c_countVotes l d k z (by omega) w, ?_⟩, fun c2 => ?_⟩
          · rintro _ _ ⟨rfl, f, rfl, hf⟩
            refine ⟨_, c_leadInTally l (d + 2) k _, ?_⟩
            rintro _ _ ⟨rfl, rfl⟩
            refine ⟨_, c_givenOn l (d + 2) k _ (by omega), ?_⟩
            rintro _ _ ⟨rfl, rfl⟩
            have e : (ldF (z_ta (z_sta z f)) 5).1 - (ldF (z_ta (z_sta z f)) 5).2 = ldI k r := by rw [ldI, ldF_c 5 hf]
            rw [cE_t ⟨c1, c2⟩] at ih
            rw [e]
            refine ⟨fun c3 => ?_, fun c3 => ⟨fun c4 => ?_, fun c4 => ⟨fun c5 => ⟨fun c6 => ?_, fun c6 => ?_⟩, fun c5 => ?_⟩⟩⟩
            · rw [cE_t (Or.inl c3)] at ih
              exact ih _ _ _
            · rw [cE_t (Or.inr (Or.inl c4))] at ih
              exact ih _ _ _
            · rw [cE_f (fun h => h.elim c3 (fun h => h.elim c4 (fun h => absurd h.2 (Int32.not_lt.mpr c6))))] at ih
              exact ih _ _ _
            · rw [cE_t (Or.inr (Or.inr ⟨c5, Int32.not_le.mp c6⟩))] at ih
              exact ih _ _ _
            · rw [cE_f (fun h => h.elim c3 (fun h => h.elim c4 (fun h => c5 h.1)))] at ih
              exact ih _ _ _
          · rw [cE_f (fun h => c2 h.2)] at ih
            exact ih _ _ _
        · rw [cE_f (fun h => c1 h.1)] at ih
          exact ih _ _ _
    exact key 0 (Nat.zero_le _) z none none
  · rw [cE_t c]
    exact ⟨rfl, _, rfl⟩
/-! about -/
noncomputable def sum8 (k : cK) : Nat → Int32
  | 0 => 0
  | p + 1 => sum8 k p + nI (gbN k p)
theorem c_countLabellings (l : Launch) (d : Nat) (k : cK) (z : cZ) (w : WF k) : SMet l m_X3_countLabellings (d + 1) [.ref 0] (xC k z) (rI k z (sum8 k 8)) := by
  refine SMet_of 2 (by decide) (Nat.le_of_ble_eq_true rfl) (t_X3_countLabellings_0 _ _ _ ?_)
  refine aw_up 8 (fun p => SW l m_X3_countLabellings none _ (d + 1) 0 0 _ 4 [some (.ref 0), some (.int (sum8 k p)), some (.int (nI p))] [] (xC k z)) ?_ ?_ 0 (Nat.zero_le _)
  · exact t_X3_countLabellings_4 _ _ _ (br_t (nI_le (Nat.le_refl _) (by decide)) ⟨rfl, rfl⟩)
  · intro p hp ih
    simp only [nI_succ] at ih
    refine t_X3_countLabellings_4 _ _ _ (br_f (nI_ge (b := 8) hp (by decide)) ⟨_, c_givenBy l d k z hp w.n, ?_⟩)
    rintro _ _ ⟨rfl, rfl⟩
    exact ih
noncomputable def dcN (k : cK) : Nat := cnt (k_n k) (fun r => decI k r ≠ -1)
theorem c_countDecided (l : Launch) (d : Nat) (k : cK) (z : cZ) (w : WF k) : SMet l m_X3_countDecided (d + 4) [.ref 0] (xC k z) (rZ k (nI (dcN k))) := by
  have hn := w.n
  refine SMet_of 2 (by decide) (Nat.le_of_ble_eq_true rfl) (t_X3_countDecided_0 _ _ _ ?_)
  refine aw_up (k_n k) (fun r => ∀ z, SW l m_X3_countDecided none _ (d + 4) 0 0 _ 4 [some (.ref 0), some (.int (nI (cnt r (fun r => decI k r ≠ -1)))), some (.int (nI r))] [] (xC k z)) ?_ ?_ 0 (Nat.zero_le _) z
  · intro z
    refine t_X3_countDecided_4 _ _ _ ⟨_, c_size l (d + 3) k z, ?_⟩
    rintro _ _ ⟨rfl, rfl⟩
    exact br_t (nI_le (Nat.le_refl _) (by omega)) ⟨rfl, _, rfl⟩
  · intro r hr ih z
    simp only [nI_succ] at ih
    refine t_X3_countDecided_4 _ _ _ ⟨_, c_size l (d + 3) k z, ?_⟩
    rintro _ _ ⟨rfl, rfl⟩
    refine br_f (nI_ge hr (by omega)) ⟨_, c_decide l d k z (by omega) w, ?_⟩
    rintro _ _ ⟨rfl, f, rfl⟩
    refine ⟨fun c => ?_, fun c => ?_⟩
    · rw [cnt_f (P := fun r => decI k r ≠ -1) (fun h => h c)] at ih
      exact ih _
    · rw [cnt_t (P := fun r => decI k r ≠ -1) c, nI_succ] at ih
      exact ih _
noncomputable def bdN (k : cK) : Nat := cnt 8 (brd k)
theorem c_countBarred (l : Launch) (d : Nat) (k : cK) (z : cZ) : SMet l m_X3_countBarred (d + 2) [.ref 0] (xC k z) (rI k z (nI (bdN k))) := by
  refine SMet_of 2 (by decide) (Nat.le_of_ble_eq_true rfl) (t_X3_countBarred_0 _ _ _ ?_)
  refine aw_up 8 (fun p => SW l m_X3_countBarred none _ (d + 2) 0 0 _ 4 [some (.ref 0), some (.int (nI (cnt p (brd k)))), some (.int (nI p))] [] (xC k z)) ?_ ?_ 0 (Nat.zero_le _)
  · exact t_X3_countBarred_4 _ _ _ (br_t (nI_le (Nat.le_refl _) (by decide)) ⟨rfl, rfl⟩)
  · intro p hp ih
    simp only [nI_succ] at ih
    refine t_X3_countBarred_4 _ _ _ (br_f (nI_ge (b := 8) hp (by decide)) ⟨_, c_isBarred l d k z hp, ?_⟩)
    rintro _ _ ⟨rfl, rfl⟩
    refine br_b (fun c => ?_) (fun c => ?_)
    · rw [cnt_f c] at ih
      exact ih
    · rw [cnt_t c, nI_succ] at ih
      exact ih
/-- a rule that is on says a label -/
def onl (k : cK) (r q : Nat) : Prop := k_on k q ≠ 0 ∧ ix (wI k q r) 5
/-- what the last of the first rules said -/
noncomputable def lsI (k : cK) (r : Nat) : Nat → Int32
  | 0 => -1
  | q + 1 => cI (onl k r q) (wI k q r) (lsI k r q)
def dsq (k : cK) (r q : Nat) : Prop := onl k r q ∧ lsI k r q ≠ -1 ∧ wI k q r ≠ lsI k r q
def dsp (k : cK) (r : Nat) : Prop := ∃ q, q < k_rn k ∧ dsq k r q
theorem c_isDisputed (l : Launch) (d : Nat) (k : cK) (z : cZ) {r : Nat} (hr : r < 40) (w : WF k) : SMet l m_X3_isDisputed (d + 2) [.ref 0, .int (nI r)] (xC k z) (rI k z (bI (dsp k r))) := by
  have hrn := w.rn
  refine SMet_of 3 (by decide) (Nat.le_of_ble_eq_true rfl) (t_X3_isDisputed_0 _ _ _ ?_)
  refine aw_up (k_rn k) (fun q => ∀ j, (∀ q', q' < q → ¬ dsq k r q') → SW l m_X3_isDisputed none _ (d + 2) 0 0 _ 4 [some (.ref 0), some (.int (nI r)), some (.int (lsI k r q)), some (.int (nI q)), j] [] (xC k z)) ?_ ?_ 0 (Nat.zero_le _) none (fun _ h => by omega)
  · intro j hno
    refine t_X3_isDisputed_4 _ _ _ ⟨_, c_bsize l (d + 1) k z, ?_⟩
    rintro _ _ ⟨rfl, rfl⟩
    exact br_t (nI_le (Nat.le_refl _) (by omega)) ⟨Or.inl rfl, by rw [bI_f (fun ⟨q, h1, h2⟩ => hno q h1 h2)], rfl⟩
  · intro q hq ih j hno
    have h6 : q < 6 := by omega
    simp only [nI_succ, lsI] at ih
    refine t_X3_isDisputed_4 _ _ _ ⟨_, c_bsize l (d + 1) k z, ?_⟩
    rintro _ _ ⟨rfl, rfl⟩
    refine br_f (nI_ge hq (by omega)) ⟨_, c_isOn l (d + 1) k z h6 w, ?_⟩
    rintro _ _ ⟨rfl, rfl⟩
    have hno2 : ¬ dsq k r q → ∀ q', q' < q + 1 → ¬ dsq k r q' := fun h q' hq' => by
      by_cases e : q' = q
      · rw [e]; exact h
      · exact hno q' (by omega)
    refine ⟨fun c => ⟨_, c_isLabel l (d + 1) _ _, ?_⟩, fun c => ⟨_, c_wordOn l d k z hq hr w, ?_⟩⟩
    · rintro _ _ ⟨rfl, rfl⟩
      refine br_t (bI_0.mpr (fun h => ix_neg (by decide) (by decide) h)) ?_
      have n1 : ¬ onl k r q := fun h => h.1 c
      rw [cI_f n1] at ih
      exact ih _ (hno2 (fun h => n1 h.1))
    · rintro _ _ ⟨rfl, rfl⟩
      refine ⟨_, c_isLabel l (d + 1) _ _, ?_⟩
      rintro _ _ ⟨rfl, rfl⟩
      refine br_b (fun c2 => ?_) (fun c2 => ⟨fun c3 => ?_, fun c3 => ⟨fun c4 => ?_, fun c4 => ⟨Or.inr rfl, ?_, rfl⟩⟩⟩)
      · have n1 : ¬ onl k r q := fun h => c2 h.2
        rw [cI_f n1] at ih
        exact ih _ (hno2 (fun h => n1 h.1))
      · rw [cI_t (show onl k r q from ⟨c, c2⟩)] at ih
        exact ih _ (hno2 (fun h => h.2.1 c3))
      · rw [cI_t (show onl k r q from ⟨c, c2⟩)] at ih
        exact ih _ (hno2 (fun h => h.2.2 c4))
      · rw [bI_t (show dsp k r from ⟨q, hq, ⟨c, c2⟩, c3, c4⟩)]
noncomputable def dsN (k : cK) : Nat := cnt (k_n k) (dsp k)
theorem c_countDisputed (l : Launch) (d : Nat) (k : cK) (z : cZ) (w : WF k) : SMet l m_X3_countDisputed (d + 3) [.ref 0] (xC k z) (rI k z (nI (dsN k))) := by
  have hn := w.n
  refine SMet_of 2 (by decide) (Nat.le_of_ble_eq_true rfl) (t_X3_countDisputed_0 _ _ _ ?_)
  refine aw_up (k_n k) (fun r => SW l m_X3_countDisputed none _ (d + 3) 0 0 _ 4 [some (.ref 0), some (.int (nI (cnt r (dsp k)))), some (.int (nI r))] [] (xC k z)) ?_ ?_ 0 (Nat.zero_le _)
  · refine t_X3_countDisputed_4 _ _ _ ⟨_, c_size l (d + 2) k z, ?_⟩
    rintro _ _ ⟨rfl, rfl⟩
    exact br_t (nI_le (Nat.le_refl _) (by omega)) ⟨rfl, rfl⟩
  · intro r hr ih
    simp only [nI_succ] at ih
    refine t_X3_countDisputed_4 _ _ _ ⟨_, c_size l (d + 2) k z, ?_⟩
    rintro _ _ ⟨rfl, rfl⟩
    refine br_f (nI_ge hr (by omega)) ⟨_, c_isDisputed l d k z (by omega) w, ?_⟩
    rintro _ _ ⟨rfl, rfl⟩
    refine br_b (fun c => ?_) (fun c => ?_)
    · rw [cnt_f c] at ih
      exact ih
    · rw [cnt_t c, nI_succ] at ih
      exact ih
noncomputable def S_about (k : cK) (x : Int32) : Int32 × cK := cE (x = 0) (nI (k_n k), k) (cE (x = 1) (sum8 k 8, k) (cE (x = 2) (nI (k_rn k), k) (cE (x = 3) (nI (dcN k), k) (cE (x = 4) (nI (knN k), k) (cE (x = 5) (k_bd k, k) (cE (x = 6) (nI (bdN k), k) (cE (x = 7) (nI (dsN k), k) (-102, k))))))))
theorem c_about (l : Launch) (d : Nat) (k : cK) (z : cZ) (x : Int32) (w : WF k) : SMet l m_X3_about (d + 5) [.ref 0, .int x] (xC k z) (rS (S_about k x)) := by
  refine SMet_of 0 (by decide) (Nat.le_of_ble_eq_true rfl) (t_X3_about_0 _ _ _ ?_)
  unfold S_about
  refine ⟨fun c => ?_, fun c => ?_, fun c => ?_, fun c => ?_, fun c => ?_, fun c => ?_, fun c => ?_, fun c => ?_, fun c => ?_, trivial⟩
  · have n0 : ¬ x = 0 := fun e => by rw [e] at c; revert c; decide
    have n1 : ¬ x = 1 := fun e => by rw [e] at c; revert c; decide
    have n2 : ¬ x = 2 := fun e => by rw [e] at c; revert c; decide
    have n3 : ¬ x = 3 := fun e => by rw [e] at c; revert c; decide
    have n4 : ¬ x = 4 := fun e => by rw [e] at c; revert c; decide
    have n5 : ¬ x = 5 := fun e => by rw [e] at c; revert c; decide
    have n6 : ¬ x = 6 := fun e => by rw [e] at c; revert c; decide
    have n7 : ¬ x = 7 := fun e => by rw [e] at c; revert c; decide
    rw [cE_f n0, cE_f n1, cE_f n2, cE_f n3, cE_f n4, cE_f n5, cE_f n6, cE_f n7]
    exact ⟨rfl, _, rfl⟩
  · have e : x = 0 := c
    subst e
    rw [cE_t rfl]
    refine ⟨_, c_size l (d + 4) k z, ?_⟩
    rintro _ _ ⟨rfl, rfl⟩
    exact ⟨rfl, _, rfl⟩
  · have e : x = 1 := c
    subst e
    rw [cE_f (by decide), cE_t rfl]
    refine ⟨_, c_countLabellings l (d + 3) k z w, ?_⟩
    rintro _ _ ⟨rfl, rfl⟩
    exact ⟨rfl, _, rfl⟩
  · have e : x = 2 := c
    subst e
    rw [cE_f (by decide), cE_f (by decide), cE_t rfl]
    refine ⟨_, c_bsize l (d + 4) k z, ?_⟩
    rintro _ _ ⟨rfl, rfl⟩
    exact ⟨rfl, _, rfl⟩
  · have e : x = 3 := c
    subst e
    rw [cE_f (by decide), cE_f (by decide), cE_f (by decide), cE_t rfl]
    refine ⟨_, c_countDecided l d k z w, ?_⟩
    rintro _ _ ⟨rfl, z', rfl⟩
    exact ⟨rfl, _, rfl⟩
  · have e : x = 4 := c
    subst e
    rw [cE_f (by decide), cE_f (by decide), cE_f (by decide), cE_f (by decide), cE_t rfl]
    refine ⟨_, c_countKnown l (d + 4) k z w.n, ?_⟩
    rintro _ _ ⟨rfl, rfl⟩
    exact ⟨rfl, _, rfl⟩
  · have e : x = 5 := c
    subst e
    rw [cE_f (by decide), cE_f (by decide), cE_f (by decide), cE_f (by decide), cE_f (by decide), cE_t rfl]
    exact ⟨rfl, _, rfl⟩
  · have e : x = 6 := c
    subst e
    rw [cE_f (by decide), cE_f (by decide), cE_f (by decide), cE_f (by decide), cE_f (by decide), cE_f (by decide), cE_t rfl]
    refine ⟨_, c_countBarred l (d + 2) k z, ?_⟩
    rintro _ _ ⟨rfl, rfl⟩
    exact ⟨rfl, _, rfl⟩
  · have e : x = 7 := c
    subst e
    rw [cE_f (by decide), cE_f (by decide), cE_f (by decide), cE_f (by decide), cE_f (by decide), cE_f (by decide), cE_f (by decide), cE_t rfl]
    refine ⟨_, c_countDisputed l (d + 1) k z w, ?_⟩
    rintro _ _ ⟨rfl, rfl⟩
    exact ⟨rfl, _, rfl⟩
