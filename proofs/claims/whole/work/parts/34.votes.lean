/-! votes and decisions -/
abbrev rZ (k : cK) (x : Int32) : Option Value → aw_H → Prop := fun v C => v = some (.int x) ∧ ∃ z, C = xC k z
def brd (k : cK) (p : Nat) : Prop := ¬ k_wr k p < k_bd k
theorem c_isBarred (l : Launch) (d : Nat) (k : cK) (z : cZ) {p : Nat} (hp : p < 8) : SMet l m_X3_isBarred (d + 1) [.ref 0, .int (nI p)] (xC k z) (rI k z (bI (brd k p))) := by
  refine SMet_of 0 (by decide) (Nat.le_of_ble_eq_true rfl) (t_X3_isBarred_0 _ _ _ ?_)
  refine ⟨_, c_wrongOf l d k z hp, ?_⟩
  rintro _ _ ⟨rfl, rfl⟩
  exact ⟨fun c => ⟨Or.inl rfl, by rw [bI_f (fun h => h c)], rfl⟩, fun c => ⟨Or.inr rfl, by rw [bI_t (show brd k p from c)], rfl⟩⟩
abbrev z_sta (z : cZ) (f : vF) : cZ := (z.1, f, z_de z, z_fr z)
/-- VOTES of a label on a row: of the first persons, of all and the first rules -/
noncomputable def vP (k : cK) (r a : Nat) : Nat → Int32
  | 0 => 0
  | p + 1 => cI (k_gv k p r = nI a ∧ ¬ brd k p) (vP k r a p + k_tr k p) (vP k r a p)
noncomputable def vR (k : cK) (r a : Nat) : Nat → Int32
  | 0 => vP k r a 8
  | q + 1 => cI (k_on k q ≠ 0 ∧ wI k q r = nI a) (vR k r a q + 1) (vR k r a q)
noncomputable def vtI (k : cK) (r a : Nat) : Int32 := vR k r a (k_rn k)
theorem c_countVotes (l : Launch) (d : Nat) (k : cK) (z : cZ) {r : Nat} (hr : r < 40) (w : WF k) : SMet l m_X3_countVotes (d + 2) [.ref 0, .int (nI r)] (xC k z) (fun v C => v = none ∧ ∃ f, C = xC k (z_sta z f) ∧ ∀ a, a < 5 → f a = vtI k r a) := by
  refine SMet_of 2 (by decide) (Nat.le_of_ble_eq_true rfl) (t_X3_countVotes_0 _ _ _ ?_)
  refine ⟨_, c_fill l (d + 1) (xC k z) (a := 6) (n := 5) (f := z_ta z) 0 rfl (by decide), ?_⟩
  rintro _ _ ⟨rfl, rfl⟩
  have rules : ∀ q, q ≤ k_rn k → ∀ (f : vF) (j : Option Value), (∀ a, a < 5 → f a = vR k r a q) → SW l m_X3_countVotes none (fun _ _ _ _ => False) (d + 2) 0 0 (fun v C => v = none ∧ ∃ f, C = xC k (z_sta z f) ∧ ∀ a, a < 5 → f a = vtI k r a) 64 [some (.ref 0), some (.int (nI r)), some (.int (nI q)), j] [] (xC k (z_sta z f)) := by
    refine aw_up (k_rn k) _ ?_ ?_
    · intro f j hf
      refine t_X3_countVotes_64 _ _ _ ⟨_, c_bsize l (d + 1) k _, ?_⟩
      rintro _ _ ⟨rfl, rfl⟩
      exact br_t (nI_le (Nat.le_refl _) (by have := w.rn; omega)) ⟨rfl, f, rfl, hf⟩
    · intro q hq ih f j hf
      simp only [nI_succ] at ih
      have h6 : q < 6 := Nat.lt_of_lt_of_le hq w.rn
      refine t_X3_countVotes_64 _ _ _ ⟨_, c_bsize l (d + 1) k _, ?_⟩
      rintro _ _ ⟨rfl, rfl⟩
      refine br_f (nI_ge hq (by have := w.rn; omega)) ⟨_, c_isOn l (d + 1) k _ h6 w, ?_⟩
      rintro _ _ ⟨rfl, rfl⟩
      refine ⟨fun c => ?_, fun c => ⟨_, c_wordOn l d k _ hq hr w, ?_⟩⟩
      · refine ⟨_, c_isLabel l (d + 1) _ _, ?_⟩
        rintro _ _ ⟨rfl, rfl⟩
        refine br_t (bI_0.mpr (fun h => ?_)) (ih f _ (fun a ha => ?_))
        · exact ix_neg (by decide) (by decide) h
        · rw [hf a ha]
          exact (cI_f (fun h => h.1 c)).symm
      · rintro _ _ ⟨rfl, rfl⟩
        refine ⟨_, c_isLabel l (d + 1) _ _, ?_⟩
        rintro _ _ ⟨rfl, rfl⟩
        refine br_b (fun c2 => ih f _ (fun a ha => ?_)) (fun c2 => ?_)
        · rw [hf a ha]
          exact (cI_f (fun h => c2 ⟨a, ha, h.2⟩)).symm
        · obtain ⟨g, hg, eg⟩ := c2
          refine ⟨g, eg, hg, ⟨g, eg, hg, ih (upd f g (f g + 1)) _ (fun a ha => ?_)⟩⟩
          by_cases e : a = g
          · subst e
            rw [pk_us, hf a ha]
            exact (cI_t ⟨c, eg⟩).symm
          · rw [pk_un e, hf a ha]
            exact (cI_f (fun h => e ((nI_eq (by omega) (by omega)).mp (h.2.symm.trans eg)))).symm
  have persons : ∀ p, p ≤ 8 → ∀ (f : vF) (j : Option Value), (∀ a, a < 5 → f a = vP k r a p) → SW l m_X3_countVotes none (fun _ _ _ _ => False) (d + 2) 0 0 (fun v C => v = none ∧ ∃ f, C = xC k (z_sta z f) ∧ ∀ a, a < 5 → f a = vtI k r a) 10 [some (.ref 0), some (.int (nI r)), some (.int (nI p)), j] [] (xC k (z_sta z f)) := by
    refine aw_up 8 _ ?_ ?_
    · intro f j hf
      exact t_X3_countVotes_10 _ _ _ (br_t (nI_le (Nat.le_refl _) (by decide)) (rules 0 (Nat.zero_le _) f j hf))
    · intro p hp ih f j hf
      simp only [nI_succ] at ih
      refine t_X3_countVotes_10 _ _ _ (br_f (nI_ge (b := 8) hp (by decide)) ⟨_, c_given l (d + 1) k _ hp hr, ?_⟩)
      rintro _ _ ⟨rfl, rfl⟩
      refine ⟨_, c_isLabel l (d + 1) _ _, ?_⟩
      rintro _ _ ⟨rfl, rfl⟩
      refine br_b (fun c => ih f _ (fun a ha => ?_)) (fun c => ⟨_, c_isBarred l d k _ hp, ?_⟩)
      · rw [hf a ha]
        exact (cI_f (fun h => c ⟨a, ha, h.1⟩)).symm
      · rintro _ _ ⟨rfl, rfl⟩
        refine br_b (fun c2 => ?_) (fun c2 => ih f _ (fun a ha => ?_))
        · obtain ⟨g, hg, eg⟩ := c
          refine ⟨g, eg, hg, ⟨p, rfl, hp, ⟨g, eg, hg, ih (upd f g (f g + k_tr k p)) _ (fun a ha => ?_)⟩⟩⟩
          by_cases e : a = g
          · subst e
            rw [pk_us, hf a ha]
            exact (cI_t ⟨eg, c2⟩).symm
          · rw [pk_un e, hf a ha]
            exact (cI_f (fun h => e ((nI_eq (by omega) (by omega)).mp (h.1.symm.trans eg)))).symm
        · rw [hf a ha]
          exact (cI_f (fun h => h.2 c2)).symm
  exact persons 0 (Nat.zero_le _) (flF (z_ta z) 0 5) none (fun a ha => by simp [flF, ha, vP])
/-- the winner among the first, and the most -/
noncomputable def wnF (f : vF) : Nat → Int32 × Int32
  | 0 => (-1, 0)
  | a + 1 => (cI (f a ≤ (wnF f a).2) (cI (f a = (wnF f a).2) (-1) (wnF f a).1) (nI a), cI (f a ≤ (wnF f a).2) (wnF f a).2 (f a))
theorem wnF_c {f g : vF} : ∀ n, (∀ a, a < n → f a = g a) → wnF f n = wnF g n
  | 0, _ => rfl
  | n + 1, h => by
    unfold wnF
    rw [wnF_c n (fun a ha => h a (by omega)), h n (by omega)]
theorem c_winnerInTally (l : Launch) (d : Nat) (k : cK) (z : cZ) : SMet l m_X3_winnerInTally d [.ref 0] (xC k z) (rI k z (wnF (z_ta z) 5).1) := by
  refine SMet_of 3 (by decide) (Nat.le_of_ble_eq_true rfl) (t_X3_winnerInTally_0 _ _ _ ?_)
  refine aw_up 5 (fun a => SW l m_X3_winnerInTally none _ d 0 0 _ 6 [some (.ref 0), some (.int (wnF (z_ta z) a).1), some (.int (wnF (z_ta z) a).2), some (.int (nI a))] [] (xC k z)) ?_ ?_ 0 (Nat.zero_le _)
  · exact t_X3_winnerInTally_6 _ _ _ (br_t (nI_le (Nat.le_refl _) (by decide)) ⟨rfl, rfl⟩)
  · intro a ha ih
    simp only [nI_succ, wnF] at ih
    refine t_X3_winnerInTally_6 _ _ _ (br_f (nI_ge (b := 5) ha (by decide)) ⟨a, rfl, ha, ⟨fun c => ⟨a, rfl, ha, ⟨fun c2 => ?_, fun c2 => ?_⟩⟩, fun c => ⟨a, rfl, ha, ?_⟩⟩⟩)
    · rw [cI_t c, cI_t c, cI_t c2] at ih
      exact ih
    · rw [cI_t c, cI_t c, cI_f c2] at ih
      exact ih
    · rw [cI_f c, cI_f c] at ih
      exact ih
/-- the first of m from p on -/
noncomputable def fst1 (c : Nat → Prop) (g : vF) : Nat → Nat → Int32
  | 0, _ => -1
  | m + 1, p => cI (c p) (g p) (fst1 c g m (p + 1))
def exC (k : cK) (r : Nat) : Nat → Prop := fun p => k_ex k p ≠ 0 ∧ k_gv k p r ≠ -1 ∧ ¬ brd k p
noncomputable def exI (k : cK) (r : Nat) : Int32 := fst1 (exC k r) (fun p => k_gv k p r) 8 0
theorem c_expertOn (l : Launch) (d : Nat) (k : cK) (z : cZ) {r : Nat} (hr : r < 40) (w : WF k) : SMet l m_X3_expertOn (d + 2) [.ref 0, .int (nI r)] (xC k z) (rI k z (exI k r)) := by
  refine SMet_of 2 (by decide) (Nat.le_of_ble_eq_true rfl) (t_X3_expertOn_0 _ _ _ ?_)
  have key : ∀ m p, p + m = 8 → ∀ j, exI k r = fst1 (exC k r) (fun p => k_gv k p r) m p → SW l m_X3_expertOn none (fun _ _ _ _ => False) (d + 2) 0 0 (rI k z (exI k r)) 2 [some (.ref 0), some (.int (nI r)), some (.int (nI p)), j] [] (xC k z) := by
    intro m
    induction m with
    | zero =>
      intro p hp j e
      have : p = 8 := by omega
      subst this
      exact t_X3_expertOn_2 _ _ _ (br_t (nI_le (Nat.le_refl _) (by decide)) ⟨by rw [e]; rfl, rfl⟩)
    | succ m ih =>
      intro p hp j e
      have hp8 : p < 8 := by omega
      have ih := ih (p + 1) (by omega)
      simp only [nI_succ] at ih
      unfold fst1 at e
      refine t_X3_expertOn_2 _ _ _ (br_f (nI_ge (b := 8) hp8 (by decide)) ⟨_, c_given l (d + 1) k _ hp8 hr, ?_⟩)
      rintro _ _ ⟨rfl, rfl⟩
      refine ⟨p, rfl, hp8, ⟨fun c => ih _ ?_, fun c => ⟨fun c2 => ih _ ?_, fun c2 => ⟨_, c_isBarred l d k _ hp8, ?_⟩⟩⟩⟩
      · rw [e, cI_f (fun h => h.1 c)]
      · rw [e, cI_f (fun h => h.2.1 c2)]
      · rintro _ _ ⟨rfl, rfl⟩
        refine br_b (fun c3 => ⟨?_, rfl⟩) (fun c3 => ih _ ?_)
        · rw [e, cI_t ⟨c, c2, c3⟩]
        · rw [e, cI_f (fun h => h.2.2 c3)]
  exact key 8 0 rfl none rfl
noncomputable def decI (k : cK) (r : Nat) : Int32 := cI (k_kn k r = -1) (cI ((wnF (vtI k r) 5).1 = -1) (exI k r) (wnF (vtI k r) 5).1) (k_kn k r)
abbrev rT (k : cK) (z : cZ) (x : Int32) : Option Value → aw_H → Prop := fun v C => v = some (.int x) ∧ ∃ f, C = xC k (z_sta z f)
theorem c_decide (l : Launch) (d : Nat) (k : cK) (z : cZ) {r : Nat} (hr : r < 40) (w : WF k) : SMet l m_X3_decide (d + 3) [.ref 0, .int (nI r)] (xC k z) (rT k z (decI k r)) := by
  refine SMet_of 1 (by decide) (Nat.le_of_ble_eq_true rfl) (t_X3_decide_0 _ _ _ ?_)
  refine ⟨_, c_known l (d + 2) k z hr, ?_⟩
  rintro _ _ ⟨rfl, rfl⟩
  refine ⟨fun c => ⟨_, c_countVotes l d k z hr w, ?_⟩, fun c => ⟨_, c_known l (d + 2) k z hr, ?_⟩⟩
  · rintro _ _ ⟨rfl, f, rfl, hf⟩
    refine ⟨_, c_winnerInTally l (d + 2) k _, ?_⟩
    rintro _ _ ⟨rfl, rfl⟩
    have e : (wnF f 5).1 = (wnF (vtI k r) 5).1 := by rw [wnF_c 5 hf]
    refine ⟨fun c2 => ⟨_, c_expertOn l d k _ hr w, ?_⟩, fun c2 => ⟨?_, _, rfl⟩⟩
    · rintro _ _ ⟨rfl, rfl⟩
      exact ⟨by rw [decI, cI_t c, cI_t (e.symm.trans c2)], _, rfl⟩
    · have c3 : ¬ (wnF (vtI k r) 5).1 = -1 := fun h => c2 (e.trans h)
      rw [decI, cI_t c, cI_f c3, ← e]
  · rintro _ _ ⟨rfl, rfl⟩
    exact ⟨by rw [decI, cI_f c], z_ta z, rfl⟩
/-- the most among the first, and the second most -/
noncomputable def ldF (f : vF) : Nat → Int32 × Int32
  | 0 => (0, 0)
  | a + 1 => (cI (f a ≤ (ldF f a).1) (ldF f a).1 (f a), cI (f a ≤ (ldF f a).1) (cI (f a ≤ (ldF f a).2) (ldF f a).2 (f a)) (ldF f a).1)
theorem ldF_c {f g : vF} : ∀ n, (∀ a, a < n → f a = g a) → ldF f n = ldF g n
  | 0, _ => rfl
  | n + 1, h => by
    unfold ldF
    rw [ldF_c n (fun a ha => h a (by omega)), h n (by omega)]
theorem c_leadInTally (l : Launch) (d : Nat) (k : cK) (z : cZ) : SMet l m_X3_leadInTally d [.ref 0] (xC k z) (rI k z ((ldF (z_ta z) 5).1 - (ldF (z_ta z) 5).2)) := by
  refine SMet_of 3 (by decide) (Nat.le_of_ble_eq_true rfl) (t_X3_leadInTally_0 _ _ _ ?_)
  refine aw_up 5 (fun a => SW l m_X3_leadInTally none _ d 0 0 _ 6 [some (.ref 0), some (.int (ldF (z_ta z) a).1), some (.int (ldF (z_ta z) a).2), some (.int (nI a))] [] (xC k z)) ?_ ?_ 0 (Nat.zero_le _)
  · exact t_X3_leadInTally_6 _ _ _ (br_t (nI_le (Nat.le_refl _) (by decide)) ⟨rfl, rfl⟩)
  · intro a ha ih
    simp only [nI_succ, ldF] at ih
    refine t_X3_leadInTally_6 _ _ _ (br_f (nI_ge (b := 5) ha (by decide)) ⟨a, rfl, ha, ⟨fun c => ⟨a, rfl, ha, ⟨fun c2 => ?_, fun c2 => ⟨a, rfl, ha, ?_⟩⟩⟩, fun c => ⟨a, rfl, ha, ?_⟩⟩⟩)
    · rw [cI_t c, cI_t c, cI_t c2] at ih
      exact ih
    · rw [cI_t c, cI_t c, cI_f c2] at ih
      exact ih
    · rw [cI_f c, cI_f c] at ih
      exact ih
