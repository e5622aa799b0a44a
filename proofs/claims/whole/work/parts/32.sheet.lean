/-! the sheet: counts and changes -/
def wrP (k : cK) (p : Nat) : Nat → Prop := fun r => k_gv k p r ≠ -1 ∧ k_kn k r ≠ -1 ∧ k_gv k p r ≠ k_kn k r
noncomputable def wrN (k : cK) (p : Nat) : Nat := cnt (k_n k) (wrP k p)
abbrev s_wr (k : cK) (f : vF) : cK := ((k_ft k, k_gv k, k_kn k, f, k_n k), k.2)
abbrev s_gv (k : cK) (f : Nat → vF) : cK := ((k_ft k, f, k_kn k, k_wr k, k_n k), k.2)
abbrev s_kn (k : cK) (f : vF) : cK := ((k_ft k, k_gv k, f, k_wr k, k_n k), k.2)
abbrev rV (k : cK) (z : cZ) : Option Value → aw_H → Prop := fun v C => v = none ∧ C = xC k z
theorem c_countWrong (l : Launch) (d : Nat) (k : cK) (z : cZ) {p : Nat} (hp : p < 8) (hn : k_n k ≤ 40) : SMet l m_X2_countWrong d [.ref 1, .int (nI p)] (xC k z) (rV (s_wr k (upd (k_wr k) p (nI (wrN k p)))) z) := by
  refine SMet_of 3 (by decide) (Nat.le_of_ble_eq_true rfl) (t_X2_countWrong_0 _ _ _ ?_)
  refine aw_up (k_n k) (fun r => ∀ j, SW l m_X2_countWrong none _ d 0 0 _ 4 [some (.ref 1), some (.int (nI p)), some (.int (nI (cnt r (wrP k p)))), some (.int (nI r)), j] [] (xC k z)) ?_ ?_ 0 (Nat.zero_le _) none
  · intro j
    refine t_X2_countWrong_4 _ _ _ (br_t (nI_le (Nat.le_refl _) (by omega)) ?_)
    exact ⟨p, rfl, hp, rfl, rfl⟩
  · intro r hr ih j
    simp only [nI_succ] at ih
    refine t_X2_countWrong_4 _ _ _ (br_f (nI_ge hr (by omega)) ?_)
    refine ⟨p, rfl, hp, i_r (xC_gv k z hp) rfl ?_⟩
    refine ⟨r, rfl, by omega, ⟨fun c => ?_, fun c => ?_⟩⟩
    · rw [cnt_f (fun h => h.1 c)] at ih
      exact ih _
    · refine ⟨r, rfl, by omega, ⟨fun c2 => ?_, fun c2 => ?_⟩⟩
      · rw [cnt_f (fun h => h.2.1 c2)] at ih
        exact ih _
      · refine ⟨r, rfl, by omega, ⟨fun c3 => ?_, fun c3 => ?_⟩⟩
        · rw [cnt_f (fun h => h.2.2 c3)] at ih
          exact ih _
        · rw [cnt_t (show wrP k p r from ⟨c, c2, c3⟩), nI_succ] at ih
          exact ih _
theorem c_known (l : Launch) (d : Nat) (k : cK) (z : cZ) {r : Nat} (hr : r < 40) : SMet l m_X2_known d [.ref 1, .int (nI r)] (xC k z) (rI k z (k_kn k r)) := SMet_of 0 (by decide) (Nat.le_of_ble_eq_true rfl) (t_X2_known_0 _ _ _ ⟨r, rfl, hr, rfl, rfl⟩)
theorem c_wrongOf (l : Launch) (d : Nat) (k : cK) (z : cZ) {p : Nat} (hp : p < 8) : SMet l m_X2_wrongOf d [.ref 1, .int (nI p)] (xC k z) (rI k z (k_wr k p)) := SMet_of 0 (by decide) (Nat.le_of_ble_eq_true rfl) (t_X2_wrongOf_0 _ _ _ ⟨p, rfl, hp, rfl, rfl⟩)
noncomputable def gbN (k : cK) (p : Nat) : Nat := cnt (k_n k) (fun r => k_gv k p r ≠ -1)
theorem c_givenBy (l : Launch) (d : Nat) (k : cK) (z : cZ) {p : Nat} (hp : p < 8) (hn : k_n k ≤ 40) : SMet l m_X2_givenBy d [.ref 1, .int (nI p)] (xC k z) (rI k z (nI (gbN k p))) := by
  refine SMet_of 2 (by decide) (Nat.le_of_ble_eq_true rfl) (t_X2_givenBy_0 _ _ _ ?_)
  refine aw_up (k_n k) (fun r => SW l m_X2_givenBy none _ d 0 0 _ 4 [some (.ref 1), some (.int (nI p)), some (.int (nI (cnt r (fun r => k_gv k p r ≠ -1)))), some (.int (nI r))] [] (xC k z)) ?_ ?_ 0 (Nat.zero_le _)
  · exact t_X2_givenBy_4 _ _ _ (br_t (nI_le (Nat.le_refl _) (by omega)) ⟨rfl, rfl⟩)
  · intro r hr ih
    simp only [nI_succ] at ih
    refine t_X2_givenBy_4 _ _ _ (br_f (nI_ge hr (by omega)) ?_)
    refine ⟨p, rfl, hp, i_r (xC_gv k z hp) rfl ?_⟩
    refine ⟨r, rfl, by omega, ⟨fun c => ?_, fun c => ?_⟩⟩
    · rw [cnt_f (fun h => h c)] at ih
      exact ih
    · rw [cnt_t (P := fun r => k_gv k p r ≠ -1) c, nI_succ] at ih
      exact ih
noncomputable def goN (k : cK) (r : Nat) : Nat := cnt 8 (fun p => k_gv k p r ≠ -1)
theorem c_givenOn (l : Launch) (d : Nat) (k : cK) (z : cZ) {r : Nat} (hr : r < 40) : SMet l m_X2_givenOn d [.ref 1, .int (nI r)] (xC k z) (rI k z (nI (goN k r))) := by
  refine SMet_of 2 (by decide) (Nat.le_of_ble_eq_true rfl) (t_X2_givenOn_0 _ _ _ ?_)
  refine aw_up 8 (fun p => SW l m_X2_givenOn none _ d 0 0 _ 4 [some (.ref 1), some (.int (nI r)), some (.int (nI (cnt p (fun p => k_gv k p r ≠ -1)))), some (.int (nI p))] [] (xC k z)) ?_ ?_ 0 (Nat.zero_le _)
  · exact t_X2_givenOn_4 _ _ _ (br_t (nI_le (Nat.le_refl _) (by omega)) ⟨rfl, rfl⟩)
  · intro p hp ih
    simp only [nI_succ] at ih
    refine t_X2_givenOn_4 _ _ _ (br_f (nI_ge (b := 8) hp (by decide)) ?_)
    refine ⟨p, rfl, hp, i_r (xC_gv k z hp) rfl ?_⟩
    refine ⟨r, rfl, hr, ⟨fun c => ?_, fun c => ?_⟩⟩
    · rw [cnt_f (fun h => h c)] at ih
      exact ih
    · rw [cnt_t (P := fun p => k_gv k p r ≠ -1) c, nI_succ] at ih
      exact ih
noncomputable def knN (k : cK) : Nat := cnt (k_n k) (fun r => k_kn k r ≠ -1)
theorem c_countKnown (l : Launch) (d : Nat) (k : cK) (z : cZ) (hn : k_n k ≤ 40) : SMet l m_X2_countKnown d [.ref 1] (xC k z) (rI k z (nI (knN k))) := by
  refine SMet_of 2 (by decide) (Nat.le_of_ble_eq_true rfl) (t_X2_countKnown_0 _ _ _ ?_)
  refine aw_up (k_n k) (fun r => SW l m_X2_countKnown none _ d 0 0 _ 4 [some (.ref 1), some (.int (nI (cnt r (fun r => k_kn k r ≠ -1)))), some (.int (nI r))] [] (xC k z)) ?_ ?_ 0 (Nat.zero_le _)
  · exact t_X2_countKnown_4 _ _ _ (br_t (nI_le (Nat.le_refl _) (by omega)) ⟨rfl, rfl⟩)
  · intro r hr ih
    simp only [nI_succ] at ih
    refine t_X2_countKnown_4 _ _ _ (br_f (nI_ge hr (by omega)) ?_)
    refine ⟨r, rfl, by omega, ⟨fun c => ?_, fun c => ?_⟩⟩
    · rw [cnt_f (fun h => h c)] at ih
      exact ih
    · rw [cnt_t (P := fun r => k_kn k r ≠ -1) c, nI_succ] at ih
      exact ih
/-- one label more -/
abbrev u2 (f : Nat → vF) (p r : Nat) (x : Int32) : Nat → vF := fun q => if q = p then upd (f p) r x else f q
theorem xC_s_gv (k : cK) (z : cZ) {p : Nat} (h : p < 8) (r : Nat) (x : Int32) : aw_s (xC k z) (15 + p) (a_i 40 (upd (k_gv k p) r x)) = xC (s_gv k (u2 (k_gv k) p r x)) z := by
  rcases (show p = 0 ∨ p = 1 ∨ p = 2 ∨ p = 3 ∨ p = 4 ∨ p = 5 ∨ p = 6 ∨ p = 7 by omega) with rfl | rfl | rfl | rfl | rfl | rfl | rfl | rfl <;> rfl
abbrev s_give (k : cK) (p r : Nat) (x : Int32) : cK := s_gv k (u2 (k_gv k) p r x)
theorem c_give (l : Launch) (d : Nat) (k : cK) (z : cZ) {p r : Nat} (x : Int32) (hp : p < 8) (hr : r < 40) (hn : k_n k ≤ 40) : SMet l m_X2_give (d + 1) [.ref 1, .int (nI p), .int (nI r), .int x] (xC k z) (rV (s_wr (s_give k p r x) (upd (k_wr k) p (nI (wrN (s_give k p r x) p)))) z) := by
  refine SMet_of 0 (by decide) (Nat.le_of_ble_eq_true rfl) (t_X2_give_0 _ _ _ ?_)
  refine ⟨p, rfl, hp, i_r (xC_gv k z hp) rfl ?_⟩
  refine ⟨r, rfl, hr, ?_⟩
  rw [xC_s_gv k z hp]
  refine ⟨_, c_countWrong l d (s_give k p r x) z hp hn, ?_⟩
  rintro _ _ ⟨rfl, rfl⟩
  exact ⟨rfl, rfl⟩
/-- all of WRONG counted anew -/
noncomputable def wrUp (k : cK) (f : vF) : Nat → vF
  | 0 => f
  | q + 1 => upd (wrUp k f q) q (nI (wrN k q))
theorem c_setKnown (l : Launch) (d : Nat) (k : cK) (z : cZ) {r : Nat} (x : Int32) (hr : r < 40) (hn : k_n k ≤ 40) : SMet l m_X2_setKnown (d + 1) [.ref 1, .int (nI r), .int x] (xC k z) (rV (s_wr (s_kn k (upd (k_kn k) r x)) (wrUp (s_kn k (upd (k_kn k) r x)) (k_wr k) 8)) z) := by
  refine SMet_of 1 (by decide) (Nat.le_of_ble_eq_true rfl) (t_X2_setKnown_0 _ _ _ ?_)
  refine ⟨r, rfl, hr, ?_⟩
  refine aw_up 8 (fun q => SW l m_X2_setKnown none _ (d + 1) 0 0 _ 9 [some (.ref 1), some (.int (nI r)), some (.int x), some (.int (nI q))] [] (xC (s_wr (s_kn k (upd (k_kn k) r x)) (wrUp (s_kn k (upd (k_kn k) r x)) (k_wr k) q)) z)) ?_ ?_ 0 (Nat.zero_le _)
  · exact t_X2_setKnown_9 _ _ _ (br_t (nI_le (Nat.le_refl _) (by omega)) ⟨rfl, rfl⟩)
  · intro q hq ih
    simp only [nI_succ] at ih
    refine t_X2_setKnown_9 _ _ _ (br_f (nI_ge (b := 8) hq (by decide)) ?_)
    refine ⟨_, c_countWrong l d (s_wr (s_kn k (upd (k_kn k) r x)) (wrUp (s_kn k (upd (k_kn k) r x)) (k_wr k) q)) z hq hn, ?_⟩
    rintro _ _ ⟨rfl, rfl⟩
    exact ih
/-- one row more -/
abbrev s_row (k : cK) (f0 f1 f2 f3 : Int32) : cK := ((fun i => if i = 0 then upd (k_ft k 0) (k_n k) f0 else if i = 1 then upd (k_ft k 1) (k_n k) f1 else if i = 2 then upd (k_ft k 2) (k_n k) f2 else if i = 3 then upd (k_ft k 3) (k_n k) f3 else k_ft k i, k_gv k, k_kn k, k_wr k, k_n k + 1), k.2)
theorem c_addRow (l : Launch) (d : Nat) (k : cK) (z : cZ) (f0 f1 f2 f3 : Int32) (hn : k_n k ≤ 40) : SMet l m_X2_addRow d [.ref 1, .int f0, .int f1, .int f2, .int f3] (xC k z) (fun v C => (k_n k < 40 ∧ v = some (.int (nI (k_n k))) ∧ C = xC (s_row k f0 f1 f2 f3) z) ∨ (¬ k_n k < 40 ∧ v = some (.int (-104)) ∧ C = xC k z)) := by
  refine SMet_of 0 (by decide) (Nat.le_of_ble_eq_true rfl) (t_X2_addRow_0 _ _ _ ?_)
  by_cases h : k_n k < 40
  · refine br_t (nI_lt (b := 40) h (by decide)) ?_
    refine ⟨0, rfl, by decide, ⟨k_n k, rfl, h, ?_⟩⟩
    refine ⟨1, rfl, by decide, ⟨k_n k, rfl, h, ?_⟩⟩
    refine ⟨2, rfl, by decide, ⟨k_n k, rfl, h, ?_⟩⟩
    refine ⟨3, rfl, by decide, ⟨k_n k, rfl, h, ?_⟩⟩
    refine Or.inl ⟨h, rfl, ?_⟩
    simp only [xC, nI_succ]
    rfl
  · exact br_f (nI_nlt (b := 40) (by omega) (by omega)) (Or.inr ⟨h, rfl, rfl⟩)
