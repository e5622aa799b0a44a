/-! the sheet: counts and changes -/
def wrP (s : cS) (p : Nat) : Nat → Prop := fun r => c_gv s p r ≠ -1 ∧ c_kn s r ≠ -1 ∧ c_gv s p r ≠ c_kn s r
noncomputable def wrN (s : cS) (p : Nat) : Nat := cnt (c_n s) (wrP s p)
abbrev s_wr (s : cS) (f : vF) : cS := ((c_ft s, c_gv s, c_kn s, f, c_n s), s.2)
abbrev s_gv (s : cS) (f : Nat → vF) : cS := ((c_ft s, f, c_kn s, c_wr s, c_n s), s.2)
abbrev s_kn (s : cS) (f : vF) : cS := ((c_ft s, c_gv s, f, c_wr s, c_n s), s.2)
abbrev rV (s : cS) : Option Value → aw_H → Prop := fun v C => v = none ∧ C = xC s
theorem c_countWrong (l : Launch) (d : Nat) (s : cS) {p : Nat} (hp : p < 8) (hn : c_n s ≤ 40) : SMet l m_X2_countWrong d [.ref 1, .int (nI p)] (xC s) (rV (s_wr s (upd (c_wr s) p (nI (wrN s p))))) := by
  refine SMet_of 3 (by decide) (Nat.le_of_ble_eq_true rfl) (t_X2_countWrong_0 _ _ _ ?_)
  refine aw_up (c_n s) (fun r => ∀ j, SW l m_X2_countWrong none _ d 0 0 _ 4 [some (.ref 1), some (.int (nI p)), some (.int (nI (cnt r (wrP s p)))), some (.int (nI r)), j] [] (xC s)) ?_ ?_ 0 (Nat.zero_le _) none
  · intro j
    refine t_X2_countWrong_4 _ _ _ (br_t (nI_le (Nat.le_refl _) (by omega)) ?_)
    exact ⟨p, rfl, hp, rfl, rfl⟩
  · intro r hr ih j
    simp only [nI_succ] at ih
    refine t_X2_countWrong_4 _ _ _ (br_f (nI_ge hr (by omega)) ?_)
    refine ⟨p, rfl, hp, i_r (xC_gv s hp) rfl ?_⟩
    refine ⟨r, rfl, by omega, ⟨fun c => ?_, fun c => ?_⟩⟩
    · rw [cnt_f (fun h => h.1 c)] at ih
      exact ih _
    · refine ⟨r, rfl, by omega, ⟨fun c2 => ?_, fun c2 => ?_⟩⟩
      · rw [cnt_f (fun h => h.2.1 c2)] at ih
        exact ih _
      · refine ⟨r, rfl, by omega, ⟨fun c3 => ?_, fun c3 => ?_⟩⟩
        · rw [cnt_f (fun h => h.2.2 c3)] at ih
          exact ih _
        · rw [cnt_t (show wrP s p r from ⟨c, c2, c3⟩), nI_succ] at ih
          exact ih _
theorem c_known (l : Launch) (d : Nat) (s : cS) {r : Nat} (hr : r < 40) : SMet l m_X2_known d [.ref 1, .int (nI r)] (xC s) (rI s (c_kn s r)) := SMet_of 0 (by decide) (Nat.le_of_ble_eq_true rfl) (t_X2_known_0 _ _ _ ⟨r, rfl, hr, rfl, rfl⟩)
theorem c_wrongOf (l : Launch) (d : Nat) (s : cS) {p : Nat} (hp : p < 8) : SMet l m_X2_wrongOf d [.ref 1, .int (nI p)] (xC s) (rI s (c_wr s p)) := SMet_of 0 (by decide) (Nat.le_of_ble_eq_true rfl) (t_X2_wrongOf_0 _ _ _ ⟨p, rfl, hp, rfl, rfl⟩)
noncomputable def gbN (s : cS) (p : Nat) : Nat := cnt (c_n s) (fun r => c_gv s p r ≠ -1)
theorem c_givenBy (l : Launch) (d : Nat) (s : cS) {p : Nat} (hp : p < 8) (hn : c_n s ≤ 40) : SMet l m_X2_givenBy d [.ref 1, .int (nI p)] (xC s) (rI s (nI (gbN s p))) := by
  refine SMet_of 2 (by decide) (Nat.le_of_ble_eq_true rfl) (t_X2_givenBy_0 _ _ _ ?_)
  refine aw_up (c_n s) (fun r => SW l m_X2_givenBy none _ d 0 0 _ 4 [some (.ref 1), some (.int (nI p)), some (.int (nI (cnt r (fun r => c_gv s p r ≠ -1)))), some (.int (nI r))] [] (xC s)) ?_ ?_ 0 (Nat.zero_le _)
  · exact t_X2_givenBy_4 _ _ _ (br_t (nI_le (Nat.le_refl _) (by omega)) ⟨rfl, rfl⟩)
  · intro r hr ih
    simp only [nI_succ] at ih
    refine t_X2_givenBy_4 _ _ _ (br_f (nI_ge hr (by omega)) ?_)
    refine ⟨p, rfl, hp, i_r (xC_gv s hp) rfl ?_⟩
    refine ⟨r, rfl, by omega, ⟨fun c => ?_, fun c => ?_⟩⟩
    · rw [cnt_f (fun h => h c)] at ih
      exact ih
    · rw [cnt_t (P := fun r => c_gv s p r ≠ -1) c, nI_succ] at ih
      exact ih
noncomputable def goN (s : cS) (r : Nat) : Nat := cnt 8 (fun p => c_gv s p r ≠ -1)
theorem c_givenOn (l : Launch) (d : Nat) (s : cS) {r : Nat} (hr : r < 40) : SMet l m_X2_givenOn d [.ref 1, .int (nI r)] (xC s) (rI s (nI (goN s r))) := by
  refine SMet_of 2 (by decide) (Nat.le_of_ble_eq_true rfl) (t_X2_givenOn_0 _ _ _ ?_)
  refine aw_up 8 (fun p => SW l m_X2_givenOn none _ d 0 0 _ 4 [some (.ref 1), some (.int (nI r)), some (.int (nI (cnt p (fun p => c_gv s p r ≠ -1)))), some (.int (nI p))] [] (xC s)) ?_ ?_ 0 (Nat.zero_le _)
  · exact t_X2_givenOn_4 _ _ _ (br_t (nI_le (Nat.le_refl _) (by omega)) ⟨rfl, rfl⟩)
  · intro p hp ih
    simp only [nI_succ] at ih
    refine t_X2_givenOn_4 _ _ _ (br_f (nI_ge (b := 8) hp (by decide)) ?_)
    refine ⟨p, rfl, hp, i_r (xC_gv s hp) rfl ?_⟩
    refine ⟨r, rfl, hr, ⟨fun c => ?_, fun c => ?_⟩⟩
    · rw [cnt_f (fun h => h c)] at ih
      exact ih
    · rw [cnt_t (P := fun p => c_gv s p r ≠ -1) c, nI_succ] at ih
      exact ih
noncomputable def knN (s : cS) : Nat := cnt (c_n s) (fun r => c_kn s r ≠ -1)
theorem c_countKnown (l : Launch) (d : Nat) (s : cS) (hn : c_n s ≤ 40) : SMet l m_X2_countKnown d [.ref 1] (xC s) (rI s (nI (knN s))) := by
  refine SMet_of 2 (by decide) (Nat.le_of_ble_eq_true rfl) (t_X2_countKnown_0 _ _ _ ?_)
  refine aw_up (c_n s) (fun r => SW l m_X2_countKnown none _ d 0 0 _ 4 [some (.ref 1), some (.int (nI (cnt r (fun r => c_kn s r ≠ -1)))), some (.int (nI r))] [] (xC s)) ?_ ?_ 0 (Nat.zero_le _)
  · exact t_X2_countKnown_4 _ _ _ (br_t (nI_le (Nat.le_refl _) (by omega)) ⟨rfl, rfl⟩)
  · intro r hr ih
    simp only [nI_succ] at ih
    refine t_X2_countKnown_4 _ _ _ (br_f (nI_ge hr (by omega)) ?_)
    refine ⟨r, rfl, by omega, ⟨fun c => ?_, fun c => ?_⟩⟩
    · rw [cnt_f (fun h => h c)] at ih
      exact ih
    · rw [cnt_t (P := fun r => c_kn s r ≠ -1) c, nI_succ] at ih
      exact ih
/-- one label more -/
abbrev u2 (f : Nat → vF) (p r : Nat) (x : Int32) : Nat → vF := fun q => if q = p then upd (f p) r x else f q
theorem xC_s_gv (s : cS) {p : Nat} (h : p < 8) (r : Nat) (x : Int32) : aw_s (xC s) (15 + p) (a_i 40 (upd (c_gv s p) r x)) = xC (s_gv s (u2 (c_gv s) p r x)) := by
  rcases (show p = 0 ∨ p = 1 ∨ p = 2 ∨ p = 3 ∨ p = 4 ∨ p = 5 ∨ p = 6 ∨ p = 7 by omega) with rfl | rfl | rfl | rfl | rfl | rfl | rfl | rfl <;> rfl
abbrev s_give (s : cS) (p r : Nat) (x : Int32) : cS := s_gv s (u2 (c_gv s) p r x)
theorem c_give (l : Launch) (d : Nat) (s : cS) {p r : Nat} (x : Int32) (hp : p < 8) (hr : r < 40) (hn : c_n s ≤ 40) : SMet l m_X2_give (d + 1) [.ref 1, .int (nI p), .int (nI r), .int x] (xC s) (rV (s_wr (s_give s p r x) (upd (c_wr s) p (nI (wrN (s_give s p r x) p))))) := by
  refine SMet_of 0 (by decide) (Nat.le_of_ble_eq_true rfl) (t_X2_give_0 _ _ _ ?_)
  refine ⟨p, rfl, hp, i_r (xC_gv s hp) rfl ?_⟩
  refine ⟨r, rfl, hr, ?_⟩
  rw [xC_s_gv s hp]
  refine ⟨_, c_countWrong l d (s_give s p r x) hp hn, ?_⟩
  rintro _ _ ⟨rfl, rfl⟩
  exact ⟨rfl, rfl⟩
/-- all of WRONG counted anew -/
noncomputable def wrUp (s : cS) (f : vF) : Nat → vF
  | 0 => f
  | k + 1 => upd (wrUp s f k) k (nI (wrN s k))
theorem c_setKnown (l : Launch) (d : Nat) (s : cS) {r : Nat} (x : Int32) (hr : r < 40) (hn : c_n s ≤ 40) : SMet l m_X2_setKnown (d + 1) [.ref 1, .int (nI r), .int x] (xC s) (rV (s_wr (s_kn s (upd (c_kn s) r x)) (wrUp (s_kn s (upd (c_kn s) r x)) (c_wr s) 8))) := by
  refine SMet_of 1 (by decide) (Nat.le_of_ble_eq_true rfl) (t_X2_setKnown_0 _ _ _ ?_)
  refine ⟨r, rfl, hr, ?_⟩
  refine aw_up 8 (fun k => SW l m_X2_setKnown none _ (d + 1) 0 0 _ 9 [some (.ref 1), some (.int (nI r)), some (.int x), some (.int (nI k))] [] (xC (s_wr (s_kn s (upd (c_kn s) r x)) (wrUp (s_kn s (upd (c_kn s) r x)) (c_wr s) k)))) ?_ ?_ 0 (Nat.zero_le _)
  · exact t_X2_setKnown_9 _ _ _ (br_t (nI_le (Nat.le_refl _) (by omega)) ⟨rfl, rfl⟩)
  · intro k hk ih
    simp only [nI_succ] at ih
    refine t_X2_setKnown_9 _ _ _ (br_f (nI_ge (b := 8) hk (by decide)) ?_)
    refine ⟨_, c_countWrong l d (s_wr (s_kn s (upd (c_kn s) r x)) (wrUp (s_kn s (upd (c_kn s) r x)) (c_wr s) k)) hk hn, ?_⟩
    rintro _ _ ⟨rfl, rfl⟩
    exact ih
/-- one row more -/
abbrev s_row (s : cS) (f0 f1 f2 f3 : Int32) : cS := ((fun i => if i = 0 then upd (c_ft s 0) (c_n s) f0 else if i = 1 then upd (c_ft s 1) (c_n s) f1 else if i = 2 then upd (c_ft s 2) (c_n s) f2 else if i = 3 then upd (c_ft s 3) (c_n s) f3 else c_ft s i, c_gv s, c_kn s, c_wr s, c_n s + 1), s.2)
theorem c_addRow (l : Launch) (d : Nat) (s : cS) (f0 f1 f2 f3 : Int32) (hn : c_n s ≤ 40) : SMet l m_X2_addRow d [.ref 1, .int f0, .int f1, .int f2, .int f3] (xC s) (fun v C => (c_n s < 40 ∧ v = some (.int (nI (c_n s))) ∧ C = xC (s_row s f0 f1 f2 f3)) ∨ (¬ c_n s < 40 ∧ v = some (.int (-104)) ∧ C = xC s)) := by
  refine SMet_of 0 (by decide) (Nat.le_of_ble_eq_true rfl) (t_X2_addRow_0 _ _ _ ?_)
  by_cases h : c_n s < 40
  · refine br_t (nI_lt (b := 40) h (by decide)) ?_
    refine ⟨0, rfl, by decide, ⟨c_n s, rfl, h, ?_⟩⟩
    refine ⟨1, rfl, by decide, ⟨c_n s, rfl, h, ?_⟩⟩
    refine ⟨2, rfl, by decide, ⟨c_n s, rfl, h, ?_⟩⟩
    refine ⟨3, rfl, by decide, ⟨c_n s, rfl, h, ?_⟩⟩
    refine Or.inl ⟨h, rfl, ?_⟩
    simp only [xC, nI_succ]
    rfl
  · exact br_f (nI_nlt (b := 40) (by omega) (by omega)) (Or.inr ⟨h, rfl, rfl⟩)
