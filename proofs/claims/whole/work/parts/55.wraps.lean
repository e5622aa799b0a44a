/-! the three wrappers' contracts -/
abbrev oC (f : Nat → Int64) : aw_Cel := .inl (2, 1, .inr (.inl f))
/-- the law's world behind the class's: the reference, and the place for a number -/
abbrev bB (n : mN) (a : mA) (y : mZ) (f : Nat → Int64) : aw_H := (yC n a y).map (shC 33) ++ [oC f]
abbrev uW (k : cK) (n : mN) (a : mA) (y : mZ) (c : Nat) (x : Int64) : Option Value → aw_H → Prop := fun v C => v = some (.int (nI c)) ∧ ∃ z f, C = xC k z ++ bB n a y f ∧ (c = 0 → f 0 = x)
theorem w_says (l : Launch) (hl0 : l.stackTraces = false) (d : Nat) (k : cK) (z : cZ) (n : mN) (a : mA) (y : mZ) (f : Nat → Int64) (q r : Int32) (w : WF k) : WMet l m_L_says hh_says (d + 9) [.ref 0, .int q, .int r, .ref 47] (xC k z ++ bB n a y f) (uW k n a y (S_says k q r).1 (S_says k q r).2.toInt64) := by
  refine WMet_of (M' := m_X3_says) (np := 2) (ixm := 7) (pcC := 5) (n := 1) (As := [.int q, .int r]) (rest := [.int 0, .ref 47]) (L0 := aw_en [.ref 0, .int q, .int r, .ref 47] ++ List.replicate 1 none) rfl rfl (Nat.le_of_ble_eq_true rfl) ?_ (x_says l hl0 (d + 1) k z (bB n a y f) q r w) rfl rfl rfl (Nat.le_of_ble_eq_true rfl) (Nat.le_of_ble_eq_true rfl) dL_says_5 v_1 wi_X3_says ws_X3_says wc_X3_says wd_X3_says ?_ ?_
  · exact t_L_says_0 _ _ _ (s_exit ⟨rfl, rfl, rfl, rfl⟩)
  · rintro v C' ⟨e0, rfl, z', rfl⟩
    refine t_L_says_8 _ _ _ ?_
    refine ⟨0, rfl, by decide, ?_⟩
    exact ⟨by rw [e0]; rfl, z', _, rfl, fun _ => rfl⟩
  · rintro nm C' ⟨hc, z', rfl⟩
    rcases hc with ⟨e, rfl⟩ | ⟨e, rfl⟩ | ⟨e, rfl⟩
    · refine ⟨[], ⟨0, 10, 13, 13⟩, [⟨0, 10, 17, 15⟩, ⟨0, 10, 21, 17⟩], 1, rfl, fun z hz => absurd hz List.not_mem_nil, by decide, by decide, v_4, v_7, ⟨4, 1, by decide, by decide, Or.inl ⟨dL_says_13, dL_says_15, dL_says_16⟩⟩, ?_⟩
      rw [e]
      exact ⟨rfl, z', f, rfl, fun h => by cases h⟩
    · refine ⟨[⟨0, 10, 13, 13⟩], ⟨0, 10, 17, 15⟩, [⟨0, 10, 21, 17⟩], 2, rfl, fun z hz => ?_, by decide, by decide, v_5, v_8, ⟨4, 2, by decide, by decide, Or.inl ⟨dL_says_17, dL_says_19, dL_says_20⟩⟩, ?_⟩
      · rw [List.mem_singleton.mp hz]
        exact ⟨by decide, eIA, v_4, Or.inl ⟨rfl, rfl⟩⟩
      · rw [e]
        exact ⟨rfl, z', f, rfl, fun h => by cases h⟩
    · refine ⟨[⟨0, 10, 13, 13⟩, ⟨0, 10, 17, 15⟩], ⟨0, 10, 21, 17⟩, [], 3, rfl, fun z hz => ?_, by decide, by decide, v_6, v_9, ⟨4, 3, by decide, by decide, Or.inl ⟨dL_says_21, dL_says_23, dL_says_24⟩⟩, ?_⟩
      · rcases List.mem_cons.mp hz with rfl | hz
        · exact ⟨by decide, eIA, v_4, Or.inr (Or.inl ⟨rfl, rfl⟩)⟩
        · rw [List.mem_singleton.mp hz]
          exact ⟨by decide, eAR, v_5, Or.inr (Or.inr ⟨rfl, rfl⟩)⟩
      · rw [e]
        exact ⟨rfl, z', f, rfl, fun h => by cases h⟩
theorem part_lt3 (x : Int32) (n a o u : Int64) : (S_part x n a o u).1 = 0 ∨ (S_part x n a o u).1 = 2 := by
  unfold S_part
  by_cases h1 : x = 2
  · rw [cE_t h1]; exact Or.inl rfl
  · rw [cE_f h1]
    by_cases h2 : x = 3
    · rw [cE_t h2]; exact Or.inl rfl
    · rw [cE_f h2]
      by_cases h3 : u = 0
      · rw [cE_t h3]; exact Or.inr rfl
      · rw [cE_f h3]; exact Or.inl rfl
theorem agree_lt3 (k : cK) (p q x : Int32) : ¬ (S_agree k p q x).1 = 3 := by
  unfold S_agree
  by_cases h : ix p 8 ∧ ix q 8 ∧ ¬ p = q ∧ ix x 4
  · rw [cE_t h]
    rcases part_lt3 x (lN (N2 k (tN p) (tN q))) (lN (A2 k (tN p) (tN q))) (ov2 k (tN p) (tN q)) (un2 k (tN p) (tN q)) with e | e <;> rw [e] <;> decide
  · rw [cE_f h]; decide
theorem all_lt3 (k : cK) (x : Int32) : ¬ (S_all k x).1 = 3 := by
  unfold S_all
  by_cases h : ix x 4
  · rw [cE_t h]
    rcases part_lt3 x (lN (MA k)) (lN (CA k)) (ovA k) (unA k) with e | e <;> rw [e] <;> decide
  · rw [cE_f h]; decide
theorem w_agree (l : Launch) (hl0 : l.stackTraces = false) (d : Nat) (k : cK) (z : cZ) (n : mN) (a : mA) (y : mZ) (f : Nat → Int64) (p q x : Int32) (w : WF k) : WMet l m_L_agree hh_agree (d + 9) [.ref 0, .int p, .int q, .int x, .ref 47] (xC k z ++ bB n a y f) (uW k n a y (S_agree k p q x).1 (S_agree k p q x).2) := by
  refine WMet_of (M' := m_X3_agree) (np := 3) (ixm := 19) (pcC := 7) (n := 1) (As := [.int p, .int q, .int x]) (rest := [.int 0, .ref 47]) (L0 := aw_en [.ref 0, .int p, .int q, .int x, .ref 47] ++ List.replicate 1 none) rfl rfl (Nat.le_of_ble_eq_true rfl) ?_ (x_agree l hl0 d k z (bB n a y f) p q x w) rfl rfl rfl (Nat.le_of_ble_eq_true rfl) (Nat.le_of_ble_eq_true rfl) dL_agree_7 v_2 wi_X3_agree ws_X3_agree wc_X3_agree wd_X3_agree ?_ ?_
  · exact t_L_agree_0 _ _ _ (s_exit ⟨rfl, rfl, rfl, rfl⟩)
  · rintro v C' ⟨e0, rfl, z', rfl⟩
    refine t_L_agree_10 _ _ _ ?_
    refine ⟨0, rfl, by decide, ?_⟩
    exact ⟨by rw [e0]; rfl, z', _, rfl, fun _ => rfl⟩
  · rintro nm C' ⟨hc, z', rfl⟩
    rcases hc with ⟨e, rfl⟩ | ⟨e, rfl⟩ | ⟨e, rfl⟩
    · refine ⟨[], ⟨0, 11, 14, 13⟩, [⟨0, 11, 18, 15⟩], 1, rfl, fun z hz => absurd hz List.not_mem_nil, by decide, by decide, v_4, v_7, ⟨5, 1, by decide, by decide, Or.inl ⟨dL_agree_14, dL_agree_16, dL_agree_17⟩⟩, ?_⟩
      rw [e]
      exact ⟨rfl, z', f, rfl, fun h => by cases h⟩
    · refine ⟨[⟨0, 11, 14, 13⟩], ⟨0, 11, 18, 15⟩, [], 2, rfl, fun z hz => ?_, by decide, by decide, v_5, v_8, ⟨5, 2, by decide, by decide, Or.inl ⟨dL_agree_18, dL_agree_20, dL_agree_21⟩⟩, ?_⟩
      · rw [List.mem_singleton.mp hz]
        exact ⟨by decide, eIA, v_4, Or.inl ⟨rfl, rfl⟩⟩
      · rw [e]
        exact ⟨rfl, z', f, rfl, fun h => by cases h⟩
    · exact absurd e (agree_lt3 k p q x)
theorem w_all (l : Launch) (hl0 : l.stackTraces = false) (d : Nat) (k : cK) (z : cZ) (n : mN) (a : mA) (y : mZ) (f : Nat → Int64) (x : Int32) (w : WF k) : WMet l m_L_all hh_all (d + 9) [.ref 0, .int x, .ref 47] (xC k z ++ bB n a y f) (uW k n a y (S_all k x).1 (S_all k x).2) := by
  refine WMet_of (M' := m_X3_all) (np := 1) (ixm := 23) (pcC := 4) (n := 1) (As := [.int x]) (rest := [.int 0, .ref 47]) (L0 := aw_en [.ref 0, .int x, .ref 47] ++ List.replicate 1 none) rfl rfl (Nat.le_of_ble_eq_true rfl) ?_ (x_all l hl0 d k z (bB n a y f) x w) rfl rfl rfl (Nat.le_of_ble_eq_true rfl) (Nat.le_of_ble_eq_true rfl) dL_all_4 v_3 wi_X3_all ws_X3_all wc_X3_all wd_X3_all ?_ ?_
  · exact t_L_all_0 _ _ _ (s_exit ⟨rfl, rfl, rfl, rfl⟩)
  · rintro v C' ⟨e0, rfl, z', rfl⟩
    refine t_L_all_7 _ _ _ ?_
    refine ⟨0, rfl, by decide, ?_⟩
    exact ⟨by rw [e0]; rfl, z', _, rfl, fun _ => rfl⟩
  · rintro nm C' ⟨hc, z', rfl⟩
    rcases hc with ⟨e, rfl⟩ | ⟨e, rfl⟩ | ⟨e, rfl⟩
    · refine ⟨[], ⟨0, 8, 11, 13⟩, [⟨0, 8, 14, 15⟩], 1, rfl, fun z hz => absurd hz List.not_mem_nil, by decide, by decide, v_4, v_7, ⟨3, 1, by decide, by decide, Or.inr ⟨3, rfl, dL_all_11, dL_all_12, dL_all_13⟩⟩, ?_⟩
      rw [e]
      exact ⟨rfl, z', f, rfl, fun h => by cases h⟩
    · refine ⟨[⟨0, 8, 11, 13⟩], ⟨0, 8, 14, 15⟩, [], 2, rfl, fun z hz => ?_, by decide, by decide, v_5, v_8, ⟨3, 2, by decide, by decide, Or.inr ⟨3, rfl, dL_all_14, dL_all_15, dL_all_16⟩⟩, ?_⟩
      · rw [List.mem_singleton.mp hz]
        exact ⟨by decide, eIA, v_4, Or.inl ⟨rfl, rfl⟩⟩
      · rw [e]
        exact ⟨rfl, z', f, rfl, fun h => by cases h⟩
    · exact absurd e (all_lt3 k x)
