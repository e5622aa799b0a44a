/-! one turn of the law's loop -/
abbrev LL (t : Nat) (j5 j6 j7 : Option Value) : aw_L := [some (.ref 1000), some (.ref 0), some (.ref 33), some (.ref 47), some (.int (nI (5 * t))), j5, j6, j7]
abbrev LW (k : cK) (z : cZ) (a : mA) (y : mZ) (f : Nat → Int64) : aw_H := xC k z ++ bB (nK k) a y f
/-- back at the loop's head -/
def lx2 (t : Nat) : Nat → aw_Kt := fun pc L st C => pc = 23 ∧ st = [] ∧ ∃ (k : cK) (z : cZ) (a : mA) (y : mZ) (f : Nat → Int64) (j5 j6 j7 : Option Value), L = LL (t + 1) j5 j6 j7 ∧ C = LW k z a y f ∧ WF k ∧ Rl k a
/-- .. or at a call of a wrapper -/
def lx1 (n : Nat) (xs : Nat → Int32) (t : Nat) (k : cK) (z : cZ) (a : mA) (y : mZ) (f : Nat → Int64) (j5 j6 j7 : Option Value) : Nat → aw_Kt := fun pc L st C => lx2 t pc L st C ∨ (5 * t + 4 < n ∧ L = LL t j5 j6 j7 ∧ C = LW k z a y f ∧ ((pc = 592 ∧ st = [.ref 47, .int (xs (5 * t + 2)), .int (xs (5 * t + 1)), .ref 0]) ∨ (pc = 778 ∧ st = [.ref 47, .int (xs (5 * t + 3)), .int (xs (5 * t + 2)), .int (xs (5 * t + 1)), .ref 0]) ∨ (pc = 845 ∧ st = [.ref 47, .int (xs (5 * t + 1)), .ref 0])))
abbrev lQ : Option Value → aw_H → Prop := fun v _ => v = some (.int 1)
theorem nI_add5 (t : Nat) : nI (5 * t) + 5 = nI (5 * (t + 1)) := by
  rw [show 5 * (t + 1) = 5 * t + 5 by omega, show (5 : Int32) = nI 5 from rfl, nI_add]
theorem law_fin {l : Launch} {xl : Option (Nat × (Nat → Int32))} {X : Nat → aw_Kt} {d kc ks : Nat} {t : Nat} (hX : ∀ L st C, lx2 t 23 L st C → X 23 L st C) (k : cK) (z : cZ) (a : mA) (y : mZ) (f : Nat → Int64) (j5 j6 j7 : Option Value) (w : WF k) (R : Rl k a) : k_L_law_942 l xl X d kc ks lQ (LL t j5 j6 j7) [] (LW k z a y f) := by
  refine s_exit (hX _ _ _ ⟨rfl, rfl, k, z, a, y, f, j5, j6, j7, ?_, rfl, w, R⟩)
  show [some (.ref 1000), some (.ref 0), some (.ref 33), some (.ref 47), some (Value.int (nI (5 * t) + 5)), j5, j6, j7] = _
  rw [nI_add5]
theorem law_in {n t : Nat} (hn : n ≤ 2560) (ht : t ≤ 513) (h : ¬ nI n - 5 < nI (5 * t)) : 5 * t + 4 < n := by
  by_cases c : 5 ≤ n
  · refine Classical.byContradiction fun q => h ?_
    rw [show (5 : Int32) = nI 5 from rfl, pk_sub c]
    exact nI_lt (by omega) (by omega)
  · refine absurd ?_ h
    have h0 : nI n - 5 < 0 := by
      rcases (show n = 0 ∨ n = 1 ∨ n = 2 ∨ n = 3 ∨ n = 4 by omega) with rfl | rfl | rfl | rfl | rfl <;> decide
    exact Int32.lt_of_lt_of_le h0 (Int32.not_lt.mp (nI_pos (by omega)))
theorem law_row {l : Launch} {X : Nat → aw_Kt} {d kc ks : Nat} {n t : Nat} {xs : Nat → Int32} (hX : ∀ L st C, lx2 t 23 L st C → X 23 L st C) (hn : n ≤ 2560) (h4 : 5 * t + 4 < n) (k : cK) (z : cZ) (a : mA) (y : mZ) (f : Nat → Int64) (j5 j6 j7 : Option Value) (w : WF k) (R : Rl k a) : k_L_law_128 l (some (n, xs)) X (d + 10) kc ks lQ (LL t j5 j6 j7) [] (LW k z a y f) := by
  have e1 : nI (5 * t) + 1 = nI (5 * t + 1) := (nI_succ _).symm
  have e2 : nI (5 * t) + 2 = nI (5 * t + 2) := by rw [show (2 : Int32) = nI 2 from rfl, nI_add]
  have e3 : nI (5 * t) + 3 = nI (5 * t + 3) := by rw [show (3 : Int32) = nI 3 from rfl, nI_add]
  have e4 : nI (5 * t) + 4 = nI (5 * t + 4) := by rw [show (4 : Int32) = nI 4 from rfl, nI_add]
  have h1 : 5 * t + 1 < n := by omega
  have h2 : 5 * t + 2 < n := by omega
  have h3 : 5 * t + 3 < n := by omega
  refine ⟨5 * t + 1, e1, h1, 5 * t + 2, e2, h2, 5 * t + 3, e3, h3, 5 * t + 4, e4, h4, ?_⟩
  refine ⟨_, SMet_f0 (bB (nK k) a y f) (c_row l (d + 8) k z (xs (5 * t + 1)) (xs (5 * t + 2)) (xs (5 * t + 3)) (xs (5 * t + 4)) w), ?_⟩
  rintro _ _ ⟨_, ⟨rfl, z', rfl⟩, rfl⟩
  refine ⟨5 * t + 1, e1, h1, 5 * t + 2, e2, h2, 5 * t + 3, e3, h3, 5 * t + 4, e4, h4, ?_⟩
  refine ⟨_, SMet_fr (xC (S_row k (xs (5 * t + 1)) (xs (5 * t + 2)) (xs (5 * t + 3)) (xs (5 * t + 4))).2 z') [oC f] rfl (c4_row l (d + 9) k a y (xs (5 * t + 1)) (xs (5 * t + 2)) (xs (5 * t + 3)) (xs (5 * t + 4)) w R), ?_⟩
  rintro _ _ ⟨_, _, ⟨rfl, a', y', rfl, R'⟩, -, rfl, rfl⟩
  exact ⟨fun _ => law_fin hX _ _ _ _ _ _ _ _ (W_row w (xs (5 * t + 1)) (xs (5 * t + 2)) (xs (5 * t + 3)) (xs (5 * t + 4))) R', fun c => absurd rfl c⟩
theorem law_label {l : Launch} {X : Nat → aw_Kt} {d kc ks : Nat} {n t : Nat} {xs : Nat → Int32} (hX : ∀ L st C, lx2 t 23 L st C → X 23 L st C) (hn : n ≤ 2560) (h4 : 5 * t + 4 < n) (k : cK) (z : cZ) (a : mA) (y : mZ) (f : Nat → Int64) (j5 j6 j7 : Option Value) (w : WF k) (R : Rl k a) : k_L_law_189 l (some (n, xs)) X (d + 10) kc ks lQ (LL t j5 j6 j7) [] (LW k z a y f) := by
  have e1 : nI (5 * t) + 1 = nI (5 * t + 1) := (nI_succ _).symm
  have e2 : nI (5 * t) + 2 = nI (5 * t + 2) := by rw [show (2 : Int32) = nI 2 from rfl, nI_add]
  have e3 : nI (5 * t) + 3 = nI (5 * t + 3) := by rw [show (3 : Int32) = nI 3 from rfl, nI_add]
  have e4 : nI (5 * t) + 4 = nI (5 * t + 4) := by rw [show (4 : Int32) = nI 4 from rfl, nI_add]
  have h1 : 5 * t + 1 < n := by omega
  have h2 : 5 * t + 2 < n := by omega
  have h3 : 5 * t + 3 < n := by omega
  refine ⟨5 * t + 1, e1, h1, 5 * t + 2, e2, h2, 5 * t + 3, e3, h3, ?_⟩
  refine ⟨_, SMet_f0 (bB (nK k) a y f) (c_label l (d + 7) k z (xs (5 * t + 1)) (xs (5 * t + 2)) (xs (5 * t + 3)) w), ?_⟩
  rintro _ _ ⟨_, ⟨rfl, z', rfl⟩, rfl⟩
  refine ⟨5 * t + 1, e1, h1, 5 * t + 2, e2, h2, 5 * t + 3, e3, h3, ?_⟩
  refine ⟨_, SMet_fr (xC (S_label k (xs (5 * t + 1)) (xs (5 * t + 2)) (xs (5 * t + 3))).2 z') [oC f] rfl (c4_label l (d + 7) k a y (xs (5 * t + 1)) (xs (5 * t + 2)) (xs (5 * t + 3)) w R), ?_⟩
  rintro _ _ ⟨_, _, ⟨rfl, a', y', rfl, R'⟩, -, rfl, rfl⟩
  exact ⟨fun _ => law_fin hX _ _ _ _ _ _ _ _ (W_label w (xs (5 * t + 1)) (xs (5 * t + 2)) (xs (5 * t + 3))) R', fun c => absurd rfl c⟩
theorem law_said {l : Launch} {X : Nat → aw_Kt} {d kc ks : Nat} {n t : Nat} {xs : Nat → Int32} (hX : ∀ L st C, lx2 t 23 L st C → X 23 L st C) (hn : n ≤ 2560) (h4 : 5 * t + 4 < n) (k : cK) (z : cZ) (a : mA) (y : mZ) (f : Nat → Int64) (j5 j6 j7 : Option Value) (w : WF k) (R : Rl k a) : k_L_law_238 l (some (n, xs)) X (d + 10) kc ks lQ (LL t j5 j6 j7) [] (LW k z a y f) := by
  have e1 : nI (5 * t) + 1 = nI (5 * t + 1) := (nI_succ _).symm
  have e2 : nI (5 * t) + 2 = nI (5 * t + 2) := by rw [show (2 : Int32) = nI 2 from rfl, nI_add]
  have e3 : nI (5 * t) + 3 = nI (5 * t + 3) := by rw [show (3 : Int32) = nI 3 from rfl, nI_add]
  have e4 : nI (5 * t) + 4 = nI (5 * t + 4) := by rw [show (4 : Int32) = nI 4 from rfl, nI_add]
  have h1 : 5 * t + 1 < n := by omega
  have h2 : 5 * t + 2 < n := by omega
  have h3 : 5 * t + 3 < n := by omega
  refine ⟨5 * t + 1, e1, h1, 5 * t + 2, e2, h2, ?_⟩
  refine ⟨_, SMet_f0 (bB (nK k) a y f) (c_said l (d + 8) k z (xs (5 * t + 1)) (xs (5 * t + 2)) w), ?_⟩
  rintro _ _ ⟨_, ⟨rfl, z', rfl⟩, rfl⟩
  refine ⟨5 * t + 1, e1, h1, 5 * t + 2, e2, h2, ?_⟩
  refine ⟨_, SMet_fr (xC (S_said k (xs (5 * t + 1)) (xs (5 * t + 2))).2 z') [oC f] rfl (c4_said l (d + 7) k a y (xs (5 * t + 1)) (xs (5 * t + 2)) w R), ?_⟩
  rintro _ _ ⟨_, _, ⟨rfl, a', y', rfl, R'⟩, -, rfl, rfl⟩
  exact ⟨fun _ => law_fin hX _ _ _ _ _ _ _ _ (W_said w (xs (5 * t + 1)) (xs (5 * t + 2))) R', fun c => absurd rfl c⟩
theorem law_gold {l : Launch} {X : Nat → aw_Kt} {d kc ks : Nat} {n t : Nat} {xs : Nat → Int32} (hX : ∀ L st C, lx2 t 23 L st C → X 23 L st C) (hn : n ≤ 2560) (h4 : 5 * t + 4 < n) (k : cK) (z : cZ) (a : mA) (y : mZ) (f : Nat → Int64) (j5 j6 j7 : Option Value) (w : WF k) (R : Rl k a) : k_L_law_275 l (some (n, xs)) X (d + 10) kc ks lQ (LL t j5 j6 j7) [] (LW k z a y f) := by
  have e1 : nI (5 * t) + 1 = nI (5 * t + 1) := (nI_succ _).symm
  have e2 : nI (5 * t) + 2 = nI (5 * t + 2) := by rw [show (2 : Int32) = nI 2 from rfl, nI_add]
  have e3 : nI (5 * t) + 3 = nI (5 * t + 3) := by rw [show (3 : Int32) = nI 3 from rfl, nI_add]
  have e4 : nI (5 * t) + 4 = nI (5 * t + 4) := by rw [show (4 : Int32) = nI 4 from rfl, nI_add]
  have h1 : 5 * t + 1 < n := by omega
  have h2 : 5 * t + 2 < n := by omega
  have h3 : 5 * t + 3 < n := by omega
  refine ⟨5 * t + 1, e1, h1, 5 * t + 2, e2, h2, ?_⟩
  refine ⟨_, SMet_f0 (bB (nK k) a y f) (c_gold l (d + 7) k z (xs (5 * t + 1)) (xs (5 * t + 2)) w), ?_⟩
  rintro _ _ ⟨_, ⟨rfl, z', rfl⟩, rfl⟩
  refine ⟨5 * t + 1, e1, h1, 5 * t + 2, e2, h2, ?_⟩
  refine ⟨_, SMet_fr (xC (S_gold k (xs (5 * t + 1)) (xs (5 * t + 2))).2 z') [oC f] rfl (c4_gold l (d + 7) k a y (xs (5 * t + 1)) (xs (5 * t + 2)) w R), ?_⟩
  rintro _ _ ⟨_, _, ⟨rfl, a', y', rfl, R'⟩, -, rfl, rfl⟩
  exact ⟨fun _ => law_fin hX _ _ _ _ _ _ _ _ (W_gold w (xs (5 * t + 1)) (xs (5 * t + 2))) R', fun c => absurd rfl c⟩
theorem law_bound {l : Launch} {X : Nat → aw_Kt} {d kc ks : Nat} {n t : Nat} {xs : Nat → Int32} (hX : ∀ L st C, lx2 t 23 L st C → X 23 L st C) (hn : n ≤ 2560) (h4 : 5 * t + 4 < n) (k : cK) (z : cZ) (a : mA) (y : mZ) (f : Nat → Int64) (j5 j6 j7 : Option Value) (w : WF k) (R : Rl k a) : k_L_law_312 l (some (n, xs)) X (d + 10) kc ks lQ (LL t j5 j6 j7) [] (LW k z a y f) := by
  have e1 : nI (5 * t) + 1 = nI (5 * t + 1) := (nI_succ _).symm
  have e2 : nI (5 * t) + 2 = nI (5 * t + 2) := by rw [show (2 : Int32) = nI 2 from rfl, nI_add]
  have e3 : nI (5 * t) + 3 = nI (5 * t + 3) := by rw [show (3 : Int32) = nI 3 from rfl, nI_add]
  have e4 : nI (5 * t) + 4 = nI (5 * t + 4) := by rw [show (4 : Int32) = nI 4 from rfl, nI_add]
  have h1 : 5 * t + 1 < n := by omega
  have h2 : 5 * t + 2 < n := by omega
  have h3 : 5 * t + 3 < n := by omega
  refine ⟨5 * t + 1, e1, h1, ?_⟩
  refine ⟨_, SMet_f0 (bB (nK k) a y f) (c_bound l (d + 9) k z (xs (5 * t + 1))), ?_⟩
  rintro _ _ ⟨_, ⟨rfl, z', rfl⟩, rfl⟩
  refine ⟨5 * t + 1, e1, h1, ?_⟩
  refine ⟨_, SMet_fr (xC (S_bound k (xs (5 * t + 1))).2 z') [oC f] rfl (c4_bound l (d + 8) k a y (xs (5 * t + 1)) R), ?_⟩
  rintro _ _ ⟨_, _, ⟨rfl, a', y', rfl, R'⟩, -, rfl, rfl⟩
  exact ⟨fun _ => law_fin hX _ _ _ _ _ _ _ _ (W_bound w (xs (5 * t + 1))) R', fun c => absurd rfl c⟩
theorem law_person {l : Launch} {X : Nat → aw_Kt} {d kc ks : Nat} {n t : Nat} {xs : Nat → Int32} (hX : ∀ L st C, lx2 t 23 L st C → X 23 L st C) (hn : n ≤ 2560) (h4 : 5 * t + 4 < n) (k : cK) (z : cZ) (a : mA) (y : mZ) (f : Nat → Int64) (j5 j6 j7 : Option Value) (w : WF k) (R : Rl k a) : k_L_law_390 l (some (n, xs)) X (d + 10) kc ks lQ (LL t j5 j6 j7) [] (LW k z a y f) := by
  have e1 : nI (5 * t) + 1 = nI (5 * t + 1) := (nI_succ _).symm
  have e2 : nI (5 * t) + 2 = nI (5 * t + 2) := by rw [show (2 : Int32) = nI 2 from rfl, nI_add]
  have e3 : nI (5 * t) + 3 = nI (5 * t + 3) := by rw [show (3 : Int32) = nI 3 from rfl, nI_add]
  have e4 : nI (5 * t) + 4 = nI (5 * t + 4) := by rw [show (4 : Int32) = nI 4 from rfl, nI_add]
  have h1 : 5 * t + 1 < n := by omega
  have h2 : 5 * t + 2 < n := by omega
  have h3 : 5 * t + 3 < n := by omega
  refine ⟨5 * t + 1, e1, h1, 5 * t + 2, e2, h2, ?_⟩
  refine ⟨_, SMet_f0 (bB (nK k) a y f) (c_person l (d + 7) k z (xs (5 * t + 1)) (xs (5 * t + 2)) w), ?_⟩
  rintro _ _ ⟨_, ⟨rfl, z', rfl⟩, rfl⟩
  refine ⟨5 * t + 1, e1, h1, 5 * t + 2, e2, h2, ?_⟩
  refine ⟨_, SMet_fr (xC (S_person k (xs (5 * t + 1)) (xs (5 * t + 2))).2 z') [oC f] rfl (c4_person l (d + 7) k a y (xs (5 * t + 1)) (xs (5 * t + 2)) w R), ?_⟩
  rintro _ _ ⟨_, _, ⟨rfl, a', y', rfl, R'⟩, -, rfl, rfl⟩
  exact ⟨fun _ => law_fin hX _ _ _ _ _ _ _ _ (W_person w (xs (5 * t + 1)) (xs (5 * t + 2))) R', fun c => absurd rfl c⟩
theorem law_rule {l : Launch} {X : Nat → aw_Kt} {d kc ks : Nat} {n t : Nat} {xs : Nat → Int32} (hX : ∀ L st C, lx2 t 23 L st C → X 23 L st C) (hn : n ≤ 2560) (h4 : 5 * t + 4 < n) (k : cK) (z : cZ) (a : mA) (y : mZ) (f : Nat → Int64) (j5 j6 j7 : Option Value) (w : WF k) (R : Rl k a) : k_L_law_427 l (some (n, xs)) X (d + 10) kc ks lQ (LL t j5 j6 j7) [] (LW k z a y f) := by
  have e1 : nI (5 * t) + 1 = nI (5 * t + 1) := (nI_succ _).symm
  have e2 : nI (5 * t) + 2 = nI (5 * t + 2) := by rw [show (2 : Int32) = nI 2 from rfl, nI_add]
  have e3 : nI (5 * t) + 3 = nI (5 * t + 3) := by rw [show (3 : Int32) = nI 3 from rfl, nI_add]
  have e4 : nI (5 * t) + 4 = nI (5 * t + 4) := by rw [show (4 : Int32) = nI 4 from rfl, nI_add]
  have h1 : 5 * t + 1 < n := by omega
  have h2 : 5 * t + 2 < n := by omega
  have h3 : 5 * t + 3 < n := by omega
  refine ⟨5 * t + 1, e1, h1, 5 * t + 2, e2, h2, 5 * t + 3, e3, h3, 5 * t + 4, e4, h4, ?_⟩
  refine ⟨_, SMet_f0 (bB (nK k) a y f) (c_rule l (d + 8) k z (xs (5 * t + 1)) (xs (5 * t + 2)) (xs (5 * t + 3)) (xs (5 * t + 4)) w), ?_⟩
  rintro _ _ ⟨_, ⟨rfl, z', rfl⟩, rfl⟩
  refine ⟨5 * t + 1, e1, h1, 5 * t + 2, e2, h2, 5 * t + 3, e3, h3, 5 * t + 4, e4, h4, ?_⟩
  refine ⟨_, SMet_fr (xC (S_rule k (xs (5 * t + 1)) (xs (5 * t + 2)) (xs (5 * t + 3)) (xs (5 * t + 4))).2 z') [oC f] rfl (c4_rule l (d + 8) k a y (xs (5 * t + 1)) (xs (5 * t + 2)) (xs (5 * t + 3)) (xs (5 * t + 4)) w R), ?_⟩
  rintro _ _ ⟨_, _, ⟨rfl, a', y', rfl, R'⟩, -, rfl, rfl⟩
  exact ⟨fun _ => law_fin hX _ _ _ _ _ _ _ _ (W_rule w (xs (5 * t + 1)) (xs (5 * t + 2)) (xs (5 * t + 3)) (xs (5 * t + 4))) R', fun c => absurd rfl c⟩
theorem law_table {l : Launch} {X : Nat → aw_Kt} {d kc ks : Nat} {n t : Nat} {xs : Nat → Int32} (hX : ∀ L st C, lx2 t 23 L st C → X 23 L st C) (hn : n ≤ 2560) (h4 : 5 * t + 4 < n) (k : cK) (z : cZ) (a : mA) (y : mZ) (f : Nat → Int64) (j5 j6 j7 : Option Value) (w : WF k) (R : Rl k a) : k_L_law_541 l (some (n, xs)) X (d + 10) kc ks lQ (LL t j5 j6 j7) [] (LW k z a y f) := by
  have e1 : nI (5 * t) + 1 = nI (5 * t + 1) := (nI_succ _).symm
  have e2 : nI (5 * t) + 2 = nI (5 * t + 2) := by rw [show (2 : Int32) = nI 2 from rfl, nI_add]
  have e3 : nI (5 * t) + 3 = nI (5 * t + 3) := by rw [show (3 : Int32) = nI 3 from rfl, nI_add]
  have e4 : nI (5 * t) + 4 = nI (5 * t + 4) := by rw [show (4 : Int32) = nI 4 from rfl, nI_add]
  have h1 : 5 * t + 1 < n := by omega
  have h2 : 5 * t + 2 < n := by omega
  have h3 : 5 * t + 3 < n := by omega
  refine ⟨5 * t + 1, e1, h1, 5 * t + 2, e2, h2, ?_⟩
  refine ⟨_, SMet_f0 (bB (nK k) a y f) (c_table l (d + 8) k z (xs (5 * t + 1)) (xs (5 * t + 2))), ?_⟩
  rintro _ _ ⟨_, ⟨rfl, z', rfl⟩, rfl⟩
  refine ⟨5 * t + 1, e1, h1, 5 * t + 2, e2, h2, ?_⟩
  refine ⟨_, SMet_fr (xC (S_table k (xs (5 * t + 1)) (xs (5 * t + 2))).2 z') [oC f] rfl (c4_table l (d + 8) k a y (xs (5 * t + 1)) (xs (5 * t + 2)) R), ?_⟩
  rintro _ _ ⟨_, _, ⟨rfl, a', y', rfl, R'⟩, -, rfl, rfl⟩
  exact ⟨fun _ => law_fin hX _ _ _ _ _ _ _ _ (W_table w (xs (5 * t + 1)) (xs (5 * t + 2))) R', fun c => absurd rfl c⟩
theorem law_abstains {l : Launch} {X : Nat → aw_Kt} {d kc ks : Nat} {n t : Nat} {xs : Nat → Int32} (hX : ∀ L st C, lx2 t 23 L st C → X 23 L st C) (hn : n ≤ 2560) (h4 : 5 * t + 4 < n) (k : cK) (z : cZ) (a : mA) (y : mZ) (f : Nat → Int64) (j5 j6 j7 : Option Value) (w : WF k) (R : Rl k a) : k_L_law_646 l (some (n, xs)) X (d + 10) kc ks lQ (LL t j5 j6 j7) [] (LW k z a y f) := by
  have e1 : nI (5 * t) + 1 = nI (5 * t + 1) := (nI_succ _).symm
  have e2 : nI (5 * t) + 2 = nI (5 * t + 2) := by rw [show (2 : Int32) = nI 2 from rfl, nI_add]
  have e3 : nI (5 * t) + 3 = nI (5 * t + 3) := by rw [show (3 : Int32) = nI 3 from rfl, nI_add]
  have e4 : nI (5 * t) + 4 = nI (5 * t + 4) := by rw [show (4 : Int32) = nI 4 from rfl, nI_add]
  have h1 : 5 * t + 1 < n := by omega
  have h2 : 5 * t + 2 < n := by omega
  have h3 : 5 * t + 3 < n := by omega
  refine ⟨5 * t + 1, e1, h1, ?_⟩
  refine ⟨_, SMet_f0 (bB (nK k) a y f) (c_abstains l (d + 7) k z (xs (5 * t + 1)) w), ?_⟩
  rintro _ _ ⟨_, ⟨rfl, z', rfl⟩, rfl⟩
  refine ⟨5 * t + 1, e1, h1, ?_⟩
  refine ⟨_, SMet_fr (xC (S_abstains k (xs (5 * t + 1))).2 z') [oC f] rfl (c4_abstains l (d + 7) k a y (xs (5 * t + 1)) w R), ?_⟩
  rintro _ _ ⟨_, _, ⟨rfl, a', y', rfl, R'⟩, -, rfl, rfl⟩
  exact ⟨fun _ => law_fin hX _ _ _ _ _ _ _ _ (W_abstains w (xs (5 * t + 1))) R', fun c => absurd rfl c⟩
theorem law_votes {l : Launch} {X : Nat → aw_Kt} {d kc ks : Nat} {n t : Nat} {xs : Nat → Int32} (hX : ∀ L st C, lx2 t 23 L st C → X 23 L st C) (hn : n ≤ 2560) (h4 : 5 * t + 4 < n) (k : cK) (z : cZ) (a : mA) (y : mZ) (f : Nat → Int64) (j5 j6 j7 : Option Value) (w : WF k) (R : Rl k a) : k_L_law_671 l (some (n, xs)) X (d + 10) kc ks lQ (LL t j5 j6 j7) [] (LW k z a y f) := by
  have e1 : nI (5 * t) + 1 = nI (5 * t + 1) := (nI_succ _).symm
  have e2 : nI (5 * t) + 2 = nI (5 * t + 2) := by rw [show (2 : Int32) = nI 2 from rfl, nI_add]
  have e3 : nI (5 * t) + 3 = nI (5 * t + 3) := by rw [show (3 : Int32) = nI 3 from rfl, nI_add]
  have e4 : nI (5 * t) + 4 = nI (5 * t + 4) := by rw [show (4 : Int32) = nI 4 from rfl, nI_add]
  have h1 : 5 * t + 1 < n := by omega
  have h2 : 5 * t + 2 < n := by omega
  have h3 : 5 * t + 3 < n := by omega
  refine ⟨5 * t + 1, e1, h1, 5 * t + 2, e2, h2, ?_⟩
  refine ⟨_, SMet_f0 (bB (nK k) a y f) (c_votes l (d + 6) k z (xs (5 * t + 1)) (xs (5 * t + 2)) w), ?_⟩
  rintro _ _ ⟨_, ⟨rfl, z', rfl⟩, rfl⟩
  refine ⟨5 * t + 1, e1, h1, 5 * t + 2, e2, h2, ?_⟩
  refine ⟨_, SMet_fr (xC (S_votes k (xs (5 * t + 1)) (xs (5 * t + 2))).2 z') [oC f] rfl (c4_votes l (d + 6) k a y (xs (5 * t + 1)) (xs (5 * t + 2)) w R), ?_⟩
  rintro _ _ ⟨_, _, ⟨rfl, a', y', rfl, R'⟩, -, rfl, rfl⟩
  exact ⟨fun _ => law_fin hX _ _ _ _ _ _ _ _ (W_votes w (xs (5 * t + 1)) (xs (5 * t + 2))) R', fun c => absurd rfl c⟩
theorem law_decided {l : Launch} {X : Nat → aw_Kt} {d kc ks : Nat} {n t : Nat} {xs : Nat → Int32} (hX : ∀ L st C, lx2 t 23 L st C → X 23 L st C) (hn : n ≤ 2560) (h4 : 5 * t + 4 < n) (k : cK) (z : cZ) (a : mA) (y : mZ) (f : Nat → Int64) (j5 j6 j7 : Option Value) (w : WF k) (R : Rl k a) : k_L_law_708 l (some (n, xs)) X (d + 10) kc ks lQ (LL t j5 j6 j7) [] (LW k z a y f) := by
  have e1 : nI (5 * t) + 1 = nI (5 * t + 1) := (nI_succ _).symm
  have e2 : nI (5 * t) + 2 = nI (5 * t + 2) := by rw [show (2 : Int32) = nI 2 from rfl, nI_add]
  have e3 : nI (5 * t) + 3 = nI (5 * t + 3) := by rw [show (3 : Int32) = nI 3 from rfl, nI_add]
  have e4 : nI (5 * t) + 4 = nI (5 * t + 4) := by rw [show (4 : Int32) = nI 4 from rfl, nI_add]
  have h1 : 5 * t + 1 < n := by omega
  have h2 : 5 * t + 2 < n := by omega
  have h3 : 5 * t + 3 < n := by omega
  refine ⟨5 * t + 1, e1, h1, ?_⟩
  refine ⟨_, SMet_f0 (bB (nK k) a y f) (c_decided l (d + 5) k z (xs (5 * t + 1)) w), ?_⟩
  rintro _ _ ⟨_, ⟨rfl, z', rfl⟩, rfl⟩
  refine ⟨5 * t + 1, e1, h1, ?_⟩
  refine ⟨_, SMet_fr (xC (S_decided k (xs (5 * t + 1))).2 z') [oC f] rfl (c4_decided l (d + 4) k a y (xs (5 * t + 1)) w R), ?_⟩
  rintro _ _ ⟨_, _, ⟨rfl, a', y', rfl, R'⟩, -, rfl, rfl⟩
  exact ⟨fun _ => law_fin hX _ _ _ _ _ _ _ _ (W_decided w (xs (5 * t + 1))) R', fun c => absurd rfl c⟩
theorem law_learn {l : Launch} {X : Nat → aw_Kt} {d kc ks : Nat} {n t : Nat} {xs : Nat → Int32} (hX : ∀ L st C, lx2 t 23 L st C → X 23 L st C) (hn : n ≤ 2560) (h4 : 5 * t + 4 < n) (k : cK) (z : cZ) (a : mA) (y : mZ) (f : Nat → Int64) (j5 j6 j7 : Option Value) (w : WF k) (R : Rl k a) : k_L_law_733 l (some (n, xs)) X (d + 10) kc ks lQ (LL t j5 j6 j7) [] (LW k z a y f) := by
  have e1 : nI (5 * t) + 1 = nI (5 * t + 1) := (nI_succ _).symm
  have e2 : nI (5 * t) + 2 = nI (5 * t + 2) := by rw [show (2 : Int32) = nI 2 from rfl, nI_add]
  have e3 : nI (5 * t) + 3 = nI (5 * t + 3) := by rw [show (3 : Int32) = nI 3 from rfl, nI_add]
  have e4 : nI (5 * t) + 4 = nI (5 * t + 4) := by rw [show (4 : Int32) = nI 4 from rfl, nI_add]
  have h1 : 5 * t + 1 < n := by omega
  have h2 : 5 * t + 2 < n := by omega
  have h3 : 5 * t + 3 < n := by omega
  refine ⟨5 * t + 1, e1, h1, ?_⟩
  refine ⟨_, SMet_f0 (bB (nK k) a y f) (c_learn l (d + 4) k z (xs (5 * t + 1)) w), ?_⟩
  rintro _ _ ⟨_, ⟨rfl, z', rfl⟩, rfl⟩
  refine ⟨5 * t + 1, e1, h1, ?_⟩
  refine ⟨_, SMet_fr (xC (S_learn k (xs (5 * t + 1))).2 z') [oC f] rfl (c4_learn l (d + 4) k a y (xs (5 * t + 1)) w R), ?_⟩
  rintro _ _ ⟨_, _, ⟨rfl, a', y', rfl, R'⟩, -, rfl, rfl⟩
  exact ⟨fun _ => law_fin hX _ _ _ _ _ _ _ _ (W_learn w (xs (5 * t + 1))) R', fun c => absurd rfl c⟩
theorem law_next {l : Launch} {X : Nat → aw_Kt} {d kc ks : Nat} {n t : Nat} {xs : Nat → Int32} (hX : ∀ L st C, lx2 t 23 L st C → X 23 L st C) (hn : n ≤ 2560) (h4 : 5 * t + 4 < n) (k : cK) (z : cZ) (a : mA) (y : mZ) (f : Nat → Int64) (j5 j6 j7 : Option Value) (w : WF k) (R : Rl k a) : k_L_law_892 l (some (n, xs)) X (d + 10) kc ks lQ (LL t j5 j6 j7) [] (LW k z a y f) := by
  have e1 : nI (5 * t) + 1 = nI (5 * t + 1) := (nI_succ _).symm
  have e2 : nI (5 * t) + 2 = nI (5 * t + 2) := by rw [show (2 : Int32) = nI 2 from rfl, nI_add]
  have e3 : nI (5 * t) + 3 = nI (5 * t + 3) := by rw [show (3 : Int32) = nI 3 from rfl, nI_add]
  have e4 : nI (5 * t) + 4 = nI (5 * t + 4) := by rw [show (4 : Int32) = nI 4 from rfl, nI_add]
  have h1 : 5 * t + 1 < n := by omega
  have h2 : 5 * t + 2 < n := by omega
  have h3 : 5 * t + 3 < n := by omega
  refine ⟨5 * t + 1, e1, h1, ?_⟩
  refine ⟨_, SMet_f0 (bB (nK k) a y f) (c_next l (d + 6) k z (xs (5 * t + 1)) w), ?_⟩
  rintro _ _ ⟨_, ⟨rfl, z', rfl⟩, rfl⟩
  refine ⟨5 * t + 1, e1, h1, ?_⟩
  refine ⟨_, SMet_fr (xC (S_next k (xs (5 * t + 1))).2 z') [oC f] rfl (c4_next l (d + 5) k a y (xs (5 * t + 1)) w R), ?_⟩
  rintro _ _ ⟨_, _, ⟨rfl, a', y', rfl, R'⟩, -, rfl, rfl⟩
  exact ⟨fun _ => law_fin hX _ _ _ _ _ _ _ _ (W_next w (xs (5 * t + 1))) R', fun c => absurd rfl c⟩
theorem law_about {l : Launch} {X : Nat → aw_Kt} {d kc ks : Nat} {n t : Nat} {xs : Nat → Int32} (hX : ∀ L st C, lx2 t 23 L st C → X 23 L st C) (hn : n ≤ 2560) (h4 : 5 * t + 4 < n) (k : cK) (z : cZ) (a : mA) (y : mZ) (f : Nat → Int64) (j5 j6 j7 : Option Value) (w : WF k) (R : Rl k a) : k_L_law_917 l (some (n, xs)) X (d + 10) kc ks lQ (LL t j5 j6 j7) [] (LW k z a y f) := by
  have e1 : nI (5 * t) + 1 = nI (5 * t + 1) := (nI_succ _).symm
  have e2 : nI (5 * t) + 2 = nI (5 * t + 2) := by rw [show (2 : Int32) = nI 2 from rfl, nI_add]
  have e3 : nI (5 * t) + 3 = nI (5 * t + 3) := by rw [show (3 : Int32) = nI 3 from rfl, nI_add]
  have e4 : nI (5 * t) + 4 = nI (5 * t + 4) := by rw [show (4 : Int32) = nI 4 from rfl, nI_add]
  have h1 : 5 * t + 1 < n := by omega
  have h2 : 5 * t + 2 < n := by omega
  have h3 : 5 * t + 3 < n := by omega
  refine ⟨5 * t + 1, e1, h1, ?_⟩
  refine ⟨_, SMet_f0 (bB (nK k) a y f) (c_about l (d + 4) k z (xs (5 * t + 1)) w), ?_⟩
  rintro _ _ ⟨_, ⟨rfl, z', rfl⟩, rfl⟩
  refine ⟨5 * t + 1, e1, h1, ?_⟩
  refine ⟨_, SMet_fr (xC (S_about k (xs (5 * t + 1))).2 z') [oC f] rfl (c4_about l (d + 4) k a y (xs (5 * t + 1)) w R), ?_⟩
  rintro _ _ ⟨_, _, ⟨rfl, a', y', rfl, R'⟩, -, rfl, rfl⟩
  exact ⟨fun _ => law_fin hX _ _ _ _ _ _ _ _ (W_about w (xs (5 * t + 1))) R', fun c => absurd rfl c⟩
theorem law_expert {l : Launch} {X : Nat → aw_Kt} {d kc ks : Nat} {n t : Nat} {xs : Nat → Int32} (hX : ∀ L st C, lx2 t 23 L st C → X 23 L st C) (hn : n ≤ 2560) (h4 : 5 * t + 4 < n) (k : cK) (z : cZ) (a : mA) (y : mZ) (f : Nat → Int64) (j5 j6 j7 : Option Value) (w : WF k) (R : Rl k a) : k_L_law_337 l (some (n, xs)) X (d + 10) kc ks lQ (LL t j5 j6 j7) [] (LW k z a y f) := by
  have e1 : nI (5 * t) + 1 = nI (5 * t + 1) := (nI_succ _).symm
  have e2 : nI (5 * t) + 2 = nI (5 * t + 2) := by rw [show (2 : Int32) = nI 2 from rfl, nI_add]
  have h1 : 5 * t + 1 < n := by omega
  have h2 : 5 * t + 2 < n := by omega
  have key2 : ∀ (b : Int32) (z' : cZ), (b = 0 ∨ b = 1) → k_L_law_382 l (some (n, xs)) X (d + 10) kc ks lQ (LL t j5 j6 j7) [.int b, .int (xs (5 * t + 1)), .ref 33, .int (S_expert k (xs (5 * t + 1)) b).1] (xC (S_expert k (xs (5 * t + 1)) b).2 z' ++ bB (nK k) a y f) := by
    intro b z' hb
    refine ⟨_, SMet_fr (xC (S_expert k (xs (5 * t + 1)) b).2 z') [oC f] rfl (c4_expert l (d + 7) k a y (xs (5 * t + 1)) b hb R), ?_⟩
    rintro _ _ ⟨_, _, ⟨rfl, a', y', rfl, R'⟩, -, rfl, rfl⟩
    exact ⟨fun _ => law_fin hX _ _ _ _ _ _ _ _ (W_expert w (xs (5 * t + 1)) b hb) R', fun c => absurd rfl c⟩
  refine ⟨5 * t + 1, e1, h1, 5 * t + 2, e2, h2, fun c => ?_, fun c => ?_⟩
  · refine ⟨_, SMet_f0 (bB (nK k) a y f) (c_expert l (d + 8) k z (xs (5 * t + 1)) 0 (Or.inl rfl)), ?_⟩
    rintro _ _ ⟨_, ⟨rfl, z', rfl⟩, rfl⟩
    exact ⟨5 * t + 1, e1, h1, 5 * t + 2, e2, h2, fun _ => key2 0 z' (Or.inl rfl), fun c2 => absurd c c2⟩
  · refine ⟨_, SMet_f0 (bB (nK k) a y f) (c_expert l (d + 8) k z (xs (5 * t + 1)) 1 (Or.inr rfl)), ?_⟩
    rintro _ _ ⟨_, ⟨rfl, z', rfl⟩, rfl⟩
    exact ⟨5 * t + 1, e1, h1, 5 * t + 2, e2, h2, fun c2 => absurd c2 c, fun _ => key2 1 z' (Or.inr rfl)⟩
theorem law_turn {l : Launch} {X : Nat → aw_Kt} {d kc ks : Nat} {n t : Nat} {xs : Nat → Int32} (hX : ∀ L st C, lx2 t 23 L st C → X 23 L st C) (hn : n ≤ 2560) (h4 : 5 * t + 4 < n) (k : cK) (z : cZ) (a : mA) (y : mZ) (f : Nat → Int64) (j5 j6 j7 : Option Value) (w : WF k) (R : Rl k a) : k_L_law_488 l (some (n, xs)) X (d + 10) kc ks lQ (LL t j5 j6 j7) [] (LW k z a y f) := by
  have e1 : nI (5 * t) + 1 = nI (5 * t + 1) := (nI_succ _).symm
  have e2 : nI (5 * t) + 2 = nI (5 * t + 2) := by rw [show (2 : Int32) = nI 2 from rfl, nI_add]
  have h1 : 5 * t + 1 < n := by omega
  have h2 : 5 * t + 2 < n := by omega
  have key2 : ∀ (b : Int32) (z' : cZ), (b = 0 ∨ b = 1) → k_L_law_533 l (some (n, xs)) X (d + 10) kc ks lQ (LL t j5 j6 j7) [.int b, .int (xs (5 * t + 1)), .ref 33, .int (S_turn k (xs (5 * t + 1)) b).1] (xC (S_turn k (xs (5 * t + 1)) b).2 z' ++ bB (nK k) a y f) := by
    intro b z' hb
    refine ⟨_, SMet_fr (xC (S_turn k (xs (5 * t + 1)) b).2 z') [oC f] rfl (c4_turn l (d + 8) k a y (xs (5 * t + 1)) b hb w R), ?_⟩
    rintro _ _ ⟨_, _, ⟨rfl, a', y', rfl, R'⟩, -, rfl, rfl⟩
    exact ⟨fun _ => law_fin hX _ _ _ _ _ _ _ _ (W_turn w (xs (5 * t + 1)) b hb) R', fun c => absurd rfl c⟩
  refine ⟨5 * t + 1, e1, h1, 5 * t + 2, e2, h2, fun c => ?_, fun c => ?_⟩
  · refine ⟨_, SMet_f0 (bB (nK k) a y f) (c_turn l (d + 8) k z (xs (5 * t + 1)) 0 (Or.inl rfl) w), ?_⟩
    rintro _ _ ⟨_, ⟨rfl, z', rfl⟩, rfl⟩
    exact ⟨5 * t + 1, e1, h1, 5 * t + 2, e2, h2, fun _ => key2 0 z' (Or.inl rfl), fun c2 => absurd c c2⟩
  · refine ⟨_, SMet_f0 (bB (nK k) a y f) (c_turn l (d + 8) k z (xs (5 * t + 1)) 1 (Or.inr rfl) w), ?_⟩
    rintro _ _ ⟨_, ⟨rfl, z', rfl⟩, rfl⟩
    exact ⟨5 * t + 1, e1, h1, 5 * t + 2, e2, h2, fun c2 => absurd c2 c, fun _ => key2 1 z' (Or.inr rfl)⟩
theorem law_step {l : Launch} {d kc ks : Nat} {n t : Nat} {xs : Nat → Int32} (hn : n ≤ 2560) (ht : t ≤ 513) (k : cK) (z : cZ) (a : mA) (y : mZ) (f : Nat → Int64) (j5 j6 j7 : Option Value) (w : WF k) (R : Rl k a) : SW l m_L_law (some (n, xs)) (lx1 n xs t k z a y f j5 j6 j7) (d + 10) kc ks lQ 23 (LL t j5 j6 j7) [] (LW k z a y f) := by
  have hX : ∀ L st C, lx2 t 23 L st C → lx1 n xs t k z a y f j5 j6 j7 23 L st C := fun _ _ _ h => Or.inl h
  refine t_L_law_23 _ _ _ ⟨fun _ => ⟨Or.inr rfl, rfl⟩, fun c => ?_⟩
  have h4 := law_in hn ht c
  have e1 : nI (5 * t) + 1 = nI (5 * t + 1) := (nI_succ _).symm
  have e2 : nI (5 * t) + 2 = nI (5 * t + 2) := by rw [show (2 : Int32) = nI 2 from rfl, nI_add]
  have e3 : nI (5 * t) + 3 = nI (5 * t + 3) := by rw [show (3 : Int32) = nI 3 from rfl, nI_add]
  have h1 : 5 * t + 1 < n := by omega
  have h2 : 5 * t + 2 < n := by omega
  have h3 : 5 * t + 3 < n := by omega
  refine ⟨5 * t, rfl, by show 5 * t < n; omega, fun _ => law_fin hX _ _ _ _ _ _ _ _ w R, ?_⟩
  exact ⟨fun _ => law_row hX hn h4 k z a y f j5 j6 j7 w R, fun _ => law_label hX hn h4 k z a y f j5 j6 j7 w R, fun _ => law_said hX hn h4 k z a y f j5 j6 j7 w R, fun _ => law_gold hX hn h4 k z a y f j5 j6 j7 w R, fun _ => law_bound hX hn h4 k z a y f j5 j6 j7 w R, fun _ => law_expert hX hn h4 k z a y f j5 j6 j7 w R, fun _ => law_person hX hn h4 k z a y f j5 j6 j7 w R, fun _ => law_rule hX hn h4 k z a y f j5 j6 j7 w R, fun _ => law_turn hX hn h4 k z a y f j5 j6 j7 w R, fun _ => law_table hX hn h4 k z a y f j5 j6 j7 w R, fun _ => ⟨5 * t + 1, e1, h1, 5 * t + 2, e2, h2, s_exit (Or.inr ⟨h4, rfl, rfl, Or.inl ⟨rfl, rfl⟩⟩)⟩, fun _ => law_abstains hX hn h4 k z a y f j5 j6 j7 w R, fun _ => law_votes hX hn h4 k z a y f j5 j6 j7 w R, fun _ => law_decided hX hn h4 k z a y f j5 j6 j7 w R, fun _ => law_learn hX hn h4 k z a y f j5 j6 j7 w R, fun _ => ⟨5 * t + 1, e1, h1, 5 * t + 2, e2, h2, 5 * t + 3, e3, h3, s_exit (Or.inr ⟨h4, rfl, rfl, Or.inr (Or.inl ⟨rfl, rfl⟩)⟩)⟩, fun _ => ⟨5 * t + 1, e1, h1, s_exit (Or.inr ⟨h4, rfl, rfl, Or.inr (Or.inr ⟨rfl, rfl⟩)⟩)⟩, fun _ => law_next hX hn h4 k z a y f j5 j6 j7 w R, fun _ => law_about hX hn h4 k z a y f j5 j6 j7 w R, trivial⟩
theorem cod_of {c : Nat} (h : c ≤ 3) (e : nI c = 0) : c = 0 := (nI_eq (by omega) (by decide)).mp e
theorem cod_says {k : cK} {q r : Int32} (e : nI (S_says k q r).1 = 0) : (S_says k q r).1 = 0 := by
  refine cod_of ?_ e
  exact cE_ok (P := fun s : Nat × Int32 => s.1 ≤ 3) (fun _ => cE_ok (P := fun s : Nat × Int32 => s.1 ≤ 3) (fun _ => by decide) (fun _ => cE_ok (P := fun s : Nat × Int32 => s.1 ≤ 3) (fun _ => by decide) (fun _ => Nat.zero_le _))) (fun _ => by decide)
theorem cod_agree {k : cK} {p q x : Int32} (e : nI (S_agree k p q x).1 = 0) : (S_agree k p q x).1 = 0 := by
  refine cod_of ?_ e
  refine cE_ok (P := fun s : Nat × Int64 => s.1 ≤ 3) (fun _ => ?_) (fun _ => by decide)
  rcases part_lt3 x (lN (N2 k (tN p) (tN q))) (lN (A2 k (tN p) (tN q))) (ov2 k (tN p) (tN q)) (un2 k (tN p) (tN q)) with e | e <;> rw [e] <;> decide
theorem cod_all {k : cK} {x : Int32} (e : nI (S_all k x).1 = 0) : (S_all k x).1 = 0 := by
  refine cod_of ?_ e
  refine cE_ok (P := fun s : Nat × Int64 => s.1 ≤ 3) (fun _ => ?_) (fun _ => by decide)
  rcases part_lt3 x (lN (MA k)) (lN (CA k)) (ovA k) (unA k) with e | e <;> rw [e] <;> decide
theorem law_says_b {l : Launch} {d kc ks : Nat} {n t : Nat} {xs : Nat → Int32} (hn : n ≤ 2560) (h4 : 5 * t + 4 < n) (k : cK) (z : cZ) (a : mA) (y : mZ) (f : Nat → Int64) (j5 j6 j7 : Option Value) (w : WF k) (R : Rl k a) (hf : (S_says k (xs (5 * t + 1)) (xs (5 * t + 2))).1 = 0 → f 0 = (S_says k (xs (5 * t + 1)) (xs (5 * t + 2))).2.toInt64) : SW l m_L_law (some (n, xs)) (lx2 t) (d + 10) kc ks lQ 595 (LL t j5 j6 j7) [.int (nI (S_says k (xs (5 * t + 1)) (xs (5 * t + 2))).1)] (LW k z a y f) := by
  have hX : ∀ L st C, lx2 t 23 L st C → lx2 t 23 L st C := fun _ _ _ h => h
  have e1 : nI (5 * t) + 1 = nI (5 * t + 1) := (nI_succ _).symm
  have e2 : nI (5 * t) + 2 = nI (5 * t + 2) := by rw [show (2 : Int32) = nI 2 from rfl, nI_add]
  have e3 : nI (5 * t) + 3 = nI (5 * t + 3) := by rw [show (3 : Int32) = nI 3 from rfl, nI_add]
  have h1 : 5 * t + 1 < n := by omega
  have h2 : 5 * t + 2 < n := by omega
  have h3 : 5 * t + 3 < n := by omega
  refine t_L_law_595 _ _ _ ⟨5 * t + 1, e1, h1, 5 * t + 2, e2, h2, ?_⟩
  refine ⟨_, SMet_fr (xC k z) [oC f] rfl (c4_says l (d + 7) k a y (xs (5 * t + 1)) (xs (5 * t + 2)) w R), ?_⟩
  rintro _ _ ⟨_, _, ⟨rfl, a', y', rfl, R', hy⟩, -, rfl, rfl⟩
  refine ⟨_, SMet_fr (xC k z) [oC f] rfl (c4_thrown l (d + 9) (nK k) a' y'), ?_⟩
  rintro _ _ ⟨_, _, ⟨rfl, rfl⟩, -, rfl, rfl⟩
  refine ⟨fun _ => ?_, fun c => absurd hy c⟩
  refine ⟨fun c => ?_, fun _ => law_fin hX _ _ _ _ _ _ _ _ w R'⟩
  have hc : (S_says k (xs (5 * t + 1)) (xs (5 * t + 2))).1 = 0 := cod_says c
  refine ⟨0, rfl, by decide, br_l (fun _ => law_fin hX _ _ _ _ _ _ _ _ w R') (fun q => absurd (hf hc) q)⟩
theorem law_agree_b {l : Launch} {d kc ks : Nat} {n t : Nat} {xs : Nat → Int32} (hn : n ≤ 2560) (h4 : 5 * t + 4 < n) (k : cK) (z : cZ) (a : mA) (y : mZ) (f : Nat → Int64) (j5 j6 j7 : Option Value) (w : WF k) (R : Rl k a) (hf : (S_agree k (xs (5 * t + 1)) (xs (5 * t + 2)) (xs (5 * t + 3))).1 = 0 → f 0 = (S_agree k (xs (5 * t + 1)) (xs (5 * t + 2)) (xs (5 * t + 3))).2) : SW l m_L_law (some (n, xs)) (lx2 t) (d + 10) kc ks lQ 781 (LL t j5 j6 j7) [.int (nI (S_agree k (xs (5 * t + 1)) (xs (5 * t + 2)) (xs (5 * t + 3))).1)] (LW k z a y f) := by
  have hX : ∀ L st C, lx2 t 23 L st C → lx2 t 23 L st C := fun _ _ _ h => h
  have e1 : nI (5 * t) + 1 = nI (5 * t + 1) := (nI_succ _).symm
  have e2 : nI (5 * t) + 2 = nI (5 * t + 2) := by rw [show (2 : Int32) = nI 2 from rfl, nI_add]
  have e3 : nI (5 * t) + 3 = nI (5 * t + 3) := by rw [show (3 : Int32) = nI 3 from rfl, nI_add]
  have h1 : 5 * t + 1 < n := by omega
  have h2 : 5 * t + 2 < n := by omega
  have h3 : 5 * t + 3 < n := by omega
  refine t_L_law_781 _ _ _ ⟨5 * t + 1, e1, h1, 5 * t + 2, e2, h2, 5 * t + 3, e3, h3, ?_⟩
  refine ⟨_, SMet_fr (xC k z) [oC f] rfl (c4_agree l (d + 7) k a y (xs (5 * t + 1)) (xs (5 * t + 2)) (xs (5 * t + 3)) w R), ?_⟩
  rintro _ _ ⟨_, _, ⟨rfl, a', y', rfl, R', hy⟩, -, rfl, rfl⟩
  refine ⟨_, SMet_fr (xC k z) [oC f] rfl (c4_thrown l (d + 9) (nK k) a' y'), ?_⟩
  rintro _ _ ⟨_, _, ⟨rfl, rfl⟩, -, rfl, rfl⟩
  refine ⟨fun _ => ?_, fun c => absurd hy c⟩
  refine ⟨fun c => ?_, fun _ => law_fin hX _ _ _ _ _ _ _ _ w R'⟩
  have hc : (S_agree k (xs (5 * t + 1)) (xs (5 * t + 2)) (xs (5 * t + 3))).1 = 0 := cod_agree c
  refine ⟨0, rfl, by decide, br_l (fun _ => law_fin hX _ _ _ _ _ _ _ _ w R') (fun q => absurd (hf hc) q)⟩
theorem law_all_b {l : Launch} {d kc ks : Nat} {n t : Nat} {xs : Nat → Int32} (hn : n ≤ 2560) (h4 : 5 * t + 4 < n) (k : cK) (z : cZ) (a : mA) (y : mZ) (f : Nat → Int64) (j5 j6 j7 : Option Value) (w : WF k) (R : Rl k a) (hf : (S_all k (xs (5 * t + 1))).1 = 0 → f 0 = (S_all k (xs (5 * t + 1))).2) : SW l m_L_law (some (n, xs)) (lx2 t) (d + 10) kc ks lQ 848 (LL t j5 j6 j7) [.int (nI (S_all k (xs (5 * t + 1))).1)] (LW k z a y f) := by
  have hX : ∀ L st C, lx2 t 23 L st C → lx2 t 23 L st C := fun _ _ _ h => h
  have e1 : nI (5 * t) + 1 = nI (5 * t + 1) := (nI_succ _).symm
  have e2 : nI (5 * t) + 2 = nI (5 * t + 2) := by rw [show (2 : Int32) = nI 2 from rfl, nI_add]
  have e3 : nI (5 * t) + 3 = nI (5 * t + 3) := by rw [show (3 : Int32) = nI 3 from rfl, nI_add]
  have h1 : 5 * t + 1 < n := by omega
  have h2 : 5 * t + 2 < n := by omega
  have h3 : 5 * t + 3 < n := by omega
  refine t_L_law_848 _ _ _ ⟨5 * t + 1, e1, h1, ?_⟩
  refine ⟨_, SMet_fr (xC k z) [oC f] rfl (c4_all l (d + 8) k a y (xs (5 * t + 1)) w R), ?_⟩
  rintro _ _ ⟨_, _, ⟨rfl, a', y', rfl, R', hy⟩, -, rfl, rfl⟩
  refine ⟨_, SMet_fr (xC k z) [oC f] rfl (c4_thrown l (d + 9) (nK k) a' y'), ?_⟩
  rintro _ _ ⟨_, _, ⟨rfl, rfl⟩, -, rfl, rfl⟩
  refine ⟨fun _ => ?_, fun c => absurd hy c⟩
  refine ⟨fun c => ?_, fun _ => law_fin hX _ _ _ _ _ _ _ _ w R'⟩
  have hc : (S_all k (xs (5 * t + 1))).1 = 0 := cod_all c
  refine ⟨0, rfl, by decide, br_l (fun _ => law_fin hX _ _ _ _ _ _ _ _ w R') (fun q => absurd (hf hc) q)⟩
