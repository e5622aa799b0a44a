/-! the reference's calls -/
abbrev qS (s : Int32 × cK) : Option Value → aw_H → Prop := fun v C => v = some (.int s.1) ∧ ∃ a y, C = yC (nK s.2) a y ∧ Rl s.2 a
theorem nI_ne {a b : Nat} (h : a ≠ b) (ha : a < 2 ^ 31) (hb : b < 2 ^ 31) : ¬ nI a = nI b := fun e => h ((nI_eq ha hb).mp e)
theorem c4_row (l : Launch) (d : Nat) (k : cK) (a : mA) (y : mZ) (f0 f1 f2 f3 : Int32) (w : WF k) (R : Rl k a) : SMet l m_X4_row d [.ref 0, .int f0, .int f1, .int f2, .int f3] (yC (nK k) a y) (qS (S_row k f0 f1 f2 f3)) := by
  have hn := w.n
  refine SMet_of 0 (by decide) (Nat.le_of_ble_eq_true rfl) (t_X4_row_0 _ _ _ ?_)
  by_cases h : k_n k < 40
  · rw [S_row, cE_t h]
    refine br_f (nI_ne (a := k_n k) (b := 40) (by omega) (by omega) (by decide)) ?_
    refine ⟨4 * k_n k + 0, by rw [← ix4, nI_0]; simp, by omega, ?_⟩
    refine ⟨4 * k_n k + 1, ix4 _ 1, by omega, ?_⟩
    refine ⟨4 * k_n k + 2, ix4 _ 2, by omega, ?_⟩
    refine ⟨4 * k_n k + 3, ix4 _ 3, by omega, ?_⟩
    refine ⟨k_n k, rfl, h, ?_⟩
    refine ⟨?_, (upd (upd (upd (upd (b_fe a) (4 * k_n k + 0) f0) (4 * k_n k + 1) f1) (4 * k_n k + 2) f2) (4 * k_n k + 3) f3, b_sa a, upd (b_go a) (k_n k) (-1), a.2.2.2), y, ?_, ?_⟩
    · exact congrArg (fun x => some (Value.int x)) (sub1 _)
    · simp only [yC, nI_succ]
      rfl
    · refine ⟨fun r i hr hi => ?_, R.2.1, fun r hr => ?_, R.2.2.2.1, R.2.2.2.2.1, R.2.2.2.2.2.1, R.2.2.2.2.2.2⟩
      · have hr' : r < k_n k + 1 := hr
        show upd (upd (upd (upd (b_fe a) (4 * k_n k + 0) f0) (4 * k_n k + 1) f1) (4 * k_n k + 2) f2) (4 * k_n k + 3) f3 (4 * r + i) = (if i = 0 then upd (k_ft k 0) (k_n k) f0 else if i = 1 then upd (k_ft k 1) (k_n k) f1 else if i = 2 then upd (k_ft k 2) (k_n k) f2 else if i = 3 then upd (k_ft k 3) (k_n k) f3 else k_ft k i) r
        by_cases e : r = k_n k
        · subst e
          rcases (show i = 0 ∨ i = 1 ∨ i = 2 ∨ i = 3 by omega) with rfl | rfl | rfl | rfl
          · rw [pk_un (by omega), pk_un (by omega), pk_un (by omega), pk_us, if_pos rfl, pk_us]
          · rw [pk_un (by omega), pk_un (by omega), pk_us, if_neg (by decide), if_pos rfl, pk_us]
          · rw [pk_un (by omega), pk_us, if_neg (by decide), if_neg (by decide), if_pos rfl, pk_us]
          · rw [pk_us, if_neg (by decide), if_neg (by decide), if_neg (by decide), if_pos rfl, pk_us]
        · have e2 := R.fe (show r < k_n k by omega) hi
          rw [pk_un (by omega), pk_un (by omega), pk_un (by omega), pk_un (by omega), e2]
          rcases (show i = 0 ∨ i = 1 ∨ i = 2 ∨ i = 3 by omega) with rfl | rfl | rfl | rfl
          · rw [if_pos rfl, pk_un e]
          · rw [if_neg (by decide), if_pos rfl, pk_un e]
          · rw [if_neg (by decide), if_neg (by decide), if_pos rfl, pk_un e]
          · rw [if_neg (by decide), if_neg (by decide), if_neg (by decide), if_pos rfl, pk_un e]
      · have hr' : r < k_n k + 1 := hr
        show upd (b_go a) (k_n k) (-1) r = k_kn k r
        by_cases e : r = k_n k
        · subst e
          rw [pk_us]
          exact (w.2.2.2.2.2.2.2.2.2.2 _ (Nat.le_refl _) h).symm
        · rw [pk_un e]
          exact R.go (by omega)
  · rw [S_row, cE_f h]
    have e : k_n k = 40 := by omega
    refine br_t ?_ ⟨rfl, a, y, rfl, R⟩
    show nI (k_n k) = 40
    rw [e]
    rfl
theorem c4_label (l : Launch) (d : Nat) (k : cK) (a : mA) (y : mZ) (p r x : Int32) (w : WF k) (R : Rl k a) : SMet l m_X4_label (d + 2) [.ref 0, .int p, .int r, .int x] (yC (nK k) a y) (qS (S_label k p r x)) := by
  have hn := w.n
  refine SMet_of 0 (by decide) (Nat.le_of_ble_eq_true rfl) (t_X4_label_0 _ _ _ ?_)
  refine ⟨_, c4_isPerson l d _ _, ?_⟩
  rintro _ _ ⟨rfl, rfl⟩
  refine br_b (fun c => ?_) (fun c => ⟨_, c4_isRow l d k a y _ w, ?_⟩)
  · rw [S_label, cE_f (fun h => c h.1)]
    exact ⟨rfl, a, y, rfl, R⟩
  rintro _ _ ⟨rfl, rfl⟩
  refine br_b (fun c2 => ?_) (fun c2 => ⟨_, c4_inX l (d + 1) _ _ 4 (n := 5) (by decide) (by decide), ?_⟩)
  · rw [S_label, cE_f (fun h => c2 h.2)]
    exact ⟨rfl, a, y, rfl, R⟩
  rintro _ _ ⟨rfl, rfl⟩
  refine br_b (fun c3 => ?_) (fun c3 => ?_)
  · rw [S_label, cE_t ⟨c, c2⟩, cE_f c3]
    exact ⟨rfl, a, y, rfl, R⟩
  rw [S_label, cE_t ⟨c, c2⟩, cE_t c3]
  obtain ⟨P, hP, rfl⟩ := c
  obtain ⟨Rr, hR, rfl⟩ := c2
  rw [tN_n (show P < 1000 by omega), tN_n (show Rr < 1000 by omega)]
  refine ⟨8 * Rr + P, ix8 Rr P, by omega, ?_⟩
  rw [R.sa (by omega) hP]
  refine ⟨fun c4 => ⟨8 * Rr + P, ix8 Rr P, by omega, ?_⟩, fun c4 => ?_⟩
  · have c4' := (sa_le (w.gv hP (show Rr < 40 by omega))).mp c4
    rw [cE_t c4']
    refine ⟨rfl, (b_fe a, upd (b_sa a) (8 * Rr + P) (x + 1), a.2.2), y, rfl, R.1, fun r' p' hr' hp' => ?_, R.2.2⟩
    show upd (b_sa a) (8 * Rr + P) (x + 1) (8 * r' + p') = (if p' = P then upd (k_gv k P) Rr x else k_gv k p') r' + 1
    by_cases e : p' = P
    · rw [if_pos e]
      by_cases e2 : r' = Rr
      · subst e; subst e2
        rw [pk_us, pk_us]
      · rw [pk_un (by omega), pk_un e2, e]
        exact R.sa hr' hP
    · rw [if_neg e, pk_un (by omega)]
      exact R.sa hr' hp'
  · rw [cE_f (fun e => c4 ((sa_le (w.gv hP (show Rr < 40 by omega))).mpr e))]
    exact ⟨rfl, a, y, rfl, R⟩
theorem c4_said (l : Launch) (d : Nat) (k : cK) (a : mA) (y : mZ) (p r : Int32) (w : WF k) (R : Rl k a) : SMet l m_X4_said (d + 2) [.ref 0, .int p, .int r] (yC (nK k) a y) (qS (S_said k p r)) := by
  have hn := w.n
  refine SMet_of 0 (by decide) (Nat.le_of_ble_eq_true rfl) (t_X4_said_0 _ _ _ ?_)
  refine ⟨_, c4_isPerson l d _ _, ?_⟩
  rintro _ _ ⟨rfl, rfl⟩
  refine br_b (fun c => ?_) (fun c => ⟨_, c4_isRow l d k a y _ w, ?_⟩)
  · rw [S_said, cE_f (fun h => c h.1)]
    exact ⟨rfl, a, y, rfl, R⟩
  rintro _ _ ⟨rfl, rfl⟩
  refine br_b (fun c2 => ?_) (fun c2 => ?_)
  · rw [S_said, cE_f (fun h => c2 h.2)]
    exact ⟨rfl, a, y, rfl, R⟩
  rw [S_said, cE_t ⟨c, c2⟩]
  obtain ⟨P, hP, rfl⟩ := c
  obtain ⟨Rr, hR, rfl⟩ := c2
  rw [tN_n (show P < 1000 by omega), tN_n (show Rr < 1000 by omega)]
  refine ⟨8 * Rr + P, ix8 Rr P, by omega, ?_⟩
  rw [R.sa (by omega) hP]
  exact ⟨congrArg (fun x => some (Value.int x)) (sub1 _), a, y, rfl, R⟩
theorem in_m1 (x : Int32) : (¬ x < -1 ∧ ¬ 4 < x) ↔ (x = -1 ∨ ix x 5) := by
  constructor
  · rintro ⟨h1, h2⟩
    by_cases e : x < 0
    · refine Or.inl (i_eq.mpr ?_)
      rw [Int32.lt_iff_toInt_lt] at h1 e
      have a1 : (-1 : Int32).toInt = -1 := rfl
      have a2 : (0 : Int32).toInt = 0 := rfl
      omega
    · exact Or.inr ((ix_in (n := 5) (by decide) x).mp ⟨e, h2⟩)
  · rintro (rfl | h)
    · decide
    · have := (ix_in (n := 5) (by decide) x).mpr h
      refine ⟨fun q => this.1 ?_, this.2⟩
      rw [Int32.lt_iff_toInt_lt] at q ⊢
      exact Int.lt_trans q (by decide)
theorem c4_gold (l : Launch) (d : Nat) (k : cK) (a : mA) (y : mZ) (r x : Int32) (w : WF k) (R : Rl k a) : SMet l m_X4_gold (d + 2) [.ref 0, .int r, .int x] (yC (nK k) a y) (qS (S_gold k r x)) := by
  have hn := w.n
  refine SMet_of 1 (by decide) (Nat.le_of_ble_eq_true rfl) (t_X4_gold_0 _ _ _ ?_)
  refine ⟨_, c4_isRow l d k a y _ w, ?_⟩
  rintro _ _ ⟨rfl, rfl⟩
  refine br_b (fun c => ?_) (fun c => ⟨_, c4_in l (d + 1) _ _ _ _, ?_⟩)
  · rw [S_gold, cE_f c]
    exact ⟨rfl, a, y, rfl, R⟩
  rintro _ _ ⟨rfl, rfl⟩
  refine br_b (fun c2 => ?_) (fun c2 => ?_)
  · rw [S_gold, cE_t c, cE_f (fun h => c2 ((in_m1 x).mpr h))]
    exact ⟨rfl, a, y, rfl, R⟩
  rw [S_gold, cE_t c, cE_t ((in_m1 x).mp c2)]
  obtain ⟨Rr, hR, rfl⟩ := c
  rw [tN_n (show Rr < 1000 by omega)]
  refine ⟨Rr, rfl, by omega, ⟨Rr, rfl, by omega, ?_⟩⟩
  rw [R.go hR]
  refine ⟨rfl, (b_fe a, b_sa a, upd (b_go a) Rr x, a.2.2.2), y, rfl, R.1, R.2.1, fun r' hr' => ?_, R.2.2.2⟩
  show upd (b_go a) Rr x r' = upd (k_kn k) Rr x r'
  by_cases e : r' = Rr
  · rw [e, pk_us, pk_us]
  · rw [pk_un e, pk_un e]
    exact R.go hr'
theorem c4_bound (l : Launch) (d : Nat) (k : cK) (a : mA) (y : mZ) (n : Int32) (R : Rl k a) : SMet l m_X4_bound (d + 1) [.ref 0, .int n] (yC (nK k) a y) (qS (S_bound k n)) := by
  refine SMet_of 1 (by decide) (Nat.le_of_ble_eq_true rfl) (t_X4_bound_0 _ _ _ ?_)
  refine ⟨_, c4_in l d _ _ _ _, ?_⟩
  rintro _ _ ⟨rfl, rfl⟩
  refine br_b (fun c => ?_) (fun c => ?_)
  · rw [S_bound, cE_f (fun h => c ⟨h.1, Int32.not_lt.mpr h.2⟩)]
    exact ⟨rfl, a, y, rfl, R⟩
  · rw [S_bound, cE_t ⟨c.1, Int32.not_lt.mp c.2⟩]
    exact ⟨rfl, a, y, rfl, R⟩
theorem c4_expert (l : Launch) (d : Nat) (k : cK) (a : mA) (y : mZ) (p b : Int32) (hb : b = 0 ∨ b = 1) (R : Rl k a) : SMet l m_X4_expert (d + 2) [.ref 0, .int p, .int b] (yC (nK k) a y) (qS (S_expert k p b)) := by
  refine SMet_of 1 (by decide) (Nat.le_of_ble_eq_true rfl) (t_X4_expert_0 _ _ _ ?_)
  refine ⟨_, c4_isPerson l d _ _, ?_⟩
  rintro _ _ ⟨rfl, rfl⟩
  refine br_b (fun c => ?_) (fun c => ?_)
  · rw [S_expert, cE_f c]
    exact ⟨rfl, a, y, rfl, R⟩
  rw [S_expert, cE_t c]
  obtain ⟨P, hP, rfl⟩ := c
  rw [tN_n (show P < 1000 by omega)]
  refine ⟨P, rfl, hP, ⟨P, rfl, hP, hb, ?_⟩⟩
  rw [R.ex hP]
  have R2 : Rl (s_ex k (upd (k_ex k) P b)) (b_fe a, b_sa a, b_go a, upd (b_ex a) P b, a.2.2.2.2) := ⟨R.1, R.2.1, R.2.2.1, fun p' hp' => by
    show upd (b_ex a) P b p' = upd (k_ex k) P b p'
    by_cases e : p' = P
    · rw [e, pk_us, pk_us]
    · rw [pk_un e, pk_un e]
      exact R.ex hp', R.2.2.2.2⟩
  refine ⟨fun c2 => ?_, fun c2 => ?_⟩
  · rw [cE_t c2]
    exact ⟨rfl, _, y, rfl, R2⟩
  · rw [cE_f c2]
    exact ⟨rfl, _, y, rfl, R2⟩
theorem c4_person (l : Launch) (d : Nat) (k : cK) (a : mA) (y : mZ) (p x : Int32) (w : WF k) (R : Rl k a) : SMet l m_X4_person (d + 2) [.ref 0, .int p, .int x] (yC (nK k) a y) (qS (S_person k p x)) := by
  refine SMet_of 0 (by decide) (Nat.le_of_ble_eq_true rfl) (t_X4_person_0 _ _ _ ?_)
  refine ⟨_, c4_isPerson l d _ _, ?_⟩
  rintro _ _ ⟨rfl, rfl⟩
  refine br_b (fun c => ?_) (fun c => ?_)
  · rw [S_person, cE_f c]
    exact ⟨rfl, a, y, rfl, R⟩
  rw [S_person, cE_t c]
  obtain ⟨P, hP, rfl⟩ := c
  rw [tN_n (show P < 1000 by omega)]
  refine ⟨fun c => ?_, fun c => ?_, fun c => ?_, fun c => ?_, fun c => ?_, trivial⟩
  · have n0 : ¬ x = 0 := fun e => by rw [e] at c; revert c; decide
    have n1 : ¬ x = 1 := fun e => by rw [e] at c; revert c; decide
    have n2 : ¬ x = 2 := fun e => by rw [e] at c; revert c; decide
    have n3 : ¬ x = 3 := fun e => by rw [e] at c; revert c; decide
    rw [cE_f n0, cE_f n1, cE_f n2, cE_f n3]
    exact ⟨rfl, a, y, rfl, R⟩
  · have e : x = 0 := c
    subst e
    rw [cE_t rfl]
    refine ⟨P, rfl, hP, ?_⟩
    rw [R.tr hP]
    exact ⟨rfl, a, y, rfl, R⟩
  · have e : x = 1 := c
    subst e
    rw [cE_f (by decide), cE_t rfl]
    refine ⟨_, c4_wrong l (d + 1) k a y hP w R, ?_⟩
    rintro _ _ ⟨rfl, rfl⟩
    exact ⟨by rw [w.wr hP], a, y, rfl, R⟩
  · have e : x = 2 := c
    subst e
    rw [cE_f (by decide), cE_f (by decide), cE_t rfl]
    refine ⟨_, c4_isBarred l d k a y hP w R, ?_⟩
    rintro _ _ ⟨rfl, rfl⟩
    exact br_b (fun c => ⟨by rw [bI_f c], a, y, rfl, R⟩) (fun c => ⟨by rw [bI_t c], a, y, rfl, R⟩)
  · have e : x = 3 := c
    subst e
    rw [cE_f (by decide), cE_f (by decide), cE_f (by decide), cE_t rfl]
    refine ⟨_, c4_labelled l (d + 1) k a y hP w R, ?_⟩
    rintro _ _ ⟨rfl, rfl⟩
    exact ⟨rfl, a, y, rfl, R⟩
theorem c4_rule (l : Launch) (d : Nat) (k : cK) (a : mA) (y : mZ) (b i j x : Int32) (w : WF k) (R : Rl k a) : SMet l m_X4_rule (d + 1) [.ref 0, .int b, .int i, .int j, .int x] (yC (nK k) a y) (qS (S_rule k b i j x)) := by
  have hrn := w.rn
  refine SMet_of 0 (by decide) (Nat.le_of_ble_eq_true rfl) (t_X4_rule_0 _ _ _ ?_)
  refine ⟨_, c4_inX l d _ _ 3 (n := 4) (by decide) (by decide), ?_⟩
  rintro _ _ ⟨rfl, rfl⟩
  refine br_b (fun c => ?_) (fun c => ⟨_, c4_inX l d _ _ 3 (n := 4) (by decide) (by decide), ?_⟩)
  · rw [S_rule, cE_f (fun h => c h.1)]
    exact ⟨rfl, a, y, rfl, R⟩
  rintro _ _ ⟨rfl, rfl⟩
  refine br_b (fun c2 => ?_) (fun c2 => ⟨_, c4_inX l d _ _ 3 (n := 4) (by decide) (by decide), ?_⟩)
  · rw [S_rule, cE_f (fun h => c2 h.2.1)]
    exact ⟨rfl, a, y, rfl, R⟩
  rintro _ _ ⟨rfl, rfl⟩
  refine br_b (fun c3 => ?_) (fun c3 => ?_)
  · rw [S_rule, cE_f (fun h => c3 h.2.2)]
    exact ⟨rfl, a, y, rfl, R⟩
  rw [S_rule, cE_t ⟨c, c2, c3⟩]
  by_cases h : k_rn k < 6
  · rw [cE_t h]
    refine br_f (nI_ne (a := k_rn k) (b := 6) (by omega) (by omega) (by decide)) ?_
    refine ⟨k_rn k, rfl, h, ⟨k_rn k, rfl, h, ⟨k_rn k, rfl, h, ⟨k_rn k, rfl, h, ⟨k_rn k, rfl, h, Or.inr rfl, ?_⟩⟩⟩⟩⟩
    refine ⟨?_, (b_fe a, b_sa a, b_go a, b_ex a, b_tr a, upd (b_kd a) (k_rn k) b, upd (b_is a) (k_rn k) i, upd (b_js a) (k_rn k) j, upd (b_cs a) (k_rn k) x, upd (b_on a) (k_rn k) 1, b_pl a), y, ?_, ?_⟩
    · exact congrArg (fun x => some (Value.int x)) (sub1 _)
    · simp only [yC, nI_succ]
      rfl
    · refine ⟨R.1, R.2.1, R.2.2.1, R.2.2.2.1, R.2.2.2.2.1, fun q hq => ?_, R.2.2.2.2.2.2⟩
      have hq' : q < k_rn k + 1 := hq
      show upd (b_kd a) (k_rn k) b q = upd (k_kd k) (k_rn k) b q ∧ upd (b_is a) (k_rn k) i q = upd (k_fi k) (k_rn k) i q ∧ upd (b_js a) (k_rn k) j q = upd (k_se k) (k_rn k) j q ∧ upd (b_cs a) (k_rn k) x q = upd (k_co k) (k_rn k) x q ∧ upd (b_on a) (k_rn k) 1 q = upd (k_on k) (k_rn k) 1 q
      by_cases e : q = k_rn k
      · subst e
        simp only [pk_us, and_self]
      · obtain ⟨g1, g2, g3, g4, g5⟩ := R.ru (show q < k_rn k by omega)
        rw [pk_un e, pk_un e, pk_un e, pk_un e, pk_un e, pk_un e, pk_un e, pk_un e, pk_un e, pk_un e]
        exact ⟨g1, g2, g3, g4, g5⟩
  · rw [cE_f h]
    have e : k_rn k = 6 := by omega
    refine br_t ?_ ⟨rfl, a, y, rfl, R⟩
    show nI (k_rn k) = 6
    rw [e]
    rfl
theorem c4_turn (l : Launch) (d : Nat) (k : cK) (a : mA) (y : mZ) (q b : Int32) (hb : b = 0 ∨ b = 1) (w : WF k) (R : Rl k a) : SMet l m_X4_turn (d + 1) [.ref 0, .int q, .int b] (yC (nK k) a y) (qS (S_turn k q b)) := by
  have hrn := w.rn
  refine SMet_of 1 (by decide) (Nat.le_of_ble_eq_true rfl) (t_X4_turn_0 _ _ _ ?_)
  refine ⟨_, c4_inX l d _ _ _ (n := k_rn k) (by omega) rfl, ?_⟩
  rintro _ _ ⟨rfl, rfl⟩
  refine br_b (fun c => ?_) (fun c => ?_)
  · rw [S_turn, cE_f c]
    exact ⟨rfl, a, y, rfl, R⟩
  rw [S_turn, cE_t c]
  obtain ⟨P, hP, rfl⟩ := c
  rw [tN_n (show P < 1000 by omega)]
  refine ⟨P, rfl, by omega, ⟨P, rfl, by omega, hb, ?_⟩⟩
  rw [(R.ru hP).2.2.2.2]
  have R2 : Rl (s_on k (upd (k_on k) P b)) (b_fe a, b_sa a, b_go a, b_ex a, b_tr a, b_kd a, b_is a, b_js a, b_cs a, upd (b_on a) P b, b_pl a) := ⟨R.1, R.2.1, R.2.2.1, R.2.2.2.1, R.2.2.2.2.1, fun q hq => by
    obtain ⟨g1, g2, g3, g4, g5⟩ := R.ru hq
    refine ⟨g1, g2, g3, g4, ?_⟩
    show upd (b_on a) P b q = upd (k_on k) P b q
    by_cases e : q = P
    · rw [e, pk_us, pk_us]
    · rw [pk_un e, pk_un e]
      exact g5, R.2.2.2.2.2.2⟩
  refine ⟨fun c2 => ?_, fun c2 => ?_⟩
  · rw [cE_t c2]
    exact ⟨rfl, _, y, rfl, R2⟩
  · rw [cE_f c2]
    exact ⟨rfl, _, y, rfl, R2⟩
theorem c4_table (l : Launch) (d : Nat) (k : cK) (a : mA) (y : mZ) (q v : Int32) (R : Rl k a) : SMet l m_X4_table (d + 1) [.ref 0, .int q, .int v] (yC (nK k) a y) (qS (S_table k q v)) := by
  refine SMet_of 1 (by decide) (Nat.le_of_ble_eq_true rfl) (t_X4_table_0 _ _ _ ?_)
  refine ⟨_, c4_inX l d _ _ 7 (n := 8) (by decide) (by decide), ?_⟩
  rintro _ _ ⟨rfl, rfl⟩
  refine br_b (fun c => ?_) (fun c => ?_)
  · rw [S_table, cE_f c]
    exact ⟨rfl, a, y, rfl, R⟩
  rw [S_table, cE_t c]
  obtain ⟨P, hP, rfl⟩ := c
  rw [tN_n (show P < 1000 by omega)]
  refine ⟨P, rfl, hP, ⟨P, rfl, hP, ?_⟩⟩
  rw [R.pl hP]
  refine ⟨rfl, (b_fe a, b_sa a, b_go a, b_ex a, b_tr a, b_kd a, b_is a, b_js a, b_cs a, b_on a, upd (b_pl a) P v), y, rfl, R.1, R.2.1, R.2.2.1, R.2.2.2.1, R.2.2.2.2.1, R.2.2.2.2.2.1, fun q hq => ?_⟩
  show upd (b_pl a) P v q = upd (k_pl k) P v q
  by_cases e : q = P
  · rw [e, pk_us, pk_us]
  · rw [pk_un e, pk_un e]
    exact R.pl hq
theorem wI_or (k : cK) (q r : Nat) : ix (wI k q r) 5 ∨ wI k q r = -2 ∨ wI k q r = -3 := by
  unfold wI
  by_cases c : k_kd k q = 0
  · rw [cI_t c]
    by_cases c2 : k_ft k (k_se k q).toNatClampNeg r = 0
    · rw [cI_t c2]; exact Or.inr (Or.inl rfl)
    · rw [cI_f c2]; exact Or.inl (rest5_ix _)
  · rw [cI_f c]
    by_cases c : k_kd k q = 1
    · rw [cI_t c]
      by_cases c2 : k_ft k (k_se k q).toNatClampNeg r = 0
      · rw [cI_t c2]; exact Or.inr (Or.inl rfl)
      · rw [cI_f c2]; exact Or.inl (rest5_ix _)
    · rw [cI_f c]
      by_cases c : k_kd k q = 2
      · rw [cI_t c]
        by_cases c2 : ix (k_ft k (k_fi k q).toNatClampNeg r + k_co k q) 8
        · rw [cI_t c2]; exact Or.inl (rest5_ix _)
        · rw [cI_f c2]; exact Or.inr (Or.inr rfl)
      · rw [cI_f c]
        by_cases c2 : k_co k q ≤ k_ft k (k_fi k q).toNatClampNeg r
        · rw [cI_t c2]; exact Or.inl ⟨1, by decide, rfl⟩
        · rw [cI_f c2]; exact Or.inl ⟨0, by decide, rfl⟩
theorem wI_ge (k : cK) (q r : Nat) : 0 ≤ wI k q r ↔ ix (wI k q r) 5 := by
  rcases wI_or k q r with h | h | h
  · constructor
    · intro _; exact h
    · intro _
      obtain ⟨j, hj, e⟩ := h
      rw [e]
      exact nI_pos' (by omega)
  · rw [h]
    constructor
    · intro q; exact absurd q (by decide)
    · intro q; exact absurd q (ix_neg (by decide) (by decide))
  · rw [h]
    constructor
    · intro q; exact absurd q (by decide)
    · intro q; exact absurd q (ix_neg (by decide) (by decide))
theorem c4_abstains (l : Launch) (d : Nat) (k : cK) (a : mA) (y : mZ) (q : Int32) (w : WF k) (R : Rl k a) : SMet l m_X4_abstains (d + 2) [.ref 0, .int q] (yC (nK k) a y) (qS (S_abstains k q)) := by
  have hn := w.n
  have hrn := w.rn
  refine SMet_of 2 (by decide) (Nat.le_of_ble_eq_true rfl) (t_X4_abstains_0 _ _ _ ?_)
  refine ⟨_, c4_inX l (d + 1) _ _ _ (n := k_rn k) (by omega) rfl, ?_⟩
  rintro _ _ ⟨rfl, rfl⟩
  refine br_b (fun c => ?_) (fun c => ?_)
  · rw [S_abstains, cE_f c]
    exact ⟨rfl, a, y, rfl, R⟩
  rw [S_abstains, cE_t c]
  obtain ⟨P, hP, rfl⟩ := c
  rw [tN_n (show P < 1000 by omega)]
  refine aw_up (k_n k) (fun r => SW l m_X4_abstains none _ (d + 2) 0 0 _ 21 [some (.ref 0), some (.int (nI P)), some (.int (nI (cnt r (fun r => ¬ ix (wI k P r) 5)))), some (.int (nI r))] [] (yC (nK k) a y)) ?_ ?_ 0 (Nat.zero_le _)
  · exact t_X4_abstains_21 _ _ _ (br_t (nI_le (Nat.le_refl _) (by omega)) ⟨rfl, a, y, rfl, R⟩)
  · intro r hr ih
    simp only [nI_succ] at ih
    refine t_X4_abstains_21 _ _ _ (br_f (nI_ge (b := k_n k) hr (by omega)) ⟨_, c4_saysOf l d k a y hP hr w R, ?_⟩)
    rintro _ _ ⟨rfl, rfl⟩
    refine ⟨fun c => ?_, fun c => ?_⟩
    · rw [cnt_f (P := fun r => ¬ ix (wI k P r) 5) (fun h => h ((wI_ge k P r).mp c)), ← Int32.add_zero (nI (cnt r (fun r => ¬ ix (wI k P r) 5)))] at ih
      exact ih
    · rw [cnt_t (P := fun r => ¬ ix (wI k P r) 5) (fun h => c ((wI_ge k P r).mpr h)), nI_succ] at ih
      exact ih
theorem c4_votes (l : Launch) (d : Nat) (k : cK) (a : mA) (y : mZ) (r b : Int32) (w : WF k) (R : Rl k a) : SMet l m_X4_votes (d + 3) [.ref 0, .int r, .int b] (yC (nK k) a y) (qS (S_votes k r b)) := by
  have hn := w.n
  refine SMet_of 0 (by decide) (Nat.le_of_ble_eq_true rfl) (t_X4_votes_0 _ _ _ ?_)
  refine ⟨_, c4_isRow l (d + 1) k a y _ w, ?_⟩
  rintro _ _ ⟨rfl, rfl⟩
  refine br_b (fun c => ?_) (fun c => ⟨_, c4_inX l (d + 2) _ _ 4 (n := 5) (by decide) (by decide), ?_⟩)
  · rw [S_votes, cE_f c]
    exact ⟨rfl, a, y, rfl, R⟩
  rintro _ _ ⟨rfl, rfl⟩
  refine br_b (fun c2 => ?_) (fun c2 => ?_)
  · rw [S_votes, cE_t c, cE_f c2]
    exact ⟨rfl, a, y, rfl, R⟩
  rw [S_votes, cE_t c, cE_t c2]
  obtain ⟨Rr, hR, rfl⟩ := c
  obtain ⟨A, hA, rfl⟩ := c2
  rw [tN_n (show Rr < 1000 by omega), tN_n (show A < 1000 by omega)]
  refine ⟨_, c4_votesOf l d k a y hR w R, ?_⟩
  rintro _ _ ⟨rfl, rfl⟩
  exact ⟨rfl, a, y, rfl, R⟩
theorem c4_decided (l : Launch) (d : Nat) (k : cK) (a : mA) (y : mZ) (r : Int32) (w : WF k) (R : Rl k a) : SMet l m_X4_decided (d + 5) [.ref 0, .int r] (yC (nK k) a y) (qS (S_decided k r)) := by
  have hn := w.n
  refine SMet_of 0 (by decide) (Nat.le_of_ble_eq_true rfl) (t_X4_decided_0 _ _ _ ?_)
  refine ⟨_, c4_isRow l (d + 3) k a y _ w, ?_⟩
  rintro _ _ ⟨rfl, rfl⟩
  refine br_b (fun c => ?_) (fun c => ?_)
  · rw [S_decided, cE_f c]
    exact ⟨rfl, a, y, rfl, R⟩
  rw [S_decided, cE_t c]
  obtain ⟨Rr, hR, rfl⟩ := c
  rw [tN_n (show Rr < 1000 by omega)]
  refine ⟨_, c4_decidedOf l d k a y hR w R, ?_⟩
  rintro _ _ ⟨rfl, m, rfl⟩
  exact ⟨rfl, a, _, rfl, R⟩
