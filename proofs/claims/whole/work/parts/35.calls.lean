/-! the calls that the document names: what each answers, and the state behind it -/
noncomputable def cE {α : Type} (b : Prop) (x y : α) : α := @ite α b (Classical.propDecidable b) x y
theorem cE_t {α : Type} {b : Prop} {x y : α} (h : b) : cE b x y = x := if_pos h
theorem cE_f {α : Type} {b : Prop} {x y : α} (h : ¬ b) : cE b x y = y := if_neg h
abbrev tN (x : Int32) : Nat := x.toNatClampNeg
theorem tN_n {n : Nat} (h : n < 1000) : tN (nI n) = n := nI_clamp (by omega)
abbrev rS (s : Int32 × cK) : Option Value → aw_H → Prop := fun v C => v = some (.int s.1) ∧ ∃ z, C = xC s.2 z
noncomputable def S_row (k : cK) (f0 f1 f2 f3 : Int32) : Int32 × cK := cE (k_n k < 40) (nI (k_n k), s_row k f0 f1 f2 f3) (-104, k)
theorem c_row (l : Launch) (d : Nat) (k : cK) (z : cZ) (f0 f1 f2 f3 : Int32) (w : WF k) : SMet l m_X3_row (d + 1) [.ref 0, .int f0, .int f1, .int f2, .int f3] (xC k z) (rS (S_row k f0 f1 f2 f3)) := by
  refine SMet_of 0 (by decide) (Nat.le_of_ble_eq_true rfl) (t_X3_row_0 _ _ _ ?_)
  refine ⟨_, c_addRow l d k z f0 f1 f2 f3 w.n, ?_⟩
  rintro _ _ (⟨h, rfl, rfl⟩ | ⟨h, rfl, rfl⟩)
  · rw [S_row, cE_t h]
    exact ⟨rfl, _, rfl⟩
  · rw [S_row, cE_f h]
    exact ⟨rfl, _, rfl⟩
noncomputable abbrev s_lab (k : cK) (p r : Nat) (x : Int32) : cK := s_wr (s_give k p r x) (upd (k_wr k) p (nI (wrN (s_give k p r x) p)))
noncomputable def S_label (k : cK) (p r x : Int32) : Int32 × cK := cE (ix p 8 ∧ ix r (k_n k)) (cE (ix x 5) (cE (k_gv k (tN p) (tN r) = -1) (1, s_lab k (tN p) (tN r) x) (0, k)) (-102, k)) (-101, k)
theorem c_label (l : Launch) (d : Nat) (k : cK) (z : cZ) (p r x : Int32) (w : WF k) : SMet l m_X3_label (d + 2) [.ref 0, .int p, .int r, .int x] (xC k z) (rS (S_label k p r x)) := by
  have hn := w.n
  refine SMet_of 0 (by decide) (Nat.le_of_ble_eq_true rfl) (t_X3_label_0 _ _ _ ?_)
  refine ⟨_, c_isPerson l (d + 1) _ _, ?_⟩
  rintro _ _ ⟨rfl, rfl⟩
  refine br_b (fun c => ?_) (fun c => ⟨_, c_hasRow l (d + 1) k z _ hn, ?_⟩)
  · rw [S_label, cE_f (fun h => c h.1)]
    exact ⟨rfl, _, rfl⟩
  rintro _ _ ⟨rfl, rfl⟩
  refine br_b (fun c2 => ?_) (fun c2 => ⟨_, c_isLabel l (d + 1) _ _, ?_⟩)
  · rw [S_label, cE_f (fun h => c2 h.2)]
    exact ⟨rfl, _, rfl⟩
  rintro _ _ ⟨rfl, rfl⟩
  refine br_b (fun c3 => ?_) (fun c3 => ?_)
  · rw [S_label, cE_t ⟨c, c2⟩, cE_f c3]
    exact ⟨rfl, _, rfl⟩
  rw [S_label, cE_t ⟨c, c2⟩, cE_t c3]
  obtain ⟨P, hP, rfl⟩ := c
  obtain ⟨R, hR, rfl⟩ := c2
  rw [tN_n (show P < 1000 by omega), tN_n (show R < 1000 by omega)]
  refine ⟨_, c_given l (d + 1) k z hP (by omega), ?_⟩
  rintro _ _ ⟨rfl, rfl⟩
  refine ⟨fun c4 => ⟨_, c_give l d k z x hP (by omega) hn, ?_⟩, fun c4 => ?_⟩
  · rintro _ _ ⟨rfl, rfl⟩
    rw [cE_t c4]
    exact ⟨rfl, _, rfl⟩
  · rw [cE_f c4]
    exact ⟨rfl, _, rfl⟩
noncomputable def S_said (k : cK) (p r : Int32) : Int32 × cK := cE (ix p 8 ∧ ix r (k_n k)) (k_gv k (tN p) (tN r), k) (-101, k)
theorem c_said (l : Launch) (d : Nat) (k : cK) (z : cZ) (p r : Int32) (w : WF k) : SMet l m_X3_said (d + 1) [.ref 0, .int p, .int r] (xC k z) (rS (S_said k p r)) := by
  have hn := w.n
  refine SMet_of 0 (by decide) (Nat.le_of_ble_eq_true rfl) (t_X3_said_0 _ _ _ ?_)
  refine ⟨_, c_isPerson l d _ _, ?_⟩
  rintro _ _ ⟨rfl, rfl⟩
  refine br_b (fun c => ?_) (fun c => ⟨_, c_hasRow l d k z _ hn, ?_⟩)
  · rw [S_said, cE_f (fun h => c h.1)]
    exact ⟨rfl, _, rfl⟩
  rintro _ _ ⟨rfl, rfl⟩
  refine br_b (fun c2 => ?_) (fun c2 => ?_)
  · rw [S_said, cE_f (fun h => c2 h.2)]
    exact ⟨rfl, _, rfl⟩
  rw [S_said, cE_t ⟨c, c2⟩]
  obtain ⟨P, hP, rfl⟩ := c
  obtain ⟨R, hR, rfl⟩ := c2
  rw [tN_n (show P < 1000 by omega), tN_n (show R < 1000 by omega)]
  refine ⟨_, c_given l d k z hP (by omega), ?_⟩
  rintro _ _ ⟨rfl, rfl⟩
  exact ⟨rfl, _, rfl⟩
noncomputable abbrev s_gold (k : cK) (r : Nat) (x : Int32) : cK := s_wr (s_kn k (upd (k_kn k) r x)) (wrUp (s_kn k (upd (k_kn k) r x)) (k_wr k) 8)
noncomputable def S_gold (k : cK) (r x : Int32) : Int32 × cK := cE (ix r (k_n k)) (cE (x = -1 ∨ ix x 5) (k_kn k (tN r), s_gold k (tN r) x) (-102, k)) (-101, k)
theorem c_gold (l : Launch) (d : Nat) (k : cK) (z : cZ) (r x : Int32) (w : WF k) : SMet l m_X3_gold (d + 2) [.ref 0, .int r, .int x] (xC k z) (rS (S_gold k r x)) := by
  have hn := w.n
  refine SMet_of 1 (by decide) (Nat.le_of_ble_eq_true rfl) (t_X3_gold_0 _ _ _ ?_)
  refine ⟨_, c_hasRow l (d + 1) k z _ hn, ?_⟩
  rintro _ _ ⟨rfl, rfl⟩
  refine br_b (fun c => ?_) (fun c => ?_)
  · rw [S_gold, cE_f c]
    exact ⟨rfl, _, rfl⟩
  have ok : x = -1 ∨ ix x 5 → k_X3_gold_29 l (fun _ _ _ _ => False) (d + 2) (rS (S_gold k r x)) (aw_en [.ref 0, .int r, .int x] ++ List.replicate 1 none) [] (xC k z) := by
    intro c2
    rw [S_gold, cE_t c, cE_t c2]
    obtain ⟨R, hR, rfl⟩ := c
    rw [tN_n (show R < 1000 by omega)]
    refine ⟨_, c_known l (d + 1) k z (by omega), ?_⟩
    rintro _ _ ⟨rfl, rfl⟩
    refine ⟨_, c_setKnown l d k z x (by omega) hn, ?_⟩
    rintro _ _ ⟨rfl, rfl⟩
    exact ⟨rfl, _, rfl⟩
  refine ⟨fun c2 => ok (Or.inl c2), fun c2 => ⟨_, c_isLabel l (d + 1) _ _, ?_⟩⟩
  rintro _ _ ⟨rfl, rfl⟩
  refine br_b (fun c3 => ?_) (fun c3 => ok (Or.inr c3))
  rw [S_gold, cE_t c, cE_f (fun h => h.elim c2 c3)]
  exact ⟨rfl, _, rfl⟩
abbrev s_bd (k : cK) (x : Int32) : cK := (k.1, k.2.1, k_ex k, k_tr k, x)
noncomputable def S_bound (k : cK) (n : Int32) : Int32 × cK := cE (¬ n < 1 ∧ n ≤ 9) (k_bd k, s_bd k n) (-102, k)
theorem c_bound (l : Launch) (d : Nat) (k : cK) (z : cZ) (n : Int32) : SMet l m_X3_bound d [.ref 0, .int n] (xC k z) (rS (S_bound k n)) := by
  refine SMet_of 1 (by decide) (Nat.le_of_ble_eq_true rfl) (t_X3_bound_0 _ _ _ ?_)
  refine ⟨fun c => ?_, fun c => ⟨fun c2 => ?_, fun c2 => ?_⟩⟩
  · rw [S_bound, cE_f (fun h => h.1 c)]
    exact ⟨rfl, _, rfl⟩
  · rw [S_bound, cE_t ⟨c, c2⟩]
    exact ⟨rfl, _, rfl⟩
  · rw [S_bound, cE_f (fun h => c2 h.2)]
    exact ⟨rfl, _, rfl⟩
abbrev s_ex (k : cK) (f : vF) : cK := (k.1, k.2.1, f, k_tr k, k_bd k)
noncomputable def S_expert (k : cK) (p b : Int32) : Int32 × cK := cE (ix p 8) (cE (k_ex k (tN p) = b) 0 1, s_ex k (upd (k_ex k) (tN p) b)) (-101, k)
theorem c_expert (l : Launch) (d : Nat) (k : cK) (z : cZ) (p b : Int32) (hb : b = 0 ∨ b = 1) : SMet l m_X3_expert (d + 1) [.ref 0, .int p, .int b] (xC k z) (rS (S_expert k p b)) := by
  refine SMet_of 1 (by decide) (Nat.le_of_ble_eq_true rfl) (t_X3_expert_0 _ _ _ ?_)
  refine ⟨_, c_isPerson l d _ _, ?_⟩
  rintro _ _ ⟨rfl, rfl⟩
  refine br_b (fun c => ?_) (fun c => ?_)
  · rw [S_expert, cE_f c]
    exact ⟨rfl, _, rfl⟩
  rw [S_expert, cE_t c]
  obtain ⟨P, hP, rfl⟩ := c
  rw [tN_n (show P < 1000 by omega)]
  refine ⟨P, rfl, hP, ⟨fun c2 => ?_, fun c2 => ?_⟩⟩
  · rw [cE_t c2]
    exact ⟨P, rfl, hP, hb, br_t rfl ⟨rfl, _, rfl⟩⟩
  · rw [cE_f c2]
    exact ⟨P, rfl, hP, hb, br_f (by decide) ⟨rfl, _, rfl⟩⟩
noncomputable def S_person (k : cK) (p w : Int32) : Int32 × cK := cE (ix p 8) (cE (w = 0) (k_tr k (tN p), k) (cE (w = 1) (k_wr k (tN p), k) (cE (w = 2) (bI (brd k (tN p)), k) (cE (w = 3) (nI (gbN k (tN p)), k) (-102, k))))) (-101, k)
theorem c_person (l : Launch) (d : Nat) (k : cK) (z : cZ) (p x : Int32) (w : WF k) : SMet l m_X3_person (d + 2) [.ref 0, .int p, .int x] (xC k z) (rS (S_person k p x)) := by
  refine SMet_of 0 (by decide) (Nat.le_of_ble_eq_true rfl) (t_X3_person_0 _ _ _ ?_)
  refine ⟨_, c_isPerson l (d + 1) _ _, ?_⟩
  rintro _ _ ⟨rfl, rfl⟩
  refine br_b (fun c => ?_) (fun c => ?_)
  · rw [S_person, cE_f c]
    exact ⟨rfl, _, rfl⟩
  rw [S_person, cE_t c]
  obtain ⟨P, hP, rfl⟩ := c
  rw [tN_n (show P < 1000 by omega)]
  refine ⟨fun c => ?_, fun c => ?_, fun c => ?_, fun c => ?_, fun c => ?_, trivial⟩
  · have n0 : ¬ x = 0 := fun e => by rw [e] at c; revert c; decide
    have n1 : ¬ x = 1 := fun e => by rw [e] at c; revert c; decide
    have n2 : ¬ x = 2 := fun e => by rw [e] at c; revert c; decide
    have n3 : ¬ x = 3 := fun e => by rw [e] at c; revert c; decide
    rw [cE_f n0, cE_f n1, cE_f n2, cE_f n3]
    exact ⟨rfl, _, rfl⟩
  · have e : x = 0 := c
    subst e
    rw [cE_t rfl]
    exact ⟨P, rfl, hP, rfl, _, rfl⟩
  · have e : x = 1 := c
    subst e
    rw [cE_f (by decide), cE_t rfl]
    refine ⟨_, c_wrongOf l (d + 1) k z hP, ?_⟩
    rintro _ _ ⟨rfl, rfl⟩
    exact ⟨rfl, _, rfl⟩
  · have e : x = 2 := c
    subst e
    rw [cE_f (by decide), cE_f (by decide), cE_t rfl]
    refine ⟨_, c_isBarred l d k z hP, ?_⟩
    rintro _ _ ⟨rfl, rfl⟩
    exact br_b (fun c => ⟨by rw [bI_f c], _, rfl⟩) (fun c => ⟨by rw [bI_t c], _, rfl⟩)
  · have e : x = 3 := c
    subst e
    rw [cE_f (by decide), cE_f (by decide), cE_f (by decide), cE_t rfl]
    refine ⟨_, c_givenBy l (d + 1) k z hP w.n, ?_⟩
    rintro _ _ ⟨rfl, rfl⟩
    exact ⟨rfl, _, rfl⟩
noncomputable def S_rule (k : cK) (a i j c : Int32) : Int32 × cK := cE (ix a 4 ∧ ix i 4 ∧ ix j 4) (cE (k_rn k < 6) (nI (k_rn k), s_rule k a i j c) (-104, k)) (-102, k)
theorem c_rule (l : Launch) (d : Nat) (k : cK) (z : cZ) (a i j x : Int32) (w : WF k) : SMet l m_X3_rule (d + 1) [.ref 0, .int a, .int i, .int j, .int x] (xC k z) (rS (S_rule k a i j x)) := by
  refine SMet_of 0 (by decide) (Nat.le_of_ble_eq_true rfl) (t_X3_rule_0 _ _ _ ?_)
  refine ⟨fun c => ?_, fun c => ⟨fun c2 => ?_, fun c2 => ⟨_, c_isFeature l d _ _, ?_⟩⟩⟩
  · rw [S_rule, cE_f (fun h => ix_neg c (by decide) h.1)]
    exact ⟨rfl, _, rfl⟩
  · rw [S_rule, cE_f (fun h => ix_ge (n := 4) c2 (by decide) h.1)]
    exact ⟨rfl, _, rfl⟩
  have ca : ix a 4 := ix_of c c2 (by decide)
  rintro _ _ ⟨rfl, rfl⟩
  refine br_b (fun c3 => ?_) (fun c3 => ⟨_, c_isFeature l d _ _, ?_⟩)
  · rw [S_rule, cE_f (fun h => c3 h.2.1)]
    exact ⟨rfl, _, rfl⟩
  rintro _ _ ⟨rfl, rfl⟩
  refine br_b (fun c4 => ?_) (fun c4 => ⟨_, c_addRule l d k z a i j x w.rn, ?_⟩)
  · rw [S_rule, cE_f (fun h => c4 h.2.2)]
    exact ⟨rfl, _, rfl⟩
  rintro _ _ (⟨h, rfl, rfl⟩ | ⟨h, rfl, rfl⟩)
  · rw [S_rule, cE_t ⟨ca, c3, c4⟩, cE_t h]
    exact ⟨rfl, _, rfl⟩
  · rw [S_rule, cE_t ⟨ca, c3, c4⟩, cE_f h]
    exact ⟨rfl, _, rfl⟩
noncomputable def S_turn (k : cK) (q b : Int32) : Int32 × cK := cE (ix q (k_rn k)) (cE (k_on k (tN q) = b) 0 1, s_on k (upd (k_on k) (tN q) b)) (-101, k)
theorem c_turn (l : Launch) (d : Nat) (k : cK) (z : cZ) (q b : Int32) (hb : b = 0 ∨ b = 1) (w : WF k) : SMet l m_X3_turn (d + 1) [.ref 0, .int q, .int b] (xC k z) (rS (S_turn k q b)) := by
  have hrn := w.rn
  refine SMet_of 1 (by decide) (Nat.le_of_ble_eq_true rfl) (t_X3_turn_0 _ _ _ ?_)
  refine ⟨_, c_hasRule l d k z _ hrn, ?_⟩
  rintro _ _ ⟨rfl, rfl⟩
  refine br_b (fun c => ?_) (fun c => ?_)
  · rw [S_turn, cE_f c]
    exact ⟨rfl, _, rfl⟩
  rw [S_turn, cE_t c]
  obtain ⟨P, hP, rfl⟩ := c
  have h6 : P < 6 := by omega
  rw [tN_n (show P < 1000 by omega)]
  refine ⟨_, c_isOn l d k z h6 w, ?_⟩
  rintro _ _ ⟨rfl, rfl⟩
  refine ⟨fun c2 => ⟨_, c_setOn l d k z b h6 hb, ?_⟩, fun c2 => ⟨_, c_setOn l d k z b h6 hb, ?_⟩⟩
  · rintro _ _ ⟨rfl, rfl⟩
    rw [cE_t c2]
    exact br_t rfl ⟨rfl, _, rfl⟩
  · rintro _ _ ⟨rfl, rfl⟩
    rw [cE_f c2]
    exact br_f (by decide) ⟨rfl, _, rfl⟩
noncomputable def S_table (k : cK) (q v : Int32) : Int32 × cK := cE (ix q 8) (k_pl k (tN q), s_pl k (upd (k_pl k) (tN q) v)) (-102, k)
theorem c_table (l : Launch) (d : Nat) (k : cK) (z : cZ) (q v : Int32) : SMet l m_X3_table (d + 1) [.ref 0, .int q, .int v] (xC k z) (rS (S_table k q v)) := by
  refine SMet_of 0 (by decide) (Nat.le_of_ble_eq_true rfl) (t_X3_table_0 _ _ _ ?_)
  refine ⟨_, c_isPlace l d _ _, ?_⟩
  rintro _ _ ⟨rfl, rfl⟩
  refine br_b (fun c => ?_) (fun c => ?_)
  · rw [S_table, cE_f c]
    exact ⟨rfl, _, rfl⟩
  rw [S_table, cE_t c]
  obtain ⟨P, hP, rfl⟩ := c
  rw [tN_n (show P < 1000 by omega)]
  refine ⟨_, c_replace l d k z v hP, ?_⟩
  rintro _ _ ⟨rfl, rfl⟩
  exact ⟨rfl, _, rfl⟩
noncomputable def S_abstains (k : cK) (q : Int32) : Int32 × cK := cE (ix q (k_rn k)) (nI (cnt (k_n k) (fun r => ¬ ix (wI k (tN q) r) 5)), k) (-101, k)
theorem c_abstains (l : Launch) (d : Nat) (k : cK) (z : cZ) (q : Int32) (w : WF k) : SMet l m_X3_abstains (d + 2) [.ref 0, .int q] (xC k z) (rS (S_abstains k q)) := by
  have hn := w.n
  have hrn := w.rn
  refine SMet_of 2 (by decide) (Nat.le_of_ble_eq_true rfl) (t_X3_abstains_0 _ _ _ ?_)
  refine ⟨_, c_hasRule l (d + 1) k z _ hrn, ?_⟩
  rintro _ _ ⟨rfl, rfl⟩
  refine br_b (fun c => ?_) (fun c => ?_)
  · rw [S_abstains, cE_f c]
    exact ⟨rfl, _, rfl⟩
  rw [S_abstains, cE_t c]
  obtain ⟨P, hP, rfl⟩ := c
  rw [tN_n (show P < 1000 by omega)]
  refine aw_up (k_n k) (fun r => SW l m_X3_abstains none _ (d + 2) 0 0 _ 18 [some (.ref 0), some (.int (nI P)), some (.int (nI (cnt r (fun r => ¬ ix (wI k P r) 5)))), some (.int (nI r))] [] (xC k z)) ?_ ?_ 0 (Nat.zero_le _)
  · refine t_X3_abstains_18 _ _ _ ⟨_, c_size l (d + 1) k z, ?_⟩
    rintro _ _ ⟨rfl, rfl⟩
    exact br_t (nI_le (Nat.le_refl _) (by omega)) ⟨rfl, _, rfl⟩
  · intro r hr ih
    simp only [nI_succ] at ih
    refine t_X3_abstains_18 _ _ _ ⟨_, c_size l (d + 1) k z, ?_⟩
    rintro _ _ ⟨rfl, rfl⟩
    refine br_f (nI_ge hr (by omega)) ⟨_, c_wordOn l d k z hP (by omega) w, ?_⟩
    rintro _ _ ⟨rfl, rfl⟩
    refine ⟨_, c_isLabel l (d + 1) _ _, ?_⟩
    rintro _ _ ⟨rfl, rfl⟩
    refine br_b (fun c => ?_) (fun c => ?_)
    · rw [cnt_t (P := fun r => ¬ ix (wI k P r) 5) c, nI_succ] at ih
      exact ih
    · rw [cnt_f (P := fun r => ¬ ix (wI k P r) 5) (fun h => h c)] at ih
      exact ih
noncomputable def S_votes (k : cK) (r a : Int32) : Int32 × cK := cE (ix r (k_n k)) (cE (ix a 5) (vtI k (tN r) (tN a), k) (-102, k)) (-101, k)
theorem c_votes (l : Launch) (d : Nat) (k : cK) (z : cZ) (r a : Int32) (w : WF k) : SMet l m_X3_votes (d + 3) [.ref 0, .int r, .int a] (xC k z) (rS (S_votes k r a)) := by
  have hn := w.n
  refine SMet_of 0 (by decide) (Nat.le_of_ble_eq_true rfl) (t_X3_votes_0 _ _ _ ?_)
  refine ⟨_, c_hasRow l (d + 2) k z _ hn, ?_⟩
  rintro _ _ ⟨rfl, rfl⟩
  refine br_b (fun c => ?_) (fun c => ⟨_, c_isLabel l (d + 2) _ _, ?_⟩)
  · rw [S_votes, cE_f c]
    exact ⟨rfl, _, rfl⟩
  rintro _ _ ⟨rfl, rfl⟩
  refine br_b (fun c2 => ?_) (fun c2 => ?_)
  · rw [S_votes, cE_t c, cE_f c2]
    exact ⟨rfl, _, rfl⟩
  rw [S_votes, cE_t c, cE_t c2]
  obtain ⟨R, hR, rfl⟩ := c
  obtain ⟨A, hA, rfl⟩ := c2
  rw [tN_n (show R < 1000 by omega), tN_n (show A < 1000 by omega)]
  refine ⟨_, c_countVotes l d k z (by omega) w, ?_⟩
  rintro _ _ ⟨rfl, f, rfl, hf⟩
  exact ⟨A, rfl, hA, by rw [← hf A hA], _, rfl⟩
noncomputable def S_decided (k : cK) (r : Int32) : Int32 × cK := cE (ix r (k_n k)) (decI k (tN r), k) (-101, k)
theorem c_decided (l : Launch) (d : Nat) (k : cK) (z : cZ) (r : Int32) (w : WF k) : SMet l m_X3_decided (d + 4) [.ref 0, .int r] (xC k z) (rS (S_decided k r)) := by
  have hn := w.n
  refine SMet_of 0 (by decide) (Nat.le_of_ble_eq_true rfl) (t_X3_decided_0 _ _ _ ?_)
  refine ⟨_, c_hasRow l (d + 3) k z _ hn, ?_⟩
  rintro _ _ ⟨rfl, rfl⟩
  refine br_b (fun c => ?_) (fun c => ?_)
  · rw [S_decided, cE_f c]
    exact ⟨rfl, _, rfl⟩
  rw [S_decided, cE_t c]
  obtain ⟨R, hR, rfl⟩ := c
  rw [tN_n (show R < 1000 by omega)]
  refine ⟨_, c_decide l d k z (by omega) w, ?_⟩
  rintro _ _ ⟨rfl, z', rfl⟩
  exact ⟨rfl, _, rfl⟩
