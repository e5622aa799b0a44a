/-! the reference's state beside the class's -/
abbrev mA : Type := vF × vF × vF × vF × vF × vF × vF × vF × vF × vF × vF
abbrev b_fe (a : mA) : vF := a.1
abbrev b_sa (a : mA) : vF := a.2.1
abbrev b_go (a : mA) : vF := a.2.2.1
abbrev b_ex (a : mA) : vF := a.2.2.2.1
abbrev b_tr (a : mA) : vF := a.2.2.2.2.1
abbrev b_kd (a : mA) : vF := a.2.2.2.2.2.1
abbrev b_is (a : mA) : vF := a.2.2.2.2.2.2.1
abbrev b_js (a : mA) : vF := a.2.2.2.2.2.2.2.1
abbrev b_cs (a : mA) : vF := a.2.2.2.2.2.2.2.2.1
abbrev b_on (a : mA) : vF := a.2.2.2.2.2.2.2.2.2.1
abbrev b_pl (a : mA) : vF := a.2.2.2.2.2.2.2.2.2.2
abbrev mZ : Type := Int32 × vF × Int32 × Int32 × Int32 × vF
abbrev y_th (y : mZ) : Int32 := y.1
abbrev y_nt (y : mZ) : vF := y.2.1
abbrev y_mo (y : mZ) : Int32 := y.2.2.1
abbrev y_se (y : mZ) : Int32 := y.2.2.2.1
abbrev y_be (y : mZ) : Int32 := y.2.2.2.2.1
abbrev y_de (y : mZ) : vF := y.2.2.2.2.2
/-- its numbers: rows, rules, bound -/
abbrev mN : Type := Nat × Nat × Int32
def yC (n : mN) (a : mA) (y : mZ) : aw_H := [
  .inr (4, [.int (y_th y), .int (nI n.1), .ref 1, .ref 2, .ref 3, .int n.2.2, .ref 4, .ref 5, .ref 6, .int (nI n.2.1), .ref 7, .ref 8, .ref 9, .ref 10, .ref 11, .ref 12, .int (y_mo y), .int (y_se y), .int (y_be y), .ref 13]),
  a_i 160 (b_fe a), a_i 320 (b_sa a), a_i 40 (b_go a), a_z 8 (b_ex a), a_i 8 (b_tr a), a_i 8 (y_nt y), a_i 6 (b_kd a), a_i 6 (b_is a), a_i 6 (b_js a), a_i 6 (b_cs a), a_z 6 (b_on a), a_i 8 (b_pl a), a_i 40 (y_de y)]
abbrev nK (k : cK) : mN := (k_n k, k_rn k, k_bd k)
def Rl (k : cK) (a : mA) : Prop := (∀ r i, r < k_n k → i < 4 → b_fe a (4 * r + i) = k_ft k i r) ∧ (∀ r p, r < 40 → p < 8 → b_sa a (8 * r + p) = k_gv k p r + 1) ∧ (∀ r, r < k_n k → b_go a r = k_kn k r) ∧ (∀ p, p < 8 → b_ex a p = k_ex k p) ∧ (∀ p, p < 8 → b_tr a p = k_tr k p) ∧
  (∀ q, q < k_rn k → b_kd a q = k_kd k q ∧ b_is a q = k_fi k q ∧ b_js a q = k_se k q ∧ b_cs a q = k_co k q ∧ b_on a q = k_on k q) ∧ (∀ q, q < 8 → b_pl a q = k_pl k q)
theorem Rl.fe {k : cK} {a : mA} (h : Rl k a) {r i : Nat} (hr : r < k_n k) (hi : i < 4) : b_fe a (4 * r + i) = k_ft k i r := h.1 r i hr hi
theorem Rl.sa {k : cK} {a : mA} (h : Rl k a) {r p : Nat} (hr : r < 40) (hp : p < 8) : b_sa a (8 * r + p) = k_gv k p r + 1 := h.2.1 r p hr hp
theorem Rl.go {k : cK} {a : mA} (h : Rl k a) {r : Nat} (hr : r < k_n k) : b_go a r = k_kn k r := h.2.2.1 r hr
theorem Rl.ex {k : cK} {a : mA} (h : Rl k a) {p : Nat} (hp : p < 8) : b_ex a p = k_ex k p := h.2.2.2.1 p hp
theorem Rl.tr {k : cK} {a : mA} (h : Rl k a) {p : Nat} (hp : p < 8) : b_tr a p = k_tr k p := h.2.2.2.2.1 p hp
theorem Rl.ru {k : cK} {a : mA} (h : Rl k a) {q : Nat} (hq : q < k_rn k) : b_kd a q = k_kd k q ∧ b_is a q = k_fi k q ∧ b_js a q = k_se k q ∧ b_cs a q = k_co k q ∧ b_on a q = k_on k q := h.2.2.2.2.2.1 q hq
theorem Rl.pl {k : cK} {a : mA} (h : Rl k a) {q : Nat} (hq : q < 8) : b_pl a q = k_pl k q := h.2.2.2.2.2.2 q hq
abbrev qI (k : cK) (a : mA) (y : mZ) (x : Int32) : Option Value → aw_H → Prop := fun v C => v = some (.int x) ∧ C = yC (nK k) a y
theorem ix8 (r p : Nat) : (8 : Int32) * nI r + nI p = nI (8 * r + p) := by rw [show (8 : Int32) = nI 8 from rfl, pk_mul, nI_add]
theorem ix4 (r p : Nat) : (4 : Int32) * nI r + nI p = nI (4 * r + p) := by rw [show (4 : Int32) = nI 4 from rfl, pk_mul, nI_add]
theorem ix_in {n : Nat} (hn : n ≤ 1000) (x : Int32) : (¬ x < 0 ∧ ¬ nI n - 1 < x) ↔ ix x n := by
  have e : (nI n - 1).toInt = (n : Int) - 1 := pk_sub_toInt (b := 1) (by omega) (by decide)
  constructor
  · rintro ⟨h1, h2⟩
    refine ix_of h1 (fun h3 => h2 ?_) (by omega)
    rw [Int32.le_iff_toInt_le, nI_toInt (by omega)] at h3
    rw [Int32.lt_iff_toInt_lt, e]
    omega
  · rintro ⟨j, hj, rfl⟩
    refine ⟨nI_pos (by omega), fun h => ?_⟩
    rw [Int32.lt_iff_toInt_lt, e, nI_toInt (by omega)] at h
    omega
theorem sa_le {x : Int32} (h : x = -1 ∨ ix x 5) : x + 1 ≤ 0 ↔ x = -1 := by
  rcases h with rfl | ⟨j, hj, rfl⟩
  · decide
  · rw [nI_1]
    constructor
    · intro h
      exact absurd h (nI_nle (by omega) (by omega))
    · intro h
      have := nI_pos (n := j) (by omega)
      rw [h] at this
      exact absurd (by decide) this
theorem add1 {x y : Int32} : x + 1 = y + 1 ↔ x = y := by
  constructor
  · intro h
    have := congrArg (fun z => z - 1) h
    simpa using this
  · intro h
    rw [h]
theorem sub1 (x : Int32) : x + 1 - 1 = x := by simp
theorem c4_in (l : Launch) (d : Nat) (C : aw_H) (x a b : Int32) : SMet l m_X4_in d [.int x, .int a, .int b] C (fun v C' => v = some (.int (bI (¬ x < a ∧ ¬ b < x))) ∧ C' = C) := by
  refine SMet_of 0 (by decide) (Nat.le_of_ble_eq_true rfl) (t_X4_in_0 _ _ _ ?_)
  refine ⟨fun c => ⟨Or.inl rfl, by rw [bI_f (fun h => h.1 c)], rfl⟩, fun c => ⟨fun c2 => ⟨Or.inl rfl, by rw [bI_f (fun h => h.2 c2)], rfl⟩, fun c2 => ⟨Or.inr rfl, by rw [bI_t ⟨c, c2⟩], rfl⟩⟩⟩
theorem c4_inX (l : Launch) (d : Nat) (C : aw_H) (x b : Int32) {n : Nat} (hn : n ≤ 1000) (hb : b = nI n - 1) : SMet l m_X4_in d [.int x, .int 0, .int b] C (fun v C' => v = some (.int (bI (ix x n))) ∧ C' = C) := by
  subst hb
  rw [← bI_c (ix_in hn x)]
  exact c4_in l d C x 0 (nI n - 1)
theorem c4_isRow (l : Launch) (d : Nat) (k : cK) (a : mA) (y : mZ) (x : Int32) (w : WF k) : SMet l m_X4_isRow (d + 1) [.ref 0, .int x] (yC (nK k) a y) (qI k a y (bI (ix x (k_n k)))) := by
  refine SMet_of 0 (by decide) (Nat.le_of_ble_eq_true rfl) (t_X4_isRow_0 _ _ _ ?_)
  refine ⟨_, c4_inX l d _ x _ (n := k_n k) (by have := w.n; omega) rfl, ?_⟩
  rintro _ _ ⟨rfl, rfl⟩
  exact ⟨bI_01, rfl, rfl⟩
theorem c4_isPerson (l : Launch) (d : Nat) (C : aw_H) (x : Int32) : SMet l m_X4_isPerson (d + 1) [.int x] C (fun v C' => v = some (.int (bI (ix x 8))) ∧ C' = C) := by
  refine SMet_of 0 (by decide) (Nat.le_of_ble_eq_true rfl) (t_X4_isPerson_0 _ _ _ ?_)
  refine ⟨_, c4_inX l d _ x 7 (n := 8) (by decide) (by decide), ?_⟩
  rintro _ _ ⟨rfl, rfl⟩
  exact ⟨bI_01, rfl, rfl⟩
theorem c4_thrown (l : Launch) (d : Nat) (n : mN) (a : mA) (y : mZ) : SMet l m_X4_thrown d [.ref 0] (yC n a y) (fun v C => v = some (.int (y_th y)) ∧ C = yC n a y) := SMet_of 0 (by decide) (by decide) (t_X4_thrown_0 _ _ _ ⟨rfl, rfl⟩)
theorem c4_wrong (l : Launch) (d : Nat) (k : cK) (a : mA) (y : mZ) {p : Nat} (hp : p < 8) (w : WF k) (R : Rl k a) : SMet l m_X4_wrong d [.ref 0, .int (nI p)] (yC (nK k) a y) (qI k a y (nI (wrN k p))) := by
  have hn := w.n
  refine SMet_of 2 (by decide) (Nat.le_of_ble_eq_true rfl) (t_X4_wrong_0 _ _ _ ?_)
  refine aw_up (k_n k) (fun r => SW l m_X4_wrong none _ d 0 0 _ 4 [some (.ref 0), some (.int (nI p)), some (.int (nI (cnt r (wrP k p)))), some (.int (nI r))] [] (yC (nK k) a y)) ?_ ?_ 0 (Nat.zero_le _)
  · exact t_X4_wrong_4 _ _ _ (br_t (nI_le (Nat.le_refl _) (by omega)) ⟨rfl, rfl⟩)
  · intro r hr ih
    simp only [nI_succ] at ih
    have no : ¬ wrP k p r → SW l m_X4_wrong none (fun _ _ _ _ => False) d 0 0 (qI k a y (nI (wrN k p))) 4 [some (.ref 0), some (.int (nI p)), some (.int (nI (cnt r (wrP k p)) + 0)), some (.int (nI r + 1))] [] (yC (nK k) a y) := fun h => by
      rw [cnt_f h] at ih
      rw [Int32.add_zero]
      exact ih
    refine t_X4_wrong_4 _ _ _ (br_f (nI_ge (b := k_n k) hr (by omega)) ⟨r, rfl, by omega, ?_⟩)
    rw [R.go hr]
    refine ⟨fun c => no (fun h => h.2.1 c), fun c => ⟨8 * r + p, ix8 r p, by omega, ?_⟩⟩
    rw [R.sa (by omega) hp]
    refine ⟨fun c2 => no (fun h => h.1 ((sa_le (w.gv hp (by omega))).mp c2)), fun c2 => ⟨8 * r + p, ix8 r p, by omega, ?_⟩⟩
    rw [R.sa (by omega) hp]
    refine ⟨r, rfl, by omega, ?_⟩
    rw [R.go hr]
    refine ⟨fun c3 => no (fun h => h.2.2 ((sub1 _).symm.trans c3)), fun c3 => ?_⟩
    rw [cnt_t (show wrP k p r from ⟨fun e => c2 ((sa_le (w.gv hp (by omega))).mpr e), c, fun e => c3 ((sub1 _).trans e)⟩), nI_succ] at ih
    exact ih
theorem c4_isBarred (l : Launch) (d : Nat) (k : cK) (a : mA) (y : mZ) {p : Nat} (hp : p < 8) (w : WF k) (R : Rl k a) : SMet l m_X4_isBarred (d + 1) [.ref 0, .int (nI p)] (yC (nK k) a y) (qI k a y (bI (brd k p))) := by
  refine SMet_of 0 (by decide) (Nat.le_of_ble_eq_true rfl) (t_X4_isBarred_0 _ _ _ ?_)
  refine ⟨_, c4_wrong l d k a y hp w R, ?_⟩
  rintro _ _ ⟨rfl, rfl⟩
  have e := w.wr hp
  exact ⟨fun c => ⟨Or.inl rfl, by rw [bI_f (fun h : brd k p => h (by rw [e]; exact c))], rfl⟩, fun c => ⟨Or.inr rfl, by rw [bI_t (show brd k p from fun h => c (by rw [← e]; exact h))], rfl⟩⟩
theorem c4_labelled (l : Launch) (d : Nat) (k : cK) (a : mA) (y : mZ) {p : Nat} (hp : p < 8) (w : WF k) (R : Rl k a) : SMet l m_X4_labelled d [.ref 0, .int (nI p)] (yC (nK k) a y) (qI k a y (nI (gbN k p))) := by
  have hn := w.n
  refine SMet_of 2 (by decide) (Nat.le_of_ble_eq_true rfl) (t_X4_labelled_0 _ _ _ ?_)
  refine aw_up (k_n k) (fun r => SW l m_X4_labelled none _ d 0 0 _ 4 [some (.ref 0), some (.int (nI p)), some (.int (nI (cnt r (fun r => k_gv k p r ≠ -1)))), some (.int (nI r))] [] (yC (nK k) a y)) ?_ ?_ 0 (Nat.zero_le _)
  · exact t_X4_labelled_4 _ _ _ (br_t (nI_le (Nat.le_refl _) (by omega)) ⟨rfl, rfl⟩)
  · intro r hr ih
    simp only [nI_succ] at ih
    refine t_X4_labelled_4 _ _ _ (br_f (nI_ge (b := k_n k) hr (by omega)) ⟨8 * r + p, ix8 r p, by omega, ?_⟩)
    rw [R.sa (by omega) hp]
    refine ⟨fun c => ?_, fun c => ?_⟩
    · rw [cnt_f (P := fun r => k_gv k p r ≠ -1) (fun h => h ((sa_le (w.gv hp (by omega))).mp c)), ← Int32.add_zero (nI (cnt r (fun r => k_gv k p r ≠ -1)))] at ih
      exact ih
    · rw [cnt_t (P := fun r => k_gv k p r ≠ -1) (fun e => c ((sa_le (w.gv hp (by omega))).mpr e)), nI_succ] at ih
      exact ih
theorem c4_labellings (l : Launch) (d : Nat) (k : cK) (a : mA) (y : mZ) {r : Nat} (hr : r < 40) (w : WF k) (R : Rl k a) : SMet l m_X4_labellings d [.ref 0, .int (nI r)] (yC (nK k) a y) (qI k a y (nI (goN k r))) := by
  refine SMet_of 2 (by decide) (Nat.le_of_ble_eq_true rfl) (t_X4_labellings_0 _ _ _ ?_)
  refine aw_up 8 (fun p => SW l m_X4_labellings none _ d 0 0 _ 4 [some (.ref 0), some (.int (nI r)), some (.int (nI (cnt p (fun p => k_gv k p r ≠ -1)))), some (.int (nI p))] [] (yC (nK k) a y)) ?_ ?_ 0 (Nat.zero_le _)
  · exact t_X4_labellings_4 _ _ _ (br_t (nI_le (Nat.le_refl _) (by decide)) ⟨rfl, rfl⟩)
  · intro p hp ih
    simp only [nI_succ] at ih
    refine t_X4_labellings_4 _ _ _ (br_f (nI_ge (b := 8) hp (by decide)) ⟨8 * r + p, ix8 r p, by omega, ?_⟩)
    rw [R.sa hr hp]
    refine ⟨fun c => ?_, fun c => ?_⟩
    · rw [cnt_f (P := fun p => k_gv k p r ≠ -1) (fun h => h ((sa_le (w.gv hp hr)).mp c)), ← Int32.add_zero (nI (cnt p (fun p => k_gv k p r ≠ -1)))] at ih
      exact ih
    · rw [cnt_t (P := fun p => k_gv k p r ≠ -1) (fun e => c ((sa_le (w.gv hp hr)).mpr e)), nI_succ] at ih
      exact ih
theorem c4_countOf (l : Launch) (d : Nat) (k : cK) (a : mA) (y : mZ) {r b : Nat} (hr : r < 40) (R : Rl k a) : SMet l m_X4_countOf d [.ref 0, .int (nI r), .int (nI b)] (yC (nK k) a y) (qI k a y (nI (lbN k r b))) := by
  refine SMet_of 2 (by decide) (Nat.le_of_ble_eq_true rfl) (t_X4_countOf_0 _ _ _ ?_)
  refine aw_up 8 (fun p => SW l m_X4_countOf none _ d 0 0 _ 5 [some (.ref 0), some (.int (nI r)), some (.int (nI b)), some (.int (nI (cnt p (fun p => k_gv k p r = nI b)))), some (.int (nI p))] [] (yC (nK k) a y)) ?_ ?_ 0 (Nat.zero_le _)
  · exact t_X4_countOf_5 _ _ _ (br_t (nI_le (Nat.le_refl _) (by decide)) ⟨rfl, rfl⟩)
  · intro p hp ih
    simp only [nI_succ] at ih
    refine t_X4_countOf_5 _ _ _ (br_f (nI_ge (b := 8) hp (by decide)) ⟨8 * r + p, ix8 r p, by omega, ?_⟩)
    rw [R.sa hr hp]
    refine ⟨fun c => ?_, fun c => ?_⟩
    · rw [cnt_t (P := fun p => k_gv k p r = nI b) (add1.mp c), nI_succ] at ih
      exact ih
    · rw [cnt_f (P := fun p => k_gv k p r = nI b) (fun h => c (add1.mpr h)), ← Int32.add_zero (nI (cnt p (fun p => k_gv k p r = nI b)))] at ih
      exact ih
