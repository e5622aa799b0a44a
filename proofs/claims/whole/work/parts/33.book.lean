/-! Arrays.fill, Math.floorMod, the rule book -/
/-- a row of n places with x in the first k of them -/
def flF (f : vF) (x : Int32) (k : Nat) : vF := fun i => if i < k then x else f i
theorem flF_s (f : vF) (x : Int32) (k : Nat) : flF f x (k + 1) = upd (flF f x k) k x := by
  funext i
  unfold flF upd
  by_cases h : i = k
  · simp [h]
  · by_cases h2 : i < k
    · simp [h, h2, show i < k + 1 by omega]
    · simp [h, h2, show ¬ i < k + 1 by omega]
theorem flF_0 (f : vF) (x : Int32) : flF f x 0 = f := by
  funext i
  unfold flF
  simp
theorem aw_ss {α : Type} (l : List α) (i : Nat) (x y : α) : aw_s (aw_s l i x) i y = aw_s l i y := by
  rw [aw_s_eq, aw_s_eq, aw_s_eq, List.set_set]
theorem aw_gs {α : Type} {l : List α} {i : Nat} {x y : α} (h : aw_g l i = some y) : aw_g (aw_s l i x) i = some x := by
  have hl := aw_lt h
  rw [aw_g_eq, aw_s_eq, List.getElem?_set_self hl]
theorem aw_s_id {α : Type} {l : List α} {i : Nat} {y : α} (h : aw_g l i = some y) : aw_s l i y = l := by
  rw [aw_g_eq] at h
  rw [aw_s_eq]
  obtain ⟨h1, h2⟩ := List.getElem?_eq_some_iff.mp h
  rw [← h2]
  exact List.set_getElem_self h1
theorem c_fill (l : Launch) (d : Nat) (C : aw_H) {a n : Nat} {f : vF} (x : Int32) (ha : aw_g C a = some (a_i n f)) (hn : n ≤ 1000) : SMet l m_J7_fill_53178 d [.ref a, .int x] C (fun v C' => v = none ∧ C' = aw_s C a (a_i n (flF f x n))) := by
  have hb : (Nat.beq 0 0 && Nat.ble n 100000) = true := by
    rw [Nat.ble_eq_true_of_le (by omega)]
    rfl
  refine SMet_of 2 (by decide) (Nat.le_of_ble_eq_true rfl) (t_J7_fill_53178_0 _ _ _ ?_)
  refine i_r ha hb ?_
  have e0 : C = aw_s C a (a_i n (flF f x 0)) := by rw [flF_0, aw_s_id ha]
  show SW l m_J7_fill_53178 none _ d 0 0 _ 5 [some (.ref a), some (.int x), some (.int 0), some (.int (nI n))] [] C
  have key := aw_up n (fun q => SW l m_J7_fill_53178 none (fun _ _ _ _ => False) d 0 0 (fun v C' => v = none ∧ C' = aw_s C a (a_i n (flF f x n))) 5 [some (.ref a), some (.int x), some (.int (nI q)), some (.int (nI n))] [] (aw_s C a (a_i n (flF f x q)))) ?_ ?_ 0 (Nat.zero_le _)
  · rw [← e0] at key
    exact key
  · exact t_J7_fill_53178_5 _ _ _ (br_t (nI_le (Nat.le_refl _) (by omega)) ⟨rfl, rfl⟩)
  · intro q hq ih
    simp only [nI_succ, flF_s] at ih
    refine t_J7_fill_53178_5 _ _ _ (br_f (nI_ge hq (by omega)) ?_)
    refine i_r (aw_gs ha) hb ?_
    refine ⟨q, rfl, hq, ?_⟩
    rw [aw_ss]
    exact ih
/-- the rest by 5, not below 0 -/
def rest5 (x : Int32) : Int32 := if x - x / 5 * 5 < 0 then x - x / 5 * 5 + 5 else x - x / 5 * 5
theorem xor5 (x : Int32) : (0 ≤ x ^^^ 5) ↔ ¬ x < 0 := by
  rw [Int32.le_iff_toInt_le, Int32.lt_iff_toInt_lt]
  have h : (x ^^^ 5).toBitVec.msb = x.toBitVec.msb := by
    rw [Int32.toBitVec_xor, BitVec.msb_xor]
    show (x.toBitVec.msb ^^ (5#32).msb) = x.toBitVec.msb
    rw [show (5#32).msb = false from by decide]
    simp
  have a := BitVec.msb_eq_toInt (x := (x ^^^ 5).toBitVec)
  have b := BitVec.msb_eq_toInt (x := x.toBitVec)
  rw [h] at a
  rw [a] at b
  have a2 : (x ^^^ 5).toBitVec.toInt = (x ^^^ 5).toInt := rfl
  have b2 : x.toBitVec.toInt = x.toInt := rfl
  rw [a2, b2] at b
  have c := decide_eq_decide.mp b
  rw [Int32.toInt_zero]
  omega
theorem m5_toInt (x : Int32) : (x - x / 5 * 5).toInt = x.toInt.tmod 5 := rem_toInt x 5
theorem c_floorMod (l : Launch) (d : Nat) (C : aw_H) (x : Int32) : SMet l m_J9_floorMod_7cf53 d [.int x, .int 5] C (fun v C' => v = some (.int (rest5 x)) ∧ C' = C) := by
  refine SMet_ofF 1 (by decide +kernel) (Nat.le_of_ble_eq_true rfl) (t_J9_floorMod_7cf53_0 _ _ _ ?_)
  have hm := m5_toInt x
  have hb := tmod_bounds (a := x.toInt) (M := 5) (by decide)
  refine ⟨by decide, ⟨fun c => ⟨?_, rfl⟩, fun c => ⟨fun c2 => ⟨?_, rfl⟩, fun c2 => ⟨?_, rfl⟩⟩⟩⟩
  · have c' := (xor5 x).mp c
    have h : ¬ x - x / 5 * 5 < 0 := by
      rw [Int32.lt_iff_toInt_lt, Int32.toInt_zero] at c' ⊢
      rw [hm, Int.tmod_eq_emod_of_nonneg (by omega)]
      omega
    rw [rest5, if_neg h]
  · have h : ¬ x - x / 5 * 5 < 0 := by
      have c2' : x - x / 5 * 5 = 0 := c2
      rw [c2']
      decide
    rw [rest5, if_neg h]
  · have c' : x < 0 := Classical.byContradiction fun q => c ((xor5 x).mpr q)
    have h : x - x / 5 * 5 < 0 := by
      have c2' : ¬ x - x / 5 * 5 = 0 := c2
      rw [← Int32.toInt_inj, Int32.toInt_zero, hm] at c2'
      rw [Int32.lt_iff_toInt_lt, Int32.toInt_zero] at c' ⊢
      rw [hm]
      have e : x.toInt.tmod 5 = -((-x.toInt).tmod 5) := by rw [Int.neg_tmod, Int.neg_neg]
      rw [Int.tmod_eq_emod_of_nonneg (a := -x.toInt) (by omega)] at e
      omega
    rw [rest5, if_pos h]
theorem ix_toInt {x : Int32} {n : Nat} (h0 : 0 ≤ x.toInt) (h : x.toInt < n) (hn : n < 2 ^ 31) : ix x n := by
  refine ix_of ?_ ?_ hn
  · rw [Int32.lt_iff_toInt_lt, Int32.toInt_zero]
    omega
  · rw [Int32.le_iff_toInt_le, nI_toInt hn]
    omega
theorem rest5_ix (x : Int32) : ix (rest5 x) 5 := by
  have hm := m5_toInt x
  have hb := tmod_bounds (a := x.toInt) (M := 5) (by decide)
  unfold rest5
  split
  next h =>
    rw [Int32.lt_iff_toInt_lt, Int32.toInt_zero] at h
    have e : (x - x / 5 * 5 + 5).toInt = (x - x / 5 * 5).toInt + 5 := by
      rw [Int32.toInt_add, show (5 : Int32).toInt = 5 from rfl]
      exact Int.bmod_eq_of_le (by omega) (by omega)
    exact ix_toInt (by omega) (by omega) (by decide)
  next h =>
    rw [Int32.lt_iff_toInt_lt, Int32.toInt_zero] at h
    exact ix_toInt (by omega) (by omega) (by decide)
/-- a choice -/
noncomputable def cI (b : Prop) (x y : Int32) : Int32 := @ite Int32 b (Classical.propDecidable b) x y
theorem cI_t {b : Prop} {x y : Int32} (h : b) : cI b x y = x := if_pos h
theorem cI_f {b : Prop} {x y : Int32} (h : ¬ b) : cI b x y = y := if_neg h
/-- what a state of the class is -/
def WF (k : cK) : Prop := k_n k ≤ 40 ∧ k_rn k ≤ 6 ∧ (∀ q, q < k_rn k → ix (k_kd k q) 4 ∧ ix (k_fi k q) 4 ∧ ix (k_se k q) 4) ∧ (∀ q, q < 6 → k_on k q = 0 ∨ k_on k q = 1) ∧ (∀ p, p < 8 → k_ex k p = 0 ∨ k_ex k p = 1) ∧
  (∀ p, p < 8 → ∃ t : Nat, t ≤ 10 ∧ k_tr k p = nI t) ∧ (∀ p r, p < 8 → r < 40 → k_gv k p r = -1 ∨ ix (k_gv k p r) 5) ∧ (∀ r, r < 40 → k_kn k r = -1 ∨ ix (k_kn k r) 5) ∧ (∀ p, p < 8 → k_wr k p = nI (wrN k p)) ∧ (∀ p r, p < 8 → k_n k ≤ r → r < 40 → k_gv k p r = -1) ∧ (∀ r, k_n k ≤ r → r < 40 → k_kn k r = -1)
theorem WF.n {k : cK} (h : WF k) : k_n k ≤ 40 := h.1
theorem WF.rn {k : cK} (h : WF k) : k_rn k ≤ 6 := h.2.1
theorem WF.ru {k : cK} (h : WF k) {q : Nat} (hq : q < k_rn k) : ix (k_kd k q) 4 ∧ ix (k_fi k q) 4 ∧ ix (k_se k q) 4 := h.2.2.1 q hq
theorem WF.on {k : cK} (h : WF k) {q : Nat} (hq : q < 6) : k_on k q = 0 ∨ k_on k q = 1 := h.2.2.2.1 q hq
theorem WF.ex {k : cK} (h : WF k) {q : Nat} (hq : q < 8) : k_ex k q = 0 ∨ k_ex k q = 1 := h.2.2.2.2.1 q hq
theorem WF.tr {k : cK} (h : WF k) {q : Nat} (hq : q < 8) : ∃ t : Nat, t ≤ 10 ∧ k_tr k q = nI t := h.2.2.2.2.2.1 q hq
theorem WF.gv {k : cK} (h : WF k) {p r : Nat} (hp : p < 8) (hr : r < 40) : k_gv k p r = -1 ∨ ix (k_gv k p r) 5 := h.2.2.2.2.2.2.1 p r hp hr
theorem WF.kn {k : cK} (h : WF k) {r : Nat} (hr : r < 40) : k_kn k r = -1 ∨ ix (k_kn k r) 5 := h.2.2.2.2.2.2.2.1 r hr
theorem WF.wr {k : cK} (h : WF k) {p : Nat} (hp : p < 8) : k_wr k p = nI (wrN k p) := h.2.2.2.2.2.2.2.2.1 p hp
theorem c_bsize (l : Launch) (d : Nat) (k : cK) (z : cZ) : SMet l m_X1_size d [.ref 2] (xC k z) (rI k z (nI (k_rn k))) := SMet_of 0 (by decide) (by decide) (t_X1_size_0 _ _ _ ⟨rfl, rfl⟩)
theorem c_hasRule (l : Launch) (d : Nat) (k : cK) (z : cZ) (x : Int32) (hn : k_rn k ≤ 6) : SMet l m_X1_hasRule d [.ref 2, .int x] (xC k z) (rI k z (bI (ix x (k_rn k)))) := by
  refine SMet_of 0 (by decide) (Nat.le_of_ble_eq_true rfl) (t_X1_hasRule_0 _ _ _ ?_)
  refine ⟨fun c => ⟨Or.inl rfl, by rw [bI_f (ix_neg c (by omega))], rfl⟩, fun c => ⟨fun c2 => ⟨Or.inl rfl, by rw [bI_f (ix_ge c2 (by omega))], rfl⟩, fun c2 => ⟨Or.inr rfl, by rw [bI_t (ix_of c c2 (by omega))], rfl⟩⟩⟩
/-- one rule more -/
abbrev s_rule (k : cK) (a i j c : Int32) : cK := (k.1, (upd (k_kd k) (k_rn k) a, upd (k_fi k) (k_rn k) i, upd (k_se k) (k_rn k) j, upd (k_co k) (k_rn k) c, upd (k_on k) (k_rn k) 1, k_pl k, k_rn k + 1), k.2.2)
theorem c_addRule (l : Launch) (d : Nat) (k : cK) (z : cZ) (a i j c : Int32) (hn : k_rn k ≤ 6) : SMet l m_X1_addRule d [.ref 2, .int a, .int i, .int j, .int c] (xC k z) (fun v C => (k_rn k < 6 ∧ v = some (.int (nI (k_rn k))) ∧ C = xC (s_rule k a i j c) z) ∨ (¬ k_rn k < 6 ∧ v = some (.int (-104)) ∧ C = xC k z)) := by
  refine SMet_of 0 (by decide) (Nat.le_of_ble_eq_true rfl) (t_X1_addRule_0 _ _ _ ?_)
  by_cases h : k_rn k < 6
  · refine br_t (nI_lt (b := 6) h (by decide)) ?_
    refine ⟨k_rn k, rfl, h, ⟨k_rn k, rfl, h, ⟨k_rn k, rfl, h, ⟨k_rn k, rfl, h, ⟨k_rn k, rfl, h, Or.inr rfl, ?_⟩⟩⟩⟩⟩
    refine Or.inl ⟨h, rfl, ?_⟩
    simp only [xC, nI_succ]
    rfl
  · exact br_f (nI_nlt (b := 6) (by omega) (by omega)) (Or.inr ⟨h, rfl, rfl⟩)
theorem c_isOn (l : Launch) (d : Nat) (k : cK) (z : cZ) {q : Nat} (hq : q < 6) (w : WF k) : SMet l m_X1_isOn d [.ref 2, .int (nI q)] (xC k z) (rI k z (k_on k q)) := SMet_of 0 (by decide) (Nat.le_of_ble_eq_true rfl) (t_X1_isOn_0 _ _ _ ⟨q, rfl, hq, w.on hq, rfl, rfl⟩)
abbrev s_on (k : cK) (f : vF) : cK := (k.1, (k_kd k, k_fi k, k_se k, k_co k, f, k_pl k, k_rn k), k.2.2)
theorem c_setOn (l : Launch) (d : Nat) (k : cK) (z : cZ) {q : Nat} (x : Int32) (hq : q < 6) (hx : x = 0 ∨ x = 1) : SMet l m_X1_setOn d [.ref 2, .int (nI q), .int x] (xC k z) (rV (s_on k (upd (k_on k) q x)) z) := SMet_of 0 (by decide) (Nat.le_of_ble_eq_true rfl) (t_X1_setOn_0 _ _ _ ⟨q, rfl, hq, hx, rfl, rfl⟩)
abbrev s_pl (k : cK) (f : vF) : cK := (k.1, (k_kd k, k_fi k, k_se k, k_co k, k_on k, f, k_rn k), k.2.2)
theorem c_replace (l : Launch) (d : Nat) (k : cK) (z : cZ) {q : Nat} (x : Int32) (hq : q < 8) : SMet l m_X1_replace d [.ref 2, .int (nI q), .int x] (xC k z) (rI (s_pl k (upd (k_pl k) q x)) z (k_pl k q)) := SMet_of 1 (by decide) (Nat.le_of_ble_eq_true rfl) (t_X1_replace_0 _ _ _ ⟨q, rfl, hq, ⟨q, rfl, hq, rfl, rfl⟩⟩)
/-- what a rule says of a row; -2, -3: it abstains -/
noncomputable def wI (k : cK) (q r : Nat) : Int32 :=
  cI (k_kd k q = 0) (cI (k_ft k (k_se k q).toNatClampNeg r = 0) (-2) (rest5 (k_ft k (k_fi k q).toNatClampNeg r / k_ft k (k_se k q).toNatClampNeg r)))
  (cI (k_kd k q = 1) (cI (k_ft k (k_se k q).toNatClampNeg r = 0) (-2) (rest5 (k_ft k (k_fi k q).toNatClampNeg r - k_ft k (k_fi k q).toNatClampNeg r / k_ft k (k_se k q).toNatClampNeg r * k_ft k (k_se k q).toNatClampNeg r)))
  (cI (k_kd k q = 2) (cI (ix (k_ft k (k_fi k q).toNatClampNeg r + k_co k q) 8) (rest5 (k_pl k (k_ft k (k_fi k q).toNatClampNeg r + k_co k q).toNatClampNeg)) (-3))
  (cI (k_co k q ≤ k_ft k (k_fi k q).toNatClampNeg r) 1 0)))
theorem c_featureX (l : Launch) (d : Nat) (k : cK) (z : cZ) {x : Int32} {p r : Nat} (hx : x = nI p) (hp : p < 4) (hr : r < 40) : SMet l m_X2_feature d [.ref 1, .int x, .int (nI r)] (xC k z) (rI k z (k_ft k p r)) := by
  subst hx
  exact c_feature l d k z hp hr
theorem c_wordOn (l : Launch) (d : Nat) (k : cK) (z : cZ) {q r : Nat} (hq : q < k_rn k) (hr : r < 40) (w : WF k) : SMet l m_X1_wordOn (d + 1) [.ref 2, .int (nI q), .ref 1, .int (nI r)] (xC k z) (rI k z (wI k q r)) := by
  have h6 : q < 6 := Nat.lt_of_lt_of_le hq w.rn
  obtain ⟨-, ⟨i, hi, ei⟩, ⟨j, hj, ej⟩⟩ := w.ru hq
  have ci : (k_fi k q).toNatClampNeg = i := by rw [ei]; exact nI_clamp (by omega)
  have cj : (k_se k q).toNatClampNeg = j := by rw [ej]; exact nI_clamp (by omega)
  refine SMet_of 3 (by decide) (Nat.le_of_ble_eq_true rfl) (t_X1_wordOn_0 _ _ _ ?_)
  refine ⟨q, rfl, h6, ⟨_, c_featureX l d k z ei hi hr, ?_⟩⟩
  rintro _ _ ⟨rfl, rfl⟩
  refine ⟨q, rfl, h6, ⟨_, c_featureX l d k z ej hj hr, ?_⟩⟩
  rintro _ _ ⟨rfl, rfl⟩
  refine ⟨q, rfl, h6, ?_⟩
  unfold wI
  rw [ci, cj]
  refine ⟨fun c => ?_, fun c => ?_, fun c => ?_, fun c => ?_, trivial⟩
  · have n0 : ¬ k_kd k q = 0 := fun e => by rw [e] at c; revert c; decide
    have n1 : ¬ k_kd k q = 1 := fun e => by rw [e] at c; revert c; decide
    have n2 : ¬ k_kd k q = 2 := fun e => by rw [e] at c; revert c; decide
    rw [cI_f n0, cI_f n1, cI_f n2]
    exact ⟨q, rfl, h6, ⟨fun c => ⟨by rw [cI_t c], rfl⟩, fun c => ⟨by rw [cI_f c], rfl⟩⟩⟩
  · have e0 : k_kd k q = 0 := c
    rw [cI_t e0]
    refine ⟨fun c => ⟨by rw [cI_t c], rfl⟩, fun c => ⟨c, ⟨_, c_floorMod l d _ _, ?_⟩⟩⟩
    rintro _ _ ⟨rfl, rfl⟩
    exact ⟨by rw [cI_f c], rfl⟩
  · have e1 : k_kd k q = 1 := c
    have n0 : ¬ k_kd k q = 0 := fun e => by rw [e1] at e; revert e; decide
    rw [cI_f n0, cI_t e1]
    refine ⟨fun c => ⟨by rw [cI_t c], rfl⟩, fun c => ⟨c, ⟨_, c_floorMod l d _ _, ?_⟩⟩⟩
    rintro _ _ ⟨rfl, rfl⟩
    exact ⟨by rw [cI_f c], rfl⟩
  · have e2 : k_kd k q = 2 := c
    have n0 : ¬ k_kd k q = 0 := fun e => by rw [e2] at e; revert e; decide
    have n1 : ¬ k_kd k q = 1 := fun e => by rw [e2] at e; revert e; decide
    rw [cI_f n0, cI_f n1, cI_t e2]
    refine ⟨q, rfl, h6, ⟨_, c_isPlace l d _ _, ?_⟩⟩
    rintro _ _ ⟨rfl, rfl⟩
    refine br_b (fun c => ⟨by rw [cI_f c], rfl⟩) (fun c => ?_)
    rw [cI_t c]
    obtain ⟨g, hg, eg⟩ := c
    refine ⟨g, eg, hg, ⟨_, c_floorMod l d _ _, ?_⟩⟩
    rintro _ _ ⟨rfl, rfl⟩
    refine ⟨?_, rfl⟩
    have eg2 : k_ft k i r + k_co k q = nI g := eg
    rw [eg2, nI_clamp (by omega)]
