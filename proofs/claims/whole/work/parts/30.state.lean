/-! the class's state, as values; its world -/
abbrev vF : Type := Nat → Int32
abbrev cSh : Type := (Nat → vF) × (Nat → vF) × vF × vF × Nat
abbrev cBk : Type := vF × vF × vF × vF × vF × vF × Nat
/-- what calls show -/
abbrev cK : Type := cSh × cBk × vF × vF × Int32
/-- what is only used again -/
abbrev cZ : Type := (vF × vF × Int64 × Int64 × Int32 × Int32) × vF × vF × vF
abbrev k_ft (k : cK) : Nat → vF := k.1.1
abbrev k_gv (k : cK) : Nat → vF := k.1.2.1
abbrev k_kn (k : cK) : vF := k.1.2.2.1
abbrev k_wr (k : cK) : vF := k.1.2.2.2.1
abbrev k_n (k : cK) : Nat := k.1.2.2.2.2
abbrev k_kd (k : cK) : vF := k.2.1.1
abbrev k_fi (k : cK) : vF := k.2.1.2.1
abbrev k_se (k : cK) : vF := k.2.1.2.2.1
abbrev k_co (k : cK) : vF := k.2.1.2.2.2.1
abbrev k_on (k : cK) : vF := k.2.1.2.2.2.2.1
abbrev k_pl (k : cK) : vF := k.2.1.2.2.2.2.2.1
abbrev k_rn (k : cK) : Nat := k.2.1.2.2.2.2.2.2
abbrev k_ex (k : cK) : vF := k.2.2.1
abbrev k_tr (k : cK) : vF := k.2.2.2.1
abbrev k_bd (k : cK) : Int32 := k.2.2.2.2
abbrev z_og (z : cZ) : vF := z.1.1
abbrev z_tg (z : cZ) : vF := z.1.2.1
abbrev z_tp (z : cZ) : Int64 := z.1.2.2.1
abbrev z_bt (z : cZ) : Int64 := z.1.2.2.2.1
abbrev z_rc (z : cZ) : Int32 := z.1.2.2.2.2.1
abbrev z_sc (z : cZ) : Int32 := z.1.2.2.2.2.2
abbrev z_ta (z : cZ) : vF := z.2.1
abbrev z_de (z : cZ) : vF := z.2.2.1
abbrev z_fr (z : cZ) : vF := z.2.2.2
abbrev a_i (n : Nat) (f : vF) : aw_Cel := .inl (0, n, .inl f)
abbrev a_z (n : Nat) (f : vF) : aw_Cel := .inl (1, n, .inl f)
def xC (k : cK) (z : cZ) : aw_H := [
  .inr (3, [.ref 1, .ref 2, .ref 3, .ref 4, .ref 5, .int (k_bd k), .ref 6, .ref 7, .ref 8]),
  .inr (2, [.ref 9, .ref 10, .ref 23, .ref 24, .int (nI (k_n k))]),
  .inr (1, [.ref 25, .ref 26, .ref 27, .ref 28, .ref 29, .ref 30, .int (nI (k_rn k))]),
  .inr (0, [.ref 31, .ref 32, .long (z_tp z), .long (z_bt z), .int (z_rc z), .int (z_sc z)]),
  a_z 8 (k_ex k), a_i 8 (k_tr k), a_i 5 (z_ta z), a_i 40 (z_de z), a_i 8 (z_fr z),
  .inl (3, 4, .inr (.inr (.inr (.inr (fun i => some (11 + i)))))),
  .inl (3, 8, .inr (.inr (.inr (.inr (fun i => some (15 + i)))))),
  a_i 40 (k_ft k 0), a_i 40 (k_ft k 1), a_i 40 (k_ft k 2), a_i 40 (k_ft k 3),
  a_i 40 (k_gv k 0), a_i 40 (k_gv k 1), a_i 40 (k_gv k 2), a_i 40 (k_gv k 3), a_i 40 (k_gv k 4), a_i 40 (k_gv k 5), a_i 40 (k_gv k 6), a_i 40 (k_gv k 7),
  a_i 40 (k_kn k), a_i 8 (k_wr k),
  a_i 6 (k_kd k), a_i 6 (k_fi k), a_i 6 (k_se k), a_i 6 (k_co k), a_z 6 (k_on k), a_i 8 (k_pl k),
  a_i 5 (z_og z), a_i 5 (z_tg z)]
theorem xC_gv (k : cK) (z : cZ) {p : Nat} (h : p < 8) : aw_g (xC k z) (15 + p) = some (a_i 40 (k_gv k p)) := by
  rcases (show p = 0 ∨ p = 1 ∨ p = 2 ∨ p = 3 ∨ p = 4 ∨ p = 5 ∨ p = 6 ∨ p = 7 by omega) with rfl | rfl | rfl | rfl | rfl | rfl | rfl | rfl <;> rfl
theorem xC_ft (k : cK) (z : cZ) {p : Nat} (h : p < 4) : aw_g (xC k z) (11 + p) = some (a_i 40 (k_ft k p)) := by
  rcases (show p = 0 ∨ p = 1 ∨ p = 2 ∨ p = 3 by omega) with rfl | rfl | rfl | rfl <;> rfl
/-- the answer of a method that changes nothing -/
abbrev rI (k : cK) (z : cZ) (x : Int32) : Option Value → aw_H → Prop := fun v C => v = some (.int x) ∧ C = xC k z
/-- a truth value as an int -/
noncomputable def bI (b : Prop) : Int32 := @ite Int32 b (Classical.propDecidable b) 1 0
theorem bI_t {b : Prop} (h : b) : bI b = 1 := if_pos h
theorem bI_f {b : Prop} (h : ¬ b) : bI b = 0 := if_neg h
theorem bI_01 {b : Prop} : bI b = 0 ∨ bI b = 1 := by
  by_cases h : b
  · exact Or.inr (bI_t h)
  · exact Or.inl (bI_f h)
theorem bI_0 {b : Prop} : bI b = 0 ↔ ¬ b := by
  by_cases h : b
  · rw [bI_t h]; simp [h]
  · rw [bI_f h]; simp [h]
theorem bI_c {a b : Prop} (h : a ↔ b) : bI a = bI b := by rw [propext h]
theorem br_b {b A B : Prop} (f : ¬ b → A) (g : b → B) : (bI b = 0 → A) ∧ (¬ bI b = 0 → B) := ⟨fun h => f (bI_0.mp h), fun h => g (Classical.byContradiction fun q => h (bI_0.mpr q))⟩
/-- a place of n -/
def ix (x : Int32) (n : Nat) : Prop := ∃ j : Nat, j < n ∧ x = nI j
theorem ix_neg {x : Int32} {n : Nat} (h : x < 0) (hn : n < 2 ^ 31) : ¬ ix x n := by
  rintro ⟨j, hj, rfl⟩
  exact nI_pos (by omega) h
theorem ix_ge {x : Int32} {n : Nat} (h : nI n ≤ x) (hn : n < 2 ^ 31) : ¬ ix x n := by
  rintro ⟨j, hj, rfl⟩
  exact nI_ge hj hn h
theorem ix_of {x : Int32} {n : Nat} (h0 : ¬ x < 0) (h : ¬ nI n ≤ x) (hn : n < 2 ^ 31) : ix x n := by
  rcases pk_ix x hn with q | q | q
  · exact absurd q h0
  · exact absurd q h
  · exact q
/-- how many of the first k -/
noncomputable def cnt : Nat → (Nat → Prop) → Nat
  | 0, _ => 0
  | k + 1, P => @ite Nat (P k) (Classical.propDecidable _) (cnt k P + 1) (cnt k P)
theorem cnt_t {k : Nat} {P : Nat → Prop} (h : P k) : cnt (k + 1) P = cnt k P + 1 := if_pos h
theorem cnt_f {k : Nat} {P : Nat → Prop} (h : ¬ P k) : cnt (k + 1) P = cnt k P := if_neg h
theorem cnt_le (P : Nat → Prop) : ∀ k, cnt k P ≤ k
  | 0 => Nat.le_refl _
  | k + 1 => by
    have := cnt_le P k
    by_cases h : P k
    · rw [cnt_t h]; omega
    · rw [cnt_f h]; omega
theorem cnt_c {P P' : Nat → Prop} : ∀ k, (∀ i, i < k → (P i ↔ P' i)) → cnt k P = cnt k P'
  | 0, _ => rfl
  | k + 1, h => by
    have ih := cnt_c k (fun i hi => h i (by omega))
    by_cases q : P k
    · rw [cnt_t q, cnt_t ((h k (by omega)).mp q), ih]
    · rw [cnt_f q, cnt_f (fun z => q ((h k (by omega)).mpr z)), ih]
theorem aw_up (n : Nat) (P : Nat → Prop) (h0 : P n) (hs : ∀ r, r < n → P (r + 1) → P r) : ∀ r, r ≤ n → P r := by
  intro r hr
  obtain ⟨k, hk⟩ : ∃ k, n = r + k := ⟨n - r, by omega⟩
  induction k generalizing r with
  | zero =>
    have : r = n := by omega
    rw [this]
    exact h0
  | succ k ih => exact hs r (by omega) (ih (r + 1) (by omega) (by omega))
theorem i_r {C : aw_H} {a t n : Nat} {f : Nat → Int32} {k : Nat → (Nat → Int32) → Prop} (h : aw_g C a = some (.inl (t, n, .inl f))) (hb : (Nat.beq t t && Nat.ble n 100000) = true) (hk : k n f) : p_r C a t k := by
  unfold p_r
  rw [h]
  show p_t (Nat.beq t t && Nat.ble n 100000) (k n f)
  rw [hb]
  exact hk
