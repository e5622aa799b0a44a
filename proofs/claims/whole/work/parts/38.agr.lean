/-! agreement -/
theorem lgc0 (x y : Int64) : lg_cmp x y = 0 ↔ x = y := by
  unfold lg_cmp
  by_cases h1 : x > y
  · rw [if_pos h1]
    constructor
    · intro h; exact absurd h (by decide)
    · intro h; subst h; exact absurd h1 (Int64.lt_irrefl)
  · rw [if_neg h1]
    by_cases h2 : x = y
    · rw [if_pos h2]; simp [h2]
    · rw [if_neg h2]
      constructor
      · intro h; exact absurd h (by decide)
      · intro h; exact absurd h h2
theorem br_l {x y : Int64} {A B : Prop} (f : x = y → A) (g : ¬ x = y → B) : (lg_cmp x y = 0 → A) ∧ (¬ lg_cmp x y = 0 → B) := ⟨fun h => f ((lgc0 x y).mp h), fun h => g (fun q => h ((lgc0 x y).mpr q))⟩
theorem br_g {x y : Int64} {A B : Prop} (f : y ≤ x → A) (g : ¬ y ≤ x → B) : (0 ≤ lg_cmp x y → A) ∧ (¬ 0 ≤ lg_cmp x y → B) := ⟨fun h => f ((lg_cmp_ge x y).mp h), fun h => g (fun q => h ((lg_cmp_ge x y).mpr q))⟩
noncomputable def gcL : Nat → Int64 → Int64 → Int64
  | 0, a, _ => a
  | m + 1, a, b => cE (b = 0) a (gcL m b (a - a / b * b))
theorem c_commonDivisor (l : Launch) (d : Nat) (C : aw_H) (a b : Int64) : SMet l m_X0_commonDivisor d [.long a, .long b] C (fun v C' => v = some (.long (gcL 200 a b)) ∧ C' = C) := by
  refine SMet_of 7 (by decide) (Nat.le_of_ble_eq_true rfl) (t_X0_commonDivisor_0 _ _ _ ?_)
  have key : ∀ m t, t + m = 200 → ∀ (x y : Int64) (j1 : Option Value), gcL 200 a b = gcL m x y → SW l m_X0_commonDivisor none (fun _ _ _ _ => False) d 0 0 (fun v C' => v = some (.long (gcL 200 a b)) ∧ C' = C) 9 [some (.long a), none, some (.long b), none, some (.long x), none, some (.long y), none, some (.int (nI t)), j1, none] [] C := by
    intro m
    induction m with
    | zero =>
      intro t ht x y j1 e
      have : t = 200 := by omega
      subst this
      exact t_X0_commonDivisor_9 _ _ _ (br_t (nI_le (Nat.le_refl _) (by decide)) ⟨by rw [e]; rfl, rfl⟩)
    | succ m ih =>
      intro t ht x y j1 e
      have ih := ih (t + 1) (by omega)
      simp only [nI_succ] at ih
      have e : gcL 200 a b = cE (y = 0) x (gcL m y (x - x / y * y)) := e
      refine t_X0_commonDivisor_9 _ _ _ (br_f (nI_ge (b := 200) (show t < 200 by omega) (by decide)) (br_l (fun c => ⟨?_, rfl⟩) (fun c => ⟨c, ih _ _ _ ?_⟩)))
      · rw [e, cE_t c]
      · rw [e, cE_f c]
  exact key 200 0 rfl a b none rfl
noncomputable def abL (x : Int64) : Int64 := cE (0 ≤ x) x (-x)
noncomputable def dvL (o u : Int64) : Int64 := cE (gcL 200 (abL o) u = 0) 1 (gcL 200 (abL o) u)
abbrev z_sfr (z : cZ) (t b : Int64) : cZ := ((z_og z, z_tg z, t, b, z_rc z, z_sc z), z.2)
theorem dvL_ne (o u : Int64) : ¬ dvL o u = 0 := by
  unfold dvL
  by_cases h : gcL 200 (abL o) u = 0
  · rw [cE_t h]; decide
  · rw [cE_f h]; exact h
theorem c_setFraction (l : Launch) (d : Nat) (k : cK) (z : cZ) (o u : Int64) : SMet l m_X0_setFraction (d + 1) [.ref 3, .long o, .long u] (xC k z) (rV k (z_sfr z (o / dvL o u) (u / dvL o u))) := by
  refine SMet_of 2 (by decide) (Nat.le_of_ble_eq_true rfl) (t_X0_setFraction_0 _ _ _ ?_)
  have fin : k_X0_setFraction_12 l (fun _ _ _ _ => False) (d + 1) (rV k (z_sfr z (o / dvL o u) (u / dvL o u))) [some (.ref 3), some (.long o), none, some (.long u), none, none, none] [.long (abL o)] (xC k z) := by
    refine ⟨_, c_commonDivisor l d _ _ _, ?_⟩
    rintro _ _ ⟨rfl, rfl⟩
    refine br_l (fun c => ?_) (fun c => ?_)
    · have e : dvL o u = 1 := cE_t c
      rw [e]
      exact ⟨by decide, by decide, rfl, rfl⟩
    · have e : dvL o u = gcL 200 (abL o) u := cE_f c
      rw [e]
      exact ⟨c, c, rfl, rfl⟩
  refine br_g (fun c => ?_) (fun c => ?_)
  · have e : abL o = o := cE_t c
    rw [e] at fin
    exact fin
  · have e : abL o = -o := cE_f c
    rw [e] at fin
    exact fin
/-- sums of products -/
def spL (f g : vF) : Nat → Int64
  | 0 => 0
  | a + 1 => spL f g a + (f a).toInt64 * (g a).toInt64
theorem spL_c {f g f' g' : vF} : ∀ n, (∀ a, a < n → f a = f' a) → (∀ a, a < n → g a = g' a) → spL f g n = spL f' g' n
  | 0, _, _ => rfl
  | n + 1, h1, h2 => by
    unfold spL
    rw [spL_c n (fun a ha => h1 a (by omega)) (fun a ha => h2 a (by omega)), h1 n (by omega), h2 n (by omega)]
theorem c_sumOfProducts (l : Launch) (d : Nat) (C : aw_H) {i j : Nat} {f g : vF} (hi : aw_g C i = some (a_i 5 f)) (hj : aw_g C j = some (a_i 5 g)) : SMet l m_X0_sumOfProducts d [.ref i, .ref j] C (fun v C' => v = some (.long (spL f g 5)) ∧ C' = C) := by
  refine SMet_of 3 (by decide) (Nat.le_of_ble_eq_true rfl) (t_X0_sumOfProducts_0 _ _ _ ?_)
  refine aw_up 5 (fun a => SW l m_X0_sumOfProducts none _ d 0 0 _ 5 [some (.ref i), some (.ref j), some (.long (spL f g a)), none, some (.int (nI a))] [] C) ?_ ?_ 0 (Nat.zero_le _)
  · exact t_X0_sumOfProducts_5 _ _ _ (br_t (nI_le (Nat.le_refl _) (by decide)) ⟨rfl, rfl⟩)
  · intro a ha ih
    simp only [nI_succ] at ih
    refine t_X0_sumOfProducts_5 _ _ _ (br_f (nI_ge (b := 5) ha (by decide)) ?_)
    refine i_r hi rfl ⟨a, rfl, ha, i_r hj rfl ⟨a, rfl, ha, ?_⟩⟩
    exact ih
abbrev z_sag (z : cZ) (f g : vF) (rc sc : Int32) : cZ := ((f, g, z_tp z, z_bt z, rc, sc), z.2)
theorem c_startCounts (l : Launch) (d : Nat) (k : cK) (z : cZ) : SMet l m_X0_startCounts (d + 1) [.ref 3] (xC k z) (rV k (z_sag z (flF (z_og z) 0 5) (z_tg z) 0 0)) := by
  refine SMet_of 0 (by decide) (Nat.le_of_ble_eq_true rfl) (t_X0_startCounts_0 _ _ _ ?_)
  refine ⟨_, c_fill l d (xC k z) (a := 31) (n := 5) (f := z_og z) 0 rfl (by decide), ?_⟩
  rintro _ _ ⟨rfl, rfl⟩
  exact ⟨rfl, rfl⟩
/-! two persons -/
def bth (k : cK) (p q : Nat) : Nat → Prop := fun r => ix (k_gv k p r) 5 ∧ ix (k_gv k q r) 5
def bthA (k : cK) (p q : Nat) : Nat → Prop := fun r => bth k p q r ∧ k_gv k p r = k_gv k q r
def bthL (k : cK) (p q a : Nat) : Nat → Prop := fun r => bth k p q r ∧ k_gv k p r = nI a
def bthM (k : cK) (p q a : Nat) : Nat → Prop := fun r => bth k p q r ∧ k_gv k q r = nI a
noncomputable def sN2 (k : cK) (p q : Nat) : Int64 := spL (fun a => nI (cnt (k_n k) (bthL k p q a))) (fun a => nI (cnt (k_n k) (bthM k p q a))) 5
noncomputable def ov2 (k : cK) (p q : Nat) : Int64 := (nI (cnt (k_n k) (bth k p q))).toInt64 * (nI (cnt (k_n k) (bthA k p q))).toInt64 - sN2 k p q
noncomputable def un2 (k : cK) (p q : Nat) : Int64 := (nI (cnt (k_n k) (bth k p q))).toInt64 * (nI (cnt (k_n k) (bth k p q))).toInt64 - sN2 k p q
abbrev rA (k : cK) (rc sc : Int32) (o u : Int64) : Option Value → aw_H → Prop := fun v C => v = none ∧ ∃ z, C = xC k z ∧ z_rc z = rc ∧ z_sc z = sc ∧ z_tp z = o / dvL o u ∧ z_bt z = u / dvL o u
theorem cnt_u {P : Nat → Nat → Prop} {f : vF} {r g : Nat} (hf : ∀ a, a < 5 → f a = nI (cnt r (P a))) (h1 : P g r) (h2 : ∀ a, a < 5 → a ≠ g → ¬ P a r) : ∀ a, a < 5 → upd f g (f g + 1) a = nI (cnt (r + 1) (P a)) := by
  intro a ha
  by_cases e : a = g
  · subst e
    rw [pk_us, cnt_t h1, nI_succ, hf a ha]
  · rw [pk_un e, cnt_f (h2 a ha e), hf a ha]
theorem c_measureTwo (l : Launch) (d : Nat) (k : cK) (z : cZ) {p q : Nat} (hp : p < 8) (hq : q < 8) (w : WF k) : SMet l m_X0_measureTwo (d + 2) [.ref 3, .ref 1, .int (nI p), .int (nI q)] (xC k z) (rA k (nI (cnt (k_n k) (bth k p q))) (nI (cnt (k_n k) (bthA k p q))) (ov2 k p q) (un2 k p q)) := by
  have hn := w.n
  refine SMet_of 4 (by decide) (Nat.le_of_ble_eq_true rfl) (t_X0_measureTwo_0 _ _ _ ?_)
  refine ⟨_, c_startCounts l d k z, ?_⟩
  rintro _ _ ⟨rfl, rfl⟩
  refine ⟨_, c_fill l (d + 1) (xC k (z_sag z (flF (z_og z) 0 5) (z_tg z) 0 0)) (a := 32) (n := 5) (f := z_tg z) 0 rfl (by decide), ?_⟩
  rintro _ _ ⟨rfl, rfl⟩
  have key : ∀ r, r ≤ k_n k → ∀ (f g : vF) (j1 j2 j3 : Option Value), (∀ a, a < 5 → f a = nI (cnt r (bthL k p q a))) → (∀ a, a < 5 → g a = nI (cnt r (bthM k p q a))) → SW l m_X0_measureTwo none (fun _ _ _ _ => False) (d + 2) 0 0 (rA k (nI (cnt (k_n k) (bth k p q))) (nI (cnt (k_n k) (bthA k p q))) (ov2 k p q) (un2 k p q)) 15 [some (.ref 3), some (.ref 1), some (.int (nI p)), some (.int (nI q)), some (.int (nI r)), j1, j2, j3] [] (xC k (z_sag z f g (nI (cnt r (bth k p q))) (nI (cnt r (bthA k p q))))) := by
    refine aw_up (k_n k) _ ?_ ?_
    · intro f g j1 j2 j3 hf hg
      refine t_X0_measureTwo_15 _ _ _ ⟨_, c_size l (d + 1) k _, ?_⟩
      rintro _ _ ⟨rfl, rfl⟩
      refine br_t (nI_le (Nat.le_refl _) (by omega)) ⟨_, c_sumOfProducts l (d + 1) _ (f := f) (g := g) rfl rfl, ?_⟩
      rintro _ _ ⟨rfl, rfl⟩
      have e : spL f g 5 = sN2 k p q := spL_c 5 hf hg
      rw [e]
      refine ⟨_, c_setFraction l d k _ (ov2 k p q) (un2 k p q), ?_⟩
      rintro _ _ ⟨rfl, rfl⟩
      exact ⟨rfl, _, rfl, rfl, rfl, rfl, rfl⟩
    · intro r hr ih f g j1 j2 j3 hf hg
      simp only [nI_succ] at ih
      refine t_X0_measureTwo_15 _ _ _ ⟨_, c_size l (d + 1) k _, ?_⟩
      rintro _ _ ⟨rfl, rfl⟩
      refine br_f (nI_ge hr (by omega)) ⟨_, c_given l (d + 1) k _ hp (by omega), ?_⟩
      rintro _ _ ⟨rfl, rfl⟩
      refine ⟨_, c_given l (d + 1) k _ hq (by omega), ?_⟩
      rintro _ _ ⟨rfl, rfl⟩
      refine ⟨_, c_isLabel l (d + 1) _ _, ?_⟩
      rintro _ _ ⟨rfl, rfl⟩
      have no : ¬ bth k p q r → ∀ j1 j2 j3 : Option Value, SW l m_X0_measureTwo none (fun _ _ _ _ => False) (d + 2) 0 0 (rA k (nI (cnt (k_n k) (bth k p q))) (nI (cnt (k_n k) (bthA k p q))) (ov2 k p q) (un2 k p q)) 15 [some (.ref 3), some (.ref 1), some (.int (nI p)), some (.int (nI q)), some (.int (nI r + 1)), j1, j2, j3] [] (xC k (z_sag z f g (nI (cnt r (bth k p q))) (nI (cnt r (bthA k p q))))) := fun h j1 j2 j3 => by
        have h2 := ih f g j1 j2 j3 (fun a ha => by rw [cnt_f (fun q => h q.1)]; exact hf a ha) (fun a ha => by rw [cnt_f (fun q => h q.1)]; exact hg a ha)
        rw [cnt_f h, cnt_f (P := bthA k p q) (fun q => h q.1)] at h2
        exact h2
      refine br_b (fun c => no (fun h => c h.1) _ _ _) (fun c => ⟨_, c_isLabel l (d + 1) _ _, ?_⟩)
      rintro _ _ ⟨rfl, rfl⟩
      refine br_b (fun c2 => no (fun h => c2 h.2) _ _ _) (fun c2 => ?_)
      have hb : bth k p q r := ⟨c, c2⟩
      obtain ⟨x, hx, ex⟩ := c
      obtain ⟨y, hy, ey⟩ := c2
      have ih2 := fun j1 j2 j3 => ih (upd f x (f x + 1)) (upd g y (g y + 1)) j1 j2 j3 (cnt_u hf ⟨hb, ex⟩ (fun a ha e h => e ((nI_eq (by omega) (by omega)).mp (h.2.symm.trans ex)))) (cnt_u hg ⟨hb, ey⟩ (fun a ha e h => e ((nI_eq (by omega) (by omega)).mp (h.2.symm.trans ey))))
      rw [cnt_t hb, nI_succ] at ih2
      refine ⟨x, ex, hx, ⟨x, ex, hx, ⟨y, ey, hy, ⟨y, ey, hy, ⟨fun c3 => ?_, fun c3 => ?_⟩⟩⟩⟩⟩
      · rw [cnt_t (show bthA k p q r from ⟨hb, c3⟩), nI_succ] at ih2
        exact ih2 _ _ _
      · rw [cnt_f (P := bthA k p q) (fun h => c3 h.2), ← Int32.add_zero (nI (cnt r (bthA k p q)))] at ih2
        exact ih2 _ _ _
  exact key 0 (Nat.zero_le _) (flF (z_og z) 0 5) (flF (z_tg z) 0 5) none none none (fun a ha => by simp [flF, ha, cnt, nI_0]) (fun a ha => by simp [flF, ha, cnt, nI_0])
