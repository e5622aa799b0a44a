/-! the reference: fractions, agreement -/
/-- Euclid's way ends -/
theorem gc_go (P : Int64 → Int64 → Prop) (h0 : ∀ x, x < 2 ^ 63 → P (lN x) 0) (hs : ∀ x y : Nat, x < 2 ^ 63 → y < 2 ^ 63 → 0 < y → P (lN y) (lN (x % y)) → P (lN x) (lN y)) : ∀ y x : Nat, x < 2 ^ 63 → y < 2 ^ 63 → P (lN x) (lN y) := by
  intro y
  induction y using Nat.strongRecOn with
  | ind y ih =>
    intro x hx hy
    by_cases e : y = 0
    · subst e
      exact h0 x hx
    · exact hs x y hx hy (by omega) (ih (x % y) (Nat.mod_lt _ (by omega)) y hy (Nat.lt_of_lt_of_le (Nat.mod_lt _ (by omega)) (by omega)))
theorem lN_ne {y : Nat} (h0 : 0 < y) (h : y < 2 ^ 63) : ¬ lN y = 0 := fun e => by
  have := (pk_lEQ (a := y) (b := 0) h (by omega)).mp e
  omega
/-- so many steps are enough -/
theorem gc_fuel : ∀ (m x y : Nat), x < 2 ^ 63 → y < 2 ^ m → y < 2 ^ 63 → ∀ t, gcL (2 * m + 1 + t) (lN x) (lN y) = lN (Nat.gcd x y)
  | 0, x, y, hx, hy, hy2, t => by
    have : y = 0 := by simpa using hy
    subst this
    rw [show 2 * 0 + 1 + t = t + 1 by omega]
    unfold gcL
    rw [cE_t (show lN 0 = 0 from rfl), Nat.gcd_zero_right]
  | m + 1, x, y, hx, hy, hy2, t => by
    rw [show 2 * (m + 1) + 1 + t = (2 * m + 1 + t) + 1 + 1 by omega]
    by_cases e : y = 0
    · subst e
      unfold gcL
      rw [cE_t (show lN 0 = 0 from rfl), Nat.gcd_zero_right]
    · have hy0 : 0 < y := by omega
      have h1 : x % y < y := Nat.mod_lt _ hy0
      rw [show gcL (2 * m + 1 + t + 1 + 1) (lN x) (lN y) = cE (lN y = 0) (lN x) (gcL (2 * m + 1 + t + 1) (lN y) (lN x - lN x / lN y * lN y)) from rfl, cE_f (lN_ne hy0 hy2), pk_lRem hx hy0 hy2]
      by_cases e2 : x % y = 0
      · rw [e2, show gcL (2 * m + 1 + t + 1) (lN y) (lN 0) = cE (lN 0 = 0) (lN y) (gcL (2 * m + 1 + t) (lN 0) (lN y - lN y / lN 0 * lN 0)) from rfl, cE_t (show lN 0 = 0 from rfl)]
        rw [Nat.gcd_comm, Nat.gcd_rec, e2, Nat.gcd_zero_left]
      · have h2 : 0 < x % y := by omega
        rw [show gcL (2 * m + 1 + t + 1) (lN y) (lN (x % y)) = cE (lN (x % y) = 0) (lN y) (gcL (2 * m + 1 + t) (lN (x % y)) (lN y - lN y / lN (x % y) * lN (x % y))) from rfl, cE_f (lN_ne h2 (by omega)), pk_lRem hy2 h2 (by omega)]
        have h3 : y % (x % y) < 2 ^ m := by
          have a1 : y % (x % y) < x % y := Nat.mod_lt _ h2
          have a2 := Nat.div_add_mod y (x % y)
          have a3 : 1 ≤ y / (x % y) := Nat.div_pos (by omega) h2
          have a4 : (x % y) * 1 ≤ (x % y) * (y / (x % y)) := Nat.mul_le_mul_left _ a3
          have a5 : 2 ^ (m + 1) = 2 * 2 ^ m := by rw [Nat.pow_succ]; omega
          omega
        rw [gc_fuel m (x % y) (y % (x % y)) (by omega) h3 (Nat.lt_trans (Nat.mod_lt _ h2) (by omega)) t]
        congr 1
        rw [Nat.gcd_comm x y, Nat.gcd_rec y x, Nat.gcd_comm (x % y) y, Nat.gcd_comm (x % y) (y % (x % y)), ← Nat.gcd_rec (x % y) y, Nat.gcd_comm (x % y) y]
theorem gcL_eq {x y : Nat} (hx : x < 2 ^ 63) (hy : y < 2 ^ 63) : gcL 200 (lN x) (lN y) = lN (Nat.gcd x y) := gc_fuel 63 x y hx hy hy 73
abbrev qL (k : cK) (a : mA) (y : mZ) (x : Int64) : Option Value → aw_H → Prop := fun v C => v = some (.long x) ∧ C = yC (nK k) a y
abbrev y_sth (y : mZ) (t : Int32) : mZ := (t, y.2)
/-- a fraction: above, and a denominator that is not below 0 -/
theorem c4_cut (l : Launch) (d : Nat) (k : cK) (a : mA) (y : mZ) (o : Int64) (u : Nat) (x : Int32) (ho : ∃ A : Nat, A < 2 ^ 63 ∧ abL o = lN A) (hu : u < 2 ^ 63) : SMet l m_X4_cut d [.ref 0, .long o, .long (lN u), .int x] (yC (nK k) a y) (fun v C => (u = 0 ∧ v = some (.long 0) ∧ C = yC (nK k) a (y_sth y 2)) ∨ (0 < u ∧ v = some (.long (cE (x = 0) (o / dvL o (lN u)) (lN u / dvL o (lN u)))) ∧ C = yC (nK k) a y)) := by
  obtain ⟨A, hA, eA⟩ := ho
  refine SMet_of 6 (by decide) (Nat.le_of_ble_eq_true rfl) (t_X4_cut_0 _ _ _ ?_)
  refine br_l (fun c => ?_) (fun c => ?_)
  · have h := (pk_lEQ (a := u) (b := 0) hu (by omega)).mp c
    exact Or.inl ⟨h, rfl, rfl⟩
  have hu0 : 0 < u := Nat.pos_of_ne_zero (fun e => c (by rw [e]; rfl))
  have hpos : (0 : Int64) ≤ lN u := (pk_lLE (a := 0) (b := u) (by omega) hu).mpr (by omega)
  have hg : gcL 200 (abL o) (lN u) = lN (Nat.gcd A u) := by rw [eA]; exact gcL_eq hA hu
  have hgp : 0 < Nat.gcd A u := Nat.gcd_pos_of_pos_right _ hu0
  have hgl : Nat.gcd A u < 2 ^ 63 := Nat.lt_of_le_of_lt (Nat.gcd_le_right _ hu0) hu
  have hdv : dvL o (lN u) = lN (Nat.gcd A u) := by
    unfold dvL
    rw [hg, cE_f (lN_ne hgp hgl)]
  have fin : ∀ j : Option Value, SW l m_X4_cut none (fun _ _ _ _ => False) d 0 0 (fun v C => (u = 0 ∧ v = some (.long 0) ∧ C = yC (nK k) a (y_sth y 2)) ∨ (0 < u ∧ v = some (.long (cE (x = 0) (o / dvL o (lN u)) (lN u / dvL o (lN u)))) ∧ C = yC (nK k) a y)) 41 [some (.ref 0), some (.long o), none, some (.long (lN u)), none, some (.int x), some (.long (lN A)), none, some (.long (lN u)), none, j, none] [] (yC (nK k) a y) := by
    have key := gc_go (fun p q => (∃ P R : Nat, P < 2 ^ 63 ∧ R < 2 ^ 63 ∧ p = lN P ∧ q = lN R ∧ Nat.gcd P R = Nat.gcd A u) → ∀ j : Option Value, SW l m_X4_cut none (fun _ _ _ _ => False) d 0 0 (fun v C => (u = 0 ∧ v = some (.long 0) ∧ C = yC (nK k) a (y_sth y 2)) ∨ (0 < u ∧ v = some (.long (cE (x = 0) (o / dvL o (lN u)) (lN u / dvL o (lN u)))) ∧ C = yC (nK k) a y)) 41 [some (.ref 0), some (.long o), none, some (.long (lN u)), none, some (.int x), some (.long p), none, some (.long q), none, j, none] [] (yC (nK k) a y)) ?_ ?_
    · exact fun j => key u A hA hu ⟨A, u, hA, hu, rfl, rfl, rfl⟩ j
    · intro p hp ⟨P, R, h1, h2, h3, h4, h5⟩ j
      have hR : R = 0 := (pk_lEQ (a := R) (b := 0) h2 (by omega)).mp h4.symm
      subst hR
      rw [Nat.gcd_zero_right] at h5
      refine t_X4_cut_41 _ _ _ (br_l (fun c => ?_) (fun c => absurd rfl c))
      refine br_g (fun _ => ?_) (fun c => absurd hpos c)
      rw [h3, h5, ← hdv]
      have hne := dvL_ne o (lN u)
      refine ⟨fun c2 => ⟨hne, Or.inr ⟨hu0, by rw [cE_t c2], rfl⟩⟩, fun c2 => ⟨hne, Or.inr ⟨hu0, by rw [cE_f c2], rfl⟩⟩⟩
    · intro p q hp hq hq0 ih ⟨P, R, h1, h2, h3, h4, h5⟩ j
      have e1 : P = p := (pk_lEQ h1 hp).mp h3.symm
      have e2 : R = q := (pk_lEQ h2 hq).mp h4.symm
      subst e1; subst e2
      refine t_X4_cut_41 _ _ _ (br_l (fun c => absurd c (lN_ne hq0 hq)) (fun c => ⟨c, ?_⟩))
      have h := ih ⟨R, P % R, h2, Nat.lt_trans (Nat.mod_lt _ hq0) h2, rfl, rfl, by rw [← h5, Nat.gcd_comm P R, Nat.gcd_rec R P, Nat.gcd_comm R]⟩ (some (.long (lN (P % R))))
      rw [← pk_lRem hp hq0 hq] at h
      exact h
  have mid : ∀ L : Int64, L = lN A → k_X4_cut_25 l (fun _ _ _ _ => False) d (fun v C => (u = 0 ∧ v = some (.long 0) ∧ C = yC (nK k) a (y_sth y 2)) ∨ (0 < u ∧ v = some (.long (cE (x = 0) (o / dvL o (lN u)) (lN u / dvL o (lN u)))) ∧ C = yC (nK k) a y)) (aw_en [.ref 0, .long o, .long (lN u), .int x] ++ List.replicate 6 none) [.long L] (yC (nK k) a y) := by
    intro L hL
    subst hL
    exact br_g (fun _ => fin none) (fun c => absurd hpos c)
  refine br_g (fun c2 => ?_) (fun c2 => ?_)
  · exact mid o (by rw [← eA]; exact (cE_t c2).symm)
  · exact mid (-o) (by rw [← eA]; exact (cE_f c2).symm)
