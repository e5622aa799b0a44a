/-! the start: well formed, related; the class's world in the order in which it is spoken of -/
theorem flF_in {f : vF} {x : Int32} {n i : Nat} (h : i < n) : flF f x n i = x := if_pos h
theorem WF_0 : WF k0 := by
  refine ⟨Nat.zero_le _, Nat.zero_le _, fun q hq => absurd hq (Nat.not_lt_zero _), fun _ _ => Or.inl rfl, fun _ _ => Or.inl rfl, fun p hp => ⟨10, Nat.le_refl _, ?_⟩, fun p r hp hr => Or.inl ?_, fun r hr => Or.inl ?_, fun p hp => rfl, fun p r hp _ hr => ?_, fun r _ hr => ?_⟩
  · exact flF_in hp
  · exact flF_in hr
  · exact flF_in hr
  · exact flF_in hr
  · exact flF_in hr
theorem Rl_0 : Rl k0 a0 := by
  refine ⟨fun r i hr _ => absurd hr (Nat.not_lt_zero _), fun r p hr hp => ?_, fun r hr => absurd hr (Nat.not_lt_zero _), fun _ _ => rfl, fun p hp => ?_, fun q hq => absurd hq (Nat.not_lt_zero _), fun _ _ => rfl⟩
  · show (0 : Int32) = flF f0 (-1) 40 r + 1
    rw [flF_in hr]
    decide
  · have e : k_tr k0 p = 10 := flF_in hp
    rw [e]
    rcases (show p = 0 ∨ p = 1 ∨ p = 2 ∨ p = 3 ∨ p = 4 ∨ p = 5 ∨ p = 6 ∨ p = 7 by omega) with rfl | rfl | rfl | rfl | rfl | rfl | rfl | rfl <;> rfl
theorem arrV_ext {c : ClassId} {n : Nat} {f g : Nat → Value} (h : ∀ i, i < n → f i = g i) : arrV c n f = arrV c n g := by
  unfold arrV
  congr 2
  funext j
  exact h j.val j.isLt
theorem wAll_perm {D : va_G} {cA : Nat → ClassId} {ad : Nat → Nat} {H : Heap} (h : va_P D aw_cl (aw_cn ad cA 0 wAll) H) : va_P D aw_cl (aw_cn (fun k => ad (pm k)) cA 0 (LW k0 z0 a0 y0 (fun _ => 0))) H := by
  intro k q hq
  have hk : k < 48 := by
    have h1 := (List.getElem?_eq_some_iff.mp hq).1
    rw [cn_len] at h1
    exact h1
  rw [aw_cn_get] at hq
  rcases (show k = 0 ∨ k = 1 ∨ k = 2 ∨ k = 3 ∨ k = 4 ∨ k = 5 ∨ k = 6 ∨ k = 7 ∨ k = 8 ∨ k = 9 ∨ k = 10 ∨ k = 11 ∨ k = 12 ∨ k = 13 ∨ k = 14 ∨ k = 15 ∨ k = 16 ∨ k = 17 ∨ k = 18 ∨ k = 19 ∨ k = 20 ∨ k = 21 ∨ k = 22 ∨ k = 23 ∨ k = 24 ∨ k = 25 ∨ k = 26 ∨ k = 27 ∨ k = 28 ∨ k = 29 ∨ k = 30 ∨ k = 31 ∨ k = 32 ∨ k = 33 ∨ k = 34 ∨ k = 35 ∨ k = 36 ∨ k = 37 ∨ k = 38 ∨ k = 39 ∨ k = 40 ∨ k = 41 ∨ k = 42 ∨ k = 43 ∨ k = 44 ∨ k = 45 ∨ k = 46 ∨ k = 47 by omega) with rfl | rfl | rfl | rfl | rfl | rfl | rfl | rfl | rfl | rfl | rfl | rfl | rfl | rfl | rfl | rfl | rfl | rfl | rfl | rfl | rfl | rfl | rfl | rfl | rfl | rfl | rfl | rfl | rfl | rfl | rfl | rfl | rfl | rfl | rfl | rfl | rfl | rfl | rfl | rfl | rfl | rfl | rfl | rfl | rfl | rfl | rfl | rfl
  · rw [← Option.some.inj hq]
    exact h 0 _ (aw_at (C := wAll) (i := 0) rfl)
  · rw [← Option.some.inj hq]
    exact h 1 _ (aw_at (C := wAll) (i := 1) rfl)
  · rw [← Option.some.inj hq]
    exact h 18 _ (aw_at (C := wAll) (i := 18) rfl)
  · rw [← Option.some.inj hq]
    exact h 25 _ (aw_at (C := wAll) (i := 25) rfl)
  · rw [← Option.some.inj hq]
    exact h 28 _ (aw_at (C := wAll) (i := 28) rfl)
  · rw [← Option.some.inj hq]
    exact h 29 _ (aw_at (C := wAll) (i := 29) rfl)
  · rw [← Option.some.inj hq]
    exact h 30 _ (aw_at (C := wAll) (i := 30) rfl)
  · rw [← Option.some.inj hq]
    exact h 31 _ (aw_at (C := wAll) (i := 31) rfl)
  · rw [← Option.some.inj hq]
    exact h 32 _ (aw_at (C := wAll) (i := 32) rfl)
  · rw [← Option.some.inj hq]
    have h9 : H[ad 2]? = some (vp_cell (cA 3) (4, .inr (.inr (.inr (.inr (fun i => (if i < 4 then some (2 + 1 + i) else none : Option Nat).map ad)))))) := h 2 _ (aw_at (C := wAll) (i := 2) rfl)
    show H[ad 2]? = some (vp_cell (cA 3) (4, .inr (.inr (.inr (.inr (fun i => (some (11 + i) : Option Nat).map (fun k => ad (pm k))))))))
    rw [h9, vp_cell_q, vp_cell_q]
    refine congrArg some (arrV_ext fun i hi => ?_)
    rw [if_pos hi]
    rcases (show i = 0 ∨ i = 1 ∨ i = 2 ∨ i = 3 by omega) with rfl | rfl | rfl | rfl <;> rfl
  · rw [← Option.some.inj hq]
    have h9 : H[ad 7]? = some (vp_cell (cA 3) (8, .inr (.inr (.inr (.inr (fun i => (if i < 8 then some (7 + 1 + i) else none : Option Nat).map ad)))))) := h 7 _ (aw_at (C := wAll) (i := 7) rfl)
    show H[ad 7]? = some (vp_cell (cA 3) (8, .inr (.inr (.inr (.inr (fun i => (some (15 + i) : Option Nat).map (fun k => ad (pm k))))))))
    rw [h9, vp_cell_q, vp_cell_q]
    refine congrArg some (arrV_ext fun i hi => ?_)
    rw [if_pos hi]
    rcases (show i = 0 ∨ i = 1 ∨ i = 2 ∨ i = 3 ∨ i = 4 ∨ i = 5 ∨ i = 6 ∨ i = 7 by omega) with rfl | rfl | rfl | rfl | rfl | rfl | rfl | rfl <;> rfl
  · rw [← Option.some.inj hq]
    exact h 3 _ (aw_at (C := wAll) (i := 3) rfl)
  · rw [← Option.some.inj hq]
    exact h 4 _ (aw_at (C := wAll) (i := 4) rfl)
  · rw [← Option.some.inj hq]
    exact h 5 _ (aw_at (C := wAll) (i := 5) rfl)
  · rw [← Option.some.inj hq]
    exact h 6 _ (aw_at (C := wAll) (i := 6) rfl)
  · rw [← Option.some.inj hq]
    exact h 8 _ (aw_at (C := wAll) (i := 8) rfl)
  · rw [← Option.some.inj hq]
    exact h 9 _ (aw_at (C := wAll) (i := 9) rfl)
  · rw [← Option.some.inj hq]
    exact h 10 _ (aw_at (C := wAll) (i := 10) rfl)
  · rw [← Option.some.inj hq]
    exact h 11 _ (aw_at (C := wAll) (i := 11) rfl)
  · rw [← Option.some.inj hq]
    exact h 12 _ (aw_at (C := wAll) (i := 12) rfl)
  · rw [← Option.some.inj hq]
    exact h 13 _ (aw_at (C := wAll) (i := 13) rfl)
  · rw [← Option.some.inj hq]
    exact h 14 _ (aw_at (C := wAll) (i := 14) rfl)
  · rw [← Option.some.inj hq]
    exact h 15 _ (aw_at (C := wAll) (i := 15) rfl)
  · rw [← Option.some.inj hq]
    exact h 16 _ (aw_at (C := wAll) (i := 16) rfl)
  · rw [← Option.some.inj hq]
    exact h 17 _ (aw_at (C := wAll) (i := 17) rfl)
  · rw [← Option.some.inj hq]
    exact h 19 _ (aw_at (C := wAll) (i := 19) rfl)
  · rw [← Option.some.inj hq]
    exact h 20 _ (aw_at (C := wAll) (i := 20) rfl)
  · rw [← Option.some.inj hq]
    exact h 21 _ (aw_at (C := wAll) (i := 21) rfl)
  · rw [← Option.some.inj hq]
    exact h 22 _ (aw_at (C := wAll) (i := 22) rfl)
  · rw [← Option.some.inj hq]
    exact h 23 _ (aw_at (C := wAll) (i := 23) rfl)
  · rw [← Option.some.inj hq]
    exact h 24 _ (aw_at (C := wAll) (i := 24) rfl)
  · rw [← Option.some.inj hq]
    exact h 26 _ (aw_at (C := wAll) (i := 26) rfl)
  · rw [← Option.some.inj hq]
    exact h 27 _ (aw_at (C := wAll) (i := 27) rfl)
  · rw [← Option.some.inj hq]
    exact h 33 _ (aw_at (C := wAll) (i := 33) rfl)
  · rw [← Option.some.inj hq]
    exact h 34 _ (aw_at (C := wAll) (i := 34) rfl)
  · rw [← Option.some.inj hq]
    exact h 35 _ (aw_at (C := wAll) (i := 35) rfl)
  · rw [← Option.some.inj hq]
    exact h 36 _ (aw_at (C := wAll) (i := 36) rfl)
  · rw [← Option.some.inj hq]
    exact h 37 _ (aw_at (C := wAll) (i := 37) rfl)
  · rw [← Option.some.inj hq]
    exact h 38 _ (aw_at (C := wAll) (i := 38) rfl)
  · rw [← Option.some.inj hq]
    exact h 39 _ (aw_at (C := wAll) (i := 39) rfl)
  · rw [← Option.some.inj hq]
    exact h 40 _ (aw_at (C := wAll) (i := 40) rfl)
  · rw [← Option.some.inj hq]
    exact h 41 _ (aw_at (C := wAll) (i := 41) rfl)
  · rw [← Option.some.inj hq]
    exact h 42 _ (aw_at (C := wAll) (i := 42) rfl)
  · rw [← Option.some.inj hq]
    exact h 43 _ (aw_at (C := wAll) (i := 43) rfl)
  · rw [← Option.some.inj hq]
    exact h 44 _ (aw_at (C := wAll) (i := 44) rfl)
  · rw [← Option.some.inj hq]
    exact h 45 _ (aw_at (C := wAll) (i := 45) rfl)
  · rw [← Option.some.inj hq]
    exact h 46 _ (aw_at (C := wAll) (i := 46) rfl)
  · rw [← Option.some.inj hq]
    exact h 47 _ (aw_at (C := wAll) (i := 47) rfl)
