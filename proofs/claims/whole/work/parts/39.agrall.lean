/-! agreement of all -/
noncomputable def sumN : Nat → (Nat → Nat) → Nat
  | 0, _ => 0
  | n + 1, f => sumN n f + f n
theorem sumN_c {f g : Nat → Nat} : ∀ n, (∀ i, i < n → f i = g i) → sumN n f = sumN n g
  | 0, _ => rfl
  | n + 1, h => by
    unfold sumN
    rw [sumN_c n (fun i hi => h i (by omega)), h n (by omega)]
theorem sumN_le {f : Nat → Nat} {b : Nat} : ∀ n, (∀ i, i < n → f i ≤ b) → sumN n f ≤ n * b
  | 0, _ => by simp [sumN]
  | n + 1, h => by
    have ih := sumN_le n (fun i hi => h i (by omega))
    have := h n (by omega)
    unfold sumN
    rw [Nat.succ_mul]
    omega
/-- how many gave a row a label -/
noncomputable def lbN (k : cK) (r a : Nat) : Nat := cnt 8 (fun p => k_gv k p r = nI a)
abbrev z_sog (z : cZ) (f : vF) : cZ := z_sag z f (z_tg z) (z_rc z) (z_sc z)
theorem c_countLabels (l : Launch) (d : Nat) (k : cK) (z : cZ) {r : Nat} (hr : r < 40) : SMet l m_X0_countLabels (d + 1) [.ref 3, .ref 1, .int (nI r)] (xC k z) (fun v C => v = none ∧ ∃ f, C = xC k (z_sog z f) ∧ ∀ a, a < 5 → f a = z_og z a + nI (lbN k r a)) := by
  refine SMet_of 2 (by decide) (Nat.le_of_ble_eq_true rfl) (t_X0_countLabels_0 _ _ _ ?_)
  have key : ∀ p, p ≤ 8 → ∀ (f : vF) (j : Option Value), (∀ a, a < 5 → f a = z_og z a + nI (cnt p (fun p => k_gv k p r = nI a))) → SW l m_X0_countLabels none (fun _ _ _ _ => False) (d + 1) 0 0 (fun v C => v = none ∧ ∃ f, C = xC k (z_sog z f) ∧ ∀ a, a < 5 → f a = z_og z a + nI (lbN k r a)) 2 [some (.ref 3), some (.ref 1), some (.int (nI r)), some (.int (nI p)), j] [] (xC k (z_sog z f)) := by
    refine aw_up 8 _ ?_ ?_
    · intro f j hf
      exact t_X0_countLabels_2 _ _ _ (br_t (nI_le (Nat.le_refl _) (by decide)) ⟨rfl, f, rfl, hf⟩)
    · intro p hp ih f j hf
      simp only [nI_succ] at ih
      refine t_X0_countLabels_2 _ _ _ (br_f (nI_ge (b := 8) hp (by decide)) ⟨_, c_given l d k _ hp hr, ?_⟩)
      rintro _ _ ⟨rfl, rfl⟩
      refine ⟨_, c_isLabel l d _ _, ?_⟩
      rintro _ _ ⟨rfl, rfl⟩
      refine br_b (fun c => ih f _ (fun a ha => ?_)) (fun c => ?_)
      · rw [cnt_f (P := fun p => k_gv k p r = nI a) (fun h => c ⟨a, ha, h⟩)]
        exact hf a ha
      · obtain ⟨g, hg, eg⟩ := c
        refine ⟨g, eg, hg, ⟨g, eg, hg, ih (upd f g (f g + 1)) _ (fun a ha => ?_)⟩⟩
        by_cases e : a = g
        · subst e
          rw [pk_us, cnt_t (P := fun p => k_gv k p r = nI a) eg, nI_succ, hf a ha, Int32.add_assoc]
        · rw [pk_un e, cnt_f (P := fun p => k_gv k p r = nI a) (fun h => e ((nI_eq (by omega) (by omega)).mp (h.symm.trans eg)))]
          exact hf a ha
  exact key 0 (Nat.zero_le _) (z_og z) none (fun a ha => by
    show z_og z a = z_og z a + nI 0
    rw [nI_0, Int32.add_zero])
/-- pairs of labellings of a row that are alike -/
def lkP (k : cK) (r p : Nat) : Nat → Prop := fun q => k_gv k p r ≠ -1 ∧ k_gv k p r = k_gv k q r
noncomputable def lkN (k : cK) (r n : Nat) : Nat := sumN n (fun p => cnt p (lkP k r p))
theorem c_likePairs (l : Launch) (d : Nat) (k : cK) (z : cZ) {r : Nat} (hr : r < 40) : SMet l m_X0_likePairs (d + 1) [.ref 1, .int (nI r)] (xC k z) (rI k z (nI (lkN k r 8))) := by
  refine SMet_of 4 (by decide) (Nat.le_of_ble_eq_true rfl) (t_X0_likePairs_0 _ _ _ ?_)
  refine aw_up 8 (fun p => ∀ j1 j2, SW l m_X0_likePairs none _ (d + 1) 0 0 _ 4 [some (.ref 1), some (.int (nI r)), some (.int (nI (lkN k r p))), some (.int (nI p)), j1, j2] [] (xC k z)) ?_ ?_ 0 (Nat.zero_le _) none none
  · intro j1 j2
    exact t_X0_likePairs_4 _ _ _ (br_t (nI_le (Nat.le_refl _) (by decide)) ⟨rfl, rfl⟩)
  · intro p hp ih j1 j2
    simp only [nI_succ] at ih
    refine t_X0_likePairs_4 _ _ _ (br_f (nI_ge (b := 8) hp (by decide)) ⟨_, c_given l d k z hp hr, ?_⟩)
    rintro _ _ ⟨rfl, rfl⟩
    have inner := aw_up p (fun q => SW l m_X0_likePairs none (fun _ _ _ _ => False) (d + 1) 0 0 (rI k z (nI (lkN k r 8))) 21 [some (.ref 1), some (.int (nI r)), some (.int (nI (lkN k r p + cnt q (lkP k r p)))), some (.int (nI p)), some (.int (k_gv k p r)), some (.int (nI q))] [] (xC k z)) ?_ ?_ 0 (Nat.zero_le _)
    · exact inner
    · exact t_X0_likePairs_21 _ _ _ (br_t (nI_le (Nat.le_refl _) (by omega)) (ih _ _))
    · intro q hq ih2
      simp only [nI_succ] at ih2
      refine t_X0_likePairs_21 _ _ _ (br_f (nI_ge hq (by omega)) ⟨fun c => ?_, fun c => ⟨_, c_given l d k z (by omega) hr, ?_⟩⟩)
      · rw [cnt_f (fun h => h.1 c)] at ih2
        exact ih2
      · rintro _ _ ⟨rfl, rfl⟩
        refine ⟨fun c2 => ?_, fun c2 => ?_⟩
        · rw [cnt_t (show lkP k r p q from ⟨c, c2⟩), ← Nat.add_assoc, nI_succ] at ih2
          exact ih2
        · rw [cnt_f (fun h => c2 h.2)] at ih2
          exact ih2
def two (k : cK) : Nat → Prop := fun r => 2 ≤ goN k r
noncomputable def scN (k : cK) (n : Nat) : Nat := sumN n (fun r => cE (two k r) (goN k r) 0)
noncomputable def ogN (k : cK) (n a : Nat) : Nat := sumN n (fun r => cE (two k r) (lbN k r a) 0)
noncomputable def shN (k : cK) (n : Nat) : Nat := sumN n (fun r => cE (two k r) (840 * lkN k r 8 / (goN k r * (goN k r - 1) / 2)) 0)
theorem goN_le (k : cK) (r : Nat) : goN k r ≤ 8 := cnt_le _ 8
theorem lkN_le (k : cK) (r : Nat) : lkN k r 8 ≤ 64 := by
  have := sumN_le (f := fun p => cnt p (lkP k r p)) (b := 8) 8 (fun i hi => by have := cnt_le (lkP k r i) i; omega)
  exact this
noncomputable def sqA (k : cK) : Int64 := (nI (scN k (k_n k))).toInt64 * (nI (scN k (k_n k))).toInt64
noncomputable def sA (k : cK) : Int64 := spL (fun a => nI (ogN k (k_n k) a)) (fun a => nI (ogN k (k_n k) a)) 5
noncomputable def scA (k : cK) : Int64 := 840 * (nI (cnt (k_n k) (two k))).toInt64
noncomputable def ovA (k : cK) : Int64 := lN (shN k (k_n k)) * sqA k - sA k * scA k
noncomputable def unA (k : cK) : Int64 := scA k * (sqA k - sA k)
theorem c_measureAll (l : Launch) (d : Nat) (k : cK) (z : cZ) (w : WF k) : SMet l m_X0_measureAll (d + 2) [.ref 3, .ref 1] (xC k z) (rA k (nI (cnt (k_n k) (two k))) (nI (scN k (k_n k))) (ovA k) (unA k)) := by
  have hn := w.n
  refine SMet_of 8 (by decide) (Nat.le_of_ble_eq_true rfl) (t_X0_measureAll_0 _ _ _ ?_)
  refine ⟨_, c_startCounts l d k z, ?_⟩
  rintro _ _ ⟨rfl, rfl⟩
  have key : ∀ r, r ≤ k_n k → ∀ (f : vF) (j1 j2 j3 j4 j5 : Option Value), (∀ a, a < 5 → f a = nI (ogN k r a)) → SW l m_X0_measureAll none (fun _ _ _ _ => False) (d + 2) 0 0 (rA k (nI (cnt (k_n k) (two k))) (nI (scN k (k_n k))) (ovA k) (unA k)) 9 [some (.ref 3), some (.ref 1), some (.long (lN (shN k r))), none, some (.int (nI r)), j1, j2, j3, j4, j5] [] (xC k (z_sag z f (z_tg z) (nI (cnt r (two k))) (nI (scN k r)))) := by
    refine aw_up (k_n k) _ ?_ ?_
    · intro f j1 j2 j3 j4 j5 hf
      refine t_X0_measureAll_9 _ _ _ ⟨_, c_size l (d + 1) k _, ?_⟩
      rintro _ _ ⟨rfl, rfl⟩
      refine br_t (nI_le (Nat.le_refl _) (by omega)) ⟨_, c_sumOfProducts l (d + 1) _ (f := f) (g := f) rfl rfl, ?_⟩
      rintro _ _ ⟨rfl, rfl⟩
      have e : spL f f 5 = sA k := spL_c 5 hf hf
      rw [e]
      refine ⟨_, c_setFraction l d k _ (ovA k) (unA k), ?_⟩
      rintro _ _ ⟨rfl, rfl⟩
      exact ⟨rfl, _, rfl, rfl, rfl, rfl, rfl⟩
    · intro r hr ih f j1 j2 j3 j4 j5 hf
      simp only [nI_succ] at ih
      refine t_X0_measureAll_9 _ _ _ ⟨_, c_size l (d + 1) k _, ?_⟩
      rintro _ _ ⟨rfl, rfl⟩
      refine br_f (nI_ge hr (by omega)) ⟨_, c_givenOn l (d + 1) k _ (by omega), ?_⟩
      rintro _ _ ⟨rfl, rfl⟩
      have hg := goN_le k r
      have hl := lkN_le k r
      by_cases h2 : two k r
      · have h2' : 2 ≤ goN k r := h2
        refine br_t (nI_le (a := 2) h2' (by omega)) ⟨by decide, ?_⟩
        refine ⟨_, c_likePairs l d k (z_sag z f (z_tg z) (nI (cnt r (two k)) + 1) (nI (scN k r) + nI (goN k r))) (r := r) (by omega), ?_⟩
        rintro _ _ ⟨rfl, rfl⟩
        have hpr : 1 ≤ goN k r * (goN k r - 1) / 2 := by
          have : 2 * 1 ≤ goN k r * (goN k r - 1) := Nat.mul_le_mul h2' (by omega)
          omega
        have hpr2 : goN k r * (goN k r - 1) ≤ 8 * 8 := Nat.mul_le_mul hg (by omega)
        have ep : (nI (goN k r) * (nI (goN k r) - 1) / 2).toInt64 = lN (goN k r * (goN k r - 1) / 2) := by
          rw [show (1 : Int32) = nI 1 from rfl, show (2 : Int32) = nI 2 from rfl, pk_sub (by omega), pk_mul, pk_div (by omega) (by decide) (by decide), nI_l (by omega)]
        have el : (840 : Int64) * (nI (lkN k r 8)).toInt64 = lN (840 * lkN k r 8) := by
          rw [nI_l (by omega), show (840 : Int64) = lN 840 from rfl, lN_mul]
        refine ⟨?_, ⟨_, c_countLabels l d k _ (by omega), ?_⟩⟩
        · show ¬ (nI (goN k r) * (nI (goN k r) - 1) / 2).toInt64 = 0
          rw [ep]
          intro h
          have := (pk_lEQ (a := goN k r * (goN k r - 1) / 2) (b := 0) (by omega) (by omega)).mp h
          omega
        · rintro _ _ ⟨rfl, f2, rfl, hf2⟩
          have e1 : lN (shN k r) + (840 : Int64) * (nI (lkN k r 8)).toInt64 / (nI (goN k r) * (nI (goN k r) - 1) / 2).toInt64 = lN (shN k (r + 1)) := by
            rw [ep, el, pk_lDiv (by omega) (by omega) (by omega), lN_add]
            show _ = lN (shN k r + cE (two k r) _ 0)
            rw [cE_t h2]
          have e2 : nI (scN k r) + nI (goN k r) = nI (scN k (r + 1)) := by
            rw [nI_add]
            show _ = nI (scN k r + cE (two k r) _ 0)
            rw [cE_t h2]
          have ih2 := ih f2 (some (.int (nI (goN k r)))) (some (.long (nI (goN k r) * (nI (goN k r) - 1) / 2).toInt64)) none j4 j5 (fun a ha => by
            rw [hf2 a ha]
            show f a + _ = nI (ogN k r a + cE (two k r) _ 0)
            rw [cE_t h2, hf a ha, nI_add])
          rw [cnt_t h2, nI_succ, ← e1, ← e2] at ih2
          exact ih2
      · have h2' : ¬ 2 ≤ goN k r := h2
        refine br_f (nI_ge (b := 2) (by omega) (by decide)) ?_
        have ih2 := ih f (some (.int (nI (goN k r)))) j2 j3 j4 j5 (fun a ha => by
            rw [hf a ha]
            show _ = nI (ogN k r a + cE (two k r) _ 0)
            rw [cE_f h2]
            rfl)
        have e1 : shN k (r + 1) = shN k r := by
          show shN k r + cE (two k r) _ 0 = _
          rw [cE_f h2]
          rfl
        have e2 : scN k (r + 1) = scN k r := by
          show scN k r + cE (two k r) _ 0 = _
          rw [cE_f h2]
          rfl
        rw [cnt_f h2, e1, e2] at ih2
        exact ih2
  exact key 0 (Nat.zero_le _) (flF (z_og z) 0 5) none none none none none (fun a ha => by
    show flF (z_og z) 0 5 a = nI 0
    unfold flF
    rw [if_pos ha]
    rfl)
