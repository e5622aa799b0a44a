/-! the reference learns -/
theorem c4_learn (l : Launch) (d : Nat) (k : cK) (a : mA) (y : mZ) (n : Int32) (w : WF k) (R : Rl k a) : SMet l m_X4_learn (d + 5) [.ref 0, .int n] (yC (nK k) a y) (qS (S_learn k n)) := by
  refine SMet_of 6 (by decide) (Nat.le_of_ble_eq_true rfl) (t_X4_learn_0 _ _ _ ?_)
  refine ⟨_, c4_in l (d + 4) _ _ _ _, ?_⟩
  rintro _ _ ⟨rfl, rfl⟩
  refine br_b (fun c => ?_) (fun c => ?_)
  · rw [S_learn, cE_f (fun h => c ⟨h.1, Int32.not_lt.mpr h.2⟩)]
    exact ⟨rfl, a, y, rfl, R⟩
  have c' : ¬ n < 1 := c.1
  have c2' : n ≤ 20 := Int32.not_lt.mp c.2
  rw [S_learn, cE_t ⟨c', c2'⟩]
  obtain ⟨N, hN, rfl⟩ := ix_of (n := 21) (x := n) (fun h => c' (by
    rw [Int32.lt_iff_toInt_lt] at h ⊢
    exact Int.lt_trans h (by decide))) (fun h => by
    rw [Int32.le_iff_toInt_le] at h c2'
    exact absurd (Int.le_trans h c2') (by decide)) (by decide)
  have hN1 : 1 ≤ N := Nat.pos_of_ne_zero (fun e => c' (by rw [e]; decide))
  rw [tN_n (show N < 1000 by omega)]
  generalize hT : lnS (N - 1) 1 (s_tr k (flF (k_tr k) 10 8)) = T
  -- one round
  have round : ∀ (k : cK) (a : mA) (y : mZ) (r : Nat), WF k → Rl k a → r < 1000 →
      (∀ (a' : mA) (y' : mZ) (j4 j5 j6 j7 : Option Value), Rl (lrK k) a' → SW l m_X4_learn none (fun _ _ _ _ => False) (d + 5) 0 0 (qS T) 39 [some (.ref 0), some (.int (nI N)), some (.int (nI r)), some (.int (bI (chg k))), j4, j5, j6, j7] [] (yC (nK (lrK k)) a' y')) →
      ∀ (c3 : Int32) (j5 j6 j7 : Option Value), SW l m_X4_learn none (fun _ _ _ _ => False) (d + 5) 0 0 (qS T) 54 [some (.ref 0), some (.int (nI N)), some (.int (nI r)), some (.int c3), some (.int (nI 0)), j5, j6, j7] [] (yC (nK k) a y) := by
    intro k a y r w R hr cont
    have hn := w.n
    -- the copy
    have cp : ∀ p, p ≤ 8 → ∀ (f : vF) (y : mZ) (j5 j6 j7 : Option Value), (∀ q, q < 8 → y_nt y q = etV k q) → (∀ q, q < p → f q = etV k q) → SW l m_X4_learn none (fun _ _ _ _ => False) (d + 5) 0 0 (qS T) 245 [some (.ref 0), some (.int (nI N)), some (.int (nI r)), some (.int (bI (chg k))), some (.int (nI p)), j5, j6, j7] [] (yC (nK k) (b_fe a, b_sa a, b_go a, b_ex a, f, a.2.2.2.2.2) y) := by
      refine aw_up 8 _ ?_ ?_
      · intro f y j5 j6 j7 hy hf
        refine t_X4_learn_245 _ _ _ (br_t (nI_le (Nat.le_refl _) (by decide)) ?_)
        exact cont _ _ _ _ _ _ ⟨R.1, R.2.1, R.2.2.1, R.2.2.2.1, fun p hp => (hf p hp).trans (cpy_at hp).symm, R.2.2.2.2.2⟩
      · intro p hp ih f y j5 j6 j7 hy hf
        simp only [nI_succ] at ih
        refine t_X4_learn_245 _ _ _ (br_f (nI_ge (b := 8) hp (by decide)) ⟨p, rfl, hp, ⟨p, rfl, hp, ?_⟩⟩)
        rw [hy p hp]
        refine ih (upd f p (etV k p)) y j5 j6 j7 hy (fun q hq => ?_)
        by_cases e : q = p
        · rw [e, pk_us]
        · rw [pk_un e]
          exact hf q (by omega)
    -- the persons
    have pr : ∀ p, p ≤ 8 → ∀ (y : mZ) (j5 j6 j7 : Option Value), (∀ q, q < k_n k → y_de y q = decI k q) → (∀ q, q < p → y_nt y q = etV k q) → SW l m_X4_learn none (fun _ _ _ _ => False) (d + 5) 0 0 (qS T) 87 [some (.ref 0), some (.int (nI N)), some (.int (nI r)), some (.int (bI (chgN k p))), some (.int (nI p)), j5, j6, j7] [] (yC (nK k) a y) := by
      refine aw_up 8 _ ?_ ?_
      · intro y j5 j6 j7 hd hf
        refine t_X4_learn_87 _ _ _ (br_t (nI_le (Nat.le_refl _) (by decide)) ?_)
        exact cp 0 (Nat.zero_le _) (b_tr a) y j5 j6 j7 hf (fun q hq => by omega)
      · intro p hp ih y j5 j6 j7 hd hf
        simp only [nI_succ] at ih
        refine t_X4_learn_87 _ _ _ (br_f (nI_ge (b := 8) hp (by decide)) ?_)
        have inner := aw_up (k_n k) (fun s => SW l m_X4_learn none (fun _ _ _ _ => False) (d + 5) 0 0 (qS T) 103 [some (.ref 0), some (.int (nI N)), some (.int (nI r)), some (.int (bI (chgN k p))), some (.int (nI p)), some (.int (nI (cnt s (etA k (y_de y) p)))), some (.int (nI (cnt s (etH k (y_de y) p)))), some (.int (nI s))] [] (yC (nK k) a y)) ?_ ?_ 0 (Nat.zero_le _)
        · exact inner
        · have e : etI k (y_de y) p = etV k p := etI_c k p hd
          have fin : ∀ v, v = etV k p → ∀ (L5 L6 L7 : Option Value), k_X4_learn_208 l (fun _ _ _ _ => False) (d + 5) (qS T) [some (.ref 0), some (.int (nI N)), some (.int (nI r)), some (.int (bI (chgN k p))), some (.int (nI p)), L5, L6, L7] [.int v, .int (nI p), .ref 6] (yC (nK k) a y) := by
            intro v hv L5 L6 L7
            subst hv
            have hf2 : ∀ q, q < p + 1 → upd (y_nt y) p (etV k p) q = etV k q := fun q hq => by
              by_cases h : q = p
              · rw [h, pk_us]
              · rw [pk_un h, hf q (by omega)]
            have ih2 := ih (y_th y, upd (y_nt y) p (etV k p), y.2.2) L5 L6 L7 hd hf2
            refine ⟨p, rfl, hp, br_b (fun c => ⟨p, rfl, hp, ⟨p, rfl, hp, ?_⟩⟩) (fun c => ?_)⟩
            · rw [hf2 p (by omega), R.tr hp]
              refine ⟨fun c2 => ?_, fun c2 => ?_⟩
              · rw [bI_f (show ¬ chgN k (p + 1) from fun ⟨q, h1, h2⟩ => by
                  by_cases h : q = p
                  · rw [h] at h2; exact h2 c2
                  · exact c ⟨q, by omega, h2⟩)] at ih2
                exact ih2
              · rw [bI_t (show chgN k (p + 1) from ⟨p, by omega, c2⟩)] at ih2
                exact ih2
            · rw [bI_t (show chgN k (p + 1) from by
                obtain ⟨q, h1, h2⟩ := c
                exact ⟨q, by omega, h2⟩)] at ih2
              exact ih2
          refine t_X4_learn_103 _ _ _ (br_t (nI_le (Nat.le_refl _) (by omega)) ⟨fun c => ?_, fun c => ⟨c, ?_⟩⟩)
          · exact fin 1 (by rw [← e, etI, cI_t c]) _ _ _
          · exact fin _ (by rw [← e, etI, cI_f c]) _ _ _
        · intro s hs ih3
          simp only [nI_succ] at ih3
          refine t_X4_learn_103 _ _ _ (br_f (nI_ge (b := k_n k) hs (by omega)) ⟨s, rfl, by omega, ⟨fun c => ?_, fun c => ⟨8 * s + p, ix8 s p, by omega, ?_⟩⟩⟩)
          · rw [cnt_f (P := etA k (y_de y) p) (fun h => h.2 c), cnt_f (P := etH k (y_de y) p) (fun h => h.2.1 c)] at ih3
            exact ih3
          · rw [R.sa (by omega) hp]
            refine ⟨fun c2 => ?_, fun c2 => ⟨8 * s + p, ix8 s p, by omega, ?_⟩⟩
            · have c2' := (sa_le (w.gv hp (show s < 40 by omega))).mp c2
              rw [cnt_f (P := etA k (y_de y) p) (fun h => h.1 c2'), cnt_f (P := etH k (y_de y) p) (fun h => h.1 c2')] at ih3
              exact ih3
            · have c2' : k_gv k p s ≠ -1 := fun q => c2 ((sa_le (w.gv hp (show s < 40 by omega))).mpr q)
              rw [R.sa (by omega) hp]
              refine ⟨s, rfl, by omega, ⟨fun c3 => ?_, fun c3 => ?_⟩⟩
              · have c3' : k_gv k p s = y_de y s := (sub1 _).symm.trans c3
                rw [cnt_t (P := etA k (y_de y) p) ⟨c2', c⟩, cnt_t (P := etH k (y_de y) p) ⟨c2', c, c3'⟩, nI_succ, nI_succ] at ih3
                exact ih3
              · have c3' : ¬ k_gv k p s = y_de y s := fun q => c3 ((sub1 _).trans q)
                rw [cnt_t (P := etA k (y_de y) p) ⟨c2', c⟩, cnt_f (P := etH k (y_de y) p) (fun h => c3' h.2.2), nI_succ, ← Int32.add_zero (nI (cnt s (etH k (y_de y) p)))] at ih3
                exact ih3
    -- the decisions
    have dc : ∀ s, s ≤ k_n k → ∀ (y : mZ) (c3 : Int32) (j5 j6 j7 : Option Value), (∀ q, q < s → y_de y q = decI k q) → SW l m_X4_learn none (fun _ _ _ _ => False) (d + 5) 0 0 (qS T) 54 [some (.ref 0), some (.int (nI N)), some (.int (nI r)), some (.int c3), some (.int (nI s)), j5, j6, j7] [] (yC (nK k) a y) := by
      refine aw_up (k_n k) _ ?_ ?_
      · intro y c3 j5 j6 j7 hd
        refine t_X4_learn_54 _ _ _ (br_t (nI_le (Nat.le_refl _) (by omega)) ?_)
        have h := pr 0 (Nat.zero_le _) y j5 j6 j7 hd (fun q hq => by omega)
        rw [bI_f (show ¬ chgN k 0 from fun ⟨q, h1, h2⟩ => by omega)] at h
        exact h
      · intro s hs ih y c3 j5 j6 j7 hd
        simp only [nI_succ] at ih
        refine t_X4_learn_54 _ _ _ (br_f (nI_ge (b := k_n k) hs (by omega)) ⟨_, c4_decidedOf l d k a y hs w R, ?_⟩)
        rintro _ _ ⟨rfl, m, rfl⟩
        refine ⟨s, rfl, by omega, ih (y_th y, y_nt y, m.1, m.2.1, m.2.2, upd (y_de y) s (decI k s)) c3 j5 j6 j7 (fun q hq => ?_)⟩
        by_cases h : q = s
        · rw [h]
          exact pk_us
        · exact (pk_un h).trans (hd q (by omega))
    intro c3 j5 j6 j7
    exact dc 0 (Nat.zero_le _) y c3 j5 j6 j7 (fun q hq => by omega)
  -- the rounds
  have key : ∀ m r, r + m = N → 1 ≤ r → ∀ (k1 : cK) (a1 : mA) (y1 : mZ) (j4 j5 j6 j7 : Option Value), WF k1 → Rl k1 a1 → T = lnS m r k1 → SW l m_X4_learn none (fun _ _ _ _ => False) (d + 5) 0 0 (qS T) 39 [some (.ref 0), some (.int (nI N)), some (.int (nI (r - 1))), some (.int 1), j4, j5, j6, j7] [] (yC (nK k1) a1 y1) := by
    intro m
    induction m with
    | zero =>
      intro r hr hr1 k1 a1 y1 j4 j5 j6 j7 w1 R1 e
      refine t_X4_learn_39 _ _ _ (br_f (nI_ge (show r - 1 < N by omega) (by omega)) (br_f (by decide) ?_))
      have h := round k1 a1 y1 r w1 R1 (by omega) (fun a' y' j4 j5 j6 j7 R' => t_X4_learn_39 _ _ _ (br_t (nI_le (show N ≤ r by omega) (by omega)) (by
        rw [e]
        exact ⟨rfl, a', y', rfl, R'⟩))) 1 j5 j6 j7
      rw [show nI r = nI (r - 1) + 1 by rw [← nI_succ, show r - 1 + 1 = r by omega]] at h
      exact h
    | succ m ih =>
      intro r hr hr1 k1 a1 y1 j4 j5 j6 j7 w1 R1 e
      have e : T = cE (chg k1) (lnS m (r + 1) (lrK k1)) (nI r, lrK k1) := e
      refine t_X4_learn_39 _ _ _ (br_f (nI_ge (show r - 1 < N by omega) (by omega)) (br_f (by decide) ?_))
      have h := round k1 a1 y1 r w1 R1 (by omega) ?_ 1 j5 j6 j7
      · rw [show nI r = nI (r - 1) + 1 by rw [← nI_succ, show r - 1 + 1 = r by omega]] at h
        exact h
      intro a' y' j4 j5 j6 j7 R'
      by_cases c : chg k1
      · rw [cE_t c] at e
        rw [bI_t c]
        have h := ih (r + 1) (by omega) (by omega) (lrK k1) a' y' j4 j5 j6 j7 (WF_lr w1) R' e
        rw [show r + 1 - 1 = r by omega] at h
        exact h
      · rw [cE_f c] at e
        rw [bI_f c]
        refine t_X4_learn_39 _ _ _ (br_f (nI_ge (show r < N by omega) (by omega)) (br_t rfl ?_))
        rw [e]
        exact ⟨rfl, a', y', rfl, R'⟩
  -- trust 10
  have fl : ∀ p, p ≤ 8 → SW l m_X4_learn none (fun _ _ _ _ => False) (d + 5) 0 0 (qS T) 15 [some (.ref 0), some (.int (nI N)), some (.int (nI p)), none, none, none, none, none] [] (yC (nK k) (b_fe a, b_sa a, b_go a, b_ex a, flF (b_tr a) 10 p, a.2.2.2.2.2) y) := by
    refine aw_up 8 _ ?_ ?_
    · refine t_X4_learn_15 _ _ _ (br_t (nI_le (Nat.le_refl _) (by decide)) ?_)
      refine key (N - 1) 1 (by omega) (by decide) (s_tr k (flF (k_tr k) 10 8)) _ y none none none none (WF_tr10 w) ⟨R.1, R.2.1, R.2.2.1, R.2.2.2.1, fun p hp => ?_, R.2.2.2.2.2⟩ hT.symm
      show flF (b_tr a) 10 8 p = flF (k_tr k) 10 8 p
      unfold flF
      rw [if_pos hp, if_pos hp]
    · intro p hp ih
      rw [flF_s, nI_succ] at ih
      exact t_X4_learn_15 _ _ _ (br_f (nI_ge (b := 8) hp (by decide)) ⟨p, rfl, hp, ih⟩)
  have h0 := fl 0 (Nat.zero_le _)
  rw [flF_0] at h0
  exact h0
