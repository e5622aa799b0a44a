/-! the reference's says; the calls keep the state well-formed -/
noncomputable def S_says (k : cK) (q r : Int32) : Nat × Int32 := cE (ix q (k_rn k) ∧ ix r (k_n k)) (cE (wI k (tN q) (tN r) = -2) (2, 0) (cE (wI k (tN q) (tN r) = -3) (3, 0) (0, wI k (tN q) (tN r)))) (1, 0)
abbrev qU (k : cK) (s : Nat × Int32) : Option Value → aw_H → Prop := fun v C => v = some (.int s.2) ∧ ∃ a y, C = yC (nK k) a y ∧ Rl k a ∧ y_th y = nI s.1
theorem c4_says (l : Launch) (d : Nat) (k : cK) (a : mA) (y : mZ) (q r : Int32) (w : WF k) (R : Rl k a) : SMet l m_X4_says (d + 2) [.ref 0, .int q, .int r] (yC (nK k) a y) (qU k (S_says k q r)) := by
  have hn := w.n
  have hrn := w.rn
  refine SMet_of 1 (by decide) (Nat.le_of_ble_eq_true rfl) (t_X4_says_0 _ _ _ ?_)
  have bad : ¬ (ix q (k_rn k) ∧ ix r (k_n k)) → k_X4_says_27 l (fun _ _ _ _ => False) (d + 2) (qU k (S_says k q r)) (aw_en [.ref 0, .int q, .int r] ++ List.replicate 1 none) [.ref 0] (yC (nK k) a y) := by
    intro h
    rw [S_says, cE_f h]
    exact br_f (by decide) ⟨rfl, a, y_sth y 1, rfl, R, rfl⟩
  refine ⟨_, c4_inX l (d + 1) _ _ _ (n := k_rn k) (by omega) rfl, ?_⟩
  rintro _ _ ⟨rfl, rfl⟩
  refine br_b (fun c => bad (fun h => c h.1)) (fun c => ⟨_, c4_isRow l d k a y _ w, ?_⟩)
  rintro _ _ ⟨rfl, rfl⟩
  refine br_b (fun c2 => bad (fun h => c2 h.2)) (fun c2 => ?_)
  rw [S_says, cE_t ⟨c, c2⟩]
  obtain ⟨Q, hQ, rfl⟩ := c
  obtain ⟨Rr, hR, rfl⟩ := c2
  rw [tN_n (show Q < 1000 by omega), tN_n (show Rr < 1000 by omega)]
  refine br_t (by decide) ⟨_, c4_saysOf l d k a (y_sth y 0) hQ hR w R, ?_⟩
  rintro _ _ ⟨rfl, rfl⟩
  rcases wI_or k Q Rr with h | h | h
  · have g := (wI_ge k Q Rr).mpr h
    have n2 : ¬ wI k Q Rr = -2 := fun e => by rw [e] at g; revert g; decide
    have n3 : ¬ wI k Q Rr = -3 := fun e => by rw [e] at g; revert g; decide
    rw [cE_f n2, cE_f n3]
    exact br_t g (br_t g ⟨rfl, a, y_sth y 0, rfl, R, rfl⟩)
  · rw [h, cE_t rfl]
    exact br_f (by decide) (br_f (by decide) ⟨rfl, a, y_sth y 2, rfl, R, rfl⟩)
  · rw [h, cE_f (by decide), cE_t rfl]
    exact br_f (by decide) (br_f (by decide) ⟨rfl, a, y_sth y 3, rfl, R, rfl⟩)
/-! WF -/
theorem wr_at (k : cK) (f : vF) : ∀ n p, p < n → wrUp k f n p = nI (wrN k p)
  | 0, p, h => by omega
  | n + 1, p, h => by
    unfold wrUp
    by_cases e : p = n
    · rw [e, pk_us]
    · rw [pk_un e]
      exact wr_at k f n p (by omega)
theorem WF_row {k : cK} (w : WF k) (h : k_n k < 40) (f0 f1 f2 f3 : Int32) : WF (s_row k f0 f1 f2 f3) := by
  obtain ⟨w1, w2, w3, w4, w5, w6, w7, w8, w9, w10, w11⟩ := w
  refine ⟨h, w2, w3, w4, w5, w6, w7, w8, fun p hp => ?_, fun p r hp hr hr2 => w10 p r hp (Nat.le_trans (Nat.le_succ _) hr) hr2, fun r hr hr2 => w11 r (Nat.le_trans (Nat.le_succ _) hr) hr2⟩
  show k_wr k p = nI (cnt (k_n k + 1) (wrP k p))
  rw [cnt_f (fun q => q.1 (w10 p _ hp (Nat.le_refl _) h))]
  exact w9 p hp
theorem WF_lab {k : cK} (w : WF k) {p r : Nat} {x : Int32} (hp : p < 8) (hr : r < k_n k) (hx : ix x 5) : WF (s_lab k p r x) := by
  obtain ⟨w1, w2, w3, w4, w5, w6, w7, w8, w9, w10, w11⟩ := w
  refine ⟨w1, w2, w3, w4, w5, w6, fun p' r' hp' hr' => ?_, w8, fun p' hp' => ?_, fun p' r' hp' hr' hr2 => ?_, w11⟩
  · show (if p' = p then upd (k_gv k p) r x else k_gv k p') r' = -1 ∨ ix ((if p' = p then upd (k_gv k p) r x else k_gv k p') r') 5
    by_cases e : p' = p
    · rw [if_pos e]
      by_cases e2 : r' = r
      · rw [e2, pk_us]; exact Or.inr hx
      · rw [pk_un e2]; exact w7 p r' hp hr'
    · rw [if_neg e]; exact w7 p' r' hp' hr'
  · show upd (k_wr k) p (nI (wrN (s_give k p r x) p)) p' = nI (wrN (s_give k p r x) p')
    by_cases e : p' = p
    · rw [e, pk_us]
    · rw [pk_un e, w9 p' hp']
      congr 1
      refine cnt_c _ (fun r' _ => ?_)
      show wrP k p' r' ↔ ((if p' = p then upd (k_gv k p) r x else k_gv k p') r' ≠ -1 ∧ k_kn k r' ≠ -1 ∧ (if p' = p then upd (k_gv k p) r x else k_gv k p') r' ≠ k_kn k r')
      rw [if_neg e]
      rfl
  · have hr3 : k_n k ≤ r' := hr'
    show (if p' = p then upd (k_gv k p) r x else k_gv k p') r' = -1
    by_cases e : p' = p
    · rw [if_pos e, pk_un (by omega)]; exact w10 p r' hp hr3 hr2
    · rw [if_neg e]; exact w10 p' r' hp' hr3 hr2
theorem WF_gold {k : cK} (w : WF k) {r : Nat} {x : Int32} (hr : r < k_n k) (hx : x = -1 ∨ ix x 5) : WF (s_gold k r x) := by
  obtain ⟨w1, w2, w3, w4, w5, w6, w7, w8, w9, w10, w11⟩ := w
  refine ⟨w1, w2, w3, w4, w5, w6, w7, fun r' hr' => ?_, fun p hp => wr_at _ _ 8 p hp, w10, fun r' hr' hr2 => ?_⟩
  · show upd (k_kn k) r x r' = -1 ∨ ix (upd (k_kn k) r x r') 5
    by_cases e : r' = r
    · rw [e, pk_us]; exact hx
    · rw [pk_un e]; exact w8 r' hr'
  · have hr3 : k_n k ≤ r' := hr'
    show upd (k_kn k) r x r' = -1
    rw [pk_un (by omega)]
    exact w11 r' hr3 hr2
theorem WF_ex {k : cK} (w : WF k) {p : Nat} {b : Int32} (hb : b = 0 ∨ b = 1) : WF (s_ex k (upd (k_ex k) p b)) := by
  obtain ⟨w1, w2, w3, w4, w5, w6, w7, w8, w9, w10, w11⟩ := w
  refine ⟨w1, w2, w3, w4, fun p' hp' => ?_, w6, w7, w8, w9, w10, w11⟩
  show upd (k_ex k) p b p' = 0 ∨ upd (k_ex k) p b p' = 1
  by_cases e : p' = p
  · rw [e, pk_us]; exact hb
  · rw [pk_un e]; exact w5 p' hp'
theorem WF_on {k : cK} (w : WF k) {p : Nat} {b : Int32} (hb : b = 0 ∨ b = 1) : WF (s_on k (upd (k_on k) p b)) := by
  obtain ⟨w1, w2, w3, w4, w5, w6, w7, w8, w9, w10, w11⟩ := w
  refine ⟨w1, w2, w3, fun p' hp' => ?_, w5, w6, w7, w8, w9, w10, w11⟩
  show upd (k_on k) p b p' = 0 ∨ upd (k_on k) p b p' = 1
  by_cases e : p' = p
  · rw [e, pk_us]; exact hb
  · rw [pk_un e]; exact w4 p' hp'
theorem WF_rule {k : cK} (w : WF k) (h : k_rn k < 6) {a i j : Int32} (c : Int32) (ha : ix a 4) (hi : ix i 4) (hj : ix j 4) : WF (s_rule k a i j c) := by
  obtain ⟨w1, w2, w3, w4, w5, w6, w7, w8, w9, w10, w11⟩ := w
  refine ⟨w1, h, fun q hq => ?_, fun q hq => ?_, w5, w6, w7, w8, w9, w10, w11⟩
  · have hq' : q < k_rn k + 1 := hq
    show ix (upd (k_kd k) (k_rn k) a q) 4 ∧ ix (upd (k_fi k) (k_rn k) i q) 4 ∧ ix (upd (k_se k) (k_rn k) j q) 4
    by_cases e : q = k_rn k
    · rw [e, pk_us, pk_us, pk_us]; exact ⟨ha, hi, hj⟩
    · rw [pk_un e, pk_un e, pk_un e]; exact w3 q (by omega)
  · show upd (k_on k) (k_rn k) 1 q = 0 ∨ upd (k_on k) (k_rn k) 1 q = 1
    by_cases e : q = k_rn k
    · rw [e, pk_us]; exact Or.inr rfl
    · rw [pk_un e]; exact w4 q hq
theorem cE_ok {α : Type} {P : α → Prop} {b : Prop} {x y : α} (h1 : b → P x) (h2 : ¬ b → P y) : P (cE b x y) := by
  by_cases c : b
  · rw [cE_t c]; exact h1 c
  · rw [cE_f c]; exact h2 c
abbrev W2 (s : Int32 × cK) : Prop := WF s.2
theorem W_row {k : cK} (w : WF k) (f0 f1 f2 f3 : Int32) : WF (S_row k f0 f1 f2 f3).2 := cE_ok (P := W2) (fun h => WF_row w h f0 f1 f2 f3) (fun _ => w)
theorem W_label {k : cK} (w : WF k) (p r x : Int32) : WF (S_label k p r x).2 := by
  have hn := w.n
  refine cE_ok (P := W2) (fun h => cE_ok (P := W2) (fun h2 => cE_ok (P := W2) (fun h3 => ?_) (fun _ => w)) (fun _ => w)) (fun _ => w)
  obtain ⟨⟨P, hP, rfl⟩, ⟨R, hR, rfl⟩⟩ := h
  show WF (s_lab k (tN (nI P)) (tN (nI R)) x)
  rw [tN_n (show P < 1000 by omega), tN_n (show R < 1000 by omega)]
  exact WF_lab w hP hR h2
theorem W_gold {k : cK} (w : WF k) (r x : Int32) : WF (S_gold k r x).2 := by
  have hn := w.n
  refine cE_ok (P := W2) (fun h => cE_ok (P := W2) (fun h2 => ?_) (fun _ => w)) (fun _ => w)
  obtain ⟨R, hR, rfl⟩ := h
  show WF (s_gold k (tN (nI R)) x)
  rw [tN_n (show R < 1000 by omega)]
  exact WF_gold w hR h2
theorem W_bound {k : cK} (w : WF k) (n : Int32) : WF (S_bound k n).2 := cE_ok (P := W2) (fun _ => w) (fun _ => w)
theorem W_expert {k : cK} (w : WF k) (p b : Int32) (hb : b = 0 ∨ b = 1) : WF (S_expert k p b).2 := cE_ok (P := W2) (fun _ => WF_ex w hb) (fun _ => w)
theorem W_rule {k : cK} (w : WF k) (a i j c : Int32) : WF (S_rule k a i j c).2 := cE_ok (P := W2) (fun h => cE_ok (P := W2) (fun h2 => WF_rule w h2 c h.1 h.2.1 h.2.2) (fun _ => w)) (fun _ => w)
theorem W_turn {k : cK} (w : WF k) (q b : Int32) (hb : b = 0 ∨ b = 1) : WF (S_turn k q b).2 := cE_ok (P := W2) (fun _ => WF_on w hb) (fun _ => w)
theorem W_table {k : cK} (w : WF k) (q v : Int32) : WF (S_table k q v).2 := cE_ok (P := W2) (fun _ => w) (fun _ => w)
theorem W_ln : ∀ (m r : Nat) (k : cK), WF k → WF (lnS m r k).2
  | 0, r, k, w => WF_lr w
  | m + 1, r, k, w => cE_ok (P := W2) (fun _ => W_ln m (r + 1) (lrK k) (WF_lr w)) (fun _ => WF_lr w)
theorem W_learn {k : cK} (w : WF k) (n : Int32) : WF (S_learn k n).2 := cE_ok (P := W2) (fun _ => W_ln _ _ _ (WF_tr10 w)) (fun _ => w)
theorem W_said {k : cK} (w : WF k) (p r : Int32) : WF (S_said k p r).2 := cE_ok (P := W2) (fun _ => w) (fun _ => w)
theorem W_person {k : cK} (w : WF k) (p x : Int32) : WF (S_person k p x).2 := cE_ok (P := W2) (fun _ => cE_ok (P := W2) (fun _ => w) (fun _ => cE_ok (P := W2) (fun _ => w) (fun _ => cE_ok (P := W2) (fun _ => w) (fun _ => cE_ok (P := W2) (fun _ => w) (fun _ => w))))) (fun _ => w)
theorem W_abstains {k : cK} (w : WF k) (q : Int32) : WF (S_abstains k q).2 := cE_ok (P := W2) (fun _ => w) (fun _ => w)
theorem W_votes {k : cK} (w : WF k) (r a : Int32) : WF (S_votes k r a).2 := cE_ok (P := W2) (fun _ => cE_ok (P := W2) (fun _ => w) (fun _ => w)) (fun _ => w)
theorem W_decided {k : cK} (w : WF k) (r : Int32) : WF (S_decided k r).2 := cE_ok (P := W2) (fun _ => w) (fun _ => w)
theorem W_next {k : cK} (w : WF k) (p : Int32) : WF (S_next k p).2 := cE_ok (P := W2) (fun _ => cE_ok (P := W2) (fun _ => w) (fun _ => w)) (fun _ => w)
theorem W_about {k : cK} (w : WF k) (x : Int32) : WF (S_about k x).2 := cE_ok (P := W2) (fun _ => w) (fun _ => cE_ok (P := W2) (fun _ => w) (fun _ => cE_ok (P := W2) (fun _ => w) (fun _ => cE_ok (P := W2) (fun _ => w) (fun _ => cE_ok (P := W2) (fun _ => w) (fun _ => cE_ok (P := W2) (fun _ => w) (fun _ => cE_ok (P := W2) (fun _ => w) (fun _ => cE_ok (P := W2) (fun _ => w) (fun _ => w))))))))
