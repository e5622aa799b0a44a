/-! small tests, and the sheet -/
theorem c_isPerson (l : Launch) (d : Nat) (C : aw_H) (x : Int32) : SMet l m_X3_isPerson d [.int x] C (fun v C' => v = some (.int (bI (ix x 8))) ∧ C' = C) := by
  refine SMet_of 0 (by decide) (Nat.le_of_ble_eq_true rfl) (t_X3_isPerson_0 _ _ _ ?_)
  refine ⟨fun c => ⟨Or.inl rfl, by rw [bI_f (ix_neg c (by decide))], rfl⟩, fun c => ⟨fun c2 => ⟨Or.inl rfl, by rw [bI_f (ix_ge c2 (by decide))], rfl⟩, fun c2 => ⟨Or.inr rfl, by rw [bI_t (ix_of c c2 (by decide))], rfl⟩⟩⟩
theorem c_isLabel (l : Launch) (d : Nat) (C : aw_H) (x : Int32) : SMet l m_X3_isLabel d [.int x] C (fun v C' => v = some (.int (bI (ix x 5))) ∧ C' = C) := by
  refine SMet_of 0 (by decide) (Nat.le_of_ble_eq_true rfl) (t_X3_isLabel_0 _ _ _ ?_)
  refine ⟨fun c => ⟨Or.inl rfl, by rw [bI_f (ix_neg c (by decide))], rfl⟩, fun c => ⟨fun c2 => ⟨Or.inl rfl, by rw [bI_f (ix_ge c2 (by decide))], rfl⟩, fun c2 => ⟨Or.inr rfl, by rw [bI_t (ix_of c c2 (by decide))], rfl⟩⟩⟩
theorem c_isFeature (l : Launch) (d : Nat) (C : aw_H) (x : Int32) : SMet l m_X3_isFeature d [.int x] C (fun v C' => v = some (.int (bI (ix x 4))) ∧ C' = C) := by
  refine SMet_of 0 (by decide) (Nat.le_of_ble_eq_true rfl) (t_X3_isFeature_0 _ _ _ ?_)
  refine ⟨fun c => ⟨Or.inl rfl, by rw [bI_f (ix_neg c (by decide))], rfl⟩, fun c => ⟨fun c2 => ⟨Or.inl rfl, by rw [bI_f (ix_ge c2 (by decide))], rfl⟩, fun c2 => ⟨Or.inr rfl, by rw [bI_t (ix_of c c2 (by decide))], rfl⟩⟩⟩
theorem c_isPlace (l : Launch) (d : Nat) (C : aw_H) (x : Int32) : SMet l m_X3_isPlace d [.int x] C (fun v C' => v = some (.int (bI (ix x 8))) ∧ C' = C) := by
  refine SMet_of 0 (by decide) (Nat.le_of_ble_eq_true rfl) (t_X3_isPlace_0 _ _ _ ?_)
  refine ⟨fun c => ⟨Or.inl rfl, by rw [bI_f (ix_neg c (by decide))], rfl⟩, fun c => ⟨fun c2 => ⟨Or.inl rfl, by rw [bI_f (ix_ge c2 (by decide))], rfl⟩, fun c2 => ⟨Or.inr rfl, by rw [bI_t (ix_of c c2 (by decide))], rfl⟩⟩⟩
theorem c_size (l : Launch) (d : Nat) (k : cK) (z : cZ) : SMet l m_X2_size d [.ref 1] (xC k z) (rI k z (nI (k_n k))) := SMet_of 0 (by decide) (by decide) (t_X2_size_0 _ _ _ ⟨rfl, rfl⟩)
theorem c_hasRow (l : Launch) (d : Nat) (k : cK) (z : cZ) (x : Int32) (hn : k_n k ≤ 40) : SMet l m_X2_hasRow d [.ref 1, .int x] (xC k z) (rI k z (bI (ix x (k_n k)))) := by
  refine SMet_of 0 (by decide) (Nat.le_of_ble_eq_true rfl) (t_X2_hasRow_0 _ _ _ ?_)
  refine ⟨fun c => ⟨Or.inl rfl, by rw [bI_f (ix_neg c (by omega))], rfl⟩, fun c => ⟨fun c2 => ⟨Or.inl rfl, by rw [bI_f (ix_ge c2 (by omega))], rfl⟩, fun c2 => ⟨Or.inr rfl, by rw [bI_t (ix_of c c2 (by omega))], rfl⟩⟩⟩
theorem c_given (l : Launch) (d : Nat) (k : cK) (z : cZ) {p r : Nat} (hp : p < 8) (hr : r < 40) : SMet l m_X2_given d [.ref 1, .int (nI p), .int (nI r)] (xC k z) (rI k z (k_gv k p r)) := by
  refine SMet_of 0 (by decide) (Nat.le_of_ble_eq_true rfl) (t_X2_given_0 _ _ _ ?_)
  refine ⟨p, rfl, hp, ?_⟩
  refine i_r (xC_gv k z hp) rfl ?_
  exact ⟨r, rfl, hr, rfl, rfl⟩
theorem c_feature (l : Launch) (d : Nat) (k : cK) (z : cZ) {p r : Nat} (hp : p < 4) (hr : r < 40) : SMet l m_X2_feature d [.ref 1, .int (nI p), .int (nI r)] (xC k z) (rI k z (k_ft k p r)) := by
  refine SMet_of 0 (by decide) (Nat.le_of_ble_eq_true rfl) (t_X2_feature_0 _ _ _ ?_)
  refine ⟨p, rfl, hp, ?_⟩
  refine i_r (xC_ft k z hp) rfl ?_
  exact ⟨r, rfl, hr, rfl, rfl⟩
