/-! the frame: a method that knows a part of a world runs in the whole -/
def shV (o : Nat) : Value → Value
  | .ref k => .ref (k + o)
  | v => v
def shB (o : Nat) : ((Nat → Int32) ⊕ (Nat → Int64) ⊕ (Nat → UInt32) ⊕ (Nat → UInt64) ⊕ (Nat → Option Nat)) → ((Nat → Int32) ⊕ (Nat → Int64) ⊕ (Nat → UInt32) ⊕ (Nat → UInt64) ⊕ (Nat → Option Nat))
  | .inr (.inr (.inr (.inr f))) => .inr (.inr (.inr (.inr (fun i => (f i).map (fun k => k + o)))))
  | x => x
def shC (o : Nat) : aw_Cel → aw_Cel
  | .inl (t, n, b) => .inl (t, n, shB o b)
  | .inr (ci, fs) => .inr (ci, fs.map (shV o))
theorem sh_cv (ad : Nat → Nat) (o : Nat) (v : Value) : aw_cv ad (shV o v) = aw_cv (fun j => ad (j + o)) v := by cases v <;> rfl
theorem sh_ce (ad : Nat → Nat) (cA : Nat → ClassId) (o : Nat) (c : aw_Cel) : aw_ce ad cA (shC o c) = aw_ce (fun j => ad (j + o)) cA c := by
  rcases c with ⟨t, n, f | f | f | f | f⟩ | ⟨ci, fs⟩
  · rfl
  · rfl
  · rfl
  · rfl
  · show Sum.inl (cA t, n, Sum.inr (Sum.inr (Sum.inr (Sum.inr (fun i => ((f i).map (fun k => k + o)).map ad))))) = Sum.inl (cA t, n, Sum.inr (Sum.inr (Sum.inr (Sum.inr (fun i => (f i).map (fun j => ad (j + o)))))))
    have h : (fun i => ((f i).map (fun k => k + o)).map ad) = (fun i => (f i).map (fun j => ad (j + o))) := by
      funext i
      cases f i <;> rfl
    rw [h]
  · show Sum.inr (ci, (fs.map (shV o)).map (aw_cv ad)) = Sum.inr (ci, fs.map (aw_cv (fun j => ad (j + o))))
    rw [List.map_map]
    have h : (aw_cv ad ∘ shV o) = aw_cv (fun j => ad (j + o)) := funext fun v => sh_cv ad o v
    rw [h]
theorem sh_cn (ad : Nat → Nat) (cA : Nat → ClassId) (o : Nat) : ∀ (C : aw_H) (k : Nat), aw_cn ad cA (k + o) (C.map (shC o)) = aw_cn (fun j => ad (j + o)) cA k C
  | [], k => rfl
  | c :: r, k => by
    simp only [List.map_cons, aw_cn]
    rw [sh_ce, show k + o + 1 = (k + 1) + o by omega, sh_cn ad cA o r (k + 1)]
theorem cn_app (ad : Nat → Nat) (cA : Nat → ClassId) : ∀ (A B : aw_H) (k : Nat), aw_cn ad cA k (A ++ B) = aw_cn ad cA k A ++ aw_cn ad cA (k + A.length) B
  | [], B, k => by simp [aw_cn]
  | a :: r, B, k => by
    simp only [List.cons_append, aw_cn, List.length_cons]
    rw [cn_app ad cA r B (k + 1), show k + 1 + r.length = k + (r.length + 1) by omega]
theorem cn_len (ad : Nat → Nat) (cA : Nat → ClassId) : ∀ (A : aw_H) (k : Nat), (aw_cn ad cA k A).length = A.length
  | [], k => rfl
  | a :: r, k => by simp [aw_cn, cn_len ad cA r (k + 1)]
theorem P_app {D : va_G} {cl : List vw_C} {a b : va_W} {H : Heap} : va_P D cl (a ++ b) H ↔ va_P D cl a H ∧ va_P D cl b H := by
  constructor
  · intro h
    refine ⟨fun k q hk => h k q ?_, fun k q hk => h (a.length + k) q ?_⟩
    · rw [List.getElem?_append_left (List.getElem?_eq_some_iff.mp hk).1]; exact hk
    · rw [List.getElem?_append_right (by omega), Nat.add_sub_cancel_left]; exact hk
  · rintro ⟨h1, h2⟩ k q hk
    by_cases z : k < a.length
    · rw [List.getElem?_append_left z] at hk; exact h1 k q hk
    · rw [List.getElem?_append_right (by omega)] at hk; exact h2 _ q hk
theorem P_kept {D : va_G} {cA : Nat → ClassId} {ad : Nat → Nat} {k0 : Nat} {A : aw_H} {H H1 : Heap} (h : va_P D aw_cl (aw_cn ad cA k0 A) H) (hk : ∀ k, k < A.length → ad (k0 + k) < H.size → H1[ad (k0 + k)]? = H[ad (k0 + k)]?) : va_P D aw_cl (aw_cn ad cA k0 A) H1 := by
  intro k q hq
  have h0 := h k q hq
  rw [aw_cn_get] at hq
  cases hg : aw_g A k with
  | none => rw [hg] at hq; cases hq
  | some c =>
    rw [hg] at hq
    have e := (Option.some.inj hq).symm
    subst e
    exact h0.kept (hk k (aw_lt hg) h0.lt)
/-- a larger world's start gives the part's -/
theorem fr_pre {A B C : aw_H} {o : Nat} (hA : A.length = o) {D : va_G} {cA : Nat → ClassId} {ad : Nat → Nat} {H : Heap} (h : va_P D aw_cl (aw_cn ad cA 0 (A ++ (C.map (shC o) ++ B))) H) : va_P D aw_cl (aw_cn ad cA 0 A) H ∧ va_P D aw_cl (aw_cn (fun j => ad (j + o)) cA 0 C) H ∧ va_P D aw_cl (aw_cn ad cA (o + C.length) B) H := by
  rw [cn_app, P_app, hA, cn_app, P_app, List.length_map, sh_cn] at h
  rw [Nat.zero_add] at h
  exact h
theorem fr_post {A B C : aw_H} {o : Nat} (hA : A.length = o) {D : va_G} {cA : Nat → ClassId} {ad : Nat → Nat} {H : Heap} (h : va_P D aw_cl (aw_cn ad cA 0 A) H ∧ va_P D aw_cl (aw_cn (fun j => ad (j + o)) cA 0 C) H ∧ va_P D aw_cl (aw_cn ad cA (o + C.length) B) H) : va_P D aw_cl (aw_cn ad cA 0 (A ++ (C.map (shC o) ++ B))) H := by
  rw [cn_app, P_app, hA, cn_app, P_app, List.length_map, sh_cn, Nat.zero_add]
  exact h
theorem fr_A {ad : Nat → Nat} {o n N sz q : Nat} (hN : o + n ≤ N) (h : aw_A (fun j => ad (j + o)) n sz q) : aw_A ad N sz q := by
  rcases h with ⟨k, h1, h2⟩ | h
  · exact Or.inl ⟨k + o, by omega, h2⟩
  · exact Or.inr h
theorem fr_join {A B C C' : aw_H} {o N sz : Nat} (hA : A.length = o) (hN : (A ++ (C.map (shC o) ++ B)).length = N) (hC : C'.length = C.length) {D : va_G} {cA : Nat → ClassId} {ad : Nat → Nat} (hJ : aw_J ad N) {st t : State} (hsz : st.heap.size = sz)
    (h : va_P D aw_cl (aw_cn ad cA 0 (A ++ (C.map (shC o) ++ B))) st.heap) (hP : va_P D aw_cl (aw_cn (fun j => ad (j + o)) cA 0 C') t.heap) (hF : va_F (aw_A (fun j => ad (j + o)) C.length sz) st t) :
    va_P D aw_cl (aw_cn ad cA 0 (A ++ (C'.map (shC o) ++ B))) t.heap ∧ va_F (aw_A ad N sz) st t := by
  obtain ⟨h1, h2, h3⟩ := fr_pre hA h
  have hNN : o + C.length + B.length = N := by
    rw [List.length_append, List.length_append, List.length_map, hA] at hN
    omega
  have key : ∀ k, k < N → ¬ (o ≤ k ∧ k < o + C.length) → ad k < st.heap.size → t.heap[ad k]? = st.heap[ad k]? := by
    intro k hk hn hlt
    refine hF.2 _ hlt ?_
    rintro (⟨j, g1, g2⟩ | g)
    · have := hJ k (j + o) hk (by omega) g2
      omega
    · omega
  refine ⟨fr_post hA ⟨P_kept h1 (fun k hk hlt => key (0 + k) (by omega) (by omega) hlt), hP, ?_⟩, hF.1, fun q g1 g2 => hF.2 q g1 (fun z => g2 (fr_A (by omega) z))⟩
  rw [hC]
  exact P_kept h3 (fun k hk hlt => key (o + C.length + k) (by omega) (by omega) hlt)
theorem Met_use {l : Launch} {y : MethodName} {ws : List Jvm.Cond} {rm : Room} {P P' : Array Value → State → Prop} {Q Q' : Array Value → State → Outcome → State → Prop} {mc ms : Nat} {free free' : Addr → Prop} (h : Met l y ws rm P Q mc ms free) (hP : ∀ a s, P' a s → P a s) (hQ : ∀ a s o t, P' a s → Q a s o t → Q' a s o t) (hf : ∀ q, free q → free' q) : Met l y ws rm P' Q' mc ms free' := by
  intro p e ha hc hk s m args below hfr happ hp hK
  obtain ⟨n, o, h1, h2, h3, h4, L, h5, h6⟩ := h p e ha hc hk s m args below hfr happ (hP _ _ hp) hK
  exact ⟨n, o, h1, h2, h3, hQ _ _ _ _ hp h4, L, h5, fun q hq => hf _ (h6 q hq)⟩
theorem SMet_fr {l : Launch} {M : aw_M} {d o : Nat} {av : List Value} {C : aw_H} {Q : Option Value → aw_H → Prop} (A B : aw_H) (hA : A.length = o) (h : SMet l M d av C Q) :
    SMet l M d (av.map (shV o)) (A ++ (C.map (shC o) ++ B)) (fun v C2 => ∃ v' C', Q v' C' ∧ C'.length = C.length ∧ v = v'.map (shV o) ∧ C2 = A ++ (C'.map (shC o) ++ B)) := by
  intro D cA ad N sz hN hJ
  have hNN : o + C.length + B.length = N := by
    rw [List.length_append, List.length_append, List.length_map, hA] at hN
    omega
  have hJ' : aw_J (fun j => ad (j + o)) C.length := fun i j hi hj e => by
    have := hJ (i + o) (j + o) (by omega) (by omega) e
    omega
  refine Met_use (h D cA (fun j => ad (j + o)) C.length sz rfl hJ') ?_ ?_ (fun q z => fr_A (by omega) z)
  · rintro a s ⟨e1, e2, e3, e4⟩
    refine ⟨?_, e2, (fr_pre hA e3).2.1, e4⟩
    rw [e1, List.map_map]
    congr 1
    exact List.map_congr_left fun v _ => sh_cv ad o v
  · rintro a s oc t ⟨e1, e2, e3, e4⟩ ⟨v, C', g1, g2, g3, g4, g5⟩
    obtain ⟨j1, j2⟩ := fr_join hA hN g3 hJ e2 e3 g4 g5
    refine ⟨v.map (shV o), _, ?_, ⟨v, C', g2, g3, rfl, rfl⟩, ?_, j1, j2⟩
    · rw [g1]
      cases v with
      | none => rfl
      | some v =>
        show Outcome.returned (some (aw_cv (fun j => ad (j + o)) v)) = Outcome.returned (some (aw_cv ad (shV o v)))
        rw [sh_cv]
    · rw [List.length_append, List.length_append, List.length_map, hA, g3]
      omega
theorem shV0 (v : Value) : shV 0 v = v := by cases v <;> rfl
theorem shC0 (c : aw_Cel) : shC 0 c = c := by
  rcases c with ⟨t, n, f | f | f | f | f⟩ | ⟨ci, fs⟩
  · rfl
  · rfl
  · rfl
  · rfl
  · show Sum.inl (t, n, Sum.inr (Sum.inr (Sum.inr (Sum.inr (fun i => (f i).map (fun k => k + 0)))))) = _
    have h : (fun i => (f i).map (fun k => k + 0)) = f := by
      funext i
      cases f i <;> rfl
    rw [h]
  · show Sum.inr (ci, fs.map (shV 0)) = _
    rw [List.map_congr_left (fun v _ => shV0 v), List.map_id' fs]
theorem mapV0 (l : List Value) : l.map (shV 0) = l := by
  rw [List.map_congr_left (fun v _ => shV0 v), List.map_id' l]
theorem mapC0 (l : aw_H) : l.map (shC 0) = l := by
  rw [List.map_congr_left (fun v _ => shC0 v), List.map_id' l]
/-- a method of the first part -/
theorem SMet_f0 {l : Launch} {M : aw_M} {d : Nat} {av : List Value} {C : aw_H} {Q : Option Value → aw_H → Prop} (B : aw_H) (h : SMet l M d av C Q) :
    SMet l M d av (C ++ B) (fun v C2 => ∃ C', Q v C' ∧ C2 = C' ++ B) := by
  have h1 := SMet_fr (o := 0) [] B rfl h
  rw [mapV0, mapC0, List.nil_append] at h1
  intro D cA ad N sz hN hJ
  refine Met_use (h1 D cA ad N sz hN hJ) (fun _ _ z => z) ?_ (fun _ z => z)
  rintro a s oc t - ⟨v, C', g1, ⟨v', C'', g2, -, g3, g4⟩, g5⟩
  refine ⟨v, C', g1, ⟨C'', ?_, by rw [g4, mapC0, List.nil_append]⟩, g5⟩
  rw [g3]
  cases v' with
  | none => exact g2
  | some v' => rw [Option.map_some, shV0]; exact g2
