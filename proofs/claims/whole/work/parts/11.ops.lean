/-! the instructions: what each asks and does (o_..), and that the machine does so (s_..) -/
section AWO
variable {l : Launch} {M : aw_M} {xl : Option (Nat × (Nat → Int32))} {X : Nat → aw_Kt} {d kc ks : Nat} {Q : Option Value → aw_H → Prop} {pc : Nat} {k kt kf : aw_Kt}
theorem s_exit {L : aw_L} {st : List Value} {C : aw_H} (h : X pc L st C) : SW l M xl X d kc ks Q pc L st C := fun p e R s m args below meth c D cA ad N Z G H locs ls hS hl => G.2.2.2.2.2.2 pc L st C H locs ls h hS hl
theorem s_stop : aw_Sn l M xl X d kc ks Q pc (SW l M xl X d kc ks Q pc) := fun _ _ _ h => h
def o_ic (v : Int32) (k : aw_Kt) : aw_Kt := fun L st C => k L (.int v :: st) C
theorem s_iconst {n : Int} {v : Int32} (hd : decode M.2.1 pc = .ok (.iconst n, 1)) (hv : Int32.ofInt n = v) (h : aw_Sn l M xl X d kc ks Q (pc + 1) k) : aw_Sn l M xl X d kc ks Q pc (o_ic v k) := by
  intro L st C hk p e R s m args below meth c D cA ad N Z G H locs ls hS hl
  exact lv_iconst G.1.1 G.1.2.1 hd hv (h _ _ _ hk _ _ _ _ _ _ _ _ _ _ _ _ _ _ G _ _ _ hS hl)
theorem s_bipush {n : Int} {v : Int32} (hd : decode M.2.1 pc = .ok (.bipush n, 2)) (hv : (Int8.ofInt n).toInt32 = v) (h : aw_Sn l M xl X d kc ks Q (pc + 2) k) : aw_Sn l M xl X d kc ks Q pc (o_ic v k) := by
  intro L st C hk p e R s m args below meth c D cA ad N Z G H locs ls hS hl
  exact lv_bipush G.1.1 G.1.2.1 hd hv (h _ _ _ hk _ _ _ _ _ _ _ _ _ _ _ _ _ _ G _ _ _ hS hl)
theorem s_sipush {n : Int} {v : Int32} (hd : decode M.2.1 pc = .ok (.sipush n, 3)) (hv : (Int16.ofInt n).toInt32 = v) (h : aw_Sn l M xl X d kc ks Q (pc + 3) k) : aw_Sn l M xl X d kc ks Q pc (o_ic v k) := by
  intro L st C hk p e R s m args below meth c D cA ad N Z G H locs ls hS hl
  exact lv_sipush G.1.1 G.1.2.1 hd hv (h _ _ _ hk _ _ _ _ _ _ _ _ _ _ _ _ _ _ G _ _ _ hS hl)
def o_lc (v : Int64) (k : aw_Kt) : aw_Kt := fun L st C => k L (.long v :: st) C
theorem s_lconst {n : Fin 2} {v : Int64} (hd : decode M.2.1 pc = .ok (.lconst n, 1)) (hv : Int64.ofNat (n : Nat) = v) (h : aw_Sn l M xl X d kc ks Q (pc + 1) k) : aw_Sn l M xl X d kc ks Q pc (o_lc v k) := by
  intro L st C hk p e R s m args below meth c D cA ad N Z G H locs ls hS hl
  exact lv_lconst G.1.1 G.1.2.1 hd hv (h _ _ _ hk _ _ _ _ _ _ _ _ _ _ _ _ _ _ G _ _ _ hS hl)
theorem s_ldc2 {ix : Nat} {v : Int64} (hd : decode M.2.1 pc = .ok (.ldc2_w ix, 3)) (hv : Jvm.Cond.constantLong M.1.cls ix v ∈ aw_B) (h : aw_Sn l M xl X d kc ks Q (pc + 3) k) : aw_Sn l M xl X d kc ks Q pc (o_lc v k) := by
  intro L st C hk p e R s m args below meth c D cA ad N Z G H locs ls hS hl
  exact lv_ldc2 G.1.1 G.1.2.1 G.1.2.2.2.1 (G.1.2.2.2.2 _ hv) hd (h _ _ _ hk _ _ _ _ _ _ _ _ _ _ _ _ _ _ G _ _ _ hS hl)
def o_il (i : Nat) (k : aw_Kt) : aw_Kt := fun L st C => p_fi (aw_lg L i) fun x => k L (.int x :: st) C
theorem s_iload_n {n : Fin 4} {i : Nat} (hd : decode M.2.1 pc = .ok (.iload_n n, 1)) (hi : (n : Nat) = i) (h : aw_Sn l M xl X d kc ks Q (pc + 1) k) : aw_Sn l M xl X d kc ks Q pc (o_il i k) := by
  intro L st C hk p e R s m args below meth c D cA ad N Z G H locs ls hS hl
  obtain ⟨x, hx, hk⟩ := e_fi hk
  exact lv_iload_n G.1.1 G.1.2.1 hd hi (aw_lg_at hl hx) (h _ _ _ hk _ _ _ _ _ _ _ _ _ _ _ _ _ _ G _ _ _ hS hl)
theorem s_iload {i : Nat} (hd : decode M.2.1 pc = .ok (.iload i, 2)) (h : aw_Sn l M xl X d kc ks Q (pc + 2) k) : aw_Sn l M xl X d kc ks Q pc (o_il i k) := by
  intro L st C hk p e R s m args below meth c D cA ad N Z G H locs ls hS hl
  obtain ⟨x, hx, hk⟩ := e_fi hk
  exact lv_iload G.1.1 G.1.2.1 hd (aw_lg_at hl hx) (h _ _ _ hk _ _ _ _ _ _ _ _ _ _ _ _ _ _ G _ _ _ hS hl)
def o_ll (i : Nat) (k : aw_Kt) : aw_Kt := fun L st C => p_fl (aw_lg L i) fun x => k L (.long x :: st) C
theorem s_lload_n {n : Fin 4} {i : Nat} (hd : decode M.2.1 pc = .ok (.lload_n n, 1)) (hi : (n : Nat) = i) (h : aw_Sn l M xl X d kc ks Q (pc + 1) k) : aw_Sn l M xl X d kc ks Q pc (o_ll i k) := by
  intro L st C hk p e R s m args below meth c D cA ad N Z G H locs ls hS hl
  obtain ⟨x, hx, hk⟩ := e_fl hk
  exact lv_lload_n G.1.1 G.1.2.1 hd hi (aw_lg_at hl hx) (h _ _ _ hk _ _ _ _ _ _ _ _ _ _ _ _ _ _ G _ _ _ hS hl)
theorem s_lload {i : Nat} (hd : decode M.2.1 pc = .ok (.lload i, 2)) (h : aw_Sn l M xl X d kc ks Q (pc + 2) k) : aw_Sn l M xl X d kc ks Q pc (o_ll i k) := by
  intro L st C hk p e R s m args below meth c D cA ad N Z G H locs ls hS hl
  obtain ⟨x, hx, hk⟩ := e_fl hk
  exact lv_lload G.1.1 G.1.2.1 hd (aw_lg_at hl hx) (h _ _ _ hk _ _ _ _ _ _ _ _ _ _ _ _ _ _ G _ _ _ hS hl)
def o_al (i : Nat) (k : aw_Kt) : aw_Kt := fun L st C => p_fa (aw_lg L i) fun x => k L (.ref x :: st) C
theorem s_aload_n {n : Fin 4} {i : Nat} (hd : decode M.2.1 pc = .ok (.aload_n n, 1)) (hi : (n : Nat) = i) (h : aw_Sn l M xl X d kc ks Q (pc + 1) k) : aw_Sn l M xl X d kc ks Q pc (o_al i k) := by
  intro L st C hk p e R s m args below meth c D cA ad N Z G H locs ls hS hl
  obtain ⟨x, hx, hk⟩ := e_fa hk
  exact lv_aload_n G.1.1 G.1.2.1 hd hi (aw_lg_at hl hx) (h _ _ _ hk _ _ _ _ _ _ _ _ _ _ _ _ _ _ G _ _ _ hS hl)
theorem s_aload {i : Nat} (hd : decode M.2.1 pc = .ok (.aload i, 2)) (h : aw_Sn l M xl X d kc ks Q (pc + 2) k) : aw_Sn l M xl X d kc ks Q pc (o_al i k) := by
  intro L st C hk p e R s m args below meth c D cA ad N Z G H locs ls hS hl
  obtain ⟨x, hx, hk⟩ := e_fa hk
  exact lv_aload G.1.1 G.1.2.1 hd (aw_lg_at hl hx) (h _ _ _ hk _ _ _ _ _ _ _ _ _ _ _ _ _ _ G _ _ _ hS hl)
def o_is (i : Nat) (k : aw_Kt) : aw_Kt := fun L st C => p_i st fun x r => k (aw_l1 L i (.int x)) r C
theorem s_istore_n {n : Fin 4} {i : Nat} (hd : decode M.2.1 pc = .ok (.istore_n n, 1)) (hi : (n : Nat) = i) (hn : i < M.2.2.1) (h : aw_Sn l M xl X d kc ks Q (pc + 1) k) : aw_Sn l M xl X d kc ks Q pc (o_is i k) := by
  intro L st C hk p e R s m args below meth c D cA ad N Z G H locs ls hS hl
  obtain ⟨x, r, rfl, hk⟩ := e_i hk
  exact lv_istore_n G.1.1 G.1.2.1 hd hi hl hn rfl (fun ls hl => h _ _ _ hk _ _ _ _ _ _ _ _ _ _ _ _ _ _ G _ _ _ hS (aw_st1 (v := .int x) hl))
theorem s_istore {i : Nat} (hd : decode M.2.1 pc = .ok (.istore i, 2)) (hn : i < M.2.2.1) (h : aw_Sn l M xl X d kc ks Q (pc + 2) k) : aw_Sn l M xl X d kc ks Q pc (o_is i k) := by
  intro L st C hk p e R s m args below meth c D cA ad N Z G H locs ls hS hl
  obtain ⟨x, r, rfl, hk⟩ := e_i hk
  exact lv_istore G.1.1 G.1.2.1 hd hl hn rfl (fun ls hl => h _ _ _ hk _ _ _ _ _ _ _ _ _ _ _ _ _ _ G _ _ _ hS (aw_st1 (v := .int x) hl))
def o_ls (i : Nat) (k : aw_Kt) : aw_Kt := fun L st C => p_l st fun x r => k (aw_l2 L i (.long x)) r C
theorem s_lstore_n {n : Fin 4} {i : Nat} (hd : decode M.2.1 pc = .ok (.lstore_n n, 1)) (hi : (n : Nat) = i) (hn : i + 1 < M.2.2.1) (h : aw_Sn l M xl X d kc ks Q (pc + 1) k) : aw_Sn l M xl X d kc ks Q pc (o_ls i k) := by
  intro L st C hk p e R s m args below meth c D cA ad N Z G H locs ls hS hl
  obtain ⟨x, r, rfl, hk⟩ := e_l hk
  exact lv_lstore_n G.1.1 G.1.2.1 hd hi hl hn rfl (fun ls hl => h _ _ _ hk _ _ _ _ _ _ _ _ _ _ _ _ _ _ G _ _ _ hS (aw_st2 (v := .long x) hl))
theorem s_lstore {i : Nat} (hd : decode M.2.1 pc = .ok (.lstore i, 2)) (hn : i + 1 < M.2.2.1) (h : aw_Sn l M xl X d kc ks Q (pc + 2) k) : aw_Sn l M xl X d kc ks Q pc (o_ls i k) := by
  intro L st C hk p e R s m args below meth c D cA ad N Z G H locs ls hS hl
  obtain ⟨x, r, rfl, hk⟩ := e_l hk
  exact lv_lstore G.1.1 G.1.2.1 hd hl hn rfl (fun ls hl => h _ _ _ hk _ _ _ _ _ _ _ _ _ _ _ _ _ _ G _ _ _ hS (aw_st2 (v := .long x) hl))
def o_as (i : Nat) (k : aw_Kt) : aw_Kt := fun L st C => p_a st fun x r => k (aw_l1 L i (.ref x)) r C
theorem s_astore_n {n : Fin 4} {i : Nat} (hd : decode M.2.1 pc = .ok (.astore_n n, 1)) (hi : (n : Nat) = i) (hn : i < M.2.2.1) (h : aw_Sn l M xl X d kc ks Q (pc + 1) k) : aw_Sn l M xl X d kc ks Q pc (o_as i k) := by
  intro L st C hk p e R s m args below meth c D cA ad N Z G H locs ls hS hl
  obtain ⟨x, r, rfl, hk⟩ := e_a hk
  exact lv_astore_n G.1.1 G.1.2.1 hd hi hl hn rfl (fun ls hl => h _ _ _ hk _ _ _ _ _ _ _ _ _ _ _ _ _ _ G _ _ _ hS (aw_st1 (v := .ref x) hl))
def o_ii (i : Nat) (n : Int32) (k : aw_Kt) : aw_Kt := fun L st C => p_fi (aw_lg L i) fun x => k (aw_l1 L i (.int (x + n))) st C
theorem aw_al_pos {ad : Nat → Nat} {L : aw_L} {i : Nat} {v : Value} (h : aw_lg L i = some v) : ∃ k : Nat, (aw_al ad 0 L)[k]? = some (i, aw_cv ad v) := by
  unfold aw_lg at h
  split at h
  next w hw =>
    have e := Option.some.inj h
    subst e
    have hm : (0 + i, aw_cv ad w) ∈ aw_al ad 0 L := (aw_al_mem ad _ 0 _).mpr ⟨i, w, hw, rfl⟩
    rw [Nat.zero_add] at hm
    exact List.mem_iff_getElem?.mp hm
  next => cases h
theorem s_iinc {i : Nat} {n : Int} {v : Int32} (hd : decode M.2.1 pc = .ok (.iinc i n, 3)) (hn : i < M.2.2.1) (hv : Int32.ofInt n = v) (h : aw_Sn l M xl X d kc ks Q (pc + 3) k) : aw_Sn l M xl X d kc ks Q pc (o_ii i v k) := by
  intro L st C hk p e R s m args below meth c D cA ad N Z G H locs ls hS hl
  obtain ⟨x, hx, hk⟩ := e_fi hk
  obtain ⟨q, hq⟩ := aw_al_pos (ad := ad) hx
  subst hv
  exact lv_iinc G.1.1 G.1.2.1 hd hl hq rfl hn rfl (fun ls hl => h _ _ _ hk _ _ _ _ _ _ _ _ _ _ _ _ _ _ G _ _ _ hS (aw_st1 (v := .int (x + Int32.ofInt n)) hl))
def o_ib (f : Int32 → Int32 → Int32) (k : aw_Kt) : aw_Kt := fun L st C => p_i st fun y r => p_i r fun x r => k L (.int (f x y) :: r) C
theorem s_iadd (hd : decode M.2.1 pc = .ok (.iadd, 1)) (h : aw_Sn l M xl X d kc ks Q (pc + 1) k) : aw_Sn l M xl X d kc ks Q pc (o_ib (· + ·) k) := by
  intro L st C hk p e R s m args below meth c D cA ad N Z G H locs ls hS hl
  obtain ⟨y, r, rfl, hk1⟩ := e_i hk
  obtain ⟨x, r, rfl, hk2⟩ := e_i hk1
  exact lv_iadd G.1.1 G.1.2.1 hd (h _ _ _ hk2 _ _ _ _ _ _ _ _ _ _ _ _ _ _ G _ _ _ hS hl)
theorem s_isub (hd : decode M.2.1 pc = .ok (.isub, 1)) (h : aw_Sn l M xl X d kc ks Q (pc + 1) k) : aw_Sn l M xl X d kc ks Q pc (o_ib (· - ·) k) := by
  intro L st C hk p e R s m args below meth c D cA ad N Z G H locs ls hS hl
  obtain ⟨y, r, rfl, hk1⟩ := e_i hk
  obtain ⟨x, r, rfl, hk2⟩ := e_i hk1
  exact lv_isub G.1.1 G.1.2.1 hd (h _ _ _ hk2 _ _ _ _ _ _ _ _ _ _ _ _ _ _ G _ _ _ hS hl)
theorem s_imul (hd : decode M.2.1 pc = .ok (.imul, 1)) (h : aw_Sn l M xl X d kc ks Q (pc + 1) k) : aw_Sn l M xl X d kc ks Q pc (o_ib (· * ·) k) := by
  intro L st C hk p e R s m args below meth c D cA ad N Z G H locs ls hS hl
  obtain ⟨y, r, rfl, hk1⟩ := e_i hk
  obtain ⟨x, r, rfl, hk2⟩ := e_i hk1
  exact lv_imul G.1.1 G.1.2.1 hd (h _ _ _ hk2 _ _ _ _ _ _ _ _ _ _ _ _ _ _ G _ _ _ hS hl)
theorem s_iand (hd : decode M.2.1 pc = .ok (.iand, 1)) (h : aw_Sn l M xl X d kc ks Q (pc + 1) k) : aw_Sn l M xl X d kc ks Q pc (o_ib (· &&& ·) k) := by
  intro L st C hk p e R s m args below meth c D cA ad N Z G H locs ls hS hl
  obtain ⟨y, r, rfl, hk1⟩ := e_i hk
  obtain ⟨x, r, rfl, hk2⟩ := e_i hk1
  exact lv_iand G.1.1 G.1.2.1 hd (h _ _ _ hk2 _ _ _ _ _ _ _ _ _ _ _ _ _ _ G _ _ _ hS hl)
theorem s_ior (hd : decode M.2.1 pc = .ok (.ior, 1)) (h : aw_Sn l M xl X d kc ks Q (pc + 1) k) : aw_Sn l M xl X d kc ks Q pc (o_ib (· ||| ·) k) := by
  intro L st C hk p e R s m args below meth c D cA ad N Z G H locs ls hS hl
  obtain ⟨y, r, rfl, hk1⟩ := e_i hk
  obtain ⟨x, r, rfl, hk2⟩ := e_i hk1
  exact lv_ior G.1.1 G.1.2.1 hd (h _ _ _ hk2 _ _ _ _ _ _ _ _ _ _ _ _ _ _ G _ _ _ hS hl)
theorem s_ixor (hd : decode M.2.1 pc = .ok (.ixor, 1)) (h : aw_Sn l M xl X d kc ks Q (pc + 1) k) : aw_Sn l M xl X d kc ks Q pc (o_ib (· ^^^ ·) k) := by
  intro L st C hk p e R s m args below meth c D cA ad N Z G H locs ls hS hl
  obtain ⟨y, r, rfl, hk1⟩ := e_i hk
  obtain ⟨x, r, rfl, hk2⟩ := e_i hk1
  exact lv_ixor G.1.1 G.1.2.1 hd (h _ _ _ hk2 _ _ _ _ _ _ _ _ _ _ _ _ _ _ G _ _ _ hS hl)
def o_dv (k : aw_Kt) : aw_Kt := fun L st C => p_i st fun y r => p_i r fun x r => (¬ y = 0) ∧ k L (.int (x / y) :: r) C
theorem s_idiv (hd : decode M.2.1 pc = .ok (.idiv, 1)) (h : aw_Sn l M xl X d kc ks Q (pc + 1) k) : aw_Sn l M xl X d kc ks Q pc (o_dv k) := by
  intro L st C hk p e R s m args below meth c D cA ad N Z G H locs ls hS hl
  obtain ⟨y, r, rfl, hk1⟩ := e_i hk
  obtain ⟨x, r, rfl, hy, hk2⟩ := e_i hk1
  exact lv_idiv G.1.1 G.1.2.1 hd hy (h _ _ _ hk2 _ _ _ _ _ _ _ _ _ _ _ _ _ _ G _ _ _ hS hl)
def o_rm (k : aw_Kt) : aw_Kt := fun L st C => p_i st fun y r => p_i r fun x r => (¬ y = 0) ∧ k L (.int (x - x / y * y) :: r) C
theorem s_irem (hd : decode M.2.1 pc = .ok (.irem, 1)) (h : aw_Sn l M xl X d kc ks Q (pc + 1) k) : aw_Sn l M xl X d kc ks Q pc (o_rm k) := by
  intro L st C hk p e R s m args below meth c D cA ad N Z G H locs ls hS hl
  obtain ⟨y, r, rfl, hk1⟩ := e_i hk
  obtain ⟨x, r, rfl, hy, hk2⟩ := e_i hk1
  exact lv_irem G.1.1 G.1.2.1 hd hy (h _ _ _ hk2 _ _ _ _ _ _ _ _ _ _ _ _ _ _ G _ _ _ hS hl)
def o_ng (k : aw_Kt) : aw_Kt := fun L st C => p_i st fun x r => k L (.int (-x) :: r) C
theorem s_ineg (hd : decode M.2.1 pc = .ok (.ineg, 1)) (h : aw_Sn l M xl X d kc ks Q (pc + 1) k) : aw_Sn l M xl X d kc ks Q pc (o_ng k) := by
  intro L st C hk p e R s m args below meth c D cA ad N Z G H locs ls hS hl
  obtain ⟨x, r, rfl, hk⟩ := e_i hk
  exact lv_ineg G.1.1 G.1.2.1 hd (h _ _ _ hk _ _ _ _ _ _ _ _ _ _ _ _ _ _ G _ _ _ hS hl)
def o_lb (f : Int64 → Int64 → Int64) (k : aw_Kt) : aw_Kt := fun L st C => p_l st fun y r => p_l r fun x r => k L (.long (f x y) :: r) C
theorem s_ladd (hd : decode M.2.1 pc = .ok (.ladd, 1)) (h : aw_Sn l M xl X d kc ks Q (pc + 1) k) : aw_Sn l M xl X d kc ks Q pc (o_lb (· + ·) k) := by
  intro L st C hk p e R s m args below meth c D cA ad N Z G H locs ls hS hl
  obtain ⟨y, r, rfl, hk1⟩ := e_l hk
  obtain ⟨x, r, rfl, hk2⟩ := e_l hk1
  exact lv_ladd G.1.1 G.1.2.1 hd (h _ _ _ hk2 _ _ _ _ _ _ _ _ _ _ _ _ _ _ G _ _ _ hS hl)
theorem s_lsub (hd : decode M.2.1 pc = .ok (.lsub, 1)) (h : aw_Sn l M xl X d kc ks Q (pc + 1) k) : aw_Sn l M xl X d kc ks Q pc (o_lb (· - ·) k) := by
  intro L st C hk p e R s m args below meth c D cA ad N Z G H locs ls hS hl
  obtain ⟨y, r, rfl, hk1⟩ := e_l hk
  obtain ⟨x, r, rfl, hk2⟩ := e_l hk1
  exact lv_lsub G.1.1 G.1.2.1 hd (h _ _ _ hk2 _ _ _ _ _ _ _ _ _ _ _ _ _ _ G _ _ _ hS hl)
theorem s_lmul (hd : decode M.2.1 pc = .ok (.lmul, 1)) (h : aw_Sn l M xl X d kc ks Q (pc + 1) k) : aw_Sn l M xl X d kc ks Q pc (o_lb (· * ·) k) := by
  intro L st C hk p e R s m args below meth c D cA ad N Z G H locs ls hS hl
  obtain ⟨y, r, rfl, hk1⟩ := e_l hk
  obtain ⟨x, r, rfl, hk2⟩ := e_l hk1
  exact lv_lmul G.1.1 G.1.2.1 hd (h _ _ _ hk2 _ _ _ _ _ _ _ _ _ _ _ _ _ _ G _ _ _ hS hl)
def o_ld (k : aw_Kt) : aw_Kt := fun L st C => p_l st fun y r => p_l r fun x r => (¬ y = 0) ∧ k L (.long (x / y) :: r) C
theorem s_ldiv (hd : decode M.2.1 pc = .ok (.ldiv, 1)) (h : aw_Sn l M xl X d kc ks Q (pc + 1) k) : aw_Sn l M xl X d kc ks Q pc (o_ld k) := by
  intro L st C hk p e R s m args below meth c D cA ad N Z G H locs ls hS hl
  obtain ⟨y, r, rfl, hk1⟩ := e_l hk
  obtain ⟨x, r, rfl, hy, hk2⟩ := e_l hk1
  exact lv_ldiv G.1.1 G.1.2.1 hd hy (h _ _ _ hk2 _ _ _ _ _ _ _ _ _ _ _ _ _ _ G _ _ _ hS hl)
def o_lr (k : aw_Kt) : aw_Kt := fun L st C => p_l st fun y r => p_l r fun x r => (¬ y = 0) ∧ k L (.long (x - x / y * y) :: r) C
theorem s_lrem (hd : decode M.2.1 pc = .ok (.lrem, 1)) (h : aw_Sn l M xl X d kc ks Q (pc + 1) k) : aw_Sn l M xl X d kc ks Q pc (o_lr k) := by
  intro L st C hk p e R s m args below meth c D cA ad N Z G H locs ls hS hl
  obtain ⟨y, r, rfl, hk1⟩ := e_l hk
  obtain ⟨x, r, rfl, hy, hk2⟩ := e_l hk1
  exact lv_lrem G.1.1 G.1.2.1 hd hy (h _ _ _ hk2 _ _ _ _ _ _ _ _ _ _ _ _ _ _ G _ _ _ hS hl)
def o_ln (k : aw_Kt) : aw_Kt := fun L st C => p_l st fun x r => k L (.long (-x) :: r) C
theorem s_lneg (hd : decode M.2.1 pc = .ok (.lneg, 1)) (h : aw_Sn l M xl X d kc ks Q (pc + 1) k) : aw_Sn l M xl X d kc ks Q pc (o_ln k) := by
  intro L st C hk p e R s m args below meth c D cA ad N Z G H locs ls hS hl
  obtain ⟨x, r, rfl, hk⟩ := e_l hk
  exact lv_lneg G.1.1 G.1.2.1 hd (h _ _ _ hk _ _ _ _ _ _ _ _ _ _ _ _ _ _ G _ _ _ hS hl)
def o_i2 (k : aw_Kt) : aw_Kt := fun L st C => p_i st fun x r => k L (.long x.toInt64 :: r) C
theorem s_i2l (hd : decode M.2.1 pc = .ok (.i2l, 1)) (h : aw_Sn l M xl X d kc ks Q (pc + 1) k) : aw_Sn l M xl X d kc ks Q pc (o_i2 k) := by
  intro L st C hk p e R s m args below meth c D cA ad N Z G H locs ls hS hl
  obtain ⟨x, r, rfl, hk⟩ := e_i hk
  exact lv_i2l G.1.1 G.1.2.1 hd rfl (h _ _ _ hk _ _ _ _ _ _ _ _ _ _ _ _ _ _ G _ _ _ hS hl)
def o_cm (k : aw_Kt) : aw_Kt := fun L st C => p_l st fun y r => p_l r fun x r => k L (.int (lg_cmp x y) :: r) C
theorem s_lcmp (hd : decode M.2.1 pc = .ok (.lcmp, 1)) (h : aw_Sn l M xl X d kc ks Q (pc + 1) k) : aw_Sn l M xl X d kc ks Q pc (o_cm k) := by
  intro L st C hk p e R s m args below meth c D cA ad N Z G H locs ls hS hl
  obtain ⟨y, r, rfl, hk1⟩ := e_l hk
  obtain ⟨x, r, rfl, hk2⟩ := e_l hk1
  exact W.lcmp G.1.1 G.1.2.1 hd (h _ _ _ hk2 _ _ _ _ _ _ _ _ _ _ _ _ _ _ G _ _ _ hS hl)
def o_dp (k : aw_Kt) : aw_Kt := fun L st C => p_v st fun x r => k L (x :: x :: r) C
theorem s_dup (hd : decode M.2.1 pc = .ok (.dup, 1)) (h : aw_Sn l M xl X d kc ks Q (pc + 1) k) : aw_Sn l M xl X d kc ks Q pc (o_dp k) := by
  intro L st C hk p e R s m args below meth c D cA ad N Z G H locs ls hS hl
  obtain ⟨x, r, rfl, hc, hk⟩ := e_v hk
  exact lv_dup G.1.1 G.1.2.1 hd (by rw [aw_cv_cat]; exact hc) (h _ _ _ hk _ _ _ _ _ _ _ _ _ _ _ _ _ _ G _ _ _ hS hl)
def o_px (k : aw_Kt) : aw_Kt := fun L st C => p_v st fun x r => k L r C
theorem s_pop (hd : decode M.2.1 pc = .ok (.pop, 1)) (h : aw_Sn l M xl X d kc ks Q (pc + 1) k) : aw_Sn l M xl X d kc ks Q pc (o_px k) := by
  intro L st C hk p e R s m args below meth c D cA ad N Z G H locs ls hS hl
  obtain ⟨x, r, rfl, hc, hk⟩ := e_v hk
  exact lv_pop G.1.1 G.1.2.1 hd (by rw [aw_cv_cat]; exact hc) (h _ _ _ hk _ _ _ _ _ _ _ _ _ _ _ _ _ _ G _ _ _ hS hl)
def o_d1 (k : aw_Kt) : aw_Kt := fun L st C => p_v st fun x r => p_v r fun y r => k L (x :: y :: x :: r) C
theorem s_dup_x1 (hd : decode M.2.1 pc = .ok (.dup_x1, 1)) (h : aw_Sn l M xl X d kc ks Q (pc + 1) k) : aw_Sn l M xl X d kc ks Q pc (o_d1 k) := by
  intro L st C hk p e R s m args below meth c D cA ad N Z G H locs ls hS hl
  obtain ⟨x, r, rfl, hc, hk1⟩ := e_v hk
  obtain ⟨y, r, rfl, hc2, hk2⟩ := e_v hk1
  exact lv_dup_x1 G.1.1 G.1.2.1 hd (by rw [aw_cv_cat]; exact hc) (by rw [aw_cv_cat]; exact hc2) (h _ _ _ hk2 _ _ _ _ _ _ _ _ _ _ _ _ _ _ G _ _ _ hS hl)
def o_d2 (k : aw_Kt) : aw_Kt := fun L st C => p_v st fun x r => p_v r fun y r => k L (x :: y :: x :: y :: r) C
theorem s_dup2 (hd : decode M.2.1 pc = .ok (.dup2, 1)) (h : aw_Sn l M xl X d kc ks Q (pc + 1) k) : aw_Sn l M xl X d kc ks Q pc (o_d2 k) := by
  intro L st C hk p e R s m args below meth c D cA ad N Z G H locs ls hS hl
  obtain ⟨x, r, rfl, hc, hk1⟩ := e_v hk
  obtain ⟨y, r, rfl, hc2, hk2⟩ := e_v hk1
  exact lv_dup2_11 G.1.1 G.1.2.1 hd (by rw [aw_cv_cat]; exact hc) (by rw [aw_cv_cat]; exact hc2) (h _ _ _ hk2 _ _ _ _ _ _ _ _ _ _ _ _ _ _ G _ _ _ hS hl)
theorem s_goto {off : Int} {tgt : Nat} (hd : decode M.2.1 pc = .ok (.goto off, 3)) (ht : (pc : Int) + off = (tgt : Int)) (h : aw_Sn l M xl X d kc ks Q tgt k) : aw_Sn l M xl X d kc ks Q pc k := by
  intro L st C hk p e R s m args below meth c D cA ad N Z G H locs ls hS hl
  exact lv_goto G.1.1 G.1.2.1 hd ht (h _ _ _ hk _ _ _ _ _ _ _ _ _ _ _ _ _ _ G _ _ _ hS hl)
/-- a branch: the first where the condition holds -/
def o_if (c : Int32 → Prop) (kt kf : aw_Kt) : aw_Kt := fun L st C => p_i st fun x r => (c x → kt L r C) ∧ (¬ c x → kf L r C)
def o_i3 (c : Int32 → Int32 → Prop) (kt kf : aw_Kt) : aw_Kt := fun L st C => p_i st fun y r => p_i r fun x r => (c x y → kt L r C) ∧ (¬ c x y → kf L r C)
theorem s_if_eq {off : Int} {tgt : Nat} (hd : decode M.2.1 pc = .ok (.ifCond .eq off, 3)) (ht : (pc : Int) + off = (tgt : Int)) (h1 : aw_Sn l M xl X d kc ks Q tgt kt) (h2 : aw_Sn l M xl X d kc ks Q (pc + 3) kf) : aw_Sn l M xl X d kc ks Q pc (o_if (fun x => x = 0) kt kf) := by
  intro L st C hk p e R s m args below meth c D cA ad N Z G H locs ls hS hl
  obtain ⟨x, r, rfl, hk⟩ := e_i hk
  exact lv_if_eq G.1.1 G.1.2.1 hd ht (fun q => h1 _ _ _ (hk.1 q) _ _ _ _ _ _ _ _ _ _ _ _ _ _ G _ _ _ hS hl) (fun q => h2 _ _ _ (hk.2 q) _ _ _ _ _ _ _ _ _ _ _ _ _ _ G _ _ _ hS hl)
theorem s_if_ne {off : Int} {tgt : Nat} (hd : decode M.2.1 pc = .ok (.ifCond .ne off, 3)) (ht : (pc : Int) + off = (tgt : Int)) (h1 : aw_Sn l M xl X d kc ks Q (pc + 3) kt) (h2 : aw_Sn l M xl X d kc ks Q tgt kf) : aw_Sn l M xl X d kc ks Q pc (o_if (fun x => x = 0) kt kf) := by
  intro L st C hk p e R s m args below meth c D cA ad N Z G H locs ls hS hl
  obtain ⟨x, r, rfl, hk⟩ := e_i hk
  exact lv_if_ne G.1.1 G.1.2.1 hd ht (fun q => h2 _ _ _ (hk.2 q) _ _ _ _ _ _ _ _ _ _ _ _ _ _ G _ _ _ hS hl) (fun q => h1 _ _ _ (hk.1 q) _ _ _ _ _ _ _ _ _ _ _ _ _ _ G _ _ _ hS hl)
theorem s_if_lt {off : Int} {tgt : Nat} (hd : decode M.2.1 pc = .ok (.ifCond .lt off, 3)) (ht : (pc : Int) + off = (tgt : Int)) (h1 : aw_Sn l M xl X d kc ks Q tgt kt) (h2 : aw_Sn l M xl X d kc ks Q (pc + 3) kf) : aw_Sn l M xl X d kc ks Q pc (o_if (fun x => x < 0) kt kf) := by
  intro L st C hk p e R s m args below meth c D cA ad N Z G H locs ls hS hl
  obtain ⟨x, r, rfl, hk⟩ := e_i hk
  exact lv_if_lt G.1.1 G.1.2.1 hd ht (fun q => h1 _ _ _ (hk.1 q) _ _ _ _ _ _ _ _ _ _ _ _ _ _ G _ _ _ hS hl) (fun q => h2 _ _ _ (hk.2 q) _ _ _ _ _ _ _ _ _ _ _ _ _ _ G _ _ _ hS hl)
theorem s_if_ge {off : Int} {tgt : Nat} (hd : decode M.2.1 pc = .ok (.ifCond .ge off, 3)) (ht : (pc : Int) + off = (tgt : Int)) (h1 : aw_Sn l M xl X d kc ks Q tgt kt) (h2 : aw_Sn l M xl X d kc ks Q (pc + 3) kf) : aw_Sn l M xl X d kc ks Q pc (o_if (fun x => 0 ≤ x) kt kf) := by
  intro L st C hk p e R s m args below meth c D cA ad N Z G H locs ls hS hl
  obtain ⟨x, r, rfl, hk⟩ := e_i hk
  exact lv_if_ge G.1.1 G.1.2.1 hd ht (fun q => h1 _ _ _ (hk.1 q) _ _ _ _ _ _ _ _ _ _ _ _ _ _ G _ _ _ hS hl) (fun q => h2 _ _ _ (hk.2 q) _ _ _ _ _ _ _ _ _ _ _ _ _ _ G _ _ _ hS hl)
theorem s_if_gt {off : Int} {tgt : Nat} (hd : decode M.2.1 pc = .ok (.ifCond .gt off, 3)) (ht : (pc : Int) + off = (tgt : Int)) (h1 : aw_Sn l M xl X d kc ks Q tgt kt) (h2 : aw_Sn l M xl X d kc ks Q (pc + 3) kf) : aw_Sn l M xl X d kc ks Q pc (o_if (fun x => 0 < x) kt kf) := by
  intro L st C hk p e R s m args below meth c D cA ad N Z G H locs ls hS hl
  obtain ⟨x, r, rfl, hk⟩ := e_i hk
  exact lv_if_gt G.1.1 G.1.2.1 hd ht (fun q => h1 _ _ _ (hk.1 q) _ _ _ _ _ _ _ _ _ _ _ _ _ _ G _ _ _ hS hl) (fun q => h2 _ _ _ (hk.2 q) _ _ _ _ _ _ _ _ _ _ _ _ _ _ G _ _ _ hS hl)
theorem s_if_le {off : Int} {tgt : Nat} (hd : decode M.2.1 pc = .ok (.ifCond .le off, 3)) (ht : (pc : Int) + off = (tgt : Int)) (h1 : aw_Sn l M xl X d kc ks Q tgt kt) (h2 : aw_Sn l M xl X d kc ks Q (pc + 3) kf) : aw_Sn l M xl X d kc ks Q pc (o_if (fun x => x ≤ 0) kt kf) := by
  intro L st C hk p e R s m args below meth c D cA ad N Z G H locs ls hS hl
  obtain ⟨x, r, rfl, hk⟩ := e_i hk
  exact lv_if_le G.1.1 G.1.2.1 hd ht (fun q => h1 _ _ _ (hk.1 q) _ _ _ _ _ _ _ _ _ _ _ _ _ _ G _ _ _ hS hl) (fun q => h2 _ _ _ (hk.2 q) _ _ _ _ _ _ _ _ _ _ _ _ _ _ G _ _ _ hS hl)
theorem s_icmp_eq {off : Int} {tgt : Nat} (hd : decode M.2.1 pc = .ok (.if_icmp .eq off, 3)) (ht : (pc : Int) + off = (tgt : Int)) (h1 : aw_Sn l M xl X d kc ks Q tgt kt) (h2 : aw_Sn l M xl X d kc ks Q (pc + 3) kf) : aw_Sn l M xl X d kc ks Q pc (o_i3 (fun x y => x = y) kt kf) := by
  intro L st C hk p e R s m args below meth c D cA ad N Z G H locs ls hS hl
  obtain ⟨y, r, rfl, hk1⟩ := e_i hk
  obtain ⟨x, r, rfl, hk2⟩ := e_i hk1
  exact lv_icmp_eq G.1.1 G.1.2.1 hd ht (fun q => h1 _ _ _ (hk2.1 q) _ _ _ _ _ _ _ _ _ _ _ _ _ _ G _ _ _ hS hl) (fun q => h2 _ _ _ (hk2.2 q) _ _ _ _ _ _ _ _ _ _ _ _ _ _ G _ _ _ hS hl)
theorem s_icmp_ne {off : Int} {tgt : Nat} (hd : decode M.2.1 pc = .ok (.if_icmp .ne off, 3)) (ht : (pc : Int) + off = (tgt : Int)) (h1 : aw_Sn l M xl X d kc ks Q (pc + 3) kt) (h2 : aw_Sn l M xl X d kc ks Q tgt kf) : aw_Sn l M xl X d kc ks Q pc (o_i3 (fun x y => x = y) kt kf) := by
  intro L st C hk p e R s m args below meth c D cA ad N Z G H locs ls hS hl
  obtain ⟨y, r, rfl, hk1⟩ := e_i hk
  obtain ⟨x, r, rfl, hk2⟩ := e_i hk1
  exact lv_icmp_ne G.1.1 G.1.2.1 hd ht (fun q => h2 _ _ _ (hk2.2 q) _ _ _ _ _ _ _ _ _ _ _ _ _ _ G _ _ _ hS hl) (fun q => h1 _ _ _ (hk2.1 q) _ _ _ _ _ _ _ _ _ _ _ _ _ _ G _ _ _ hS hl)
theorem s_icmp_lt {off : Int} {tgt : Nat} (hd : decode M.2.1 pc = .ok (.if_icmp .lt off, 3)) (ht : (pc : Int) + off = (tgt : Int)) (h1 : aw_Sn l M xl X d kc ks Q tgt kt) (h2 : aw_Sn l M xl X d kc ks Q (pc + 3) kf) : aw_Sn l M xl X d kc ks Q pc (o_i3 (fun x y => x < y) kt kf) := by
  intro L st C hk p e R s m args below meth c D cA ad N Z G H locs ls hS hl
  obtain ⟨y, r, rfl, hk1⟩ := e_i hk
  obtain ⟨x, r, rfl, hk2⟩ := e_i hk1
  exact lv_icmp_lt G.1.1 G.1.2.1 hd ht (fun q => h1 _ _ _ (hk2.1 q) _ _ _ _ _ _ _ _ _ _ _ _ _ _ G _ _ _ hS hl) (fun q => h2 _ _ _ (hk2.2 q) _ _ _ _ _ _ _ _ _ _ _ _ _ _ G _ _ _ hS hl)
theorem s_icmp_ge {off : Int} {tgt : Nat} (hd : decode M.2.1 pc = .ok (.if_icmp .ge off, 3)) (ht : (pc : Int) + off = (tgt : Int)) (h1 : aw_Sn l M xl X d kc ks Q tgt kt) (h2 : aw_Sn l M xl X d kc ks Q (pc + 3) kf) : aw_Sn l M xl X d kc ks Q pc (o_i3 (fun x y => y ≤ x) kt kf) := by
  intro L st C hk p e R s m args below meth c D cA ad N Z G H locs ls hS hl
  obtain ⟨y, r, rfl, hk1⟩ := e_i hk
  obtain ⟨x, r, rfl, hk2⟩ := e_i hk1
  exact lv_icmp_ge G.1.1 G.1.2.1 hd ht (fun q => h1 _ _ _ (hk2.1 q) _ _ _ _ _ _ _ _ _ _ _ _ _ _ G _ _ _ hS hl) (fun q => h2 _ _ _ (hk2.2 q) _ _ _ _ _ _ _ _ _ _ _ _ _ _ G _ _ _ hS hl)
theorem s_icmp_gt {off : Int} {tgt : Nat} (hd : decode M.2.1 pc = .ok (.if_icmp .gt off, 3)) (ht : (pc : Int) + off = (tgt : Int)) (h1 : aw_Sn l M xl X d kc ks Q tgt kt) (h2 : aw_Sn l M xl X d kc ks Q (pc + 3) kf) : aw_Sn l M xl X d kc ks Q pc (o_i3 (fun x y => y < x) kt kf) := by
  intro L st C hk p e R s m args below meth c D cA ad N Z G H locs ls hS hl
  obtain ⟨y, r, rfl, hk1⟩ := e_i hk
  obtain ⟨x, r, rfl, hk2⟩ := e_i hk1
  exact lv_icmp_gt G.1.1 G.1.2.1 hd ht (fun q => h1 _ _ _ (hk2.1 q) _ _ _ _ _ _ _ _ _ _ _ _ _ _ G _ _ _ hS hl) (fun q => h2 _ _ _ (hk2.2 q) _ _ _ _ _ _ _ _ _ _ _ _ _ _ G _ _ _ hS hl)
theorem s_icmp_le {off : Int} {tgt : Nat} (hd : decode M.2.1 pc = .ok (.if_icmp .le off, 3)) (ht : (pc : Int) + off = (tgt : Int)) (h1 : aw_Sn l M xl X d kc ks Q tgt kt) (h2 : aw_Sn l M xl X d kc ks Q (pc + 3) kf) : aw_Sn l M xl X d kc ks Q pc (o_i3 (fun x y => x ≤ y) kt kf) := by
  intro L st C hk p e R s m args below meth c D cA ad N Z G H locs ls hS hl
  obtain ⟨y, r, rfl, hk1⟩ := e_i hk
  obtain ⟨x, r, rfl, hk2⟩ := e_i hk1
  exact lv_icmp_le G.1.1 G.1.2.1 hd ht (fun q => h1 _ _ _ (hk2.1 q) _ _ _ _ _ _ _ _ _ _ _ _ _ _ G _ _ _ hS hl) (fun q => h2 _ _ _ (hk2.2 q) _ _ _ _ _ _ _ _ _ _ _ _ _ _ G _ _ _ hS hl)
end AWO
