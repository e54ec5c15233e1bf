/-! A STEP OF THE SMALL MACHINE IS A STEP OF THE MACHINE -/
theorem mq_bmod {z : Int} (h1 : -2147483648 ≤ z) (h2 : z < 2147483648) : z.bmod (2 ^ 32) = z := by
  simp only [Int.bmod]; split <;> omega
theorem mq_rem (x y : Int32) : x - x / y * y = x % y := by
  apply Int32.toInt_inj.mp
  have hb : (x % y).toInt.bmod (2 ^ 32) = (x % y).toInt := mq_bmod (Int32.le_toInt _) (Int32.toInt_lt _)
  rw [← hb, Int32.toInt_sub, Int32.toInt_mul, Int32.toInt_div, Int32.toInt_mod, Int.bmod_mul_bmod, Int.sub_bmod_bmod, Int.tmod_def, Int.mul_comm]
theorem mq_nx_inv {pc pc' : Nat} {ls ls' st st' : List Value} {h h' : mq_H} (e : mq_nx pc ls st h = some (.inl (pc', ls', st', h'))) : pc = pc' ∧ ls = ls' ∧ st = st' ∧ h = h' := by
  unfold mq_nx at e
  simp only [Option.some.injEq, Sum.inl.injEq, Prod.mk.injEq] at e
  exact e
theorem mq_ite_inv {c : Prop} [Decidable c] {x : Option mq_O} {o : mq_O} (e : (if c then x else none) = some o) : c ∧ x = some o := by
  split at e
  next h => exact ⟨h, e⟩
  next => cases e
theorem mq_itn_inv {c : Prop} [Decidable c] {x : Option mq_O} {o : mq_O} (e : (if c then none else x) = some o) : ¬ c ∧ x = some o := by
  split at e
  next => cases e
  next h => exact ⟨h, e⟩
theorem mq_arr_inv {h : mq_H} {k : Nat} {a : Bool × Nat × (Nat → Int32)} (e : mq_arr h k = some a) : k < h.2.1 ∧ h.1 k = .inl a := by
  unfold mq_arr at e
  split at e
  next hk =>
    split at e
    next a' ea => cases e; exact ⟨hk, ea⟩
    next => cases e
  next => cases e
theorem mq_arrR_inv {h : mq_H} {k : Nat} {a : Bool × Nat × (Nat → Int32)} (e : mq_arrR h k = some a) : (k < h.2.1 ∨ k = mq_SCR) ∧ h.1 k = .inl a := by
  unfold mq_arrR at e
  split at e
  next hk =>
    split at e
    next a' ea => cases e; exact ⟨hk, ea⟩
    next => cases e
  next => cases e
theorem mq_obj_inv {h : mq_H} {k : Nat} {a : Nat × List Value} (e : mq_obj h k = some a) : k < h.2.1 ∧ h.1 k = .inr a := by
  unfold mq_obj at e
  split at e
  next hk =>
    split at e
    next => cases e
    next a' ea => cases e; exact ⟨hk, ea⟩
  next => cases e
theorem mq_ok_inv {m pc : Nat} {i : Instr} {npc t : Nat} {v : Value} (h : mq_ce m pc (some (i, npc, t, v)) = true) : decode (mq_b m) pc = .ok (i, npc - pc) ∧ pc ≤ npc ∧ mq_chk m pc (i, npc, t, v) = true := by
  simp only [mq_ce, Bool.and_eq_true, decide_eq_true_eq] at h
  exact ⟨h.1.1, h.1.2, h.2⟩
theorem mq_len_inv {pc npc n : Nat} {x : Bool} {y : Bool} (hn : n ≠ 0) (h : ((n == 0 || npc == pc + n) && x) = y) (hy : y = true) : npc = pc + n ∧ x = true := by
  subst hy
  simp only [Bool.and_eq_true, Bool.or_eq_true, beq_iff_eq] at h
  exact ⟨h.1.elim (fun z => absurd z hn) id, h.2⟩
section MQ1
variable {p : Program} {l : Launch} {e : Env} {R : Room} {s : State} {mm : MethodId} {args : Array Value} {below : List Frame} {meth : Method} {c : Code} {H : Heap} {locs : List Loc} {cells slots : Nat} {Q : State → Prop}
variable {D : va_G} {cI cB : ClassId} {base b L : Nat} {xs : Nat → Int32}
variable {m pc d : Nat} {npc t : Nat} {v : Value} {ls st ls' st' : List Value} {h h1 : mq_H} {pc' : Nat} {LS : Array Slot}
/-- what is given at a step -/
abbrev mq_Cx (p : Program) (R : Room) (s : State) (mm : MethodId) (args : Array Value) (meth : Method) (c : Code) (m d : Nat) : Prop :=
  p.tables.exec = Jvm.exec ∧ c.code = mq_b m ∧ c.maxLocals = mq_ml m ∧ s.vm.findClass (mq_cn (mq_own m)) = some mm.cls ∧ (∀ w ∈ mq_tb, w.before args s = true) ∧ (mq_kd m = 1 → meth.name = "<init>") ∧ d ≤ R.frames ∧ 64 * d ≤ R.locals
abbrev mq_K (p : Program) (l : Launch) (e : Env) (R : Room) (s : State) (mm : MethodId) (args : Array Value) (below : List Frame) (meth : Method) (c : Code) (cells slots : Nat) (Q : State → Prop) (D : va_G) (cI cB : ClassId) (base b L : Nat) (xs : Nat → Int32) (m pc' : Nat) (ls' st' : List Value) (h h1 : mq_H) : Prop :=
  ∀ (LS' : Array Slot) (H' : Heap) (locs' : List Loc), mq_L base b LS' (mq_ml m) ls' → mq_IV D cI cB base b L xs h1 H' → va_S (fun q : Nat => base ≤ q) s.heap H' locs' →
    W p l e R s mm args below meth c H' locs' (cells + (h1.2.1 - h.2.1)) (slots + (h1.2.2 - h.2.2)) Q (F0 mm pc' LS' (st'.map (mq_cv base b)))
theorem mq_K.same (k : mq_K p l e R s mm args below meth c cells slots Q D cI cB base b L xs m pc' ls' st' h h1) (e2 : h1.2 = h.2) {LS' : Array Slot} {H' : Heap} {locs' : List Loc} (a : mq_L base b LS' (mq_ml m) ls') (i : mq_IV D cI cB base b L xs h1 H') (f : va_S (fun q : Nat => base ≤ q) s.heap H' locs') :
    W p l e R s mm args below meth c H' locs' cells slots Q (F0 mm pc' LS' (st'.map (mq_cv base b))) := by
  have := k LS' H' locs' a i f
  rw [e2, Nat.sub_self, Nat.sub_self] at this
  exact this
theorem mq_w_iload_n {j : Fin 4} (C0 : mq_Cx p R s mm args meth c m d) (hok : mq_ce m pc (some (.iload_n j, npc, t, v)) = true) (hs : mq_step d pc (.iload_n j, npc, t, v) ls st h = some (.inl (pc', ls', st', h1)))
    (hT : mq_ST D cI cB base b L xs s) (hI : mq_IV D cI cB base b L xs h H) (hS : va_S (fun q : Nat => base ≤ q) s.heap H locs) (hL : mq_L base b LS (mq_ml m) ls) (hEq : s.heap.size + cells = base + h.2.1) (hcc : cells + (h1.2.1 - h.2.1) ≤ R.cells) (hcs : slots + (h1.2.2 - h.2.2) ≤ R.slots)
    (k : mq_K p l e R s mm args below meth c cells slots Q D cI cB base b L xs m pc' ls' st' h h1) : W p l e R s mm args below meth c H locs cells slots Q (F0 mm pc LS (st.map (mq_cv base b))) := by
  obtain ⟨hx, hb, hml, hown, hts, hin, hdf, hdl⟩ := C0
  obtain ⟨hdg, hle, hck0⟩ := mq_ok_inv hok
  obtain ⟨hnpc, hck⟩ := mq_len_inv (n := 1) (by decide) hck0 rfl
  subst hnpc
  rw [Nat.add_sub_cancel_left] at hdg
  dsimp only [mq_step] at hs
  split at hs
  next x ex =>
    obtain ⟨rfl, rfl, rfl, rfl⟩ := mq_nx_inv hs
    exact lv_iload_n hx hb hdg (beq_iff_eq.mp hck) (hL.at ex rfl) (mq_K.same k rfl hL hI hS)
  next => cases hs
theorem mq_w_iload {j : Nat} (C0 : mq_Cx p R s mm args meth c m d) (hok : mq_ce m pc (some (.iload j, npc, t, v)) = true) (hs : mq_step d pc (.iload j, npc, t, v) ls st h = some (.inl (pc', ls', st', h1)))
    (hT : mq_ST D cI cB base b L xs s) (hI : mq_IV D cI cB base b L xs h H) (hS : va_S (fun q : Nat => base ≤ q) s.heap H locs) (hL : mq_L base b LS (mq_ml m) ls) (hEq : s.heap.size + cells = base + h.2.1) (hcc : cells + (h1.2.1 - h.2.1) ≤ R.cells) (hcs : slots + (h1.2.2 - h.2.2) ≤ R.slots)
    (k : mq_K p l e R s mm args below meth c cells slots Q D cI cB base b L xs m pc' ls' st' h h1) : W p l e R s mm args below meth c H locs cells slots Q (F0 mm pc LS (st.map (mq_cv base b))) := by
  obtain ⟨hx, hb, hml, hown, hts, hin, hdf, hdl⟩ := C0
  obtain ⟨hdg, hle, hck0⟩ := mq_ok_inv hok
  obtain ⟨hnpc, hck⟩ := mq_len_inv (n := 2) (by decide) hck0 rfl
  subst hnpc
  rw [Nat.add_sub_cancel_left] at hdg
  obtain rfl := beq_iff_eq.mp hck
  dsimp only [mq_step] at hs
  split at hs
  next x ex =>
    obtain ⟨rfl, rfl, rfl, rfl⟩ := mq_nx_inv hs
    exact lv_iload hx hb hdg (hL.at ex rfl) (mq_K.same k rfl hL hI hS)
  next => cases hs
theorem mq_w_aload_n {j : Fin 4} (C0 : mq_Cx p R s mm args meth c m d) (hok : mq_ce m pc (some (.aload_n j, npc, t, v)) = true) (hs : mq_step d pc (.aload_n j, npc, t, v) ls st h = some (.inl (pc', ls', st', h1)))
    (hT : mq_ST D cI cB base b L xs s) (hI : mq_IV D cI cB base b L xs h H) (hS : va_S (fun q : Nat => base ≤ q) s.heap H locs) (hL : mq_L base b LS (mq_ml m) ls) (hEq : s.heap.size + cells = base + h.2.1) (hcc : cells + (h1.2.1 - h.2.1) ≤ R.cells) (hcs : slots + (h1.2.2 - h.2.2) ≤ R.slots)
    (k : mq_K p l e R s mm args below meth c cells slots Q D cI cB base b L xs m pc' ls' st' h h1) : W p l e R s mm args below meth c H locs cells slots Q (F0 mm pc LS (st.map (mq_cv base b))) := by
  obtain ⟨hx, hb, hml, hown, hts, hin, hdf, hdl⟩ := C0
  obtain ⟨hdg, hle, hck0⟩ := mq_ok_inv hok
  obtain ⟨hnpc, hck⟩ := mq_len_inv (n := 1) (by decide) hck0 rfl
  subst hnpc
  rw [Nat.add_sub_cancel_left] at hdg
  dsimp only [mq_step] at hs
  split at hs
  next x ex =>
    obtain ⟨rfl, rfl, rfl, rfl⟩ := mq_nx_inv hs
    have hl := hL.at ex rfl
    have hr : ∃ y, mq_cv base b (.ref x) = .ref y := by simp only [mq_cv]; split <;> exact ⟨_, rfl⟩
    obtain ⟨y, hy⟩ := hr
    rw [hy] at hl
    have k2 := mq_K.same k rfl hL hI hS
    rw [List.map_cons, hy] at k2
    exact lv_aload_n hx hb hdg (beq_iff_eq.mp hck) hl k2
  next => cases hs
theorem mq_w_aload {j : Nat} (C0 : mq_Cx p R s mm args meth c m d) (hok : mq_ce m pc (some (.aload j, npc, t, v)) = true) (hs : mq_step d pc (.aload j, npc, t, v) ls st h = some (.inl (pc', ls', st', h1)))
    (hT : mq_ST D cI cB base b L xs s) (hI : mq_IV D cI cB base b L xs h H) (hS : va_S (fun q : Nat => base ≤ q) s.heap H locs) (hL : mq_L base b LS (mq_ml m) ls) (hEq : s.heap.size + cells = base + h.2.1) (hcc : cells + (h1.2.1 - h.2.1) ≤ R.cells) (hcs : slots + (h1.2.2 - h.2.2) ≤ R.slots)
    (k : mq_K p l e R s mm args below meth c cells slots Q D cI cB base b L xs m pc' ls' st' h h1) : W p l e R s mm args below meth c H locs cells slots Q (F0 mm pc LS (st.map (mq_cv base b))) := by
  obtain ⟨hx, hb, hml, hown, hts, hin, hdf, hdl⟩ := C0
  obtain ⟨hdg, hle, hck0⟩ := mq_ok_inv hok
  obtain ⟨hnpc, hck⟩ := mq_len_inv (n := 2) (by decide) hck0 rfl
  subst hnpc
  rw [Nat.add_sub_cancel_left] at hdg
  obtain rfl := beq_iff_eq.mp hck
  dsimp only [mq_step] at hs
  split at hs
  next x ex =>
    obtain ⟨rfl, rfl, rfl, rfl⟩ := mq_nx_inv hs
    have hl := hL.at ex rfl
    have hr : ∃ y, mq_cv base b (.ref x) = .ref y := by simp only [mq_cv]; split <;> exact ⟨_, rfl⟩
    obtain ⟨y, hy⟩ := hr
    rw [hy] at hl
    have k2 := mq_K.same k rfl hL hI hS
    rw [List.map_cons, hy] at k2
    exact lv_aload hx hb hdg hl k2
  next => cases hs
theorem mq_w_lload_n {j : Fin 4} (C0 : mq_Cx p R s mm args meth c m d) (hok : mq_ce m pc (some (.lload_n j, npc, t, v)) = true) (hs : mq_step d pc (.lload_n j, npc, t, v) ls st h = some (.inl (pc', ls', st', h1)))
    (hT : mq_ST D cI cB base b L xs s) (hI : mq_IV D cI cB base b L xs h H) (hS : va_S (fun q : Nat => base ≤ q) s.heap H locs) (hL : mq_L base b LS (mq_ml m) ls) (hEq : s.heap.size + cells = base + h.2.1) (hcc : cells + (h1.2.1 - h.2.1) ≤ R.cells) (hcs : slots + (h1.2.2 - h.2.2) ≤ R.slots)
    (k : mq_K p l e R s mm args below meth c cells slots Q D cI cB base b L xs m pc' ls' st' h h1) : W p l e R s mm args below meth c H locs cells slots Q (F0 mm pc LS (st.map (mq_cv base b))) := by
  obtain ⟨hx, hb, hml, hown, hts, hin, hdf, hdl⟩ := C0
  obtain ⟨hdg, hle, hck0⟩ := mq_ok_inv hok
  obtain ⟨hnpc, hck⟩ := mq_len_inv (n := 1) (by decide) hck0 rfl
  subst hnpc
  rw [Nat.add_sub_cancel_left] at hdg
  dsimp only [mq_step] at hs
  split at hs
  next x ex =>
    obtain ⟨rfl, rfl, rfl, rfl⟩ := mq_nx_inv hs
    exact lv_lload_n hx hb hdg (beq_iff_eq.mp hck) (hL.at ex rfl) (mq_K.same k rfl hL hI hS)
  next => cases hs
theorem mq_w_lload {j : Nat} (C0 : mq_Cx p R s mm args meth c m d) (hok : mq_ce m pc (some (.lload j, npc, t, v)) = true) (hs : mq_step d pc (.lload j, npc, t, v) ls st h = some (.inl (pc', ls', st', h1)))
    (hT : mq_ST D cI cB base b L xs s) (hI : mq_IV D cI cB base b L xs h H) (hS : va_S (fun q : Nat => base ≤ q) s.heap H locs) (hL : mq_L base b LS (mq_ml m) ls) (hEq : s.heap.size + cells = base + h.2.1) (hcc : cells + (h1.2.1 - h.2.1) ≤ R.cells) (hcs : slots + (h1.2.2 - h.2.2) ≤ R.slots)
    (k : mq_K p l e R s mm args below meth c cells slots Q D cI cB base b L xs m pc' ls' st' h h1) : W p l e R s mm args below meth c H locs cells slots Q (F0 mm pc LS (st.map (mq_cv base b))) := by
  obtain ⟨hx, hb, hml, hown, hts, hin, hdf, hdl⟩ := C0
  obtain ⟨hdg, hle, hck0⟩ := mq_ok_inv hok
  obtain ⟨hnpc, hck⟩ := mq_len_inv (n := 2) (by decide) hck0 rfl
  subst hnpc
  rw [Nat.add_sub_cancel_left] at hdg
  obtain rfl := beq_iff_eq.mp hck
  dsimp only [mq_step] at hs
  split at hs
  next x ex =>
    obtain ⟨rfl, rfl, rfl, rfl⟩ := mq_nx_inv hs
    exact lv_lload hx hb hdg (hL.at ex rfl) (mq_K.same k rfl hL hI hS)
  next => cases hs
theorem mq_w_istore_n {j : Fin 4} (C0 : mq_Cx p R s mm args meth c m d) (hok : mq_ce m pc (some (.istore_n j, npc, t, v)) = true) (hs : mq_step d pc (.istore_n j, npc, t, v) ls st h = some (.inl (pc', ls', st', h1)))
    (hT : mq_ST D cI cB base b L xs s) (hI : mq_IV D cI cB base b L xs h H) (hS : va_S (fun q : Nat => base ≤ q) s.heap H locs) (hL : mq_L base b LS (mq_ml m) ls) (hEq : s.heap.size + cells = base + h.2.1) (hcc : cells + (h1.2.1 - h.2.1) ≤ R.cells) (hcs : slots + (h1.2.2 - h.2.2) ≤ R.slots)
    (k : mq_K p l e R s mm args below meth c cells slots Q D cI cB base b L xs m pc' ls' st' h h1) : W p l e R s mm args below meth c H locs cells slots Q (F0 mm pc LS (st.map (mq_cv base b))) := by
  obtain ⟨hx, hb, hml, hown, hts, hin, hdf, hdl⟩ := C0
  obtain ⟨hdg, hle, hck0⟩ := mq_ok_inv hok
  obtain ⟨hnpc, hck⟩ := mq_len_inv (n := 1) (by decide) hck0 rfl
  subst hnpc
  rw [Nat.add_sub_cancel_left] at hdg
  simp only [Bool.and_eq_true, beq_iff_eq, decide_eq_true_eq] at hck
  obtain ⟨hj, hlt⟩ := hck
  obtain ⟨x, r, rfl, hs⟩ := mq_i1_inv hs
  obtain ⟨rfl, rfl, rfl, rfl⟩ := mq_nx_inv hs
  exact lv_istore_n (x := x) hx hb hdg hj hL.has hlt rfl (fun LS9 h9 => mq_K.same k rfl (hL.sto (v := .int x) hlt (fun _ z => z) h9) hI hS)
theorem mq_w_istore {j : Nat} (C0 : mq_Cx p R s mm args meth c m d) (hok : mq_ce m pc (some (.istore j, npc, t, v)) = true) (hs : mq_step d pc (.istore j, npc, t, v) ls st h = some (.inl (pc', ls', st', h1)))
    (hT : mq_ST D cI cB base b L xs s) (hI : mq_IV D cI cB base b L xs h H) (hS : va_S (fun q : Nat => base ≤ q) s.heap H locs) (hL : mq_L base b LS (mq_ml m) ls) (hEq : s.heap.size + cells = base + h.2.1) (hcc : cells + (h1.2.1 - h.2.1) ≤ R.cells) (hcs : slots + (h1.2.2 - h.2.2) ≤ R.slots)
    (k : mq_K p l e R s mm args below meth c cells slots Q D cI cB base b L xs m pc' ls' st' h h1) : W p l e R s mm args below meth c H locs cells slots Q (F0 mm pc LS (st.map (mq_cv base b))) := by
  obtain ⟨hx, hb, hml, hown, hts, hin, hdf, hdl⟩ := C0
  obtain ⟨hdg, hle, hck0⟩ := mq_ok_inv hok
  obtain ⟨hnpc, hck⟩ := mq_len_inv (n := 2) (by decide) hck0 rfl
  subst hnpc
  rw [Nat.add_sub_cancel_left] at hdg
  simp only [Bool.and_eq_true, beq_iff_eq, decide_eq_true_eq] at hck
  obtain ⟨hj, hlt⟩ := hck
  obtain ⟨x, r, rfl, hs⟩ := mq_i1_inv hs
  obtain ⟨rfl, rfl, rfl, rfl⟩ := mq_nx_inv hs
  subst hj
  exact lv_istore (x := x) hx hb hdg hL.has hlt rfl (fun LS9 h9 => mq_K.same k rfl (hL.sto (v := .int x) hlt (fun _ z => z) h9) hI hS)
theorem mq_w_astore_n {j : Fin 4} (C0 : mq_Cx p R s mm args meth c m d) (hok : mq_ce m pc (some (.astore_n j, npc, t, v)) = true) (hs : mq_step d pc (.astore_n j, npc, t, v) ls st h = some (.inl (pc', ls', st', h1)))
    (hT : mq_ST D cI cB base b L xs s) (hI : mq_IV D cI cB base b L xs h H) (hS : va_S (fun q : Nat => base ≤ q) s.heap H locs) (hL : mq_L base b LS (mq_ml m) ls) (hEq : s.heap.size + cells = base + h.2.1) (hcc : cells + (h1.2.1 - h.2.1) ≤ R.cells) (hcs : slots + (h1.2.2 - h.2.2) ≤ R.slots)
    (k : mq_K p l e R s mm args below meth c cells slots Q D cI cB base b L xs m pc' ls' st' h h1) : W p l e R s mm args below meth c H locs cells slots Q (F0 mm pc LS (st.map (mq_cv base b))) := by
  obtain ⟨hx, hb, hml, hown, hts, hin, hdf, hdl⟩ := C0
  obtain ⟨hdg, hle, hck0⟩ := mq_ok_inv hok
  obtain ⟨hnpc, hck⟩ := mq_len_inv (n := 1) (by decide) hck0 rfl
  subst hnpc
  rw [Nat.add_sub_cancel_left] at hdg
  simp only [Bool.and_eq_true, beq_iff_eq, decide_eq_true_eq] at hck
  obtain ⟨hj, hlt⟩ := hck
  obtain ⟨x, r, rfl, hs⟩ := mq_r1_inv hs
  obtain ⟨rfl, rfl, rfl, rfl⟩ := mq_nx_inv hs
  have hr : ∃ y, mq_cv base b (.ref x) = .ref y := by simp only [mq_cv]; split <;> exact ⟨_, rfl⟩
  obtain ⟨y, hy⟩ := hr
  rw [List.map_cons, hy]
  refine lv_astore_n hx hb hdg hj hL.has hlt rfl (fun LS9 h9 => mq_K.same k rfl ?_ hI hS)
  rw [← hy] at h9
  exact hL.sto hlt (fun _ z => z) h9
theorem mq_w_astore {j : Nat} (C0 : mq_Cx p R s mm args meth c m d) (hok : mq_ce m pc (some (.astore j, npc, t, v)) = true) (hs : mq_step d pc (.astore j, npc, t, v) ls st h = some (.inl (pc', ls', st', h1)))
    (hT : mq_ST D cI cB base b L xs s) (hI : mq_IV D cI cB base b L xs h H) (hS : va_S (fun q : Nat => base ≤ q) s.heap H locs) (hL : mq_L base b LS (mq_ml m) ls) (hEq : s.heap.size + cells = base + h.2.1) (hcc : cells + (h1.2.1 - h.2.1) ≤ R.cells) (hcs : slots + (h1.2.2 - h.2.2) ≤ R.slots)
    (k : mq_K p l e R s mm args below meth c cells slots Q D cI cB base b L xs m pc' ls' st' h h1) : W p l e R s mm args below meth c H locs cells slots Q (F0 mm pc LS (st.map (mq_cv base b))) := by
  obtain ⟨hx, hb, hml, hown, hts, hin, hdf, hdl⟩ := C0
  obtain ⟨hdg, hle, hck0⟩ := mq_ok_inv hok
  obtain ⟨hnpc, hck⟩ := mq_len_inv (n := 2) (by decide) hck0 rfl
  subst hnpc
  rw [Nat.add_sub_cancel_left] at hdg
  simp only [Bool.and_eq_true, beq_iff_eq, decide_eq_true_eq] at hck
  obtain ⟨hj, hlt⟩ := hck
  obtain ⟨x, r, rfl, hs⟩ := mq_r1_inv hs
  obtain ⟨rfl, rfl, rfl, rfl⟩ := mq_nx_inv hs
  subst hj
  have hr : ∃ y, mq_cv base b (.ref x) = .ref y := by simp only [mq_cv]; split <;> exact ⟨_, rfl⟩
  obtain ⟨y, hy⟩ := hr
  rw [List.map_cons, hy]
  refine lv_astore hx hb hdg hL.has hlt rfl (fun LS9 h9 => mq_K.same k rfl ?_ hI hS)
  rw [← hy] at h9
  exact hL.sto hlt (fun _ z => z) h9
theorem mq_w_lstore_n {j : Fin 4} (C0 : mq_Cx p R s mm args meth c m d) (hok : mq_ce m pc (some (.lstore_n j, npc, t, v)) = true) (hs : mq_step d pc (.lstore_n j, npc, t, v) ls st h = some (.inl (pc', ls', st', h1)))
    (hT : mq_ST D cI cB base b L xs s) (hI : mq_IV D cI cB base b L xs h H) (hS : va_S (fun q : Nat => base ≤ q) s.heap H locs) (hL : mq_L base b LS (mq_ml m) ls) (hEq : s.heap.size + cells = base + h.2.1) (hcc : cells + (h1.2.1 - h.2.1) ≤ R.cells) (hcs : slots + (h1.2.2 - h.2.2) ≤ R.slots)
    (k : mq_K p l e R s mm args below meth c cells slots Q D cI cB base b L xs m pc' ls' st' h h1) : W p l e R s mm args below meth c H locs cells slots Q (F0 mm pc LS (st.map (mq_cv base b))) := by
  obtain ⟨hx, hb, hml, hown, hts, hin, hdf, hdl⟩ := C0
  obtain ⟨hdg, hle, hck0⟩ := mq_ok_inv hok
  obtain ⟨hnpc, hck⟩ := mq_len_inv (n := 1) (by decide) hck0 rfl
  subst hnpc
  rw [Nat.add_sub_cancel_left] at hdg
  simp only [Bool.and_eq_true, beq_iff_eq, decide_eq_true_eq] at hck
  obtain ⟨hj, hlt⟩ := hck
  obtain ⟨x, r, rfl, hs⟩ := mq_l1_inv hs
  obtain ⟨rfl, rfl, rfl, rfl⟩ := mq_nx_inv hs
  exact lv_lstore_n (x := x) hx hb hdg hj hL.has hlt rfl (fun LS9 h9 => mq_K.same k rfl (hL.sto2 (v := .long x) hlt h9) hI hS)
theorem mq_w_lstore {j : Nat} (C0 : mq_Cx p R s mm args meth c m d) (hok : mq_ce m pc (some (.lstore j, npc, t, v)) = true) (hs : mq_step d pc (.lstore j, npc, t, v) ls st h = some (.inl (pc', ls', st', h1)))
    (hT : mq_ST D cI cB base b L xs s) (hI : mq_IV D cI cB base b L xs h H) (hS : va_S (fun q : Nat => base ≤ q) s.heap H locs) (hL : mq_L base b LS (mq_ml m) ls) (hEq : s.heap.size + cells = base + h.2.1) (hcc : cells + (h1.2.1 - h.2.1) ≤ R.cells) (hcs : slots + (h1.2.2 - h.2.2) ≤ R.slots)
    (k : mq_K p l e R s mm args below meth c cells slots Q D cI cB base b L xs m pc' ls' st' h h1) : W p l e R s mm args below meth c H locs cells slots Q (F0 mm pc LS (st.map (mq_cv base b))) := by
  obtain ⟨hx, hb, hml, hown, hts, hin, hdf, hdl⟩ := C0
  obtain ⟨hdg, hle, hck0⟩ := mq_ok_inv hok
  obtain ⟨hnpc, hck⟩ := mq_len_inv (n := 2) (by decide) hck0 rfl
  subst hnpc
  rw [Nat.add_sub_cancel_left] at hdg
  simp only [Bool.and_eq_true, beq_iff_eq, decide_eq_true_eq] at hck
  obtain ⟨hj, hlt⟩ := hck
  obtain ⟨x, r, rfl, hs⟩ := mq_l1_inv hs
  obtain ⟨rfl, rfl, rfl, rfl⟩ := mq_nx_inv hs
  subst hj
  exact lv_lstore (x := x) hx hb hdg hL.has hlt rfl (fun LS9 h9 => mq_K.same k rfl (hL.sto2 (v := .long x) hlt h9) hI hS)
theorem mq_w_iinc {j : Nat} {n : Int} (C0 : mq_Cx p R s mm args meth c m d) (hok : mq_ce m pc (some (.iinc j n, npc, t, v)) = true) (hs : mq_step d pc (.iinc j n, npc, t, v) ls st h = some (.inl (pc', ls', st', h1)))
    (hT : mq_ST D cI cB base b L xs s) (hI : mq_IV D cI cB base b L xs h H) (hS : va_S (fun q : Nat => base ≤ q) s.heap H locs) (hL : mq_L base b LS (mq_ml m) ls) (hEq : s.heap.size + cells = base + h.2.1) (hcc : cells + (h1.2.1 - h.2.1) ≤ R.cells) (hcs : slots + (h1.2.2 - h.2.2) ≤ R.slots)
    (k : mq_K p l e R s mm args below meth c cells slots Q D cI cB base b L xs m pc' ls' st' h h1) : W p l e R s mm args below meth c H locs cells slots Q (F0 mm pc LS (st.map (mq_cv base b))) := by
  obtain ⟨hx, hb, hml, hown, hts, hin, hdf, hdl⟩ := C0
  obtain ⟨hdg, hle, hck0⟩ := mq_ok_inv hok
  obtain ⟨hnpc, hck⟩ := mq_len_inv (n := 3) (by decide) hck0 rfl
  subst hnpc
  rw [Nat.add_sub_cancel_left] at hdg
  simp only [Bool.and_eq_true, beq_iff_eq, decide_eq_true_eq] at hck
  obtain ⟨⟨rfl, hlt⟩, rfl⟩ := hck
  dsimp only [mq_step] at hs
  split at hs
  next x z ex ez =>
    cases ez
    obtain ⟨rfl, rfl, rfl, rfl⟩ := mq_nx_inv hs
    have hh : lv_has LS (mq_ml m) ((j, .int x) :: mq_as base b ls) := ⟨hL.1, hL.2.1, fun q hq => (List.mem_cons.mp hq).elim (fun z => by subst z; exact hL.at ex rfl) (fun z => hL.has.2.2 q z)⟩
    exact lv_iinc (v := x + Int32.ofInt n) hx hb hdg hh (k := 0) rfl rfl hlt rfl (fun LS9 h9 => mq_K.same k rfl (hL.sto (v := .int (x + Int32.ofInt n)) hlt (fun q z => List.mem_cons_of_mem _ z) h9) hI hS)
  next => cases hs
theorem mq_w_iconst {n : Int} (C0 : mq_Cx p R s mm args meth c m d) (hok : mq_ce m pc (some (.iconst n, npc, t, v)) = true) (hs : mq_step d pc (.iconst n, npc, t, v) ls st h = some (.inl (pc', ls', st', h1)))
    (hT : mq_ST D cI cB base b L xs s) (hI : mq_IV D cI cB base b L xs h H) (hS : va_S (fun q : Nat => base ≤ q) s.heap H locs) (hL : mq_L base b LS (mq_ml m) ls) (hEq : s.heap.size + cells = base + h.2.1) (hcc : cells + (h1.2.1 - h.2.1) ≤ R.cells) (hcs : slots + (h1.2.2 - h.2.2) ≤ R.slots)
    (k : mq_K p l e R s mm args below meth c cells slots Q D cI cB base b L xs m pc' ls' st' h h1) : W p l e R s mm args below meth c H locs cells slots Q (F0 mm pc LS (st.map (mq_cv base b))) := by
  obtain ⟨hx, hb, hml, hown, hts, hin, hdf, hdl⟩ := C0
  obtain ⟨hdg, hle, hck0⟩ := mq_ok_inv hok
  obtain ⟨hnpc, hck⟩ := mq_len_inv (n := 1) (by decide) hck0 rfl
  subst hnpc
  rw [Nat.add_sub_cancel_left] at hdg
  simp only [decide_eq_true_eq] at hck
  subst hck
  obtain ⟨rfl, rfl, rfl, rfl⟩ := mq_nx_inv hs
  exact lv_iconst hx hb hdg rfl (mq_K.same k rfl hL hI hS)
theorem mq_w_bipush {n : Int} (C0 : mq_Cx p R s mm args meth c m d) (hok : mq_ce m pc (some (.bipush n, npc, t, v)) = true) (hs : mq_step d pc (.bipush n, npc, t, v) ls st h = some (.inl (pc', ls', st', h1)))
    (hT : mq_ST D cI cB base b L xs s) (hI : mq_IV D cI cB base b L xs h H) (hS : va_S (fun q : Nat => base ≤ q) s.heap H locs) (hL : mq_L base b LS (mq_ml m) ls) (hEq : s.heap.size + cells = base + h.2.1) (hcc : cells + (h1.2.1 - h.2.1) ≤ R.cells) (hcs : slots + (h1.2.2 - h.2.2) ≤ R.slots)
    (k : mq_K p l e R s mm args below meth c cells slots Q D cI cB base b L xs m pc' ls' st' h h1) : W p l e R s mm args below meth c H locs cells slots Q (F0 mm pc LS (st.map (mq_cv base b))) := by
  obtain ⟨hx, hb, hml, hown, hts, hin, hdf, hdl⟩ := C0
  obtain ⟨hdg, hle, hck0⟩ := mq_ok_inv hok
  obtain ⟨hnpc, hck⟩ := mq_len_inv (n := 2) (by decide) hck0 rfl
  subst hnpc
  rw [Nat.add_sub_cancel_left] at hdg
  simp only [decide_eq_true_eq] at hck
  subst hck
  obtain ⟨rfl, rfl, rfl, rfl⟩ := mq_nx_inv hs
  exact lv_bipush hx hb hdg rfl (mq_K.same k rfl hL hI hS)
theorem mq_w_sipush {n : Int} (C0 : mq_Cx p R s mm args meth c m d) (hok : mq_ce m pc (some (.sipush n, npc, t, v)) = true) (hs : mq_step d pc (.sipush n, npc, t, v) ls st h = some (.inl (pc', ls', st', h1)))
    (hT : mq_ST D cI cB base b L xs s) (hI : mq_IV D cI cB base b L xs h H) (hS : va_S (fun q : Nat => base ≤ q) s.heap H locs) (hL : mq_L base b LS (mq_ml m) ls) (hEq : s.heap.size + cells = base + h.2.1) (hcc : cells + (h1.2.1 - h.2.1) ≤ R.cells) (hcs : slots + (h1.2.2 - h.2.2) ≤ R.slots)
    (k : mq_K p l e R s mm args below meth c cells slots Q D cI cB base b L xs m pc' ls' st' h h1) : W p l e R s mm args below meth c H locs cells slots Q (F0 mm pc LS (st.map (mq_cv base b))) := by
  obtain ⟨hx, hb, hml, hown, hts, hin, hdf, hdl⟩ := C0
  obtain ⟨hdg, hle, hck0⟩ := mq_ok_inv hok
  obtain ⟨hnpc, hck⟩ := mq_len_inv (n := 3) (by decide) hck0 rfl
  subst hnpc
  rw [Nat.add_sub_cancel_left] at hdg
  simp only [decide_eq_true_eq] at hck
  subst hck
  obtain ⟨rfl, rfl, rfl, rfl⟩ := mq_nx_inv hs
  exact lv_sipush hx hb hdg rfl (mq_K.same k rfl hL hI hS)
theorem mq_w_lconst {n : Fin 2} (C0 : mq_Cx p R s mm args meth c m d) (hok : mq_ce m pc (some (.lconst n, npc, t, v)) = true) (hs : mq_step d pc (.lconst n, npc, t, v) ls st h = some (.inl (pc', ls', st', h1)))
    (hT : mq_ST D cI cB base b L xs s) (hI : mq_IV D cI cB base b L xs h H) (hS : va_S (fun q : Nat => base ≤ q) s.heap H locs) (hL : mq_L base b LS (mq_ml m) ls) (hEq : s.heap.size + cells = base + h.2.1) (hcc : cells + (h1.2.1 - h.2.1) ≤ R.cells) (hcs : slots + (h1.2.2 - h.2.2) ≤ R.slots)
    (k : mq_K p l e R s mm args below meth c cells slots Q D cI cB base b L xs m pc' ls' st' h h1) : W p l e R s mm args below meth c H locs cells slots Q (F0 mm pc LS (st.map (mq_cv base b))) := by
  obtain ⟨hx, hb, hml, hown, hts, hin, hdf, hdl⟩ := C0
  obtain ⟨hdg, hle, hck0⟩ := mq_ok_inv hok
  obtain ⟨hnpc, hck⟩ := mq_len_inv (n := 1) (by decide) hck0 rfl
  subst hnpc
  rw [Nat.add_sub_cancel_left] at hdg
  simp only [decide_eq_true_eq] at hck
  subst hck
  obtain ⟨rfl, rfl, rfl, rfl⟩ := mq_nx_inv hs
  exact lv_lconst hx hb hdg rfl (mq_K.same k rfl hL hI hS)
theorem mq_w_ldc {j : Nat} (C0 : mq_Cx p R s mm args meth c m d) (hok : mq_ce m pc (some (.ldc j, npc, t, v)) = true) (hs : mq_step d pc (.ldc j, npc, t, v) ls st h = some (.inl (pc', ls', st', h1)))
    (hT : mq_ST D cI cB base b L xs s) (hI : mq_IV D cI cB base b L xs h H) (hS : va_S (fun q : Nat => base ≤ q) s.heap H locs) (hL : mq_L base b LS (mq_ml m) ls) (hEq : s.heap.size + cells = base + h.2.1) (hcc : cells + (h1.2.1 - h.2.1) ≤ R.cells) (hcs : slots + (h1.2.2 - h.2.2) ≤ R.slots)
    (k : mq_K p l e R s mm args below meth c cells slots Q D cI cB base b L xs m pc' ls' st' h h1) : W p l e R s mm args below meth c H locs cells slots Q (F0 mm pc LS (st.map (mq_cv base b))) := by
  obtain ⟨hx, hb, hml, hown, hts, hin, hdf, hdl⟩ := C0
  obtain ⟨hdg, hle, hck0⟩ := mq_ok_inv hok
  obtain ⟨hnpc, hck⟩ := mq_len_inv (n := 2) (by decide) hck0 rfl
  subst hnpc
  rw [Nat.add_sub_cancel_left] at hdg
  dsimp only at hck
  split at hck
  next z =>
    obtain ⟨r, hr, hr2⟩ := List.any_eq_true.mp hck
    simp only [Bool.and_eq_true, beq_iff_eq] at hr2
    obtain ⟨⟨h1, h2⟩, h3⟩ := hr2
    have hwd := mq_wd_tb (mq_KI_h r hr) rfl
    rw [h1, h2, h3] at hwd
    obtain ⟨rfl, rfl, rfl, rfl⟩ := mq_nx_inv hs
    exact lv_ldc hx hb hown (hts _ hwd) hdg (mq_K.same k rfl hL hI hS)
  next => cases hck
theorem mq_w_ldc_w {j : Nat} (C0 : mq_Cx p R s mm args meth c m d) (hok : mq_ce m pc (some (.ldc_w j, npc, t, v)) = true) (hs : mq_step d pc (.ldc_w j, npc, t, v) ls st h = some (.inl (pc', ls', st', h1)))
    (hT : mq_ST D cI cB base b L xs s) (hI : mq_IV D cI cB base b L xs h H) (hS : va_S (fun q : Nat => base ≤ q) s.heap H locs) (hL : mq_L base b LS (mq_ml m) ls) (hEq : s.heap.size + cells = base + h.2.1) (hcc : cells + (h1.2.1 - h.2.1) ≤ R.cells) (hcs : slots + (h1.2.2 - h.2.2) ≤ R.slots)
    (k : mq_K p l e R s mm args below meth c cells slots Q D cI cB base b L xs m pc' ls' st' h h1) : W p l e R s mm args below meth c H locs cells slots Q (F0 mm pc LS (st.map (mq_cv base b))) := by
  obtain ⟨hx, hb, hml, hown, hts, hin, hdf, hdl⟩ := C0
  obtain ⟨hdg, hle, hck0⟩ := mq_ok_inv hok
  obtain ⟨hnpc, hck⟩ := mq_len_inv (n := 3) (by decide) hck0 rfl
  subst hnpc
  rw [Nat.add_sub_cancel_left] at hdg
  dsimp only at hck
  split at hck
  next z =>
    obtain ⟨r, hr, hr2⟩ := List.any_eq_true.mp hck
    simp only [Bool.and_eq_true, beq_iff_eq] at hr2
    obtain ⟨⟨h1, h2⟩, h3⟩ := hr2
    have hwd := mq_wd_tb (mq_KI_h r hr) rfl
    rw [h1, h2, h3] at hwd
    obtain ⟨rfl, rfl, rfl, rfl⟩ := mq_nx_inv hs
    exact lv_ldcw hx hb hown (hts _ hwd) hdg (mq_K.same k rfl hL hI hS)
  next => cases hck
theorem mq_w_ldc2_w {j : Nat} (C0 : mq_Cx p R s mm args meth c m d) (hok : mq_ce m pc (some (.ldc2_w j, npc, t, v)) = true) (hs : mq_step d pc (.ldc2_w j, npc, t, v) ls st h = some (.inl (pc', ls', st', h1)))
    (hT : mq_ST D cI cB base b L xs s) (hI : mq_IV D cI cB base b L xs h H) (hS : va_S (fun q : Nat => base ≤ q) s.heap H locs) (hL : mq_L base b LS (mq_ml m) ls) (hEq : s.heap.size + cells = base + h.2.1) (hcc : cells + (h1.2.1 - h.2.1) ≤ R.cells) (hcs : slots + (h1.2.2 - h.2.2) ≤ R.slots)
    (k : mq_K p l e R s mm args below meth c cells slots Q D cI cB base b L xs m pc' ls' st' h h1) : W p l e R s mm args below meth c H locs cells slots Q (F0 mm pc LS (st.map (mq_cv base b))) := by
  obtain ⟨hx, hb, hml, hown, hts, hin, hdf, hdl⟩ := C0
  obtain ⟨hdg, hle, hck0⟩ := mq_ok_inv hok
  obtain ⟨hnpc, hck⟩ := mq_len_inv (n := 3) (by decide) hck0 rfl
  subst hnpc
  rw [Nat.add_sub_cancel_left] at hdg
  dsimp only at hck
  split at hck
  next z =>
    obtain ⟨r, hr, hr2⟩ := List.any_eq_true.mp hck
    simp only [Bool.and_eq_true, beq_iff_eq] at hr2
    obtain ⟨⟨h1, h2⟩, h3⟩ := hr2
    have hwd := mq_wd_tb (mq_KL_h r hr) rfl
    rw [h1, h2, h3] at hwd
    obtain ⟨rfl, rfl, rfl, rfl⟩ := mq_nx_inv hs
    exact lv_ldc2 hx hb hown (hts _ hwd) hdg (mq_K.same k rfl hL hI hS)
  next => cases hck
theorem mq_w_iadd (C0 : mq_Cx p R s mm args meth c m d) (hok : mq_ce m pc (some (.iadd, npc, t, v)) = true) (hs : mq_step d pc (.iadd, npc, t, v) ls st h = some (.inl (pc', ls', st', h1)))
    (hT : mq_ST D cI cB base b L xs s) (hI : mq_IV D cI cB base b L xs h H) (hS : va_S (fun q : Nat => base ≤ q) s.heap H locs) (hL : mq_L base b LS (mq_ml m) ls) (hEq : s.heap.size + cells = base + h.2.1) (hcc : cells + (h1.2.1 - h.2.1) ≤ R.cells) (hcs : slots + (h1.2.2 - h.2.2) ≤ R.slots)
    (k : mq_K p l e R s mm args below meth c cells slots Q D cI cB base b L xs m pc' ls' st' h h1) : W p l e R s mm args below meth c H locs cells slots Q (F0 mm pc LS (st.map (mq_cv base b))) := by
  obtain ⟨hx, hb, hml, hown, hts, hin, hdf, hdl⟩ := C0
  obtain ⟨hdg, hle, hck0⟩ := mq_ok_inv hok
  obtain ⟨hnpc, hck⟩ := mq_len_inv (n := 1) (by decide) hck0 rfl
  subst hnpc
  rw [Nat.add_sub_cancel_left] at hdg
  obtain ⟨x, y, r, rfl, hs⟩ := mq_i2_inv hs
  obtain ⟨rfl, rfl, rfl, rfl⟩ := mq_nx_inv hs
  exact lv_iadd hx hb hdg (mq_K.same k rfl hL hI hS)
theorem mq_w_isub (C0 : mq_Cx p R s mm args meth c m d) (hok : mq_ce m pc (some (.isub, npc, t, v)) = true) (hs : mq_step d pc (.isub, npc, t, v) ls st h = some (.inl (pc', ls', st', h1)))
    (hT : mq_ST D cI cB base b L xs s) (hI : mq_IV D cI cB base b L xs h H) (hS : va_S (fun q : Nat => base ≤ q) s.heap H locs) (hL : mq_L base b LS (mq_ml m) ls) (hEq : s.heap.size + cells = base + h.2.1) (hcc : cells + (h1.2.1 - h.2.1) ≤ R.cells) (hcs : slots + (h1.2.2 - h.2.2) ≤ R.slots)
    (k : mq_K p l e R s mm args below meth c cells slots Q D cI cB base b L xs m pc' ls' st' h h1) : W p l e R s mm args below meth c H locs cells slots Q (F0 mm pc LS (st.map (mq_cv base b))) := by
  obtain ⟨hx, hb, hml, hown, hts, hin, hdf, hdl⟩ := C0
  obtain ⟨hdg, hle, hck0⟩ := mq_ok_inv hok
  obtain ⟨hnpc, hck⟩ := mq_len_inv (n := 1) (by decide) hck0 rfl
  subst hnpc
  rw [Nat.add_sub_cancel_left] at hdg
  obtain ⟨x, y, r, rfl, hs⟩ := mq_i2_inv hs
  obtain ⟨rfl, rfl, rfl, rfl⟩ := mq_nx_inv hs
  exact lv_isub hx hb hdg (mq_K.same k rfl hL hI hS)
theorem mq_w_imul (C0 : mq_Cx p R s mm args meth c m d) (hok : mq_ce m pc (some (.imul, npc, t, v)) = true) (hs : mq_step d pc (.imul, npc, t, v) ls st h = some (.inl (pc', ls', st', h1)))
    (hT : mq_ST D cI cB base b L xs s) (hI : mq_IV D cI cB base b L xs h H) (hS : va_S (fun q : Nat => base ≤ q) s.heap H locs) (hL : mq_L base b LS (mq_ml m) ls) (hEq : s.heap.size + cells = base + h.2.1) (hcc : cells + (h1.2.1 - h.2.1) ≤ R.cells) (hcs : slots + (h1.2.2 - h.2.2) ≤ R.slots)
    (k : mq_K p l e R s mm args below meth c cells slots Q D cI cB base b L xs m pc' ls' st' h h1) : W p l e R s mm args below meth c H locs cells slots Q (F0 mm pc LS (st.map (mq_cv base b))) := by
  obtain ⟨hx, hb, hml, hown, hts, hin, hdf, hdl⟩ := C0
  obtain ⟨hdg, hle, hck0⟩ := mq_ok_inv hok
  obtain ⟨hnpc, hck⟩ := mq_len_inv (n := 1) (by decide) hck0 rfl
  subst hnpc
  rw [Nat.add_sub_cancel_left] at hdg
  obtain ⟨x, y, r, rfl, hs⟩ := mq_i2_inv hs
  obtain ⟨rfl, rfl, rfl, rfl⟩ := mq_nx_inv hs
  exact lv_imul hx hb hdg (mq_K.same k rfl hL hI hS)
theorem mq_w_ishl (C0 : mq_Cx p R s mm args meth c m d) (hok : mq_ce m pc (some (.ishl, npc, t, v)) = true) (hs : mq_step d pc (.ishl, npc, t, v) ls st h = some (.inl (pc', ls', st', h1)))
    (hT : mq_ST D cI cB base b L xs s) (hI : mq_IV D cI cB base b L xs h H) (hS : va_S (fun q : Nat => base ≤ q) s.heap H locs) (hL : mq_L base b LS (mq_ml m) ls) (hEq : s.heap.size + cells = base + h.2.1) (hcc : cells + (h1.2.1 - h.2.1) ≤ R.cells) (hcs : slots + (h1.2.2 - h.2.2) ≤ R.slots)
    (k : mq_K p l e R s mm args below meth c cells slots Q D cI cB base b L xs m pc' ls' st' h h1) : W p l e R s mm args below meth c H locs cells slots Q (F0 mm pc LS (st.map (mq_cv base b))) := by
  obtain ⟨hx, hb, hml, hown, hts, hin, hdf, hdl⟩ := C0
  obtain ⟨hdg, hle, hck0⟩ := mq_ok_inv hok
  obtain ⟨hnpc, hck⟩ := mq_len_inv (n := 1) (by decide) hck0 rfl
  subst hnpc
  rw [Nat.add_sub_cancel_left] at hdg
  obtain ⟨x, y, r, rfl, hs⟩ := mq_i2_inv hs
  obtain ⟨rfl, rfl, rfl, rfl⟩ := mq_nx_inv hs
  exact lv_ishl hx hb hdg (mq_K.same k rfl hL hI hS)
theorem mq_w_ishr (C0 : mq_Cx p R s mm args meth c m d) (hok : mq_ce m pc (some (.ishr, npc, t, v)) = true) (hs : mq_step d pc (.ishr, npc, t, v) ls st h = some (.inl (pc', ls', st', h1)))
    (hT : mq_ST D cI cB base b L xs s) (hI : mq_IV D cI cB base b L xs h H) (hS : va_S (fun q : Nat => base ≤ q) s.heap H locs) (hL : mq_L base b LS (mq_ml m) ls) (hEq : s.heap.size + cells = base + h.2.1) (hcc : cells + (h1.2.1 - h.2.1) ≤ R.cells) (hcs : slots + (h1.2.2 - h.2.2) ≤ R.slots)
    (k : mq_K p l e R s mm args below meth c cells slots Q D cI cB base b L xs m pc' ls' st' h h1) : W p l e R s mm args below meth c H locs cells slots Q (F0 mm pc LS (st.map (mq_cv base b))) := by
  obtain ⟨hx, hb, hml, hown, hts, hin, hdf, hdl⟩ := C0
  obtain ⟨hdg, hle, hck0⟩ := mq_ok_inv hok
  obtain ⟨hnpc, hck⟩ := mq_len_inv (n := 1) (by decide) hck0 rfl
  subst hnpc
  rw [Nat.add_sub_cancel_left] at hdg
  obtain ⟨x, y, r, rfl, hs⟩ := mq_i2_inv hs
  obtain ⟨rfl, rfl, rfl, rfl⟩ := mq_nx_inv hs
  exact lv_ishr hx hb hdg (mq_K.same k rfl hL hI hS)
theorem mq_w_iand (C0 : mq_Cx p R s mm args meth c m d) (hok : mq_ce m pc (some (.iand, npc, t, v)) = true) (hs : mq_step d pc (.iand, npc, t, v) ls st h = some (.inl (pc', ls', st', h1)))
    (hT : mq_ST D cI cB base b L xs s) (hI : mq_IV D cI cB base b L xs h H) (hS : va_S (fun q : Nat => base ≤ q) s.heap H locs) (hL : mq_L base b LS (mq_ml m) ls) (hEq : s.heap.size + cells = base + h.2.1) (hcc : cells + (h1.2.1 - h.2.1) ≤ R.cells) (hcs : slots + (h1.2.2 - h.2.2) ≤ R.slots)
    (k : mq_K p l e R s mm args below meth c cells slots Q D cI cB base b L xs m pc' ls' st' h h1) : W p l e R s mm args below meth c H locs cells slots Q (F0 mm pc LS (st.map (mq_cv base b))) := by
  obtain ⟨hx, hb, hml, hown, hts, hin, hdf, hdl⟩ := C0
  obtain ⟨hdg, hle, hck0⟩ := mq_ok_inv hok
  obtain ⟨hnpc, hck⟩ := mq_len_inv (n := 1) (by decide) hck0 rfl
  subst hnpc
  rw [Nat.add_sub_cancel_left] at hdg
  obtain ⟨x, y, r, rfl, hs⟩ := mq_i2_inv hs
  obtain ⟨rfl, rfl, rfl, rfl⟩ := mq_nx_inv hs
  exact lv_iand hx hb hdg (mq_K.same k rfl hL hI hS)
theorem mq_w_ior (C0 : mq_Cx p R s mm args meth c m d) (hok : mq_ce m pc (some (.ior, npc, t, v)) = true) (hs : mq_step d pc (.ior, npc, t, v) ls st h = some (.inl (pc', ls', st', h1)))
    (hT : mq_ST D cI cB base b L xs s) (hI : mq_IV D cI cB base b L xs h H) (hS : va_S (fun q : Nat => base ≤ q) s.heap H locs) (hL : mq_L base b LS (mq_ml m) ls) (hEq : s.heap.size + cells = base + h.2.1) (hcc : cells + (h1.2.1 - h.2.1) ≤ R.cells) (hcs : slots + (h1.2.2 - h.2.2) ≤ R.slots)
    (k : mq_K p l e R s mm args below meth c cells slots Q D cI cB base b L xs m pc' ls' st' h h1) : W p l e R s mm args below meth c H locs cells slots Q (F0 mm pc LS (st.map (mq_cv base b))) := by
  obtain ⟨hx, hb, hml, hown, hts, hin, hdf, hdl⟩ := C0
  obtain ⟨hdg, hle, hck0⟩ := mq_ok_inv hok
  obtain ⟨hnpc, hck⟩ := mq_len_inv (n := 1) (by decide) hck0 rfl
  subst hnpc
  rw [Nat.add_sub_cancel_left] at hdg
  obtain ⟨x, y, r, rfl, hs⟩ := mq_i2_inv hs
  obtain ⟨rfl, rfl, rfl, rfl⟩ := mq_nx_inv hs
  exact lv_ior hx hb hdg (mq_K.same k rfl hL hI hS)
theorem mq_w_ixor (C0 : mq_Cx p R s mm args meth c m d) (hok : mq_ce m pc (some (.ixor, npc, t, v)) = true) (hs : mq_step d pc (.ixor, npc, t, v) ls st h = some (.inl (pc', ls', st', h1)))
    (hT : mq_ST D cI cB base b L xs s) (hI : mq_IV D cI cB base b L xs h H) (hS : va_S (fun q : Nat => base ≤ q) s.heap H locs) (hL : mq_L base b LS (mq_ml m) ls) (hEq : s.heap.size + cells = base + h.2.1) (hcc : cells + (h1.2.1 - h.2.1) ≤ R.cells) (hcs : slots + (h1.2.2 - h.2.2) ≤ R.slots)
    (k : mq_K p l e R s mm args below meth c cells slots Q D cI cB base b L xs m pc' ls' st' h h1) : W p l e R s mm args below meth c H locs cells slots Q (F0 mm pc LS (st.map (mq_cv base b))) := by
  obtain ⟨hx, hb, hml, hown, hts, hin, hdf, hdl⟩ := C0
  obtain ⟨hdg, hle, hck0⟩ := mq_ok_inv hok
  obtain ⟨hnpc, hck⟩ := mq_len_inv (n := 1) (by decide) hck0 rfl
  subst hnpc
  rw [Nat.add_sub_cancel_left] at hdg
  obtain ⟨x, y, r, rfl, hs⟩ := mq_i2_inv hs
  obtain ⟨rfl, rfl, rfl, rfl⟩ := mq_nx_inv hs
  exact lv_ixor hx hb hdg (mq_K.same k rfl hL hI hS)
theorem mq_w_iushr (C0 : mq_Cx p R s mm args meth c m d) (hok : mq_ce m pc (some (.iushr, npc, t, v)) = true) (hs : mq_step d pc (.iushr, npc, t, v) ls st h = some (.inl (pc', ls', st', h1)))
    (hT : mq_ST D cI cB base b L xs s) (hI : mq_IV D cI cB base b L xs h H) (hS : va_S (fun q : Nat => base ≤ q) s.heap H locs) (hL : mq_L base b LS (mq_ml m) ls) (hEq : s.heap.size + cells = base + h.2.1) (hcc : cells + (h1.2.1 - h.2.1) ≤ R.cells) (hcs : slots + (h1.2.2 - h.2.2) ≤ R.slots)
    (k : mq_K p l e R s mm args below meth c cells slots Q D cI cB base b L xs m pc' ls' st' h h1) : W p l e R s mm args below meth c H locs cells slots Q (F0 mm pc LS (st.map (mq_cv base b))) := by
  obtain ⟨hx, hb, hml, hown, hts, hin, hdf, hdl⟩ := C0
  obtain ⟨hdg, hle, hck0⟩ := mq_ok_inv hok
  obtain ⟨hnpc, hck⟩ := mq_len_inv (n := 1) (by decide) hck0 rfl
  subst hnpc
  rw [Nat.add_sub_cancel_left] at hdg
  obtain ⟨x, y, r, rfl, hs⟩ := mq_i2_inv hs
  obtain ⟨rfl, rfl, rfl, rfl⟩ := mq_nx_inv hs
  exact lv_iushr hx hb hdg rfl (mq_K.same k rfl hL hI hS)
theorem mq_w_idiv (C0 : mq_Cx p R s mm args meth c m d) (hok : mq_ce m pc (some (.idiv, npc, t, v)) = true) (hs : mq_step d pc (.idiv, npc, t, v) ls st h = some (.inl (pc', ls', st', h1)))
    (hT : mq_ST D cI cB base b L xs s) (hI : mq_IV D cI cB base b L xs h H) (hS : va_S (fun q : Nat => base ≤ q) s.heap H locs) (hL : mq_L base b LS (mq_ml m) ls) (hEq : s.heap.size + cells = base + h.2.1) (hcc : cells + (h1.2.1 - h.2.1) ≤ R.cells) (hcs : slots + (h1.2.2 - h.2.2) ≤ R.slots)
    (k : mq_K p l e R s mm args below meth c cells slots Q D cI cB base b L xs m pc' ls' st' h h1) : W p l e R s mm args below meth c H locs cells slots Q (F0 mm pc LS (st.map (mq_cv base b))) := by
  obtain ⟨hx, hb, hml, hown, hts, hin, hdf, hdl⟩ := C0
  obtain ⟨hdg, hle, hck0⟩ := mq_ok_inv hok
  obtain ⟨hnpc, hck⟩ := mq_len_inv (n := 1) (by decide) hck0 rfl
  subst hnpc
  rw [Nat.add_sub_cancel_left] at hdg
  obtain ⟨x, y, r, rfl, hs⟩ := mq_i2_inv hs
  obtain ⟨hy, hs⟩ := mq_itn_inv hs
  obtain ⟨rfl, rfl, rfl, rfl⟩ := mq_nx_inv hs
  exact lv_idiv hx hb hdg hy (mq_K.same k rfl hL hI hS)
theorem mq_w_irem (C0 : mq_Cx p R s mm args meth c m d) (hok : mq_ce m pc (some (.irem, npc, t, v)) = true) (hs : mq_step d pc (.irem, npc, t, v) ls st h = some (.inl (pc', ls', st', h1)))
    (hT : mq_ST D cI cB base b L xs s) (hI : mq_IV D cI cB base b L xs h H) (hS : va_S (fun q : Nat => base ≤ q) s.heap H locs) (hL : mq_L base b LS (mq_ml m) ls) (hEq : s.heap.size + cells = base + h.2.1) (hcc : cells + (h1.2.1 - h.2.1) ≤ R.cells) (hcs : slots + (h1.2.2 - h.2.2) ≤ R.slots)
    (k : mq_K p l e R s mm args below meth c cells slots Q D cI cB base b L xs m pc' ls' st' h h1) : W p l e R s mm args below meth c H locs cells slots Q (F0 mm pc LS (st.map (mq_cv base b))) := by
  obtain ⟨hx, hb, hml, hown, hts, hin, hdf, hdl⟩ := C0
  obtain ⟨hdg, hle, hck0⟩ := mq_ok_inv hok
  obtain ⟨hnpc, hck⟩ := mq_len_inv (n := 1) (by decide) hck0 rfl
  subst hnpc
  rw [Nat.add_sub_cancel_left] at hdg
  obtain ⟨x, y, r, rfl, hs⟩ := mq_i2_inv hs
  obtain ⟨hy, hs⟩ := mq_itn_inv hs
  obtain ⟨rfl, rfl, rfl, rfl⟩ := mq_nx_inv hs
  refine lv_irem hx hb hdg hy ?_
  rw [mq_rem]
  exact mq_K.same k rfl hL hI hS
theorem mq_w_ineg (C0 : mq_Cx p R s mm args meth c m d) (hok : mq_ce m pc (some (.ineg, npc, t, v)) = true) (hs : mq_step d pc (.ineg, npc, t, v) ls st h = some (.inl (pc', ls', st', h1)))
    (hT : mq_ST D cI cB base b L xs s) (hI : mq_IV D cI cB base b L xs h H) (hS : va_S (fun q : Nat => base ≤ q) s.heap H locs) (hL : mq_L base b LS (mq_ml m) ls) (hEq : s.heap.size + cells = base + h.2.1) (hcc : cells + (h1.2.1 - h.2.1) ≤ R.cells) (hcs : slots + (h1.2.2 - h.2.2) ≤ R.slots)
    (k : mq_K p l e R s mm args below meth c cells slots Q D cI cB base b L xs m pc' ls' st' h h1) : W p l e R s mm args below meth c H locs cells slots Q (F0 mm pc LS (st.map (mq_cv base b))) := by
  obtain ⟨hx, hb, hml, hown, hts, hin, hdf, hdl⟩ := C0
  obtain ⟨hdg, hle, hck0⟩ := mq_ok_inv hok
  obtain ⟨hnpc, hck⟩ := mq_len_inv (n := 1) (by decide) hck0 rfl
  subst hnpc
  rw [Nat.add_sub_cancel_left] at hdg
  obtain ⟨x, r, rfl, hs⟩ := mq_i1_inv hs
  obtain ⟨rfl, rfl, rfl, rfl⟩ := mq_nx_inv hs
  exact lv_ineg hx hb hdg (mq_K.same k rfl hL hI hS)
theorem mq_w_i2b (C0 : mq_Cx p R s mm args meth c m d) (hok : mq_ce m pc (some (.i2b, npc, t, v)) = true) (hs : mq_step d pc (.i2b, npc, t, v) ls st h = some (.inl (pc', ls', st', h1)))
    (hT : mq_ST D cI cB base b L xs s) (hI : mq_IV D cI cB base b L xs h H) (hS : va_S (fun q : Nat => base ≤ q) s.heap H locs) (hL : mq_L base b LS (mq_ml m) ls) (hEq : s.heap.size + cells = base + h.2.1) (hcc : cells + (h1.2.1 - h.2.1) ≤ R.cells) (hcs : slots + (h1.2.2 - h.2.2) ≤ R.slots)
    (k : mq_K p l e R s mm args below meth c cells slots Q D cI cB base b L xs m pc' ls' st' h h1) : W p l e R s mm args below meth c H locs cells slots Q (F0 mm pc LS (st.map (mq_cv base b))) := by
  obtain ⟨hx, hb, hml, hown, hts, hin, hdf, hdl⟩ := C0
  obtain ⟨hdg, hle, hck0⟩ := mq_ok_inv hok
  obtain ⟨hnpc, hck⟩ := mq_len_inv (n := 1) (by decide) hck0 rfl
  subst hnpc
  rw [Nat.add_sub_cancel_left] at hdg
  obtain ⟨x, r, rfl, hs⟩ := mq_i1_inv hs
  obtain ⟨rfl, rfl, rfl, rfl⟩ := mq_nx_inv hs
  exact lv_i2b hx hb hdg rfl (mq_K.same k rfl hL hI hS)
theorem mq_w_l2i (C0 : mq_Cx p R s mm args meth c m d) (hok : mq_ce m pc (some (.l2i, npc, t, v)) = true) (hs : mq_step d pc (.l2i, npc, t, v) ls st h = some (.inl (pc', ls', st', h1)))
    (hT : mq_ST D cI cB base b L xs s) (hI : mq_IV D cI cB base b L xs h H) (hS : va_S (fun q : Nat => base ≤ q) s.heap H locs) (hL : mq_L base b LS (mq_ml m) ls) (hEq : s.heap.size + cells = base + h.2.1) (hcc : cells + (h1.2.1 - h.2.1) ≤ R.cells) (hcs : slots + (h1.2.2 - h.2.2) ≤ R.slots)
    (k : mq_K p l e R s mm args below meth c cells slots Q D cI cB base b L xs m pc' ls' st' h h1) : W p l e R s mm args below meth c H locs cells slots Q (F0 mm pc LS (st.map (mq_cv base b))) := by
  obtain ⟨hx, hb, hml, hown, hts, hin, hdf, hdl⟩ := C0
  obtain ⟨hdg, hle, hck0⟩ := mq_ok_inv hok
  obtain ⟨hnpc, hck⟩ := mq_len_inv (n := 1) (by decide) hck0 rfl
  subst hnpc
  rw [Nat.add_sub_cancel_left] at hdg
  obtain ⟨x, r, rfl, hs⟩ := mq_l1_inv hs
  obtain ⟨rfl, rfl, rfl, rfl⟩ := mq_nx_inv hs
  exact lv_l2i hx hb hdg rfl (mq_K.same k rfl hL hI hS)
theorem mq_w_lneg (C0 : mq_Cx p R s mm args meth c m d) (hok : mq_ce m pc (some (.lneg, npc, t, v)) = true) (hs : mq_step d pc (.lneg, npc, t, v) ls st h = some (.inl (pc', ls', st', h1)))
    (hT : mq_ST D cI cB base b L xs s) (hI : mq_IV D cI cB base b L xs h H) (hS : va_S (fun q : Nat => base ≤ q) s.heap H locs) (hL : mq_L base b LS (mq_ml m) ls) (hEq : s.heap.size + cells = base + h.2.1) (hcc : cells + (h1.2.1 - h.2.1) ≤ R.cells) (hcs : slots + (h1.2.2 - h.2.2) ≤ R.slots)
    (k : mq_K p l e R s mm args below meth c cells slots Q D cI cB base b L xs m pc' ls' st' h h1) : W p l e R s mm args below meth c H locs cells slots Q (F0 mm pc LS (st.map (mq_cv base b))) := by
  obtain ⟨hx, hb, hml, hown, hts, hin, hdf, hdl⟩ := C0
  obtain ⟨hdg, hle, hck0⟩ := mq_ok_inv hok
  obtain ⟨hnpc, hck⟩ := mq_len_inv (n := 1) (by decide) hck0 rfl
  subst hnpc
  rw [Nat.add_sub_cancel_left] at hdg
  obtain ⟨x, r, rfl, hs⟩ := mq_l1_inv hs
  obtain ⟨rfl, rfl, rfl, rfl⟩ := mq_nx_inv hs
  exact lv_lneg hx hb hdg (mq_K.same k rfl hL hI hS)
theorem mq_w_ladd (C0 : mq_Cx p R s mm args meth c m d) (hok : mq_ce m pc (some (.ladd, npc, t, v)) = true) (hs : mq_step d pc (.ladd, npc, t, v) ls st h = some (.inl (pc', ls', st', h1)))
    (hT : mq_ST D cI cB base b L xs s) (hI : mq_IV D cI cB base b L xs h H) (hS : va_S (fun q : Nat => base ≤ q) s.heap H locs) (hL : mq_L base b LS (mq_ml m) ls) (hEq : s.heap.size + cells = base + h.2.1) (hcc : cells + (h1.2.1 - h.2.1) ≤ R.cells) (hcs : slots + (h1.2.2 - h.2.2) ≤ R.slots)
    (k : mq_K p l e R s mm args below meth c cells slots Q D cI cB base b L xs m pc' ls' st' h h1) : W p l e R s mm args below meth c H locs cells slots Q (F0 mm pc LS (st.map (mq_cv base b))) := by
  obtain ⟨hx, hb, hml, hown, hts, hin, hdf, hdl⟩ := C0
  obtain ⟨hdg, hle, hck0⟩ := mq_ok_inv hok
  obtain ⟨hnpc, hck⟩ := mq_len_inv (n := 1) (by decide) hck0 rfl
  subst hnpc
  rw [Nat.add_sub_cancel_left] at hdg
  obtain ⟨x, y, r, rfl, hs⟩ := mq_l2_inv hs
  obtain ⟨rfl, rfl, rfl, rfl⟩ := mq_nx_inv hs
  exact lv_ladd hx hb hdg (mq_K.same k rfl hL hI hS)
theorem mq_w_lsub (C0 : mq_Cx p R s mm args meth c m d) (hok : mq_ce m pc (some (.lsub, npc, t, v)) = true) (hs : mq_step d pc (.lsub, npc, t, v) ls st h = some (.inl (pc', ls', st', h1)))
    (hT : mq_ST D cI cB base b L xs s) (hI : mq_IV D cI cB base b L xs h H) (hS : va_S (fun q : Nat => base ≤ q) s.heap H locs) (hL : mq_L base b LS (mq_ml m) ls) (hEq : s.heap.size + cells = base + h.2.1) (hcc : cells + (h1.2.1 - h.2.1) ≤ R.cells) (hcs : slots + (h1.2.2 - h.2.2) ≤ R.slots)
    (k : mq_K p l e R s mm args below meth c cells slots Q D cI cB base b L xs m pc' ls' st' h h1) : W p l e R s mm args below meth c H locs cells slots Q (F0 mm pc LS (st.map (mq_cv base b))) := by
  obtain ⟨hx, hb, hml, hown, hts, hin, hdf, hdl⟩ := C0
  obtain ⟨hdg, hle, hck0⟩ := mq_ok_inv hok
  obtain ⟨hnpc, hck⟩ := mq_len_inv (n := 1) (by decide) hck0 rfl
  subst hnpc
  rw [Nat.add_sub_cancel_left] at hdg
  obtain ⟨x, y, r, rfl, hs⟩ := mq_l2_inv hs
  obtain ⟨rfl, rfl, rfl, rfl⟩ := mq_nx_inv hs
  exact lv_lsub hx hb hdg (mq_K.same k rfl hL hI hS)
theorem mq_w_land (C0 : mq_Cx p R s mm args meth c m d) (hok : mq_ce m pc (some (.land, npc, t, v)) = true) (hs : mq_step d pc (.land, npc, t, v) ls st h = some (.inl (pc', ls', st', h1)))
    (hT : mq_ST D cI cB base b L xs s) (hI : mq_IV D cI cB base b L xs h H) (hS : va_S (fun q : Nat => base ≤ q) s.heap H locs) (hL : mq_L base b LS (mq_ml m) ls) (hEq : s.heap.size + cells = base + h.2.1) (hcc : cells + (h1.2.1 - h.2.1) ≤ R.cells) (hcs : slots + (h1.2.2 - h.2.2) ≤ R.slots)
    (k : mq_K p l e R s mm args below meth c cells slots Q D cI cB base b L xs m pc' ls' st' h h1) : W p l e R s mm args below meth c H locs cells slots Q (F0 mm pc LS (st.map (mq_cv base b))) := by
  obtain ⟨hx, hb, hml, hown, hts, hin, hdf, hdl⟩ := C0
  obtain ⟨hdg, hle, hck0⟩ := mq_ok_inv hok
  obtain ⟨hnpc, hck⟩ := mq_len_inv (n := 1) (by decide) hck0 rfl
  subst hnpc
  rw [Nat.add_sub_cancel_left] at hdg
  obtain ⟨x, y, r, rfl, hs⟩ := mq_l2_inv hs
  obtain ⟨rfl, rfl, rfl, rfl⟩ := mq_nx_inv hs
  exact lv_land hx hb hdg (mq_K.same k rfl hL hI hS)
theorem mq_w_lor (C0 : mq_Cx p R s mm args meth c m d) (hok : mq_ce m pc (some (.lor, npc, t, v)) = true) (hs : mq_step d pc (.lor, npc, t, v) ls st h = some (.inl (pc', ls', st', h1)))
    (hT : mq_ST D cI cB base b L xs s) (hI : mq_IV D cI cB base b L xs h H) (hS : va_S (fun q : Nat => base ≤ q) s.heap H locs) (hL : mq_L base b LS (mq_ml m) ls) (hEq : s.heap.size + cells = base + h.2.1) (hcc : cells + (h1.2.1 - h.2.1) ≤ R.cells) (hcs : slots + (h1.2.2 - h.2.2) ≤ R.slots)
    (k : mq_K p l e R s mm args below meth c cells slots Q D cI cB base b L xs m pc' ls' st' h h1) : W p l e R s mm args below meth c H locs cells slots Q (F0 mm pc LS (st.map (mq_cv base b))) := by
  obtain ⟨hx, hb, hml, hown, hts, hin, hdf, hdl⟩ := C0
  obtain ⟨hdg, hle, hck0⟩ := mq_ok_inv hok
  obtain ⟨hnpc, hck⟩ := mq_len_inv (n := 1) (by decide) hck0 rfl
  subst hnpc
  rw [Nat.add_sub_cancel_left] at hdg
  obtain ⟨x, y, r, rfl, hs⟩ := mq_l2_inv hs
  obtain ⟨rfl, rfl, rfl, rfl⟩ := mq_nx_inv hs
  exact lv_lor hx hb hdg (mq_K.same k rfl hL hI hS)
theorem mq_w_lxor (C0 : mq_Cx p R s mm args meth c m d) (hok : mq_ce m pc (some (.lxor, npc, t, v)) = true) (hs : mq_step d pc (.lxor, npc, t, v) ls st h = some (.inl (pc', ls', st', h1)))
    (hT : mq_ST D cI cB base b L xs s) (hI : mq_IV D cI cB base b L xs h H) (hS : va_S (fun q : Nat => base ≤ q) s.heap H locs) (hL : mq_L base b LS (mq_ml m) ls) (hEq : s.heap.size + cells = base + h.2.1) (hcc : cells + (h1.2.1 - h.2.1) ≤ R.cells) (hcs : slots + (h1.2.2 - h.2.2) ≤ R.slots)
    (k : mq_K p l e R s mm args below meth c cells slots Q D cI cB base b L xs m pc' ls' st' h h1) : W p l e R s mm args below meth c H locs cells slots Q (F0 mm pc LS (st.map (mq_cv base b))) := by
  obtain ⟨hx, hb, hml, hown, hts, hin, hdf, hdl⟩ := C0
  obtain ⟨hdg, hle, hck0⟩ := mq_ok_inv hok
  obtain ⟨hnpc, hck⟩ := mq_len_inv (n := 1) (by decide) hck0 rfl
  subst hnpc
  rw [Nat.add_sub_cancel_left] at hdg
  obtain ⟨x, y, r, rfl, hs⟩ := mq_l2_inv hs
  obtain ⟨rfl, rfl, rfl, rfl⟩ := mq_nx_inv hs
  exact lv_lxor hx hb hdg (mq_K.same k rfl hL hI hS)
theorem mq_w_lshl (C0 : mq_Cx p R s mm args meth c m d) (hok : mq_ce m pc (some (.lshl, npc, t, v)) = true) (hs : mq_step d pc (.lshl, npc, t, v) ls st h = some (.inl (pc', ls', st', h1)))
    (hT : mq_ST D cI cB base b L xs s) (hI : mq_IV D cI cB base b L xs h H) (hS : va_S (fun q : Nat => base ≤ q) s.heap H locs) (hL : mq_L base b LS (mq_ml m) ls) (hEq : s.heap.size + cells = base + h.2.1) (hcc : cells + (h1.2.1 - h.2.1) ≤ R.cells) (hcs : slots + (h1.2.2 - h.2.2) ≤ R.slots)
    (k : mq_K p l e R s mm args below meth c cells slots Q D cI cB base b L xs m pc' ls' st' h h1) : W p l e R s mm args below meth c H locs cells slots Q (F0 mm pc LS (st.map (mq_cv base b))) := by
  obtain ⟨hx, hb, hml, hown, hts, hin, hdf, hdl⟩ := C0
  obtain ⟨hdg, hle, hck0⟩ := mq_ok_inv hok
  obtain ⟨hnpc, hck⟩ := mq_len_inv (n := 1) (by decide) hck0 rfl
  subst hnpc
  rw [Nat.add_sub_cancel_left] at hdg
  obtain ⟨x, y, r, rfl, hs⟩ := mq_li_inv hs
  obtain ⟨rfl, rfl, rfl, rfl⟩ := mq_nx_inv hs
  exact lv_lshl hx hb hdg rfl (mq_K.same k rfl hL hI hS)
theorem mq_w_lshr (C0 : mq_Cx p R s mm args meth c m d) (hok : mq_ce m pc (some (.lshr, npc, t, v)) = true) (hs : mq_step d pc (.lshr, npc, t, v) ls st h = some (.inl (pc', ls', st', h1)))
    (hT : mq_ST D cI cB base b L xs s) (hI : mq_IV D cI cB base b L xs h H) (hS : va_S (fun q : Nat => base ≤ q) s.heap H locs) (hL : mq_L base b LS (mq_ml m) ls) (hEq : s.heap.size + cells = base + h.2.1) (hcc : cells + (h1.2.1 - h.2.1) ≤ R.cells) (hcs : slots + (h1.2.2 - h.2.2) ≤ R.slots)
    (k : mq_K p l e R s mm args below meth c cells slots Q D cI cB base b L xs m pc' ls' st' h h1) : W p l e R s mm args below meth c H locs cells slots Q (F0 mm pc LS (st.map (mq_cv base b))) := by
  obtain ⟨hx, hb, hml, hown, hts, hin, hdf, hdl⟩ := C0
  obtain ⟨hdg, hle, hck0⟩ := mq_ok_inv hok
  obtain ⟨hnpc, hck⟩ := mq_len_inv (n := 1) (by decide) hck0 rfl
  subst hnpc
  rw [Nat.add_sub_cancel_left] at hdg
  obtain ⟨x, y, r, rfl, hs⟩ := mq_li_inv hs
  obtain ⟨rfl, rfl, rfl, rfl⟩ := mq_nx_inv hs
  exact lv_lshr hx hb hdg rfl (mq_K.same k rfl hL hI hS)
theorem mq_w_lushr (C0 : mq_Cx p R s mm args meth c m d) (hok : mq_ce m pc (some (.lushr, npc, t, v)) = true) (hs : mq_step d pc (.lushr, npc, t, v) ls st h = some (.inl (pc', ls', st', h1)))
    (hT : mq_ST D cI cB base b L xs s) (hI : mq_IV D cI cB base b L xs h H) (hS : va_S (fun q : Nat => base ≤ q) s.heap H locs) (hL : mq_L base b LS (mq_ml m) ls) (hEq : s.heap.size + cells = base + h.2.1) (hcc : cells + (h1.2.1 - h.2.1) ≤ R.cells) (hcs : slots + (h1.2.2 - h.2.2) ≤ R.slots)
    (k : mq_K p l e R s mm args below meth c cells slots Q D cI cB base b L xs m pc' ls' st' h h1) : W p l e R s mm args below meth c H locs cells slots Q (F0 mm pc LS (st.map (mq_cv base b))) := by
  obtain ⟨hx, hb, hml, hown, hts, hin, hdf, hdl⟩ := C0
  obtain ⟨hdg, hle, hck0⟩ := mq_ok_inv hok
  obtain ⟨hnpc, hck⟩ := mq_len_inv (n := 1) (by decide) hck0 rfl
  subst hnpc
  rw [Nat.add_sub_cancel_left] at hdg
  obtain ⟨x, y, r, rfl, hs⟩ := mq_li_inv hs
  obtain ⟨rfl, rfl, rfl, rfl⟩ := mq_nx_inv hs
  exact lv_lushr hx hb hdg rfl (mq_K.same k rfl hL hI hS)
theorem mq_w_lcmp (C0 : mq_Cx p R s mm args meth c m d) (hok : mq_ce m pc (some (.lcmp, npc, t, v)) = true) (hs : mq_step d pc (.lcmp, npc, t, v) ls st h = some (.inl (pc', ls', st', h1)))
    (hT : mq_ST D cI cB base b L xs s) (hI : mq_IV D cI cB base b L xs h H) (hS : va_S (fun q : Nat => base ≤ q) s.heap H locs) (hL : mq_L base b LS (mq_ml m) ls) (hEq : s.heap.size + cells = base + h.2.1) (hcc : cells + (h1.2.1 - h.2.1) ≤ R.cells) (hcs : slots + (h1.2.2 - h.2.2) ≤ R.slots)
    (k : mq_K p l e R s mm args below meth c cells slots Q D cI cB base b L xs m pc' ls' st' h h1) : W p l e R s mm args below meth c H locs cells slots Q (F0 mm pc LS (st.map (mq_cv base b))) := by
  obtain ⟨hx, hb, hml, hown, hts, hin, hdf, hdl⟩ := C0
  obtain ⟨hdg, hle, hck0⟩ := mq_ok_inv hok
  obtain ⟨hnpc, hck⟩ := mq_len_inv (n := 1) (by decide) hck0 rfl
  subst hnpc
  rw [Nat.add_sub_cancel_left] at hdg
  obtain ⟨x, y, r, rfl, hs⟩ := mq_l2_inv hs
  obtain ⟨rfl, rfl, rfl, rfl⟩ := mq_nx_inv hs
  exact W.lcmp hx hb hdg (mq_K.same k rfl hL hI hS)
theorem mq_w_dup (C0 : mq_Cx p R s mm args meth c m d) (hok : mq_ce m pc (some (.dup, npc, t, v)) = true) (hs : mq_step d pc (.dup, npc, t, v) ls st h = some (.inl (pc', ls', st', h1)))
    (hT : mq_ST D cI cB base b L xs s) (hI : mq_IV D cI cB base b L xs h H) (hS : va_S (fun q : Nat => base ≤ q) s.heap H locs) (hL : mq_L base b LS (mq_ml m) ls) (hEq : s.heap.size + cells = base + h.2.1) (hcc : cells + (h1.2.1 - h.2.1) ≤ R.cells) (hcs : slots + (h1.2.2 - h.2.2) ≤ R.slots)
    (k : mq_K p l e R s mm args below meth c cells slots Q D cI cB base b L xs m pc' ls' st' h h1) : W p l e R s mm args below meth c H locs cells slots Q (F0 mm pc LS (st.map (mq_cv base b))) := by
  obtain ⟨hx, hb, hml, hown, hts, hin, hdf, hdl⟩ := C0
  obtain ⟨hdg, hle, hck0⟩ := mq_ok_inv hok
  obtain ⟨hnpc, hck⟩ := mq_len_inv (n := 1) (by decide) hck0 rfl
  subst hnpc
  rw [Nat.add_sub_cancel_left] at hdg
  dsimp only [mq_step] at hs
  split at hs
  next w r =>
    obtain ⟨hc, hs⟩ := mq_ite_inv hs
    obtain ⟨rfl, rfl, rfl, rfl⟩ := mq_nx_inv hs
    exact lv_dup hx hb hdg (by rw [mq_cv_cat]; exact hc) (mq_K.same k rfl hL hI hS)
  next => cases hs
theorem mq_w_dup2 (C0 : mq_Cx p R s mm args meth c m d) (hok : mq_ce m pc (some (.dup2, npc, t, v)) = true) (hs : mq_step d pc (.dup2, npc, t, v) ls st h = some (.inl (pc', ls', st', h1)))
    (hT : mq_ST D cI cB base b L xs s) (hI : mq_IV D cI cB base b L xs h H) (hS : va_S (fun q : Nat => base ≤ q) s.heap H locs) (hL : mq_L base b LS (mq_ml m) ls) (hEq : s.heap.size + cells = base + h.2.1) (hcc : cells + (h1.2.1 - h.2.1) ≤ R.cells) (hcs : slots + (h1.2.2 - h.2.2) ≤ R.slots)
    (k : mq_K p l e R s mm args below meth c cells slots Q D cI cB base b L xs m pc' ls' st' h h1) : W p l e R s mm args below meth c H locs cells slots Q (F0 mm pc LS (st.map (mq_cv base b))) := by
  obtain ⟨hx, hb, hml, hown, hts, hin, hdf, hdl⟩ := C0
  obtain ⟨hdg, hle, hck0⟩ := mq_ok_inv hok
  obtain ⟨hnpc, hck⟩ := mq_len_inv (n := 1) (by decide) hck0 rfl
  subst hnpc
  rw [Nat.add_sub_cancel_left] at hdg
  dsimp only [mq_step] at hs
  split at hs
  next w1 w2 r =>
    obtain ⟨hc, hs⟩ := mq_ite_inv hs
    obtain ⟨rfl, rfl, rfl, rfl⟩ := mq_nx_inv hs
    exact lv_dup2_11 hx hb hdg (by rw [mq_cv_cat]; exact hc.1) (by rw [mq_cv_cat]; exact hc.2) (mq_K.same k rfl hL hI hS)
  next => cases hs
theorem mq_w_pop (C0 : mq_Cx p R s mm args meth c m d) (hok : mq_ce m pc (some (.pop, npc, t, v)) = true) (hs : mq_step d pc (.pop, npc, t, v) ls st h = some (.inl (pc', ls', st', h1)))
    (hT : mq_ST D cI cB base b L xs s) (hI : mq_IV D cI cB base b L xs h H) (hS : va_S (fun q : Nat => base ≤ q) s.heap H locs) (hL : mq_L base b LS (mq_ml m) ls) (hEq : s.heap.size + cells = base + h.2.1) (hcc : cells + (h1.2.1 - h.2.1) ≤ R.cells) (hcs : slots + (h1.2.2 - h.2.2) ≤ R.slots)
    (k : mq_K p l e R s mm args below meth c cells slots Q D cI cB base b L xs m pc' ls' st' h h1) : W p l e R s mm args below meth c H locs cells slots Q (F0 mm pc LS (st.map (mq_cv base b))) := by
  obtain ⟨hx, hb, hml, hown, hts, hin, hdf, hdl⟩ := C0
  obtain ⟨hdg, hle, hck0⟩ := mq_ok_inv hok
  obtain ⟨hnpc, hck⟩ := mq_len_inv (n := 1) (by decide) hck0 rfl
  subst hnpc
  rw [Nat.add_sub_cancel_left] at hdg
  dsimp only [mq_step] at hs
  split at hs
  next w r =>
    obtain ⟨hc, hs⟩ := mq_ite_inv hs
    obtain ⟨rfl, rfl, rfl, rfl⟩ := mq_nx_inv hs
    exact lv_pop hx hb hdg (by rw [mq_cv_cat]; exact hc) (mq_K.same k rfl hL hI hS)
  next => cases hs
theorem mq_w_goto {n : Int} (C0 : mq_Cx p R s mm args meth c m d) (hok : mq_ce m pc (some (.goto n, npc, t, v)) = true) (hs : mq_step d pc (.goto n, npc, t, v) ls st h = some (.inl (pc', ls', st', h1)))
    (hT : mq_ST D cI cB base b L xs s) (hI : mq_IV D cI cB base b L xs h H) (hS : va_S (fun q : Nat => base ≤ q) s.heap H locs) (hL : mq_L base b LS (mq_ml m) ls) (hEq : s.heap.size + cells = base + h.2.1) (hcc : cells + (h1.2.1 - h.2.1) ≤ R.cells) (hcs : slots + (h1.2.2 - h.2.2) ≤ R.slots)
    (k : mq_K p l e R s mm args below meth c cells slots Q D cI cB base b L xs m pc' ls' st' h h1) : W p l e R s mm args below meth c H locs cells slots Q (F0 mm pc LS (st.map (mq_cv base b))) := by
  obtain ⟨hx, hb, hml, hown, hts, hin, hdf, hdl⟩ := C0
  obtain ⟨hdg, hle, hck0⟩ := mq_ok_inv hok
  obtain ⟨hnpc, hck⟩ := mq_len_inv (n := 3) (by decide) hck0 rfl
  subst hnpc
  rw [Nat.add_sub_cancel_left] at hdg
  simp only [decide_eq_true_eq] at hck
  obtain ⟨rfl, rfl, rfl, rfl⟩ := mq_nx_inv hs
  exact lv_goto hx hb hdg hck (mq_K.same k rfl hL hI hS)
theorem mq_w_ifCond {cc : ClassFile.Cond} {n : Int} (C0 : mq_Cx p R s mm args meth c m d) (hok : mq_ce m pc (some (.ifCond cc n, npc, t, v)) = true) (hs : mq_step d pc (.ifCond cc n, npc, t, v) ls st h = some (.inl (pc', ls', st', h1)))
    (hT : mq_ST D cI cB base b L xs s) (hI : mq_IV D cI cB base b L xs h H) (hS : va_S (fun q : Nat => base ≤ q) s.heap H locs) (hL : mq_L base b LS (mq_ml m) ls) (hEq : s.heap.size + cells = base + h.2.1) (hcc : cells + (h1.2.1 - h.2.1) ≤ R.cells) (hcs : slots + (h1.2.2 - h.2.2) ≤ R.slots)
    (k : mq_K p l e R s mm args below meth c cells slots Q D cI cB base b L xs m pc' ls' st' h h1) : W p l e R s mm args below meth c H locs cells slots Q (F0 mm pc LS (st.map (mq_cv base b))) := by
  obtain ⟨hx, hb, hml, hown, hts, hin, hdf, hdl⟩ := C0
  obtain ⟨hdg, hle, hck0⟩ := mq_ok_inv hok
  obtain ⟨hnpc, hck⟩ := mq_len_inv (n := 3) (by decide) hck0 rfl
  subst hnpc
  rw [Nat.add_sub_cancel_left] at hdg
  simp only [decide_eq_true_eq] at hck
  obtain ⟨x, r, rfl, hs⟩ := mq_i1_inv hs
  cases cc
  · refine lv_if_eq (tgt := t) hx hb hdg hck (fun hc => ?_) (fun hc => ?_)
    · have hs2 : mq_nx t ls r h = some (.inl (pc', ls', st', h1)) := (if_pos (decide_eq_true hc)).symm.trans hs
      obtain ⟨rfl, rfl, rfl, rfl⟩ := mq_nx_inv hs2
      exact mq_K.same k rfl hL hI hS
    · have hs2 : mq_nx (pc + 3) ls r h = some (.inl (pc', ls', st', h1)) := (if_neg (fun z => hc (of_decide_eq_true z))).symm.trans hs
      obtain ⟨rfl, rfl, rfl, rfl⟩ := mq_nx_inv hs2
      exact mq_K.same k rfl hL hI hS
  · refine lv_if_ne (tgt := t) hx hb hdg hck (fun hc => ?_) (fun hc => ?_)
    · have hs2 : mq_nx t ls r h = some (.inl (pc', ls', st', h1)) := (if_pos (decide_eq_true hc)).symm.trans hs
      obtain ⟨rfl, rfl, rfl, rfl⟩ := mq_nx_inv hs2
      exact mq_K.same k rfl hL hI hS
    · have hs2 : mq_nx (pc + 3) ls r h = some (.inl (pc', ls', st', h1)) := (if_neg (fun z => (of_decide_eq_true z) hc)).symm.trans hs
      obtain ⟨rfl, rfl, rfl, rfl⟩ := mq_nx_inv hs2
      exact mq_K.same k rfl hL hI hS
  · refine lv_if_lt (tgt := t) hx hb hdg hck (fun hc => ?_) (fun hc => ?_)
    · have hs2 : mq_nx t ls r h = some (.inl (pc', ls', st', h1)) := (if_pos (decide_eq_true hc)).symm.trans hs
      obtain ⟨rfl, rfl, rfl, rfl⟩ := mq_nx_inv hs2
      exact mq_K.same k rfl hL hI hS
    · have hs2 : mq_nx (pc + 3) ls r h = some (.inl (pc', ls', st', h1)) := (if_neg (fun z => hc (of_decide_eq_true z))).symm.trans hs
      obtain ⟨rfl, rfl, rfl, rfl⟩ := mq_nx_inv hs2
      exact mq_K.same k rfl hL hI hS
  · refine lv_if_ge (tgt := t) hx hb hdg hck (fun hc => ?_) (fun hc => ?_)
    · have hs2 : mq_nx t ls r h = some (.inl (pc', ls', st', h1)) := (if_pos (decide_eq_true hc)).symm.trans hs
      obtain ⟨rfl, rfl, rfl, rfl⟩ := mq_nx_inv hs2
      exact mq_K.same k rfl hL hI hS
    · have hs2 : mq_nx (pc + 3) ls r h = some (.inl (pc', ls', st', h1)) := (if_neg (fun z => hc (of_decide_eq_true z))).symm.trans hs
      obtain ⟨rfl, rfl, rfl, rfl⟩ := mq_nx_inv hs2
      exact mq_K.same k rfl hL hI hS
  · refine lv_if_gt (tgt := t) hx hb hdg hck (fun hc => ?_) (fun hc => ?_)
    · have hs2 : mq_nx t ls r h = some (.inl (pc', ls', st', h1)) := (if_pos (decide_eq_true hc)).symm.trans hs
      obtain ⟨rfl, rfl, rfl, rfl⟩ := mq_nx_inv hs2
      exact mq_K.same k rfl hL hI hS
    · have hs2 : mq_nx (pc + 3) ls r h = some (.inl (pc', ls', st', h1)) := (if_neg (fun z => hc (of_decide_eq_true z))).symm.trans hs
      obtain ⟨rfl, rfl, rfl, rfl⟩ := mq_nx_inv hs2
      exact mq_K.same k rfl hL hI hS
  · refine lv_if_le (tgt := t) hx hb hdg hck (fun hc => ?_) (fun hc => ?_)
    · have hs2 : mq_nx t ls r h = some (.inl (pc', ls', st', h1)) := (if_pos (decide_eq_true hc)).symm.trans hs
      obtain ⟨rfl, rfl, rfl, rfl⟩ := mq_nx_inv hs2
      exact mq_K.same k rfl hL hI hS
    · have hs2 : mq_nx (pc + 3) ls r h = some (.inl (pc', ls', st', h1)) := (if_neg (fun z => hc (of_decide_eq_true z))).symm.trans hs
      obtain ⟨rfl, rfl, rfl, rfl⟩ := mq_nx_inv hs2
      exact mq_K.same k rfl hL hI hS
theorem mq_w_if_icmp {cc : ClassFile.Cond} {n : Int} (C0 : mq_Cx p R s mm args meth c m d) (hok : mq_ce m pc (some (.if_icmp cc n, npc, t, v)) = true) (hs : mq_step d pc (.if_icmp cc n, npc, t, v) ls st h = some (.inl (pc', ls', st', h1)))
    (hT : mq_ST D cI cB base b L xs s) (hI : mq_IV D cI cB base b L xs h H) (hS : va_S (fun q : Nat => base ≤ q) s.heap H locs) (hL : mq_L base b LS (mq_ml m) ls) (hEq : s.heap.size + cells = base + h.2.1) (hcc : cells + (h1.2.1 - h.2.1) ≤ R.cells) (hcs : slots + (h1.2.2 - h.2.2) ≤ R.slots)
    (k : mq_K p l e R s mm args below meth c cells slots Q D cI cB base b L xs m pc' ls' st' h h1) : W p l e R s mm args below meth c H locs cells slots Q (F0 mm pc LS (st.map (mq_cv base b))) := by
  obtain ⟨hx, hb, hml, hown, hts, hin, hdf, hdl⟩ := C0
  obtain ⟨hdg, hle, hck0⟩ := mq_ok_inv hok
  obtain ⟨hnpc, hck⟩ := mq_len_inv (n := 3) (by decide) hck0 rfl
  subst hnpc
  rw [Nat.add_sub_cancel_left] at hdg
  simp only [decide_eq_true_eq] at hck
  obtain ⟨x, y, r, rfl, hs⟩ := mq_i2_inv hs
  cases cc
  · refine lv_icmp_eq (tgt := t) hx hb hdg hck (fun hc => ?_) (fun hc => ?_)
    · have hs2 : mq_nx t ls r h = some (.inl (pc', ls', st', h1)) := (if_pos (decide_eq_true hc)).symm.trans hs
      obtain ⟨rfl, rfl, rfl, rfl⟩ := mq_nx_inv hs2
      exact mq_K.same k rfl hL hI hS
    · have hs2 : mq_nx (pc + 3) ls r h = some (.inl (pc', ls', st', h1)) := (if_neg (fun z => hc (of_decide_eq_true z))).symm.trans hs
      obtain ⟨rfl, rfl, rfl, rfl⟩ := mq_nx_inv hs2
      exact mq_K.same k rfl hL hI hS
  · refine lv_icmp_ne (tgt := t) hx hb hdg hck (fun hc => ?_) (fun hc => ?_)
    · have hs2 : mq_nx t ls r h = some (.inl (pc', ls', st', h1)) := (if_pos (decide_eq_true hc)).symm.trans hs
      obtain ⟨rfl, rfl, rfl, rfl⟩ := mq_nx_inv hs2
      exact mq_K.same k rfl hL hI hS
    · have hs2 : mq_nx (pc + 3) ls r h = some (.inl (pc', ls', st', h1)) := (if_neg (fun z => (of_decide_eq_true z) hc)).symm.trans hs
      obtain ⟨rfl, rfl, rfl, rfl⟩ := mq_nx_inv hs2
      exact mq_K.same k rfl hL hI hS
  · refine lv_icmp_lt (tgt := t) hx hb hdg hck (fun hc => ?_) (fun hc => ?_)
    · have hs2 : mq_nx t ls r h = some (.inl (pc', ls', st', h1)) := (if_pos (decide_eq_true hc)).symm.trans hs
      obtain ⟨rfl, rfl, rfl, rfl⟩ := mq_nx_inv hs2
      exact mq_K.same k rfl hL hI hS
    · have hs2 : mq_nx (pc + 3) ls r h = some (.inl (pc', ls', st', h1)) := (if_neg (fun z => hc (of_decide_eq_true z))).symm.trans hs
      obtain ⟨rfl, rfl, rfl, rfl⟩ := mq_nx_inv hs2
      exact mq_K.same k rfl hL hI hS
  · refine lv_icmp_ge (tgt := t) hx hb hdg hck (fun hc => ?_) (fun hc => ?_)
    · have hs2 : mq_nx t ls r h = some (.inl (pc', ls', st', h1)) := (if_pos (decide_eq_true hc)).symm.trans hs
      obtain ⟨rfl, rfl, rfl, rfl⟩ := mq_nx_inv hs2
      exact mq_K.same k rfl hL hI hS
    · have hs2 : mq_nx (pc + 3) ls r h = some (.inl (pc', ls', st', h1)) := (if_neg (fun z => hc (of_decide_eq_true z))).symm.trans hs
      obtain ⟨rfl, rfl, rfl, rfl⟩ := mq_nx_inv hs2
      exact mq_K.same k rfl hL hI hS
  · refine lv_icmp_gt (tgt := t) hx hb hdg hck (fun hc => ?_) (fun hc => ?_)
    · have hs2 : mq_nx t ls r h = some (.inl (pc', ls', st', h1)) := (if_pos (decide_eq_true hc)).symm.trans hs
      obtain ⟨rfl, rfl, rfl, rfl⟩ := mq_nx_inv hs2
      exact mq_K.same k rfl hL hI hS
    · have hs2 : mq_nx (pc + 3) ls r h = some (.inl (pc', ls', st', h1)) := (if_neg (fun z => hc (of_decide_eq_true z))).symm.trans hs
      obtain ⟨rfl, rfl, rfl, rfl⟩ := mq_nx_inv hs2
      exact mq_K.same k rfl hL hI hS
  · refine lv_icmp_le (tgt := t) hx hb hdg hck (fun hc => ?_) (fun hc => ?_)
    · have hs2 : mq_nx t ls r h = some (.inl (pc', ls', st', h1)) := (if_pos (decide_eq_true hc)).symm.trans hs
      obtain ⟨rfl, rfl, rfl, rfl⟩ := mq_nx_inv hs2
      exact mq_K.same k rfl hL hI hS
    · have hs2 : mq_nx (pc + 3) ls r h = some (.inl (pc', ls', st', h1)) := (if_neg (fun z => hc (of_decide_eq_true z))).symm.trans hs
      obtain ⟨rfl, rfl, rfl, rfl⟩ := mq_nx_inv hs2
      exact mq_K.same k rfl hL hI hS
theorem mq_w_tableswitch {df lo hi : Int} {os : Array Int} (C0 : mq_Cx p R s mm args meth c m d) (hok : mq_ce m pc (some (.tableswitch df lo hi os, npc, t, v)) = true) (hs : mq_step d pc (.tableswitch df lo hi os, npc, t, v) ls st h = some (.inl (pc', ls', st', h1)))
    (hT : mq_ST D cI cB base b L xs s) (hI : mq_IV D cI cB base b L xs h H) (hS : va_S (fun q : Nat => base ≤ q) s.heap H locs) (hL : mq_L base b LS (mq_ml m) ls) (hEq : s.heap.size + cells = base + h.2.1) (hcc : cells + (h1.2.1 - h.2.1) ≤ R.cells) (hcs : slots + (h1.2.2 - h.2.2) ≤ R.slots)
    (k : mq_K p l e R s mm args below meth c cells slots Q D cI cB base b L xs m pc' ls' st' h h1) : W p l e R s mm args below meth c H locs cells slots Q (F0 mm pc LS (st.map (mq_cv base b))) := by
  obtain ⟨hx, hb, hml, hown, hts, hin, hdf, hdl⟩ := C0
  obtain ⟨hdg, hle, hck0⟩ := mq_ok_inv hok
  simp only [mq_chk, mq_len, Bool.and_eq_true, decide_eq_true_eq, List.all_eq_true] at hck0
  obtain ⟨-, ⟨h1', h2'⟩, h3'⟩ := hck0
  obtain ⟨x, r, rfl, hs⟩ := mq_i1_inv hs
  obtain ⟨rfl, rfl, rfl, rfl⟩ := mq_nx_inv hs
  have k2 := mq_K.same k rfl hL hI hS
  by_cases hc : x.toInt < lo ∨ hi < x.toInt
  · refine lv_tableOut (tgt := ((pc : Int) + df).toNat) hx hb hdg hc (Int.toNat_of_nonneg h1').symm ?_
    rw [mq_tab, if_pos hc] at k2
    exact k2
  · have q1 : ¬ x.toInt < lo := fun z => hc (Or.inl z)
    have q2 : ¬ hi < x.toInt := fun z => hc (Or.inr z)
    have hlt : (x.toInt - lo).toNat < os.size := by omega
    have ho : os[(x.toInt - lo).toNat]? = some os[(x.toInt - lo).toNat] := Array.getElem?_eq_getElem hlt
    have hm := h2' os[(x.toInt - lo).toNat] (by simp)
    refine lv_tableIn (tgt := ((pc : Int) + os[(x.toInt - lo).toNat]).toNat) hx hb hdg q1 q2 ho (Int.toNat_of_nonneg hm).symm ?_
    rw [mq_tab, if_neg hc, ho] at k2
    exact k2
theorem mq_w_lookupswitch {df : Int} {ps : Array (Int × Int)} (C0 : mq_Cx p R s mm args meth c m d) (hok : mq_ce m pc (some (.lookupswitch df ps, npc, t, v)) = true) (hs : mq_step d pc (.lookupswitch df ps, npc, t, v) ls st h = some (.inl (pc', ls', st', h1)))
    (hT : mq_ST D cI cB base b L xs s) (hI : mq_IV D cI cB base b L xs h H) (hS : va_S (fun q : Nat => base ≤ q) s.heap H locs) (hL : mq_L base b LS (mq_ml m) ls) (hEq : s.heap.size + cells = base + h.2.1) (hcc : cells + (h1.2.1 - h.2.1) ≤ R.cells) (hcs : slots + (h1.2.2 - h.2.2) ≤ R.slots)
    (k : mq_K p l e R s mm args below meth c cells slots Q D cI cB base b L xs m pc' ls' st' h h1) : W p l e R s mm args below meth c H locs cells slots Q (F0 mm pc LS (st.map (mq_cv base b))) := by
  obtain ⟨hx, hb, hml, hown, hts, hin, hdf, hdl⟩ := C0
  obtain ⟨hdg, hle, hck0⟩ := mq_ok_inv hok
  simp only [mq_chk, mq_len, Bool.and_eq_true, decide_eq_true_eq] at hck0
  obtain ⟨-, ⟨h1', h2'⟩, h3'⟩ := hck0
  obtain ⟨x, r, rfl, hs⟩ := mq_i1_inv hs
  obtain ⟨rfl, rfl, rfl, rfl⟩ := mq_nx_inv hs
  have k2 := mq_K.same k rfl hL hI hS
  have key : ∀ (qs : List (Int × Int)), (∀ q ∈ qs, 0 ≤ (pc : Int) + q.2) → 0 ≤ (pc : Int) + Op.lookupswitch.offset qs df x.toInt := by
    intro qs
    induction qs with
    | nil => intro _; exact h1'
    | cons q qs ih =>
      intro hq
      obtain ⟨a, o9⟩ := q
      rw [Op.lookupswitch.offset_cons]
      split
      · exact hq (a, o9) List.mem_cons_self
      · exact ih (fun z hz => hq z (List.mem_cons_of_mem _ hz))
  exact lv_lookup (tgt := ((pc : Int) + Op.lookupswitch.offset ps.toList df x.toInt).toNat) hx hb hdg h3' rfl (Int.toNat_of_nonneg (key ps.toList (fun q hq => of_decide_eq_true (List.all_eq_true.mp h2' q hq)))).symm k2
end MQ1
