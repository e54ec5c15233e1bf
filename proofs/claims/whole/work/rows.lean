section
/-! THE SMALL MACHINE. Its cells bear numbers (0, 1, 2 .. in the order of their making), a reference is the number of its cell; the script is the cell mq_SCR. .retAddr n marks a local that isn't set, and carries a number in a table's entry. -/
abbrev mq_E : Type := (Bool × Nat × (Nat → Int32)) ⊕ (Nat × List Value)
abbrev mq_H : Type := (Nat → mq_E) × Nat × Nat
abbrev mq_I : Type := Instr × Nat × Nat × Value
abbrev mq_O : Type := (Nat × List Value × List Value × mq_H) ⊕ ((Nat × List Value × List Value × Nat) ⊕ Option Value)
def mq_SCR : Nat := 1000000
def mq_up (f : Nat → mq_E) (k : Nat) (e : mq_E) : Nat → mq_E := fun j => if j = k then e else f j
def mq_put (h : mq_H) (k : Nat) (e : mq_E) : mq_H := (mq_up h.1 k e, h.2)
def mq_add (h : mq_H) (e : mq_E) (n : Nat) : mq_H := (mq_up h.1 h.2.1 e, h.2.1 + 1, h.2.2 + n)
def mq_nx (pc : Nat) (ls st : List Value) (h : mq_H) : Option mq_O := some (.inl (pc, ls, st, h))
def mq_i1 (st : List Value) (f : Int32 → List Value → Option mq_O) : Option mq_O := match st with
  | .int x :: r => f x r
  | _ => none
def mq_i2 (st : List Value) (f : Int32 → Int32 → List Value → Option mq_O) : Option mq_O := match st with
  | .int y :: .int x :: r => f x y r
  | _ => none
def mq_l1 (st : List Value) (f : Int64 → List Value → Option mq_O) : Option mq_O := match st with
  | .long x :: r => f x r
  | _ => none
def mq_l2 (st : List Value) (f : Int64 → Int64 → List Value → Option mq_O) : Option mq_O := match st with
  | .long y :: .long x :: r => f x y r
  | _ => none
def mq_li (st : List Value) (f : Int64 → Int32 → List Value → Option mq_O) : Option mq_O := match st with
  | .int y :: .long x :: r => f x y r
  | _ => none
def mq_r1 (st : List Value) (f : Nat → List Value → Option mq_O) : Option mq_O := match st with
  | .ref k :: r => f k r
  | _ => none
def mq_ir (st : List Value) (f : Int32 → Nat → List Value → Option mq_O) : Option mq_O := match st with
  | .int i :: .ref k :: r => f i k r
  | _ => none
def mq_iir (st : List Value) (f : Int32 → Int32 → Nat → List Value → Option mq_O) : Option mq_O := match st with
  | .int x :: .int i :: .ref k :: r => f x i k r
  | _ => none
def mq_vr (st : List Value) (f : Value → Nat → List Value → Option mq_O) : Option mq_O := match st with
  | v :: .ref k :: r => f v k r
  | _ => none
theorem mq_i1_inv {st : List Value} {f} {o : mq_O} (h : mq_i1 st f = some o) : ∃ x r, st = .int x :: r ∧ f x r = some o := by
  unfold mq_i1 at h; split at h
  · exact ⟨_, _, rfl, h⟩
  · cases h
theorem mq_i2_inv {st : List Value} {f} {o : mq_O} (h : mq_i2 st f = some o) : ∃ x y r, st = .int y :: .int x :: r ∧ f x y r = some o := by
  unfold mq_i2 at h; split at h
  · exact ⟨_, _, _, rfl, h⟩
  · cases h
theorem mq_l1_inv {st : List Value} {f} {o : mq_O} (h : mq_l1 st f = some o) : ∃ x r, st = .long x :: r ∧ f x r = some o := by
  unfold mq_l1 at h; split at h
  · exact ⟨_, _, rfl, h⟩
  · cases h
theorem mq_l2_inv {st : List Value} {f} {o : mq_O} (h : mq_l2 st f = some o) : ∃ x y r, st = .long y :: .long x :: r ∧ f x y r = some o := by
  unfold mq_l2 at h; split at h
  · exact ⟨_, _, _, rfl, h⟩
  · cases h
theorem mq_li_inv {st : List Value} {f} {o : mq_O} (h : mq_li st f = some o) : ∃ x y r, st = .int y :: .long x :: r ∧ f x y r = some o := by
  unfold mq_li at h; split at h
  · exact ⟨_, _, _, rfl, h⟩
  · cases h
theorem mq_r1_inv {st : List Value} {f} {o : mq_O} (h : mq_r1 st f = some o) : ∃ k r, st = .ref k :: r ∧ f k r = some o := by
  unfold mq_r1 at h; split at h
  · exact ⟨_, _, rfl, h⟩
  · cases h
theorem mq_ir_inv {st : List Value} {f} {o : mq_O} (h : mq_ir st f = some o) : ∃ i k r, st = .int i :: .ref k :: r ∧ f i k r = some o := by
  unfold mq_ir at h; split at h
  · exact ⟨_, _, _, rfl, h⟩
  · cases h
theorem mq_iir_inv {st : List Value} {f} {o : mq_O} (h : mq_iir st f = some o) : ∃ x i k r, st = .int x :: .int i :: .ref k :: r ∧ f x i k r = some o := by
  unfold mq_iir at h; split at h
  · exact ⟨_, _, _, _, rfl, h⟩
  · cases h
theorem mq_vr_inv {st : List Value} {f} {o : mq_O} (h : mq_vr st f = some o) : ∃ v k r, st = v :: .ref k :: r ∧ f v k r = some o := by
  unfold mq_vr at h; split at h
  · exact ⟨_, _, _, rfl, h⟩
  · cases h
/-! locals: by place; a long's second place is marked -/
def mq_un : Value := .retAddr 0
def mq_clr (ls : List Value) (i : Nat) : List Value := match i with
  | 0 => ls
  | j + 1 => match ls[j]? with
    | some (.long _) => ls.set j mq_un
    | some (.double _) => ls.set j mq_un
    | _ => ls
def mq_sto (ls : List Value) (i : Nat) (v : Value) : List Value := (mq_clr ls i).set i v
def mq_sto2 (ls : List Value) (i : Nat) (v : Value) : List Value := ((mq_clr ls i).set i v).set (i + 1) mq_un
def mq_lay : List Value → List Value
  | [] => []
  | .long x :: vs => .long x :: mq_un :: mq_lay vs
  | .double x :: vs => .double x :: mq_un :: mq_lay vs
  | v :: vs => v :: mq_lay vs
def mq_pad : List Value → Nat → List Value
  | ls, 0 => ls
  | [], n + 1 => mq_un :: mq_pad [] n
  | v :: vs, n + 1 => v :: mq_pad vs n
def mq_ent (n : Nat) (avs : List Value) : List Value := mq_pad (mq_lay avs) n
def mq_cat : List Value → Nat
  | [] => 0
  | v :: vs => v.category + mq_cat vs
/-! an array of int or byte at a reference -/
def mq_arr (h : mq_H) (k : Nat) : Option (Bool × Nat × (Nat → Int32)) := if k < h.2.1 then match h.1 k with
    | .inl a => some a
    | .inr _ => none
  else none
def mq_obj (h : mq_H) (k : Nat) : Option (Nat × List Value) := if k < h.2.1 then match h.1 k with
    | .inl _ => none
    | .inr o => some o
  else none
/-- the same, for reading: the script too -/
def mq_arrR (h : mq_H) (k : Nat) : Option (Bool × Nat × (Nat → Int32)) := if k < h.2.1 ∨ k = mq_SCR then match h.1 k with
    | .inl a => some a
    | .inr _ => none
  else none
/-- is it an index of a row of n -/
def mq_inb (i : Int32) (n : Nat) : Bool := !(decide (i < 0)) && decide (i.toNatClampNeg < n)
theorem mq_inb_in {i : Int32} {n : Nat} (h : mq_inb i n = true) : vp_in i n := by
  simp only [mq_inb, Bool.and_eq_true, Bool.not_eq_true', decide_eq_false_iff_not, decide_eq_true_eq] at h
  exact fun q => q.elim h.1 (fun z => absurd h.2 (Nat.not_lt.mpr z))
/-- may a value stand in a field of this kind: .int 0 an int, .int 1 a boolean, .null a reference -/
def mq_fit (kind v : Value) : Bool := match kind, v with
  | .int k, .int x => if k = 0 then true else x == 0 || x == 1
  | .null, .ref _ => true
  | _, _ => false
def mq_cmp (c : ClassFile.Cond) (x y : Int32) : Bool := match c with
  | .eq => decide (x = y)
  | .ne => decide (x ≠ y)
  | .lt => decide (x < y)
  | .ge => decide (y ≤ x)
  | .gt => decide (y < x)
  | .le => decide (x ≤ y)
/-- where a switch goes -/
def mq_tab (pc : Nat) (dflt lo hi : Int) (offs : Array Int) (x : Int) : Nat := if x < lo ∨ hi < x then ((pc : Int) + dflt).toNat else match offs[(x - lo).toNat]? with
  | some o => ((pc : Int) + o).toNat
  | none => 0
def mq_lkp (pc : Nat) (dflt : Int) (ps : List (Int × Int)) (x : Int) : Nat := ((pc : Int) + Op.lookupswitch.offset ps dflt x).toNat
/-- may a value be returned: kind 0 an int, 1 a boolean, 2 a long, 3 nothing -/
def mq_rok (kind : Nat) (r : Option Value) : Bool := match kind, r with
  | 0, some (.int _) => true
  | 1, some (.int x) => x == 0 || x == 1
  | 2, some (.long _) => true
  | 3, none => true
  | _, _ => false
end
section
/-! what a new object holds, by the number of its kind -/
def mq_df (t : Nat) : List Value := (bif Nat.blt t 6 then (bif Nat.blt t 3 then (bif Nat.blt t 1 then [.null] else (bif Nat.blt t 2 then [.null, .null, .null, .null, .null, .null, .int 0, .int 0, .int 0] else [])) else (bif Nat.blt t 4 then [.null, .null, .int 0, .null, .null, .null, .null, .int 0, .null, .null, .int 0, .int 0] else (bif Nat.blt t 5 then [.null, .null] else [.int 0, .int 0]))) else (bif Nat.blt t 9 then (bif Nat.blt t 7 then [.int 0, .int 0, .int 0] else (bif Nat.blt t 8 then [.null, .null, .int 0] else [.null, .int 0, .int 0, .int 0, .int 0, .int 0])) else (bif Nat.blt t 11 then (bif Nat.blt t 10 then [.null, .null, .null, .int 0] else [.null, .null, .null, .null, .int 0, .int 0, .int 0]) else (bif Nat.blt t 12 then [.null, .null, .null, .null, .null, .null, .null, .null, .int 0, .null, .null, .null, .null, .null, .null] else [.null, .null, .null, .null, .int 0, .int 0, .int 0, .int 0, .int 0, .int 0, .int 0, .int 0, .int 0, .int 0, .null, .null, .null, .null, .null, .null, .null, .null, .null, .null, .null, .null, .null, .int 0, .null, .null, .null, .null, .null, .null, .int 0, .int 0, .int 0, .int 0, .null, .null, .null, .int 0, .int 0, .null, .null, .int 0, .null, .null, .null, .int 0]))))
end
section
/-! one step: d is how many calls may still stand open above this one; the entry q = (instruction, next pc, number, constant) -/
def mq_step (d pc : Nat) (q : mq_I) (ls st : List Value) (h : mq_H) : Option mq_O := match q with
  | (i, npc, t, v) => match i with
    | .iload_n _ => (match ls[t]? with | some (.int x) => mq_nx npc ls (.int x :: st) h | _ => none)
    | .iload _ => (match ls[t]? with | some (.int x) => mq_nx npc ls (.int x :: st) h | _ => none)
    | .aload_n _ => (match ls[t]? with | some (.ref x) => mq_nx npc ls (.ref x :: st) h | _ => none)
    | .aload _ => (match ls[t]? with | some (.ref x) => mq_nx npc ls (.ref x :: st) h | _ => none)
    | .lload_n _ => (match ls[t]? with | some (.long x) => mq_nx npc ls (.long x :: st) h | _ => none)
    | .lload _ => (match ls[t]? with | some (.long x) => mq_nx npc ls (.long x :: st) h | _ => none)
    | .istore_n _ => mq_i1 st fun x r => mq_nx npc (mq_sto ls t (.int x)) r h
    | .istore _ => mq_i1 st fun x r => mq_nx npc (mq_sto ls t (.int x)) r h
    | .astore_n _ => mq_r1 st fun x r => mq_nx npc (mq_sto ls t (.ref x)) r h
    | .astore _ => mq_r1 st fun x r => mq_nx npc (mq_sto ls t (.ref x)) r h
    | .lstore_n _ => mq_l1 st fun x r => mq_nx npc (mq_sto2 ls t (.long x)) r h
    | .lstore _ => mq_l1 st fun x r => mq_nx npc (mq_sto2 ls t (.long x)) r h
    | .iinc _ _ => (match ls[t]?, v with | some (.int x), .int z => mq_nx npc (mq_sto ls t (.int (x + z))) st h | _, _ => none)
    | .iconst _ => mq_nx npc ls (v :: st) h
    | .bipush _ => mq_nx npc ls (v :: st) h
    | .sipush _ => mq_nx npc ls (v :: st) h
    | .lconst _ => mq_nx npc ls (v :: st) h
    | .ldc _ => mq_nx npc ls (v :: st) h
    | .ldc_w _ => mq_nx npc ls (v :: st) h
    | .ldc2_w _ => mq_nx npc ls (v :: st) h
    | .iadd => mq_i2 st fun x y r => mq_nx npc ls (.int (x + y) :: r) h
    | .isub => mq_i2 st fun x y r => mq_nx npc ls (.int (x - y) :: r) h
    | .imul => mq_i2 st fun x y r => mq_nx npc ls (.int (x * y) :: r) h
    | .idiv => mq_i2 st fun x y r => if y = 0 then none else mq_nx npc ls (.int (x / y) :: r) h
    | .irem => mq_i2 st fun x y r => if y = 0 then none else mq_nx npc ls (.int (x % y) :: r) h
    | .ineg => mq_i1 st fun x r => mq_nx npc ls (.int (-x) :: r) h
    | .ishl => mq_i2 st fun x y r => mq_nx npc ls (.int (x <<< (y &&& 31)) :: r) h
    | .ishr => mq_i2 st fun x y r => mq_nx npc ls (.int (x >>> (y &&& 31)) :: r) h
    | .iushr => mq_i2 st fun x y r => mq_nx npc ls (.int (x.toUInt32 >>> (y.toUInt32 &&& Int32.toUInt32 31)).toInt32 :: r) h
    | .iand => mq_i2 st fun x y r => mq_nx npc ls (.int (x &&& y) :: r) h
    | .ior => mq_i2 st fun x y r => mq_nx npc ls (.int (x ||| y) :: r) h
    | .ixor => mq_i2 st fun x y r => mq_nx npc ls (.int (x ^^^ y) :: r) h
    | .i2b => mq_i1 st fun x r => mq_nx npc ls (.int x.toInt8.toInt32 :: r) h
    | .l2i => mq_l1 st fun x r => mq_nx npc ls (.int x.toInt32 :: r) h
    | .ladd => mq_l2 st fun x y r => mq_nx npc ls (.long (x + y) :: r) h
    | .lsub => mq_l2 st fun x y r => mq_nx npc ls (.long (x - y) :: r) h
    | .land => mq_l2 st fun x y r => mq_nx npc ls (.long (x &&& y) :: r) h
    | .lor => mq_l2 st fun x y r => mq_nx npc ls (.long (x ||| y) :: r) h
    | .lxor => mq_l2 st fun x y r => mq_nx npc ls (.long (x ^^^ y) :: r) h
    | .lneg => mq_l1 st fun x r => mq_nx npc ls (.long (-x) :: r) h
    | .lshl => mq_li st fun x y r => mq_nx npc ls (.long (x <<< (y.toInt64 &&& 63)) :: r) h
    | .lshr => mq_li st fun x y r => mq_nx npc ls (.long (x >>> (y.toInt64 &&& 63)) :: r) h
    | .lushr => mq_li st fun x y r => mq_nx npc ls (.long (x.toUInt64 >>> (y.toInt64.toUInt64 &&& Int64.toUInt64 63)).toInt64 :: r) h
    | .lcmp => mq_l2 st fun x y r => mq_nx npc ls (.int (lg_cmp x y) :: r) h
    | .dup => (match st with | w :: r => if w.category = 1 then mq_nx npc ls (w :: w :: r) h else none | _ => none)
    | .dup2 => (match st with | w1 :: w2 :: r => if w1.category = 1 ∧ w2.category = 1 then mq_nx npc ls (w1 :: w2 :: w1 :: w2 :: r) h else none | _ => none)
    | .pop => (match st with | w :: r => if w.category = 1 then mq_nx npc ls r h else none | _ => none)
    | .goto _ => mq_nx t ls st h
    | .ifCond c _ => mq_i1 st fun x r => if mq_cmp c x 0 = true then mq_nx t ls r h else mq_nx npc ls r h
    | .if_icmp c _ => mq_i2 st fun x y r => if mq_cmp c x y = true then mq_nx t ls r h else mq_nx npc ls r h
    | .tableswitch df lo hi os => mq_i1 st fun x r => mq_nx (mq_tab pc df lo hi os x.toInt) ls r h
    | .lookupswitch df ps => mq_i1 st fun x r => mq_nx (mq_lkp pc df ps.toList x.toInt) ls r h
    | .getfield _ => mq_r1 st fun k r => (match mq_obj h k with
      | some (ci, fs) => if ci = t / 64 then (match fs[t % 64]? with | some w => mq_nx npc ls (w :: r) h | none => none) else none
      | none => none)
    | .putfield _ => mq_vr st fun w k r => (match mq_obj h k with
      | some (ci, fs) => if ci = t / 64 ∧ t % 64 < fs.length ∧ mq_fit v w = true then mq_nx npc ls r (mq_put h k (.inr (ci, fs.set (t % 64) w))) else none
      | none => none)
    | .iaload => mq_ir st fun i k r => (match mq_arrR h k with
      | some (bt, n, f) => if bt = false ∧ mq_inb i n = true then mq_nx npc ls (.int (f i.toNatClampNeg) :: r) h else none
      | none => none)
    | .baload => mq_ir st fun i k r => (match mq_arr h k with
      | some (bt, n, f) => if bt = true ∧ mq_inb i n = true then mq_nx npc ls (.int (f i.toNatClampNeg) :: r) h else none
      | none => none)
    | .iastore => mq_iir st fun x i k r => (match mq_arr h k with
      | some (bt, n, f) => if bt = false ∧ mq_inb i n = true then mq_nx npc ls r (mq_put h k (.inl (false, n, upd f i.toNatClampNeg x))) else none
      | none => none)
    | .bastore => mq_iir st fun x i k r => (match mq_arr h k with
      | some (bt, n, f) => if bt = true ∧ mq_inb i n = true then mq_nx npc ls r (mq_put h k (.inl (true, n, upd f i.toNatClampNeg (vp_nar .byte x)))) else none
      | none => none)
    | .arraylength => mq_r1 st fun k r => (match mq_arrR h k with
      | some (_, n, _) => mq_nx npc ls (.int (Int32.ofNat n) :: r) h
      | none => none)
    | .newarray _ => mq_i1 st fun x r => if ¬ x < 0 ∧ x.toNatClampNeg ≤ 100000 ∧ h.2.1 + 1 < mq_SCR then
        mq_nx npc ls (.ref h.2.1 :: r) (mq_add h (.inl (decide (t = 1), x.toNatClampNeg, fun _ => 0)) x.toNatClampNeg) else none
    | .new _ => (match v with
      | .retAddr n => if h.2.1 + 1 < mq_SCR then mq_nx npc ls (.ref h.2.1 :: st) (mq_add h (.inr (t, mq_df t)) n) else none
      | _ => none)
    | .invokespecial _ => (if t = 1000 then (match d with
        | 0 => none
        | _ + 1 => mq_r1 st fun _ r => if mq_cat r ≤ 8 then mq_nx npc ls r h else none)
      else (match v with
        | .retAddr n => if n % 16 ≤ st.length ∧ mq_cat (st.drop (n % 16)) ≤ 8 then (match (st.take (n % 16)).reverse with
            | .ref k :: as => some (.inr (.inl (t, .ref k :: as, st.drop (n % 16), n / 16 % 64)))
            | _ => none) else none
        | _ => none))
    | .invokevirtual _ => (match v with
        | .retAddr n => if n % 16 ≤ st.length ∧ mq_cat (st.drop (n % 16)) ≤ 8 then (match (st.take (n % 16)).reverse with
            | .ref k :: as => (match mq_obj h k with
              | some (ci, _) => if ci = n / 1024 then some (.inr (.inl (t, .ref k :: as, st.drop (n % 16), n / 16 % 64))) else none
              | none => none)
            | _ => none) else none
        | _ => none)
    | .invokestatic _ => (if t = 1001 then (match d, st with
        | _ + 1, .int n :: .int dp :: .ref kd :: .int sp :: .ref ks :: r => (match mq_arr h ks, mq_arr h kd with
          | some (b0, n0, f), some (b1, n1, g) => if b0 = false ∧ b1 = false ∧ ¬ sp < 0 ∧ ¬ dp < 0 ∧ ¬ n < 0 ∧ sp.toNatClampNeg + n.toNatClampNeg ≤ n0 ∧ dp.toNatClampNeg + n.toNatClampNeg ≤ n1 ∧ mq_cat r ≤ 8 then
              mq_nx npc ls r (mq_put h kd (.inl (false, n1, va_cpy f g sp.toNatClampNeg dp.toNatClampNeg n.toNatClampNeg))) else none
          | _, _ => none)
        | _, _ => none)
      else if t = 1002 then (match d with
        | 0 => none
        | _ + 1 => mq_i2 st fun x y r => if mq_cat r ≤ 8 then mq_nx npc ls (.int (if x < y then y else x) :: r) h else none)
      else if t = 1003 then (match d with
        | 0 => none
        | _ + 1 => mq_i2 st fun x y r => if mq_cat r ≤ 8 then mq_nx npc ls (.int (if y < x then y else x) :: r) h else none)
      else (match v with
        | .retAddr n => if n % 16 ≤ st.length ∧ mq_cat (st.drop (n % 16)) ≤ 8 then some (.inr (.inl (t, (st.take (n % 16)).reverse, st.drop (n % 16), n / 16 % 64))) else none
        | _ => none))
    | .ireturn => (match st with | [w] => if mq_rok t (some w) = true then some (.inr (.inr (some w))) else none | _ => none)
    | .lreturn => (match st with | [w] => if mq_rok t (some w) = true then some (.inr (.inr (some w))) else none | _ => none)
    | .return_ => (match st with | [] => if mq_rok t none = true then some (.inr (.inr none)) else none | _ => none)
    | _ => none
end
section
-- ===== PART A: goes FIRST, ahead of the names: the tables' words, and 'selects' of the private methods out of them =====
/-- a private method of a class that the tables say can be made, by its rows of tables_1 -/
def lw_okq (q : MethodName × Nat) : Prop := (q.1.cls ≠ "java/lang/invoke/MethodHandle" ∧ q.1.cls ≠ "java/lang/invoke/VarHandle") ∧ Cond.instantiable q.1.cls q.2 ∈ tables_1 ∧ Cond.privateMethod q.1 ∈ tables_1 ∧ Cond.instanceMethod q.1 ∈ tables_1
theorem lw_p0 : lw_okq (⟨"TalkingPlots$LawReader", "openRule", "(I)V"⟩, 2) := ⟨⟨by decide +kernel, by decide +kernel⟩, List.mem_of_getElem? (i := 246) (by decide +kernel), List.mem_of_getElem? (i := 382) (by decide +kernel), List.mem_of_getElem? (i := 383) (by decide +kernel)⟩
theorem lw_p1 : lw_okq (⟨"TalkingPlots$LawReader", "readSum", "(I)V"⟩, 2) := ⟨⟨by decide +kernel, by decide +kernel⟩, List.mem_of_getElem? (i := 246) (by decide +kernel), List.mem_of_getElem? (i := 391) (by decide +kernel), List.mem_of_getElem? (i := 392) (by decide +kernel)⟩
theorem lw_p2 : lw_okq (⟨"TalkingPlots$LawReader", "readFactor", "(I)V"⟩, 2) := ⟨⟨by decide +kernel, by decide +kernel⟩, List.mem_of_getElem? (i := 246) (by decide +kernel), List.mem_of_getElem? (i := 395) (by decide +kernel), List.mem_of_getElem? (i := 396) (by decide +kernel)⟩
theorem lw_p3 : lw_okq (⟨"TalkingPlots$LawReader", "opens", "(I)Z"⟩, 2) := ⟨⟨by decide +kernel, by decide +kernel⟩, List.mem_of_getElem? (i := 246) (by decide +kernel), List.mem_of_getElem? (i := 399) (by decide +kernel), List.mem_of_getElem? (i := 400) (by decide +kernel)⟩
theorem lw_p4 : lw_okq (⟨"TalkingPlots$LawReader", "readNumber", "()V"⟩, 2) := ⟨⟨by decide +kernel, by decide +kernel⟩, List.mem_of_getElem? (i := 246) (by decide +kernel), List.mem_of_getElem? (i := 412) (by decide +kernel), List.mem_of_getElem? (i := 413) (by decide +kernel)⟩
theorem lw_p5 : lw_okq (⟨"TalkingPlots$LawReader", "readValue", "()V"⟩, 2) := ⟨⟨by decide +kernel, by decide +kernel⟩, List.mem_of_getElem? (i := 246) (by decide +kernel), List.mem_of_getElem? (i := 420) (by decide +kernel), List.mem_of_getElem? (i := 421) (by decide +kernel)⟩
theorem lw_p6 : lw_okq (⟨"TalkingPlots$LawReader", "addIfAny", "(I)V"⟩, 2) := ⟨⟨by decide +kernel, by decide +kernel⟩, List.mem_of_getElem? (i := 246) (by decide +kernel), List.mem_of_getElem? (i := 430) (by decide +kernel), List.mem_of_getElem? (i := 431) (by decide +kernel)⟩
theorem lw_p7 : lw_okq (⟨"TalkingPlots$LawReader", "readCondition", "(I)V"⟩, 2) := ⟨⟨by decide +kernel, by decide +kernel⟩, List.mem_of_getElem? (i := 246) (by decide +kernel), List.mem_of_getElem? (i := 434) (by decide +kernel), List.mem_of_getElem? (i := 435) (by decide +kernel)⟩
theorem lw_p8 : lw_okq (⟨"TalkingPlots$LawReader", "readTest", "(I)V"⟩, 2) := ⟨⟨by decide +kernel, by decide +kernel⟩, List.mem_of_getElem? (i := 246) (by decide +kernel), List.mem_of_getElem? (i := 438) (by decide +kernel), List.mem_of_getElem? (i := 439) (by decide +kernel)⟩
theorem lw_p9 : lw_okq (⟨"TalkingPlots$BurialReader", "readLine", "(LTalkingPlots$Yard;I)V"⟩, 1) := ⟨⟨by decide +kernel, by decide +kernel⟩, List.mem_of_getElem? (i := 61) (by decide +kernel), List.mem_of_getElem? (i := 474) (by decide +kernel), List.mem_of_getElem? (i := 475) (by decide +kernel)⟩
theorem lw_p10 : lw_okq (⟨"TalkingPlots$BurialReader", "readOne", "(LTalkingPlots$Yard;)I"⟩, 1) := ⟨⟨by decide +kernel, by decide +kernel⟩, List.mem_of_getElem? (i := 61) (by decide +kernel), List.mem_of_getElem? (i := 480) (by decide +kernel), List.mem_of_getElem? (i := 481) (by decide +kernel)⟩
theorem lw_p11 : lw_okq (⟨"TalkingPlots$BurialReader", "readAmong", "(II)I"⟩, 1) := ⟨⟨by decide +kernel, by decide +kernel⟩, List.mem_of_getElem? (i := 61) (by decide +kernel), List.mem_of_getElem? (i := 484) (by decide +kernel), List.mem_of_getElem? (i := 485) (by decide +kernel)⟩
theorem lw_p12 : lw_okq (⟨"TalkingPlots$BurialReader", "readPlot", "(LTalkingPlots$Yard;I)V"⟩, 1) := ⟨⟨by decide +kernel, by decide +kernel⟩, List.mem_of_getElem? (i := 61) (by decide +kernel), List.mem_of_getElem? (i := 497) (by decide +kernel), List.mem_of_getElem? (i := 498) (by decide +kernel)⟩
theorem lw_p13 : lw_okq (⟨"TalkingPlots$BurialReader", "readTopic", "()I"⟩, 1) := ⟨⟨by decide +kernel, by decide +kernel⟩, List.mem_of_getElem? (i := 61) (by decide +kernel), List.mem_of_getElem? (i := 516) (by decide +kernel), List.mem_of_getElem? (i := 517) (by decide +kernel)⟩
theorem lw_p14 : lw_okq (⟨"TalkingPlots$Wishes", "readLine", "(LTalkingPlots$Tape;)V"⟩, 4) := ⟨⟨by decide +kernel, by decide +kernel⟩, List.mem_of_getElem? (i := 259) (by decide +kernel), List.mem_of_getElem? (i := 530) (by decide +kernel), List.mem_of_getElem? (i := 531) (by decide +kernel)⟩
theorem lw_p15 : lw_okq (⟨"TalkingPlots$Wishes", "add", "(III)V"⟩, 4) := ⟨⟨by decide +kernel, by decide +kernel⟩, List.mem_of_getElem? (i := 259) (by decide +kernel), List.mem_of_getElem? (i := 537) (by decide +kernel), List.mem_of_getElem? (i := 538) (by decide +kernel)⟩
def lw_privs_1 : List (MethodName × Nat) := [(⟨"TalkingPlots$LawReader", "openRule", "(I)V"⟩, 2), (⟨"TalkingPlots$LawReader", "readSum", "(I)V"⟩, 2), (⟨"TalkingPlots$LawReader", "readFactor", "(I)V"⟩, 2), (⟨"TalkingPlots$LawReader", "opens", "(I)Z"⟩, 2), (⟨"TalkingPlots$LawReader", "readNumber", "()V"⟩, 2), (⟨"TalkingPlots$LawReader", "readValue", "()V"⟩, 2), (⟨"TalkingPlots$LawReader", "addIfAny", "(I)V"⟩, 2), (⟨"TalkingPlots$LawReader", "readCondition", "(I)V"⟩, 2), (⟨"TalkingPlots$LawReader", "readTest", "(I)V"⟩, 2), (⟨"TalkingPlots$BurialReader", "readLine", "(LTalkingPlots$Yard;I)V"⟩, 1), (⟨"TalkingPlots$BurialReader", "readOne", "(LTalkingPlots$Yard;)I"⟩, 1), (⟨"TalkingPlots$BurialReader", "readAmong", "(II)I"⟩, 1), (⟨"TalkingPlots$BurialReader", "readPlot", "(LTalkingPlots$Yard;I)V"⟩, 1), (⟨"TalkingPlots$BurialReader", "readTopic", "()I"⟩, 1), (⟨"TalkingPlots$Wishes", "readLine", "(LTalkingPlots$Tape;)V"⟩, 4), (⟨"TalkingPlots$Wishes", "add", "(III)V"⟩, 4)]
theorem lw_r1 : ∀ q ∈ lw_privs_1, lw_okq q := List.forall_mem_cons.mpr ⟨lw_p0, List.forall_mem_cons.mpr ⟨lw_p1, List.forall_mem_cons.mpr ⟨lw_p2, List.forall_mem_cons.mpr ⟨lw_p3, List.forall_mem_cons.mpr ⟨lw_p4, List.forall_mem_cons.mpr ⟨lw_p5, List.forall_mem_cons.mpr ⟨lw_p6, List.forall_mem_cons.mpr ⟨lw_p7, List.forall_mem_cons.mpr ⟨lw_p8, List.forall_mem_cons.mpr ⟨lw_p9, List.forall_mem_cons.mpr ⟨lw_p10, List.forall_mem_cons.mpr ⟨lw_p11, List.forall_mem_cons.mpr ⟨lw_p12, List.forall_mem_cons.mpr ⟨lw_p13, List.forall_mem_cons.mpr ⟨lw_p14, List.forall_mem_cons.mpr ⟨lw_p15, fun _ h => absurd h List.not_mem_nil⟩⟩⟩⟩⟩⟩⟩⟩⟩⟩⟩⟩⟩⟩⟩⟩
theorem lw_p16 : lw_okq (⟨"TalkingPlots$Night", "wake", "(LTalkingPlots$Yard;LTalkingPlots$Law;I)V"⟩, 2) := ⟨⟨by decide +kernel, by decide +kernel⟩, List.mem_of_getElem? (i := 71) (by decide +kernel), List.mem_of_getElem? (i := 552) (by decide +kernel), List.mem_of_getElem? (i := 553) (by decide +kernel)⟩
theorem lw_p17 : lw_okq (⟨"TalkingPlots$Night", "tellLaw", "(LTalkingPlots$Yard;LTalkingPlots$Law;II)V"⟩, 2) := ⟨⟨by decide +kernel, by decide +kernel⟩, List.mem_of_getElem? (i := 71) (by decide +kernel), List.mem_of_getElem? (i := 571) (by decide +kernel), List.mem_of_getElem? (i := 572) (by decide +kernel)⟩
theorem lw_p18 : lw_okq (⟨"TalkingPlots$Law", "run", "(II)Z"⟩, 12) := ⟨⟨by decide +kernel, by decide +kernel⟩, List.mem_of_getElem? (i := 199) (by decide +kernel), List.mem_of_getElem? (i := 579) (by decide +kernel), List.mem_of_getElem? (i := 580) (by decide +kernel)⟩
theorem lw_p19 : lw_okq (⟨"TalkingPlots$Law", "take", "(II)Z"⟩, 12) := ⟨⟨by decide +kernel, by decide +kernel⟩, List.mem_of_getElem? (i := 199) (by decide +kernel), List.mem_of_getElem? (i := 583) (by decide +kernel), List.mem_of_getElem? (i := 584) (by decide +kernel)⟩
theorem lw_p20 : lw_okq (⟨"TalkingPlots$Law", "push", "(I)Z"⟩, 12) := ⟨⟨by decide +kernel, by decide +kernel⟩, List.mem_of_getElem? (i := 199) (by decide +kernel), List.mem_of_getElem? (i := 587) (by decide +kernel), List.mem_of_getElem? (i := 588) (by decide +kernel)⟩
theorem lw_p21 : lw_okq (⟨"TalkingPlots$Law", "reckon", "(I)Z"⟩, 12) := ⟨⟨by decide +kernel, by decide +kernel⟩, List.mem_of_getElem? (i := 199) (by decide +kernel), List.mem_of_getElem? (i := 591) (by decide +kernel), List.mem_of_getElem? (i := 592) (by decide +kernel)⟩
theorem lw_p22 : lw_okq (⟨"TalkingPlots$Night", "favourite", "(LTalkingPlots$Yard;LTalkingPlots$Law;II)I"⟩, 2) := ⟨⟨by decide +kernel, by decide +kernel⟩, List.mem_of_getElem? (i := 71) (by decide +kernel), List.mem_of_getElem? (i := 595) (by decide +kernel), List.mem_of_getElem? (i := 596) (by decide +kernel)⟩
theorem lw_p23 : lw_okq (⟨"TalkingPlots$Night", "learn", "(LTalkingPlots$Yard;II)V"⟩, 2) := ⟨⟨by decide +kernel, by decide +kernel⟩, List.mem_of_getElem? (i := 71) (by decide +kernel), List.mem_of_getElem? (i := 617) (by decide +kernel), List.mem_of_getElem? (i := 618) (by decide +kernel)⟩
theorem lw_p24 : lw_okq (⟨"TalkingPlots$Plan", "begin", "(I)V"⟩, 3) := ⟨⟨by decide +kernel, by decide +kernel⟩, List.mem_of_getElem? (i := 86) (by decide +kernel), List.mem_of_getElem? (i := 670) (by decide +kernel), List.mem_of_getElem? (i := 671) (by decide +kernel)⟩
theorem lw_p25 : lw_okq (⟨"TalkingPlots$Plan", "offer", "(III)V"⟩, 3) := ⟨⟨by decide +kernel, by decide +kernel⟩, List.mem_of_getElem? (i := 86) (by decide +kernel), List.mem_of_getElem? (i := 676) (by decide +kernel), List.mem_of_getElem? (i := 677) (by decide +kernel)⟩
theorem lw_p26 : lw_okq (⟨"TalkingPlots$Plan", "noneIfNoMore", "()V"⟩, 3) := ⟨⟨by decide +kernel, by decide +kernel⟩, List.mem_of_getElem? (i := 86) (by decide +kernel), List.mem_of_getElem? (i := 689) (by decide +kernel), List.mem_of_getElem? (i := 690) (by decide +kernel)⟩
theorem lw_p27 : lw_okq (⟨"TalkingPlots$Wishes", "holds", "(ILTalkingPlots$Yard;)Z"⟩, 4) := ⟨⟨by decide +kernel, by decide +kernel⟩, List.mem_of_getElem? (i := 259) (by decide +kernel), List.mem_of_getElem? (i := 716) (by decide +kernel), List.mem_of_getElem? (i := 717) (by decide +kernel)⟩
theorem lw_p28 : lw_okq (⟨"TalkingPlots$Company", "takeWishes", "(LTalkingPlots$Wishes;)V"⟩, 9) := ⟨⟨by decide +kernel, by decide +kernel⟩, List.mem_of_getElem? (i := 104) (by decide +kernel), List.mem_of_getElem? (i := 749) (by decide +kernel), List.mem_of_getElem? (i := 750) (by decide +kernel)⟩
theorem lw_p29 : lw_okq (⟨"TalkingPlots$Company", "numberOf", "(I)I"⟩, 9) := ⟨⟨by decide +kernel, by decide +kernel⟩, List.mem_of_getElem? (i := 104) (by decide +kernel), List.mem_of_getElem? (i := 754) (by decide +kernel), List.mem_of_getElem? (i := 755) (by decide +kernel)⟩
theorem lw_p30 : lw_okq (⟨"TalkingPlots$Company", "takeWish", "(III)V"⟩, 9) := ⟨⟨by decide +kernel, by decide +kernel⟩, List.mem_of_getElem? (i := 104) (by decide +kernel), List.mem_of_getElem? (i := 758) (by decide +kernel), List.mem_of_getElem? (i := 759) (by decide +kernel)⟩
theorem lw_p31 : lw_okq (⟨"TalkingPlots$Company", "all", "()I"⟩, 9) := ⟨⟨by decide +kernel, by decide +kernel⟩, List.mem_of_getElem? (i := 104) (by decide +kernel), List.mem_of_getElem? (i := 762) (by decide +kernel), List.mem_of_getElem? (i := 763) (by decide +kernel)⟩
def lw_privs_2 : List (MethodName × Nat) := [(⟨"TalkingPlots$Night", "wake", "(LTalkingPlots$Yard;LTalkingPlots$Law;I)V"⟩, 2), (⟨"TalkingPlots$Night", "tellLaw", "(LTalkingPlots$Yard;LTalkingPlots$Law;II)V"⟩, 2), (⟨"TalkingPlots$Law", "run", "(II)Z"⟩, 12), (⟨"TalkingPlots$Law", "take", "(II)Z"⟩, 12), (⟨"TalkingPlots$Law", "push", "(I)Z"⟩, 12), (⟨"TalkingPlots$Law", "reckon", "(I)Z"⟩, 12), (⟨"TalkingPlots$Night", "favourite", "(LTalkingPlots$Yard;LTalkingPlots$Law;II)I"⟩, 2), (⟨"TalkingPlots$Night", "learn", "(LTalkingPlots$Yard;II)V"⟩, 2), (⟨"TalkingPlots$Plan", "begin", "(I)V"⟩, 3), (⟨"TalkingPlots$Plan", "offer", "(III)V"⟩, 3), (⟨"TalkingPlots$Plan", "noneIfNoMore", "()V"⟩, 3), (⟨"TalkingPlots$Wishes", "holds", "(ILTalkingPlots$Yard;)Z"⟩, 4), (⟨"TalkingPlots$Company", "takeWishes", "(LTalkingPlots$Wishes;)V"⟩, 9), (⟨"TalkingPlots$Company", "numberOf", "(I)I"⟩, 9), (⟨"TalkingPlots$Company", "takeWish", "(III)V"⟩, 9), (⟨"TalkingPlots$Company", "all", "()I"⟩, 9)]
theorem lw_r2 : ∀ q ∈ lw_privs_2, lw_okq q := List.forall_mem_cons.mpr ⟨lw_p16, List.forall_mem_cons.mpr ⟨lw_p17, List.forall_mem_cons.mpr ⟨lw_p18, List.forall_mem_cons.mpr ⟨lw_p19, List.forall_mem_cons.mpr ⟨lw_p20, List.forall_mem_cons.mpr ⟨lw_p21, List.forall_mem_cons.mpr ⟨lw_p22, List.forall_mem_cons.mpr ⟨lw_p23, List.forall_mem_cons.mpr ⟨lw_p24, List.forall_mem_cons.mpr ⟨lw_p25, List.forall_mem_cons.mpr ⟨lw_p26, List.forall_mem_cons.mpr ⟨lw_p27, List.forall_mem_cons.mpr ⟨lw_p28, List.forall_mem_cons.mpr ⟨lw_p29, List.forall_mem_cons.mpr ⟨lw_p30, List.forall_mem_cons.mpr ⟨lw_p31, fun _ h => absurd h List.not_mem_nil⟩⟩⟩⟩⟩⟩⟩⟩⟩⟩⟩⟩⟩⟩⟩⟩
theorem lw_p32 : lw_okq (⟨"TalkingPlots$Company", "waysBehind", "(II)I"⟩, 9) := ⟨⟨by decide +kernel, by decide +kernel⟩, List.mem_of_getElem? (i := 104) (by decide +kernel), List.mem_of_getElem? (i := 766) (by decide +kernel), List.mem_of_getElem? (i := 767) (by decide +kernel)⟩
theorem lw_p33 : lw_okq (⟨"TalkingPlots$Company", "mostBehind", "(II)I"⟩, 9) := ⟨⟨by decide +kernel, by decide +kernel⟩, List.mem_of_getElem? (i := 104) (by decide +kernel), List.mem_of_getElem? (i := 775) (by decide +kernel), List.mem_of_getElem? (i := 776) (by decide +kernel)⟩
theorem lw_p34 : lw_okq (⟨"TalkingPlots$Company", "addedBy", "(III)I"⟩, 9) := ⟨⟨by decide +kernel, by decide +kernel⟩, List.mem_of_getElem? (i := 104) (by decide +kernel), List.mem_of_getElem? (i := 780) (by decide +kernel), List.mem_of_getElem? (i := 781) (by decide +kernel)⟩
theorem lw_p35 : lw_okq (⟨"TalkingPlots$Company", "firstInRow", "()I"⟩, 9) := ⟨⟨by decide +kernel, by decide +kernel⟩, List.mem_of_getElem? (i := 104) (by decide +kernel), List.mem_of_getElem? (i := 793) (by decide +kernel), List.mem_of_getElem? (i := 794) (by decide +kernel)⟩
theorem lw_p36 : lw_okq (⟨"TalkingPlots$Company", "lowestBehind", "(II)I"⟩, 9) := ⟨⟨by decide +kernel, by decide +kernel⟩, List.mem_of_getElem? (i := 104) (by decide +kernel), List.mem_of_getElem? (i := 798) (by decide +kernel), List.mem_of_getElem? (i := 799) (by decide +kernel)⟩
theorem lw_p37 : lw_okq (⟨"TalkingPlots$Company", "lowestOf", "(I)I"⟩, 9) := ⟨⟨by decide +kernel, by decide +kernel⟩, List.mem_of_getElem? (i := 104) (by decide +kernel), List.mem_of_getElem? (i := 810) (by decide +kernel), List.mem_of_getElem? (i := 811) (by decide +kernel)⟩
theorem lw_p38 : lw_okq (⟨"TalkingPlots$Company", "canCouple", "(III)Z"⟩, 9) := ⟨⟨by decide +kernel, by decide +kernel⟩, List.mem_of_getElem? (i := 104) (by decide +kernel), List.mem_of_getElem? (i := 814) (by decide +kernel), List.mem_of_getElem? (i := 815) (by decide +kernel)⟩
theorem lw_p39 : lw_okq (⟨"TalkingPlots$Company", "withCouple", "(III)I"⟩, 9) := ⟨⟨by decide +kernel, by decide +kernel⟩, List.mem_of_getElem? (i := 104) (by decide +kernel), List.mem_of_getElem? (i := 818) (by decide +kernel), List.mem_of_getElem? (i := 819) (by decide +kernel)⟩
theorem lw_p40 : lw_okq (⟨"TalkingPlots$Company", "lowestOther", "(II)I"⟩, 9) := ⟨⟨by decide +kernel, by decide +kernel⟩, List.mem_of_getElem? (i := 104) (by decide +kernel), List.mem_of_getElem? (i := 830) (by decide +kernel), List.mem_of_getElem? (i := 831) (by decide +kernel)⟩
theorem lw_p41 : lw_okq (⟨"TalkingPlots", "circleCount", "()I"⟩, 15) := ⟨⟨by decide +kernel, by decide +kernel⟩, List.mem_of_getElem? (i := 20) (by decide +kernel), List.mem_of_getElem? (i := 851) (by decide +kernel), List.mem_of_getElem? (i := 852) (by decide +kernel)⟩
theorem lw_p42 : lw_okq (⟨"TalkingPlotsModel", "types", "(I)V"⟩, 50) := ⟨⟨by decide +kernel, by decide +kernel⟩, List.mem_of_getElem? (i := 976) (by decide +kernel), List.mem_of_getElem? (i := 1146) (by decide +kernel), List.mem_of_getElem? (i := 1147) (by decide +kernel)⟩
theorem lw_p43 : lw_okq (⟨"TalkingPlotsModel", "beginsText", "(I)V"⟩, 50) := ⟨⟨by decide +kernel, by decide +kernel⟩, List.mem_of_getElem? (i := 976) (by decide +kernel), List.mem_of_getElem? (i := 1154) (by decide +kernel), List.mem_of_getElem? (i := 1155) (by decide +kernel)⟩
theorem lw_p44 : lw_okq (⟨"TalkingPlotsModel", "readsRule", "()Z"⟩, 50) := ⟨⟨by decide +kernel, by decide +kernel⟩, List.mem_of_getElem? (i := 976) (by decide +kernel), List.mem_of_getElem? (i := 1158) (by decide +kernel), List.mem_of_getElem? (i := 1159) (by decide +kernel)⟩
theorem lw_p45 : lw_okq (⟨"TalkingPlotsModel", "here", "()I"⟩, 50) := ⟨⟨by decide +kernel, by decide +kernel⟩, List.mem_of_getElem? (i := 976) (by decide +kernel), List.mem_of_getElem? (i := 1162) (by decide +kernel), List.mem_of_getElem? (i := 1163) (by decide +kernel)⟩
theorem lw_p46 : lw_okq (⟨"TalkingPlotsModel", "wrongAt", "(II)Z"⟩, 50) := ⟨⟨by decide +kernel, by decide +kernel⟩, List.mem_of_getElem? (i := 976) (by decide +kernel), List.mem_of_getElem? (i := 1166) (by decide +kernel), List.mem_of_getElem? (i := 1167) (by decide +kernel)⟩
theorem lw_p47 : lw_okq (⟨"TalkingPlotsModel", "readsSum", "()Z"⟩, 50) := ⟨⟨by decide +kernel, by decide +kernel⟩, List.mem_of_getElem? (i := 976) (by decide +kernel), List.mem_of_getElem? (i := 1170) (by decide +kernel), List.mem_of_getElem? (i := 1171) (by decide +kernel)⟩
def lw_privs_3 : List (MethodName × Nat) := [(⟨"TalkingPlots$Company", "waysBehind", "(II)I"⟩, 9), (⟨"TalkingPlots$Company", "mostBehind", "(II)I"⟩, 9), (⟨"TalkingPlots$Company", "addedBy", "(III)I"⟩, 9), (⟨"TalkingPlots$Company", "firstInRow", "()I"⟩, 9), (⟨"TalkingPlots$Company", "lowestBehind", "(II)I"⟩, 9), (⟨"TalkingPlots$Company", "lowestOf", "(I)I"⟩, 9), (⟨"TalkingPlots$Company", "canCouple", "(III)Z"⟩, 9), (⟨"TalkingPlots$Company", "withCouple", "(III)I"⟩, 9), (⟨"TalkingPlots$Company", "lowestOther", "(II)I"⟩, 9), (⟨"TalkingPlots", "circleCount", "()I"⟩, 15), (⟨"TalkingPlotsModel", "types", "(I)V"⟩, 50), (⟨"TalkingPlotsModel", "beginsText", "(I)V"⟩, 50), (⟨"TalkingPlotsModel", "readsRule", "()Z"⟩, 50), (⟨"TalkingPlotsModel", "here", "()I"⟩, 50), (⟨"TalkingPlotsModel", "wrongAt", "(II)Z"⟩, 50), (⟨"TalkingPlotsModel", "readsSum", "()Z"⟩, 50)]
theorem lw_r3 : ∀ q ∈ lw_privs_3, lw_okq q := List.forall_mem_cons.mpr ⟨lw_p32, List.forall_mem_cons.mpr ⟨lw_p33, List.forall_mem_cons.mpr ⟨lw_p34, List.forall_mem_cons.mpr ⟨lw_p35, List.forall_mem_cons.mpr ⟨lw_p36, List.forall_mem_cons.mpr ⟨lw_p37, List.forall_mem_cons.mpr ⟨lw_p38, List.forall_mem_cons.mpr ⟨lw_p39, List.forall_mem_cons.mpr ⟨lw_p40, List.forall_mem_cons.mpr ⟨lw_p41, List.forall_mem_cons.mpr ⟨lw_p42, List.forall_mem_cons.mpr ⟨lw_p43, List.forall_mem_cons.mpr ⟨lw_p44, List.forall_mem_cons.mpr ⟨lw_p45, List.forall_mem_cons.mpr ⟨lw_p46, List.forall_mem_cons.mpr ⟨lw_p47, fun _ h => absurd h List.not_mem_nil⟩⟩⟩⟩⟩⟩⟩⟩⟩⟩⟩⟩⟩⟩⟩⟩
theorem lw_p48 : lw_okq (⟨"TalkingPlotsModel", "readsFactor", "()Z"⟩, 50) := ⟨⟨by decide +kernel, by decide +kernel⟩, List.mem_of_getElem? (i := 976) (by decide +kernel), List.mem_of_getElem? (i := 1174) (by decide +kernel), List.mem_of_getElem? (i := 1175) (by decide +kernel)⟩
theorem lw_p49 : lw_okq (⟨"TalkingPlotsModel", "opens", "(I)Z"⟩, 50) := ⟨⟨by decide +kernel, by decide +kernel⟩, List.mem_of_getElem? (i := 976) (by decide +kernel), List.mem_of_getElem? (i := 1178) (by decide +kernel), List.mem_of_getElem? (i := 1179) (by decide +kernel)⟩
theorem lw_p50 : lw_okq (⟨"TalkingPlotsModel", "isDigit", "()Z"⟩, 50) := ⟨⟨by decide +kernel, by decide +kernel⟩, List.mem_of_getElem? (i := 976) (by decide +kernel), List.mem_of_getElem? (i := 1183) (by decide +kernel), List.mem_of_getElem? (i := 1184) (by decide +kernel)⟩
theorem lw_p51 : lw_okq (⟨"TalkingPlotsModel", "readsNumber", "()Z"⟩, 50) := ⟨⟨by decide +kernel, by decide +kernel⟩, List.mem_of_getElem? (i := 976) (by decide +kernel), List.mem_of_getElem? (i := 1187) (by decide +kernel), List.mem_of_getElem? (i := 1188) (by decide +kernel)⟩
theorem lw_p52 : lw_okq (⟨"TalkingPlotsModel", "notes", "(II)V"⟩, 50) := ⟨⟨by decide +kernel, by decide +kernel⟩, List.mem_of_getElem? (i := 976) (by decide +kernel), List.mem_of_getElem? (i := 1191) (by decide +kernel), List.mem_of_getElem? (i := 1192) (by decide +kernel)⟩
theorem lw_p53 : lw_okq (⟨"TalkingPlotsModel", "closesSums", "(Z)V"⟩, 50) := ⟨⟨by decide +kernel, by decide +kernel⟩, List.mem_of_getElem? (i := 976) (by decide +kernel), List.mem_of_getElem? (i := 1201) (by decide +kernel), List.mem_of_getElem? (i := 1202) (by decide +kernel)⟩
theorem lw_p54 : lw_okq (⟨"TalkingPlotsModel", "waitTop", "()I"⟩, 50) := ⟨⟨by decide +kernel, by decide +kernel⟩, List.mem_of_getElem? (i := 976) (by decide +kernel), List.mem_of_getElem? (i := 1205) (by decide +kernel), List.mem_of_getElem? (i := 1206) (by decide +kernel)⟩
theorem lw_p55 : lw_okq (⟨"TalkingPlotsModel", "hasOpenSum", "(I)Z"⟩, 50) := ⟨⟨by decide +kernel, by decide +kernel⟩, List.mem_of_getElem? (i := 976) (by decide +kernel), List.mem_of_getElem? (i := 1209) (by decide +kernel), List.mem_of_getElem? (i := 1210) (by decide +kernel)⟩
theorem lw_p56 : lw_okq (⟨"TalkingPlotsModel", "readsCondition", "()Z"⟩, 50) := ⟨⟨by decide +kernel, by decide +kernel⟩, List.mem_of_getElem? (i := 976) (by decide +kernel), List.mem_of_getElem? (i := 1213) (by decide +kernel), List.mem_of_getElem? (i := 1214) (by decide +kernel)⟩
theorem lw_p57 : lw_okq (⟨"TalkingPlotsModel", "readsCompared", "()Z"⟩, 50) := ⟨⟨by decide +kernel, by decide +kernel⟩, List.mem_of_getElem? (i := 976) (by decide +kernel), List.mem_of_getElem? (i := 1217) (by decide +kernel), List.mem_of_getElem? (i := 1218) (by decide +kernel)⟩
theorem lw_p58 : lw_okq (⟨"TalkingPlotsModel", "endsPiece", "()V"⟩, 50) := ⟨⟨by decide +kernel, by decide +kernel⟩, List.mem_of_getElem? (i := 976) (by decide +kernel), List.mem_of_getElem? (i := 1221) (by decide +kernel), List.mem_of_getElem? (i := 1222) (by decide +kernel)⟩
theorem lw_p59 : lw_okq (⟨"TalkingPlotsModel", "lands", "(Z)V"⟩, 50) := ⟨⟨by decide +kernel, by decide +kernel⟩, List.mem_of_getElem? (i := 976) (by decide +kernel), List.mem_of_getElem? (i := 1225) (by decide +kernel), List.mem_of_getElem? (i := 1226) (by decide +kernel)⟩
theorem lw_p60 : lw_okq (⟨"TalkingPlotsModel", "jumps", "(I)V"⟩, 50) := ⟨⟨by decide +kernel, by decide +kernel⟩, List.mem_of_getElem? (i := 976) (by decide +kernel), List.mem_of_getElem? (i := 1229) (by decide +kernel), List.mem_of_getElem? (i := 1230) (by decide +kernel)⟩
theorem lw_p61 : lw_okq (⟨"TalkingPlotsModel", "takes", "(I)Z"⟩, 50) := ⟨⟨by decide +kernel, by decide +kernel⟩, List.mem_of_getElem? (i := 976) (by decide +kernel), List.mem_of_getElem? (i := 1233) (by decide +kernel), List.mem_of_getElem? (i := 1234) (by decide +kernel)⟩
theorem lw_p62 : lw_okq (⟨"TalkingPlotsModel", "readsLine", "()Z"⟩, 50) := ⟨⟨by decide +kernel, by decide +kernel⟩, List.mem_of_getElem? (i := 976) (by decide +kernel), List.mem_of_getElem? (i := 1244) (by decide +kernel), List.mem_of_getElem? (i := 1245) (by decide +kernel)⟩
theorem lw_p63 : lw_okq (⟨"TalkingPlotsModel", "isLetter", "()Z"⟩, 50) := ⟨⟨by decide +kernel, by decide +kernel⟩, List.mem_of_getElem? (i := 976) (by decide +kernel), List.mem_of_getElem? (i := 1248) (by decide +kernel), List.mem_of_getElem? (i := 1249) (by decide +kernel)⟩
def lw_privs_4 : List (MethodName × Nat) := [(⟨"TalkingPlotsModel", "readsFactor", "()Z"⟩, 50), (⟨"TalkingPlotsModel", "opens", "(I)Z"⟩, 50), (⟨"TalkingPlotsModel", "isDigit", "()Z"⟩, 50), (⟨"TalkingPlotsModel", "readsNumber", "()Z"⟩, 50), (⟨"TalkingPlotsModel", "notes", "(II)V"⟩, 50), (⟨"TalkingPlotsModel", "closesSums", "(Z)V"⟩, 50), (⟨"TalkingPlotsModel", "waitTop", "()I"⟩, 50), (⟨"TalkingPlotsModel", "hasOpenSum", "(I)Z"⟩, 50), (⟨"TalkingPlotsModel", "readsCondition", "()Z"⟩, 50), (⟨"TalkingPlotsModel", "readsCompared", "()Z"⟩, 50), (⟨"TalkingPlotsModel", "endsPiece", "()V"⟩, 50), (⟨"TalkingPlotsModel", "lands", "(Z)V"⟩, 50), (⟨"TalkingPlotsModel", "jumps", "(I)V"⟩, 50), (⟨"TalkingPlotsModel", "takes", "(I)Z"⟩, 50), (⟨"TalkingPlotsModel", "readsLine", "()Z"⟩, 50), (⟨"TalkingPlotsModel", "isLetter", "()Z"⟩, 50)]
theorem lw_r4 : ∀ q ∈ lw_privs_4, lw_okq q := List.forall_mem_cons.mpr ⟨lw_p48, List.forall_mem_cons.mpr ⟨lw_p49, List.forall_mem_cons.mpr ⟨lw_p50, List.forall_mem_cons.mpr ⟨lw_p51, List.forall_mem_cons.mpr ⟨lw_p52, List.forall_mem_cons.mpr ⟨lw_p53, List.forall_mem_cons.mpr ⟨lw_p54, List.forall_mem_cons.mpr ⟨lw_p55, List.forall_mem_cons.mpr ⟨lw_p56, List.forall_mem_cons.mpr ⟨lw_p57, List.forall_mem_cons.mpr ⟨lw_p58, List.forall_mem_cons.mpr ⟨lw_p59, List.forall_mem_cons.mpr ⟨lw_p60, List.forall_mem_cons.mpr ⟨lw_p61, List.forall_mem_cons.mpr ⟨lw_p62, List.forall_mem_cons.mpr ⟨lw_p63, fun _ h => absurd h List.not_mem_nil⟩⟩⟩⟩⟩⟩⟩⟩⟩⟩⟩⟩⟩⟩⟩⟩
theorem lw_p64 : lw_okq (⟨"TalkingPlotsModel", "isTold", "(I)Z"⟩, 50) := ⟨⟨by decide +kernel, by decide +kernel⟩, List.mem_of_getElem? (i := 976) (by decide +kernel), List.mem_of_getElem? (i := 1252) (by decide +kernel), List.mem_of_getElem? (i := 1253) (by decide +kernel)⟩
theorem lw_p65 : lw_okq (⟨"TalkingPlotsModel", "readsPlot", "(I)Z"⟩, 50) := ⟨⟨by decide +kernel, by decide +kernel⟩, List.mem_of_getElem? (i := 976) (by decide +kernel), List.mem_of_getElem? (i := 1256) (by decide +kernel), List.mem_of_getElem? (i := 1257) (by decide +kernel)⟩
theorem lw_p66 : lw_okq (⟨"TalkingPlotsModel", "whoLies", "(I)I"⟩, 50) := ⟨⟨by decide +kernel, by decide +kernel⟩, List.mem_of_getElem? (i := 976) (by decide +kernel), List.mem_of_getElem? (i := 1260) (by decide +kernel), List.mem_of_getElem? (i := 1261) (by decide +kernel)⟩
theorem lw_p67 : lw_okq (⟨"TalkingPlotsModel", "isLaid", "(I)Z"⟩, 50) := ⟨⟨by decide +kernel, by decide +kernel⟩, List.mem_of_getElem? (i := 976) (by decide +kernel), List.mem_of_getElem? (i := 1264) (by decide +kernel), List.mem_of_getElem? (i := 1265) (by decide +kernel)⟩
theorem lw_p68 : lw_okq (⟨"TalkingPlotsModel", "readsOther", "(I)Z"⟩, 50) := ⟨⟨by decide +kernel, by decide +kernel⟩, List.mem_of_getElem? (i := 976) (by decide +kernel), List.mem_of_getElem? (i := 1268) (by decide +kernel), List.mem_of_getElem? (i := 1269) (by decide +kernel)⟩
theorem lw_p69 : lw_okq (⟨"TalkingPlotsModel", "readsTopic", "(IZ)Z"⟩, 50) := ⟨⟨by decide +kernel, by decide +kernel⟩, List.mem_of_getElem? (i := 976) (by decide +kernel), List.mem_of_getElem? (i := 1272) (by decide +kernel), List.mem_of_getElem? (i := 1273) (by decide +kernel)⟩
theorem lw_p70 : lw_okq (⟨"TalkingPlotsModel", "readsWish", "()Z"⟩, 50) := ⟨⟨by decide +kernel, by decide +kernel⟩, List.mem_of_getElem? (i := 976) (by decide +kernel), List.mem_of_getElem? (i := 1280) (by decide +kernel), List.mem_of_getElem? (i := 1281) (by decide +kernel)⟩
theorem lw_p71 : lw_okq (⟨"TalkingPlotsModel", "nightsGo", "(I)V"⟩, 50) := ⟨⟨by decide +kernel, by decide +kernel⟩, List.mem_of_getElem? (i := 976) (by decide +kernel), List.mem_of_getElem? (i := 1288) (by decide +kernel), List.mem_of_getElem? (i := 1289) (by decide +kernel)⟩
theorem lw_p72 : lw_okq (⟨"TalkingPlotsModel", "turnOf", "(I)V"⟩, 50) := ⟨⟨by decide +kernel, by decide +kernel⟩, List.mem_of_getElem? (i := 976) (by decide +kernel), List.mem_of_getElem? (i := 1292) (by decide +kernel), List.mem_of_getElem? (i := 1293) (by decide +kernel)⟩
theorem lw_p73 : lw_okq (⟨"TalkingPlotsModel", "feels", "(II)V"⟩, 50) := ⟨⟨by decide +kernel, by decide +kernel⟩, List.mem_of_getElem? (i := 976) (by decide +kernel), List.mem_of_getElem? (i := 1296) (by decide +kernel), List.mem_of_getElem? (i := 1297) (by decide +kernel)⟩
theorem lw_p74 : lw_okq (⟨"TalkingPlotsModel", "shared", "(II)I"⟩, 50) := ⟨⟨by decide +kernel, by decide +kernel⟩, List.mem_of_getElem? (i := 976) (by decide +kernel), List.mem_of_getElem? (i := 1300) (by decide +kernel), List.mem_of_getElem? (i := 1301) (by decide +kernel)⟩
theorem lw_p75 : lw_okq (⟨"TalkingPlotsModel", "besideSet", "(I)I"⟩, 50) := ⟨⟨by decide +kernel, by decide +kernel⟩, List.mem_of_getElem? (i := 976) (by decide +kernel), List.mem_of_getElem? (i := 1307) (by decide +kernel), List.mem_of_getElem? (i := 1308) (by decide +kernel)⟩
theorem lw_p76 : lw_okq (⟨"TalkingPlotsModel", "areBeside", "(II)Z"⟩, 50) := ⟨⟨by decide +kernel, by decide +kernel⟩, List.mem_of_getElem? (i := 976) (by decide +kernel), List.mem_of_getElem? (i := 1311) (by decide +kernel), List.mem_of_getElem? (i := 1312) (by decide +kernel)⟩
theorem lw_p77 : lw_okq (⟨"TalkingPlotsModel", "holdsAny", "(I)Z"⟩, 50) := ⟨⟨by decide +kernel, by decide +kernel⟩, List.mem_of_getElem? (i := 976) (by decide +kernel), List.mem_of_getElem? (i := 1321) (by decide +kernel), List.mem_of_getElem? (i := 1322) (by decide +kernel)⟩
theorem lw_p78 : lw_okq (⟨"TalkingPlotsModel", "comesTo", "(II)I"⟩, 50) := ⟨⟨by decide +kernel, by decide +kernel⟩, List.mem_of_getElem? (i := 976) (by decide +kernel), List.mem_of_getElem? (i := 1325) (by decide +kernel), List.mem_of_getElem? (i := 1326) (by decide +kernel)⟩
theorem lw_p79 : lw_okq (⟨"TalkingPlotsModel", "likesMost", "(I)I"⟩, 50) := ⟨⟨by decide +kernel, by decide +kernel⟩, List.mem_of_getElem? (i := 976) (by decide +kernel), List.mem_of_getElem? (i := 1332) (by decide +kernel), List.mem_of_getElem? (i := 1333) (by decide +kernel)⟩
def lw_privs_5 : List (MethodName × Nat) := [(⟨"TalkingPlotsModel", "isTold", "(I)Z"⟩, 50), (⟨"TalkingPlotsModel", "readsPlot", "(I)Z"⟩, 50), (⟨"TalkingPlotsModel", "whoLies", "(I)I"⟩, 50), (⟨"TalkingPlotsModel", "isLaid", "(I)Z"⟩, 50), (⟨"TalkingPlotsModel", "readsOther", "(I)Z"⟩, 50), (⟨"TalkingPlotsModel", "readsTopic", "(IZ)Z"⟩, 50), (⟨"TalkingPlotsModel", "readsWish", "()Z"⟩, 50), (⟨"TalkingPlotsModel", "nightsGo", "(I)V"⟩, 50), (⟨"TalkingPlotsModel", "turnOf", "(I)V"⟩, 50), (⟨"TalkingPlotsModel", "feels", "(II)V"⟩, 50), (⟨"TalkingPlotsModel", "shared", "(II)I"⟩, 50), (⟨"TalkingPlotsModel", "besideSet", "(I)I"⟩, 50), (⟨"TalkingPlotsModel", "areBeside", "(II)Z"⟩, 50), (⟨"TalkingPlotsModel", "holdsAny", "(I)Z"⟩, 50), (⟨"TalkingPlotsModel", "comesTo", "(II)I"⟩, 50), (⟨"TalkingPlotsModel", "likesMost", "(I)I"⟩, 50)]
theorem lw_r5 : ∀ q ∈ lw_privs_5, lw_okq q := List.forall_mem_cons.mpr ⟨lw_p64, List.forall_mem_cons.mpr ⟨lw_p65, List.forall_mem_cons.mpr ⟨lw_p66, List.forall_mem_cons.mpr ⟨lw_p67, List.forall_mem_cons.mpr ⟨lw_p68, List.forall_mem_cons.mpr ⟨lw_p69, List.forall_mem_cons.mpr ⟨lw_p70, List.forall_mem_cons.mpr ⟨lw_p71, List.forall_mem_cons.mpr ⟨lw_p72, List.forall_mem_cons.mpr ⟨lw_p73, List.forall_mem_cons.mpr ⟨lw_p74, List.forall_mem_cons.mpr ⟨lw_p75, List.forall_mem_cons.mpr ⟨lw_p76, List.forall_mem_cons.mpr ⟨lw_p77, List.forall_mem_cons.mpr ⟨lw_p78, List.forall_mem_cons.mpr ⟨lw_p79, fun _ h => absurd h List.not_mem_nil⟩⟩⟩⟩⟩⟩⟩⟩⟩⟩⟩⟩⟩⟩⟩⟩
theorem lw_p80 : lw_okq (⟨"TalkingPlotsModel", "byLaw", "(II)I"⟩, 50) := ⟨⟨by decide +kernel, by decide +kernel⟩, List.mem_of_getElem? (i := 976) (by decide +kernel), List.mem_of_getElem? (i := 1336) (by decide +kernel), List.mem_of_getElem? (i := 1337) (by decide +kernel)⟩
theorem lw_p81 : lw_okq (⟨"TalkingPlotsModel", "learns", "(II)V"⟩, 50) := ⟨⟨by decide +kernel, by decide +kernel⟩, List.mem_of_getElem? (i := 976) (by decide +kernel), List.mem_of_getElem? (i := 1341) (by decide +kernel), List.mem_of_getElem? (i := 1342) (by decide +kernel)⟩
theorem lw_p82 : lw_okq (⟨"TalkingPlotsModel", "moodless", "()I"⟩, 50) := ⟨⟨by decide +kernel, by decide +kernel⟩, List.mem_of_getElem? (i := 976) (by decide +kernel), List.mem_of_getElem? (i := 1358) (by decide +kernel), List.mem_of_getElem? (i := 1359) (by decide +kernel)⟩
theorem lw_p83 : lw_okq (⟨"TalkingPlotsModel", "rankOf", "(I)I"⟩, 50) := ⟨⟨by decide +kernel, by decide +kernel⟩, List.mem_of_getElem? (i := 976) (by decide +kernel), List.mem_of_getElem? (i := 1366) (by decide +kernel), List.mem_of_getElem? (i := 1367) (by decide +kernel)⟩
theorem lw_p84 : lw_okq (⟨"TalkingPlotsModel", "talkOf", "(II)I"⟩, 50) := ⟨⟨by decide +kernel, by decide +kernel⟩, List.mem_of_getElem? (i := 976) (by decide +kernel), List.mem_of_getElem? (i := 1374) (by decide +kernel), List.mem_of_getElem? (i := 1375) (by decide +kernel)⟩
theorem lw_p85 : lw_okq (⟨"TalkingPlotsModel", "talkAt", "(II)I"⟩, 50) := ⟨⟨by decide +kernel, by decide +kernel⟩, List.mem_of_getElem? (i := 976) (by decide +kernel), List.mem_of_getElem? (i := 1386) (by decide +kernel), List.mem_of_getElem? (i := 1387) (by decide +kernel)⟩
theorem lw_p86 : lw_okq (⟨"TalkingPlotsModel", "changesPlots", "(II)V"⟩, 50) := ⟨⟨by decide +kernel, by decide +kernel⟩, List.mem_of_getElem? (i := 976) (by decide +kernel), List.mem_of_getElem? (i := 1399) (by decide +kernel), List.mem_of_getElem? (i := 1400) (by decide +kernel)⟩
theorem lw_p87 : lw_okq (⟨"TalkingPlotsModel", "holdsWish", "(I)Z"⟩, 50) := ⟨⟨by decide +kernel, by decide +kernel⟩, List.mem_of_getElem? (i := 976) (by decide +kernel), List.mem_of_getElem? (i := 1407) (by decide +kernel), List.mem_of_getElem? (i := 1408) (by decide +kernel)⟩
theorem lw_p88 : lw_okq (⟨"TalkingPlotsModel", "toldSet", "()I"⟩, 50) := ⟨⟨by decide +kernel, by decide +kernel⟩, List.mem_of_getElem? (i := 976) (by decide +kernel), List.mem_of_getElem? (i := 1418) (by decide +kernel), List.mem_of_getElem? (i := 1419) (by decide +kernel)⟩
theorem lw_p89 : lw_okq (⟨"TalkingPlotsModel", "mayBeOrder", "(I)V"⟩, 50) := ⟨⟨by decide +kernel, by decide +kernel⟩, List.mem_of_getElem? (i := 976) (by decide +kernel), List.mem_of_getElem? (i := 1423) (by decide +kernel), List.mem_of_getElem? (i := 1424) (by decide +kernel)⟩
theorem lw_p90 : lw_okq (⟨"TalkingPlotsModel", "holdsInRow", "(II)Z"⟩, 50) := ⟨⟨by decide +kernel, by decide +kernel⟩, List.mem_of_getElem? (i := 976) (by decide +kernel), List.mem_of_getElem? (i := 1427) (by decide +kernel), List.mem_of_getElem? (i := 1428) (by decide +kernel)⟩
theorem lw_p91 : lw_okq (⟨"TalkingPlotsModel", "nextOrder", "(I)Z"⟩, 50) := ⟨⟨by decide +kernel, by decide +kernel⟩, List.mem_of_getElem? (i := 976) (by decide +kernel), List.mem_of_getElem? (i := 1431) (by decide +kernel), List.mem_of_getElem? (i := 1432) (by decide +kernel)⟩
theorem lw_p92 : lw_okq (⟨"TalkingPlotsModel", "changesOrder", "(II)V"⟩, 50) := ⟨⟨by decide +kernel, by decide +kernel⟩, List.mem_of_getElem? (i := 976) (by decide +kernel), List.mem_of_getElem? (i := 1435) (by decide +kernel), List.mem_of_getElem? (i := 1436) (by decide +kernel)⟩
theorem lw_p93 : lw_okq (⟨"TalkingPlotsModel", "laysCouples", "()V"⟩, 50) := ⟨⟨by decide +kernel, by decide +kernel⟩, List.mem_of_getElem? (i := 976) (by decide +kernel), List.mem_of_getElem? (i := 1443) (by decide +kernel), List.mem_of_getElem? (i := 1444) (by decide +kernel)⟩
theorem lw_p94 : lw_okq (⟨"TalkingPlotsModel", "isWith", "(I)I"⟩, 50) := ⟨⟨by decide +kernel, by decide +kernel⟩, List.mem_of_getElem? (i := 976) (by decide +kernel), List.mem_of_getElem? (i := 1447) (by decide +kernel), List.mem_of_getElem? (i := 1448) (by decide +kernel)⟩
theorem lw_p95 : lw_okq (⟨"TalkingPlotsModel", "andBeside", "(I)I"⟩, 50) := ⟨⟨by decide +kernel, by decide +kernel⟩, List.mem_of_getElem? (i := 976) (by decide +kernel), List.mem_of_getElem? (i := 1455) (by decide +kernel), List.mem_of_getElem? (i := 1456) (by decide +kernel)⟩
def lw_privs_6 : List (MethodName × Nat) := [(⟨"TalkingPlotsModel", "byLaw", "(II)I"⟩, 50), (⟨"TalkingPlotsModel", "learns", "(II)V"⟩, 50), (⟨"TalkingPlotsModel", "moodless", "()I"⟩, 50), (⟨"TalkingPlotsModel", "rankOf", "(I)I"⟩, 50), (⟨"TalkingPlotsModel", "talkOf", "(II)I"⟩, 50), (⟨"TalkingPlotsModel", "talkAt", "(II)I"⟩, 50), (⟨"TalkingPlotsModel", "changesPlots", "(II)V"⟩, 50), (⟨"TalkingPlotsModel", "holdsWish", "(I)Z"⟩, 50), (⟨"TalkingPlotsModel", "toldSet", "()I"⟩, 50), (⟨"TalkingPlotsModel", "mayBeOrder", "(I)V"⟩, 50), (⟨"TalkingPlotsModel", "holdsInRow", "(II)Z"⟩, 50), (⟨"TalkingPlotsModel", "nextOrder", "(I)Z"⟩, 50), (⟨"TalkingPlotsModel", "changesOrder", "(II)V"⟩, 50), (⟨"TalkingPlotsModel", "laysCouples", "()V"⟩, 50), (⟨"TalkingPlotsModel", "isWith", "(I)I"⟩, 50), (⟨"TalkingPlotsModel", "andBeside", "(I)I"⟩, 50)]
theorem lw_r6 : ∀ q ∈ lw_privs_6, lw_okq q := List.forall_mem_cons.mpr ⟨lw_p80, List.forall_mem_cons.mpr ⟨lw_p81, List.forall_mem_cons.mpr ⟨lw_p82, List.forall_mem_cons.mpr ⟨lw_p83, List.forall_mem_cons.mpr ⟨lw_p84, List.forall_mem_cons.mpr ⟨lw_p85, List.forall_mem_cons.mpr ⟨lw_p86, List.forall_mem_cons.mpr ⟨lw_p87, List.forall_mem_cons.mpr ⟨lw_p88, List.forall_mem_cons.mpr ⟨lw_p89, List.forall_mem_cons.mpr ⟨lw_p90, List.forall_mem_cons.mpr ⟨lw_p91, List.forall_mem_cons.mpr ⟨lw_p92, List.forall_mem_cons.mpr ⟨lw_p93, List.forall_mem_cons.mpr ⟨lw_p94, List.forall_mem_cons.mpr ⟨lw_p95, fun _ h => absurd h List.not_mem_nil⟩⟩⟩⟩⟩⟩⟩⟩⟩⟩⟩⟩⟩⟩⟩⟩
theorem lw_p96 : lw_okq (⟨"TalkingPlotsModel", "circleOf", "(I)I"⟩, 50) := ⟨⟨by decide +kernel, by decide +kernel⟩, List.mem_of_getElem? (i := 976) (by decide +kernel), List.mem_of_getElem? (i := 1463) (by decide +kernel), List.mem_of_getElem? (i := 1464) (by decide +kernel)⟩
theorem lw_p97 : lw_okq (⟨"TalkingPlotsModel", "laidSet", "()I"⟩, 50) := ⟨⟨by decide +kernel, by decide +kernel⟩, List.mem_of_getElem? (i := 976) (by decide +kernel), List.mem_of_getElem? (i := 1467) (by decide +kernel), List.mem_of_getElem? (i := 1468) (by decide +kernel)⟩
theorem lw_p98 : lw_okq (⟨"TalkingPlotsModel", "sayingOf", "(I)I"⟩, 50) := ⟨⟨by decide +kernel, by decide +kernel⟩, List.mem_of_getElem? (i := 976) (by decide +kernel), List.mem_of_getElem? (i := 1479) (by decide +kernel), List.mem_of_getElem? (i := 1480) (by decide +kernel)⟩
theorem lw_p99 : lw_okq (⟨"TalkingPlotsModel", "octet", "(I)I"⟩, 50) := ⟨⟨by decide +kernel, by decide +kernel⟩, List.mem_of_getElem? (i := 976) (by decide +kernel), List.mem_of_getElem? (i := 1483) (by decide +kernel), List.mem_of_getElem? (i := 1484) (by decide +kernel)⟩
theorem lw_p100 : lw_okq (⟨"TalkingPlotsModel", "walksFrom", "(I)I"⟩, 50) := ⟨⟨by decide +kernel, by decide +kernel⟩, List.mem_of_getElem? (i := 976) (by decide +kernel), List.mem_of_getElem? (i := 1495) (by decide +kernel), List.mem_of_getElem? (i := 1496) (by decide +kernel)⟩
theorem lw_p101 : lw_okq (⟨"TalkingPlotsModel", "isSilent", "(I)Z"⟩, 50) := ⟨⟨by decide +kernel, by decide +kernel⟩, List.mem_of_getElem? (i := 976) (by decide +kernel), List.mem_of_getElem? (i := 1499) (by decide +kernel), List.mem_of_getElem? (i := 1500) (by decide +kernel)⟩
theorem lw_p102 : lw_okq (⟨"TalkingPlotsModel", "stepsBeside", "(I)I"⟩, 50) := ⟨⟨by decide +kernel, by decide +kernel⟩, List.mem_of_getElem? (i := 976) (by decide +kernel), List.mem_of_getElem? (i := 1507) (by decide +kernel), List.mem_of_getElem? (i := 1508) (by decide +kernel)⟩
def lw_privs_7 : List (MethodName × Nat) := [(⟨"TalkingPlotsModel", "circleOf", "(I)I"⟩, 50), (⟨"TalkingPlotsModel", "laidSet", "()I"⟩, 50), (⟨"TalkingPlotsModel", "sayingOf", "(I)I"⟩, 50), (⟨"TalkingPlotsModel", "octet", "(I)I"⟩, 50), (⟨"TalkingPlotsModel", "walksFrom", "(I)I"⟩, 50), (⟨"TalkingPlotsModel", "isSilent", "(I)Z"⟩, 50), (⟨"TalkingPlotsModel", "stepsBeside", "(I)I"⟩, 50)]
theorem lw_r7 : ∀ q ∈ lw_privs_7, lw_okq q := List.forall_mem_cons.mpr ⟨lw_p96, List.forall_mem_cons.mpr ⟨lw_p97, List.forall_mem_cons.mpr ⟨lw_p98, List.forall_mem_cons.mpr ⟨lw_p99, List.forall_mem_cons.mpr ⟨lw_p100, List.forall_mem_cons.mpr ⟨lw_p101, List.forall_mem_cons.mpr ⟨lw_p102, fun _ h => absurd h List.not_mem_nil⟩⟩⟩⟩⟩⟩⟩
def lw_privs : List (MethodName × Nat) := lw_privs_1 ++ (lw_privs_2 ++ (lw_privs_3 ++ (lw_privs_4 ++ (lw_privs_5 ++ (lw_privs_6 ++ (lw_privs_7))))))
def lw_tbl : List Cond := k2_sels lw_privs ++ tables_1
theorem lw_privs_ok : ∀ q ∈ lw_privs, lw_okq q := by
  show ∀ q ∈ lw_privs_1 ++ (lw_privs_2 ++ (lw_privs_3 ++ (lw_privs_4 ++ (lw_privs_5 ++ (lw_privs_6 ++ (lw_privs_7)))))), lw_okq q
  exact List.forall_mem_append.mpr ⟨lw_r1, List.forall_mem_append.mpr ⟨lw_r2, List.forall_mem_append.mpr ⟨lw_r3, List.forall_mem_append.mpr ⟨lw_r4, List.forall_mem_append.mpr ⟨lw_r5, List.forall_mem_append.mpr ⟨lw_r6, lw_r7⟩⟩⟩⟩⟩⟩
end
section
/-! names: the kinds of object by number, their fields; the methods by number -/
def mq_T0 : u_T := fun k => match k with
  | _ => ("TalkingPlots$BurialReader", "tape", "LTalkingPlots$Tape;", true)
def mq_ty0 : Nat → FieldType := fun k => match k with
  | _ => .object "TalkingPlots$Tape"
def mq_T1 : u_T := fun k => match k with
  | 0 => ("TalkingPlots$Company", "member", "[I", true)
  | 1 => ("TalkingPlots$Company", "talk", "[I", true)
  | 2 => ("TalkingPlots$Company", "most", "[I", true)
  | 3 => ("TalkingPlots$Company", "ways", "[I", true)
  | 4 => ("TalkingPlots$Company", "near", "[I", true)
  | 5 => ("TalkingPlots$Company", "apart", "[I", true)
  | 6 => ("TalkingPlots$Company", "ends", "I", false)
  | 7 => ("TalkingPlots$Company", "never", "Z", false)
  | _ => ("TalkingPlots$Company", "size", "I", false)
def mq_ty1 : Nat → FieldType := fun k => match k with
  | 0 => .array .int
  | 1 => .array .int
  | 2 => .array .int
  | 3 => .array .int
  | 4 => .array .int
  | 5 => .array .int
  | 6 => .int
  | 7 => .boolean
  | _ => .int
def mq_T2 : u_T := fun _ => ("", "", "", false)
def mq_ty2 : Nat → FieldType := fun _ => .int
def mq_T3 : u_T := fun k => match k with
  | 0 => ("TalkingPlots$Law", "step", "[I", true)
  | 1 => ("TalkingPlots$Law", "with", "[I", true)
  | 2 => ("TalkingPlots$Law", "steps", "I", false)
  | 3 => ("TalkingPlots$Law", "letter", "[I", true)
  | 4 => ("TalkingPlots$Law", "start", "[I", true)
  | 5 => ("TalkingPlots$Law", "middle", "[I", true)
  | 6 => ("TalkingPlots$Law", "end", "[I", true)
  | 7 => ("TalkingPlots$Law", "rules", "I", false)
  | 8 => ("TalkingPlots$Law", "values", "[I", true)
  | 9 => ("TalkingPlots$Law", "stack", "[I", true)
  | 10 => ("TalkingPlots$Law", "top", "I", false)
  | _ => ("TalkingPlots$Law", "flag", "Z", false)
def mq_ty3 : Nat → FieldType := fun k => match k with
  | 0 => .array .int
  | 1 => .array .int
  | 2 => .int
  | 3 => .array .int
  | 4 => .array .int
  | 5 => .array .int
  | 6 => .array .int
  | 7 => .int
  | 8 => .array .int
  | 9 => .array .int
  | 10 => .int
  | _ => .boolean
def mq_T4 : u_T := fun k => match k with
  | 0 => ("TalkingPlots$LawReader", "tape", "LTalkingPlots$Tape;", true)
  | _ => ("TalkingPlots$LawReader", "law", "LTalkingPlots$Law;", false)
def mq_ty4 : Nat → FieldType := fun k => match k with
  | 0 => .object "TalkingPlots$Tape"
  | _ => .object "TalkingPlots$Law"
def mq_T5 : u_T := fun k => match k with
  | 0 => ("TalkingPlots$Night", "talks", "I", false)
  | _ => ("TalkingPlots$Night", "learnt", "I", false)
def mq_ty5 : Nat → FieldType := fun k => match k with
  | 0 => .int
  | _ => .int
def mq_T6 : u_T := fun k => match k with
  | 0 => ("TalkingPlots$Plan", "first", "I", false)
  | 1 => ("TalkingPlots$Plan", "second", "I", false)
  | _ => ("TalkingPlots$Plan", "more", "I", false)
def mq_ty6 : Nat → FieldType := fun k => match k with
  | 0 => .int
  | 1 => .int
  | _ => .int
def mq_T7 : u_T := fun k => match k with
  | 0 => ("TalkingPlots$Sayings", "topics", "[I", true)
  | 1 => ("TalkingPlots$Sayings", "length", "[I", true)
  | _ => ("TalkingPlots$Sayings", "size", "I", false)
def mq_ty7 : Nat → FieldType := fun k => match k with
  | 0 => .array .int
  | 1 => .array .int
  | _ => .int
def mq_T8 : u_T := fun k => match k with
  | 0 => ("TalkingPlots$Tape", "bytes", "[I", true)
  | 1 => ("TalkingPlots$Tape", "size", "I", false)
  | 2 => ("TalkingPlots$Tape", "sign", "I", false)
  | 3 => ("TalkingPlots$Tape", "place", "I", false)
  | 4 => ("TalkingPlots$Tape", "fault", "I", false)
  | _ => ("TalkingPlots$Tape", "end", "I", false)
def mq_ty8 : Nat → FieldType := fun k => match k with
  | 0 => .array .int
  | 1 => .int
  | 2 => .int
  | 3 => .int
  | 4 => .int
  | _ => .int
def mq_T9 : u_T := fun k => match k with
  | 0 => ("TalkingPlots$Wishes", "sign", "[I", true)
  | 1 => ("TalkingPlots$Wishes", "one", "[I", true)
  | 2 => ("TalkingPlots$Wishes", "other", "[I", true)
  | _ => ("TalkingPlots$Wishes", "size", "I", false)
def mq_ty9 : Nat → FieldType := fun k => match k with
  | 0 => .array .int
  | 1 => .array .int
  | 2 => .array .int
  | _ => .int
def mq_T10 : u_T := fun k => match k with
  | 0 => ("TalkingPlots$Yard", "topics", "[I", true)
  | 1 => ("TalkingPlots$Yard", "mood", "[I", true)
  | 2 => ("TalkingPlots$Yard", "plot", "[I", true)
  | 3 => ("TalkingPlots$Yard", "lies", "[I", true)
  | 4 => ("TalkingPlots$Yard", "told", "I", false)
  | 5 => ("TalkingPlots$Yard", "night", "I", false)
  | _ => ("TalkingPlots$Yard", "drawn", "I", false)
def mq_ty10 : Nat → FieldType := fun k => match k with
  | 0 => .array .int
  | 1 => .array .int
  | 2 => .array .int
  | 3 => .array .int
  | 4 => .int
  | 5 => .int
  | _ => .int
def mq_T11 : u_T := fun k => match k with
  | 0 => ("TalkingPlots", "tape", "LTalkingPlots$Tape;", true)
  | 1 => ("TalkingPlots", "lawReader", "LTalkingPlots$LawReader;", true)
  | 2 => ("TalkingPlots", "burialReader", "LTalkingPlots$BurialReader;", true)
  | 3 => ("TalkingPlots", "night", "LTalkingPlots$Night;", true)
  | 4 => ("TalkingPlots", "plan", "LTalkingPlots$Plan;", true)
  | 5 => ("TalkingPlots", "company", "LTalkingPlots$Company;", true)
  | 6 => ("TalkingPlots", "sayings", "LTalkingPlots$Sayings;", true)
  | 7 => ("TalkingPlots", "kept", "LTalkingPlots$Yard;", true)
  | 8 => ("TalkingPlots", "isKept", "Z", false)
  | 9 => ("TalkingPlots", "yard", "LTalkingPlots$Yard;", false)
  | 10 => ("TalkingPlots", "spareYard", "LTalkingPlots$Yard;", false)
  | 11 => ("TalkingPlots", "law", "LTalkingPlots$Law;", false)
  | 12 => ("TalkingPlots", "spareLaw", "LTalkingPlots$Law;", false)
  | 13 => ("TalkingPlots", "wishes", "LTalkingPlots$Wishes;", false)
  | _ => ("TalkingPlots", "spareWishes", "LTalkingPlots$Wishes;", false)
def mq_ty11 : Nat → FieldType := fun k => match k with
  | 0 => .object "TalkingPlots$Tape"
  | 1 => .object "TalkingPlots$LawReader"
  | 2 => .object "TalkingPlots$BurialReader"
  | 3 => .object "TalkingPlots$Night"
  | 4 => .object "TalkingPlots$Plan"
  | 5 => .object "TalkingPlots$Company"
  | 6 => .object "TalkingPlots$Sayings"
  | 7 => .object "TalkingPlots$Yard"
  | 8 => .boolean
  | 9 => .object "TalkingPlots$Yard"
  | 10 => .object "TalkingPlots$Yard"
  | 11 => .object "TalkingPlots$Law"
  | 12 => .object "TalkingPlots$Law"
  | 13 => .object "TalkingPlots$Wishes"
  | _ => .object "TalkingPlots$Wishes"
def mq_T12 : u_T := fun k => match k with
  | 0 => ("TalkingPlotsModel", "now", "[I", true)
  | 1 => ("TalkingPlotsModel", "aside", "[I", true)
  | 2 => ("TalkingPlotsModel", "kept", "[I", true)
  | 3 => ("TalkingPlotsModel", "tape", "[B", true)
  | 4 => ("TalkingPlotsModel", "taped", "I", false)
  | 5 => ("TalkingPlotsModel", "place0", "I", false)
  | 6 => ("TalkingPlotsModel", "length0", "I", false)
  | 7 => ("TalkingPlotsModel", "fault", "I", false)
  | 8 => ("TalkingPlotsModel", "number0", "I", false)
  | 9 => ("TalkingPlotsModel", "open", "I", false)
  | 10 => ("TalkingPlotsModel", "codeMany", "I", false)
  | 11 => ("TalkingPlotsModel", "waiting", "I", false)
  | 12 => ("TalkingPlotsModel", "saidMany", "I", false)
  | 13 => ("TalkingPlotsModel", "clauses", "I", false)
  | 14 => ("TalkingPlotsModel", "said", "[I", true)
  | 15 => ("TalkingPlotsModel", "waitsAt", "[I", true)
  | 16 => ("TalkingPlotsModel", "saidLetter", "[I", true)
  | 17 => ("TalkingPlotsModel", "saidFrom", "[I", true)
  | 18 => ("TalkingPlotsModel", "saidHalf", "[I", true)
  | 19 => ("TalkingPlotsModel", "saidTo", "[I", true)
  | 20 => ("TalkingPlotsModel", "codes", "[I", true)
  | 21 => ("TalkingPlotsModel", "clauseOf", "[I", true)
  | 22 => ("TalkingPlotsModel", "codeFrom", "[I", true)
  | 23 => ("TalkingPlotsModel", "codeHalf", "[I", true)
  | 24 => ("TalkingPlotsModel", "codeTo", "[I", true)
  | 25 => ("TalkingPlotsModel", "stack", "[I", true)
  | 26 => ("TalkingPlotsModel", "facts", "[I", true)
  | 27 => ("TalkingPlotsModel", "lines", "I", false)
  | 28 => ("TalkingPlotsModel", "wishWho", "[I", true)
  | 29 => ("TalkingPlotsModel", "wishHow", "[I", true)
  | 30 => ("TalkingPlotsModel", "wishOther", "[I", true)
  | 31 => ("TalkingPlotsModel", "newWho", "[I", true)
  | 32 => ("TalkingPlotsModel", "newHow", "[I", true)
  | 33 => ("TalkingPlotsModel", "newOther", "[I", true)
  | 34 => ("TalkingPlotsModel", "wishMany", "I", false)
  | 35 => ("TalkingPlotsModel", "newMany", "I", false)
  | 36 => ("TalkingPlotsModel", "talked", "I", false)
  | 37 => ("TalkingPlotsModel", "learnt", "I", false)
  | 38 => ("TalkingPlotsModel", "orderNow", "[I", true)
  | 39 => ("TalkingPlotsModel", "orderBest", "[I", true)
  | 40 => ("TalkingPlotsModel", "placeOf", "[I", true)
  | 41 => ("TalkingPlotsModel", "ordersGood", "I", false)
  | 42 => ("TalkingPlotsModel", "mostSaid", "I", false)
  | 43 => ("TalkingPlotsModel", "coupleOf", "[I", true)
  | 44 => ("TalkingPlotsModel", "mostFor", "[I", true)
  | 45 => ("TalkingPlotsModel", "coupleMany", "I", false)
  | 46 => ("TalkingPlotsModel", "longFrom", "[I", true)
  | 47 => ("TalkingPlotsModel", "stepsTo", "[I", true)
  | 48 => ("TalkingPlotsModel", "queue", "[I", true)
  | _ => ("TalkingPlotsModel", "isKept", "Z", false)
def mq_ty12 : Nat → FieldType := fun k => match k with
  | 0 => .array .int
  | 1 => .array .int
  | 2 => .array .int
  | 3 => .array .byte
  | 4 => .int
  | 5 => .int
  | 6 => .int
  | 7 => .int
  | 8 => .int
  | 9 => .int
  | 10 => .int
  | 11 => .int
  | 12 => .int
  | 13 => .int
  | 14 => .array .int
  | 15 => .array .int
  | 16 => .array .int
  | 17 => .array .int
  | 18 => .array .int
  | 19 => .array .int
  | 20 => .array .int
  | 21 => .array .int
  | 22 => .array .int
  | 23 => .array .int
  | 24 => .array .int
  | 25 => .array .int
  | 26 => .array .int
  | 27 => .int
  | 28 => .array .int
  | 29 => .array .int
  | 30 => .array .int
  | 31 => .array .int
  | 32 => .array .int
  | 33 => .array .int
  | 34 => .int
  | 35 => .int
  | 36 => .int
  | 37 => .int
  | 38 => .array .int
  | 39 => .array .int
  | 40 => .array .int
  | 41 => .int
  | 42 => .int
  | 43 => .array .int
  | 44 => .array .int
  | 45 => .int
  | 46 => .array .int
  | 47 => .array .int
  | 48 => .array .int
  | _ => .boolean
def mq_T (t : Nat) : u_T := (bif Nat.blt t 6 then (bif Nat.blt t 3 then (bif Nat.blt t 1 then mq_T0 else (bif Nat.blt t 2 then mq_T1 else mq_T2)) else (bif Nat.blt t 4 then mq_T3 else (bif Nat.blt t 5 then mq_T4 else mq_T5))) else (bif Nat.blt t 9 then (bif Nat.blt t 7 then mq_T6 else (bif Nat.blt t 8 then mq_T7 else mq_T8)) else (bif Nat.blt t 11 then (bif Nat.blt t 10 then mq_T9 else mq_T10) else (bif Nat.blt t 12 then mq_T11 else mq_T12))))
def mq_ty (t : Nat) : Nat → FieldType := (bif Nat.blt t 6 then (bif Nat.blt t 3 then (bif Nat.blt t 1 then mq_ty0 else (bif Nat.blt t 2 then mq_ty1 else mq_ty2)) else (bif Nat.blt t 4 then mq_ty3 else (bif Nat.blt t 5 then mq_ty4 else mq_ty5))) else (bif Nat.blt t 9 then (bif Nat.blt t 7 then mq_ty6 else (bif Nat.blt t 8 then mq_ty7 else mq_ty8)) else (bif Nat.blt t 11 then (bif Nat.blt t 10 then mq_ty9 else mq_ty10) else (bif Nat.blt t 12 then mq_ty11 else mq_ty12))))
def mq_N (t : Nat) : Nat := (bif Nat.blt t 6 then (bif Nat.blt t 3 then (bif Nat.blt t 1 then 1 else (bif Nat.blt t 2 then 9 else 0)) else (bif Nat.blt t 4 then 12 else (bif Nat.blt t 5 then 2 else 2))) else (bif Nat.blt t 9 then (bif Nat.blt t 7 then 3 else (bif Nat.blt t 8 then 3 else 6)) else (bif Nat.blt t 11 then (bif Nat.blt t 10 then 4 else 7) else (bif Nat.blt t 12 then 15 else 50))))
def mq_cn (t : Nat) : String := (bif Nat.blt t 9 then (bif Nat.blt t 4 then (bif Nat.blt t 2 then (bif Nat.blt t 1 then "TalkingPlots$BurialReader" else "TalkingPlots$Company") else (bif Nat.blt t 3 then "TalkingPlots$Grass" else "TalkingPlots$Law")) else (bif Nat.blt t 6 then (bif Nat.blt t 5 then "TalkingPlots$LawReader" else "TalkingPlots$Night") else (bif Nat.blt t 7 then "TalkingPlots$Plan" else (bif Nat.blt t 8 then "TalkingPlots$Sayings" else "TalkingPlots$Tape")))) else (bif Nat.blt t 14 then (bif Nat.blt t 11 then (bif Nat.blt t 10 then "TalkingPlots$Wishes" else "TalkingPlots$Yard") else (bif Nat.blt t 12 then "TalkingPlots" else (bif Nat.blt t 13 then "TalkingPlotsModel" else "java/lang/Integer"))) else (bif Nat.blt t 16 then (bif Nat.blt t 15 then "java/lang/Long" else "java/lang/Math") else (bif Nat.blt t 17 then "java/lang/System" else (bif Nat.blt t 18 then "java/util/Arrays" else "TalkingPlotsLaw")))))
abbrev mq_cl : List vw_C := [(mq_cn 0, mq_T 0, mq_N 0), (mq_cn 1, mq_T 1, mq_N 1), (mq_cn 2, mq_T 2, mq_N 2), (mq_cn 3, mq_T 3, mq_N 3), (mq_cn 4, mq_T 4, mq_N 4), (mq_cn 5, mq_T 5, mq_N 5), (mq_cn 6, mq_T 6, mq_N 6), (mq_cn 7, mq_T 7, mq_N 7), (mq_cn 8, mq_T 8, mq_N 8), (mq_cn 9, mq_T 9, mq_N 9), (mq_cn 10, mq_T 10, mq_N 10), (mq_cn 11, mq_T 11, mq_N 11), (mq_cn 12, mq_T 12, mq_N 12)]
def mq_own (m : Nat) : Nat := (bif Nat.blt m 132 then (bif Nat.blt m 66 then (bif Nat.blt m 33 then (bif Nat.blt m 16 then (bif Nat.blt m 8 then (bif Nat.blt m 4 then (bif Nat.blt m 2 then (bif Nat.blt m 1 then 0 else 0) else (bif Nat.blt m 3 then 0 else 0)) else (bif Nat.blt m 6 then (bif Nat.blt m 5 then 0 else 0) else (bif Nat.blt m 7 then 0 else 1))) else (bif Nat.blt m 12 then (bif Nat.blt m 10 then (bif Nat.blt m 9 then 1 else 1) else (bif Nat.blt m 11 then 1 else 1)) else (bif Nat.blt m 14 then (bif Nat.blt m 13 then 1 else 1) else (bif Nat.blt m 15 then 1 else 1)))) else (bif Nat.blt m 24 then (bif Nat.blt m 20 then (bif Nat.blt m 18 then (bif Nat.blt m 17 then 1 else 1) else (bif Nat.blt m 19 then 1 else 1)) else (bif Nat.blt m 22 then (bif Nat.blt m 21 then 1 else 1) else (bif Nat.blt m 23 then 1 else 1))) else (bif Nat.blt m 28 then (bif Nat.blt m 26 then (bif Nat.blt m 25 then 1 else 1) else (bif Nat.blt m 27 then 1 else 1)) else (bif Nat.blt m 30 then (bif Nat.blt m 29 then 1 else 2) else (bif Nat.blt m 31 then 2 else (bif Nat.blt m 32 then 2 else 2)))))) else (bif Nat.blt m 49 then (bif Nat.blt m 41 then (bif Nat.blt m 37 then (bif Nat.blt m 35 then (bif Nat.blt m 34 then 2 else 3) else (bif Nat.blt m 36 then 3 else 3)) else (bif Nat.blt m 39 then (bif Nat.blt m 38 then 3 else 3) else (bif Nat.blt m 40 then 3 else 3))) else (bif Nat.blt m 45 then (bif Nat.blt m 43 then (bif Nat.blt m 42 then 3 else 3) else (bif Nat.blt m 44 then 3 else 3)) else (bif Nat.blt m 47 then (bif Nat.blt m 46 then 4 else 4) else (bif Nat.blt m 48 then 4 else 4)))) else (bif Nat.blt m 57 then (bif Nat.blt m 53 then (bif Nat.blt m 51 then (bif Nat.blt m 50 then 4 else 4) else (bif Nat.blt m 52 then 4 else 4)) else (bif Nat.blt m 55 then (bif Nat.blt m 54 then 4 else 4) else (bif Nat.blt m 56 then 4 else 4))) else (bif Nat.blt m 61 then (bif Nat.blt m 59 then (bif Nat.blt m 58 then 4 else 5) else (bif Nat.blt m 60 then 5 else 5)) else (bif Nat.blt m 63 then (bif Nat.blt m 62 then 5 else 5) else (bif Nat.blt m 64 then 5 else (bif Nat.blt m 65 then 6 else 6))))))) else (bif Nat.blt m 99 then (bif Nat.blt m 82 then (bif Nat.blt m 74 then (bif Nat.blt m 70 then (bif Nat.blt m 68 then (bif Nat.blt m 67 then 6 else 6) else (bif Nat.blt m 69 then 6 else 6)) else (bif Nat.blt m 72 then (bif Nat.blt m 71 then 6 else 6) else (bif Nat.blt m 73 then 6 else 6))) else (bif Nat.blt m 78 then (bif Nat.blt m 76 then (bif Nat.blt m 75 then 7 else 7) else (bif Nat.blt m 77 then 7 else 7)) else (bif Nat.blt m 80 then (bif Nat.blt m 79 then 8 else 8) else (bif Nat.blt m 81 then 8 else 8)))) else (bif Nat.blt m 90 then (bif Nat.blt m 86 then (bif Nat.blt m 84 then (bif Nat.blt m 83 then 8 else 8) else (bif Nat.blt m 85 then 8 else 8)) else (bif Nat.blt m 88 then (bif Nat.blt m 87 then 8 else 8) else (bif Nat.blt m 89 then 8 else 8))) else (bif Nat.blt m 94 then (bif Nat.blt m 92 then (bif Nat.blt m 91 then 9 else 9) else (bif Nat.blt m 93 then 9 else 9)) else (bif Nat.blt m 96 then (bif Nat.blt m 95 then 9 else 9) else (bif Nat.blt m 97 then 9 else (bif Nat.blt m 98 then 9 else 10)))))) else (bif Nat.blt m 115 then (bif Nat.blt m 107 then (bif Nat.blt m 103 then (bif Nat.blt m 101 then (bif Nat.blt m 100 then 10 else 10) else (bif Nat.blt m 102 then 10 else 10)) else (bif Nat.blt m 105 then (bif Nat.blt m 104 then 10 else 10) else (bif Nat.blt m 106 then 10 else 10))) else (bif Nat.blt m 111 then (bif Nat.blt m 109 then (bif Nat.blt m 108 then 10 else 10) else (bif Nat.blt m 110 then 10 else 10)) else (bif Nat.blt m 113 then (bif Nat.blt m 112 then 10 else 10) else (bif Nat.blt m 114 then 10 else 10)))) else (bif Nat.blt m 123 then (bif Nat.blt m 119 then (bif Nat.blt m 117 then (bif Nat.blt m 116 then 10 else 10) else (bif Nat.blt m 118 then 10 else 10)) else (bif Nat.blt m 121 then (bif Nat.blt m 120 then 10 else 10) else (bif Nat.blt m 122 then 11 else 11))) else (bif Nat.blt m 127 then (bif Nat.blt m 125 then (bif Nat.blt m 124 then 11 else 11) else (bif Nat.blt m 126 then 11 else 11)) else (bif Nat.blt m 129 then (bif Nat.blt m 128 then 11 else 11) else (bif Nat.blt m 130 then 11 else (bif Nat.blt m 131 then 11 else 11)))))))) else (bif Nat.blt m 198 then (bif Nat.blt m 165 then (bif Nat.blt m 148 then (bif Nat.blt m 140 then (bif Nat.blt m 136 then (bif Nat.blt m 134 then (bif Nat.blt m 133 then 11 else 11) else (bif Nat.blt m 135 then 11 else 11)) else (bif Nat.blt m 138 then (bif Nat.blt m 137 then 11 else 11) else (bif Nat.blt m 139 then 11 else 11))) else (bif Nat.blt m 144 then (bif Nat.blt m 142 then (bif Nat.blt m 141 then 11 else 11) else (bif Nat.blt m 143 then 11 else 11)) else (bif Nat.blt m 146 then (bif Nat.blt m 145 then 11 else 11) else (bif Nat.blt m 147 then 11 else 11)))) else (bif Nat.blt m 156 then (bif Nat.blt m 152 then (bif Nat.blt m 150 then (bif Nat.blt m 149 then 11 else 11) else (bif Nat.blt m 151 then 11 else 11)) else (bif Nat.blt m 154 then (bif Nat.blt m 153 then 11 else 11) else (bif Nat.blt m 155 then 11 else 11))) else (bif Nat.blt m 160 then (bif Nat.blt m 158 then (bif Nat.blt m 157 then 12 else 12) else (bif Nat.blt m 159 then 12 else 12)) else (bif Nat.blt m 162 then (bif Nat.blt m 161 then 12 else 12) else (bif Nat.blt m 163 then 12 else (bif Nat.blt m 164 then 12 else 12)))))) else (bif Nat.blt m 181 then (bif Nat.blt m 173 then (bif Nat.blt m 169 then (bif Nat.blt m 167 then (bif Nat.blt m 166 then 12 else 12) else (bif Nat.blt m 168 then 12 else 12)) else (bif Nat.blt m 171 then (bif Nat.blt m 170 then 12 else 12) else (bif Nat.blt m 172 then 12 else 12))) else (bif Nat.blt m 177 then (bif Nat.blt m 175 then (bif Nat.blt m 174 then 12 else 12) else (bif Nat.blt m 176 then 12 else 12)) else (bif Nat.blt m 179 then (bif Nat.blt m 178 then 12 else 12) else (bif Nat.blt m 180 then 12 else 12)))) else (bif Nat.blt m 189 then (bif Nat.blt m 185 then (bif Nat.blt m 183 then (bif Nat.blt m 182 then 12 else 12) else (bif Nat.blt m 184 then 12 else 12)) else (bif Nat.blt m 187 then (bif Nat.blt m 186 then 12 else 12) else (bif Nat.blt m 188 then 12 else 12))) else (bif Nat.blt m 193 then (bif Nat.blt m 191 then (bif Nat.blt m 190 then 12 else 12) else (bif Nat.blt m 192 then 12 else 12)) else (bif Nat.blt m 195 then (bif Nat.blt m 194 then 12 else 12) else (bif Nat.blt m 196 then 12 else (bif Nat.blt m 197 then 12 else 12))))))) else (bif Nat.blt m 231 then (bif Nat.blt m 214 then (bif Nat.blt m 206 then (bif Nat.blt m 202 then (bif Nat.blt m 200 then (bif Nat.blt m 199 then 12 else 12) else (bif Nat.blt m 201 then 12 else 12)) else (bif Nat.blt m 204 then (bif Nat.blt m 203 then 12 else 12) else (bif Nat.blt m 205 then 12 else 12))) else (bif Nat.blt m 210 then (bif Nat.blt m 208 then (bif Nat.blt m 207 then 12 else 12) else (bif Nat.blt m 209 then 12 else 12)) else (bif Nat.blt m 212 then (bif Nat.blt m 211 then 12 else 12) else (bif Nat.blt m 213 then 12 else 12)))) else (bif Nat.blt m 222 then (bif Nat.blt m 218 then (bif Nat.blt m 216 then (bif Nat.blt m 215 then 12 else 12) else (bif Nat.blt m 217 then 12 else 12)) else (bif Nat.blt m 220 then (bif Nat.blt m 219 then 12 else 12) else (bif Nat.blt m 221 then 12 else 12))) else (bif Nat.blt m 226 then (bif Nat.blt m 224 then (bif Nat.blt m 223 then 12 else 12) else (bif Nat.blt m 225 then 12 else 12)) else (bif Nat.blt m 228 then (bif Nat.blt m 227 then 12 else 12) else (bif Nat.blt m 229 then 12 else (bif Nat.blt m 230 then 12 else 12)))))) else (bif Nat.blt m 247 then (bif Nat.blt m 239 then (bif Nat.blt m 235 then (bif Nat.blt m 233 then (bif Nat.blt m 232 then 12 else 12) else (bif Nat.blt m 234 then 12 else 12)) else (bif Nat.blt m 237 then (bif Nat.blt m 236 then 12 else 12) else (bif Nat.blt m 238 then 12 else 12))) else (bif Nat.blt m 243 then (bif Nat.blt m 241 then (bif Nat.blt m 240 then 12 else 12) else (bif Nat.blt m 242 then 12 else 12)) else (bif Nat.blt m 245 then (bif Nat.blt m 244 then 12 else 12) else (bif Nat.blt m 246 then 12 else 12)))) else (bif Nat.blt m 255 then (bif Nat.blt m 251 then (bif Nat.blt m 249 then (bif Nat.blt m 248 then 12 else 12) else (bif Nat.blt m 250 then 12 else 12)) else (bif Nat.blt m 253 then (bif Nat.blt m 252 then 12 else 12) else (bif Nat.blt m 254 then 12 else 12))) else (bif Nat.blt m 259 then (bif Nat.blt m 257 then (bif Nat.blt m 256 then 12 else 12) else (bif Nat.blt m 258 then 12 else 12)) else (bif Nat.blt m 261 then (bif Nat.blt m 260 then 12 else 13) else (bif Nat.blt m 262 then 14 else (bif Nat.blt m 263 then 17 else 18)))))))))
def mq_y (m : Nat) : MethodName := ⟨mq_cn (mq_own m), (bif Nat.blt m 132 then (bif Nat.blt m 66 then (bif Nat.blt m 33 then (bif Nat.blt m 16 then (bif Nat.blt m 8 then (bif Nat.blt m 4 then (bif Nat.blt m 2 then (bif Nat.blt m 1 then "<init>" else "read") else (bif Nat.blt m 3 then "readLine" else "readOne")) else (bif Nat.blt m 6 then (bif Nat.blt m 5 then "readTopic" else "readPlot") else (bif Nat.blt m 7 then "readAmong" else "<init>"))) else (bif Nat.blt m 12 then (bif Nat.blt m 10 then (bif Nat.blt m 9 then "gather" else "all") else (bif Nat.blt m 11 then "numberOf" else "weighRows")) else (bif Nat.blt m 14 then (bif Nat.blt m 13 then "mostBehind" else "addedBy") else (bif Nat.blt m 15 then "mostInRow" else "atPlace")))) else (bif Nat.blt m 24 then (bif Nat.blt m 20 then (bif Nat.blt m 18 then (bif Nat.blt m 17 then "firstInRow" else "lowestBehind") else (bif Nat.blt m 19 then "rowsThatPlease" else "waysBehind")) else (bif Nat.blt m 22 then (bif Nat.blt m 21 then "takeWishes" else "takeWish") else (bif Nat.blt m 23 then "weighCouples" else "lowestOf"))) else (bif Nat.blt m 28 then (bif Nat.blt m 26 then (bif Nat.blt m 25 then "canCouple" else "withCouple") else (bif Nat.blt m 27 then "mostInCouples" else "coupledWith")) else (bif Nat.blt m 30 then (bif Nat.blt m 29 then "lowestOther" else "nextTo") else (bif Nat.blt m 31 then "spread" else (bif Nat.blt m 32 then "steps" else "lowest")))))) else (bif Nat.blt m 49 then (bif Nat.blt m 41 then (bif Nat.blt m 37 then (bif Nat.blt m 35 then (bif Nat.blt m 34 then "largestBlock" else "<init>") else (bif Nat.blt m 36 then "clear" else "add")) else (bif Nat.blt m 39 then (bif Nat.blt m 38 then "endSkip" else "addRule") else (bif Nat.blt m 40 then "ask" else "keepsSilent"))) else (bif Nat.blt m 45 then (bif Nat.blt m 43 then (bif Nat.blt m 42 then "run" else "take") else (bif Nat.blt m 44 then "push" else "reckon")) else (bif Nat.blt m 47 then (bif Nat.blt m 46 then "<init>" else "read") else (bif Nat.blt m 48 then "openRule" else "readCondition")))) else (bif Nat.blt m 57 then (bif Nat.blt m 53 then (bif Nat.blt m 51 then (bif Nat.blt m 50 then "readTest" else "readSum") else (bif Nat.blt m 52 then "isReckoned" else "addIfAny")) else (bif Nat.blt m 55 then (bif Nat.blt m 54 then "readFactor" else "opens") else (bif Nat.blt m 56 then "readNumber" else "readValue"))) else (bif Nat.blt m 61 then (bif Nat.blt m 59 then (bif Nat.blt m 58 then "valueOf" else "<init>") else (bif Nat.blt m 60 then "pass" else "wake")) else (bif Nat.blt m 63 then (bif Nat.blt m 62 then "favourite" else "tellLaw") else (bif Nat.blt m 64 then "learn" else (bif Nat.blt m 65 then "<init>" else "tells"))))))) else (bif Nat.blt m 99 then (bif Nat.blt m 82 then (bif Nat.blt m 74 then (bif Nat.blt m 70 then (bif Nat.blt m 68 then (bif Nat.blt m 67 then "begin" else "offer") else (bif Nat.blt m 69 then "noneIfNoMore" else "seekPlot")) else (bif Nat.blt m 72 then (bif Nat.blt m 71 then "seekMove" else "seekChange") else (bif Nat.blt m 73 then "gainByChange" else "seekStretch"))) else (bif Nat.blt m 78 then (bif Nat.blt m 76 then (bif Nat.blt m 75 then "<init>" else "hear") else (bif Nat.blt m 77 then "longest" else "placeOf")) else (bif Nat.blt m 80 then (bif Nat.blt m 79 then "<init>" else "hasRoom") else (bif Nat.blt m 81 then "add" else "open")))) else (bif Nat.blt m 90 then (bif Nat.blt m 86 then (bif Nat.blt m 84 then (bif Nat.blt m 83 then "at" else "step") else (bif Nat.blt m 85 then "takes" else "wants")) else (bif Nat.blt m 88 then (bif Nat.blt m 87 then "among" else "hasNextLine") else (bif Nat.blt m 89 then "fail" else "answer"))) else (bif Nat.blt m 94 then (bif Nat.blt m 92 then (bif Nat.blt m 91 then "<init>" else "read") else (bif Nat.blt m 93 then "readLine" else "add")) else (bif Nat.blt m 96 then (bif Nat.blt m 95 then "holding" else "firstBroken") else (bif Nat.blt m 97 then "holds" else (bif Nat.blt m 98 then "isByWall" else "<init>")))))) else (bif Nat.blt m 115 then (bif Nat.blt m 107 then (bif Nat.blt m 103 then (bif Nat.blt m 101 then (bif Nat.blt m 100 then "copyFrom" else "isTold") else (bif Nat.blt m 102 then "allTold" else "isLaid")) else (bif Nat.blt m 105 then (bif Nat.blt m 104 then "laidOnes" else "moodOfAll") else (bif Nat.blt m 106 then "silenced" else "having"))) else (bif Nat.blt m 111 then (bif Nat.blt m 109 then (bif Nat.blt m 108 then "rank" else "tell") else (bif Nat.blt m 110 then "takeUp" else "lay")) else (bif Nat.blt m 113 then (bif Nat.blt m 112 then "exchange" else "bitOn") else (bif Nat.blt m 114 then "besidePlot" else "beside")))) else (bif Nat.blt m 123 then (bif Nat.blt m 119 then (bif Nat.blt m 117 then (bif Nat.blt m 116 then "withBeside" else "circleOf") else (bif Nat.blt m 118 then "freePlots" else "talkOf")) else (bif Nat.blt m 121 then (bif Nat.blt m 120 then "talkAt" else "drawNext") else (bif Nat.blt m 122 then "<init>" else "person"))) else (bif Nat.blt m 127 then (bif Nat.blt m 125 then (bif Nat.blt m 124 then "feed" else "law") else (bif Nat.blt m 126 then "burials" else "wishes")) else (bif Nat.blt m 129 then (bif Nat.blt m 128 then "nights" else "tried") else (bif Nat.blt m 130 then "personIs" else (bif Nat.blt m 131 then "talk" else "yardTalk")))))))) else (bif Nat.blt m 198 then (bif Nat.blt m 165 then (bif Nat.blt m 148 then (bif Nat.blt m 140 then (bif Nat.blt m 136 then (bif Nat.blt m 134 then (bif Nat.blt m 133 then "best" else "move") else (bif Nat.blt m 135 then "change" else "hold")) else (bif Nat.blt m 138 then (bif Nat.blt m 137 then "row" else "couples") else (bif Nat.blt m 139 then "heard" else "circles"))) else (bif Nat.blt m 144 then (bif Nat.blt m 142 then (bif Nat.blt m 141 then "from" else "thread") else (bif Nat.blt m 143 then "good" else "silent")) else (bif Nat.blt m 146 then (bif Nat.blt m 145 then "visit" else "visited") else (bif Nat.blt m 147 then "alike" else "seed")))) else (bif Nat.blt m 156 then (bif Nat.blt m 152 then (bif Nat.blt m 150 then (bif Nat.blt m 149 then "keep" else "undo") else (bif Nat.blt m 151 then "check" else "count")) else (bif Nat.blt m 154 then (bif Nat.blt m 153 then "circleCount" else "isOne") else (bif Nat.blt m 155 then "sizeOf" else "within"))) else (bif Nat.blt m 160 then (bif Nat.blt m 158 then (bif Nat.blt m 157 then "<init>" else "in") else (bif Nat.blt m 159 then "min" else "max")) else (bif Nat.blt m 162 then (bif Nat.blt m 161 then "size" else "has") else (bif Nat.blt m 163 then "bits" else (bif Nat.blt m 164 then "copies" else "isTold")))))) else (bif Nat.blt m 181 then (bif Nat.blt m 173 then (bif Nat.blt m 169 then (bif Nat.blt m 167 then (bif Nat.blt m 166 then "isLaid" else "toldSet") else (bif Nat.blt m 168 then "laidSet" else "whoLies")) else (bif Nat.blt m 171 then (bif Nat.blt m 170 then "areNext" else "areBeside") else (bif Nat.blt m 172 then "besideSet" else "shared"))) else (bif Nat.blt m 177 then (bif Nat.blt m 175 then (bif Nat.blt m 174 then "talkOf" else "person") else (bif Nat.blt m 176 then "types" else "feed")) else (bif Nat.blt m 179 then (bif Nat.blt m 178 then "octet" else "here") else (bif Nat.blt m 180 then "isDigit" else "wrongAt")))) else (bif Nat.blt m 189 then (bif Nat.blt m 185 then (bif Nat.blt m 183 then (bif Nat.blt m 182 then "takes" else "readsNumber") else (bif Nat.blt m 184 then "notes" else "opens")) else (bif Nat.blt m 187 then (bif Nat.blt m 186 then "waitTop" else "factOf") else (bif Nat.blt m 188 then "sumSign" else "closesSums"))) else (bif Nat.blt m 193 then (bif Nat.blt m 191 then (bif Nat.blt m 190 then "readsFactor" else "hasOpenSum") else (bif Nat.blt m 192 then "readsSum" else "endsPiece")) else (bif Nat.blt m 195 then (bif Nat.blt m 194 then "lands" else "jumps") else (bif Nat.blt m 196 then "readsCompared" else (bif Nat.blt m 197 then "readsCondition" else "readsRule"))))))) else (bif Nat.blt m 231 then (bif Nat.blt m 214 then (bif Nat.blt m 206 then (bif Nat.blt m 202 then (bif Nat.blt m 200 then (bif Nat.blt m 199 then "beginsText" else "law") else (bif Nat.blt m 201 then "reckon" else "comesTo")) else (bif Nat.blt m 204 then (bif Nat.blt m 203 then "byLaw" else "holdsAny") else (bif Nat.blt m 205 then "feels" else "isLetter"))) else (bif Nat.blt m 210 then (bif Nat.blt m 208 then (bif Nat.blt m 207 then "readsPlot" else "readsOther") else (bif Nat.blt m 209 then "readsTopic" else "readsLine")) else (bif Nat.blt m 212 then (bif Nat.blt m 211 then "burials" else "readsWish") else (bif Nat.blt m 213 then "wishes" else "likesMost")))) else (bif Nat.blt m 222 then (bif Nat.blt m 218 then (bif Nat.blt m 216 then (bif Nat.blt m 215 then "learns" else "turnOf") else (bif Nat.blt m 217 then "nightsGo" else "nights")) else (bif Nat.blt m 220 then (bif Nat.blt m 219 then "moodless" else "tried") else (bif Nat.blt m 221 then "rankOf" else "personIs"))) else (bif Nat.blt m 226 then (bif Nat.blt m 224 then (bif Nat.blt m 223 then "talk" else "yardTalk") else (bif Nat.blt m 225 then "talkAt" else "best")) else (bif Nat.blt m 228 then (bif Nat.blt m 227 then "move" else "changesPlots") else (bif Nat.blt m 229 then "change" else (bif Nat.blt m 230 then "isByWall" else "holdsWish")))))) else (bif Nat.blt m 247 then (bif Nat.blt m 239 then (bif Nat.blt m 235 then (bif Nat.blt m 233 then (bif Nat.blt m 232 then "hold" else "changesOrder") else (bif Nat.blt m 234 then "nextOrder" else "holdsInRow")) else (bif Nat.blt m 237 then (bif Nat.blt m 236 then "mayBeOrder" else "row") else (bif Nat.blt m 238 then "laysCouples" else "isWith"))) else (bif Nat.blt m 243 then (bif Nat.blt m 241 then (bif Nat.blt m 240 then "couples" else "andBeside") else (bif Nat.blt m 242 then "heard" else "circleOf")) else (bif Nat.blt m 245 then (bif Nat.blt m 244 then "circles" else "from") else (bif Nat.blt m 246 then "sayingOf" else "thread")))) else (bif Nat.blt m 255 then (bif Nat.blt m 251 then (bif Nat.blt m 249 then (bif Nat.blt m 248 then "good" else "walksFrom") else (bif Nat.blt m 250 then "isSilent" else "silent")) else (bif Nat.blt m 253 then (bif Nat.blt m 252 then "stepsBeside" else "visit") else (bif Nat.blt m 254 then "visited" else "alike"))) else (bif Nat.blt m 259 then (bif Nat.blt m 257 then (bif Nat.blt m 256 then "seed" else "keep") else (bif Nat.blt m 258 then "undo" else "check")) else (bif Nat.blt m 261 then (bif Nat.blt m 260 then "count" else "bitCount") else (bif Nat.blt m 262 then "bitCount" else (bif Nat.blt m 263 then "fill" else "law"))))))))), (bif Nat.blt m 132 then (bif Nat.blt m 66 then (bif Nat.blt m 33 then (bif Nat.blt m 16 then (bif Nat.blt m 8 then (bif Nat.blt m 4 then (bif Nat.blt m 2 then (bif Nat.blt m 1 then "(LTalkingPlots$Tape;)V" else "(LTalkingPlots$Yard;)I") else (bif Nat.blt m 3 then "(LTalkingPlots$Yard;I)V" else "(LTalkingPlots$Yard;)I")) else (bif Nat.blt m 6 then (bif Nat.blt m 5 then "()I" else "(LTalkingPlots$Yard;I)V") else (bif Nat.blt m 7 then "(II)I" else "()V"))) else (bif Nat.blt m 12 then (bif Nat.blt m 10 then (bif Nat.blt m 9 then "(LTalkingPlots$Yard;I)V" else "()I") else (bif Nat.blt m 11 then "(I)I" else "()V")) else (bif Nat.blt m 14 then (bif Nat.blt m 13 then "(II)I" else "(III)I") else (bif Nat.blt m 15 then "()I" else "(I)I")))) else (bif Nat.blt m 24 then (bif Nat.blt m 20 then (bif Nat.blt m 18 then (bif Nat.blt m 17 then "()I" else "(II)I") else (bif Nat.blt m 19 then "(LTalkingPlots$Wishes;)I" else "(II)I")) else (bif Nat.blt m 22 then (bif Nat.blt m 21 then "(LTalkingPlots$Wishes;)V" else "(III)V") else (bif Nat.blt m 23 then "()V" else "(I)I"))) else (bif Nat.blt m 28 then (bif Nat.blt m 26 then (bif Nat.blt m 25 then "(III)Z" else "(III)I") else (bif Nat.blt m 27 then "()I" else "(I)I")) else (bif Nat.blt m 30 then (bif Nat.blt m 29 then "(II)I" else "(J)J") else (bif Nat.blt m 31 then "(JJ)J" else (bif Nat.blt m 32 then "(JJJ)I" else "(J)I")))))) else (bif Nat.blt m 49 then (bif Nat.blt m 41 then (bif Nat.blt m 37 then (bif Nat.blt m 35 then (bif Nat.blt m 34 then "(J)I" else "()V") else (bif Nat.blt m 36 then "()V" else "(II)I")) else (bif Nat.blt m 39 then (bif Nat.blt m 38 then "(I)V" else "(III)V") else (bif Nat.blt m 40 then "(II)I" else "()Z"))) else (bif Nat.blt m 45 then (bif Nat.blt m 43 then (bif Nat.blt m 42 then "(II)Z" else "(II)Z") else (bif Nat.blt m 44 then "(I)Z" else "(I)Z")) else (bif Nat.blt m 47 then (bif Nat.blt m 46 then "(LTalkingPlots$Tape;LTalkingPlots$Law;)V" else "(LTalkingPlots$Law;)I") else (bif Nat.blt m 48 then "(I)V" else "(I)V")))) else (bif Nat.blt m 57 then (bif Nat.blt m 53 then (bif Nat.blt m 51 then (bif Nat.blt m 50 then "(I)V" else "(I)V") else (bif Nat.blt m 52 then "(I)Z" else "(I)V")) else (bif Nat.blt m 55 then (bif Nat.blt m 54 then "(I)V" else "(I)Z") else (bif Nat.blt m 56 then "()V" else "()V"))) else (bif Nat.blt m 61 then (bif Nat.blt m 59 then (bif Nat.blt m 58 then "(I)I" else "()V") else (bif Nat.blt m 60 then "(LTalkingPlots$Yard;LTalkingPlots$Law;I)V" else "(LTalkingPlots$Yard;LTalkingPlots$Law;I)V")) else (bif Nat.blt m 63 then (bif Nat.blt m 62 then "(LTalkingPlots$Yard;LTalkingPlots$Law;II)I" else "(LTalkingPlots$Yard;LTalkingPlots$Law;II)V") else (bif Nat.blt m 64 then "(LTalkingPlots$Yard;II)V" else (bif Nat.blt m 65 then "()V" else "(I)I"))))))) else (bif Nat.blt m 99 then (bif Nat.blt m 82 then (bif Nat.blt m 74 then (bif Nat.blt m 70 then (bif Nat.blt m 68 then (bif Nat.blt m 67 then "(I)V" else "(III)V") else (bif Nat.blt m 69 then "()V" else "(LTalkingPlots$Yard;I)V")) else (bif Nat.blt m 72 then (bif Nat.blt m 71 then "(LTalkingPlots$Yard;)V" else "(LTalkingPlots$Yard;)V") else (bif Nat.blt m 73 then "(LTalkingPlots$Yard;II)I" else "(LTalkingPlots$Yard;I)V"))) else (bif Nat.blt m 78 then (bif Nat.blt m 76 then (bif Nat.blt m 75 then "()V" else "(LTalkingPlots$Tape;I)V") else (bif Nat.blt m 77 then "()I" else "(I)I")) else (bif Nat.blt m 80 then (bif Nat.blt m 79 then "()V" else "(I)Z") else (bif Nat.blt m 81 then "(I)V" else "(III)Z")))) else (bif Nat.blt m 90 then (bif Nat.blt m 86 then (bif Nat.blt m 84 then (bif Nat.blt m 83 then "(I)I" else "()V") else (bif Nat.blt m 85 then "(I)Z" else "(I)V")) else (bif Nat.blt m 88 then (bif Nat.blt m 87 then "(II)I" else "()Z") else (bif Nat.blt m 89 then "(II)V" else "(I)I"))) else (bif Nat.blt m 94 then (bif Nat.blt m 92 then (bif Nat.blt m 91 then "()V" else "(LTalkingPlots$Tape;)I") else (bif Nat.blt m 93 then "(LTalkingPlots$Tape;)V" else "(III)V")) else (bif Nat.blt m 96 then (bif Nat.blt m 95 then "(LTalkingPlots$Yard;)I" else "(LTalkingPlots$Yard;)I") else (bif Nat.blt m 97 then "(ILTalkingPlots$Yard;)Z" else (bif Nat.blt m 98 then "(I)Z" else "()V")))))) else (bif Nat.blt m 115 then (bif Nat.blt m 107 then (bif Nat.blt m 103 then (bif Nat.blt m 101 then (bif Nat.blt m 100 then "(LTalkingPlots$Yard;)V" else "(I)Z") else (bif Nat.blt m 102 then "(I)Z" else "(I)Z")) else (bif Nat.blt m 105 then (bif Nat.blt m 104 then "()I" else "()I") else (bif Nat.blt m 106 then "()I" else "(I)I"))) else (bif Nat.blt m 111 then (bif Nat.blt m 109 then (bif Nat.blt m 108 then "(I)I" else "(III)V") else (bif Nat.blt m 110 then "(I)V" else "(II)V")) else (bif Nat.blt m 113 then (bif Nat.blt m 112 then "(II)V" else "(I)I") else (bif Nat.blt m 114 then "(I)I" else "(I)I")))) else (bif Nat.blt m 123 then (bif Nat.blt m 119 then (bif Nat.blt m 117 then (bif Nat.blt m 116 then "(I)I" else "(I)I") else (bif Nat.blt m 118 then "()J" else "(II)I")) else (bif Nat.blt m 121 then (bif Nat.blt m 120 then "(III)I" else "()I") else (bif Nat.blt m 122 then "()V" else "(III)Z"))) else (bif Nat.blt m 127 then (bif Nat.blt m 125 then (bif Nat.blt m 124 then "(IIIII)I" else "(I)I") else (bif Nat.blt m 126 then "(I)I" else "(I)I")) else (bif Nat.blt m 129 then (bif Nat.blt m 128 then "(I)I" else "(II)I") else (bif Nat.blt m 130 then "(II)I" else (bif Nat.blt m 131 then "(II)I" else "()I")))))))) else (bif Nat.blt m 198 then (bif Nat.blt m 165 then (bif Nat.blt m 148 then (bif Nat.blt m 140 then (bif Nat.blt m 136 then (bif Nat.blt m 134 then (bif Nat.blt m 133 then "(II)I" else "(I)I") else (bif Nat.blt m 135 then "(I)I" else "(I)I")) else (bif Nat.blt m 138 then (bif Nat.blt m 137 then "(II)I" else "(II)I") else (bif Nat.blt m 139 then "(II)I" else "(I)I"))) else (bif Nat.blt m 144 then (bif Nat.blt m 142 then (bif Nat.blt m 141 then "(II)I" else "(II)I") else (bif Nat.blt m 143 then "(II)I" else "(I)I")) else (bif Nat.blt m 146 then (bif Nat.blt m 145 then "(I)I" else "()I") else (bif Nat.blt m 147 then "(II)I" else "(I)Z")))) else (bif Nat.blt m 156 then (bif Nat.blt m 152 then (bif Nat.blt m 150 then (bif Nat.blt m 149 then "()I" else "()Z") else (bif Nat.blt m 151 then "(I)I" else "(I)I")) else (bif Nat.blt m 154 then (bif Nat.blt m 153 then "()I" else "(I)Z") else (bif Nat.blt m 155 then "(I)I" else "(III)I"))) else (bif Nat.blt m 160 then (bif Nat.blt m 158 then (bif Nat.blt m 157 then "()V" else "(III)Z") else (bif Nat.blt m 159 then "(II)I" else "(II)I")) else (bif Nat.blt m 162 then (bif Nat.blt m 161 then "(I)I" else "(II)Z") else (bif Nat.blt m 163 then "(I)I" else (bif Nat.blt m 164 then "([I[I)V" else "(I)Z")))))) else (bif Nat.blt m 181 then (bif Nat.blt m 173 then (bif Nat.blt m 169 then (bif Nat.blt m 167 then (bif Nat.blt m 166 then "(I)Z" else "()I") else (bif Nat.blt m 168 then "()I" else "(I)I")) else (bif Nat.blt m 171 then (bif Nat.blt m 170 then "(II)Z" else "(II)Z") else (bif Nat.blt m 172 then "(I)I" else "(II)I"))) else (bif Nat.blt m 177 then (bif Nat.blt m 175 then (bif Nat.blt m 174 then "(II)I" else "(III)Z") else (bif Nat.blt m 176 then "(I)V" else "(IIIII)I")) else (bif Nat.blt m 179 then (bif Nat.blt m 178 then "(I)I" else "()I") else (bif Nat.blt m 180 then "()Z" else "(II)Z")))) else (bif Nat.blt m 189 then (bif Nat.blt m 185 then (bif Nat.blt m 183 then (bif Nat.blt m 182 then "(I)Z" else "()Z") else (bif Nat.blt m 184 then "(II)V" else "(I)Z")) else (bif Nat.blt m 187 then (bif Nat.blt m 186 then "()I" else "(I)I") else (bif Nat.blt m 188 then "(I)I" else "(Z)V"))) else (bif Nat.blt m 193 then (bif Nat.blt m 191 then (bif Nat.blt m 190 then "()Z" else "(I)Z") else (bif Nat.blt m 192 then "()Z" else "()V")) else (bif Nat.blt m 195 then (bif Nat.blt m 194 then "(Z)V" else "(I)V") else (bif Nat.blt m 196 then "()Z" else (bif Nat.blt m 197 then "()Z" else "()Z"))))))) else (bif Nat.blt m 231 then (bif Nat.blt m 214 then (bif Nat.blt m 206 then (bif Nat.blt m 202 then (bif Nat.blt m 200 then (bif Nat.blt m 199 then "(I)V" else "(I)I") else (bif Nat.blt m 201 then "(III)I" else "(II)I")) else (bif Nat.blt m 204 then (bif Nat.blt m 203 then "(II)I" else "(I)Z") else (bif Nat.blt m 205 then "(II)V" else "()Z"))) else (bif Nat.blt m 210 then (bif Nat.blt m 208 then (bif Nat.blt m 207 then "(I)Z" else "(I)Z") else (bif Nat.blt m 209 then "(IZ)Z" else "()Z")) else (bif Nat.blt m 212 then (bif Nat.blt m 211 then "(I)I" else "()Z") else (bif Nat.blt m 213 then "(I)I" else "(I)I")))) else (bif Nat.blt m 222 then (bif Nat.blt m 218 then (bif Nat.blt m 216 then (bif Nat.blt m 215 then "(II)V" else "(I)V") else (bif Nat.blt m 217 then "(I)V" else "(I)I")) else (bif Nat.blt m 220 then (bif Nat.blt m 219 then "()I" else "(II)I") else (bif Nat.blt m 221 then "(I)I" else "(II)I"))) else (bif Nat.blt m 226 then (bif Nat.blt m 224 then (bif Nat.blt m 223 then "(II)I" else "()I") else (bif Nat.blt m 225 then "(II)I" else "(II)I")) else (bif Nat.blt m 228 then (bif Nat.blt m 227 then "(I)I" else "(II)V") else (bif Nat.blt m 229 then "(I)I" else (bif Nat.blt m 230 then "(I)Z" else "(I)Z")))))) else (bif Nat.blt m 247 then (bif Nat.blt m 239 then (bif Nat.blt m 235 then (bif Nat.blt m 233 then (bif Nat.blt m 232 then "(I)I" else "(II)V") else (bif Nat.blt m 234 then "(I)Z" else "(II)Z")) else (bif Nat.blt m 237 then (bif Nat.blt m 236 then "(I)V" else "(II)I") else (bif Nat.blt m 238 then "()V" else "(I)I"))) else (bif Nat.blt m 243 then (bif Nat.blt m 241 then (bif Nat.blt m 240 then "(II)I" else "(I)I") else (bif Nat.blt m 242 then "(II)I" else "(I)I")) else (bif Nat.blt m 245 then (bif Nat.blt m 244 then "(I)I" else "(II)I") else (bif Nat.blt m 246 then "(I)I" else "(II)I")))) else (bif Nat.blt m 255 then (bif Nat.blt m 251 then (bif Nat.blt m 249 then (bif Nat.blt m 248 then "(II)I" else "(I)I") else (bif Nat.blt m 250 then "(I)Z" else "(I)I")) else (bif Nat.blt m 253 then (bif Nat.blt m 252 then "(I)I" else "(I)I") else (bif Nat.blt m 254 then "()I" else "(II)I"))) else (bif Nat.blt m 259 then (bif Nat.blt m 257 then (bif Nat.blt m 256 then "(I)Z" else "()I") else (bif Nat.blt m 258 then "()Z" else "(I)I")) else (bif Nat.blt m 261 then (bif Nat.blt m 260 then "(I)I" else "(I)I") else (bif Nat.blt m 262 then "(J)I" else (bif Nat.blt m 263 then "([II)V" else "([I)Z")))))))))⟩
def mq_b (m : Nat) : ByteArray := (bif Nat.blt m 132 then (bif Nat.blt m 66 then (bif Nat.blt m 33 then (bif Nat.blt m 16 then (bif Nat.blt m 8 then (bif Nat.blt m 4 then (bif Nat.blt m 2 then (bif Nat.blt m 1 then prog_2_method_1_code else prog_2_method_2_code) else (bif Nat.blt m 3 then prog_2_method_3_code else prog_2_method_4_code)) else (bif Nat.blt m 6 then (bif Nat.blt m 5 then prog_2_method_5_code else prog_2_method_6_code) else (bif Nat.blt m 7 then prog_2_method_7_code else prog_3_method_1_code))) else (bif Nat.blt m 12 then (bif Nat.blt m 10 then (bif Nat.blt m 9 then prog_3_method_2_code else prog_3_method_3_code) else (bif Nat.blt m 11 then prog_3_method_4_code else prog_3_method_5_code)) else (bif Nat.blt m 14 then (bif Nat.blt m 13 then prog_3_method_6_code else prog_3_method_7_code) else (bif Nat.blt m 15 then prog_3_method_8_code else prog_3_method_9_code)))) else (bif Nat.blt m 24 then (bif Nat.blt m 20 then (bif Nat.blt m 18 then (bif Nat.blt m 17 then prog_3_method_10_code else prog_3_method_11_code) else (bif Nat.blt m 19 then prog_3_method_12_code else prog_3_method_13_code)) else (bif Nat.blt m 22 then (bif Nat.blt m 21 then prog_3_method_14_code else prog_3_method_15_code) else (bif Nat.blt m 23 then prog_3_method_16_code else prog_3_method_17_code))) else (bif Nat.blt m 28 then (bif Nat.blt m 26 then (bif Nat.blt m 25 then prog_3_method_18_code else prog_3_method_19_code) else (bif Nat.blt m 27 then prog_3_method_20_code else prog_3_method_21_code)) else (bif Nat.blt m 30 then (bif Nat.blt m 29 then prog_3_method_22_code else prog_4_method_2_code) else (bif Nat.blt m 31 then prog_4_method_3_code else (bif Nat.blt m 32 then prog_4_method_4_code else prog_4_method_5_code)))))) else (bif Nat.blt m 49 then (bif Nat.blt m 41 then (bif Nat.blt m 37 then (bif Nat.blt m 35 then (bif Nat.blt m 34 then prog_4_method_6_code else prog_5_method_1_code) else (bif Nat.blt m 36 then prog_5_method_2_code else prog_5_method_3_code)) else (bif Nat.blt m 39 then (bif Nat.blt m 38 then prog_5_method_4_code else prog_5_method_5_code) else (bif Nat.blt m 40 then prog_5_method_6_code else prog_5_method_7_code))) else (bif Nat.blt m 45 then (bif Nat.blt m 43 then (bif Nat.blt m 42 then prog_5_method_8_code else prog_5_method_9_code) else (bif Nat.blt m 44 then prog_5_method_10_code else prog_5_method_11_code)) else (bif Nat.blt m 47 then (bif Nat.blt m 46 then prog_6_method_1_code else prog_6_method_2_code) else (bif Nat.blt m 48 then prog_6_method_3_code else prog_6_method_4_code)))) else (bif Nat.blt m 57 then (bif Nat.blt m 53 then (bif Nat.blt m 51 then (bif Nat.blt m 50 then prog_6_method_5_code else prog_6_method_6_code) else (bif Nat.blt m 52 then prog_6_method_7_code else prog_6_method_8_code)) else (bif Nat.blt m 55 then (bif Nat.blt m 54 then prog_6_method_9_code else prog_6_method_10_code) else (bif Nat.blt m 56 then prog_6_method_11_code else prog_6_method_12_code))) else (bif Nat.blt m 61 then (bif Nat.blt m 59 then (bif Nat.blt m 58 then prog_6_method_13_code else prog_7_method_1_code) else (bif Nat.blt m 60 then prog_7_method_2_code else prog_7_method_3_code)) else (bif Nat.blt m 63 then (bif Nat.blt m 62 then prog_7_method_4_code else prog_7_method_5_code) else (bif Nat.blt m 64 then prog_7_method_6_code else (bif Nat.blt m 65 then prog_8_method_1_code else prog_8_method_2_code))))))) else (bif Nat.blt m 99 then (bif Nat.blt m 82 then (bif Nat.blt m 74 then (bif Nat.blt m 70 then (bif Nat.blt m 68 then (bif Nat.blt m 67 then prog_8_method_3_code else prog_8_method_4_code) else (bif Nat.blt m 69 then prog_8_method_5_code else prog_8_method_6_code)) else (bif Nat.blt m 72 then (bif Nat.blt m 71 then prog_8_method_7_code else prog_8_method_8_code) else (bif Nat.blt m 73 then prog_8_method_9_code else prog_8_method_10_code))) else (bif Nat.blt m 78 then (bif Nat.blt m 76 then (bif Nat.blt m 75 then prog_9_method_1_code else prog_9_method_2_code) else (bif Nat.blt m 77 then prog_9_method_3_code else prog_9_method_4_code)) else (bif Nat.blt m 80 then (bif Nat.blt m 79 then prog_10_method_1_code else prog_10_method_2_code) else (bif Nat.blt m 81 then prog_10_method_3_code else prog_10_method_4_code)))) else (bif Nat.blt m 90 then (bif Nat.blt m 86 then (bif Nat.blt m 84 then (bif Nat.blt m 83 then prog_10_method_5_code else prog_10_method_6_code) else (bif Nat.blt m 85 then prog_10_method_7_code else prog_10_method_8_code)) else (bif Nat.blt m 88 then (bif Nat.blt m 87 then prog_10_method_9_code else prog_10_method_10_code) else (bif Nat.blt m 89 then prog_10_method_11_code else prog_10_method_12_code))) else (bif Nat.blt m 94 then (bif Nat.blt m 92 then (bif Nat.blt m 91 then prog_11_method_1_code else prog_11_method_2_code) else (bif Nat.blt m 93 then prog_11_method_3_code else prog_11_method_4_code)) else (bif Nat.blt m 96 then (bif Nat.blt m 95 then prog_11_method_5_code else prog_11_method_6_code) else (bif Nat.blt m 97 then prog_11_method_7_code else (bif Nat.blt m 98 then prog_11_method_8_code else prog_12_method_1_code)))))) else (bif Nat.blt m 115 then (bif Nat.blt m 107 then (bif Nat.blt m 103 then (bif Nat.blt m 101 then (bif Nat.blt m 100 then prog_12_method_2_code else prog_12_method_3_code) else (bif Nat.blt m 102 then prog_12_method_4_code else prog_12_method_5_code)) else (bif Nat.blt m 105 then (bif Nat.blt m 104 then prog_12_method_6_code else prog_12_method_7_code) else (bif Nat.blt m 106 then prog_12_method_8_code else prog_12_method_9_code))) else (bif Nat.blt m 111 then (bif Nat.blt m 109 then (bif Nat.blt m 108 then prog_12_method_10_code else prog_12_method_11_code) else (bif Nat.blt m 110 then prog_12_method_12_code else prog_12_method_13_code)) else (bif Nat.blt m 113 then (bif Nat.blt m 112 then prog_12_method_14_code else prog_12_method_15_code) else (bif Nat.blt m 114 then prog_12_method_16_code else prog_12_method_17_code)))) else (bif Nat.blt m 123 then (bif Nat.blt m 119 then (bif Nat.blt m 117 then (bif Nat.blt m 116 then prog_12_method_18_code else prog_12_method_19_code) else (bif Nat.blt m 118 then prog_12_method_20_code else prog_12_method_21_code)) else (bif Nat.blt m 121 then (bif Nat.blt m 120 then prog_12_method_22_code else prog_12_method_23_code) else (bif Nat.blt m 122 then prog_1_method_1_code else prog_1_method_2_code))) else (bif Nat.blt m 127 then (bif Nat.blt m 125 then (bif Nat.blt m 124 then prog_1_method_3_code else prog_1_method_4_code) else (bif Nat.blt m 126 then prog_1_method_5_code else prog_1_method_6_code)) else (bif Nat.blt m 129 then (bif Nat.blt m 128 then prog_1_method_7_code else prog_1_method_8_code) else (bif Nat.blt m 130 then prog_1_method_9_code else (bif Nat.blt m 131 then prog_1_method_10_code else prog_1_method_11_code)))))))) else (bif Nat.blt m 198 then (bif Nat.blt m 165 then (bif Nat.blt m 148 then (bif Nat.blt m 140 then (bif Nat.blt m 136 then (bif Nat.blt m 134 then (bif Nat.blt m 133 then prog_1_method_12_code else prog_1_method_13_code) else (bif Nat.blt m 135 then prog_1_method_14_code else prog_1_method_15_code)) else (bif Nat.blt m 138 then (bif Nat.blt m 137 then prog_1_method_16_code else prog_1_method_17_code) else (bif Nat.blt m 139 then prog_1_method_18_code else prog_1_method_19_code))) else (bif Nat.blt m 144 then (bif Nat.blt m 142 then (bif Nat.blt m 141 then prog_1_method_20_code else prog_1_method_21_code) else (bif Nat.blt m 143 then prog_1_method_22_code else prog_1_method_23_code)) else (bif Nat.blt m 146 then (bif Nat.blt m 145 then prog_1_method_24_code else prog_1_method_25_code) else (bif Nat.blt m 147 then prog_1_method_26_code else prog_1_method_27_code)))) else (bif Nat.blt m 156 then (bif Nat.blt m 152 then (bif Nat.blt m 150 then (bif Nat.blt m 149 then prog_1_method_28_code else prog_1_method_29_code) else (bif Nat.blt m 151 then prog_1_method_30_code else prog_1_method_31_code)) else (bif Nat.blt m 154 then (bif Nat.blt m 153 then prog_1_method_32_code else prog_1_method_33_code) else (bif Nat.blt m 155 then prog_1_method_34_code else prog_1_method_35_code))) else (bif Nat.blt m 160 then (bif Nat.blt m 158 then (bif Nat.blt m 157 then prog_14_method_1_code else prog_14_method_2_code) else (bif Nat.blt m 159 then prog_14_method_3_code else prog_14_method_4_code)) else (bif Nat.blt m 162 then (bif Nat.blt m 161 then prog_14_method_5_code else prog_14_method_6_code) else (bif Nat.blt m 163 then prog_14_method_7_code else (bif Nat.blt m 164 then prog_14_method_8_code else prog_14_method_9_code)))))) else (bif Nat.blt m 181 then (bif Nat.blt m 173 then (bif Nat.blt m 169 then (bif Nat.blt m 167 then (bif Nat.blt m 166 then prog_14_method_10_code else prog_14_method_11_code) else (bif Nat.blt m 168 then prog_14_method_12_code else prog_14_method_13_code)) else (bif Nat.blt m 171 then (bif Nat.blt m 170 then prog_14_method_14_code else prog_14_method_15_code) else (bif Nat.blt m 172 then prog_14_method_16_code else prog_14_method_17_code))) else (bif Nat.blt m 177 then (bif Nat.blt m 175 then (bif Nat.blt m 174 then prog_14_method_18_code else prog_14_method_19_code) else (bif Nat.blt m 176 then prog_14_method_20_code else prog_14_method_21_code)) else (bif Nat.blt m 179 then (bif Nat.blt m 178 then prog_14_method_22_code else prog_14_method_23_code) else (bif Nat.blt m 180 then prog_14_method_24_code else prog_14_method_25_code)))) else (bif Nat.blt m 189 then (bif Nat.blt m 185 then (bif Nat.blt m 183 then (bif Nat.blt m 182 then prog_14_method_26_code else prog_14_method_27_code) else (bif Nat.blt m 184 then prog_14_method_28_code else prog_14_method_29_code)) else (bif Nat.blt m 187 then (bif Nat.blt m 186 then prog_14_method_30_code else prog_14_method_31_code) else (bif Nat.blt m 188 then prog_14_method_32_code else prog_14_method_33_code))) else (bif Nat.blt m 193 then (bif Nat.blt m 191 then (bif Nat.blt m 190 then prog_14_method_34_code else prog_14_method_35_code) else (bif Nat.blt m 192 then prog_14_method_36_code else prog_14_method_37_code)) else (bif Nat.blt m 195 then (bif Nat.blt m 194 then prog_14_method_38_code else prog_14_method_39_code) else (bif Nat.blt m 196 then prog_14_method_40_code else (bif Nat.blt m 197 then prog_14_method_41_code else prog_14_method_42_code))))))) else (bif Nat.blt m 231 then (bif Nat.blt m 214 then (bif Nat.blt m 206 then (bif Nat.blt m 202 then (bif Nat.blt m 200 then (bif Nat.blt m 199 then prog_14_method_43_code else prog_14_method_44_code) else (bif Nat.blt m 201 then prog_14_method_45_code else prog_14_method_46_code)) else (bif Nat.blt m 204 then (bif Nat.blt m 203 then prog_14_method_47_code else prog_14_method_48_code) else (bif Nat.blt m 205 then prog_14_method_49_code else prog_14_method_50_code))) else (bif Nat.blt m 210 then (bif Nat.blt m 208 then (bif Nat.blt m 207 then prog_14_method_51_code else prog_14_method_52_code) else (bif Nat.blt m 209 then prog_14_method_53_code else prog_14_method_54_code)) else (bif Nat.blt m 212 then (bif Nat.blt m 211 then prog_14_method_55_code else prog_14_method_56_code) else (bif Nat.blt m 213 then prog_14_method_57_code else prog_14_method_58_code)))) else (bif Nat.blt m 222 then (bif Nat.blt m 218 then (bif Nat.blt m 216 then (bif Nat.blt m 215 then prog_14_method_59_code else prog_14_method_60_code) else (bif Nat.blt m 217 then prog_14_method_61_code else prog_14_method_62_code)) else (bif Nat.blt m 220 then (bif Nat.blt m 219 then prog_14_method_63_code else prog_14_method_64_code) else (bif Nat.blt m 221 then prog_14_method_65_code else prog_14_method_66_code))) else (bif Nat.blt m 226 then (bif Nat.blt m 224 then (bif Nat.blt m 223 then prog_14_method_67_code else prog_14_method_68_code) else (bif Nat.blt m 225 then prog_14_method_69_code else prog_14_method_70_code)) else (bif Nat.blt m 228 then (bif Nat.blt m 227 then prog_14_method_71_code else prog_14_method_72_code) else (bif Nat.blt m 229 then prog_14_method_73_code else (bif Nat.blt m 230 then prog_14_method_74_code else prog_14_method_75_code)))))) else (bif Nat.blt m 247 then (bif Nat.blt m 239 then (bif Nat.blt m 235 then (bif Nat.blt m 233 then (bif Nat.blt m 232 then prog_14_method_76_code else prog_14_method_77_code) else (bif Nat.blt m 234 then prog_14_method_78_code else prog_14_method_79_code)) else (bif Nat.blt m 237 then (bif Nat.blt m 236 then prog_14_method_80_code else prog_14_method_81_code) else (bif Nat.blt m 238 then prog_14_method_82_code else prog_14_method_83_code))) else (bif Nat.blt m 243 then (bif Nat.blt m 241 then (bif Nat.blt m 240 then prog_14_method_84_code else prog_14_method_85_code) else (bif Nat.blt m 242 then prog_14_method_86_code else prog_14_method_87_code)) else (bif Nat.blt m 245 then (bif Nat.blt m 244 then prog_14_method_88_code else prog_14_method_89_code) else (bif Nat.blt m 246 then prog_14_method_90_code else prog_14_method_91_code)))) else (bif Nat.blt m 255 then (bif Nat.blt m 251 then (bif Nat.blt m 249 then (bif Nat.blt m 248 then prog_14_method_92_code else prog_14_method_93_code) else (bif Nat.blt m 250 then prog_14_method_94_code else prog_14_method_95_code)) else (bif Nat.blt m 253 then (bif Nat.blt m 252 then prog_14_method_96_code else prog_14_method_97_code) else (bif Nat.blt m 254 then prog_14_method_98_code else prog_14_method_99_code))) else (bif Nat.blt m 259 then (bif Nat.blt m 257 then (bif Nat.blt m 256 then prog_14_method_100_code else prog_14_method_101_code) else (bif Nat.blt m 258 then prog_14_method_102_code else prog_14_method_103_code)) else (bif Nat.blt m 261 then (bif Nat.blt m 260 then prog_14_method_104_code else prog_15_method_49_code) else (bif Nat.blt m 262 then prog_16_method_50_code else (bif Nat.blt m 263 then prog_19_method_103_code else code)))))))))
def mq_ml (m : Nat) : Nat := (bif Nat.blt m 132 then (bif Nat.blt m 66 then (bif Nat.blt m 33 then (bif Nat.blt m 16 then (bif Nat.blt m 8 then (bif Nat.blt m 4 then (bif Nat.blt m 2 then (bif Nat.blt m 1 then 2 else 4) else (bif Nat.blt m 3 then 5 else 3)) else (bif Nat.blt m 6 then (bif Nat.blt m 5 then 2 else 7) else (bif Nat.blt m 7 then 4 else 1))) else (bif Nat.blt m 12 then (bif Nat.blt m 10 then (bif Nat.blt m 9 then 5 else 1) else (bif Nat.blt m 11 then 3 else 3)) else (bif Nat.blt m 14 then (bif Nat.blt m 13 then 5 else 4) else (bif Nat.blt m 15 then 3 else 5)))) else (bif Nat.blt m 24 then (bif Nat.blt m 20 then (bif Nat.blt m 18 then (bif Nat.blt m 17 then 3 else 5) else (bif Nat.blt m 19 then 4 else 10)) else (bif Nat.blt m 22 then (bif Nat.blt m 21 then 6 else 5) else (bif Nat.blt m 23 then 5 else 3))) else (bif Nat.blt m 28 then (bif Nat.blt m 26 then (bif Nat.blt m 25 then 4 else 4) else (bif Nat.blt m 27 then 1 else 7)) else (bif Nat.blt m 30 then (bif Nat.blt m 29 then 4 else 4) else (bif Nat.blt m 31 then 7 else (bif Nat.blt m 32 then 9 else 3)))))) else (bif Nat.blt m 49 then (bif Nat.blt m 41 then (bif Nat.blt m 37 then (bif Nat.blt m 35 then (bif Nat.blt m 34 then 8 else 1) else (bif Nat.blt m 36 then 1 else 3)) else (bif Nat.blt m 39 then (bif Nat.blt m 38 then 2 else 4) else (bif Nat.blt m 40 then 5 else 2))) else (bif Nat.blt m 45 then (bif Nat.blt m 43 then (bif Nat.blt m 42 then 8 else 3) else (bif Nat.blt m 44 then 2 else 4)) else (bif Nat.blt m 47 then (bif Nat.blt m 46 then 3 else 7) else (bif Nat.blt m 48 then 3 else 5)))) else (bif Nat.blt m 57 then (bif Nat.blt m 53 then (bif Nat.blt m 51 then (bif Nat.blt m 50 then 3 else 6) else (bif Nat.blt m 52 then 1 else 2)) else (bif Nat.blt m 55 then (bif Nat.blt m 54 then 2 else 2) else (bif Nat.blt m 56 then 3 else 2))) else (bif Nat.blt m 61 then (bif Nat.blt m 59 then (bif Nat.blt m 58 then 1 else 1) else (bif Nat.blt m 60 then 6 else 9)) else (bif Nat.blt m 63 then (bif Nat.blt m 62 then 9 else 8) else (bif Nat.blt m 64 then 5 else (bif Nat.blt m 65 then 1 else 2))))))) else (bif Nat.blt m 99 then (bif Nat.blt m 82 then (bif Nat.blt m 74 then (bif Nat.blt m 70 then (bif Nat.blt m 68 then (bif Nat.blt m 67 then 2 else 4) else (bif Nat.blt m 69 then 1 else 4)) else (bif Nat.blt m 72 then (bif Nat.blt m 71 then 5 else 4) else (bif Nat.blt m 73 then 7 else 8))) else (bif Nat.blt m 78 then (bif Nat.blt m 76 then (bif Nat.blt m 75 then 1 else 5) else (bif Nat.blt m 77 then 3 else 7)) else (bif Nat.blt m 80 then (bif Nat.blt m 79 then 1 else 2) else (bif Nat.blt m 81 then 3 else 4)))) else (bif Nat.blt m 90 then (bif Nat.blt m 86 then (bif Nat.blt m 84 then (bif Nat.blt m 83 then 2 else 2) else (bif Nat.blt m 85 then 2 else 2)) else (bif Nat.blt m 88 then (bif Nat.blt m 87 then 3 else 1) else (bif Nat.blt m 89 then 3 else 2))) else (bif Nat.blt m 94 then (bif Nat.blt m 92 then (bif Nat.blt m 91 then 1 else 4) else (bif Nat.blt m 93 then 5 else 4)) else (bif Nat.blt m 96 then (bif Nat.blt m 95 then 4 else 3) else (bif Nat.blt m 97 then 5 else (bif Nat.blt m 98 then 2 else 1)))))) else (bif Nat.blt m 115 then (bif Nat.blt m 107 then (bif Nat.blt m 103 then (bif Nat.blt m 101 then (bif Nat.blt m 100 then 2 else 2) else (bif Nat.blt m 102 then 2 else 2)) else (bif Nat.blt m 105 then (bif Nat.blt m 104 then 3 else 3) else (bif Nat.blt m 106 then 3 else 4))) else (bif Nat.blt m 111 then (bif Nat.blt m 109 then (bif Nat.blt m 108 then 5 else 4) else (bif Nat.blt m 110 then 2 else 3)) else (bif Nat.blt m 113 then (bif Nat.blt m 112 then 5 else 3) else (bif Nat.blt m 114 then 5 else 2)))) else (bif Nat.blt m 123 then (bif Nat.blt m 119 then (bif Nat.blt m 117 then (bif Nat.blt m 116 then 4 else 4) else (bif Nat.blt m 118 then 4 else 4)) else (bif Nat.blt m 121 then (bif Nat.blt m 120 then 7 else 1) else (bif Nat.blt m 122 then 1 else 4))) else (bif Nat.blt m 127 then (bif Nat.blt m 125 then (bif Nat.blt m 124 then 6 else 4) else (bif Nat.blt m 126 then 4 else 4)) else (bif Nat.blt m 129 then (bif Nat.blt m 128 then 2 else 6) else (bif Nat.blt m 130 then 3 else (bif Nat.blt m 131 then 3 else 3)))))))) else (bif Nat.blt m 198 then (bif Nat.blt m 165 then (bif Nat.blt m 148 then (bif Nat.blt m 140 then (bif Nat.blt m 136 then (bif Nat.blt m 134 then (bif Nat.blt m 133 then 3 else 2) else (bif Nat.blt m 135 then 2 else 2)) else (bif Nat.blt m 138 then (bif Nat.blt m 137 then 5 else 4) else (bif Nat.blt m 139 then 7 else 2))) else (bif Nat.blt m 144 then (bif Nat.blt m 142 then (bif Nat.blt m 141 then 5 else 4) else (bif Nat.blt m 143 then 3 else 6)) else (bif Nat.blt m 146 then (bif Nat.blt m 145 then 4 else 7) else (bif Nat.blt m 147 then 7 else 2)))) else (bif Nat.blt m 156 then (bif Nat.blt m 152 then (bif Nat.blt m 150 then (bif Nat.blt m 149 then 1 else 1) else (bif Nat.blt m 151 then 4 else 2)) else (bif Nat.blt m 154 then (bif Nat.blt m 153 then 4 else 1) else (bif Nat.blt m 155 then 1 else 3))) else (bif Nat.blt m 160 then (bif Nat.blt m 158 then (bif Nat.blt m 157 then 2 else 3) else (bif Nat.blt m 159 then 2 else 2)) else (bif Nat.blt m 162 then (bif Nat.blt m 161 then 1 else 2) else (bif Nat.blt m 163 then 3 else (bif Nat.blt m 164 then 3 else 2)))))) else (bif Nat.blt m 181 then (bif Nat.blt m 173 then (bif Nat.blt m 169 then (bif Nat.blt m 167 then (bif Nat.blt m 166 then 2 else 3) else (bif Nat.blt m 168 then 3 else 3)) else (bif Nat.blt m 171 then (bif Nat.blt m 170 then 2 else 3) else (bif Nat.blt m 172 then 4 else 3))) else (bif Nat.blt m 177 then (bif Nat.blt m 175 then (bif Nat.blt m 174 then 3 else 4) else (bif Nat.blt m 176 then 3 else 6)) else (bif Nat.blt m 179 then (bif Nat.blt m 178 then 2 else 1) else (bif Nat.blt m 180 then 1 else 3)))) else (bif Nat.blt m 189 then (bif Nat.blt m 185 then (bif Nat.blt m 183 then (bif Nat.blt m 182 then 2 else 2) else (bif Nat.blt m 184 then 3 else 2)) else (bif Nat.blt m 187 then (bif Nat.blt m 186 then 1 else 1) else (bif Nat.blt m 188 then 1 else 2))) else (bif Nat.blt m 193 then (bif Nat.blt m 191 then (bif Nat.blt m 190 then 2 else 3) else (bif Nat.blt m 192 then 3 else 1)) else (bif Nat.blt m 195 then (bif Nat.blt m 194 then 3 else 2) else (bif Nat.blt m 196 then 2 else (bif Nat.blt m 197 then 1 else 2))))))) else (bif Nat.blt m 231 then (bif Nat.blt m 214 then (bif Nat.blt m 206 then (bif Nat.blt m 202 then (bif Nat.blt m 200 then (bif Nat.blt m 199 then 2 else 4) else (bif Nat.blt m 201 then 3 else 8)) else (bif Nat.blt m 204 then (bif Nat.blt m 203 then 5 else 3) else (bif Nat.blt m 205 then 4 else 1))) else (bif Nat.blt m 210 then (bif Nat.blt m 208 then (bif Nat.blt m 207 then 6 else 4) else (bif Nat.blt m 209 then 4 else 3)) else (bif Nat.blt m 212 then (bif Nat.blt m 211 then 3 else 4) else (bif Nat.blt m 213 then 4 else 6)))) else (bif Nat.blt m 222 then (bif Nat.blt m 218 then (bif Nat.blt m 216 then (bif Nat.blt m 215 then 4 else 6) else (bif Nat.blt m 217 then 4 else 2)) else (bif Nat.blt m 220 then (bif Nat.blt m 219 then 3 else 4) else (bif Nat.blt m 221 then 4 else 3))) else (bif Nat.blt m 226 then (bif Nat.blt m 224 then (bif Nat.blt m 223 then 3 else 4) else (bif Nat.blt m 225 then 5 else 8)) else (bif Nat.blt m 228 then (bif Nat.blt m 227 then 8 else 4) else (bif Nat.blt m 229 then 9 else (bif Nat.blt m 230 then 1 else 4)))))) else (bif Nat.blt m 247 then (bif Nat.blt m 239 then (bif Nat.blt m 235 then (bif Nat.blt m 233 then (bif Nat.blt m 232 then 5 else 4) else (bif Nat.blt m 234 then 6 else 5)) else (bif Nat.blt m 237 then (bif Nat.blt m 236 then 5 else 5) else (bif Nat.blt m 238 then 4 else 6))) else (bif Nat.blt m 243 then (bif Nat.blt m 241 then (bif Nat.blt m 240 then 4 else 4) else (bif Nat.blt m 242 then 5 else 3)) else (bif Nat.blt m 245 then (bif Nat.blt m 244 then 5 else 5) else (bif Nat.blt m 246 then 2 else 7)))) else (bif Nat.blt m 255 then (bif Nat.blt m 251 then (bif Nat.blt m 249 then (bif Nat.blt m 248 then 10 else 5) else (bif Nat.blt m 250 then 3 else 6)) else (bif Nat.blt m 253 then (bif Nat.blt m 252 then 4 else 2) else (bif Nat.blt m 254 then 3 else 7))) else (bif Nat.blt m 259 then (bif Nat.blt m 257 then (bif Nat.blt m 256 then 2 else 1) else (bif Nat.blt m 258 then 1 else 3)) else (bif Nat.blt m 261 then (bif Nat.blt m 260 then 4 else 1) else (bif Nat.blt m 262 then 2 else (bif Nat.blt m 263 then 4 else 4)))))))))
def mq_rt (m : Nat) : Option FieldType := (bif Nat.blt m 132 then (bif Nat.blt m 66 then (bif Nat.blt m 33 then (bif Nat.blt m 16 then (bif Nat.blt m 8 then (bif Nat.blt m 4 then (bif Nat.blt m 2 then (bif Nat.blt m 1 then none else (some .int)) else (bif Nat.blt m 3 then none else (some .int))) else (bif Nat.blt m 6 then (bif Nat.blt m 5 then (some .int) else none) else (bif Nat.blt m 7 then (some .int) else none))) else (bif Nat.blt m 12 then (bif Nat.blt m 10 then (bif Nat.blt m 9 then none else (some .int)) else (bif Nat.blt m 11 then (some .int) else none)) else (bif Nat.blt m 14 then (bif Nat.blt m 13 then (some .int) else (some .int)) else (bif Nat.blt m 15 then (some .int) else (some .int))))) else (bif Nat.blt m 24 then (bif Nat.blt m 20 then (bif Nat.blt m 18 then (bif Nat.blt m 17 then (some .int) else (some .int)) else (bif Nat.blt m 19 then (some .int) else (some .int))) else (bif Nat.blt m 22 then (bif Nat.blt m 21 then none else none) else (bif Nat.blt m 23 then none else (some .int)))) else (bif Nat.blt m 28 then (bif Nat.blt m 26 then (bif Nat.blt m 25 then (some .boolean) else (some .int)) else (bif Nat.blt m 27 then (some .int) else (some .int))) else (bif Nat.blt m 30 then (bif Nat.blt m 29 then (some .int) else (some .long)) else (bif Nat.blt m 31 then (some .long) else (bif Nat.blt m 32 then (some .int) else (some .int))))))) else (bif Nat.blt m 49 then (bif Nat.blt m 41 then (bif Nat.blt m 37 then (bif Nat.blt m 35 then (bif Nat.blt m 34 then (some .int) else none) else (bif Nat.blt m 36 then none else (some .int))) else (bif Nat.blt m 39 then (bif Nat.blt m 38 then none else none) else (bif Nat.blt m 40 then (some .int) else (some .boolean)))) else (bif Nat.blt m 45 then (bif Nat.blt m 43 then (bif Nat.blt m 42 then (some .boolean) else (some .boolean)) else (bif Nat.blt m 44 then (some .boolean) else (some .boolean))) else (bif Nat.blt m 47 then (bif Nat.blt m 46 then none else (some .int)) else (bif Nat.blt m 48 then none else none)))) else (bif Nat.blt m 57 then (bif Nat.blt m 53 then (bif Nat.blt m 51 then (bif Nat.blt m 50 then none else none) else (bif Nat.blt m 52 then (some .boolean) else none)) else (bif Nat.blt m 55 then (bif Nat.blt m 54 then none else (some .boolean)) else (bif Nat.blt m 56 then none else none))) else (bif Nat.blt m 61 then (bif Nat.blt m 59 then (bif Nat.blt m 58 then (some .int) else none) else (bif Nat.blt m 60 then none else none)) else (bif Nat.blt m 63 then (bif Nat.blt m 62 then (some .int) else none) else (bif Nat.blt m 64 then none else (bif Nat.blt m 65 then none else (some .int)))))))) else (bif Nat.blt m 99 then (bif Nat.blt m 82 then (bif Nat.blt m 74 then (bif Nat.blt m 70 then (bif Nat.blt m 68 then (bif Nat.blt m 67 then none else none) else (bif Nat.blt m 69 then none else none)) else (bif Nat.blt m 72 then (bif Nat.blt m 71 then none else none) else (bif Nat.blt m 73 then (some .int) else none))) else (bif Nat.blt m 78 then (bif Nat.blt m 76 then (bif Nat.blt m 75 then none else none) else (bif Nat.blt m 77 then (some .int) else (some .int))) else (bif Nat.blt m 80 then (bif Nat.blt m 79 then none else (some .boolean)) else (bif Nat.blt m 81 then none else (some .boolean))))) else (bif Nat.blt m 90 then (bif Nat.blt m 86 then (bif Nat.blt m 84 then (bif Nat.blt m 83 then (some .int) else none) else (bif Nat.blt m 85 then (some .boolean) else none)) else (bif Nat.blt m 88 then (bif Nat.blt m 87 then (some .int) else (some .boolean)) else (bif Nat.blt m 89 then none else (some .int)))) else (bif Nat.blt m 94 then (bif Nat.blt m 92 then (bif Nat.blt m 91 then none else (some .int)) else (bif Nat.blt m 93 then none else none)) else (bif Nat.blt m 96 then (bif Nat.blt m 95 then (some .int) else (some .int)) else (bif Nat.blt m 97 then (some .boolean) else (bif Nat.blt m 98 then (some .boolean) else none)))))) else (bif Nat.blt m 115 then (bif Nat.blt m 107 then (bif Nat.blt m 103 then (bif Nat.blt m 101 then (bif Nat.blt m 100 then none else (some .boolean)) else (bif Nat.blt m 102 then (some .boolean) else (some .boolean))) else (bif Nat.blt m 105 then (bif Nat.blt m 104 then (some .int) else (some .int)) else (bif Nat.blt m 106 then (some .int) else (some .int)))) else (bif Nat.blt m 111 then (bif Nat.blt m 109 then (bif Nat.blt m 108 then (some .int) else none) else (bif Nat.blt m 110 then none else none)) else (bif Nat.blt m 113 then (bif Nat.blt m 112 then none else (some .int)) else (bif Nat.blt m 114 then (some .int) else (some .int))))) else (bif Nat.blt m 123 then (bif Nat.blt m 119 then (bif Nat.blt m 117 then (bif Nat.blt m 116 then (some .int) else (some .int)) else (bif Nat.blt m 118 then (some .long) else (some .int))) else (bif Nat.blt m 121 then (bif Nat.blt m 120 then (some .int) else (some .int)) else (bif Nat.blt m 122 then none else (some .boolean)))) else (bif Nat.blt m 127 then (bif Nat.blt m 125 then (bif Nat.blt m 124 then (some .int) else (some .int)) else (bif Nat.blt m 126 then (some .int) else (some .int))) else (bif Nat.blt m 129 then (bif Nat.blt m 128 then (some .int) else (some .int)) else (bif Nat.blt m 130 then (some .int) else (bif Nat.blt m 131 then (some .int) else (some .int))))))))) else (bif Nat.blt m 198 then (bif Nat.blt m 165 then (bif Nat.blt m 148 then (bif Nat.blt m 140 then (bif Nat.blt m 136 then (bif Nat.blt m 134 then (bif Nat.blt m 133 then (some .int) else (some .int)) else (bif Nat.blt m 135 then (some .int) else (some .int))) else (bif Nat.blt m 138 then (bif Nat.blt m 137 then (some .int) else (some .int)) else (bif Nat.blt m 139 then (some .int) else (some .int)))) else (bif Nat.blt m 144 then (bif Nat.blt m 142 then (bif Nat.blt m 141 then (some .int) else (some .int)) else (bif Nat.blt m 143 then (some .int) else (some .int))) else (bif Nat.blt m 146 then (bif Nat.blt m 145 then (some .int) else (some .int)) else (bif Nat.blt m 147 then (some .int) else (some .boolean))))) else (bif Nat.blt m 156 then (bif Nat.blt m 152 then (bif Nat.blt m 150 then (bif Nat.blt m 149 then (some .int) else (some .boolean)) else (bif Nat.blt m 151 then (some .int) else (some .int))) else (bif Nat.blt m 154 then (bif Nat.blt m 153 then (some .int) else (some .boolean)) else (bif Nat.blt m 155 then (some .int) else (some .int)))) else (bif Nat.blt m 160 then (bif Nat.blt m 158 then (bif Nat.blt m 157 then none else (some .boolean)) else (bif Nat.blt m 159 then (some .int) else (some .int))) else (bif Nat.blt m 162 then (bif Nat.blt m 161 then (some .int) else (some .boolean)) else (bif Nat.blt m 163 then (some .int) else (bif Nat.blt m 164 then none else (some .boolean))))))) else (bif Nat.blt m 181 then (bif Nat.blt m 173 then (bif Nat.blt m 169 then (bif Nat.blt m 167 then (bif Nat.blt m 166 then (some .boolean) else (some .int)) else (bif Nat.blt m 168 then (some .int) else (some .int))) else (bif Nat.blt m 171 then (bif Nat.blt m 170 then (some .boolean) else (some .boolean)) else (bif Nat.blt m 172 then (some .int) else (some .int)))) else (bif Nat.blt m 177 then (bif Nat.blt m 175 then (bif Nat.blt m 174 then (some .int) else (some .boolean)) else (bif Nat.blt m 176 then none else (some .int))) else (bif Nat.blt m 179 then (bif Nat.blt m 178 then (some .int) else (some .int)) else (bif Nat.blt m 180 then (some .boolean) else (some .boolean))))) else (bif Nat.blt m 189 then (bif Nat.blt m 185 then (bif Nat.blt m 183 then (bif Nat.blt m 182 then (some .boolean) else (some .boolean)) else (bif Nat.blt m 184 then none else (some .boolean))) else (bif Nat.blt m 187 then (bif Nat.blt m 186 then (some .int) else (some .int)) else (bif Nat.blt m 188 then (some .int) else none))) else (bif Nat.blt m 193 then (bif Nat.blt m 191 then (bif Nat.blt m 190 then (some .boolean) else (some .boolean)) else (bif Nat.blt m 192 then (some .boolean) else none)) else (bif Nat.blt m 195 then (bif Nat.blt m 194 then none else none) else (bif Nat.blt m 196 then (some .boolean) else (bif Nat.blt m 197 then (some .boolean) else (some .boolean)))))))) else (bif Nat.blt m 231 then (bif Nat.blt m 214 then (bif Nat.blt m 206 then (bif Nat.blt m 202 then (bif Nat.blt m 200 then (bif Nat.blt m 199 then none else (some .int)) else (bif Nat.blt m 201 then (some .int) else (some .int))) else (bif Nat.blt m 204 then (bif Nat.blt m 203 then (some .int) else (some .boolean)) else (bif Nat.blt m 205 then none else (some .boolean)))) else (bif Nat.blt m 210 then (bif Nat.blt m 208 then (bif Nat.blt m 207 then (some .boolean) else (some .boolean)) else (bif Nat.blt m 209 then (some .boolean) else (some .boolean))) else (bif Nat.blt m 212 then (bif Nat.blt m 211 then (some .int) else (some .boolean)) else (bif Nat.blt m 213 then (some .int) else (some .int))))) else (bif Nat.blt m 222 then (bif Nat.blt m 218 then (bif Nat.blt m 216 then (bif Nat.blt m 215 then none else none) else (bif Nat.blt m 217 then none else (some .int))) else (bif Nat.blt m 220 then (bif Nat.blt m 219 then (some .int) else (some .int)) else (bif Nat.blt m 221 then (some .int) else (some .int)))) else (bif Nat.blt m 226 then (bif Nat.blt m 224 then (bif Nat.blt m 223 then (some .int) else (some .int)) else (bif Nat.blt m 225 then (some .int) else (some .int))) else (bif Nat.blt m 228 then (bif Nat.blt m 227 then (some .int) else none) else (bif Nat.blt m 229 then (some .int) else (bif Nat.blt m 230 then (some .boolean) else (some .boolean))))))) else (bif Nat.blt m 247 then (bif Nat.blt m 239 then (bif Nat.blt m 235 then (bif Nat.blt m 233 then (bif Nat.blt m 232 then (some .int) else none) else (bif Nat.blt m 234 then (some .boolean) else (some .boolean))) else (bif Nat.blt m 237 then (bif Nat.blt m 236 then none else (some .int)) else (bif Nat.blt m 238 then none else (some .int)))) else (bif Nat.blt m 243 then (bif Nat.blt m 241 then (bif Nat.blt m 240 then (some .int) else (some .int)) else (bif Nat.blt m 242 then (some .int) else (some .int))) else (bif Nat.blt m 245 then (bif Nat.blt m 244 then (some .int) else (some .int)) else (bif Nat.blt m 246 then (some .int) else (some .int))))) else (bif Nat.blt m 255 then (bif Nat.blt m 251 then (bif Nat.blt m 249 then (bif Nat.blt m 248 then (some .int) else (some .int)) else (bif Nat.blt m 250 then (some .boolean) else (some .int))) else (bif Nat.blt m 253 then (bif Nat.blt m 252 then (some .int) else (some .int)) else (bif Nat.blt m 254 then (some .int) else (some .int)))) else (bif Nat.blt m 259 then (bif Nat.blt m 257 then (bif Nat.blt m 256 then (some .boolean) else (some .int)) else (bif Nat.blt m 258 then (some .boolean) else (some .int))) else (bif Nat.blt m 261 then (bif Nat.blt m 260 then (some .int) else (some .int)) else (bif Nat.blt m 262 then (some .int) else (bif Nat.blt m 263 then none else (some .boolean))))))))))
def mq_np (m : Nat) : Nat := (bif Nat.blt m 132 then (bif Nat.blt m 66 then (bif Nat.blt m 33 then (bif Nat.blt m 16 then (bif Nat.blt m 8 then (bif Nat.blt m 4 then (bif Nat.blt m 2 then (bif Nat.blt m 1 then 1 else 1) else (bif Nat.blt m 3 then 2 else 1)) else (bif Nat.blt m 6 then (bif Nat.blt m 5 then 0 else 2) else (bif Nat.blt m 7 then 2 else 0))) else (bif Nat.blt m 12 then (bif Nat.blt m 10 then (bif Nat.blt m 9 then 2 else 0) else (bif Nat.blt m 11 then 1 else 0)) else (bif Nat.blt m 14 then (bif Nat.blt m 13 then 2 else 3) else (bif Nat.blt m 15 then 0 else 1)))) else (bif Nat.blt m 24 then (bif Nat.blt m 20 then (bif Nat.blt m 18 then (bif Nat.blt m 17 then 0 else 2) else (bif Nat.blt m 19 then 1 else 2)) else (bif Nat.blt m 22 then (bif Nat.blt m 21 then 1 else 3) else (bif Nat.blt m 23 then 0 else 1))) else (bif Nat.blt m 28 then (bif Nat.blt m 26 then (bif Nat.blt m 25 then 3 else 3) else (bif Nat.blt m 27 then 0 else 1)) else (bif Nat.blt m 30 then (bif Nat.blt m 29 then 2 else 1) else (bif Nat.blt m 31 then 2 else (bif Nat.blt m 32 then 3 else 1)))))) else (bif Nat.blt m 49 then (bif Nat.blt m 41 then (bif Nat.blt m 37 then (bif Nat.blt m 35 then (bif Nat.blt m 34 then 1 else 0) else (bif Nat.blt m 36 then 0 else 2)) else (bif Nat.blt m 39 then (bif Nat.blt m 38 then 1 else 3) else (bif Nat.blt m 40 then 2 else 0))) else (bif Nat.blt m 45 then (bif Nat.blt m 43 then (bif Nat.blt m 42 then 2 else 2) else (bif Nat.blt m 44 then 1 else 1)) else (bif Nat.blt m 47 then (bif Nat.blt m 46 then 2 else 1) else (bif Nat.blt m 48 then 1 else 1)))) else (bif Nat.blt m 57 then (bif Nat.blt m 53 then (bif Nat.blt m 51 then (bif Nat.blt m 50 then 1 else 1) else (bif Nat.blt m 52 then 1 else 1)) else (bif Nat.blt m 55 then (bif Nat.blt m 54 then 1 else 1) else (bif Nat.blt m 56 then 0 else 0))) else (bif Nat.blt m 61 then (bif Nat.blt m 59 then (bif Nat.blt m 58 then 1 else 0) else (bif Nat.blt m 60 then 3 else 3)) else (bif Nat.blt m 63 then (bif Nat.blt m 62 then 4 else 4) else (bif Nat.blt m 64 then 3 else (bif Nat.blt m 65 then 0 else 1))))))) else (bif Nat.blt m 99 then (bif Nat.blt m 82 then (bif Nat.blt m 74 then (bif Nat.blt m 70 then (bif Nat.blt m 68 then (bif Nat.blt m 67 then 1 else 3) else (bif Nat.blt m 69 then 0 else 2)) else (bif Nat.blt m 72 then (bif Nat.blt m 71 then 1 else 1) else (bif Nat.blt m 73 then 3 else 2))) else (bif Nat.blt m 78 then (bif Nat.blt m 76 then (bif Nat.blt m 75 then 0 else 2) else (bif Nat.blt m 77 then 0 else 1)) else (bif Nat.blt m 80 then (bif Nat.blt m 79 then 0 else 1) else (bif Nat.blt m 81 then 1 else 3)))) else (bif Nat.blt m 90 then (bif Nat.blt m 86 then (bif Nat.blt m 84 then (bif Nat.blt m 83 then 1 else 0) else (bif Nat.blt m 85 then 1 else 1)) else (bif Nat.blt m 88 then (bif Nat.blt m 87 then 2 else 0) else (bif Nat.blt m 89 then 2 else 1))) else (bif Nat.blt m 94 then (bif Nat.blt m 92 then (bif Nat.blt m 91 then 0 else 1) else (bif Nat.blt m 93 then 1 else 3)) else (bif Nat.blt m 96 then (bif Nat.blt m 95 then 1 else 1) else (bif Nat.blt m 97 then 2 else (bif Nat.blt m 98 then 1 else 0)))))) else (bif Nat.blt m 115 then (bif Nat.blt m 107 then (bif Nat.blt m 103 then (bif Nat.blt m 101 then (bif Nat.blt m 100 then 1 else 1) else (bif Nat.blt m 102 then 1 else 1)) else (bif Nat.blt m 105 then (bif Nat.blt m 104 then 0 else 0) else (bif Nat.blt m 106 then 0 else 1))) else (bif Nat.blt m 111 then (bif Nat.blt m 109 then (bif Nat.blt m 108 then 1 else 3) else (bif Nat.blt m 110 then 1 else 2)) else (bif Nat.blt m 113 then (bif Nat.blt m 112 then 2 else 1) else (bif Nat.blt m 114 then 1 else 1)))) else (bif Nat.blt m 123 then (bif Nat.blt m 119 then (bif Nat.blt m 117 then (bif Nat.blt m 116 then 1 else 1) else (bif Nat.blt m 118 then 0 else 2)) else (bif Nat.blt m 121 then (bif Nat.blt m 120 then 3 else 0) else (bif Nat.blt m 122 then 0 else 3))) else (bif Nat.blt m 127 then (bif Nat.blt m 125 then (bif Nat.blt m 124 then 5 else 1) else (bif Nat.blt m 126 then 1 else 1)) else (bif Nat.blt m 129 then (bif Nat.blt m 128 then 1 else 2) else (bif Nat.blt m 130 then 2 else (bif Nat.blt m 131 then 2 else 0)))))))) else (bif Nat.blt m 198 then (bif Nat.blt m 165 then (bif Nat.blt m 148 then (bif Nat.blt m 140 then (bif Nat.blt m 136 then (bif Nat.blt m 134 then (bif Nat.blt m 133 then 2 else 1) else (bif Nat.blt m 135 then 1 else 1)) else (bif Nat.blt m 138 then (bif Nat.blt m 137 then 2 else 2) else (bif Nat.blt m 139 then 2 else 1))) else (bif Nat.blt m 144 then (bif Nat.blt m 142 then (bif Nat.blt m 141 then 2 else 2) else (bif Nat.blt m 143 then 2 else 1)) else (bif Nat.blt m 146 then (bif Nat.blt m 145 then 1 else 0) else (bif Nat.blt m 147 then 2 else 1)))) else (bif Nat.blt m 156 then (bif Nat.blt m 152 then (bif Nat.blt m 150 then (bif Nat.blt m 149 then 0 else 0) else (bif Nat.blt m 151 then 1 else 1)) else (bif Nat.blt m 154 then (bif Nat.blt m 153 then 0 else 1) else (bif Nat.blt m 155 then 1 else 3))) else (bif Nat.blt m 160 then (bif Nat.blt m 158 then (bif Nat.blt m 157 then 0 else 3) else (bif Nat.blt m 159 then 2 else 2)) else (bif Nat.blt m 162 then (bif Nat.blt m 161 then 1 else 2) else (bif Nat.blt m 163 then 1 else (bif Nat.blt m 164 then 2 else 1)))))) else (bif Nat.blt m 181 then (bif Nat.blt m 173 then (bif Nat.blt m 169 then (bif Nat.blt m 167 then (bif Nat.blt m 166 then 1 else 0) else (bif Nat.blt m 168 then 0 else 1)) else (bif Nat.blt m 171 then (bif Nat.blt m 170 then 2 else 2) else (bif Nat.blt m 172 then 1 else 2))) else (bif Nat.blt m 177 then (bif Nat.blt m 175 then (bif Nat.blt m 174 then 2 else 3) else (bif Nat.blt m 176 then 1 else 5)) else (bif Nat.blt m 179 then (bif Nat.blt m 178 then 1 else 0) else (bif Nat.blt m 180 then 0 else 2)))) else (bif Nat.blt m 189 then (bif Nat.blt m 185 then (bif Nat.blt m 183 then (bif Nat.blt m 182 then 1 else 0) else (bif Nat.blt m 184 then 2 else 1)) else (bif Nat.blt m 187 then (bif Nat.blt m 186 then 0 else 1) else (bif Nat.blt m 188 then 1 else 1))) else (bif Nat.blt m 193 then (bif Nat.blt m 191 then (bif Nat.blt m 190 then 0 else 1) else (bif Nat.blt m 192 then 0 else 0)) else (bif Nat.blt m 195 then (bif Nat.blt m 194 then 1 else 1) else (bif Nat.blt m 196 then 0 else (bif Nat.blt m 197 then 0 else 0))))))) else (bif Nat.blt m 231 then (bif Nat.blt m 214 then (bif Nat.blt m 206 then (bif Nat.blt m 202 then (bif Nat.blt m 200 then (bif Nat.blt m 199 then 1 else 1) else (bif Nat.blt m 201 then 3 else 2)) else (bif Nat.blt m 204 then (bif Nat.blt m 203 then 2 else 1) else (bif Nat.blt m 205 then 2 else 0))) else (bif Nat.blt m 210 then (bif Nat.blt m 208 then (bif Nat.blt m 207 then 1 else 1) else (bif Nat.blt m 209 then 2 else 0)) else (bif Nat.blt m 212 then (bif Nat.blt m 211 then 1 else 0) else (bif Nat.blt m 213 then 1 else 1)))) else (bif Nat.blt m 222 then (bif Nat.blt m 218 then (bif Nat.blt m 216 then (bif Nat.blt m 215 then 2 else 1) else (bif Nat.blt m 217 then 1 else 1)) else (bif Nat.blt m 220 then (bif Nat.blt m 219 then 0 else 2) else (bif Nat.blt m 221 then 1 else 2))) else (bif Nat.blt m 226 then (bif Nat.blt m 224 then (bif Nat.blt m 223 then 2 else 0) else (bif Nat.blt m 225 then 2 else 2)) else (bif Nat.blt m 228 then (bif Nat.blt m 227 then 1 else 2) else (bif Nat.blt m 229 then 1 else (bif Nat.blt m 230 then 1 else 1)))))) else (bif Nat.blt m 247 then (bif Nat.blt m 239 then (bif Nat.blt m 235 then (bif Nat.blt m 233 then (bif Nat.blt m 232 then 1 else 2) else (bif Nat.blt m 234 then 1 else 2)) else (bif Nat.blt m 237 then (bif Nat.blt m 236 then 1 else 2) else (bif Nat.blt m 238 then 0 else 1))) else (bif Nat.blt m 243 then (bif Nat.blt m 241 then (bif Nat.blt m 240 then 2 else 1) else (bif Nat.blt m 242 then 2 else 1)) else (bif Nat.blt m 245 then (bif Nat.blt m 244 then 1 else 2) else (bif Nat.blt m 246 then 1 else 2)))) else (bif Nat.blt m 255 then (bif Nat.blt m 251 then (bif Nat.blt m 249 then (bif Nat.blt m 248 then 2 else 1) else (bif Nat.blt m 250 then 1 else 1)) else (bif Nat.blt m 253 then (bif Nat.blt m 252 then 1 else 1) else (bif Nat.blt m 254 then 0 else 2))) else (bif Nat.blt m 259 then (bif Nat.blt m 257 then (bif Nat.blt m 256 then 1 else 0) else (bif Nat.blt m 258 then 0 else 1)) else (bif Nat.blt m 261 then (bif Nat.blt m 260 then 1 else 1) else (bif Nat.blt m 262 then 1 else (bif Nat.blt m 263 then 2 else 1)))))))))
/-- 0: static; 1: begins an object; 2: of an object -/
def mq_kd (m : Nat) : Nat := (bif Nat.blt m 132 then (bif Nat.blt m 66 then (bif Nat.blt m 33 then (bif Nat.blt m 16 then (bif Nat.blt m 8 then (bif Nat.blt m 4 then (bif Nat.blt m 2 then (bif Nat.blt m 1 then 1 else 2) else (bif Nat.blt m 3 then 2 else 2)) else (bif Nat.blt m 6 then (bif Nat.blt m 5 then 2 else 2) else (bif Nat.blt m 7 then 2 else 1))) else (bif Nat.blt m 12 then (bif Nat.blt m 10 then (bif Nat.blt m 9 then 2 else 2) else (bif Nat.blt m 11 then 2 else 2)) else (bif Nat.blt m 14 then (bif Nat.blt m 13 then 2 else 2) else (bif Nat.blt m 15 then 2 else 2)))) else (bif Nat.blt m 24 then (bif Nat.blt m 20 then (bif Nat.blt m 18 then (bif Nat.blt m 17 then 2 else 2) else (bif Nat.blt m 19 then 2 else 2)) else (bif Nat.blt m 22 then (bif Nat.blt m 21 then 2 else 2) else (bif Nat.blt m 23 then 2 else 2))) else (bif Nat.blt m 28 then (bif Nat.blt m 26 then (bif Nat.blt m 25 then 2 else 2) else (bif Nat.blt m 27 then 2 else 2)) else (bif Nat.blt m 30 then (bif Nat.blt m 29 then 2 else 0) else (bif Nat.blt m 31 then 0 else (bif Nat.blt m 32 then 0 else 0)))))) else (bif Nat.blt m 49 then (bif Nat.blt m 41 then (bif Nat.blt m 37 then (bif Nat.blt m 35 then (bif Nat.blt m 34 then 0 else 1) else (bif Nat.blt m 36 then 2 else 2)) else (bif Nat.blt m 39 then (bif Nat.blt m 38 then 2 else 2) else (bif Nat.blt m 40 then 2 else 2))) else (bif Nat.blt m 45 then (bif Nat.blt m 43 then (bif Nat.blt m 42 then 2 else 2) else (bif Nat.blt m 44 then 2 else 2)) else (bif Nat.blt m 47 then (bif Nat.blt m 46 then 1 else 2) else (bif Nat.blt m 48 then 2 else 2)))) else (bif Nat.blt m 57 then (bif Nat.blt m 53 then (bif Nat.blt m 51 then (bif Nat.blt m 50 then 2 else 2) else (bif Nat.blt m 52 then 0 else 2)) else (bif Nat.blt m 55 then (bif Nat.blt m 54 then 2 else 2) else (bif Nat.blt m 56 then 2 else 2))) else (bif Nat.blt m 61 then (bif Nat.blt m 59 then (bif Nat.blt m 58 then 0 else 1) else (bif Nat.blt m 60 then 2 else 2)) else (bif Nat.blt m 63 then (bif Nat.blt m 62 then 2 else 2) else (bif Nat.blt m 64 then 2 else (bif Nat.blt m 65 then 1 else 2))))))) else (bif Nat.blt m 99 then (bif Nat.blt m 82 then (bif Nat.blt m 74 then (bif Nat.blt m 70 then (bif Nat.blt m 68 then (bif Nat.blt m 67 then 2 else 2) else (bif Nat.blt m 69 then 2 else 2)) else (bif Nat.blt m 72 then (bif Nat.blt m 71 then 2 else 2) else (bif Nat.blt m 73 then 0 else 2))) else (bif Nat.blt m 78 then (bif Nat.blt m 76 then (bif Nat.blt m 75 then 1 else 2) else (bif Nat.blt m 77 then 2 else 2)) else (bif Nat.blt m 80 then (bif Nat.blt m 79 then 1 else 2) else (bif Nat.blt m 81 then 2 else 2)))) else (bif Nat.blt m 90 then (bif Nat.blt m 86 then (bif Nat.blt m 84 then (bif Nat.blt m 83 then 2 else 2) else (bif Nat.blt m 85 then 2 else 2)) else (bif Nat.blt m 88 then (bif Nat.blt m 87 then 2 else 2) else (bif Nat.blt m 89 then 2 else 2))) else (bif Nat.blt m 94 then (bif Nat.blt m 92 then (bif Nat.blt m 91 then 1 else 2) else (bif Nat.blt m 93 then 2 else 2)) else (bif Nat.blt m 96 then (bif Nat.blt m 95 then 2 else 2) else (bif Nat.blt m 97 then 2 else (bif Nat.blt m 98 then 0 else 1)))))) else (bif Nat.blt m 115 then (bif Nat.blt m 107 then (bif Nat.blt m 103 then (bif Nat.blt m 101 then (bif Nat.blt m 100 then 2 else 2) else (bif Nat.blt m 102 then 2 else 2)) else (bif Nat.blt m 105 then (bif Nat.blt m 104 then 2 else 2) else (bif Nat.blt m 106 then 2 else 2))) else (bif Nat.blt m 111 then (bif Nat.blt m 109 then (bif Nat.blt m 108 then 2 else 2) else (bif Nat.blt m 110 then 2 else 2)) else (bif Nat.blt m 113 then (bif Nat.blt m 112 then 2 else 2) else (bif Nat.blt m 114 then 2 else 2)))) else (bif Nat.blt m 123 then (bif Nat.blt m 119 then (bif Nat.blt m 117 then (bif Nat.blt m 116 then 2 else 2) else (bif Nat.blt m 118 then 2 else 2)) else (bif Nat.blt m 121 then (bif Nat.blt m 120 then 2 else 2) else (bif Nat.blt m 122 then 1 else 2))) else (bif Nat.blt m 127 then (bif Nat.blt m 125 then (bif Nat.blt m 124 then 2 else 2) else (bif Nat.blt m 126 then 2 else 2)) else (bif Nat.blt m 129 then (bif Nat.blt m 128 then 2 else 2) else (bif Nat.blt m 130 then 2 else (bif Nat.blt m 131 then 2 else 2)))))))) else (bif Nat.blt m 198 then (bif Nat.blt m 165 then (bif Nat.blt m 148 then (bif Nat.blt m 140 then (bif Nat.blt m 136 then (bif Nat.blt m 134 then (bif Nat.blt m 133 then 2 else 2) else (bif Nat.blt m 135 then 2 else 2)) else (bif Nat.blt m 138 then (bif Nat.blt m 137 then 2 else 2) else (bif Nat.blt m 139 then 2 else 2))) else (bif Nat.blt m 144 then (bif Nat.blt m 142 then (bif Nat.blt m 141 then 2 else 2) else (bif Nat.blt m 143 then 2 else 2)) else (bif Nat.blt m 146 then (bif Nat.blt m 145 then 2 else 2) else (bif Nat.blt m 147 then 2 else 2)))) else (bif Nat.blt m 156 then (bif Nat.blt m 152 then (bif Nat.blt m 150 then (bif Nat.blt m 149 then 2 else 2) else (bif Nat.blt m 151 then 2 else 2)) else (bif Nat.blt m 154 then (bif Nat.blt m 153 then 2 else 0) else (bif Nat.blt m 155 then 0 else 0))) else (bif Nat.blt m 160 then (bif Nat.blt m 158 then (bif Nat.blt m 157 then 1 else 0) else (bif Nat.blt m 159 then 0 else 0)) else (bif Nat.blt m 162 then (bif Nat.blt m 161 then 0 else 0) else (bif Nat.blt m 163 then 0 else (bif Nat.blt m 164 then 0 else 2)))))) else (bif Nat.blt m 181 then (bif Nat.blt m 173 then (bif Nat.blt m 169 then (bif Nat.blt m 167 then (bif Nat.blt m 166 then 2 else 2) else (bif Nat.blt m 168 then 2 else 2)) else (bif Nat.blt m 171 then (bif Nat.blt m 170 then 0 else 2) else (bif Nat.blt m 172 then 2 else 2))) else (bif Nat.blt m 177 then (bif Nat.blt m 175 then (bif Nat.blt m 174 then 2 else 2) else (bif Nat.blt m 176 then 2 else 2)) else (bif Nat.blt m 179 then (bif Nat.blt m 178 then 2 else 2) else (bif Nat.blt m 180 then 2 else 2)))) else (bif Nat.blt m 189 then (bif Nat.blt m 185 then (bif Nat.blt m 183 then (bif Nat.blt m 182 then 2 else 2) else (bif Nat.blt m 184 then 2 else 2)) else (bif Nat.blt m 187 then (bif Nat.blt m 186 then 2 else 0) else (bif Nat.blt m 188 then 0 else 2))) else (bif Nat.blt m 193 then (bif Nat.blt m 191 then (bif Nat.blt m 190 then 2 else 2) else (bif Nat.blt m 192 then 2 else 2)) else (bif Nat.blt m 195 then (bif Nat.blt m 194 then 2 else 2) else (bif Nat.blt m 196 then 2 else (bif Nat.blt m 197 then 2 else 2))))))) else (bif Nat.blt m 231 then (bif Nat.blt m 214 then (bif Nat.blt m 206 then (bif Nat.blt m 202 then (bif Nat.blt m 200 then (bif Nat.blt m 199 then 2 else 2) else (bif Nat.blt m 201 then 0 else 2)) else (bif Nat.blt m 204 then (bif Nat.blt m 203 then 2 else 2) else (bif Nat.blt m 205 then 2 else 2))) else (bif Nat.blt m 210 then (bif Nat.blt m 208 then (bif Nat.blt m 207 then 2 else 2) else (bif Nat.blt m 209 then 2 else 2)) else (bif Nat.blt m 212 then (bif Nat.blt m 211 then 2 else 2) else (bif Nat.blt m 213 then 2 else 2)))) else (bif Nat.blt m 222 then (bif Nat.blt m 218 then (bif Nat.blt m 216 then (bif Nat.blt m 215 then 2 else 2) else (bif Nat.blt m 217 then 2 else 2)) else (bif Nat.blt m 220 then (bif Nat.blt m 219 then 2 else 2) else (bif Nat.blt m 221 then 2 else 2))) else (bif Nat.blt m 226 then (bif Nat.blt m 224 then (bif Nat.blt m 223 then 2 else 2) else (bif Nat.blt m 225 then 2 else 2)) else (bif Nat.blt m 228 then (bif Nat.blt m 227 then 2 else 2) else (bif Nat.blt m 229 then 2 else (bif Nat.blt m 230 then 0 else 2)))))) else (bif Nat.blt m 247 then (bif Nat.blt m 239 then (bif Nat.blt m 235 then (bif Nat.blt m 233 then (bif Nat.blt m 232 then 2 else 2) else (bif Nat.blt m 234 then 2 else 2)) else (bif Nat.blt m 237 then (bif Nat.blt m 236 then 2 else 2) else (bif Nat.blt m 238 then 2 else 2))) else (bif Nat.blt m 243 then (bif Nat.blt m 241 then (bif Nat.blt m 240 then 2 else 2) else (bif Nat.blt m 242 then 2 else 2)) else (bif Nat.blt m 245 then (bif Nat.blt m 244 then 2 else 2) else (bif Nat.blt m 246 then 2 else 2)))) else (bif Nat.blt m 255 then (bif Nat.blt m 251 then (bif Nat.blt m 249 then (bif Nat.blt m 248 then 2 else 2) else (bif Nat.blt m 250 then 2 else 2)) else (bif Nat.blt m 253 then (bif Nat.blt m 252 then 2 else 2) else (bif Nat.blt m 254 then 2 else 2))) else (bif Nat.blt m 259 then (bif Nat.blt m 257 then (bif Nat.blt m 256 then 2 else 2) else (bif Nat.blt m 258 then 2 else 2)) else (bif Nat.blt m 261 then (bif Nat.blt m 260 then 2 else 0) else (bif Nat.blt m 262 then 0 else (bif Nat.blt m 263 then 0 else 0)))))))))
/-- where a word stands: its part and its place -/
def mq_pt (p : Nat) : List Cond := (bif Nat.blt p 4 then (bif Nat.blt p 2 then (bif Nat.blt p 1 then k2_sels lw_privs else tables_1_1) else (bif Nat.blt p 3 then tables_1_2 else tables_1_3)) else (bif Nat.blt p 6 then (bif Nat.blt p 5 then tables_1_4 else tables_1_5) else (bif Nat.blt p 7 then tables_1_6 else tables_1_7)))
def mq_wd (h : Nat) : Option Cond := (mq_pt (h / 1000))[h % 1000]?
def mq_FL : List (Nat × Nat × Nat × Nat × Nat) := [(0, 9, 0, 0, 1066), (0, 33, 8, 3, 1040), (0, 61, 10, 0, 1163), (0, 78, 8, 4, 1044), (1, 9, 1, 0, 1109), (1, 15, 1, 1, 1110), (1, 18, 1, 2, 1111), (1, 21, 1, 3, 1112), (1, 24, 1, 4, 1113), (1, 27, 1, 5, 1114), (1, 30, 1, 8, 1117), (1, 70, 1, 7, 1116), (1, 83, 1, 6, 1115), (1, 92, 9, 3, 2031), (1, 95, 9, 1, 2027), (1, 101, 9, 2, 2029), (1, 104, 9, 0, 2025), (3, 11, 3, 0, 1204), (3, 15, 3, 1, 1205), (3, 18, 3, 3, 1208), (3, 21, 3, 4, 1209), (3, 24, 3, 5, 1210), (3, 27, 3, 6, 1211), (3, 30, 3, 8, 1215), (3, 33, 3, 9, 1217), (3, 36, 3, 2, 1206), (3, 40, 3, 7, 1212), (3, 47, 3, 11, 1219), (3, 51, 3, 10, 1218), (4, 9, 4, 0, 2011), (4, 15, 4, 1, 2012), (4, 24, 8, 2, 1037), (4, 34, 3, 2, 1207), (4, 54, 3, 7, 1213), (4, 61, 8, 3, 1041), (5, 9, 5, 0, 1076), (5, 15, 5, 1, 1078), (5, 18, 10, 5, 1178), (5, 27, 10, 1, 1167), (5, 39, 3, 8, 1216), (5, 77, 10, 0, 1164), (6, 9, 6, 0, 1091), (6, 15, 6, 1, 1092), (6, 18, 6, 2, 1094), (6, 44, 10, 2, 1170), (6, 55, 10, 3, 1174), (7, 9, 7, 0, 1143), (7, 15, 7, 1, 1144), (7, 24, 7, 2, 1145), (8, 11, 8, 0, 1033), (8, 15, 8, 2, 1036), (8, 19, 8, 1, 1034), (8, 22, 8, 5, 1045), (8, 25, 8, 4, 1043), (8, 28, 8, 3, 1042), (9, 11, 9, 0, 2024), (9, 15, 9, 1, 2026), (9, 18, 9, 2, 2028), (9, 21, 9, 3, 2030), (9, 43, 8, 3, 1039), (9, 53, 8, 2, 1038), (9, 72, 10, 2, 1171), (10, 9, 10, 0, 1162), (10, 15, 10, 1, 1166), (10, 18, 10, 2, 1169), (10, 21, 10, 3, 1173), (10, 24, 10, 6, 1181), (10, 40, 10, 4, 1176), (10, 43, 10, 5, 1179), (11, 10, 11, 0, 2042), (11, 21, 11, 2, 2044), (11, 28, 11, 3, 2045), (11, 35, 11, 4, 2046), (11, 42, 11, 5, 2047), (11, 49, 11, 6, 2048), (11, 56, 11, 7, 2049), (11, 60, 11, 9, 2051), (11, 63, 11, 10, 2052), (11, 69, 11, 11, 2053), (11, 73, 11, 12, 2054), (11, 81, 11, 1, 2043), (11, 88, 11, 13, 2055), (11, 92, 11, 14, 2056), (11, 111, 8, 1, 1035), (11, 137, 5, 0, 1077), (11, 143, 10, 1, 1168), (11, 147, 10, 0, 1165), (11, 160, 5, 1, 1079), (11, 163, 10, 2, 1172), (11, 187, 6, 1, 1093), (11, 190, 6, 2, 1095), (11, 297, 10, 6, 1182), (11, 300, 11, 8, 2050), (11, 304, 10, 5, 1180), (11, 309, 10, 4, 1177), (11, 315, 9, 3, 2032), (11, 316, 3, 7, 1214), (11, 322, 10, 3, 1175), (12, 7, 12, 0, 5021), (12, 13, 12, 1, 5022), (12, 16, 12, 2, 5023), (12, 19, 12, 3, 5024), (12, 23, 12, 14, 5035), (12, 26, 12, 15, 5036), (12, 29, 12, 16, 5037), (12, 32, 12, 17, 5038), (12, 35, 12, 18, 5039), (12, 38, 12, 19, 5040), (12, 41, 12, 20, 5041), (12, 44, 12, 21, 5042), (12, 47, 12, 22, 5043), (12, 50, 12, 23, 5044), (12, 53, 12, 24, 5045), (12, 56, 12, 25, 5046), (12, 59, 12, 26, 5047), (12, 62, 12, 28, 5049), (12, 65, 12, 29, 5050), (12, 68, 12, 30, 5051), (12, 71, 12, 31, 5052), (12, 74, 12, 32, 5053), (12, 77, 12, 33, 5054), (12, 80, 12, 38, 5059), (12, 83, 12, 39, 5060), (12, 86, 12, 40, 5061), (12, 89, 12, 43, 5064), (12, 92, 12, 44, 5065), (12, 95, 12, 46, 5067), (12, 98, 12, 47, 5068), (12, 101, 12, 48, 5069), (12, 134, 12, 4, 5025), (12, 142, 12, 5, 5026), (12, 145, 12, 6, 5027), (12, 152, 12, 7, 5028), (12, 158, 12, 8, 5029), (12, 165, 12, 10, 5031), (12, 169, 12, 9, 5030), (12, 172, 12, 11, 5032), (12, 219, 12, 12, 5033), (12, 234, 12, 13, 5034), (12, 253, 12, 27, 5048), (12, 273, 12, 35, 5056), (12, 279, 12, 34, 5055), (12, 291, 12, 37, 5058), (12, 300, 12, 36, 5057), (12, 349, 12, 41, 5062), (12, 352, 12, 42, 5063), (12, 365, 12, 45, 5066), (12, 398, 12, 49, 5070)]
def mq_ML : List (Nat × Nat × Nat × Nat) := [(0, 15, 2, 2233), (0, 19, 87, 3039), (0, 25, 89, 3040), (0, 29, 86, 2237), (0, 37, 88, 2238), (0, 41, 3, 2239), (0, 45, 84, 3012), (0, 49, 5, 3016), (0, 52, 109, 3029), (0, 58, 111, 3030), (0, 65, 4, 3035), (0, 69, 6, 3003), (0, 72, 100, 3008), (0, 75, 85, 3020), (0, 81, 112, 3021), (0, 84, 110, 3025), (0, 87, 83, 3007), (1, 34, 118, 4023), (1, 40, 9, 4041), (1, 44, 12, 4054), (1, 48, 13, 4059), (1, 57, 16, 4072), (1, 60, 17, 4077), (1, 63, 14, 4076), (1, 66, 20, 4028), (1, 74, 19, 4045), (1, 77, 260, 4049), (1, 86, 262, 4032), (1, 98, 10, 4033), (1, 107, 21, 4037), (1, 111, 23, 4089), (1, 114, 24, 4093), (1, 118, 25, 4097), (1, 121, 28, 4109), (2, 17, 29, 4189), (2, 21, 30, 4186), (2, 25, 261, 4195), (3, 43, 41, 3098), (3, 58, 42, 3102), (3, 61, 43, 3106), (3, 65, 44, 3110), (4, 19, 35, 2137), (4, 30, 47, 2141), (4, 37, 50, 2150), (4, 40, 85, 2162), (4, 43, 48, 2193), (4, 46, 38, 2205), (4, 50, 87, 2209), (4, 57, 89, 2214), (4, 64, 88, 2145), (4, 68, 83, 2149), (4, 71, 49, 2197), (4, 74, 37, 2201), (4, 77, 36, 2175), (4, 81, 54, 2158), (4, 85, 53, 2154), (4, 88, 51, 2186), (4, 91, 52, 2189), (4, 94, 86, 2167), (4, 97, 55, 2171), (4, 100, 56, 2179), (4, 103, 57, 2183), (5, 23, 102, 3070), (5, 31, 60, 3071), (5, 35, 114, 3075), (5, 44, 260, 3084), (5, 49, 62, 3090), (5, 53, 40, 3094), (5, 57, 61, 3114), (5, 61, 39, 3118), (5, 65, 120, 3131), (5, 69, 63, 3136), (6, 22, 66, 3189), (6, 26, 112, 3193), (6, 32, 119, 3194), (6, 36, 67, 3195), (6, 40, 102, 3207), (6, 48, 68, 3208), (6, 51, 72, 3224), (7, 28, 82, 4152), (7, 37, 76, 4165), (8, 31, 83, 2129), (8, 34, 88, 2166), (8, 38, 85, 2213), (9, 25, 92, 3049), (9, 29, 87, 3060), (9, 35, 89, 3061), (9, 39, 86, 3053), (9, 46, 88, 3054), (9, 50, 83, 3055), (9, 55, 93, 3056), (9, 59, 96, 3235), (9, 63, 114, 3239), (9, 68, 102, 4000), (9, 75, 97, 4001), (10, 28, 262, 1159), (10, 50, 102, 2104), (10, 53, 100, 3160), (10, 56, 109, 2100), (10, 60, 110, 3034), (10, 64, 112, 3083), (10, 68, 113, 3079), (10, 71, 114, 4125), (10, 74, 115, 4138), (10, 77, 260, 3169), (10, 82, 118, 3179), (11, 18, 0, 1062), (11, 55, 98, 1155), (11, 78, 45, 2007), (11, 95, 153, 2092), (11, 100, 108, 2096), (11, 104, 79, 2113), (11, 107, 80, 2117), (11, 115, 81, 2125), (11, 119, 46, 2133), (11, 123, 99, 2222), (11, 127, 1, 2229), (11, 130, 91, 3045), (11, 133, 59, 3066), (11, 140, 100, 3145), (11, 150, 260, 3146), (11, 156, 105, 3147), (11, 166, 114, 3155), (11, 169, 107, 3156), (11, 172, 118, 3165), (11, 176, 102, 3174), (11, 179, 119, 3175), (11, 183, 69, 3184), (11, 193, 70, 3203), (11, 196, 65, 3212), (11, 199, 71, 3220), (11, 202, 94, 3231), (11, 205, 95, 4004), (11, 208, 154, 4012), (11, 211, 101, 4015), (11, 214, 8, 4019), (11, 217, 18, 4024), (11, 221, 11, 4050), (11, 224, 14, 4064), (11, 227, 15, 4068), (11, 230, 22, 4085), (11, 233, 26, 4101), (11, 236, 27, 4105), (11, 239, 106, 4117), (11, 242, 115, 4121), (11, 245, 152, 4130), (11, 248, 116, 4134), (11, 251, 75, 4147), (11, 255, 76, 4157), (11, 258, 77, 4161), (11, 261, 73, 4171), (11, 264, 117, 4179), (11, 268, 33, 4183), (11, 278, 29, 4205), (11, 282, 261, 4206), (11, 286, 32, 4207), (11, 289, 31, 4214), (11, 293, 30, 4221), (11, 306, 82, 5002), (11, 312, 103, 5007), (11, 319, 104, 5011), (12, 104, 157, 5177), (12, 108, 164, 6051), (12, 112, 165, 6063), (12, 115, 160, 6117), (12, 119, 169, 6114), (12, 123, 170, 6110), (12, 126, 162, 6103), (12, 129, 172, 6099), (12, 138, 175, 5185), (12, 148, 178, 5201), (12, 155, 180, 5205), (12, 161, 179, 5222), (12, 175, 185, 6004), (12, 178, 183, 5230), (12, 182, 184, 5217), (12, 185, 182, 5226), (12, 188, 186, 5234), (12, 191, 189, 5213), (12, 194, 187, 5237), (12, 197, 188, 6000), (12, 201, 190, 6008), (12, 204, 191, 5209), (12, 207, 192, 6020), (12, 210, 195, 6016), (12, 213, 193, 6024), (12, 216, 194, 6028), (12, 222, 196, 6012), (12, 225, 198, 5193), (12, 228, 197, 5197), (12, 231, 181, 6032), (12, 237, 200, 6128), (12, 241, 201, 6124), (12, 244, 171, 6106), (12, 247, 168, 6059), (12, 250, 205, 6047), (12, 256, 206, 6055), (12, 259, 207, 6067), (12, 262, 208, 6071), (12, 266, 163, 6040), (12, 270, 209, 6043), (12, 276, 211, 6079), (12, 282, 204, 6095), (12, 285, 202, 6135), (12, 288, 161, 6144), (12, 294, 203, 6120), (12, 297, 213, 6131), (12, 304, 214, 6140), (12, 307, 158, 6147), (12, 310, 159, 6150), (12, 313, 215, 6091), (12, 316, 216, 6087), (12, 319, 218, 6157), (12, 322, 220, 6165), (12, 325, 173, 6173), (12, 328, 224, 6185), (12, 331, 223, 6197), (12, 334, 227, 6198), (12, 337, 229, 6210), (12, 340, 230, 6206), (12, 343, 232, 6234), (12, 346, 234, 6226), (12, 355, 166, 6217), (12, 359, 235, 6222), (12, 362, 233, 6230), (12, 368, 237, 7002), (12, 371, 238, 7006), (12, 374, 240, 7014), (12, 377, 242, 7022), (12, 380, 167, 7026), (12, 383, 177, 7042), (12, 386, 245, 7038), (12, 389, 248, 7054), (12, 392, 249, 7058), (12, 395, 251, 7066), (18, 9, 121, 1021), (18, 12, 156, 5017), (18, 13, 122, 2088), (18, 17, 174, 5173), (18, 18, 123, 2109), (18, 22, 176, 5181), (18, 23, 124, 2121), (18, 27, 199, 5189), (18, 28, 125, 2218), (18, 31, 210, 6036), (18, 32, 126, 3041), (18, 35, 212, 6075), (18, 36, 127, 3062), (18, 39, 217, 6083), (18, 40, 128, 3141), (18, 44, 219, 6153), (18, 45, 129, 3151), (18, 48, 221, 6161), (18, 49, 130, 3161), (18, 52, 222, 6169), (18, 53, 131, 3170), (18, 57, 223, 6177), (18, 58, 132, 3180), (18, 61, 225, 6181), (18, 62, 133, 3199), (18, 65, 226, 6189), (18, 66, 134, 3216), (18, 69, 228, 6193), (18, 70, 135, 3227), (18, 73, 231, 6202), (18, 74, 136, 4008), (18, 77, 236, 6213), (18, 78, 137, 4081), (18, 81, 239, 6238), (18, 82, 138, 4113), (18, 85, 241, 7010), (18, 86, 139, 4126), (18, 89, 243, 7018), (18, 90, 140, 4139), (18, 93, 244, 7030), (18, 94, 141, 4143), (18, 97, 246, 7034), (18, 98, 142, 4167), (18, 101, 247, 7046), (18, 102, 143, 4175), (18, 105, 250, 7050), (18, 106, 144, 4210), (18, 109, 252, 7062), (18, 110, 145, 4217), (18, 113, 253, 7070), (18, 114, 146, 4222), (18, 117, 254, 7074), (18, 118, 147, 4226), (18, 122, 255, 7078), (18, 123, 148, 4230), (18, 126, 256, 7082), (18, 127, 149, 4234), (18, 131, 257, 7086), (18, 132, 150, 4238), (18, 135, 258, 7090), (18, 136, 151, 5003), (18, 139, 259, 7094)]
def mq_NL : List (Nat × Nat × Nat × Nat) := [(3, 54, 155, 3122), (5, 73, 155, 3140), (10, 46, 153, 2108), (11, 9, 78, 1029), (11, 27, 58, 1072), (11, 34, 64, 1087), (11, 41, 7, 1105), (11, 48, 74, 1139), (11, 68, 34, 1200), (11, 87, 90, 2020)]
def mq_OL : List (Nat × Nat × Nat) := [(0, 3, 1065), (1, 3, 1108), (3, 3, 1203), (4, 3, 2010), (5, 3, 1075), (6, 3, 1090), (7, 3, 1142), (8, 3, 1032), (9, 3, 2023), (10, 3, 1158), (11, 1, 1024), (12, 1, 5020)]
def mq_AL : List (Nat × Nat × Nat) := [(10, 34, 2226)]
def mq_XL : List (Nat × Nat × Nat) := [(1, 52, 4063), (2, 31, 4201), (7, 34, 4156), (11, 330, 3128)]
def mq_IL : List (Nat × Nat × Nat) := [(7, 18, 4151), (11, 325, 3125)]
def mq_CL : List (Nat × Nat × Nat × Nat) := [(11, 7, 8, 1027), (11, 16, 0, 1060), (11, 25, 5, 1070), (11, 32, 6, 1085), (11, 39, 1, 1103), (11, 46, 7, 1137), (11, 53, 10, 1153), (11, 66, 3, 1198), (11, 76, 4, 2005), (11, 85, 9, 2018), (18, 7, 11, 1019), (18, 10, 12, 5015)]
def mq_KI : List (Nat × Nat × Int32 × Nat) := [(1, 47, -1000000, 4058), (6, 21, -1000000, 3188), (7, 41, 65535, 4166), (10, 86, 65535, 3135), (11, 99, 65535, 2095), (12, 133, 65535, 5180), (12, 168, 1048576, 5221), (12, 303, 65536, 6139), (12, 358, -1000000, 6221), (13, 265, 1431655765, 3087), (13, 266, 858993459, 3088), (13, 267, 252645135, 3089)]
def mq_KL : List (Nat × Nat × Int64 × Nat) := [(2, 11, -1127000493261826, 4192), (2, 13, -577024252550054401, 4193), (2, 15, 1152921504606846975, 4194), (2, 37, -1, 4202), (11, 274, 1152921504606846975, 4203), (11, 276, -1, 4204), (14, 314, 6148914691236517205, 4198), (14, 316, 3689348814741910323, 4199), (14, 318, 1085102592571150095, 4200)]
def mq_hi (m : Nat) : Nat := (bif Nat.blt m 131 then (bif Nat.blt m 65 then (bif Nat.blt m 32 then (bif Nat.blt m 16 then (bif Nat.blt m 8 then (bif Nat.blt m 4 then (bif Nat.blt m 2 then (bif Nat.blt m 1 then 1003 else 1003) else (bif Nat.blt m 3 then 1003 else 1003)) else (bif Nat.blt m 6 then (bif Nat.blt m 5 then 1003 else 1003) else (bif Nat.blt m 7 then 1003 else 1006))) else (bif Nat.blt m 12 then (bif Nat.blt m 10 then (bif Nat.blt m 9 then 1006 else 1006) else (bif Nat.blt m 11 then 1006 else 1006)) else (bif Nat.blt m 14 then (bif Nat.blt m 13 then 1006 else 1006) else (bif Nat.blt m 15 then 1006 else 1006)))) else (bif Nat.blt m 24 then (bif Nat.blt m 20 then (bif Nat.blt m 18 then (bif Nat.blt m 17 then 1006 else 1006) else (bif Nat.blt m 19 then 1006 else 1006)) else (bif Nat.blt m 22 then (bif Nat.blt m 21 then 1006 else 1006) else (bif Nat.blt m 23 then 1006 else 1006))) else (bif Nat.blt m 28 then (bif Nat.blt m 26 then (bif Nat.blt m 25 then 1006 else 1006) else (bif Nat.blt m 27 then 1006 else 1006)) else (bif Nat.blt m 30 then (bif Nat.blt m 29 then 1006 else 1017) else (bif Nat.blt m 31 then 1017 else 1017))))) else (bif Nat.blt m 48 then (bif Nat.blt m 40 then (bif Nat.blt m 36 then (bif Nat.blt m 34 then (bif Nat.blt m 33 then 1017 else 1017) else (bif Nat.blt m 35 then 1010 else 1010)) else (bif Nat.blt m 38 then (bif Nat.blt m 37 then 1010 else 1010) else (bif Nat.blt m 39 then 1010 else 1010))) else (bif Nat.blt m 44 then (bif Nat.blt m 42 then (bif Nat.blt m 41 then 1010 else 1010) else (bif Nat.blt m 43 then 1010 else 1010)) else (bif Nat.blt m 46 then (bif Nat.blt m 45 then 1010 else 1011) else (bif Nat.blt m 47 then 1011 else 1011)))) else (bif Nat.blt m 56 then (bif Nat.blt m 52 then (bif Nat.blt m 50 then (bif Nat.blt m 49 then 1011 else 1011) else (bif Nat.blt m 51 then 1011 else 1011)) else (bif Nat.blt m 54 then (bif Nat.blt m 53 then 1011 else 1011) else (bif Nat.blt m 55 then 1011 else 1011))) else (bif Nat.blt m 60 then (bif Nat.blt m 58 then (bif Nat.blt m 57 then 1011 else 1011) else (bif Nat.blt m 59 then 1004 else 1004)) else (bif Nat.blt m 62 then (bif Nat.blt m 61 then 1004 else 1004) else (bif Nat.blt m 63 then 1004 else (bif Nat.blt m 64 then 1004 else 1005))))))) else (bif Nat.blt m 98 then (bif Nat.blt m 81 then (bif Nat.blt m 73 then (bif Nat.blt m 69 then (bif Nat.blt m 67 then (bif Nat.blt m 66 then 1005 else 1005) else (bif Nat.blt m 68 then 1005 else 1005)) else (bif Nat.blt m 71 then (bif Nat.blt m 70 then 1005 else 1005) else (bif Nat.blt m 72 then 1005 else 1005))) else (bif Nat.blt m 77 then (bif Nat.blt m 75 then (bif Nat.blt m 74 then 1005 else 1007) else (bif Nat.blt m 76 then 1007 else 1007)) else (bif Nat.blt m 79 then (bif Nat.blt m 78 then 1007 else 1002) else (bif Nat.blt m 80 then 1002 else 1002)))) else (bif Nat.blt m 89 then (bif Nat.blt m 85 then (bif Nat.blt m 83 then (bif Nat.blt m 82 then 1002 else 1002) else (bif Nat.blt m 84 then 1002 else 1002)) else (bif Nat.blt m 87 then (bif Nat.blt m 86 then 1002 else 1002) else (bif Nat.blt m 88 then 1002 else 1002))) else (bif Nat.blt m 93 then (bif Nat.blt m 91 then (bif Nat.blt m 90 then 1002 else 1012) else (bif Nat.blt m 92 then 1012 else 1012)) else (bif Nat.blt m 95 then (bif Nat.blt m 94 then 1012 else 1012) else (bif Nat.blt m 96 then 1012 else (bif Nat.blt m 97 then 1012 else 1012)))))) else (bif Nat.blt m 114 then (bif Nat.blt m 106 then (bif Nat.blt m 102 then (bif Nat.blt m 100 then (bif Nat.blt m 99 then 1008 else 1008) else (bif Nat.blt m 101 then 1008 else 1008)) else (bif Nat.blt m 104 then (bif Nat.blt m 103 then 1008 else 1008) else (bif Nat.blt m 105 then 1008 else 1008))) else (bif Nat.blt m 110 then (bif Nat.blt m 108 then (bif Nat.blt m 107 then 1008 else 1008) else (bif Nat.blt m 109 then 1008 else 1008)) else (bif Nat.blt m 112 then (bif Nat.blt m 111 then 1008 else 1008) else (bif Nat.blt m 113 then 1008 else 1008)))) else (bif Nat.blt m 122 then (bif Nat.blt m 118 then (bif Nat.blt m 116 then (bif Nat.blt m 115 then 1008 else 1008) else (bif Nat.blt m 117 then 1008 else 1008)) else (bif Nat.blt m 120 then (bif Nat.blt m 119 then 1008 else 1008) else (bif Nat.blt m 121 then 1008 else 1001))) else (bif Nat.blt m 126 then (bif Nat.blt m 124 then (bif Nat.blt m 123 then 1001 else 1001) else (bif Nat.blt m 125 then 1001 else 1001)) else (bif Nat.blt m 128 then (bif Nat.blt m 127 then 1001 else 1001) else (bif Nat.blt m 129 then 1001 else (bif Nat.blt m 130 then 1001 else 1001)))))))) else (bif Nat.blt m 197 then (bif Nat.blt m 164 then (bif Nat.blt m 147 then (bif Nat.blt m 139 then (bif Nat.blt m 135 then (bif Nat.blt m 133 then (bif Nat.blt m 132 then 1001 else 1001) else (bif Nat.blt m 134 then 1001 else 1001)) else (bif Nat.blt m 137 then (bif Nat.blt m 136 then 1001 else 1001) else (bif Nat.blt m 138 then 1001 else 1001))) else (bif Nat.blt m 143 then (bif Nat.blt m 141 then (bif Nat.blt m 140 then 1001 else 1001) else (bif Nat.blt m 142 then 1001 else 1001)) else (bif Nat.blt m 145 then (bif Nat.blt m 144 then 1001 else 1001) else (bif Nat.blt m 146 then 1001 else 1001)))) else (bif Nat.blt m 155 then (bif Nat.blt m 151 then (bif Nat.blt m 149 then (bif Nat.blt m 148 then 1001 else 1001) else (bif Nat.blt m 150 then 1001 else 1001)) else (bif Nat.blt m 153 then (bif Nat.blt m 152 then 1001 else 1001) else (bif Nat.blt m 154 then 1001 else 1001))) else (bif Nat.blt m 159 then (bif Nat.blt m 157 then (bif Nat.blt m 156 then 1001 else 1013) else (bif Nat.blt m 158 then 1013 else 1013)) else (bif Nat.blt m 161 then (bif Nat.blt m 160 then 1013 else 1013) else (bif Nat.blt m 162 then 1013 else (bif Nat.blt m 163 then 1013 else 1013)))))) else (bif Nat.blt m 180 then (bif Nat.blt m 172 then (bif Nat.blt m 168 then (bif Nat.blt m 166 then (bif Nat.blt m 165 then 1013 else 1013) else (bif Nat.blt m 167 then 1013 else 1013)) else (bif Nat.blt m 170 then (bif Nat.blt m 169 then 1013 else 1013) else (bif Nat.blt m 171 then 1013 else 1013))) else (bif Nat.blt m 176 then (bif Nat.blt m 174 then (bif Nat.blt m 173 then 1013 else 1013) else (bif Nat.blt m 175 then 1013 else 1013)) else (bif Nat.blt m 178 then (bif Nat.blt m 177 then 1013 else 1013) else (bif Nat.blt m 179 then 1013 else 1013)))) else (bif Nat.blt m 188 then (bif Nat.blt m 184 then (bif Nat.blt m 182 then (bif Nat.blt m 181 then 1013 else 1013) else (bif Nat.blt m 183 then 1013 else 1013)) else (bif Nat.blt m 186 then (bif Nat.blt m 185 then 1013 else 1013) else (bif Nat.blt m 187 then 1013 else 1013))) else (bif Nat.blt m 192 then (bif Nat.blt m 190 then (bif Nat.blt m 189 then 1013 else 1013) else (bif Nat.blt m 191 then 1013 else 1013)) else (bif Nat.blt m 194 then (bif Nat.blt m 193 then 1013 else 1013) else (bif Nat.blt m 195 then 1013 else (bif Nat.blt m 196 then 1013 else 1013))))))) else (bif Nat.blt m 230 then (bif Nat.blt m 213 then (bif Nat.blt m 205 then (bif Nat.blt m 201 then (bif Nat.blt m 199 then (bif Nat.blt m 198 then 1013 else 1013) else (bif Nat.blt m 200 then 1013 else 1013)) else (bif Nat.blt m 203 then (bif Nat.blt m 202 then 1013 else 1013) else (bif Nat.blt m 204 then 1013 else 1013))) else (bif Nat.blt m 209 then (bif Nat.blt m 207 then (bif Nat.blt m 206 then 1013 else 1013) else (bif Nat.blt m 208 then 1013 else 1013)) else (bif Nat.blt m 211 then (bif Nat.blt m 210 then 1013 else 1013) else (bif Nat.blt m 212 then 1013 else 1013)))) else (bif Nat.blt m 221 then (bif Nat.blt m 217 then (bif Nat.blt m 215 then (bif Nat.blt m 214 then 1013 else 1013) else (bif Nat.blt m 216 then 1013 else 1013)) else (bif Nat.blt m 219 then (bif Nat.blt m 218 then 1013 else 1013) else (bif Nat.blt m 220 then 1013 else 1013))) else (bif Nat.blt m 225 then (bif Nat.blt m 223 then (bif Nat.blt m 222 then 1013 else 1013) else (bif Nat.blt m 224 then 1013 else 1013)) else (bif Nat.blt m 227 then (bif Nat.blt m 226 then 1013 else 1013) else (bif Nat.blt m 228 then 1013 else (bif Nat.blt m 229 then 1013 else 1013)))))) else (bif Nat.blt m 246 then (bif Nat.blt m 238 then (bif Nat.blt m 234 then (bif Nat.blt m 232 then (bif Nat.blt m 231 then 1013 else 1013) else (bif Nat.blt m 233 then 1013 else 1013)) else (bif Nat.blt m 236 then (bif Nat.blt m 235 then 1013 else 1013) else (bif Nat.blt m 237 then 1013 else 1013))) else (bif Nat.blt m 242 then (bif Nat.blt m 240 then (bif Nat.blt m 239 then 1013 else 1013) else (bif Nat.blt m 241 then 1013 else 1013)) else (bif Nat.blt m 244 then (bif Nat.blt m 243 then 1013 else 1013) else (bif Nat.blt m 245 then 1013 else 1013)))) else (bif Nat.blt m 254 then (bif Nat.blt m 250 then (bif Nat.blt m 248 then (bif Nat.blt m 247 then 1013 else 1013) else (bif Nat.blt m 249 then 1013 else 1013)) else (bif Nat.blt m 252 then (bif Nat.blt m 251 then 1013 else 1013) else (bif Nat.blt m 253 then 1013 else 1013))) else (bif Nat.blt m 258 then (bif Nat.blt m 256 then (bif Nat.blt m 255 then 1013 else 1013) else (bif Nat.blt m 257 then 1013 else 1013)) else (bif Nat.blt m 260 then (bif Nat.blt m 259 then 1013 else 1013) else (bif Nat.blt m 261 then 1015 else (bif Nat.blt m 262 then 1018 else 1009)))))))))
def mq_hs (m : Nat) : Nat := (bif Nat.blt m 131 then (bif Nat.blt m 65 then (bif Nat.blt m 32 then (bif Nat.blt m 16 then (bif Nat.blt m 8 then (bif Nat.blt m 4 then (bif Nat.blt m 2 then (bif Nat.blt m 1 then 1063 else 2230) else (bif Nat.blt m 3 then 2235 else 3001)) else (bif Nat.blt m 6 then (bif Nat.blt m 5 then 3037 else 3018) else (bif Nat.blt m 7 then 3005 else 1106))) else (bif Nat.blt m 12 then (bif Nat.blt m 10 then (bif Nat.blt m 9 then 4020 else 4043) else (bif Nat.blt m 11 then 4035 else 4051)) else (bif Nat.blt m 14 then (bif Nat.blt m 13 then 4056 else 4061) else (bif Nat.blt m 15 then 4065 else 4069)))) else (bif Nat.blt m 24 then (bif Nat.blt m 20 then (bif Nat.blt m 18 then (bif Nat.blt m 17 then 4074 else 4079) else (bif Nat.blt m 19 then 4025 else 4047)) else (bif Nat.blt m 22 then (bif Nat.blt m 21 then 4030 else 4039) else (bif Nat.blt m 23 then 4086 else 4091))) else (bif Nat.blt m 28 then (bif Nat.blt m 26 then (bif Nat.blt m 25 then 4095 else 4099) else (bif Nat.blt m 27 then 4102 else 4106)) else (bif Nat.blt m 30 then (bif Nat.blt m 29 then 4111 else 4190) else (bif Nat.blt m 31 then 4187 else 4215))))) else (bif Nat.blt m 48 then (bif Nat.blt m 40 then (bif Nat.blt m 36 then (bif Nat.blt m 34 then (bif Nat.blt m 33 then 4208 else 4184) else (bif Nat.blt m 35 then 1201 else 2138)) else (bif Nat.blt m 38 then (bif Nat.blt m 37 then 2176 else 2202) else (bif Nat.blt m 39 then 2206 else 3119))) else (bif Nat.blt m 44 then (bif Nat.blt m 42 then (bif Nat.blt m 41 then 3095 else 3100) else (bif Nat.blt m 43 then 3104 else 3108)) else (bif Nat.blt m 46 then (bif Nat.blt m 45 then 3112 else 2008) else (bif Nat.blt m 47 then 2134 else 2143)))) else (bif Nat.blt m 56 then (bif Nat.blt m 52 then (bif Nat.blt m 50 then (bif Nat.blt m 49 then 2195 else 2199) else (bif Nat.blt m 51 then 2152 else 2187)) else (bif Nat.blt m 54 then (bif Nat.blt m 53 then 2191 else 2156) else (bif Nat.blt m 55 then 2160 else 2173))) else (bif Nat.blt m 60 then (bif Nat.blt m 58 then (bif Nat.blt m 57 then 2181 else 2184) else (bif Nat.blt m 59 then 1073 else 3067)) else (bif Nat.blt m 62 then (bif Nat.blt m 61 then 3073 else 3116) else (bif Nat.blt m 63 then 3092 else (bif Nat.blt m 64 then 3138 else 1088))))))) else (bif Nat.blt m 98 then (bif Nat.blt m 81 then (bif Nat.blt m 73 then (bif Nat.blt m 69 then (bif Nat.blt m 67 then (bif Nat.blt m 66 then 3213 else 3191) else (bif Nat.blt m 68 then 3197 else 3210)) else (bif Nat.blt m 71 then (bif Nat.blt m 70 then 3185 else 3204) else (bif Nat.blt m 72 then 3221 else 3225))) else (bif Nat.blt m 77 then (bif Nat.blt m 75 then (bif Nat.blt m 74 then 4172 else 1140) else (bif Nat.blt m 76 then 4148 else 4158)) else (bif Nat.blt m 79 then (bif Nat.blt m 78 then 4162 else 1030) else (bif Nat.blt m 80 then 2114 else 2118)))) else (bif Nat.blt m 89 then (bif Nat.blt m 85 then (bif Nat.blt m 83 then (bif Nat.blt m 82 then 2126 else 4153) else (bif Nat.blt m 84 then 2130 else 3013)) else (bif Nat.blt m 87 then (bif Nat.blt m 86 then 2163 else 2168) else (bif Nat.blt m 88 then 2210 else 2146))) else (bif Nat.blt m 93 then (bif Nat.blt m 91 then (bif Nat.blt m 90 then 2215 else 2021) else (bif Nat.blt m 92 then 3046 else 3051)) else (bif Nat.blt m 95 then (bif Nat.blt m 94 then 3058 else 3232) else (bif Nat.blt m 96 then 4005 else (bif Nat.blt m 97 then 3237 else 4002)))))) else (bif Nat.blt m 114 then (bif Nat.blt m 106 then (bif Nat.blt m 102 then (bif Nat.blt m 100 then (bif Nat.blt m 99 then 1156 else 2223) else (bif Nat.blt m 101 then 3009 else 4016)) else (bif Nat.blt m 104 then (bif Nat.blt m 103 then 2105 else 5008) else (bif Nat.blt m 105 then 5012 else 3148))) else (bif Nat.blt m 110 then (bif Nat.blt m 108 then (bif Nat.blt m 107 then 4118 else 3157) else (bif Nat.blt m 109 then 2097 else 2101)) else (bif Nat.blt m 112 then (bif Nat.blt m 111 then 3026 else 3031) else (bif Nat.blt m 113 then 3022 else 3080)))) else (bif Nat.blt m 122 then (bif Nat.blt m 118 then (bif Nat.blt m 116 then (bif Nat.blt m 115 then 3076 else 4122) else (bif Nat.blt m 117 then 4135 else 4180)) else (bif Nat.blt m 120 then (bif Nat.blt m 119 then 3166 else 3176) else (bif Nat.blt m 121 then 3132 else 1022))) else (bif Nat.blt m 126 then (bif Nat.blt m 124 then (bif Nat.blt m 123 then 2089 else 2110) else (bif Nat.blt m 125 then 2122 else 2219)) else (bif Nat.blt m 128 then (bif Nat.blt m 127 then 3042 else 3063) else (bif Nat.blt m 129 then 3142 else (bif Nat.blt m 130 then 3152 else 3162)))))))) else (bif Nat.blt m 197 then (bif Nat.blt m 164 then (bif Nat.blt m 147 then (bif Nat.blt m 139 then (bif Nat.blt m 135 then (bif Nat.blt m 133 then (bif Nat.blt m 132 then 3171 else 3181) else (bif Nat.blt m 134 then 3200 else 3217)) else (bif Nat.blt m 137 then (bif Nat.blt m 136 then 3228 else 4009) else (bif Nat.blt m 138 then 4082 else 4114))) else (bif Nat.blt m 143 then (bif Nat.blt m 141 then (bif Nat.blt m 140 then 4127 else 4140) else (bif Nat.blt m 142 then 4144 else 4168)) else (bif Nat.blt m 145 then (bif Nat.blt m 144 then 4176 else 4211) else (bif Nat.blt m 146 then 4218 else 4223)))) else (bif Nat.blt m 155 then (bif Nat.blt m 151 then (bif Nat.blt m 149 then (bif Nat.blt m 148 then 4227 else 4231) else (bif Nat.blt m 150 then 4235 else 4239)) else (bif Nat.blt m 153 then (bif Nat.blt m 152 then 5004 else 4132) else (bif Nat.blt m 154 then 2093 else 4013))) else (bif Nat.blt m 159 then (bif Nat.blt m 157 then (bif Nat.blt m 156 then 3123 else 5018) else (bif Nat.blt m 158 then 5178 else 6148)) else (bif Nat.blt m 161 then (bif Nat.blt m 160 then 6151 else 6118) else (bif Nat.blt m 162 then 6145 else (bif Nat.blt m 163 then 6104 else 6041)))))) else (bif Nat.blt m 180 then (bif Nat.blt m 172 then (bif Nat.blt m 168 then (bif Nat.blt m 166 then (bif Nat.blt m 165 then 6053 else 6065) else (bif Nat.blt m 167 then 6219 else 7028)) else (bif Nat.blt m 170 then (bif Nat.blt m 169 then 6061 else 6115) else (bif Nat.blt m 171 then 6112 else 6108))) else (bif Nat.blt m 176 then (bif Nat.blt m 174 then (bif Nat.blt m 173 then 6101 else 6175) else (bif Nat.blt m 175 then 5174 else 5187)) else (bif Nat.blt m 178 then (bif Nat.blt m 177 then 5182 else 7044) else (bif Nat.blt m 179 then 5203 else 5224)))) else (bif Nat.blt m 188 then (bif Nat.blt m 184 then (bif Nat.blt m 182 then (bif Nat.blt m 181 then 5207 else 6034) else (bif Nat.blt m 183 then 5228 else 5232)) else (bif Nat.blt m 186 then (bif Nat.blt m 185 then 5219 else 6006) else (bif Nat.blt m 187 then 5235 else 5238))) else (bif Nat.blt m 192 then (bif Nat.blt m 190 then (bif Nat.blt m 189 then 6002 else 5215) else (bif Nat.blt m 191 then 6010 else 5211)) else (bif Nat.blt m 194 then (bif Nat.blt m 193 then 6022 else 6026) else (bif Nat.blt m 195 then 6030 else (bif Nat.blt m 196 then 6018 else 6014))))))) else (bif Nat.blt m 230 then (bif Nat.blt m 213 then (bif Nat.blt m 205 then (bif Nat.blt m 201 then (bif Nat.blt m 199 then (bif Nat.blt m 198 then 5199 else 5195) else (bif Nat.blt m 200 then 5190 else 6129)) else (bif Nat.blt m 203 then (bif Nat.blt m 202 then 6126 else 6137) else (bif Nat.blt m 204 then 6122 else 6097))) else (bif Nat.blt m 209 then (bif Nat.blt m 207 then (bif Nat.blt m 206 then 6049 else 6057) else (bif Nat.blt m 208 then 6069 else 6073)) else (bif Nat.blt m 211 then (bif Nat.blt m 210 then 6045 else 6037) else (bif Nat.blt m 212 then 6081 else 6076)))) else (bif Nat.blt m 221 then (bif Nat.blt m 217 then (bif Nat.blt m 215 then (bif Nat.blt m 214 then 6133 else 6142) else (bif Nat.blt m 216 then 6093 else 6089)) else (bif Nat.blt m 219 then (bif Nat.blt m 218 then 6084 else 6159) else (bif Nat.blt m 220 then 6154 else 6167))) else (bif Nat.blt m 225 then (bif Nat.blt m 223 then (bif Nat.blt m 222 then 6162 else 6170) else (bif Nat.blt m 224 then 6178 else 6187)) else (bif Nat.blt m 227 then (bif Nat.blt m 226 then 6182 else 6190) else (bif Nat.blt m 228 then 6200 else (bif Nat.blt m 229 then 6194 else 6211)))))) else (bif Nat.blt m 246 then (bif Nat.blt m 238 then (bif Nat.blt m 234 then (bif Nat.blt m 232 then (bif Nat.blt m 231 then 6208 else 6203) else (bif Nat.blt m 233 then 6236 else 6232)) else (bif Nat.blt m 236 then (bif Nat.blt m 235 then 6228 else 6224) else (bif Nat.blt m 237 then 6214 else 7004))) else (bif Nat.blt m 242 then (bif Nat.blt m 240 then (bif Nat.blt m 239 then 7008 else 6239) else (bif Nat.blt m 241 then 7016 else 7011)) else (bif Nat.blt m 244 then (bif Nat.blt m 243 then 7024 else 7019) else (bif Nat.blt m 245 then 7031 else 7040)))) else (bif Nat.blt m 254 then (bif Nat.blt m 250 then (bif Nat.blt m 248 then (bif Nat.blt m 247 then 7035 else 7047) else (bif Nat.blt m 249 then 7056 else 7060)) else (bif Nat.blt m 252 then (bif Nat.blt m 251 then 7051 else 7068) else (bif Nat.blt m 253 then 7063 else 7071))) else (bif Nat.blt m 258 then (bif Nat.blt m 256 then (bif Nat.blt m 255 then 7075 else 7079) else (bif Nat.blt m 257 then 7083 else 7087)) else (bif Nat.blt m 260 then (bif Nat.blt m 259 then 7091 else 7095) else (bif Nat.blt m 261 then 3085 else (bif Nat.blt m 262 then 4196 else 1160)))))))))
def mq_hv (m : Nat) : Nat := (bif Nat.blt m 131 then (bif Nat.blt m 65 then (bif Nat.blt m 32 then (bif Nat.blt m 16 then (bif Nat.blt m 8 then (bif Nat.blt m 4 then (bif Nat.blt m 2 then (bif Nat.blt m 1 then 0 else 2231) else (bif Nat.blt m 3 then 9 else 10)) else (bif Nat.blt m 6 then (bif Nat.blt m 5 then 13 else 12) else (bif Nat.blt m 7 then 11 else 0))) else (bif Nat.blt m 12 then (bif Nat.blt m 10 then (bif Nat.blt m 9 then 4021 else 31) else (bif Nat.blt m 11 then 29 else 4052)) else (bif Nat.blt m 14 then (bif Nat.blt m 13 then 33 else 34) else (bif Nat.blt m 15 then 4066 else 4070)))) else (bif Nat.blt m 24 then (bif Nat.blt m 20 then (bif Nat.blt m 18 then (bif Nat.blt m 17 then 35 else 36) else (bif Nat.blt m 19 then 4026 else 32)) else (bif Nat.blt m 22 then (bif Nat.blt m 21 then 28 else 30) else (bif Nat.blt m 23 then 4087 else 37))) else (bif Nat.blt m 28 then (bif Nat.blt m 26 then (bif Nat.blt m 25 then 38 else 39) else (bif Nat.blt m 27 then 4103 else 4107)) else (bif Nat.blt m 30 then (bif Nat.blt m 29 then 40 else 0) else (bif Nat.blt m 31 then 0 else 0))))) else (bif Nat.blt m 48 then (bif Nat.blt m 40 then (bif Nat.blt m 36 then (bif Nat.blt m 34 then (bif Nat.blt m 33 then 0 else 0) else (bif Nat.blt m 35 then 0 else 2139)) else (bif Nat.blt m 38 then (bif Nat.blt m 37 then 2177 else 2203) else (bif Nat.blt m 39 then 2207 else 3120))) else (bif Nat.blt m 44 then (bif Nat.blt m 42 then (bif Nat.blt m 41 then 3096 else 18) else (bif Nat.blt m 43 then 19 else 20)) else (bif Nat.blt m 46 then (bif Nat.blt m 45 then 21 else 0) else (bif Nat.blt m 47 then 2135 else 0)))) else (bif Nat.blt m 56 then (bif Nat.blt m 52 then (bif Nat.blt m 50 then (bif Nat.blt m 49 then 7 else 8) else (bif Nat.blt m 51 then 1 else 0)) else (bif Nat.blt m 54 then (bif Nat.blt m 53 then 6 else 2) else (bif Nat.blt m 55 then 3 else 4))) else (bif Nat.blt m 60 then (bif Nat.blt m 58 then (bif Nat.blt m 57 then 5 else 0) else (bif Nat.blt m 59 then 0 else 3068)) else (bif Nat.blt m 62 then (bif Nat.blt m 61 then 16 else 22) else (bif Nat.blt m 63 then 17 else (bif Nat.blt m 64 then 23 else 0))))))) else (bif Nat.blt m 98 then (bif Nat.blt m 81 then (bif Nat.blt m 73 then (bif Nat.blt m 69 then (bif Nat.blt m 67 then (bif Nat.blt m 66 then 3214 else 24) else (bif Nat.blt m 68 then 25 else 26)) else (bif Nat.blt m 71 then (bif Nat.blt m 70 then 3186 else 3205) else (bif Nat.blt m 72 then 3222 else 0))) else (bif Nat.blt m 77 then (bif Nat.blt m 75 then (bif Nat.blt m 74 then 4173 else 0) else (bif Nat.blt m 76 then 4149 else 4159)) else (bif Nat.blt m 79 then (bif Nat.blt m 78 then 4163 else 0) else (bif Nat.blt m 80 then 2115 else 2119)))) else (bif Nat.blt m 89 then (bif Nat.blt m 85 then (bif Nat.blt m 83 then (bif Nat.blt m 82 then 2127 else 4154) else (bif Nat.blt m 84 then 2131 else 3014)) else (bif Nat.blt m 87 then (bif Nat.blt m 86 then 2164 else 2169) else (bif Nat.blt m 88 then 2211 else 2147))) else (bif Nat.blt m 93 then (bif Nat.blt m 91 then (bif Nat.blt m 90 then 2216 else 0) else (bif Nat.blt m 92 then 3047 else 14)) else (bif Nat.blt m 95 then (bif Nat.blt m 94 then 15 else 3233) else (bif Nat.blt m 96 then 4006 else (bif Nat.blt m 97 then 27 else 0)))))) else (bif Nat.blt m 114 then (bif Nat.blt m 106 then (bif Nat.blt m 102 then (bif Nat.blt m 100 then (bif Nat.blt m 99 then 0 else 2224) else (bif Nat.blt m 101 then 3010 else 4017)) else (bif Nat.blt m 104 then (bif Nat.blt m 103 then 2106 else 5009) else (bif Nat.blt m 105 then 5013 else 3149))) else (bif Nat.blt m 110 then (bif Nat.blt m 108 then (bif Nat.blt m 107 then 4119 else 3158) else (bif Nat.blt m 109 then 2098 else 2102)) else (bif Nat.blt m 112 then (bif Nat.blt m 111 then 3027 else 3032) else (bif Nat.blt m 113 then 3023 else 3081)))) else (bif Nat.blt m 122 then (bif Nat.blt m 118 then (bif Nat.blt m 116 then (bif Nat.blt m 115 then 3077 else 4123) else (bif Nat.blt m 117 then 4136 else 4181)) else (bif Nat.blt m 120 then (bif Nat.blt m 119 then 3167 else 3177) else (bif Nat.blt m 121 then 3133 else 0))) else (bif Nat.blt m 126 then (bif Nat.blt m 124 then (bif Nat.blt m 123 then 2090 else 2111) else (bif Nat.blt m 125 then 2123 else 2220)) else (bif Nat.blt m 128 then (bif Nat.blt m 127 then 3043 else 3064) else (bif Nat.blt m 129 then 3143 else (bif Nat.blt m 130 then 3153 else 3163)))))))) else (bif Nat.blt m 197 then (bif Nat.blt m 164 then (bif Nat.blt m 147 then (bif Nat.blt m 139 then (bif Nat.blt m 135 then (bif Nat.blt m 133 then (bif Nat.blt m 132 then 3172 else 3182) else (bif Nat.blt m 134 then 3201 else 3218)) else (bif Nat.blt m 137 then (bif Nat.blt m 136 then 3229 else 4010) else (bif Nat.blt m 138 then 4083 else 4115))) else (bif Nat.blt m 143 then (bif Nat.blt m 141 then (bif Nat.blt m 140 then 4128 else 4141) else (bif Nat.blt m 142 then 4145 else 4169)) else (bif Nat.blt m 145 then (bif Nat.blt m 144 then 4177 else 4212) else (bif Nat.blt m 146 then 4219 else 4224)))) else (bif Nat.blt m 155 then (bif Nat.blt m 151 then (bif Nat.blt m 149 then (bif Nat.blt m 148 then 4228 else 4232) else (bif Nat.blt m 150 then 4236 else 5000)) else (bif Nat.blt m 153 then (bif Nat.blt m 152 then 5005 else 41) else (bif Nat.blt m 154 then 0 else 0))) else (bif Nat.blt m 159 then (bif Nat.blt m 157 then (bif Nat.blt m 156 then 0 else 0) else (bif Nat.blt m 158 then 0 else 0)) else (bif Nat.blt m 161 then (bif Nat.blt m 160 then 0 else 0) else (bif Nat.blt m 162 then 0 else (bif Nat.blt m 163 then 0 else 0)))))) else (bif Nat.blt m 180 then (bif Nat.blt m 172 then (bif Nat.blt m 168 then (bif Nat.blt m 166 then (bif Nat.blt m 165 then 64 else 67) else (bif Nat.blt m 167 then 88 else 97)) else (bif Nat.blt m 170 then (bif Nat.blt m 169 then 66 else 0) else (bif Nat.blt m 171 then 76 else 75))) else (bif Nat.blt m 176 then (bif Nat.blt m 174 then (bif Nat.blt m 173 then 74 else 84) else (bif Nat.blt m 175 then 5175 else 42)) else (bif Nat.blt m 178 then (bif Nat.blt m 177 then 5183 else 99) else (bif Nat.blt m 179 then 45 else 50)))) else (bif Nat.blt m 188 then (bif Nat.blt m 184 then (bif Nat.blt m 182 then (bif Nat.blt m 181 then 46 else 61) else (bif Nat.blt m 183 then 51 else 52)) else (bif Nat.blt m 186 then (bif Nat.blt m 185 then 49 else 54) else (bif Nat.blt m 187 then 0 else 0))) else (bif Nat.blt m 192 then (bif Nat.blt m 190 then (bif Nat.blt m 189 then 53 else 48) else (bif Nat.blt m 191 then 55 else 47)) else (bif Nat.blt m 194 then (bif Nat.blt m 193 then 58 else 59) else (bif Nat.blt m 195 then 60 else (bif Nat.blt m 196 then 57 else 56))))))) else (bif Nat.blt m 230 then (bif Nat.blt m 213 then (bif Nat.blt m 205 then (bif Nat.blt m 201 then (bif Nat.blt m 199 then (bif Nat.blt m 198 then 44 else 43) else (bif Nat.blt m 200 then 5191 else 0)) else (bif Nat.blt m 203 then (bif Nat.blt m 202 then 78 else 80) else (bif Nat.blt m 204 then 77 else 73))) else (bif Nat.blt m 209 then (bif Nat.blt m 207 then (bif Nat.blt m 206 then 63 else 65) else (bif Nat.blt m 208 then 68 else 69)) else (bif Nat.blt m 211 then (bif Nat.blt m 210 then 62 else 6038) else (bif Nat.blt m 212 then 70 else 6077)))) else (bif Nat.blt m 221 then (bif Nat.blt m 217 then (bif Nat.blt m 215 then (bif Nat.blt m 214 then 79 else 81) else (bif Nat.blt m 216 then 72 else 71)) else (bif Nat.blt m 219 then (bif Nat.blt m 218 then 6085 else 82) else (bif Nat.blt m 220 then 6155 else 83))) else (bif Nat.blt m 225 then (bif Nat.blt m 223 then (bif Nat.blt m 222 then 6163 else 6171) else (bif Nat.blt m 224 then 6179 else 85)) else (bif Nat.blt m 227 then (bif Nat.blt m 226 then 6183 else 6191) else (bif Nat.blt m 228 then 86 else (bif Nat.blt m 229 then 6195 else 0)))))) else (bif Nat.blt m 246 then (bif Nat.blt m 238 then (bif Nat.blt m 234 then (bif Nat.blt m 232 then (bif Nat.blt m 231 then 87 else 6204) else (bif Nat.blt m 233 then 92 else 91)) else (bif Nat.blt m 236 then (bif Nat.blt m 235 then 90 else 89) else (bif Nat.blt m 237 then 6215 else 93))) else (bif Nat.blt m 242 then (bif Nat.blt m 240 then (bif Nat.blt m 239 then 94 else 7000) else (bif Nat.blt m 241 then 95 else 7012)) else (bif Nat.blt m 244 then (bif Nat.blt m 243 then 96 else 7020) else (bif Nat.blt m 245 then 7032 else 98)))) else (bif Nat.blt m 254 then (bif Nat.blt m 250 then (bif Nat.blt m 248 then (bif Nat.blt m 247 then 7036 else 7048) else (bif Nat.blt m 249 then 100 else 101)) else (bif Nat.blt m 252 then (bif Nat.blt m 251 then 7052 else 102) else (bif Nat.blt m 253 then 7064 else 7072))) else (bif Nat.blt m 258 then (bif Nat.blt m 256 then (bif Nat.blt m 255 then 7076 else 7080) else (bif Nat.blt m 257 then 7084 else 7088)) else (bif Nat.blt m 260 then (bif Nat.blt m 259 then 7092 else 7096) else (bif Nat.blt m 261 then 0 else (bif Nat.blt m 262 then 0 else 0)))))))))
end
section
/-! every word that the tables above speak of is a word of the tables -/
abbrev mq_tb : List Cond := lw_tbl.filter goodWord
theorem mq_wd_in {h : Nat} {w : Cond} (e : mq_wd h = some w) : w ∈ lw_tbl := by
  have e1 := List.mem_of_getElem? e
  unfold mq_pt at e1
  unfold lw_tbl tables_1
  simp only [cond_eq_ite] at e1
  (repeat' split at e1) <;> simp only [List.mem_append, e1, true_or, or_true]
theorem mq_wd_tb {h : Nat} {w : Cond} (e : mq_wd h = some w) (g : goodWord w = true) : w ∈ mq_tb := List.mem_filter.mpr ⟨mq_wd_in e, g⟩
theorem mq_tb_good : GoodIn mq_tb mq_tb := fun w hw => ⟨hw, good_of_word (List.mem_filter.mp hw).2⟩
set_option maxRecDepth 100000 in
theorem mq_FL_h : ∀ r ∈ mq_FL, mq_wd r.2.2.2.2 = some (Cond.fieldLink (mq_cn r.1) r.2.1 (mq_T r.2.2.1 r.2.2.2.1).1 (mq_T r.2.2.1 r.2.2.2.1).2.1 (mq_T r.2.2.1 r.2.2.2.1).2.2.1) := by decide +kernel
set_option maxRecDepth 100000 in
theorem mq_ML_h : ∀ r ∈ mq_ML, mq_wd r.2.2.2 = some (Cond.methodLink (mq_cn r.1) r.2.1 (mq_y r.2.2.1)) := by decide +kernel
set_option maxRecDepth 100000 in
theorem mq_NL_h : ∀ r ∈ mq_NL, mq_wd r.2.2.2 = some (Cond.methodLinkNest (mq_cn r.1) r.2.1 (mq_y r.2.2.1) "TalkingPlots") := by decide +kernel
set_option maxRecDepth 100000 in
theorem mq_OL_h : ∀ r ∈ mq_OL, mq_wd r.2.2 = some (Cond.methodLink (mq_cn r.1) r.2.1 objectInit) := by decide +kernel
set_option maxRecDepth 100000 in
theorem mq_AL_h : ∀ r ∈ mq_AL, mq_wd r.2.2 = some (Cond.methodLink (mq_cn r.1) r.2.1 arraycopyName) := by decide +kernel
set_option maxRecDepth 100000 in
theorem mq_XL_h : ∀ r ∈ mq_XL, mq_wd r.2.2 = some (Cond.methodLink (mq_cn r.1) r.2.1 Lib.Math.max.name) := by decide +kernel
set_option maxRecDepth 100000 in
theorem mq_IL_h : ∀ r ∈ mq_IL, mq_wd r.2.2 = some (Cond.methodLink (mq_cn r.1) r.2.1 Lib.Math.min.name) := by decide +kernel
set_option maxRecDepth 100000 in
theorem mq_CL_h : ∀ r ∈ mq_CL, mq_wd r.2.2.2 = some (Cond.classLink (mq_cn r.1) r.2.1 (mq_cn r.2.2.1)) := by decide +kernel
set_option maxRecDepth 100000 in
theorem mq_KI_h : ∀ r ∈ mq_KI, mq_wd r.2.2.2 = some (Cond.constant (mq_cn r.1) r.2.1 r.2.2.1) := by decide +kernel
set_option maxRecDepth 100000 in
theorem mq_KL_h : ∀ r ∈ mq_KL, mq_wd r.2.2.2 = some (Cond.constantLong (mq_cn r.1) r.2.1 r.2.2.1) := by decide +kernel
set_option maxRecDepth 100000 in
theorem mq_oth_ok : Cond.instanceMethod objectInit ∈ mq_tb ∧ Cond.native arraycopyName ∈ mq_tb ∧ Cond.static arraycopyName ∈ mq_tb ∧ Cond.initialized "java/lang/System" ∈ mq_tb ∧ Cond.arrayClass .int ∈ mq_tb ∧ Cond.arrayClass .byte ∈ mq_tb ∧ Cond.static Lib.Math.max.name ∈ mq_tb ∧ Cond.static Lib.Math.min.name ∈ mq_tb ∧ Cond.initialized "java/lang/Math" ∈ mq_tb := by decide +kernel
set_option maxRecDepth 100000 in
theorem mq_oc_h : mq_wd 1026 = some (Cond.code objectInit ⟨#[0xb1]⟩ 1 none) := rfl
set_option maxRecDepth 100000 in
theorem mq_xc_h : mq_wd 3130 = some (Cond.code Lib.Math.max.name Lib.Math.max.code 2 (some .int)) := rfl
set_option maxRecDepth 100000 in
theorem mq_ic_h : mq_wd 3127 = some (Cond.code Lib.Math.min.name Lib.Math.min.code 2 (some .int)) := rfl
set_option maxRecDepth 100000 in
theorem mq_cl_ok : ∀ ci, ci < 13 → ci ≠ 2 → Cond.instantiable (mq_cn ci) (mq_N ci) ∈ mq_tb ∧ Cond.initialized (mq_cn ci) ∈ mq_tb ∧ ∀ w ∈ u_ws (mq_cn ci) (mq_T ci) (mq_N ci), w ∈ mq_tb := by decide +kernel
set_option maxRecDepth 100000 in
theorem mq_nm_ok : ∀ ci, ci < 13 → ∀ a, a < mq_N ci → ∀ b, b < mq_N ci → a ≠ b → (mq_T ci a).2.1 ≠ (mq_T ci b).2.1 := by decide +kernel
set_option maxRecDepth 100000 in
theorem mq_ty_ok : ∀ ci, ci < 13 → ∀ k, k < mq_N ci → parseFieldDescriptor (mq_T ci k).2.2.1 = some (mq_ty ci k) := by decide +kernel
set_option maxRecDepth 100000 in
theorem mq_df_ok : ∀ ci, ci < 13 → (mq_df ci).length = mq_N ci ∧ ∀ k, k < mq_N ci → defaultValue (mq_ty ci k) = vp_V (mq_df ci) k := by decide +kernel
set_option maxRecDepth 100000 in
theorem mq_m_ok : ∀ m, m < 263 → mq_wd (mq_hi m) = some (Cond.initialized (mq_y m).cls) ∧ Jvm.plainName (mq_y m).cls = true ∧ ((mq_y m).cls ≠ "java/lang/invoke/MethodHandle" ∧ (mq_y m).cls ≠ "java/lang/invoke/VarHandle" ∧ (parseMethodDescriptor (mq_y m).desc).map (fun d => d.parameters.length) = some (mq_np m)) := by decide +kernel
set_option maxRecDepth 100000 in
theorem mq_ms_ok : ∀ m, m < 263 → (mq_kd m = 0 → mq_wd (mq_hs m) = some (Cond.static (mq_y m))) ∧ (mq_kd m = 1 → (mq_y m).name = "<init>" ∧ mq_wd (mq_hs m) = some (Cond.instanceMethod (mq_y m)) ∧ mq_rt m = none) ∧ (mq_kd m = 2 → mq_wd (mq_hs m) = some (Cond.instanceMethod (mq_y m)) ∧ mq_wd (mq_hv m) = some (Cond.selects (mq_y m).cls (mq_y m) (mq_y m))) := by decide +kernel
end
section
theorem mq_lf {P : Nat → Prop} {m k : Nat} (h1 : ¬ m < k) (h2 : m < k + 1) (h : P k) : P m := by
  have e : m = k := by omega
  subst e; exact h
def mq_cwd (m : Nat) : Prop := ∃ h, mq_wd h = some (Cond.code (mq_y m) (mq_b m) (mq_ml m) (mq_rt m))
set_option maxRecDepth 100000 in
theorem mq_cw0 : mq_cwd 0 := ⟨1064, rfl⟩
set_option maxRecDepth 100000 in
theorem mq_cw1 : mq_cwd 1 := ⟨2232, rfl⟩
set_option maxRecDepth 100000 in
theorem mq_cw2 : mq_cwd 2 := ⟨2236, rfl⟩
set_option maxRecDepth 100000 in
theorem mq_cw3 : mq_cwd 3 := ⟨3002, rfl⟩
set_option maxRecDepth 100000 in
theorem mq_cw4 : mq_cwd 4 := ⟨3038, rfl⟩
set_option maxRecDepth 100000 in
theorem mq_cw5 : mq_cwd 5 := ⟨3019, rfl⟩
set_option maxRecDepth 100000 in
theorem mq_cw6 : mq_cwd 6 := ⟨3006, rfl⟩
set_option maxRecDepth 100000 in
theorem mq_cw7 : mq_cwd 7 := ⟨1107, rfl⟩
set_option maxRecDepth 100000 in
theorem mq_cw8 : mq_cwd 8 := ⟨4022, rfl⟩
set_option maxRecDepth 100000 in
theorem mq_cw9 : mq_cwd 9 := ⟨4044, rfl⟩
set_option maxRecDepth 100000 in
theorem mq_cw10 : mq_cwd 10 := ⟨4036, rfl⟩
set_option maxRecDepth 100000 in
theorem mq_cw11 : mq_cwd 11 := ⟨4053, rfl⟩
set_option maxRecDepth 100000 in
theorem mq_cw12 : mq_cwd 12 := ⟨4057, rfl⟩
set_option maxRecDepth 100000 in
theorem mq_cw13 : mq_cwd 13 := ⟨4062, rfl⟩
set_option maxRecDepth 100000 in
theorem mq_cw14 : mq_cwd 14 := ⟨4067, rfl⟩
set_option maxRecDepth 100000 in
theorem mq_cw15 : mq_cwd 15 := ⟨4071, rfl⟩
set_option maxRecDepth 100000 in
theorem mq_cw16 : mq_cwd 16 := ⟨4075, rfl⟩
set_option maxRecDepth 100000 in
theorem mq_cw17 : mq_cwd 17 := ⟨4080, rfl⟩
set_option maxRecDepth 100000 in
theorem mq_cw18 : mq_cwd 18 := ⟨4027, rfl⟩
set_option maxRecDepth 100000 in
theorem mq_cw19 : mq_cwd 19 := ⟨4048, rfl⟩
set_option maxRecDepth 100000 in
theorem mq_cw20 : mq_cwd 20 := ⟨4031, rfl⟩
set_option maxRecDepth 100000 in
theorem mq_cw21 : mq_cwd 21 := ⟨4040, rfl⟩
set_option maxRecDepth 100000 in
theorem mq_cw22 : mq_cwd 22 := ⟨4088, rfl⟩
set_option maxRecDepth 100000 in
theorem mq_cw23 : mq_cwd 23 := ⟨4092, rfl⟩
set_option maxRecDepth 100000 in
theorem mq_cw24 : mq_cwd 24 := ⟨4096, rfl⟩
set_option maxRecDepth 100000 in
theorem mq_cw25 : mq_cwd 25 := ⟨4100, rfl⟩
set_option maxRecDepth 100000 in
theorem mq_cw26 : mq_cwd 26 := ⟨4104, rfl⟩
set_option maxRecDepth 100000 in
theorem mq_cw27 : mq_cwd 27 := ⟨4108, rfl⟩
set_option maxRecDepth 100000 in
theorem mq_cw28 : mq_cwd 28 := ⟨4112, rfl⟩
set_option maxRecDepth 100000 in
theorem mq_cw29 : mq_cwd 29 := ⟨4191, rfl⟩
set_option maxRecDepth 100000 in
theorem mq_cw30 : mq_cwd 30 := ⟨4188, rfl⟩
set_option maxRecDepth 100000 in
theorem mq_cw31 : mq_cwd 31 := ⟨4216, rfl⟩
set_option maxRecDepth 100000 in
theorem mq_cw32 : mq_cwd 32 := ⟨4209, rfl⟩
set_option maxRecDepth 100000 in
theorem mq_cw33 : mq_cwd 33 := ⟨4185, rfl⟩
set_option maxRecDepth 100000 in
theorem mq_cw34 : mq_cwd 34 := ⟨1202, rfl⟩
set_option maxRecDepth 100000 in
theorem mq_cw35 : mq_cwd 35 := ⟨2140, rfl⟩
set_option maxRecDepth 100000 in
theorem mq_cw36 : mq_cwd 36 := ⟨2178, rfl⟩
set_option maxRecDepth 100000 in
theorem mq_cw37 : mq_cwd 37 := ⟨2204, rfl⟩
set_option maxRecDepth 100000 in
theorem mq_cw38 : mq_cwd 38 := ⟨2208, rfl⟩
set_option maxRecDepth 100000 in
theorem mq_cw39 : mq_cwd 39 := ⟨3121, rfl⟩
set_option maxRecDepth 100000 in
theorem mq_cw40 : mq_cwd 40 := ⟨3097, rfl⟩
set_option maxRecDepth 100000 in
theorem mq_cw41 : mq_cwd 41 := ⟨3101, rfl⟩
set_option maxRecDepth 100000 in
theorem mq_cw42 : mq_cwd 42 := ⟨3105, rfl⟩
set_option maxRecDepth 100000 in
theorem mq_cw43 : mq_cwd 43 := ⟨3109, rfl⟩
set_option maxRecDepth 100000 in
theorem mq_cw44 : mq_cwd 44 := ⟨3113, rfl⟩
set_option maxRecDepth 100000 in
theorem mq_cw45 : mq_cwd 45 := ⟨2009, rfl⟩
set_option maxRecDepth 100000 in
theorem mq_cw46 : mq_cwd 46 := ⟨2136, rfl⟩
set_option maxRecDepth 100000 in
theorem mq_cw47 : mq_cwd 47 := ⟨2144, rfl⟩
set_option maxRecDepth 100000 in
theorem mq_cw48 : mq_cwd 48 := ⟨2196, rfl⟩
set_option maxRecDepth 100000 in
theorem mq_cw49 : mq_cwd 49 := ⟨2200, rfl⟩
set_option maxRecDepth 100000 in
theorem mq_cw50 : mq_cwd 50 := ⟨2153, rfl⟩
set_option maxRecDepth 100000 in
theorem mq_cw51 : mq_cwd 51 := ⟨2188, rfl⟩
set_option maxRecDepth 100000 in
theorem mq_cw52 : mq_cwd 52 := ⟨2192, rfl⟩
set_option maxRecDepth 100000 in
theorem mq_cw53 : mq_cwd 53 := ⟨2157, rfl⟩
set_option maxRecDepth 100000 in
theorem mq_cw54 : mq_cwd 54 := ⟨2161, rfl⟩
set_option maxRecDepth 100000 in
theorem mq_cw55 : mq_cwd 55 := ⟨2174, rfl⟩
set_option maxRecDepth 100000 in
theorem mq_cw56 : mq_cwd 56 := ⟨2182, rfl⟩
set_option maxRecDepth 100000 in
theorem mq_cw57 : mq_cwd 57 := ⟨2185, rfl⟩
set_option maxRecDepth 100000 in
theorem mq_cw58 : mq_cwd 58 := ⟨1074, rfl⟩
set_option maxRecDepth 100000 in
theorem mq_cw59 : mq_cwd 59 := ⟨3069, rfl⟩
set_option maxRecDepth 100000 in
theorem mq_cw60 : mq_cwd 60 := ⟨3074, rfl⟩
set_option maxRecDepth 100000 in
theorem mq_cw61 : mq_cwd 61 := ⟨3117, rfl⟩
set_option maxRecDepth 100000 in
theorem mq_cw62 : mq_cwd 62 := ⟨3093, rfl⟩
set_option maxRecDepth 100000 in
theorem mq_cw63 : mq_cwd 63 := ⟨3139, rfl⟩
set_option maxRecDepth 100000 in
theorem mq_cw64 : mq_cwd 64 := ⟨1089, rfl⟩
set_option maxRecDepth 100000 in
theorem mq_cw65 : mq_cwd 65 := ⟨3215, rfl⟩
set_option maxRecDepth 100000 in
theorem mq_cw66 : mq_cwd 66 := ⟨3192, rfl⟩
set_option maxRecDepth 100000 in
theorem mq_cw67 : mq_cwd 67 := ⟨3198, rfl⟩
set_option maxRecDepth 100000 in
theorem mq_cw68 : mq_cwd 68 := ⟨3211, rfl⟩
set_option maxRecDepth 100000 in
theorem mq_cw69 : mq_cwd 69 := ⟨3187, rfl⟩
set_option maxRecDepth 100000 in
theorem mq_cw70 : mq_cwd 70 := ⟨3206, rfl⟩
set_option maxRecDepth 100000 in
theorem mq_cw71 : mq_cwd 71 := ⟨3223, rfl⟩
set_option maxRecDepth 100000 in
theorem mq_cw72 : mq_cwd 72 := ⟨3226, rfl⟩
set_option maxRecDepth 100000 in
theorem mq_cw73 : mq_cwd 73 := ⟨4174, rfl⟩
set_option maxRecDepth 100000 in
theorem mq_cw74 : mq_cwd 74 := ⟨1141, rfl⟩
set_option maxRecDepth 100000 in
theorem mq_cw75 : mq_cwd 75 := ⟨4150, rfl⟩
set_option maxRecDepth 100000 in
theorem mq_cw76 : mq_cwd 76 := ⟨4160, rfl⟩
set_option maxRecDepth 100000 in
theorem mq_cw77 : mq_cwd 77 := ⟨4164, rfl⟩
set_option maxRecDepth 100000 in
theorem mq_cw78 : mq_cwd 78 := ⟨1031, rfl⟩
set_option maxRecDepth 100000 in
theorem mq_cw79 : mq_cwd 79 := ⟨2116, rfl⟩
set_option maxRecDepth 100000 in
theorem mq_cw80 : mq_cwd 80 := ⟨2120, rfl⟩
set_option maxRecDepth 100000 in
theorem mq_cw81 : mq_cwd 81 := ⟨2128, rfl⟩
set_option maxRecDepth 100000 in
theorem mq_cw82 : mq_cwd 82 := ⟨4155, rfl⟩
set_option maxRecDepth 100000 in
theorem mq_cw83 : mq_cwd 83 := ⟨2132, rfl⟩
set_option maxRecDepth 100000 in
theorem mq_cw84 : mq_cwd 84 := ⟨3015, rfl⟩
set_option maxRecDepth 100000 in
theorem mq_cw85 : mq_cwd 85 := ⟨2165, rfl⟩
set_option maxRecDepth 100000 in
theorem mq_cw86 : mq_cwd 86 := ⟨2170, rfl⟩
set_option maxRecDepth 100000 in
theorem mq_cw87 : mq_cwd 87 := ⟨2212, rfl⟩
set_option maxRecDepth 100000 in
theorem mq_cw88 : mq_cwd 88 := ⟨2148, rfl⟩
set_option maxRecDepth 100000 in
theorem mq_cw89 : mq_cwd 89 := ⟨2217, rfl⟩
set_option maxRecDepth 100000 in
theorem mq_cw90 : mq_cwd 90 := ⟨2022, rfl⟩
set_option maxRecDepth 100000 in
theorem mq_cw91 : mq_cwd 91 := ⟨3048, rfl⟩
set_option maxRecDepth 100000 in
theorem mq_cw92 : mq_cwd 92 := ⟨3052, rfl⟩
set_option maxRecDepth 100000 in
theorem mq_cw93 : mq_cwd 93 := ⟨3059, rfl⟩
set_option maxRecDepth 100000 in
theorem mq_cw94 : mq_cwd 94 := ⟨3234, rfl⟩
set_option maxRecDepth 100000 in
theorem mq_cw95 : mq_cwd 95 := ⟨4007, rfl⟩
set_option maxRecDepth 100000 in
theorem mq_cw96 : mq_cwd 96 := ⟨3238, rfl⟩
set_option maxRecDepth 100000 in
theorem mq_cw97 : mq_cwd 97 := ⟨4003, rfl⟩
set_option maxRecDepth 100000 in
theorem mq_cw98 : mq_cwd 98 := ⟨1157, rfl⟩
set_option maxRecDepth 100000 in
theorem mq_cw99 : mq_cwd 99 := ⟨2225, rfl⟩
set_option maxRecDepth 100000 in
theorem mq_cw100 : mq_cwd 100 := ⟨3011, rfl⟩
set_option maxRecDepth 100000 in
theorem mq_cw101 : mq_cwd 101 := ⟨4018, rfl⟩
set_option maxRecDepth 100000 in
theorem mq_cw102 : mq_cwd 102 := ⟨2107, rfl⟩
set_option maxRecDepth 100000 in
theorem mq_cw103 : mq_cwd 103 := ⟨5010, rfl⟩
set_option maxRecDepth 100000 in
theorem mq_cw104 : mq_cwd 104 := ⟨5014, rfl⟩
set_option maxRecDepth 100000 in
theorem mq_cw105 : mq_cwd 105 := ⟨3150, rfl⟩
set_option maxRecDepth 100000 in
theorem mq_cw106 : mq_cwd 106 := ⟨4120, rfl⟩
set_option maxRecDepth 100000 in
theorem mq_cw107 : mq_cwd 107 := ⟨3159, rfl⟩
set_option maxRecDepth 100000 in
theorem mq_cw108 : mq_cwd 108 := ⟨2099, rfl⟩
set_option maxRecDepth 100000 in
theorem mq_cw109 : mq_cwd 109 := ⟨2103, rfl⟩
set_option maxRecDepth 100000 in
theorem mq_cw110 : mq_cwd 110 := ⟨3028, rfl⟩
set_option maxRecDepth 100000 in
theorem mq_cw111 : mq_cwd 111 := ⟨3033, rfl⟩
set_option maxRecDepth 100000 in
theorem mq_cw112 : mq_cwd 112 := ⟨3024, rfl⟩
set_option maxRecDepth 100000 in
theorem mq_cw113 : mq_cwd 113 := ⟨3082, rfl⟩
set_option maxRecDepth 100000 in
theorem mq_cw114 : mq_cwd 114 := ⟨3078, rfl⟩
set_option maxRecDepth 100000 in
theorem mq_cw115 : mq_cwd 115 := ⟨4124, rfl⟩
set_option maxRecDepth 100000 in
theorem mq_cw116 : mq_cwd 116 := ⟨4137, rfl⟩
set_option maxRecDepth 100000 in
theorem mq_cw117 : mq_cwd 117 := ⟨4182, rfl⟩
set_option maxRecDepth 100000 in
theorem mq_cw118 : mq_cwd 118 := ⟨3168, rfl⟩
set_option maxRecDepth 100000 in
theorem mq_cw119 : mq_cwd 119 := ⟨3178, rfl⟩
set_option maxRecDepth 100000 in
theorem mq_cw120 : mq_cwd 120 := ⟨3134, rfl⟩
set_option maxRecDepth 100000 in
theorem mq_cw121 : mq_cwd 121 := ⟨1023, rfl⟩
set_option maxRecDepth 100000 in
theorem mq_cw122 : mq_cwd 122 := ⟨2091, rfl⟩
set_option maxRecDepth 100000 in
theorem mq_cw123 : mq_cwd 123 := ⟨2112, rfl⟩
set_option maxRecDepth 100000 in
theorem mq_cw124 : mq_cwd 124 := ⟨2124, rfl⟩
set_option maxRecDepth 100000 in
theorem mq_cw125 : mq_cwd 125 := ⟨2221, rfl⟩
set_option maxRecDepth 100000 in
theorem mq_cw126 : mq_cwd 126 := ⟨3044, rfl⟩
set_option maxRecDepth 100000 in
theorem mq_cw127 : mq_cwd 127 := ⟨3065, rfl⟩
set_option maxRecDepth 100000 in
theorem mq_cw128 : mq_cwd 128 := ⟨3144, rfl⟩
set_option maxRecDepth 100000 in
theorem mq_cw129 : mq_cwd 129 := ⟨3154, rfl⟩
set_option maxRecDepth 100000 in
theorem mq_cw130 : mq_cwd 130 := ⟨3164, rfl⟩
set_option maxRecDepth 100000 in
theorem mq_cw131 : mq_cwd 131 := ⟨3173, rfl⟩
set_option maxRecDepth 100000 in
theorem mq_cw132 : mq_cwd 132 := ⟨3183, rfl⟩
set_option maxRecDepth 100000 in
theorem mq_cw133 : mq_cwd 133 := ⟨3202, rfl⟩
set_option maxRecDepth 100000 in
theorem mq_cw134 : mq_cwd 134 := ⟨3219, rfl⟩
set_option maxRecDepth 100000 in
theorem mq_cw135 : mq_cwd 135 := ⟨3230, rfl⟩
set_option maxRecDepth 100000 in
theorem mq_cw136 : mq_cwd 136 := ⟨4011, rfl⟩
set_option maxRecDepth 100000 in
theorem mq_cw137 : mq_cwd 137 := ⟨4084, rfl⟩
set_option maxRecDepth 100000 in
theorem mq_cw138 : mq_cwd 138 := ⟨4116, rfl⟩
set_option maxRecDepth 100000 in
theorem mq_cw139 : mq_cwd 139 := ⟨4129, rfl⟩
set_option maxRecDepth 100000 in
theorem mq_cw140 : mq_cwd 140 := ⟨4142, rfl⟩
set_option maxRecDepth 100000 in
theorem mq_cw141 : mq_cwd 141 := ⟨4146, rfl⟩
set_option maxRecDepth 100000 in
theorem mq_cw142 : mq_cwd 142 := ⟨4170, rfl⟩
set_option maxRecDepth 100000 in
theorem mq_cw143 : mq_cwd 143 := ⟨4178, rfl⟩
set_option maxRecDepth 100000 in
theorem mq_cw144 : mq_cwd 144 := ⟨4213, rfl⟩
set_option maxRecDepth 100000 in
theorem mq_cw145 : mq_cwd 145 := ⟨4220, rfl⟩
set_option maxRecDepth 100000 in
theorem mq_cw146 : mq_cwd 146 := ⟨4225, rfl⟩
set_option maxRecDepth 100000 in
theorem mq_cw147 : mq_cwd 147 := ⟨4229, rfl⟩
set_option maxRecDepth 100000 in
theorem mq_cw148 : mq_cwd 148 := ⟨4233, rfl⟩
set_option maxRecDepth 100000 in
theorem mq_cw149 : mq_cwd 149 := ⟨4237, rfl⟩
set_option maxRecDepth 100000 in
theorem mq_cw150 : mq_cwd 150 := ⟨5001, rfl⟩
set_option maxRecDepth 100000 in
theorem mq_cw151 : mq_cwd 151 := ⟨5006, rfl⟩
set_option maxRecDepth 100000 in
theorem mq_cw152 : mq_cwd 152 := ⟨4133, rfl⟩
set_option maxRecDepth 100000 in
theorem mq_cw153 : mq_cwd 153 := ⟨2094, rfl⟩
set_option maxRecDepth 100000 in
theorem mq_cw154 : mq_cwd 154 := ⟨4014, rfl⟩
set_option maxRecDepth 100000 in
theorem mq_cw155 : mq_cwd 155 := ⟨3124, rfl⟩
set_option maxRecDepth 100000 in
theorem mq_cw156 : mq_cwd 156 := ⟨5019, rfl⟩
set_option maxRecDepth 100000 in
theorem mq_cw157 : mq_cwd 157 := ⟨5179, rfl⟩
set_option maxRecDepth 100000 in
theorem mq_cw158 : mq_cwd 158 := ⟨6149, rfl⟩
set_option maxRecDepth 100000 in
theorem mq_cw159 : mq_cwd 159 := ⟨6152, rfl⟩
set_option maxRecDepth 100000 in
theorem mq_cw160 : mq_cwd 160 := ⟨6119, rfl⟩
set_option maxRecDepth 100000 in
theorem mq_cw161 : mq_cwd 161 := ⟨6146, rfl⟩
set_option maxRecDepth 100000 in
theorem mq_cw162 : mq_cwd 162 := ⟨6105, rfl⟩
set_option maxRecDepth 100000 in
theorem mq_cw163 : mq_cwd 163 := ⟨6042, rfl⟩
set_option maxRecDepth 100000 in
theorem mq_cw164 : mq_cwd 164 := ⟨6054, rfl⟩
set_option maxRecDepth 100000 in
theorem mq_cw165 : mq_cwd 165 := ⟨6066, rfl⟩
set_option maxRecDepth 100000 in
theorem mq_cw166 : mq_cwd 166 := ⟨6220, rfl⟩
set_option maxRecDepth 100000 in
theorem mq_cw167 : mq_cwd 167 := ⟨7029, rfl⟩
set_option maxRecDepth 100000 in
theorem mq_cw168 : mq_cwd 168 := ⟨6062, rfl⟩
set_option maxRecDepth 100000 in
theorem mq_cw169 : mq_cwd 169 := ⟨6116, rfl⟩
set_option maxRecDepth 100000 in
theorem mq_cw170 : mq_cwd 170 := ⟨6113, rfl⟩
set_option maxRecDepth 100000 in
theorem mq_cw171 : mq_cwd 171 := ⟨6109, rfl⟩
set_option maxRecDepth 100000 in
theorem mq_cw172 : mq_cwd 172 := ⟨6102, rfl⟩
set_option maxRecDepth 100000 in
theorem mq_cw173 : mq_cwd 173 := ⟨6176, rfl⟩
set_option maxRecDepth 100000 in
theorem mq_cw174 : mq_cwd 174 := ⟨5176, rfl⟩
set_option maxRecDepth 100000 in
theorem mq_cw175 : mq_cwd 175 := ⟨5188, rfl⟩
set_option maxRecDepth 100000 in
theorem mq_cw176 : mq_cwd 176 := ⟨5184, rfl⟩
set_option maxRecDepth 100000 in
theorem mq_cw177 : mq_cwd 177 := ⟨7045, rfl⟩
set_option maxRecDepth 100000 in
theorem mq_cw178 : mq_cwd 178 := ⟨5204, rfl⟩
set_option maxRecDepth 100000 in
theorem mq_cw179 : mq_cwd 179 := ⟨5225, rfl⟩
set_option maxRecDepth 100000 in
theorem mq_cw180 : mq_cwd 180 := ⟨5208, rfl⟩
set_option maxRecDepth 100000 in
theorem mq_cw181 : mq_cwd 181 := ⟨6035, rfl⟩
set_option maxRecDepth 100000 in
theorem mq_cw182 : mq_cwd 182 := ⟨5229, rfl⟩
set_option maxRecDepth 100000 in
theorem mq_cw183 : mq_cwd 183 := ⟨5233, rfl⟩
set_option maxRecDepth 100000 in
theorem mq_cw184 : mq_cwd 184 := ⟨5220, rfl⟩
set_option maxRecDepth 100000 in
theorem mq_cw185 : mq_cwd 185 := ⟨6007, rfl⟩
set_option maxRecDepth 100000 in
theorem mq_cw186 : mq_cwd 186 := ⟨5236, rfl⟩
set_option maxRecDepth 100000 in
theorem mq_cw187 : mq_cwd 187 := ⟨5239, rfl⟩
set_option maxRecDepth 100000 in
theorem mq_cw188 : mq_cwd 188 := ⟨6003, rfl⟩
set_option maxRecDepth 100000 in
theorem mq_cw189 : mq_cwd 189 := ⟨5216, rfl⟩
set_option maxRecDepth 100000 in
theorem mq_cw190 : mq_cwd 190 := ⟨6011, rfl⟩
set_option maxRecDepth 100000 in
theorem mq_cw191 : mq_cwd 191 := ⟨5212, rfl⟩
set_option maxRecDepth 100000 in
theorem mq_cw192 : mq_cwd 192 := ⟨6023, rfl⟩
set_option maxRecDepth 100000 in
theorem mq_cw193 : mq_cwd 193 := ⟨6027, rfl⟩
set_option maxRecDepth 100000 in
theorem mq_cw194 : mq_cwd 194 := ⟨6031, rfl⟩
set_option maxRecDepth 100000 in
theorem mq_cw195 : mq_cwd 195 := ⟨6019, rfl⟩
set_option maxRecDepth 100000 in
theorem mq_cw196 : mq_cwd 196 := ⟨6015, rfl⟩
set_option maxRecDepth 100000 in
theorem mq_cw197 : mq_cwd 197 := ⟨5200, rfl⟩
set_option maxRecDepth 100000 in
theorem mq_cw198 : mq_cwd 198 := ⟨5196, rfl⟩
set_option maxRecDepth 100000 in
theorem mq_cw199 : mq_cwd 199 := ⟨5192, rfl⟩
set_option maxRecDepth 100000 in
theorem mq_cw200 : mq_cwd 200 := ⟨6130, rfl⟩
set_option maxRecDepth 100000 in
theorem mq_cw201 : mq_cwd 201 := ⟨6127, rfl⟩
set_option maxRecDepth 100000 in
theorem mq_cw202 : mq_cwd 202 := ⟨6138, rfl⟩
set_option maxRecDepth 100000 in
theorem mq_cw203 : mq_cwd 203 := ⟨6123, rfl⟩
set_option maxRecDepth 100000 in
theorem mq_cw204 : mq_cwd 204 := ⟨6098, rfl⟩
set_option maxRecDepth 100000 in
theorem mq_cw205 : mq_cwd 205 := ⟨6050, rfl⟩
set_option maxRecDepth 100000 in
theorem mq_cw206 : mq_cwd 206 := ⟨6058, rfl⟩
set_option maxRecDepth 100000 in
theorem mq_cw207 : mq_cwd 207 := ⟨6070, rfl⟩
set_option maxRecDepth 100000 in
theorem mq_cw208 : mq_cwd 208 := ⟨6074, rfl⟩
set_option maxRecDepth 100000 in
theorem mq_cw209 : mq_cwd 209 := ⟨6046, rfl⟩
set_option maxRecDepth 100000 in
theorem mq_cw210 : mq_cwd 210 := ⟨6039, rfl⟩
set_option maxRecDepth 100000 in
theorem mq_cw211 : mq_cwd 211 := ⟨6082, rfl⟩
set_option maxRecDepth 100000 in
theorem mq_cw212 : mq_cwd 212 := ⟨6078, rfl⟩
set_option maxRecDepth 100000 in
theorem mq_cw213 : mq_cwd 213 := ⟨6134, rfl⟩
set_option maxRecDepth 100000 in
theorem mq_cw214 : mq_cwd 214 := ⟨6143, rfl⟩
set_option maxRecDepth 100000 in
theorem mq_cw215 : mq_cwd 215 := ⟨6094, rfl⟩
set_option maxRecDepth 100000 in
theorem mq_cw216 : mq_cwd 216 := ⟨6090, rfl⟩
set_option maxRecDepth 100000 in
theorem mq_cw217 : mq_cwd 217 := ⟨6086, rfl⟩
set_option maxRecDepth 100000 in
theorem mq_cw218 : mq_cwd 218 := ⟨6160, rfl⟩
set_option maxRecDepth 100000 in
theorem mq_cw219 : mq_cwd 219 := ⟨6156, rfl⟩
set_option maxRecDepth 100000 in
theorem mq_cw220 : mq_cwd 220 := ⟨6168, rfl⟩
set_option maxRecDepth 100000 in
theorem mq_cw221 : mq_cwd 221 := ⟨6164, rfl⟩
set_option maxRecDepth 100000 in
theorem mq_cw222 : mq_cwd 222 := ⟨6172, rfl⟩
set_option maxRecDepth 100000 in
theorem mq_cw223 : mq_cwd 223 := ⟨6180, rfl⟩
set_option maxRecDepth 100000 in
theorem mq_cw224 : mq_cwd 224 := ⟨6188, rfl⟩
set_option maxRecDepth 100000 in
theorem mq_cw225 : mq_cwd 225 := ⟨6184, rfl⟩
set_option maxRecDepth 100000 in
theorem mq_cw226 : mq_cwd 226 := ⟨6192, rfl⟩
set_option maxRecDepth 100000 in
theorem mq_cw227 : mq_cwd 227 := ⟨6201, rfl⟩
set_option maxRecDepth 100000 in
theorem mq_cw228 : mq_cwd 228 := ⟨6196, rfl⟩
set_option maxRecDepth 100000 in
theorem mq_cw229 : mq_cwd 229 := ⟨6212, rfl⟩
set_option maxRecDepth 100000 in
theorem mq_cw230 : mq_cwd 230 := ⟨6209, rfl⟩
set_option maxRecDepth 100000 in
theorem mq_cw231 : mq_cwd 231 := ⟨6205, rfl⟩
set_option maxRecDepth 100000 in
theorem mq_cw232 : mq_cwd 232 := ⟨6237, rfl⟩
set_option maxRecDepth 100000 in
theorem mq_cw233 : mq_cwd 233 := ⟨6233, rfl⟩
set_option maxRecDepth 100000 in
theorem mq_cw234 : mq_cwd 234 := ⟨6229, rfl⟩
set_option maxRecDepth 100000 in
theorem mq_cw235 : mq_cwd 235 := ⟨6225, rfl⟩
set_option maxRecDepth 100000 in
theorem mq_cw236 : mq_cwd 236 := ⟨6216, rfl⟩
set_option maxRecDepth 100000 in
theorem mq_cw237 : mq_cwd 237 := ⟨7005, rfl⟩
set_option maxRecDepth 100000 in
theorem mq_cw238 : mq_cwd 238 := ⟨7009, rfl⟩
set_option maxRecDepth 100000 in
theorem mq_cw239 : mq_cwd 239 := ⟨7001, rfl⟩
set_option maxRecDepth 100000 in
theorem mq_cw240 : mq_cwd 240 := ⟨7017, rfl⟩
set_option maxRecDepth 100000 in
theorem mq_cw241 : mq_cwd 241 := ⟨7013, rfl⟩
set_option maxRecDepth 100000 in
theorem mq_cw242 : mq_cwd 242 := ⟨7025, rfl⟩
set_option maxRecDepth 100000 in
theorem mq_cw243 : mq_cwd 243 := ⟨7021, rfl⟩
set_option maxRecDepth 100000 in
theorem mq_cw244 : mq_cwd 244 := ⟨7033, rfl⟩
set_option maxRecDepth 100000 in
theorem mq_cw245 : mq_cwd 245 := ⟨7041, rfl⟩
set_option maxRecDepth 100000 in
theorem mq_cw246 : mq_cwd 246 := ⟨7037, rfl⟩
set_option maxRecDepth 100000 in
theorem mq_cw247 : mq_cwd 247 := ⟨7049, rfl⟩
set_option maxRecDepth 100000 in
theorem mq_cw248 : mq_cwd 248 := ⟨7057, rfl⟩
set_option maxRecDepth 100000 in
theorem mq_cw249 : mq_cwd 249 := ⟨7061, rfl⟩
set_option maxRecDepth 100000 in
theorem mq_cw250 : mq_cwd 250 := ⟨7053, rfl⟩
set_option maxRecDepth 100000 in
theorem mq_cw251 : mq_cwd 251 := ⟨7069, rfl⟩
set_option maxRecDepth 100000 in
theorem mq_cw252 : mq_cwd 252 := ⟨7065, rfl⟩
set_option maxRecDepth 100000 in
theorem mq_cw253 : mq_cwd 253 := ⟨7073, rfl⟩
set_option maxRecDepth 100000 in
theorem mq_cw254 : mq_cwd 254 := ⟨7077, rfl⟩
set_option maxRecDepth 100000 in
theorem mq_cw255 : mq_cwd 255 := ⟨7081, rfl⟩
set_option maxRecDepth 100000 in
theorem mq_cw256 : mq_cwd 256 := ⟨7085, rfl⟩
set_option maxRecDepth 100000 in
theorem mq_cw257 : mq_cwd 257 := ⟨7089, rfl⟩
set_option maxRecDepth 100000 in
theorem mq_cw258 : mq_cwd 258 := ⟨7093, rfl⟩
set_option maxRecDepth 100000 in
theorem mq_cw259 : mq_cwd 259 := ⟨7097, rfl⟩
set_option maxRecDepth 100000 in
theorem mq_cw260 : mq_cwd 260 := ⟨3086, rfl⟩
set_option maxRecDepth 100000 in
theorem mq_cw261 : mq_cwd 261 := ⟨4197, rfl⟩
set_option maxRecDepth 100000 in
theorem mq_cw262 : mq_cwd 262 := ⟨1161, rfl⟩
theorem mq_code_ok (m : Nat) (hm : m < 263) : mq_cwd m := (if h131 : m < 131 then (if h65 : m < 65 then (if h32 : m < 32 then (if h16 : m < 16 then (if h8 : m < 8 then (if h4 : m < 4 then (if h2 : m < 2 then (if h1 : m < 1 then (mq_lf (Nat.not_lt_zero m) h1 mq_cw0) else (mq_lf h1 h2 mq_cw1)) else (if h3 : m < 3 then (mq_lf h2 h3 mq_cw2) else (mq_lf h3 h4 mq_cw3))) else (if h6 : m < 6 then (if h5 : m < 5 then (mq_lf h4 h5 mq_cw4) else (mq_lf h5 h6 mq_cw5)) else (if h7 : m < 7 then (mq_lf h6 h7 mq_cw6) else (mq_lf h7 h8 mq_cw7)))) else (if h12 : m < 12 then (if h10 : m < 10 then (if h9 : m < 9 then (mq_lf h8 h9 mq_cw8) else (mq_lf h9 h10 mq_cw9)) else (if h11 : m < 11 then (mq_lf h10 h11 mq_cw10) else (mq_lf h11 h12 mq_cw11))) else (if h14 : m < 14 then (if h13 : m < 13 then (mq_lf h12 h13 mq_cw12) else (mq_lf h13 h14 mq_cw13)) else (if h15 : m < 15 then (mq_lf h14 h15 mq_cw14) else (mq_lf h15 h16 mq_cw15))))) else (if h24 : m < 24 then (if h20 : m < 20 then (if h18 : m < 18 then (if h17 : m < 17 then (mq_lf h16 h17 mq_cw16) else (mq_lf h17 h18 mq_cw17)) else (if h19 : m < 19 then (mq_lf h18 h19 mq_cw18) else (mq_lf h19 h20 mq_cw19))) else (if h22 : m < 22 then (if h21 : m < 21 then (mq_lf h20 h21 mq_cw20) else (mq_lf h21 h22 mq_cw21)) else (if h23 : m < 23 then (mq_lf h22 h23 mq_cw22) else (mq_lf h23 h24 mq_cw23)))) else (if h28 : m < 28 then (if h26 : m < 26 then (if h25 : m < 25 then (mq_lf h24 h25 mq_cw24) else (mq_lf h25 h26 mq_cw25)) else (if h27 : m < 27 then (mq_lf h26 h27 mq_cw26) else (mq_lf h27 h28 mq_cw27))) else (if h30 : m < 30 then (if h29 : m < 29 then (mq_lf h28 h29 mq_cw28) else (mq_lf h29 h30 mq_cw29)) else (if h31 : m < 31 then (mq_lf h30 h31 mq_cw30) else (mq_lf h31 h32 mq_cw31)))))) else (if h48 : m < 48 then (if h40 : m < 40 then (if h36 : m < 36 then (if h34 : m < 34 then (if h33 : m < 33 then (mq_lf h32 h33 mq_cw32) else (mq_lf h33 h34 mq_cw33)) else (if h35 : m < 35 then (mq_lf h34 h35 mq_cw34) else (mq_lf h35 h36 mq_cw35))) else (if h38 : m < 38 then (if h37 : m < 37 then (mq_lf h36 h37 mq_cw36) else (mq_lf h37 h38 mq_cw37)) else (if h39 : m < 39 then (mq_lf h38 h39 mq_cw38) else (mq_lf h39 h40 mq_cw39)))) else (if h44 : m < 44 then (if h42 : m < 42 then (if h41 : m < 41 then (mq_lf h40 h41 mq_cw40) else (mq_lf h41 h42 mq_cw41)) else (if h43 : m < 43 then (mq_lf h42 h43 mq_cw42) else (mq_lf h43 h44 mq_cw43))) else (if h46 : m < 46 then (if h45 : m < 45 then (mq_lf h44 h45 mq_cw44) else (mq_lf h45 h46 mq_cw45)) else (if h47 : m < 47 then (mq_lf h46 h47 mq_cw46) else (mq_lf h47 h48 mq_cw47))))) else (if h56 : m < 56 then (if h52 : m < 52 then (if h50 : m < 50 then (if h49 : m < 49 then (mq_lf h48 h49 mq_cw48) else (mq_lf h49 h50 mq_cw49)) else (if h51 : m < 51 then (mq_lf h50 h51 mq_cw50) else (mq_lf h51 h52 mq_cw51))) else (if h54 : m < 54 then (if h53 : m < 53 then (mq_lf h52 h53 mq_cw52) else (mq_lf h53 h54 mq_cw53)) else (if h55 : m < 55 then (mq_lf h54 h55 mq_cw54) else (mq_lf h55 h56 mq_cw55)))) else (if h60 : m < 60 then (if h58 : m < 58 then (if h57 : m < 57 then (mq_lf h56 h57 mq_cw56) else (mq_lf h57 h58 mq_cw57)) else (if h59 : m < 59 then (mq_lf h58 h59 mq_cw58) else (mq_lf h59 h60 mq_cw59))) else (if h62 : m < 62 then (if h61 : m < 61 then (mq_lf h60 h61 mq_cw60) else (mq_lf h61 h62 mq_cw61)) else (if h63 : m < 63 then (mq_lf h62 h63 mq_cw62) else (if h64 : m < 64 then (mq_lf h63 h64 mq_cw63) else (mq_lf h64 h65 mq_cw64)))))))) else (if h98 : m < 98 then (if h81 : m < 81 then (if h73 : m < 73 then (if h69 : m < 69 then (if h67 : m < 67 then (if h66 : m < 66 then (mq_lf h65 h66 mq_cw65) else (mq_lf h66 h67 mq_cw66)) else (if h68 : m < 68 then (mq_lf h67 h68 mq_cw67) else (mq_lf h68 h69 mq_cw68))) else (if h71 : m < 71 then (if h70 : m < 70 then (mq_lf h69 h70 mq_cw69) else (mq_lf h70 h71 mq_cw70)) else (if h72 : m < 72 then (mq_lf h71 h72 mq_cw71) else (mq_lf h72 h73 mq_cw72)))) else (if h77 : m < 77 then (if h75 : m < 75 then (if h74 : m < 74 then (mq_lf h73 h74 mq_cw73) else (mq_lf h74 h75 mq_cw74)) else (if h76 : m < 76 then (mq_lf h75 h76 mq_cw75) else (mq_lf h76 h77 mq_cw76))) else (if h79 : m < 79 then (if h78 : m < 78 then (mq_lf h77 h78 mq_cw77) else (mq_lf h78 h79 mq_cw78)) else (if h80 : m < 80 then (mq_lf h79 h80 mq_cw79) else (mq_lf h80 h81 mq_cw80))))) else (if h89 : m < 89 then (if h85 : m < 85 then (if h83 : m < 83 then (if h82 : m < 82 then (mq_lf h81 h82 mq_cw81) else (mq_lf h82 h83 mq_cw82)) else (if h84 : m < 84 then (mq_lf h83 h84 mq_cw83) else (mq_lf h84 h85 mq_cw84))) else (if h87 : m < 87 then (if h86 : m < 86 then (mq_lf h85 h86 mq_cw85) else (mq_lf h86 h87 mq_cw86)) else (if h88 : m < 88 then (mq_lf h87 h88 mq_cw87) else (mq_lf h88 h89 mq_cw88)))) else (if h93 : m < 93 then (if h91 : m < 91 then (if h90 : m < 90 then (mq_lf h89 h90 mq_cw89) else (mq_lf h90 h91 mq_cw90)) else (if h92 : m < 92 then (mq_lf h91 h92 mq_cw91) else (mq_lf h92 h93 mq_cw92))) else (if h95 : m < 95 then (if h94 : m < 94 then (mq_lf h93 h94 mq_cw93) else (mq_lf h94 h95 mq_cw94)) else (if h96 : m < 96 then (mq_lf h95 h96 mq_cw95) else (if h97 : m < 97 then (mq_lf h96 h97 mq_cw96) else (mq_lf h97 h98 mq_cw97))))))) else (if h114 : m < 114 then (if h106 : m < 106 then (if h102 : m < 102 then (if h100 : m < 100 then (if h99 : m < 99 then (mq_lf h98 h99 mq_cw98) else (mq_lf h99 h100 mq_cw99)) else (if h101 : m < 101 then (mq_lf h100 h101 mq_cw100) else (mq_lf h101 h102 mq_cw101))) else (if h104 : m < 104 then (if h103 : m < 103 then (mq_lf h102 h103 mq_cw102) else (mq_lf h103 h104 mq_cw103)) else (if h105 : m < 105 then (mq_lf h104 h105 mq_cw104) else (mq_lf h105 h106 mq_cw105)))) else (if h110 : m < 110 then (if h108 : m < 108 then (if h107 : m < 107 then (mq_lf h106 h107 mq_cw106) else (mq_lf h107 h108 mq_cw107)) else (if h109 : m < 109 then (mq_lf h108 h109 mq_cw108) else (mq_lf h109 h110 mq_cw109))) else (if h112 : m < 112 then (if h111 : m < 111 then (mq_lf h110 h111 mq_cw110) else (mq_lf h111 h112 mq_cw111)) else (if h113 : m < 113 then (mq_lf h112 h113 mq_cw112) else (mq_lf h113 h114 mq_cw113))))) else (if h122 : m < 122 then (if h118 : m < 118 then (if h116 : m < 116 then (if h115 : m < 115 then (mq_lf h114 h115 mq_cw114) else (mq_lf h115 h116 mq_cw115)) else (if h117 : m < 117 then (mq_lf h116 h117 mq_cw116) else (mq_lf h117 h118 mq_cw117))) else (if h120 : m < 120 then (if h119 : m < 119 then (mq_lf h118 h119 mq_cw118) else (mq_lf h119 h120 mq_cw119)) else (if h121 : m < 121 then (mq_lf h120 h121 mq_cw120) else (mq_lf h121 h122 mq_cw121)))) else (if h126 : m < 126 then (if h124 : m < 124 then (if h123 : m < 123 then (mq_lf h122 h123 mq_cw122) else (mq_lf h123 h124 mq_cw123)) else (if h125 : m < 125 then (mq_lf h124 h125 mq_cw124) else (mq_lf h125 h126 mq_cw125))) else (if h128 : m < 128 then (if h127 : m < 127 then (mq_lf h126 h127 mq_cw126) else (mq_lf h127 h128 mq_cw127)) else (if h129 : m < 129 then (mq_lf h128 h129 mq_cw128) else (if h130 : m < 130 then (mq_lf h129 h130 mq_cw129) else (mq_lf h130 h131 mq_cw130))))))))) else (if h197 : m < 197 then (if h164 : m < 164 then (if h147 : m < 147 then (if h139 : m < 139 then (if h135 : m < 135 then (if h133 : m < 133 then (if h132 : m < 132 then (mq_lf h131 h132 mq_cw131) else (mq_lf h132 h133 mq_cw132)) else (if h134 : m < 134 then (mq_lf h133 h134 mq_cw133) else (mq_lf h134 h135 mq_cw134))) else (if h137 : m < 137 then (if h136 : m < 136 then (mq_lf h135 h136 mq_cw135) else (mq_lf h136 h137 mq_cw136)) else (if h138 : m < 138 then (mq_lf h137 h138 mq_cw137) else (mq_lf h138 h139 mq_cw138)))) else (if h143 : m < 143 then (if h141 : m < 141 then (if h140 : m < 140 then (mq_lf h139 h140 mq_cw139) else (mq_lf h140 h141 mq_cw140)) else (if h142 : m < 142 then (mq_lf h141 h142 mq_cw141) else (mq_lf h142 h143 mq_cw142))) else (if h145 : m < 145 then (if h144 : m < 144 then (mq_lf h143 h144 mq_cw143) else (mq_lf h144 h145 mq_cw144)) else (if h146 : m < 146 then (mq_lf h145 h146 mq_cw145) else (mq_lf h146 h147 mq_cw146))))) else (if h155 : m < 155 then (if h151 : m < 151 then (if h149 : m < 149 then (if h148 : m < 148 then (mq_lf h147 h148 mq_cw147) else (mq_lf h148 h149 mq_cw148)) else (if h150 : m < 150 then (mq_lf h149 h150 mq_cw149) else (mq_lf h150 h151 mq_cw150))) else (if h153 : m < 153 then (if h152 : m < 152 then (mq_lf h151 h152 mq_cw151) else (mq_lf h152 h153 mq_cw152)) else (if h154 : m < 154 then (mq_lf h153 h154 mq_cw153) else (mq_lf h154 h155 mq_cw154)))) else (if h159 : m < 159 then (if h157 : m < 157 then (if h156 : m < 156 then (mq_lf h155 h156 mq_cw155) else (mq_lf h156 h157 mq_cw156)) else (if h158 : m < 158 then (mq_lf h157 h158 mq_cw157) else (mq_lf h158 h159 mq_cw158))) else (if h161 : m < 161 then (if h160 : m < 160 then (mq_lf h159 h160 mq_cw159) else (mq_lf h160 h161 mq_cw160)) else (if h162 : m < 162 then (mq_lf h161 h162 mq_cw161) else (if h163 : m < 163 then (mq_lf h162 h163 mq_cw162) else (mq_lf h163 h164 mq_cw163))))))) else (if h180 : m < 180 then (if h172 : m < 172 then (if h168 : m < 168 then (if h166 : m < 166 then (if h165 : m < 165 then (mq_lf h164 h165 mq_cw164) else (mq_lf h165 h166 mq_cw165)) else (if h167 : m < 167 then (mq_lf h166 h167 mq_cw166) else (mq_lf h167 h168 mq_cw167))) else (if h170 : m < 170 then (if h169 : m < 169 then (mq_lf h168 h169 mq_cw168) else (mq_lf h169 h170 mq_cw169)) else (if h171 : m < 171 then (mq_lf h170 h171 mq_cw170) else (mq_lf h171 h172 mq_cw171)))) else (if h176 : m < 176 then (if h174 : m < 174 then (if h173 : m < 173 then (mq_lf h172 h173 mq_cw172) else (mq_lf h173 h174 mq_cw173)) else (if h175 : m < 175 then (mq_lf h174 h175 mq_cw174) else (mq_lf h175 h176 mq_cw175))) else (if h178 : m < 178 then (if h177 : m < 177 then (mq_lf h176 h177 mq_cw176) else (mq_lf h177 h178 mq_cw177)) else (if h179 : m < 179 then (mq_lf h178 h179 mq_cw178) else (mq_lf h179 h180 mq_cw179))))) else (if h188 : m < 188 then (if h184 : m < 184 then (if h182 : m < 182 then (if h181 : m < 181 then (mq_lf h180 h181 mq_cw180) else (mq_lf h181 h182 mq_cw181)) else (if h183 : m < 183 then (mq_lf h182 h183 mq_cw182) else (mq_lf h183 h184 mq_cw183))) else (if h186 : m < 186 then (if h185 : m < 185 then (mq_lf h184 h185 mq_cw184) else (mq_lf h185 h186 mq_cw185)) else (if h187 : m < 187 then (mq_lf h186 h187 mq_cw186) else (mq_lf h187 h188 mq_cw187)))) else (if h192 : m < 192 then (if h190 : m < 190 then (if h189 : m < 189 then (mq_lf h188 h189 mq_cw188) else (mq_lf h189 h190 mq_cw189)) else (if h191 : m < 191 then (mq_lf h190 h191 mq_cw190) else (mq_lf h191 h192 mq_cw191))) else (if h194 : m < 194 then (if h193 : m < 193 then (mq_lf h192 h193 mq_cw192) else (mq_lf h193 h194 mq_cw193)) else (if h195 : m < 195 then (mq_lf h194 h195 mq_cw194) else (if h196 : m < 196 then (mq_lf h195 h196 mq_cw195) else (mq_lf h196 h197 mq_cw196)))))))) else (if h230 : m < 230 then (if h213 : m < 213 then (if h205 : m < 205 then (if h201 : m < 201 then (if h199 : m < 199 then (if h198 : m < 198 then (mq_lf h197 h198 mq_cw197) else (mq_lf h198 h199 mq_cw198)) else (if h200 : m < 200 then (mq_lf h199 h200 mq_cw199) else (mq_lf h200 h201 mq_cw200))) else (if h203 : m < 203 then (if h202 : m < 202 then (mq_lf h201 h202 mq_cw201) else (mq_lf h202 h203 mq_cw202)) else (if h204 : m < 204 then (mq_lf h203 h204 mq_cw203) else (mq_lf h204 h205 mq_cw204)))) else (if h209 : m < 209 then (if h207 : m < 207 then (if h206 : m < 206 then (mq_lf h205 h206 mq_cw205) else (mq_lf h206 h207 mq_cw206)) else (if h208 : m < 208 then (mq_lf h207 h208 mq_cw207) else (mq_lf h208 h209 mq_cw208))) else (if h211 : m < 211 then (if h210 : m < 210 then (mq_lf h209 h210 mq_cw209) else (mq_lf h210 h211 mq_cw210)) else (if h212 : m < 212 then (mq_lf h211 h212 mq_cw211) else (mq_lf h212 h213 mq_cw212))))) else (if h221 : m < 221 then (if h217 : m < 217 then (if h215 : m < 215 then (if h214 : m < 214 then (mq_lf h213 h214 mq_cw213) else (mq_lf h214 h215 mq_cw214)) else (if h216 : m < 216 then (mq_lf h215 h216 mq_cw215) else (mq_lf h216 h217 mq_cw216))) else (if h219 : m < 219 then (if h218 : m < 218 then (mq_lf h217 h218 mq_cw217) else (mq_lf h218 h219 mq_cw218)) else (if h220 : m < 220 then (mq_lf h219 h220 mq_cw219) else (mq_lf h220 h221 mq_cw220)))) else (if h225 : m < 225 then (if h223 : m < 223 then (if h222 : m < 222 then (mq_lf h221 h222 mq_cw221) else (mq_lf h222 h223 mq_cw222)) else (if h224 : m < 224 then (mq_lf h223 h224 mq_cw223) else (mq_lf h224 h225 mq_cw224))) else (if h227 : m < 227 then (if h226 : m < 226 then (mq_lf h225 h226 mq_cw225) else (mq_lf h226 h227 mq_cw226)) else (if h228 : m < 228 then (mq_lf h227 h228 mq_cw227) else (if h229 : m < 229 then (mq_lf h228 h229 mq_cw228) else (mq_lf h229 h230 mq_cw229))))))) else (if h246 : m < 246 then (if h238 : m < 238 then (if h234 : m < 234 then (if h232 : m < 232 then (if h231 : m < 231 then (mq_lf h230 h231 mq_cw230) else (mq_lf h231 h232 mq_cw231)) else (if h233 : m < 233 then (mq_lf h232 h233 mq_cw232) else (mq_lf h233 h234 mq_cw233))) else (if h236 : m < 236 then (if h235 : m < 235 then (mq_lf h234 h235 mq_cw234) else (mq_lf h235 h236 mq_cw235)) else (if h237 : m < 237 then (mq_lf h236 h237 mq_cw236) else (mq_lf h237 h238 mq_cw237)))) else (if h242 : m < 242 then (if h240 : m < 240 then (if h239 : m < 239 then (mq_lf h238 h239 mq_cw238) else (mq_lf h239 h240 mq_cw239)) else (if h241 : m < 241 then (mq_lf h240 h241 mq_cw240) else (mq_lf h241 h242 mq_cw241))) else (if h244 : m < 244 then (if h243 : m < 243 then (mq_lf h242 h243 mq_cw242) else (mq_lf h243 h244 mq_cw243)) else (if h245 : m < 245 then (mq_lf h244 h245 mq_cw244) else (mq_lf h245 h246 mq_cw245))))) else (if h254 : m < 254 then (if h250 : m < 250 then (if h248 : m < 248 then (if h247 : m < 247 then (mq_lf h246 h247 mq_cw246) else (mq_lf h247 h248 mq_cw247)) else (if h249 : m < 249 then (mq_lf h248 h249 mq_cw248) else (mq_lf h249 h250 mq_cw249))) else (if h252 : m < 252 then (if h251 : m < 251 then (mq_lf h250 h251 mq_cw250) else (mq_lf h251 h252 mq_cw251)) else (if h253 : m < 253 then (mq_lf h252 h253 mq_cw252) else (mq_lf h253 h254 mq_cw253)))) else (if h258 : m < 258 then (if h256 : m < 256 then (if h255 : m < 255 then (mq_lf h254 h255 mq_cw254) else (mq_lf h255 h256 mq_cw255)) else (if h257 : m < 257 then (mq_lf h256 h257 mq_cw256) else (mq_lf h257 h258 mq_cw257))) else (if h260 : m < 260 then (if h259 : m < 259 then (mq_lf h258 h259 mq_cw258) else (mq_lf h259 h260 mq_cw259)) else (if h261 : m < 261 then (mq_lf h260 h261 mq_cw260) else (if h262 : m < 262 then (mq_lf h261 h262 mq_cw261) else (mq_lf h262 hm mq_cw262))))))))))
end
