/-! THE SMALL MACHINE. Its cells bear numbers (0, 1, 2 .. in the order of their making), a reference is the number of its cell; the script is the cell mq_SCR. .retAddr n marks a local that isn't set, and carries a number in a table's entry. -/
abbrev mq_E : Type := (Bool × Nat × (Nat → Int32)) ⊕ (Nat × List Value)
abbrev mq_H : Type := (Nat → mq_E) × Nat × Nat
abbrev mq_I : Type := Instr × Nat × Nat × Value
abbrev mq_O : Type := (Nat × List Value × List Value × mq_H) ⊕ ((Nat × List Value × List Value × Nat) ⊕ Option Value)
def mq_SCR : Nat := 1000000
def mq_up (f : Nat → mq_E) (k : Nat) (e : mq_E) : Nat → mq_E := fun j => if j = k then e else f j
def mq_put (h : mq_H) (k : Nat) (e : mq_E) : mq_H := (mq_up h.1 k e, h.2)
def mq_add (h : mq_H) (e : mq_E) (n : Nat) : mq_H := (mq_up h.1 h.2.1 e, h.2.1 + 1, h.2.2 + n)
def mq_nx (pc : Nat) (ls st : List Value) (h : mq_H) : Option mq_O := some (.inl (pc, ls, st, h))
def mq_i1 (st : List Value) (f : Int32 → List Value → Option mq_O) : Option mq_O := match st with
  | .int x :: r => f x r
  | _ => none
def mq_i2 (st : List Value) (f : Int32 → Int32 → List Value → Option mq_O) : Option mq_O := match st with
  | .int y :: .int x :: r => f x y r
  | _ => none
def mq_l1 (st : List Value) (f : Int64 → List Value → Option mq_O) : Option mq_O := match st with
  | .long x :: r => f x r
  | _ => none
def mq_l2 (st : List Value) (f : Int64 → Int64 → List Value → Option mq_O) : Option mq_O := match st with
  | .long y :: .long x :: r => f x y r
  | _ => none
def mq_li (st : List Value) (f : Int64 → Int32 → List Value → Option mq_O) : Option mq_O := match st with
  | .int y :: .long x :: r => f x y r
  | _ => none
def mq_r1 (st : List Value) (f : Nat → List Value → Option mq_O) : Option mq_O := match st with
  | .ref k :: r => f k r
  | _ => none
def mq_ir (st : List Value) (f : Int32 → Nat → List Value → Option mq_O) : Option mq_O := match st with
  | .int i :: .ref k :: r => f i k r
  | _ => none
def mq_iir (st : List Value) (f : Int32 → Int32 → Nat → List Value → Option mq_O) : Option mq_O := match st with
  | .int x :: .int i :: .ref k :: r => f x i k r
  | _ => none
def mq_vr (st : List Value) (f : Value → Nat → List Value → Option mq_O) : Option mq_O := match st with
  | v :: .ref k :: r => f v k r
  | _ => none
theorem mq_i1_inv {st : List Value} {f} {o : mq_O} (h : mq_i1 st f = some o) : ∃ x r, st = .int x :: r ∧ f x r = some o := by
  unfold mq_i1 at h; split at h
  · exact ⟨_, _, rfl, h⟩
  · cases h
theorem mq_i2_inv {st : List Value} {f} {o : mq_O} (h : mq_i2 st f = some o) : ∃ x y r, st = .int y :: .int x :: r ∧ f x y r = some o := by
  unfold mq_i2 at h; split at h
  · exact ⟨_, _, _, rfl, h⟩
  · cases h
theorem mq_l1_inv {st : List Value} {f} {o : mq_O} (h : mq_l1 st f = some o) : ∃ x r, st = .long x :: r ∧ f x r = some o := by
  unfold mq_l1 at h; split at h
  · exact ⟨_, _, rfl, h⟩
  · cases h
theorem mq_l2_inv {st : List Value} {f} {o : mq_O} (h : mq_l2 st f = some o) : ∃ x y r, st = .long y :: .long x :: r ∧ f x y r = some o := by
  unfold mq_l2 at h; split at h
  · exact ⟨_, _, _, rfl, h⟩
  · cases h
theorem mq_li_inv {st : List Value} {f} {o : mq_O} (h : mq_li st f = some o) : ∃ x y r, st = .int y :: .long x :: r ∧ f x y r = some o := by
  unfold mq_li at h; split at h
  · exact ⟨_, _, _, rfl, h⟩
  · cases h
theorem mq_r1_inv {st : List Value} {f} {o : mq_O} (h : mq_r1 st f = some o) : ∃ k r, st = .ref k :: r ∧ f k r = some o := by
  unfold mq_r1 at h; split at h
  · exact ⟨_, _, rfl, h⟩
  · cases h
theorem mq_ir_inv {st : List Value} {f} {o : mq_O} (h : mq_ir st f = some o) : ∃ i k r, st = .int i :: .ref k :: r ∧ f i k r = some o := by
  unfold mq_ir at h; split at h
  · exact ⟨_, _, _, rfl, h⟩
  · cases h
theorem mq_iir_inv {st : List Value} {f} {o : mq_O} (h : mq_iir st f = some o) : ∃ x i k r, st = .int x :: .int i :: .ref k :: r ∧ f x i k r = some o := by
  unfold mq_iir at h; split at h
  · exact ⟨_, _, _, _, rfl, h⟩
  · cases h
theorem mq_vr_inv {st : List Value} {f} {o : mq_O} (h : mq_vr st f = some o) : ∃ v k r, st = v :: .ref k :: r ∧ f v k r = some o := by
  unfold mq_vr at h; split at h
  · exact ⟨_, _, _, rfl, h⟩
  · cases h
/-! locals: by place; a long's second place is marked -/
def mq_un : Value := .retAddr 0
def mq_clr (ls : List Value) (i : Nat) : List Value := match i with
  | 0 => ls
  | j + 1 => match ls[j]? with
    | some (.long _) => ls.set j mq_un
    | some (.double _) => ls.set j mq_un
    | _ => ls
def mq_sto (ls : List Value) (i : Nat) (v : Value) : List Value := (mq_clr ls i).set i v
def mq_sto2 (ls : List Value) (i : Nat) (v : Value) : List Value := ((mq_clr ls i).set i v).set (i + 1) mq_un
def mq_lay : List Value → List Value
  | [] => []
  | .long x :: vs => .long x :: mq_un :: mq_lay vs
  | .double x :: vs => .double x :: mq_un :: mq_lay vs
  | v :: vs => v :: mq_lay vs
def mq_pad : List Value → Nat → List Value
  | ls, 0 => ls
  | [], n + 1 => mq_un :: mq_pad [] n
  | v :: vs, n + 1 => v :: mq_pad vs n
def mq_ent (n : Nat) (avs : List Value) : List Value := mq_pad (mq_lay avs) n
def mq_cat : List Value → Nat
  | [] => 0
  | v :: vs => v.category + mq_cat vs
/-! an array of int or byte at a reference -/
def mq_arr (h : mq_H) (k : Nat) : Option (Bool × Nat × (Nat → Int32)) := if k < h.2.1 then match h.1 k with
    | .inl a => some a
    | .inr _ => none
  else none
def mq_obj (h : mq_H) (k : Nat) : Option (Nat × List Value) := if k < h.2.1 then match h.1 k with
    | .inl _ => none
    | .inr o => some o
  else none
/-- the same, for reading: the script too -/
def mq_arrR (h : mq_H) (k : Nat) : Option (Bool × Nat × (Nat → Int32)) := if k < h.2.1 ∨ k = mq_SCR then match h.1 k with
    | .inl a => some a
    | .inr _ => none
  else none
/-- is it an index of a row of n -/
def mq_inb (i : Int32) (n : Nat) : Bool := !(decide (i < 0)) && decide (i.toNatClampNeg < n)
theorem mq_inb_in {i : Int32} {n : Nat} (h : mq_inb i n = true) : vp_in i n := by
  simp only [mq_inb, Bool.and_eq_true, Bool.not_eq_true', decide_eq_false_iff_not, decide_eq_true_eq] at h
  exact fun q => q.elim h.1 (fun z => absurd h.2 (Nat.not_lt.mpr z))
/-- may a value stand in a field of this kind: .int 0 an int, .int 1 a boolean, .null a reference -/
def mq_fit (kind v : Value) : Bool := match kind, v with
  | .int k, .int x => if k = 0 then true else x == 0 || x == 1
  | .null, .ref _ => true
  | _, _ => false
def mq_cmp (c : ClassFile.Cond) (x y : Int32) : Bool := match c with
  | .eq => decide (x = y)
  | .ne => decide (x ≠ y)
  | .lt => decide (x < y)
  | .ge => decide (y ≤ x)
  | .gt => decide (y < x)
  | .le => decide (x ≤ y)
/-- where a switch goes -/
def mq_tab (pc : Nat) (dflt lo hi : Int) (offs : Array Int) (x : Int) : Nat := if x < lo ∨ hi < x then ((pc : Int) + dflt).toNat else match offs[(x - lo).toNat]? with
  | some o => ((pc : Int) + o).toNat
  | none => 0
def mq_lkp (pc : Nat) (dflt : Int) (ps : List (Int × Int)) (x : Int) : Nat := ((pc : Int) + Op.lookupswitch.offset ps dflt x).toNat
/-- may a value be returned: kind 0 an int, 1 a boolean, 2 a long, 3 nothing -/
def mq_rok (kind : Nat) (r : Option Value) : Bool := match kind, r with
  | 0, some (.int _) => true
  | 1, some (.int x) => x == 0 || x == 1
  | 2, some (.long _) => true
  | 3, none => true
  | _, _ => false
