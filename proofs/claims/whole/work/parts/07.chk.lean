/-! what is looked at of a table's entry -/
def mq_len : Instr → Nat
  | .iload _ | .aload _ | .lload _ | .istore _ | .astore _ | .lstore _ | .bipush _ | .ldc _ | .newarray _ => 2
  | .iinc _ _ | .sipush _ | .ldc_w _ | .ldc2_w _ | .goto _ | .ifCond _ _ | .if_icmp _ _ | .getfield _ | .putfield _ | .new _ | .invokespecial _ | .invokevirtual _ | .invokestatic _ => 3
  | .tableswitch _ _ _ _ | .lookupswitch _ _ => 0
  | _ => 1
def mq_rk : Option FieldType → Nat
  | some .int => 0
  | some .boolean => 1
  | some .long => 2
  | none => 3
  | _ => 4
def mq_fk : FieldType → Value
  | .int => .int 0
  | .boolean => .int 1
  | .object _ => .null
  | .array _ => .null
  | _ => .long 0
def mq_hasM (o x t : Nat) : Bool := mq_ML.any fun r => r.1 == o && r.2.1 == x && r.2.2.1 == t
def mq_hasN (o x t : Nat) : Bool := mq_NL.any fun r => r.1 == o && r.2.1 == x && r.2.2.1 == t
def mq_hasF (o x t : Nat) : Bool := decide (t / 64 < 13) && decide (t / 64 ≠ 2) && decide (t % 64 < mq_N (t / 64)) && mq_FL.any fun r => r.1 == o && r.2.1 == x && r.2.2.1 == t / 64 && r.2.2.2.1 == t % 64
def mq_has2 (l : List (Nat × Nat × Nat)) (o x : Nat) : Bool := l.any fun r => r.1 == o && r.2.1 == x
def mq_cv0 (t n : Nat) : Value := .retAddr (mq_np t + n + 16 * mq_ml t + 1024 * mq_own t)
def mq_chk (m pc : Nat) (q : mq_I) : Bool := match q with
  | (i, npc, t, v) => (mq_len i == 0 || npc == pc + mq_len i) && match i with
    | .iload_n k | .aload_n k | .lload_n k => k.val == t
    | .iload k | .aload k | .lload k => k == t
    | .istore_n k | .astore_n k => k.val == t && decide (t < mq_ml m)
    | .istore k | .astore k => k == t && decide (t < mq_ml m)
    | .lstore_n k => k.val == t && decide (t + 1 < mq_ml m)
    | .lstore k => k == t && decide (t + 1 < mq_ml m)
    | .iinc k n => k == t && decide (t < mq_ml m) && decide (v = .int (Int32.ofInt n))
    | .iconst n => decide (v = .int (Int32.ofInt n))
    | .bipush n => decide (v = .int (Int8.ofInt n).toInt32)
    | .sipush n => decide (v = .int (Int16.ofInt n).toInt32)
    | .lconst n => decide (v = .long (Int64.ofNat n.val))
    | .ldc x | .ldc_w x => (match v with | .int z => mq_KI.any fun r => r.1 == mq_own m && r.2.1 == x && r.2.2.1 == z | _ => false)
    | .ldc2_w x => (match v with | .long z => mq_KL.any fun r => r.1 == mq_own m && r.2.1 == x && r.2.2.1 == z | _ => false)
    | .goto o => decide ((pc : Int) + o = (t : Int))
    | .ifCond _ o => decide ((pc : Int) + o = (t : Int))
    | .if_icmp _ o => decide ((pc : Int) + o = (t : Int))
    | .tableswitch df lo hi os => decide (0 ≤ (pc : Int) + df) && os.toList.all (fun o => decide (0 ≤ (pc : Int) + o)) && decide ((os.size : Int) = hi - lo + 1)
    | .lookupswitch df ps => decide (0 ≤ (pc : Int) + df) && ps.toList.all (fun o => decide (0 ≤ (pc : Int) + o.2)) && (ps.toList.zip (ps.toList.drop 1)).all (fun (a, next) => a.1 < next.1)
    | .getfield x => mq_hasF (mq_own m) x t
    | .putfield x => mq_hasF (mq_own m) x t && decide (v = mq_fk (mq_ty (t / 64) (t % 64))) && (!(mq_T (t / 64) (t % 64)).2.2.2 || (decide (mq_kd m = 1) && decide (mq_own m = t / 64)))
      && decide ((mq_T (t / 64) (t % 64)).1 = mq_cn (t / 64))
    | .newarray a => decide (t ≤ 1) && decide (Op.newarray.typeOf a = if t = 1 then .byte else .int)
    | .new x => decide (t < 13) && decide (t ≠ 2) && decide (v = .retAddr (mq_N t)) && mq_CL.any fun r => r.1 == mq_own m && r.2.1 == x && r.2.2.1 == t
    | .invokespecial x => if t = 1000 then mq_has2 mq_OL (mq_own m) x else decide (t < 263) && decide (mq_kd t = 1) && decide (v = mq_cv0 t 1) && (mq_hasM (mq_own m) x t || mq_hasN (mq_own m) x t)
    | .invokevirtual x => decide (t < 263) && decide (mq_kd t = 2) && decide (v = mq_cv0 t 1) && mq_hasM (mq_own m) x t
    | .invokestatic x => if t = 1001 then mq_has2 mq_AL (mq_own m) x else if t = 1002 then mq_has2 mq_XL (mq_own m) x else if t = 1003 then mq_has2 mq_IL (mq_own m) x
      else decide (t < 263) && decide (mq_kd t = 0) && decide (v = mq_cv0 t 0) && (mq_hasM (mq_own m) x t || mq_hasN (mq_own m) x t)
    | .ireturn => decide (t = mq_rk (mq_rt m)) && decide (t ≤ 1)
    | .lreturn => decide (t = mq_rk (mq_rt m)) && decide (t = 2)
    | .return_ => decide (t = mq_rk (mq_rt m)) && decide (t = 3)
    | _ => true
def mq_ce (m pc : Nat) (o : Option mq_I) : Bool := match o with
  | none => true
  | some q => decide (decode (mq_b m) pc = .ok (q.1, q.2.1 - pc)) && decide (pc ≤ q.2.1) && mq_chk m pc q
def mq_gd (n pc : Nat) (x : Option mq_I) : Option mq_I := bif Nat.blt pc n then x else none
theorem mq_gd_out {n pc : Nat} {x : Option mq_I} (h : n ≤ pc) : mq_gd n pc x = none := by
  unfold mq_gd
  have e : Nat.blt pc n = false := by
    cases q : Nat.blt pc n with
    | false => rfl
    | true => exact absurd (Nat.le_of_ble_eq_true q) (by omega)
  rw [e]; rfl
def mq_fine (m : Nat) (c : Nat → Option mq_I) : Prop := ∀ pc q, c pc = some q → mq_ce m pc (some q) = true
theorem mq_fine_of {m n : Nat} {c : Nat → Option mq_I} (ho : ∀ pc, n ≤ pc → c pc = none) (hk : (List.range n).all (fun pc => mq_ce m pc (c pc)) = true) : mq_fine m c := by
  intro pc q e
  by_cases h : pc < n
  · have := List.all_eq_true.mp hk pc (List.mem_range.mpr h)
    rwa [e] at this
  · rw [ho pc (by omega)] at e; cases e
theorem mq_rg {f : Nat → Bool} {s k pc : Nat} (h : (List.range' s k).all f = true) (h1 : ¬ pc < s) (h2 : pc < s + k) : f pc = true :=
  List.all_eq_true.mp h pc (by rw [List.mem_range'_1]; omega)
theorem mq_fine_by {m n : Nat} {c : Nat → Option mq_I} (ho : ∀ pc, n ≤ pc → c pc = none) (hk : ∀ pc, pc < n → mq_ce m pc (c pc) = true) : mq_fine m c := by
  intro pc q e
  by_cases h : pc < n
  · have := hk pc h
    rwa [e] at this
  · rw [ho pc (by omega)] at e; cases e
