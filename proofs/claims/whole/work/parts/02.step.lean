/-! one step: d is how many calls may still stand open above this one; the entry q = (instruction, next pc, number, constant) -/
def mq_step (d pc : Nat) (q : mq_I) (ls st : List Value) (h : mq_H) : Option mq_O := match q with
  | (i, npc, t, v) => match i with
    | .iload_n _ => (match ls[t]? with | some (.int x) => mq_nx npc ls (.int x :: st) h | _ => none)
    | .iload _ => (match ls[t]? with | some (.int x) => mq_nx npc ls (.int x :: st) h | _ => none)
    | .aload_n _ => (match ls[t]? with | some (.ref x) => mq_nx npc ls (.ref x :: st) h | _ => none)
    | .aload _ => (match ls[t]? with | some (.ref x) => mq_nx npc ls (.ref x :: st) h | _ => none)
    | .lload_n _ => (match ls[t]? with | some (.long x) => mq_nx npc ls (.long x :: st) h | _ => none)
    | .lload _ => (match ls[t]? with | some (.long x) => mq_nx npc ls (.long x :: st) h | _ => none)
    | .istore_n _ => mq_i1 st fun x r => mq_nx npc (mq_sto ls t (.int x)) r h
    | .istore _ => mq_i1 st fun x r => mq_nx npc (mq_sto ls t (.int x)) r h
    | .astore_n _ => mq_r1 st fun x r => mq_nx npc (mq_sto ls t (.ref x)) r h
    | .astore _ => mq_r1 st fun x r => mq_nx npc (mq_sto ls t (.ref x)) r h
    | .lstore_n _ => mq_l1 st fun x r => mq_nx npc (mq_sto2 ls t (.long x)) r h
    | .lstore _ => mq_l1 st fun x r => mq_nx npc (mq_sto2 ls t (.long x)) r h
    | .iinc _ _ => (match ls[t]?, v with | some (.int x), .int z => mq_nx npc (mq_sto ls t (.int (x + z))) st h | _, _ => none)
    | .iconst _ => mq_nx npc ls (v :: st) h
    | .bipush _ => mq_nx npc ls (v :: st) h
    | .sipush _ => mq_nx npc ls (v :: st) h
    | .lconst _ => mq_nx npc ls (v :: st) h
    | .ldc _ => mq_nx npc ls (v :: st) h
    | .ldc_w _ => mq_nx npc ls (v :: st) h
    | .ldc2_w _ => mq_nx npc ls (v :: st) h
    | .iadd => mq_i2 st fun x y r => mq_nx npc ls (.int (x + y) :: r) h
    | .isub => mq_i2 st fun x y r => mq_nx npc ls (.int (x - y) :: r) h
    | .imul => mq_i2 st fun x y r => mq_nx npc ls (.int (x * y) :: r) h
    | .idiv => mq_i2 st fun x y r => if y = 0 then none else mq_nx npc ls (.int (x / y) :: r) h
    | .irem => mq_i2 st fun x y r => if y = 0 then none else mq_nx npc ls (.int (x % y) :: r) h
    | .ineg => mq_i1 st fun x r => mq_nx npc ls (.int (-x) :: r) h
    | .ishl => mq_i2 st fun x y r => mq_nx npc ls (.int (x <<< (y &&& 31)) :: r) h
    | .ishr => mq_i2 st fun x y r => mq_nx npc ls (.int (x >>> (y &&& 31)) :: r) h
    | .iushr => mq_i2 st fun x y r => mq_nx npc ls (.int (x.toUInt32 >>> (y.toUInt32 &&& Int32.toUInt32 31)).toInt32 :: r) h
    | .iand => mq_i2 st fun x y r => mq_nx npc ls (.int (x &&& y) :: r) h
    | .ior => mq_i2 st fun x y r => mq_nx npc ls (.int (x ||| y) :: r) h
    | .ixor => mq_i2 st fun x y r => mq_nx npc ls (.int (x ^^^ y) :: r) h
    | .i2b => mq_i1 st fun x r => mq_nx npc ls (.int x.toInt8.toInt32 :: r) h
    | .l2i => mq_l1 st fun x r => mq_nx npc ls (.int x.toInt32 :: r) h
    | .ladd => mq_l2 st fun x y r => mq_nx npc ls (.long (x + y) :: r) h
    | .lsub => mq_l2 st fun x y r => mq_nx npc ls (.long (x - y) :: r) h
    | .land => mq_l2 st fun x y r => mq_nx npc ls (.long (x &&& y) :: r) h
    | .lor => mq_l2 st fun x y r => mq_nx npc ls (.long (x ||| y) :: r) h
    | .lxor => mq_l2 st fun x y r => mq_nx npc ls (.long (x ^^^ y) :: r) h
    | .lneg => mq_l1 st fun x r => mq_nx npc ls (.long (-x) :: r) h
    | .lshl => mq_li st fun x y r => mq_nx npc ls (.long (x <<< (y.toInt64 &&& 63)) :: r) h
    | .lshr => mq_li st fun x y r => mq_nx npc ls (.long (x >>> (y.toInt64 &&& 63)) :: r) h
    | .lushr => mq_li st fun x y r => mq_nx npc ls (.long (x.toUInt64 >>> (y.toInt64.toUInt64 &&& Int64.toUInt64 63)).toInt64 :: r) h
    | .lcmp => mq_l2 st fun x y r => mq_nx npc ls (.int (lg_cmp x y) :: r) h
    | .dup => (match st with | w :: r => if w.category = 1 then mq_nx npc ls (w :: w :: r) h else none | _ => none)
    | .dup2 => (match st with | w1 :: w2 :: r => if w1.category = 1 ∧ w2.category = 1 then mq_nx npc ls (w1 :: w2 :: w1 :: w2 :: r) h else none | _ => none)
    | .pop => (match st with | w :: r => if w.category = 1 then mq_nx npc ls r h else none | _ => none)
    | .goto _ => mq_nx t ls st h
    | .ifCond c _ => mq_i1 st fun x r => if mq_cmp c x 0 = true then mq_nx t ls r h else mq_nx npc ls r h
    | .if_icmp c _ => mq_i2 st fun x y r => if mq_cmp c x y = true then mq_nx t ls r h else mq_nx npc ls r h
    | .tableswitch df lo hi os => mq_i1 st fun x r => mq_nx (mq_tab pc df lo hi os x.toInt) ls r h
    | .lookupswitch df ps => mq_i1 st fun x r => mq_nx (mq_lkp pc df ps.toList x.toInt) ls r h
    | .getfield _ => mq_r1 st fun k r => (match mq_obj h k with
      | some (ci, fs) => if ci = t / 64 then (match fs[t % 64]? with | some w => mq_nx npc ls (w :: r) h | none => none) else none
      | none => none)
    | .putfield _ => mq_vr st fun w k r => (match mq_obj h k with
      | some (ci, fs) => if ci = t / 64 ∧ t % 64 < fs.length ∧ mq_fit v w = true then mq_nx npc ls r (mq_put h k (.inr (ci, fs.set (t % 64) w))) else none
      | none => none)
    | .iaload => mq_ir st fun i k r => (match mq_arrR h k with
      | some (bt, n, f) => if bt = false ∧ mq_inb i n = true then mq_nx npc ls (.int (f i.toNatClampNeg) :: r) h else none
      | none => none)
    | .baload => mq_ir st fun i k r => (match mq_arr h k with
      | some (bt, n, f) => if bt = true ∧ mq_inb i n = true then mq_nx npc ls (.int (f i.toNatClampNeg) :: r) h else none
      | none => none)
    | .iastore => mq_iir st fun x i k r => (match mq_arr h k with
      | some (bt, n, f) => if bt = false ∧ mq_inb i n = true then mq_nx npc ls r (mq_put h k (.inl (false, n, upd f i.toNatClampNeg x))) else none
      | none => none)
    | .bastore => mq_iir st fun x i k r => (match mq_arr h k with
      | some (bt, n, f) => if bt = true ∧ mq_inb i n = true then mq_nx npc ls r (mq_put h k (.inl (true, n, upd f i.toNatClampNeg (vp_nar .byte x)))) else none
      | none => none)
    | .arraylength => mq_r1 st fun k r => (match mq_arrR h k with
      | some (_, n, _) => mq_nx npc ls (.int (Int32.ofNat n) :: r) h
      | none => none)
    | .newarray _ => mq_i1 st fun x r => if ¬ x < 0 ∧ x.toNatClampNeg ≤ 100000 ∧ h.2.1 + 1 < mq_SCR then
        mq_nx npc ls (.ref h.2.1 :: r) (mq_add h (.inl (decide (t = 1), x.toNatClampNeg, fun _ => 0)) x.toNatClampNeg) else none
    | .new _ => (match v with
      | .retAddr n => if h.2.1 + 1 < mq_SCR then mq_nx npc ls (.ref h.2.1 :: st) (mq_add h (.inr (t, mq_df t)) n) else none
      | _ => none)
    | .invokespecial _ => (if t = 1000 then (match d with
        | 0 => none
        | _ + 1 => mq_r1 st fun _ r => if mq_cat r ≤ 8 then mq_nx npc ls r h else none)
      else (match v with
        | .retAddr n => if n % 16 ≤ st.length ∧ mq_cat (st.drop (n % 16)) ≤ 8 then (match (st.take (n % 16)).reverse with
            | .ref k :: as => some (.inr (.inl (t, .ref k :: as, st.drop (n % 16), n / 16 % 64)))
            | _ => none) else none
        | _ => none))
    | .invokevirtual _ => (match v with
        | .retAddr n => if n % 16 ≤ st.length ∧ mq_cat (st.drop (n % 16)) ≤ 8 then (match (st.take (n % 16)).reverse with
            | .ref k :: as => (match mq_obj h k with
              | some (ci, _) => if ci = n / 1024 then some (.inr (.inl (t, .ref k :: as, st.drop (n % 16), n / 16 % 64))) else none
              | none => none)
            | _ => none) else none
        | _ => none)
    | .invokestatic _ => (if t = 1001 then (match d, st with
        | _ + 1, .int n :: .int dp :: .ref kd :: .int sp :: .ref ks :: r => (match mq_arr h ks, mq_arr h kd with
          | some (b0, n0, f), some (b1, n1, g) => if b0 = false ∧ b1 = false ∧ ¬ sp < 0 ∧ ¬ dp < 0 ∧ ¬ n < 0 ∧ sp.toNatClampNeg + n.toNatClampNeg ≤ n0 ∧ dp.toNatClampNeg + n.toNatClampNeg ≤ n1 ∧ mq_cat r ≤ 8 then
              mq_nx npc ls r (mq_put h kd (.inl (false, n1, va_cpy f g sp.toNatClampNeg dp.toNatClampNeg n.toNatClampNeg))) else none
          | _, _ => none)
        | _, _ => none)
      else if t = 1002 then (match d with
        | 0 => none
        | _ + 1 => mq_i2 st fun x y r => if mq_cat r ≤ 8 then mq_nx npc ls (.int (if x < y then y else x) :: r) h else none)
      else if t = 1003 then (match d with
        | 0 => none
        | _ + 1 => mq_i2 st fun x y r => if mq_cat r ≤ 8 then mq_nx npc ls (.int (if y < x then y else x) :: r) h else none)
      else (match v with
        | .retAddr n => if n % 16 ≤ st.length ∧ mq_cat (st.drop (n % 16)) ≤ 8 then some (.inr (.inl (t, (st.take (n % 16)).reverse, st.drop (n % 16), n / 16 % 64))) else none
        | _ => none))
    | .ireturn => (match st with | [w] => if mq_rok t (some w) = true then some (.inr (.inr (some w))) else none | _ => none)
    | .lreturn => (match st with | [w] => if mq_rok t (some w) = true then some (.inr (.inr (some w))) else none | _ => none)
    | .return_ => (match st with | [] => if mq_rok t none = true then some (.inr (.inr none)) else none | _ => none)
    | _ => none
