/-! A RUN OF THE SMALL MACHINE IS A RUN OF THE MACHINE -/
section MQ3
variable {p : Program} {l : Launch} {e : Env} {R : Room} {s : State} {mm : MethodId} {args : Array Value} {below : List Frame} {meth : Method} {c : Code} {H : Heap} {locs : List Loc} {cells slots : Nat} {Q : State → Prop}
variable {D : va_G} {cI cB : ClassId} {base b L : Nat} {xs : Nat → Int32}
variable {m pc d : Nat} {q : mq_I} {ls st ls' st' : List Value} {h h1 : mq_H} {pc' : Nat} {LS : Array Slot}
theorem mq_stepW (C0 : mq_Cx p R s mm args meth c m d) (hok : mq_ce m pc (some q) = true) (hs : mq_step d pc q ls st h = some (.inl (pc', ls', st', h1)))
    (hT : mq_ST D cI cB base b L xs s) (hI : mq_IV D cI cB base b L xs h H) (hS : va_S (fun q : Nat => base ≤ q) s.heap H locs) (hL : mq_L base b LS (mq_ml m) ls) (hEq : s.heap.size + cells = base + h.2.1) (hcc : cells + (h1.2.1 - h.2.1) ≤ R.cells) (hcs : slots + (h1.2.2 - h.2.2) ≤ R.slots)
    (k : mq_K p l e R s mm args below meth c cells slots Q D cI cB base b L xs m pc' ls' st' h h1) : W p l e R s mm args below meth c H locs cells slots Q (F0 mm pc LS (st.map (mq_cv base b))) := by
  obtain ⟨i, npc, t, v⟩ := q
  cases i
  case iload_n => exact mq_w_iload_n C0 hok hs hT hI hS hL hEq hcc hcs k
  case iload => exact mq_w_iload C0 hok hs hT hI hS hL hEq hcc hcs k
  case aload_n => exact mq_w_aload_n C0 hok hs hT hI hS hL hEq hcc hcs k
  case aload => exact mq_w_aload C0 hok hs hT hI hS hL hEq hcc hcs k
  case lload_n => exact mq_w_lload_n C0 hok hs hT hI hS hL hEq hcc hcs k
  case lload => exact mq_w_lload C0 hok hs hT hI hS hL hEq hcc hcs k
  case istore_n => exact mq_w_istore_n C0 hok hs hT hI hS hL hEq hcc hcs k
  case istore => exact mq_w_istore C0 hok hs hT hI hS hL hEq hcc hcs k
  case astore_n => exact mq_w_astore_n C0 hok hs hT hI hS hL hEq hcc hcs k
  case astore => exact mq_w_astore C0 hok hs hT hI hS hL hEq hcc hcs k
  case lstore_n => exact mq_w_lstore_n C0 hok hs hT hI hS hL hEq hcc hcs k
  case lstore => exact mq_w_lstore C0 hok hs hT hI hS hL hEq hcc hcs k
  case iconst => exact mq_w_iconst C0 hok hs hT hI hS hL hEq hcc hcs k
  case bipush => exact mq_w_bipush C0 hok hs hT hI hS hL hEq hcc hcs k
  case sipush => exact mq_w_sipush C0 hok hs hT hI hS hL hEq hcc hcs k
  case lconst => exact mq_w_lconst C0 hok hs hT hI hS hL hEq hcc hcs k
  case ldc => exact mq_w_ldc C0 hok hs hT hI hS hL hEq hcc hcs k
  case ldc_w => exact mq_w_ldc_w C0 hok hs hT hI hS hL hEq hcc hcs k
  case ldc2_w => exact mq_w_ldc2_w C0 hok hs hT hI hS hL hEq hcc hcs k
  case iadd => exact mq_w_iadd C0 hok hs hT hI hS hL hEq hcc hcs k
  case isub => exact mq_w_isub C0 hok hs hT hI hS hL hEq hcc hcs k
  case imul => exact mq_w_imul C0 hok hs hT hI hS hL hEq hcc hcs k
  case idiv => exact mq_w_idiv C0 hok hs hT hI hS hL hEq hcc hcs k
  case irem => exact mq_w_irem C0 hok hs hT hI hS hL hEq hcc hcs k
  case ineg => exact mq_w_ineg C0 hok hs hT hI hS hL hEq hcc hcs k
  case ishl => exact mq_w_ishl C0 hok hs hT hI hS hL hEq hcc hcs k
  case ishr => exact mq_w_ishr C0 hok hs hT hI hS hL hEq hcc hcs k
  case iushr => exact mq_w_iushr C0 hok hs hT hI hS hL hEq hcc hcs k
  case iand => exact mq_w_iand C0 hok hs hT hI hS hL hEq hcc hcs k
  case ior => exact mq_w_ior C0 hok hs hT hI hS hL hEq hcc hcs k
  case ixor => exact mq_w_ixor C0 hok hs hT hI hS hL hEq hcc hcs k
  case i2b => exact mq_w_i2b C0 hok hs hT hI hS hL hEq hcc hcs k
  case l2i => exact mq_w_l2i C0 hok hs hT hI hS hL hEq hcc hcs k
  case ladd => exact mq_w_ladd C0 hok hs hT hI hS hL hEq hcc hcs k
  case lsub => exact mq_w_lsub C0 hok hs hT hI hS hL hEq hcc hcs k
  case land => exact mq_w_land C0 hok hs hT hI hS hL hEq hcc hcs k
  case lor => exact mq_w_lor C0 hok hs hT hI hS hL hEq hcc hcs k
  case lxor => exact mq_w_lxor C0 hok hs hT hI hS hL hEq hcc hcs k
  case lneg => exact mq_w_lneg C0 hok hs hT hI hS hL hEq hcc hcs k
  case lshl => exact mq_w_lshl C0 hok hs hT hI hS hL hEq hcc hcs k
  case lshr => exact mq_w_lshr C0 hok hs hT hI hS hL hEq hcc hcs k
  case lushr => exact mq_w_lushr C0 hok hs hT hI hS hL hEq hcc hcs k
  case lcmp => exact mq_w_lcmp C0 hok hs hT hI hS hL hEq hcc hcs k
  case dup => exact mq_w_dup C0 hok hs hT hI hS hL hEq hcc hcs k
  case dup2 => exact mq_w_dup2 C0 hok hs hT hI hS hL hEq hcc hcs k
  case pop => exact mq_w_pop C0 hok hs hT hI hS hL hEq hcc hcs k
  case goto => exact mq_w_goto C0 hok hs hT hI hS hL hEq hcc hcs k
  case getfield => exact mq_w_getfield C0 hok hs hT hI hS hL hEq hcc hcs k
  case putfield => exact mq_w_putfield C0 hok hs hT hI hS hL hEq hcc hcs k
  case iaload => exact mq_w_iaload C0 hok hs hT hI hS hL hEq hcc hcs k
  case baload => exact mq_w_baload C0 hok hs hT hI hS hL hEq hcc hcs k
  case iastore => exact mq_w_iastore C0 hok hs hT hI hS hL hEq hcc hcs k
  case bastore => exact mq_w_bastore C0 hok hs hT hI hS hL hEq hcc hcs k
  case arraylength => exact mq_w_arraylength C0 hok hs hT hI hS hL hEq hcc hcs k
  case newarray => exact mq_w_newarray C0 hok hs hT hI hS hL hEq hcc hcs k
  case new => exact mq_w_new C0 hok hs hT hI hS hL hEq hcc hcs k
  case iinc => exact mq_w_iinc C0 hok hs hT hI hS hL hEq hcc hcs k
  case ifCond => exact mq_w_ifCond C0 hok hs hT hI hS hL hEq hcc hcs k
  case if_icmp => exact mq_w_if_icmp C0 hok hs hT hI hS hL hEq hcc hcs k
  case lookupswitch => exact mq_w_lookupswitch C0 hok hs hT hI hS hL hEq hcc hcs k
  case tableswitch => exact mq_w_tableswitch C0 hok hs hT hI hS hL hEq hcc hcs k
  case invokespecial j =>
    by_cases ht : t = 1000
    · exact mq_w_object ht C0 hok hs hT hI hS hL hEq hcc hcs k
    · dsimp only [mq_step] at hs
      rw [if_neg ht] at hs
      (repeat' split at hs) <;> cases hs
  case invokevirtual j =>
    dsimp only [mq_step] at hs
    (repeat' split at hs) <;> cases hs
  case invokestatic j =>
    by_cases ht : t = 1001
    · exact mq_w_copy ht C0 hok hs hT hI hS hL hEq hcc hcs k
    · by_cases ht2 : t = 1002
      · exact mq_w_max ht2 C0 hok hs hT hI hS hL hEq hcc hcs k
      · by_cases ht3 : t = 1003
        · exact mq_w_min ht3 C0 hok hs hT hI hS hL hEq hcc hcs k
        · dsimp only [mq_step] at hs
          rw [if_neg ht, if_neg ht2, if_neg ht3] at hs
          (repeat' split at hs) <;> cases hs
  case ireturn => dsimp only [mq_step] at hs; (repeat' split at hs) <;> cases hs
  case lreturn => dsimp only [mq_step] at hs; (repeat' split at hs) <;> cases hs
  case return_ => dsimp only [mq_step] at hs; (repeat' split at hs) <;> cases hs
  all_goals cases hs
end MQ3
theorem mq_step_mono {d pc : Nat} {q : mq_I} {ls st : List Value} {h : mq_H} {pc' : Nat} {ls' st' : List Value} {h1 : mq_H} (hs : mq_step d pc q ls st h = some (.inl (pc', ls', st', h1))) : h.2.1 ≤ h1.2.1 ∧ h.2.2 ≤ h1.2.2 := by
  obtain ⟨i, npc, t, v⟩ := q
  cases i <;> simp only [mq_step, mq_i1, mq_i2, mq_l1, mq_l2, mq_li, mq_r1, mq_ir, mq_iir, mq_vr, mq_nx, reduceCtorEq] at hs <;> (try (repeat' split at hs)) <;> simp only [Option.some.injEq, Sum.inl.injEq, Prod.mk.injEq, reduceCtorEq] at hs <;>
    (obtain ⟨-, -, -, rfl⟩ := hs; first | exact ⟨Nat.le_refl _, Nat.le_refl _⟩ | exact ⟨Nat.le_add_right _ _, Nat.le_add_right _ _⟩)
def mq_run : Nat → Nat → Nat → Nat → List Value → List Value → mq_H → Option (Option Value × mq_H)
  | 0, _, _, _, _, _, _ => none
  | f + 1, d, m, pc, ls, st, h => match mq_code m pc with
    | none => none
    | some q => match mq_step d pc q ls st h with
      | none => none
      | some (.inl (pc', ls', st', h')) => mq_run f d m pc' ls' st' h'
      | some (.inr (.inr r)) => some (r, h)
      | some (.inr (.inl (m', as, rest, ml))) => match d with
        | 0 => none
        | d' + 1 => if mq_cat as ≤ ml then match mq_run f d' m' 0 (mq_ent ml as) [] h with
            | none => none
            | some (r, h') => mq_run f (d' + 1) m q.2.1 ls (r.toList ++ rest) h'
          else none
theorem mq_run_mono : ∀ (f : Nat) {d m pc : Nat} {ls st : List Value} {h h' : mq_H} {r : Option Value}, mq_run f d m pc ls st h = some (r, h') → h.2.1 ≤ h'.2.1 ∧ h.2.2 ≤ h'.2.2 := by
  intro f
  induction f with
  | zero => intro d m pc ls st h h' r e; cases e
  | succ f ih =>
    intro d m pc ls st h h' r e
    unfold mq_run at e
    split at e
    · cases e
    · split at e
      · cases e
      next hs =>
        have a := mq_step_mono hs
        have b := ih e
        exact ⟨Nat.le_trans a.1 b.1, Nat.le_trans a.2 b.2⟩
      · cases e; exact ⟨Nat.le_refl _, Nat.le_refl _⟩
      · split at e
        · cases e
        · split at e
          · split at e
            · cases e
            next hr =>
              have a := ih hr
              have b := ih e
              exact ⟨Nat.le_trans a.1 b.1, Nat.le_trans a.2 b.2⟩
          · cases e
