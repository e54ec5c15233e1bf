theorem pu_named {L d m pc : Nat} {ls st : List Value} {M : pu_M} {Q : Option Value → pu_M → Prop} (k : ∀ M2, M2 = M → pu_R L d m pc ls st M2 Q) : pu_R L d m pc ls st M Q := k M rfl
theorem pu_put_hw {M : pu_M} {k j : Nat} {z : Int32} : pu_val (pu_wr M k j z) k j 0 = .int z := by rw [pu_val_i, pu_wr_at]
theorem pu_put_hd {M : pu_M} {k j a : Nat} (h : a < 2 ^ 31) : pu_val (pu_wr M k j (nI a)) k j 1 = .ref a := pu_val_d (pu_wr_at M k j (nI a)) h
theorem pu_fitZ {x : Int32} (h : x = 0 ∨ x = 1) : mq_fit (.int 1) (.int x) = true := by rcases h with rfl | rfl <;> rfl
theorem pu_tabD {pc : Nat} {df lo hi : Int} {os : Array Int} {x : Int32} (cs : List Int32) (h : ∀ c ∈ cs, ¬ x = c) (hs : ((os.size : Int) == hi - lo + 1 && (List.range os.size).all (fun i => os[i]? == some df || cs.any (fun c => c.toInt == lo + i))) = true) : mq_tab pc df lo hi os x.toInt = ((pc : Int) + df).toNat := by
  simp only [Bool.and_eq_true, beq_iff_eq] at hs
  obtain ⟨hz, hs⟩ := hs
  unfold mq_tab
  split
  · rfl
  next hc =>
    split
    next o ho =>
      have hi : (x.toInt - lo).toNat < os.size := (Array.getElem?_eq_some_iff.mp ho).1
      have := List.all_eq_true.mp hs (x.toInt - lo).toNat (List.mem_range.mpr hi)
      rw [ho] at this
      simp only [Bool.or_eq_true, beq_iff_eq, Option.some.injEq, List.any_eq_true] at this
      rcases this with rfl | ⟨c, hm, hc2⟩
      · rfl
      · exact absurd (Int32.toInt_inj.mp (by omega)) (h c hm)
    next ho =>
      exfalso
      have := Array.getElem?_eq_none_iff.mp ho
      omega
theorem pu_lkpD {pc : Nat} {df : Int} {x : Int32} : ∀ {ps : List (Int × Int)} (cs : List Int32) (_ : ∀ c ∈ cs, ¬ x = c) (_ : ps.all (fun q => cs.any (fun c => c.toInt == q.1)) = true), mq_lkp pc df ps x.toInt = ((pc : Int) + df).toNat
  | [], _, _, _ => rfl
  | (a, o) :: ps, cs, h, hs => by
    rw [List.all_cons, Bool.and_eq_true] at hs
    obtain ⟨h0, hs⟩ := hs
    obtain ⟨c, hc, e⟩ := List.any_eq_true.mp h0
    rw [beq_iff_eq] at e
    have ih := pu_lkpD (pc := pc) (df := df) cs h hs
    unfold mq_lkp at ih ⊢
    rw [Op.lookupswitch.offset_cons, if_neg]
    · exact ih
    · intro z
      exact h c hc (Int32.toInt_inj.mp (by omega))
