/-! RUNS, by what holds at their end -/
theorem mq_run_more : ∀ (f : Nat) {d m pc : Nat} {ls st : List Value} {h : mq_H} {o : Option Value × mq_H} (k : Nat), mq_run f d m pc ls st h = some o → mq_run (f + k) d m pc ls st h = some o := by
  intro f
  induction f with
  | zero => intro d m pc ls st h o k e; cases e
  | succ f ih =>
    intro d m pc ls st h o k e
    rw [show f + 1 + k = (f + k) + 1 by omega]
    unfold mq_run at e ⊢
    split at e
    · cases e
    next q hq =>
      first | rw [hq] | skip
      try dsimp only
      split at e
      · cases e
      next hs => first | (rw [hs]; exact ih k e) | exact ih k e
      next hs => first | (rw [hs]; exact e) | exact e
      next hs =>
        first | rw [hs] | skip
        try dsimp only
        split at e
        · cases e
        next d =>
          split at e
          next hc =>
            rw [if_pos hc]
            split at e
            · cases e
            next hr =>
              rw [ih k hr]
              exact ih k e
          next => cases e
def pu_R (L d m pc : Nat) (ls st : List Value) (M : pu_M) (Q : Option Value → pu_M → Prop) : Prop := ∃ (f : Nat) (r : Option Value) (M' : pu_M), mq_run f d m pc ls st (pu_hp L M) = some (r, pu_hp L M') ∧ Q r M'
def pu_qI (Q : Int32 → pu_M → Prop) : Option Value → pu_M → Prop := fun r M => ∃ x, r = some (.int x) ∧ Q x M
def pu_qJ (Q : Int64 → pu_M → Prop) : Option Value → pu_M → Prop := fun r M => ∃ x, r = some (.long x) ∧ Q x M
def pu_qV (Q : pu_M → Prop) : Option Value → pu_M → Prop := fun r M => r = none ∧ Q M
/-- a call: of a method that answers an int (or a boolean), a long, nothing -/
def pu_I (L d m : Nat) (as : List Value) (M : pu_M) (Q : Int32 → pu_M → Prop) : Prop := pu_R L d m 0 (mq_ent (mq_ml m) as) [] M (pu_qI Q)
def pu_J (L d m : Nat) (as : List Value) (M : pu_M) (Q : Int64 → pu_M → Prop) : Prop := pu_R L d m 0 (mq_ent (mq_ml m) as) [] M (pu_qJ Q)
def pu_V (L d m : Nat) (as : List Value) (M : pu_M) (Q : pu_M → Prop) : Prop := pu_R L d m 0 (mq_ent (mq_ml m) as) [] M (pu_qV Q)
theorem pu_R.mono {L d m pc : Nat} {ls st : List Value} {M : pu_M} {Q Q' : Option Value → pu_M → Prop} (h : pu_R L d m pc ls st M Q) (k : ∀ r M', Q r M' → Q' r M') : pu_R L d m pc ls st M Q' := by
  obtain ⟨f, r, M', e, q⟩ := h
  exact ⟨f, r, M', e, k r M' q⟩
theorem pu_I.mono {L d m : Nat} {as : List Value} {M : pu_M} {Q Q' : Int32 → pu_M → Prop} (h : pu_I L d m as M Q) (k : ∀ x M', Q x M' → Q' x M') : pu_I L d m as M Q' :=
  pu_R.mono h (fun r M' ⟨x, e, q⟩ => ⟨x, e, k x M' q⟩)
theorem pu_J.mono {L d m : Nat} {as : List Value} {M : pu_M} {Q Q' : Int64 → pu_M → Prop} (h : pu_J L d m as M Q) (k : ∀ x M', Q x M' → Q' x M') : pu_J L d m as M Q' :=
  pu_R.mono h (fun r M' ⟨x, e, q⟩ => ⟨x, e, k x M' q⟩)
theorem pu_V.mono {L d m : Nat} {as : List Value} {M : pu_M} {Q Q' : pu_M → Prop} (h : pu_V L d m as M Q) (k : ∀ M', Q M' → Q' M') : pu_V L d m as M Q' :=
  pu_R.mono h (fun r M' ⟨e, q⟩ => ⟨e, k M' q⟩)
/-- k steps that stay in the method -/
def mq_go : Nat → Nat → Nat → Nat → List Value → List Value → mq_H → Option (Nat × List Value × List Value × mq_H)
  | 0, _, _, pc, ls, st, h => some (pc, ls, st, h)
  | k + 1, d, m, pc, ls, st, h => match mq_code m pc with
    | none => none
    | some q => match mq_step d pc q ls st h with
      | some (.inl (pc', ls', st', h')) => mq_go k d m pc' ls' st' h'
      | _ => none
theorem mq_go_run : ∀ (k : Nat) {f d m pc : Nat} {ls st : List Value} {h : mq_H} {pc' : Nat} {ls' st' : List Value} {h' : mq_H} {o : Option Value × mq_H}, mq_go k d m pc ls st h = some (pc', ls', st', h') → mq_run f d m pc' ls' st' h' = some o → mq_run (f + k) d m pc ls st h = some o := by
  intro k
  induction k with
  | zero => intro f d m pc ls st h pc' ls' st' h' o e1 e2; cases e1; exact e2
  | succ k ih =>
    intro f d m pc ls st h pc' ls' st' h' o e1 e2
    unfold mq_go at e1
    split at e1
    · cases e1
    next q hq =>
      split at e1
      next hs =>
        rw [show f + (k + 1) = (f + k) + 1 by omega]
        unfold mq_run
        rw [hq]
        dsimp only
        rw [hs]
        exact ih e1 e2
      next => cases e1
section PU
variable {L d m pc : Nat} {ls st : List Value} {M : pu_M} {Q : Option Value → pu_M → Prop} {npc t : Nat} {v : Value}
theorem pu_go (k : Nat) {pc' : Nat} {ls' st' : List Value} {M' : pu_M} (hs : mq_go k d m pc ls st (pu_hp L M) = some (pc', ls', st', pu_hp L M')) (r : pu_R L d m pc' ls' st' M' Q) : pu_R L d m pc ls st M Q := by
  obtain ⟨f, r, M', e, q⟩ := r
  exact ⟨f + k, r, M', mq_go_run k hs e, q⟩
theorem pu_one {q : mq_I} {pc' : Nat} {ls' st' : List Value} {M' : pu_M} (hc : mq_code m pc = some q) (hs : mq_step d pc q ls st (pu_hp L M) = some (.inl (pc', ls', st', pu_hp L M'))) (r : pu_R L d m pc' ls' st' M' Q) : pu_R L d m pc ls st M Q := by
  refine pu_go 1 ?_ r
  unfold mq_go
  rw [hc]
  dsimp only
  rw [hs]
  rfl
theorem pu_iald {k n : Nat} {i : Int32} (hc : mq_code m pc = some (.iaload, npc, t, v)) (hsh : pu_sh L k = .inl (false, n)) (hk : k < 90 ∨ k = mq_SCR) (hin : mq_inb i n = true) (r : pu_R L d m npc ls (.int (M k i.toNatClampNeg) :: st) M Q) : pu_R L d m pc ls (.int i :: .ref k :: st) M Q := by
  refine pu_one hc ?_ r
  simp only [mq_step, mq_ir, pu_arrR hsh hk, hin, and_self, if_true]
  rfl
theorem pu_bald {k n : Nat} {i : Int32} (hc : mq_code m pc = some (.baload, npc, t, v)) (hsh : pu_sh L k = .inl (true, n)) (hk : k < 90) (hin : mq_inb i n = true) (r : pu_R L d m npc ls (.int (M k i.toNatClampNeg) :: st) M Q) : pu_R L d m pc ls (.int i :: .ref k :: st) M Q := by
  refine pu_one hc ?_ r
  simp only [mq_step, mq_ir, pu_arr hsh hk, hin, and_self, if_true]
  rfl
theorem pu_iast {k n : Nat} {i x : Int32} (hc : mq_code m pc = some (.iastore, npc, t, v)) (hsh : pu_sh L k = .inl (false, n)) (hk : k < 90) (hin : mq_inb i n = true) (r : pu_R L d m npc ls st (pu_wr M k i.toNatClampNeg x) Q) : pu_R L d m pc ls (.int x :: .int i :: .ref k :: st) M Q := by
  refine pu_one hc ?_ r
  simp only [mq_step, mq_iir, pu_arr hsh hk, hin, and_self, if_true]
  rw [pu_putA hsh]
  rfl
theorem pu_bast {k n : Nat} {i x : Int32} (hc : mq_code m pc = some (.bastore, npc, t, v)) (hsh : pu_sh L k = .inl (true, n)) (hk : k < 90) (hin : mq_inb i n = true) (r : pu_R L d m npc ls st (pu_wr M k i.toNatClampNeg (vp_nar .byte x)) Q) : pu_R L d m pc ls (.int x :: .int i :: .ref k :: st) M Q := by
  refine pu_one hc ?_ r
  simp only [mq_step, mq_iir, pu_arr hsh hk, hin, and_self, if_true]
  rw [pu_putA hsh]
  rfl
theorem pu_alen {k n : Nat} {bt : Bool} (hc : mq_code m pc = some (.arraylength, npc, t, v)) (hsh : pu_sh L k = .inl (bt, n)) (hk : k < 90 ∨ k = mq_SCR) (r : pu_R L d m npc ls (.int (Int32.ofNat n) :: st) M Q) : pu_R L d m pc ls (.ref k :: st) M Q := by
  refine pu_one hc ?_ r
  simp only [mq_step, mq_r1, pu_arrR hsh hk]
  rfl
theorem pu_getf {k x ci j c : Nat} {cs : List Nat} {w : Value} (hc : mq_code m pc = some (.getfield x, npc, t, v)) (hsh : pu_sh L k = .inr (ci, cs)) (hk : k < 90) (ht : t = ci * 64 + j) (hj : j < 64) (hcj : cs[j]? = some c) (hw : pu_val M k j c = w) (r : pu_R L d m npc ls (w :: st) M Q) : pu_R L d m pc ls (.ref k :: st) M Q := by
  refine pu_one hc ?_ r
  have e1 : ci = t / 64 := by omega
  have e2 : t % 64 = j := by omega
  have e3 := pu_flds_get M k cs 0 j c hcj
  rw [Nat.zero_add, hw] at e3
  simp only [mq_step, mq_r1, pu_obj hsh hk]
  rw [if_pos e1, e2, e3]
  rfl
theorem pu_putf {k x ci j c : Nat} {cs : List Nat} {w : Value} {z : Int32} (hc : mq_code m pc = some (.putfield x, npc, t, v)) (hsh : pu_sh L k = .inr (ci, cs)) (hk : k < 90) (ht : t = ci * 64 + j) (hj : j < 64) (hcj : cs[j]? = some c) (hf : mq_fit v w = true) (hw : pu_val (pu_wr M k j z) k j c = w) (r : pu_R L d m npc ls st (pu_wr M k j z) Q) : pu_R L d m pc ls (w :: .ref k :: st) M Q := by
  refine pu_one hc ?_ r
  have e1 : ci = t / 64 := by omega
  have e2 : t % 64 = j := by omega
  have hl : j < cs.length := (List.getElem?_eq_some_iff.mp hcj).1
  simp only [mq_step, mq_vr, pu_obj hsh hk]
  rw [if_pos ⟨e1, by rw [e2, pu_flds_len]; exact hl, hf⟩, e2, pu_putF hsh hcj hw]
  rfl
theorem pu_val_i (M : pu_M) (k j : Nat) : pu_val M k j 0 = .int (M k j) := rfl
theorem pu_val_d {M : pu_M} {k j y : Nat} (e : M k j = nI y) (h : y < 2 ^ 31) : pu_val M k j 1 = .ref y := by
  show Value.ref (M k j).toNatClampNeg = _
  rw [e, nI_clamp h]
theorem pu_wr_at (M : pu_M) (k j : Nat) (x : Int32) : pu_wr M k j x k j = x := by simp [pu_wr]
theorem pu_copy {ks kd n0 n1 x : Nat} {sp dp n : Int32} (hc : mq_code m pc = some (.invokestatic x, npc, 1001, v)) (h0 : pu_sh L ks = .inl (false, n0)) (hk0 : ks < 90) (h1 : pu_sh L kd = .inl (false, n1)) (hk1 : kd < 90) (a1 : ¬ sp < 0) (a2 : ¬ dp < 0) (a3 : ¬ n < 0) (a4 : sp.toNatClampNeg + n.toNatClampNeg ≤ n0) (a5 : dp.toNatClampNeg + n.toNatClampNeg ≤ n1) (a6 : mq_cat st ≤ 8)
    (r : pu_R L (d + 1) m npc ls st (pu_wrA M kd (va_cpy (M ks) (M kd) sp.toNatClampNeg dp.toNatClampNeg n.toNatClampNeg)) Q) : pu_R L (d + 1) m pc ls (.int n :: .int dp :: .ref kd :: .int sp :: .ref ks :: st) M Q := by
  refine pu_one hc ?_ r
  simp only [mq_step, if_true, pu_arr h0 hk0, pu_arr h1 hk1]
  rw [if_pos ⟨trivial, trivial, a1, a2, a3, a4, a5, a6⟩, pu_putW h1]
  rfl
theorem pu_div {x y : Int32} (hc : mq_code m pc = some (.idiv, npc, t, v)) (hy : y ≠ 0) (r : pu_R L d m npc ls (.int (x / y) :: st) M Q) : pu_R L d m pc ls (.int y :: .int x :: st) M Q := by
  refine pu_one hc ?_ r
  simp only [mq_step, mq_i2, if_neg hy]
  rfl
theorem pu_rem {x y : Int32} (hc : mq_code m pc = some (.irem, npc, t, v)) (hy : y ≠ 0) (r : pu_R L d m npc ls (.int (x % y) :: st) M Q) : pu_R L d m pc ls (.int y :: .int x :: st) M Q := by
  refine pu_one hc ?_ r
  simp only [mq_step, mq_i2, if_neg hy]
  rfl
theorem pu_icmp_eq {x y : Int32} {o : Int} (hc : mq_code m pc = some (.if_icmp .eq o, npc, t, v)) (k1 : x = y → pu_R L d m t ls st M Q) (k2 : ¬ x = y → pu_R L d m npc ls st M Q) : pu_R L d m pc ls (.int y :: .int x :: st) M Q := by
  by_cases h : x = y
  · exact pu_one hc (if_pos (c := mq_cmp .eq x y = true) (decide_eq_true h)) (k1 h)
  · exact pu_one hc (if_neg (c := mq_cmp .eq x y = true) (fun z => h (of_decide_eq_true z))) (k2 h)
theorem pu_if_eq {x : Int32} {o : Int} (hc : mq_code m pc = some (.ifCond .eq o, npc, t, v)) (k1 : x = 0 → pu_R L d m t ls st M Q) (k2 : ¬ x = 0 → pu_R L d m npc ls st M Q) : pu_R L d m pc ls (.int x :: st) M Q := by
  by_cases h : x = 0
  · exact pu_one hc (if_pos (c := mq_cmp .eq x 0 = true) (decide_eq_true h)) (k1 h)
  · exact pu_one hc (if_neg (c := mq_cmp .eq x 0 = true) (fun z => h (of_decide_eq_true z))) (k2 h)
theorem pu_icmp_ne {x y : Int32} {o : Int} (hc : mq_code m pc = some (.if_icmp .ne o, npc, t, v)) (k1 : ¬ x = y → pu_R L d m t ls st M Q) (k2 : x = y → pu_R L d m npc ls st M Q) : pu_R L d m pc ls (.int y :: .int x :: st) M Q := by
  by_cases h : ¬ x = y
  · exact pu_one hc (if_pos (c := mq_cmp .ne x y = true) (decide_eq_true h)) (k1 h)
  · exact pu_one hc (if_neg (c := mq_cmp .ne x y = true) (fun z => h (of_decide_eq_true z))) (k2 (Decidable.of_not_not h))
theorem pu_if_ne {x : Int32} {o : Int} (hc : mq_code m pc = some (.ifCond .ne o, npc, t, v)) (k1 : ¬ x = 0 → pu_R L d m t ls st M Q) (k2 : x = 0 → pu_R L d m npc ls st M Q) : pu_R L d m pc ls (.int x :: st) M Q := by
  by_cases h : ¬ x = 0
  · exact pu_one hc (if_pos (c := mq_cmp .ne x 0 = true) (decide_eq_true h)) (k1 h)
  · exact pu_one hc (if_neg (c := mq_cmp .ne x 0 = true) (fun z => h (of_decide_eq_true z))) (k2 (Decidable.of_not_not h))
theorem pu_icmp_lt {x y : Int32} {o : Int} (hc : mq_code m pc = some (.if_icmp .lt o, npc, t, v)) (k1 : x < y → pu_R L d m t ls st M Q) (k2 : ¬ x < y → pu_R L d m npc ls st M Q) : pu_R L d m pc ls (.int y :: .int x :: st) M Q := by
  by_cases h : x < y
  · exact pu_one hc (if_pos (c := mq_cmp .lt x y = true) (decide_eq_true h)) (k1 h)
  · exact pu_one hc (if_neg (c := mq_cmp .lt x y = true) (fun z => h (of_decide_eq_true z))) (k2 h)
theorem pu_if_lt {x : Int32} {o : Int} (hc : mq_code m pc = some (.ifCond .lt o, npc, t, v)) (k1 : x < 0 → pu_R L d m t ls st M Q) (k2 : ¬ x < 0 → pu_R L d m npc ls st M Q) : pu_R L d m pc ls (.int x :: st) M Q := by
  by_cases h : x < 0
  · exact pu_one hc (if_pos (c := mq_cmp .lt x 0 = true) (decide_eq_true h)) (k1 h)
  · exact pu_one hc (if_neg (c := mq_cmp .lt x 0 = true) (fun z => h (of_decide_eq_true z))) (k2 h)
theorem pu_icmp_ge {x y : Int32} {o : Int} (hc : mq_code m pc = some (.if_icmp .ge o, npc, t, v)) (k1 : y ≤ x → pu_R L d m t ls st M Q) (k2 : ¬ y ≤ x → pu_R L d m npc ls st M Q) : pu_R L d m pc ls (.int y :: .int x :: st) M Q := by
  by_cases h : y ≤ x
  · exact pu_one hc (if_pos (c := mq_cmp .ge x y = true) (decide_eq_true h)) (k1 h)
  · exact pu_one hc (if_neg (c := mq_cmp .ge x y = true) (fun z => h (of_decide_eq_true z))) (k2 h)
theorem pu_if_ge {x : Int32} {o : Int} (hc : mq_code m pc = some (.ifCond .ge o, npc, t, v)) (k1 : 0 ≤ x → pu_R L d m t ls st M Q) (k2 : ¬ 0 ≤ x → pu_R L d m npc ls st M Q) : pu_R L d m pc ls (.int x :: st) M Q := by
  by_cases h : 0 ≤ x
  · exact pu_one hc (if_pos (c := mq_cmp .ge x 0 = true) (decide_eq_true h)) (k1 h)
  · exact pu_one hc (if_neg (c := mq_cmp .ge x 0 = true) (fun z => h (of_decide_eq_true z))) (k2 h)
theorem pu_icmp_gt {x y : Int32} {o : Int} (hc : mq_code m pc = some (.if_icmp .gt o, npc, t, v)) (k1 : y < x → pu_R L d m t ls st M Q) (k2 : ¬ y < x → pu_R L d m npc ls st M Q) : pu_R L d m pc ls (.int y :: .int x :: st) M Q := by
  by_cases h : y < x
  · exact pu_one hc (if_pos (c := mq_cmp .gt x y = true) (decide_eq_true h)) (k1 h)
  · exact pu_one hc (if_neg (c := mq_cmp .gt x y = true) (fun z => h (of_decide_eq_true z))) (k2 h)
theorem pu_if_gt {x : Int32} {o : Int} (hc : mq_code m pc = some (.ifCond .gt o, npc, t, v)) (k1 : 0 < x → pu_R L d m t ls st M Q) (k2 : ¬ 0 < x → pu_R L d m npc ls st M Q) : pu_R L d m pc ls (.int x :: st) M Q := by
  by_cases h : 0 < x
  · exact pu_one hc (if_pos (c := mq_cmp .gt x 0 = true) (decide_eq_true h)) (k1 h)
  · exact pu_one hc (if_neg (c := mq_cmp .gt x 0 = true) (fun z => h (of_decide_eq_true z))) (k2 h)
theorem pu_icmp_le {x y : Int32} {o : Int} (hc : mq_code m pc = some (.if_icmp .le o, npc, t, v)) (k1 : x ≤ y → pu_R L d m t ls st M Q) (k2 : ¬ x ≤ y → pu_R L d m npc ls st M Q) : pu_R L d m pc ls (.int y :: .int x :: st) M Q := by
  by_cases h : x ≤ y
  · exact pu_one hc (if_pos (c := mq_cmp .le x y = true) (decide_eq_true h)) (k1 h)
  · exact pu_one hc (if_neg (c := mq_cmp .le x y = true) (fun z => h (of_decide_eq_true z))) (k2 h)
theorem pu_if_le {x : Int32} {o : Int} (hc : mq_code m pc = some (.ifCond .le o, npc, t, v)) (k1 : x ≤ 0 → pu_R L d m t ls st M Q) (k2 : ¬ x ≤ 0 → pu_R L d m npc ls st M Q) : pu_R L d m pc ls (.int x :: st) M Q := by
  by_cases h : x ≤ 0
  · exact pu_one hc (if_pos (c := mq_cmp .le x 0 = true) (decide_eq_true h)) (k1 h)
  · exact pu_one hc (if_neg (c := mq_cmp .le x 0 = true) (fun z => h (of_decide_eq_true z))) (k2 h)
/-- a call -/
theorem pu_call {q : mq_I} {m' ml : Nat} {as rest : List Value} {A : Option Value → pu_M → Prop} (hc : mq_code m pc = some q) (hs : mq_step (d + 1) pc q ls st (pu_hp L M) = some (.inr (.inl (m', as, rest, ml)))) (hcat : mq_cat as ≤ ml) (H : pu_R L d m' 0 (mq_ent ml as) [] M A)
    (k : ∀ r M', A r M' → pu_R L (d + 1) m q.2.1 ls (r.toList ++ rest) M' Q) : pu_R L (d + 1) m pc ls st M Q := by
  obtain ⟨f1, r1, M1, e1, a1⟩ := H
  obtain ⟨f2, r2, M2, e2, a2⟩ := k r1 M1 a1
  refine ⟨(f1 + f2) + 1, r2, M2, ?_, a2⟩
  unfold mq_run
  rw [hc]
  dsimp only
  rw [hs]
  dsimp only
  rw [if_pos hcat, mq_run_more f1 f2 e1]
  dsimp only
  rw [show f1 + f2 = f2 + f1 by omega]
  exact mq_run_more f2 f1 e2
theorem pu_callI {q : mq_I} {m' ml : Nat} {as rest : List Value} {A : Int32 → pu_M → Prop} (hc : mq_code m pc = some q) (hs : mq_step (d + 1) pc q ls st (pu_hp L M) = some (.inr (.inl (m', as, rest, ml)))) (hml : ml = mq_ml m') (hcat : mq_cat as ≤ ml) (H : pu_I L d m' as M A)
    (k : ∀ x M', A x M' → pu_R L (d + 1) m q.2.1 ls (.int x :: rest) M' Q) : pu_R L (d + 1) m pc ls st M Q := by
  subst hml
  exact pu_call hc hs hcat H (fun r M' ⟨x, e, a⟩ => by subst e; exact k x M' a)
theorem pu_callJ {q : mq_I} {m' ml : Nat} {as rest : List Value} {A : Int64 → pu_M → Prop} (hc : mq_code m pc = some q) (hs : mq_step (d + 1) pc q ls st (pu_hp L M) = some (.inr (.inl (m', as, rest, ml)))) (hml : ml = mq_ml m') (hcat : mq_cat as ≤ ml) (H : pu_J L d m' as M A)
    (k : ∀ x M', A x M' → pu_R L (d + 1) m q.2.1 ls (.long x :: rest) M' Q) : pu_R L (d + 1) m pc ls st M Q := by
  subst hml
  exact pu_call hc hs hcat H (fun r M' ⟨x, e, a⟩ => by subst e; exact k x M' a)
theorem pu_callV {q : mq_I} {m' ml : Nat} {as rest : List Value} {A : pu_M → Prop} (hc : mq_code m pc = some q) (hs : mq_step (d + 1) pc q ls st (pu_hp L M) = some (.inr (.inl (m', as, rest, ml)))) (hml : ml = mq_ml m') (hcat : mq_cat as ≤ ml) (H : pu_V L d m' as M A)
    (k : ∀ M', A M' → pu_R L (d + 1) m q.2.1 ls rest M' Q) : pu_R L (d + 1) m pc ls st M Q := by
  subst hml
  exact pu_call hc hs hcat H (fun r M' ⟨e, a⟩ => by subst e; exact k M' a)
/-- how a call of a method of an object goes whose number is a name -/
theorem pu_virt {k x n ci : Nat} {cs : List Nat} {as : List Value} (hsh : pu_sh L k = .inr (ci, cs)) (hk : k < 90) (h1 : n % 16 ≤ st.length ∧ mq_cat (st.drop (n % 16)) ≤ 8) (h2 : (st.take (n % 16)).reverse = .ref k :: as) (h3 : ci = n / 1024) :
    mq_step d pc (.invokevirtual x, npc, t, .retAddr n) ls st (pu_hp L M) = some (.inr (.inl (t, .ref k :: as, st.drop (n % 16), n / 16 % 64))) := by
  simp only [mq_step]
  rw [if_pos h1, h2]
  simp only [pu_obj hsh hk]
  rw [if_pos h3]
theorem pu_ret {q : mq_I} {r : Option Value} (hc : mq_code m pc = some q) (hs : mq_step d pc q ls st (pu_hp L M) = some (.inr (.inr r))) (H : Q r M) : pu_R L d m pc ls st M Q := by
  refine ⟨1, r, M, ?_, H⟩
  unfold mq_run
  rw [hc]
  dsimp only
  rw [hs]
theorem pu_retZ {x : Int32} {Q : Int32 → pu_M → Prop} (hc : mq_code m pc = some (.ireturn, npc, 1, v)) (hx : x = 0 ∨ x = 1) (H : Q x M) : pu_R L d m pc ls [.int x] M (pu_qI Q) := by
  refine pu_ret hc ?_ ⟨x, rfl, H⟩
  rcases hx with rfl | rfl <;> rfl
end PU
