/-! ROWS in the model -/
theorem getD_set (l : Ro) (a x k : Nat) (ha : a < l.length) : (l.set a x).getD k 0 = if k = a then x else l.getD k 0 := by
  simp only [List.getD_eq_getElem?_getD, List.getElem?_set]
  by_cases e : k = a
  · subst e; simp [ha]
  · rw [if_neg (by omega), if_neg e]
def mRO (s : Nat) (M : pu_M) (l : Ro) : Prop := l.length = pc s ∧ ∀ k, k < pc s → l.getD k 0 < pc s ∧ M 82 k = nI (mb s (l.getD k 0))
theorem o_sw_len (l : Ro) (a b : Nat) : (o_sw l a b).length = l.length := by unfold o_sw; rw [List.length_set, List.length_set]
theorem o_sw_at {l : Ro} {a b k : Nat} (ha : a < l.length) (hb : b < l.length) : (o_sw l a b).getD k 0 = if k = b then l.getD a 0 else if k = a then l.getD b 0 else l.getD k 0 := by
  unfold o_sw
  rw [getD_set _ _ _ _ (by rw [List.length_set]; exact hb)]
  by_cases e : k = b
  · rw [if_pos e, if_pos e]
  · rw [if_neg e, if_neg e, getD_set _ _ _ _ ha]
section MO2
variable {L d : Nat} {M : pu_M} {P : Pp} {s : Nat} {l : Ro}
theorem mb_le {i j : Nat} (hi : i < pc s) (hj : j < pc s) : (nI (mb s i) ≤ nI (mb s j)) ↔ i ≤ j := by
  have h1 := (mb_lt (s := s) hi).1
  have h2 := (mb_lt (s := s) hj).1
  rw [nI_leI (by omega) (by omega)]
  constructor
  · intro h
    apply Nat.le_of_not_lt
    intro z
    have := mb_mono z hi
    omega
  · intro h
    by_cases e : i = j
    · subst e; exact Nat.le_refl _
    · have := mb_mono (show i < j by omega) hj
      omega
theorem c_m_chOrd {Q : pu_M → Prop} {a b : Nat} (hn : pc s ≤ 7) (ha : a < pc s) (hb : b < pc s) (hR : mRO s M l) (H : ∀ M', mRO s M' (o_sw l a b) → only (fun k => k = 82) M M' → Q M') : pu_V L (d + 1) 232 [.ref 58, .int (nI a), .int (nI b)] M Q := by
  refine r_m_changesOrder ?_
  rw [nI_clamp (show a < 2 ^ 31 by omega), nI_clamp (show b < 2 ^ 31 by omega)]
  refine ⟨inb_nI (by omega) (by decide), inb_nI (by omega) (by decide), inb_nI (by omega) (by decide), inb_nI (by omega) (by decide), H _ ⟨by rw [o_sw_len]; exact hR.1, fun k hk => ?_⟩ (((only.rf (fun k => k = 82) M).wr rfl).wr rfl)⟩
  rw [o_sw_at (by rw [hR.1]; exact ha) (by rw [hR.1]; exact hb), pu_wr_self, pu_wr_self]
  by_cases e1 : k = b
  · rw [if_pos e1, e1, upd_s]; exact hR.2 a ha
  · rw [if_neg e1, upd_n e1]
    by_cases e2 : k = a
    · rw [if_pos e2, e2, upd_s]; exact hR.2 b hb
    · rw [if_neg e2, upd_n e2]; exact hR.2 k hk
theorem c_m_next {Q : Int32 → pu_M → Prop} (hn1 : 2 ≤ pc s) (hn : pc s ≤ 7) (hR : mRO s M l) (H : match o_nx (pc s) l with
    | none => Q 0 M
    | some l' => ∀ M', mRO s M' l' → only (fun k => k = 82) M M' → Q 1 M') : pu_I L (d + 2) 233 [.ref 58, .int (nI (pc s))] M Q := by
  refine r_m_nextOrder ?_
  rw [show nI (pc s) - 2 = nI (pc s - 2) from pk_sub (a := pc s) (b := 2) hn1]
  have enm : nI (pc s) - 1 = nI (pc s - 1) := pk_sub (a := pc s) (b := 1) (by omega)
  -- the end is turned round
  have rev : ∀ (f a b : Nat) (l' : Ro) (M' : pu_M) (i : Nat) (v3 : Int32), b < pc s → a ≤ pc s → (a < b → b + 1 ≤ a + 2 * f) → mRO s M' l' → only (fun k => k = 82) M M' → (∀ M'', mRO s M'' (o_rv f l' a b) → only (fun k => k = 82) M M'' → Q 1 M'') → pu_R L (d + 2) 233 80 [.ref 58, .int (nI (pc s)), .int (nI i), .int v3, .int (nI a), .int (nI b)] [] M' (pu_qI Q) := by
    intro f
    induction f with
    | zero =>
      intro a b l' M' i v3 hb ha hf hR' o H
      refine r_m_nextOrder_80 ?_
      rw [if_pos (by rw [nI_leI (by omega) (by omega)]; omega)]
      exact H M' hR' o
    | succ f ih =>
      intro a b l' M' i v3 hb ha hf hR' o H
      refine r_m_nextOrder_80 ?_
      have eo : o_rv (f + 1) l' a b = if a < b then o_rv f (o_sw l' a b) (a + 1) (b - 1) else l' := rfl
      rw [eo] at H
      by_cases hab : a < b
      · rw [if_pos hab] at H
        rw [if_neg (by rw [nI_leI (by omega) (by omega)]; omega)]
        refine c_m_chOrd hn (by omega) hb hR' (fun M2 r2 o2 => ?_)
        have em : nI b + (-1) = nI (b - 1) := by
          have := pk_sub (show 1 ≤ b by omega)
          rw [← this, Int32.sub_eq_add_neg]; rfl
        rw [nI_1, em]
        exact ih (a + 1) (b - 1) _ M2 i v3 (by omega) (by omega) (by omega) r2 (o.tr o2) H
      · rw [if_neg hab] at H
        rw [if_pos (by rw [nI_leI (by omega) (by omega)]; omega)]
        exact H M' hR' o
  -- from the place that is found
  have found : ∀ i, i + 1 < pc s → l.getD i 0 ≤ l.getD (i + 1) 0 → (∀ M', mRO s M' (o_rv (pc s) (o_sw l i (o_fj l (l.getD i 0) (pc s - 1))) (i + 1) (pc s - 1)) → only (fun k => k = 82) M M' → Q 1 M') → pu_R L (d + 2) 233 42 [.ref 58, .int (nI (pc s)), .int (nI i), .int (nI (pc s) - 1), mq_un, mq_un] [] M (pu_qI Q) := by
    intro i hi hle H
    rw [enm]
    obtain ⟨r1, r2⟩ := hR.2 i (by omega)
    have key : ∀ (j2 j : Nat), j = i + 1 + j2 → j < pc s → o_fj l (l.getD i 0) j = o_fj l (l.getD i 0) (pc s - 1) → pu_R L (d + 2) 233 42 [.ref 58, .int (nI (pc s)), .int (nI i), .int (nI j), mq_un, mq_un] [] M (pu_qI Q) := by
      intro j2
      induction j2 with
      | zero =>
        intro j hj hjn e
        obtain rfl : j = i + 1 := by omega
        obtain ⟨q1, q2⟩ := hR.2 (i + 1) hjn
        refine r_m_nextOrder_42 ?_
        rw [nI_clamp (show i + 1 < 2 ^ 31 by omega), nI_clamp (show i < 2 ^ 31 by omega), q2, r2]
        refine ⟨inb_nI (by omega) (by decide), inb_nI (by omega) (by decide), ?_⟩
        rw [if_pos ((mb_le r1 q1).mpr hle)]
        have ej : o_fj l (l.getD i 0) (i + 1) = i + 1 := by
          show (if l.getD i 0 ≤ l.getD (i + 1) 0 then i + 1 else _) = _
          rw [if_pos hle]
        rw [← e, ej] at H
        refine c_m_chOrd hn (by omega) hjn hR (fun M2 r3 o2 => ?_)
        rw [nI_1, enm]
        exact rev (pc s) (i + 1) (pc s - 1) _ M2 i _ (by omega) (by omega) (by omega) r3 o2 H
      | succ j2 ih =>
        intro j hj hjn e
        obtain ⟨q1, q2⟩ := hR.2 j hjn
        obtain ⟨j', rfl⟩ : ∃ j', j = j' + 1 := ⟨j - 1, by omega⟩
        refine r_m_nextOrder_42 ?_
        rw [nI_clamp (show j' + 1 < 2 ^ 31 by omega), nI_clamp (show i < 2 ^ 31 by omega), q2, r2]
        refine ⟨inb_nI (by omega) (by decide), inb_nI (by omega) (by decide), ?_⟩
        have eo : o_fj l (l.getD i 0) (j' + 1) = if l.getD i 0 ≤ l.getD (j' + 1) 0 then j' + 1 else o_fj l (l.getD i 0) j' := rfl
        by_cases hle2 : l.getD i 0 ≤ l.getD (j' + 1) 0
        · rw [if_pos hle2] at eo
          rw [if_pos ((mb_le r1 q1).mpr hle2)]
          rw [← e, eo] at H
          refine c_m_chOrd hn (by omega) hjn hR (fun M2 r3 o2 => ?_)
          rw [nI_1, enm]
          exact rev (pc s) (i + 1) (pc s - 1) _ M2 i _ (by omega) (by omega) (by omega) r3 o2 H
        · rw [if_neg hle2] at eo
          rw [if_neg (fun z => hle2 ((mb_le r1 q1).mp z)), show nI (j' + 1) - 1 = nI j' from pk_sub (a := j' + 1) (b := 1) (by omega)]
          exact ih j' (by omega) (by omega) (by rw [← e, eo])
    exact key (pc s - 1 - (i + 1)) (pc s - 1) (by omega) (by omega) rfl
  -- down to the place
  unfold o_nx at H
  have down : ∀ (i : Nat), i + 1 < pc s → o_fi l (pc s - 1) = o_fi l (i + 1) → pu_R L (d + 2) 233 4 [.ref 58, .int (nI (pc s)), .int (nI i), mq_un, mq_un, mq_un] [] M (pu_qI Q) := by
    intro i
    induction i with
    | zero =>
      intro hi e
      obtain ⟨r1, r2⟩ := hR.2 0 (by omega)
      obtain ⟨q1, q2⟩ := hR.2 1 (by omega)
      refine r_m_nextOrder_4 ?_
      have z0 : (nI 0).toNatClampNeg = 0 := rfl
      have z1 : (nI 0 + 1).toNatClampNeg = 1 := rfl
      rw [if_neg (show ¬ nI 0 < 0 by decide), z0, z1, r2, q2]
      refine ⟨by decide, by decide, ?_⟩
      have eo : o_fi l (0 + 1) = if l.getD 0 0 ≤ l.getD (0 + 1) 0 then some 0 else none := rfl
      by_cases hle : l.getD 0 0 ≤ l.getD 1 0
      · rw [if_pos (by exact hle)] at eo
        rw [e, eo] at H
        rw [if_pos ((mb_le r1 q1).mpr hle), if_pos (by decide)]
        exact found 0 hi hle H
      · rw [if_neg (by exact hle)] at eo
        rw [e, eo] at H
        rw [if_neg (fun z => hle ((mb_le r1 q1).mp z))]
        refine r_m_nextOrder_4 ?_
        rw [if_pos (show nI 0 - 1 < 0 by decide), if_neg (show ¬ 0 ≤ nI 0 - 1 by decide)]
        exact H
    | succ i ih =>
      intro hi e
      obtain ⟨r1, r2⟩ := hR.2 (i + 1) (by omega)
      obtain ⟨q1, q2⟩ := hR.2 (i + 1 + 1) (by omega)
      refine r_m_nextOrder_4 ?_
      rw [if_neg (nI_pos (by omega)), nI_1, nI_clamp (show i + 1 < 2 ^ 31 by omega), nI_clamp (show i + 1 + 1 < 2 ^ 31 by omega), r2, q2]
      refine ⟨inb_nI (by omega) (by decide), inb_nI (by omega) (by decide), ?_⟩
      have eo : o_fi l (i + 1 + 1) = if l.getD (i + 1) 0 ≤ l.getD (i + 1 + 1) 0 then some (i + 1) else o_fi l (i + 1) := rfl
      by_cases hle : l.getD (i + 1) 0 ≤ l.getD (i + 1 + 1) 0
      · rw [if_pos hle] at eo
        rw [e, eo] at H
        rw [if_pos ((mb_le r1 q1).mpr hle), if_pos (by rw [n_0, nI_leI (by omega) (by omega)]; omega)]
        exact found (i + 1) hi hle H
      · rw [if_neg hle] at eo
        rw [if_neg (fun z => hle ((mb_le r1 q1).mp z)), show nI (i + 1) - 1 = nI i from pk_sub (a := i + 1) (b := 1) (by omega)]
        exact ih (by omega) (by rw [e, eo])
  exact down (pc s - 2) (by omega) (by rw [show pc s - 2 + 1 = pc s - 1 by omega])
/-- where each one stands -/
def mPL (s : Nat) (M : pu_M) (l : Ro) : Prop := (∀ k, k < pc s → M 84 (mb s (l.getD k 0)) = nI k) ∧ ∀ p, p < 16 → r_ix s p = none → M 84 p = -1
theorem ps_of {a : Nat} (h : mPL s M l) (f3 : ∀ j k, j < pc s → k < pc s → l.getD j 0 = l.getD k 0 → j = k) (f4 : ∀ i, i < pc s → ∃ k, k < pc s ∧ l.getD k 0 = i) (ha : a < pc s) : M 84 (mb s a) = nI (r_ps (pc s) l a) ∧ r_ps (pc s) l a < pc s := by
  obtain ⟨k, hk, ek⟩ := f4 a ha
  subst ek
  rw [ps_at f3 hk]
  exact ⟨h.1 k hk, hk⟩
theorem sz_ad {a b : Nat} (ha : a < 7) (hb : b < 7) : (szI (nI a - nI b) = 1) ↔ ad a b = 1 := by
  have : ∀ a, a < 7 → ∀ b, b < 7 → decide (szI (nI a - nI b) = 1) = decide (ad a b = 1) := by decide +kernel
  have h := this a ha b hb
  exact decide_eq_decide.mp h
theorem c_m_holdsInRow {Q : Int32 → pu_M → Prop} {ws : Nat → Wi} {m i : Nat} (hn1 : 2 ≤ pc s) (hn : pc s ≤ 7) (hW : WI ws m) (hC : MW ws m M) (hP : mPL s M l) (f3 : ∀ j k, j < pc s → k < pc s → l.getD j 0 = l.getD k 0 → j = k) (f4 : ∀ i, i < pc s → ∃ k, k < pc s ∧ l.getD k 0 = i) (hi : i < m) (H : Q (bI (r_hold s (pc s) l (ws i))) M) : pu_I L (d + 2) 234 [.ref 58, .int (nI i), .int (nI (pc s))] M Q := by
  have hm := hW.1
  obtain ⟨c1, c2, c3⟩ := hC.2 i hi
  have hx := hW.2 i hi
  have enm : nI (pc s) - 1 = nI (pc s - 1) := pk_sub (a := pc s) (b := 1) (by omega)
  refine r_m_holdsInRow ?_
  rw [nI_clamp (show i < 2 ^ 31 by omega), c1, c3, nI_clamp (show (ws i).1 < 2 ^ 31 by have := hx.1; omega)]
  refine ⟨inb_nI (by omega) (by decide), inb_nI hx.1 (by decide), inb_nI (by omega) (by decide), ?_⟩
  have e84 : ∀ p, p < 16 → M 84 p = match r_ix s p with
      | none => -1
      | some a => nI (r_ps (pc s) l a) := fun p hp => by
    cases ha : r_ix s p with
    | none => exact hP.2 p hp ha
    | some a =>
      obtain ⟨a1, a2⟩ := r_ix_lt ha
      rw [← a2]; exact (ps_of hP f3 f4 a1).1
  have psl : ∀ {p a : Nat}, r_ix s p = some a → r_ps (pc s) l a < pc s := fun ha => (ps_of hP f3 f4 (r_ix_lt ha).1).2
  rcases hx.2 with ⟨hs, q, hq, hq16, hne⟩ | ⟨hs, hnn⟩
  · rw [hq, if_neg (show ¬ pJ (some q) = -1 from fun z => (nI_m1 (show q < 2 ^ 31 by omega)).mp z)]
    show mq_inb (nI i) 24 = true ∧ mq_inb (nI q) 16 = true ∧ pu_R L (d + 2) 234 37 [.ref 58, .int (nI i), .int (nI (pc s)), .int (M 84 (ws i).1), mq_un] [.int (M 84 (nI q).toNatClampNeg)] M (pu_qI Q)
    rw [nI_clamp (show q < 2 ^ 31 by omega)]
    refine ⟨inb_nI (by omega) (by decide), inb_nI hq16 (by decide), r_m_holdsInRow_37 ?_⟩
    rw [e84 _ hx.1, e84 _ hq16]
    cases ha : r_ix s (ws i).1 with
    | none => rw [hold_0 ha] at H; rw [if_pos rfl]; exact H
    | some a =>
      have pa := psl ha
      dsimp only
      rw [if_neg (fun z => (nI_m1 (show r_ps (pc s) l a < 2 ^ 31 by omega)).mp z)]
      cases hb : r_ix s q with
      | none => rw [hold_n ha hq hb] at H; rw [if_pos rfl]; exact H
      | some b =>
        have pb := psl hb
        dsimp only
        rw [hold_2 ha hq hb] at H
        rw [if_neg (fun z => (nI_m1 (show r_ps (pc s) l b < 2 ^ 31 by omega)).mp z), nI_clamp (show i < 2 ^ 31 by omega), c2]
        refine ⟨inb_nI (by omega) (by decide), ?_⟩
        have hsz := sz_ad (a := r_ps (pc s) l a) (b := r_ps (pc s) l b) (by omega) (by omega)
        rcases hs with h43 | h45
        · rw [if_pos h43] at H
          rw [h43, if_neg (show ¬ nI 43 = 35 by decide), if_pos (show nI 43 = 43 from rfl)]
          refine c_m_size ?_
          by_cases z : ad (r_ps (pc s) l a) (r_ps (pc s) l b) = 1
          · rw [decide_eq_true z] at H; rw [if_pos (hsz.mpr z)]; exact H
          · rw [decide_eq_false z] at H; rw [if_neg (fun y => z (hsz.mp y))]; exact H
        · rw [if_neg (by omega)] at H
          rw [h45, if_neg (show ¬ nI 45 = 35 by decide), if_neg (show ¬ nI 45 = 43 by decide), if_pos (show nI 45 = 45 from rfl)]
          refine c_m_size ?_
          by_cases z : ad (r_ps (pc s) l a) (r_ps (pc s) l b) = 1
          · rw [decide_eq_true z] at H; rw [if_pos (hsz.mpr z)]; exact H
          · rw [decide_eq_false z] at H; rw [if_neg (fun y => z (hsz.mp y))]; exact H
  · rw [hnn, if_pos pJ_n]
    refine r_m_holdsInRow_37 ?_
    rw [e84 _ hx.1]
    cases ha : r_ix s (ws i).1 with
    | none => rw [hold_0 ha] at H; rw [if_pos rfl]; exact H
    | some a =>
      have pa := psl ha
      dsimp only
      rw [hold_1 ha hnn] at H
      rw [if_neg (fun z => (nI_m1 (show r_ps (pc s) l a < 2 ^ 31 by omega)).mp z), if_neg (by decide), nI_clamp (show i < 2 ^ 31 by omega), c2]
      refine ⟨inb_nI (by omega) (by decide), ?_⟩
      rcases hs with h35 | h46
      · rw [if_pos h35] at H
        rw [h35, if_pos (show nI 35 = 35 from rfl), enm]
        by_cases z : r_ps (pc s) l a = 0
        · rw [decide_eq_true z] at H; rw [if_pos (by rw [z]; rfl)]; exact H
        · rw [decide_eq_false z, Bool.false_or] at H
          rw [if_neg (by rw [n_0, nI_eq (by omega) (by decide)]; exact z)]
          by_cases z2 : r_ps (pc s) l a + 1 = pc s
          · rw [decide_eq_true z2] at H; rw [if_pos (by rw [show r_ps (pc s) l a = pc s - 1 by omega])]; exact H
          · rw [decide_eq_false z2] at H; rw [if_neg (by rw [nI_eq (by omega) (by omega)]; omega)]; exact H
      · rw [if_neg (by omega)] at H
        rw [h46, if_neg (show ¬ nI 46 = 35 by decide), if_neg (show ¬ nI 46 = 43 by decide), if_neg (show ¬ nI 46 = 45 by decide)]
        exact H
end MO2
