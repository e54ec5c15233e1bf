/-! ROWS: all wishes hold in a row just if each may come behind the one ahead -/
def r_ps (n : Nat) (l : Ro) (a : Nat) : Nat := (fnd (fun k => decide (l.getD k 0 = a)) n 0).getD 0
def r_hold (s n : Nat) (l : Ro) (x : Wi) : Bool := match r_ix s x.1 with
  | none => true
  | some a => match x.2.2 with
    | none => if x.2.1 = 35 then (decide (r_ps n l a = 0) || decide (r_ps n l a + 1 = n)) else false
    | some q => match r_ix s q with
      | none => true
      | some b => if x.2.1 = 43 then decide (ad (r_ps n l a) (r_ps n l b) = 1) else !decide (ad (r_ps n l a) (r_ps n l b) = 1)
theorem hold_0 {s n : Nat} {l : Ro} {x : Wi} (ha : r_ix s x.1 = none) : r_hold s n l x = true := by unfold r_hold; rw [ha]
theorem hold_n {s n a q : Nat} {l : Ro} {x : Wi} (ha : r_ix s x.1 = some a) (hq : x.2.2 = some q) (hb : r_ix s q = none) : r_hold s n l x = true := by unfold r_hold; rw [ha, hq]; dsimp only; rw [hb]
theorem hold_1 {s n a : Nat} {l : Ro} {x : Wi} (ha : r_ix s x.1 = some a) (hq : x.2.2 = none) : r_hold s n l x = if x.2.1 = 35 then (decide (r_ps n l a = 0) || decide (r_ps n l a + 1 = n)) else false := by unfold r_hold; rw [ha, hq]
theorem hold_2 {s n a b q : Nat} {l : Ro} {x : Wi} (ha : r_ix s x.1 = some a) (hq : x.2.2 = some q) (hb : r_ix s q = some b) : r_hold s n l x = if x.2.1 = 43 then decide (ad (r_ps n l a) (r_ps n l b) = 1) else !decide (ad (r_ps n l a) (r_ps n l b) = 1) := by unfold r_hold; rw [ha, hq]; dsimp only; rw [hb]
def r_good (s n : Nat) (ws : Nat → Wi) (m : Nat) (l : Ro) : Bool := (fnd (fun i => !r_hold s n l (ws i)) m 0).isNone
theorem good_iff {s n m : Nat} {ws : Nat → Wi} {l : Ro} : r_good s n ws m l = true ↔ ∀ i, i < m → r_hold s n l (ws i) = true := by
  unfold r_good
  cases hf : fnd (fun i => !r_hold s n l (ws i)) m 0 with
  | none =>
    refine ⟨fun _ i hi => ?_, fun _ => rfl⟩
    have := fnd_none hf i (by omega) (by omega)
    simpa using this
  | some k =>
    obtain ⟨_, h2, h3, _⟩ := fnd_some hf
    refine ⟨fun h => absurd (show false = true from h) (by decide), fun h => ?_⟩
    rw [h k (by omega)] at h3
    exact absurd h3 (by decide)
/-- may the k-th of a row come behind the one ahead -/
def r_cn (st : Wst) (n : Nat) (l : Ro) (k : Nat) : Prop := (∀ j, j < k → (st.1 (l.getD k 0)).testBit (l.getD j 0) = true → l.getD j 0 = l.getD (k - 1) 0) ∧ (st.2.1 (l.getD k 0)).testBit (l.getD (k - 1) 0) = false ∧ (st.2.2.1.testBit (l.getD k 0) = true → k + 1 = n)
theorem ok_iff {st : Wst} {X a i : Nat} {b : Bool} (hst : w_bd st) : r_ok st X a i b = true ↔ (∀ c, (st.1 i).testBit c = true → X.testBit c = true → c = a) ∧ (st.2.1 i).testBit a = false ∧ (st.2.2.1.testBit i = true → b = true) := by
  have hlt : st.1 i &&& X < 2 ^ 31 := Nat.lt_of_le_of_lt Nat.and_le_left (by have := (hst.1 i).1; omega)
  unfold r_ok
  rw [Bool.and_eq_true, Bool.and_eq_true, decide_eq_true_eq, and_assoc]
  refine and_congr ?_ (and_congr ?_ ?_)
  · constructor
    · intro h c h1 h2
      have : (an (st.1 i &&& X) (2 ^ a)).testBit c = false := by rw [h]; simp
      rw [an_bit hlt, Nat.testBit_and, h1, h2, Nat.testBit_two_pow] at this
      have : decide (a = c) = true := by simpa using this
      exact (of_decide_eq_true this).symm
    · intro h
      apply Nat.eq_of_testBit_eq
      intro c
      rw [an_bit hlt, Nat.testBit_and, Nat.testBit_two_pow, Nat.zero_testBit]
      cases h1 : (st.1 i).testBit c with
      | false => simp
      | true =>
        cases h2 : X.testBit c with
        | false => simp
        | true => rw [h c h1 h2]; simp
  · cases (st.2.1 i).testBit a <;> simp
  · cases st.2.2.1.testBit i <;> simp
theorem getD_drop (l : Ro) (j k : Nat) : (l.drop j).getD k 0 = l.getD (j + k) 0 := by
  simp [List.getD_eq_getElem?_getD]
theorem inc_iff {st : Wst} {n : Nat} {l0 : Ro} (hst : w_bd st) (hl : l0.length = n) : ∀ (d : Nat) {X j : Nat}, j + d = n → 1 ≤ j → (∀ c, X.testBit c = true ↔ ∃ k, k < j ∧ l0.getD k 0 = c) → (r_inc st X (l0.getD (j - 1) 0) (l0.drop j) = true ↔ ∀ k, j ≤ k → k < n → r_cn st n l0 k)
  | 0, X, j, hd, h1, hX => by
    have : l0.drop j = [] := List.drop_eq_nil_of_le (by omega)
    rw [this]
    exact ⟨fun _ k hk hkn => absurd hkn (by omega), fun _ => rfl⟩
  | d + 1, X, j, hd, h1, hX => by
    have hlt : j < l0.length := by omega
    have e1 : l0.drop j = l0[j] :: l0.drop (j + 1) := List.drop_eq_getElem_cons hlt
    have e2 : l0.getD j 0 = l0[j] := by simp [List.getD_eq_getElem?_getD, hlt]
    rw [e1, ← e2]
    show (r_ok st X (l0.getD (j - 1) 0) (l0.getD j 0) (l0.drop (j + 1)).isEmpty && r_inc st (X ||| 2 ^ l0.getD j 0) (l0.getD j 0) (l0.drop (j + 1))) = true ↔ _
    have hX' : ∀ c, (X ||| 2 ^ l0.getD j 0).testBit c = true ↔ ∃ k, k < j + 1 ∧ l0.getD k 0 = c := fun c => by
      rw [or_bit, Bool.or_eq_true, decide_eq_true_eq, hX c]
      constructor
      · intro h
        rcases h with ⟨k, h1, h2⟩ | h
        · exact ⟨k, by omega, h2⟩
        · exact ⟨j, by omega, h⟩
      · intro ⟨k, h1, h2⟩
        by_cases z : k = j
        · subst z; exact Or.inr h2
        · exact Or.inl ⟨k, by omega, h2⟩
    have ih := inc_iff hst hl d (X := X ||| 2 ^ l0.getD j 0) (j := j + 1) (by omega) (by omega) hX'
    rw [show j + 1 - 1 = j by omega] at ih
    rw [Bool.and_eq_true, ih, ok_iff hst]
    have em : (l0.drop (j + 1)).isEmpty = true ↔ j + 1 = n := by
      rw [List.isEmpty_iff, List.drop_eq_nil_iff]; omega
    have hcn : ((∀ c, (st.1 (l0.getD j 0)).testBit c = true → X.testBit c = true → c = l0.getD (j - 1) 0) ∧ (st.2.1 (l0.getD j 0)).testBit (l0.getD (j - 1) 0) = false ∧ (st.2.2.1.testBit (l0.getD j 0) = true → (l0.drop (j + 1)).isEmpty = true)) ↔ r_cn st n l0 j := by
      unfold r_cn
      rw [em]
      refine and_congr ?_ Iff.rfl
      constructor
      · intro h k hk hb
        exact h _ hb ((hX _).mpr ⟨k, hk, rfl⟩)
      · intro h c hb hx
        obtain ⟨k, h1, h2⟩ := (hX c).mp hx
        subst h2
        exact h k h1 hb
    rw [hcn]
    constructor
    · intro ⟨h1, h2⟩ k hk hkn
      by_cases z : k = j
      · subst z; exact h1
      · exact h2 k (by omega) hkn
    · intro h
      exact ⟨h j (Nat.le_refl _) (by omega), fun k hk hkn => h k (by omega) hkn⟩
section EQ
variable {s m : Nat} {ws : Nat → Wi} {l : Ro}
theorem ps_at {n k : Nat} (h3 : ∀ j k, j < n → k < n → l.getD j 0 = l.getD k 0 → j = k) (hk : k < n) : r_ps n l (l.getD k 0) = k := by
  unfold r_ps
  rw [fnd_at (p := k) (by omega) (by omega) (by simp) (fun i _ hi => by
    rw [decide_eq_false_iff_not]
    intro z
    have := h3 i k (by omega) hk z
    omega)]
  rfl
theorem ad_comm (a b : Nat) : ad a b = ad b a := by unfold ad; split <;> split <;> omega
theorem r_eqv (hn1 : 2 ≤ pc s) (hn7 : pc s ≤ 7) (hW : WI ws m) (hl : l ∈ xt (pc s) (pc s) 0) : r_good s (pc s) ws m l = (!(w_st s ws m).2.2.2 && r_inc0 (w_st s ws m) l) := by
  obtain ⟨f1, f2, f3⟩ := xt_f1 hl
  have f4 : ∀ i, i < pc s → ∃ k, k < pc s ∧ l.getD k 0 = i := fun i hi => xt_f3 hl (r_un_0 _).symm i hi (by simp)
  have hst := w_st_bd (s := s) (ws := ws) hn7 m
  have N1 := st_near (s := s) hW
  have A1 := st_apart (s := s) hW
  obtain ⟨E1, V1⟩ := st_ends (s := s) hW
  generalize w_st s ws m = st at hst N1 A1 E1 V1
  -- the row as a whole
  have hinc : r_inc0 st l = true ↔ ∀ k, 1 ≤ k → k < pc s → r_cn st (pc s) l k := by
    cases hlc : l with
    | nil => rw [hlc] at f1; have : 0 = pc s := f1; omega
    | cons i l' =>
      rw [hlc] at f1
      have := inc_iff (l0 := i :: l') hst f1 (pc s - 1) (X := 2 ^ i) (j := 1) (by omega) (Nat.le_refl _) (fun c => by
        rw [Nat.testBit_two_pow, decide_eq_true_eq]
        exact ⟨fun h => ⟨0, by omega, h⟩, fun ⟨k, h1, h2⟩ => by
          obtain rfl : k = 0 := by omega
          exact h2⟩)
      exact this
  have tw_lt : ∀ {i a b : Nat}, r_tw s (ws i) = some (a, b) → ∃ q, r_ix s (ws i).1 = some a ∧ (ws i).2.2 = some q ∧ r_ix s q = some b := by
    intro i a b h
    unfold r_tw at h
    cases ha : r_ix s (ws i).1 with
    | none => rw [ha] at h; cases h
    | some a' =>
      rw [ha] at h
      dsimp only at h
      cases hq : (ws i).2.2 with
      | none => rw [hq] at h; cases h
      | some q =>
        rw [hq] at h
        dsimp only at h
        cases hb : r_ix s q with
        | none => rw [hb] at h; cases h
        | some b' =>
          rw [hb] at h
          cases h
          exact ⟨q, rfl, rfl, hb⟩
  rw [Bool.eq_iff_iff, good_iff, Bool.and_eq_true, hinc]
  constructor
  · intro h
    refine ⟨?_, fun k hk hkn => ⟨fun j hj hb => ?_, ?_, fun hb => ?_⟩⟩
    · cases hv : st.2.2.2 with
      | false => rfl
      | true =>
        obtain ⟨i, h1, h2, a, h3⟩ := V1.mp hv
        have := h i h1
        have hnn : (ws i).2.2 = none := by
          rcases (hW.2 i h1).2 with ⟨hs, _⟩ | ⟨_, hn⟩
          · omega
          · exact hn
        rw [hold_1 h3 hnn, if_neg (by omega)] at this
        exact absurd this (by decide)
    · obtain ⟨i, h1, h2, h3⟩ := (N1 _ _).mp hb
      have hh := h i h1
      have fin : ad k j = 1 → l.getD j 0 = l.getD (k - 1) 0 := fun z => by
        unfold ad at z
        rw [if_neg (by omega)] at z
        rw [show j = k - 1 by omega]
      rcases h3 with h3 | h3
      · obtain ⟨q, a1, a2, a3⟩ := tw_lt h3
        rw [hold_2 a1 a2 a3, if_pos h2, ps_at f3 hkn, ps_at f3 (by omega), decide_eq_true_eq] at hh
        exact fin hh
      · obtain ⟨q, a1, a2, a3⟩ := tw_lt h3
        rw [hold_2 a1 a2 a3, if_pos h2, ps_at f3 hkn, ps_at f3 (by omega), decide_eq_true_eq, ad_comm] at hh
        exact fin hh
    · cases hb : (st.2.1 (l.getD k 0)).testBit (l.getD (k - 1) 0) with
      | false => rfl
      | true =>
        exfalso
        obtain ⟨i, h1, h2, h3⟩ := (A1 _ _).mp hb
        have hh := h i h1
        have e1 : ad k (k - 1) = 1 := by unfold ad; rw [if_neg (by omega)]; omega
        rcases h3 with h3 | h3
        · obtain ⟨q, a1, a2, a3⟩ := tw_lt h3
          rw [hold_2 a1 a2 a3, if_neg (by omega), ps_at f3 hkn, ps_at f3 (by omega), e1] at hh
          exact absurd hh (by decide)
        · obtain ⟨q, a1, a2, a3⟩ := tw_lt h3
          rw [hold_2 a1 a2 a3, if_neg (by omega), ps_at f3 hkn, ps_at f3 (by omega), ad_comm, e1] at hh
          exact absurd hh (by decide)
    · obtain ⟨i, h1, h2, h3⟩ := (E1 _).mp hb
      have hh := h i h1
      have hnn : (ws i).2.2 = none := by
        rcases (hW.2 i h1).2 with ⟨hs, _⟩ | ⟨_, hn⟩
        · omega
        · exact hn
      rw [hold_1 h3 hnn, if_pos h2, ps_at f3 hkn, Bool.or_eq_true, decide_eq_true_eq, decide_eq_true_eq] at hh
      omega
  · intro ⟨hv, hc⟩ i hi
    have hx := hW.2 i hi
    cases ha : r_ix s (ws i).1 with
    | none => exact hold_0 ha
    | some a =>
      obtain ⟨ka, hka, eka⟩ := f4 a (r_ix_lt ha).1
      rcases hx.2 with ⟨hs, q, hq, hq16, hne⟩ | ⟨hs, hnn⟩
      · cases hb : r_ix s q with
        | none => exact hold_n ha hq hb
        | some b =>
          obtain ⟨kb, hkb, ekb⟩ := f4 b (r_ix_lt hb).1
          have et : r_tw s (ws i) = some (a, b) := by unfold r_tw; rw [ha, hq]; dsimp only; rw [hb]
          have hab : a ≠ b := fun z => by
            have e1 := (r_ix_lt ha).2
            have e2 := (r_ix_lt hb).2
            rw [z, e2] at e1
            exact hne e1
          have hkk : ka ≠ kb := fun z => hab (by rw [← eka, ← ekb, z])
          rw [hold_2 ha hq hb]
          subst eka ekb
          rw [ps_at f3 hka, ps_at f3 hkb]
          rcases hs with h43 | h45
          · rw [if_pos h43, decide_eq_true_eq]
            unfold ad
            rcases Nat.lt_or_gt_of_ne hkk with z | z
            · have := (hc kb (by omega) hkb).1 ka z ((N1 _ _).mpr ⟨i, hi, h43, Or.inr et⟩)
              have := f3 ka (kb - 1) hka (by omega) this
              rw [if_pos (by omega)]; omega
            · have := (hc ka (by omega) hka).1 kb z ((N1 _ _).mpr ⟨i, hi, h43, Or.inl et⟩)
              have := f3 kb (ka - 1) hkb (by omega) this
              rw [if_neg (by omega)]; omega
          · rw [if_neg (by omega)]
            have : ¬ ad ka kb = 1 := fun z => by
              unfold ad at z
              rcases Nat.lt_or_gt_of_ne hkk with y | y
              · rw [if_pos (by omega)] at z
                have := (hc kb (by omega) hkb).2.1
                rw [show kb - 1 = ka by omega, (A1 _ _).mpr ⟨i, hi, h45, Or.inr et⟩] at this
                exact absurd this (by decide)
              · rw [if_neg (by omega)] at z
                have := (hc ka (by omega) hka).2.1
                rw [show ka - 1 = kb by omega, (A1 _ _).mpr ⟨i, hi, h45, Or.inl et⟩] at this
                exact absurd this (by decide)
            simp [this]
      · rw [hold_1 ha hnn]
        subst eka
        rcases hs with h35 | h46
        · rw [if_pos h35, ps_at f3 hka, Bool.or_eq_true, decide_eq_true_eq, decide_eq_true_eq]
          by_cases z : ka = 0
          · exact Or.inl z
          · exact Or.inr ((hc ka (by omega) hka).2.2 ((E1 _).mpr ⟨i, hi, h35, ha⟩))
        · have : st.2.2.2 = true := V1.mpr ⟨i, hi, h46, _, ha⟩
          rw [this] at hv
          exact absurd hv (by decide)
/-- how many rows please -/
theorem r_pl_eq (hn1 : 2 ≤ pc s) (hn7 : pc s ≤ 7) (hW : WI ws m) : c_P (r_good s (pc s) ws m) (xt (pc s) (pc s) 0) = r_pl (pc s) (w_st s ws m) := by
  rw [c_P_congr (fun l hl => r_eqv hn1 hn7 hW hl)]
  unfold r_pl
  cases hv : (w_st s ws m).2.2.2 with
  | true =>
    rw [if_pos rfl]
    exact (c_P_congr (h := fun _ => false) (fun l _ => rfl)).trans c_P_f
  | false =>
    rw [if_neg (by decide), ← r_cnt0 (n := pc s) (m := pc s - 1) (by omega)]
    exact c_P_congr (fun l _ => by simp)
end EQ
