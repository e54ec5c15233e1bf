/-! THE CLASS'S YARD holds the people -/
theorem dn {R : Nat → Prop} (n : Nat) (h0 : R n) (hs : ∀ k, k < n → R (k + 1) → R k) : R 0 := by
  have key : ∀ j, j ≤ n → R (n - j) := by
    intro j
    induction j with
    | zero => intro _; exact h0
    | succ j ih =>
      intro hj
      have := ih (by omega)
      refine hs (n - (j + 1)) (by omega) ?_
      rwa [show n - (j + 1) + 1 = n - j by omega]
  have := key n (Nat.le_refl n)
  rwa [Nat.sub_self] at this
theorem ge16 : (16 : Int32) ≤ nI 16 := by decide
theorem lt16 {k : Nat} (h : k < 16) : ¬ (16 : Int32) ≤ nI k := by rw [n_16, nI_leI (by omega) (by omega)]; omega
theorem or0 (x : Int32) : x ||| 0 = x := by simp
theorem add0 (x : Int32) : x + 0 = x := by simp
/-- a without b -/
def an (a b : Nat) : Nat := bs (fun k => a.testBit k && !b.testBit k) 31
theorem an_bit {a b : Nat} (ha : a < 2 ^ 31) (k : Nat) : (an a b).testBit k = (a.testBit k && !b.testBit k) := by
  unfold an
  rw [bs_bit]
  by_cases hk : k < 31
  · simp [hk]
  · have : a < 2 ^ k := Nat.lt_of_lt_of_le ha (Nat.pow_le_pow_right (by decide) (by omega))
    simp [hk, Nat.testBit_lt_two_pow this]
theorem an_lt {a b n : Nat} (ha : a < 2 ^ n) (hn : n ≤ 31) : an a b < 2 ^ n := by
  apply Nat.lt_pow_two_of_testBit
  intro i hi
  have h2 : a < 2 ^ 31 := Nat.lt_of_lt_of_le ha (Nat.pow_le_pow_right (by decide) hn)
  rw [an_bit h2, Nat.testBit_lt_two_pow (Nat.lt_of_lt_of_le ha (Nat.pow_le_pow_right (by decide) hi))]
  rfl
theorem nI_andn {a b : Nat} (ha : a < 2 ^ 31) (hb : b < 2 ^ 31) : nI a &&& (nI b ^^^ (-1)) = nI (an a b) := by
  have hl : an a b < 2 ^ 31 := an_lt ha (Nat.le_refl _)
  apply Int32.toBitVec_inj.mp
  apply BitVec.eq_of_toNat_eq
  rw [pk_tn (show an a b < 2 ^ 32 by omega)]
  show ((nI a).toBitVec &&& ((nI b).toBitVec ^^^ (-1 : Int32).toBitVec)).toNat = _
  rw [BitVec.toNat_and, BitVec.toNat_xor, pk_tn (by omega), pk_tn (by omega)]
  apply Nat.eq_of_testBit_eq
  intro i
  rw [an_bit ha, Nat.testBit_and, Nat.testBit_xor]
  have e : ((-1 : Int32).toBitVec.toNat) = 2 ^ 32 - 1 := by decide
  rw [e, Nat.testBit_two_pow_sub_one]
  by_cases hi : i < 32
  · simp [hi]
  · have : a < 2 ^ i := Nat.lt_of_lt_of_le ha (Nat.pow_le_pow_right (by decide) (by omega))
    simp [Nat.testBit_lt_two_pow this]
theorem bs_zero {P : Nat → Bool} : ∀ {n : Nat}, (bs P n = 0) ↔ ∀ k, k < n → P k = false
  | 0 => by simp [bs]
  | n + 1 => by
    simp only [bs]
    have ih := bs_zero (P := P) (n := n)
    constructor
    · intro h k hk
      have h1 : bs P n = 0 := by omega
      by_cases e : k = n
      · subst e
        cases hp : P k with
        | false => rfl
        | true => rw [hp] at h; simp at h
      · exact ih.mp h1 k (by omega)
    · intro h
      rw [ih.mpr (fun k hk => h k (by omega)), h n (by omega)]
      simp
/-! bitCount -/
theorem us_1 : ((Int32.toUInt32 1 &&& Int32.toUInt32 31).toBitVec % 32).toNat = 1 := by decide
theorem us_2 : ((Int32.toUInt32 2 &&& Int32.toUInt32 31).toBitVec % 32).toNat = 2 := by decide
theorem us_4 : ((Int32.toUInt32 4 &&& Int32.toUInt32 31).toBitVec % 32).toNat = 4 := by decide
theorem us_8 : ((Int32.toUInt32 8 &&& Int32.toUInt32 31).toBitVec % 32).toNat = 8 := by decide
theorem us_16 : ((Int32.toUInt32 16 &&& Int32.toUInt32 31).toBitVec % 32).toNat = 16 := by decide
/-- the class's yard y holds the people -/
def CY (P : Pp) (M : pu_M) (y : Nat) : Prop := (∀ p, p < 16 → M (y + 1) p = nI (tp P p) ∧ M (y + 2) p = nI (md P p) ∧ M (y + 3) p = pI (pl P p)) ∧ (∀ w, w < 60 → M (y + 4) w = pI (who P w)) ∧ M y 4 = nI (bs (tl P) 16) ∧ M y 5 = nI (nt P) ∧ M y 6 = nI (lo P)
theorem fnd_some {R : Nat → Bool} : ∀ {j k p : Nat}, fnd R j k = some p → k ≤ p ∧ p < k + j ∧ R p = true ∧ ∀ i, k ≤ i → i < p → R i = false
  | 0, k, p, h => by simp [fnd] at h
  | j + 1, k, p, h => by
    simp only [fnd] at h
    split at h
    next hk => cases h; exact ⟨Nat.le_refl _, by omega, hk, fun i h1 h2 => by omega⟩
    next hk =>
      obtain ⟨a, b, c, e⟩ := fnd_some h
      refine ⟨by omega, by omega, c, fun i h1 h2 => ?_⟩
      by_cases hi : i = k
      · subst hi; simpa using hk
      · exact e i (by omega) h2
theorem fnd_none {R : Nat → Bool} : ∀ {j k : Nat}, fnd R j k = none → ∀ i, k ≤ i → i < k + j → R i = false
  | 0, k, _, i, h1, h2 => by omega
  | j + 1, k, h, i, h1, h2 => by
    simp only [fnd] at h
    split at h
    next => cases h
    next hk =>
      by_cases hi : i = k
      · subst hi; simpa using hk
      · exact fnd_none h i (by omega) (by omega)
theorem who_some {P : Pp} {w p : Nat} (h : who P w = some p) : p < 16 ∧ pl P p = some w := by
  obtain ⟨_, h2, h3, _⟩ := fnd_some h
  exact ⟨by omega, by simpa using h3⟩
theorem who_of {P : Pp} (hI : PI P) {w p : Nat} (hp : p < 16) (h : pl P p = some w) : who P w = some p := by
  cases e : who P w with
  | none => have := fnd_none e p (by omega) (by omega); simp [h] at this
  | some q =>
    obtain ⟨h1, h2⟩ := who_some e
    rw [hI.2.1 q p w h1 hp h2 h]
section YC
variable {L d : Nat} {M : pu_M} {P : Pp} {y : Nat}
theorem c_Int_bitCount {Q : Int32 → pu_M → Prop} {x : Nat} (hx : x < 65536) (H : Q (nI (pc x)) M) : pu_I L (d + 1) 260 [.int (nI x)] M Q := by
  refine r_Integer_bitCount ?_
  have a1 : x / 2 &&& 1431655765 ≤ x / 2 := Nat.and_le_left
  have l1 : sw1 x < 65536 := by unfold sw1; omega
  have b1 : sw1 x &&& 858993459 ≤ sw1 x := Nat.and_le_left
  have b2 : sw1 x / 4 &&& 858993459 ≤ sw1 x / 4 := Nat.and_le_left
  have l2 : sw2 (sw1 x) < 131072 := by unfold sw2; omega
  have c1 : sw2 (sw1 x) + sw2 (sw1 x) / 16 &&& 252645135 ≤ sw2 (sw1 x) + sw2 (sw1 x) / 16 := Nat.and_le_left
  have l3 : sw3 (sw2 (sw1 x)) < 262144 := by unfold sw3; omega
  have l4 : sw4 (sw3 (sw2 (sw1 x))) < 524288 := by unfold sw4; omega
  have m1 : (1431655765 : Int32) = nI 1431655765 := rfl
  have m2 : (858993459 : Int32) = nI 858993459 := rfl
  have m3 : (252645135 : Int32) = nI 252645135 := rfl
  have e1 : nI x - (((nI x).toUInt32 >>> ((1 : Int32).toUInt32 &&& Int32.toUInt32 31)).toInt32 &&& 1431655765) = nI (sw1 x) := by
    rw [pk_ushrN (by omega) 1 1 us_1, m1, nI_and (by omega) (by omega), pk_sub (Nat.le_trans Nat.and_le_left (Nat.div_le_self _ _))]; rfl
  have e2 : (nI (sw1 x) &&& 858993459) + (((nI (sw1 x)).toUInt32 >>> ((2 : Int32).toUInt32 &&& Int32.toUInt32 31)).toInt32 &&& 858993459) = nI (sw2 (sw1 x)) := by
    rw [pk_ushrN (by omega) 2 2 us_2, m2, nI_and (by omega) (by omega), nI_and (by omega) (by omega), nI_add]; rfl
  have e3 : (nI (sw2 (sw1 x)) + ((nI (sw2 (sw1 x))).toUInt32 >>> ((4 : Int32).toUInt32 &&& Int32.toUInt32 31)).toInt32) &&& 252645135 = nI (sw3 (sw2 (sw1 x))) := by
    rw [pk_ushrN (by omega) 4 4 us_4, m3, nI_add, nI_and (by omega) (by omega)]; rfl
  have e4 : nI (sw3 (sw2 (sw1 x))) + ((nI (sw3 (sw2 (sw1 x)))).toUInt32 >>> ((8 : Int32).toUInt32 &&& Int32.toUInt32 31)).toInt32 = nI (sw4 (sw3 (sw2 (sw1 x)))) := by
    rw [pk_ushrN (by omega) 8 8 us_8, nI_add]; rfl
  have e5 : (nI (sw4 (sw3 (sw2 (sw1 x)))) + ((nI (sw4 (sw3 (sw2 (sw1 x))))).toUInt32 >>> ((16 : Int32).toUInt32 &&& Int32.toUInt32 31)).toInt32) &&& 63 = nI (swar x) := by
    rw [pk_ushrN (by omega) 16 16 us_16, n_63, nI_add, nI_and (by omega) (by omega)]; rfl
  rw [e1, e2, e3, e4, e5, swar_pc hx]
  exact H
theorem c_x_isOne {Q : Int32 → pu_M → Prop} {p : Nat} (hp : p < 16) (H : Q 1 M) : pu_I L (d + 1) 153 [.int (nI p)] M Q := by
  refine r_x_isOne ?_
  rw [if_neg (nI_pos (by omega)), if_neg (lt16 hp)]
  exact H
theorem c_x_isOneN {Q : Int32 → pu_M → Prop} {v : Int32} (hv : v < 0 ∨ 15 < v) (H : Q 0 M) : pu_I L (d + 1) 153 [.int v] M Q := by
  refine r_x_isOne ?_
  rcases hv with h | h
  · rw [if_pos h]; exact H
  · by_cases h2 : v < 0
    · rw [if_pos h2]; exact H
    · rw [if_neg h2, if_pos]
      · exact H
      · rw [Int32.le_iff_toInt_le]
        rw [Int32.lt_iff_toInt_lt] at h
        have e1 : (15 : Int32).toInt = 15 := rfl
        have e2 : (16 : Int32).toInt = 16 := rfl
        omega
theorem c_Y_isTold {Q : Int32 → pu_M → Prop} {p : Nat} (hy : pu_isY y) (hC : CY P M y) (hp : p < 16) (H : if tl P p = true then Q 1 M else Q 0 M) : pu_I L (d + 2) 100 [.ref y, .int (nI p)] M Q := by
  refine r_Yard_isTold hy (c_x_isOne hp ?_)
  rw [if_neg (by decide), hC.2.2.1, nI_bit (Nat.lt_of_lt_of_le (bs_lt _ _) (by decide)) (by omega), bs_bit]
  simp only [hp, decide_true, Bool.true_and]
  by_cases h : tl P p = true
  · rw [if_pos h] at H; rw [if_pos h, if_pos (by decide)]; exact H
  · rw [if_neg h] at H; rw [if_neg h, if_neg (by decide)]; exact H
theorem c_Y_isToldN {Q : Int32 → pu_M → Prop} {v : Int32} (hy : pu_isY y) (hv : v < 0 ∨ 15 < v) (H : Q 0 M) : pu_I L (d + 2) 100 [.ref y, .int v] M Q := by
  refine r_Yard_isTold hy (c_x_isOneN hv ?_)
  rw [if_pos rfl]; exact H
theorem c_Y_isLaid {Q : Int32 → pu_M → Prop} {p : Nat} (hy : pu_isY y) (hC : CY P M y) (hI : PI P) (hp : p < 16) (H : if (pl P p).isSome = true then Q 1 M else Q 0 M) : pu_I L (d + 2) 102 [.ref y, .int (nI p)] M Q := by
  refine r_Yard_isLaid hy (c_x_isOne hp ?_)
  rw [if_neg (by decide)]
  have h3 := (hC.1 p hp).2.2
  have hw := (hI.1 p hp).2.2
  simp (disch := omega) only [nI_clamp, inb_nI, true_and, h3, pI_neg _ (fun w e => (hw w e).1)]
  cases e : pl P p with
  | none => rw [e] at H; simpa using H
  | some w =>
    rw [e] at H
    have := (hw w e).1
    simp only [reduceCtorEq, if_false, pI]
    have hn : ¬ (60 : Int32) ≤ nI w := by rw [n_60, nI_leI (by omega) (by omega)]; omega
    simp only [hn, if_false]
    simpa using H
theorem c_Y_laidOnes {Q : Int32 → pu_M → Prop} (hy : pu_isY y) (hC : CY P M y) (hI : PI P) (H : Q (nI (bs (fun p => (pl P p).isSome) 16)) M) : pu_I L (d + 3) 103 [.ref y] M Q := by
  refine r_Yard_laidOnes hy (dn (R := fun k => pu_R L (d + 3) 103 4 [.ref y, .int (nI (bs (fun p => (pl P p).isSome) k)), .int (nI k)] [] M (pu_qI Q)) 16 ?_ ?_)
  · refine r_Yard_laidOnes_4 hy ?_
    rw [if_pos ge16]; exact H
  · intro k hk ih
    refine r_Yard_laidOnes_4 hy ?_
    rw [if_neg (lt16 hk)]
    refine c_Y_isLaid hy hC hI hk ?_
    cases ht : (pl P k).isSome with
    | true => rw [if_pos rfl, if_neg (by decide), bs_step (fun p => (pl P p).isSome) (by omega) ht, nI_1]; exact ih
    | false => rw [if_neg (by decide), if_pos rfl, nI_1, or0, ← bs_skip (fun p => (pl P p).isSome) ht]; exact ih
theorem c_Y_talkOf {Q : Int32 → pu_M → Prop} {p q : Nat} (hy : pu_isY y) (hC : CY P M y) (hI : PI P) (hp : p < 16) (hq : q < 16) (H : Q (tk P p q) M) : pu_I L (d + 2) 118 [.ref y, .int (nI p), .int (nI q)] M Q := by
  refine r_Yard_talkOf hy ?_
  have h1 := (hI.1 p hp).1
  have h2 := (hI.1 q hq).1
  simp (disch := omega) only [nI_clamp, inb_nI, true_and, (hC.1 p hp).1, (hC.1 q hq).1, nI_and]
  refine c_Int_bitCount (tp_and hI hp hq) ?_
  simp (disch := omega) only [nI_clamp, inb_nI, true_and, (hC.1 p hp).1, (hC.1 q hq).1, nI_xor]
  exact c_Int_bitCount (tp_xor hI hp hq) H
theorem c_Y_bitOn {Q : Int32 → pu_M → Prop} {w : Nat} (hy : pu_isY y) (hC : CY P M y) (hw : w < 60) (H : Q (nI (match who P w with | some p => 2 ^ p | none => 0)) M) : pu_I L (d + 1) 112 [.ref y, .int (nI w)] M Q := by
  refine r_Yard_bitOn hy ?_
  rw [if_neg (nI_pos (by omega)), if_neg (by rw [n_60, nI_leI (by omega) (by omega)]; omega)]
  simp (disch := omega) only [nI_clamp, inb_nI, true_and, hC.2.1 w hw]
  cases e : who P w with
  | none => rw [e] at H; simp only [pI, m2_neg, if_true]; exact H
  | some p =>
    rw [e] at H
    obtain ⟨hp, -⟩ := who_some e
    rw [pI, if_neg (nI_pos (by omega)), if_neg (by decide), nI_pow (by omega)]
    exact H
theorem c_Y_bitOnN {Q : Int32 → pu_M → Prop} {v : Int32} (hy : pu_isY y) (hv : v < 0 ∨ 60 ≤ v) (H : Q 0 M) : pu_I L (d + 1) 112 [.ref y, .int v] M Q := by
  refine r_Yard_bitOn hy ?_
  by_cases h : v < 0
  · rw [if_pos h, if_pos rfl]; exact H
  · rw [if_neg h, if_pos (hv.resolve_left h), if_pos rfl]; exact H
end YC
