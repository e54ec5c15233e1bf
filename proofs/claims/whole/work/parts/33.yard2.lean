/-! beside a plot, beside one, beside a set -/
theorem nI_rem {a d : Nat} (ha : a < 2 ^ 31) (h0 : 0 < d) (hd : d < 2 ^ 31) : nI a % nI d = nI (a % d) := by rw [← mq_rem, pk_rem ha h0 hd]
def bw : Option Nat → Nat
  | some p => 2 ^ p
  | none => 0
theorem bw_lt {P : Pp} (w : Nat) : bw (who P w) < 65536 := by
  cases e : who P w with
  | none => decide
  | some p => obtain ⟨hp, -⟩ := who_some e; exact Nat.pow_lt_pow_right (n := 16) (by decide) hp
theorem bw_bit {P : Pp} (hI : PI P) {w q : Nat} (hq : q < 16) : (bw (who P w)).testBit q = (pl P q == some w) := by
  cases e : who P w with
  | none =>
    have := fnd_none e q (by omega) (by omega)
    simp [bw, this]
  | some p =>
    obtain ⟨hp, h⟩ := who_some e
    simp only [bw, Nat.testBit_two_pow]
    by_cases hpq : p = q
    · subst hpq; simp [h]
    · simp only [hpq, decide_false]
      symm
      simp only [beq_eq_false_iff_ne, ne_eq]
      intro z
      exact hpq (hI.2.1 p q w hp hq h z)
/-- the bit of who lies on a plot, 0 off the yard -/
def bo (P : Pp) (z : Int) : Nat := if 0 ≤ z ∧ z < 60 then bw (who P z.toNat) else 0
theorem bo_lt (P : Pp) (z : Int) : bo P z < 65536 := by
  unfold bo; split
  · exact bw_lt _
  · decide
theorem bo_bit {P : Pp} (hI : PI P) {z : Int} {q : Nat} (hq : q < 16) : (bo P z).testBit q = (decide (0 ≤ z ∧ z < 60) && (pl P q == some z.toNat)) := by
  unfold bo; split
  next h => simp [h, bw_bit hI hq]
  next h => simp [h]
/-- who lies beside a plot -/
def nbr (P : Pp) (w q : Nat) : Bool := match pl P q with
  | some b => nx w b
  | none => false
theorem nx_cases : ∀ w, w < 60 → ∀ b, b < 60 → nx w b = ((decide (0 < w % 10) && decide (b + 1 = w)) || (decide (w % 10 < 9) && decide (b = w + 1)) || decide (b + 10 = w) || decide (b = w + 10)) := by decide +kernel
theorem ite_bit (c : Prop) [Decidable c] (x i : Nat) : (if c then x else 0).testBit i = (decide c && x.testBit i) := by by_cases h : c <;> simp [h]
theorem nbr_bits {P : Pp} (hI : PI P) {w : Nat} (hw : w < 60) :
    (((if 0 < w % 10 then bo P ((w : Int) - 1) else 0) ||| (if w % 10 < 9 then bo P ((w : Int) + 1) else 0)) ||| bo P ((w : Int) - 10)) ||| bo P ((w : Int) + 10) = bs (nbr P w) 16 := by
  have hb : ∀ z, bo P z < 2 ^ 16 := bo_lt P
  have e16 : ∀ z i, 16 ≤ i → (bo P z).testBit i = false := fun z i hi => Nat.testBit_lt_two_pow (Nat.lt_of_lt_of_le (hb z) (Nat.pow_le_pow_right (by decide) hi))
  apply Nat.eq_of_testBit_eq
  intro i
  rw [bs_bit]
  simp only [Nat.testBit_or]
  by_cases hi : i < 16
  · have t1 : (if 0 < w % 10 then bo P ((w : Int) - 1) else 0).testBit i = (decide (0 < w % 10) && (bo P ((w : Int) - 1)).testBit i) := ite_bit _ _ _
    have t2 : (if w % 10 < 9 then bo P ((w : Int) + 1) else 0).testBit i = (decide (w % 10 < 9) && (bo P ((w : Int) + 1)).testBit i) := ite_bit _ _ _
    rw [t1, t2, bo_bit hI hi, bo_bit hI hi, bo_bit hI hi, bo_bit hI hi]
    unfold nbr
    cases e : pl P i with
    | none => simp
    | some b =>
      have hb60 := ((hI.1 i hi).2.2 b e).1
      dsimp only
      rw [nx_cases w hw b hb60]
      simp only [hi, decide_true, Bool.true_and, Option.some_beq_some]
      have k1 : (decide (0 ≤ (w : Int) - 1 ∧ (w : Int) - 1 < 60) && b == ((w : Int) - 1).toNat) = decide (b + 1 = w) := by
        rw [Bool.eq_iff_iff]; simp; omega
      have k2 : (decide (0 ≤ (w : Int) + 1 ∧ (w : Int) + 1 < 60) && b == ((w : Int) + 1).toNat) = decide (b = w + 1) := by
        rw [Bool.eq_iff_iff]; simp; omega
      have k3 : (decide (0 ≤ (w : Int) - 10 ∧ (w : Int) - 10 < 60) && b == ((w : Int) - 10).toNat) = decide (b + 10 = w) := by
        rw [Bool.eq_iff_iff]; simp; omega
      have k4 : (decide (0 ≤ (w : Int) + 10 ∧ (w : Int) + 10 < 60) && b == ((w : Int) + 10).toNat) = decide (b = w + 10) := by
        rw [Bool.eq_iff_iff]; simp; omega
      rw [k1, k2, k3, k4]
  · have t1 : (if 0 < w % 10 then bo P ((w : Int) - 1) else 0).testBit i = false := by rw [ite_bit, e16 _ i (by omega), Bool.and_false]
    have t2 : (if w % 10 < 9 then bo P ((w : Int) + 1) else 0).testBit i = false := by rw [ite_bit, e16 _ i (by omega), Bool.and_false]
    rw [t1, t2, e16 _ i (by omega), e16 _ i (by omega)]
    simp [hi]
section YD
variable {L d : Nat} {M : pu_M} {P : Pp} {y : Nat}
theorem c_Y_bitOnI {Q : Int32 → pu_M → Prop} {v : Int32} {z : Int} (hy : pu_isY y) (hC : CY P M y) (hv : v.toInt = z) (H : Q (nI (bo P z)) M) : pu_I L (d + 1) 112 [.ref y, .int v] M Q := by
  unfold bo at H
  split at H
  next h =>
    have e : v = nI z.toNat := by
      apply Int32.toInt_inj.mp
      rw [hv, nI_toInt (by omega)]; omega
    subst e
    refine c_Y_bitOn hy hC (by omega) ?_
    unfold bw at H
    exact H
  next h =>
    refine c_Y_bitOnN hy ?_ H
    by_cases h0 : v < 0
    · exact Or.inl h0
    · right
      rw [Int32.le_iff_toInt_le, hv]
      rw [Int32.lt_iff_toInt_lt, hv] at h0
      have e1 : (60 : Int32).toInt = 60 := rfl
      have e2 : (0 : Int32).toInt = 0 := rfl
      omega
theorem c_Y_besidePlot {Q : Int32 → pu_M → Prop} {w : Nat} (hy : pu_isY y) (hC : CY P M y) (hI : PI P) (hw : w < 60) (H : Q (nI (bs (nbr P w) 16)) M) : pu_I L (d + 2) 113 [.ref y, .int (nI w)] M Q := by
  have em : nI w % 10 = nI (w % 10) := nI_rem (by omega) (by decide) (by decide)
  have c1 : (nI w % 10 ≤ 0) ↔ ¬ 0 < w % 10 := by rw [em, n_0, nI_leI (by omega) (by omega)]; omega
  have c2 : (9 ≤ nI w % 10) ↔ ¬ w % 10 < 9 := by rw [em, n_9, nI_leI (by omega) (by omega)]; omega
  have i1 : (nI w - 1).toInt = (w : Int) - 1 := by rw [n_1, pk_sub_toInt (by omega) (by omega)]; rfl
  have i2 : (nI w + 1).toInt = (w : Int) + 1 := by rw [nI_1, nI_toInt (by omega)]; rfl
  have i3 : (nI w - 10).toInt = (w : Int) - 10 := by rw [n_10, pk_sub_toInt (by omega) (by omega)]; rfl
  have i4 : (nI w + 10).toInt = (w : Int) + 10 := by rw [n_10, nI_add, nI_toInt (by omega)]; rfl
  rw [← nbr_bits hI hw] at H
  have b1 := bo_lt P ((w : Int) - 1)
  have b2 := bo_lt P ((w : Int) + 1)
  have b3 := bo_lt P ((w : Int) - 10)
  have b4 := bo_lt P ((w : Int) + 10)
  have fin : ∀ (l r : Nat), l < 65536 → r < 65536 → l = (if 0 < w % 10 then bo P ((w : Int) - 1) else 0) → r = (if w % 10 < 9 then bo P ((w : Int) + 1) else 0) → pu_R L (d + 2) 113 38 [.ref y, .int (nI w), .int (nI w % 10), .int (nI l), mq_un] [.int (nI r)] M (pu_qI Q) := by
    intro l r hl hr el er
    refine r_Yard_besidePlot_38 hy (c_Y_bitOnI hy hC i3 (c_Y_bitOnI hy hC i4 ?_))
    have o1 : l ||| r < 65536 := Nat.or_lt_two_pow (n := 16) hl hr
    have o2 : (l ||| r) ||| bo P ((w : Int) - 10) < 65536 := Nat.or_lt_two_pow (n := 16) o1 b3
    rw [nI_or (by omega) (by omega), nI_or (by omega) (by omega), nI_or (by omega) (by omega), el, er]
    exact H
  refine r_Yard_besidePlot hy ?_
  by_cases h1 : 0 < w % 10
  · rw [if_neg (by rw [c1]; omega)]
    refine c_Y_bitOnI hy hC i1 ?_
    by_cases h2 : w % 10 < 9
    · rw [if_neg (by rw [c2]; omega)]
      exact c_Y_bitOnI hy hC i2 (fin _ _ b1 b2 (by rw [if_pos h1]) (by rw [if_pos h2]))
    · rw [if_pos (by rw [c2]; exact h2)]
      exact fin _ 0 b1 (by decide) (by rw [if_pos h1]) (by rw [if_neg h2])
  · rw [if_pos (by rw [c1]; exact h1)]
    by_cases h2 : w % 10 < 9
    · rw [if_neg (by rw [c2]; omega)]
      exact c_Y_bitOnI hy hC i2 (fin 0 _ (by decide) b2 (by rw [if_neg h1]) (by rw [if_pos h2]))
    · rw [if_pos (by rw [c2]; exact h2)]
      exact fin 0 0 (by decide) (by decide) (by rw [if_neg h1]) (by rw [if_neg h2])
theorem bsd_nbr {p w : Nat} (h : pl P p = some w) : bsd P p = nbr P w := by
  funext q; unfold bsd nbr; rw [h]
  cases pl P q <;> rfl
theorem c_Y_beside {Q : Int32 → pu_M → Prop} {p : Nat} (hy : pu_isY y) (hC : CY P M y) (hI : PI P) (hp : p < 16) (H : Q (nI (bs (bsd P p) 16)) M) : pu_I L (d + 3) 114 [.ref y, .int (nI p)] M Q := by
  refine r_Yard_beside hy (c_Y_isLaid hy hC hI hp ?_)
  cases e : pl P p with
  | none =>
    have : bs (bsd P p) 16 = 0 := bs_zero.mpr (fun k _ => by unfold bsd; rw [e])
    rw [this, nI_0] at H
    simpa using H
  | some w =>
    have hw := ((hI.1 p hp).2.2 w e).1
    rw [bsd_nbr e] at H
    simp only [Option.isSome_some, if_true]
    rw [if_neg (by decide)]
    simp (disch := omega) only [nI_clamp, inb_nI, true_and, (hC.1 p hp).2.2, e, pI]
    exact c_Y_besidePlot hy hC hI hw H
/-- a set, and all beside one of it -/
def wbs (P : Pp) (s : Nat) : Nat := bs (fun q => s.testBit q || (List.range 16).any (fun p => s.testBit p && bsd P p q)) 16
def wbk (P : Pp) (s k : Nat) : Nat := bs (fun q => s.testBit q || (List.range k).any (fun p => s.testBit p && bsd P p q)) 16
theorem bs_or2 {A B : Nat → Bool} {n : Nat} : bs A n ||| bs B n = bs (fun k => A k || B k) n := by
  apply Nat.eq_of_testBit_eq
  intro i
  rw [Nat.testBit_or, bs_bit, bs_bit, bs_bit]
  cases decide (i < n) <;> simp
theorem wbk_0 {s : Nat} (hs : s < 65536) : wbk P s 0 = s := by
  unfold wbk
  simp only [List.range_zero, List.any_nil, Bool.or_false]
  exact bs_of_bits (n := 16) hs
theorem wbk_s {s k : Nat} : wbk P s (k + 1) = if s.testBit k = true then wbk P s k ||| bs (bsd P k) 16 else wbk P s k := by
  unfold wbk
  split
  next h =>
    rw [bs_or2]
    exact bs_eq (fun q _ => by simp [List.range_succ, h, Bool.or_assoc])
  next h => exact bs_eq (fun q _ => by simp [List.range_succ, h])
theorem c_Y_withBeside {Q : Int32 → pu_M → Prop} {s : Nat} (hy : pu_isY y) (hC : CY P M y) (hI : PI P) (hs : s < 65536) (H : Q (nI (wbs P s)) M) : pu_I L (d + 4) 115 [.ref y, .int (nI s)] M Q := by
  have h0 := dn (R := fun k => pu_R L (d + 4) 115 4 [.ref y, .int (nI s), .int (nI (wbk P s k)), .int (nI k)] [] M (pu_qI Q)) 16 (r_Yard_withBeside_4 hy (by rw [if_pos ge16]; exact H)) (fun k hk ih => by
    refine r_Yard_withBeside_4 hy ?_
    rw [if_neg (lt16 hk), nI_bit (by omega) (by omega)]
    have hl : wbk P s k < 2 ^ 16 := bs_lt _ _
    rw [wbk_s] at ih
    by_cases hb : s.testBit k = true
    · rw [if_pos hb] at ih
      rw [if_pos hb, if_pos (by decide)]
      refine c_Y_beside hy hC hI hk ?_
      have hl2 : bs (bsd P k) 16 < 2 ^ 16 := bs_lt _ _
      rw [nI_or (by omega) (by omega), nI_1]
      exact ih
    · rw [if_neg hb] at ih
      rw [if_neg hb, if_neg (by decide), or0, nI_1]
      exact ih)
  rw [wbk_0 hs] at h0
  exact r_Yard_withBeside hy h0
theorem c_m_andBeside {Q : Int32 → pu_M → Prop} {s : Nat} (hM : PM P (M 59)) (hI : PI P) (hs : s < 65536) (H : Q (nI (wbs P s)) M) : pu_I L (d + 5) 240 [.ref 58, .int (nI s)] M Q := by
  have h0 := dn (R := fun k => pu_R L (d + 5) 240 4 [.ref 58, .int (nI s), .int (nI (wbk P s k)), .int (nI k)] [] M (pu_qI Q)) 16 (r_m_andBeside_4 (by rw [if_pos ge16]; exact H)) (fun k hk ih => by
    refine r_m_andBeside_4 ?_
    rw [if_neg (lt16 hk)]
    refine c_m_has hs (by omega) ?_
    have hl : wbk P s k < 2 ^ 16 := bs_lt _ _
    rw [wbk_s] at ih
    by_cases hb : s.testBit k = true
    · rw [if_pos hb] at ih
      rw [if_pos hb, if_neg (by decide)]
      refine c_m_besideSet hM hI hk ?_
      have hl2 : bs (bsd P k) 16 < 2 ^ 16 := bs_lt _ _
      rw [nI_or (by omega) (by omega), nI_1]
      exact ih
    · rw [if_neg hb] at ih
      rw [if_neg hb, if_pos rfl, nI_1]
      exact ih)
  rw [wbk_0 hs] at h0
  exact r_m_andBeside h0
end YD
