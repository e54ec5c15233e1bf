/-! circles, from -/
def crc (P : Pp) (p : Nat) : Nat := if (pl P p).isSome = true then itw P (2 ^ p) 16 else 0
theorem p2_lt {p : Nat} (hp : p < 16) : 2 ^ p < 65536 := Nat.pow_lt_pow_right (n := 16) (by decide) hp
theorem crc_lt (P : Pp) {p : Nat} (hp : p < 16) : crc P p < 65536 := by
  unfold crc; split
  · exact itw_lt (p2_lt hp) 16
  · decide
theorem itw_zero (P : Pp) : ∀ k, itw P 0 k = 0
  | 0 => rfl
  | k + 1 => by show wbs P (itw P 0 k) = 0; rw [itw_zero P k, wbs_zero]
theorem pc_p2 : ∀ p, p < 16 → 1 ≤ pc (2 ^ p) := by decide +kernel
/-- seen so far, circles so far -/
def ccs (P : Pp) (k : Nat) (a : Nat × Nat) : Nat × Nat := if ((pl P k).isSome && !a.1.testBit k) = true then (a.1 ||| crc P k, a.2 + 1) else a
theorem ccs_lt (P : Pp) : ∀ k, k ≤ 16 → (fo (ccs P) k (0, 0)).1 < 65536 ∧ (fo (ccs P) k (0, 0)).2 ≤ k
  | 0, _ => ⟨show 0 < 65536 by decide, Nat.le_refl 0⟩
  | k + 1, h => by
    obtain ⟨a, b⟩ := ccs_lt P k (by omega)
    show (ccs P k (fo (ccs P) k (0, 0))).1 < _ ∧ (ccs P k (fo (ccs P) k (0, 0))).2 ≤ _
    generalize fo (ccs P) k (0, 0) = z at a b ⊢
    unfold ccs
    split
    · exact ⟨Nat.or_lt_two_pow (n := 16) a (crc_lt P (by omega)), Nat.succ_le_succ b⟩
    · exact ⟨a, by omega⟩
theorem fnd_t {R : Nat → Bool} {j k : Nat} (h : R k = true) : fnd R (j + 1) k = some k := by simp [fnd, h]
theorem fnd_f {R : Nat → Bool} {j k : Nat} (h : R k = false) : fnd R (j + 1) k = fnd R j (k + 1) := by simp [fnd, h]
def s_circles (P : Pp) (v : Int32) : Int32 := if v = 100 then nI (fo (ccs P) 16 (0, 0)).2 else if tdV P v = true then nI (crc P v.toNatClampNeg) else -1
def s_from (P : Pp) (v w : Int32) : Int32 := if tdV P v = true ∧ tdV P w = true then (if (pl P v.toNatClampNeg).isSome = true ∧ (pl P w.toNatClampNeg).isSome = true then pI (fnd (fun k => (itw P (2 ^ v.toNatClampNeg) k).testBit w.toNatClampNeg) 16 0) else -2) else -1
theorem itw_mono {P : Pp} {s q k : Nat} (hq : q < 16) (h : (itw P s k).testBit q = true) : ∀ j, (itw P s (k + j)).testBit q = true
  | 0 => h
  | j + 1 => wbs_sup hq (itw_mono hq h j)
section UC
variable {L d : Nat} {M : pu_M} {P : Pp} {y : Nat}
theorem c_Y_circleOf {Q : Int32 → pu_M → Prop} {p : Nat} (hy : pu_isY y) (hC : CY P M y) (hI : PI P) (hp : p < 16) (H : Q (nI (crc P p)) M) : pu_I L (d + 5) 116 [.ref y, .int (nI p)] M Q := by
  refine r_Yard_circleOf hy (c_Y_isLaid hy hC hI hp ?_)
  have key : ∀ s, s < 65536 → Q (nI (itw P s 16)) M → pu_R L (d + 5) 116 18 [.ref y, .int (nI p), .int (nI s), .int 0] [] M (pu_qI Q) := by
    intro s hs H
    refine dn (R := fun k => pu_R L (d + 5) 116 18 [.ref y, .int (nI p), .int (nI (itw P s k)), .int (nI k)] [] M (pu_qI Q)) 16 (r_Yard_circleOf_18 hy (by rw [if_pos ge16]; exact H)) (fun k hk ih => ?_)
    refine r_Yard_circleOf_18 hy ?_
    rw [if_neg (lt16 hk)]
    refine c_Y_withBeside hy hC hI (itw_lt hs k) ?_
    rw [nI_1]; exact ih
  unfold crc at H
  cases e : (pl P p).isSome with
  | false =>
    rw [e, if_neg (by decide)] at H
    rw [if_neg (by decide), if_pos rfl]
    exact key 0 (by decide) (by rw [itw_zero]; exact H)
  | true =>
    rw [e, if_pos rfl] at H
    rw [if_pos rfl, if_neg (by decide), nI_pow (by omega)]
    exact key _ (p2_lt hp) H
theorem c_m_circleOf {Q : Int32 → pu_M → Prop} {p : Nat} (hM : PM P (M 59)) (hI : PI P) (hp : p < 16) (H : Q (nI (itw P (2 ^ p) 16)) M) : pu_I L (d + 6) 242 [.ref 58, .int (nI p)] M Q := by
  refine r_m_circleOf ?_
  rw [nI_pow (by omega)]
  have hl := itw_lt (P := P) (p2_lt hp)
  have hst := itw_st16 (P := P) (p2_lt hp)
  refine dn (R := fun k => pu_R L (d + 6) 242 4 [.ref 58, .int (nI p), .int (nI (itw P (2 ^ p) k))] [] M (pu_qI Q)) 16 ?_ (fun k hk ih => ?_)
  · refine r_m_circleOf_4 (c_m_andBeside hM hI (hl 16) ?_)
    rw [if_pos (by rw [hst])]; exact H
  · refine r_m_circleOf_4 (c_m_andBeside hM hI (hl k) ?_)
    have hlk := hl k
    have hlk1 := hl (k + 1)
    show if nI (itw P (2 ^ p) (k + 1)) = nI (itw P (2 ^ p) k) then _ else _
    by_cases e : itw P (2 ^ p) (k + 1) = itw P (2 ^ p) k
    · rw [if_pos (by rw [e])]
      have e1 := itw_stay (P := P) (s := 2 ^ p) (k := k) e (16 - k)
      rw [show k + (16 - k) = 16 by omega] at e1
      rw [e1] at H
      exact H
    · rw [if_neg (fun z => e ((nI_eq (by omega) (by omega)).mp z))]
      exact c_m_andBeside hM hI hlk ih
theorem c_x_circles {Q : Int32 → pu_M → Prop} {v : Int32} (h9 : M 0 9 = nI y) (hy : pu_isY y) (hC : CY P M y) (hI : PI P) (H : Q (s_circles P v) M) : pu_I L (d + 7) 139 [.ref 0, .int v] M Q := by
  refine r_x_circles ?_
  unfold s_circles at H
  by_cases h100 : v = 100
  · rw [if_pos h100] at H ⊢
    refine r_x_circleCount (dn (R := fun k => pu_R L (d + 6) 152 6 [.ref 0, .int (nI (fo (ccs P) k (0, 0)).1), .int (nI (fo (ccs P) k (0, 0)).2), .int (nI k)] [] M (pu_qI Q)) 16 (r_x_circleCount_6 (by rw [if_pos ge16]; exact H)) (fun k hk ih => ?_))
    refine r_x_circleCount_6 ?_
    rw [if_neg (lt16 hk)]
    refine ⟨y, h9, hy, c_Y_isLaid hy hC hI hk ?_⟩
    obtain ⟨b1, b2⟩ := ccs_lt P k (by omega)
    have e : fo (ccs P) (k + 1) (0, 0) = ccs P k (fo (ccs P) k (0, 0)) := rfl
    rw [e] at ih
    generalize fo (ccs P) k (0, 0) = a at ih b1 b2 ⊢
    unfold ccs at ih
    cases hl : (pl P k).isSome with
    | false =>
      simp only [hl, Bool.false_and, Bool.false_eq_true, if_false] at ih
      rw [if_neg (by decide), if_pos rfl, nI_1]; exact ih
    | true =>
      rw [if_pos rfl, if_neg (by decide)]
      simp (disch := omega) only [nI_bit]
      cases hb : a.1.testBit k with
      | true =>
        simp only [hl, hb, Bool.not_true, Bool.and_false, Bool.false_eq_true, if_false] at ih
        rw [if_neg (by decide), nI_1]; exact ih
      | false =>
        simp only [hl, hb, Bool.not_false, Bool.and_true, if_true] at ih
        rw [if_pos (by decide)]
        refine ⟨y, h9, hy, c_Y_circleOf hy hC hI hk ?_⟩
        have := crc_lt P hk
        rw [nI_or (by omega) (by omega), nI_1, nI_1]; exact ih
  · rw [if_neg h100] at H ⊢
    refine ⟨y, h9, hy, ?_⟩
    rcases v16 v with ⟨p, hp, rfl⟩ | hv
    · refine c_Y_isTold hy hC hp ?_
      rw [tdV_nI hp, nI_clamp (by omega)] at H
      cases ht : tl P p with
      | false => rw [ht] at H; simpa using H
      | true =>
        rw [ht, if_pos rfl] at H
        rw [if_pos rfl, if_neg (by decide)]
        exact ⟨y, h9, hy, c_Y_circleOf hy hC hI hp H⟩
    · refine c_Y_isToldN hy hv ?_
      rw [tdV_out hv] at H
      simpa using H
theorem an_an {a b c : Nat} (ha : a < 65536) : an (an a b) c = an a (b ||| c) := by
  have h1 : an a b < 2 ^ 16 := an_lt (n := 16) ha (by decide)
  apply Nat.eq_of_testBit_eq
  intro i
  rw [an_bit (by omega), an_bit (by omega), an_bit (by omega), Nat.testBit_or]
  cases a.testBit i <;> cases b.testBit i <;> cases c.testBit i <;> rfl
theorem an_0 {a : Nat} (ha : a < 65536) : an a 0 = a := by
  apply Nat.eq_of_testBit_eq
  intro i
  rw [an_bit (by omega)]; simp
theorem c_m_circles {Q : Int32 → pu_M → Prop} {v : Int32} (hM : PM P (M 59)) (hI : PI P) (H : Q (s_circles P v) M) : pu_I L (d + 7) 243 [.ref 58, .int v] M Q := by
  refine r_m_circles ?_
  unfold s_circles at H
  by_cases h100 : v = 100
  · rw [if_pos h100] at H ⊢
    refine r_m_circles_16 ?_
    rw [if_pos h100]
    refine c_m_laidSet hM hI ?_
    have hS : bs (fun p => (pl P p).isSome) 16 < 65536 := bs_lt _ 16
    have key := dn (R := fun k => pu_R L (d + 7) 243 50 [.ref 58, .int v, .int (nI (an (bs (fun p => (pl P p).isSome) 16) (fo (ccs P) k (0, 0)).1)), .int (nI (fo (ccs P) k (0, 0)).2), .int (nI k)] [] M (pu_qI Q)) 16 (r_m_circles_50 (by rw [if_pos ge16]; exact H)) (fun k hk ih => by
      refine r_m_circles_50 ?_
      rw [if_neg (lt16 hk)]
      obtain ⟨b1, b2⟩ := ccs_lt P k (by omega)
      have e : fo (ccs P) (k + 1) (0, 0) = ccs P k (fo (ccs P) k (0, 0)) := rfl
      rw [e] at ih
      generalize fo (ccs P) k (0, 0) = a at ih b1 b2 ⊢
      have hl := an_lt (b := a.1) (n := 16) hS (by decide)
      refine c_m_has hl (by omega) ?_
      have hbit : (an (bs (fun p => (pl P p).isSome) 16) a.1).testBit k = ((pl P k).isSome && !a.1.testBit k) := by
        rw [an_bit (by omega), bs_bit]; simp [hk]
      rw [hbit]
      unfold ccs at ih
      cases hc : ((pl P k).isSome && !a.1.testBit k) with
      | false =>
        simp only [hc, Bool.false_eq_true, if_false] at ih
        rw [if_neg (by decide), if_pos rfl, nI_1]; exact ih
      | true =>
        simp only [hc, if_true] at ih
        rw [if_pos rfl, if_neg (by decide)]
        have hla : (pl P k).isSome = true := by
          cases h9 : (pl P k).isSome with
          | true => rfl
          | false => rw [h9] at hc; cases hc
        have hcr : crc P k = itw P (2 ^ k) 16 := by unfold crc; rw [if_pos hla]
        rw [hcr] at ih
        refine c_m_circleOf hM hI hk ?_
        have := itw_lt (P := P) (p2_lt hk) 16
        rw [nI_andn (by omega) (by omega), an_an hS, nI_1, nI_1]; exact ih)
    have e0 : an (bs (fun p => (pl P p).isSome) 16) (fo (ccs P) 0 (0, 0)).1 = bs (fun p => (pl P p).isSome) 16 := an_0 hS
    rw [e0] at key
    exact key
  · rw [if_neg h100] at H ⊢
    rcases v16 v with ⟨p, hp, rfl⟩ | hv
    · refine c_m_isTold hM hp ?_
      rw [tdV_nI hp, nI_clamp (by omega)] at H
      cases ht : tl P p with
      | false => rw [ht] at H; simpa using H
      | true =>
        rw [ht, if_pos rfl] at H
        rw [if_pos rfl, if_neg (by decide)]
        refine r_m_circles_16 ?_
        rw [if_neg h100]
        refine c_m_isLaid hM hI hp ?_
        unfold crc at H
        cases e : (pl P p).isSome with
        | false => rw [e, if_neg (by decide)] at H; rw [if_neg (by decide), if_pos rfl]; exact H
        | true => rw [e, if_pos rfl] at H; rw [if_pos rfl, if_neg (by decide)]; exact c_m_circleOf hM hI hp H
    · refine c_m_isToldN hv ?_
      rw [tdV_out hv] at H
      simpa using H
theorem c_x_from {Q : Int32 → pu_M → Prop} {v w : Int32} (h9 : M 0 9 = nI y) (hy : pu_isY y) (hC : CY P M y) (hI : PI P) (H : Q (s_from P v w) M) : pu_I L (d + 5) 140 [.ref 0, .int v, .int w] M Q := by
  refine r_x_from ⟨y, h9, hy, ?_⟩
  unfold s_from at H
  rcases v16 v with ⟨p, hp, rfl⟩ | hv
  · refine c_Y_isTold hy hC hp ?_
    rw [tdV_nI hp, nI_clamp (by omega)] at H
    cases ht : tl P p with
    | false => rw [ht] at H; simpa using H
    | true =>
      rw [ht] at H
      rw [if_pos rfl, if_neg (by decide)]
      refine ⟨y, h9, hy, ?_⟩
      rcases v16 w with ⟨q, hq, rfl⟩ | hw
      · refine c_Y_isTold hy hC hq ?_
        rw [tdV_nI hq, nI_clamp (show q < 2 ^ 31 by omega)] at H
        cases ht2 : tl P q with
        | false => rw [ht2] at H; simpa using H
        | true =>
          rw [ht2, if_pos ⟨rfl, rfl⟩] at H
          rw [if_pos rfl, if_neg (by decide)]
          refine ⟨y, h9, hy, c_Y_isLaid hy hC hI hp ?_⟩
          cases e1 : (pl P p).isSome with
          | false => rw [e1] at H; simpa using H
          | true =>
            rw [if_pos rfl, if_neg (by decide)]
            refine ⟨y, h9, hy, c_Y_isLaid hy hC hI hq ?_⟩
            cases e2 : (pl P q).isSome with
            | false => rw [e1, e2] at H; simpa using H
            | true =>
              rw [e1, e2, if_pos ⟨rfl, rfl⟩] at H
              rw [if_pos rfl, if_neg (by decide), nI_pow (by omega)]
              have hl := itw_lt (P := P) (p2_lt hp)
              refine dn (R := fun k => Q (pI (fnd (fun k => (itw P (2 ^ p) k).testBit q) (16 - k) k)) M → pu_R L (d + 5) 140 56 [.ref 0, .int (nI p), .int (nI q), .int (nI (itw P (2 ^ p) k)), .int (nI k)] [] M (pu_qI Q)) 16 (fun h => r_x_from_56 (by rw [if_pos ge16]; exact h)) (fun k hk ih h => ?_) H
              refine r_x_from_56 ?_
              have hlk := hl k
              rw [if_neg (lt16 hk)]
              simp (disch := omega) only [nI_bit]
              rw [show 16 - k = (16 - (k + 1)) + 1 by omega] at h
              cases hb : (itw P (2 ^ p) k).testBit q with
              | true => rw [fnd_t (R := fun k => (itw P (2 ^ p) k).testBit q) hb] at h; rw [if_pos (by decide)]; exact h
              | false =>
                rw [fnd_f (R := fun k => (itw P (2 ^ p) k).testBit q) hb] at h
                rw [if_neg (by decide)]
                refine ⟨y, h9, hy, c_Y_withBeside hy hC hI hlk ?_⟩
                rw [nI_1]; exact ih h
      · refine c_Y_isToldN hy hw ?_
        rw [tdV_out hw] at H
        simpa using H
  · refine c_Y_isToldN hy hv ?_
    rw [tdV_out hv] at H
    simpa using H
theorem c_m_from {Q : Int32 → pu_M → Prop} {v w : Int32} (hM : PM P (M 59)) (hI : PI P) (H : Q (s_from P v w) M) : pu_I L (d + 7) 244 [.ref 58, .int v, .int w] M Q := by
  refine r_m_from ?_
  unfold s_from at H
  rcases v16 v with ⟨p, hp, rfl⟩ | hv
  · refine c_m_isTold hM hp ?_
    rw [tdV_nI hp, nI_clamp (by omega)] at H
    cases ht : tl P p with
    | false => rw [ht] at H; simpa using H
    | true =>
      rw [ht] at H
      rw [if_pos rfl, if_neg (by decide)]
      rcases v16 w with ⟨q, hq, rfl⟩ | hw
      · refine c_m_isTold hM hq ?_
        rw [tdV_nI hq, nI_clamp (show q < 2 ^ 31 by omega)] at H
        cases ht2 : tl P q with
        | false => rw [ht2] at H; simpa using H
        | true =>
          rw [ht2, if_pos ⟨rfl, rfl⟩] at H
          rw [if_pos rfl, if_neg (by decide)]
          refine c_m_isLaid hM hI hp ?_
          cases e1 : (pl P p).isSome with
          | false => rw [e1] at H; simpa using H
          | true =>
            rw [if_pos rfl, if_neg (by decide)]
            refine c_m_isLaid hM hI hq ?_
            cases e2 : (pl P q).isSome with
            | false => rw [e1, e2] at H; simpa using H
            | true =>
              rw [e1, e2, if_pos ⟨rfl, rfl⟩] at H
              rw [if_pos rfl, if_neg (by decide)]
              have hl := itw_lt (P := P) (p2_lt hp)
              refine c_m_circleOf hM hI hp (c_m_has (hl 16) (by omega) ?_)
              have hst : wbs P (itw P (2 ^ p) 15) = itw P (2 ^ p) 15 := itw_stable (p2_lt hp) (by have := pc_p2 p hp; omega)
              have e16 : itw P (2 ^ p) 16 = itw P (2 ^ p) 15 := hst
              cases hb : (itw P (2 ^ p) 16).testBit q with
              | false =>
                rw [if_neg (by decide), if_pos rfl]
                have hn : fnd (fun k => (itw P (2 ^ p) k).testBit q) 16 0 = none := by
                  cases hf : fnd (fun k => (itw P (2 ^ p) k).testBit q) 16 0 with
                  | none => rfl
                  | some k =>
                    obtain ⟨-, h2, h3, -⟩ := fnd_some hf
                    have := itw_mono hq h3 (16 - k)
                    rw [show k + (16 - k) = 16 by omega, hb] at this
                    cases this
                rw [hn] at H
                exact H
              | true =>
                rw [if_pos rfl, if_neg (by decide), nI_pow (by omega)]
                refine dn (R := fun k => Q (pI (fnd (fun k => (itw P (2 ^ p) k).testBit q) (16 - k) k)) M → pu_R L (d + 7) 244 56 [.ref 58, .int (nI p), .int (nI q), .int (nI (itw P (2 ^ p) k)), .int (nI k)] [] M (pu_qI Q)) 15 (fun h => r_m_from_56 (c_m_has (hl 15) (by omega) ?_)) (fun k hk ih h => ?_) H
                · rw [← e16, hb, if_pos rfl, if_neg (by decide)]
                  rw [show 16 - 15 = 0 + 1 by decide] at h
                  rw [fnd_t (by rw [← e16]; exact hb)] at h
                  exact h
                · refine r_m_from_56 (c_m_has (hl k) (by omega) ?_)
                  rw [show 16 - k = (16 - (k + 1)) + 1 by omega] at h
                  cases hbk : (itw P (2 ^ p) k).testBit q with
                  | true => rw [fnd_t (R := fun k => (itw P (2 ^ p) k).testBit q) hbk] at h; rw [if_pos rfl, if_neg (by decide)]; exact h
                  | false =>
                    rw [fnd_f (R := fun k => (itw P (2 ^ p) k).testBit q) hbk] at h
                    rw [if_neg (by decide), if_pos rfl]
                    refine c_m_andBeside hM hI (hl k) ?_
                    rw [nI_1]; exact ih h
      · refine c_m_isToldN hw ?_
        rw [tdV_out hw] at H
        simpa using H
  · refine c_m_isToldN hv ?_
    rw [tdV_out hv] at H
    simpa using H
end UC
