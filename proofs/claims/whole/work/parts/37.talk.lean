/-! how much one says at a plot -/
def sm (x : Int32) (n : Nat) : Prop := -(n : Int) ≤ x.toInt ∧ x.toInt ≤ n
theorem sm_add {a b : Int32} {n m : Nat} (ha : sm a n) (hb : sm b m) (h : n + m < 2 ^ 30) : sm (a + b) (n + m) ∧ (a + b).toInt = a.toInt + b.toInt := by
  obtain ⟨a1, a2⟩ := ha
  obtain ⟨b1, b2⟩ := hb
  have e : (a + b).toInt = a.toInt + b.toInt := by rw [Int32.toInt_add]; exact mq_bmod (by omega) (by omega)
  exact ⟨⟨by omega, by omega⟩, e⟩
theorem sm_sub {a b : Int32} {n m : Nat} (ha : sm a n) (hb : sm b m) (h : n + m < 2 ^ 30) : sm (a - b) (n + m) ∧ (a - b).toInt = a.toInt - b.toInt := by
  obtain ⟨a1, a2⟩ := ha
  obtain ⟨b1, b2⟩ := hb
  have e : (a - b).toInt = a.toInt - b.toInt := by rw [Int32.toInt_sub]; exact mq_bmod (by omega) (by omega)
  exact ⟨⟨by omega, by omega⟩, e⟩
theorem sm_le {a : Int32} {n m : Nat} (ha : sm a n) (h : n ≤ m) : sm a m := ⟨by have := ha.1; omega, by have := ha.2; omega⟩
theorem sm_nI {a n : Nat} (h : a ≤ n) (hn : n < 2 ^ 30) : sm (nI a) n := by
  have e := nI_toInt (show a < 2 ^ 31 by omega)
  exact ⟨by omega, by omega⟩
theorem sm_0 (n : Nat) : sm 0 n := ⟨by have e : (0 : Int32).toInt = 0 := rfl; omega, by have e : (0 : Int32).toInt = 0 := rfl; omega⟩
theorem sm_tk (P : Pp) (p q : Nat) : sm (tk P p q) 64 := by
  unfold tk
  rw [n_3, pk_mul]
  exact (sm_sub (n := 48) (m := 16) (sm_nI (by have := pc_le (tp P p &&& tp P q); omega) (by decide)) (sm_nI (pc_le _) (by decide)) (by decide)).1
/-- what p says at plot w with all beside it but those of lo -/
def tas (P : Pp) (p w lo : Nat) : Int32 := fo (fun q a => if (nbr P w q && (!decide (q = p) && !lo.testBit q)) = true then a + tk P p q else a) 16 0
theorem sm_fo {f : Nat → Int32 → Int32} {c : Nat} (hf : ∀ k a n, sm a n → n + c < 2 ^ 30 → sm (f k a) (n + c)) : ∀ n, n * c < 2 ^ 29 → c < 2 ^ 29 → sm (fo f n 0) (n * c)
  | 0, _, _ => sm_0 _
  | n + 1, h, hc => by
    have e : (n + 1) * c = n * c + c := Nat.succ_mul n c
    have := sm_fo hf n (by omega) hc
    rw [e]
    exact hf n _ _ this (by omega)
theorem sm_tas (P : Pp) (p w lo : Nat) : sm (tas P p w lo) 1024 := by
  refine sm_fo (c := 64) (fun k a n ha hn => ?_) 16 (by decide) (by decide)
  try dsimp only
  split
  · exact (sm_add ha (sm_tk P p k) hn).1
  · exact sm_le ha (by omega)
section TC
variable {L d : Nat} {M : pu_M} {P : Pp} {y : Nat}
theorem c_Y_talkAt {Q : Int32 → pu_M → Prop} {p w l0 : Nat} (hy : pu_isY y) (hC : CY P M y) (hI : PI P) (hp : p < 16) (hw : w < 60) (hlo : l0 < 65536) (H : Q (tas P p w l0) M) : pu_I L (d + 3) 119 [.ref y, .int (nI p), .int (nI w), .int (nI l0)] M Q := by
  refine r_Yard_talkAt hy (c_Y_besidePlot hy hC hI hw ?_)
  have hb : bs (nbr P w) 16 < 2 ^ 16 := bs_lt _ 16
  have h2 := p2_lt hp
  have ha1 : an (bs (nbr P w) 16) (2 ^ p) < 2 ^ 16 := an_lt hb (by decide)
  have ha2 : an (an (bs (nbr P w) 16) (2 ^ p)) l0 < 2 ^ 16 := an_lt ha1 (by decide)
  rw [nI_pow (by omega), nI_andn (by omega) (by omega), nI_andn (by omega) (by omega)]
  refine dn (R := fun k => pu_R L (d + 3) 119 23 [.ref y, .int (nI p), .int (nI w), .int (nI l0), .int (nI (an (an (bs (nbr P w) 16) (2 ^ p)) l0)), .int (fo (fun q a => if (nbr P w q && (!decide (q = p) && !l0.testBit q)) = true then a + tk P p q else a) k 0), .int (nI k)] [] M (pu_qI Q)) 16 (r_Yard_talkAt_23 hy (by rw [if_pos ge16]; exact H)) (fun k hk ih => ?_)
  refine r_Yard_talkAt_23 hy ?_
  rw [if_neg (lt16 hk)]
  simp (disch := omega) only [nI_bit]
  have hbit : (an (an (bs (nbr P w) 16) (2 ^ p)) l0).testBit k = (nbr P w k && (!decide (k = p) && !l0.testBit k)) := by
    rw [an_bit (by omega), an_bit (by omega), bs_bit, Nat.testBit_two_pow]
    simp only [hk, decide_true, Bool.true_and, Bool.and_assoc]
    rw [show decide (p = k) = decide (k = p) by rw [decide_eq_decide]; omega]
  simp only [hbit]
  simp only [fo] at ih
  cases hc : (nbr P w k && (!decide (k = p) && !l0.testBit k)) with
  | true =>
    simp only [hc, if_true] at ih
    rw [if_pos (by decide)]
    refine c_Y_talkOf hy hC hI hp hk ?_
    rw [nI_1]; exact ih
  | false =>
    simp only [hc, Bool.false_eq_true, if_false] at ih
    rw [if_neg (by decide), add0, nI_1]; exact ih
theorem c_m_talkAt {Q : Int32 → pu_M → Prop} {p w : Nat} (hM : PM P (M 59)) (hI : PI P) (hp : p < 16) (hw : w < 60) (H : Q (tas P p w 0) M) : pu_I L (d + 4) 224 [.ref 58, .int (nI p), .int (nI w)] M Q := by
  refine r_m_talkAt (dn (R := fun k => pu_R L (d + 4) 224 5 [.ref 58, .int (nI p), .int (nI w), .int (fo (fun q a => if (nbr P w q && (!decide (q = p) && !(0 : Nat).testBit q)) = true then a + tk P p q else a) k 0), .int (nI k)] [] M (pu_qI Q)) 16 (r_m_talkAt_5 (by rw [if_pos ge16]; exact H)) (fun k hk ih => ?_))
  refine r_m_talkAt_5 ?_
  rw [if_neg (lt16 hk)]
  simp only [fo, Nat.zero_testBit, Bool.not_false, Bool.and_true] at ih ⊢
  generalize fo (fun q a => if (nbr P w q && !decide (q = p)) = true then a + tk P p q else a) k 0 = acc at ih ⊢
  by_cases hkp : k = p
  · simp only [hkp, decide_true, Bool.not_true, Bool.and_false, Bool.false_eq_true, if_false] at ih
    rw [if_pos (by rw [hkp]), nI_1, hkp]; exact ih
  · rw [if_neg (fun z => hkp ((nI_eq (by omega) (by omega)).mp z))]
    refine c_m_isLaid hM hI hk ?_
    have h4 := (hM.1 k hk).2.2.2
    cases e : pl P k with
    | none =>
      have hn : nbr P w k = false := by unfold nbr; rw [e]
      simp only [hn, Bool.false_and, Bool.false_eq_true, if_false] at ih
      simp only [Option.isSome_none, Bool.false_eq_true, if_false]
      rw [if_pos trivial, nI_1]; exact ih
    | some b =>
      have hn : nbr P w k = nx w b := by unfold nbr; rw [e]
      have hb60 := ((hI.1 k hk).2.2 b e).1
      rw [e] at h4
      simp only [Option.isSome_some, if_true]
      rw [if_neg (by decide)]
      simp (disch := omega) only [n_48, nI_add, nI_clamp, inb_nI, true_and, h4, pI]
      refine c_m_areNext hw hb60 ?_
      rw [hn] at ih
      cases hx : nx w b with
      | true =>
        simp only [hx, hkp, decide_false, Bool.not_false, Bool.and_true, if_true] at ih
        rw [if_pos rfl, if_neg (by decide)]
        refine c_m_talkOf hM hI hp hk ?_
        rw [nI_1]; exact ih
      | false =>
        simp only [hx, Bool.false_and, Bool.false_eq_true, if_false] at ih
        rw [if_neg (by decide), if_pos rfl, nI_1]; exact ih
end TC
