/-! alike, heard, circles, from -/
theorem v01 {w : Int32} : (w < 0 ∨ 1 < w) ∨ (¬ w < 0 ∧ w ≤ 1) := by
  by_cases h : w < 0
  · exact Or.inl (Or.inl h)
  · by_cases h2 : 1 < w
    · exact Or.inl (Or.inr h2)
    · exact Or.inr ⟨h, Int32.not_lt.mp h2⟩
theorem le_not_lt {a b : Int32} (h : a ≤ b) : ¬ b < a := Int32.not_lt.mpr h
theorem lt_not_le {a b : Int32} (h : a < b) : ¬ b ≤ a := fun z => Int32.not_lt.mpr z h
section VC
variable {L d : Nat} {M : pu_M} {P : Pp} {y : Nat}
theorem c_x_alike {Q : Int32 → pu_M → Prop} {v w : Int32} (h9 : M 0 9 = nI y) (hy : pu_isY y) (hC : CY P M y) (hI : PI P) (H : Q (s_alike P v w) M) : pu_I L (d + 3) 146 [.ref 0, .int v, .int w] M Q := by
  refine r_x_alike ⟨y, h9, hy, ?_⟩
  unfold s_alike at H
  rcases v16 v with ⟨p, hp, rfl⟩ | hv
  · refine c_Y_isTold hy hC hp ?_
    rw [tdV_nI hp, nI_clamp (by omega)] at H
    cases ht : tl P p with
    | false => rw [ht] at H; simpa using H
    | true =>
      rw [ht] at H
      rw [if_pos rfl, if_neg (by decide)]
      rcases v01 (w := w) with hw | ⟨hw1, hw2⟩
      · rw [if_neg (fun z => z.2 hw)] at H
        by_cases h0 : w < 0
        · rw [if_pos h0]; exact H
        · rw [if_neg h0, if_neg (lt_not_le (hw.resolve_left h0))]; exact H
      · rw [if_neg hw1, if_pos hw2]
        rw [if_pos ⟨rfl, fun z => z.elim hw1 (le_not_lt hw2)⟩] at H
        have hp1 := (hI.1 p hp).1
        have key := dn (R := fun k => ∀ j : Value, pu_R L (d + 3) 146 32 [.ref 0, .int (nI p), .int w, .int (fo (alk P p) k (-2, -2)).1, .int (fo (alk P p) k (-2, -2)).2, .int (nI k), j] [] M (pu_qI Q)) 16 (fun j => r_x_alike_32 (by
            rw [if_pos ge16]
            by_cases h0 : w = 0
            · rw [if_pos h0] at H ⊢; exact H
            · rw [if_neg h0] at H ⊢; exact H)) (fun k hk ih j => by
          refine r_x_alike_32 ?_
          rw [if_neg (lt16 hk)]
          simp (disch := omega) only [nI_eq, nI_1]
          have e : fo (alk P p) (k + 1) (-2, -2) = alk P p k (fo (alk P p) k (-2, -2)) := rfl
          rw [e] at ih
          generalize fo (alk P p) k (-2, -2) = a at ih ⊢
          unfold alk at ih
          by_cases hkp : k = p
          · rw [if_pos hkp]; simp only [hkp, true_or, if_true] at ih; rw [hkp]; exact ih j
          · rw [if_neg hkp]
            refine ⟨y, h9, hy, c_Y_isTold hy hC hk ?_⟩
            cases htk : tl P k with
            | false => simp only [htk, or_true, if_true] at ih; rw [if_neg (by decide), if_pos rfl]; exact ih j
            | true =>
              simp only [hkp, htk, Bool.true_eq_false, or_self, if_false] at ih
              rw [if_pos rfl, if_neg (by decide)]
              refine ⟨y, h9, hy, inb_nI hp (by decide), y, h9, hy, inb_nI hk (by decide), ?_⟩
              have hk1 := (hI.1 k hk).1
              rw [nI_clamp (by omega), nI_clamp (by omega), (hC.1 p hp).1, (hC.1 k hk).1, nI_xor (by omega) (by omega)]
              refine c_Int_bitCount (tp_xor hI hp hk) ?_
              by_cases ha : a.1 = -2
              · rw [if_pos ha]; simp only [ha, true_or, if_true] at ih; exact ih _
              · rw [if_neg ha]
                by_cases hl : a.2 ≤ nI (pc (tp P p ^^^ tp P k))
                · rw [if_pos hl]; simp only [ha, le_not_lt hl, or_self, if_false] at ih; exact ih _
                · rw [if_neg hl]; simp only [ha, Int32.not_le.mp hl, or_true, if_true] at ih; exact ih _)
        exact key mq_un
  · refine c_Y_isToldN hy hv ?_
    rw [tdV_out hv] at H
    simpa using H
theorem c_m_alike {Q : Int32 → pu_M → Prop} {v w : Int32} (hM : PM P (M 59)) (hI : PI P) (H : Q (s_alike P v w) M) : pu_I L (d + 3) 254 [.ref 58, .int v, .int w] M Q := by
  refine r_m_alike ?_
  unfold s_alike at H
  rcases v16 v with ⟨p, hp, rfl⟩ | hv
  · refine c_m_isTold hM hp ?_
    rw [tdV_nI hp, nI_clamp (by omega)] at H
    cases ht : tl P p with
    | false => rw [ht] at H; simpa using H
    | true =>
      rw [ht] at H
      rw [if_pos rfl, if_neg (by decide)]
      refine c_m_in ?_
      by_cases hw : w < 0 ∨ 1 < w
      · rw [if_neg (fun z => z.2 hw)] at H
        rw [if_pos hw, if_pos rfl]; exact H
      · rw [if_pos ⟨rfl, hw⟩] at H
        rw [if_neg hw, if_neg (by decide)]
        have hp1 := (hI.1 p hp).1
        have key := dn (R := fun k => ∀ j : Value, pu_R L (d + 3) 254 29 [.ref 58, .int (nI p), .int w, .int (fo (alk P p) k (-2, -2)).1, .int (fo (alk P p) k (-2, -2)).2, .int (nI k), j] [] M (pu_qI Q)) 16 (fun j => r_m_alike_29 (by
            rw [if_pos ge16]
            by_cases h0 : w = 0
            · rw [if_pos h0] at H ⊢; exact H
            · rw [if_neg h0] at H ⊢; exact H)) (fun k hk ih j => by
          refine r_m_alike_29 ?_
          have hk1 := (hI.1 k hk).1
          rw [if_neg (lt16 hk)]
          simp (disch := omega) only [n_16, nI_add, nI_clamp, inb_nI, true_and, (hM.1 p hp).2.1, (hM.1 k hk).2.1, nI_xor, nI_eq, nI_1]
          refine c_m_bits (tp_xor hI hp hk) (c_m_isTold hM hk ?_)
          have e : fo (alk P p) (k + 1) (-2, -2) = alk P p k (fo (alk P p) k (-2, -2)) := rfl
          rw [e] at ih
          generalize fo (alk P p) k (-2, -2) = a at ih ⊢
          unfold alk at ih
          cases htk : tl P k with
          | false => simp only [htk, or_true, if_true] at ih; rw [if_neg (by decide), if_pos rfl]; exact ih _
          | true =>
            rw [if_pos rfl, if_neg (by decide)]
            by_cases hkp : k = p
            · rw [if_pos hkp]; simp only [hkp, true_or, if_true] at ih; rw [hkp]; exact ih _
            · rw [if_neg hkp]
              simp only [hkp, htk, Bool.true_eq_false, or_self, if_false] at ih
              by_cases ha : a.1 = -2
              · rw [if_pos ha]; simp only [ha, true_or, if_true] at ih; exact ih _
              · rw [if_neg ha]
                by_cases hl : nI (pc (tp P p ^^^ tp P k)) < a.2
                · rw [if_pos hl]; simp only [ha, hl, or_true, if_true] at ih; exact ih _
                · rw [if_neg hl]; simp only [ha, hl, or_self, if_false] at ih; exact ih _)
        exact key mq_un
  · refine c_m_isToldN hv ?_
    rw [tdV_out hv] at H
    simpa using H
theorem c_Y_having {Q : Int32 → pu_M → Prop} {t : Nat} (hy : pu_isY y) (hC : CY P M y) (hI : PI P) (ht : t < 16) (H : Q (nI (hav P t)) M) : pu_I L (d + 3) 106 [.ref y, .int (nI t)] M Q := by
  refine r_Yard_having hy (dn (R := fun k => pu_R L (d + 3) 106 4 [.ref y, .int (nI t), .int (nI (bs (fun p => tl P p && (tp P p).testBit t) k)), .int (nI k)] [] M (pu_qI Q)) 16 (r_Yard_having_4 hy (by rw [if_pos ge16]; exact H)) (fun k hk ih => ?_))
  refine r_Yard_having_4 hy ?_
  have hk1 := (hI.1 k hk).1
  rw [if_neg (lt16 hk)]
  refine c_Y_isTold hy hC hk ?_
  cases htk : tl P k with
  | false =>
    rw [bs_skip _ (by simp [htk])] at ih
    rw [if_neg (by decide), if_pos rfl, or0, nI_1]; exact ih
  | true =>
    rw [if_pos rfl, if_neg (by decide)]
    simp (disch := omega) only [nI_clamp, inb_nI, true_and, (hC.1 k hk).1, nI_bit]
    cases hb : (tp P k).testBit t with
    | true => rw [if_pos (by decide), bs_step (fun p => tl P p && (tp P p).testBit t) (by omega) (by simp [htk, hb]), nI_1]; exact ih
    | false =>
      rw [bs_skip _ (by simp [htk, hb])] at ih
      rw [if_neg (by decide), or0, nI_1]; exact ih
theorem hav_lt (P : Pp) (t : Nat) : hav P t < 65536 := bs_lt _ 16
theorem c_x_heard {Q : Int32 → pu_M → Prop} {v w : Int32} (h9 : M 0 9 = nI y) (hy : pu_isY y) (hC : CY P M y) (hI : PI P) (H : Q (s_heard P v w) M) : pu_I L (d + 5) 138 [.ref 0, .int v, .int w] M Q := by
  refine r_x_heard ?_
  unfold s_heard at H
  rcases v16 v with ⟨t, ht, rfl⟩ | hv
  · refine c_x_isOne ht ?_
    rw [if_neg (by decide)]
    have h15 := in15 ht
    rw [nI_clamp (by omega)] at H
    rcases v01 (w := w) with hw | ⟨hw1, hw2⟩
    · rw [if_pos (Or.inr (Or.inr hw))] at H
      by_cases h0 : w < 0
      · rw [if_pos h0]; exact H
      · rw [if_neg h0, if_neg (lt_not_le (hw.resolve_left h0))]; exact H
    · rw [if_neg hw1, if_pos hw2]
      rw [if_neg (fun z => by rcases z with z | z | z | z <;> first | exact h15 (Or.inl z) | exact h15 (Or.inr z) | exact hw1 z | exact le_not_lt hw2 z)] at H
      refine ⟨y, h9, hy, c_Y_having hy hC hI ht ?_⟩
      have hl := itw_lt (P := P) (hav_lt P t)
      have key := dn (R := fun k => ∀ j : Value, pu_R L (d + 5) 138 33 [.ref 0, .int (nI t), .int w, .int (nI (itw P (hav P t) k)), .int (nI (itn P (hav P t) k)), .int (nI k), j] [] M (pu_qI Q)) 16 (fun j => r_x_heard_33 (by
          rw [if_pos ge16]
          by_cases h0 : w = 0
          · rw [if_pos h0] at H ⊢; exact H
          · rw [if_neg h0] at H ⊢; exact H)) (fun k hk ih j => by
        refine r_x_heard_33 ?_
        rw [if_neg (lt16 hk)]
        have hlk := hl k
        have hlk1 := hl (k + 1)
        refine ⟨y, h9, hy, c_Y_withBeside hy hC hI hlk ?_⟩
        show if nI (itw P (hav P t) (k + 1)) = nI (itw P (hav P t) k) then _ else _
        by_cases e : itw P (hav P t) (k + 1) = itw P (hav P t) k
        · rw [if_pos (by rw [e]), nI_1]
          have e2 : itn P (hav P t) (k + 1) = itn P (hav P t) k := cnt_f (by simp [e])
          have := ih (.int (nI (wbs P (itw P (hav P t) k))))
          rw [e2, e] at this
          exact this
        · rw [if_neg (fun z => e ((nI_eq (by omega) (by omega)).mp z)), nI_1]
          have e2 : itn P (hav P t) (k + 1) = itn P (hav P t) k + 1 := cnt_t (by simp [e])
          have := ih (.int (nI (wbs P (itw P (hav P t) k))))
          rw [e2] at this
          rw [nI_1]
          exact this)
      exact key mq_un
  · refine c_x_isOneN hv ?_
    rw [if_pos rfl]
    rw [if_pos (by rcases hv with h | h <;> first | exact Or.inl h | exact Or.inr (Or.inl h))] at H
    exact H
theorem c_m_heard {Q : Int32 → pu_M → Prop} {v w : Int32} (hM : PM P (M 59)) (hI : PI P) (H : Q (s_heard P v w) M) : pu_I L (d + 6) 241 [.ref 58, .int v, .int w] M Q := by
  refine r_m_heard (c_m_in ?_)
  unfold s_heard at H
  by_cases hv : v < 0 ∨ 15 < v
  · rw [if_pos hv, if_pos rfl]
    rw [if_pos (by rcases hv with h | h <;> first | exact Or.inl h | exact Or.inr (Or.inl h))] at H
    exact H
  · rw [if_neg hv, if_neg (by decide)]
    refine c_m_in ?_
    by_cases hw : w < 0 ∨ 1 < w
    · rw [if_pos hw, if_pos rfl]
      rw [if_pos (Or.inr (Or.inr hw))] at H
      exact H
    · rw [if_neg hw, if_neg (by decide)]
      obtain ⟨t, ht, rfl⟩ := (v16 v).resolve_right hv
      rw [if_neg (fun z => by rcases z with z | z | z <;> first | exact hv (Or.inl z) | exact hv (Or.inr z) | exact hw z), nI_clamp (by omega)] at H
      have hl := itw_lt (P := P) (hav_lt P t)
      have hst := itw_st16 (P := P) (hav_lt P t)
      have key := dn (R := fun k => pu_R L (d + 6) 241 75 [.ref 58, .int (nI t), .int w, .int (nI (itw P (hav P t) k)), .int (nI (itn P (hav P t) k))] [] M (pu_qI Q)) 16 (by
          refine r_m_heard_75 (c_m_andBeside hM hI (hl 16) ?_)
          rw [if_pos (by rw [hst])]
          by_cases h0 : w = 0
          · rw [if_pos h0] at H ⊢; exact H
          · rw [if_neg h0] at H ⊢; exact H) (fun k hk ih => by
        refine r_m_heard_75 (c_m_andBeside hM hI (hl k) ?_)
        have hlk := hl k
        have hlk1 := hl (k + 1)
        show if nI (itw P (hav P t) (k + 1)) = nI (itw P (hav P t) k) then _ else _
        by_cases e : itw P (hav P t) (k + 1) = itw P (hav P t) k
        · rw [if_pos (by rw [e])]
          have e1 := itw_stay (P := P) (s := hav P t) (k := k) e (16 - k)
          have e2 := itn_stay (P := P) (s := hav P t) (k := k) e (16 - k)
          rw [show k + (16 - k) = 16 by omega] at e1 e2
          rw [e1, e2] at H
          by_cases h0 : w = 0
          · rw [if_pos h0] at H ⊢; exact H
          · rw [if_neg h0] at H ⊢; exact H
        · rw [if_neg (fun z => e ((nI_eq (by omega) (by omega)).mp z))]
          refine c_m_andBeside hM hI hlk ?_
          have e2 : itn P (hav P t) (k + 1) = itn P (hav P t) k + 1 := cnt_t (by simp [e])
          rw [e2] at ih
          rw [nI_1]
          exact ih)
      refine dn (R := fun k => pu_R L (d + 6) 241 26 [.ref 58, .int (nI t), .int w, .int (nI (bs (fun p => tl P p && (tp P p).testBit t) k)), .int (nI k)] [] M (pu_qI Q)) 16 (r_m_heard_26 (by rw [if_pos ge16]; exact key)) (fun k hk ih => ?_)
      refine r_m_heard_26 ?_
      have hk1 := (hI.1 k hk).1
      rw [if_neg (lt16 hk)]
      refine c_m_isTold hM hk ?_
      cases htk : tl P k with
      | false =>
        rw [bs_skip _ (by simp [htk])] at ih
        rw [if_neg (by decide), if_pos rfl, nI_1]; exact ih
      | true =>
        rw [if_pos rfl, if_neg (by decide)]
        simp (disch := omega) only [n_16, nI_add, nI_clamp, inb_nI, true_and, (hM.1 k hk).2.1]
        refine c_m_has hk1 (by omega) ?_
        cases hb : (tp P k).testBit t with
        | true =>
          rw [if_pos rfl, if_neg (by decide)]
          have := bs_step (fun p => tl P p && (tp P p).testBit t) (k := k) (by omega) (by simp [htk, hb])
          simp only [n_1, n_16] at this ih ⊢
          rw [this, nI_add]; exact ih
        | false =>
          rw [bs_skip _ (by simp [htk, hb])] at ih
          rw [if_neg (by decide), if_pos rfl]
          simp only [n_1] at ih ⊢
          rw [nI_add]; exact ih
end VC
