/-! check, count -/
def msm (P : Pp) : Nat → Nat
  | 0 => 0
  | k + 1 => msm P k + (if tl P k = true then md P k else 0)
theorem msm_t {P : Pp} {k : Nat} (h : tl P k = true) : msm P (k + 1) = msm P k + md P k := by simp [msm, h]
theorem msm_f {P : Pp} {k : Nat} (h : tl P k = false) : msm P (k + 1) = msm P k := by simp [msm, h]
/-- how the mood that is asked for at p stands -/
def mdc (P : Pp) (p : Nat) : Nat := if tl P p = true then md P p else 0
def s_check (P : Pp) (n : Nat) (tb : Nat → Nat) (v : Int32) : Int32 := if v < 0 ∨ 16 < v ∨ nI n < v then -2 else match fnd (fun p => decide (tb p ≠ mdc P p)) v.toNatClampNeg 0 with
  | some p => nI p
  | none => -1
def s_count (P : Pp) (wn zn n : Nat) (v : Int32) : Int32 := if v = 0 then nI (nt P) else if v = 1 then nI (bs (tl P) 16) else if v = 2 then nI (bs (fun p => (pl P p).isSome) 16) else if v = 3 then nI wn else if v = 4 then nI zn else if v = 5 then nI n else if v = 6 then nI (lo P) else if v = 7 then nI (msm P 16) else if v < 20 ∨ 79 < v then -1 else pI (who P (v - 20).toNatClampNeg)
section NC
variable {L d : Nat} {M : pu_M} {P : Pp} {y : Nat} {n : Nat} {tb : Nat → Nat}
theorem c_Y_moodOfAll {Q : Int32 → pu_M → Prop} (hy : pu_isY y) (hC : CY P M y) (H : Q (nI (msm P 16)) M) : pu_I L (d + 3) 104 [.ref y] M Q := by
  refine r_Yard_moodOfAll hy (dn (R := fun k => pu_R L (d + 3) 104 4 [.ref y, .int (nI (msm P k)), .int (nI k)] [] M (pu_qI Q)) 16 (r_Yard_moodOfAll_4 hy (by rw [if_pos ge16]; exact H)) (fun k hk ih => ?_))
  refine r_Yard_moodOfAll_4 hy ?_
  rw [if_neg (lt16 hk)]
  refine c_Y_isTold hy hC hk ?_
  cases ht : tl P k with
  | true =>
    rw [msm_t ht] at ih
    rw [if_pos rfl, if_neg (by decide)]
    simp (disch := omega) only [nI_clamp, inb_nI, true_and, (hC.1 k hk).2.1, nI_add, nI_1]
    exact ih
  | false =>
    rw [msm_f ht] at ih
    rw [if_neg (by decide), if_pos rfl, add0, nI_1]; exact ih
theorem c_x_count {Q : Int32 → pu_M → Prop} {v : Int32} {l w wn zn : Nat} (h9 : M 0 9 = nI y) (hy : pu_isY y) (hC : CY P M y) (hI : PI P) (h11 : M 0 11 = nI l) (hl : pu_isL l) (hzn : M l 7 = nI zn) (h13 : M 0 13 = nI w) (hw : pu_isW w) (hwn : M w 3 = nI wn) (hT : M 1 1 = nI n) (H : Q (s_count P wn zn n v) M) : pu_I L (d + 4) 151 [.ref 0, .int v] M Q := by
  refine r_x_count ?_
  unfold s_count at H
  obtain ⟨c1, c2, c3, c4, c5⟩ := id hC
  by_cases h0 : v = 0
  · rw [if_pos h0] at H ⊢; exact ⟨y, h9, hy, by rw [c4]; exact H⟩
  rw [if_neg h0] at H ⊢
  by_cases h1 : v = 1
  · rw [if_pos h1] at H ⊢; exact ⟨y, h9, hy, by rw [c3]; exact H⟩
  rw [if_neg h1] at H ⊢
  by_cases h2 : v = 2
  · rw [if_pos h2] at H ⊢; exact ⟨y, h9, hy, c_Y_laidOnes hy hC hI H⟩
  rw [if_neg h2] at H ⊢
  by_cases h3 : v = 3
  · rw [if_pos h3] at H ⊢; exact ⟨w, h13, hw, by rw [hwn]; exact H⟩
  rw [if_neg h3] at H ⊢
  by_cases h4 : v = 4
  · rw [if_pos h4] at H ⊢; exact ⟨l, h11, hl, by rw [hzn]; exact H⟩
  rw [if_neg h4] at H ⊢
  by_cases h5 : v = 5
  · rw [if_pos h5] at H ⊢; rw [hT]; exact H
  rw [if_neg h5] at H ⊢
  by_cases h6 : v = 6
  · rw [if_pos h6] at H ⊢; exact ⟨y, h9, hy, by rw [c5]; exact H⟩
  rw [if_neg h6] at H ⊢
  by_cases h7 : v = 7
  · rw [if_pos h7] at H ⊢; exact ⟨y, h9, hy, c_Y_moodOfAll hy hC H⟩
  rw [if_neg h7] at H ⊢
  by_cases h20 : v < 20
  · rw [if_pos h20]; rw [if_pos (Or.inl h20)] at H; exact H
  rw [if_neg h20]
  have c80 : (80 ≤ v) ↔ 79 < v := by
    rw [Int32.le_iff_toInt_le, Int32.lt_iff_toInt_lt]
    have e1 : (80 : Int32).toInt = 80 := rfl
    have e2 : (79 : Int32).toInt = 79 := rfl
    omega
  by_cases h80 : 79 < v
  · rw [if_pos (c80.mpr h80)]; rw [if_pos (Or.inr h80)] at H; exact H
  rw [if_neg (fun z => h80 (c80.mp z))]
  rw [if_neg (fun z => z.elim h20 h80)] at H
  have hv0 : ¬ v < 0 := by
    rw [Int32.lt_iff_toInt_lt] at h20 ⊢
    have e1 : (20 : Int32).toInt = 20 := rfl
    have e2 : (0 : Int32).toInt = 0 := rfl
    omega
  obtain ⟨j, hj, rfl⟩ := nI_of2 (M := 79) (n := 79) rfl hv0 (Int32.not_lt.mp h80)
  have hj20 : 20 ≤ j := by
    rw [n_20, nI_ltI (by omega) (by omega)] at h20; omega
  rw [n_20, pk_sub hj20, nI_clamp (by omega)] at H ⊢
  exact ⟨y, h9, hy, inb_nI (by omega) (by decide), by rw [c2 _ (by omega)]; exact H⟩
theorem c_m_count {Q : Int32 → pu_M → Prop} {v : Int32} {wn zn : Nat} (hM : PM P (M 59)) (hI : PI P) (hzn : M 58 13 = nI zn) (hwn : M 58 34 = nI wn) (hT : M 58 4 = nI n) (H : Q (s_count P wn zn n v) M) : pu_I L (d + 4) 259 [.ref 58, .int v] M Q := by
  refine r_m_count ?_
  unfold s_count at H
  have h64 : (64 : Int32).toNatClampNeg = 64 := rfl
  have h65 : (65 : Int32).toNatClampNeg = 65 := rfl
  by_cases h0 : v = 0
  · rw [if_pos h0] at H ⊢; rw [h64, hM.2.1]; exact H
  rw [if_neg h0] at H ⊢
  by_cases h1 : v = 1
  · rw [if_pos h1] at H ⊢; exact c_m_toldSet hM H
  rw [if_neg h1] at H ⊢
  by_cases h2 : v = 2
  · rw [if_pos h2] at H ⊢; exact c_m_laidSet hM hI H
  rw [if_neg h2] at H ⊢
  by_cases h3 : v = 3
  · rw [if_pos h3] at H ⊢; rw [hwn]; exact H
  rw [if_neg h3] at H ⊢
  by_cases h4 : v = 4
  · rw [if_pos h4] at H ⊢; rw [hzn]; exact H
  rw [if_neg h4] at H ⊢
  by_cases h5 : v = 5
  · rw [if_pos h5] at H ⊢; rw [hT]; exact H
  rw [if_neg h5] at H ⊢
  by_cases h6 : v = 6
  · rw [if_pos h6] at H ⊢; rw [h65, hM.2.2]; exact H
  rw [if_neg h6] at H ⊢
  by_cases h7 : v = 7
  · rw [if_pos h7] at H ⊢
    refine dn (R := fun k => pu_R L (d + 4) 259 91 [.ref 58, .int v, .int (nI (msm P k)), .int (nI k)] [] M (pu_qI Q)) 16 (r_m_count_91 (by rw [if_pos ge16]; exact H)) (fun k hk ih => ?_)
    refine r_m_count_91 ?_
    rw [if_neg (lt16 hk)]
    refine c_m_isTold hM hk ?_
    cases ht : tl P k with
    | true =>
      rw [msm_t ht] at ih
      rw [if_pos rfl, if_neg (by decide)]
      simp (disch := omega) only [n_32, nI_add, nI_clamp, inb_nI, true_and, (hM.1 k hk).2.2.1, nI_1]
      exact ih
    | false =>
      rw [msm_f ht] at ih
      rw [if_neg (by decide), if_pos rfl, add0, nI_1]; exact ih
  rw [if_neg h7] at H ⊢
  refine c_m_in ?_
  by_cases h : v < 20 ∨ 79 < v
  · rw [if_pos h] at H; rw [if_pos h, if_pos rfl]; exact H
  · rw [if_neg h] at H; rw [if_neg h, if_neg (by decide)]
    have hv0 : ¬ v < 0 := by
      have h20 : ¬ v < 20 := fun z => h (Or.inl z)
      rw [Int32.lt_iff_toInt_lt] at h20 ⊢
      have e1 : (20 : Int32).toInt = 20 := rfl
      have e2 : (0 : Int32).toInt = 0 := rfl
      omega
    obtain ⟨j, hj, rfl⟩ := nI_of2 (M := 79) (n := 79) rfl hv0 (Int32.not_lt.mp (fun z => h (Or.inr z)))
    have hj20 : 20 ≤ j := by
      have h20 : ¬ nI j < 20 := fun z => h (Or.inl z)
      rw [n_20, nI_ltI (by omega) (by omega)] at h20; omega
    rw [n_20, pk_sub hj20, nI_clamp (by omega)] at H
    rw [n_20, pk_sub hj20]
    exact c_m_whoLies hM hI (by omega) H
theorem c_Tape_at {Q : Int32 → pu_M → Prop} {q e : Nat} (h5 : M 1 5 = nI e) (he : e ≤ 260) (hq : q < e) (H : Q (M 2 q) M) : pu_I L (d + 1) 82 [.ref 1, .int (nI q)] M Q := by
  refine r_Tape_at ?_
  rw [if_neg (nI_pos (by omega)), h5, if_neg (by rw [nI_leI (by omega) (by omega)]; omega), if_neg (by rw [n_260, nI_leI (by omega) (by omega)]; omega), nI_clamp (by omega)]
  exact ⟨inb_nI (by omega) (by decide), H⟩
theorem CY_only1 (hy : pu_isY y) (hC : CY P M y) {M' : pu_M} (o : only (fun k => k = 1) M M') : CY P M' y := by
  have h16 : 16 ≤ y := by unfold pu_isY at hy; omega
  unfold CY
  rw [o (y + 1) (by omega), o (y + 2) (by omega), o (y + 3) (by omega), o (y + 4) (by omega), o y (by omega)]
  exact hC
theorem c_x_check {Q : Int32 → pu_M → Prop} {v : Int32} (h9 : M 0 9 = nI y) (hy : pu_isY y) (hC : CY P M y) (hI : PI P) (hT : CT M n tb) (H0 : (v < 0 ∨ 16 < v ∨ nI n < v) → Q (-2) M) (H1 : ¬ (v < 0 ∨ 16 < v ∨ nI n < v) → ∀ M', M' 1 1 = 0 → only (fun k => k = 1) M M' → Q (s_check P n tb v) M') : pu_I L (d + 3) 150 [.ref 0, .int v] M Q := by
  refine r_x_check (c_Tape_open (B := 16) rfl (by decide) hT (fun h => by rw [if_pos rfl]; exact H0 h) (fun h e hv hen he M' hB o => ?_))
  rw [if_neg (by decide)]
  have H1 := H1 h M' hB.2.2.2.2.2 o
  subst hv
  unfold s_check at H1
  rw [if_neg h, nI_clamp (by omega)] at H1
  have hC' := CY_only1 hy hC o
  have h9' : M' 0 9 = nI y := by rw [o 0 (by decide)]; exact h9
  have e2 : M' 2 = M 2 := o 2 (by decide)
  have hn := hT.1
  have key := dn (R := fun k => ∀ j3 : Value, Q (match fnd (fun p => decide (tb p ≠ mdc P p)) (e - k) k with | some p => nI p | none => -1) M' → pu_R L (d + 3) 150 19 [.ref 0, .int (nI e), .int (nI k), j3] [] M' (pu_qI Q)) e (fun j3 h => r_x_check_19 (by rw [if_pos (by rw [nI_leI (by omega) (by omega)]; omega)]; rw [Nat.sub_self] at h; exact h)) (fun k hk ih j3 hq => by
    refine r_x_check_19 ?_
    rw [if_neg (by rw [nI_leI (by omega) (by omega)]; omega), if_neg (lt16 (by omega))]
    have hk16 : k < 16 := by omega
    have htb := hT.2.2 k (by omega)
    have hmd := (hI.1 k hk16).2.1
    refine ⟨y, h9', hy, c_Y_isTold hy hC' hk16 ?_⟩
    have fin : ∀ (m : Nat) (j : Value), m = mdc P k → m < 2 ^ 31 → if nI (tb k) = nI m then pu_R L (d + 3) 150 19 [.ref 0, .int (nI e), .int (nI k + 1), j] [] M' (pu_qI Q) else Q (nI k) M' := by
      intro m j hm hm2
      rw [show e - k = (e - (k + 1)) + 1 by omega] at hq
      by_cases x : tb k = mdc P k
      · rw [if_pos (by rw [x, hm]), nI_1]
        rw [fnd_f (R := fun p => decide (tb p ≠ mdc P p)) (by simp [x])] at hq
        exact ih _ hq
      · rw [if_neg (fun z => x (by rw [← hm]; exact (nI_eq (by omega) hm2).mp z))]
        rw [fnd_t (R := fun p => decide (tb p ≠ mdc P p)) (by simp [x])] at hq
        exact hq
    cases ht : tl P k with
    | false =>
      rw [if_neg (by decide), if_pos rfl]
      refine c_Tape_at hB.1 hB.2.1 hk ?_
      rw [e2, htb.1]
      exact fin 0 _ (by unfold mdc; rw [ht]; rfl) (by decide)
    | true =>
      rw [if_pos rfl, if_neg (by decide)]
      refine ⟨y, h9', hy, inb_nI hk16 (by decide), ?_⟩
      rw [nI_clamp (by omega), (hC'.1 k hk16).2.1]
      refine c_Tape_at hB.1 hB.2.1 hk ?_
      rw [e2, htb.1]
      exact fin (md P k) _ (by unfold mdc; rw [ht]; rfl) (by omega))
  exact key mq_un H1
theorem c_m_check {Q : Int32 → pu_M → Prop} {v : Int32} (hM : PM P (M 59)) (hI : PI P) (hT : MT M n tb) (H0 : (v < 0 ∨ 16 < v ∨ nI n < v) → Q (-2) M) (H1 : ¬ (v < 0 ∨ 16 < v ∨ nI n < v) → ∀ M', M' 58 4 = 0 → (∀ j, j ≠ 4 → M' 58 j = M 58 j) → only (fun k => k = 58) M M' → Q (s_check P n tb v) M') : pu_I L (d + 3) 258 [.ref 58, .int v] M Q := by
  refine r_m_check (c_m_in ?_)
  by_cases h : v < 0 ∨ 16 < v
  · rw [if_pos h, if_pos rfl]; exact H0 (by rcases h with h | h; exact Or.inl h; exact Or.inr (Or.inl h))
  rw [if_neg h, if_neg (by decide), hT.2.1]
  by_cases h3 : nI n < v
  · rw [if_neg (lt_not_le h3)]; exact H0 (Or.inr (Or.inr h3))
  rw [if_pos (Int32.not_lt.mp h3)]
  have hall : ¬ (v < 0 ∨ 16 < v ∨ nI n < v) := fun z => by rcases z with z | z | z; exact h (Or.inl z); exact h (Or.inr z); exact h3 z
  obtain ⟨e, he, rfl⟩ := nI_of2 (M := 16) (n := 16) rfl (fun z => h (Or.inl z)) (Int32.not_lt.mp (fun z => h (Or.inr z)))
  have hn := hT.1
  have hen : e ≤ n := by
    rcases Nat.lt_or_ge n e with h | h
    · exact absurd (nI_lt h (by omega)) h3
    · exact h
  have o : only (fun k => k = 58) M (pu_wr M 58 4 0) := (only.rf (fun k => k = 58) M).wr rfl
  have H1 := H1 hall _ (by rw [pu_wr_self, upd_s]) (fun j hj => by rw [pu_wr_self, upd_n hj]) o
  have hM' : PM P (pu_wr M 58 4 0 59) := by rw [o 59 (by decide)]; exact hM
  have e62 : pu_wr M 58 4 0 62 = M 62 := o 62 (by decide)
  generalize pu_wr M 58 4 0 = M' at H1 hM' e62 ⊢
  unfold s_check at H1
  rw [if_neg hall, nI_clamp (by omega)] at H1
  refine dn (R := fun k => Q (match fnd (fun p => decide (tb p ≠ mdc P p)) (e - k) k with | some p => nI p | none => -1) M' → pu_R L (d + 3) 258 28 [.ref 58, .int (nI e), .int (nI k)] [] M' (pu_qI Q)) e (fun h => r_m_check_28 (by rw [if_pos (by rw [nI_leI (by omega) (by omega)]; omega)]; rw [Nat.sub_self] at h; exact h)) (fun k hk ih hq => ?_) H1
  refine r_m_check_28 ?_
  rw [if_neg (by rw [nI_leI (by omega) (by omega)]; omega)]
  have hk16 : k < 16 := by omega
  have htb := hT.2.2 k (by omega)
  have hmd := (hI.1 k hk16).2.1
  refine r_m_octet ⟨inb_nI (by omega) (by decide), ?_⟩
  rw [nI_clamp (by omega), e62, htb.1]
  refine c_m_isTold hM' hk16 ?_
  have fin : ∀ (m : Nat), m = mdc P k → m < 2 ^ 31 → if nI (tb k) = nI m then pu_R L (d + 3) 258 28 [.ref 58, .int (nI e), .int (nI k + 1)] [] M' (pu_qI Q) else Q (nI k) M' := by
    intro m hm hm2
    rw [show e - k = (e - (k + 1)) + 1 by omega] at hq
    by_cases x : tb k = mdc P k
    · rw [if_pos (by rw [x, hm]), nI_1]
      rw [fnd_f (R := fun p => decide (tb p ≠ mdc P p)) (by simp [x])] at hq
      exact ih hq
    · rw [if_neg (fun z => x (by rw [← hm]; exact (nI_eq (by omega) hm2).mp z))]
      rw [fnd_t (R := fun p => decide (tb p ≠ mdc P p)) (by simp [x])] at hq
      exact hq
  cases ht : tl P k with
  | false => rw [if_neg (by decide), if_pos rfl]; exact fin 0 (by unfold mdc; rw [ht]; rfl) (by decide)
  | true =>
    rw [if_pos rfl, if_neg (by decide)]
    have hf := fin (md P k) (by unfold mdc; rw [ht]; rfl) (by omega)
    simp (disch := omega) only [n_32, nI_add, nI_clamp, inb_nI, true_and, (hM'.1 k hk16).2.2.1]
    exact hf
end NC
