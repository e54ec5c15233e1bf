/-! reading a text: the class's tape, alive or at a fault; the model's -/
def pJ : Option Nat → Int32
  | none => -1
  | some k => nI k
def ch (tb : Nat → Nat) (e q : Nat) : Int32 := if q < e then nI (tb q) else -1
def chR (tb : Nat → Nat) (e a n q : Nat) : Option Nat := if q < e ∧ a ≤ tb q ∧ tb q < a + n then some (tb q - a) else none
def flt (k : Int32) (q : Nat) : Int32 := (-1000) * k - nI q
def TX (tb : Nat → Nat) (e : Nat) : Prop := e ≤ 240 ∧ ∀ i, i < e → tb i < 256
def TS (M : pu_M) (tb : Nat → Nat) (e q : Nat) : Prop := M 1 5 = nI e ∧ (∀ i, i < e → M 2 i = nI (tb i)) ∧ M 1 3 = nI q ∧ M 1 4 = 0 ∧ M 1 2 = ch tb e q ∧ M 1 1 = 0
def DS (M : pu_M) (f : Int32) : Prop := M 1 4 = f ∧ M 1 2 = -1 ∧ M 1 1 = 0
theorem chR_lt {tb : Nat → Nat} {e a n q k : Nat} (h : chR tb e a n q = some k) : k < n ∧ q < e ∧ tb q = a + k := by
  unfold chR at h
  split at h
  next hc => cases h; omega
  next => cases h
theorem flt_neg {k : Int32} {q : Nat} (h1 : 1 ≤ k.toInt) (h2 : k.toInt ≤ 9) (hq : q ≤ 1000) : flt k q < 0 := by
  rw [Int32.lt_iff_toInt_lt]
  unfold flt
  have e1 : ((-1000 : Int32)).toInt = -1000 := rfl
  have e2 : ((-1000 : Int32) * k).toInt = -1000 * k.toInt := by
    rw [Int32.toInt_mul, e1]; exact mq_bmod (by omega) (by omega)
  have e3 : (0 : Int32).toInt = 0 := rfl
  rw [Int32.toInt_sub, e2, nI_toInt (by omega), mq_bmod (by omega) (by omega), e3]
  omega
theorem neg_ne {f : Int32} (h : f < 0) : ¬ f = 0 := fun z => by rw [z] at h; exact absurd h (by decide)
section RD
variable {L d : Nat} {M : pu_M} {tb : Nat → Nat} {e q : Nat} {f : Int32}
theorem ch_nI {c : Nat} (hX : TX tb e) (hc : c < 2 ^ 31) : (ch tb e q = nI c) ↔ (q < e ∧ tb q = c) := by
  unfold ch
  by_cases h : q < e
  · rw [if_pos h, nI_eq (by have := hX.2 q h; omega) hc]; exact ⟨fun z => ⟨h, z⟩, fun z => z.2⟩
  · rw [if_neg h, m1_nI hc]; exact ⟨False.elim, fun z => h z.1⟩
theorem TS_of {n : Nat} (hT : ∀ i, i < n → M 2 i = nI (tb i) ∧ tb i < 256) (he : e ≤ n) (h : TB M e 0 0) : TS M tb e 0 := by
  obtain ⟨h1, h2, h3, h4, h5, h6⟩ := h
  refine ⟨h1, fun i hi => (hT i (by omega)).1, h3, h4, ?_, h6⟩
  rw [h5]; unfold sgn ch
  by_cases hq : 0 < e
  · rw [if_pos ⟨rfl, hq⟩, if_pos hq, (hT 0 (by omega)).1]
  · rw [if_neg (fun z => hq z.2), if_neg hq]
theorem c_T_step {Q : pu_M → Prop} (hX : TX tb e) (hq : q ≤ 1000) (h : TS M tb e q) (H : ∀ M', TS M' tb e (q + 1) → only (fun k => k = 1) M M' → Q M') : pu_V L (d + 1) 83 [.ref 1] M Q := by
  obtain ⟨h1, h2, h3, h4, h5, h6⟩ := h
  have he := hX.1
  refine c_Tape_step (q := q + 1) (e := e) (by rw [h3, nI_1]) (by omega) h1 (by omega) ?_
  refine H _ ⟨?_, fun i hi => ?_, ?_, ?_, ?_, ?_⟩ (((only.rf (fun k => k = 1) M).wr rfl).wr rfl)
  · rw [pu_wr_self, upd_n (by decide), pu_wr_self, upd_n (by decide)]; exact h1
  · rw [pu_wr_ne (by decide), pu_wr_ne (by decide)]; exact h2 i hi
  · rw [pu_wr_self, upd_n (by decide), pu_wr_self, upd_s]
  · rw [pu_wr_self, upd_n (by decide), pu_wr_self, upd_n (by decide)]; exact h4
  · rw [pu_wr_self, upd_s, h4]
    unfold sgn ch
    by_cases hq : q + 1 < e
    · rw [if_pos ⟨rfl, hq⟩, if_pos hq, h2 _ hq]
    · rw [if_neg (fun z => hq z.2), if_neg hq]
  · rw [pu_wr_self, upd_n (by decide), pu_wr_self, upd_n (by decide)]; exact h6
theorem c_D_step {Q : pu_M → Prop} (hf : ¬ f = 0) (h : DS M f) (H : ∀ M', DS M' f → only (fun k => k = 1) M M' → Q M') : pu_V L (d + 1) 83 [.ref 1] M Q := by
  obtain ⟨h1, h2, h3⟩ := h
  refine r_Tape_step ?_
  have e4 : pu_wr M 1 3 (M 1 3 + 1) 1 4 = f := by rw [pu_wr_self, upd_n (by decide)]; exact h1
  rw [e4, if_neg hf]
  refine r_Tape_step_50 ?_
  rw [if_pos rfl]
  refine H _ ⟨?_, ?_, ?_⟩ (((only.rf (fun k => k = 1) M).wr rfl).wr rfl)
  · rw [pu_wr_self, upd_n (by decide)]; exact e4
  · rw [pu_wr_self, upd_s]
  · rw [pu_wr_self, upd_n (by decide), pu_wr_self, upd_n (by decide)]; exact h3
theorem c_T_fail {Q : pu_M → Prop} {k w : Int32} (h : TS M tb e q) (H : ∀ M', DS M' ((-1000) * k - w) → only (fun k => k = 1) M M' → Q M') : pu_V L (d + 1) 88 [.ref 1, .int k, .int w] M Q := by
  obtain ⟨h1, h2, h3, h4, h5, h6⟩ := h
  refine r_Tape_fail ?_
  rw [if_pos h4]
  refine H _ ⟨?_, ?_, ?_⟩ (((only.rf (fun k => k = 1) M).wr rfl).wr rfl)
  · rw [pu_wr_self, upd_n (by decide), pu_wr_self, upd_s]
  · rw [pu_wr_self, upd_s]
  · rw [pu_wr_self, upd_n (by decide), pu_wr_self, upd_n (by decide)]; exact h6
theorem c_T_failq {Q : pu_M → Prop} {k : Int32} (h : TS M tb e q) (H : ∀ M', DS M' (flt k q) → only (fun k => k = 1) M M' → Q M') : pu_V L (d + 1) 88 [.ref 1, .int k, .int (M 1 3)] M Q := by
  rw [h.2.2.1]; exact c_T_fail h H
theorem c_D_fail {Q : pu_M → Prop} {k w : Int32} (hf : ¬ f = 0) (h : DS M f) (H : Q M) : pu_V L (d + 1) 88 [.ref 1, .int k, .int w] M Q := by
  refine r_Tape_fail ?_
  rw [if_neg (by rw [h.1]; exact hf)]; exact H
theorem c_T_among {Q : Int32 → pu_M → Prop} {a n : Nat} (hX : TX tb e) (han : a + n < 1000) (h : TS M tb e q) (H : Q (pJ (chR tb e a n q)) M) : pu_I L (d + 1) 86 [.ref 1, .int (nI a), .int (nI n)] M Q := by
  refine r_Tape_among ?_
  rw [h.2.2.2.2.1, nI_add]
  unfold chR at H
  unfold ch
  by_cases hq : q < e
  · have := hX.2 q hq
    rw [if_pos hq]
    by_cases h1 : tb q < a
    · rw [if_pos ((nI_ltI (by omega) (by omega)).mpr h1)]
      rw [if_neg (by omega)] at H; exact H
    · rw [if_neg (fun z => h1 ((nI_ltI (by omega) (by omega)).mp z))]
      by_cases h2 : a + n ≤ tb q
      · rw [if_pos ((nI_leI (by omega) (by omega)).mpr h2)]
        rw [if_neg (by omega)] at H; exact H
      · rw [if_neg (fun z => h2 ((nI_leI (by omega) (by omega)).mp z)), pk_sub (by omega)]
        rw [if_pos (by omega)] at H; exact H
  · rw [if_neg (by omega)] at H
    rw [if_neg hq, if_pos]
    · exact H
    · rw [Int32.lt_iff_toInt_lt, nI_toInt (by omega)]
      have e1 : ((-1 : Int32)).toInt = -1 := rfl
      omega
theorem c_D_among {Q : Int32 → pu_M → Prop} {a n : Nat} (ha : a < 1000) (h : DS M f) (H : Q (-1) M) : pu_I L (d + 1) 86 [.ref 1, .int (nI a), .int (nI n)] M Q := by
  refine r_Tape_among ?_
  rw [h.2.1, if_pos]
  · exact H
  · rw [Int32.lt_iff_toInt_lt, nI_toInt (by omega)]
    have e1 : ((-1 : Int32)).toInt = -1 := rfl
    omega
theorem c_T_wants {Q : pu_M → Prop} {v : Int32} (hX : TX tb e) (hq : q ≤ 1000) (h : TS M tb e q) (H1 : ch tb e q = v → ∀ M', TS M' tb e (q + 1) → only (fun k => k = 1) M M' → Q M') (H0 : ¬ ch tb e q = v → ∀ M', DS M' (flt 1 q) → only (fun k => k = 1) M M' → Q M') : pu_V L (d + 2) 85 [.ref 1, .int v] M Q := by
  refine r_Tape_wants ?_
  by_cases hc : ch tb e q = v
  · rw [if_pos (by rw [h.2.2.2.2.1]; exact hc)]; exact c_T_step hX hq h (H1 hc)
  · rw [if_neg (by rw [h.2.2.2.2.1]; exact hc)]; exact c_T_failq h (H0 hc)
theorem c_D_wants {Q : pu_M → Prop} {v : Int32} (hv : ¬ -1 = v) (hf : ¬ f = 0) (h : DS M f) (H : Q M) : pu_V L (d + 2) 85 [.ref 1, .int v] M Q := by
  refine r_Tape_wants ?_
  rw [if_neg (by rw [h.2.1]; exact hv)]; exact c_D_fail hf h H
theorem c_T_takes {Q : Int32 → pu_M → Prop} {v : Int32} (hX : TX tb e) (hq : q ≤ 1000) (h : TS M tb e q) (H1 : ch tb e q = v → ∀ M', TS M' tb e (q + 1) → only (fun k => k = 1) M M' → Q 1 M') (H0 : ¬ ch tb e q = v → Q 0 M) : pu_I L (d + 2) 84 [.ref 1, .int v] M Q := by
  refine r_Tape_takes ?_
  by_cases hc : ch tb e q = v
  · rw [if_pos (by rw [h.2.2.2.2.1]; exact hc)]; exact c_T_step hX hq h (H1 hc)
  · rw [if_neg (by rw [h.2.2.2.2.1]; exact hc)]; exact H0 hc
theorem c_T_next {Q : Int32 → pu_M → Prop} (hX : TX tb e) (hq : q ≤ 1000) (h : TS M tb e q) (H0 : ¬ q < e → Q 0 M) (H1 : q < e → ch tb e q = 59 → ∀ M', TS M' tb e (q + 1) → only (fun k => k = 1) M M' → Q 1 M') (H2 : q < e → ¬ ch tb e q = 59 → ∀ M', DS M' (flt 1 q) → only (fun k => k = 1) M M' → Q 0 M') : pu_I L (d + 3) 87 [.ref 1] M Q := by
  refine r_Tape_hasNextLine ?_
  have he := hX.1
  rw [if_pos h.2.2.2.1, h.2.2.1, h.1]
  by_cases hqe : q < e
  · rw [if_pos ((nI_ltI (by omega) (by omega)).mpr hqe)]
    refine c_T_wants hX hq h (fun hc M' t o => ?_) (fun hc M' t o => ?_)
    · rw [if_pos t.2.2.2.1]; exact H1 hqe hc M' t o
    · rw [if_neg (by rw [t.1]; exact neg_ne (flt_neg (by decide) (by decide) hq))]; exact H2 hqe hc M' t o
  · rw [if_neg (fun z => hqe ((nI_ltI (by omega) (by omega)).mp z))]; exact H0 hqe
theorem c_D_next {Q : Int32 → pu_M → Prop} (hf : ¬ f = 0) (h : DS M f) (H : Q 0 M) : pu_I L (d + 3) 87 [.ref 1] M Q := by
  refine r_Tape_hasNextLine ?_
  rw [if_neg (by rw [h.1]; exact hf)]; exact H
theorem c_T_answer {Q : Int32 → pu_M → Prop} {v : Int32} (h : TS M tb e q) (H : Q v M) : pu_I L (d + 1) 89 [.ref 1, .int v] M Q := by
  refine r_Tape_answer ?_
  rw [if_pos h.2.2.2.1]; exact H
theorem c_D_answer {Q : Int32 → pu_M → Prop} {v : Int32} (hf : ¬ f = 0) (h : DS M f) (H : Q f M) : pu_I L (d + 1) 89 [.ref 1, .int v] M Q := by
  refine r_Tape_answer ?_
  rw [if_neg (by rw [h.1]; exact hf), h.1]; exact H
theorem TS_only {M' : pu_M} {S : Nat → Prop} (h : TS M tb e q) (o : only S M M') (h1 : ¬ S 1) (h2 : ¬ S 2) : TS M' tb e q := by
  unfold TS
  rw [o 1 h1, o 2 h2]; exact h
theorem DS_only {M' : pu_M} {S : Nat → Prop} (h : DS M f) (o : only S M M') (h1 : ¬ S 1) : DS M' f := by
  unfold DS
  rw [o 1 h1]; exact h
/-! the model's -/
def MSt (M : pu_M) (tb : Nat → Nat) (e q : Nat) : Prop := M 58 6 = nI e ∧ M 58 5 = nI q ∧ ∀ i, i < e → M 62 i &&& 255 = nI (tb i)
/-- the fields of the model that only its reckoning uses -/
def scF (j : Nat) : Prop := 5 ≤ j ∧ j ≠ 13 ∧ j ≠ 34 ∧ j ≠ 49
def fr (M M' : pu_M) : Prop := ∀ j, ¬ scF j → M' 58 j = M 58 j
theorem fr.rf (M : pu_M) : fr M M := fun _ _ => rfl
theorem fr.tr {A B C : pu_M} (h1 : fr A B) (h2 : fr B C) : fr A C := fun j hj => (h2 j hj).trans (h1 j hj)
theorem fr.wr {M M' : pu_M} {i : Nat} {x : Int32} (h : fr M M') (hi : scF i) : fr M (pu_wr M' 58 i x) := fun j hj => by
  rw [pu_wr_self, upd_n (fun z => hj (by rw [z]; exact hi))]; exact h j hj
theorem fr.ot {M M' : pu_M} {k i : Nat} {x : Int32} (h : fr M M') (hk : k ≠ 58) : fr M (pu_wr M' k i x) := fun j hj => by
  rw [pu_wr_ne (Ne.symm hk)]; exact h j hj
theorem MSt_adv (h : MSt M tb e q) : MSt (pu_wr M 58 5 (nI (q + 1))) tb e (q + 1) := by
  obtain ⟨h1, h2, h3⟩ := h
  refine ⟨?_, ?_, fun i hi => ?_⟩
  · rw [pu_wr_self, upd_n (by decide)]; exact h1
  · rw [pu_wr_self, upd_s]
  · rw [pu_wr_ne (by decide)]; exact h3 i hi
theorem MSt_wr {k j : Nat} {x : Int32} (h : MSt M tb e q) (hk : k ≠ 62) (hj : k ≠ 58 ∨ (j ≠ 5 ∧ j ≠ 6)) : MSt (pu_wr M k j x) tb e q := by
  obtain ⟨h1, h2, h3⟩ := h
  refine ⟨?_, ?_, fun i hi => ?_⟩
  · by_cases h58 : k = 58
    · subst h58; rw [pu_wr_self, upd_n (by omega)]; exact h1
    · rw [pu_wr_ne (Ne.symm h58)]; exact h1
  · by_cases h58 : k = 58
    · subst h58; rw [pu_wr_self, upd_n (by omega)]; exact h2
    · rw [pu_wr_ne (Ne.symm h58)]; exact h2
  · rw [pu_wr_ne (Ne.symm hk)]; exact h3 i hi
theorem c_m_here {Q : Int32 → pu_M → Prop} (hX : TX tb e) (hq : q ≤ 1000) (h : MSt M tb e q) (H : Q (ch tb e q) M) : pu_I L (d + 1) 178 [.ref 58] M Q := by
  refine r_m_here ?_
  have he := hX.1
  rw [h.1, h.2.1]
  unfold ch at H
  by_cases hqe : q < e
  · rw [if_pos hqe] at H
    rw [if_neg (fun z => by have := (nI_leI (by omega) (by omega)).mp z; omega), nI_clamp (by omega), h.2.2 q hqe]
    exact ⟨inb_nI (by omega) (by decide), H⟩
  · rw [if_neg hqe] at H
    rw [if_pos ((nI_leI (by omega) (by omega)).mpr (by omega))]; exact H
theorem ch_sub {a k n : Nat} (h : chR tb e a n q = some k) : ch tb e q - nI a = nI k := by
  obtain ⟨h1, h2, h3⟩ := chR_lt h
  unfold ch
  rw [if_pos h2, h3, pk_sub (by omega), Nat.add_sub_cancel_left]
theorem c_m_isLetter {Q : Int32 → pu_M → Prop} (hX : TX tb e) (hq : q ≤ 1000) (h : MSt M tb e q) (H : Q (bI (chR tb e 97 16 q).isSome) M) : pu_I L (d + 2) 205 [.ref 58] M Q := by
  refine r_m_isLetter (c_m_here hX hq h (c_m_in ?_))
  cases hc : chR tb e 97 16 q with
  | some k =>
    rw [hc] at H
    obtain ⟨h1, h2, h3⟩ := chR_lt hc
    rw [n_97, ch_sub hc, if_neg (in15 h1)]
    exact ⟨Or.inr rfl, H⟩
  | none =>
    rw [hc] at H
    rw [if_pos]
    · exact ⟨Or.inl rfl, H⟩
    · unfold chR at hc
      unfold ch
      by_cases hqe : q < e
      · have ht := hX.2 q hqe
        rw [if_pos hqe]
        split at hc
        · cases hc
        next hn =>
          rw [n_97]
          by_cases h1 : tb q < 97
          · left
            rw [Int32.lt_iff_toInt_lt, pk_sub_toInt (by omega) (by omega)]
            have e3 : (0 : Int32).toInt = 0 := rfl
            omega
          · right
            rw [pk_sub (by omega), n_15, nI_ltI (by omega) (by omega)]
            omega
      · rw [if_neg hqe]; left; decide
theorem c_m_isDigit {Q : Int32 → pu_M → Prop} (hX : TX tb e) (hq : q ≤ 1000) (h : MSt M tb e q) (H : Q (bI (chR tb e 48 10 q).isSome) M) : pu_I L (d + 2) 179 [.ref 58] M Q := by
  refine r_m_isDigit (c_m_here hX hq h ?_)
  cases hc : chR tb e 48 10 q with
  | some k =>
    rw [hc] at H
    obtain ⟨h1, h2, h3⟩ := chR_lt hc
    have e1 : ch tb e q = nI (48 + k) := by unfold ch; rw [if_pos h2, h3]
    rw [if_neg (by rw [e1, n_48, nI_ltI (by omega) (by omega)]; omega)]
    refine c_m_here hX hq h ?_
    rw [if_neg (by rw [e1, n_57, nI_ltI (by omega) (by omega)]; omega)]; exact H
  | none =>
    rw [hc] at H
    unfold chR at hc
    by_cases hqe : q < e
    · have ht := hX.2 q hqe
      have e1 : ch tb e q = nI (tb q) := by unfold ch; rw [if_pos hqe]
      split at hc
      · cases hc
      next hn =>
        by_cases h1 : tb q < 48
        · rw [if_pos (by rw [e1, n_48, nI_ltI (by omega) (by omega)]; omega)]; exact H
        · rw [if_neg (by rw [e1, n_48, nI_ltI (by omega) (by omega)]; omega)]
          refine c_m_here hX hq h ?_
          rw [if_pos (by rw [e1, n_57, nI_ltI (by omega) (by omega)]; omega)]; exact H
    · have e1 : ch tb e q = -1 := by unfold ch; rw [if_neg hqe]
      rw [if_pos (by rw [e1]; decide)]; exact H
theorem c_m_wrongAt {Q : Int32 → pu_M → Prop} {k : Int32} (h : MSt M tb e q) (H : Q 0 (pu_wr M 58 7 (flt k q))) : pu_I L (d + 1) 180 [.ref 58, .int k, .int (M 58 5)] M Q := by
  refine r_m_wrongAt ?_
  rw [h.2.1]; exact H
theorem c_m_takes {Q : Int32 → pu_M → Prop} {v : Int32} (hX : TX tb e) (hq : q ≤ 1000) (h : MSt M tb e q) (H1 : ch tb e q = v → Q 1 (pu_wr M 58 5 (nI (q + 1)))) (H0 : ¬ ch tb e q = v → Q 0 (pu_wr M 58 7 (flt 1 q))) : pu_I L (d + 2) 181 [.ref 58, .int v] M Q := by
  refine r_m_takes (c_m_here hX hq h ?_)
  by_cases hc : ch tb e q = v
  · rw [if_pos hc, h.2.1, nI_1]; exact H1 hc
  · rw [if_neg hc]; exact c_m_wrongAt h ⟨Or.inl rfl, H0 hc⟩
theorem c_m_begins {Q : pu_M → Prop} (H : ∀ M', M' 58 6 = nI e → M' 58 5 = nI 0 → M' 58 10 = 0 → M' 58 12 = 0 → fr M M' → only (fun k => k = 58) M M' → Q M') : pu_V L (d + 1) 198 [.ref 58, .int (nI e)] M Q := by
  refine r_m_beginsText (H _ ?_ ?_ ?_ ?_ ?_ ?_)
  · simp [pu_wr]
  · simp [pu_wr]; rfl
  · simp [pu_wr]
  · simp [pu_wr]
  · exact ((((fr.rf M).wr (by unfold scF; omega)).wr (by unfold scF; omega)).wr (by unfold scF; omega)).wr (by unfold scF; omega)
  · exact ((((only.rf (fun k => k = 58) M).wr rfl).wr rfl).wr rfl).wr rfl
end RD
