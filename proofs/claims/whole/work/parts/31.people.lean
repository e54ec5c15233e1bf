/-! THE PEOPLE: who is told, topics, mood, plot; the night, the lot -/
abbrev Pp : Type := (Nat → Bool) × (Nat → Nat) × (Nat → Nat) × (Nat → Option Nat) × Nat × Nat
def tl (P : Pp) : Nat → Bool := P.1
def tp (P : Pp) : Nat → Nat := P.2.1
def md (P : Pp) : Nat → Nat := P.2.2.1
def pl (P : Pp) : Nat → Option Nat := P.2.2.2.1
def nt (P : Pp) : Nat := P.2.2.2.2.1
def lo (P : Pp) : Nat := P.2.2.2.2.2
def pI : Option Nat → Int32
  | none => -2
  | some w => nI w
/-- the model's row of 66 holds them -/
def PM (P : Pp) (f : Nat → Int32) : Prop := (∀ p, p < 16 → f p = bI (tl P p) ∧ f (16 + p) = nI (tp P p) ∧ f (32 + p) = nI (md P p) ∧ f (48 + p) = pI (pl P p)) ∧ f 64 = nI (nt P) ∧ f 65 = nI (lo P)
def PI (P : Pp) : Prop := (∀ p, p < 16 → tp P p < 65536 ∧ md P p < 100 ∧ ∀ w, pl P p = some w → w < 60 ∧ tl P p = true) ∧ (∀ p q w, p < 16 → q < 16 → pl P p = some w → pl P q = some w → p = q) ∧ nt P ≤ 9999 ∧ lo P < 65536
/-- the first of n from k on -/
def fnd (R : Nat → Bool) : Nat → Nat → Option Nat
  | 0, _ => none
  | j + 1, k => if R k then some k else fnd R j (k + 1)
def ad (a b : Nat) : Nat := if a ≤ b then b - a else a - b
def nx (a b : Nat) : Bool := ad (a % 10) (b % 10) + ad (a / 10) (b / 10) == 1
def bsd (P : Pp) (p q : Nat) : Bool := match pl P p, pl P q with
  | some a, some b => nx a b
  | _, _ => false
def who (P : Pp) (w : Nat) : Option Nat := fnd (fun p => pl P p == some w) 16 0
def tk (P : Pp) (p q : Nat) : Int32 := 3 * nI (pc (tp P p &&& tp P q)) - nI (pc (tp P p ^^^ tp P q))
theorem pI_neg (o : Option Nat) (h : ∀ w, o = some w → w < 60) : (pI o < 0) ↔ o = none := by
  cases o with
  | none => simp [pI]
  | some w => simp [pI, nI_nonneg (show w < 2 ^ 31 by have := h w rfl; omega)]
theorem pI_eq {o : Option Nat} {w : Nat} (h : ∀ w, o = some w → w < 60) (hw : w < 60) : (pI o = nI w) ↔ o = some w := by
  cases o with
  | none => simp [pI, m2_nI (show w < 2 ^ 31 by omega)]
  | some v => simp [pI, nI_eq (show v < 2 ^ 31 by have := h v rfl; omega) (show w < 2 ^ 31 by omega)]
theorem v16 (v : Int32) : (∃ p, p < 16 ∧ v = nI p) ∨ (v < 0 ∨ 15 < v) := by
  by_cases h : v < 0
  · exact Or.inr (Or.inl h)
  · by_cases h2 : 15 < v
    · exact Or.inr (Or.inr h2)
    · obtain ⟨j, hj, e⟩ := nI_of2 (M := 15) (n := 15) rfl h (Int32.not_lt.mp h2)
      exact Or.inl ⟨j, by omega, e⟩
section MC
variable {L d : Nat} {M : pu_M} {P : Pp}
theorem c_m_in {Q : Int32 → pu_M → Prop} {a b c : Int32} (H : if a < b ∨ c < a then Q 0 M else Q 1 M) : pu_I L (d + 1) 157 [.int a, .int b, .int c] M Q := by
  refine r_m_in ?_
  by_cases h1 : a < b
  · rw [if_pos (Or.inl h1)] at H; rw [if_pos h1]; exact H
  · by_cases h2 : c < a
    · rw [if_pos (Or.inr h2)] at H; rw [if_neg h1, if_pos h2]; exact H
    · rw [if_neg (fun z => z.elim h1 h2)] at H; rw [if_neg h1, if_neg h2]; exact H
theorem c_m_isTold {Q : Int32 → pu_M → Prop} {p : Nat} (hM : PM P (M 59)) (hp : p < 16) (H : if tl P p = true then Q 1 M else Q 0 M) : pu_I L (d + 2) 164 [.ref 58, .int (nI p)] M Q := by
  refine r_m_isTold (c_m_in ?_)
  rw [if_neg (by simp (disch := omega) only [n_15, nI_nonneg, nI_ltI, false_or]; omega), if_neg (by decide)]
  simp (disch := omega) only [n_0, nI_add, nI_clamp, inb_nI, true_and, Nat.zero_add, (hM.1 p hp).1, bI_eq1]
  simp only [← n_0]
  exact H
theorem c_m_isToldN {Q : Int32 → pu_M → Prop} {v : Int32} (hv : v < 0 ∨ 15 < v) (H : Q 0 M) : pu_I L (d + 2) 164 [.ref 58, .int v] M Q := by
  refine r_m_isTold (c_m_in ?_)
  rw [if_pos hv, if_pos rfl]
  exact H
theorem c_m_isLaid {Q : Int32 → pu_M → Prop} {p : Nat} (hM : PM P (M 59)) (hI : PI P) (hp : p < 16) (H : if (pl P p).isSome = true then Q 1 M else Q 0 M) : pu_I L (d + 1) 165 [.ref 58, .int (nI p)] M Q := by
  refine r_m_isLaid ?_
  have h4 := (hM.1 p hp).2.2.2
  have hw := (hI.1 p hp).2.2
  simp (disch := omega) only [n_0, n_48, nI_add, nI_clamp, inb_nI, true_and, Nat.zero_add, (hM.1 p hp).1, bI_eq1, h4]
  simp only [← n_0, pI_neg _ (fun w e => (hw w e).1)]
  by_cases ht : tl P p = true
  · rw [if_pos ht]
    cases hq : pl P p with
    | none => rw [hq] at H; simpa using H
    | some w => rw [hq] at H; simpa using H
  · rw [if_neg ht]
    cases hq : pl P p with
    | none => rw [hq] at H; simpa using H
    | some w => exact absurd (hw w hq).2 ht
theorem c_m_toldSet {Q : Int32 → pu_M → Prop} (hM : PM P (M 59)) (H : Q (nI (bs (tl P) 16)) M) : pu_I L (d + 3) 166 [.ref 58] M Q := by
  have key : ∀ j k, k + j = 16 → pu_R L (d + 3) 166 4 [.ref 58, .int (nI (bs (tl P) k)), .int (nI k)] [] M (pu_qI Q) := by
    intro j
    induction j with
    | zero =>
      intro k hk
      obtain rfl : k = 16 := by omega
      refine r_m_toldSet_4 ?_
      rw [if_pos (by decide)]
      exact H
    | succ j ih =>
      intro k hk
      refine r_m_toldSet_4 ?_
      rw [if_neg (by rw [n_16, nI_leI (by omega) (by omega)]; omega)]
      refine c_m_isTold hM (by omega) ?_
      cases ht : tl P k with
      | true =>
        rw [if_pos rfl, if_neg (by decide), bs_step _ (by omega) ht, nI_1]
        exact ih (k + 1) (by omega)
      | false =>
        rw [if_neg (by decide), if_pos rfl, nI_1, ← bs_skip _ ht]
        exact ih (k + 1) (by omega)
  exact r_m_toldSet (key 16 0 rfl)
theorem c_m_laidSet {Q : Int32 → pu_M → Prop} (hM : PM P (M 59)) (hI : PI P) (H : Q (nI (bs (fun p => (pl P p).isSome) 16)) M) : pu_I L (d + 2) 167 [.ref 58] M Q := by
  have key : ∀ j k, k + j = 16 → pu_R L (d + 2) 167 4 [.ref 58, .int (nI (bs (fun p => (pl P p).isSome) k)), .int (nI k)] [] M (pu_qI Q) := by
    intro j
    induction j with
    | zero =>
      intro k hk
      obtain rfl : k = 16 := by omega
      refine r_m_laidSet_4 ?_
      rw [if_pos (by decide)]
      exact H
    | succ j ih =>
      intro k hk
      refine r_m_laidSet_4 ?_
      rw [if_neg (by rw [n_16, nI_leI (by omega) (by omega)]; omega)]
      refine c_m_isLaid hM hI (by omega) ?_
      cases ht : (pl P k).isSome with
      | true =>
        rw [if_pos rfl, if_neg (by decide), bs_step (fun p => (pl P p).isSome) (by omega) ht, nI_1]
        exact ih (k + 1) (by omega)
      | false =>
        rw [if_neg (by decide), if_pos rfl, nI_1, ← bs_skip (fun p => (pl P p).isSome) ht]
        exact ih (k + 1) (by omega)
  exact r_m_laidSet (key 16 0 rfl)
theorem c_m_whoLies {Q : Int32 → pu_M → Prop} {w : Nat} (hM : PM P (M 59)) (hI : PI P) (hw : w < 60) (H : Q (pI (who P w)) M) : pu_I L (d + 2) 168 [.ref 58, .int (nI w)] M Q := by
  have key : ∀ j k, k + j = 16 → Q (pI (fnd (fun p => pl P p == some w) j k)) M → pu_R L (d + 2) 168 2 [.ref 58, .int (nI w), .int (nI k)] [] M (pu_qI Q) := by
    intro j
    induction j with
    | zero =>
      intro k hk h
      obtain rfl : k = 16 := by omega
      refine r_m_whoLies_2 ?_
      rw [if_pos (by decide)]
      exact h
    | succ j ih =>
      intro k hk h
      refine r_m_whoLies_2 ?_
      rw [if_neg (by rw [n_16, nI_leI (by omega) (by omega)]; omega)]
      refine c_m_isLaid hM hI (by omega) ?_
      have hk16 : k < 16 := by omega
      have h4 := (hM.1 k hk16).2.2.2
      have hb := (hI.1 k hk16).2.2
      have e2 := pI_eq (o := pl P k) (w := w) (fun w e => (hb w e).1) hw
      simp (disch := omega) only [n_48, nI_add, nI_clamp, inb_nI, true_and, h4, nI_1]
      cases hq : pl P k with
      | none =>
        simp only [fnd, hq] at h
        simp only [Option.isSome_none, if_neg (show ¬ (false = true) by decide)]
        rw [if_pos trivial]
        exact ih (k + 1) (by omega) (by simpa using h)
      | some v =>
        rw [hq] at e2
        simp only [Option.isSome_some, if_true, e2]
        rw [if_neg (by decide)]
        by_cases hv : some v = some w
        · rw [if_pos hv]
          simp only [fnd, hq, hv] at h
          simpa [pI] using h
        · rw [if_neg hv]
          simp only [fnd, hq] at h
          have : (some v == some w) = false := by simpa using hv
          rw [this] at h
          exact ih (k + 1) (by omega) (by simpa using h)
  exact r_m_whoLies (key 16 0 rfl H)
def szI (x : Int32) : Int32 := if 0 ≤ x then x else -x
theorem c_m_size {Q : Int32 → pu_M → Prop} {x : Int32} (H : Q (szI x) M) : pu_I L (d + 1) 160 [.int x] M Q := by
  refine r_m_size ?_
  unfold szI at H
  by_cases h : 0 ≤ x
  · rw [if_pos h] at H ⊢; exact H
  · rw [if_neg h] at H ⊢; exact H
theorem nx_ok : ∀ a, a < 60 → ∀ b, b < 60 → decide (szI (nI a % 10 - nI b % 10) + szI (nI a / 10 - nI b / 10) = 1) = nx a b := by decide +kernel
theorem c_m_areNext {Q : Int32 → pu_M → Prop} {a b : Nat} (ha : a < 60) (hb : b < 60) (H : if nx a b = true then Q 1 M else Q 0 M) : pu_I L (d + 2) 169 [.int (nI a), .int (nI b)] M Q := by
  refine r_m_areNext (c_m_size (c_m_size ?_))
  have := nx_ok a ha b hb
  by_cases h : nx a b = true
  · rw [h] at this
    rw [if_pos h] at H
    rw [if_pos (of_decide_eq_true this)]; exact H
  · rw [if_neg h] at H
    rw [if_neg]
    · exact H
    · intro z
      rw [decide_eq_true z] at this
      exact h this.symm
theorem c_m_areBeside {Q : Int32 → pu_M → Prop} {p q : Nat} (hM : PM P (M 59)) (hI : PI P) (hp : p < 16) (hq : q < 16) (H : if bsd P p q = true then Q 1 M else Q 0 M) : pu_I L (d + 3) 170 [.ref 58, .int (nI p), .int (nI q)] M Q := by
  refine r_m_areBeside (c_m_isLaid hM hI hp ?_)
  unfold bsd at H
  cases e1 : pl P p with
  | none => rw [e1] at H; simpa using H
  | some a =>
    simp only [Option.isSome_some, if_true]
    rw [if_neg (by decide)]
    refine c_m_isLaid hM hI hq ?_
    cases e2 : pl P q with
    | none => rw [e1, e2] at H; simpa using H
    | some b =>
      rw [e1, e2] at H
      simp only [Option.isSome_some, if_true]
      rw [if_neg (by decide)]
      have h1 := (hM.1 p hp).2.2.2
      have h2 := (hM.1 q hq).2.2.2
      rw [e1] at h1
      rw [e2] at h2
      simp (disch := omega) only [n_48, nI_add, nI_clamp, inb_nI, true_and, h1, h2, pI]
      refine c_m_areNext ((hI.1 p hp).2.2 a e1).1 ((hI.1 q hq).2.2 b e2).1 ?_
      dsimp only at H
      by_cases hn : nx a b = true
      · rw [if_pos hn] at H; rw [if_pos hn, if_neg (by decide)]; exact H
      · rw [if_neg hn] at H; rw [if_neg hn, if_pos rfl]; exact H
theorem c_m_besideSet {Q : Int32 → pu_M → Prop} {p : Nat} (hM : PM P (M 59)) (hI : PI P) (hp : p < 16) (H : Q (nI (bs (bsd P p) 16)) M) : pu_I L (d + 4) 171 [.ref 58, .int (nI p)] M Q := by
  have key : ∀ j k, k + j = 16 → pu_R L (d + 4) 171 4 [.ref 58, .int (nI p), .int (nI (bs (bsd P p) k)), .int (nI k)] [] M (pu_qI Q) := by
    intro j
    induction j with
    | zero =>
      intro k hk
      obtain rfl : k = 16 := by omega
      refine r_m_besideSet_4 ?_
      rw [if_pos (by decide)]
      exact H
    | succ j ih =>
      intro k hk
      refine r_m_besideSet_4 ?_
      rw [if_neg (by rw [n_16, nI_leI (by omega) (by omega)]; omega)]
      refine c_m_areBeside hM hI hp (by omega) ?_
      cases ht : bsd P p k with
      | true =>
        rw [if_pos rfl, if_neg (by decide), bs_step _ (by omega) ht, nI_1]
        exact ih (k + 1) (by omega)
      | false =>
        rw [if_neg (by decide), if_pos rfl, nI_1, ← bs_skip _ ht]
        exact ih (k + 1) (by omega)
  exact r_m_besideSet (key 16 0 rfl)
theorem c_m_bits {Q : Int32 → pu_M → Prop} {x : Nat} (hx : x < 65536) (H : Q (nI (pc x)) M) : pu_I L (d + 1) 162 [.int (nI x)] M Q := by
  have key : ∀ j k, k + j = 16 → pu_R L (d + 1) 162 4 [.int (nI x), .int (nI (cnt (fun k => x.testBit k) k)), .int (nI k)] [] M (pu_qI Q) := by
    intro j
    induction j with
    | zero =>
      intro k hk
      obtain rfl : k = 16 := by omega
      refine r_m_bits_4 ?_
      rw [if_pos (by decide)]
      exact H
    | succ j ih =>
      intro k hk
      refine r_m_bits_4 ?_
      rw [if_neg (by rw [n_16, nI_leI (by omega) (by omega)]; omega), nI_bit (by omega) (by omega), nI_add, nI_1]
      exact ih (k + 1) (by omega)
  exact r_m_bits (key 16 0 rfl)
theorem c_m_has {Q : Int32 → pu_M → Prop} {x k : Nat} (hx : x < 65536) (hk : k < 32) (H : if x.testBit k = true then Q 1 M else Q 0 M) : pu_I L (d + 1) 161 [.int (nI x), .int (nI k)] M Q := by
  refine r_m_has ?_
  rw [nI_bit (by omega) hk]
  by_cases h : x.testBit k = true
  · rw [if_pos h] at H; rw [if_pos h, if_pos (by decide)]; exact H
  · rw [if_neg h] at H; rw [if_neg h, if_neg (by decide)]; exact H
theorem tp_and (hI : PI P) {p q : Nat} (hp : p < 16) (hq : q < 16) : tp P p &&& tp P q < 65536 := Nat.lt_of_le_of_lt Nat.and_le_left (hI.1 p hp).1
theorem tp_xor (hI : PI P) {p q : Nat} (hp : p < 16) (hq : q < 16) : tp P p ^^^ tp P q < 65536 := Nat.xor_lt_two_pow (n := 16) (hI.1 p hp).1 (hI.1 q hq).1
theorem c_m_shared {Q : Int32 → pu_M → Prop} {p q : Nat} (hM : PM P (M 59)) (hI : PI P) (hp : p < 16) (hq : q < 16) (H : Q (nI (pc (tp P p &&& tp P q))) M) : pu_I L (d + 2) 172 [.ref 58, .int (nI p), .int (nI q)] M Q := by
  refine r_m_shared ?_
  have h1 := (hI.1 p hp).1
  have h2 := (hI.1 q hq).1
  simp (disch := omega) only [n_16, nI_add, nI_clamp, inb_nI, true_and, (hM.1 p hp).2.1, (hM.1 q hq).2.1, nI_and]
  exact c_m_bits (tp_and hI hp hq) H
theorem c_m_talkOf {Q : Int32 → pu_M → Prop} {p q : Nat} (hM : PM P (M 59)) (hI : PI P) (hp : p < 16) (hq : q < 16) (H : Q (tk P p q) M) : pu_I L (d + 3) 173 [.ref 58, .int (nI p), .int (nI q)] M Q := by
  refine r_m_talkOf (c_m_shared hM hI hp hq ?_)
  have h1 := (hI.1 p hp).1
  have h2 := (hI.1 q hq).1
  simp (disch := omega) only [n_16, nI_add, nI_clamp, inb_nI, true_and, (hM.1 p hp).2.1, (hM.1 q hq).2.1, nI_xor]
  exact c_m_bits (tp_xor hI hp hq) H
end MC
