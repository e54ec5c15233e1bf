/-! people change: taken up, told, laid -/
def only (S : Nat → Prop) (M M' : pu_M) : Prop := ∀ k, ¬ S k → M' k = M k
theorem only.rf (S : Nat → Prop) (M : pu_M) : only S M M := fun _ _ => rfl
theorem only.tr {S : Nat → Prop} {A B C : pu_M} (h1 : only S A B) (h2 : only S B C) : only S A C := fun k hk => (h2 k hk).trans (h1 k hk)
theorem only.wr {S : Nat → Prop} {M M' : pu_M} {k i : Nat} {x : Int32} (h : only S M M') (hk : S k) : only S M (pu_wr M' k i x) := fun j hj => by
  rw [pu_wr_ne (show j ≠ k from fun z => hj (by rw [z]; exact hk))]; exact h j hj
theorem only.wrA {S : Nat → Prop} {M M' : pu_M} {k : Nat} {g : Nat → Int32} (h : only S M M') (hk : S k) : only S M (pu_wrA M' k g) := fun j hj => by
  rw [pu_wrA_ne (show j ≠ k from fun z => hj (by rw [z]; exact hk))]; exact h j hj
def yS (y k : Nat) : Prop := y ≤ k ∧ k ≤ y + 4
def fset {α : Type} (f : Nat → α) (p : Nat) (x : α) : Nat → α := fun q => if q = p then x else f q
theorem fset_s {α : Type} {f : Nat → α} {p : Nat} {x : α} : fset f p x p = x := by simp [fset]
theorem fset_n {α : Type} {f : Nat → α} {p q : Nat} {x : α} (h : q ≠ p) : fset f p x q = f q := by simp [fset, h]
theorem upd_s {f : Nat → Int32} {k : Nat} {x : Int32} : upd f k x k = x := by simp [upd]
theorem upd_n {f : Nat → Int32} {k j : Nat} {x : Int32} (h : j ≠ k) : upd f k x j = f j := by simp [upd, h]
/-- p lies at o -/
def setpl (P : Pp) (p : Nat) (o : Option Nat) : Pp := (tl P, tp P, md P, fset (pl P) p o, nt P, lo P)
def settp (P : Pp) (p t : Nat) : Pp := (tl P, fset (tp P) p t, md P, pl P, nt P, lo P)
def setmd (P : Pp) (p m : Nat) : Pp := (tl P, tp P, fset (md P) p m, pl P, nt P, lo P)
def settl (P : Pp) (p : Nat) : Pp := (fset (tl P) p true, tp P, md P, pl P, nt P, lo P)
def setlo (P : Pp) (x : Nat) : Pp := (tl P, tp P, md P, pl P, nt P, x)
theorem PI_setpl {P : Pp} (hI : PI P) {p : Nat} {o : Option Nat} (ho : ∀ w, o = some w → w < 60 ∧ tl P p = true ∧ ∀ q, q < 16 → q ≠ p → pl P q ≠ some w) : PI (setpl P p o) := by
  obtain ⟨h1, h2, h3⟩ := hI
  refine ⟨fun q hq => ⟨(h1 q hq).1, (h1 q hq).2.1, fun w hw => ?_⟩, fun a b w ha hb e1 e2 => ?_, h3⟩
  · by_cases e : q = p
    · subst e; have hw' : fset (pl P) q o q = some w := hw; rw [fset_s] at hw'; exact ⟨(ho w hw').1, (ho w hw').2.1⟩
    · have hw' : fset (pl P) p o q = some w := hw; rw [fset_n e] at hw'; exact (h1 q hq).2.2 w hw'
  · have e1' : fset (pl P) p o a = some w := e1
    have e2' : fset (pl P) p o b = some w := e2
    by_cases x : a = p <;> by_cases z : b = p
    · rw [x, z]
    · subst x; rw [fset_s] at e1'; rw [fset_n z] at e2'; exact absurd e2' ((ho w e1').2.2 b hb z)
    · subst z; rw [fset_s] at e2'; rw [fset_n x] at e1'; exact absurd e1' ((ho w e2').2.2 a ha x)
    · rw [fset_n x] at e1'; rw [fset_n z] at e2'; exact h2 a b w ha hb e1' e2'
theorem PI_none {P : Pp} (hI : PI P) {p : Nat} : PI (setpl P p none) := PI_setpl hI (fun w h => by cases h)
theorem who_iff {P : Pp} (hI : PI P) {w p : Nat} : who P w = some p ↔ p < 16 ∧ pl P p = some w := ⟨who_some, fun h => who_of hI h.1 h.2⟩
theorem who_setpl {P : Pp} (hI : PI P) {p : Nat} (hp : p < 16) {o : Option Nat} (hI' : PI (setpl P p o)) (w : Nat) : who (setpl P p o) w = if o = some w then some p else if who P w = some p then none else who P w := by
  by_cases h1 : o = some w
  · rw [if_pos h1]
    exact who_of hI' hp (show fset (pl P) p o p = some w by rw [fset_s]; exact h1)
  · rw [if_neg h1]
    cases e : who (setpl P p o) w with
    | some q =>
      obtain ⟨hq, hw⟩ := who_some e
      have hw' : fset (pl P) p o q = some w := hw
      by_cases x : q = p
      · subst x; rw [fset_s] at hw'; exact absurd hw' h1
      · rw [fset_n x] at hw'
        have := who_of hI hq hw'
        rw [this, if_neg (fun z => x (Option.some.inj z))]
    | none =>
      split
      · rfl
      next h2 =>
        cases e2 : who P w with
        | none => rfl
        | some q =>
          obtain ⟨hq, hw⟩ := who_some e2
          have x : q ≠ p := fun z => h2 (by rw [e2, z])
          have : who (setpl P p o) w = some q := who_of hI' hq (show fset (pl P) p o q = some w by rw [fset_n x]; exact hw)
          rw [e] at this; cases this
theorem who_tl {P R : Pp} (h : pl R = pl P) (w : Nat) : who R w = who P w := by unfold who; rw [h]
section QC
variable {L d : Nat} {M : pu_M} {P : Pp} {y : Nat}
theorem CY_setpl (hC : CY P M y) (hI : PI P) {p : Nat} (hp : p < 16) {o : Option Nat} (hI' : PI (setpl P p o)) {M' : pu_M} (e : ∀ k, k ≠ y + 3 → k ≠ y + 4 → M' k = M k) (e3 : ∀ q, q < 16 → M' (y + 3) q = pI (fset (pl P) p o q)) (e4 : ∀ w, w < 60 → M' (y + 4) w = pI (who (setpl P p o) w)) : CY (setpl P p o) M' y := by
  obtain ⟨h1, h2, h3, h4, h5⟩ := hC
  refine ⟨fun q hq => ⟨?_, ?_, e3 q hq⟩, e4, ?_, ?_, ?_⟩
  · rw [e (y + 1) (by omega) (by omega)]; exact (h1 q hq).1
  · rw [e (y + 2) (by omega) (by omega)]; exact (h1 q hq).2.1
  · rw [e y (by omega) (by omega)]; exact h3
  · rw [e y (by omega) (by omega)]; exact h4
  · rw [e y (by omega) (by omega)]; exact h5
theorem c_Y_takeUp {Q : pu_M → Prop} {p : Nat} (hy : pu_isY y) (hC : CY P M y) (hI : PI P) (hp : p < 16) (H : ∀ M', CY (setpl P p none) M' y → only (yS y) M M' → Q M') : pu_V L (d + 3) 109 [.ref y, .int (nI p)] M Q := by
  refine r_Yard_takeUp hy (c_Y_isLaid hy hC hI hp ?_)
  have hI' := PI_none hI (p := p)
  have hwho := who_setpl hI hp hI'
  cases e : pl P p with
  | none =>
    simp only [Option.isSome_none, Bool.false_eq_true, if_false]
    rw [if_pos trivial]
    refine H M (CY_setpl hC hI hp hI' (fun _ _ _ => rfl) (fun q hq => ?_) (fun w hw => ?_)) (only.rf _ M)
    · rw [(hC.1 q hq).2.2]
      by_cases x : q = p
      · subst x; rw [fset_s, e]
      · rw [fset_n x]
    · rw [hC.2.1 w hw, hwho w, if_neg (by simp), if_neg]
      intro z
      rw [(who_some z).2] at e; cases e
  | some b =>
    have hb := ((hI.1 p hp).2.2 b e).1
    simp only [Option.isSome_some, if_true]
    rw [if_neg (by decide)]
    have h3 := (hC.1 p hp).2.2
    rw [e, pI] at h3
    simp (disch := omega) only [nI_clamp, inb_nI, true_and, h3]
    refine H _ (CY_setpl hC hI hp hI' (fun k k3 k4 => ?_) (fun q hq => ?_) (fun w hw => ?_)) (((only.rf _ M).wr ⟨by omega, by omega⟩).wr ⟨by omega, by omega⟩)
    · rw [pu_wr_ne k3, pu_wr_ne k4]
    · rw [pu_wr_self, pu_wr_ne (by omega)]
      by_cases x : q = p
      · subst x; rw [upd_s, fset_s]; rfl
      · rw [upd_n x, fset_n x]; exact (hC.1 q hq).2.2
    · rw [pu_wr_ne (by omega), pu_wr_self, hwho w, if_neg (by simp)]
      by_cases x : w = b
      · subst x; rw [upd_s, if_pos (who_of hI hp e)]; rfl
      · rw [upd_n x, hC.2.1 w hw, if_neg]
        intro z
        have := (who_some z).2
        rw [e] at this
        exact x (Option.some.inj this).symm
/-- one is told -/
def tellP (P : Pp) (p t m : Nat) : Pp := settl (setmd (settp (setpl P p none) p t) p m) p
theorem PI_tell {p t m : Nat} (hI : PI P) (ht : t < 65536) (hm : m < 100) : PI (tellP P p t m) := by
  obtain ⟨h1, h2, h3⟩ := PI_none hI (p := p)
  refine ⟨fun q hq => ⟨?_, ?_, fun w hw => ⟨((h1 q hq).2.2 w hw).1, ?_⟩⟩, h2, h3⟩
  · show fset (tp P) p t q < _
    by_cases x : q = p
    · subst x; rw [fset_s]; exact ht
    · rw [fset_n x]; exact (h1 q hq).1
  · show fset (md P) p m q < _
    by_cases x : q = p
    · subst x; rw [fset_s]; exact hm
    · rw [fset_n x]; exact (h1 q hq).2.1
  · show fset (tl P) p true q = true
    by_cases x : q = p
    · subst x; rw [fset_s]
    · rw [fset_n x]; exact ((h1 q hq).2.2 w hw).2
theorem bs_fset {f : Nat → Bool} {p n : Nat} (hp : p < n) (hn : n ≤ 30) : nI (bs f n) ||| nI (2 ^ p) = nI (bs (fset f p true) n) := by
  have h1 := bs_lt f n
  have h2 : 2 ^ n ≤ 2 ^ 30 := Nat.pow_le_pow_right (by decide) hn
  have h3 : 2 ^ p < 2 ^ n := Nat.pow_lt_pow_right (by decide) hp
  rw [nI_or (by omega) (by omega)]
  congr 1
  apply Nat.eq_of_testBit_eq
  intro i
  rw [Nat.testBit_or, bs_bit, bs_bit, Nat.testBit_two_pow]
  by_cases x : i = p
  · subst x; simp [fset, hp]
  · simp [fset, x, Ne.symm x]
theorem c_Y_tell {Q : pu_M → Prop} {p t m : Nat} (hy : pu_isY y) (hC : CY P M y) (hI : PI P) (hp : p < 16) (H : ∀ M', CY (tellP P p t m) M' y → only (yS y) M M' → Q M') : pu_V L (d + 4) 108 [.ref y, .int (nI p), .int (nI t), .int (nI m)] M Q := by
  refine r_Yard_tell hy (c_Y_takeUp hy hC hI hp (fun M1 hC1 e1 => ?_))
  refine ⟨inb_nI hp (by decide), inb_nI hp (by decide), fun M4 hM4 => ?_⟩
  rw [nI_clamp (by omega), pu_wr_ne (show y ≠ y + 2 by omega), pu_wr_ne (show y ≠ y + 1 by omega), hC1.2.2.1, nI_pow (by omega)] at hM4
  subst hM4
  refine H _ ⟨fun q hq => ⟨?_, ?_, ?_⟩, fun w hw => ?_, ?_, ?_, ?_⟩ (e1.tr ((((only.rf _ M1).wr ⟨by omega, by omega⟩).wr ⟨by omega, by omega⟩).wr ⟨by omega, by omega⟩))
  · rw [pu_wr_ne (by omega), pu_wr_ne (by omega), pu_wr_self]
    show _ = nI (fset (tp P) p t q)
    by_cases x : q = p
    · subst x; rw [upd_s, fset_s]
    · rw [upd_n x, fset_n x]; exact (hC1.1 q hq).1
  · rw [pu_wr_ne (by omega), pu_wr_self, pu_wr_ne (by omega)]
    show _ = nI (fset (md P) p m q)
    by_cases x : q = p
    · subst x; rw [upd_s, fset_s]
    · rw [upd_n x, fset_n x]; exact (hC1.1 q hq).2.1
  · rw [pu_wr_ne (by omega), pu_wr_ne (by omega), pu_wr_ne (by omega)]; exact (hC1.1 q hq).2.2
  · rw [pu_wr_ne (by omega), pu_wr_ne (by omega), pu_wr_ne (by omega)]; exact hC1.2.1 w hw
  · rw [pu_wr_self, upd_s]; exact bs_fset hp (by decide)
  · rw [pu_wr_self, upd_n (by decide), pu_wr_ne (by omega), pu_wr_ne (by omega)]; exact hC1.2.2.2.1
  · rw [pu_wr_self, upd_n (by decide), pu_wr_ne (by omega), pu_wr_ne (by omega)]; exact hC1.2.2.2.2
theorem vbig {N : Nat} {B : Int32} (hB : B.toInt = N) (v : Int32) : (∃ p, p ≤ N ∧ v = nI p) ∨ (v < 0 ∨ B < v) := by
  by_cases h : v < 0
  · exact Or.inr (Or.inl h)
  · by_cases h2 : B < v
    · exact Or.inr (Or.inr h2)
    · obtain ⟨j, hj, e⟩ := nI_of2 (M := B) (n := N) hB h (Int32.not_lt.mp h2)
      exact Or.inl ⟨j, hj, e⟩
/-- may one be told so -/
def okP (a b c : Int32) : Prop := ¬ (a < 0 ∨ 15 < a) ∧ ¬ (b < 0 ∨ 65535 < b) ∧ ¬ (c < 0 ∨ 99 < c)
theorem c_x_person {Q : Int32 → pu_M → Prop} {a b c : Int32} (h9 : M 0 9 = nI y) (hy : pu_isY y) (hC : CY P M y) (hI : PI P)
    (H0 : ¬ okP a b c → Q 0 M) (H1 : okP a b c → ∀ M', CY (tellP P a.toNatClampNeg b.toNatClampNeg c.toNatClampNeg) M' y → only (yS y) M M' → Q 1 M') : pu_I L (d + 5) 122 [.ref 0, .int a, .int b, .int c] M Q := by
  refine r_x_person ?_
  rcases v16 a with ⟨p, hp, rfl⟩ | ha
  · refine c_x_isOne hp ?_
    rw [if_neg (by decide)]
    by_cases b0 : b < 0
    · rw [if_pos b0]; exact H0 (fun z => z.2.1 (Or.inl b0))
    rw [if_neg b0]
    by_cases b1 : 65535 < b
    · rw [if_pos b1]; exact H0 (fun z => z.2.1 (Or.inr b1))
    rw [if_neg b1]
    by_cases c0 : c < 0
    · rw [if_pos c0]; exact H0 (fun z => z.2.2 (Or.inl c0))
    rw [if_neg c0]
    by_cases c1 : 99 < c
    · rw [if_neg (lt_not_le c1)]; exact H0 (fun z => z.2.2 (Or.inr c1))
    rw [if_pos (Int32.not_lt.mp c1)]
    obtain ⟨t, ht, rfl⟩ := (vbig (N := 65535) (B := 65535) rfl b).resolve_right (fun z => z.elim b0 b1)
    obtain ⟨m, hm, rfl⟩ := (vbig (N := 99) (B := 99) rfl c).resolve_right (fun z => z.elim c0 c1)
    have hok : okP (nI p) (nI t) (nI m) := ⟨in15 hp, fun z => z.elim b0 b1, fun z => z.elim c0 c1⟩
    refine ⟨y, h9, hy, c_Y_tell hy hC hI hp (fun M' hC' e => ?_)⟩
    refine H1 hok M' ?_ e
    rw [nI_clamp (by omega), nI_clamp (by omega), nI_clamp (by omega)]
    exact hC'
  · refine c_x_isOneN ha ?_
    rw [if_pos rfl]
    exact H0 (fun z => z.1 ha)
theorem c_m_person {Q : Int32 → pu_M → Prop} {a b c : Int32} (hM : PM P (M 59)) (hI : PI P)
    (H0 : ¬ okP a b c → Q 0 M) (H1 : okP a b c → ∀ M', PM (tellP P a.toNatClampNeg b.toNatClampNeg c.toNatClampNeg) (M' 59) → only (fun k => k = 59) M M' → Q 1 M') : pu_I L (d + 2) 174 [.ref 58, .int a, .int b, .int c] M Q := by
  refine r_m_person (c_m_in ?_)
  by_cases ha : a < 0 ∨ 15 < a
  · rw [if_pos ha, if_pos rfl]; exact H0 (fun z => z.1 ha)
  rw [if_neg ha, if_neg (by decide)]
  refine c_m_in ?_
  by_cases hb : b < 0 ∨ 65535 < b
  · rw [if_pos hb, if_pos rfl]; exact H0 (fun z => z.2.1 hb)
  rw [if_neg hb, if_neg (by decide)]
  refine c_m_in ?_
  by_cases hc : c < 0 ∨ 99 < c
  · rw [if_pos hc, if_pos rfl]; exact H0 (fun z => z.2.2 hc)
  rw [if_neg hc, if_neg (by decide)]
  obtain ⟨p, hp, rfl⟩ := (v16 a).resolve_right ha
  obtain ⟨t, ht, rfl⟩ := (vbig (N := 65535) (B := 65535) rfl b).resolve_right hb
  obtain ⟨m, hm, rfl⟩ := (vbig (N := 99) (B := 99) rfl c).resolve_right hc
  have H1 := H1 ⟨ha, hb, hc⟩
  simp (disch := omega) only [nI_clamp] at H1
  simp (disch := omega) only [n_0, n_16, n_32, n_48, nI_add, nI_clamp, inb_nI, true_and, Nat.zero_add]
  intro M11 hM11
  subst hM11
  refine H1 _ ⟨fun q hq => ?_, ?_, ?_⟩ (((((only.rf (fun k => k = 59) M).wr rfl).wr rfl).wr rfl).wr rfl)
  · rw [pu_wr_self, pu_wr_self, pu_wr_self, pu_wr_self]
    show _ = bI (fset (tl P) p true q) ∧ _ = nI (fset (tp P) p t q) ∧ _ = nI (fset (md P) p m q) ∧ _ = pI (fset (pl P) p none q)
    obtain ⟨a1, a2, a3, a4⟩ := hM.1 q hq
    by_cases x : q = p
    · subst x
      simp only [fset_s, upd_s]
      refine ⟨?_, ?_, ?_, rfl⟩
      · rw [upd_n (by omega), upd_n (by omega), upd_n (by omega), upd_s]; rfl
      · rw [upd_n (by omega), upd_n (by omega), upd_s]
      · rw [upd_n (by omega), upd_s]
    · rw [fset_n x, fset_n x, fset_n x, fset_n x]
      refine ⟨?_, ?_, ?_, ?_⟩
      · rw [upd_n (by omega), upd_n (by omega), upd_n (by omega), upd_n (by omega)]; exact a1
      · rw [upd_n (by omega), upd_n (by omega), upd_n (by omega), upd_n (by omega)]; exact a2
      · rw [upd_n (by omega), upd_n (by omega), upd_n (by omega), upd_n (by omega)]; exact a3
      · rw [upd_n (by omega), upd_n (by omega), upd_n (by omega), upd_n (by omega)]; exact a4
  · rw [pu_wr_self, pu_wr_self, pu_wr_self, pu_wr_self, upd_n (by omega), upd_n (by omega), upd_n (by omega), upd_n (by omega)]; exact hM.2.1
  · rw [pu_wr_self, pu_wr_self, pu_wr_self, pu_wr_self, upd_n (by omega), upd_n (by omega), upd_n (by omega), upd_n (by omega)]; exact hM.2.2
end QC
