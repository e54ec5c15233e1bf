/-! couples: the most talk in twos of each set -/
theorem bs_le {A B : Nat → Bool} : ∀ {n : Nat}, (∀ k, k < n → A k = true → B k = true) → bs A n ≤ bs B n
  | 0, _ => Nat.le_refl _
  | n + 1, h => by
    have ih := bs_le (A := A) (B := B) (n := n) (fun k hk => h k (by omega))
    simp only [bs]
    cases ha : A n with
    | false => simp; omega
    | true => rw [h n (by omega) ha]; simp; omega
theorem bs_less {A B : Nat → Bool} : ∀ {n : Nat}, (∀ k, k < n → A k = true → B k = true) → (∃ k, k < n ∧ B k = true ∧ A k = false) → bs A n < bs B n
  | 0, _, ⟨k, hk, _⟩ => absurd hk (by omega)
  | n + 1, h, ⟨k, hk, h1, h2⟩ => by
    simp only [bs]
    have hp : 0 < 2 ^ n := Nat.two_pow_pos n
    by_cases e : k = n
    · subst e
      have ih := bs_le (A := A) (B := B) (n := k) (fun j hj => h j (by omega))
      rw [h1, h2]; simp; omega
    · have ih := bs_less (A := A) (B := B) (n := n) (fun j hj => h j (by omega)) ⟨k, by omega, h1, h2⟩
      cases ha : A n with
      | false => simp; omega
      | true => rw [h n (by omega) ha]; simp; omega
def cl (X a : Nat) : Nat := an X (2 ^ a)
theorem cl_bit {X a : Nat} (hX : X < 2 ^ 31) (i : Nat) : (cl X a).testBit i = (X.testBit i && !decide (a = i)) := by
  unfold cl; rw [an_bit hX, Nat.testBit_two_pow]
theorem cl_lt {X a n : Nat} (hX : X < 2 ^ n) (hn : n ≤ 31) : cl X a < 2 ^ n := an_lt hX hn
theorem cl_le {X a : Nat} (hX : X < 2 ^ 31) : cl X a ≤ X := by
  unfold cl an
  have := bs_le (A := fun k => X.testBit k && !(2 ^ a).testBit k) (B := fun k => X.testBit k) (n := 31) (fun k _ h => by rw [Bool.and_eq_true] at h; exact h.1)
  rwa [bs_of_bits hX] at this
theorem cl_less {X a : Nat} (hX : X < 2 ^ 31) (ha : a < 31) (h : X.testBit a = true) : cl X a < X := by
  unfold cl an
  have := bs_less (A := fun k => X.testBit k && !(2 ^ a).testBit k) (B := fun k => X.testBit k) (n := 31) (fun k _ h => by rw [Bool.and_eq_true] at h; exact h.1) ⟨a, ha, h, by simp [Nat.testBit_two_pow]⟩
  rwa [bs_of_bits hX] at this
theorem cl_comm {X a b : Nat} (hX : X < 2 ^ 31) : cl (cl X a) b = cl (cl X b) a := by
  apply Nat.eq_of_testBit_eq
  intro i
  rw [cl_bit (cl_lt hX (Nat.le_refl _)), cl_bit (cl_lt hX (Nat.le_refl _)), cl_bit hX, cl_bit hX]
  cases X.testBit i <;> cases decide (a = i) <;> cases decide (b = i) <;> rfl
def fmx (c : Nat → Bool) (v : Nat → Nat) (b acc : Nat) : Nat := if c b = true then (if acc < v b then v b else acc) else acc
theorem fmx_sp {c : Nat → Bool} {v : Nat → Nat} : ∀ (m acc : Nat), acc ≤ fo (fmx c v) m acc ∧ (∀ b, b < m → c b = true → v b ≤ fo (fmx c v) m acc) ∧ (fo (fmx c v) m acc = acc ∨ ∃ b, b < m ∧ c b = true ∧ fo (fmx c v) m acc = v b)
  | 0, acc => ⟨Nat.le_refl _, fun b hb => absurd hb (by omega), Or.inl rfl⟩
  | m + 1, acc => by
    have ih := fmx_sp (c := c) (v := v) m acc
    show acc ≤ fmx c v m (fo (fmx c v) m acc) ∧ (∀ b, b < m + 1 → c b = true → v b ≤ fmx c v m (fo (fmx c v) m acc)) ∧ (fmx c v m (fo (fmx c v) m acc) = acc ∨ ∃ b, b < m + 1 ∧ c b = true ∧ fmx c v m (fo (fmx c v) m acc) = v b)
    generalize fo (fmx c v) m acc = F at ih ⊢
    obtain ⟨i1, i2, i3⟩ := ih
    unfold fmx
    cases hc : c m with
    | false =>
      rw [if_neg (by decide)]
      refine ⟨i1, fun b hb h => ?_, ?_⟩
      · by_cases e : b = m
        · subst e; rw [hc] at h; exact absurd h (by decide)
        · exact i2 b (by omega) h
      · rcases i3 with h | ⟨b, hb, h1, h2⟩
        · exact Or.inl h
        · exact Or.inr ⟨b, by omega, h1, h2⟩
    | true =>
      rw [if_pos rfl]
      by_cases hlt : F < v m
      · rw [if_pos hlt]
        refine ⟨by omega, fun b hb h => ?_, Or.inr ⟨m, by omega, hc, rfl⟩⟩
        by_cases e : b = m
        · subst e; exact Nat.le_refl _
        · have := i2 b (by omega) h; omega
      · rw [if_neg hlt]
        refine ⟨i1, fun b hb h => ?_, ?_⟩
        · by_cases e : b = m
          · subst e; omega
          · exact i2 b (by omega) h
        · rcases i3 with h | ⟨b, hb, h1, h2⟩
          · exact Or.inl h
          · exact Or.inr ⟨b, by omega, h1, h2⟩
section WT
variable {t : Nat → Nat → Nat} {n : Nat}
def cc (t : Nat → Nat → Nat) (X a b : Nat) : Bool := X.testBit a && X.testBit b && decide (0 < t a b)
def cst (t : Nat → Nat → Nat) (T : Nat → Nat) (X a : Nat) : Nat → Nat → Nat := fmx (cc t X a) (fun b => t a b + T (cl (cl X a) b))
def crow (t : Nat → Nat → Nat) (T : Nat → Nat) (X a acc : Nat) : Nat := fo (cst t T X a) a acc
def cstp (t : Nat → Nat → Nat) (n : Nat) (T : Nat → Nat) (X : Nat) : Nat := fo (crow t T X) n 0
def Wtab (t : Nat → Nat → Nat) (n : Nat) : Nat → Nat → Nat
  | 0 => fun _ => 0
  | k + 1 => fset (Wtab t n k) k (cstp t n (Wtab t n k) k)
def Wc (t : Nat → Nat → Nat) (n X : Nat) : Nat := Wtab t n (X + 1) X
theorem W_tab : ∀ {k X : Nat}, X < k → Wtab t n k X = Wc t n X
  | 0, X, h => absurd h (by omega)
  | k + 1, X, h => by
    by_cases e : X = k
    · subst e; rfl
    · show fset (Wtab t n k) k _ X = _
      rw [fset_n e, W_tab (show X < k by omega)]
theorem cc_iff {X a b : Nat} : cc t X a b = true ↔ X.testBit a = true ∧ X.testBit b = true ∧ 0 < t a b := by
  unfold cc; rw [Bool.and_eq_true, Bool.and_eq_true, decide_eq_true_eq, and_assoc]
theorem tb_lt {X a : Nat} (hX : X < 2 ^ 31) (h : X.testBit a = true) : a < 31 := by
  apply Nat.lt_of_not_le
  intro z
  rw [Nat.testBit_lt_two_pow (Nat.lt_of_lt_of_le hX (Nat.pow_le_pow_right (by decide) z))] at h
  exact absurd h (by decide)
theorem cl2_less {X a b : Nat} (hX : X < 2 ^ 31) (h : X.testBit a = true) : cl (cl X a) b < X := Nat.lt_of_le_of_lt (cl_le (cl_lt hX (Nat.le_refl _))) (cl_less hX (tb_lt hX h) h)
theorem W_eq {X : Nat} (hX : X < 2 ^ 31) : Wc t n X = cstp t n (Wc t n) X := by
  show fset (Wtab t n X) X (cstp t n (Wtab t n X) X) X = _
  rw [fset_s]
  unfold cstp
  refine fo_congr (fun a _ acc => ?_) 0
  unfold crow
  refine fo_congr (fun b _ acc => ?_) acc
  unfold cst fmx
  by_cases h : cc t X a b = true
  · have e : Wtab t n X (cl (cl X a) b) = Wc t n (cl (cl X a) b) := W_tab (cl2_less hX (cc_iff.mp h).1)
    simp only [e]
  · rw [if_neg h, if_neg h]
theorem W_two {X : Nat} : ∀ m, (∀ a b, b < a → a < m → cc t X a b = true → t a b + Wc t n (cl (cl X a) b) ≤ fo (crow t (Wc t n) X) m 0) ∧ (fo (crow t (Wc t n) X) m 0 = 0 ∨ ∃ a b, b < a ∧ a < m ∧ cc t X a b = true ∧ fo (crow t (Wc t n) X) m 0 = t a b + Wc t n (cl (cl X a) b))
  | 0 => ⟨fun a b _ ha => absurd ha (by omega), Or.inl rfl⟩
  | m + 1 => by
    obtain ⟨i1, i2⟩ := W_two (X := X) m
    have e : fo (crow t (Wc t n) X) (m + 1) 0 = fo (cst t (Wc t n) X m) m (fo (crow t (Wc t n) X) m 0) := rfl
    obtain ⟨f1, f2, f3⟩ := fmx_sp (c := cc t X m) (v := fun b => t m b + Wc t n (cl (cl X m) b)) m (fo (crow t (Wc t n) X) m 0)
    rw [e]
    unfold cst
    constructor
    · intro a b hb ha hc
      by_cases e : a = m
      · subst e; exact f2 b hb hc
      · exact Nat.le_trans (i1 a b hb (by omega) hc) f1
    · rcases f3 with h | ⟨b, hb, h1, h2⟩
      · rw [h]
        rcases i2 with h | ⟨a, b, h1, h2, h3, h4⟩
        · exact Or.inl h
        · exact Or.inr ⟨a, b, h1, by omega, h3, h4⟩
      · exact Or.inr ⟨m, b, hb, by omega, h1, h2⟩
theorem W_p1 (ts : ∀ a b, t a b = t b a) {X a b : Nat} (hX : X < 2 ^ 31) (ha : a < n) (hb : b < n) (hab : a ≠ b) (h1 : X.testBit a = true) (h2 : X.testBit b = true) (h3 : 0 < t a b) : t a b + Wc t n (cl (cl X a) b) ≤ Wc t n X := by
  rw [W_eq (t := t) (n := n) hX]
  rcases Nat.lt_or_gt_of_ne hab with h | h
  · have := (W_two (t := t) (n := n) (X := X) n).1 b a h hb (cc_iff.mpr ⟨h2, h1, by rw [ts]; exact h3⟩)
    rw [ts b a, cl_comm hX] at this
    exact this
  · exact (W_two (t := t) (n := n) (X := X) n).1 a b h ha (cc_iff.mpr ⟨h1, h2, h3⟩)
theorem W_p2 {X : Nat} (hX : X < 2 ^ 31) : Wc t n X = 0 ∨ ∃ a b, b < a ∧ a < n ∧ X.testBit a = true ∧ X.testBit b = true ∧ 0 < t a b ∧ Wc t n X = t a b + Wc t n (cl (cl X a) b) := by
  have := (W_two (t := t) (n := n) (X := X) n).2
  have e : fo (crow t (Wc t n) X) n 0 = Wc t n X := (W_eq (t := t) (n := n) hX).symm
  rw [e] at this
  rcases this with h | ⟨a, b, h1, h2, h3, h4⟩
  · exact Or.inl h
  · obtain ⟨c1, c2, c3⟩ := cc_iff.mp h3
    exact Or.inr ⟨a, b, h1, h2, c1, c2, c3, h4⟩
theorem W_mono (ts : ∀ a b, t a b = t b a) : ∀ (N X : Nat), X ≤ N → X < 2 ^ 31 → ∀ l, Wc t n (cl X l) ≤ Wc t n X := by
  intro N
  induction N with
  | zero =>
    intro X h0 hX l
    obtain rfl : X = 0 := by omega
    have : cl 0 l = 0 := Nat.le_zero.mp (cl_le (by decide))
    rw [this]; exact Nat.le_refl _
  | succ N ih =>
    intro X h0 hX l
    have hY : cl X l < 2 ^ 31 := cl_lt hX (Nat.le_refl _)
    rcases W_p2 (t := t) (n := n) hY with h | ⟨a, b, h1, h2, h3, h4, h5, h6⟩
    · rw [h]; exact Nat.zero_le _
    · rw [cl_bit hX, Bool.and_eq_true] at h3 h4
      have hZ : cl X a < 2 ^ 31 := cl_lt hX (Nat.le_refl _)
      have e : cl (cl (cl X l) a) b = cl (cl (cl X a) b) l := by rw [cl_comm (a := l) (b := a) hX, cl_comm (a := l) (b := b) hZ]
      have hl := cl2_less (b := b) hX h3.1
      have := ih (cl (cl X a) b) (by omega) (by omega) l
      have p := W_p1 ts hX h2 (show b < n by omega) (show a ≠ b by omega) h3.1 h4.1 h5
      rw [h6, e]
      omega
theorem W_low (ts : ∀ a b, t a b = t b a) : ∀ (N X : Nat), X ≤ N → X < 2 ^ 31 → ∀ l, X.testBit l = true → (∀ i, i < l → X.testBit i = false) → Wc t n X = Wc t n (cl X l) ∨ ∃ o, l < o ∧ o < n ∧ X.testBit o = true ∧ 0 < t l o ∧ Wc t n X = t l o + Wc t n (cl (cl X l) o) := by
  intro N
  induction N with
  | zero =>
    intro X h0 hX l hl
    obtain rfl : X = 0 := by omega
    simp at hl
  | succ N ih =>
    intro X h0 hX l hl hlow
    have mono := W_mono (n := n) ts X X (Nat.le_refl _) hX l
    rcases W_p2 (t := t) (n := n) hX with h | ⟨a, b, h1, h2, h3, h4, h5, h6⟩
    · left; omega
    · have hal : a ≠ l := fun z => by
        rw [hlow b (by omega)] at h4; exact absurd h4 (by decide)
      by_cases hbl : b = l
      · subst hbl
        right
        exact ⟨a, h1, h2, h3, by rw [ts]; exact h5, by rw [h6, ts a b, cl_comm hX]⟩
      · have hZ : cl X a < 2 ^ 31 := cl_lt hX (Nat.le_refl _)
        have hXl : cl X l < 2 ^ 31 := cl_lt hX (Nat.le_refl _)
        have hless := cl2_less (b := b) hX h3
        have bits : ∀ i, (cl (cl X a) b).testBit i = (X.testBit i && !decide (a = i) && !decide (b = i)) := fun i => by rw [cl_bit hZ, cl_bit hX]
        have hYl : (cl (cl X a) b).testBit l = true := by rw [bits, hl]; simp [hal, hbl]
        have hYlow : ∀ i, i < l → (cl (cl X a) b).testBit i = false := fun i hi => by rw [bits, hlow i hi]; rfl
        have e1 : cl (cl (cl X a) b) l = cl (cl (cl X l) a) b := by rw [cl_comm (a := b) (b := l) hZ, cl_comm (a := a) (b := l) hX]
        have hla : (cl X l).testBit a = true := by rw [cl_bit hX, h3]; simp [Ne.symm hal]
        have hlb : (cl X l).testBit b = true := by rw [cl_bit hX, h4]; simp [Ne.symm hbl]
        rcases ih (cl (cl X a) b) (by omega) (by omega) l hYl hYlow with hw | ⟨o, o1, o2, o3, o4, o5⟩
        · left
          rw [e1] at hw
          have := W_p1 ts hXl h2 (show b < n by omega) (show a ≠ b by omega) hla hlb h5
          omega
        · right
          rw [bits, Bool.and_eq_true, Bool.and_eq_true] at o3
          obtain ⟨⟨q1, q2⟩, q3⟩ := o3
          have hao : a ≠ o := by simpa using q2
          have hbo : b ≠ o := by simpa using q3
          refine ⟨o, o1, o2, q1, o4, ?_⟩
          have hXlo : cl (cl X l) o < 2 ^ 31 := cl_lt hXl (Nat.le_refl _)
          have e2 : cl (cl (cl (cl X a) b) l) o = cl (cl (cl (cl X l) o) a) b := by
            rw [e1, cl_comm (a := b) (b := o) (cl_lt hXl (Nat.le_refl _)), cl_comm (a := a) (b := o) hXl]
          have p1 := W_p1 ts hXlo h2 (show b < n by omega) (show a ≠ b by omega) (by rw [cl_bit hXl, hla]; simp [Ne.symm hao]) (by rw [cl_bit hXl, hlb]; simp [Ne.symm hbo]) h5
          have p2 := W_p1 ts hX (show l < n by omega) o2 (show l ≠ o by omega) hl q1 o4
          rw [e2] at o5
          omega
theorem W_bd (tb : ∀ a b, t a b ≤ 64) : ∀ (N X : Nat), X ≤ N → X < 2 ^ 31 → Wc t n X ≤ 64 * X := by
  intro N
  induction N with
  | zero =>
    intro X h0 hX
    obtain rfl : X = 0 := by omega
    rcases W_p2 (t := t) (n := n) hX with h | ⟨a, b, h1, h2, h3, h4, h5, h6⟩
    · omega
    · simp at h3
  | succ N ih =>
    intro X h0 hX
    rcases W_p2 (t := t) (n := n) hX with h | ⟨a, b, h1, h2, h3, h4, h5, h6⟩
    · omega
    · have hless := cl2_less (b := b) hX h3
      have := ih (cl (cl X a) b) (by omega) (by omega)
      have := tb a b
      omega
/-- the class's way: by the lowest one -/
def kst (t : Nat → Nat → Nat) (n X l : Nat) : Nat → Nat → Nat := fmx (fun j => X.testBit (l + 1 + j) && decide (0 < t l (l + 1 + j))) (fun j => t l (l + 1 + j) + Wc t n (cl (cl X l) (l + 1 + j)))
theorem kst_le (ts : ∀ a b, t a b = t b a) {X l m : Nat} (hX : X < 2 ^ 31) (hl : X.testBit l = true) (hln : l < n) (hm : l + 1 + m ≤ n) : fo (kst t n X l) m (Wc t n (cl X l)) ≤ Wc t n X := by
  rcases (fmx_sp (c := fun j => X.testBit (l + 1 + j) && decide (0 < t l (l + 1 + j))) (v := fun j => t l (l + 1 + j) + Wc t n (cl (cl X l) (l + 1 + j))) m (Wc t n (cl X l))).2.2 with h | ⟨j, hj, h1, h2⟩
  · unfold kst; rw [h]; exact W_mono ts X X (Nat.le_refl _) hX l
  · unfold kst; rw [h2]
    rw [Bool.and_eq_true, decide_eq_true_eq] at h1
    exact W_p1 ts hX hln (by omega) (by omega) hl h1.1 h1.2
theorem kst_eq (ts : ∀ a b, t a b = t b a) {X l : Nat} (hX : X < 2 ^ 31) (hl : X.testBit l = true) (hlow : ∀ i, i < l → X.testBit i = false) (hln : l < n) : fo (kst t n X l) (n - l - 1) (Wc t n (cl X l)) = Wc t n X := by
  apply Nat.le_antisymm
  · exact kst_le ts hX hl hln (by omega)
  · obtain ⟨f1, f2, -⟩ := fmx_sp (c := fun j => X.testBit (l + 1 + j) && decide (0 < t l (l + 1 + j))) (v := fun j => t l (l + 1 + j) + Wc t n (cl (cl X l) (l + 1 + j))) (n - l - 1) (Wc t n (cl X l))
    rcases W_low (n := n) ts X X (Nat.le_refl _) hX l hl hlow with h | ⟨o, o1, o2, o3, o4, o5⟩
    · rw [h]; exact f1
    · rw [o5]
      have := f2 (o - l - 1) (by omega) (by
        rw [show l + 1 + (o - l - 1) = o by omega, o3]; simp [o4])
      rw [show l + 1 + (o - l - 1) = o by omega] at this
      exact this
end WT
