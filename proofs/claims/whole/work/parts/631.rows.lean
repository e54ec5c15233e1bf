/-! ROWS: the most talk, and the least row of those in which it is so -/
abbrev Bst : Type := Option (Int × Ro)
def b_up (f : Ro → Int) (x : Ro) : Bst → Int × Ro
  | none => (f x, x)
  | some z => if z.1 ≤ f x then (f x, x) else z
theorem b_up_y {f : Ro → Int} {x : Ro} {z : Int × Ro} (h : z.1 ≤ f x) : b_up f x (some z) = (f x, x) := by
  show (if z.1 ≤ f x then (f x, x) else z) = _
  rw [if_pos h]
theorem b_up_n {f : Ro → Int} {x : Ro} {z : Int × Ro} (h : ¬ z.1 ≤ f x) : b_up f x (some z) = z := by
  show (if z.1 ≤ f x then (f x, x) else z) = _
  rw [if_neg h]
theorem b_up_0 {f : Ro → Int} {x : Ro} : b_up f x none = (f x, x) := rfl
def b_fm (f : Ro → Int) : List Ro → Bst
  | [] => none
  | x :: xs => some (b_up f x (b_fm f xs))
def b_st (f : Ro → Int) (a : Int × Ro) (l : Ro) : Int × Ro := if f l ≤ a.1 then a else (f l, l)
def b_ov (a : Int × Ro) : Bst → Int × Ro
  | none => a
  | some z => if z.1 ≤ a.1 then a else z
theorem b_ov_s {a z : Int × Ro} : b_ov a (some z) = if z.1 ≤ a.1 then a else z := rfl
theorem b_fold {f : Ro → Int} : ∀ {xs : List Ro} {a : Int × Ro}, xs.foldl (b_st f) a = b_ov a (b_fm f xs)
  | [], a => rfl
  | x :: xs, a => by
    show xs.foldl (b_st f) (b_st f a x) = b_ov a (some (b_up f x (b_fm f xs)))
    rw [b_fold, b_ov_s]
    unfold b_st
    by_cases h : f x ≤ a.1
    · rw [if_pos h]
      cases b_fm f xs with
      | none => rw [b_up_0, if_pos h]; rfl
      | some z =>
        rw [b_ov_s]
        by_cases h2 : z.1 ≤ f x
        · rw [b_up_y h2, if_pos (show z.1 ≤ a.1 by omega), if_pos h]
        · rw [b_up_n h2]
    · rw [if_neg h]
      cases b_fm f xs with
      | none => rw [b_up_0, if_neg h]; rfl
      | some z =>
        rw [b_ov_s]
        by_cases h2 : z.1 ≤ f x
        · rw [b_up_y h2, if_pos h2, if_neg h]
        · rw [b_up_n h2, if_neg h2, if_neg (by omega)]
def b_cm : Bst → Bst → Bst
  | none, b => b
  | some x, none => some x
  | some x, some y => if y.1 ≤ x.1 then some x else some y
theorem b_cm_n (a : Bst) : b_cm a none = a := by cases a <;> rfl
theorem b_cm_s {x y : Int × Ro} : b_cm (some x) (some y) = if y.1 ≤ x.1 then some x else some y := rfl
theorem b_fm_app {f : Ro → Int} : ∀ {xs ys : List Ro}, b_fm f (xs ++ ys) = b_cm (b_fm f xs) (b_fm f ys)
  | [], ys => rfl
  | x :: xs, ys => by
    show some (b_up f x (b_fm f (xs ++ ys))) = b_cm (some (b_up f x (b_fm f xs))) (b_fm f ys)
    rw [b_fm_app]
    cases b_fm f xs with
    | none =>
      cases b_fm f ys with
      | none => rfl
      | some y =>
        rw [b_up_0, b_cm_s]
        show some (b_up f x (some y)) = _
        by_cases h : y.1 ≤ f x
        · rw [b_up_y h, if_pos h]
        · rw [b_up_n h, if_neg h]
    | some z =>
      cases b_fm f ys with
      | none => rfl
      | some y =>
        rw [b_cm_s, b_cm_s]
        by_cases h1 : y.1 ≤ z.1
        · rw [if_pos h1]
          by_cases h2 : z.1 ≤ f x
          · rw [b_up_y h2, if_pos (show y.1 ≤ f x by omega)]
          · rw [b_up_n h2, if_pos h1]
        · rw [if_neg h1]
          by_cases h2 : z.1 ≤ f x
          · rw [b_up_y h2]
            by_cases h3 : y.1 ≤ f x
            · rw [b_up_y h3, if_pos h3]
            · rw [b_up_n h3, if_neg h3]
          · rw [b_up_n h2, b_up_n (by omega), if_neg h1]
theorem b_fm_map {f h : Ro → Int} {g : Ro → Ro} {c : Int} (e : ∀ l, f (g l) = c + h l) : ∀ {xs : List Ro}, b_fm f (xs.map g) = (b_fm h xs).map (fun z => (c + z.1, g z.2))
  | [] => rfl
  | x :: xs => by
    show some (b_up f (g x) (b_fm f (xs.map g))) = some ((fun z : Int × Ro => (c + z.1, g z.2)) (b_up h x (b_fm h xs)))
    rw [b_fm_map e]
    cases b_fm h xs with
    | none => rw [b_up_0]; show some (b_up f (g x) none) = _; rw [b_up_0, e]
    | some z =>
      show some (b_up f (g x) (some (c + z.1, g z.2))) = _
      by_cases h1 : z.1 ≤ h x
      · rw [b_up_y h1, b_up_y (by rw [e]; dsimp only; omega), e]
      · rw [b_up_n h1, b_up_n (by rw [e]; dsimp only; omega)]
/-- the best of the first m: each with what it adds -/
def b_cf (c : Nat → Int) (u : Nat → Bool) (g : Nat → Bst) : Nat → Bst
  | 0 => none
  | m + 1 => b_cm (b_cf c u g m) (if u m = true then (g m).map (fun z => (c m + z.1, m :: z.2)) else none)
theorem b_flat {f : Ro → Int} {k : Nat → List Ro} {c : Nat → Int} {u : Nat → Bool} {g : Nat → Bst} (e : ∀ i, b_fm f (k i) = if u i = true then (g i).map (fun z => (c i + z.1, i :: z.2)) else none) : ∀ m, b_fm f ((List.range m).flatMap k) = b_cf c u g m
  | 0 => rfl
  | m + 1 => by
    rw [List.range_succ, List.flatMap_append, b_fm_app, b_flat e m]
    show b_cm _ (b_fm f ([m].flatMap k)) = _
    rw [List.flatMap_singleton, e m]; rfl
theorem b_cf_sp {c : Nat → Int} {u : Nat → Bool} {g : Nat → Bst} {v : Nat → Int} : ∀ {m : Nat}, (∀ i, i < m → u i = true → ∃ z, g i = some z ∧ z.1 = v i) → (∃ i, i < m ∧ u i = true) → ∃ i0 z0, i0 < m ∧ u i0 = true ∧ g i0 = some z0 ∧ b_cf c u g m = some (c i0 + z0.1, i0 :: z0.2) ∧ (∀ i, i < m → u i = true → c i + v i ≤ c i0 + v i0) ∧ ∀ i, i < i0 → u i = true → c i + v i < c i0 + v i0
  | 0, _, ⟨i, hi, _⟩ => absurd hi (by omega)
  | m + 1, hg, hex => by
    have en : ∀ k, (∀ i, i < k → u i = false) → b_cf c u g k = none := by
      intro k
      induction k with
      | zero => intro _; rfl
      | succ k ih =>
        intro h
        show b_cm (b_cf c u g k) (if u k = true then _ else none) = none
        rw [ih (fun i hi => h i (by omega)), if_neg (by rw [h k (by omega)]; decide)]; rfl
    show ∃ i0 z0, i0 < m + 1 ∧ u i0 = true ∧ g i0 = some z0 ∧ b_cm (b_cf c u g m) (if u m = true then (g m).map (fun z => (c m + z.1, m :: z.2)) else none) = some (c i0 + z0.1, i0 :: z0.2) ∧ _
    by_cases hm : ∃ i, i < m ∧ u i = true
    · obtain ⟨i0, z0, h1, h2, h3, h4, h5, h6⟩ := b_cf_sp (c := c) (m := m) (fun i hi => hg i (by omega)) hm
      obtain ⟨z0', e1, e2⟩ := hg i0 (by omega) h2
      have ez : z0' = z0 := by rw [h3] at e1; exact (Option.some.inj e1).symm
      subst ez
      cases hu : u m with
      | false =>
        refine ⟨i0, z0', by omega, h2, h3, ?_, fun i hi hui => ?_, h6⟩
        · rw [if_neg (by decide), b_cm_n]; exact h4
        · by_cases z : i = m
          · subst z; rw [hu] at hui; exact absurd hui (by decide)
          · exact h5 i (by omega) hui
      | true =>
        obtain ⟨zm, m1, m2⟩ := hg m (by omega) hu
        rw [if_pos rfl, h4, m1]
        show ∃ i0_1 z0_1, i0_1 < m + 1 ∧ u i0_1 = true ∧ g i0_1 = some z0_1 ∧ (if c m + zm.1 ≤ c i0 + z0'.1 then some (c i0 + z0'.1, i0 :: z0'.2) else some (c m + zm.1, m :: zm.2)) = some (c i0_1 + z0_1.1, i0_1 :: z0_1.2) ∧ _
        by_cases h : c m + zm.1 ≤ c i0 + z0'.1
        · refine ⟨i0, z0', by omega, h2, h3, by rw [if_pos h], fun i hi hui => ?_, h6⟩
          by_cases z : i = m
          · subst z; omega
          · exact h5 i (by omega) hui
        · refine ⟨m, zm, by omega, hu, m1, by rw [if_neg h], fun i hi hui => ?_, fun i hi hui => ?_⟩
          · by_cases z : i = m
            · subst z; omega
            · have := h5 i (by omega) hui; omega
          · have := h5 i hi hui; omega
    · have hall : ∀ i, i < m → u i = false := fun i hi => by
        cases hx : u i with
        | false => rfl
        | true => exact absurd ⟨i, hi, hx⟩ hm
      obtain ⟨i, hi, hui⟩ := hex
      have him : i = m := by
        apply Classical.byContradiction
        intro z
        exact hm ⟨i, by omega, hui⟩
      subst him
      obtain ⟨zm, m1, m2⟩ := hg i (by omega) hui
      refine ⟨i, zm, by omega, hui, m1, ?_, fun j hj huj => ?_, fun j hj huj => ?_⟩
      · rw [en i hall, if_pos hui, m1]; rfl
      · by_cases z : j = i
        · subst z; exact Int.le_refl _
        · rw [hall j (by omega)] at huj; exact absurd huj (by decide)
      · rw [hall j hj] at huj; exact absurd huj (by decide)
/-- the class's way: from far below -/
def b_mx (c v : Nat → Int) (u : Nat → Bool) (i : Nat) (a : Int) : Int := if u i = true then (if a < c i + v i then c i + v i else a) else a
theorem b_mx_sp {c v : Nat → Int} {u : Nat → Bool} : ∀ {m : Nat} {a : Int}, a ≤ fo (b_mx c v u) m a ∧ (∀ i, i < m → u i = true → c i + v i ≤ fo (b_mx c v u) m a) ∧ (fo (b_mx c v u) m a = a ∨ ∃ i, i < m ∧ u i = true ∧ fo (b_mx c v u) m a = c i + v i)
  | 0, a => ⟨Int.le_refl _, fun i hi => absurd hi (by omega), Or.inl rfl⟩
  | m + 1, a => by
    obtain ⟨h1, h2, h3⟩ := b_mx_sp (c := c) (v := v) (u := u) (m := m) (a := a)
    have e : fo (b_mx c v u) (m + 1) a = b_mx c v u m (fo (b_mx c v u) m a) := rfl
    rw [e]
    generalize fo (b_mx c v u) m a = F at h1 h2 h3 ⊢
    unfold b_mx
    cases hu : u m with
    | false =>
      rw [if_neg (by decide)]
      refine ⟨h1, fun i hi hui => ?_, ?_⟩
      · by_cases z : i = m
        · subst z; rw [hu] at hui; exact absurd hui (by decide)
        · exact h2 i (by omega) hui
      · rcases h3 with h | ⟨i, a1, a2, a3⟩
        · exact Or.inl h
        · exact Or.inr ⟨i, by omega, a2, a3⟩
    | true =>
      rw [if_pos rfl]
      by_cases h : F < c m + v m
      · rw [if_pos h]
        refine ⟨by omega, fun i hi hui => ?_, Or.inr ⟨m, by omega, hu, rfl⟩⟩
        by_cases z : i = m
        · subst z; exact Int.le_refl _
        · have := h2 i (by omega) hui; omega
      · rw [if_neg h]
        refine ⟨h1, fun i hi hui => ?_, ?_⟩
        · by_cases z : i = m
          · subst z; omega
          · exact h2 i (by omega) hui
        · rcases h3 with h | ⟨i, a1, a2, a3⟩
          · exact Or.inl h
          · exact Or.inr ⟨i, by omega, a2, a3⟩
section RO
variable {n : Nat} {T : Nat → Nat → Int}
def r_wt (T : Nat → Nat → Int) : Nat → Ro → Int
  | _, [] => 0
  | a, i :: l => T a i + r_wt T i l
def r_w0 (T : Nat → Nat → Int) : Ro → Int
  | [] => 0
  | i :: l => r_wt T i l
def r_un (n X : Nat) : Nat := cnt (fun i => !X.testBit i) n
/-- the most that can come behind a -/
def r_D (n : Nat) (T : Nat → Nat → Int) : Nat → Nat → Nat → Int
  | 0, _, _ => 0
  | f + 1, X, a => fo (b_mx (fun i => T a i) (fun i => r_D n T f (X ||| 2 ^ i) i) (fun i => !X.testBit i)) n (-1000000)
theorem or_bit {X i j : Nat} : (X ||| 2 ^ i).testBit j = (X.testBit j || decide (i = j)) := by rw [Nat.testBit_or, Nat.testBit_two_pow]
theorem r_un_or {X i : Nat} (hi : i < n) (h : X.testBit i = false) : r_un n (X ||| 2 ^ i) + 1 = r_un n X := by
  unfold r_un
  have e0 : cnt (fun j => !(X ||| 2 ^ i).testBit j) n = cnt (fun j => !X.testBit j && !decide (i = j)) n := cnt_eq (fun k _ => by rw [or_bit, Bool.not_or])
  have key : ∀ m, m ≤ n → cnt (fun j => !X.testBit j && !decide (i = j)) m + (if i < m then 1 else 0) = cnt (fun j => !X.testBit j) m := by
    intro m
    induction m with
    | zero => intro _; rfl
    | succ m ih =>
      intro hm
      have ih := ih (by omega)
      by_cases e : i = m
      · subst e
        rw [if_neg (by omega)] at ih
        rw [if_pos (by omega), cnt_f (P := fun j => !X.testBit j && !decide (i = j)) (by simp), cnt_t (P := fun j => !X.testBit j) (by rw [h]; rfl)]
        omega
      · have e1 : (!X.testBit m && !decide (i = m)) = (!X.testBit m) := by simp [e]
        have e2 : (if i < m + 1 then 1 else 0) = if i < m then 1 else 0 := by
          by_cases h2 : i < m
          · rw [if_pos h2, if_pos (by omega)]
          · rw [if_neg h2, if_neg (by omega)]
        rw [e2]
        cases hb : (!X.testBit m) with
        | true =>
          rw [cnt_t (P := fun j => !X.testBit j && !decide (i = j)) (by rw [e1, hb]), cnt_t (P := fun j => !X.testBit j) hb]
          omega
        | false =>
          rw [cnt_f (P := fun j => !X.testBit j && !decide (i = j)) (by rw [e1, hb]), cnt_f (P := fun j => !X.testBit j) hb]
          exact ih
  have := key n (Nat.le_refl _)
  rw [if_pos hi] at this
  rw [e0]; exact this
theorem r_un_ex {X : Nat} (h : 1 ≤ r_un n X) : ∃ i, i < n ∧ (!X.testBit i) = true := by
  apply Classical.byContradiction
  intro z
  have : ∀ m, m ≤ n → cnt (fun i => !X.testBit i) m = 0 := by
    intro m
    induction m with
    | zero => intro _; rfl
    | succ m ih =>
      intro hm
      have hx : (!X.testBit m) = false := by
        cases hb : (!X.testBit m) with
        | false => rfl
        | true => exact absurd ⟨m, by omega, hb⟩ z
      rw [cnt_f (P := fun i => !X.testBit i) hx]; exact ih (by omega)
  have := this n (Nat.le_refl _)
  unfold r_un at h
  omega
def r_G (n : Nat) (T : Nat → Nat → Int) (f X a : Nat) : Bst := b_fm (r_wt T a) (xt n f X)
theorem r_G_s {f X a : Nat} : r_G n T (f + 1) X a = b_cf (fun i => T a i) (fun i => !X.testBit i) (fun i => r_G n T f (X ||| 2 ^ i) i) n := by
  unfold r_G
  show b_fm (r_wt T a) ((List.range n).flatMap (fun i => if X.testBit i = true then [] else (xt n f (X ||| 2 ^ i)).map (fun l => i :: l))) = _
  refine b_flat (fun i => ?_) n
  by_cases hb : X.testBit i = true
  · rw [if_pos hb, if_neg (by rw [hb]; decide)]; rfl
  · rw [if_neg hb, if_pos (by rw [Bool.not_eq_true] at hb; rw [hb]; rfl)]
    exact b_fm_map (fun l => rfl)
/-- what the class reckons is the best, and the row goes on with the lowest that brings it -/
theorem r_best (hT : ∀ a i, -64 ≤ T a i ∧ T a i ≤ 64) : ∀ {f X a : Nat}, f ≤ r_un n X → f ≤ 7 → ∃ z, r_G n T f X a = some z ∧ z.1 = r_D n T f X a ∧ -(64 * (f : Int)) ≤ z.1 ∧ z.1 ≤ 64 * f := by
  intro f
  induction f with
  | zero => intro X a _ _; exact ⟨(0, []), rfl, rfl, by omega, by omega⟩
  | succ f ih =>
    intro X a hf h7
    have hsub : ∀ i, i < n → (!X.testBit i) = true → ∃ z, r_G n T f (X ||| 2 ^ i) i = some z ∧ z.1 = r_D n T f (X ||| 2 ^ i) i ∧ -(64 * (f : Int)) ≤ z.1 ∧ z.1 ≤ 64 * f := fun i hi hu => by
      have hb : X.testBit i = false := by simpa using hu
      have := r_un_or hi hb
      exact ih (by omega) (by omega)
    obtain ⟨i0, z0, h1, h2, h3, h4, h5, h6⟩ := b_cf_sp (c := fun i => T a i) (u := fun i => !X.testBit i) (g := fun i => r_G n T f (X ||| 2 ^ i) i) (v := fun i => r_D n T f (X ||| 2 ^ i) i) (m := n) (fun i hi hu => by obtain ⟨z, a1, a2, _⟩ := hsub i hi hu; exact ⟨z, a1, a2⟩) (r_un_ex (by omega))
    obtain ⟨z0', e1, e2, e3, e4⟩ := hsub i0 h1 h2
    have ez : z0' = z0 := by
      have h3 : r_G n T f (X ||| 2 ^ i0) i0 = some z0 := h3
      rw [h3] at e1; exact (Option.some.inj e1).symm
    subst ez
    have ht := hT a i0
    have hF : ((f + 1 : Nat) : Int) = (f : Int) + 1 := by omega
    refine ⟨_, r_G_s.trans h4, ?_, ?_, ?_⟩
    · show T a i0 + z0'.1 = fo (b_mx (fun i => T a i) (fun i => r_D n T f (X ||| 2 ^ i) i) (fun i => !X.testBit i)) n (-1000000)
      obtain ⟨m1, m2, m3⟩ := b_mx_sp (c := fun i => T a i) (v := fun i => r_D n T f (X ||| 2 ^ i) i) (u := fun i => !X.testBit i) (m := n) (a := -1000000)
      have l1 : T a i0 + r_D n T f (X ||| 2 ^ i0) i0 ≤ _ := m2 i0 h1 h2
      rcases m3 with h | ⟨i, a1, a2, a3⟩
      · have : (f : Int) ≤ 6 := by omega
        omega
      · have b1 : T a i + r_D n T f (X ||| 2 ^ i) i ≤ T a i0 + r_D n T f (X ||| 2 ^ i0) i0 := h5 i a1 a2
        have b2 : _ = T a i + r_D n T f (X ||| 2 ^ i) i := a3
        omega
    · show -(64 * ((f + 1 : Nat) : Int)) ≤ T a i0 + z0'.1
      omega
    · show T a i0 + z0'.1 ≤ 64 * ((f + 1 : Nat) : Int)
      omega
end RO
