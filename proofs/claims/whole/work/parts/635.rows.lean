/-! ROWS: the orders, one by one -/
theorem xt_s {n f X : Nat} {l : Ro} (h : l ∈ xt n (f + 1) X) : ∃ i l', i < n ∧ X.testBit i = false ∧ l = i :: l' ∧ l' ∈ xt n f (X ||| 2 ^ i) := by
  have h : l ∈ (List.range n).flatMap (fun i => if X.testBit i = true then [] else (xt n f (X ||| 2 ^ i)).map (fun l => i :: l)) := h
  rw [List.mem_flatMap] at h
  obtain ⟨i, hi, hl⟩ := h
  cases hb : X.testBit i with
  | true => rw [if_pos hb] at hl; cases hl
  | false =>
    rw [if_neg (by rw [hb]; decide), List.mem_map] at hl
    obtain ⟨l', h1, h2⟩ := hl
    exact ⟨i, l', List.mem_range.mp hi, hb, h2.symm, h1⟩
theorem xt_f1 {n : Nat} : ∀ {f X : Nat} {l : Ro}, l ∈ xt n f X → l.length = f ∧ (∀ k, k < f → l.getD k 0 < n ∧ X.testBit (l.getD k 0) = false) ∧ ∀ j k, j < f → k < f → l.getD j 0 = l.getD k 0 → j = k
  | 0, X, l, h => by
    have : l = [] := List.mem_singleton.mp h
    subst this
    exact ⟨rfl, fun k hk => absurd hk (by omega), fun j k hj => absurd hj (by omega)⟩
  | f + 1, X, l, h => by
    obtain ⟨i, l', h1, h2, rfl, h4⟩ := xt_s h
    obtain ⟨a1, a2, a3⟩ := xt_f1 h4
    have un : ∀ k, k < f → X.testBit (l'.getD k 0) = false ∧ l'.getD k 0 ≠ i := fun k hk => by
      have := (a2 k hk).2
      rw [or_bit, Bool.or_eq_false_iff] at this
      exact ⟨this.1, fun z => by have := of_decide_eq_false this.2; omega⟩
    refine ⟨by rw [List.length_cons, a1], fun k hk => ?_, fun j k hj hk e => ?_⟩
    · cases k with
      | zero => exact ⟨h1, h2⟩
      | succ k => exact ⟨(a2 k (by omega)).1, (un k (by omega)).1⟩
    · cases j with
      | zero =>
        cases k with
        | zero => rfl
        | succ k => exact absurd e.symm (un k (by omega)).2
      | succ j =>
        cases k with
        | zero => exact absurd e (un j (by omega)).2
        | succ k => rw [a3 j k (by omega) (by omega) e]
theorem xt_f3 {n : Nat} : ∀ {f X : Nat} {l : Ro}, l ∈ xt n f X → f = r_un n X → ∀ i, i < n → X.testBit i = false → ∃ k, k < f ∧ l.getD k 0 = i
  | 0, X, l, h, hf, i, hi, hb => by
    exfalso
    have := r_un_or (n := n) hi hb
    omega
  | f + 1, X, l, h, hf, j, hj, hbj => by
    obtain ⟨i, l', h1, h2, rfl, h4⟩ := xt_s h
    by_cases e : j = i
    · exact ⟨0, by omega, e.symm⟩
    · have hu := r_un_or (n := n) h1 h2
      obtain ⟨k, hk, ek⟩ := xt_f3 h4 (by omega) j hj (by rw [or_bit, hbj]; simp; omega)
      exact ⟨k + 1, by omega, ek⟩
/-! counting -/
def c_P (g : Ro → Bool) : List Ro → Nat
  | [] => 0
  | x :: xs => (if g x = true then 1 else 0) + c_P g xs
theorem c_P_app {g : Ro → Bool} : ∀ {xs ys : List Ro}, c_P g (xs ++ ys) = c_P g xs + c_P g ys
  | [], ys => by show c_P g ys = 0 + c_P g ys; omega
  | x :: xs, ys => by
    show (if g x = true then 1 else 0) + c_P g (xs ++ ys) = (if g x = true then 1 else 0) + c_P g xs + c_P g ys
    rw [c_P_app]; omega
theorem c_P_congr {g h : Ro → Bool} : ∀ {xs : List Ro}, (∀ x ∈ xs, g x = h x) → c_P g xs = c_P h xs
  | [], _ => rfl
  | x :: xs, e => by
    show (if g x = true then 1 else 0) + c_P g xs = (if h x = true then 1 else 0) + c_P h xs
    rw [e x List.mem_cons_self, c_P_congr (fun y hy => e y (List.mem_cons_of_mem _ hy))]
theorem c_P_map {g : Ro → Bool} {k : Ro → Ro} : ∀ {xs : List Ro}, c_P g (xs.map k) = c_P (fun l => g (k l)) xs
  | [] => rfl
  | x :: xs => by
    show (if g (k x) = true then 1 else 0) + c_P g (xs.map k) = (if g (k x) = true then 1 else 0) + c_P (fun l => g (k l)) xs
    rw [c_P_map]
theorem c_P_f : ∀ {xs : List Ro}, c_P (fun _ => false) xs = 0
  | [] => rfl
  | x :: xs => by
    show (if false = true then 1 else 0) + c_P (fun _ => false) xs = 0
    rw [c_P_f, if_neg (by decide)]
theorem c_P_flat {g : Ro → Bool} {k : Nat → List Ro} : ∀ m, c_P g ((List.range m).flatMap k) = fo (fun i acc => acc + c_P g (k i)) m 0
  | 0 => rfl
  | m + 1 => by
    rw [List.range_succ, List.flatMap_append, c_P_app, c_P_flat m, List.flatMap_singleton]; rfl
theorem c_P_fold {g : Ro → Bool} : ∀ {xs : List Ro} {c : Nat}, xs.foldl (fun c l => if g l = true then c + 1 else c) c = c + c_P g xs
  | [], c => rfl
  | x :: xs, c => by
    show xs.foldl (fun c l => if g l = true then c + 1 else c) (if g x = true then c + 1 else c) = c + ((if g x = true then 1 else 0) + c_P g xs)
    rw [c_P_fold]
    split <;> omega
def r_inc (st : Wst) : Nat → Nat → Ro → Bool
  | _, _, [] => true
  | X, a, i :: l => r_ok st X a i l.isEmpty && r_inc st (X ||| 2 ^ i) i l
def r_inc0 (st : Wst) : Ro → Bool
  | [] => true
  | i :: l => r_inc st (2 ^ i) i l
theorem xt_em {n f X : Nat} {l : Ro} (h : l ∈ xt n f X) : l.isEmpty = decide (f = 0) := by
  have := (xt_f1 h).1
  cases l with
  | nil => have : 0 = f := this; subst this; rfl
  | cons x l =>
    have : l.length + 1 = f := this
    show false = _
    rw [decide_eq_false (by omega)]
theorem r_cnt {n : Nat} {st : Wst} : ∀ {f X a : Nat}, c_P (r_inc st X a) (xt n f X) = r_Wy n st f X a
  | 0, X, a => rfl
  | f + 1, X, a => by
    show c_P (r_inc st X a) ((List.range n).flatMap (fun i => if X.testBit i = true then [] else (xt n f (X ||| 2 ^ i)).map (fun l => i :: l))) = fo (fun i acc => if (!X.testBit i && r_ok st X a i (decide (f = 0))) = true then acc + r_Wy n st f (X ||| 2 ^ i) i else acc) n 0
    rw [c_P_flat]
    refine fo_congr (fun i _ acc => ?_) 0
    cases hb : X.testBit i with
    | true => rw [if_pos rfl, if_neg (by simp)]; rfl
    | false =>
      rw [if_neg (by decide), c_P_map]
      have e1 : c_P (fun l => r_inc st X a (i :: l)) (xt n f (X ||| 2 ^ i)) = c_P (fun l => r_ok st X a i (decide (f = 0)) && r_inc st (X ||| 2 ^ i) i l) (xt n f (X ||| 2 ^ i)) := c_P_congr (fun l hl => by
        show (r_ok st X a i l.isEmpty && r_inc st (X ||| 2 ^ i) i l) = _
        rw [xt_em hl])
      rw [e1]
      cases hk : r_ok st X a i (decide (f = 0)) with
      | true =>
        rw [if_pos (by decide)]
        have e2 : c_P (fun l => true && r_inc st (X ||| 2 ^ i) i l) (xt n f (X ||| 2 ^ i)) = c_P (r_inc st (X ||| 2 ^ i) i) (xt n f (X ||| 2 ^ i)) := c_P_congr (fun l _ => by rw [Bool.true_and])
        rw [e2, r_cnt]
      | false =>
        rw [if_neg (by decide)]
        have e2 : c_P (fun l => false && r_inc st (X ||| 2 ^ i) i l) (xt n f (X ||| 2 ^ i)) = 0 := by
          rw [← c_P_f (xs := xt n f (X ||| 2 ^ i))]
          exact c_P_congr (fun l _ => Bool.false_and _)
        rw [e2, Nat.add_zero]
theorem r_cnt0 {n m : Nat} {st : Wst} (hn : n = m + 1) : c_P (r_inc0 st) (xt n n 0) = fo (fun i acc => acc + r_Wy n st (n - 1) (2 ^ i) i) n 0 := by
  have ex : xt n n 0 = (List.range n).flatMap (fun i => if (0 : Nat).testBit i = true then [] else (xt n m (0 ||| 2 ^ i)).map (fun l => i :: l)) := by
    have : xt n n 0 = xt n (m + 1) 0 := by rw [← hn]
    rw [this]; rfl
  rw [ex, c_P_flat]
  refine fo_congr (fun i _ acc => ?_) 0
  rw [if_neg (by simp), c_P_map, Nat.zero_or, show n - 1 = m by omega]
  have : c_P (fun l => r_inc0 st (i :: l)) (xt n m (2 ^ i)) = c_P (r_inc st (2 ^ i) i) (xt n m (2 ^ i)) := rfl
  rw [this, r_cnt]
/-! what the wishes leave -/
def r_tw (s : Nat) (x : Wi) : Option (Nat × Nat) := match r_ix s x.1 with
  | none => none
  | some a => match x.2.2 with
    | none => none
    | some q => match r_ix s q with
      | none => none
      | some b => some (a, b)
theorem w_two_bit {N : Nat → Nat} {a b c e : Nat} : (w_two N a b c).testBit e = true ↔ (N c).testBit e = true ∨ (c = a ∧ e = b) ∨ (c = b ∧ e = a) := by
  have h1 : ∀ c, (fset N a (N a ||| 2 ^ b) c).testBit e = true ↔ (N c).testBit e = true ∨ (c = a ∧ e = b) := fun c => by
    by_cases z : c = a
    · subst z
      rw [fset_s, or_bit, Bool.or_eq_true, decide_eq_true_eq]
      exact ⟨fun h => h.elim Or.inl (fun h => Or.inr ⟨rfl, h.symm⟩), fun h => h.elim Or.inl (fun h => Or.inr h.2.symm)⟩
    · rw [fset_n z]
      exact ⟨Or.inl, fun h => h.elim id (fun h => absurd h.1 z)⟩
  unfold w_two
  by_cases z : c = b
  · subst z
    rw [fset_s, or_bit, Bool.or_eq_true, decide_eq_true_eq, h1]
    constructor
    · intro h
      rcases h with (h | h) | h
      · exact Or.inl h
      · exact Or.inr (Or.inl h)
      · exact Or.inr (Or.inr ⟨rfl, h.symm⟩)
    · intro h
      rcases h with h | h | h
      · exact Or.inl (Or.inl h)
      · exact Or.inl (Or.inr h)
      · exact Or.inr h.2.symm
  · rw [fset_n z, h1]
    constructor
    · intro h
      rcases h with h | h
      · exact Or.inl h
      · exact Or.inr (Or.inl h)
    · intro h
      rcases h with h | h | h
      · exact Or.inl h
      · exact Or.inr h
      · exact absurd h.1 z
section ST
variable {s : Nat} {ws : Nat → Wi}
theorem st_near : ∀ {m : Nat}, WI ws m → ∀ a b, ((w_st s ws m).1 a).testBit b = true ↔ ∃ i, i < m ∧ (ws i).2.1 = 43 ∧ (r_tw s (ws i) = some (a, b) ∨ r_tw s (ws i) = some (b, a))
  | 0, _, a, b => ⟨fun h => by have h : (0 : Nat).testBit b = true := h; simp at h, fun ⟨i, hi, _⟩ => absurd hi (by omega)⟩
  | m + 1, hW, a, b => by
    have ih := st_near (m := m) ⟨by have := hW.1; omega, fun i hi => hW.2 i (by omega)⟩ a b
    have es : w_st s ws (m + 1) = w_tk s (ws m) (w_st s ws m) := rfl
    rw [es]
    generalize w_st s ws m = st at ih
    have old : ((st.1 a).testBit b = true → ∃ i, i < m + 1 ∧ (ws i).2.1 = 43 ∧ (r_tw s (ws i) = some (a, b) ∨ r_tw s (ws i) = some (b, a))) := fun h => by
      obtain ⟨i, h1, h2⟩ := ih.mp h
      exact ⟨i, by omega, h2⟩
    have same : (w_tk s (ws m) st).1 = st.1 → ¬ ((ws m).2.1 = 43 ∧ (r_tw s (ws m) = some (a, b) ∨ r_tw s (ws m) = some (b, a))) → (((w_tk s (ws m) st).1 a).testBit b = true ↔ ∃ i, i < m + 1 ∧ (ws i).2.1 = 43 ∧ (r_tw s (ws i) = some (a, b) ∨ r_tw s (ws i) = some (b, a))) := by
      intro e1 e2
      rw [e1]
      refine ⟨old, fun ⟨i, h1, h2⟩ => ?_⟩
      by_cases z : i = m
      · subst z; exact absurd h2 e2
      · exact ih.mpr ⟨i, by omega, h2⟩
    cases ha : r_ix s (ws m).1 with
    | none => exact same (by rw [w_tk_0 ha]) (fun z => by unfold r_tw at z; rw [ha] at z; rcases z.2 with z | z <;> cases z)
    | some a' =>
      cases hq : (ws m).2.2 with
      | none =>
        refine same ?_ (fun z => by unfold r_tw at z; rw [ha, hq] at z; rcases z.2 with z | z <;> cases z)
        rw [w_tk_1 ha hq]; split <;> rfl
      | some q =>
        cases hb : r_ix s q with
        | none => exact same (by rw [w_tk_n ha hq hb]) (fun z => by unfold r_tw at z; rw [ha, hq] at z; dsimp only at z; rw [hb] at z; rcases z.2 with z | z <;> cases z)
        | some b' =>
          have et : r_tw s (ws m) = some (a', b') := by unfold r_tw; rw [ha, hq]; dsimp only; rw [hb]
          by_cases h43 : (ws m).2.1 = 43
          · rw [w_tk_2 ha hq hb, if_pos h43]
            show (w_two st.1 a' b' a).testBit b = true ↔ _
            rw [w_two_bit]
            constructor
            · intro h
              rcases h with h | ⟨rfl, rfl⟩ | ⟨rfl, rfl⟩
              · exact old h
              · exact ⟨m, by omega, h43, Or.inl et⟩
              · exact ⟨m, by omega, h43, Or.inr et⟩
            · intro ⟨i, h1, h2, h3⟩
              by_cases z : i = m
              · subst z
                rw [et] at h3
                rcases h3 with h3 | h3
                · cases h3; exact Or.inr (Or.inl ⟨rfl, rfl⟩)
                · cases h3; exact Or.inr (Or.inr ⟨rfl, rfl⟩)
              · exact Or.inl (ih.mpr ⟨i, by omega, h2, h3⟩)
          · exact same (by rw [w_tk_2 ha hq hb, if_neg h43]) (fun z => h43 z.1)
theorem st_apart : ∀ {m : Nat}, WI ws m → ∀ a b, ((w_st s ws m).2.1 a).testBit b = true ↔ ∃ i, i < m ∧ (ws i).2.1 = 45 ∧ (r_tw s (ws i) = some (a, b) ∨ r_tw s (ws i) = some (b, a))
  | 0, _, a, b => ⟨fun h => by have h : (0 : Nat).testBit b = true := h; simp at h, fun ⟨i, hi, _⟩ => absurd hi (by omega)⟩
  | m + 1, hW, a, b => by
    have ih := st_apart (m := m) ⟨by have := hW.1; omega, fun i hi => hW.2 i (by omega)⟩ a b
    have hx := hW.2 m (by omega)
    have es : w_st s ws (m + 1) = w_tk s (ws m) (w_st s ws m) := rfl
    rw [es]
    generalize w_st s ws m = st at ih
    have old : ((st.2.1 a).testBit b = true → ∃ i, i < m + 1 ∧ (ws i).2.1 = 45 ∧ (r_tw s (ws i) = some (a, b) ∨ r_tw s (ws i) = some (b, a))) := fun h => by
      obtain ⟨i, h1, h2⟩ := ih.mp h
      exact ⟨i, by omega, h2⟩
    have same : (w_tk s (ws m) st).2.1 = st.2.1 → ¬ ((ws m).2.1 = 45 ∧ (r_tw s (ws m) = some (a, b) ∨ r_tw s (ws m) = some (b, a))) → (((w_tk s (ws m) st).2.1 a).testBit b = true ↔ ∃ i, i < m + 1 ∧ (ws i).2.1 = 45 ∧ (r_tw s (ws i) = some (a, b) ∨ r_tw s (ws i) = some (b, a))) := by
      intro e1 e2
      rw [e1]
      refine ⟨old, fun ⟨i, h1, h2⟩ => ?_⟩
      by_cases z : i = m
      · subst z; exact absurd h2 e2
      · exact ih.mpr ⟨i, by omega, h2⟩
    cases ha : r_ix s (ws m).1 with
    | none => exact same (by rw [w_tk_0 ha]) (fun z => by unfold r_tw at z; rw [ha] at z; rcases z.2 with z | z <;> cases z)
    | some a' =>
      cases hq : (ws m).2.2 with
      | none =>
        refine same ?_ (fun z => by unfold r_tw at z; rw [ha, hq] at z; rcases z.2 with z | z <;> cases z)
        rw [w_tk_1 ha hq]; split <;> rfl
      | some q =>
        cases hb : r_ix s q with
        | none => exact same (by rw [w_tk_n ha hq hb]) (fun z => by unfold r_tw at z; rw [ha, hq] at z; dsimp only at z; rw [hb] at z; rcases z.2 with z | z <;> cases z)
        | some b' =>
          have et : r_tw s (ws m) = some (a', b') := by unfold r_tw; rw [ha, hq]; dsimp only; rw [hb]
          by_cases h43 : (ws m).2.1 = 43
          · exact same (by rw [w_tk_2 ha hq hb, if_pos h43]) (fun z => by omega)
          · have h45 : (ws m).2.1 = 45 := by
              rcases hx.2 with ⟨hs, _⟩ | ⟨_, hn⟩
              · omega
              · rw [hq] at hn; cases hn
            rw [w_tk_2 ha hq hb, if_neg h43]
            show (w_two st.2.1 a' b' a).testBit b = true ↔ _
            rw [w_two_bit]
            constructor
            · intro h
              rcases h with h | ⟨rfl, rfl⟩ | ⟨rfl, rfl⟩
              · exact old h
              · exact ⟨m, by omega, h45, Or.inl et⟩
              · exact ⟨m, by omega, h45, Or.inr et⟩
            · intro ⟨i, h1, h2, h3⟩
              by_cases z : i = m
              · subst z
                rw [et] at h3
                rcases h3 with h3 | h3
                · cases h3; exact Or.inr (Or.inl ⟨rfl, rfl⟩)
                · cases h3; exact Or.inr (Or.inr ⟨rfl, rfl⟩)
              · exact Or.inl (ih.mpr ⟨i, by omega, h2, h3⟩)
theorem st_ends : ∀ {m : Nat}, WI ws m → (∀ a, (w_st s ws m).2.2.1.testBit a = true ↔ ∃ i, i < m ∧ (ws i).2.1 = 35 ∧ r_ix s (ws i).1 = some a) ∧ ((w_st s ws m).2.2.2 = true ↔ ∃ i, i < m ∧ (ws i).2.1 = 46 ∧ ∃ a, r_ix s (ws i).1 = some a)
  | 0, _ => ⟨fun a => ⟨fun h => by have h : (0 : Nat).testBit a = true := h; simp at h, fun ⟨i, hi, _⟩ => absurd hi (by omega)⟩, ⟨fun h => absurd (show false = true from h) (by decide), fun ⟨i, hi, _⟩ => absurd hi (by omega)⟩⟩
  | m + 1, hW => by
    obtain ⟨ih1, ih2⟩ := st_ends (m := m) ⟨by have := hW.1; omega, fun i hi => hW.2 i (by omega)⟩
    have hx := hW.2 m (by omega)
    have es : w_st s ws (m + 1) = w_tk s (ws m) (w_st s ws m) := rfl
    rw [es]
    generalize w_st s ws m = st at ih1 ih2
    have same : (w_tk s (ws m) st).2.2 = st.2.2 → (∀ a, ¬ (((ws m).2.1 = 35 ∨ (ws m).2.1 = 46) ∧ r_ix s (ws m).1 = some a)) → (∀ a, (w_tk s (ws m) st).2.2.1.testBit a = true ↔ ∃ i, i < m + 1 ∧ (ws i).2.1 = 35 ∧ r_ix s (ws i).1 = some a) ∧ ((w_tk s (ws m) st).2.2.2 = true ↔ ∃ i, i < m + 1 ∧ (ws i).2.1 = 46 ∧ ∃ a, r_ix s (ws i).1 = some a) := by
      intro e1 e2
      rw [e1]
      refine ⟨fun a => ⟨fun h => ?_, fun ⟨i, h1, h2, h3⟩ => ?_⟩, ⟨fun h => ?_, fun ⟨i, h1, h2, a, h3⟩ => ?_⟩⟩
      · obtain ⟨i, h1, h2⟩ := (ih1 a).mp h
        exact ⟨i, by omega, h2⟩
      · by_cases z : i = m
        · subst z; exact absurd ⟨Or.inl h2, h3⟩ (e2 a)
        · exact (ih1 a).mpr ⟨i, by omega, h2, h3⟩
      · obtain ⟨i, h1, h2⟩ := ih2.mp h
        exact ⟨i, by omega, h2⟩
      · by_cases z : i = m
        · subst z; exact absurd ⟨Or.inr h2, h3⟩ (e2 a)
        · exact ih2.mpr ⟨i, by omega, h2, a, h3⟩
    cases ha : r_ix s (ws m).1 with
    | none => exact same (by rw [w_tk_0 ha]) (fun a z => by rw [ha] at z; cases z.2)
    | some a' =>
      rcases hx.2 with ⟨hs, q, hq, _, _⟩ | ⟨hs, hn⟩
      · refine same ?_ (fun a z => by omega)
        cases hb : r_ix s q with
        | none => rw [w_tk_n ha hq hb]
        | some b' => rw [w_tk_2 ha hq hb]; split <;> rfl
      · rw [w_tk_1 ha hn]
        by_cases h35 : (ws m).2.1 = 35
        · rw [if_pos h35]
          refine ⟨fun a => ?_, ?_⟩
          · show (st.2.2.1 ||| 2 ^ a').testBit a = true ↔ _
            rw [or_bit, Bool.or_eq_true, decide_eq_true_eq]
            refine ⟨fun h => ?_, fun ⟨i, h1, h2, h3⟩ => ?_⟩
            · rcases h with h | h
              · obtain ⟨i, h1, h2⟩ := (ih1 a).mp h
                exact ⟨i, by omega, h2⟩
              · exact ⟨m, by omega, h35, by rw [ha, h]⟩
            · by_cases z : i = m
              · subst z; rw [ha] at h3; exact Or.inr (Option.some.inj h3)
              · exact Or.inl ((ih1 a).mpr ⟨i, by omega, h2, h3⟩)
          · show st.2.2.2 = true ↔ _
            refine ⟨fun h => ?_, fun ⟨i, h1, h2, a, h3⟩ => ?_⟩
            · obtain ⟨i, h1, h2⟩ := ih2.mp h
              exact ⟨i, by omega, h2⟩
            · by_cases z : i = m
              · subst z; omega
              · exact ih2.mpr ⟨i, by omega, h2, a, h3⟩
        · rw [if_neg h35]
          have h46 : (ws m).2.1 = 46 := by omega
          refine ⟨fun a => ?_, ?_⟩
          · show st.2.2.1.testBit a = true ↔ _
            refine ⟨fun h => ?_, fun ⟨i, h1, h2, h3⟩ => ?_⟩
            · obtain ⟨i, h1, h2⟩ := (ih1 a).mp h
              exact ⟨i, by omega, h2⟩
            · by_cases z : i = m
              · subst z; omega
              · exact (ih1 a).mpr ⟨i, by omega, h2, h3⟩
          · exact ⟨fun _ => ⟨m, by omega, h46, a', ha⟩, fun _ => rfl⟩
end ST
