/-! ROWS in the class: the most talk -/
section RP
variable {n : Nat} {T : Nat → Nat → Int}
/-- the row goes on with the lowest that brings the most -/
theorem r_best_s (hT : ∀ a i, -64 ≤ T a i ∧ T a i ≤ 64) {f X a : Nat} (hf : f + 1 ≤ r_un n X) (h7 : f + 1 ≤ 7) : ∃ i0 z0, i0 < n ∧ X.testBit i0 = false ∧ r_G n T f (X ||| 2 ^ i0) i0 = some z0 ∧ r_G n T (f + 1) X a = some (T a i0 + z0.1, i0 :: z0.2) ∧ T a i0 + r_D n T f (X ||| 2 ^ i0) i0 = r_D n T (f + 1) X a ∧ ∀ i, i < i0 → X.testBit i = false → ¬ T a i + r_D n T f (X ||| 2 ^ i) i = r_D n T (f + 1) X a := by
  have hsub : ∀ i, i < n → (!X.testBit i) = true → ∃ z, r_G n T f (X ||| 2 ^ i) i = some z ∧ z.1 = r_D n T f (X ||| 2 ^ i) i := fun i hi hu => by
    have hb : X.testBit i = false := by simpa using hu
    have := r_un_or hi hb
    obtain ⟨z, a1, a2, _⟩ := r_best hT (n := n) (f := f) (X := X ||| 2 ^ i) (a := i) (by omega) (by omega)
    exact ⟨z, a1, a2⟩
  obtain ⟨i0, z0, h1, h2, h3, h4, h5, h6⟩ := b_cf_sp (c := fun i => T a i) (u := fun i => !X.testBit i) (g := fun i => r_G n T f (X ||| 2 ^ i) i) (v := fun i => r_D n T f (X ||| 2 ^ i) i) (m := n) hsub (r_un_ex (by omega))
  have hG : r_G n T (f + 1) X a = some (T a i0 + z0.1, i0 :: z0.2) := r_G_s.trans h4
  obtain ⟨z, e1, e2, _⟩ := r_best hT (n := n) (f := f + 1) (X := X) (a := a) hf h7
  rw [hG] at e1
  obtain ⟨z', e3, e4⟩ := hsub i0 h1 h2
  have h3 : r_G n T f (X ||| 2 ^ i0) i0 = some z0 := h3
  rw [h3] at e3
  have ez : z0 = z' := Option.some.inj e3
  subst ez
  have eD : T a i0 + r_D n T f (X ||| 2 ^ i0) i0 = r_D n T (f + 1) X a := by
    rw [← e2, ← Option.some.inj e1, ← e4]
  refine ⟨i0, z0, h1, by simpa using h2, h3, hG, eD, fun i hi hb => ?_⟩
  have : T a i + r_D n T f (X ||| 2 ^ i) i < T a i0 + r_D n T f (X ||| 2 ^ i0) i0 := h6 i hi (by simp [hb])
  omega
theorem r_un_0 : ∀ n, r_un n 0 = n
  | 0 => rfl
  | n + 1 => by
    unfold r_un
    rw [cnt_t (P := fun i => !(0 : Nat).testBit i) (by simp)]
    have := r_un_0 n
    unfold r_un at this
    omega
theorem r_un_1 {i : Nat} (hi : i < n) : r_un n (2 ^ i) + 1 = n := by
  have := r_un_or (n := n) (X := 0) hi (by simp)
  rw [Nat.zero_or, r_un_0] at this
  exact this
/-- the first of the row -/
theorem r_top (hT : ∀ a i, -64 ≤ T a i ∧ T a i ≤ 64) {m : Nat} (hn : n = m + 1) (h7 : n ≤ 7) : ∃ i0 z0, i0 < n ∧ r_G n T m (2 ^ i0) i0 = some z0 ∧ b_fm (r_w0 T) (xt n n 0) = some (z0.1, i0 :: z0.2) ∧ z0.1 = r_D n T m (2 ^ i0) i0 ∧ -448 ≤ z0.1 ∧ z0.1 ≤ 448 ∧ (∀ i, i < n → r_D n T m (2 ^ i) i ≤ r_D n T m (2 ^ i0) i0) ∧ ∀ i, i < i0 → r_D n T m (2 ^ i) i < r_D n T m (2 ^ i0) i0 := by
  have hsub : ∀ i, i < n → (true = true) → ∃ z, r_G n T m (2 ^ i) i = some z ∧ z.1 = r_D n T m (2 ^ i) i := fun i hi _ => by
    have := r_un_1 hi
    obtain ⟨z, a1, a2, _⟩ := r_best hT (n := n) (f := m) (X := 2 ^ i) (a := i) (by omega) (by omega)
    exact ⟨z, a1, a2⟩
  obtain ⟨i0, z0, h1, h2, h3, h4, h5, h6⟩ := b_cf_sp (c := fun _ => 0) (u := fun _ => true) (g := fun i => r_G n T m (2 ^ i) i) (v := fun i => r_D n T m (2 ^ i) i) (m := n) hsub ⟨0, by omega, rfl⟩
  have h3 : r_G n T m (2 ^ i0) i0 = some z0 := h3
  have hG : b_fm (r_w0 T) (xt n n 0) = some (0 + z0.1, i0 :: z0.2) := by
    rw [← h4]
    have ex : xt n n 0 = (List.range n).flatMap (fun i => if (0 : Nat).testBit i = true then [] else (xt n m (0 ||| 2 ^ i)).map (fun l => i :: l)) := by
      have : xt n n 0 = xt n (m + 1) 0 := by rw [← hn]
      rw [this]; rfl
    rw [ex]
    refine b_flat (fun i => ?_) n
    rw [if_neg (by simp), if_pos rfl, Nat.zero_or]
    exact b_fm_map (fun l => by show r_wt T i l = 0 + r_wt T i l; omega)
  obtain ⟨z, e1, e2, e3, e4⟩ := r_best hT (n := n) (f := m) (X := 2 ^ i0) (a := i0) (by have := r_un_1 h1; omega) (by omega)
  rw [h3] at e1
  have ez : z0 = z := Option.some.inj e1
  subst ez
  have hm6 : (m : Int) ≤ 6 := by omega
  refine ⟨i0, z0, h1, h3, by rw [hG, Int.zero_add], e2, by omega, by omega, fun i hi => ?_, fun i hi => ?_⟩
  · have : 0 + r_D n T m (2 ^ i) i ≤ 0 + r_D n T m (2 ^ i0) i0 := h5 i hi rfl
    omega
  · have : 0 + r_D n T m (2 ^ i) i < 0 + r_D n T m (2 ^ i0) i0 := h6 i hi rfl
    omega
end RP
def tZ (P : Pp) (s a b : Nat) : Int := (tk P (mb s a) (mb s b)).toInt
theorem tZ_b (P : Pp) (s : Nat) : ∀ a i, -64 ≤ tZ P s a i ∧ tZ P s a i ≤ 64 := fun a i => by
  have := sm_tk P (mb s a) (mb s i)
  unfold sm at this
  unfold tZ
  exact ⟨by have := this.1; omega, this.2⟩
theorem pw7 {n : Nat} (h : n ≤ 7) : 2 ^ n ≤ 128 := (Nat.pow_le_pow_right (by decide) h : 2 ^ n ≤ 2 ^ 7)
theorem or_lt7 {n X i : Nat} (hX : X < 2 ^ n) (hi : i < n) : X ||| 2 ^ i < 2 ^ n := Nat.or_lt_two_pow hX (Nat.pow_lt_pow_right (by decide) hi)
theorem or_gt {X i : Nat} (h : X.testBit i = false) : X < X ||| 2 ^ i := by
  have e : X ||| 2 ^ i ≠ X := fun z => by
    have := congrArg (fun x => x.testBit i) z
    simp [or_bit, h] at this
  have : X ≤ X ||| 2 ^ i := Nat.left_le_or
  omega
theorem un_all {n X : Nat} (hX : X < 2 ^ n) (h : X ≠ 2 ^ n - 1) : 1 ≤ r_un n X := by
  apply Nat.pos_of_ne_zero
  intro z
  apply h
  apply Nat.eq_of_testBit_eq
  intro i
  rw [Nat.testBit_two_pow_sub_one]
  by_cases hi : i < n
  · have hz : ∀ m, m ≤ n → cnt (fun i => !X.testBit i) m = 0 → ∀ i, i < m → X.testBit i = true := by
      intro m
      induction m with
      | zero => intro _ _ i hi; omega
      | succ m ih =>
        intro hm hc i hi
        cases hb : (!X.testBit m) with
        | true => rw [cnt_t (P := fun i => !X.testBit i) hb] at hc; omega
        | false =>
          rw [cnt_f (P := fun i => !X.testBit i) hb] at hc
          by_cases e : i = m
          · subst e; simpa using hb
          · exact ih (by omega) hc i (by omega)
    rw [hz n (Nat.le_refl _) z i hi]; simp [hi]
  · rw [Nat.testBit_lt_two_pow (Nat.lt_of_lt_of_le hX (Nat.pow_le_pow_right (by decide) (by omega)))]; simp [hi]
theorem un_last {n : Nat} : r_un n (2 ^ n - 1) = 0 := by
  have hz : ∀ m, m ≤ n → cnt (fun i => !(2 ^ n - 1).testBit i) m = 0 := by
    intro m
    induction m with
    | zero => intro _; rfl
    | succ m ih =>
      intro hm
      have hb : (2 ^ n - 1).testBit m = true := by rw [Nat.testBit_two_pow_sub_one]; exact decide_eq_true (by omega)
      have := cnt_f (P := fun i => !(2 ^ n - 1).testBit i) (k := m) (by show (!(2 ^ n - 1).testBit m) = false; rw [hb]; rfl)
      rw [this]; exact ih (by omega)
  exact hz n (Nat.le_refl _)
theorem un_le {n X : Nat} : r_un n X ≤ n := cnt_le _ n
section RC
variable {L d : Nat} {M : pu_M} {P : Pp} {s : Nat}
theorem GA_9' {M' : pu_M} (hG : GA P s M) (o : only (fun k => k = 9) M M') : GA P s M' := by
  unfold GA
  rw [o 6 (by decide), o 7 (by decide), o 8 (by decide)]; exact hG
/-- the table holds the most for a set -/
def RD (P : Pp) (s : Nat) (M : pu_M) (X : Nat) : Prop := ∀ a, a < pc s → (M 9 (X * 7 + a)).toInt = r_D (pc s) (tZ P s) (r_un (pc s) X) X a
theorem rD_sm {X a : Nat} (hn : pc s ≤ 7) : -448 ≤ r_D (pc s) (tZ P s) (r_un (pc s) X) X a ∧ r_D (pc s) (tZ P s) (r_un (pc s) X) X a ≤ 448 := by
  have := un_le (n := pc s) (X := X)
  obtain ⟨z, a1, a2, a3, a4⟩ := r_best (tZ_b P s) (n := pc s) (f := r_un (pc s) X) (X := X) (a := a) (Nat.le_refl _) (by omega)
  have : ((r_un (pc s) X : Nat) : Int) ≤ 7 := by omega
  omega
theorem i_add {x y : Int32} (h1 : -1000 ≤ x.toInt) (h2 : x.toInt ≤ 1000) (h3 : -1000 ≤ y.toInt) (h4 : y.toInt ≤ 1000) : (x + y).toInt = x.toInt + y.toInt := by
  rw [Int32.toInt_add]; exact mq_bmod (by omega) (by omega)
theorem c_Co_addedBy {Q : Int32 → pu_M → Prop} {X a i : Nat} (hG : GA P s M) (hn : pc s ≤ 7) (hX : X < 2 ^ pc s) (ha : a < pc s) (hi : i < pc s) (hR : RD P s M (X ||| 2 ^ i)) (H : ∀ x : Int32, x.toInt = tZ P s a i + r_D (pc s) (tZ P s) (r_un (pc s) (X ||| 2 ^ i)) (X ||| 2 ^ i) i → Q x M) : pu_I L (d + 1) 13 [.ref 6, .int (nI X), .int (nI a), .int (nI i)] M Q := by
  have h2 := pw7 hn
  have hp := p2_lt (show i < 16 by omega)
  have hor := or_lt7 hX hi
  have hx := hR i hi
  have hs := rD_sm (P := P) (X := X ||| 2 ^ i) (a := i) hn
  have ht := tZ_b P s a i
  refine r_Company_addedBy ?_
  rw [nI_pow (by omega), nI_or (by omega) (by omega), n_10, n_7, pk_mul, pk_mul, nI_add, nI_add, nI_clamp (by omega), nI_clamp (by omega), hG.2.2 a i ha hi]
  refine ⟨inb_nI (by omega) (by decide), inb_nI (by omega) (by decide), H _ ?_⟩
  have e1 : (tk P (mb s a) (mb s i)).toInt = tZ P s a i := rfl
  rw [i_add (by omega) (by omega) (by omega) (by omega), hx, e1]
theorem c_Co_mostBehind {Q : Int32 → pu_M → Prop} {X a : Nat} (hG : GA P s M) (hn : pc s ≤ 7) (hX : X < 2 ^ pc s) (ha : a < pc s) (h1 : 1 ≤ r_un (pc s) X) (hR : ∀ i, i < pc s → X.testBit i = false → RD P s M (X ||| 2 ^ i)) (H : ∀ x : Int32, x.toInt = r_D (pc s) (tZ P s) (r_un (pc s) X) X a → Q x M) : pu_I L (d + 2) 12 [.ref 6, .int (nI X), .int (nI a)] M Q := by
  have h2 := pw7 hn
  obtain ⟨f, hf⟩ : ∃ f, r_un (pc s) X = f + 1 := ⟨r_un (pc s) X - 1, by omega⟩
  rw [hf] at H
  have key : ∀ (j i : Nat) (x : Int32), i + j = pc s → x.toInt = fo (b_mx (fun i => tZ P s a i) (fun i => r_D (pc s) (tZ P s) f (X ||| 2 ^ i) i) (fun i => !X.testBit i)) i (-1000000) → pu_R L (d + 2) 12 6 [.ref 6, .int (nI X), .int (nI a), .int x, .int (nI i)] [] M (pu_qI Q) := by
    intro j
    induction j with
    | zero =>
      intro i x hi hx
      obtain rfl : i = pc s := by omega
      refine r_Company_mostBehind_6 ?_
      rw [hG.1, if_pos (by rw [nI_leI (by omega) (by omega)]; omega)]
      exact H x hx
    | succ j ih =>
      intro i x hi hx
      refine r_Company_mostBehind_6 ?_
      rw [hG.1, if_neg (by rw [nI_leI (by omega) (by omega)]; omega), nI_bit (by omega) (by omega), nI_1]
      have es : fo (b_mx (fun i => tZ P s a i) (fun i => r_D (pc s) (tZ P s) f (X ||| 2 ^ i) i) (fun i => !X.testBit i)) (i + 1) (-1000000) = b_mx (fun i => tZ P s a i) (fun i => r_D (pc s) (tZ P s) f (X ||| 2 ^ i) i) (fun i => !X.testBit i) i (fo (b_mx (fun i => tZ P s a i) (fun i => r_D (pc s) (tZ P s) f (X ||| 2 ^ i) i) (fun i => !X.testBit i)) i (-1000000)) := rfl
      have ih := ih (i + 1)
      rw [es, ← hx] at ih
      unfold b_mx at ih
      cases hb : X.testBit i with
      | true =>
        rw [if_neg (by show ¬ (!X.testBit i) = true; rw [hb]; decide)] at ih
        rw [if_neg (by decide)]
        exact ih x (by omega) rfl
      | false =>
        rw [if_pos (by show (!X.testBit i) = true; rw [hb]; rfl)] at ih
        rw [if_pos (by decide)]
        have hu := r_un_or (n := pc s) (X := X) (i := i) (by omega) hb
        have eu : r_un (pc s) (X ||| 2 ^ i) = f := by omega
        refine c_Co_addedBy hG hn hX ha (by omega) (hR i (by omega) hb) (fun y hy => ?_)
        rw [eu] at hy
        have ih : ∀ x' : Int32, i + 1 + j = pc s → x'.toInt = (if x.toInt < tZ P s a i + r_D (pc s) (tZ P s) f (X ||| 2 ^ i) i then tZ P s a i + r_D (pc s) (tZ P s) f (X ||| 2 ^ i) i else x.toInt) → pu_R L (d + 2) 12 6 [.ref 6, .int (nI X), .int (nI a), .int x', .int (nI (i + 1))] [] M (pu_qI Q) := ih
        rw [← hy] at ih
        by_cases hlt : x < y
        · rw [if_pos hlt]
          refine ih y (by omega) ?_
          rw [if_pos (Int32.lt_iff_toInt_lt.mp hlt)]
        · rw [if_neg hlt]
          refine ih x (by omega) ?_
          rw [if_neg (fun z => hlt (Int32.lt_iff_toInt_lt.mpr z))]
  exact r_Company_mostBehind (key (pc s) 0 (-1000000) (by omega) rfl)
theorem c_Co_weighRows {Q : pu_M → Prop} (hG : GA P s M) (h1 : 2 ≤ pc s) (hn : pc s ≤ 7) (H : ∀ M', GA P s M' → (∀ X, 0 < X → X < 2 ^ pc s → RD P s M' X) → only coS M M' → Q M') : pu_V L (d + 3) 11 [.ref 6] M Q := by
  have h2 := pw7 hn
  have h20 : 4 ≤ 2 ^ pc s := (Nat.pow_le_pow_right (by decide) h1 : 2 ^ 2 ≤ 2 ^ pc s)
  have key : ∀ (X : Nat) (M' : pu_M) (v2 : Value), X < 2 ^ pc s → GA P s M' → (∀ Y, X < Y → Y < 2 ^ pc s → RD P s M' Y) → only coS M M' → pu_R L (d + 3) 11 5 [.ref 6, .int (nI X), v2] [] M' (pu_qV Q) := by
    intro X
    induction X with
    | zero =>
      intro M' v2 hX g a1 o
      refine r_Company_weighRows_5 ?_
      rw [if_pos (show nI 0 ≤ 0 by decide)]
      exact H M' g a1 o
    | succ X ih =>
      intro M' v2 hX g a1 o
      refine r_Company_weighRows_5 ?_
      rw [if_neg (by rw [n_0, nI_leI (by omega) (by decide)]; omega)]
      have inn : ∀ (j a : Nat) (M' : pu_M), a + j = pc s → GA P s M' → (∀ Y, X + 1 < Y → Y < 2 ^ pc s → RD P s M' Y) → (∀ b, b < a → (M' 9 ((X + 1) * 7 + b)).toInt = r_D (pc s) (tZ P s) (r_un (pc s) (X + 1)) (X + 1) b) → only coS M M' → pu_R L (d + 3) 11 11 [.ref 6, .int (nI (X + 1)), .int (nI a)] [] M' (pu_qV Q) := by
        intro j
        induction j with
        | zero =>
          intro a M' ha g a1 a2 o
          obtain rfl : a = pc s := by omega
          refine r_Company_weighRows_11 ?_
          rw [g.1, if_pos (by rw [nI_leI (by omega) (by omega)]; omega)]
          have em : nI (X + 1) + (-1) = nI X := by
            have := pk_sub (show 1 ≤ X + 1 by omega)
            rw [show X + 1 - 1 = X by omega] at this
            rw [← this, Int32.sub_eq_add_neg]; rfl
          rw [em]
          refine ih M' _ (by omega) g (fun Y h3 h4 => ?_) o
          by_cases e : Y = X + 1
          · subst e; exact a2
          · exact a1 Y (by omega) h4
        | succ j ih2 =>
          intro a M' ha g a1 a2 o
          refine r_Company_weighRows_11 ?_
          rw [g.1, if_neg (by rw [nI_leI (by omega) (by omega)]; omega)]
          refine c_Co_all g.1 (by omega) ?_
          -- the value is written
          have wr : ∀ x : Int32, x.toInt = r_D (pc s) (tZ P s) (r_un (pc s) (X + 1)) (X + 1) a → mq_inb (nI (X + 1) * 7 + nI a) 1024 = true ∧ pu_R L (d + 3) 11 11 [.ref 6, .int (nI (X + 1)), .int (nI a + 1)] [] (pu_wr M' 9 (nI (X + 1) * 7 + nI a).toNatClampNeg x) (pu_qV Q) := by
            intro x hx
            rw [n_7, pk_mul, nI_add, nI_clamp (by omega), nI_1]
            refine ⟨inb_nI (by omega) (by decide), ih2 (a + 1) _ (by omega) (GA_9 g) (fun Y h3 h4 b hb => ?_) (fun b hb => ?_) (o.wr (by unfold coS; omega))⟩
            · rw [pu_wr_self, upd_n (by omega)]; exact a1 Y h3 h4 b hb
            · rw [pu_wr_self]
              by_cases e : b = a
              · subst e; rw [upd_s]; exact hx
              · rw [upd_n (by omega)]; exact a2 b (by omega)
          by_cases hall : X + 1 = 2 ^ pc s - 1
          · rw [if_pos (by rw [hall])]
            refine wr 0 ?_
            rw [hall, un_last]; rfl
          · rw [if_neg (by rw [nI_eq (by omega) (by omega)]; exact hall)]
            refine c_Co_mostBehind g hn hX (by omega) (un_all hX hall) (fun i hi hb => a1 _ (or_gt hb) (or_lt7 hX hi)) (fun x hx => wr x hx)
      exact inn (pc s) 0 M' (by omega) g a1 (fun b hb => absurd hb (by omega)) o
  refine r_Company_weighRows (c_Co_all hG.1 (by omega) ?_)
  exact key (2 ^ pc s - 1) M _ (by omega) hG (fun Y h3 h4 => by omega) (only.rf _ _)
theorem c_Co_mostInRow {Q : Int32 → pu_M → Prop} {i0 : Nat} (hG : GA P s M) (h1 : 2 ≤ pc s) (hn : pc s ≤ 7) (hR : ∀ X, 0 < X → X < 2 ^ pc s → RD P s M X) (hi0 : i0 < pc s) (hmx : ∀ i, i < pc s → r_D (pc s) (tZ P s) (pc s - 1) (2 ^ i) i ≤ r_D (pc s) (tZ P s) (pc s - 1) (2 ^ i0) i0) (H : ∀ x : Int32, x.toInt = r_D (pc s) (tZ P s) (pc s - 1) (2 ^ i0) i0 → Q x M) : pu_I L (d + 1) 14 [.ref 6] M Q := by
  have h2 := pw7 hn
  have hb : ∀ i, i < pc s → (M 9 (2 ^ i * 7 + i)).toInt = r_D (pc s) (tZ P s) (pc s - 1) (2 ^ i) i := fun i hi => by
    have := hR (2 ^ i) (Nat.two_pow_pos i) (Nat.pow_lt_pow_right (by decide) hi) i hi
    rw [this, show r_un (pc s) (2 ^ i) = pc s - 1 by have := r_un_1 hi; omega]
  have key : ∀ (j i : Nat) (x : Int32), i + j = pc s → x.toInt = fo (b_mx (fun _ => 0) (fun i => r_D (pc s) (tZ P s) (pc s - 1) (2 ^ i) i) (fun _ => true)) i (-1000000) → pu_R L (d + 1) 14 5 [.ref 6, .int x, .int (nI i)] [] M (pu_qI Q) := by
    intro j
    induction j with
    | zero =>
      intro i x hi hx
      obtain rfl : i = pc s := by omega
      refine r_Company_mostInRow_5 ?_
      rw [hG.1, if_pos (by rw [nI_leI (by omega) (by omega)]; omega)]
      refine H x ?_
      rw [hx]
      obtain ⟨m1, m2, m3⟩ := b_mx_sp (c := fun _ => 0) (v := fun i => r_D (pc s) (tZ P s) (pc s - 1) (2 ^ i) i) (u := fun _ => true) (m := pc s) (a := -1000000)
      have l1 : 0 + r_D (pc s) (tZ P s) (pc s - 1) (2 ^ i0) i0 ≤ _ := m2 i0 hi0 rfl
      rcases m3 with h | ⟨i, a1, a2, a3⟩
      · have := rD_sm (P := P) (X := 2 ^ i0) (a := i0) hn
        rw [show r_un (pc s) (2 ^ i0) = pc s - 1 by have := r_un_1 hi0; omega] at this
        omega
      · have b1 := hmx i a1
        have b2 : _ = 0 + r_D (pc s) (tZ P s) (pc s - 1) (2 ^ i) i := a3
        omega
    | succ j ih =>
      intro i x hi hx
      refine r_Company_mostInRow_5 ?_
      have hp := p2_lt (show i < 16 by omega)
      have hp2 : 2 ^ i < 2 ^ pc s := Nat.pow_lt_pow_right (by decide) (by omega)
      rw [hG.1, if_neg (by rw [nI_leI (by omega) (by omega)]; omega), nI_pow (by omega), n_7, pk_mul, nI_add, nI_clamp (by omega), nI_1]
      refine ⟨inb_nI (by omega) (by decide), ?_⟩
      have es : fo (b_mx (fun _ => 0) (fun i => r_D (pc s) (tZ P s) (pc s - 1) (2 ^ i) i) (fun _ => true)) (i + 1) (-1000000) = b_mx (fun _ => 0) (fun i => r_D (pc s) (tZ P s) (pc s - 1) (2 ^ i) i) (fun _ => true) i (fo (b_mx (fun _ => 0) (fun i => r_D (pc s) (tZ P s) (pc s - 1) (2 ^ i) i) (fun _ => true)) i (-1000000)) := rfl
      have ih := ih (i + 1)
      rw [es, ← hx] at ih
      unfold b_mx at ih
      rw [if_pos rfl] at ih
      have ih : ∀ x' : Int32, i + 1 + j = pc s → x'.toInt = (if x.toInt < 0 + r_D (pc s) (tZ P s) (pc s - 1) (2 ^ i) i then 0 + r_D (pc s) (tZ P s) (pc s - 1) (2 ^ i) i else x.toInt) → pu_R L (d + 1) 14 5 [.ref 6, .int x', .int (nI (i + 1))] [] M (pu_qI Q) := ih
      rw [Int.zero_add, ← hb i (by omega)] at ih
      by_cases hlt : x < M 9 (2 ^ i * 7 + i)
      · rw [if_pos hlt]
        refine ih _ (by omega) ?_
        rw [if_pos (Int32.lt_iff_toInt_lt.mp hlt)]
      · rw [if_neg hlt]
        refine ih x (by omega) ?_
        rw [if_neg (fun z => hlt (Int32.lt_iff_toInt_lt.mpr z))]
  exact r_Company_mostInRow (key (pc s) 0 (-1000000) (by omega) rfl)
theorem c_Co_firstInRow {Q : Int32 → pu_M → Prop} {i0 : Nat} (hG : GA P s M) (h1 : 2 ≤ pc s) (hn : pc s ≤ 7) (hR : ∀ X, 0 < X → X < 2 ^ pc s → RD P s M X) (hi0 : i0 < pc s) (hmx : ∀ i, i < pc s → r_D (pc s) (tZ P s) (pc s - 1) (2 ^ i) i ≤ r_D (pc s) (tZ P s) (pc s - 1) (2 ^ i0) i0) (hlow : ∀ i, i < i0 → r_D (pc s) (tZ P s) (pc s - 1) (2 ^ i) i < r_D (pc s) (tZ P s) (pc s - 1) (2 ^ i0) i0) (H : Q (nI i0) M) : pu_I L (d + 2) 16 [.ref 6] M Q := by
  have h2 := pw7 hn
  have hb : ∀ i, i < pc s → (M 9 (2 ^ i * 7 + i)).toInt = r_D (pc s) (tZ P s) (pc s - 1) (2 ^ i) i := fun i hi => by
    have := hR (2 ^ i) (Nat.two_pow_pos i) (Nat.pow_lt_pow_right (by decide) hi) i hi
    rw [this, show r_un (pc s) (2 ^ i) = pc s - 1 by have := r_un_1 hi; omega]
  refine r_Company_firstInRow (c_Co_mostInRow hG h1 hn hR hi0 hmx (fun x hx => ?_))
  have key : ∀ (j i : Nat), i + j = i0 → pu_R L (d + 2) 16 7 [.ref 6, .int x, .int (nI i)] [] M (pu_qI Q) := by
    intro j
    induction j with
    | zero =>
      intro i hi
      obtain rfl : i = i0 := by omega
      refine r_Company_firstInRow_7 ?_
      have hp2 : 2 ^ i < 2 ^ pc s := Nat.pow_lt_pow_right (by decide) (by omega)
      rw [hG.1, if_neg (by rw [nI_leI (by omega) (by omega)]; omega), nI_pow (by omega), n_7, pk_mul, nI_add, nI_clamp (by omega)]
      refine ⟨inb_nI (by omega) (by decide), ?_⟩
      rw [if_pos (Int32.toInt_inj.mp (by rw [hb i hi0, hx]))]
      exact H
    | succ j ih =>
      intro i hi
      refine r_Company_firstInRow_7 ?_
      have hp2 : 2 ^ i < 2 ^ pc s := Nat.pow_lt_pow_right (by decide) (by omega)
      rw [hG.1, if_neg (by rw [nI_leI (by omega) (by omega)]; omega), nI_pow (by omega), n_7, pk_mul, nI_add, nI_clamp (by omega), nI_1]
      refine ⟨inb_nI (by omega) (by decide), ?_⟩
      rw [if_neg (fun z => by
        have := congrArg Int32.toInt z
        rw [hb i (by omega), hx] at this
        have := hlow i (by omega)
        omega)]
      exact ih (i + 1) (by omega)
  exact key i0 0 (by omega)
theorem c_Co_lowestBehind {Q : Int32 → pu_M → Prop} {X a i0 f : Nat} (hG : GA P s M) (hn : pc s ≤ 7) (h0 : 0 < X) (hX : X < 2 ^ pc s) (ha : a < pc s) (hf : r_un (pc s) X = f + 1) (hR : ∀ X, 0 < X → X < 2 ^ pc s → RD P s M X) (hi0 : i0 < pc s) (hu0 : X.testBit i0 = false) (he : tZ P s a i0 + r_D (pc s) (tZ P s) f (X ||| 2 ^ i0) i0 = r_D (pc s) (tZ P s) (f + 1) X a) (hlow : ∀ i, i < i0 → X.testBit i = false → ¬ tZ P s a i + r_D (pc s) (tZ P s) f (X ||| 2 ^ i) i = r_D (pc s) (tZ P s) (f + 1) X a) (H : Q (nI i0) M) : pu_I L (d + 2) 17 [.ref 6, .int (nI X), .int (nI a)] M Q := by
  have h2 := pw7 hn
  refine r_Company_lowestBehind ?_
  have hXa := hR X h0 hX a ha
  rw [hf] at hXa
  rw [n_7, pk_mul, nI_add, nI_clamp (by omega)]
  refine ⟨inb_nI (by omega) (by decide), ?_⟩
  have eu : ∀ i, i < pc s → X.testBit i = false → r_un (pc s) (X ||| 2 ^ i) = f := fun i hi hb => by
    have := r_un_or (n := pc s) (X := X) hi hb; omega
  have key : ∀ (j i : Nat), i + j = i0 → pu_R L (d + 2) 17 15 [.ref 6, .int (nI X), .int (nI a), .int (M 9 (X * 7 + a)), .int (nI i)] [] M (pu_qI Q) := by
    intro j
    induction j with
    | zero =>
      intro i hi
      obtain rfl : i = i0 := by omega
      refine r_Company_lowestBehind_15 ?_
      rw [hG.1, if_neg (by rw [nI_leI (by omega) (by omega)]; omega), nI_bit (by omega) (by omega), hu0, if_pos (by decide)]
      refine c_Co_addedBy hG hn hX ha hi0 (hR _ (Nat.lt_of_lt_of_le h0 Nat.left_le_or) (or_lt7 hX hi0)) (fun x hx => ?_)
      rw [eu i hi0 hu0, he] at hx
      rw [if_pos (Int32.toInt_inj.mp (by rw [hx, hXa]))]
      exact H
    | succ j ih =>
      intro i hi
      refine r_Company_lowestBehind_15 ?_
      rw [hG.1, if_neg (by rw [nI_leI (by omega) (by omega)]; omega), nI_bit (by omega) (by omega), nI_1]
      cases hb : X.testBit i with
      | true => rw [if_neg (by decide)]; exact ih (i + 1) (by omega)
      | false =>
        rw [if_pos (by decide)]
        refine c_Co_addedBy hG hn hX ha (by omega) (hR _ (Nat.lt_of_lt_of_le h0 Nat.left_le_or) (or_lt7 hX (by omega))) (fun x hx => ?_)
        rw [eu i (by omega) hb] at hx
        rw [if_neg (fun z => by
          have := congrArg Int32.toInt z
          rw [hx, hXa] at this
          exact hlow i (by omega) hb this)]
        exact ih (i + 1) (by omega)
  exact key i0 0 (by omega)
/-- who is at a place of the best row -/
theorem c_Co_atPlace {Q : Int32 → pu_M → Prop} {k : Nat} {z : Int × Ro} (hG : GA P s M) (h1 : 2 ≤ pc s) (hn : pc s ≤ 7) (hR : ∀ X, 0 < X → X < 2 ^ pc s → RD P s M X) (hk : k < pc s) (hz : b_fm (r_w0 (tZ P s)) (xt (pc s) (pc s) 0) = some z) (H : Q (nI (mb s (z.2.getD k 0))) M) : pu_I L (d + 3) 15 [.ref 6, .int (nI k)] M Q := by
  have h2 := pw7 hn
  obtain ⟨i0, z0, t1, t2, t3, t4, _, _, t5, t6⟩ := r_top (tZ_b P s) (n := pc s) (m := pc s - 1) (by omega) hn
  rw [t3] at hz
  have ez := Option.some.inj hz
  refine r_Company_atPlace (c_Co_firstInRow hG h1 hn hR t1 t5 t6 ?_)
  -- from place c on: a is there, the rest l behind him
  have key : ∀ (j c X a : Nat) (l : Ro) (w : Int), c + j = k → 0 < X → X < 2 ^ pc s → a < pc s → r_un (pc s) X + c + 1 = pc s → r_G (pc s) (tZ P s) (r_un (pc s) X) X a = some (w, l) → Q (nI (mb s ((a :: l).getD j 0))) M → pu_R L (d + 3) 15 12 [.ref 6, .int (nI k), .int (nI a), .int (nI X), .int (nI c)] [] M (pu_qI Q) := by
    intro j
    induction j with
    | zero =>
      intro c X a l w hc h0 hX ha hu hg HQ
      refine r_Company_atPlace_12 ?_
      rw [if_pos (by rw [nI_leI (by omega) (by omega)]; omega), nI_clamp (by omega), hG.2.1 a ha]
      exact ⟨inb_nI (by omega) (by decide), HQ⟩
    | succ j ih =>
      intro c X a l w hc h0 hX ha hu hg HQ
      refine r_Company_atPlace_12 ?_
      rw [if_neg (by rw [nI_leI (by omega) (by omega)]; omega), if_neg (by rw [n_7, nI_leI (by omega) (by omega)]; omega)]
      obtain ⟨f, hf⟩ : ∃ f, r_un (pc s) X = f + 1 := ⟨r_un (pc s) X - 1, by omega⟩
      obtain ⟨i1, z1, u1, u2, u3, u4, u5, u6⟩ := r_best_s (tZ_b P s) (n := pc s) (f := f) (X := X) (a := a) (by omega) (by omega)
      rw [hf, u4] at hg
      have el : i1 :: z1.2 = l := (Prod.mk.inj (Option.some.inj hg)).2
      refine c_Co_lowestBehind hG hn h0 hX ha hf hR u1 u2 u5 u6 ?_
      have hp := p2_lt (show i1 < 16 by omega)
      have eu : r_un (pc s) (X ||| 2 ^ i1) = f := by have := r_un_or (n := pc s) (X := X) u1 u2; omega
      rw [nI_pow (by omega), nI_or (by omega) (by omega), nI_1]
      refine ih (c + 1) (X ||| 2 ^ i1) i1 z1.2 z1.1 (by omega) (Nat.lt_of_lt_of_le h0 Nat.left_le_or) (or_lt7 hX u1) u1 (by omega) (by rw [eu, u3]) ?_
      rw [← el] at HQ
      exact HQ
  have hp := p2_lt (show i0 < 16 by omega)
  have hu := r_un_1 t1
  rw [nI_pow (by omega)]
  refine key k 0 (2 ^ i0) i0 z0.2 z0.1 (by omega) (Nat.two_pow_pos _) (Nat.pow_lt_pow_right (by decide) t1) t1 (by omega) ?_ ?_
  · rw [show r_un (pc s) (2 ^ i0) = pc s - 1 by omega, t2]
  · rw [← ez] at H; exact H
end RC
