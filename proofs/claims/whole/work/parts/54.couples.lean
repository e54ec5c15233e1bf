/-! couples: the contracts -/
def tN (P : Pp) (s a b : Nat) : Nat := (tk P (mb s a) (mb s b)).toNatClampNeg
theorem clampI (x : Int32) : x.toNatClampNeg = x.toInt.toNat := rfl
theorem tk_comm (P : Pp) (p q : Nat) : tk P p q = tk P q p := by unfold tk; rw [Nat.and_comm, Nat.xor_comm]
theorem tN_comm (P : Pp) (s a b : Nat) : tN P s a b = tN P s b a := by unfold tN; rw [tk_comm]
theorem tN_le (P : Pp) (s a b : Nat) : tN P s a b ≤ 64 := by
  have h := sm_tk P (mb s a) (mb s b)
  unfold tN; rw [clampI]
  have := h.2
  omega
theorem tN_pos (P : Pp) (s a b : Nat) : (0 < tk P (mb s a) (mb s b)) ↔ 0 < tN P s a b := by
  unfold tN; rw [clampI, Int32.lt_iff_toInt_lt]
  have e3 : (0 : Int32).toInt = 0 := rfl
  omega
theorem tN_val {P : Pp} {s a b : Nat} (h : 0 < tN P s a b) : tk P (mb s a) (mb s b) = nI (tN P s a b) := by
  have hl := tN_le P s a b
  apply Int32.toInt_inj.mp
  rw [nI_toInt (by omega)]
  unfold tN at h ⊢
  rw [clampI] at h ⊢
  omega
theorem W_zero (t : Nat → Nat → Nat) (n : Nat) : Wc t n 0 = 0 := by
  rcases W_p2 (t := t) (n := n) (show 0 < 2 ^ 31 by decide) with h | ⟨a, b, _, _, h3, _⟩
  · exact h
  · simp at h3
theorem W_top {t : Nat → Nat → Nat} {n X : Nat} (tb : ∀ a b, t a b ≤ 64) (hX : X < 1024) : Wc t n X < 100000 := by
  have := W_bd (n := n) tb X X (Nat.le_refl _) (by omega)
  omega
theorem pw10 {n : Nat} (h : n ≤ 10) : 2 ^ n ≤ 1024 := (Nat.pow_le_pow_right (by decide) h : 2 ^ n ≤ 2 ^ 10)
theorem pJ_n : pJ none = -1 := rfl
theorem nI_all {n : Nat} (h : n ≤ 10) : ((1 : Int32) <<< (nI n &&& 31)) - 1 = nI (2 ^ n - 1) := by
  rw [nI_pow (by omega), n_1, pk_sub (Nat.two_pow_pos n)]
theorem nI_cl {X a : Nat} (hX : X < 65536) (ha : a < 16) : nI X &&& (((1 : Int32) <<< (nI a &&& 31)) ^^^ (-1)) = nI (cl X a) := by
  have h2 := p2_lt ha
  rw [nI_pow (by omega), nI_andn (by omega) (by omega)]; rfl
/-- the lowest of a set, by those that are below n -/
theorem fnd_at {R : Nat → Bool} {p : Nat} : ∀ {j k : Nat}, k ≤ p → p < k + j → R p = true → (∀ i, k ≤ i → i < p → R i = false) → fnd R j k = some p
  | 0, k, h1, h2, _, _ => absurd h2 (by omega)
  | j + 1, k, h1, h2, h3, h4 => by
    by_cases e : k = p
    · subst e; exact fnd_t h3
    · rw [fnd_f (h4 k (Nat.le_refl _) (by omega))]
      exact fnd_at (by omega) (by omega) h3 (fun i hi => h4 i (by omega))
/-- with whom one is: by the lowest one with the lowest other -/
def cot (t : Nat → Nat → Nat) (n X a b : Nat) : Bool := (cl X a).testBit b && decide (0 < t a b) && decide (t a b + Wc t n (cl (cl X a) b) = Wc t n X)
def coo (t : Nat → Nat → Nat) (n X a : Nat) : Option Nat := fnd (cot t n X a) (n - a - 1) (a + 1)
def cow (t : Nat → Nat → Nat) (n : Nat) (k : Nat → Bool) : Nat → Nat → Nat → Option Nat
  | 0, _, _ => none
  | j + 1, a, X => if X.testBit a = true then (if k a = true then coo t n X a else match coo t n X a with
    | none => cow t n k j (a + 1) (cl X a)
    | some b => if k b = true then some a else cow t n k j (a + 1) (cl (cl X a) b)) else cow t n k j (a + 1) X
theorem coo_lt {t : Nat → Nat → Nat} {n X a b : Nat} (hX : X < 2 ^ 31) (h : coo t n X a = some b) : a < b ∧ b < n ∧ X.testBit b = true := by
  obtain ⟨h1, h2, h3, _⟩ := fnd_some h
  unfold cot at h3
  rw [Bool.and_eq_true, Bool.and_eq_true, cl_bit hX, Bool.and_eq_true] at h3
  exact ⟨by omega, by omega, h3.1.1.1⟩
def okCo (v w : Int32) : Prop := ¬ (v < 0 ∨ 65535 < v) ∧ (2 ≤ pc v.toNatClampNeg ∧ pc v.toNatClampNeg ≤ 10) ∧ (¬ (w < 0 ∨ 15 < w) ∨ w = 100)
def amCo (P : Pp) (v w : Int32) : Prop := an v.toNatClampNeg (bs (tl P) 16) = 0 ∧ (w = 100 ∨ v.toNatClampNeg.testBit w.toNatClampNeg = true)
def v_couples (P : Pp) (s : Nat) (w : Int32) : Int32 := if w = 100 then nI (Wc (tN P s) (pc s) (2 ^ pc s - 1)) else pI ((cow (tN P s) (pc s) (fun i => mb s i == w.toNatClampNeg) (pc s) 0 (2 ^ pc s - 1)).map (mb s))
section CO
variable {L d : Nat} {M : pu_M} {P : Pp} {y s : Nat}
theorem c_Co_all {Q : Int32 → pu_M → Prop} {n : Nat} (h : M 6 8 = nI n) (hn : n ≤ 10) (H : Q (nI (2 ^ n - 1)) M) : pu_I L (d + 1) 9 [.ref 6] M Q := by
  refine r_Company_all ?_
  rw [h, nI_all hn]; exact H
theorem c_Co_numberOf {Q : Int32 → pu_M → Prop} {v : Int32} (hG : GA P s M) (hn : pc s ≤ 10) (H : Q (pJ (fnd (fun i => decide (nI (mb s i) = v)) (pc s) 0)) M) : pu_I L (d + 1) 10 [.ref 6, .int v] M Q := by
  have key : ∀ j k, k + j = pc s → Q (pJ (fnd (fun i => decide (nI (mb s i) = v)) j k)) M → pu_R L (d + 1) 10 2 [.ref 6, .int v, .int (nI k)] [] M (pu_qI Q) := by
    intro j
    induction j with
    | zero =>
      intro k hk h
      refine r_Company_numberOf_2 ?_
      rw [hG.1, if_pos (by rw [nI_leI (by omega) (by omega)]; omega)]; exact h
    | succ j ih =>
      intro k hk h
      refine r_Company_numberOf_2 ?_
      rw [hG.1, if_neg (by rw [nI_leI (by omega) (by omega)]; omega), nI_clamp (by omega), hG.2.1 k (by omega), nI_1]
      refine ⟨inb_nI (by omega) (by decide), ?_⟩
      by_cases e : nI (mb s k) = v
      · rw [if_pos e]
        rw [fnd_t (by simpa using e)] at h; exact h
      · rw [if_neg e]
        rw [fnd_f (by simpa using e)] at h; exact ih (k + 1) (by omega) h
  exact r_Company_numberOf (key (pc s) 0 (by omega) H)
theorem c_Co_lowestOf {Q : Int32 → pu_M → Prop} {n X a : Nat} (h : M 6 8 = nI n) (hn : n ≤ 10) (hX : X < 65536) (ha : a < n) (h1 : X.testBit a = true) (h2 : ∀ i, i < a → X.testBit i = false) (H : Q (nI a) M) : pu_I L (d + 1) 23 [.ref 6, .int (nI X)] M Q := by
  have key : ∀ j k, k + j = a → pu_R L (d + 1) 23 2 [.ref 6, .int (nI X), .int (nI k)] [] M (pu_qI Q) := by
    intro j
    induction j with
    | zero =>
      intro k hk
      obtain rfl : k = a := by omega
      refine r_Company_lowestOf_2 ?_
      rw [h, if_neg (by rw [nI_leI (by omega) (by omega)]; omega), nI_bit (by omega) (by omega), h1, if_pos (by decide)]; exact H
    | succ j ih =>
      intro k hk
      refine r_Company_lowestOf_2 ?_
      rw [h, if_neg (by rw [nI_leI (by omega) (by omega)]; omega), nI_bit (by omega) (by omega), h2 k (by omega), if_neg (by decide), nI_1]
      exact ih (k + 1) (by omega)
  exact r_Company_lowestOf (key a 0 (by omega))
theorem c_Co_canCouple {Q : Int32 → pu_M → Prop} {X a b : Nat} (hG : GA P s M) (hn : pc s ≤ 10) (hX : X < 65536) (ha : a < pc s) (hb : b < pc s) (H : if (X.testBit b && decide (0 < tN P s a b)) = true then Q 1 M else Q 0 M) : pu_I L (d + 1) 24 [.ref 6, .int (nI X), .int (nI a), .int (nI b)] M Q := by
  refine r_Company_canCouple ?_
  rw [nI_bit (by omega) (by omega), n_10, pk_mul, nI_add, nI_clamp (by omega), hG.2.2 a b ha hb]
  cases ht : X.testBit b with
  | false => rw [if_neg (by decide)]; rw [ht] at H; simpa using H
  | true =>
    rw [if_pos (by decide)]
    refine ⟨inb_nI (by omega) (by decide), ?_⟩
    rw [ht, Bool.true_and] at H
    by_cases hp : 0 < tN P s a b
    · rw [if_neg (lt_not_le ((tN_pos P s a b).mpr hp))]
      rw [if_pos (by simpa using hp)] at H; exact H
    · rw [if_pos (Int32.not_lt.mp (fun z => hp ((tN_pos P s a b).mp z)))]
      rw [if_neg (by simpa using hp)] at H; exact H
theorem c_Co_withCouple {Q : Int32 → pu_M → Prop} {X a b v : Nat} (hG : GA P s M) (hn : pc s ≤ 10) (hX : X < 1024) (ha : a < pc s) (hb : b < pc s) (hp : 0 < tN P s a b) (hv : M 9 (cl (cl X a) b) = nI v) (H : Q (nI (tN P s a b + v)) M) : pu_I L (d + 1) 25 [.ref 6, .int (nI X), .int (nI a), .int (nI b)] M Q := by
  refine r_Company_withCouple ?_
  have h1 : cl X a < 2 ^ 10 := cl_lt (n := 10) hX (by decide)
  have h2 : cl (cl X a) b < 2 ^ 10 := cl_lt (n := 10) h1 (by decide)
  rw [nI_cl (by omega) (by omega), nI_cl (by omega) (by omega), n_10, pk_mul, nI_add, nI_clamp (by omega), nI_clamp (by omega), hG.2.2 a b ha hb, hv, tN_val hp, nI_add]
  exact ⟨inb_nI (by omega) (by decide), inb_nI (by omega) (by decide), H⟩
theorem GA_9 {i : Nat} {x : Int32} (hG : GA P s M) : GA P s (pu_wr M 9 i x) := by
  unfold GA
  rw [pu_wr_ne (by decide), pu_wr_ne (by decide), pu_wr_ne (by decide)]; exact hG
theorem c_Co_weigh {Q : pu_M → Prop} (hG : GA P s M) (hn : pc s ≤ 10) (H : ∀ M', GA P s M' → (∀ X, X < 2 ^ pc s → M' 9 X = nI (Wc (tN P s) (pc s) X)) → only coS M M' → Q M') : pu_V L (d + 2) 22 [.ref 6] M Q := by
  have hp := pw10 hn
  have key : ∀ (j X : Nat) (M' : pu_M) (v2 v3 v4 : Value), X + j = 2 ^ pc s → 0 < X → GA P s M' → (∀ Y, Y < X → M' 9 Y = nI (Wc (tN P s) (pc s) Y)) → only coS M M' → pu_R L (d + 2) 22 9 [.ref 6, .int (nI X), v2, v3, v4] [] M' (pu_qV Q) := by
    intro j
    induction j with
    | zero =>
      intro X M' v2 v3 v4 hX h0 g a1 o
      refine r_Company_weighCouples_9 (c_Co_all g.1 hn ?_)
      rw [if_pos (by rw [nI_ltI (by omega) (by omega)]; omega)]
      exact H M' g (fun Y hY => a1 Y (by omega)) o
    | succ j ih =>
      intro X M' v2 v3 v4 hX h0 g a1 o
      refine r_Company_weighCouples_9 (c_Co_all g.1 hn ?_)
      rw [if_neg (by rw [nI_ltI (by omega) (by omega)]; omega)]
      have hX31 : X < 2 ^ 31 := by omega
      obtain ⟨l, hl1, hl2⟩ : ∃ l, X.testBit l = true ∧ ∀ i, i < l → X.testBit i = false := by
        cases hf : fnd (fun i => X.testBit i) (pc s) 0 with
        | some l => exact ⟨l, (fnd_some hf).2.2.1, fun i hi => (fnd_some hf).2.2.2 i (by omega) hi⟩
        | none =>
          exfalso
          have : X = 0 := by
            apply Nat.eq_of_testBit_eq
            intro i
            rw [Nat.zero_testBit]
            by_cases hi : i < pc s
            · exact fnd_none hf i (by omega) (by omega)
            · exact Nat.testBit_lt_two_pow (Nat.lt_of_lt_of_le (show X < 2 ^ pc s by omega) (Nat.pow_le_pow_right (by decide) (by omega)))
          omega
      have hln : l < pc s := by
        apply Nat.lt_of_not_le
        intro z
        rw [Nat.testBit_lt_two_pow (Nat.lt_of_lt_of_le (show X < 2 ^ pc s by omega) (Nat.pow_le_pow_right (by decide) z))] at hl1
        exact absurd hl1 (by decide)
      refine c_Co_lowestOf g.1 hn (by omega) hln hl1 hl2 ?_
      have hcl := cl_less hX31 (by omega) hl1
      rw [nI_cl (by omega) (by omega), nI_clamp (by omega), a1 _ hcl, nI_1]
      refine ⟨inb_nI (by omega) (by decide), ?_⟩
      have inn : ∀ jj i, i + jj = pc s - l - 1 → pu_R L (d + 2) 22 41 [.ref 6, .int (nI X), .int (nI l), .int (nI (fo (kst (tN P s) (pc s) X l) i (Wc (tN P s) (pc s) (cl X l)))), .int (nI (l + 1 + i))] [] M' (pu_qV Q) := by
        intro jj
        induction jj with
        | zero =>
          intro i hi
          refine r_Company_weighCouples_41 ?_
          obtain rfl : i = pc s - l - 1 := by omega
          rw [kst_eq (tN_comm P s) hX31 hl1 hl2 hln]
          rw [g.1, if_pos (by rw [nI_leI (by omega) (by omega)]; omega), nI_clamp (by omega), nI_1]
          refine ⟨inb_nI (by omega) (by decide), ?_⟩
          refine ih (X + 1) _ _ _ _ (by omega) (by omega) (GA_9 g) ?_ (o.wr (by unfold coS; omega))
          intro Y hY
          rw [pu_wr_self]
          by_cases e : Y = X
          · subst e; exact upd_s
          · rw [upd_n e]; exact a1 Y (by omega)
        | succ jj ih2 =>
          intro i hi
          refine r_Company_weighCouples_41 ?_
          rw [g.1, if_neg (by rw [nI_leI (by omega) (by omega)]; omega)]
          refine c_Co_canCouple g hn (by omega) hln (by omega) ?_
          have e1 : fo (kst (tN P s) (pc s) X l) (i + 1) (Wc (tN P s) (pc s) (cl X l)) = kst (tN P s) (pc s) X l i (fo (kst (tN P s) (pc s) X l) i (Wc (tN P s) (pc s) (cl X l))) := rfl
          have ih2 := ih2 (i + 1) (by omega)
          rw [e1] at ih2
          have hle := kst_le (tN_comm P s) hX31 hl1 hln (m := i) (by omega)
          have htop := W_top (n := pc s) (tN_le P s) (show X < 1024 by omega)
          generalize fo (kst (tN P s) (pc s) X l) i (Wc (tN P s) (pc s) (cl X l)) = acc at ih2 hle ⊢
          unfold kst fmx at ih2
          by_cases hc : (X.testBit (l + 1 + i) && decide (0 < tN P s l (l + 1 + i))) = true
          · rw [if_pos hc] at ih2 ⊢
            rw [if_neg (by decide)]
            rw [Bool.and_eq_true, decide_eq_true_eq] at hc
            have hc2 := cl2_less (b := l + 1 + i) hX31 hl1
            have hw := W_top (n := pc s) (tN_le P s) (show cl (cl X l) (l + 1 + i) < 1024 by omega)
            have ht := tN_le P s l (l + 1 + i)
            refine c_Co_withCouple g hn (by omega) hln (by omega) hc.2 (a1 _ hc2) ?_
            rw [nI_1]
            by_cases hlt : acc < tN P s l (l + 1 + i) + Wc (tN P s) (pc s) (cl (cl X l) (l + 1 + i))
            · rw [if_pos hlt] at ih2
              rw [if_pos ((nI_ltI (by omega) (by omega)).mpr hlt)]; exact ih2
            · rw [if_neg hlt] at ih2
              rw [if_neg (fun z => hlt ((nI_ltI (by omega) (by omega)).mp z))]; exact ih2
          · rw [if_neg hc] at ih2 ⊢
            rw [if_pos rfl, nI_1]; exact ih2
      exact inn (pc s - l - 1) 0 (by omega)
  refine r_Company_weighCouples (key (2 ^ pc s - 1) 1 _ _ _ _ (by have := Nat.two_pow_pos (pc s); omega) (by decide) (GA_9 hG) ?_ ((only.rf _ _).wr (by unfold coS; omega)))
  intro Y hY
  obtain rfl : Y = 0 := by omega
  rw [pu_wr_self, W_zero]; exact upd_s
theorem c_Co_lowestOther {Q : Int32 → pu_M → Prop} {X a : Nat} (hG : GA P s M) (hn : pc s ≤ 10) (hW : ∀ X, X < 2 ^ pc s → M 9 X = nI (Wc (tN P s) (pc s) X)) (hX : X < 2 ^ pc s) (ha : a < pc s) (h1 : X.testBit a = true) (H : Q (pJ (coo (tN P s) (pc s) X a)) M) : pu_I L (d + 2) 28 [.ref 6, .int (nI X), .int (nI a)] M Q := by
  have hp := pw10 hn
  have hX31 : X < 2 ^ 31 := by omega
  have key : ∀ j b, b + j = pc s → a < b → Q (pJ (fnd (cot (tN P s) (pc s) X a) j b)) M → pu_R L (d + 2) 28 4 [.ref 6, .int (nI X), .int (nI a), .int (nI b)] [] M (pu_qI Q) := by
    intro j
    induction j with
    | zero =>
      intro b hb hab h
      refine r_Company_lowestOther_4 ?_
      rw [hG.1, if_pos (by rw [nI_leI (by omega) (by omega)]; omega)]; exact h
    | succ j ih =>
      intro b hb hab h
      refine r_Company_lowestOther_4 ?_
      rw [hG.1, if_neg (by rw [nI_leI (by omega) (by omega)]; omega)]
      refine c_Co_canCouple hG hn (by omega) ha (by omega) ?_
      have eb : (cl X a).testBit b = X.testBit b := by
        rw [cl_bit hX31, show decide (a = b) = false by simp; omega]; simp
      by_cases hc : (X.testBit b && decide (0 < tN P s a b)) = true
      · rw [if_pos hc, if_neg (by decide)]
        have hc' := hc
        rw [Bool.and_eq_true, decide_eq_true_eq] at hc
        have hc2 := cl2_less (b := b) hX31 h1
        have hw := W_top (n := pc s) (tN_le P s) (show cl (cl X a) b < 1024 by omega)
        have hw2 := W_top (n := pc s) (tN_le P s) (show X < 1024 by omega)
        have ht := tN_le P s a b
        refine c_Co_withCouple hG hn (by omega) ha (by omega) hc.2 (hW _ (by omega)) ?_
        rw [nI_clamp (by omega), hW X hX, nI_1]
        refine ⟨inb_nI (by omega) (by decide), ?_⟩
        by_cases e : tN P s a b + Wc (tN P s) (pc s) (cl (cl X a) b) = Wc (tN P s) (pc s) X
        · rw [if_pos (by rw [e])]
          rw [fnd_t (by unfold cot; rw [eb, hc', Bool.true_and]; simpa using e)] at h; exact h
        · rw [if_neg (by rw [nI_eq (by omega) (by omega)]; exact e)]
          rw [fnd_f (by unfold cot; rw [eb, hc', Bool.true_and]; simpa using e)] at h; exact ih (b + 1) (by omega) (by omega) h
      · rw [if_neg hc, if_pos rfl, nI_1]
        rw [Bool.not_eq_true] at hc
        rw [fnd_f (by unfold cot; rw [eb, hc, Bool.false_and])] at h
        exact ih (b + 1) (by omega) (by omega) h
  refine r_Company_lowestOther ?_
  rw [nI_1]
  exact key (pc s - a - 1) (a + 1) (by omega) (by omega) H
theorem nI_idem {X : Nat} (hX : X < 2 ^ 31) : nI X &&& nI X = nI X := by rw [nI_and hX hX, Nat.and_self]
theorem c_Co_coupledWith {Q : Int32 → pu_M → Prop} {k : Nat} (hG : GA P s M) (hn : pc s ≤ 10) (hW : ∀ X, X < 2 ^ pc s → M 9 X = nI (Wc (tN P s) (pc s) X)) (hk : k < pc s) (H : Q (pI ((cow (tN P s) (pc s) (fun i => mb s i == mb s k) (pc s) 0 (2 ^ pc s - 1)).map (mb s))) M) : pu_I L (d + 3) 27 [.ref 6, .int (nI (mb s k))] M Q := by
  have hp := pw10 hn
  have hkey : ∀ i, i < pc s → ((mb s i == mb s k) = decide (i = k)) := fun i hi => by
    by_cases e : i = k
    · subst e; simp
    · have : mb s i ≠ mb s k := fun z => e (mb_inj hi hk z)
      simp [e, this]
  have key : ∀ j a X i (v5 v6 : Value), a + j = pc s → i ≤ a → X < 2 ^ pc s → (∀ b, b < a → X.testBit b = false) → Q (pI ((cow (tN P s) (pc s) (fun i => mb s i == mb s k) j a X).map (mb s))) M → pu_R L (d + 3) 27 14 [.ref 6, .int (nI (mb s k)), .int (nI k), .int (nI X), .int (nI i), v5, v6] [] M (pu_qI Q) := by
    intro j
    induction j with
    | zero =>
      intro a X i v5 v6 ha hi hX hlow h
      refine r_Company_coupledWith_14 ?_
      have : X = 0 := by
        apply Nat.eq_of_testBit_eq
        intro b
        rw [Nat.zero_testBit]
        by_cases hb : b < a
        · exact hlow b hb
        · exact Nat.testBit_lt_two_pow (Nat.lt_of_lt_of_le hX (Nat.pow_le_pow_right (by decide) (by omega)))
      subst this
      rw [if_pos (show nI 0 = 0 from rfl)]
      have h : Q (-2) M := h
      by_cases z : M 6 8 ≤ nI i
      · rw [if_pos z]; exact h
      · rw [if_neg z]; exact h
    | succ j ih =>
      intro a X i v5 v6 ha hi hX hlow h
      have hX31 : X < 2 ^ 31 := by omega
      cases hb : X.testBit a with
      | false =>
        have h : Q (pI (Option.map (mb s) (if X.testBit a = true then _ else cow (tN P s) (pc s) (fun i => mb s i == mb s k) j (a + 1) X))) M := h
        rw [if_neg (by rw [hb]; decide)] at h
        refine ih (a + 1) X i v5 v6 (by omega) (by omega) hX (fun b hb2 => ?_) h
        by_cases e : b = a
        · subst e; exact hb
        · exact hlow b (by omega)
      | true =>
        have h : Q (pI (Option.map (mb s) (if X.testBit a = true then (if (mb s a == mb s k) = true then coo (tN P s) (pc s) X a else match coo (tN P s) (pc s) X a with
          | none => cow (tN P s) (pc s) (fun i => mb s i == mb s k) j (a + 1) (cl X a)
          | some b => if (mb s b == mb s k) = true then some a else cow (tN P s) (pc s) (fun i => mb s i == mb s k) j (a + 1) (cl (cl X a) b)) else _))) M := h
        rw [if_pos hb, hkey a (by omega)] at h
        refine r_Company_coupledWith_14 ?_
        have hX0 : X ≠ 0 := fun z => by rw [z] at hb; simp at hb
        rw [hG.1, if_neg (by rw [nI_leI (by omega) (by omega)]; omega), if_neg (by rw [n_0, nI_eq (by omega) (by omega)]; exact hX0)]
        refine c_Co_lowestOf hG.1 hn (by omega) (by omega) hb hlow ?_
        refine c_Co_lowestOther hG hn hW hX (by omega) hb ?_
        have hcl := cl_less hX31 (show a < 31 by omega) hb
        have hlow1 : ∀ b, b < a + 1 → (cl X a).testBit b = false := fun b hb2 => by
          rw [cl_bit hX31]
          by_cases e : b = a
          · subst e; simp
          · rw [hlow b (by omega)]; rfl
        by_cases e : a = k
        · rw [if_pos (by rw [e])]
          rw [if_pos (by simpa using e)] at h
          cases ho : coo (tN P s) (pc s) X a with
          | none => rw [ho] at h; rw [if_pos pJ_n]; exact h
          | some b =>
            rw [ho] at h
            obtain ⟨b1, b2, b3⟩ := coo_lt hX31 ho
            rw [if_neg (show ¬ pJ (some b) = -1 from fun z => (nI_m1 (show b < 2 ^ 31 by omega)).mp z)]
            refine ⟨inb_nI (by omega) (by decide), ?_⟩
            show Q (M 7 (nI b).toNatClampNeg) M
            rw [nI_clamp (by omega), hG.2.1 b b2]; exact h
        · rw [if_neg (by rw [nI_eq (by omega) (by omega)]; exact e)]
          rw [if_neg (by simpa using e)] at h
          cases ho : coo (tN P s) (pc s) X a with
          | none =>
            rw [ho] at h
            rw [if_pos pJ_n]
            refine r_Company_coupledWith_88 ?_
            rw [if_pos pJ_n, nI_cl (by omega) (by omega), nI_idem (by omega), nI_1]
            exact ih (a + 1) (cl X a) (i + 1) _ _ (by omega) (by omega) (by omega) hlow1 h
          | some b =>
            rw [ho] at h
            obtain ⟨b1, b2, b3⟩ := coo_lt hX31 ho
            dsimp only at h
            rw [hkey b b2] at h
            have nb : ¬ nI b = -1 := fun z => (nI_m1 (show b < 2 ^ 31 by omega)).mp z
            rw [if_neg (show ¬ pJ (some b) = -1 from nb)]
            by_cases eb : b = k
            · rw [if_pos (show pJ (some b) = nI k by rw [eb]; rfl)]
              rw [if_pos (by simpa using eb)] at h
              refine ⟨inb_nI (by omega) (by decide), ?_⟩
              rw [nI_clamp (by omega), hG.2.1 a (by omega)]; exact h
            · rw [if_neg (show ¬ pJ (some b) = nI k by show ¬ nI b = nI k; rw [nI_eq (by omega) (by omega)]; exact eb)]
              rw [if_neg (by simpa using eb)] at h
              refine r_Company_coupledWith_88 ?_
              have hcl1 : cl X a < 2 ^ 31 := by omega
              have hcl2 := cl2_less (b := b) hX31 hb
              rw [if_neg (show ¬ pJ (some b) = -1 from nb), nI_cl (by omega) (by omega)]
              show pu_R L (d + 3) 27 14 [.ref 6, .int (nI (mb s k)), .int (nI k), .int (nI (cl X a) &&& (((1 : Int32) <<< (nI b &&& 31)) ^^^ (-1))), .int (nI i + 1), .int (nI a), .int (nI b)] [] M (pu_qI Q)
              rw [nI_cl (by omega) (by omega), nI_1]
              exact ih (a + 1) _ (i + 1) _ _ (by omega) (by omega) (by omega) (fun c hc => by rw [cl_bit hcl1, hlow1 c hc]; rfl) h
  refine r_Company_coupledWith (c_Co_numberOf hG hn ?_)
  have ek : fnd (fun i => decide (nI (mb s i) = nI (mb s k))) (pc s) 0 = some k := fnd_at (by omega) (by omega) (by simp) (fun i _ hi => by
    have h1 := (mb_lt (s := s) (show i < pc s by omega)).1
    have h2 := (mb_lt (s := s) hk).1
    rw [decide_eq_false_iff_not, nI_eq (by omega) (by omega)]
    exact fun z => absurd (mb_inj (show i < pc s by omega) hk z) (by omega))
  rw [ek]
  refine c_Co_all hG.1 hn ?_
  exact key (pc s) 0 (2 ^ pc s - 1) 0 _ _ (by omega) (by omega) (by have := Nat.two_pow_pos (pc s); omega) (fun b hb => absurd hb (by omega)) H
end CO
