/-! ROWS in the class: in how many all wishes hold -/
/-- the number of one among those of a set -/
def r_ix (s p : Nat) : Option Nat := fnd (fun i => decide (mb s i = p)) (pc s) 0
/-- near, apart, ends, never -/
abbrev Wst : Type := (Nat → Nat) × (Nat → Nat) × Nat × Bool
def w_two (N : Nat → Nat) (a b : Nat) : Nat → Nat := fset (fset N a (N a ||| 2 ^ b)) b (fset N a (N a ||| 2 ^ b) b ||| 2 ^ a)
def w_tk (s : Nat) (x : Wi) (st : Wst) : Wst := match r_ix s x.1 with
  | none => st
  | some a => match x.2.2 with
    | none => if x.2.1 = 35 then (st.1, st.2.1, st.2.2.1 ||| 2 ^ a, st.2.2.2) else (st.1, st.2.1, st.2.2.1, true)
    | some q => match r_ix s q with
      | none => st
      | some b => if x.2.1 = 43 then (w_two st.1 a b, st.2.1, st.2.2.1, st.2.2.2) else (st.1, w_two st.2.1 a b, st.2.2.1, st.2.2.2)
def w_st (s : Nat) (ws : Nat → Wi) (m : Nat) : Wst := fo (fun i st => w_tk s (ws i) st) m (fun _ => 0, fun _ => 0, 0, false)
def w_bd (st : Wst) : Prop := (∀ a, st.1 a < 128 ∧ st.2.1 a < 128) ∧ st.2.2.1 < 128
theorem fnd_congr {A B : Nat → Bool} : ∀ {j k : Nat}, (∀ i, k ≤ i → i < k + j → A i = B i) → fnd A j k = fnd B j k
  | 0, k, _ => rfl
  | j + 1, k, h => by
    show (if A k = true then some k else fnd A j (k + 1)) = if B k = true then some k else fnd B j (k + 1)
    rw [h k (Nat.le_refl _) (by omega), fnd_congr (fun i h1 h2 => h i (by omega) (by omega))]
theorem r_ix_lt {s p a : Nat} (h : r_ix s p = some a) : a < pc s ∧ mb s a = p := by
  obtain ⟨_, h2, h3, _⟩ := fnd_some h
  exact ⟨by omega, of_decide_eq_true h3⟩
theorem or128 {x b : Nat} (hx : x < 128) (hb : b < 7) : x ||| 2 ^ b < 128 := Nat.or_lt_two_pow (n := 7) hx (Nat.pow_lt_pow_right (by decide) hb)
theorem w_two_bd {N : Nat → Nat} {a b : Nat} (h : ∀ a, N a < 128) (ha : a < 7) (hb : b < 7) : ∀ c, w_two N a b c < 128 := by
  intro c
  have h1 : ∀ c, fset N a (N a ||| 2 ^ b) c < 128 := fun c => by
    by_cases e : c = a
    · subst e; rw [fset_s]; exact or128 (h c) hb
    · rw [fset_n e]; exact h c
  unfold w_two
  by_cases e : c = b
  · subst e; rw [fset_s]; exact or128 (h1 c) ha
  · rw [fset_n e]; exact h1 c
theorem w_tk_bd {s : Nat} {x : Wi} {st : Wst} (hn : pc s ≤ 7) (h : w_bd st) : w_bd (w_tk s x st) := by
  unfold w_tk
  cases ha : r_ix s x.1 with
  | none => exact h
  | some a =>
    have a7 := (r_ix_lt ha).1
    dsimp only
    cases x.2.2 with
    | none =>
      dsimp only
      split
      · exact ⟨h.1, or128 h.2 (by omega)⟩
      · exact h
    | some q =>
      dsimp only
      cases hb : r_ix s q with
      | none => exact h
      | some b =>
        have b7 := (r_ix_lt hb).1
        dsimp only
        split
        · exact ⟨fun c => ⟨w_two_bd (fun a => (h.1 a).1) (by omega) (by omega) c, (h.1 c).2⟩, h.2⟩
        · exact ⟨fun c => ⟨(h.1 c).1, w_two_bd (fun a => (h.1 a).2) (by omega) (by omega) c⟩, h.2⟩
theorem w_st_bd {s : Nat} {ws : Nat → Wi} (hn : pc s ≤ 7) : ∀ m, w_bd (w_st s ws m)
  | 0 => ⟨fun _ => ⟨by show 0 < 128; decide, by show 0 < 128; decide⟩, by show 0 < 128; decide⟩
  | m + 1 => w_tk_bd hn (w_st_bd hn m)
/-- may i come behind a -/
def r_ok (st : Wst) (X a i : Nat) (last : Bool) : Bool := decide (an (st.1 i &&& X) (2 ^ a) = 0) && !(st.2.1 i).testBit a && (!st.2.2.1.testBit i || last)
def r_Wy (n : Nat) (st : Wst) : Nat → Nat → Nat → Nat
  | 0, _, _ => 1
  | f + 1, X, a => fo (fun i acc => if (!X.testBit i && r_ok st X a i (decide (f = 0))) = true then acc + r_Wy n st f (X ||| 2 ^ i) i else acc) n 0
def r_pl (n : Nat) (st : Wst) : Nat := if st.2.2.2 = true then 0 else fo (fun i acc => acc + r_Wy n st (n - 1) (2 ^ i) i) n 0
theorem un_pc {n X : Nat} (hn : n ≤ 16) (hX : X < 2 ^ n) : pc X + r_un n X = n := by
  have e1 : pc X = cnt (fun k => X.testBit k) n := by
    unfold pc
    obtain ⟨j, hj⟩ : ∃ j, 16 = n + j := ⟨16 - n, by omega⟩
    rw [hj, cnt_add]
    have : cnt (fun k => X.testBit (n + k)) j = 0 := by
      have hz : ∀ m, cnt (fun k => X.testBit (n + k)) m = 0 := by
        intro m
        induction m with
        | zero => rfl
        | succ m ih =>
          rw [cnt_f (P := fun k => X.testBit (n + k)) (Nat.testBit_lt_two_pow (Nat.lt_of_lt_of_le hX (Nat.pow_le_pow_right (by decide) (by omega))))]; exact ih
      exact hz j
    omega
  rw [e1]
  unfold r_un
  have : ∀ m, cnt (fun k => X.testBit k) m + cnt (fun i => !X.testBit i) m = m := by
    intro m
    induction m with
    | zero => rfl
    | succ m ih =>
      cases hb : X.testBit m with
      | true =>
        rw [cnt_t (P := fun k => X.testBit k) hb, cnt_f (P := fun i => !X.testBit i) (by rw [hb]; rfl)]; omega
      | false =>
        rw [cnt_f (P := fun k => X.testBit k) hb, cnt_t (P := fun i => !X.testBit i) (by rw [hb]; rfl)]; omega
  exact this n
section RW
variable {L d : Nat} {M : pu_M} {P : Pp} {s : Nat} {w m : Nat} {ws : Nat → Wi}
theorem c_fill {Q : pu_M → Prop} {k : Nat} (h : pu_sh L k = .inl (false, 7)) (hk : k < 90) (H : ∀ M', (∀ i, i < 7 → M' k i = 0) → only (fun j => j = k) M M' → Q M') : pu_V L (d + 1) 262 [.ref k, .int 0] M Q := by
  refine r_Arrays_fill h hk ?_
  have key : ∀ (j i : Nat) (M' : pu_M), i + j = 7 → (∀ a, a < i → M' k a = 0) → only (fun j => j = k) M M' → pu_R L (d + 1) 262 5 [.ref k, .int 0, .int (nI i), .int (nI 7)] [] M' (pu_qV Q) := by
    intro j
    induction j with
    | zero =>
      intro i M' hi a1 o
      refine r_Arrays_fill_5 h hk ?_
      rw [if_pos (by rw [nI_leI (by omega) (by omega)]; omega)]
      exact H M' (fun a ha => a1 a (by omega)) o
    | succ j ih =>
      intro i M' hi a1 o
      refine r_Arrays_fill_5 h hk ?_
      rw [if_neg (by rw [nI_leI (by omega) (by omega)]; omega), nI_clamp (by omega), nI_1]
      refine ⟨inb_nI (by omega) (by decide), ih (i + 1) _ (by omega) (fun a ha => ?_) (o.wr rfl)⟩
      rw [pu_wr_self]
      by_cases e : a = i
      · subst e; exact upd_s
      · rw [upd_n e]; exact a1 a (by omega)
  exact key 7 0 M rfl (fun a ha => absurd ha (by omega)) (only.rf _ _)
def WMm (M : pu_M) (st : Wst) : Prop := (∀ a, a < 7 → M 11 a = nI (st.1 a) ∧ M 12 a = nI (st.2.1 a)) ∧ M 6 6 = nI st.2.2.1 ∧ M 6 7 = bI st.2.2.2
theorem two_wr {k a b : Nat} {N : Nat → Nat} (hN : ∀ c, N c < 128) (ha : a < 7) (hb : b < 7) (h : ∀ c, c < 7 → M k c = nI (N c)) {M5 : pu_M} (e5 : M5 = pu_wr (pu_wr M k a (M k a ||| (1 : Int32) <<< (nI b &&& 31))) k b ((pu_wr M k a (M k a ||| (1 : Int32) <<< (nI b &&& 31))) k b ||| (1 : Int32) <<< (nI a &&& 31))) : ∀ c, c < 7 → M5 k c = nI (w_two N a b c) := by
  have hpa := p2_lt (show a < 16 by omega)
  have hpb := p2_lt (show b < 16 by omega)
  have h1 : ∀ c, c < 7 → pu_wr M k a (M k a ||| (1 : Int32) <<< (nI b &&& 31)) k c = nI (fset N a (N a ||| 2 ^ b) c) := fun c hc => by
    rw [pu_wr_self]
    by_cases e : c = a
    · subst e; rw [upd_s, fset_s, h c hc, nI_pow (by omega), nI_or (by have := hN c; omega) (by omega)]
    · rw [upd_n e, fset_n e]; exact h c hc
  have hb1 : fset N a (N a ||| 2 ^ b) b < 128 := by
    by_cases e : b = a
    · subst e; rw [fset_s]; exact or128 (hN b) hb
    · rw [fset_n e]; exact hN b
  intro c hc
  rw [e5, pu_wr_self]
  unfold w_two
  by_cases e : c = b
  · subst e; rw [upd_s, fset_s, h1 c hc, nI_pow (by omega), nI_or (by omega) (by omega)]
  · rw [upd_n e, fset_n e]; exact h1 c hc
theorem w_tk_2 {x : Wi} {st : Wst} {a b q : Nat} (ha : r_ix s x.1 = some a) (hq : x.2.2 = some q) (hb : r_ix s q = some b) : w_tk s x st = if x.2.1 = 43 then (w_two st.1 a b, st.2.1, st.2.2.1, st.2.2.2) else (st.1, w_two st.2.1 a b, st.2.2.1, st.2.2.2) := by
  unfold w_tk; rw [ha, hq]; dsimp only; rw [hb]
theorem w_tk_1 {x : Wi} {st : Wst} {a : Nat} (ha : r_ix s x.1 = some a) (hq : x.2.2 = none) : w_tk s x st = if x.2.1 = 35 then (st.1, st.2.1, st.2.2.1 ||| 2 ^ a, st.2.2.2) else (st.1, st.2.1, st.2.2.1, true) := by
  unfold w_tk; rw [ha, hq]
theorem w_tk_0 {x : Wi} {st : Wst} (ha : r_ix s x.1 = none) : w_tk s x st = st := by
  unfold w_tk; rw [ha]
theorem w_tk_n {x : Wi} {st : Wst} {a q : Nat} (ha : r_ix s x.1 = some a) (hq : x.2.2 = some q) (hb : r_ix s q = none) : w_tk s x st = st := by
  unfold w_tk; rw [ha, hq]; dsimp only; rw [hb]
theorem c_Co_tw2 {Q : pu_M → Prop} {st : Wst} {a b c : Nat} (hc : c = 43 ∨ c = 45) (a7 : a < 7) (b7 : b < 7) (hst : w_bd st) (hW : WMm M st) (H : ∀ M', WMm M' (if c = 43 then (w_two st.1 a b, st.2.1, st.2.2.1, st.2.2.2) else (st.1, w_two st.2.1 a b, st.2.2.1, st.2.2.2)) → (∀ j, j ≠ 6 → j ≠ 7 → M' 6 j = M 6 j) → only (fun j => j = 6 ∨ j = 11 ∨ j = 12) M M' → Q M') : pu_V L (d + 1) 21 [.ref 6, .int (nI c), .int (nI a), .int (nI b)] M Q := by
  obtain ⟨w1, w2, w3⟩ := hW
  refine r_Company_takeWish ?_
  rw [if_neg (nI_pos (by omega)), if_neg (show ¬ 7 ≤ nI b by rw [n_7, nI_leI (by omega) (by omega)]; omega)]
  refine r_Company_takeWish_15 ?_
  rcases hc with rfl | rfl
  · rw [if_pos rfl] at H
    rw [if_neg (show ¬ nI 43 = 35 by decide), if_neg (show ¬ nI 43 = 46 by decide), if_pos (show nI 43 = 43 from rfl), if_neg (by decide), nI_clamp (show a < 2 ^ 31 by omega), nI_clamp (show b < 2 ^ 31 by omega)]
    refine ⟨inb_nI (by omega) (by decide), inb_nI (by omega) (by decide), inb_nI (by omega) (by decide), inb_nI (by omega) (by decide), fun M5 e5 => ?_⟩
    have t := two_wr (fun c => (hst.1 c).1) (by omega) (by omega) (fun c hc => (w1 c hc).1) e5
    have o5 : ∀ k, k ≠ 11 → M5 k = M k := fun k hk => by rw [e5, pu_wr_ne hk, pu_wr_ne hk]
    exact H M5 ⟨fun c hc => ⟨t c hc, by rw [o5 12 (by decide)]; exact (w1 c hc).2⟩, by rw [o5 6 (by decide)]; exact w2, by rw [o5 6 (by decide)]; exact w3⟩ (fun j _ _ => by rw [o5 6 (by decide)]) (fun k hk => o5 k (fun z => hk (Or.inr (Or.inl z))))
  · rw [if_neg (by decide)] at H
    rw [if_neg (show ¬ nI 45 = 35 by decide), if_neg (show ¬ nI 45 = 46 by decide), if_neg (show ¬ nI 45 = 43 by decide)]
    refine r_Company_takeWish_90 ?_
    rw [if_pos (show nI 45 = 45 from rfl), if_neg (by decide), nI_clamp (show a < 2 ^ 31 by omega), nI_clamp (show b < 2 ^ 31 by omega)]
    refine ⟨inb_nI (by omega) (by decide), inb_nI (by omega) (by decide), inb_nI (by omega) (by decide), inb_nI (by omega) (by decide), fun M5 e5 => ?_⟩
    have t := two_wr (fun c => (hst.1 c).2) (by omega) (by omega) (fun c hc => (w1 c hc).2) e5
    have o5 : ∀ k, k ≠ 12 → M5 k = M k := fun k hk => by rw [e5, pu_wr_ne hk, pu_wr_ne hk]
    exact H M5 ⟨fun c hc => ⟨by rw [o5 11 (by decide)]; exact (w1 c hc).1, t c hc⟩, by rw [o5 6 (by decide)]; exact w2, by rw [o5 6 (by decide)]; exact w3⟩ (fun j _ _ => by rw [o5 6 (by decide)]) (fun k hk => o5 k (fun z => hk (Or.inr (Or.inr z))))
theorem c_Co_tw1 {Q : pu_M → Prop} {st : Wst} {a c : Nat} (hc : c = 35 ∨ c = 46) (a7 : a < 7) (hst : w_bd st) (hW : WMm M st) (H : ∀ M', WMm M' (if c = 35 then (st.1, st.2.1, st.2.2.1 ||| 2 ^ a, st.2.2.2) else (st.1, st.2.1, st.2.2.1, true)) → (∀ j, j ≠ 6 → j ≠ 7 → M' 6 j = M 6 j) → only (fun j => j = 6 ∨ j = 11 ∨ j = 12) M M' → Q M') : pu_V L (d + 1) 21 [.ref 6, .int (nI c), .int (nI a), .int (-1)] M Q := by
  obtain ⟨w1, w2, w3⟩ := hW
  have hpa := p2_lt (show a < 16 by omega)
  refine r_Company_takeWish ?_
  rw [if_pos (by decide)]
  refine r_Company_takeWish_15 ?_
  rcases hc with rfl | rfl
  · rw [if_pos rfl] at H
    rw [if_pos (show nI 35 = 35 from rfl), w2, nI_pow (by omega), nI_or (by have := hst.2; omega) (by omega)]
    exact H _ ⟨fun c hc => by rw [pu_wr_ne (by decide), pu_wr_ne (by decide)]; exact w1 c hc, by rw [pu_wr_self, upd_s], by rw [pu_wr_self, upd_n (by decide)]; exact w3⟩ (fun j j1 _ => by rw [pu_wr_self, upd_n j1]) ((only.rf (fun j => j = 6 ∨ j = 11 ∨ j = 12) M).wr (Or.inl rfl))
  · rw [if_neg (by decide)] at H
    rw [if_neg (show ¬ nI 46 = 35 by decide), if_pos (show nI 46 = 46 from rfl)]
    exact H _ ⟨fun c hc => by rw [pu_wr_ne (by decide), pu_wr_ne (by decide)]; exact w1 c hc, by rw [pu_wr_self, upd_n (by decide)]; exact w2, by rw [pu_wr_self, upd_s]; rfl⟩ (fun j _ j2 => by rw [pu_wr_self, upd_n j2]) ((only.rf (fun j => j = 6 ∨ j = 11 ∨ j = 12) M).wr (Or.inl rfl))
theorem GA_w {M' : pu_M} (hG : GA P s M) (e8 : M' 6 8 = M 6 8) (e7 : M' 7 = M 7) (e8' : M' 8 = M 8) : GA P s M' := by
  unfold GA
  rw [e8, e7, e8']; exact hG
theorem c_Co_number {Q : Int32 → pu_M → Prop} {p : Nat} (hG : GA P s M) (hn : pc s ≤ 7) (hp : p < 16) (H : Q (pJ (r_ix s p)) M) : pu_I L (d + 1) 10 [.ref 6, .int (nI p)] M Q := by
  refine c_Co_numberOf hG (by omega) ?_
  have : fnd (fun i => decide (nI (mb s i) = nI p)) (pc s) 0 = r_ix s p := fnd_congr (fun i _ hi => by
    have := (mb_lt (s := s) (show i < pc s by omega)).1
    exact decide_eq_decide.mpr (nI_eq (by omega) (by omega)))
  rw [this]; exact H
theorem c_Co_numberM1 {Q : Int32 → pu_M → Prop} (hG : GA P s M) (hn : pc s ≤ 7) (H : Q (-1) M) : pu_I L (d + 1) 10 [.ref 6, .int (-1)] M Q := by
  refine c_Co_numberOf hG (by omega) ?_
  have : fnd (fun i => decide (nI (mb s i) = -1)) (pc s) 0 = none := by
    cases hf : fnd (fun i => decide (nI (mb s i) = -1)) (pc s) 0 with
    | none => rfl
    | some k =>
      obtain ⟨_, h2, h3, _⟩ := fnd_some hf
      have := (mb_lt (s := s) (show k < pc s by omega)).1
      exact absurd (of_decide_eq_true h3) (fun z => (nI_m1 (by omega)).mp z)
  rw [this]; exact H
theorem CW_co {M' : pu_M} (hw : pu_isW w) (h : CW ws m M w) (o : only coS M M') : CW ws m M' w := by
  have : 50 ≤ w := by unfold pu_isW at hw; omega
  unfold CW
  rw [o w (by unfold coS; omega), o (w + 1) (by unfold coS; omega), o (w + 2) (by unfold coS; omega), o (w + 3) (by unfold coS; omega)]; exact h
theorem c_Co_takeWishes {Q : pu_M → Prop} (hw : pu_isW w) (hG : GA P s M) (hn : pc s ≤ 7) (hWI : WI ws m) (hC : CW ws m M w) (H : ∀ M', GA P s M' → WMm M' (w_st s ws m) → only coS M M' → Q M') : pu_V L (d + 2) 20 [.ref 6, .ref w] M Q := by
  have hw' : 50 ≤ w ∧ w ≤ 54 := by unfold pu_isW at hw; omega
  have hm := hWI.1
  have key : ∀ (j i : Nat) (M' : pu_M) (v3 v4 v5 : Value), i + j = m → GA P s M' → WMm M' (w_st s ws i) → only coS M M' → pu_R L (d + 2) 20 28 [.ref 6, .ref w, .int (nI i), v3, v4, v5] [] M' (pu_qV Q) := by
    intro j
    induction j with
    | zero =>
      intro i M' v3 v4 v5 hi g wm o
      have hC' := CW_co hw hC o
      refine r_Company_takeWishes_28 hw ?_
      rw [hC'.1, if_pos (by rw [nI_leI (by omega) (by omega)]; omega)]
      obtain rfl : i = m := by omega
      exact H M' g wm o
    | succ j ih =>
      intro i M' v3 v4 v5 hi g wm o
      have hC' := CW_co hw hC o
      obtain ⟨c1, c2, c3⟩ := hC'.2 i (by omega)
      have hx := hWI.2 i (by omega)
      refine r_Company_takeWishes_28 hw ?_
      rw [hC'.1, if_neg (by rw [nI_leI (by omega) (by omega)]; omega), nI_clamp (by omega), c2]
      refine ⟨inb_nI (by omega) (by decide), c_Co_number g hn hx.1 ⟨inb_nI (by omega) (by decide), ?_⟩⟩
      have es : w_st s ws (i + 1) = w_tk s (ws i) (w_st s ws i) := rfl
      have ih := ih (i + 1)
      rw [es] at ih
      have stb := w_st_bd (s := s) (ws := ws) hn i
      generalize w_st s ws i = st at ih wm stb
      -- the wish is taken, or not
      have skip : ∀ (v3 v4 v5 : Value), w_tk s (ws i) st = st → pu_R L (d + 2) 20 28 [.ref 6, .ref w, .int (nI i + 1), v3, v4, v5] [] M' (pu_qV Q) := by
        intro v3 v4 v5 e
        rw [e] at ih
        rw [nI_1]; exact ih M' _ _ _ (by omega) g wm o
      have on : ∀ (M2 : pu_M) (v3 v4 v5 : Value), WMm M2 (w_tk s (ws i) st) → (∀ j, j ≠ 6 → j ≠ 7 → M2 6 j = M' 6 j) → only (fun j => j = 6 ∨ j = 11 ∨ j = 12) M' M2 → pu_R L (d + 2) 20 28 [.ref 6, .ref w, .int (nI i + 1), v3, v4, v5] [] M2 (pu_qV Q) := by
        intro M2 v3 v4 v5 w2 e2 o2
        have O2 : only coS M M2 := o.tr (fun k hk => o2 k (fun z => hk (by unfold coS; omega)))
        rw [nI_1]
        exact ih M2 _ _ _ (by omega) (GA_w g (e2 8 (by decide) (by decide)) (o2 7 (by decide)) (o2 8 (by decide))) w2 O2
      rw [c3]
      rcases hx.2 with ⟨hs, r, hr, hr16, hne⟩ | ⟨hs, hnone⟩
      · rw [hr]
        refine c_Co_number g hn hr16 ⟨inb_nI (by omega) (by decide), ?_⟩
        rw [c3, hr, if_neg (show ¬ pJ (some r) = -1 from fun z => (nI_m1 (show r < 2 ^ 31 by omega)).mp z)]
        refine r_Company_takeWishes_74 hw ?_
        cases ha : r_ix s (ws i).1 with
        | none =>
          rw [if_pos pJ_n]
          exact skip _ _ _ (w_tk_0 ha)
        | some a =>
          have a7 := (r_ix_lt ha).1
          rw [if_neg (show ¬ pJ (some a) = -1 from fun z => (nI_m1 (show a < 2 ^ 31 by omega)).mp z), if_neg (show ¬ 7 ≤ pJ (some a) by show ¬ 7 ≤ nI a; rw [n_7, nI_leI (by omega) (by omega)]; omega), if_neg (by decide), nI_clamp (by omega), c1]
          cases hb : r_ix s r with
          | none =>
            rw [if_pos pJ_n]
            exact skip _ _ _ (w_tk_n ha hr hb)
          | some b =>
            have b7 := (r_ix_lt hb).1
            rw [if_neg (show ¬ pJ (some b) = -1 from fun z => (nI_m1 (show b < 2 ^ 31 by omega)).mp z)]
            refine ⟨inb_nI (by omega) (by decide), ?_⟩
            exact c_Co_tw2 hs (by omega) (by omega) stb wm (fun M2 w2 e2 o2 => on M2 _ _ _ (by rw [w_tk_2 ha hr hb]; exact w2) e2 o2)
      · rw [hnone]
        refine c_Co_numberM1 g hn ⟨inb_nI (by omega) (by decide), ?_⟩
        rw [c3, hnone, if_pos pJ_n]
        refine r_Company_takeWishes_74 hw ?_
        cases ha : r_ix s (ws i).1 with
        | none =>
          rw [if_pos pJ_n]
          exact skip _ _ _ (w_tk_0 ha)
        | some a =>
          have a7 := (r_ix_lt ha).1
          rw [if_neg (show ¬ pJ (some a) = -1 from fun z => (nI_m1 (show a < 2 ^ 31 by omega)).mp z), if_neg (show ¬ 7 ≤ pJ (some a) by show ¬ 7 ≤ nI a; rw [n_7, nI_leI (by omega) (by omega)]; omega), if_pos rfl, nI_clamp (by omega), c1]
          refine ⟨inb_nI (by omega) (by decide), ?_⟩
          exact c_Co_tw1 hs (by omega) stb wm (fun M2 w2 e2 o2 => on M2 _ _ _ (by rw [w_tk_1 ha hnone]; exact w2) e2 o2)
  refine r_Company_takeWishes hw (c_fill rfl (by decide) (fun M1 z1 o1 => c_fill rfl (by decide) (fun M2 z2 o2 => ?_)))
  refine key m 0 _ _ _ _ (by omega) (GA_w hG ?_ ?_ ?_) ⟨fun a ha => ⟨?_, ?_⟩, ?_, ?_⟩ (fun k hk => ?_)
  · rw [pu_wr_self, upd_n (by decide), pu_wr_self, upd_n (by decide), o2 6 (by decide), o1 6 (by decide)]
  · rw [pu_wr_ne (by decide), pu_wr_ne (by decide), o2 7 (by decide), o1 7 (by decide)]
  · rw [pu_wr_ne (by decide), pu_wr_ne (by decide), o2 8 (by decide), o1 8 (by decide)]
  · rw [pu_wr_ne (by decide), pu_wr_ne (by decide), o2 11 (by decide)]; exact z1 a ha
  · rw [pu_wr_ne (by decide), pu_wr_ne (by decide)]; exact z2 a ha
  · rw [pu_wr_self, upd_n (by decide), pu_wr_self, upd_s]; rfl
  · rw [pu_wr_self, upd_s]; rfl
  · have n6 : k ≠ 6 := fun z => hk (by unfold coS; omega)
    rw [pu_wr_ne n6, pu_wr_ne n6, o2 k (fun z => hk (by unfold coS; omega)), o1 k (fun z => hk (by unfold coS; omega))]
end RW
