/-! ROWS in the class: the ways; row -/
section RY
variable {L d : Nat} {M : pu_M} {P : Pp} {s : Nat} {st : Wst}
def RY (s : Nat) (st : Wst) (M : pu_M) (X : Nat) : Prop := ∀ a, a < pc s → M 10 (X * 7 + a) = nI (r_Wy (pc s) st (r_un (pc s) X) X a)
theorem c_Co_ways {Q : Int32 → pu_M → Prop} {X a : Nat} (hG : GA P s M) (hn : pc s ≤ 7) (hst : w_bd st) (hW : WMm M st) (hX : X < 2 ^ pc s) (ha : a < pc s) (h1 : 1 ≤ r_un (pc s) X) (hR : ∀ i, i < pc s → X.testBit i = false → RY s st M (X ||| 2 ^ i)) (H : Q (nI (r_Wy (pc s) st (r_un (pc s) X) X a)) M) : pu_I L (d + 2) 19 [.ref 6, .int (nI X), .int (nI a)] M Q := by
  have h2 := pw7 hn
  obtain ⟨f, hf⟩ : ∃ f, r_un (pc s) X = f + 1 := ⟨r_un (pc s) X - 1, by omega⟩
  rw [hf] at H
  have key : ∀ (j i acc : Nat) (v6 v7 v8 v9 : Value), i + j = pc s → acc = fo (fun i acc => if (!X.testBit i && r_ok st X a i (decide (f = 0))) = true then acc + r_Wy (pc s) st f (X ||| 2 ^ i) i else acc) i 0 → pu_R L (d + 2) 19 25 [.ref 6, .int (nI X), .int (nI a), .int (bI (decide (f = 0))), .int (nI acc), .int (nI i), v6, v7, v8, v9] [] M (pu_qI Q) := by
    intro j
    induction j with
    | zero =>
      intro i acc v6 v7 v8 v9 hi hacc
      obtain rfl : i = pc s := by omega
      refine r_Company_waysBehind_25 ?_
      rw [hG.1, if_pos (by rw [nI_leI (by omega) (by omega)]; omega), hacc]
      exact H
    | succ j ih =>
      intro i acc v6 v7 v8 v9 hi hacc
      refine r_Company_waysBehind_25 ?_
      have hi7 : i < pc s := by omega
      have es : fo (fun i acc => if (!X.testBit i && r_ok st X a i (decide (f = 0))) = true then acc + r_Wy (pc s) st f (X ||| 2 ^ i) i else acc) (i + 1) 0 = if (!X.testBit i && r_ok st X a i (decide (f = 0))) = true then fo (fun i acc => if (!X.testBit i && r_ok st X a i (decide (f = 0))) = true then acc + r_Wy (pc s) st f (X ||| 2 ^ i) i else acc) i 0 + r_Wy (pc s) st f (X ||| 2 ^ i) i else fo (fun i acc => if (!X.testBit i && r_ok st X a i (decide (f = 0))) = true then acc + r_Wy (pc s) st f (X ||| 2 ^ i) i else acc) i 0 := rfl
      have ih := ih (i + 1)
      rw [es, ← hacc] at ih
      have ends : st.2.2.1 < 128 := hst.2
      have nb := (hst.1 i).1
      have ab := (hst.1 i).2
      have hpa := p2_lt (show a < 16 by omega)
      have hpi := p2_lt (show i < 16 by omega)
      obtain ⟨w1, w2⟩ := hW.1 i (by omega)
      -- the four flags
      have last : ∀ (c1 c2 c3 c4 : Bool) (v9 : Value), c1 = !X.testBit i → c2 = decide (an (st.1 i &&& X) (2 ^ a) = 0) → c3 = !(st.2.1 i).testBit a → c4 = (!st.2.2.1.testBit i || decide (f = 0)) → pu_R L (d + 2) 19 117 [.ref 6, .int (nI X), .int (nI a), .int (bI (decide (f = 0))), .int (nI acc), .int (nI i), .int (bI c1), .int (bI c2), .int (bI c3), v9] [.int (bI c4)] M (pu_qI Q) := by
        intro c1 c2 c3 c4 v9 e1 e2 e3 e4
        refine r_Company_waysBehind_117 ?_
        have eok : (!X.testBit i && r_ok st X a i (decide (f = 0))) = (c1 && (c2 && c3 && c4)) := by
          unfold r_ok
          rw [← e1, ← e2, ← e3, ← e4]
        rw [eok] at ih
        rw [nI_1]
        cases c1 with
        | false => rw [if_neg (by simp)] at ih; rw [if_pos (show bI false = 0 from rfl)]; exact ih acc _ _ _ _ (by omega) rfl
        | true =>
          rw [if_neg (show ¬ bI true = 0 by decide)]
          cases c2 with
          | false => rw [if_neg (by simp)] at ih; rw [if_pos (show bI false = 0 from rfl)]; exact ih acc _ _ _ _ (by omega) rfl
          | true =>
            rw [if_neg (show ¬ bI true = 0 by decide)]
            cases c3 with
            | false => rw [if_neg (by simp)] at ih; rw [if_pos (show bI false = 0 from rfl)]; exact ih acc _ _ _ _ (by omega) rfl
            | true =>
              rw [if_neg (show ¬ bI true = 0 by decide)]
              cases c4 with
              | false => rw [if_neg (by simp)] at ih; rw [if_pos (show bI false = 0 from rfl)]; exact ih acc _ _ _ _ (by omega) rfl
              | true =>
                rw [if_neg (show ¬ bI true = 0 by decide)]
                rw [if_pos (by rfl)] at ih
                have hb : X.testBit i = false := by simpa using e1.symm
                have hor := or_lt7 hX hi7
                have hu := r_un_or (n := pc s) (X := X) hi7 hb
                have hval := hR i hi7 hb i hi7
                rw [show r_un (pc s) (X ||| 2 ^ i) = f by omega] at hval
                rw [nI_pow (by omega), nI_or (by omega) (by omega), n_7, pk_mul, nI_add, nI_clamp (by omega), hval, nI_add]
                exact ⟨inb_nI (by omega) (by decide), ih _ _ _ _ _ (by omega) rfl⟩
      have p94 : ∀ (c1 c2 c3 : Bool) (v8 v9 : Value), c1 = !X.testBit i → c2 = decide (an (st.1 i &&& X) (2 ^ a) = 0) → c3 = !(st.2.1 i).testBit a → pu_R L (d + 2) 19 94 [.ref 6, .int (nI X), .int (nI a), .int (bI (decide (f = 0))), .int (nI acc), .int (nI i), .int (bI c1), .int (bI c2), v8, v9] [.int (bI c3)] M (pu_qI Q) := by
        intro c1 c2 c3 v8 v9 e1 e2 e3
        refine r_Company_waysBehind_94 ?_
        rw [hW.2.1, nI_bit (by omega) (by omega)]
        cases hb : st.2.2.1.testBit i with
        | false => rw [if_pos (by decide)]; exact last c1 c2 c3 true v9 e1 e2 e3 (by rw [hb]; rfl)
        | true =>
          rw [if_neg (by decide)]
          cases hz : decide (f = 0) with
          | true => rw [hz] at last; rw [if_neg (show ¬ bI true = 0 by decide)]; exact last c1 c2 c3 true v9 e1 e2 e3 (by rw [hb]; rfl)
          | false => rw [hz] at last; rw [if_pos (show bI false = 0 from rfl)]; exact last c1 c2 c3 false v9 e1 e2 e3 (by rw [hb]; rfl)
      have p73 : ∀ (c1 c2 : Bool) (v7 v8 v9 : Value), c1 = !X.testBit i → c2 = decide (an (st.1 i &&& X) (2 ^ a) = 0) → pu_R L (d + 2) 19 73 [.ref 6, .int (nI X), .int (nI a), .int (bI (decide (f = 0))), .int (nI acc), .int (nI i), .int (bI c1), v7, v8, v9] [.int (bI c2)] M (pu_qI Q) := by
        intro c1 c2 v7 v8 v9 e1 e2
        refine r_Company_waysBehind_73 ?_
        rw [nI_clamp (by omega), w2, nI_bit (by omega) (by omega)]
        refine ⟨inb_nI (by omega) (by decide), ?_⟩
        cases hb : (st.2.1 i).testBit a with
        | false => rw [if_pos (by decide)]; exact p94 c1 c2 true v8 v9 e1 e2 (by rw [hb]; rfl)
        | true => rw [if_neg (by decide)]; exact p94 c1 c2 false v8 v9 e1 e2 (by rw [hb]; rfl)
      have p48 : ∀ (c1 : Bool) (v6 v7 v8 v9 : Value), c1 = !X.testBit i → pu_R L (d + 2) 19 48 [.ref 6, .int (nI X), .int (nI a), .int (bI (decide (f = 0))), .int (nI acc), .int (nI i), v6, v7, v8, v9] [.int (bI c1)] M (pu_qI Q) := by
        intro c1 v6 v7 v8 v9 e1
        refine r_Company_waysBehind_48 ?_
        have hand : st.1 i &&& X < 128 := Nat.lt_of_le_of_lt Nat.and_le_left nb
        have han : an (st.1 i &&& X) (2 ^ a) < 2 ^ 7 := an_lt (n := 7) hand (by decide)
        rw [nI_clamp (by omega), w1, nI_and (by omega) (by omega), nI_pow (by omega), nI_andn (by omega) (by omega)]
        refine ⟨inb_nI (by omega) (by decide), ?_⟩
        by_cases hz : an (st.1 i &&& X) (2 ^ a) = 0
        · rw [if_pos (by rw [hz]; rfl)]; exact p73 c1 true v7 v8 v9 e1 (by rw [decide_eq_true hz])
        · rw [if_neg (by rw [n_0, nI_eq (by omega) (by decide)]; exact hz)]; exact p73 c1 false v7 v8 v9 e1 (by rw [decide_eq_false hz])
      rw [hG.1, if_neg (by rw [nI_leI (by omega) (by omega)]; omega), nI_bit (by omega) (by omega)]
      cases hb : X.testBit i with
      | false => rw [if_pos (by decide)]; exact p48 true _ _ _ _ (by rw [hb]; rfl)
      | true => rw [if_neg (by decide)]; exact p48 false _ _ _ _ (by rw [hb]; rfl)
  have hpc := un_pc (n := pc s) (X := X) (by omega) hX
  refine r_Company_waysBehind (c_Int_bitCount (by omega) ?_)
  rw [hG.1, show nI (pc s) - 1 = nI (pc s - 1) from pk_sub (a := pc s) (b := 1) (by omega)]
  by_cases hz : f = 0
  · rw [if_pos (by rw [show pc X = pc s - 1 by omega])]
    have := key (pc s) 0 0 mq_un mq_un mq_un mq_un (by omega) rfl
    rw [decide_eq_true hz] at this
    exact this
  · rw [if_neg (by rw [nI_eq (by omega) (by omega)]; omega)]
    have := key (pc s) 0 0 mq_un mq_un mq_un mq_un (by omega) rfl
    rw [decide_eq_false hz] at this
    exact this
theorem c_Co_please {Q : Int32 → pu_M → Prop} {w m : Nat} {ws : Nat → Wi} (hw : pu_isW w) (hG : GA P s M) (h1 : 2 ≤ pc s) (hn : pc s ≤ 7) (hWI : WI ws m) (hC : CW ws m M w) (H : ∀ M', only coS M M' → Q (nI (r_pl (pc s) (w_st s ws m))) M') : pu_I L (d + 3) 18 [.ref 6, .ref w] M Q := by
  have h2 := pw7 hn
  have h20 : 4 ≤ 2 ^ pc s := (Nat.pow_le_pow_right (by decide) h1 : 2 ^ 2 ≤ 2 ^ pc s)
  refine r_Company_rowsThatPlease hw (c_Co_takeWishes hw hG hn hWI hC (fun M1 g1 w1 o1 => ?_))
  have hst := w_st_bd (s := s) (ws := ws) hn m
  generalize w_st s ws m = st at w1 hst H
  unfold r_pl at H
  rw [w1.2.2]
  cases hnv : st.2.2.2 with
  | true =>
    rw [hnv, if_pos rfl] at H
    rw [if_neg (show ¬ bI true = 0 by decide)]
    exact H M1 o1
  | false =>
    rw [hnv, if_neg (by decide)] at H
    rw [if_pos (show bI false = 0 from rfl)]
    refine c_Co_all g1.1 (by omega) ?_
    have G10 : ∀ {M' : pu_M} {i : Nat} {x : Int32}, GA P s M' → GA P s (pu_wr M' 10 i x) := fun g => GA_w g (by rw [pu_wr_ne (by decide)]) (by rw [pu_wr_ne (by decide)]) (by rw [pu_wr_ne (by decide)])
    have W10 : ∀ {M' : pu_M} {i : Nat} {x : Int32}, WMm M' st → WMm (pu_wr M' 10 i x) st := fun h => by
      unfold WMm
      rw [pu_wr_ne (by decide), pu_wr_ne (by decide), pu_wr_ne (by decide)]; exact h
    -- the sum
    have sum : ∀ (M' : pu_M), GA P s M' → (∀ Y, 0 < Y → Y < 2 ^ pc s → RY s st M' Y) → only coS M M' → pu_R L (d + 3) 18 78 [.ref 6, .ref w, .int 0, .int 0] [] M' (pu_qI Q) := by
      intro M' g hR o
      have key : ∀ (j i acc : Nat), i + j = pc s → acc = fo (fun i acc => acc + r_Wy (pc s) st (pc s - 1) (2 ^ i) i) i 0 → pu_R L (d + 3) 18 78 [.ref 6, .ref w, .int (nI acc), .int (nI i)] [] M' (pu_qI Q) := by
        intro j
        induction j with
        | zero =>
          intro i acc hi hacc
          obtain rfl : i = pc s := by omega
          refine r_Company_rowsThatPlease_78 hw ?_
          rw [g.1, if_pos (by rw [nI_leI (by omega) (by omega)]; omega), hacc]
          exact H M' o
        | succ j ih =>
          intro i acc hi hacc
          refine r_Company_rowsThatPlease_78 hw ?_
          have hp2 : 2 ^ i < 2 ^ pc s := Nat.pow_lt_pow_right (by decide) (by omega)
          have hv := hR (2 ^ i) (Nat.two_pow_pos i) hp2 i (by omega)
          rw [show r_un (pc s) (2 ^ i) = pc s - 1 by have := r_un_1 (n := pc s) (i := i) (by omega); omega] at hv
          rw [g.1, if_neg (by rw [nI_leI (by omega) (by omega)]; omega), nI_pow (by omega), n_7, pk_mul, nI_add, nI_clamp (by omega), hv, nI_add, nI_1]
          exact ⟨inb_nI (by omega) (by decide), ih (i + 1) _ (by omega) (by rw [hacc]; rfl)⟩
      exact key (pc s) 0 0 (by omega) rfl
    have key : ∀ (X : Nat) (M' : pu_M) (v3 : Value), X < 2 ^ pc s → GA P s M' → WMm M' st → (∀ Y, X < Y → Y < 2 ^ pc s → RY s st M' Y) → only coS M M' → pu_R L (d + 3) 18 19 [.ref 6, .ref w, .int (nI X), v3] [] M' (pu_qI Q) := by
      intro X
      induction X with
      | zero =>
        intro M' v3 hX g wm a1 o
        refine r_Company_rowsThatPlease_19 hw ?_
        rw [if_pos (show nI 0 ≤ 0 by decide)]
        exact sum M' g a1 o
      | succ X ih =>
        intro M' v3 hX g wm a1 o
        refine r_Company_rowsThatPlease_19 hw ?_
        rw [if_neg (by rw [n_0, nI_leI (by omega) (by decide)]; omega)]
        have inn : ∀ (j a : Nat) (M' : pu_M), a + j = pc s → GA P s M' → WMm M' st → (∀ Y, X + 1 < Y → Y < 2 ^ pc s → RY s st M' Y) → (∀ b, b < a → M' 10 ((X + 1) * 7 + b) = nI (r_Wy (pc s) st (r_un (pc s) (X + 1)) (X + 1) b)) → only coS M M' → pu_R L (d + 3) 18 25 [.ref 6, .ref w, .int (nI (X + 1)), .int (nI a)] [] M' (pu_qI Q) := by
          intro j
          induction j with
          | zero =>
            intro a M' ha g wm a1 a2 o
            obtain rfl : a = pc s := by omega
            refine r_Company_rowsThatPlease_25 hw ?_
            rw [g.1, if_pos (by rw [nI_leI (by omega) (by omega)]; omega)]
            have em : nI (X + 1) + (-1) = nI X := by
              have := pk_sub (show 1 ≤ X + 1 by omega)
              rw [show X + 1 - 1 = X by omega] at this
              rw [← this, Int32.sub_eq_add_neg]; rfl
            rw [em]
            refine ih M' _ (by omega) g wm (fun Y h3 h4 => ?_) o
            by_cases e : Y = X + 1
            · subst e; exact a2
            · exact a1 Y (by omega) h4
          | succ j ih2 =>
            intro a M' ha g wm a1 a2 o
            refine r_Company_rowsThatPlease_25 hw ?_
            rw [g.1, if_neg (by rw [nI_leI (by omega) (by omega)]; omega)]
            refine c_Co_all g.1 (by omega) ?_
            have wr : ∀ x : Int32, x = nI (r_Wy (pc s) st (r_un (pc s) (X + 1)) (X + 1) a) → mq_inb (nI (X + 1) * 7 + nI a) 896 = true ∧ pu_R L (d + 3) 18 25 [.ref 6, .ref w, .int (nI (X + 1)), .int (nI a + 1)] [] (pu_wr M' 10 (nI (X + 1) * 7 + nI a).toNatClampNeg x) (pu_qI Q) := by
              intro x hx
              rw [n_7, pk_mul, nI_add, nI_clamp (by omega), nI_1]
              refine ⟨inb_nI (by omega) (by decide), ih2 (a + 1) _ (by omega) (G10 g) (W10 wm) (fun Y h3 h4 b hb => ?_) (fun b hb => ?_) (o.wr (by unfold coS; omega))⟩
              · rw [pu_wr_self, upd_n (by omega)]; exact a1 Y h3 h4 b hb
              · rw [pu_wr_self]
                by_cases e : b = a
                · subst e; rw [upd_s]; exact hx
                · rw [upd_n (by omega)]; exact a2 b (by omega)
            by_cases hall : X + 1 = 2 ^ pc s - 1
            · rw [if_pos (by rw [hall])]
              refine wr 1 ?_
              rw [hall, un_last]; rfl
            · rw [if_neg (by rw [nI_eq (by omega) (by omega)]; exact hall)]
              exact c_Co_ways g hn hst wm hX (by omega) (un_all hX hall) (fun i hi hb => a1 _ (or_gt hb) (or_lt7 hX hi)) (wr _ rfl)
        exact inn (pc s) 0 M' (by omega) g wm a1 (fun b hb => absurd hb (by omega)) o
    exact key (2 ^ pc s - 1) M1 _ (by omega) g1 w1 (fun Y h3 h4 => by omega) o1
end RY
def okRo (v w : Int32) : Prop := ¬ (v < 0 ∨ 65535 < v) ∧ (2 ≤ pc v.toNatClampNeg ∧ pc v.toNatClampNeg ≤ 7) ∧ (¬ (w < 0 ∨ 6 < w) ∨ w = 100 ∨ w = 101)
def tlRo (P : Pp) (v : Int32) : Prop := an v.toNatClampNeg (bs (tl P) 16) = 0
def bsRo (P : Pp) (s : Nat) : Int × Ro := match b_fm (r_w0 (tZ P s)) (xt (pc s) (pc s) 0) with
  | none => (0, [])
  | some z => z
def v_row (P : Pp) (ws : Nat → Wi) (m s : Nat) (w : Int32) : Int32 := if w = 101 then nI (r_pl (pc s) (w_st s ws m)) else if w = 100 then Int32.ofInt (bsRo P s).1 else if w < nI (pc s) then nI (mb s ((bsRo P s).2.getD w.toNatClampNeg 0)) else -4
section RX
variable {L d : Nat} {M : pu_M} {P : Pp} {y w m : Nat} {ws : Nat → Wi}
theorem c_x_row {Q : Int32 → pu_M → Prop} {v x : Int32} (h9 : M 0 9 = nI y) (hy : pu_isY y) (hC : CY P M y) (hI : PI P) (h13 : M 0 13 = nI w) (hw : pu_isW w) (hWI : WI ws m) (hW : CW ws m M w) (H0 : ¬ okRo v x → Q (-1000) M) (H1 : okRo v x → ¬ tlRo P v → Q (-2) M) (H2 : okRo v x → tlRo P v → ∀ M', only coS M M' → Q (v_row P ws m v.toNatClampNeg x) M') : pu_I L (d + 4) 136 [.ref 0, .int v, .int x] M Q := by
  refine r_x_row ?_
  rcases vbig (N := 65535) (B := 65535) rfl v with ⟨s, hs, rfl⟩ | hv
  · have hs : s < 65536 := by omega
    refine c_x_sizeOf hs ?_
    have hpc := pc_le s
    have ecl : (nI s).toNatClampNeg = s := nI_clamp (by omega)
    unfold okRo at H0 H1 H2
    unfold tlRo at H1 H2
    rw [ecl] at H0 H1 H2
    have hr : ¬ (nI s < 0 ∨ 65535 < nI s) := by
      intro z
      rcases z with z | z
      · exact nI_pos (by omega) z
      · rw [n_65535, nI_ltI (by omega) (by omega)] at z; omega
    have f32 : ∀ k : Bool, (k = true ↔ (¬ (x < 0 ∨ 6 < x) ∨ x = 100 ∨ x = 101)) → pu_R L (d + 4) 136 32 [.ref 0, .int (nI s), .int x, .int (nI (pc s)), mq_un] [.int (bI k)] M (pu_qI Q) := by
      intro k hk
      refine r_x_row_32 ?_
      by_cases c1 : pc s < 2
      · rw [if_pos (by rw [n_2, nI_ltI (by omega) (by omega)]; exact c1)]; exact H0 (fun z => by have := z.2.1; omega)
      rw [if_neg (by rw [n_2, nI_ltI (by omega) (by omega)]; exact c1)]
      by_cases c2 : 7 < pc s
      · rw [if_pos (by rw [n_7, nI_ltI (by omega) (by omega)]; exact c2)]; exact H0 (fun z => by have := z.2.1; omega)
      rw [if_neg (by rw [n_7, nI_ltI (by omega) (by omega)]; exact c2)]
      have hn : pc s ≤ 7 := by omega
      cases hkb : k with
      | false =>
        rw [if_pos (show bI false = 0 from rfl)]
        exact H0 (fun z => by have := hk.mpr z.2.2; rw [hkb] at this; exact absurd this (by decide))
      | true =>
        have hx := hk.mp hkb
        have ok : ¬ (nI s < 0 ∨ 65535 < nI s) ∧ (2 ≤ pc s ∧ pc s ≤ 7) ∧ (¬ (x < 0 ∨ 6 < x) ∨ x = 100 ∨ x = 101) := ⟨hr, ⟨by omega, hn⟩, hx⟩
        have H1 := H1 ok
        have H2 := H2 ok
        rw [if_neg (show ¬ bI true = 0 by decide)]
        refine ⟨y, h9, hy, c_Y_allTold hy hC hs ?_⟩
        by_cases ct : an s (bs (tl P) 16) = 0
        · rw [if_pos ct, if_neg (by decide)]
          have H2 := H2 ct
          obtain ⟨i0, z0, t1, t2, t3, t4, tb1, tb2, t5, t6⟩ := r_top (tZ_b P s) (n := pc s) (m := pc s - 1) (by omega) hn
          have eb : bsRo P s = (z0.1, i0 :: z0.2) := by unfold bsRo; rw [t3]
          have f82 : (x = 100 ∨ x = 101 ∨ ∃ k, x = nI k ∧ k < pc s) → pu_R L (d + 4) 136 82 [.ref 0, .int (nI s), .int x, .int (nI (pc s)), .int (bI true)] [] M (pu_qI Q) := by
            intro hcs
            refine r_x_row_82 ⟨y, h9, hy, c_Co_gather hy hC hI hs (by omega) (fun M1 g1 o1 => ?_)⟩
            unfold v_row at H2
            by_cases h101 : x = 101
            · rw [if_pos h101] at H2 ⊢
              refine ⟨w, ?_, hw, ?_⟩
              · rw [o1 0 (by unfold coS; omega)]; exact h13
              · exact c_Co_please hw g1 (by omega) hn hWI (CW_co hw hW o1) (fun M2 o2 => H2 M2 (o1.tr o2))
            · rw [if_neg h101] at H2 ⊢
              refine c_Co_weighRows g1 (by omega) hn (fun M2 g2 r2 o2 => ?_)
              have H2 := H2 M2 (o1.tr o2)
              by_cases h100 : x = 100
              · rw [if_pos h100] at H2 ⊢
                refine c_Co_mostInRow g2 (by omega) hn r2 t1 t5 (fun x' hx' => ?_)
                have : x' = Int32.ofInt (bsRo P s).1 := by
                  rw [eb]
                  apply Int32.toInt_inj.mp
                  rw [hx', ← t4, Int32.toInt_ofInt]
                  show z0.1 = z0.1.bmod (2 ^ 32)
                  exact (mq_bmod (by omega) (by omega)).symm
                rw [this]; exact H2
              · rw [if_neg h100] at H2 ⊢
                rcases hcs with z | z | ⟨kk, rfl, hkk⟩
                · exact absurd z h100
                · exact absurd z h101
                · rw [if_pos (by rw [nI_ltI (by omega) (by omega)]; exact hkk), nI_clamp (by omega), eb] at H2
                  exact c_Co_atPlace g2 (by omega) hn r2 hkk t3 H2
          by_cases h7 : 7 ≤ x
          · rw [if_pos h7]
            refine f82 ?_
            rcases hx with z | z | z
            · exfalso
              rw [Int32.le_iff_toInt_le] at h7
              have e7 : (7 : Int32).toInt = 7 := rfl
              have e6 : (6 : Int32).toInt = 6 := rfl
              exact z (Or.inr (by rw [Int32.lt_iff_toInt_lt]; omega))
            · exact Or.inl z
            · exact Or.inr (Or.inl z)
          · rw [if_neg h7]
            have hx6 : ¬ (x < 0 ∨ 6 < x) := by
              rcases hx with z | z | z
              · exact z
              · rw [z] at h7; exact absurd (by decide) h7
              · rw [z] at h7; exact absurd (by decide) h7
            obtain ⟨k, hk6, rfl⟩ := nI_of2 (M := 6) (n := 6) rfl (fun z => hx6 (Or.inl z)) (Int32.not_lt.mp (fun z => hx6 (Or.inr z)))
            by_cases hk : k < pc s
            · rw [if_pos (by rw [nI_ltI (by omega) (by omega)]; exact hk)]
              exact f82 (Or.inr (Or.inr ⟨k, rfl, hk⟩))
            · rw [if_neg (by rw [nI_ltI (by omega) (by omega)]; exact hk)]
              unfold v_row at H2
              rw [if_neg (by rw [n_101, nI_eq (by omega) (by decide)]; omega), if_neg (by rw [n_100, nI_eq (by omega) (by decide)]; omega), if_neg (by rw [nI_ltI (by omega) (by omega)]; exact hk)] at H2
              exact H2 M (only.rf _ _)
        · rw [if_neg ct, if_pos rfl]; exact H1 ct
    have yes : (¬ (x < 0 ∨ 6 < x) ∨ x = 100 ∨ x = 101) → pu_R L (d + 4) 136 32 [.ref 0, .int (nI s), .int x, .int (nI (pc s)), mq_un] [.int 1] M (pu_qI Q) := fun h => f32 true ⟨fun _ => h, fun _ => rfl⟩
    have no : ¬ (¬ (x < 0 ∨ 6 < x) ∨ x = 100 ∨ x = 101) → pu_R L (d + 4) 136 32 [.ref 0, .int (nI s), .int x, .int (nI (pc s)), mq_un] [.int 0] M (pu_qI Q) := fun h => f32 false ⟨fun z => absurd z (by decide), fun z => absurd z h⟩
    have e0 : (0 : Int32).toInt = 0 := rfl
    have e7 : (7 : Int32).toInt = 7 := rfl
    have e6 : (6 : Int32).toInt = 6 := rfl
    by_cases h0 : x < 0
    · rw [if_pos h0, if_neg (fun z => by rw [z] at h0; exact absurd h0 (by decide)), if_neg (fun z => by rw [z] at h0; exact absurd h0 (by decide))]
      refine no (fun z => ?_)
      rcases z with z | z | z
      · exact z (Or.inl h0)
      · rw [z] at h0; exact absurd h0 (by decide)
      · rw [z] at h0; exact absurd h0 (by decide)
    · rw [if_neg h0]
      by_cases h7 : x < 7
      · rw [if_pos h7]
        refine yes (Or.inl (fun z => ?_))
        rcases z with z | z
        · exact h0 z
        · rw [Int32.lt_iff_toInt_lt] at z h7; omega
      · rw [if_neg h7]
        by_cases h100 : x = 100
        · rw [if_pos h100]; exact yes (Or.inr (Or.inl h100))
        · rw [if_neg h100]
          by_cases h101 : x = 101
          · rw [if_pos h101]; exact yes (Or.inr (Or.inr h101))
          · rw [if_neg h101]
            refine no (fun z => ?_)
            rcases z with z | z | z
            · exact z (Or.inr (by rw [Int32.lt_iff_toInt_lt] at h7 ⊢; omega))
            · exact h100 z
            · exact h101 z
  · refine c_x_sizeOfN hv ?_
    have nok : ¬ okRo v x := fun z => z.1 hv
    have f32 : ∀ k : Int32, pu_R L (d + 4) 136 32 [.ref 0, .int v, .int x, .int (-1), mq_un] [.int k] M (pu_qI Q) := by
      intro k
      refine r_x_row_32 ?_
      rw [if_pos (by decide)]; exact H0 nok
    by_cases h0 : x < 0
    · rw [if_pos h0]
      by_cases h100 : x = 100
      · rw [if_pos h100]; exact f32 _
      · rw [if_neg h100]
        by_cases h101 : x = 101
        · rw [if_pos h101]; exact f32 _
        · rw [if_neg h101]; exact f32 _
    · rw [if_neg h0]
      by_cases h7 : x < 7
      · rw [if_pos h7]; exact f32 _
      · rw [if_neg h7]
        by_cases h100 : x = 100
        · rw [if_pos h100]; exact f32 _
        · rw [if_neg h100]
          by_cases h101 : x = 101
          · rw [if_pos h101]; exact f32 _
          · rw [if_neg h101]; exact f32 _
end RX
