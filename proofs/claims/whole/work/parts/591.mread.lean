/-! the model reads THE LAW: sums -/
def nP (tb : Nat → Nat) (e : Nat) (W : Wl) (o : Nat) (Q0 G : pu_M → Prop) (M : pu_M) (x : Lre) : Prop := l_po (fun f => ∀ M', M' 58 7 = f → mF M M' → Q0 M') (fun s => ∀ M', mT tb e M' W o s → mF M M' → G M') x
theorem nP_fr {tb : Nat → Nat} {e o : Nat} {W : Wl} {Q0 G : pu_M → Prop} {M M1 : pu_M} {x : Lre} (f : mF M M1) (h : nP tb e W o Q0 G M x) : nP tb e W o Q0 G M1 x :=
  l_po_mono h (fun _ _ a M' d o2 => a M' d (f.tr o2)) (fun _ _ b M' d o2 => b M' d (f.tr o2))
def lgl : Option Nat → Wl
  | none => []
  | some o => [(o, 0)]
theorem lgl_len (w : Option Nat) : (lgl w).length = l_ww w := by cases w <;> rfl
section NS
variable {L d : Nat} {tb : Nat → Nat} {e : Nat} {Q : Int32 → pu_M → Prop}
/-- the run from the head of readsSum's loop -/
def nHd (L d base : Nat) (Q : Int32 → pu_M → Prop) (M : pu_M) : Prop := ∀ v : Value, pu_R L (d + 5) 191 14 [.ref 58, .int (nI base), v] [] M (pu_qI Q)
def nFac (L d : Nat) (tb : Nat → Nat) (e : Nat) (Q : Int32 → pu_M → Prop) (r : Nat) : Prop := ∀ (base : Nat) (W : Wl) (M : pu_M) (s : Lst) (v2 : Value), mT tb e M W (6 - r) s → W.length ≤ lqn s → base ≤ W.length → lcn s ≤ lqn s → lqn s ≤ e → nP tb e W (6 - r) (Q 0) (nHd L d base Q) M (l_fac tb e r s) → pu_R L (d + 4) 189 0 [.ref 58, mq_un] [] M (pu_qI (fun x M5 => if x = 0 then Q 0 M5 else pu_R L (d + 5) 191 14 [.ref 58, .int (nI base), v2] [] M5 (pu_qI Q)))
theorem c_N_num {d : Nat} {W : Wl} {o : Nat} {Q : Int32 → pu_M → Prop} (hX : TX tb e) {q0 : Nat} : ∀ {j a : Nat} {M : pu_M} {s : Lst}, j ≤ 5 → lqn s + j = q0 + 5 → lqn s ≤ e → mT tb e M W o s → M 58 8 = nI a → (match l_num tb e j a (lqn s) with
    | .inl f => ∀ M', M' 58 7 = f → mF M M' → Q 0 M'
    | .inr x => ∀ M', mT tb e M' W o (l_atq x.2 s) → M' 58 8 = nI x.1 → mF M M' → Q 1 M') → pu_R L (d + 3) 182 10 [.ref 58, .int (nI q0)] [] M (pu_qI Q) := by
  have he := hX.1
  intro j
  induction j with
  | zero =>
    intro a M s hj5 hj hq h h8 H
    refine r_m_readsNumber_10 (c_m_isDigit hX (by omega) h.1 ?_)
    unfold l_num at H
    cases hk : chR tb e 48 10 (lqn s) with
    | none => rw [hk] at H; rw [if_pos (show bI (none : Option Nat).isSome = 0 from rfl)]; exact H M h h8 (mF.rf M)
    | some k =>
      rw [hk] at H
      rw [if_neg (show ¬ bI (some k).isSome = 0 by show ¬ bI true = 0; decide), h.1.2.1, n_5, nI_add, if_pos (by rw [show lqn s = q0 + 5 by omega])]
      have := c_N_wrong (L := L) (d := d + 1) (k := 2) h (Q := fun x6 M5 => (x6 = 0 ∨ x6 = 1) ∧ Q x6 M5) (fun M' a b => ⟨Or.inl rfl, H M' a b⟩)
      rw [h.1.2.1] at this
      exact this
  | succ j ih =>
    intro a M s hj5 hj hq h h8 H
    refine r_m_readsNumber_10 (c_m_isDigit hX (by omega) h.1 ?_)
    unfold l_num at H
    cases hk : chR tb e 48 10 (lqn s) with
    | none => rw [hk] at H; rw [if_pos (show bI (none : Option Nat).isSome = 0 from rfl)]; exact H M h h8 (mF.rf M)
    | some k =>
      rw [hk] at H
      obtain ⟨k1, k2, k3⟩ := chR_lt hk
      rw [if_neg (show ¬ bI (some k).isSome = 0 by show ¬ bI true = 0; decide), h.1.2.1, n_5, nI_add, if_neg (by rw [nI_eq (by omega) (by omega)]; omega)]
      refine c_N_here hX (by omega) h ?_
      have ec : ch tb e (lqn s) = nI (48 + k) := by unfold ch; rw [if_pos k2, k3]
      have e8 : ((10 : Int32) * nI a + ch tb e (lqn s)) - 48 = nI (10 * a + k) := by
        rw [ec, n_10, n_48, pk_mul, nI_add, pk_sub (by omega)]; congr 1; omega
      rw [h8, e8]
      have t1 : mT tb e (pu_wr M 58 8 (nI (10 * a + k))) W o s := mT_58 h (by decide) (by decide) (by decide) (by decide) (by decide)
      rw [t1.1.2.1, nI_1]
      have t2 := mT_adv t1
      have f2 : mF M (pu_wr (pu_wr M 58 8 (nI (10 * a + k))) 58 5 (nI (lqn s + 1))) := ((mF.rf M).w58 (by omega)).w58 (by omega)
      refine ih (a := 10 * a + k) (s := l_adv s) (by omega) (show lqn s + 1 + j = q0 + 5 by omega) k2 t2 (by rw [pu_wr_self, upd_n (by decide), pu_wr_self, upd_s]) ?_
      show match l_num tb e j (10 * a + k) (lqn s + 1) with | .inl f => _ | .inr x => _
      dsimp only at H
      cases hn : l_num tb e j (10 * a + k) (lqn s + 1) with
      | inl f => rw [hn] at H; exact fun M' a b => H M' a (f2.tr b)
      | inr x => rw [hn] at H; exact fun M' a b c => H M' a b (f2.tr c)
theorem c_N_atom {base : Nat} {W : Wl} {M : pu_M} {s : Lst} {v2 : Value} {o : Nat} (hX : TX tb e) (h : mT tb e M W o s) (hc : lcn s ≤ lqn s) (hq : lqn s ≤ e) (h91 : ¬ ch tb e (lqn s) = 91) (H : nP tb e W o (Q 0) (nHd L d base Q) M (l_atom tb e s)) : pu_R L (d + 4) 189 0 [.ref 58, mq_un] [] M (pu_qI (fun x M5 => if x = 0 then Q 0 M5 else pu_R L (d + 5) 191 14 [.ref 58, .int (nI base), v2] [] M5 (pu_qI Q))) := by
  have he := hX.1
  refine r_m_readsFactor_0 (c_N_here hX (by omega) h ?_)
  rw [if_neg h91]
  refine c_m_isDigit hX (by omega) h.1 ?_
  unfold l_atom at H
  cases hk : chR tb e 48 10 (lqn s) with
  | some k =>
    rw [hk] at H
    obtain ⟨k1, k2, k3⟩ := chR_lt hk
    rw [if_neg (show ¬ bI (some k).isSome = 0 by show ¬ bI true = 0; decide)]
    refine r_m_readsNumber ?_
    rw [h.1.2.1]
    have t1 : mT tb e (pu_wr M 58 8 0) W o s := mT_58 h (by decide) (by decide) (by decide) (by decide) (by decide)
    have f1 : mF M (pu_wr M 58 8 0) := (mF.rf M).w58 (by omega)
    refine c_N_num (j := 5) (a := 0) (s := s) hX (Nat.le_refl 5) rfl hq t1 (by rw [pu_wr_self, upd_s]; rfl) ?_
    have ok := l_num_ok (tb := tb) he (j := 5) (a := 0) (q := lqn s) (B := 1) hq (by omega)
    dsimp only at H
    cases hn : l_num tb e 5 0 (lqn s) with
    | inl f =>
      rw [hn] at H
      intro M' a b
      show if (0 : Int32) = 0 then _ else _
      rw [if_pos rfl, if_pos rfl]; exact H M' a (f1.tr b)
    | inr x =>
      rw [hn] at H ok
      intro M' a b c
      show if (1 : Int32) = 0 then _ else _
      rw [if_neg (by decide), b]
      refine c_N_notes (a := 0) (s := l_atq x.2 s) (by decide) (by have := ok.2.2; omega) (show lcn s < 260 by omega) a (fun M2 t2 f2 => ?_)
      rw [if_neg (by decide)]
      exact H M2 t2 ((f1.tr c).tr f2) v2
  | none =>
    rw [hk] at H
    rw [if_pos (show bI (none : Option Nat).isSome = 0 from rfl)]
    refine c_N_here hX (by omega) h (r_m_factOf ?_)
    dsimp only at H
    have good : ∀ k : Nat, l_vo (ch tb e (lqn s)) = some k → (if nI k = -1 then pu_I L (d + 3) 180 [.ref 58, .int 1, .int (M 58 5)] M (fun x11 M10 => (x11 = 0 ∨ x11 = 1) ∧ (if x11 = 0 then Q 0 M10 else pu_R L (d + 5) 191 14 [.ref 58, .int (nI base), v2] [] M10 (pu_qI Q))) else pu_V L (d + 3) 183 [.ref 58, .int 1, .int (nI k)] M (fun M9 => if (1 : Int32) = 0 then Q 0 (pu_wr M9 58 5 (M9 58 5 + 1)) else pu_R L (d + 5) 191 14 [.ref 58, .int (nI base), v2] [] (pu_wr M9 58 5 (M9 58 5 + 1)) (pu_qI Q))) := by
      intro k hv
      rw [hv] at H
      obtain ⟨v1, v3⟩ := l_vo_lt hv
      rw [if_neg (fun z => (nI_m1 (show k < 2 ^ 31 by omega)).mp z)]
      refine c_N_notes (a := 1) (by decide) (by omega) (by omega) h (fun M2 t2 f2 => ?_)
      rw [if_neg (by decide)]
      have eq2 : M2 58 5 = nI (lqn s) := t2.1.2.1
      rw [eq2, nI_1]
      exact H _ (mT_adv t2) (f2.w58 (by omega)) v2
    have bad : l_vo (ch tb e (lqn s)) = none → (if (-1 : Int32) = -1 then pu_I L (d + 3) 180 [.ref 58, .int 1, .int (M 58 5)] M (fun x11 M10 => (x11 = 0 ∨ x11 = 1) ∧ (if x11 = 0 then Q 0 M10 else pu_R L (d + 5) 191 14 [.ref 58, .int (nI base), v2] [] M10 (pu_qI Q))) else pu_V L (d + 3) 183 [.ref 58, .int 1, .int (-1)] M (fun M9 => if (1 : Int32) = 0 then Q 0 (pu_wr M9 58 5 (M9 58 5 + 1)) else pu_R L (d + 5) 191 14 [.ref 58, .int (nI base), v2] [] (pu_wr M9 58 5 (M9 58 5 + 1)) (pu_qI Q))) := by
      intro hv
      rw [hv] at H
      rw [if_pos rfl]
      refine c_N_wrong h (fun M' a b => ⟨Or.inl rfl, ?_⟩)
      rw [if_pos rfl]; exact H M' a b
    unfold l_vo at good bad
    by_cases c1 : ch tb e (lqn s) = 107
    · rw [if_pos c1]; exact good 1 (by rw [if_pos c1])
    rw [if_neg c1] at good bad ⊢
    by_cases c2 : ch tb e (lqn s) = 109
    · rw [if_pos c2]; exact good 4 (by rw [if_pos c2])
    rw [if_neg c2] at good bad ⊢
    by_cases c3 : ch tb e (lqn s) = 110
    · rw [if_pos c3]; exact good 6 (by rw [if_pos c3])
    rw [if_neg c3] at good bad ⊢
    by_cases c4 : ch tb e (lqn s) = 111
    · rw [if_pos c4]; exact good 5 (by rw [if_pos c4])
    rw [if_neg c4] at good bad ⊢
    by_cases c5 : ch tb e (lqn s) = 112
    · rw [if_pos c5]; exact good 0 (by rw [if_pos c5])
    rw [if_neg c5] at good bad ⊢
    by_cases c6 : ch tb e (lqn s) = 115
    · rw [if_pos c6]; exact good 2 (by rw [if_pos c6])
    rw [if_neg c6] at good bad ⊢
    by_cases c7 : ch tb e (lqn s) = 116
    · rw [if_pos c7]; exact good 7 (by rw [if_pos c7])
    rw [if_neg c7] at good bad ⊢
    by_cases c8 : ch tb e (lqn s) = 117
    · rw [if_pos c8]; exact good 3 (by rw [if_pos c8])
    rw [if_neg c8] at good bad ⊢
    exact bad rfl
def l_okl (w : Option Nat) : Prop := ∀ o, w = some o → 4 ≤ o ∧ o ≤ 6
def l_okw (w : Option Nat) : Prop := ∀ o, w = some o → o = 2 ∨ o = 3
theorem l_emw_q2 (w lag : Option Nat) (s : Lst) : lqn (l_emw w (l_emw lag s)) = lqn s := by rw [l_emw_q, l_emw_q]
theorem l_ww_le (w : Option Nat) : l_ww w ≤ 1 := by cases w with
  | none => exact Nat.zero_le 1
  | some o => exact Nat.le_refl 1
/-- all that waits in a sum is closed -/
theorem c_N_close1 {lag w : Option Nat} {W : Wl} {M : pu_M} {s : Lst} {o : Nat} {Q : pu_M → Prop} (hl : l_okl lag) (hw : l_okw w) (hW0 : l_nop W 2) (hc : lcn s + l_ww lag + l_ww w ≤ 240) (hW : W.length ≤ 240) (h : mT tb e M (lgl lag ++ (lgl w ++ W)) o s) (H : ∀ M', mT tb e M' W o (l_emw w (l_emw lag s)) → mF M M' → Q M') : pu_V L (d + 2) 188 [.ref 58, .int 1] M Q := by
  refine r_m_closesSums ?_
  have two : ∀ (M1 : pu_M) (s1 : Lst), lcn s1 + l_ww w ≤ 240 → mT tb e M1 (lgl w ++ W) o s1 → (∀ M', mT tb e M' W o (l_emw w s1) → mF M1 M' → Q M') → pu_R L (d + 2) 188 0 [.ref 58, .int 1] [] M1 (pu_qV Q) := by
    intro M1 s1 hc1 h1 H1
    cases w with
    | none => exact c_N_cloE (Or.inr hW0) (by omega) h1 (H1 M1 h1 (mF.rf M1))
    | some a =>
      have hc1 : lcn s1 + 1 ≤ 240 := hc1
      exact c_N_clo2 (W := W) (hw a rfl) (by omega) (by omega) h1 (fun M2 t2 f2 => c_N_cloE (Or.inr hW0) (by omega) t2 (H1 M2 t2 f2))
  cases lag with
  | none => exact two M s (by have : l_ww none = 0 := rfl; omega) h H
  | some a =>
    obtain ⟨a1, a2⟩ := hl a rfl
    have hc : lcn s + 1 + l_ww w ≤ 240 := hc
    refine c_N_clo4 (W := lgl w ++ W) a1 a2 (by omega) (by rw [List.length_append, lgl_len]; have := l_ww_le w; omega) h (fun M1 t1 f1 => two M1 (l_emt a 0 s) (show lcn s + 1 + l_ww w ≤ 240 from hc) t1 (fun M2 t2 f2 => H M2 t2 (f1.tr f2)))
theorem c_N_close0 {lag w : Option Nat} {W : Wl} {M : pu_M} {s : Lst} {o : Nat} {Q : pu_M → Prop} (hl : l_okl lag) (hw : l_okw w) (hW0 : l_nop W 2) (hc : lcn s + l_ww lag ≤ 240) (hW : W.length ≤ 240) (h : mT tb e M (lgl lag ++ (lgl w ++ W)) o s) (H : ∀ M', mT tb e M' (lgl w ++ W) o (l_emw lag s) → mF M M' → Q M') : pu_V L (d + 2) 188 [.ref 58, .int 0] M Q := by
  refine r_m_closesSums ?_
  have hlen : (lgl w ++ W).length ≤ 241 := by
    rw [List.length_append, lgl_len]
    have : l_ww w ≤ 1 := by cases w with
      | none => exact Nat.zero_le 1
      | some o => exact Nat.le_refl 1
    omega
  have hn : l_nop (lgl w ++ W) 4 := by
    intro x W' e1
    cases w with
    | none => have := hW0 x W' e1; omega
    | some a =>
      have e1 : (a, 0) :: W = x :: W' := e1
      cases e1
      have := hw a rfl
      left; show a < 4; omega
  cases lag with
  | none => exact c_N_cloE (Or.inl ⟨rfl, hn⟩) (by omega) h (H M h (mF.rf M))
  | some a =>
    obtain ⟨a1, a2⟩ := hl a rfl
    have hc : lcn s + 1 ≤ 240 := hc
    exact c_N_clo4 (W := lgl w ++ W) a1 a2 (by omega) (by omega) h (fun M1 t1 f1 => c_N_cloE (Or.inl ⟨rfl, hn⟩) (by omega) t1 (H M1 t1 f1))
/-- the loop of a sum: what is below it in W0, how it ends told apart -/
theorem c_N_loop {r base of : Nat} {W0 Wf : Wl} {G : pu_M → Prop} {cont : Lst → Lre} (hX : TX tb e) (hfac : nFac L d tb e Q r) (hb : base ≤ W0.length) (hW0 : l_nop W0 2)
    (END : ∀ (M : pu_M) (s0 : Lst) (lag w : Option Nat), l_okl lag → l_okw w → mT tb e M (lgl lag ++ (lgl w ++ W0)) (6 - r) s0 → W0.length ≤ lqn s0 → lqn s0 ≤ e → lcn s0 + l_ww lag + l_ww w ≤ lqn s0 → l_so (ch tb e (lqn s0)) = none → nP tb e Wf of (Q 0) G M (cont (l_emw w (l_emw lag s0))) → nHd L d base Q M) :
    ∀ {g : Nat} {w lag : Option Nat} {M : pu_M} {s0 : Lst}, l_okl lag → l_okw w → mT tb e M (lgl lag ++ (lgl w ++ W0)) (6 - r) s0 → W0.length + l_ww lag + l_ww w ≤ lqn s0 → lqn s0 ≤ e → e < lqn s0 + g → lcn s0 + l_ww lag + l_ww w ≤ lqn s0 → nP tb e Wf of (Q 0) G M (l_bn (l_sumL tb e (l_fac tb e r) g w (l_emw lag s0)) cont) → nHd L d base Q M := by
  have he := hX.1
  intro g
  induction g with
  | zero => intro w lag M s0 hl hw h hlen hq hg; omega
  | succ g ih =>
    intro w lag M s0 hl hw h hlen hq hg hc H v
    have eq1 : lqn (l_emw lag s0) = lqn s0 := l_emw_q lag s0
    have ec1 : lcn (l_emw lag s0) = lcn s0 + l_ww lag := l_emw_c lag s0
    have eu : l_sumL tb e (l_fac tb e r) (g + 1) w (l_emw lag s0) = match l_so (ch tb e (lqn (l_emw lag s0))) with
      | none => .inr (l_emw w (l_emw lag s0))
      | some o => if o < 4 then l_bn (l_fac tb e r (l_adv (l_emw w (l_emw lag s0)))) (l_sumL tb e (l_fac tb e r) g (some o)) else l_bn (l_fac tb e r (l_adv (l_emw lag s0))) (fun s' => l_sumL tb e (l_fac tb e r) g w (l_emt o 0 s')) := rfl
    rw [eu, eq1] at H
    cases ho : l_so (ch tb e (lqn s0)) with
    | none =>
      rw [ho] at H
      exact END M s0 lag w hl hw h (by omega) hq hc ho H v
    | some o =>
      rw [ho] at H
      dsimp only at H
      obtain ⟨o1, o2, o3⟩ := l_so_lt ho
      have hk := l_so_k ho
      refine r_m_readsSum_14 (c_N_here hX (by omega) h (r_m_sumSign ?_))
      -- the stack's bound
      have hwl := l_ww_le w
      have hll := l_ww_le lag
      -- + and -
      have add : o < 4 → pu_R L (d + 5) 191 38 [.ref 58, .int (nI base), .int (nI o)] [.int 1, .ref 58] M (pu_qI Q) := by
        intro c4
        rw [if_pos c4] at H
        refine r_m_readsSum_38 (c_N_close1 hl hw hW0 (by omega) (by omega) h (fun M1 t1 f1 => ?_))
        have e11 : M1 58 11 = nI W0.length := t1.2.2.1.1
        rw [e11, pu_wr_ne (show (58 : Nat) ≠ 64 by decide), e11, nI_clamp (by omega), nI_1]
        refine ⟨inb_nI (by omega) (by decide), fun M3 e3 => ?_⟩
        have eo : (1048576 : Int32) * nI o = nI (1048576 * o + 0) := by rw [n_1048576, pk_mul, Nat.add_zero]
        rw [eo] at e3
        have t2 := mT_push (x := (o, 0)) t1 (show o ≤ 14 by omega) (show 0 < 1048576 by decide)
        have e5 : (pu_wr (pu_wr M1 64 W0.length (nI (1048576 * o + 0))) 58 11 (nI (W0.length + 1))) 58 5 = nI (lqn s0) := by have := t2.1.2.1; rwa [l_emw_q2] at this
        rw [e5, nI_1] at e3
        have t3 := mT_adv t2
        rw [l_emw_q2] at t3
        have f3 : mF M M3 := by rw [e3]; exact ((f1.w64).w58 (by omega)).w58 (by omega)
        have t3 : mT tb e M3 ((o, 0) :: W0) (6 - r) (l_adv (l_emw w (l_emw lag s0))) := by rw [e3]; exact t3
        have hq3 : lqn (l_adv (l_emw w (l_emw lag s0))) = lqn s0 + 1 := by show lqn (l_emw w (l_emw lag s0)) + 1 = _; rw [l_emw_q2]
        have hc3 : lcn (l_adv (l_emw w (l_emw lag s0))) = lcn s0 + l_ww lag + l_ww w := by show lcn (l_emw w (l_emw lag s0)) = _; rw [l_emw_c, ec1]
        refine r_m_readsFactor (hfac base ((o, 0) :: W0) M3 _ _ t3 (show W0.length + 1 ≤ _ by omega) (show base ≤ W0.length + 1 by omega) (by omega) (by omega) ?_)
        have H3 := nP_fr f3 H
        unfold nP at H3
        rw [l_po_bn, l_po_bn] at H3
        have ok := l_fac_ok (tb := tb) (r := r) he (s := l_adv (l_emw w (l_emw lag s0))) (by omega)
        refine l_po_mono (l_po_and ok H3) (fun f hfx z M4 a4 f4 => z.2 M4 a4 f4) (fun s1 hsx z M4 t4 f4 => ?_)
        obtain ⟨⟨a1, a2, a3⟩, H4⟩ := z
        refine ih (w := some o) (lag := none) (M := M4) (s0 := s1) (fun _ z => by cases z) (fun o' z => by cases z; omega) t4 (show W0.length + 0 + 1 ≤ lqn s1 by omega) a2 (by omega) (show lcn s1 + 0 + 1 ≤ lqn s1 by omega) ?_
        have H5 : nP tb e Wf of (Q 0) G M3 (l_bn (l_sumL tb e (l_fac tb e r) g (some o) s1) cont) := l_po_bn.mpr H4
        exact nP_fr f4 H5
      have mul : ¬ o < 4 → pu_R L (d + 5) 191 38 [.ref 58, .int (nI base), .int (nI o)] [.int 0, .ref 58] M (pu_qI Q) := by
        intro c4
        rw [if_neg c4] at H
        refine r_m_readsSum_38 (c_N_close0 hl hw hW0 (by omega) (by omega) h (fun M1 t1 f1 => ?_))
        have hlen1 : (lgl w ++ W0).length = l_ww w + W0.length := by rw [List.length_append, lgl_len]
        have e11 : M1 58 11 = nI (lgl w ++ W0).length := t1.2.2.1.1
        rw [e11, pu_wr_ne (show (58 : Nat) ≠ 64 by decide), e11, nI_clamp (by omega), nI_1]
        refine ⟨inb_nI (by omega) (by decide), fun M3 e3 => ?_⟩
        have eo : (1048576 : Int32) * nI o = nI (1048576 * o + 0) := by rw [n_1048576, pk_mul, Nat.add_zero]
        rw [eo] at e3
        have t2 := mT_push (x := (o, 0)) t1 (show o ≤ 14 by omega) (show 0 < 1048576 by decide)
        have e5 : (pu_wr (pu_wr M1 64 (lgl w ++ W0).length (nI (1048576 * o + 0))) 58 11 (nI ((lgl w ++ W0).length + 1))) 58 5 = nI (lqn s0) := by have := t2.1.2.1; rwa [eq1] at this
        rw [e5, nI_1] at e3
        have t3 := mT_adv t2
        rw [eq1] at t3
        have f3 : mF M M3 := by rw [e3]; exact ((f1.w64).w58 (by omega)).w58 (by omega)
        have t3 : mT tb e M3 ((o, 0) :: (lgl w ++ W0)) (6 - r) (l_adv (l_emw lag s0)) := by rw [e3]; exact t3
        have hq3 : lqn (l_adv (l_emw lag s0)) = lqn s0 + 1 := by show lqn (l_emw lag s0) + 1 = _; rw [eq1]
        have hc3 : lcn (l_adv (l_emw lag s0)) = lcn s0 + l_ww lag := ec1
        refine r_m_readsFactor (hfac base ((o, 0) :: (lgl w ++ W0)) M3 _ _ t3 (show (lgl w ++ W0).length + 1 ≤ _ by omega) (show base ≤ (lgl w ++ W0).length + 1 by omega) (by omega) (by omega) ?_)
        have H3 := nP_fr f3 H
        unfold nP at H3
        rw [l_po_bn, l_po_bn] at H3
        have ok := l_fac_ok (tb := tb) (r := r) he (s := l_adv (l_emw lag s0)) (by omega)
        refine l_po_mono (l_po_and ok H3) (fun f hfx z M4 a4 f4 => z.2 M4 a4 f4) (fun s1 hsx z M4 t4 f4 => ?_)
        obtain ⟨⟨a1, a2, a3⟩, H4⟩ := z
        refine ih (w := w) (lag := some o) (M := M4) (s0 := s1) (fun o' z => by cases z; omega) hw t4 (show W0.length + 1 + l_ww w ≤ lqn s1 by omega) a2 (by omega) (show lcn s1 + 1 + l_ww w ≤ lqn s1 by omega) ?_
        have H5 : nP tb e Wf of (Q 0) G M3 (l_bn (l_sumL tb e (l_fac tb e r) g w (l_emt o 0 s1)) cont) := l_po_bn.mpr H4
        exact nP_fr f4 H5
      rw [hk]
      have hcs : o = 2 ∨ o = 3 ∨ o = 4 ∨ o = 5 ∨ o = 6 := by omega
      rcases hcs with rfl | rfl | rfl | rfl | rfl
      · rw [if_pos (show kop 2 = 43 from rfl), if_neg (by decide), if_neg (by decide)]
        exact add (by decide)
      · rw [if_neg (show ¬ kop 3 = 43 by decide), if_pos (show kop 3 = 45 from rfl), if_neg (by decide), if_neg (by decide)]
        exact add (by decide)
      · rw [if_neg (show ¬ kop 4 = 43 by decide), if_neg (show ¬ kop 4 = 45 by decide), if_pos (show kop 4 = 42 from rfl), if_neg (by decide), if_pos (by decide)]
        exact mul (by decide)
      · rw [if_neg (show ¬ kop 5 = 43 by decide), if_neg (show ¬ kop 5 = 45 by decide), if_neg (show ¬ kop 5 = 42 by decide), if_pos (show kop 5 = 47 from rfl), if_neg (by decide), if_pos (by decide)]
        exact mul (by decide)
      · rw [if_neg (show ¬ kop 6 = 43 by decide), if_neg (show ¬ kop 6 = 45 by decide), if_neg (show ¬ kop 6 = 42 by decide), if_neg (show ¬ kop 6 = 47 by decide), if_pos (show kop 6 = 37 from rfl), if_neg (by decide), if_pos (by decide)]
        exact mul (by decide)
end NS
