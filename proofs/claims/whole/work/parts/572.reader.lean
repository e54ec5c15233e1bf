/-! no step is lost -/
section MO
variable {tb : Nat → Nat} {e : Nat}
def l_mo (s : Lst) : Lre → Prop := l_po (fun _ => True) (fun s' => lcn s ≤ lcn s')
theorem l_bn_mo {s : Lst} {x : Lre} {k : Lst → Lre} (hx : l_mo s x) (hk : ∀ s', x = .inr s' → lcn s ≤ lcn s' → l_mo s (k s')) : l_mo s (l_bn x k) := by
  cases x with
  | inl f => trivial
  | inr s' => exact hk s' rfl hx
theorem l_mo_le {s s' : Lst} {x : Lre} (h : l_mo s' x) (hs : lcn s ≤ lcn s') : l_mo s x := by
  cases x with
  | inl f => trivial
  | inr s2 => exact Nat.le_trans hs h
theorem l_atom_mo {s : Lst} : l_mo s (l_atom tb e s) := by
  unfold l_atom
  cases chR tb e 48 10 (lqn s) with
  | some k =>
    dsimp only
    cases l_num tb e 5 0 (lqn s) with
    | inl f => trivial
    | inr x => exact Nat.le_succ (lcn s)
  | none =>
    dsimp only
    cases l_vo (ch tb e (lqn s)) with
    | none => trivial
    | some k => exact Nat.le_succ (lcn s)
theorem l_sumL_mo {fc : Lst → Lre} (hf : ∀ s, l_mo s (fc s)) : ∀ {g : Nat} {w : Option Nat} {s : Lst}, l_mo s (l_sumL tb e fc g w s) := by
  intro g
  induction g with
  | zero => intro w s; trivial
  | succ g ih =>
    intro w s
    unfold l_sumL
    have hw : lcn s ≤ lcn (l_emw w s) := by rw [l_emw_c]; omega
    cases l_so (ch tb e (lqn s)) with
    | none => exact hw
    | some o =>
      dsimp only
      by_cases c4 : o < 4
      · rw [if_pos c4]
        exact l_bn_mo (l_mo_le (hf _) hw) (fun s' _ h => l_mo_le ih h)
      · rw [if_neg c4]
        exact l_bn_mo (hf (l_adv s)) (fun s' _ h => l_mo_le ih (Nat.le_trans h (Nat.le_succ (lcn s'))))
theorem l_sumR_mo {fc : Lst → Lre} (hf : ∀ s, l_mo s (fc s)) {s : Lst} : l_mo s (l_sumR tb e fc s) := l_bn_mo (hf s) (fun s' _ h => l_mo_le (l_sumL_mo hf) h)
theorem l_end_mo {c : Int32} {s : Lst} : l_mo s (l_end tb e c s) := by
  unfold l_end
  by_cases z : ch tb e (lqn s) = c
  · rw [if_pos z]; exact Nat.le_refl (lcn s)
  · rw [if_neg z]; trivial
theorem l_fac_mo : ∀ {r : Nat} {s : Lst}, l_mo s (l_fac tb e r s) := by
  intro r
  induction r with
  | zero =>
    intro s
    unfold l_fac
    by_cases z : ch tb e (lqn s) = 91
    · rw [if_pos z]; trivial
    · rw [if_neg z]; exact l_atom_mo
  | succ r ih =>
    intro s
    unfold l_fac
    by_cases z : ch tb e (lqn s) = 91
    · rw [if_pos z]
      exact l_bn_mo (l_sumR_mo (fun _ => ih) (s := l_adv s)) (fun s' _ h => l_mo_le l_end_mo h)
    · rw [if_neg z]; exact l_atom_mo
theorem l_sum_mo {r : Nat} {s : Lst} : l_mo s (l_sumR tb e (l_fac tb e r) s) := l_sumR_mo (fun _ => l_fac_mo)
theorem l_cmp_mo {r : Nat} {s : Lst} : l_mo s (l_cmp tb e r s) := by
  unfold l_cmp
  refine l_bn_mo l_sum_mo (fun s' _ h => l_mo_le ?_ h)
  unfold l_cmp2
  cases l_co (ch tb e (lqn s')) with
  | none => trivial
  | some o => exact l_bn_mo (l_sum_mo (s := l_adv s')) (fun s2 _ h => Nat.le_trans h (Nat.le_succ (lcn s2)))
theorem l_conL_mo {ts : Lst → Lre} (hf : ∀ s, l_mo s (ts s)) : ∀ {g : Nat} {ot op : Option Nat} {s : Lst}, l_mo s (l_conL tb e ts g ot op s) := by
  intro g
  induction g with
  | zero => intro ot op s; trivial
  | succ g ih =>
    intro ot op s
    unfold l_conL
    have w1 : lcn (l_pat ot s) = lcn s := l_pat_c ot s
    have w2 : lcn (l_pat op (l_pat ot s)) = lcn s := by rw [l_pat_c, l_pat_c]
    by_cases h38 : ch tb e (lqn s) = 38
    · rw [if_pos h38]
      exact l_bn_mo (l_mo_le (hf _) (show lcn s ≤ lcn (l_pat ot s) + 1 by omega)) (fun s' _ h => l_mo_le ih h)
    · rw [if_neg h38]
      by_cases h124 : ch tb e (lqn s) = 124
      · rw [if_pos h124]
        exact l_bn_mo (l_mo_le (hf _) (show lcn s ≤ lcn (l_pat op (l_pat ot s)) + 1 by omega)) (fun s' _ h => l_mo_le ih h)
      · rw [if_neg h124]
        show lcn s ≤ lcn (l_pat op (l_pat ot s))
        omega
theorem l_conR_mo {ts : Lst → Lre} (hf : ∀ s, l_mo s (ts s)) {s : Lst} : l_mo s (l_conR tb e ts s) := l_bn_mo (hf s) (fun s' _ h => l_mo_le (l_conL_mo hf) h)
theorem l_tst_mono : ∀ {r : Nat} {s : Lst}, l_mo s (l_tst tb e r s) := by
  intro r
  induction r with
  | zero =>
    intro s
    unfold l_tst
    by_cases h33 : ch tb e (lqn s) = 33
    · rw [if_pos h33]; trivial
    · rw [if_neg h33]
      by_cases h40 : ch tb e (lqn s) = 40
      · rw [if_pos h40]; trivial
      · rw [if_neg h40]; exact l_cmp_mo
  | succ r ih =>
    intro s
    unfold l_tst
    by_cases h33 : ch tb e (lqn s) = 33
    · rw [if_pos h33]
      exact l_bn_mo (ih (s := l_adv s)) (fun s' _ h => Nat.le_trans h (Nat.le_succ (lcn s')))
    · rw [if_neg h33]
      by_cases h40 : ch tb e (lqn s) = 40
      · rw [if_pos h40]
        exact l_bn_mo (l_conR_mo (fun _ => ih) (s := l_adv s)) (fun s' _ h => l_mo_le l_end_mo h)
      · rw [if_neg h40]; exact l_cmp_mo
end MO
/-! the class reads THE LAW: conditions -/
section KQ
variable {L : Nat} {tb : Nat → Nat} {e y : Nat}
def kTst (L : Nat) (tb : Nat → Nat) (e y r : Nat) : Prop := ∀ (D : Nat) (M : pu_M) (s : Lst) (Q : pu_M → Prop), 2 * r + 5 ≤ D → kT tb e M y s → lcn s ≤ lqn s → lqn s ≤ e → kP tb e y M Q (l_tst tb e r s) → pu_V L D 49 [.ref 49, .int (nI (6 - r))] M Q
theorem c_K_cmp {r d : Nat} (hX : TX tb e) (hy : pu_isL y) (hr : r ≤ 6) {M : pu_M} {s : Lst} {Q : pu_M → Prop} (hd : 2 * r + 2 ≤ d) (h : kT tb e M y s) (hc : lcn s ≤ lqn s) (hq : lqn s ≤ e) (h33 : ¬ ch tb e (lqn s) = 33) (h40 : ¬ ch tb e (lqn s) = 40) (H : kP tb e y M Q (l_cmp tb e r s)) : pu_V L (d + 3) 49 [.ref 49, .int (nI (6 - r))] M Q := by
  have he := hX.1
  have hfac := c_K_fac (L := L) hX hy r hr
  refine r_LawReader_readTest ?_
  rw [h.2.1.2.2.2.2.1, if_neg h33, if_neg h40]
  unfold l_cmp kP at H
  rw [l_po_bn] at H
  have ok := l_sum_ok (tb := tb) (r := r) he (s := s) hq
  refine c_K_sum hX hy hfac (by omega) h hc hq ?_
  refine l_po_mono (l_po_and ok H) (fun f hfx z M1 h1 f1 => ?_) (fun s1 hsx z M1 h1 f1 => ?_)
  · obtain ⟨d, rfl⟩ : ∃ d', d = d' + 2 := ⟨d - 2, by omega⟩
    have hf := neg_ne z.1
    rw [h1.2.1.2.1, if_neg (by decide), if_neg (by decide), if_neg (by decide)]
    exact c_K_failD hf h1 (c_K_stepD hy hf h1 (fun M2 h2 o2 => c_K_sumD hy hf h2 (fun M3 h3 o3 => ⟨y, h3.1, hy, c_K_addD hy h3 (fun x M4 h4 o4 => z.2 M4 h4 (((f1.tr o2).tr o3).tr o4))⟩)))
  · obtain ⟨⟨a1, a2, a3⟩, H1⟩ := z
    have H1 := kP_fr f1 H1
    unfold l_cmp2 at H1
    have hx1 : M1 1 2 = ch tb e (lqn s1) := h1.2.1.2.2.2.2.1
    rw [hx1]
    have good : ∀ o : Nat, l_co (ch tb e (lqn s1)) = some o → pu_V L (d + 2) 83 [.ref 1] M1 (fun M2 => pu_V L (d + 2) 50 [.ref 49, .int (nI (6 - r))] M2 (fun M3 => ∃ y4, M3 49 1 = nI y4 ∧ pu_isL y4 ∧ pu_I L (d + 2) 36 [.ref y4, .int (ch tb e (lqn s1)), .int 0] M3 (fun _ M6 => Q M6))) := by
      intro o ho
      rw [ho] at H1
      obtain ⟨o1, o2, o3⟩ := l_co_lt ho
      refine c_K_step hX hy (by omega) h1 (fun M2 h2 f2 => ?_)
      have H2 := kP_fr f2 H1
      unfold kP at H2
      rw [l_po_bn] at H2
      have ok2 := l_sum_ok (tb := tb) (r := r) he (s := l_adv s1) o1
      have hq2 : lqn (l_adv s1) = lqn s1 + 1 := rfl
      have hc2 : lcn (l_adv s1) = lcn s1 := rfl
      refine c_K_sum hX hy hfac (by omega) h2 (by omega) o1 ?_
      refine l_po_mono (l_po_and ok2 H2) (fun f hfx z M3 h3 f3 => ?_) (fun s2 hsx z M3 h3 f3 => ?_)
      · exact ⟨y, h3.1, hy, c_K_addD hy h3 (fun x M4 h4 f4 => z.2 M4 h4 (f3.tr f4))⟩
      · obtain ⟨⟨b1, b2, b3⟩, H3⟩ := z
        rw [l_co_k ho]
        exact ⟨y, h3.1, hy, c_K_add (v := 0) hy (by omega) h3 (fun M4 h4 f4 => H3 M4 h4 (f3.tr f4))⟩
    by_cases c1 : ch tb e (lqn s1) = 60
    · rw [if_pos c1]; exact good 7 (by unfold l_co; rw [if_pos c1])
    rw [if_neg c1]
    by_cases c2 : ch tb e (lqn s1) = 62
    · rw [if_pos c2]; exact good 8 (by unfold l_co; rw [if_neg c1, if_pos c2])
    rw [if_neg c2]
    by_cases c3 : ch tb e (lqn s1) = 61
    · rw [if_pos c3]; exact good 9 (by unfold l_co; rw [if_neg c1, if_neg c2, if_pos c3])
    rw [if_neg c3]
    have hn : l_co (ch tb e (lqn s1)) = none := by unfold l_co; rw [if_neg c1, if_neg c2, if_neg c3]
    rw [hn] at H1
    obtain ⟨d, rfl⟩ : ∃ d', d = d' + 2 := ⟨d - 2, by omega⟩
    have hf : ¬ flt 1 (lqn s1) = 0 := neg_ne (flt_neg (by decide) (by decide) (by omega))
    refine c_K_fail hy (by omega) h1 (fun M2 h2 f2 => c_K_stepD hy hf h2 (fun M3 h3 o3 => c_K_sumD hy hf h3 (fun M4 h4 o4 => ⟨y, h4.1, hy, c_K_addD hy h4 (fun x M5 h5 o5 => H1 M5 h5 (((f2.tr o3).tr o4).tr o5))⟩)))
theorem c_K_conL {r : Nat} (hX : TX tb e) (hy : pu_isL y) (htst : kTst L tb e y r) {D : Nat} {Q : pu_M → Prop} (hD : 2 * r + 6 ≤ D) : ∀ {g i : Nat} {ot op : Option Nat} {M : pu_M} {s : Lst}, (∀ p, ot = some p → p < lcn s) → (∀ p, op = some p → p < lcn s) → i + 1 ≤ lqn s → lcn s ≤ lqn s → lqn s ≤ e → e < lqn s + g → kT tb e M y s → kP tb e y M Q (l_conL tb e (l_tst tb e r) g ot op s) → pu_R L D 48 12 [.ref 49, .int (nI (6 - r)), .int (pJ ot), .int (pJ op), .int (nI i)] [] M (pu_qV Q) := by
  have he := hX.1
  obtain ⟨d, rfl⟩ : ∃ d, D = d + 6 := ⟨D - 6, by omega⟩
  intro g
  induction g with
  | zero => intro i ot op M s w1 w2 hi hc hq hg h H; omega
  | succ g ih =>
    intro i ot op M s w1 w2 hi hc hq hg h H
    refine r_LawReader_readCondition_12 ?_
    have hx : M 1 2 = ch tb e (lqn s) := h.2.1.2.2.2.2.1
    unfold l_conL at H
    have fin : ¬ ch tb e (lqn s) = 38 → ¬ ch tb e (lqn s) = 124 → ∃ y1, M 49 1 = nI y1 ∧ pu_isL y1 ∧ pu_V L (d + 5) 37 [.ref y1, .int (pJ ot)] M (fun M3 => ∃ y4, M3 49 1 = nI y4 ∧ pu_isL y4 ∧ pu_V L (d + 5) 37 [.ref y4, .int (pJ op)] M3 (fun M6 => Q M6)) := by
      intro h38 h124
      rw [if_neg h38, if_neg h124] at H
      refine ⟨y, h.1, hy, c_K_skip hy (by omega) w1 h (fun M1 h1 f1 => ⟨y, h1.1, hy, c_K_skip hy (by rw [l_pat_c]; omega) (by rw [l_pat_c]; exact w2) h1 (fun M2 h2 f2 => H M2 h2 (f1.tr f2))⟩)⟩
    have body : (ch tb e (lqn s) = 38 ∨ ch tb e (lqn s) = 124) → pu_R L (d + 6) 48 44 [.ref 49, .int (nI (6 - r)), .int (pJ ot), .int (pJ op), .int (nI i)] [] M (pu_qV Q) := by
      intro hcs
      have hl : lqn s < e := by
        rcases hcs with z | z
        · exact ch_m1 z (by decide)
        · exact ch_m1 z (by decide)
      refine r_LawReader_readCondition_44 ⟨y, h.1, hy, c_K_skip hy (by omega) w1 h (fun M1 h1 f1 => ?_)⟩
      have hx1 : M1 1 2 = ch tb e (lqn s) := by rw [h1.2.1.2.2.2.2.1, l_pat_q]
      rw [hx1]
      by_cases h38 : ch tb e (lqn s) = 38
      · rw [if_pos h38] at H ⊢
        refine ⟨y, h1.1, hy, c_K_add (o := 11) (v := 0) hy (by rw [l_pat_c]; omega) h1 (fun M2 h2 f2 => ?_)⟩
        have hq2 : lqn (l_emt 11 0 (l_pat ot s)) = lqn s := l_pat_q ot s
        have hc2 : lcn (l_emt 11 0 (l_pat ot s)) = lcn s + 1 := by show lcn (l_pat ot s) + 1 = _; rw [l_pat_c]
        refine c_K_step hX hy (by omega) h2 (fun M3 h3 f3 => ?_)
        have hq3 : lqn (l_adv (l_emt 11 0 (l_pat ot s))) = lqn s + 1 := by show lqn (l_emt 11 0 (l_pat ot s)) + 1 = _; rw [hq2]
        have hc3 : lcn (l_adv (l_emt 11 0 (l_pat ot s))) = lcn s + 1 := hc2
        have H2 := kP_fr ((f1.tr f2).tr f3) H
        unfold kP at H2
        rw [l_po_bn] at H2
        have ok := l_tst_ok (tb := tb) (r := r) he (s := l_adv (l_emt 11 0 (l_pat ot s))) (by omega)
        have mn := l_tst_mono (tb := tb) (r := r) (e := e) (s := l_adv (l_emt 11 0 (l_pat ot s)))
        refine htst (d + 5) M3 _ _ (by omega) h3 (by omega) (by omega) ?_
        refine l_po_mono (l_po_and (l_po_and ok mn) H2) (fun f hfx z M4 h4 f4 => ?_) (fun s1 hsx z M4 h4 f4 => ?_)
        · exact c_K_con12D hy h4 (fun M5 h5 f5 => z.2 M5 h5 (f4.tr f5))
        · obtain ⟨⟨⟨a1, a2, a3⟩, a4⟩, H3⟩ := z
          rw [l_pat_c, nI_1]
          exact ih (ot := some (lcn s)) (op := op) (s := s1) (fun p z => by cases z; omega) (fun p z => by have := w2 p z; omega) (by omega) (by omega) a2 (by omega) h4 (kP_fr f4 H3)
      · have h124 := hcs.resolve_left h38
        rw [if_neg h38] at H ⊢
        rw [if_pos h124] at H
        refine ⟨y, h1.1, hy, c_K_skip hy (by rw [l_pat_c]; omega) (by rw [l_pat_c]; exact w2) h1 (fun M2 h2 f2 => ⟨y, h2.1, hy, c_K_add (o := 12) (v := 0) hy (by rw [l_pat_c, l_pat_c]; omega) h2 (fun M3 h3 f3 => ?_)⟩)⟩
        have hq2 : lqn (l_emt 12 0 (l_pat op (l_pat ot s))) = lqn s := by show lqn (l_pat op (l_pat ot s)) = _; rw [l_pat_q, l_pat_q]
        have hc2 : lcn (l_emt 12 0 (l_pat op (l_pat ot s))) = lcn s + 1 := by show lcn (l_pat op (l_pat ot s)) + 1 = _; rw [l_pat_c, l_pat_c]
        refine c_K_step hX hy (by omega) h3 (fun M4 h4 f4 => ?_)
        have hq3 : lqn (l_adv (l_emt 12 0 (l_pat op (l_pat ot s)))) = lqn s + 1 := by show lqn (l_emt 12 0 (l_pat op (l_pat ot s))) + 1 = _; rw [hq2]
        have hc3 : lcn (l_adv (l_emt 12 0 (l_pat op (l_pat ot s)))) = lcn s + 1 := hc2
        have H2 := kP_fr (((f1.tr f2).tr f3).tr f4) H
        unfold kP at H2
        rw [l_po_bn] at H2
        have ok := l_tst_ok (tb := tb) (r := r) he (s := l_adv (l_emt 12 0 (l_pat op (l_pat ot s)))) (by omega)
        have mn := l_tst_mono (tb := tb) (r := r) (e := e) (s := l_adv (l_emt 12 0 (l_pat op (l_pat ot s))))
        refine htst (d + 5) M4 _ _ (by omega) h4 (by omega) (by omega) ?_
        refine l_po_mono (l_po_and (l_po_and ok mn) H2) (fun f hfx z M5 h5 f5 => ?_) (fun s1 hsx z M5 h5 f5 => ?_)
        · exact c_K_con12D hy h5 (fun M6 h6 f6 => z.2 M6 h6 (f5.tr f6))
        · obtain ⟨⟨⟨a1, a2, a3⟩, a4⟩, H3⟩ := z
          rw [l_pat_c, l_pat_c, nI_1]
          exact ih (ot := none) (op := some (lcn s)) (s := s1) (fun p z => by cases z) (fun p z => by cases z; omega) (by omega) (by omega) a2 (by omega) h5 (kP_fr f5 H3)
    by_cases h38 : ch tb e (lqn s) = 38
    · have hl := ch_m1 h38 (by decide)
      rw [if_neg (by rw [n_240, nI_leI (by omega) (by omega)]; omega), hx, if_pos h38]
      exact body (Or.inl h38)
    · by_cases h124 : ch tb e (lqn s) = 124
      · have hl := ch_m1 h124 (by decide)
        rw [if_neg (by rw [n_240, nI_leI (by omega) (by omega)]; omega), hx, if_neg h38, if_pos h124]
        exact body (Or.inr h124)
      · by_cases z : 240 ≤ nI i
        · rw [if_pos z]; exact fin h38 h124
        · rw [if_neg z, hx, if_neg h38, if_neg h124]; exact fin h38 h124
theorem c_K_con {r : Nat} (hX : TX tb e) (hy : pu_isL y) (htst : kTst L tb e y r) {D : Nat} {M : pu_M} {s : Lst} {Q : pu_M → Prop} (hD : 2 * r + 6 ≤ D) (h : kT tb e M y s) (hc : lcn s ≤ lqn s) (hq : lqn s ≤ e) (H : kP tb e y M Q (l_conR tb e (l_tst tb e r) s)) : pu_V L D 48 [.ref 49, .int (nI (6 - r))] M Q := by
  have he := hX.1
  obtain ⟨d, rfl⟩ : ∃ d, D = d + 6 := ⟨D - 6, by omega⟩
  refine r_LawReader_readCondition ?_
  refine htst (d + 5) M s _ (by omega) h hc hq ?_
  have ok := l_tst_ok (tb := tb) (r := r) he (s := s) hq
  unfold l_conR kP at H
  rw [l_po_bn] at H
  refine l_po_mono (l_po_and ok H) (fun f hfx z M3 h3 f3 => ?_) (fun s1 hsx z M3 h3 f3 => ?_)
  · exact c_K_con12D hy h3 (fun M4 h4 f4 => z.2 M4 h4 (f3.tr f4))
  · obtain ⟨⟨a1, a2, a3⟩, H3⟩ := z
    exact c_K_conL hX hy htst hD (i := 0) (ot := none) (op := none) (s := s1) (fun o z => by cases z) (fun o z => by cases z) (by omega) (by omega) a2 (by omega) h3 (kP_fr f3 H3)
theorem c_K_tst (hX : TX tb e) (hy : pu_isL y) : ∀ r, r ≤ 6 → kTst L tb e y r := by
  have he := hX.1
  intro r
  induction r with
  | zero =>
    intro hr D M s Q hD h hc hq H
    obtain ⟨d, rfl⟩ : ∃ d, D = d + 3 := ⟨D - 3, by omega⟩
    unfold l_tst at H
    have hx : M 1 2 = ch tb e (lqn s) := h.2.1.2.2.2.2.1
    have opn : (ch tb e (lqn s) = 33 ∨ ch tb e (lqn s) = 40) → kP tb e y M Q (.inl (flt 5 (lqn s))) → pu_V L (d + 3) 49 [.ref 49, .int (nI (6 - 0))] M Q := by
      intro hcs H
      refine r_LawReader_readTest ?_
      rw [hx]
      rcases hcs with z | z
      · rw [if_pos z]
        refine r_LawReader_opens ?_
        rw [if_neg (show ¬ nI (6 - 0) < 6 by decide)]
        refine c_K_fail hy (by omega) h (fun M1 h1 o1 => ?_)
        rw [if_pos rfl]; exact H M1 h1 o1
      · rw [if_neg (by rw [z]; decide), if_pos z]
        refine r_LawReader_opens ?_
        rw [if_neg (show ¬ nI (6 - 0) < 6 by decide)]
        refine c_K_fail hy (by omega) h (fun M1 h1 o1 => ?_)
        rw [if_pos rfl]; exact H M1 h1 o1
    by_cases h33 : ch tb e (lqn s) = 33
    · rw [if_pos h33] at H; exact opn (Or.inl h33) H
    · rw [if_neg h33] at H
      by_cases h40 : ch tb e (lqn s) = 40
      · rw [if_pos h40] at H; exact opn (Or.inr h40) H
      · rw [if_neg h40] at H; exact c_K_cmp hX hy hr (by omega) h hc hq h33 h40 H
  | succ r ih =>
    intro hr D M s Q hD h hc hq H
    obtain ⟨d, rfl⟩ : ∃ d, D = d + 3 := ⟨D - 3, by omega⟩
    unfold l_tst at H
    have hx : M 1 2 = ch tb e (lqn s) := h.2.1.2.2.2.2.1
    have hq2 : lqn (l_adv s) = lqn s + 1 := rfl
    have hc2 : lcn (l_adv s) = lcn s := rfl
    by_cases h33 : ch tb e (lqn s) = 33
    · rw [if_pos h33] at H
      have hl := ch_m1 h33 (by decide)
      refine r_LawReader_readTest ?_
      rw [hx, if_pos h33]
      refine r_LawReader_opens ?_
      rw [if_pos (show nI (6 - (r + 1)) < 6 by rw [n_6, nI_ltI (by omega) (by omega)]; omega)]
      refine c_K_step hX hy (by omega) h (fun M1 h1 o1 => ?_)
      rw [if_neg (by decide), nI_1, show 6 - (r + 1) + 1 = 6 - r by omega]
      have H2 := kP_fr o1 H
      unfold kP at H2
      rw [l_po_bn] at H2
      have ok := l_tst_ok (tb := tb) (r := r) he (s := l_adv s) hl
      refine ih (by omega) (d + 2) M1 _ _ (by omega) h1 (by omega) hl ?_
      refine l_po_mono (l_po_and ok H2) (fun f hfx z M3 h3 f3 => ?_) (fun s1 hsx z M3 h3 f3 => ?_)
      · exact ⟨y, h3.1, hy, c_K_addD hy h3 (fun x M4 h4 o4 => z.2 M4 h4 (f3.tr o4))⟩
      · obtain ⟨⟨a1, a2, a3⟩, H3⟩ := z
        exact ⟨y, h3.1, hy, c_K_add (o := 10) (v := 0) hy (by omega) h3 (fun M4 h4 o4 => H3 M4 h4 (f3.tr o4))⟩
    · rw [if_neg h33] at H
      by_cases h40 : ch tb e (lqn s) = 40
      · rw [if_pos h40] at H
        have hl := ch_m1 h40 (by decide)
        refine r_LawReader_readTest ?_
        rw [hx, if_neg h33, if_pos h40]
        refine r_LawReader_opens ?_
        rw [if_pos (show nI (6 - (r + 1)) < 6 by rw [n_6, nI_ltI (by omega) (by omega)]; omega)]
        refine c_K_step hX hy (by omega) h (fun M1 h1 o1 => ?_)
        rw [if_neg (by decide), nI_1, show 6 - (r + 1) + 1 = 6 - r by omega]
        have H2 := kP_fr o1 H
        unfold kP at H2
        rw [l_po_bn] at H2
        have ok := l_con_ok (tb := tb) (r := r) he (s := l_adv s) hl
        refine c_K_con hX hy (ih (by omega)) (by omega) h1 (by omega) hl ?_
        refine l_po_mono (l_po_and ok H2) (fun f hfx z M3 h3 f3 => ?_) (fun s1 hsx z M3 h3 f3 => ?_)
        · exact c_K_wantsD (by decide) (neg_ne z.1) h3 (z.2 M3 h3 f3)
        · obtain ⟨⟨a1, a2, a3⟩, H3⟩ := z
          exact c_K_wants hX hy a2 (by omega) h3 (kP_fr f3 H3)
      · rw [if_neg h40] at H; exact c_K_cmp hX hy hr (by omega) h hc hq h33 h40 H
end KQ
