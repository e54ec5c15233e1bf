/-! the class reads THE LAW: rules. A rule: its letter, where its E begins, where its C does, where it ends -/
abbrev Rul : Type := Nat × Nat × Nat × Nat
def l_rE (tb : Nat → Nat) (e : Nat) (s : Lst) : Lre := if ch tb e (lqn s) = 113 then .inr (l_adv (l_h0 s)) else l_sumR tb e (l_fac tb e 6) (l_adv (l_h0 s))
def l_rC (tb : Nat → Nat) (e : Nat) (s : Lst) : Lre := l_bn (l_end tb e 40 (l_h0 s)) (fun s2 => l_bn (l_conR tb e (l_tst tb e 5) s2) (l_end tb e 41))
def l_rule (tb : Nat → Nat) (e m : Nat) (s : Lst) : Int32 ⊕ (Rul × Lst) := if ch tb e (lqn s) = 101 ∨ ch tb e (lqn s) = 104 ∨ ch tb e (lqn s) = 103 ∨ ch tb e (lqn s) = 98 ∨ ch tb e (lqn s) = 113 then (if m = 16 then .inl (flt 4 (lqn s)) else match l_rE tb e s with
    | .inl f => .inl f
    | .inr s1 => match l_rC tb e s1 with
      | .inl f => .inl f
      | .inr s2 => .inr ((tb (lqn s), lcn s, lcn s1, lcn s2), s2)) else .inl (flt 1 (lqn s))
def l_rules (tb : Nat → Nat) (e : Nat) : Nat → Nat → (Nat → Rul) → Lst → Int32 ⊕ (Nat × (Nat → Rul) × Lst)
  | 0, _, _, _ => .inl (-1)
  | g + 1, m, R, s => match l_rule tb e m s with
    | .inl f => .inl f
    | .inr (x, s') => if lqn s' < e then (if ch tb e (lqn s') = 59 then l_rules tb e g (m + 1) (fset R m x) (l_adv s') else .inl (flt 1 (lqn s'))) else .inr (m + 1, fset R m x, s')
section RL
variable {tb : Nat → Nat} {e : Nat}
theorem l_rE_ok (he : e ≤ 240) {s : Lst} (hq : lqn s < e) (hc : lcn s ≤ lqn s) : l_po (fun f => f < 0) (fun s1 => lqn s + 1 ≤ lqn s1 ∧ lqn s1 ≤ e ∧ lcn s1 + 1 ≤ lqn s1 ∧ lcn s ≤ lcn s1) (l_rE tb e s) := by
  unfold l_rE
  by_cases h : ch tb e (lqn s) = 113
  · rw [if_pos h]; exact ⟨Nat.le_refl _, hq, show lcn s + 1 ≤ lqn s + 1 by omega, Nat.le_refl _⟩
  · rw [if_neg h]
    refine l_po_mono (l_po_and (l_sum_ok (tb := tb) he (r := 6) (s := l_adv (l_h0 s)) hq) (l_sum_mo (tb := tb) (e := e) (r := 6) (s := l_adv (l_h0 s)))) (fun f _ z => z.1) (fun s1 _ z => ?_)
    obtain ⟨⟨a1, a2, a3⟩, a4⟩ := z
    have hq2 : lqn (l_adv (l_h0 s)) = lqn s + 1 := rfl
    have hc2 : lcn (l_adv (l_h0 s)) = lcn s := rfl
    exact ⟨by omega, a2, by omega, a4⟩
theorem l_rC_ok (he : e ≤ 240) {s : Lst} (hq : lqn s ≤ e) (hc : lcn s ≤ lqn s) : l_po (fun f => f < 0) (fun s1 => lqn s + 1 ≤ lqn s1 ∧ lqn s1 ≤ e ∧ lcn s1 ≤ lqn s1 ∧ lcn s ≤ lcn s1) (l_rC tb e s) := by
  unfold l_rC
  rw [l_po_bn]
  refine l_po_mono (l_end_ok (tb := tb) he (c := 40) (by decide) (s := l_h0 s) hq) (fun f _ z => z) (fun s1 _ z => ?_)
  obtain ⟨a1, a2, a3⟩ := z
  have a1 : lqn s + 1 = lqn s1 := a1
  have a3 : lcn s1 = lcn s := a3
  rw [l_po_bn]
  refine l_po_mono (l_po_and (l_con_ok (tb := tb) he (r := 5) (s := s1) a2) (l_conR_mo (tb := tb) (e := e) (fun _ => l_tst_mono (r := 5)) (s := s1))) (fun f _ z => z.1) (fun s2 _ z => ?_)
  obtain ⟨⟨b1, b2, b3⟩, b4⟩ := z
  refine l_po_mono (l_end_ok (tb := tb) he (c := 41) (by decide) (s := s2) b2) (fun f _ z => z) (fun s3 _ z => ?_)
  obtain ⟨c1, c2, c3⟩ := z
  have b4 : lcn s1 ≤ lcn s2 := b4
  exact ⟨by omega, c2, by omega, by omega⟩
end RL
def kR (M : pu_M) (y : Nat) (R : Nat → Rul) (m : Nat) : Prop := M y 7 = nI m ∧ ∀ i, i < m → M (y + 3) i = nI (R i).1 ∧ M (y + 4) i = nI (R i).2.1 ∧ M (y + 5) i = nI (R i).2.2.1 ∧ M (y + 6) i = nI (R i).2.2.2
def lrS (y k : Nat) : Prop := k = 1 ∨ k = 49 ∨ (y ≤ k ∧ k ≤ y + 6)
section KX
variable {L d : Nat} {M : pu_M} {tb : Nat → Nat} {e y m : Nat} {s : Lst} {R : Nat → Rul} {f : Int32}
theorem kR_f {M' : pu_M} (h : kR M y R m) (o : kF y M M') (hy : pu_isL y) : kR M' y R m := by
  have hy' : 31 ≤ y ∧ y ≤ 40 := by unfold pu_isL at hy; omega
  unfold kR
  rw [o.2 7 (by decide), o.1 (y + 3) (by omega) (by omega) (by omega) (by omega), o.1 (y + 4) (by omega) (by omega) (by omega) (by omega), o.1 (y + 5) (by omega) (by omega) (by omega) (by omega), o.1 (y + 6) (by omega) (by omega) (by omega) (by omega)]
  exact h
theorem lrS_f {M' : pu_M} (o : kF y M M') : only (lrS y) M M' := fun k hk => o.1 k (fun z => hk (Or.inl z)) (fun z => hk (Or.inr (Or.inr (by omega)))) (fun z => hk (Or.inr (Or.inr (by omega)))) (fun z => hk (Or.inr (Or.inr (by omega))))
theorem c_K_addRule {Q : pu_M → Prop} {a b c : Nat} (hy : pu_isL y) (hm : m < 16) (h : kT tb e M y s) (hR : kR M y R m) (H : ∀ M', kT tb e M' y s → kR M' y (fset R m (a, b, c, lcn s)) (m + 1) → only (lrS y) M M' → Q M') : pu_V L (d + 1) 38 [.ref y, .int (nI a), .int (nI b), .int (nI c)] M Q := by
  have hy' : 31 ≤ y ∧ y ≤ 40 := by unfold pu_isL at hy; omega
  obtain ⟨h1, h2, h3, h4⟩ := h
  obtain ⟨r1, r2⟩ := hR
  refine r_Law_addRule hy ?_
  rw [pu_wr_ne (show y ≠ y + 4 by omega), pu_wr_ne (show y ≠ y + 3 by omega), r1, if_neg (by rw [n_16, nI_leI (by omega) (by omega)]; omega), nI_clamp (by omega)]
  refine ⟨inb_nI (by omega) (by decide), inb_nI (by omega) (by decide), inb_nI (by omega) (by decide), fun M4 e4 => ?_⟩
  have e7 : M4 y 7 = nI m := by rw [e4, pu_wr_ne (by omega), pu_wr_ne (by omega), pu_wr_ne (by omega)]; exact r1
  have e2 : M4 y 2 = nI (lcn s) := by rw [e4, pu_wr_ne (by omega), pu_wr_ne (by omega), pu_wr_ne (by omega)]; exact h3
  rw [pu_wr_ne (show y ≠ y + 6 by omega), e7, e2, nI_clamp (by omega), nI_1]
  refine ⟨inb_nI (by omega) (by decide), ?_⟩
  subst e4
  refine H _ ⟨?_, ?_, ?_, fun p hp => ?_⟩ ⟨?_, fun i hi => ?_⟩ (fun k hk => ?_)
  · rw [pu_wr_ne (by omega), pu_wr_ne (by omega), pu_wr_ne (by omega), pu_wr_ne (by omega), pu_wr_ne (by omega)]; exact h1
  · unfold TS
    rw [pu_wr_ne (show 1 ≠ y by omega), pu_wr_ne (show 1 ≠ y + 6 by omega), pu_wr_ne (show 1 ≠ y + 5 by omega), pu_wr_ne (show 1 ≠ y + 4 by omega), pu_wr_ne (show 1 ≠ y + 3 by omega), pu_wr_ne (show 2 ≠ y by omega), pu_wr_ne (show 2 ≠ y + 6 by omega), pu_wr_ne (show 2 ≠ y + 5 by omega), pu_wr_ne (show 2 ≠ y + 4 by omega), pu_wr_ne (show 2 ≠ y + 3 by omega)]
    exact h2
  · rw [pu_wr_self, upd_n (by decide), pu_wr_ne (by omega), pu_wr_ne (by omega), pu_wr_ne (by omega), pu_wr_ne (by omega)]; exact h3
  · rw [pu_wr_ne (show y + 1 ≠ y by omega), pu_wr_ne (show y + 1 ≠ y + 6 by omega), pu_wr_ne (show y + 1 ≠ y + 5 by omega), pu_wr_ne (show y + 1 ≠ y + 4 by omega), pu_wr_ne (show y + 1 ≠ y + 3 by omega), pu_wr_ne (show y + 2 ≠ y by omega), pu_wr_ne (show y + 2 ≠ y + 6 by omega), pu_wr_ne (show y + 2 ≠ y + 5 by omega), pu_wr_ne (show y + 2 ≠ y + 4 by omega), pu_wr_ne (show y + 2 ≠ y + 3 by omega)]
    exact h4 p hp
  · rw [pu_wr_self, upd_s]
  · rw [pu_wr_ne (show y + 3 ≠ y by omega), pu_wr_ne (show y + 3 ≠ y + 6 by omega), pu_wr_ne (show y + 3 ≠ y + 5 by omega), pu_wr_ne (show y + 3 ≠ y + 4 by omega), pu_wr_self, pu_wr_ne (show y + 4 ≠ y by omega), pu_wr_ne (show y + 4 ≠ y + 6 by omega), pu_wr_ne (show y + 4 ≠ y + 5 by omega), pu_wr_self, pu_wr_ne (show y + 4 ≠ y + 3 by omega), pu_wr_ne (show y + 5 ≠ y by omega), pu_wr_ne (show y + 5 ≠ y + 6 by omega), pu_wr_self, pu_wr_ne (show y + 5 ≠ y + 4 by omega), pu_wr_ne (show y + 5 ≠ y + 3 by omega), pu_wr_ne (show y + 6 ≠ y by omega), pu_wr_self, pu_wr_ne (show y + 6 ≠ y + 5 by omega), pu_wr_ne (show y + 6 ≠ y + 4 by omega), pu_wr_ne (show y + 6 ≠ y + 3 by omega)]
    by_cases z : i = m
    · subst z; rw [upd_s, upd_s, upd_s, upd_s, fset_s]; exact ⟨rfl, rfl, rfl, rfl⟩
    · rw [upd_n z, upd_n z, upd_n z, upd_n z, fset_n z]; exact r2 i (by omega)
  · have n0 : ∀ j, j ≤ 6 → k ≠ y + j := fun j hj z => hk (Or.inr (Or.inr (by omega)))
    rw [pu_wr_ne (show k ≠ y from n0 0 (by decide)), pu_wr_ne (n0 6 (by decide)), pu_wr_ne (n0 5 (by decide)), pu_wr_ne (n0 4 (by decide)), pu_wr_ne (n0 3 (by decide))]
theorem c_K_addRuleD {Q : pu_M → Prop} {a b c : Int32} (hy : pu_isL y) (hm : m ≤ 16) (h : kD M y f) (hR : M y 7 = nI m) (H : ∀ M', DS M' f → M' 49 1 = nI y → only (lrS y) M M' → Q M') : pu_V L (d + 1) 38 [.ref y, .int a, .int b, .int c] M Q := by
  have hy' : 31 ≤ y ∧ y ≤ 40 := by unfold pu_isL at hy; omega
  refine r_Law_addRule hy ?_
  rw [pu_wr_ne (show y ≠ y + 4 by omega), pu_wr_ne (show y ≠ y + 3 by omega), hR]
  by_cases c16 : m = 16
  · subst c16
    rw [if_pos (by decide)]; exact H M h.2.1 h.1 (only.rf _ _)
  · rw [if_neg (by rw [n_16, nI_leI (by omega) (by omega)]; omega), nI_clamp (by omega)]
    refine ⟨inb_nI (by omega) (by decide), inb_nI (by omega) (by decide), inb_nI (by omega) (by decide), fun M4 e4 => ?_⟩
    have e7 : M4 y 7 = nI m := by rw [e4, pu_wr_ne (by omega), pu_wr_ne (by omega), pu_wr_ne (by omega)]; exact hR
    rw [e7, nI_clamp (by omega)]
    refine ⟨inb_nI (by omega) (by decide), ?_⟩
    subst e4
    refine H _ ?_ ?_ (fun k hk => ?_)
    · unfold DS
      rw [pu_wr_ne (show 1 ≠ y by omega), pu_wr_ne (show 1 ≠ y + 6 by omega), pu_wr_ne (show 1 ≠ y + 5 by omega), pu_wr_ne (show 1 ≠ y + 4 by omega), pu_wr_ne (show 1 ≠ y + 3 by omega)]
      exact h.2.1
    · rw [pu_wr_ne (by omega), pu_wr_ne (by omega), pu_wr_ne (by omega), pu_wr_ne (by omega), pu_wr_ne (by omega)]; exact h.1
    · have n0 : ∀ j, j ≤ 6 → k ≠ y + j := fun j hj z => hk (Or.inr (Or.inr (by omega)))
      rw [pu_wr_ne (show k ≠ y from n0 0 (by decide)), pu_wr_ne (n0 6 (by decide)), pu_wr_ne (n0 5 (by decide)), pu_wr_ne (n0 4 (by decide)), pu_wr_ne (n0 3 (by decide))]
/-- a rule's letter -/
theorem c_K_open {Q : pu_M → Prop} (hX : TX tb e) (hy : pu_isL y) (hm : m ≤ 16) (hq : lqn s ≤ e) (hc : lcn s ≤ 240) (h : kT tb e M y s) (hR : M y 7 = nI m)
    (H : (ch tb e (lqn s) = 101 ∨ ch tb e (lqn s) = 104 ∨ ch tb e (lqn s) = 103 ∨ ch tb e (lqn s) = 98 ∨ ch tb e (lqn s) = 113) → m < 16 → ∀ M', kT tb e M' y (l_adv s) → kF y M M' → Q M')
    (H4 : (ch tb e (lqn s) = 101 ∨ ch tb e (lqn s) = 104 ∨ ch tb e (lqn s) = 103 ∨ ch tb e (lqn s) = 98 ∨ ch tb e (lqn s) = 113) → m = 16 → ∀ M', kD M' y (flt 4 (lqn s)) → kF y M M' → Q M')
    (H1 : ¬ (ch tb e (lqn s) = 101 ∨ ch tb e (lqn s) = 104 ∨ ch tb e (lqn s) = 103 ∨ ch tb e (lqn s) = 98 ∨ ch tb e (lqn s) = 113) → ∀ M', kD M' y (flt 1 (lqn s)) → kF y M M' → Q M') : pu_V L (d + 2) 47 [.ref 49, .int (ch tb e (lqn s))] M Q := by
  have he := hX.1
  have fin : ∀ z : Int32, (ch tb e (lqn s) = 101 ∨ ch tb e (lqn s) = 104 ∨ ch tb e (lqn s) = 103 ∨ ch tb e (lqn s) = 98 ∨ ch tb e (lqn s) = 113) → pu_R L (d + 2) 47 58 [.ref 49, .int (ch tb e (lqn s)), .int z] [] M (pu_qV Q) := by
    intro z hl
    refine r_LawReader_openRule_58 ⟨y, h.1, hy, ?_⟩
    rw [hR]
    by_cases c16 : m < 16
    · rw [if_pos (by rw [n_16, nI_ltI (by omega) (by omega)]; exact c16)]
      exact c_K_step hX hy (by omega) h (H hl c16)
    · rw [if_neg (by rw [n_16, nI_ltI (by omega) (by omega)]; exact c16)]
      have hf : ¬ flt 4 (lqn s) = 0 := neg_ne (flt_neg (by decide) (by decide) (by omega))
      exact c_K_fail hy hc h (fun M1 h1 f1 => c_K_stepD hy hf h1 (fun M2 h2 f2 => H4 hl (by omega) M2 h2 (f1.tr f2)))
  have f29 : ∀ z : Int32, z = 1 → (ch tb e (lqn s) = 101 ∨ ch tb e (lqn s) = 104 ∨ ch tb e (lqn s) = 103 ∨ ch tb e (lqn s) = 98 ∨ ch tb e (lqn s) = 113) → pu_R L (d + 2) 47 29 [.ref 49, .int (ch tb e (lqn s)), mq_un] [.int z] M (pu_qV Q) := by
    intro z hz hl
    refine r_LawReader_openRule_29 ?_
    rw [if_neg (by rw [hz]; decide)]
    exact fin z hl
  refine r_LawReader_openRule ?_
  by_cases c1 : ch tb e (lqn s) = 101
  · rw [if_pos c1]; exact f29 1 rfl (Or.inl c1)
  rw [if_neg c1]
  by_cases c2 : ch tb e (lqn s) = 104
  · rw [if_pos c2]; exact f29 1 rfl (Or.inr (Or.inl c2))
  rw [if_neg c2]
  by_cases c3 : ch tb e (lqn s) = 103
  · rw [if_pos c3]; exact f29 1 rfl (Or.inr (Or.inr (Or.inl c3)))
  rw [if_neg c3]
  by_cases c4 : ch tb e (lqn s) = 98
  · rw [if_pos c4]; exact f29 1 rfl (Or.inr (Or.inr (Or.inr (Or.inl c4))))
  rw [if_neg c4]
  refine r_LawReader_openRule_29 ?_
  rw [if_pos rfl]
  by_cases c5 : ch tb e (lqn s) = 113
  · rw [if_pos c5]; exact fin 0 (Or.inr (Or.inr (Or.inr (Or.inr c5))))
  · rw [if_neg c5]
    have hf : ¬ flt 1 (lqn s) = 0 := neg_ne (flt_neg (by decide) (by decide) (by omega))
    have hn : ¬ (ch tb e (lqn s) = 101 ∨ ch tb e (lqn s) = 104 ∨ ch tb e (lqn s) = 103 ∨ ch tb e (lqn s) = 98 ∨ ch tb e (lqn s) = 113) := fun z => by
      rcases z with z | z | z | z | z
      · exact c1 z
      · exact c2 z
      · exact c3 z
      · exact c4 z
      · exact c5 z
    exact c_K_fail hy hc h (fun M1 h1 f1 => c_K_stepD hy hf h1 (fun M2 h2 f2 => H1 hn M2 h2 (f1.tr f2)))
/-- behind a fault the rule is read to its end -/
theorem c_K_62D {Q : Int32 → pu_M → Prop} {v2 v3 v4 v5 : Int32} {v6 : Value} (hy : pu_isL y) (hf : ¬ f = 0) (hm : m ≤ 16) (h : kD M y f) (hR : M y 7 = nI m) (H : ∀ M', DS M' f → only (lrS y) M M' → Q f M') : pu_R L (d + 10) 46 62 [.ref 49, .ref y, .int v2, .int v3, .int v4, .int v5, v6] [] M (pu_qI Q) := by
  refine r_LawReader_read_62 hy ⟨y, h.1, hy, c_K_wantsD (by decide) hf h (c_K_conD hy hf h (fun M1 h1 f1 => c_K_wantsD (by decide) hf h1 ⟨y, h1.1, hy, c_K_addRuleD hy hm h1 (by rw [f1.2 7 (by decide)]; exact hR) (fun M2 h2 e2 o2 => c_D_next hf h2 ?_)⟩))⟩
  refine r_LawReader_read_16 hy ?_
  rw [if_pos rfl]
  exact ⟨y, e2, hy, c_D_answer hf h2 (H M2 h2 ((lrS_f f1).tr o2))⟩
end KX
section KY
variable {L d : Nat} {tb : Nat → Nat} {e y : Nat} {Q : Int32 → pu_M → Prop}
theorem c_K_rules (hX : TX tb e) (hy : pu_isL y) : ∀ {g m : Nat} {R : Nat → Rul} {s : Lst} {M : pu_M} {v4 v5 v6 : Value}, g + m = 17 → m ≤ 16 → lqn s ≤ e → lcn s ≤ lqn s → kT tb e M y s → kR M y R m → (match l_rules tb e g m R s with
    | .inl f => ∀ M', DS M' f → only (lrS y) M M' → Q f M'
    | .inr x => ∀ M', M' 1 1 = 0 → kC M' y x.2.2 → kR M' y x.2.1 x.1 → only (lrS y) M M' → Q (nI x.1) M') → pu_R L (d + 20) 46 16 [.ref 49, .ref y, .int 1, .int (nI m), v4, v5, v6] [] M (pu_qI Q) := by
  have he := hX.1
  intro g
  induction g with
  | zero => intro m R s M v4 v5 v6 hg hm; omega
  | succ g ih =>
    intro m R s M v4 v5 v6 hg hm hq hc h hR H
    refine r_LawReader_read_16 hy ?_
    have hx : M 1 2 = ch tb e (lqn s) := h.2.1.2.2.2.2.1
    rw [if_neg (by decide), if_neg (by rw [n_16, nI_ltI (by omega) (by omega)]; omega), hx]
    unfold l_rules l_rule at H
    -- a fault in the letter
    have dead : ∀ (f : Int32) (M' : pu_M), f < 0 → kD M' y f → kF y M M' → (∀ M', DS M' f → only (lrS y) M M' → Q f M') → ∃ y10, M' 49 1 = nI y10 ∧ pu_isL y10 ∧ (if ch tb e (lqn s) = 113 then pu_R L (d + 20) 46 62 [.ref 49, .ref y, .int 1, .int (nI m), .int (ch tb e (lqn s)), .int (M' y10 2), v6] [] M' (pu_qI Q) else pu_V L (d + 19) 50 [.ref 49, .int 0] M' (fun M12 => pu_R L (d + 20) 46 62 [.ref 49, .ref y, .int 1, .int (nI m), .int (ch tb e (lqn s)), .int (M' y10 2), v6] [] M12 (pu_qI Q))) := by
      intro f M' hf hd ff H
      refine ⟨y, hd.1, hy, ?_⟩
      have hR' := kR_f hR ff hy
      by_cases c5 : ch tb e (lqn s) = 113
      · rw [if_pos c5]
        exact c_K_62D hy (neg_ne hf) hm hd hR'.1 (fun M2 h2 o2 => H M2 h2 ((lrS_f ff).tr o2))
      · rw [if_neg c5]
        exact c_K_sumD hy (neg_ne hf) hd (fun M2 h2 f2 => c_K_62D hy (neg_ne hf) hm h2 (by rw [f2.2 7 (by decide)]; exact hR'.1) (fun M3 h3 o3 => H M3 h3 (((lrS_f ff).tr (lrS_f f2)).tr o3)))
    refine c_K_open (m := m) hX hy hm hq (by omega) h hR.1 (fun hl hm16 M1 h1 f1 => ?_) (fun hl hm16 M1 h1 f1 => ?_) (fun hl M1 h1 f1 => ?_)
    · rw [if_pos hl, if_neg (by omega)] at H
      have hlt : lqn s < e := by
        rcases hl with z | z | z | z | z <;> exact ch_m1 z (by decide)
      have hR1 := kR_f hR f1 hy
      refine ⟨y, h1.1, hy, ?_⟩
      have elet : ch tb e (lqn s) = nI (tb (lqn s)) := by unfold ch; rw [if_pos hlt]
      have est : M1 y 2 = nI (lcn s) := h1.2.2.1
      -- from the C on
      have cond : ∀ (s1 : Lst) (M2 : pu_M), l_rE tb e s = .inr s1 → lqn s1 ≤ e → lcn s1 ≤ lqn s1 → kT tb e M2 y s1 → kF y M1 M2 → pu_R L (d + 20) 46 62 [.ref 49, .ref y, .int 1, .int (nI m), .int (ch tb e (lqn s)), .int (M1 y 2), v6] [] M2 (pu_qI Q) := by
        intro s1 M2 e1 q1 c1 h2 f2
        have hR2 := kR_f hR1 f2 hy
        rw [e1] at H
        dsimp only at H
        refine r_LawReader_read_62 hy ⟨y, h2.1, hy, ?_⟩
        have e0 : M2 y 2 = nI (lcn s1) := h2.2.2.1
        have h2' : kT tb e M2 y (l_h0 s1) := h2
        have tail : ∀ (f : Int32) (M3 : pu_M), f < 0 → l_rC tb e s1 = .inl f → kD M3 y f → kF y M2 M3 → pu_V L (d + 19) 48 [.ref 49, .int 1] M3 (fun M4 => pu_V L (d + 19) 85 [.ref 1, .int 41] M4 (fun M5 => ∃ y6, M5 49 1 = nI y6 ∧ pu_isL y6 ∧ pu_V L (d + 19) 38 [.ref y6, .int (ch tb e (lqn s)), .int (M1 y 2), .int (M2 y 2)] M5 (fun M8 => pu_I L (d + 19) 87 [.ref 1] M8 (fun x10 M9 => pu_R L (d + 20) 46 16 [.ref 49, .ref y, .int x10, .int (nI m + 1), .int (ch tb e (lqn s)), .int (M1 y 2), .int (M2 y 2)] [] M9 (pu_qI Q))))) := by
          intro f M3 hf ec hd f3
          rw [ec] at H
          have hfn := neg_ne hf
          refine c_K_conD hy hfn hd (fun M4 h4 f4 => c_K_wantsD (by decide) hfn h4 ⟨y, h4.1, hy, c_K_addRuleD hy hm h4 (by rw [f4.2 7 (by decide), f3.2 7 (by decide)]; exact hR2.1) (fun M5 h5 e5 o5 => c_D_next hfn h5 (r_LawReader_read_16 hy ?_))⟩)
          rw [if_pos rfl]
          exact ⟨y, e5, hy, c_D_answer hfn h5 (H M5 h5 (((((lrS_f f1).tr (lrS_f f2)).tr (lrS_f f3)).tr (lrS_f f4)).tr o5))⟩
        have tail2 : ∀ (f : Int32) (M3 : pu_M), f < 0 → l_rC tb e s1 = .inl f → kD M3 y f → kF y M2 M3 → pu_V L (d + 19) 85 [.ref 1, .int 41] M3 (fun M5 => ∃ y6, M5 49 1 = nI y6 ∧ pu_isL y6 ∧ pu_V L (d + 19) 38 [.ref y6, .int (ch tb e (lqn s)), .int (M1 y 2), .int (M2 y 2)] M5 (fun M8 => pu_I L (d + 19) 87 [.ref 1] M8 (fun x10 M9 => pu_R L (d + 20) 46 16 [.ref 49, .ref y, .int x10, .int (nI m + 1), .int (ch tb e (lqn s)), .int (M1 y 2), .int (M2 y 2)] [] M9 (pu_qI Q)))) := by
          intro f M3 hf ec hd f3
          rw [ec] at H
          have hfn := neg_ne hf
          refine c_K_wantsD (by decide) hfn hd ⟨y, hd.1, hy, c_K_addRuleD hy hm hd (by rw [f3.2 7 (by decide)]; exact hR2.1) (fun M5 h5 e5 o5 => c_D_next hfn h5 (r_LawReader_read_16 hy ?_))⟩
          rw [if_pos rfl]
          exact ⟨y, e5, hy, c_D_answer hfn h5 (H M5 h5 ((((lrS_f f1).tr (lrS_f f2)).tr (lrS_f f3)).tr o5))⟩
        have tail3 : ∀ (f : Int32) (M3 : pu_M), f < 0 → l_rC tb e s1 = .inl f → kD M3 y f → kF y M2 M3 → ∃ y6, M3 49 1 = nI y6 ∧ pu_isL y6 ∧ pu_V L (d + 19) 38 [.ref y6, .int (ch tb e (lqn s)), .int (M1 y 2), .int (M2 y 2)] M3 (fun M8 => pu_I L (d + 19) 87 [.ref 1] M8 (fun x10 M9 => pu_R L (d + 20) 46 16 [.ref 49, .ref y, .int x10, .int (nI m + 1), .int (ch tb e (lqn s)), .int (M1 y 2), .int (M2 y 2)] [] M9 (pu_qI Q))) := by
          intro f M3 hf ec hd f3
          rw [ec] at H
          have hfn := neg_ne hf
          refine ⟨y, hd.1, hy, c_K_addRuleD hy hm hd (by rw [f3.2 7 (by decide)]; exact hR2.1) (fun M5 h5 e5 o5 => c_D_next hfn h5 (r_LawReader_read_16 hy ?_))⟩
          rw [if_pos rfl]
          exact ⟨y, e5, hy, c_D_answer hfn h5 (H M5 h5 ((((lrS_f f1).tr (lrS_f f2)).tr (lrS_f f3)).tr o5))⟩
        refine c_K_wants (s := l_h0 s1) hX hy q1 (show lcn s1 ≤ 240 by omega) h2' ?_
        have ok1 := l_end_ok (tb := tb) he (c := 40) (by decide) (s := l_h0 s1) q1
        cases ea : l_end tb e 40 (l_h0 s1) with
        | inl f =>
          intro M3 h3 f3
          rw [ea] at ok1
          exact tail f M3 ok1 (by unfold l_rC; rw [ea]; rfl) h3 f3
        | inr s2 =>
          intro M3 h3 f3
          rw [ea] at ok1
          obtain ⟨a1, a2, a3⟩ := ok1
          have a1 : lqn s1 + 1 = lqn s2 := a1
          have a3 : lcn s2 = lcn s1 := a3
          have ok2 := l_con_ok (tb := tb) he (r := 5) (s := s2) a2
          refine c_K_con (r := 5) hX hy (c_K_tst hX hy 5 (by decide)) (by omega) h3 (by omega) a2 ?_
          cases eb : l_conR tb e (l_tst tb e 5) s2 with
          | inl f =>
            intro M4 h4 f4
            rw [eb] at ok2
            exact tail2 f M4 ok2 (by unfold l_rC; rw [ea]; show l_bn (l_conR tb e (l_tst tb e 5) s2) _ = _; rw [eb]; rfl) h4 (f3.tr f4)
          | inr s3 =>
            intro M4 h4 f4
            rw [eb] at ok2
            obtain ⟨b1, b2, b3⟩ := ok2
            have ok3 := l_end_ok (tb := tb) he (c := 41) (by decide) (s := s3) b2
            refine c_K_wants (s := s3) hX hy b2 (by omega) h4 ?_
            cases ec : l_end tb e 41 s3 with
            | inl f =>
              intro M5 h5 f5
              rw [ec] at ok3
              exact tail3 f M5 ok3 (by unfold l_rC; rw [ea]; show l_bn (l_conR tb e (l_tst tb e 5) s2) _ = _; rw [eb]; exact ec) h5 ((f3.tr f4).tr f5)
            | inr s4 =>
              intro M5 h5 f5
              rw [ec] at ok3
              obtain ⟨c1', c2', c3'⟩ := ok3
              have er : l_rC tb e s1 = .inr s4 := by unfold l_rC; rw [ea]; show l_bn (l_conR tb e (l_tst tb e 5) s2) _ = _; rw [eb]; exact ec
              rw [er] at H
              dsimp only at H
              have hR5 := kR_f (kR_f (kR_f hR2 f3 hy) f4 hy) f5 hy
              refine ⟨y, h5.1, hy, ?_⟩
              rw [elet, est, e0]
              refine c_K_addRule hy hm16 h5 hR5 (fun M6 h6 hR6 o6 => ?_)
              have O6 : only (lrS y) M M6 := ((((lrS_f f1).tr (lrS_f f2)).tr (lrS_f f3)).tr (lrS_f f4)).tr ((lrS_f f5).tr o6)
              refine c_T_next hX (by omega) h6.2.1 (fun hn => ?_) (fun hn h59 M7 t7 o7 => ?_) (fun hn h59 M7 t7 o7 => ?_)
              · rw [if_neg hn] at H
                refine r_LawReader_read_16 hy ?_
                rw [if_pos rfl]
                refine ⟨y, h6.1, hy, c_T_answer h6.2.1 ?_⟩
                rw [hR6.1]
                exact H M6 h6.2.1.2.2.2.2.2 h6.2.2 hR6 O6
              · rw [if_pos hn, if_pos h59] at H
                have f7 := kF.o1 hy o7
                have h7 : kT tb e M7 y (l_adv s4) := kT_1 hy h6 o7 t7 rfl rfl
                have O7 : only (lrS y) M M7 := O6.tr (lrS_f f7)
                rw [nI_1]
                refine ih (m := m + 1) (s := l_adv s4) (by omega) (by omega) hn (show lcn s4 ≤ lqn s4 + 1 by omega) h7 (kR_f hR6 f7 hy) ?_
                cases el : l_rules tb e g (m + 1) (fset R m (tb (lqn s), lcn s, lcn s1, lcn s4)) (l_adv s4) with
                | inl f => rw [el] at H; exact fun M' a b => H M' a (O7.tr b)
                | inr x => rw [el] at H; exact fun M' a b c o => H M' a b c (O7.tr o)
              · rw [if_pos hn, if_neg h59] at H
                have hfn := neg_ne (flt_neg (k := 1) (q := lqn s4) (by decide) (by decide) (by omega))
                refine r_LawReader_read_16 hy ?_
                rw [if_pos rfl]
                refine ⟨y, ?_, hy, c_D_answer hfn t7 (H M7 t7 (O6.tr (lrS_f (kF.o1 hy o7))))⟩
                rw [o7 49 (by decide)]; exact h6.1
      by_cases c5 : ch tb e (lqn s) = 113
      · rw [if_pos c5]
        refine cond (l_adv (l_h0 s)) M1 (by unfold l_rE; rw [if_pos c5]) hlt (show lcn s ≤ lqn s + 1 by omega) h1 (kF.rf y M1)
      · rw [if_neg c5]
        have ee : l_rE tb e s = l_sumR tb e (l_fac tb e 6) (l_adv (l_h0 s)) := by unfold l_rE; rw [if_neg c5]
        have ok := l_sum_ok (tb := tb) he (r := 6) (s := l_adv (l_h0 s)) hlt
        refine c_K_sum (r := 6) (s := l_adv (l_h0 s)) hX hy (c_K_fac hX hy 6 (by decide)) (by omega) h1 (show lcn s ≤ lqn s + 1 by omega) hlt ?_
        cases ea : l_sumR tb e (l_fac tb e 6) (l_adv (l_h0 s)) with
        | inl f =>
          rw [ee, ea] at H
          rw [ea] at ok
          intro M2 h2 f2
          exact c_K_62D hy (neg_ne ok) hm h2 (kR_f hR1 f2 hy).1 (fun M3 h3 o3 => H M3 h3 (((lrS_f f1).tr (lrS_f f2)).tr o3))
        | inr s1 =>
          rw [ea] at ok
          obtain ⟨a1, a2, a3⟩ := ok
          have hq2 : lqn (l_adv (l_h0 s)) = lqn s + 1 := rfl
          have hc2 : lcn (l_adv (l_h0 s)) = lcn s := rfl
          intro M2 h2 f2
          exact cond s1 M2 (by rw [ee, ea]) a2 (by omega) h2 f2
    · rw [if_pos hl, if_pos hm16] at H
      exact dead _ M1 (flt_neg (by decide) (by decide) (by omega)) h1 f1 H
    · rw [if_neg hl] at H
      exact dead _ M1 (flt_neg (by decide) (by decide) (by omega)) h1 f1 H
end KY
