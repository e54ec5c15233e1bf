/-! the class reads THE LAW: behind a fault -/
section KD
variable {L d : Nat} {M : pu_M} {y : Nat} {f : Int32}
theorem c_K_valD {Q : pu_M → Prop} (hy : pu_isL y) (hf : ¬ f = 0) (h : kD M y f) (H : ∀ M', kD M' y f → kF y M M' → Q M') : pu_V L (d + 2) 56 [.ref 49] M Q := by
  refine r_LawReader_readValue (r_LawReader_valueOf ?_)
  rw [h.2.1.2.1, if_neg (by decide), if_neg (by decide), if_neg (by decide), if_neg (by decide), if_neg (by decide), if_neg (by decide), if_neg (by decide), if_neg (by decide), if_pos rfl]
  refine c_K_failD hf h (c_K_stepD hy hf h (fun M1 h1 o1 => ⟨y, h1.1, hy, c_K_addD hy h1 (fun x M2 h2 o2 => H M2 h2 (o1.tr o2))⟩))
theorem c_K_facD {Q : pu_M → Prop} {v : Int32} (hy : pu_isL y) (hf : ¬ f = 0) (h : kD M y f) (H : ∀ M', kD M' y f → kF y M M' → Q M') : pu_V L (d + 3) 53 [.ref 49, .int v] M Q := by
  refine r_LawReader_readFactor ?_
  rw [h.2.1.2.1, if_neg (by decide), n_48, n_10]
  refine c_D_among (by decide) h.2.1 ?_
  rw [if_pos rfl]
  exact c_K_valD hy hf h H
theorem c_K_anyD {Q : pu_M → Prop} {v : Int32} (hy : pu_isL y) (h : kD M y f) (H : ∀ M', kD M' y f → kF y M M' → Q M') : pu_V L (d + 2) 52 [.ref 49, .int v] M Q := by
  refine r_LawReader_addIfAny ?_
  by_cases z : v = -1
  · rw [if_pos z]; exact H M h (kF.rf y M)
  · rw [if_neg z]; exact ⟨y, h.1, hy, c_K_addD hy h (fun x M2 h2 o2 => H M2 h2 o2)⟩
theorem c_K_sum9D {Q : pu_M → Prop} {v1 v2 v3 : Int32} {v4 v5 : Value} (hy : pu_isL y) (h : kD M y f) (H : ∀ M', kD M' y f → kF y M M' → Q M') : pu_R L (d + 4) 50 9 [.ref 49, .int v1, .int v2, .int v3, v4, v5] [] M (pu_qV Q) := by
  refine r_LawReader_readSum_9 ?_
  by_cases z : 240 ≤ v3
  · rw [if_pos z]; exact c_K_anyD hy h H
  · rw [if_neg z, h.2.1.2.1]
    refine r_LawReader_isReckoned ?_
    rw [if_neg (by decide), if_neg (by decide), if_neg (by decide), if_neg (by decide), if_neg (by decide), if_pos rfl]
    exact c_K_anyD hy h H
theorem c_K_sumD {Q : pu_M → Prop} {v : Int32} (hy : pu_isL y) (hf : ¬ f = 0) (h : kD M y f) (H : ∀ M', kD M' y f → kF y M M' → Q M') : pu_V L (d + 4) 50 [.ref 49, .int v] M Q := by
  refine r_LawReader_readSum (c_K_facD hy hf h (fun M1 h1 o1 => c_K_sum9D hy h1 (fun M2 h2 o2 => H M2 h2 (o1.tr o2))))
theorem c_K_tstD {Q : pu_M → Prop} {v : Int32} (hy : pu_isL y) (hf : ¬ f = 0) (h : kD M y f) (H : ∀ M', kD M' y f → kF y M M' → Q M') : pu_V L (d + 5) 49 [.ref 49, .int v] M Q := by
  refine r_LawReader_readTest ?_
  rw [h.2.1.2.1, if_neg (by decide), if_neg (by decide)]
  refine c_K_sumD hy hf h (fun M1 h1 o1 => ?_)
  rw [h1.2.1.2.1, if_neg (by decide), if_neg (by decide), if_neg (by decide)]
  refine c_K_failD hf h1 (c_K_stepD hy hf h1 (fun M2 h2 o2 => c_K_sumD hy hf h2 (fun M3 h3 o3 => ⟨y, h3.1, hy, c_K_addD hy h3 (fun x M4 h4 o4 => H M4 h4 (((o1.tr o2).tr o3).tr o4))⟩)))
theorem c_K_con12D {Q : pu_M → Prop} {v1 v2 v3 v4 : Int32} (hy : pu_isL y) (h : kD M y f) (H : ∀ M', kD M' y f → kF y M M' → Q M') : pu_R L (d + 6) 48 12 [.ref 49, .int v1, .int v2, .int v3, .int v4] [] M (pu_qV Q) := by
  refine r_LawReader_readCondition_12 ?_
  by_cases z : 240 ≤ v4
  · rw [if_pos z]
    exact ⟨y, h.1, hy, c_K_skipD hy h (fun M1 h1 o1 => ⟨y, h1.1, hy, c_K_skipD hy h1 (fun M2 h2 o2 => H M2 h2 (o1.tr o2))⟩)⟩
  · rw [if_neg z, h.2.1.2.1, if_neg (by decide), if_neg (by decide)]
    exact ⟨y, h.1, hy, c_K_skipD hy h (fun M1 h1 o1 => ⟨y, h1.1, hy, c_K_skipD hy h1 (fun M2 h2 o2 => H M2 h2 (o1.tr o2))⟩)⟩
theorem c_K_conD {Q : pu_M → Prop} {v : Int32} (hy : pu_isL y) (hf : ¬ f = 0) (h : kD M y f) (H : ∀ M', kD M' y f → kF y M M' → Q M') : pu_V L (d + 6) 48 [.ref 49, .int v] M Q := by
  refine r_LawReader_readCondition (c_K_tstD hy hf h (fun M1 h1 o1 => c_K_con12D hy h1 (fun M2 h2 o2 => H M2 h2 (o1.tr o2))))
end KD
/-! the class reads THE LAW: sums -/
section KS
variable {L : Nat} {tb : Nat → Nat} {e y : Nat}
theorem c_K_num54 {d a : Nat} {M : pu_M} {s : Lst} {v2 : Int32} {Q : pu_M → Prop} (hX : TX tb e) (hy : pu_isL y) (hc : lcn s < 240) (hq : lqn s ≤ e) (h : kT tb e M y s) (H : kP tb e y M Q (match chR tb e 48 10 (lqn s) with | some _ => .inl (flt 2 (lqn s)) | none => .inr (l_emt 0 a s))) : pu_R L (d + 2) 55 54 [.ref 49, .int (nI a), .int v2] [] M (pu_qV Q) := by
  have he := hX.1
  refine r_LawReader_readNumber_54 ?_
  rw [n_48, n_10]
  refine c_T_among hX (by decide) h.2.1 ?_
  cases hk : chR tb e 48 10 (lqn s) with
  | none =>
    rw [hk] at H
    rw [if_pos pJ_n]
    exact ⟨y, h.1, hy, c_K_add (o := 0) hy hc h (fun M1 h1 o1 => H M1 h1 o1)⟩
  | some k =>
    rw [hk] at H
    have := (chR_lt hk).1
    rw [if_neg (show ¬ pJ (some k) = -1 from fun z => (nI_m1 (show k < 2 ^ 31 by omega)).mp z)]
    have hf : ¬ flt 2 (lqn s) = 0 := neg_ne (flt_neg (by decide) (by decide) (by omega))
    refine c_K_fail hy (by omega) h (fun M1 h1 o1 => ⟨y, h1.1, hy, c_K_addD hy h1 (fun x M2 h2 o2 => H M2 h2 (o1.tr o2))⟩)
theorem c_K_num {d : Nat} {Q : pu_M → Prop} (hX : TX tb e) (hy : pu_isL y) : ∀ {j a i : Nat} {M : pu_M} {s : Lst}, i + j = 5 → lcn s < 240 → lqn s ≤ e → kT tb e M y s → kP tb e y M Q (match l_num tb e j a (lqn s) with | .inl f => .inl f | .inr x => .inr (l_emt 0 x.1 (l_atq x.2 s))) → pu_R L (d + 2) 55 4 [.ref 49, .int (nI a), .int (nI i)] [] M (pu_qV Q) := by
  have he := hX.1
  intro j
  induction j with
  | zero =>
    intro a i M s hi hc hq h H
    obtain rfl : i = 5 := by omega
    refine r_LawReader_readNumber_4 ?_
    rw [if_pos (by decide)]
    refine c_K_num54 (s := s) hX hy hc hq h ?_
    unfold l_num at H
    cases hk : chR tb e 48 10 (lqn s) with
    | none => rw [hk] at H; exact H
    | some k => rw [hk] at H; exact H
  | succ j ih =>
    intro a i M s hi hc hq h H
    refine r_LawReader_readNumber_4 ?_
    rw [if_neg (by rw [n_5, nI_leI (by omega) (by omega)]; omega), n_48, n_10]
    refine c_T_among hX (by decide) h.2.1 ?_
    unfold l_num at H
    cases hk : chR tb e 48 10 (lqn s) with
    | none =>
      rw [hk] at H
      rw [if_pos pJ_n]
      refine c_K_num54 (s := s) hX hy hc hq h ?_
      rw [hk]; exact H
    | some k =>
      rw [hk] at H
      obtain ⟨k1, k2, k3⟩ := chR_lt hk
      rw [if_neg (show ¬ pJ (some k) = -1 from fun z => (nI_m1 (show k < 2 ^ 31 by omega)).mp z)]
      refine c_T_among hX (by decide) h.2.1 ?_
      rw [hk]
      refine c_K_step hX hy (by omega) h (fun M1 h1 o1 => ?_)
      show pu_R L (d + 2) 55 4 [.ref 49, .int (nI 10 * nI a + nI k), .int (nI i + 1)] [] M1 (pu_qV Q)
      rw [pk_mul, nI_add, nI_1]
      exact ih (s := l_adv s) (by omega) hc k2 h1 (kP_fr o1 H)
/-- the reading of a factor, r levels above the deepest -/
def kFac (L : Nat) (tb : Nat → Nat) (e y r : Nat) : Prop := ∀ (D : Nat) (M : pu_M) (s : Lst) (Q : pu_M → Prop), 2 * r + 3 ≤ D → kT tb e M y s → lcn s ≤ lqn s → lqn s ≤ e → kP tb e y M Q (l_fac tb e r s) → pu_V L D 53 [.ref 49, .int (nI (6 - r))] M Q
theorem c_K_atom {d : Nat} {M : pu_M} {s : Lst} {v : Int32} {Q : pu_M → Prop} (hX : TX tb e) (hy : pu_isL y) (hc : lcn s ≤ lqn s) (hq : lqn s ≤ e) (h : kT tb e M y s) (h91 : ¬ ch tb e (lqn s) = 91) (H : kP tb e y M Q (l_atom tb e s)) : pu_V L (d + 3) 53 [.ref 49, .int v] M Q := by
  have he := hX.1
  refine r_LawReader_readFactor ?_
  rw [h.2.1.2.2.2.2.1, if_neg h91, n_48, n_10]
  refine c_T_among hX (by decide) h.2.1 ?_
  unfold l_atom at H
  cases hk : chR tb e 48 10 (lqn s) with
  | some k =>
    rw [hk] at H
    obtain ⟨k1, k2, k3⟩ := chR_lt hk
    rw [if_neg (show ¬ pJ (some k) = -1 from fun z => (nI_m1 (show k < 2 ^ 31 by omega)).mp z)]
    exact r_LawReader_readNumber (c_K_num (j := 5) (a := 0) (i := 0) hX hy rfl (by omega) hq h H)
  | none =>
    rw [hk] at H
    rw [if_pos pJ_n]
    dsimp only at H
    refine r_LawReader_readValue (r_LawReader_valueOf ?_)
    rw [h.2.1.2.2.2.2.1]
    have good : ∀ k : Nat, l_vo (ch tb e (lqn s)) = some k → (if nI k = -1 then pu_V L (d + 1) 88 [.ref 1, .int 1, .int (M 1 3)] M (fun M8 => pu_V L (d + 1) 83 [.ref 1] M8 (fun M9 => ∃ y10, M9 49 1 = nI y10 ∧ pu_isL y10 ∧ pu_I L (d + 1) 36 [.ref y10, .int 1, .int (nI k)] M9 (fun _ M12 => Q M12))) else pu_V L (d + 1) 83 [.ref 1] M (fun M3 => ∃ y4, M3 49 1 = nI y4 ∧ pu_isL y4 ∧ pu_I L (d + 1) 36 [.ref y4, .int 1, .int (nI k)] M3 (fun _ M6 => Q M6))) := by
      intro k hv
      rw [hv] at H
      obtain ⟨v1, v2⟩ := l_vo_lt hv
      rw [if_neg (fun z => (nI_m1 (show k < 2 ^ 31 by omega)).mp z)]
      refine c_K_step hX hy (by omega) h (fun M1 h1 o1 => ⟨y, h1.1, hy, c_K_add (s := l_adv s) (o := 1) hy (show lcn s < 240 by omega) h1 (fun M2 h2 o2 => H M2 h2 (o1.tr o2))⟩)
    have bad : l_vo (ch tb e (lqn s)) = none → (if (-1 : Int32) = -1 then pu_V L (d + 1) 88 [.ref 1, .int 1, .int (M 1 3)] M (fun M8 => pu_V L (d + 1) 83 [.ref 1] M8 (fun M9 => ∃ y10, M9 49 1 = nI y10 ∧ pu_isL y10 ∧ pu_I L (d + 1) 36 [.ref y10, .int 1, .int (-1)] M9 (fun _ M12 => Q M12))) else pu_V L (d + 1) 83 [.ref 1] M (fun M3 => ∃ y4, M3 49 1 = nI y4 ∧ pu_isL y4 ∧ pu_I L (d + 1) 36 [.ref y4, .int 1, .int (-1)] M3 (fun _ M6 => Q M6))) := by
      intro hv
      rw [hv] at H
      rw [if_pos rfl]
      have hf : ¬ flt 1 (lqn s) = 0 := neg_ne (flt_neg (by decide) (by decide) (by omega))
      refine c_K_fail hy (by omega) h (fun M1 h1 o1 => c_K_stepD hy hf h1 (fun M2 h2 o2 => ⟨y, h2.1, hy, c_K_addD hy h2 (fun x M3 h3 o3 => H M3 h3 ((o1.tr o2).tr o3))⟩))
    unfold l_vo at good bad
    by_cases c1 : ch tb e (lqn s) = 107
    · rw [if_pos c1]; exact good 1 (by rw [if_pos c1])
    rw [if_neg c1] at good bad ⊢
    by_cases c2 : ch tb e (lqn s) = 109
    · rw [if_pos c2]; exact good 4 (by rw [if_pos c2])
    rw [if_neg c2] at good bad ⊢
    by_cases c3 : ch tb e (lqn s) = 110
    · rw [if_pos c3]; exact good 6 (by rw [if_pos c3])
    rw [if_neg c3] at good bad ⊢
    by_cases c4 : ch tb e (lqn s) = 111
    · rw [if_pos c4]; exact good 5 (by rw [if_pos c4])
    rw [if_neg c4] at good bad ⊢
    by_cases c5 : ch tb e (lqn s) = 112
    · rw [if_pos c5]; exact good 0 (by rw [if_pos c5])
    rw [if_neg c5] at good bad ⊢
    by_cases c6 : ch tb e (lqn s) = 115
    · rw [if_pos c6]; exact good 2 (by rw [if_pos c6])
    rw [if_neg c6] at good bad ⊢
    by_cases c7 : ch tb e (lqn s) = 116
    · rw [if_pos c7]; exact good 7 (by rw [if_pos c7])
    rw [if_neg c7] at good bad ⊢
    by_cases c8 : ch tb e (lqn s) = 117
    · rw [if_pos c8]; exact good 3 (by rw [if_pos c8])
    rw [if_neg c8] at good bad ⊢
    exact bad rfl
def kw : Option Nat → Int32
  | none => -1
  | some o => kop o
theorem c_K_any {d : Nat} {M : pu_M} {s : Lst} {w : Option Nat} {Q : pu_M → Prop} (hy : pu_isL y) (hw : ∀ o, w = some o → 2 ≤ o ∧ o < 4) (hc : lcn s + l_ww w ≤ 240) (h : kT tb e M y s) (H : kB tb e y M Q (l_emw w s)) : pu_V L (d + 2) 52 [.ref 49, .int (kw w)] M Q := by
  refine r_LawReader_addIfAny ?_
  cases w with
  | none => rw [if_pos (show kw none = -1 from rfl)]; exact H M h (kF.rf y M)
  | some o =>
    have hc : lcn s + 1 ≤ 240 := hc
    have hn : ¬ kop o = -1 := by
      obtain ⟨a, b⟩ := hw o rfl
      have : o = 2 ∨ o = 3 := by omega
      rcases this with rfl | rfl <;> decide
    rw [if_neg (show ¬ kw (some o) = -1 from hn)]
    exact ⟨y, h.1, hy, c_K_add (v := 0) hy (by omega) h (fun M2 h2 o2 => H M2 h2 o2)⟩
theorem c_K_sumL {r : Nat} (hX : TX tb e) (hy : pu_isL y) (hfac : kFac L tb e y r) {D : Nat} {Q : pu_M → Prop} (hD : 2 * r + 4 ≤ D) : ∀ {g i : Nat} {w : Option Nat} {M : pu_M} {s : Lst} {v4 v5 : Value}, (∀ o, w = some o → 2 ≤ o ∧ o < 4) → i + 1 ≤ lqn s → lcn s + l_ww w ≤ lqn s → lqn s ≤ e → e < lqn s + g → kT tb e M y s → kP tb e y M Q (l_sumL tb e (l_fac tb e r) g w s) → pu_R L D 50 9 [.ref 49, .int (nI (6 - r)), .int (kw w), .int (nI i), v4, v5] [] M (pu_qV Q) := by
  have he := hX.1
  obtain ⟨d, rfl⟩ : ∃ d, D = d + 4 := ⟨D - 4, by omega⟩
  intro g
  induction g with
  | zero => intro i w M s v4 v5 hw hi hc hq hg h H; omega
  | succ g ih =>
    intro i w M s v4 v5 hw hi hc hq hg h H
    refine r_LawReader_readSum_9 ?_
    have hx : M 1 2 = ch tb e (lqn s) := h.2.1.2.2.2.2.1
    unfold l_sumL at H
    cases ho : l_so (ch tb e (lqn s)) with
    | none =>
      rw [ho] at H
      have nx : ∀ c : Nat, 2 ≤ c → c ≤ 6 → ¬ ch tb e (lqn s) = kop c := by
        intro c h1 h2 z
        rw [z] at ho
        have : c = 2 ∨ c = 3 ∨ c = 4 ∨ c = 5 ∨ c = 6 := by omega
        rcases this with rfl | rfl | rfl | rfl | rfl <;> cases ho
      by_cases z : 240 ≤ nI i
      · rw [if_pos z]; exact c_K_any hy hw (by omega) h H
      · rw [if_neg z, hx]
        refine r_LawReader_isReckoned ?_
        rw [if_neg (show ¬ ch tb e (lqn s) = 43 from nx 2 (by decide) (by decide)), if_neg (show ¬ ch tb e (lqn s) = 45 from nx 3 (by decide) (by decide)), if_neg (show ¬ ch tb e (lqn s) = 42 from nx 4 (by decide) (by decide)), if_neg (show ¬ ch tb e (lqn s) = 47 from nx 5 (by decide) (by decide)), if_neg (show ¬ ch tb e (lqn s) = 37 from nx 6 (by decide) (by decide)), if_pos rfl]
        exact c_K_any hy hw (by omega) h H
    | some o =>
      rw [ho] at H
      obtain ⟨o1, o2, o3⟩ := l_so_lt ho
      have hk := l_so_k ho
      rw [if_neg (by rw [n_240, nI_leI (by omega) (by omega)]; omega), hx]
      dsimp only at H
      -- a factor behind + or -
      have add : o < 4 → pu_V L (d + 3) 52 [.ref 49, .int (kw w)] M (fun M5 => pu_R L (d + 4) 50 72 [.ref 49, .int (nI (6 - r)), .int (kop o), .int (nI i), .int (kop o), .int 1] [] M5 (pu_qV Q)) := by
        intro c4
        rw [if_pos c4] at H
        refine c_K_any hy hw (by omega) h (fun M1 h1 f1 => ?_)
        refine r_LawReader_readSum_72 ?_
        have eq1 := l_emw_q w s
        have ec1 := l_emw_c w s
        refine c_K_step hX hy (by omega) h1 (fun M2 h2 f2 => ?_)
        have hq2 : lqn (l_adv (l_emw w s)) = lqn s + 1 := by show lqn (l_emw w s) + 1 = _; rw [eq1]
        have hc2 : lcn (l_adv (l_emw w s)) = lcn s + l_ww w := ec1
        refine hfac (d + 3) M2 _ _ (by omega) h2 (by omega) (by omega) ?_
        have ok := l_fac_ok (tb := tb) (r := r) he (s := l_adv (l_emw w s)) (by omega)
        have H2 := kP_fr (f1.tr f2) H
        unfold kP at H2
        rw [l_po_bn] at H2
        refine l_po_mono (l_po_and ok H2) (fun f hfx z M3 h3 f3 => ?_) (fun s1 hsx z M3 h3 f3 => ?_)
        · dsimp only
          rw [if_neg (by decide)]
          exact c_K_sum9D hy h3 (fun M4 h4 f4 => z.2 M4 h4 (f3.tr f4))
        · obtain ⟨⟨a1, a2, a3⟩, H3⟩ := z
          rw [if_neg (by decide), nI_1]
          exact ih (w := some o) (s := s1) (fun o' z => by cases z; omega) (by omega) (show lcn s1 + 1 ≤ lqn s1 by omega) a2 (by omega) h3 (kP_fr f3 H3)
      have mul : ¬ o < 4 → pu_R L (d + 4) 50 72 [.ref 49, .int (nI (6 - r)), .int (kw w), .int (nI i), .int (kop o), .int 0] [] M (pu_qV Q) := by
        intro c4
        rw [if_neg c4] at H
        refine r_LawReader_readSum_72 ?_
        refine c_K_step hX hy (by omega) h (fun M2 h2 f2 => ?_)
        refine hfac (d + 3) M2 _ _ (by omega) h2 (show lcn s ≤ lqn s + 1 by omega) o1 ?_
        have ok := l_fac_ok (tb := tb) (r := r) he (s := l_adv s) o1
        have hq2 : lqn (l_adv s) = lqn s + 1 := rfl
        have hc2 : lcn (l_adv s) = lcn s := rfl
        have H2 := kP_fr f2 H
        unfold kP at H2
        rw [l_po_bn] at H2
        refine l_po_mono (l_po_and ok H2) (fun f hfx z M3 h3 f3 => ?_) (fun s1 hsx z M3 h3 f3 => ?_)
        · dsimp only
          rw [if_pos rfl]
          exact ⟨y, h3.1, hy, c_K_addD hy h3 (fun x M4 h4 f4 => c_K_sum9D hy h4 (fun M5 h5 f5 => z.2 M5 h5 ((f3.tr f4).tr f5)))⟩
        · obtain ⟨⟨a1, a2, a3⟩, H3⟩ := z
          rw [if_pos rfl]
          refine ⟨y, h3.1, hy, c_K_add (o := o) (v := 0) hy (by omega) h3 (fun M4 h4 f4 => ?_)⟩
          rw [nI_1]
          exact ih (w := w) (s := l_emt o 0 s1) hw (show i + 1 + 1 ≤ lqn s1 by omega) (show lcn s1 + 1 + l_ww w ≤ lqn s1 by omega) a2 (show e < lqn s1 + g by omega) h4 (kP_fr (f3.tr f4) H3)
      have hx2 : M 1 2 = kop o := by rw [hx, hk]
      have hcs : o = 2 ∨ o = 3 ∨ o = 4 ∨ o = 5 ∨ o = 6 := by omega
      rw [hk]
      rcases hcs with rfl | rfl | rfl | rfl | rfl
      · refine r_LawReader_isReckoned ?_
        rw [if_pos (show kop 2 = 43 from rfl), if_neg (by decide), hx2, if_pos (show kop 2 = 43 from rfl), if_neg (by decide)]
        exact add (by decide)
      · refine r_LawReader_isReckoned ?_
        rw [if_neg (show ¬ kop 3 = 43 by decide), if_pos (show kop 3 = 45 from rfl), if_neg (by decide), hx2, if_neg (show ¬ kop 3 = 43 by decide), if_pos (show kop 3 = 45 from rfl), if_neg (by decide)]
        exact add (by decide)
      · refine r_LawReader_isReckoned ?_
        rw [if_neg (show ¬ kop 4 = 43 by decide), if_neg (show ¬ kop 4 = 45 by decide), if_pos (show kop 4 = 42 from rfl), if_neg (by decide), hx2, if_neg (show ¬ kop 4 = 43 by decide), if_neg (show ¬ kop 4 = 45 by decide), if_pos rfl]
        exact mul (by decide)
      · refine r_LawReader_isReckoned ?_
        rw [if_neg (show ¬ kop 5 = 43 by decide), if_neg (show ¬ kop 5 = 45 by decide), if_neg (show ¬ kop 5 = 42 by decide), if_pos (show kop 5 = 47 from rfl), if_neg (by decide), hx2, if_neg (show ¬ kop 5 = 43 by decide), if_neg (show ¬ kop 5 = 45 by decide), if_pos rfl]
        exact mul (by decide)
      · refine r_LawReader_isReckoned ?_
        rw [if_neg (show ¬ kop 6 = 43 by decide), if_neg (show ¬ kop 6 = 45 by decide), if_neg (show ¬ kop 6 = 42 by decide), if_neg (show ¬ kop 6 = 47 by decide), if_pos (show kop 6 = 37 from rfl), if_neg (by decide), hx2, if_neg (show ¬ kop 6 = 43 by decide), if_neg (show ¬ kop 6 = 45 by decide), if_pos rfl]
        exact mul (by decide)
theorem c_K_sum {r : Nat} (hX : TX tb e) (hy : pu_isL y) (hfac : kFac L tb e y r) {D : Nat} {M : pu_M} {s : Lst} {Q : pu_M → Prop} (hD : 2 * r + 4 ≤ D) (h : kT tb e M y s) (hc : lcn s ≤ lqn s) (hq : lqn s ≤ e) (H : kP tb e y M Q (l_sumR tb e (l_fac tb e r) s)) : pu_V L D 50 [.ref 49, .int (nI (6 - r))] M Q := by
  have he := hX.1
  obtain ⟨d, rfl⟩ : ∃ d, D = d + 4 := ⟨D - 4, by omega⟩
  refine r_LawReader_readSum ?_
  refine hfac (d + 3) M s _ (by omega) h hc hq ?_
  have ok := l_fac_ok (tb := tb) (r := r) he (s := s) hq
  unfold l_sumR kP at H
  rw [l_po_bn] at H
  refine l_po_mono (l_po_and ok H) (fun f hfx z M3 h3 f3 => ?_) (fun s1 hsx z M3 h3 f3 => ?_)
  · exact c_K_sum9D hy h3 (fun M4 h4 f4 => z.2 M4 h4 (f3.tr f4))
  · obtain ⟨⟨a1, a2, a3⟩, H3⟩ := z
    exact c_K_sumL hX hy hfac hD (i := 0) (w := none) (s := s1) (fun o z => by cases z) (by omega) (show lcn s1 + 0 ≤ lqn s1 by omega) a2 (by omega) h3 (kP_fr f3 H3)
theorem c_K_fac (hX : TX tb e) (hy : pu_isL y) : ∀ r, r ≤ 6 → kFac L tb e y r := by
  have he := hX.1
  intro r
  induction r with
  | zero =>
    intro _ D M s Q hD h hc hq H
    obtain ⟨d, rfl⟩ : ∃ d, D = d + 3 := ⟨D - 3, by omega⟩
    unfold l_fac at H
    by_cases h91 : ch tb e (lqn s) = 91
    · rw [if_pos h91] at H
      refine r_LawReader_readFactor ?_
      rw [h.2.1.2.2.2.2.1, if_pos h91]
      refine r_LawReader_opens ?_
      rw [if_neg (show ¬ nI (6 - 0) < 6 by decide)]
      refine c_K_fail hy (by omega) h (fun M1 h1 o1 => ?_)
      rw [if_pos rfl]; exact H M1 h1 o1
    · rw [if_neg h91] at H
      exact c_K_atom hX hy hc hq h h91 H
  | succ r ih =>
    intro hr D M s Q hD h hc hq H
    obtain ⟨d, rfl⟩ : ∃ d, D = d + 3 := ⟨D - 3, by omega⟩
    unfold l_fac at H
    by_cases h91 : ch tb e (lqn s) = 91
    · rw [if_pos h91] at H
      have hl := ch_m1 h91 (by decide)
      refine r_LawReader_readFactor ?_
      rw [h.2.1.2.2.2.2.1, if_pos h91]
      refine r_LawReader_opens ?_
      rw [if_pos (show nI (6 - (r + 1)) < 6 by rw [n_6, nI_ltI (by omega) (by omega)]; omega)]
      refine c_K_step hX hy (by omega) h (fun M1 h1 o1 => ?_)
      rw [if_neg (by decide), nI_1, show 6 - (r + 1) + 1 = 6 - r by omega]
      have H2 := kP_fr o1 H
      unfold kP at H2
      rw [l_po_bn] at H2
      have ok := l_sum_ok (tb := tb) (r := r) he (s := l_adv s) hl
      refine c_K_sum hX hy (ih (by omega)) (by omega) h1 (show lcn s ≤ lqn s + 1 by omega) hl ?_
      have hq2 : lqn (l_adv s) = lqn s + 1 := rfl
      have hc2 : lcn (l_adv s) = lcn s := rfl
      refine l_po_mono (l_po_and ok H2) (fun f hfx z M3 h3 f3 => ?_) (fun s1 hsx z M3 h3 f3 => ?_)
      · exact c_K_wantsD (by decide) (neg_ne z.1) h3 (z.2 M3 h3 f3)
      · obtain ⟨⟨a1, a2, a3⟩, H3⟩ := z
        exact c_K_wants hX hy a2 (by omega) h3 (kP_fr f3 H3)
    · rw [if_neg h91] at H
      exact c_K_atom hX hy hc hq h h91 H
end KS
