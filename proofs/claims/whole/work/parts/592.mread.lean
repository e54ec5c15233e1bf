/-! the model reads THE LAW: the ends of sums -/
section NE
variable {L d : Nat} {tb : Nat → Nat} {e : Nat} {Q : Int32 → pu_M → Prop}
theorem l_wa_app {U W : Wl} {k : Nat} (hk : k < W.length) : l_wa (U ++ W) k = l_wa W k := by
  induction U with
  | nil => rfl
  | cons x U ih =>
    show (if k = (U ++ W).length then x.1 else l_wa (U ++ W) k) = _
    rw [if_neg (by rw [List.length_append]; omega)]; exact ih
theorem l_wa_pend {U W : Wl} (hU : ∀ x ∈ U, ¬ x.1 = 14) : ∀ k, W.length ≤ k → k < (U ++ W).length → ¬ l_wa (U ++ W) k = 14 := by
  induction U with
  | nil => intro k h1 h2; exact absurd h2 (by show ¬ k < W.length; omega)
  | cons x U ih =>
    intro k h1 h2
    show ¬ (if k = (U ++ W).length then x.1 else l_wa (U ++ W) k) = 14
    by_cases z : k = (U ++ W).length
    · rw [if_pos z]; exact hU x (List.mem_cons_self)
    · rw [if_neg z]
      have h2 : k < (U ++ W).length + 1 := h2
      exact ih (fun y hy => hU y (List.mem_cons_of_mem _ hy)) k h1 (by omega)
theorem lgl_mem {lag w : Option Nat} (hl : l_okl lag) (hw : l_okw w) : ∀ x ∈ lgl lag ++ lgl w, ¬ x.1 = 14 := by
  intro x hx
  rw [List.mem_append] at hx
  rcases hx with h | h
  · cases lag with
    | none => cases h
    | some a =>
      have : x = (a, 0) := List.mem_singleton.mp h
      have := hl a rfl
      subst x; show ¬ a = 14; omega
  · cases w with
    | none => cases h
    | some a =>
      have : x = (a, 0) := List.mem_singleton.mp h
      have := hw a rfl
      subst x; show ¬ a = 14; omega
/-- a [ is open -/
theorem c_N_hos1 {Q : Int32 → pu_M → Prop} {M : pu_M} {s : Lst} {b o : Nat} {U W : Wl} (hb : b ≤ W.length) (hW : (U ++ (14, 0) :: W).length ≤ 260) (h : mT tb e M (U ++ (14, 0) :: W) o s) (H : Q 1 M) : pu_I L (d + 1) 190 [.ref 58, .int (nI b)] M Q := by
  have hl : (U ++ (14, 0) :: W).length = U.length + (W.length + 1) := by rw [List.length_append]; rfl
  refine c_N_hos (by omega) hW h ?_
  have : (fnd (fun k => decide (l_wa (U ++ (14, 0) :: W) k = 14)) ((U ++ (14, 0) :: W).length - b) b).isSome = true := by
    cases hf : fnd (fun k => decide (l_wa (U ++ (14, 0) :: W) k = 14)) ((U ++ (14, 0) :: W).length - b) b with
    | some k => rfl
    | none =>
      have := fnd_none hf W.length hb (by omega)
      rw [decide_eq_false_iff_not] at this
      exfalso
      apply this
      rw [l_wa_app (by show W.length < W.length + 1; omega)]
      show (if W.length = W.length then 14 else _) = 14
      rw [if_pos rfl]
  rw [this]; exact H
theorem c_N_hos0 {Q : Int32 → pu_M → Prop} {M : pu_M} {s : Lst} {o : Nat} {U W : Wl} (hU : ∀ x ∈ U, ¬ x.1 = 14) (hW : (U ++ W).length ≤ 260) (h : mT tb e M (U ++ W) o s) (H : Q 0 M) : pu_I L (d + 1) 190 [.ref 58, .int (nI W.length)] M Q := by
  have hl : (U ++ W).length = U.length + W.length := List.length_append
  refine c_N_hos (by omega) hW h ?_
  have : (fnd (fun k => decide (l_wa (U ++ W) k = 14)) ((U ++ W).length - W.length) W.length) = none := by
    cases hf : fnd (fun k => decide (l_wa (U ++ W) k = 14)) ((U ++ W).length - W.length) W.length with
    | none => rfl
    | some k =>
      obtain ⟨f1, f2, f3, _⟩ := fnd_some hf
      rw [decide_eq_true_eq] at f3
      exact absurd f3 (l_wa_pend hU k f1 (by omega))
  rw [this]; exact H
theorem l_so_none {x : Int32} (h : l_so x = none) : ¬ x = 43 ∧ ¬ x = 45 ∧ ¬ x = 42 ∧ ¬ x = 47 ∧ ¬ x = 37 := by
  unfold l_so at h
  by_cases c1 : x = 43
  · rw [if_pos c1] at h; cases h
  rw [if_neg c1] at h
  by_cases c2 : x = 45
  · rw [if_pos c2] at h; cases h
  rw [if_neg c2] at h
  by_cases c3 : x = 42
  · rw [if_pos c3] at h; cases h
  rw [if_neg c3] at h
  by_cases c4 : x = 47
  · rw [if_pos c4] at h; cases h
  rw [if_neg c4] at h
  by_cases c5 : x = 37
  · rw [if_pos c5] at h; cases h
  exact ⟨c1, c2, c3, c4, c5⟩
theorem c_N_fac (hX : TX tb e) : ∀ r, r ≤ 6 → nFac L d tb e Q r := by
  have he := hX.1
  intro r
  induction r with
  | zero =>
    intro _ base W M s v2 h hW hb hc hq H
    unfold l_fac at H
    by_cases h91 : ch tb e (lqn s) = 91
    · rw [if_pos h91] at H
      refine r_m_readsFactor_0 (c_N_here hX (by omega) h ?_)
      rw [if_pos h91]
      refine c_N_opens (a := 14) (by decide) (by decide) (by omega) h (fun _ M' a b => ?_) (fun z => absurd z (by decide))
      rw [if_pos rfl, if_pos rfl]; exact H M' a b
    · rw [if_neg h91] at H
      exact c_N_atom hX h hc hq h91 H
  | succ r ih =>
    intro hr base W M s v2 h hW hb hc hq H
    unfold l_fac at H
    by_cases h91 : ch tb e (lqn s) = 91
    · rw [if_pos h91] at H
      have hl := ch_m1 h91 (by decide)
      refine r_m_readsFactor_0 (c_N_here hX (by omega) h ?_)
      rw [if_pos h91]
      refine c_N_opens (a := 14) (by decide) (by omega) (by omega) h (fun z => absurd z (by omega)) (fun _ M1 t1 f1 => ?_)
      rw [if_neg (by decide)]
      rw [show 6 - (r + 1) + 1 = 6 - r by omega] at t1
      have hq1 : lqn (l_adv s) = lqn s + 1 := rfl
      have hc1 : lcn (l_adv s) = lcn s := rfl
      have H1 := nP_fr f1 H
      unfold l_sumR nP at H1
      rw [l_po_bn, l_po_bn] at H1
      have ok := l_fac_ok (tb := tb) (r := r) he (s := l_adv s) hl
      refine ih (by omega) base ((14, 0) :: W) M1 (l_adv s) v2 t1 (show W.length + 1 ≤ lqn s + 1 by omega) (show base ≤ W.length + 1 by omega) (by omega) hl ?_
      refine l_po_mono (l_po_and ok H1) (fun f hfx z M2 a2 f2 => z.2 M2 a2 f2) (fun s1 hsx z M2 t2 f2 => ?_)
      obtain ⟨⟨a1, a2, a3⟩, H2⟩ := z
      have H3 : nP tb e W (6 - (r + 1)) (Q 0) (nHd L d base Q) M1 (l_bn (l_sumL tb e (l_fac tb e r) 241 none s1) (l_end tb e 93)) := l_po_bn.mpr H2
      refine c_N_loop (W0 := (14, 0) :: W) (base := base) (r := r) (g := 241) (w := none) (lag := none) (M := M2) (s0 := s1) (cont := l_end tb e 93) hX (ih (by omega)) (show base ≤ W.length + 1 by omega) (fun x W' z => by cases z; right; decide) ?_ (fun _ z => by cases z) (fun _ z => by cases z) t2 (show W.length + 1 + 0 + 0 ≤ lqn s1 by omega) a2 (by omega) (show lcn s1 + 0 + 0 ≤ lqn s1 by omega) (nP_fr f2 H3)
      intro M3 s0 lag w hlg hw h3 hl3 hq3 hc3 hno H4 v
      have hl3 : W.length + 1 ≤ lqn s0 := hl3
      have hwl := l_ww_le w
      have hll := l_ww_le lag
      obtain ⟨n1, n2, n3, n4, n5⟩ := l_so_none hno
      have hlen : (lgl lag ++ (lgl w ++ (14, 0) :: W)).length ≤ 260 := by
        rw [List.length_append, List.length_append, lgl_len, lgl_len]
        show l_ww lag + (l_ww w + (W.length + 1)) ≤ 260
        omega
      have h3' : mT tb e M3 ((lgl lag ++ lgl w) ++ (14, 0) :: W) (6 - r) s0 := by rw [List.append_assoc]; exact h3
      have hlen' : ((lgl lag ++ lgl w) ++ (14, 0) :: W).length ≤ 260 := by rw [List.append_assoc]; exact hlen
      refine r_m_readsSum_14 (c_N_here hX (by omega) h3 (r_m_sumSign ?_))
      rw [if_neg n1, if_neg n2, if_neg n3, if_neg n4, if_neg n5, if_pos rfl]
      refine c_N_here hX (by omega) h3 ?_
      unfold l_end at H4
      rw [l_emw_q2] at H4
      have bad : ¬ ch tb e (lqn s0) = 93 → ∀ x : Int32, pu_R L (d + 5) 191 138 [.ref 58, .int (nI base), .int x] [] M3 (pu_qI Q) := by
        intro z x
        rw [if_neg z] at H4
        refine r_m_readsSum_138 (c_N_hos1 hb hlen' h3' ?_)
        rw [if_neg (by decide)]
        exact c_N_wrong h3 (fun M' a b => ⟨Or.inl rfl, H4 M' a b⟩)
      by_cases h93 : ch tb e (lqn s0) = 93
      · rw [if_pos h93] at H4 ⊢
        refine c_N_hos1 hb hlen' h3' ?_
        rw [if_neg (by decide)]
        refine c_N_close1 (W := (14, 0) :: W) hlg hw (fun x W' z => by cases z; right; decide) (by omega) (show W.length + 1 ≤ 240 by omega) h3 (fun M4 t4 f4 M10 e10 => ?_)
        have t5 := mT_pop t4
        have e9 : pu_wr M4 58 11 (M4 58 11 - 1) 58 9 - 1 = nI (6 - (r + 1)) := by
          rw [t5.2.2.2]; exact (pk_sub (a := 6 - r) (b := 1) (by omega)).trans (by rw [show 6 - r - 1 = 6 - (r + 1) by omega])
        rw [e9] at e10
        have t6 := mT_open (o' := 6 - (r + 1)) t5
        have e5 : (pu_wr (pu_wr M4 58 11 (M4 58 11 - 1)) 58 9 (nI (6 - (r + 1)))) 58 5 = nI (lqn s0) := by have := t6.1.2.1; rwa [l_emw_q2] at this
        rw [e5, nI_1] at e10
        have t7 := mT_adv t6
        rw [l_emw_q2, ← e10] at t7
        have f7 : mF M3 M10 := by rw [e10]; exact ((f4.w58 (by omega)).w58 (by omega)).w58 (by omega)
        exact H4 M10 t7 f7 _
      · rw [if_neg h93]
        exact bad h93 _
    · rw [if_neg h91] at H
      exact c_N_atom hX h hc hq h91 H
theorem c_N_sum {r : Nat} {W : Wl} {M : pu_M} {s : Lst} (hX : TX tb e) (hr : r ≤ 6) (hW0 : l_nop W 2) (h : mT tb e M W (6 - r) s) (hW : W.length ≤ lqn s) (hc : lcn s ≤ lqn s) (hq : lqn s ≤ e) (H : nP tb e W (6 - r) (Q 0) (Q 1) M (l_sumR tb e (l_fac tb e r) s)) : pu_I L (d + 5) 191 [.ref 58] M Q := by
  have he := hX.1
  refine r_m_readsSum ?_
  rw [h.2.2.1.1]
  unfold l_sumR nP at H
  rw [l_po_bn] at H
  have ok := l_fac_ok (tb := tb) (r := r) he (s := s) hq
  refine r_m_readsFactor (c_N_fac hX r hr W.length W M s mq_un h hW (Nat.le_refl _) hc hq ?_)
  refine l_po_mono (l_po_and ok H) (fun f hfx z M2 a2 f2 => z.2 M2 a2 f2) (fun s1 hsx z M2 t2 f2 => ?_)
  obtain ⟨⟨a1, a2, a3⟩, H2⟩ := z
  have H3 : nP tb e W (6 - r) (Q 0) (Q 1) M (l_bn (l_sumL tb e (l_fac tb e r) 241 none s1) (fun s' => .inr s')) := l_po_bn.mpr (l_po_mono H2 (fun _ _ z => z) (fun _ _ z => z))
  refine c_N_loop (W0 := W) (base := W.length) (r := r) (g := 241) (w := none) (lag := none) (M := M2) (s0 := s1) (cont := fun s' => .inr s') hX (c_N_fac hX r hr) (Nat.le_refl _) hW0 ?_ (fun _ z => by cases z) (fun _ z => by cases z) t2 (show W.length + 0 + 0 ≤ lqn s1 by omega) a2 (by omega) (show lcn s1 + 0 + 0 ≤ lqn s1 by omega) (nP_fr f2 H3)
  intro M3 s0 lag w hlg hw h3 hl3 hq3 hc3 hno H4 v
  have hwl := l_ww_le w
  have hll := l_ww_le lag
  obtain ⟨n1, n2, n3, n4, n5⟩ := l_so_none hno
  have hlen : (lgl lag ++ (lgl w ++ W)).length ≤ 260 := by
    rw [List.length_append, List.length_append, lgl_len, lgl_len]
    omega
  have h3' : mT tb e M3 ((lgl lag ++ lgl w) ++ W) (6 - r) s0 := by rw [List.append_assoc]; exact h3
  have hlen' : ((lgl lag ++ lgl w) ++ W).length ≤ 260 := by rw [List.append_assoc]; exact hlen
  have fin : ∀ x : Int32, pu_R L (d + 5) 191 138 [.ref 58, .int (nI W.length), .int x] [] M3 (pu_qI Q) := by
    intro x
    refine r_m_readsSum_138 (c_N_hos0 (lgl_mem hlg hw) hlen' h3' ?_)
    rw [if_pos rfl]
    exact c_N_close1 hlg hw hW0 (by omega) (by omega) h3 (fun M4 t4 f4 => H4 M4 t4 f4)
  refine r_m_readsSum_14 (c_N_here hX (by omega) h3 (r_m_sumSign ?_))
  rw [if_neg n1, if_neg n2, if_neg n3, if_neg n4, if_neg n5, if_pos rfl]
  refine c_N_here hX (by omega) h3 ?_
  by_cases h93 : ch tb e (lqn s0) = 93
  · rw [if_pos h93]
    refine c_N_hos0 (lgl_mem hlg hw) hlen' h3' ?_
    rw [if_pos rfl]; exact fin _
  · rw [if_neg h93]; exact fin _
end NE
