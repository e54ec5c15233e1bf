/-! the steps fit: how high the numbers stand ahead of each, where skips go -/
def l_ty (s : Lst) (p : Nat) : Nat := if p < lcn s then (lfn s p).2.2 else lhn s
def l_ba (x : Lin) : Prop := (x.1 < 2 → x.2.2 ≤ 30 ∧ x.2.1 < 1000000 ∧ (x.1 = 1 → x.2.1 < 8)) ∧ (2 ≤ x.1 → x.1 < 7 → 2 ≤ x.2.2 ∧ x.2.2 ≤ 31) ∧ (7 ≤ x.1 → x.1 < 10 → x.2.2 = 2) ∧ (10 ≤ x.1 → x.2.2 = 99)
def l_in (pd : Nat → Prop) (s : Lst) (p : Nat) : Prop := (lfn s p).1 ≤ 12 ∧ l_nh (lfn s p).1 (lfn s p).2.2 = l_ty s (p + 1) ∧ l_ba (lfn s p) ∧ (11 ≤ (lfn s p).1 → pd p ∨ (p < (lfn s p).2.1 ∧ (lfn s p).2.1 ≤ lcn s ∧ l_ty s (lfn s p).2.1 = 99))
def l_wt (a : Nat) (pd : Nat → Prop) (s : Lst) : Prop := ∀ p, a ≤ p → p < lcn s → l_in pd s p
theorem l_emt_ty {o v : Nat} {s : Lst} {k : Nat} (hk : k ≤ lcn s) : l_ty (l_emt o v s) k = l_ty s k := by
  show (if k < lcn s + 1 then (fset (lfn s) (lcn s) (o, v, lhn s) k).2.2 else _) = if k < lcn s then (lfn s k).2.2 else lhn s
  rw [if_pos (by omega)]
  by_cases h : k < lcn s
  · rw [if_pos h, fset_n (by omega)]
  · obtain rfl : k = lcn s := by omega
    rw [if_neg h, fset_s]
theorem l_emt_wt {a o v : Nat} {pd : Nat → Prop} {s : Lst} (h : l_wt a pd s) (hb : l_ba (o, v, lhn s)) (ho : o ≤ 12) (hp : 11 ≤ o → pd (lcn s)) : l_wt a pd (l_emt o v s) := by
  intro p h1 h2
  have h2 : p < lcn s + 1 := h2
  by_cases e : p = lcn s
  · subst e
    have ef : lfn (l_emt o v s) (lcn s) = (o, v, lhn s) := fset_s
    unfold l_in
    rw [ef]
    refine ⟨ho, ?_, hb, fun z => Or.inl (hp z)⟩
    show _ = if lcn s + 1 < lcn s + 1 then _ else l_nh o (lhn s)
    rw [if_neg (by omega)]
  · obtain ⟨a1, a2, a3, a4⟩ := h p h1 (by omega)
    have ef : lfn (l_emt o v s) p = lfn s p := fset_n e
    unfold l_in
    rw [ef, l_emt_ty (by omega)]
    refine ⟨a1, a2, a3, fun z => ?_⟩
    rcases a4 z with w | ⟨w1, w2, w3⟩
    · exact Or.inl w
    · right
      rw [l_emt_ty w2]
      exact ⟨w1, Nat.le_succ_of_le w2, w3⟩
theorem l_pat_ty {p0 : Nat} {s : Lst} {k : Nat} : l_ty (l_pat (some p0) s) k = l_ty s k := by
  show (if k < lcn s then (fset (lfn s) p0 ((lfn s p0).1, lcn s, (lfn s p0).2.2) k).2.2 else lhn s) = if k < lcn s then (lfn s k).2.2 else lhn s
  by_cases e : k = p0
  · subst e; rw [fset_s]
  · rw [fset_n e]
/-- a skip gets its goal -/
theorem l_pat_wt {a p0 : Nat} {pd : Nat → Prop} {s : Lst} (h : l_wt a (fun p => pd p ∨ p = p0) s) (hh : lhn s = 99) (hp : p0 < lcn s) (hj : 11 ≤ (lfn s p0).1) : l_wt a pd (l_pat (some p0) s) := by
  intro p h1 h2
  have h2 : p < lcn s := h2
  obtain ⟨a1, a2, a3, a4⟩ := h p h1 h2
  have hc : lcn (l_pat (some p0) s) = lcn s := rfl
  unfold l_in
  rw [l_pat_ty, hc]
  by_cases e : p = p0
  · subst e
    have ef : lfn (l_pat (some p) s) p = ((lfn s p).1, lcn s, (lfn s p).2.2) := fset_s
    rw [ef]
    refine ⟨a1, a2, ⟨fun z => ?_, a3.2.1, a3.2.2.1, a3.2.2.2⟩, fun z => Or.inr ⟨hp, Nat.le_refl _, ?_⟩⟩
    · have z : (lfn s p).1 < 2 := z
      omega
    · rw [l_pat_ty]
      show (if lcn s < lcn s then _ else lhn s) = 99
      rw [if_neg (by omega)]; exact hh
  · have ef : lfn (l_pat (some p0) s) p = lfn s p := fset_n e
    rw [ef]
    refine ⟨a1, a2, a3, fun z => ?_⟩
    rcases a4 z with (w | w) | ⟨w1, w2, w3⟩
    · exact Or.inl w
    · exact absurd w e
    · right; rw [l_pat_ty]; exact ⟨w1, w2, w3⟩
theorem l_wt_mono {a : Nat} {pd pd' : Nat → Prop} {s : Lst} (h : l_wt a pd s) (hm : ∀ p, pd p → pd' p) : l_wt a pd' s := by
  intro p h1 h2
  obtain ⟨a1, a2, a3, a4⟩ := h p h1 h2
  refine ⟨a1, a2, a3, fun z => ?_⟩
  rcases a4 z with w | w
  · exact Or.inl (hm p w)
  · exact Or.inr w
/-- what a piece of the text does to the steps: k higher, those ahead stay -/
def l_tp (a : Nat) (pd : Nat → Prop) (c h : Nat) (s : Lst) (s' : Lst) : Prop := l_wt a pd s' ∧ lhn s' = h ∧ lcn s ≤ lcn s' ∧ (∀ p, p < c → lfn s' p = lfn s p)
section TY
variable {tb : Nat → Nat} {e a : Nat} {pd : Nat → Prop}
theorem l_tp_tr {c c' h h' : Nat} {s s1 s2 : Lst} (h1 : l_tp a pd c h s s1) (h2 : l_tp a pd c' h' s1 s2) (hc : c ≤ c') : l_tp a pd c h' s s2 :=
  ⟨h2.1, h2.2.1, Nat.le_trans h1.2.2.1 h2.2.2.1, fun p hp => (h2.2.2.2 p (by omega)).trans (h1.2.2.2 p hp)⟩
theorem l_emt_tp {c o v : Nat} {s : Lst} (h : l_wt a pd s) (hb : l_ba (o, v, lhn s)) (ho : o ≤ 12) (hp : 11 ≤ o → pd (lcn s)) (hc : c ≤ lcn s) : l_tp a pd c (l_nh o (lhn s)) s (l_emt o v s) :=
  ⟨l_emt_wt h hb ho hp, rfl, Nat.le_succ _, fun p hp => fset_n (show p ≠ lcn s by omega)⟩
theorem l_rf_tp {c h : Nat} {s : Lst} (h1 : l_wt a pd s) (h2 : lhn s = h) : l_tp a pd c h s s := ⟨h1, h2, Nat.le_refl _, fun _ _ => rfl⟩
theorem l_ba_at {o v h : Nat} (ho : o < 2) (h1 : h ≤ 30) (h2 : v < 1000000) (h3 : o = 1 → v < 8) : l_ba (o, v, h) :=
  ⟨fun _ => ⟨h1, h2, h3⟩, fun z => absurd z (show ¬ 2 ≤ o by omega), fun z => absurd z (show ¬ 7 ≤ o by omega), fun z => absurd z (show ¬ 10 ≤ o by omega)⟩
theorem l_atom_tp (he : e ≤ 240) {s : Lst} (hq : lqn s ≤ e) (h : l_wt a pd s) (hh : lhn s ≤ 30) : l_po (fun _ => True) (l_tp a pd (lcn s) (lhn s + 1) s) (l_atom tb e s) := by
  unfold l_atom
  cases hc : chR tb e 48 10 (lqn s) with
  | some k =>
    have := l_num_ok (tb := tb) he (j := 5) (a := 0) (q := lqn s) (B := 1) hq (by omega)
    dsimp only
    cases hn : l_num tb e 5 0 (lqn s) with
    | inl f => trivial
    | inr x =>
      rw [hn] at this
      have hx : x.1 < 100000 := by have := this.2.2; omega
      exact l_emt_tp (s := l_atq x.2 s) h (l_ba_at (by decide) hh (by omega) (fun z => absurd z (by decide))) (by decide) (fun z => absurd z (by decide)) (Nat.le_refl _)
  | none =>
    dsimp only
    cases hv : l_vo (ch tb e (lqn s)) with
    | none => trivial
    | some k =>
      have hk := (l_vo_lt hv).2
      exact l_emt_tp (s := l_adv s) h (l_ba_at (by decide) hh (by omega) (fun _ => hk)) (by decide) (fun z => absurd z (by decide)) (Nat.le_refl _)
theorem l_ba_op {o h : Nat} (h1 : 2 ≤ o) (h2 : o ≤ 6) (h3 : 2 ≤ h) (h4 : h ≤ 31) : l_ba (o, 0, h) :=
  ⟨fun z => absurd z (show ¬ o < 2 by omega), fun _ _ => ⟨h3, h4⟩, fun z => absurd z (show ¬ 7 ≤ o by omega), fun z => absurd z (show ¬ 10 ≤ o by omega)⟩
theorem l_nh_op {o h : Nat} (h1 : 2 ≤ o) (h2 : o ≤ 6) : l_nh o h = h - 1 := by unfold l_nh; rw [if_neg (by omega), if_pos (by omega)]
theorem l_emw_tp {w : Option Nat} {s : Lst} {h c : Nat} (hw : ∀ o, w = some o → 2 ≤ o ∧ o < 4) (h1 : l_wt a pd s) (h2 : lhn s = h + 1 + l_ww w) (h3 : h + 2 ≤ 31) (hc : c ≤ lcn s) : l_tp a pd c (h + 1) s (l_emw w s) := by
  cases w with
  | none => exact l_rf_tp h1 h2
  | some o =>
    obtain ⟨o1, o2⟩ := hw o rfl
    have h2 : lhn s = h + 1 + 1 := h2
    have := l_emt_tp (o := o) (v := 0) (c := c) h1 (l_ba_op o1 (by omega) (by omega) (by omega)) (by omega) (fun z => absurd z (by omega)) hc
    rw [l_nh_op o1 (by omega), h2] at this
    exact this
theorem l_sumL_tp {fc : Lst → Lre} {h : Nat} (hf0 : ∀ s, lqn s ≤ e → l_go e s 0 (fc s)) (hf : ∀ s, lqn s ≤ e → l_wt a pd s → lhn s ≤ h + 2 → l_po (fun _ => True) (l_tp a pd (lcn s) (lhn s + 1) s) (fc s)) (hh : h + 3 ≤ 31) : ∀ {g : Nat} {w : Option Nat} {s : Lst}, lqn s ≤ e → (∀ o, w = some o → 2 ≤ o ∧ o < 4) → l_wt a pd s → lhn s = h + 1 + l_ww w → l_po (fun _ => True) (l_tp a pd (lcn s) (h + 1) s) (l_sumL tb e fc g w s) := by
  intro g
  induction g with
  | zero => intro w s h1 h2 h3 h4; trivial
  | succ g ih =>
    intro w s h1 h2 h3 h4
    unfold l_sumL
    have hw1 : l_ww w ≤ 1 := by cases w with
      | none => exact Nat.zero_le 1
      | some o => exact Nat.le_refl 1
    cases ho : l_so (ch tb e (lqn s)) with
    | none => exact l_emw_tp h2 h3 h4 (by omega) (Nat.le_refl _)
    | some o =>
      obtain ⟨o1, o2, o3⟩ := l_so_lt ho
      dsimp only
      by_cases c4 : o < 4
      · rw [if_pos c4, l_po_bn]
        have e1 := l_emw_tp (c := lcn s) h2 h3 h4 (by omega) (Nat.le_refl _)
        have hq : lqn (l_adv (l_emw w s)) = lqn s + 1 := by show lqn (l_emw w s) + 1 = _; rw [l_emw_q]
        have hl : lhn (l_adv (l_emw w s)) = h + 1 := e1.2.1
        have hcc : lcn (l_adv (l_emw w s)) = lcn (l_emw w s) := rfl
        refine l_po_mono (l_po_and (hf0 (l_adv (l_emw w s)) (by omega)) (hf (l_adv (l_emw w s)) (by omega) e1.1 (by omega))) (fun f _ h => trivial) (fun s1 _ h => ?_)
        obtain ⟨⟨a1, a2, a3⟩, t1⟩ := h
        rw [hl] at t1
        have t1 : l_tp a pd (lcn (l_emw w s)) (h + 1 + 1) (l_emw w s) s1 := t1
        refine l_po_mono (ih (w := some o) (s := s1) a2 (fun o' z => by cases z; omega) t1.1 t1.2.1) (fun f _ h => trivial) (fun s2 _ t2 => ?_)
        exact l_tp_tr (l_tp_tr e1 t1 e1.2.2.1) t2 (Nat.le_trans e1.2.2.1 t1.2.2.1)
      · rw [if_neg c4, l_po_bn]
        refine l_po_mono (l_po_and (hf0 (l_adv s) o1) (hf (l_adv s) o1 h3 (show lhn s ≤ h + 2 by omega))) (fun f _ h => trivial) (fun s1 _ h => ?_)
        obtain ⟨⟨a1, a2, a3⟩, t1⟩ := h
        have t1 : l_tp a pd (lcn s) (lhn s + 1) s s1 := t1
        have e1 := l_emt_tp (o := o) (v := 0) (c := lcn s1) t1.1 (l_ba_op o2 o3 (by have := t1.2.1; omega) (by have := t1.2.1; omega)) (by omega) (fun z => absurd z (by omega)) (Nat.le_refl _)
        rw [l_nh_op o2 o3, t1.2.1] at e1
        refine l_po_mono (ih (w := w) (s := l_emt o 0 s1) a2 h2 e1.1 (by rw [e1.2.1]; omega)) (fun f _ h => trivial) (fun s2 _ t2 => ?_)
        exact l_tp_tr (l_tp_tr t1 e1 t1.2.2.1) t2 (Nat.le_trans t1.2.2.1 e1.2.2.1)
theorem l_sumR_tp (he : e ≤ 240) {fc : Lst → Lre} (hf0 : ∀ s, lqn s ≤ e → l_go e s 0 (fc s)) {s : Lst} (hf : ∀ s', lqn s' ≤ e → l_wt a pd s' → lhn s' ≤ lhn s + 2 → l_po (fun _ => True) (l_tp a pd (lcn s') (lhn s' + 1) s') (fc s')) (hh : lhn s + 3 ≤ 31) (hs : lqn s ≤ e) (h : l_wt a pd s) : l_po (fun _ => True) (l_tp a pd (lcn s) (lhn s + 1) s) (l_sumR tb e fc s) := by
  unfold l_sumR
  rw [l_po_bn]
  refine l_po_mono (l_po_and (hf0 s hs) (hf s hs h (by omega))) (fun f _ h => trivial) (fun s1 _ z => ?_)
  obtain ⟨⟨a1, a2, a3⟩, t1⟩ := z
  refine l_po_mono (l_sumL_tp (h := lhn s) hf0 hf hh (g := 241) (w := none) a2 (fun o z => by cases z) t1.1 t1.2.1) (fun f _ h => trivial) (fun s2 _ t2 => ?_)
  exact l_tp_tr t1 t2 t1.2.2.1
theorem l_end_tp {c : Int32} {s : Lst} {k : Nat} (h : l_wt a pd s) : l_po (fun _ => True) (l_tp a pd k (lhn s) s) (l_end tb e c s) := by
  unfold l_end
  by_cases z : ch tb e (lqn s) = c
  · rw [if_pos z]; exact ⟨h, rfl, Nat.le_refl _, fun _ _ => rfl⟩
  · rw [if_neg z]; trivial
theorem l_fac_tp (he : e ≤ 240) : ∀ {r : Nat} {s : Lst}, lqn s ≤ e → l_wt a pd s → lhn s + 2 * r ≤ 28 → l_po (fun _ => True) (l_tp a pd (lcn s) (lhn s + 1) s) (l_fac tb e r s) := by
  intro r
  induction r with
  | zero =>
    intro s hs h hh
    unfold l_fac
    by_cases z : ch tb e (lqn s) = 91
    · rw [if_pos z]; trivial
    · rw [if_neg z]; exact l_atom_tp he hs h (by omega)
  | succ r ih =>
    intro s hs h hh
    unfold l_fac
    by_cases z : ch tb e (lqn s) = 91
    · rw [if_pos z, l_po_bn]
      have hl := ch_m1 z (by decide)
      refine l_po_mono (l_po_and (l_sum_ok (tb := tb) he (r := r) (s := l_adv s) hl) (l_sumR_tp he (fun s hs => l_fac_ok he hs) (s := l_adv s) (fun s' a1 a2 a3 => ih a1 a2 (by have a3 : lhn s' ≤ lhn s + 2 := a3; omega)) (show lhn s + 3 ≤ 31 by omega) hl h)) (fun f _ h => trivial) (fun s1 _ z => ?_)
      obtain ⟨⟨a1, a2, a3⟩, t1⟩ := z
      have t1 : l_tp a pd (lcn s) (lhn s + 1) s s1 := t1
      refine l_po_mono (l_end_tp (k := lcn s) t1.1) (fun f _ h => trivial) (fun s2 _ t2 => ?_)
      rw [t1.2.1] at t2
      exact l_tp_tr t1 t2 (Nat.le_refl _)
    · rw [if_neg z]; exact l_atom_tp he hs h (by omega)
theorem l_sum_tp (he : e ≤ 240) {r : Nat} {s : Lst} (hr : r ≤ 6) (hs : lqn s ≤ e) (h : l_wt a pd s) (hh : lhn s ≤ 1) : l_po (fun _ => True) (l_tp a pd (lcn s) (lhn s + 1) s) (l_sumR tb e (l_fac tb e r) s) :=
  l_sumR_tp he (fun _ hs => l_fac_ok he hs) (fun s' a1 a2 a3 => l_fac_tp he a1 a2 (by omega)) (by omega) hs h
theorem l_cmp_tp (he : e ≤ 240) {r : Nat} {s : Lst} (hr : r ≤ 6) (hs : lqn s ≤ e) (h : l_wt a pd s) (hh : lhn s = 0) : l_po (fun _ => True) (l_tp a pd (lcn s) 99 s) (l_cmp tb e r s) := by
  unfold l_cmp
  rw [l_po_bn]
  refine l_po_mono (l_po_and (l_sum_ok (tb := tb) he (r := r) hs) (l_sum_tp he hr hs h (by omega))) (fun f _ h => trivial) (fun s1 _ z => ?_)
  obtain ⟨⟨a1, a2, a3⟩, t1⟩ := z
  rw [hh] at t1
  unfold l_cmp2
  cases ho : l_co (ch tb e (lqn s1)) with
  | none => trivial
  | some o =>
    obtain ⟨o1, o2, o3⟩ := l_co_lt ho
    dsimp only
    rw [l_po_bn]
    refine l_po_mono (l_sum_tp he hr (s := l_adv s1) o1 t1.1 (by show lhn s1 ≤ 1; rw [t1.2.1]; omega)) (fun f _ h => trivial) (fun s2 _ t2 => ?_)
    have t2 : l_tp a pd (lcn s1) (lhn s1 + 1) s1 s2 := t2
    rw [t1.2.1] at t2
    have h2 : lhn s2 = 2 := t2.2.1
    have e1 := l_emt_tp (o := o) (v := 0) (c := lcn s2) t2.1 ⟨fun z => absurd z (show ¬ o < 2 by omega), fun _ z => absurd z (show ¬ o < 7 by omega), fun _ _ => h2, fun z => absurd z (show ¬ 10 ≤ o by omega)⟩ (by omega) (fun z => absurd z (by omega)) (Nat.le_refl _)
    have en : l_nh o (lhn s2) = 99 := by unfold l_nh; rw [if_neg (by omega), if_neg (by omega), if_pos (by omega)]
    rw [en] at e1
    exact l_tp_tr (l_tp_tr t1 t2 t1.2.2.1) e1 (Nat.le_trans t1.2.2.1 t2.2.2.1)
theorem l_and_p {pd : Nat → Prop} {p0 : Nat} : ∀ p, pd p → pd p ∨ p = p0 := fun _ h => Or.inl h
/-- the skips that wait -/
def l_pe (pd : Nat → Prop) (ot op : Option Nat) (p : Nat) : Prop := pd p ∨ ot = some p ∨ op = some p
def l_sk (c : Nat) (s : Lst) (o : Option Nat) : Prop := ∀ p, o = some p → c ≤ p ∧ p < lcn s ∧ 11 ≤ (lfn s p).1
theorem l_po_tp {c : Nat} {s : Lst} {o : Option Nat} (h : l_wt a (l_pe pd o none) s) (hh : lhn s = 99) (hs : l_sk c s o) : l_tp a pd c 99 s (l_pat o s) := by
  cases o with
  | none => exact l_rf_tp (l_wt_mono h (fun p z => by rcases z with z | z | z; exact z; cases z; cases z)) hh
  | some p0 =>
    obtain ⟨s1, s2, s3⟩ := hs p0 rfl
    refine ⟨l_pat_wt (l_wt_mono h (fun p z => by rcases z with z | z | z; exact Or.inl z; cases z; exact Or.inr rfl; cases z)) hh s2 s3, hh, Nat.le_refl _, fun p hp => fset_n (by omega)⟩
theorem l_sk_tp {c h : Nat} {pd' : Nat → Prop} {s s' : Lst} {o : Option Nat} (hs : l_sk c s o) (t : l_tp a pd' (lcn s) h s s') : l_sk c s' o := fun p hp => by
  obtain ⟨s1, s2, s3⟩ := hs p hp
  have := t.2.2.1
  exact ⟨s1, by omega, by rw [t.2.2.2 p s2]; exact s3⟩
theorem l_sk_pat {c : Nat} {s : Lst} {o o' : Option Nat} (hs : l_sk c s o) : l_sk c (l_pat o' s) o := fun p hp => by
  obtain ⟨s1, s2, s3⟩ := hs p hp
  refine ⟨s1, by rw [l_pat_c]; exact s2, ?_⟩
  cases o' with
  | none => exact s3
  | some p1 =>
    show 11 ≤ (fset (lfn s) p1 ((lfn s p1).1, lcn s, (lfn s p1).2.2) p).1
    by_cases e : p = p1
    · subst e; rw [fset_s]; exact s3
    · rw [fset_n e]; exact s3
theorem l_ba_sk {o : Nat} (h1 : 11 ≤ o) (h2 : o ≤ 12) : l_ba (o, 0, 99) :=
  ⟨fun z => absurd z (show ¬ o < 2 by omega), fun _ z => absurd z (show ¬ o < 7 by omega), fun _ z => absurd z (show ¬ o < 10 by omega), fun _ => rfl⟩
theorem l_conL_tp {ts : Lst → Lre} {c : Nat} (hf0 : ∀ s, lqn s ≤ e → l_go e s 0 (ts s)) (hf : ∀ (pd : Nat → Prop) s, lqn s ≤ e → l_wt a pd s → lhn s = 0 → l_po (fun _ => True) (l_tp a pd (lcn s) 99 s) (ts s)) : ∀ {g : Nat} {ot op : Option Nat} {s : Lst}, lqn s ≤ e → c ≤ lcn s → l_wt a (l_pe pd ot op) s → lhn s = 99 → l_sk c s ot → l_sk c s op → l_po (fun _ => True) (l_tp a pd c 99 s) (l_conL tb e ts g ot op s) := by
  intro g
  induction g with
  | zero => intro ot op s h1 h2 h3 h4 h5 h6; trivial
  | succ g ih =>
    intro ot op s h1 h2 h3 h4 h5 h6
    unfold l_conL
    have p1 : l_tp a (l_pe pd none op) c 99 s (l_pat ot s) := l_po_tp (l_wt_mono h3 (fun p z => by
      rcases z with z | z | z
      · exact Or.inl (Or.inl z)
      · exact Or.inr (Or.inl z)
      · exact Or.inl (Or.inr (Or.inr z)))) h4 h5
    have p2 : l_tp a pd c 99 (l_pat ot s) (l_pat op (l_pat ot s)) := l_po_tp (l_wt_mono p1.1 (fun p z => by
      rcases z with z | z | z
      · exact Or.inl z
      · cases z
      · exact Or.inr (Or.inl z))) p1.2.1 (l_sk_pat h6)
    have step : ∀ {o : Nat} {s0 : Lst} {ot op : Option Nat}, 11 ≤ o → o ≤ 12 → lqn s0 = lqn s → lcn s0 = lcn s → lqn s < e → l_tp a (l_pe pd ot op) c 99 s s0 → l_pe pd ot op (lcn s) → (∀ p, ot = some p → p = lcn s ∨ l_sk c s0 (some p)) → (∀ p, op = some p → p = lcn s ∨ l_sk c s0 (some p)) → l_po (fun _ => True) (l_tp a pd c 99 s) (l_bn (ts (l_adv (l_emt o 0 s0))) (l_conL tb e ts g ot op)) := by
      intro o s0 ot op b1 b2 e1 e2 hl t0 hpd w1 w2
      have t1 := l_emt_tp (o := o) (v := 0) (c := c) t0.1 (by rw [t0.2.1]; exact l_ba_sk b1 b2) b2 (fun _ => by rw [e2]; exact hpd) (by omega)
      have en : l_nh o (lhn s0) = 0 := by unfold l_nh; rw [if_neg (by omega), if_neg (by omega), if_neg (by omega)]
      rw [en] at t1
      have hsk : ∀ {x : Option Nat}, (∀ p, x = some p → p = lcn s ∨ l_sk c s0 (some p)) → l_sk c (l_emt o 0 s0) x := by
        intro x hx p hp
        rcases hx p hp with z | z
        · subst z
          refine ⟨by omega, show lcn s < lcn s0 + 1 by omega, ?_⟩
          show 11 ≤ (fset (lfn s0) (lcn s0) (o, 0, lhn s0) (lcn s)).1
          rw [e2, fset_s]; exact b1
        · obtain ⟨s1, s2, s3⟩ := z p rfl
          refine ⟨s1, Nat.lt_succ_of_lt s2, ?_⟩
          show 11 ≤ (fset (lfn s0) (lcn s0) (o, 0, lhn s0) p).1
          rw [fset_n (by omega)]; exact s3
      rw [l_po_bn]
      have hq : lqn (l_adv (l_emt o 0 s0)) = lqn s0 + 1 := rfl
      refine l_po_mono (l_po_and (hf0 (l_adv (l_emt o 0 s0)) (by omega)) (hf (l_pe pd ot op) (l_adv (l_emt o 0 s0)) (by omega) t1.1 t1.2.1)) (fun f _ h => trivial) (fun s1 _ h => ?_)
      obtain ⟨⟨a1, a2, a3⟩, t2⟩ := h
      have t2 : l_tp a (l_pe pd ot op) (lcn (l_emt o 0 s0)) 99 (l_emt o 0 s0) s1 := t2
      have hc1 : lcn (l_emt o 0 s0) = lcn s0 + 1 := rfl
      have hc2 := t2.2.2.1
      refine l_po_mono (ih (ot := ot) (op := op) (s := s1) a2 (by omega) t2.1 t2.2.1 (l_sk_tp (hsk w1) t2) (l_sk_tp (hsk w2) t2)) (fun f _ h => trivial) (fun s2 _ t3 => ?_)
      exact ⟨t3.1, t3.2.1, Nat.le_trans (by omega) t3.2.2.1, fun p hp => by rw [t3.2.2.2 p hp, t2.2.2.2 p (by omega), t1.2.2.2 p hp, t0.2.2.2 p hp]⟩
    by_cases h38 : ch tb e (lqn s) = 38
    · rw [if_pos h38]
      refine step (by decide) (by decide) (l_pat_q _ _) (l_pat_c _ _) (ch_m1 h38 (by decide)) ⟨l_wt_mono p1.1 (fun p z => by
        rcases z with z | z | z
        · exact Or.inl z
        · cases z
        · exact Or.inr (Or.inr z)), p1.2⟩ (Or.inr (Or.inl rfl)) (fun p z => by cases z; exact Or.inl rfl) (fun p z => Or.inr (fun p' z' => by cases z'; exact l_sk_pat h6 p z))
    · rw [if_neg h38]
      by_cases h124 : ch tb e (lqn s) = 124
      · rw [if_pos h124]
        refine step (by decide) (by decide) (by rw [l_pat_q, l_pat_q]) (by rw [l_pat_c, l_pat_c]) (ch_m1 h124 (by decide)) ⟨l_wt_mono p2.1 (fun p z => Or.inl z), p2.2.1, by rw [l_pat_c, l_pat_c]; exact Nat.le_refl _, fun p hp => (p2.2.2.2 p hp).trans (p1.2.2.2 p hp)⟩ (Or.inr (Or.inr rfl)) (fun p z => by cases z) (fun p z => by cases z; exact Or.inl rfl)
      · rw [if_neg h124]
        exact ⟨p2.1, p2.2.1, by rw [l_pat_c, l_pat_c]; exact Nat.le_refl _, fun p hp => (p2.2.2.2 p hp).trans (p1.2.2.2 p hp)⟩
theorem l_conR_tp {ts : Lst → Lre} {s : Lst} (hf0 : ∀ s, lqn s ≤ e → l_go e s 0 (ts s)) (hf : ∀ (pd : Nat → Prop) s, lqn s ≤ e → l_wt a pd s → lhn s = 0 → l_po (fun _ => True) (l_tp a pd (lcn s) 99 s) (ts s)) (hs : lqn s ≤ e) (h : l_wt a pd s) (hh : lhn s = 0) : l_po (fun _ => True) (l_tp a pd (lcn s) 99 s) (l_conR tb e ts s) := by
  unfold l_conR
  rw [l_po_bn]
  refine l_po_mono (l_po_and (hf0 s hs) (hf pd s hs h hh)) (fun f _ h => trivial) (fun s1 _ z => ?_)
  obtain ⟨⟨a1, a2, a3⟩, t1⟩ := z
  refine l_po_mono (l_conL_tp (pd := pd) (c := lcn s) hf0 hf (g := 241) (ot := none) (op := none) a2 t1.2.2.1 (l_wt_mono t1.1 (fun p z => Or.inl z)) t1.2.1 (fun p z => by cases z) (fun p z => by cases z)) (fun f _ h => trivial) (fun s2 _ t2 => ?_)
  exact l_tp_tr t1 t2 (Nat.le_refl _)
theorem l_tst_tp (he : e ≤ 240) : ∀ {r : Nat} {pd : Nat → Prop} {s : Lst}, r ≤ 6 → lqn s ≤ e → l_wt a pd s → lhn s = 0 → l_po (fun _ => True) (l_tp a pd (lcn s) 99 s) (l_tst tb e r s) := by
  intro r
  induction r with
  | zero =>
    intro pd s hr hs h hh
    unfold l_tst
    by_cases h33 : ch tb e (lqn s) = 33
    · rw [if_pos h33]; trivial
    · rw [if_neg h33]
      by_cases h40 : ch tb e (lqn s) = 40
      · rw [if_pos h40]; trivial
      · rw [if_neg h40]; exact l_cmp_tp he hr hs h hh
  | succ r ih =>
    intro pd s hr hs h hh
    unfold l_tst
    by_cases h33 : ch tb e (lqn s) = 33
    · rw [if_pos h33, l_po_bn]
      have hl := ch_m1 h33 (by decide)
      refine l_po_mono (ih (pd := pd) (s := l_adv s) (by omega) hl h hh) (fun f _ h => trivial) (fun s1 _ t1 => ?_)
      have t1 : l_tp a pd (lcn s) 99 s s1 := t1
      have e1 := l_emt_tp (o := 10) (v := 0) (c := lcn s1) t1.1 ⟨fun z => absurd z (show ¬ 10 < 2 by omega), fun _ z => absurd z (show ¬ 10 < 7 by omega), fun _ z => absurd z (show ¬ 10 < 10 by omega), fun _ => t1.2.1⟩ (by decide) (fun z => absurd z (by decide)) (Nat.le_refl _)
      exact l_tp_tr t1 e1 t1.2.2.1
    · rw [if_neg h33]
      by_cases h40 : ch tb e (lqn s) = 40
      · rw [if_pos h40, l_po_bn]
        have hl := ch_m1 h40 (by decide)
        refine l_po_mono (l_conR_tp (fun s hs => l_tst_ok he hs) (fun pd s a1 a2 a3 => ih (by omega) a1 a2 a3) (s := l_adv s) hl h hh) (fun f _ h => trivial) (fun s1 _ t1 => ?_)
        have t1 : l_tp a pd (lcn s) 99 s s1 := t1
        refine l_po_mono (l_end_tp (k := lcn s) t1.1) (fun f _ h => trivial) (fun s2 _ t2 => ?_)
        rw [t1.2.1] at t2
        exact l_tp_tr t1 t2 (Nat.le_refl _)
      · rw [if_neg h40]; exact l_cmp_tp he hr hs h hh
theorem l_con_tp (he : e ≤ 240) {r : Nat} {s : Lst} (hr : r ≤ 6) (hs : lqn s ≤ e) (h : l_wt a pd s) (hh : lhn s = 0) : l_po (fun _ => True) (l_tp a pd (lcn s) 99 s) (l_conR tb e (l_tst tb e r) s) :=
  l_conR_tp (fun s hs => l_tst_ok he hs) (fun pd s a1 a2 a3 => l_tst_tp he hr a1 a2 a3) hs h hh
end TY
