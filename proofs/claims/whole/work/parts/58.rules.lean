/-! heights ahead stay -/
def l_le (s s' : Lst) : Prop := lcn s ≤ lcn s' ∧ ∀ k, k ≤ lcn s → l_ty s' k = l_ty s k
theorem l_le_rf (s : Lst) : l_le s s := ⟨Nat.le_refl _, fun _ _ => rfl⟩
theorem l_le_tr {a b c : Lst} (h1 : l_le a b) (h2 : l_le b c) : l_le a c := ⟨Nat.le_trans h1.1 h2.1, fun k hk => (h2.2 k (Nat.le_trans hk h1.1)).trans (h1.2 k hk)⟩
theorem l_le_emt {o v : Nat} {s : Lst} : l_le s (l_emt o v s) := ⟨Nat.le_succ _, fun k hk => l_emt_ty hk⟩
theorem l_le_pat {w : Option Nat} {s : Lst} : l_le s (l_pat w s) := by
  cases w with
  | none => exact l_le_rf s
  | some p => exact ⟨Nat.le_refl _, fun k _ => l_pat_ty⟩
theorem l_le_emw {w : Option Nat} {s : Lst} : l_le s (l_emw w s) := by
  cases w with
  | none => exact l_le_rf s
  | some o => exact l_le_emt
section MZ
variable {tb : Nat → Nat} {e : Nat}
def l_mz (s : Lst) : Lre → Prop := l_po (fun _ => True) (l_le s)
theorem l_bn_mz {s : Lst} {x : Lre} {k : Lst → Lre} (hx : l_mz s x) (hk : ∀ s', x = .inr s' → l_le s s' → l_mz s (k s')) : l_mz s (l_bn x k) := by
  cases x with
  | inl f => trivial
  | inr s' => exact hk s' rfl hx
theorem l_mz_le {s s' : Lst} {x : Lre} (h : l_mz s' x) (hs : l_le s s') : l_mz s x := by
  cases x with
  | inl f => trivial
  | inr s2 => exact l_le_tr hs h
theorem l_atom_mz {s : Lst} : l_mz s (l_atom tb e s) := by
  unfold l_atom
  cases chR tb e 48 10 (lqn s) with
  | some k =>
    dsimp only
    cases l_num tb e 5 0 (lqn s) with
    | inl f => trivial
    | inr x => exact l_le_emt (s := l_atq x.2 s)
  | none =>
    dsimp only
    cases l_vo (ch tb e (lqn s)) with
    | none => trivial
    | some k => exact l_le_emt (s := l_adv s)
theorem l_sumL_mz {fc : Lst → Lre} (hf : ∀ s, l_mz s (fc s)) : ∀ {g : Nat} {w : Option Nat} {s : Lst}, l_mz s (l_sumL tb e fc g w s) := by
  intro g
  induction g with
  | zero => intro w s; trivial
  | succ g ih =>
    intro w s
    unfold l_sumL
    have hw : l_le s (l_emw w s) := l_le_emw
    cases l_so (ch tb e (lqn s)) with
    | none => exact hw
    | some o =>
      dsimp only
      by_cases c4 : o < 4
      · rw [if_pos c4]
        exact l_bn_mz (l_mz_le (hf _) hw) (fun s' _ h => l_mz_le ih h)
      · rw [if_neg c4]
        exact l_bn_mz (hf (l_adv s)) (fun s' _ h => l_mz_le ih (l_le_tr h l_le_emt))
theorem l_sumR_mz {fc : Lst → Lre} (hf : ∀ s, l_mz s (fc s)) {s : Lst} : l_mz s (l_sumR tb e fc s) := l_bn_mz (hf s) (fun s' _ h => l_mz_le (l_sumL_mz hf) h)
theorem l_end_mz {c : Int32} {s : Lst} : l_mz s (l_end tb e c s) := by
  unfold l_end
  by_cases z : ch tb e (lqn s) = c
  · rw [if_pos z]; exact l_le_rf s
  · rw [if_neg z]; trivial
theorem l_fac_mz : ∀ {r : Nat} {s : Lst}, l_mz s (l_fac tb e r s) := by
  intro r
  induction r with
  | zero =>
    intro s
    unfold l_fac
    by_cases z : ch tb e (lqn s) = 91
    · rw [if_pos z]; trivial
    · rw [if_neg z]; exact l_atom_mz
  | succ r ih =>
    intro s
    unfold l_fac
    by_cases z : ch tb e (lqn s) = 91
    · rw [if_pos z]
      exact l_bn_mz (l_sumR_mz (fun _ => ih) (s := l_adv s)) (fun s' _ h => l_mz_le l_end_mz h)
    · rw [if_neg z]; exact l_atom_mz
theorem l_sum_mz {r : Nat} {s : Lst} : l_mz s (l_sumR tb e (l_fac tb e r) s) := l_sumR_mz (fun _ => l_fac_mz)
theorem l_cmp_mz {r : Nat} {s : Lst} : l_mz s (l_cmp tb e r s) := by
  unfold l_cmp
  refine l_bn_mz l_sum_mz (fun s' _ h => l_mz_le ?_ h)
  unfold l_cmp2
  cases l_co (ch tb e (lqn s')) with
  | none => trivial
  | some o => exact l_bn_mz (l_sum_mz (s := l_adv s')) (fun s2 _ h => l_le_tr h l_le_emt)
theorem l_conL_mz {ts : Lst → Lre} (hf : ∀ s, l_mz s (ts s)) : ∀ {g : Nat} {ot op : Option Nat} {s : Lst}, l_mz s (l_conL tb e ts g ot op s) := by
  intro g
  induction g with
  | zero => intro ot op s; trivial
  | succ g ih =>
    intro ot op s
    unfold l_conL
    have w1 : l_le s (l_pat ot s) := l_le_pat
    have w2 : l_le s (l_pat op (l_pat ot s)) := l_le_tr w1 l_le_pat
    by_cases h38 : ch tb e (lqn s) = 38
    · rw [if_pos h38]
      exact l_bn_mz (l_mz_le (hf _) (l_le_tr w1 (l_le_emt (o := 11) (v := 0)))) (fun s' _ h => l_mz_le ih h)
    · rw [if_neg h38]
      by_cases h124 : ch tb e (lqn s) = 124
      · rw [if_pos h124]
        exact l_bn_mz (l_mz_le (hf _) (l_le_tr w2 (l_le_emt (o := 12) (v := 0)))) (fun s' _ h => l_mz_le ih h)
      · rw [if_neg h124]
        exact w2
theorem l_conR_mz {ts : Lst → Lre} (hf : ∀ s, l_mz s (ts s)) {s : Lst} : l_mz s (l_conR tb e ts s) := l_bn_mz (hf s) (fun s' _ h => l_mz_le (l_conL_mz hf) h)
theorem l_tst_mz : ∀ {r : Nat} {s : Lst}, l_mz s (l_tst tb e r s) := by
  intro r
  induction r with
  | zero =>
    intro s
    unfold l_tst
    by_cases h33 : ch tb e (lqn s) = 33
    · rw [if_pos h33]; trivial
    · rw [if_neg h33]
      by_cases h40 : ch tb e (lqn s) = 40
      · rw [if_pos h40]; trivial
      · rw [if_neg h40]; exact l_cmp_mz
  | succ r ih =>
    intro s
    unfold l_tst
    by_cases h33 : ch tb e (lqn s) = 33
    · rw [if_pos h33]
      exact l_bn_mz (ih (s := l_adv s)) (fun s' _ h => l_le_tr h l_le_emt)
    · rw [if_neg h33]
      by_cases h40 : ch tb e (lqn s) = 40
      · rw [if_pos h40]
        exact l_bn_mz (l_conR_mz (fun _ => ih) (s := l_adv s)) (fun s' _ h => l_mz_le l_end_mz h)
      · rw [if_neg h40]; exact l_cmp_mz
end MZ
/-! THE LAW's rules fit -/
def noP : Nat → Prop := fun _ => False
theorem l_wt_congr {a q q' c h : Nat} {f g : Nat → Lin} (he : ∀ p, p < c → g p = f p) (H : l_wt a noP (q, c, f, h)) : l_wt a noP (q', c, g, h) := by
  have ety : ∀ k, l_ty (q', c, g, h) k = l_ty (q, c, f, h) k := fun k => by
    show (if k < c then (g k).2.2 else h) = if k < c then (f k).2.2 else h
    by_cases z : k < c
    · rw [if_pos z, if_pos z, he k z]
    · rw [if_neg z, if_neg z]
  intro p h1 h2
  have h2 : p < c := h2
  obtain ⟨a1, a2, a3, a4⟩ := H p h1 h2
  have ef : lfn (q', c, g, h) p = lfn (q, c, f, h) p := he p h2
  unfold l_in
  rw [ef, ety, ety]
  exact ⟨a1, a2, a3, a4⟩
def l_rg (f : Nat → Lin) (x : Rul) : Prop := (x.1 = 101 ∨ x.1 = 104 ∨ x.1 = 103 ∨ x.1 = 98 ∨ x.1 = 113) ∧ x.2.1 ≤ x.2.2.1 ∧ x.2.2.1 ≤ x.2.2.2 ∧ x.2.2.2 ≤ 240 ∧ (¬ x.1 = 113 → l_wt x.2.1 noP (0, x.2.2.1, f, 1) ∧ l_ty (0, x.2.2.1, f, 1) x.2.1 = 0) ∧ l_wt x.2.2.1 noP (0, x.2.2.2, f, 99) ∧ l_ty (0, x.2.2.2, f, 99) x.2.2.1 = 0
theorem l_ty_congr {q q' c h : Nat} {f g : Nat → Lin} (he : ∀ p, p < c → g p = f p) (k : Nat) : l_ty (q', c, g, h) k = l_ty (q, c, f, h) k := by
  show (if k < c then (g k).2.2 else h) = if k < c then (f k).2.2 else h
  by_cases z : k < c
  · rw [if_pos z, if_pos z, he k z]
  · rw [if_neg z, if_neg z]
theorem l_rg_congr {f g : Nat → Lin} {x : Rul} (h : l_rg f x) (he : ∀ p, p < x.2.2.2 → g p = f p) : l_rg g x := by
  obtain ⟨h1, h2, h3, h4, h5, h6, h7⟩ := h
  exact ⟨h1, h2, h3, h4, fun z => ⟨l_wt_congr (fun p hp => he p (by omega)) (h5 z).1, by rw [l_ty_congr (q := 0) (f := f) (fun p hp => he p (by omega))]; exact (h5 z).2⟩, l_wt_congr he h6, by rw [l_ty_congr (q := 0) (f := f) he]; exact h7⟩
theorem l_wt_nil {pd : Nat → Prop} {s : Lst} : l_wt (lcn s) pd s := fun p h1 h2 => absurd h1 (by omega)
section RT
variable {tb : Nat → Nat} {e : Nat}
theorem l_rule_tp (hX : TX tb e) {m : Nat} {s : Lst} (hm : m ≤ 16) (hq : lqn s ≤ e) (hc : lcn s ≤ lqn s) : match l_rule tb e m s with
    | .inl f => f < 0
    | .inr x => lqn s + 1 ≤ lqn x.2 ∧ lqn x.2 ≤ e ∧ lcn x.2 ≤ lqn x.2 ∧ m < 16 ∧ x.1.2.2.2 = lcn x.2 ∧ lcn s ≤ lcn x.2 ∧ l_rg (lfn x.2) x.1 ∧ ∀ p, p < lcn s → lfn x.2 p = lfn s p := by
  have he := hX.1
  unfold l_rule
  by_cases hl : ch tb e (lqn s) = 101 ∨ ch tb e (lqn s) = 104 ∨ ch tb e (lqn s) = 103 ∨ ch tb e (lqn s) = 98 ∨ ch tb e (lqn s) = 113
  · rw [if_pos hl]
    by_cases m16 : m = 16
    · rw [if_pos m16]; exact flt_neg (by decide) (by decide) (by omega)
    · rw [if_neg m16]
      have hlt : lqn s < e := by
        rcases hl with z | z | z | z | z <;> exact ch_m1 z (by decide)
      have elet : ∀ c : Nat, c < 2 ^ 31 → ch tb e (lqn s) = nI c → tb (lqn s) = c := fun c h1 h2 => ((ch_nI hX h1).mp h2).2
      have hlet : tb (lqn s) = 101 ∨ tb (lqn s) = 104 ∨ tb (lqn s) = 103 ∨ tb (lqn s) = 98 ∨ tb (lqn s) = 113 := by
        rcases hl with z | z | z | z | z
        · exact Or.inl (elet 101 (by decide) z)
        · exact Or.inr (Or.inl (elet 104 (by decide) z))
        · exact Or.inr (Or.inr (Or.inl (elet 103 (by decide) z)))
        · exact Or.inr (Or.inr (Or.inr (Or.inl (elet 98 (by decide) z))))
        · exact Or.inr (Or.inr (Or.inr (Or.inr (elet 113 (by decide) z))))
      have okE := l_rE_ok (tb := tb) he hlt hc
      have tyE : l_po (fun _ => True) (fun s1 => (∀ p, p < lcn s → lfn s1 p = lfn s p) ∧ (¬ ch tb e (lqn s) = 113 → l_wt (lcn s) noP (0, lcn s1, lfn s1, 1) ∧ l_ty (0, lcn s1, lfn s1, 1) (lcn s) = 0)) (l_rE tb e s) := by
        unfold l_rE
        by_cases c5 : ch tb e (lqn s) = 113
        · rw [if_pos c5]; exact ⟨fun _ _ => rfl, fun z => absurd c5 z⟩
        · rw [if_neg c5]
          refine l_po_mono (l_po_and (l_sum_tp (tb := tb) (a := lcn s) (pd := noP) he (r := 6) (by decide) (s := l_adv (l_h0 s)) hlt (l_wt_nil (s := l_adv (l_h0 s))) (by show 0 ≤ 1; omega)) (l_sum_mz (tb := tb) (e := e) (r := 6) (s := l_adv (l_h0 s)))) (fun _ _ _ => trivial) (fun s1 _ t2 => ⟨t2.1.2.2.2, fun _ => ?_⟩)
          obtain ⟨t, tz⟩ := t2
          have th : lhn s1 = 1 := t.2.1
          have tw := t.1
          refine ⟨l_wt_congr (q := lqn s1) (fun _ _ => rfl) ?_, ?_⟩
          · rw [← th]; exact tw
          · have := tz.2 (lcn s) (Nat.le_refl _)
            have e1 : l_ty (l_adv (l_h0 s)) (lcn s) = 0 := by
              show (if lcn s < lcn s then _ else 0) = 0
              rw [if_neg (by omega)]
            rw [e1] at this
            rw [← th]; exact this
      cases eE : l_rE tb e s with
      | inl f => rw [eE] at okE; exact okE
      | inr s1 =>
        rw [eE] at okE tyE
        obtain ⟨a1, a2, a3, a4⟩ := okE
        obtain ⟨t1, t2⟩ := tyE
        dsimp only
        have okC := l_rC_ok (tb := tb) he a2 (show lcn s1 ≤ lqn s1 by omega)
        have tyC : l_po (fun _ => True) (fun s2 => (∀ p, p < lcn s1 → lfn s2 p = lfn s1 p) ∧ l_wt (lcn s1) noP (0, lcn s2, lfn s2, 99) ∧ l_ty (0, lcn s2, lfn s2, 99) (lcn s1) = 0) (l_rC tb e s1) := by
          unfold l_rC
          rw [l_po_bn]
          have ok1 := l_end_ok (tb := tb) he (c := 40) (by decide) (s := l_h0 s1) a2
          refine l_po_mono (l_po_and ok1 (l_end_tp (tb := tb) (e := e) (a := lcn s1) (pd := noP) (k := lcn s1) (s := l_h0 s1) (c := 40) (l_wt_nil (s := l_h0 s1)))) (fun _ _ _ => trivial) (fun s2 _ z => ?_)
          obtain ⟨⟨b1, b2, b3⟩, b4⟩ := z
          have b3 : lcn s2 = lcn s1 := b3
          rw [l_po_bn]
          refine l_po_mono (l_po_and (l_con_tp (tb := tb) he (r := 5) (by decide) b2 b4.1 b4.2.1) (l_conR_mz (tb := tb) (e := e) (fun _ => l_tst_mz (r := 5)) (s := s2))) (fun _ _ _ => trivial) (fun s3 _ c4z => ?_)
          obtain ⟨c4, cz⟩ := c4z
          refine l_po_mono (l_end_tp (tb := tb) (e := e) (k := lcn s3) (c := 41) c4.1) (fun _ _ _ => trivial) (fun s4 e4 d4 => ?_)
          have f4 : lcn s4 = lcn s3 ∧ lfn s4 = lfn s3 := by
            unfold l_end at e4
            split at e4
            · cases e4; exact ⟨rfl, rfl⟩
            · cases e4
          have th : lhn s4 = 99 := by rw [d4.2.1]; exact c4.2.1
          refine ⟨fun p hp => ?_, ?_, ?_⟩
          · rw [f4.2, c4.2.2.2 p (by omega)]
            exact b4.2.2.2 p hp
          · refine l_wt_congr (q := lqn s4) (fun _ _ => rfl) ?_
            rw [← th]; exact d4.1
          · have h3 := cz.2 (lcn s1) (by omega)
            have h2 : l_ty s2 (lcn s1) = 0 := by
              show (if lcn s1 < lcn s2 then _ else lhn s2) = 0
              rw [if_neg (by omega)]; exact b4.2.1
            rw [h2] at h3
            have h4 : l_ty (0, lcn s4, lfn s4, 99) (lcn s1) = l_ty s3 (lcn s1) := by
              show (if lcn s1 < lcn s4 then (lfn s4 (lcn s1)).2.2 else 99) = if lcn s1 < lcn s3 then (lfn s3 (lcn s1)).2.2 else lhn s3
              rw [f4.1, f4.2, c4.2.1]
            rw [h4]; exact h3
        cases eC : l_rC tb e s1 with
        | inl f => rw [eC] at okC; exact okC
        | inr s2 =>
          rw [eC] at okC tyC
          obtain ⟨b1, b2, b3, b4⟩ := okC
          obtain ⟨u1, u2, u3⟩ := tyC
          refine ⟨by show lqn s + 1 ≤ lqn s2; omega, b2, b3, by omega, rfl, by show lcn s ≤ lcn s2; omega, ⟨hlet, a4, b4, by show lcn s2 ≤ 240; omega, fun z => ?_, u2, u3⟩, fun p hp => ?_⟩
          · have t3 := t2 (fun z2 => z (elet 113 (by decide) z2))
            exact ⟨l_wt_congr (q := 0) (fun p hp => u1 p hp) t3.1, by rw [l_ty_congr (q := 0) (f := lfn s1) (fun p hp => u1 p hp)]; exact t3.2⟩
          · show lfn s2 p = lfn s p
            rw [u1 p (by omega), t1 p hp]
  · rw [if_neg hl]; exact flt_neg (by decide) (by decide) (by omega)
/-- a law: m rules over steps f -/
def l_good (f : Nat → Lin) (R : Nat → Rul) (m : Nat) : Prop := m ≤ 16 ∧ ∀ i, i < m → l_rg f (R i)
theorem l_rules_tp (hX : TX tb e) : ∀ {g m : Nat} {R : Nat → Rul} {s : Lst}, g + m = 17 → m ≤ 16 → lqn s ≤ e → lcn s ≤ lqn s → l_good (lfn s) R m → (∀ i, i < m → (R i).2.2.2 ≤ lcn s) → match l_rules tb e g m R s with
    | .inl f => f < 0
    | .inr x => lcn x.2.2 ≤ 240 ∧ l_good (lfn x.2.2) x.2.1 x.1 ∧ ∀ i, i < x.1 → (x.2.1 i).2.2.2 ≤ lcn x.2.2 := by
  have he := hX.1
  intro g
  induction g with
  | zero => intro m R s hg hm; omega
  | succ g ih =>
    intro m R s hg hm hq hc hG hE
    unfold l_rules
    have hr := l_rule_tp hX hm hq hc
    cases er : l_rule tb e m s with
    | inl f => rw [er] at hr; exact hr
    | inr z =>
      rw [er] at hr
      obtain ⟨x, s'⟩ := z
      obtain ⟨a1, a2, a3, a4, a5, a6, a7, a8⟩ := hr
      dsimp only at a1 a2 a3 a4 a5 a6 a7 a8 ⊢
      have hG' : l_good (lfn s') (fset R m x) (m + 1) := ⟨by omega, fun i hi => by
        by_cases z : i = m
        · subst z; rw [fset_s]; exact a7
        · rw [fset_n z]
          exact l_rg_congr (hG.2 i (by omega)) (fun p hp => a8 p (Nat.lt_of_lt_of_le hp (hE i (by omega))))⟩
      have hE' : ∀ i, i < m + 1 → (fset R m x i).2.2.2 ≤ lcn s' := fun i hi => by
        by_cases z : i = m
        · subst z; rw [fset_s, a5]; exact Nat.le_refl _
        · rw [fset_n z]; exact Nat.le_trans (hE i (by omega)) a6
      by_cases hn : lqn s' < e
      · rw [if_pos hn]
        by_cases h59 : ch tb e (lqn s') = 59
        · rw [if_pos h59]
          exact ih (m := m + 1) (s := l_adv s') (by omega) (by omega) hn (show lcn s' ≤ lqn s' + 1 by omega) hG' hE'
        · rw [if_neg h59]; exact flt_neg (by decide) (by decide) (by omega)
      · rw [if_neg hn]; exact ⟨show lcn s' ≤ 240 by omega, hG', hE'⟩
end RT
def l_R0 : Nat → Rul := fun _ => (0, 0, 0, 0)
def l_s0 : Lst := (0, 0, fun _ => (0, 0, 0), 0)
section XL
variable {L d : Nat} {M : pu_M} {n e y1 y2 : Nat} {tb : Nat → Nat}
theorem c_x_law {Q : Int32 → pu_M → Prop} (h1 : 1 ≤ e) (h2 : e ≤ 240) (hen : e ≤ n) (hT : CT M n tb) (h11 : M 0 11 = nI y1) (h12 : M 0 12 = nI y2) (hy1 : pu_isL y1) (hy2 : pu_isL y2) (H : TX tb e → match l_rules tb e 17 0 l_R0 l_s0 with
    | .inl f => ∀ M', M' 1 1 = 0 → only (lrS y2) M M' → Q f M'
    | .inr x => ∀ M', M' 1 1 = 0 → kC M' y2 x.2.2 → kR M' y2 x.2.1 x.1 → M' 0 11 = nI y2 → M' 0 12 = nI y1 → (∀ j, j ≠ 11 → j ≠ 12 → M' 0 j = M 0 j) → only (fun k => k = 0 ∨ lrS y2 k) M M' → Q (nI x.1) M') : pu_I L (d + 22) 124 [.ref 0, .int (nI e)] M Q := by
  have hy' : 31 ≤ y2 ∧ y2 ≤ 40 := by unfold pu_isL at hy2; omega
  refine r_x_law ?_
  rw [n_1, n_240]
  refine c_open_ok h1 h2 hen (by decide) hT (fun M1 hX t1 o1 => ?_)
  have H := H hX
  rw [if_neg (by decide)]
  refine ⟨y2, by rw [o1 0 (by decide)]; exact h12, hy2, ?_⟩
  refine r_LawReader_read hy2 ⟨y2, by rw [pu_wr_self, upd_s], hy2, r_Law_clear hy2 ?_⟩
  have O1 : only (lrS y2) M M1 := fun k hk => o1 k (fun z => hk (Or.inl z))
  have O2 : only (lrS y2) M (pu_wr (pu_wr (pu_wr M1 49 1 (nI y2)) y2 2 0) y2 7 0) := ((O1.wr (Or.inr (Or.inl rfl))).wr (Or.inr (Or.inr (by omega)))).wr (Or.inr (Or.inr (by omega)))
  have good := l_rules_tp hX (g := 17) (m := 0) (R := l_R0) (s := l_s0) rfl (by decide) (Nat.zero_le _) (Nat.le_refl _) ⟨by decide, fun i hi => absurd hi (by omega)⟩ (fun i hi => absurd hi (by omega))
  refine c_K_rules (g := 17) (m := 0) (R := l_R0) (s := l_s0) hX hy2 rfl (by decide) (Nat.zero_le _) (Nat.le_refl _) ⟨?_, ?_, ?_, fun p hp => absurd hp (by show ¬ p < 0; omega)⟩ ⟨?_, fun i hi => absurd hi (by omega)⟩ ?_
  · rw [pu_wr_ne (by omega), pu_wr_ne (by omega), pu_wr_self, upd_s]
  · unfold TS
    rw [pu_wr_ne (show 1 ≠ y2 by omega), pu_wr_ne (show 1 ≠ y2 by omega), pu_wr_ne (show (1 : Nat) ≠ 49 by decide), pu_wr_ne (show 2 ≠ y2 by omega), pu_wr_ne (show 2 ≠ y2 by omega), pu_wr_ne (show (2 : Nat) ≠ 49 by decide)]
    exact t1
  · rw [pu_wr_self, upd_n (by decide), pu_wr_self, upd_s]; rfl
  · rw [pu_wr_self, upd_s]; rfl
  · cases er : l_rules tb e 17 0 l_R0 l_s0 with
    | inl f =>
      rw [er] at H good
      intro M' hd o
      rw [if_pos good]
      exact H M' hd.2.2 (O2.tr o)
    | inr x =>
      rw [er] at H good
      intro M' a b c o
      have O3 := O2.tr o
      have n0 : ¬ lrS y2 0 := fun z => by
        rcases z with z | z | z
        · cases z
        · cases z
        · omega
      have e0 : M' 0 = M 0 := O3 0 n0
      have hm := good.2.1.1
      rw [if_neg (nI_pos (by omega))]
      have O4 : only (fun k => k = 0 ∨ lrS y2 k) M M' := fun k hk => O3 k (fun z => hk (Or.inr z))
      refine ⟨y1, by rw [e0]; exact h11, hy1, y2, by rw [e0]; exact h12, hy2, ?_⟩
      refine H _ ?_ ?_ ?_ ?_ ?_ (fun j j1 j2 => ?_) ((O4.wr (Or.inl rfl)).wr (Or.inl rfl))
      · rw [pu_wr_ne (by decide), pu_wr_ne (by decide)]; exact a
      · unfold kC
        rw [pu_wr_ne (show y2 ≠ 0 by omega), pu_wr_ne (show y2 ≠ 0 by omega), pu_wr_ne (show y2 + 1 ≠ 0 by omega), pu_wr_ne (show y2 + 1 ≠ 0 by omega), pu_wr_ne (show y2 + 2 ≠ 0 by omega), pu_wr_ne (show y2 + 2 ≠ 0 by omega)]
        exact b
      · unfold kR
        rw [pu_wr_ne (show y2 ≠ 0 by omega), pu_wr_ne (show y2 ≠ 0 by omega), pu_wr_ne (show y2 + 3 ≠ 0 by omega), pu_wr_ne (show y2 + 3 ≠ 0 by omega), pu_wr_ne (show y2 + 4 ≠ 0 by omega), pu_wr_ne (show y2 + 4 ≠ 0 by omega), pu_wr_ne (show y2 + 5 ≠ 0 by omega), pu_wr_ne (show y2 + 5 ≠ 0 by omega), pu_wr_ne (show y2 + 6 ≠ 0 by omega), pu_wr_ne (show y2 + 6 ≠ 0 by omega)]
        exact c
      · rw [pu_wr_self, upd_n (by decide), pu_wr_self, upd_s]
      · rw [pu_wr_self, upd_s]
      · rw [pu_wr_self, upd_n j2, pu_wr_self, upd_n j1, e0]
theorem c_x_lawN {Q : Int32 → pu_M → Prop} {v : Int32} (hN : ¬ okE 1 240 n v) (hT : CT M n tb) (H : Q (-1) M) : pu_I L (d + 22) 124 [.ref 0, .int v] M Q := by
  refine r_x_law ?_
  rw [n_1, n_240]
  refine c_open_no (by decide) (by decide) hN hT ?_
  rw [if_pos rfl]; exact H
end XL
