/-! the model reads THE LAW: tests, rules -/
section NT
variable {L d : Nat} {tb : Nat → Nat} {e : Nat} {Q : Int32 → pu_M → Prop}
theorem c_N_tst (hX : TX tb e) : ∀ r, r ≤ 6 → nTst L d tb e Q r := by
  have he := hX.1
  intro r
  induction r with
  | zero =>
    intro hr W M s h hW0 hW hno hn hc hq H
    unfold l_tst at H
    have opn : (ch tb e (lqn s) = 33 ∨ ch tb e (lqn s) = 40) → l_po (fun f => ∀ M', M' 58 7 = f → mF M M' → Q 0 M') (fun _ => True) (.inl (flt 5 (lqn s))) → pu_R L (d + 7) 196 58 [.ref 58] [] M (pu_qI Q) := by
      intro hcs H
      refine r_m_readsCondition_58 (c_N_here hX (by omega) h ?_)
      by_cases z : ch tb e (lqn s) = 33
      · rw [if_pos z]
        refine c_N_opens (a := 10) (by decide) (by decide) (by omega) h (fun _ M' a b => ?_) (fun z => absurd z (by decide))
        rw [if_pos rfl]; exact H M' a b
      · rw [if_neg z]
        refine c_N_opens (a := 13) (by decide) (by decide) (by omega) h (fun _ M' a b => ?_) (fun z => absurd z (by decide))
        rw [if_pos rfl]; exact H M' a b
    refine r_m_readsCondition_40 (c_N_here hX (by omega) h ?_)
    by_cases h33 : ch tb e (lqn s) = 33
    · rw [if_pos h33] at H ⊢; exact opn (Or.inl h33) H
    · rw [if_neg h33] at H ⊢
      refine c_N_here hX (by omega) h ?_
      by_cases h40 : ch tb e (lqn s) = 40
      · rw [if_pos h40] at H ⊢; exact opn (Or.inr h40) H
      · rw [if_neg h40] at H ⊢
        refine c_N_cmp (r := 0) hX hr hno h hW hn hc hq (l_po_mono H (fun f _ z M' a b => ?_) (fun s' _ z M' a b => ?_))
        · rw [if_pos rfl]; exact z M' a b
        · rw [if_neg (by decide)]; exact z M' a b
  | succ r ih =>
    intro hr W M s h hW0 hW hno hn hc hq H
    unfold l_tst at H
    have hq1 : lqn (l_adv s) = lqn s + 1 := rfl
    have hc1 : lcn (l_adv s) = lcn s := rfl
    refine r_m_readsCondition_40 (c_N_here hX (by omega) h ?_)
    by_cases h33 : ch tb e (lqn s) = 33
    · rw [if_pos h33] at H ⊢
      have hl := ch_m1 h33 (by decide)
      refine r_m_readsCondition_58 (c_N_here hX (by omega) h ?_)
      rw [if_pos h33]
      refine c_N_opens (a := 10) (by decide) (by omega) (by omega) h (fun z => absurd z (by omega)) (fun _ M1 t1 f1 => ?_)
      rw [if_neg (by decide)]
      rw [show 6 - (r + 1) + 1 = 6 - r by omega] at t1
      rw [l_po_bn] at H
      have en : nnt ((10, 0) :: W) = nnt W + 1 := rfl
      refine ih (by omega) ((10, 0) :: W) M1 (l_adv s) t1 (Nat.succ_pos _) (show W.length + 1 ≤ lqn s + 1 by omega) (fun x W' z => by cases z; right; show 7 ≤ 10; decide) (by rw [en]; omega) (by rw [en]; omega) hl ?_
      refine l_po_mono H (fun f _ z M' a b => z M' a (f1.tr b)) (fun s1 _ z M' a b => z M' ?_ (f1.tr b))
      have ee : epc ((10, 0) :: W) (6 - r) s1 = epc W (6 - (r + 1)) (l_emt 10 0 s1) := by
        show epc W (6 - r - 1) (l_emt 10 0 s1) = _
        rw [show 6 - r - 1 = 6 - (r + 1) by omega]
      rw [ee] at a; exact a
    · rw [if_neg h33] at H ⊢
      refine c_N_here hX (by omega) h ?_
      by_cases h40 : ch tb e (lqn s) = 40
      · rw [if_pos h40] at H ⊢
        have hl := ch_m1 h40 (by decide)
        refine r_m_readsCondition_58 (c_N_here hX (by omega) h ?_)
        rw [if_neg h33]
        refine c_N_opens (a := 13) (by decide) (by omega) (by omega) h (fun z => absurd z (by omega)) (fun _ M1 t1 f1 => ?_)
        rw [if_neg (by decide)]
        rw [show 6 - (r + 1) + 1 = 6 - r by omega] at t1
        have okA := l_con_ok (tb := tb) (r := r) he (s := l_adv s) hl
        have okB : l_po (fun f => f < 0) (fun s' => lcn s' + lqn s ≤ lqn s' + lcn s ∧ lqn s' ≤ e) (l_bn (l_conR tb e (l_tst tb e r) (l_adv s)) (l_end tb e 41)) := by
          rw [l_po_bn]
          refine l_po_mono okA (fun f _ z => z) (fun s1 _ z => ?_)
          obtain ⟨a1, a2, a3⟩ := z
          refine l_po_mono (l_end_ok (tb := tb) he (c := 41) (by decide) a2) (fun f _ z => z) (fun s2 _ z => ?_)
          obtain ⟨b1, b2, b3⟩ := z
          exact ⟨by omega, b2⟩
        have HG : nP tb e W (6 - (r + 1)) (Q 0) (nG L d Q) M (l_bn (l_conR tb e (l_tst tb e r) (l_adv s)) (l_end tb e 41)) := by
          refine l_po_mono (l_po_and okB H) (fun f _ z M' a b => z.2 M' a b) (fun s' _ z M' a b => ?_)
          obtain ⟨⟨a1, a2⟩, H1⟩ := z
          unfold nG
          rw [a.2.2.1.1, if_neg (by rw [n_0, nI_eq (by omega) (by decide)]; omega)]
          exact r_m_endsPiece (c_N_ep hn (by omega) (by omega) (by omega) a (fun M2 t2 f2 => H1 M2 t2 (b.tr f2)))
        have H1 := nP_fr f1 HG
        unfold l_conR nP at H1
        rw [l_po_bn, l_po_bn] at H1
        have ok := l_tst_ok (tb := tb) (r := r) he (s := l_adv s) hl
        have en : nnt ((13, 0) :: W) = 0 := rfl
        refine ih (by omega) ((13, 0) :: W) M1 (l_adv s) t1 (Nat.succ_pos _) (show W.length + 1 ≤ lqn s + 1 by omega) (fun x W' z => by cases z; right; show 7 ≤ 13; decide) (by rw [en]; omega) (by rw [en]; omega) hl ?_
        refine l_po_mono (l_po_and ok H1) (fun f _ z M' a b => z.2 M' a b) (fun s1 _ z M2 t2 f2 => ?_)
        obtain ⟨⟨a1, a2, a3⟩, H2⟩ := z
        have H3 : nP tb e W (6 - (r + 1)) (Q 0) (nG L d Q) M1 (l_bn (l_conL tb e (l_tst tb e r) 241 none none s1) (l_end tb e 41)) := l_po_bn.mpr H2
        exact c_N_conL (W := W) (r := r) hX (by omega) (ih (by omega)) (g := 241) (ot := none) (op := none) (M := M2) (s := s1) (fun p z => by cases z) (fun p z => by cases z) t2 (show W.length + 1 + 0 + 0 ≤ lqn s1 by omega) (by omega) a2 (by omega) (nP_fr f2 H3)
      · rw [if_neg h40] at H ⊢
        refine c_N_cmp (r := r + 1) hX hr hno h hW hn hc hq (l_po_mono H (fun f _ z M' a b => ?_) (fun s' _ z M' a b => ?_))
        · rw [if_pos rfl]; exact z M' a b
        · rw [if_neg (by decide)]; exact z M' a b
/-- the C of a rule -/
theorem c_N_cond {M : pu_M} {s : Lst} (hX : TX tb e) (hS : MSt M tb e (lqn s)) (hC : mC M s) (hc : lcn s ≤ lqn s) (hq : lqn s ≤ e) (H : l_po (fun f => ∀ M', M' 58 7 = f → mF M M' → Q 0 M') (fun s' => ∀ M', MSt M' tb e (lqn s') → mC M' s' → mF M M' → Q 1 M') (l_rC tb e s)) : pu_I L (d + 7) 196 [.ref 58] M Q := by
  have he := hX.1
  refine r_m_readsCondition (c_m_here hX (by omega) hS ?_)
  unfold l_rC at H
  rw [l_po_bn] at H
  unfold l_end at H
  by_cases h40 : ch tb e (lqn s) = 40
  · rw [if_pos h40]
    have hl := ch_m1 h40 (by decide)
    have e40 : ch tb e (lqn (l_h0 s)) = 40 := h40
    rw [if_pos e40] at H
    have t0 : mT tb e (pu_wr (pu_wr M 58 9 0) 58 11 0) [] 0 (l_h0 s) := by
      refine ⟨MSt_wr (MSt_wr hS (by decide) (Or.inr ⟨by decide, by decide⟩)) (by decide) (Or.inr ⟨by decide, by decide⟩), ⟨?_, ?_⟩, ⟨?_, trivial⟩, ?_⟩
      · rw [pu_wr_self, upd_n (by decide), pu_wr_self, upd_n (by decide)]; exact hC.1
      · rw [pu_wr_ne (by decide), pu_wr_ne (by decide)]; exact hC.2
      · rw [pu_wr_self, upd_s]; rfl
      · rw [pu_wr_self, upd_n (by decide), pu_wr_self, upd_s]; rfl
    have f0 : mF M (pu_wr (pu_wr M 58 9 0) 58 11 0) := ((mF.rf M).w58 (by omega)).w58 (by omega)
    refine c_N_opens (a := 13) (W := []) (by decide) (by decide) (by decide) t0 (fun z => absurd z (by decide)) (fun _ M1 t1 f1 => ?_)
    rw [if_neg (by decide)]
    have hq1 : lqn (l_adv (l_h0 s)) = lqn s + 1 := rfl
    have hc1 : lcn (l_adv (l_h0 s)) = lcn s := rfl
    have H : l_po (fun f => ∀ M', M' 58 7 = f → mF M M' → Q 0 M') (fun s' => ∀ M', MSt M' tb e (lqn s') → mC M' s' → mF M M' → Q 1 M') (l_bn (l_conR tb e (l_tst tb e 5) (l_adv (l_h0 s))) (l_end tb e 41)) := H
    have HG : nP tb e [] (6 - (5 + 1)) (Q 0) (nG L d Q) M (l_bn (l_conR tb e (l_tst tb e 5) (l_adv (l_h0 s))) (l_end tb e 41)) := by
      refine l_po_mono H (fun f _ z M' a b => z M' a b) (fun s' _ z M' a b => ?_)
      unfold nG
      rw [a.2.2.1.1, if_pos (show nI ([] : Wl).length = 0 from rfl)]
      exact z M' a.1 a.2.1 b
    have H1 := nP_fr (f0.tr f1) HG
    unfold l_conR nP at H1
    rw [l_po_bn, l_po_bn] at H1
    have ok := l_tst_ok (tb := tb) (r := 5) he (s := l_adv (l_h0 s)) hl
    have en : nnt ((13, 0) :: ([] : Wl)) = 0 := rfl
    refine c_N_tst hX 5 (by decide) ((13, 0) :: []) M1 (l_adv (l_h0 s)) t1 (Nat.succ_pos _) (show 0 + 1 ≤ lqn s + 1 by omega) (fun x W' z => by cases z; right; show 7 ≤ 13; decide) (by rw [en]; omega) (by rw [en]; omega) hl ?_
    refine l_po_mono (l_po_and ok H1) (fun f _ z M' a b => z.2 M' a b) (fun s1 _ z M2 t2 f2 => ?_)
    obtain ⟨⟨a1, a2, a3⟩, H2⟩ := z
    have H3 : nP tb e [] (6 - (5 + 1)) (Q 0) (nG L d Q) M1 (l_bn (l_conL tb e (l_tst tb e 5) 241 none none s1) (l_end tb e 41)) := l_po_bn.mpr H2
    exact c_N_conL (W := []) (r := 5) hX (by decide) (c_N_tst hX 5 (by decide)) (g := 241) (ot := none) (op := none) (M := M2) (s := s1) (fun p z => by cases z) (fun p z => by cases z) t2 (show 0 + 1 + 0 + 0 ≤ lqn s1 by omega) (by omega) a2 (by omega) (nP_fr f2 H3)
  · rw [if_neg h40]
    have e40 : ¬ ch tb e (lqn (l_h0 s)) = 40 := h40
    rw [if_neg e40] at H
    exact c_m_wrongAt hS ⟨Or.inl rfl, H _ (by rw [pu_wr_self, upd_s]; rfl) ((mF.rf M).w58 (by omega))⟩
def mR (M : pu_M) (R : Nat → Rul) (m : Nat) : Prop := M 58 12 = nI m ∧ ∀ i, i < m → M 65 i = nI (R i).1 ∧ M 66 i = nI (R i).2.1 ∧ M 67 i = nI (R i).2.2.1 ∧ M 68 i = nI (R i).2.2.2
def mO (M M' : pu_M) : Prop := only (fun k => k = 58 ∨ (63 ≤ k ∧ k ≤ 68)) M M' ∧ fr M M'
theorem mO.rf (M : pu_M) : mO M M := ⟨only.rf _ _, fr.rf _⟩
theorem mO.tr {A B C : pu_M} (h1 : mO A B) (h2 : mO B C) : mO A C := ⟨h1.1.tr h2.1, h1.2.tr h2.2⟩
theorem mO.f {M M' : pu_M} (h : mF M M') : mO M M' := ⟨fun k hk => h.1 k (fun z => hk (Or.inl z)) (fun z => hk (Or.inr (by omega))) (fun z => hk (Or.inr (by omega))), fun j hj => h.2 j (fun z => hj (by unfold scF; omega)) (fun z => hj (by unfold scF; omega)) (fun z => hj (by unfold scF; omega)) (fun z => hj (by unfold scF; omega)) (fun z => hj (by unfold scF; omega)) (fun z => hj (by unfold scF; omega))⟩
theorem mO.w58 {M M' : pu_M} {i : Nat} {x : Int32} (h : mO M M') (hi : scF i) : mO M (pu_wr M' 58 i x) := ⟨h.1.wr (Or.inl rfl), h.2.wr hi⟩
theorem mO.wk {M M' : pu_M} {k i : Nat} {x : Int32} (h : mO M M') (h1 : 63 ≤ k) (h2 : k ≤ 68) : mO M (pu_wr M' k i x) := ⟨h.1.wr (Or.inr ⟨h1, h2⟩), h.2.ot (by omega)⟩
theorem MSt_ot {M : pu_M} {q k i : Nat} {x : Int32} (h : MSt M tb e q) (h1 : k ≠ 58) (h2 : k ≠ 62) : MSt (pu_wr M k i x) tb e q := MSt_wr h h2 (Or.inl h1)
theorem mC_ot {M : pu_M} {s : Lst} {k i : Nat} {x : Int32} (h : mC M s) (h1 : k ≠ 58) (h2 : k ≠ 63) : mC (pu_wr M k i x) s := by
  unfold mC
  rw [pu_wr_ne (Ne.symm h1), pu_wr_ne (Ne.symm h2)]; exact h
theorem mC_58 {M : pu_M} {s : Lst} {i : Nat} {x : Int32} (h : mC M s) (h1 : i ≠ 10) : mC (pu_wr M 58 i x) s := by
  unfold mC
  rw [pu_wr_self, upd_n (Ne.symm h1), pu_wr_ne (by decide)]; exact h
theorem scF9 : scF 9 := by unfold scF; omega
theorem scF11 : scF 11 := by unfold scF; omega
theorem scF12 : scF 12 := by unfold scF; omega
/-- the rules' rows but for the one that is being read -/
def mRp (M : pu_M) (R : Nat → Rul) (m : Nat) : Prop := M 58 12 = nI m ∧ ∀ i, i < m → M 65 i = nI (R i).1 ∧ M 66 i = nI (R i).2.1 ∧ M 67 i = nI (R i).2.2.1 ∧ M 68 i = nI (R i).2.2.2
theorem mR_f {M M' : pu_M} {R : Nat → Rul} {m : Nat} (h : mR M R m) (f : mF M M') : mR M' R m := by
  unfold mR
  rw [f.2 12 (by decide) (by decide) (by decide) (by decide) (by decide) (by decide), f.1 65 (by decide) (by decide) (by decide), f.1 66 (by decide) (by decide) (by decide), f.1 67 (by decide) (by decide) (by decide), f.1 68 (by decide) (by decide) (by decide)]
  exact h
theorem mR_w {M : pu_M} {R : Nat → Rul} {m k : Nat} {x : Int32} (h : mR M R m) (h1 : 65 ≤ k) : mR (pu_wr M k m x) R m := by
  refine ⟨?_, fun i hi => ?_⟩
  · rw [pu_wr_ne (by omega)]; exact h.1
  · have key : ∀ k', pu_wr M k m x k' i = M k' i := fun k' => by
      by_cases z : k' = k
      · subst z; rw [pu_wr_self, upd_n (by omega)]
      · rw [pu_wr_ne z]
    rw [key, key, key, key]; exact h.2 i hi
theorem mR_58 {M : pu_M} {R : Nat → Rul} {m i : Nat} {x : Int32} (h : mR M R m) (h1 : i ≠ 12) : mR (pu_wr M 58 i x) R m := by
  unfold mR
  rw [pu_wr_self, upd_n (Ne.symm h1), pu_wr_ne (by decide), pu_wr_ne (by decide), pu_wr_ne (by decide), pu_wr_ne (by decide)]; exact h
theorem c_N_rule {M : pu_M} {s : Lst} {R : Nat → Rul} {m : Nat} (hX : TX tb e) (hm : m ≤ 16) (hS : MSt M tb e (lqn s)) (hC : mC M s) (hR : mR M R m) (hc : lcn s ≤ lqn s) (hq : lqn s ≤ e) (H : match l_rule tb e m s with
    | .inl f => ∀ M', M' 58 7 = f → mO M M' → Q 0 M'
    | .inr x => ∀ M', MSt M' tb e (lqn x.2) → mC M' x.2 → mR M' (fset R m x.1) (m + 1) → mO M M' → Q 1 M') : pu_I L (d + 8) 197 [.ref 58] M Q := by
  have he := hX.1
  unfold l_rule at H
  have fin : (ch tb e (lqn s) = 101 ∨ ch tb e (lqn s) = 104 ∨ ch tb e (lqn s) = 103 ∨ ch tb e (lqn s) = 98 ∨ ch tb e (lqn s) = 113) → pu_R L (d + 8) 197 45 [.ref 58, .int (ch tb e (lqn s))] [] M (pu_qI Q) := by
    intro hl
    rw [if_pos hl] at H
    have hlt : lqn s < e := by
      rcases hl with z | z | z | z | z <;> exact ch_m1 z (by decide)
    have elet : ch tb e (lqn s) = nI (tb (lqn s)) := by unfold ch; rw [if_pos hlt]
    refine r_m_readsRule_45 ?_
    rw [hR.1]
    by_cases m16 : m = 16
    · rw [if_pos m16] at H
      rw [if_pos (by rw [m16]; rfl)]
      exact c_m_wrongAt hS ⟨Or.inl rfl, H _ (by rw [pu_wr_self, upd_s]) ((mO.rf M).w58 scF7)⟩
    · rw [if_neg m16] at H
      rw [if_neg (by rw [n_16, nI_eq (by omega) (by decide)]; exact m16), nI_clamp (by omega), pu_wr_ne (show (58 : Nat) ≠ 65 by decide), hS.2.1, nI_1]
      have e12 : pu_wr (pu_wr M 65 m (ch tb e (lqn s))) 58 5 (nI (lqn s + 1)) 58 12 = nI m := by rw [pu_wr_self, upd_n (by decide), pu_wr_ne (by decide)]; exact hR.1
      have e10 : pu_wr (pu_wr M 65 m (ch tb e (lqn s))) 58 5 (nI (lqn s + 1)) 58 10 = nI (lcn s) := by rw [pu_wr_self, upd_n (by decide), pu_wr_ne (by decide)]; exact hC.1
      rw [e12, e10, nI_clamp (by omega)]
      refine ⟨inb_nI (by omega) (by decide), inb_nI (by omega) (by decide), fun M3 e3 => ?_⟩
      have S3 : MSt M3 tb e (lqn s + 1) := by rw [e3]; exact MSt_ot (MSt_adv (MSt_ot hS (by decide) (by decide))) (by decide) (by decide)
      have C3 : mC M3 s := by rw [e3]; exact mC_ot (mC_58 (mC_ot hC (by decide) (by decide)) (by decide)) (by decide) (by decide)
      have R3 : mR M3 R m := by rw [e3]; exact mR_w (mR_58 (mR_w hR (by decide)) (by decide)) (by decide)
      have O3 : mO M M3 := by rw [e3]; exact (((mO.rf M).wk (by decide) (by decide)).w58 scF5).wk (by decide) (by decide)
      have L3 : M3 65 m = nI (tb (lqn s)) := by rw [e3, pu_wr_ne (by decide), pu_wr_ne (by decide), pu_wr_self, upd_s, elet]
      have F3 : M3 66 m = nI (lcn s) := by rw [e3, pu_wr_self, upd_s]
      have t4 : mT tb e (pu_wr (pu_wr M3 58 9 0) 58 11 0) [] (6 - 6) (l_adv (l_h0 s)) := by
        refine ⟨MSt_wr (MSt_wr S3 (by decide) (Or.inr ⟨by decide, by decide⟩)) (by decide) (Or.inr ⟨by decide, by decide⟩), ?_, ⟨?_, trivial⟩, ?_⟩
        · exact mC_58 (mC_58 C3 (by decide)) (by decide)
        · rw [pu_wr_self, upd_s]; rfl
        · rw [pu_wr_self, upd_n (by decide), pu_wr_self, upd_s]; rfl
      have O4 : mO M (pu_wr (pu_wr M3 58 9 0) 58 11 0) := (O3.w58 scF9).w58 scF11
      have R4 : mR (pu_wr (pu_wr M3 58 9 0) 58 11 0) R m := mR_58 (mR_58 R3 (by decide)) (by decide)
      have L4 : (pu_wr (pu_wr M3 58 9 0) 58 11 0) 65 m = nI (tb (lqn s)) := by rw [pu_wr_ne (by decide), pu_wr_ne (by decide)]; exact L3
      have F4 : (pu_wr (pu_wr M3 58 9 0) 58 11 0) 66 m = nI (lcn s) := by rw [pu_wr_ne (by decide), pu_wr_ne (by decide)]; exact F3
      generalize pu_wr (pu_wr M3 58 9 0) 58 11 0 = M4 at t4 O4 R4 L4 F4 ⊢
      have okE := l_rE_ok (tb := tb) he hlt hc
      -- from the C on
      have cond : ∀ (s1 : Lst) (M5 : pu_M), l_rE tb e s = .inr s1 → MSt M5 tb e (lqn s1) → mC M5 s1 → mR M5 R m → M5 65 m = nI (tb (lqn s)) → M5 66 m = nI (lcn s) → mO M M5 → pu_R L (d + 8) 197 122 [.ref 58, .int (ch tb e (lqn s))] [] M5 (pu_qI Q) := by
        intro s1 M5 e1 S5 C5 R5 L5 F5 O5
        rw [e1] at H okE
        obtain ⟨a1, a2, a3, a4⟩ := okE
        dsimp only at H
        refine r_m_readsRule_122 ?_
        rw [R5.1, C5.1, nI_clamp (by omega)]
        refine ⟨inb_nI (by omega) (by decide), ?_⟩
        have S6 : MSt (pu_wr M5 67 m (nI (lcn s1))) tb e (lqn s1) := MSt_ot S5 (by decide) (by decide)
        have C6 : mC (pu_wr M5 67 m (nI (lcn s1))) s1 := mC_ot C5 (by decide) (by decide)
        have R6 : mR (pu_wr M5 67 m (nI (lcn s1))) R m := mR_w R5 (by decide)
        have O6 : mO M (pu_wr M5 67 m (nI (lcn s1))) := O5.wk (by decide) (by decide)
        have L6 : pu_wr M5 67 m (nI (lcn s1)) 65 m = nI (tb (lqn s)) := by rw [pu_wr_ne (by decide)]; exact L5
        have F6 : pu_wr M5 67 m (nI (lcn s1)) 66 m = nI (lcn s) := by rw [pu_wr_ne (by decide)]; exact F5
        have H6 : pu_wr M5 67 m (nI (lcn s1)) 67 m = nI (lcn s1) := by rw [pu_wr_self, upd_s]
        generalize pu_wr M5 67 m (nI (lcn s1)) = M6 at S6 C6 R6 O6 L6 F6 H6 ⊢
        refine c_N_cond hX S6 C6 (by omega) a2 ?_
        have okC := l_rC_ok (tb := tb) he a2 (show lcn s1 ≤ lqn s1 by omega)
        cases eC : l_rC tb e s1 with
        | inl f =>
          rw [eC] at H
          intro M7 a f7
          rw [if_pos rfl]; exact H M7 a (O6.tr (mO.f f7))
        | inr s2 =>
          rw [eC] at H okC
          obtain ⟨b1, b2, b3, b4⟩ := okC
          intro M7 S7 C7 f7
          have R7 := mR_f R6 f7
          rw [if_neg (by decide), R7.1, C7.1, nI_clamp (by omega), pu_wr_ne (show (58 : Nat) ≠ 68 by decide), R7.1, nI_1]
          refine ⟨inb_nI (by omega) (by decide), H _ ?_ ?_ ⟨?_, fun i hi => ?_⟩ (((O6.tr (mO.f f7)).wk (by decide) (by decide)).w58 scF12)⟩
          · exact MSt_wr (MSt_ot S7 (by decide) (by decide)) (by decide) (Or.inr ⟨by decide, by decide⟩)
          · exact mC_58 (mC_ot C7 (by decide) (by decide)) (by decide)
          · rw [pu_wr_self, upd_s]
          · rw [pu_wr_ne (by decide), pu_wr_ne (by decide), pu_wr_ne (by decide), pu_wr_ne (by decide), pu_wr_ne (by decide), pu_wr_ne (by decide), pu_wr_ne (by decide), pu_wr_self]
            by_cases z : i = m
            · subst z
              rw [fset_s, upd_s, f7.1 65 (by decide) (by decide) (by decide), f7.1 66 (by decide) (by decide) (by decide), f7.1 67 (by decide) (by decide) (by decide)]
              exact ⟨L6, F6, H6, rfl⟩
            · rw [fset_n z, upd_n z]; exact R7.2 i (by omega)
      by_cases c5 : ch tb e (lqn s) = 113
      · rw [if_pos c5]
        exact cond (l_adv (l_h0 s)) M4 (by unfold l_rE; rw [if_pos c5]) t4.1 t4.2.1 R4 L4 F4 O4
      · rw [if_neg c5]
        have ee : l_rE tb e s = l_sumR tb e (l_fac tb e 6) (l_adv (l_h0 s)) := by unfold l_rE; rw [if_neg c5]
        refine c_N_sum (r := 6) (W := []) (s := l_adv (l_h0 s)) hX (by decide) (fun x W' z => by cases z) t4 (Nat.zero_le _) (show lcn s ≤ lqn s + 1 by omega) hlt ?_
        cases ea : l_sumR tb e (l_fac tb e 6) (l_adv (l_h0 s)) with
        | inl f =>
          rw [ee, ea] at H
          intro M5 a f5
          rw [if_pos rfl]; exact H M5 a (O4.tr (mO.f f5))
        | inr s1 =>
          intro M5 t5 f5
          rw [if_neg (by decide)]
          exact cond s1 M5 (by rw [ee, ea]) t5.1 t5.2.1 (mR_f R4 f5) (by rw [f5.1 65 (by decide) (by decide) (by decide)]; exact L4) (by rw [f5.1 66 (by decide) (by decide) (by decide)]; exact F4) (O4.tr (mO.f f5))
  refine r_m_readsRule (c_m_here hX (by omega) hS ?_)
  by_cases c1 : ch tb e (lqn s) = 101
  · rw [if_pos c1]; exact fin (Or.inl c1)
  rw [if_neg c1]
  by_cases c2 : ch tb e (lqn s) = 104
  · rw [if_pos c2]; exact fin (Or.inr (Or.inl c2))
  rw [if_neg c2]
  by_cases c3 : ch tb e (lqn s) = 103
  · rw [if_pos c3]; exact fin (Or.inr (Or.inr (Or.inl c3)))
  rw [if_neg c3]
  by_cases c4 : ch tb e (lqn s) = 98
  · rw [if_pos c4]; exact fin (Or.inr (Or.inr (Or.inr (Or.inl c4))))
  rw [if_neg c4]
  by_cases c5 : ch tb e (lqn s) = 113
  · rw [if_pos c5]; exact fin (Or.inr (Or.inr (Or.inr (Or.inr c5))))
  rw [if_neg c5]
  have hn : ¬ (ch tb e (lqn s) = 101 ∨ ch tb e (lqn s) = 104 ∨ ch tb e (lqn s) = 103 ∨ ch tb e (lqn s) = 98 ∨ ch tb e (lqn s) = 113) := fun z => by
    rcases z with z | z | z | z | z
    · exact c1 z
    · exact c2 z
    · exact c3 z
    · exact c4 z
    · exact c5 z
  rw [if_neg hn] at H
  exact c_m_wrongAt hS ⟨Or.inl rfl, H _ (by rw [pu_wr_self, upd_s]) ((mO.rf M).w58 scF7)⟩
end NT
