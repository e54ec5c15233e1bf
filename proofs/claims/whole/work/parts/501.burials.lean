/-! burials, both sides -/
theorem chR_no {tb : Nat → Nat} {e a q : Nat} (hX : TX tb e) (ha : a ≤ 200) (hc : chR tb e a 16 q = none) : ch tb e q - nI a < 0 ∨ 15 < ch tb e q - nI a := by
  unfold chR at hc
  unfold ch
  by_cases hqe : q < e
  · have ht := hX.2 q hqe
    rw [if_pos hqe]
    split at hc
    · cases hc
    next hn =>
      by_cases h1 : tb q < a
      · left
        rw [Int32.lt_iff_toInt_lt, pk_sub_toInt (by omega) (by omega)]
        have e3 : (0 : Int32).toInt = 0 := rfl
        omega
      · right
        rw [pk_sub (by omega), n_15, nI_ltI (by omega) (by omega)]
        omega
  · rw [if_neg hqe]; left
    rw [Int32.lt_iff_toInt_lt, Int32.toInt_sub, nI_toInt (by omega)]
    have e1 : ((-1 : Int32)).toInt = -1 := rfl
    have e3 : (0 : Int32).toInt = 0 := rfl
    rw [e1, mq_bmod (by omega) (by omega), e3]
    omega
def mbS (k : Nat) : Prop := k = 58 ∨ k = 59
def mcS (k : Nat) : Prop := k = 58 ∨ k = 59 ∨ k = 60
section BX
variable {L d : Nat} {M : pu_M} {tb : Nat → Nat} {e q m n y : Nat} {f : Int32} {P : Pp}
theorem c_x_burials {Q : Int32 → pu_M → Prop} {y1 y2 : Nat} (h1 : 1 ≤ e) (h2 : e ≤ 120) (hen : e ≤ n) (hT : CT M n tb) (h9 : M 0 9 = nI y1) (h10 : M 0 10 = nI y2) (hy1 : pu_isY y1) (hy2 : pu_isY y2) (hy : y1 ≠ y2) (hC : CY P M y1) (hI : PI P) (H : TX tb e → match rdBs tb e 21 0 0 P with
    | .inl f => ∀ M', M' 1 1 = 0 → only (bS y2) M M' → Q f M'
    | .inr (k, P') => ∀ M', M' 1 1 = 0 → CY P' M' y2 → M' 0 9 = nI y2 → M' 0 10 = nI y1 → (∀ j, j ≠ 9 → j ≠ 10 → M' 0 j = M 0 j) → only (fun k => k = 0 ∨ bS y2 k) M M' → Q (nI k) M') : pu_I L (d + 8) 125 [.ref 0, .int (nI e)] M Q := by
  have h16 : 16 ≤ y2 := by unfold pu_isY at hy2; omega
  have h161 : 16 ≤ y1 := by unfold pu_isY at hy1; omega
  refine r_x_burials (c_open_ok (a := 1) (b := 120) h1 h2 hen (by decide) hT (fun M1 hX t1 o1 => ?_))
  have H := H hX
  rw [if_neg (by decide)]
  have o10 : M1 0 = M 0 := o1 0 (by decide)
  refine ⟨y2, by rw [o10]; exact h10, hy2, y1, by rw [o10]; exact h9, hy1, c_Y_copyFrom hy2 hy1 (Ne.symm hy) (CY_only1 hy1 hC o1) (fun M2 c2 o2 => ?_)⟩
  have n0 : ¬ yS y2 0 := fun z => by have := z.1; omega
  have o20 : M2 0 = M 0 := (o2 0 n0).trans o10
  refine ⟨y2, by rw [o20]; exact h10, hy2, r_BurialReader_read hy2 ?_⟩
  have t2 := TS_y hy2 t1 o2
  have hok := rdBs_ok hX (g := 21) (m := 0) (q := 0) rfl (by decide) (by decide) hI
  refine c_B_read hy2 hX (g := 21) (m := 0) (q := 0) rfl (by decide) (by decide) hI t2 c2 ?_
  have o12 : only (bS y2) M M2 := (only_1b o1).tr (only_yb o2)
  revert H hok
  generalize rdBs tb e 21 0 0 P = R
  intro H hok
  cases R with
  | inl f =>
    refine fun M' a o => ?_
    rw [if_pos hok]
    exact H M' a (o12.tr o)
  | inr x =>
    obtain ⟨k, P'⟩ := x
    refine fun M' a c o => ?_
    have hk := hok.2
    have o0 : M' 0 = M 0 := by rw [o 0 (by unfold bS yS; omega), o20]
    rw [if_neg (nI_pos (by omega))]
    refine ⟨y1, by rw [o0]; exact h9, hy1, y2, by rw [o0]; exact h10, hy2, ?_⟩
    refine H _ ?_ ?_ ?_ ?_ ?_ ?_
    · rw [pu_wr_ne (by decide), pu_wr_ne (by decide)]; exact a
    · unfold CY
      rw [pu_wr_ne (by omega), pu_wr_ne (by omega), pu_wr_ne (by omega), pu_wr_ne (by omega), pu_wr_ne (by omega), pu_wr_ne (by omega), pu_wr_ne (by omega), pu_wr_ne (by omega), pu_wr_ne (by omega), pu_wr_ne (by omega)]
      exact c
    · rw [pu_wr_self, upd_n (by decide), pu_wr_self, upd_s]
    · rw [pu_wr_self, upd_s]
    · intro j j1 j2; rw [pu_wr_self, upd_n j2, pu_wr_self, upd_n j1, o0]
    · refine only.wr (only.wr (fun k hk => ?_) (Or.inl rfl)) (Or.inl rfl)
      exact (o12.tr o) k (fun z => hk (Or.inr z))
theorem c_x_burialsN {Q : Int32 → pu_M → Prop} {v : Int32} (hN : ¬ okE 1 120 n v) (hT : CT M n tb) (H : Q (-1) M) : pu_I L (d + 8) 125 [.ref 0, .int v] M Q := by
  refine r_x_burials (c_open_no (a := 1) (b := 120) (by decide) (by decide) hN hT ?_)
  rw [if_pos rfl]; exact H
/-! the model's -/
def maft (M : pu_M) (tb : Nat → Nat) (e l : Nat) (Q : Int32 → pu_M → Prop) (R : Int32 ⊕ (Pp × Nat)) : Prop := match R with
  | .inl f => ∀ M', M' 58 7 = f → fr M M' → only mbS M M' → Q 0 M'
  | .inr (P', q') => ∀ M', MSt M' tb e q' → PM P' (M' 59) → M' 58 27 = nI l → fr M M' → only mbS M M' → Q 1 M'
theorem maft_tr {M1 : pu_M} {l : Nat} {Q : Int32 → pu_M → Prop} {R : Int32 ⊕ (Pp × Nat)} (f1 : fr M M1) (o : only mbS M M1) (H : maft M tb e l Q R) : maft M1 tb e l Q R := by
  cases R with
  | inl f => exact fun M' a g b => H M' a (f1.tr g) (o.tr b)
  | inr x => exact fun M' a c k g b => H M' a c k (f1.tr g) (o.tr b)
theorem w58 {A : pu_M} {i : Nat} {x : Int32} (o : only mbS M A) : only mbS M (pu_wr A 58 i x) := o.wr (Or.inl rfl)
theorem c_m_fault {l : Nat} {Q : Int32 → pu_M → Prop} {k : Int32} (h : MSt M tb e q) (H : maft M tb e l Q (.inl (flt k q))) : pu_I L (d + 1) 180 [.ref 58, .int k, .int (M 58 5)] M (fun x M' => (x = 0 ∨ x = 1) ∧ Q x M') :=
  c_m_wrongAt h ⟨Or.inl rfl, H _ (by rw [pu_wr_self, upd_s]) ((fr.rf M).wr scF7) (w58 (only.rf _ M))⟩
theorem PM_pl {g : Nat → Int32} {p : Nat} {o : Option Nat} (h : PM P g) (hp : p < 16) : PM (setpl P p o) (upd g (48 + p) (pI o)) := by
  obtain ⟨h1, h2, h3⟩ := h
  refine ⟨fun r hr => ⟨?_, ?_, ?_, ?_⟩, ?_, ?_⟩
  · rw [upd_n (by omega)]; exact (h1 r hr).1
  · rw [upd_n (by omega)]; exact (h1 r hr).2.1
  · rw [upd_n (by omega)]; exact (h1 r hr).2.2.1
  · show _ = pI (fset (pl P) p o r)
    by_cases x : r = p
    · subst x; rw [upd_s, fset_s]
    · rw [upd_n (by omega), fset_n x]; exact (h1 r hr).2.2.2
  · rw [upd_n (by omega)]; exact h2
  · rw [upd_n (by omega)]; exact h3
theorem PM_tp {g : Nat → Int32} {p t : Nat} (h : PM P g) (hp : p < 16) : PM (settp P p t) (upd g (16 + p) (nI t)) := by
  obtain ⟨h1, h2, h3⟩ := h
  refine ⟨fun r hr => ⟨?_, ?_, ?_, ?_⟩, ?_, ?_⟩
  · rw [upd_n (by omega)]; exact (h1 r hr).1
  · show _ = nI (fset (tp P) p t r)
    by_cases x : r = p
    · subst x; rw [upd_s, fset_s]
    · rw [upd_n (by omega), fset_n x]; exact (h1 r hr).2.1
  · rw [upd_n (by omega)]; exact (h1 r hr).2.2.1
  · rw [upd_n (by omega)]; exact (h1 r hr).2.2.2
  · rw [upd_n (by omega)]; exact h2
  · rw [upd_n (by omega)]; exact h3
theorem c_m_readsPlot {l : Nat} {Q : Int32 → pu_M → Prop} {p : Nat} (hX : TX tb e) (hq : q ≤ 300) (hM : PM P (M 59)) (hI : PI P) (hp : p < 16) (hl : M 58 27 = nI l) (h : MSt M tb e q) (H : maft M tb e l Q (rdP tb e q P p)) : pu_I L (d + 3) 206 [.ref 58, .int (nI p)] M (fun x M' => (x = 0 ∨ x = 1) ∧ Q x M') := by
  refine r_m_readsPlot (c_m_isDigit hX (by omega) h ?_)
  unfold rdP at H
  cases hx : chR tb e 48 10 q with
  | none =>
    rw [hx] at H
    rw [if_pos (show bI (none : Option Nat).isSome = 0 from rfl)]
    exact c_m_wrongAt h ⟨Or.inl rfl, Or.inl rfl, H _ (by rw [pu_wr_self, upd_s]) ((fr.rf M).wr scF7) (w58 (only.rf _ M))⟩
  | some x =>
    rw [hx] at H
    have hx10 := (chR_lt hx).1
    rw [if_neg (show ¬ bI (some x).isSome = 0 from (by decide : ¬ bI true = 0))]
    refine c_m_here hX (by omega) h ?_
    rw [n_48, ch_sub hx, h.2.1, nI_1]
    have s1 := MSt_adv h
    have f1 : fr M (pu_wr M 58 5 (nI (q + 1))) := (fr.rf M).wr scF5
    have o1 : only mbS M (pu_wr M 58 5 (nI (q + 1))) := w58 (only.rf _ M)
    have hM1 : PM P (pu_wr M 58 5 (nI (q + 1)) 59) := by rw [pu_wr_ne (by decide)]; exact hM
    have hl1 : pu_wr M 58 5 (nI (q + 1)) 58 27 = nI l := by rw [pu_wr_self, upd_n (by decide)]; exact hl
    generalize pu_wr M 58 5 (nI (q + 1)) = M1 at s1 f1 o1 hM1 hl1 ⊢
    dsimp only at H
    refine c_m_takes hX (by omega) s1 (fun hc => ?_) (fun hc => ?_)
    · rw [if_neg (fun z => z hc)] at H
      rw [if_neg (by decide)]
      have s2 := MSt_adv s1
      have f2 : fr M (pu_wr M1 58 5 (nI (q + 1 + 1))) := f1.wr scF5
      have o2 : only mbS M (pu_wr M1 58 5 (nI (q + 1 + 1))) := w58 o1
      have hM2 : PM P (pu_wr M1 58 5 (nI (q + 1 + 1)) 59) := by rw [pu_wr_ne (by decide)]; exact hM1
      have hl2 : pu_wr M1 58 5 (nI (q + 1 + 1)) 58 27 = nI l := by rw [pu_wr_self, upd_n (by decide)]; exact hl1
      generalize pu_wr M1 58 5 (nI (q + 1 + 1)) = M2 at s2 f2 o2 hM2 hl2 ⊢
      refine c_m_isDigit hX (by omega) s2 ?_
      rw [show q + 2 = q + 1 + 1 from rfl] at H
      cases hz : chR tb e 48 10 (q + 1 + 1) with
      | none =>
        rw [hz] at H
        rw [if_pos (show bI (none : Option Nat).isSome = 0 from rfl)]
        exact c_m_wrongAt s2 ⟨Or.inl rfl, Or.inl rfl, H _ (by rw [pu_wr_self, upd_s]) (f2.wr scF7) (w58 o2)⟩
      | some z =>
        rw [hz] at H
        have hz10 := (chR_lt hz).1
        rw [if_neg (show ¬ bI (some z).isSome = 0 from (by decide : ¬ bI true = 0))]
        refine c_m_here hX (by omega) s2 ?_
        rw [ch_sub hz]
        dsimp only at H
        by_cases h6 : 6 ≤ z
        · rw [if_pos h6] at H
          rw [if_neg (by rw [n_6, nI_ltI (by omega) (by omega)]; omega)]
          exact c_m_wrongAt s2 ⟨Or.inl rfl, Or.inl rfl, H _ (by rw [pu_wr_self, upd_s]) (f2.wr scF7) (w58 o2)⟩
        · rw [if_neg h6] at H
          have ew : 10 * nI z + nI x = nI (10 * z + x) := by rw [n_10, pk_mul, nI_add]
          have hw : 10 * z + x < 60 := by omega
          rw [if_pos (by rw [n_6, nI_ltI (by omega) (by omega)]; omega), ew, s2.2.1, nI_1, nI_add, nI_clamp (by omega)]
          have s3 := MSt_adv s2
          have f3 : fr M (pu_wr M2 58 5 (nI (q + 1 + 1 + 1))) := f2.wr scF5
          have o3 : only mbS M (pu_wr M2 58 5 (nI (q + 1 + 1 + 1))) := w58 o2
          have hM3 : PM P (pu_wr M2 58 5 (nI (q + 1 + 1 + 1)) 59) := by rw [pu_wr_ne (by decide)]; exact hM2
          have hl3 : pu_wr M2 58 5 (nI (q + 1 + 1 + 1)) 58 27 = nI l := by rw [pu_wr_self, upd_n (by decide)]; exact hl2
          generalize pu_wr M2 58 5 (nI (q + 1 + 1 + 1)) = M3 at s3 f3 o3 hM3 hl3 ⊢
          refine c_m_whoLies hM3 hI hw ?_
          have good : free1 P p (10 * z + x) = true → mq_inb (nI (48 + p)) 66 = true ∧ ((1 : Int32) = 0 ∨ (1 : Int32) = 1) ∧ Q 1 (pu_wr M3 59 (48 + p) (nI (10 * z + x))) := by
            intro hf
            rw [if_pos hf] at H
            refine ⟨inb_nI (by omega) (by decide), Or.inr rfl, H _ (MSt_wr s3 (by decide) (Or.inl (by decide))) ?_ ?_ (f3.ot (by decide)) (o3.wr (Or.inr rfl))⟩
            · rw [pu_wr_self]; exact PM_pl hM3 hp
            · rw [pu_wr_ne (by decide)]; exact hl3
          by_cases h1 : pI (who P (10 * z + x)) = -2
          · rw [if_pos h1]
            exact good (by unfold free1; rw [(pI_m2 (fun q => who_lt)).mp h1]; rfl)
          · rw [if_neg h1]
            by_cases h2 : pI (who P (10 * z + x)) = nI p
            · rw [if_pos h2]
              exact good (by unfold free1; rw [(pI_nI (by omega) (fun q => who_lt)).mp h2]; simp)
            · rw [if_neg h2]
              have hf : free1 P p (10 * z + x) = false := by
                unfold free1
                rw [Bool.or_eq_false_iff]
                constructor
                · rw [beq_eq_false_iff_ne]; exact fun z => h1 ((pI_m2 (fun q => who_lt)).mpr z)
                · rw [beq_eq_false_iff_ne]; exact fun z => h2 ((pI_nI (by omega) (fun q => who_lt)).mpr z)
              rw [if_neg (by rw [hf]; decide)] at H
              exact r_m_wrongAt ⟨Or.inl rfl, Or.inl rfl, H _ (by rw [pu_wr_self, upd_s]; rfl) (f3.wr scF7) (w58 o3)⟩
    · rw [if_pos hc] at H
      rw [if_pos rfl]
      exact ⟨Or.inl rfl, H _ (by rw [pu_wr_self, upd_s]) (f1.wr scF7) (w58 o1)⟩
theorem c_m_readsOther {l : Nat} {Q : Int32 → pu_M → Prop} {p : Nat} (hX : TX tb e) (hq : q ≤ 300) (hM : PM P (M 59)) (hp : p < 16) (hl : M 58 27 = nI l) (h : MSt M tb e q) (H : maft M tb e l Q (rdO tb e q P p)) : pu_I L (d + 3) 207 [.ref 58, .int (nI p)] M (fun x M' => (x = 0 ∨ x = 1) ∧ Q x M') := by
  refine r_m_readsOther (c_m_isLetter hX (by omega) h ?_)
  unfold rdO at H
  cases hx : chR tb e 97 16 q with
  | none =>
    rw [hx] at H
    rw [if_pos (show bI (none : Option Nat).isSome = 0 from rfl)]
    exact c_m_wrongAt h ⟨Or.inl rfl, Or.inl rfl, H _ (by rw [pu_wr_self, upd_s]) ((fr.rf M).wr scF7) (w58 (only.rf _ M))⟩
  | some r =>
    rw [hx] at H
    have hr := (chR_lt hx).1
    rw [if_neg (show ¬ bI (some r).isSome = 0 from (by decide : ¬ bI true = 0))]
    refine c_m_here hX (by omega) h ?_
    rw [n_97, ch_sub hx]
    refine c_m_isTold hM hr ?_
    dsimp only at H
    cases ht : tl P r with
    | false =>
      rw [ht, if_neg (by decide)] at H
      rw [if_neg (by decide), if_pos rfl]
      exact c_m_wrongAt h ⟨Or.inl rfl, Or.inl rfl, H _ (by rw [pu_wr_self, upd_s]) ((fr.rf M).wr scF7) (w58 (only.rf _ M))⟩
    | true =>
      rw [ht, if_pos rfl] at H
      rw [if_pos rfl, if_neg (by decide), h.2.1, nI_1]
      simp (disch := omega) only [n_48, nI_add, nI_clamp, inb_nI, true_and]
      have s1 := MSt_adv h
      have f1 : fr M (pu_wr M 58 5 (nI (q + 1))) := (fr.rf M).wr scF5
      have o1 : only mbS M (pu_wr M 58 5 (nI (q + 1))) := w58 (only.rf _ M)
      have hM1 : PM P (pu_wr M 58 5 (nI (q + 1)) 59) := by rw [pu_wr_ne (by decide)]; exact hM
      have hl1 : pu_wr M 58 5 (nI (q + 1)) 58 27 = nI l := by rw [pu_wr_self, upd_n (by decide)]; exact hl
      generalize pu_wr M 58 5 (nI (q + 1)) = M1 at s1 f1 o1 hM1 hl1 ⊢
      intro M11 hM11
      subst hM11
      refine ⟨Or.inr trivial, H _ (MSt_wr (MSt_wr s1 (by decide) (Or.inl (by decide))) (by decide) (Or.inl (by decide))) ?_ ?_ ((f1.ot (by decide)).ot (by decide)) ((o1.wr (Or.inr rfl)).wr (Or.inr rfl))⟩
      · refine PM_swp hp hr hM1 (fun i => ?_)
        rw [pu_wr_self, pu_wr_self]
        unfold upd
        by_cases h1 : i = 48 + r
        · simp [h1]
        · by_cases h2 : i = 48 + p
          · simp [h2]
          · simp [h1, h2]
      · rw [pu_wr_ne (by decide), pu_wr_ne (by decide)]; exact hl1
theorem c_m_readsTopic {l : Nat} {Q : Int32 → pu_M → Prop} {p : Nat} {b : Bool} (hX : TX tb e) (hq : q ≤ 300) (hM : PM P (M 59)) (hI : PI P) (hp : p < 16) (hl : M 58 27 = nI l) (h : MSt M tb e q) (H : maft M tb e l Q (rdT tb e q P p b)) : pu_I L (d + 2) 208 [.ref 58, .int (nI p), .int (bI b)] M (fun x M' => (x = 0 ∨ x = 1) ∧ Q x M') := by
  refine r_m_readsTopic (c_m_here hX (by omega) h (c_m_in ?_))
  unfold rdT at H
  have htp := (hI.1 p hp).1
  cases hx : chR tb e 65 16 q with
  | none =>
    rw [hx] at H
    rw [if_pos (by rw [n_65]; exact chR_no hX (by decide) hx), if_pos rfl]
    exact c_m_wrongAt h ⟨Or.inl rfl, Or.inl rfl, H _ (by rw [pu_wr_self, upd_s]) ((fr.rf M).wr scF7) (w58 (only.rf _ M))⟩
  | some t =>
    rw [hx] at H
    have ht := (chR_lt hx).1
    have h2t := p2_lt ht
    rw [n_65, ch_sub hx, if_neg (in15 ht), if_neg (by decide), h.2.1, nI_1, nI_pow (by omega)]
    simp (disch := omega) only [n_16, nI_add, nI_clamp, inb_nI, true_and]
    have s1 := MSt_adv h
    have f1 : fr M (pu_wr M 58 5 (nI (q + 1))) := (fr.rf M).wr scF5
    have o1 : only mbS M (pu_wr M 58 5 (nI (q + 1))) := w58 (only.rf _ M)
    have hM1 : PM P (pu_wr M 58 5 (nI (q + 1)) 59) := by rw [pu_wr_ne (by decide)]; exact hM
    have hl1 : pu_wr M 58 5 (nI (q + 1)) 58 27 = nI l := by rw [pu_wr_self, upd_n (by decide)]; exact hl
    generalize pu_wr M 58 5 (nI (q + 1)) = M1 at s1 f1 o1 hM1 hl1 ⊢
    rw [(hM1.1 p hp).2.1, nI_andn (by omega) (by omega), nI_or (by omega) (by omega)]
    have fin : ∀ M7 : pu_M, M7 = pu_wr M1 59 (16 + p) (nI (if b = true then tp P p ||| 2 ^ t else an (tp P p) (2 ^ t))) → ((1 : Int32) = 0 ∨ True) ∧ Q 1 M7 := by
      intro M7 hM7
      subst hM7
      refine ⟨Or.inr trivial, H _ (MSt_wr s1 (by decide) (Or.inl (by decide))) ?_ ?_ (f1.ot (by decide)) (o1.wr (Or.inr rfl))⟩
      · rw [pu_wr_self]; exact PM_tp hM1 hp
      · rw [pu_wr_ne (by decide)]; exact hl1
    cases b with
    | false => rw [if_pos (by decide)]; exact fin
    | true => rw [if_neg (by decide)]; exact fin
theorem c_m_128 {l : Nat} {Q : Int32 → pu_M → Prop} {p : Nat} (hX : TX tb e) (hq : q ≤ 290) (hM : PM P (M 59)) (hI : PI P) (hp : p < 16) (hl : M 58 27 = nI l) (h : MSt M tb e q) (hc : ch tb e q = 64 ∨ ch tb e q = 33 ∨ ch tb e q = 61 ∨ ch tb e q = 43 ∨ ch tb e q = 45) (H : maft M tb e l Q (rdC tb e q P p)) : pu_R L (d + 4) 209 128 [.ref 58, .int (nI p), .int (ch tb e q)] [] M (pu_qI Q) := by
  refine r_m_readsLine_128 ?_
  rw [h.2.1, nI_1]
  have s1 := MSt_adv h
  have f1 : fr M (pu_wr M 58 5 (nI (q + 1))) := (fr.rf M).wr scF5
  have o1 : only mbS M (pu_wr M 58 5 (nI (q + 1))) := w58 (only.rf _ M)
  have hM1 : PM P (pu_wr M 58 5 (nI (q + 1)) 59) := by rw [pu_wr_ne (by decide)]; exact hM
  have hl1 : pu_wr M 58 5 (nI (q + 1)) 58 27 = nI l := by rw [pu_wr_self, upd_n (by decide)]; exact hl
  generalize pu_wr M 58 5 (nI (q + 1)) = M1 at s1 f1 o1 hM1 hl1 ⊢
  have H := maft_tr f1 o1 H
  unfold rdC at H
  by_cases h1 : ch tb e q = 64
  · rw [if_pos h1] at H ⊢; exact c_m_readsPlot hX (by omega) hM1 hI hp hl1 s1 H
  rw [if_neg h1] at H ⊢
  by_cases h3 : ch tb e q = 61
  · rw [if_neg (by rw [h3]; decide), if_pos h3] at H
    rw [if_pos h3]; exact c_m_readsOther hX (by omega) hM1 hp hl1 s1 H
  rw [if_neg h3]
  by_cases h2 : ch tb e q = 33
  · rw [if_pos h2] at H ⊢
    simp (disch := omega) only [n_48, nI_add, nI_clamp, inb_nI, true_and]
    refine H _ (MSt_wr s1 (by decide) (Or.inl (by decide))) ?_ ?_ ((fr.rf M1).ot (by decide)) ((only.rf _ M1).wr (Or.inr rfl))
    · rw [pu_wr_self]; exact PM_pl (o := none) hM1 hp
    · rw [pu_wr_ne (by decide)]; exact hl1
  rw [if_neg h2, if_neg h3] at H
  rw [if_neg h2]
  by_cases h4 : ch tb e q = 43
  · rw [if_pos h4] at H ⊢; exact c_m_readsTopic (b := true) hX (by omega) hM1 hI hp hl1 s1 H
  rw [if_neg h4] at H ⊢
  have h5 : ch tb e q = 45 := by
    rcases hc with z | z | z | z | z
    · exact absurd z h1
    · exact absurd z h2
    · exact absurd z h3
    · exact absurd z h4
    · exact z
  rw [if_pos h5] at H
  exact c_m_readsTopic (b := false) hX (by omega) hM1 hI hp hl1 s1 H
theorem scF27 : scF 27 := by unfold scF; omega
theorem c_m_readsLine {Q : Int32 → pu_M → Prop} (hX : TX tb e) (hq : q ≤ 240) (hm : m ≤ 20) (hM : PM P (M 59)) (hI : PI P) (hl : M 58 27 = nI m) (h : MSt M tb e q) (H : maft M tb e (m + 1) Q (rdB tb e m q P)) : pu_I L (d + 4) 209 [.ref 58] M Q := by
  refine r_m_readsLine (c_m_isLetter hX (by omega) h ?_)
  unfold rdB at H
  cases hx : chR tb e 97 16 q with
  | none =>
    rw [hx] at H
    rw [if_pos (show bI (none : Option Nat).isSome = 0 from rfl)]
    exact c_m_fault h H
  | some p =>
    rw [hx] at H
    have hp := (chR_lt hx).1
    rw [if_neg (show ¬ bI (some p).isSome = 0 from (by decide : ¬ bI true = 0)), hl]
    dsimp only at H
    by_cases hm20 : m = 20
    · rw [if_pos hm20] at H
      rw [if_pos (by rw [hm20]; rfl)]
      exact c_m_fault h H
    · rw [if_neg hm20] at H
      rw [if_neg (show ¬ nI m = 20 from fun z => hm20 ((nI_eq (by omega) (by decide)).mp z)), nI_1]
      have s1 : MSt (pu_wr M 58 27 (nI (m + 1))) tb e q := MSt_wr h (by decide) (by decide)
      have f1 : fr M (pu_wr M 58 27 (nI (m + 1))) := (fr.rf M).wr scF27
      have o1 : only mbS M (pu_wr M 58 27 (nI (m + 1))) := w58 (only.rf _ M)
      have hM1 : PM P (pu_wr M 58 27 (nI (m + 1)) 59) := by rw [pu_wr_ne (by decide)]; exact hM
      have hl1 : pu_wr M 58 27 (nI (m + 1)) 58 27 = nI (m + 1) := by rw [pu_wr_self, upd_s]
      generalize pu_wr M 58 27 (nI (m + 1)) = M1 at s1 f1 o1 hM1 hl1 ⊢
      have H := maft_tr f1 o1 H
      refine c_m_here hX (by omega) s1 ?_
      rw [n_97, ch_sub hx]
      refine c_m_isTold hM1 hp ?_
      cases ht : tl P p with
      | false =>
        rw [ht, if_neg (by decide)] at H
        rw [if_neg (by decide), if_pos rfl]
        exact c_m_fault s1 H
      | true =>
        rw [ht, if_pos rfl] at H
        rw [if_pos rfl, if_neg (by decide), s1.2.1, nI_1]
        have s2 := MSt_adv s1
        have f2 : fr M1 (pu_wr M1 58 5 (nI (q + 1))) := (fr.rf M1).wr scF5
        have o2 : only mbS M1 (pu_wr M1 58 5 (nI (q + 1))) := w58 (only.rf _ M1)
        have hM2 : PM P (pu_wr M1 58 5 (nI (q + 1)) 59) := by rw [pu_wr_ne (by decide)]; exact hM1
        have hl2 : pu_wr M1 58 5 (nI (q + 1)) 58 27 = nI (m + 1) := by rw [pu_wr_self, upd_n (by decide)]; exact hl1
        generalize pu_wr M1 58 5 (nI (q + 1)) = M2 at s2 f2 o2 hM2 hl2 ⊢
        have H := maft_tr f2 o2 H
        refine c_m_here hX (by omega) s2 ?_
        by_cases h1 : ch tb e (q + 1) = 64
        · rw [if_pos h1]; exact c_m_128 hX (by omega) hM2 hI hp hl2 s2 (Or.inl h1) H
        rw [if_neg h1]
        by_cases h2 : ch tb e (q + 1) = 33
        · rw [if_pos h2]; exact c_m_128 hX (by omega) hM2 hI hp hl2 s2 (Or.inr (Or.inl h2)) H
        rw [if_neg h2]
        by_cases h3 : ch tb e (q + 1) = 61
        · rw [if_pos h3]; exact c_m_128 hX (by omega) hM2 hI hp hl2 s2 (Or.inr (Or.inr (Or.inl h3))) H
        rw [if_neg h3]
        by_cases h4 : ch tb e (q + 1) = 43
        · rw [if_pos h4]; exact c_m_128 hX (by omega) hM2 hI hp hl2 s2 (Or.inr (Or.inr (Or.inr (Or.inl h4)))) H
        rw [if_neg h4]
        by_cases h5 : ch tb e (q + 1) = 45
        · rw [if_pos h5]; exact c_m_128 hX (by omega) hM2 hI hp hl2 s2 (Or.inr (Or.inr (Or.inr (Or.inr h5)))) H
        rw [if_neg h5]
        unfold rdC at H
        rw [if_neg h1, if_neg h2, if_neg h3, if_neg h4, if_neg h5] at H
        exact c_m_fault s2 H
theorem c_m_bLoop {Q : Int32 → pu_M → Prop} {v1 : Int32} {P0 : Pp} (hX : TX tb e) : ∀ {g m q : Nat} {P : Pp} {M : pu_M} {x : Int32}, g + m = 21 → m ≤ 20 → q ≤ 240 → PI P → PM P0 (M 60) → (match rdB tb e m q P with
    | .inl f => x = 0 ∧ M 58 7 = f
    | .inr (P', q') => x = 1 ∧ MSt M tb e q' ∧ PM P' (M 59) ∧ M 58 27 = nI (m + 1)) → (match rdBs tb e (g + 0) m q P with
    | .inl f => ∀ M', PM P0 (M' 59) → M' 58 4 = 0 → (∀ j, j ≠ 4 → ¬ scF j → M' 58 j = M 58 j) → only mbS M M' → Q f M'
    | .inr (n, P') => ∀ M', PM P' (M' 59) → M' 58 4 = 0 → (∀ j, j ≠ 4 → ¬ scF j → M' 58 j = M 58 j) → only mbS M M' → Q (nI n) M') → pu_R L (d + 5) 210 46 [.ref 58, .int v1, .int x] [] M (pu_qI Q)
  | 0, m, q, P, M, x, hg, hm, hq, hI, h60, hR, H => by omega
  | g + 1, m, q, P, M, x, hg, hm, hq, hI, h60, hR, H => by
    have he := hX.1
    rw [Nat.add_zero] at H
    unfold rdBs at H
    refine r_m_burials_46 ?_
    have endF : ∀ {M2 : pu_M} {f : Int32}, M2 58 7 = f → fr M M2 → only mbS M M2 → (∀ M', PM P0 (M' 59) → M' 58 4 = 0 → (∀ j, j ≠ 4 → ¬ scF j → M' 58 j = M 58 j) → only mbS M M' → Q f M') → pu_R L (d + 5) 210 86 [.ref 58, .int v1, .int 0] [] M2 (pu_qI Q) := by
      intro M2 f h7 hfr o H
      refine r_m_burials_86 ?_
      rw [if_pos rfl]
      refine c_m_copies rfl (by decide) rfl (by decide) (by decide) (fun M3 h3 o3 => ?_)
      have e58 : M3 58 = pu_wr M2 58 4 0 58 := o3 58 (by decide)
      have e7 : M3 58 7 = f := by rw [e58, pu_wr_self, upd_n (by decide)]; exact h7
      rw [e7]
      refine H M3 (PM_copy h60 (fun i hi => ?_)) ?_ (fun j j1 j2 => ?_) (fun k hk => ?_)
      · rw [h3 i hi, pu_wr_ne (by decide), o 60 (by unfold mbS; omega)]
      · rw [e58, pu_wr_self, upd_s]
      · rw [e58, pu_wr_self, upd_n j1]; exact hfr j j2
      · rw [o3 k (fun z => hk (Or.inr z)), pu_wr_ne (fun z => hk (Or.inl z)), o k hk]
    have hok := rdB_ok hX hq hm hI
    cases hr : rdB tb e m q P with
    | inl f =>
      rw [hr] at H hR
      obtain ⟨rfl, h7⟩ := hR
      rw [if_pos rfl]
      exact endF h7 (fr.rf M) (only.rf _ M) H
    | inr y =>
      obtain ⟨P', q'⟩ := y
      rw [hr] at H hR hok
      obtain ⟨rfl, hS, hM, hl⟩ := hR
      obtain ⟨h1, h2, h3, h4⟩ := hok
      dsimp only at H
      rw [if_neg (by decide), hS.1, hS.2.1]
      by_cases hqe : q' < e
      · rw [if_pos hqe] at H
        rw [if_neg (fun z => by have := (nI_leI (by omega) (by omega)).mp z; omega)]
        refine c_m_takes hX (by omega) hS (fun hc => ?_) (fun hc => ?_)
        · rw [if_pos hc] at H
          rw [if_neg (by decide)]
          have s1 := MSt_adv hS
          have f1 : fr M (pu_wr M 58 5 (nI (q' + 1))) := (fr.rf M).wr scF5
          have o1 : only mbS M (pu_wr M 58 5 (nI (q' + 1))) := w58 (only.rf _ M)
          have hM1 : PM P' (pu_wr M 58 5 (nI (q' + 1)) 59) := by rw [pu_wr_ne (by decide)]; exact hM
          have hl1 : pu_wr M 58 5 (nI (q' + 1)) 58 27 = nI (m + 1) := by rw [pu_wr_self, upd_n (by decide)]; exact hl
          generalize pu_wr M 58 5 (nI (q' + 1)) = M1 at s1 f1 o1 hM1 hl1 ⊢
          have next : ∀ {M2 : pu_M} {x : Int32}, fr M1 M2 → only mbS M1 M2 → (match rdB tb e (m + 1) (q' + 1) P' with
              | .inl f => x = 0 ∧ M2 58 7 = f
              | .inr (P2, q2) => x = 1 ∧ MSt M2 tb e q2 ∧ PM P2 (M2 59) ∧ M2 58 27 = nI (m + 1 + 1)) → pu_R L (d + 5) 210 46 [.ref 58, .int v1, .int x] [] M2 (pu_qI Q) := by
            intro M2 x f2 o2 hR2
            refine c_m_bLoop hX (g := g) (m := m + 1) (q := q' + 1) (P := P') (by omega) (by omega) (by omega) h1 (by rw [o2 60 (by unfold mbS; omega), o1 60 (by unfold mbS; omega)]; exact h60) hR2 ?_
            rw [Nat.add_zero]
            revert H
            generalize rdBs tb e g (m + 1) (q' + 1) P' = R
            intro H
            cases R with
            | inl f => exact fun M' a b c o => H M' a b (fun j j1 j2 => by rw [c j j1 j2, f2 j j2, f1 j j2]) ((o1.tr o2).tr o)
            | inr z => exact fun M' a b c o => H M' a b (fun j j1 j2 => by rw [c j j1 j2, f2 j j2, f1 j j2]) ((o1.tr o2).tr o)
          refine c_m_readsLine hX (by omega) (by omega) hM1 h1 hl1 s1 ?_
          cases hr2 : rdB tb e (m + 1) (q' + 1) P' with
          | inl f => exact fun M2 a b o => by dsimp only; rw [if_pos rfl]; exact next b o (by rw [hr2]; exact ⟨rfl, a⟩)
          | inr z => exact fun M2 a b c g o => by dsimp only; rw [if_neg (by decide)]; exact next g o (by rw [hr2]; exact ⟨rfl, a, b, c⟩)
        · rw [if_neg hc] at H
          rw [if_pos rfl]
          refine r_m_burials_46 ?_
          rw [if_pos rfl]
          exact endF (by rw [pu_wr_self, upd_s]) ((fr.rf M).wr scF7) (w58 (only.rf _ M)) H
      · rw [if_neg hqe] at H
        rw [if_pos ((nI_leI (by omega) (by omega)).mpr (by omega))]
        refine r_m_burials_86 ?_
        have e27 : pu_wr M 58 4 0 58 27 = nI (m + 1) := by rw [pu_wr_self, upd_n (by decide)]; exact hl
        rw [if_neg (by decide), e27]
        exact H _ (by rw [pu_wr_ne (by decide)]; exact hM) (by rw [pu_wr_self, upd_s]) (fun j j1 j2 => by rw [pu_wr_self, upd_n j1]) (w58 (only.rf _ M))
theorem c_m_burials {Q : Int32 → pu_M → Prop} (h1 : 1 ≤ e) (h2 : e ≤ 120) (hen : e ≤ n) (hT : MT M n tb) (hM : PM P (M 59)) (hI : PI P) (H : match rdBs tb e 21 0 0 P with
    | .inl f => ∀ M', PM P (M' 59) → M' 58 4 = 0 → (∀ j, j ≠ 4 → ¬ scF j → M' 58 j = M 58 j) → only mcS M M' → Q f M'
    | .inr (k, P') => ∀ M', PM P' (M' 59) → M' 58 4 = 0 → (∀ j, j ≠ 4 → ¬ scF j → M' 58 j = M 58 j) → only mcS M M' → Q (nI k) M') : pu_I L (d + 5) 210 [.ref 58, .int (nI e)] M Q := by
  obtain ⟨t1, t2, t3⟩ := hT
  have hX : TX tb e := ⟨by omega, fun i hi => (t3 i (by omega)).2⟩
  refine r_m_burials (c_m_in ?_)
  rw [if_neg (by rw [n_1, n_120, nI_ltI (by omega) (by omega), nI_ltI (by omega) (by omega)]; omega), if_neg (by decide), t2, if_pos ((nI_leI (by omega) (by omega)).mpr hen)]
  refine c_m_begins (fun M1 b6 b5 _ _ f1 o1 => ?_)
  have s1 : MSt (pu_wr M1 58 27 0) tb e 0 := MSt_wr ⟨b6, b5, fun i hi => by rw [o1 62 (by decide)]; exact (t3 i (by omega)).1⟩ (by decide) (by decide)
  have f1 : fr M (pu_wr M1 58 27 0) := f1.wr scF27
  have l1 : pu_wr M1 58 27 0 58 27 = nI 0 := by rw [pu_wr_self, upd_s]; rfl
  have hM1 : PM P (pu_wr M1 58 27 0 59) := by rw [pu_wr_ne (by decide), o1 59 (by decide)]; exact hM
  have o1 : only mcS M (pu_wr M1 58 27 0) := only.wr (fun k hk => o1 k (fun z => hk (Or.inl z))) (Or.inl rfl)
  generalize pu_wr M1 58 27 0 = M2 at s1 f1 o1 l1 hM1 ⊢
  refine c_m_copies rfl (by decide) rfl (by decide) (by decide) (fun M3 h3 o3 => ?_)
  have e58 : M3 58 = M2 58 := o3 58 (by decide)
  have h60 : PM P (M3 60) := PM_copy hM1 h3
  have s3 : MSt M3 tb e 0 := by unfold MSt; rw [e58, o3 62 (by decide)]; exact s1
  have l3 : M3 58 27 = nI 0 := by rw [e58]; exact l1
  have hM3 : PM P (M3 59) := by rw [o3 59 (by decide)]; exact hM1
  have f3 : fr M M3 := fun j hj => by rw [e58]; exact f1 j hj
  have o13 : only mcS M M3 := fun k hk => by rw [o3 k (fun z => hk (Or.inr (Or.inr z))), o1 k hk]
  have next : ∀ {M4 : pu_M} {x : Int32}, fr M3 M4 → only mbS M3 M4 → (match rdB tb e 0 0 P with
      | .inl f => x = 0 ∧ M4 58 7 = f
      | .inr (P2, q2) => x = 1 ∧ MSt M4 tb e q2 ∧ PM P2 (M4 59) ∧ M4 58 27 = nI (0 + 1)) → pu_R L (d + 5) 210 46 [.ref 58, .int (nI e), .int x] [] M4 (pu_qI Q) := by
    intro M4 x f4 o4 hR2
    refine c_m_bLoop hX (P0 := P) (g := 21) (m := 0) (q := 0) (P := P) (by omega) (by omega) (by omega) hI (by rw [o4 60 (by unfold mbS; omega)]; exact h60) hR2 ?_
    have cc : ∀ {M' : pu_M}, only mbS M4 M' → only mcS M M' := fun o k hk => by
      have hb : ¬ mbS k := fun z => hk (by unfold mbS at z; unfold mcS; omega)
      rw [o k hb, o4 k hb, o13 k hk]
    revert H
    generalize rdBs tb e 21 0 0 P = R
    intro H
    cases R with
    | inl f => exact fun M' a b c o => H M' a b (fun j j1 j2 => by rw [c j j1 j2, f4 j j2, f3 j j2]) (cc o)
    | inr z => exact fun M' a b c o => H M' a b (fun j j1 j2 => by rw [c j j1 j2, f4 j j2, f3 j j2]) (cc o)
  refine c_m_readsLine hX (by omega) (by omega) hM3 hI l3 s3 ?_
  cases hr2 : rdB tb e 0 0 P with
  | inl f => exact fun M2 a b o => next b o (by rw [hr2]; exact ⟨rfl, a⟩)
  | inr z => exact fun M2 a b c g o => next g o (by rw [hr2]; exact ⟨rfl, a, b, c⟩)
theorem c_m_burialsN {Q : Int32 → pu_M → Prop} {v : Int32} (hN : ¬ okE 1 120 n v) (hT : MT M n tb) (H : Q (-1) M) : pu_I L (d + 5) 210 [.ref 58, .int v] M Q := by
  refine r_m_burials (c_m_in ?_)
  by_cases h : v < 1 ∨ 120 < v
  · rw [if_pos h, if_pos rfl]; exact H
  · rw [if_neg h, if_neg (by decide), hT.2.1, if_neg (in_no (a := 1) (b := 120) (by decide) (by decide) hT.1 hN h)]; exact H
end BX
