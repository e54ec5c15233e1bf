/-! wishes, both sides -/
def dfW : Nat → Wi := fun _ => (0, 0, none)
def MWn (ws : Nat → Wi) (m : Nat) (M : pu_M) : Prop := M 58 35 = nI m ∧ ∀ i, i < m → M 79 i = nI (ws i).1 ∧ M 80 i = nI (ws i).2.1 ∧ M 81 i = pJ (ws i).2.2
def MW (ws : Nat → Wi) (m : Nat) (M : pu_M) : Prop := M 58 34 = nI m ∧ ∀ i, i < m → M 76 i = nI (ws i).1 ∧ M 77 i = nI (ws i).2.1 ∧ M 78 i = pJ (ws i).2.2
def mwS (k : Nat) : Prop := k = 58 ∨ k = 79 ∨ k = 80 ∨ k = 81
section WX
variable {L d : Nat} {M : pu_M} {tb : Nat → Nat} {e q m n : Nat} {f : Int32} {ws : Nat → Wi}
theorem c_x_wishes {Q : Int32 → pu_M → Prop} {w1 w2 : Nat} (h1 : 1 ≤ e) (h2 : e ≤ 120) (hen : e ≤ n) (hT : CT M n tb) (h13 : M 0 13 = nI w1) (h14 : M 0 14 = nI w2) (hw1 : pu_isW w1) (hw2 : pu_isW w2) (H : TX tb e → match rdWs tb e 25 0 0 dfW with
    | .inl f => ∀ M', M' 1 1 = 0 → only (wS w2) M M' → Q f M'
    | .inr (k, ws) => ∀ M', M' 1 1 = 0 → CW ws k M' w2 → M' 0 13 = nI w2 → M' 0 14 = nI w1 → (∀ j, j ≠ 13 → j ≠ 14 → M' 0 j = M 0 j) → only (fun k => k = 0 ∨ wS w2 k) M M' → Q (nI k) M') : pu_I L (d + 5) 126 [.ref 0, .int (nI e)] M Q := by
  have h50 : 50 ≤ w2 := by unfold pu_isW at hw2; omega
  refine r_x_wishes (c_open_ok (a := 1) (b := 120) h1 h2 hen (by decide) hT (fun M1 hX t1 o1 => ?_))
  have H := H hX
  rw [if_neg (by decide)]
  have o10 : M1 0 = M 0 := o1 0 (by decide)
  refine ⟨w2, by rw [o10]; exact h14, hw2, r_Wishes_read hw2 ?_⟩
  have o2 : only (wS w2) M1 (pu_wr M1 w2 3 0) := (only.rf _ M1).wr (Or.inr (by omega))
  have hS2 : ¬ wS w2 2 := by unfold wS; omega
  have t2 : TS (pu_wr M1 w2 3 0) tb e 0 := by
    unfold TS; rw [pu_wr_ne (by omega), pu_wr_ne (by omega)]; exact t1
  have c2 : CW dfW 0 (pu_wr M1 w2 3 0) w2 := ⟨by rw [pu_wr_self, upd_s]; rfl, fun i hi => by omega⟩
  have hok := rdWs_ok hX (g := 25) (m := 0) (q := 0) (ws := dfW) (by decide) ⟨by decide, fun i hi => by omega⟩
  refine c_W_read hw2 hX (g := 25) (m := 0) (q := 0) (ws := dfW) rfl (by decide) (by decide) t2 c2 ?_
  revert H hok
  generalize rdWs tb e 25 0 0 dfW = R
  intro H hok
  cases R with
  | inl f =>
    refine fun M' a o => ?_
    rw [if_pos hok]
    exact H M' a (((only_1w o1).tr o2).tr o)
  | inr x =>
    obtain ⟨k, ws⟩ := x
    refine fun M' a c o => ?_
    have hk := hok.1
    have o0 : M' 0 = M 0 := by rw [o 0 (by unfold wS; omega), o2 0 (by unfold wS; omega), o10]
    rw [if_neg (nI_pos (by omega))]
    refine ⟨w1, by rw [o0]; exact h13, hw1, w2, by rw [o0]; exact h14, hw2, ?_⟩
    refine H _ ?_ ?_ ?_ ?_ ?_ ?_
    · rw [pu_wr_ne (by decide), pu_wr_ne (by decide)]; exact a
    · unfold CW
      rw [pu_wr_ne (by omega), pu_wr_ne (by omega), pu_wr_ne (by omega), pu_wr_ne (by omega), pu_wr_ne (by omega), pu_wr_ne (by omega), pu_wr_ne (by omega), pu_wr_ne (by omega)]
      exact c
    · rw [pu_wr_self, upd_n (by decide), pu_wr_self, upd_s]
    · rw [pu_wr_self, upd_s]
    · intro j j1 j2; rw [pu_wr_self, upd_n j2, pu_wr_self, upd_n j1, o0]
    · refine only.wr (only.wr (fun k hk => ?_) (Or.inl rfl)) (Or.inl rfl)
      exact (((only_1w o1).tr o2).tr o) k (fun z => hk (Or.inr z))
theorem c_x_wishesN {Q : Int32 → pu_M → Prop} {v : Int32} (hN : ¬ okE 1 120 n v) (hT : CT M n tb) (H : Q (-1) M) : pu_I L (d + 5) 126 [.ref 0, .int v] M Q := by
  refine r_x_wishes (c_open_no (a := 1) (b := 120) (by decide) (by decide) hN hT ?_)
  rw [if_pos rfl]; exact H
/-! the model's -/
theorem MWn_58 {i : Nat} {x : Int32} (h : MWn ws m M) (hi : i ≠ 35) : MWn ws m (pu_wr M 58 i x) := by
  have e1 : pu_wr M 58 i x 58 35 = M 58 35 := by rw [pu_wr_self, upd_n (Ne.symm hi)]
  refine ⟨by rw [e1]; exact h.1, fun j hj => ?_⟩
  rw [pu_wr_ne (by decide), pu_wr_ne (by decide), pu_wr_ne (by decide)]
  exact h.2 j hj
theorem scF5 : scF 5 := by unfold scF; omega
theorem scF7 : scF 7 := by unfold scF; omega
theorem scF35 : scF 35 := by unfold scF; omega
theorem c_m_168 {Q : Int32 → pu_M → Prop} {p c : Nat} {x : Option Nat} {v2 : Int32} (hm : m < 24) (hv : v2 = pJ x) (hS : MSt M tb e q) (hC : MWn ws m M) (H : ∀ M', MSt M' tb e q → MWn (fset ws m (p, c, x)) (m + 1) M' → fr M M' → only mwS M M' → Q 1 M') : pu_R L (d + 3) 211 168 [.ref 58, .int (nI p), .int v2, .int (nI c)] [] M (pu_qI Q) := by
  refine r_m_readsWish_168 ?_
  have e1 : ∀ x, pu_wr M 79 m x 58 = M 58 := fun x => pu_wr_ne (by decide)
  have e2 : ∀ x z, pu_wr (pu_wr M 79 m x) 80 m z 58 = M 58 := fun x z => by rw [pu_wr_ne (by decide), e1]
  rw [hC.1, nI_clamp (by omega), e1, hC.1, nI_clamp (by omega), e2, hC.1, nI_clamp (by omega)]
  refine ⟨inb_nI (by omega) (by decide), inb_nI (by omega) (by decide), inb_nI (by omega) (by decide), fun M4 hM4 => ?_⟩
  have e3 : M4 58 = M 58 := by rw [hM4, pu_wr_ne (by decide), e2]
  rw [e3, hC.1, nI_1]
  have f4 : fr M M4 := by rw [hM4]; exact (((fr.rf M).ot (by decide)).ot (by decide)).ot (by decide)
  have o4 : only mwS M M4 := by rw [hM4]; exact (((only.rf mwS M).wr (by unfold mwS; omega)).wr (by unfold mwS; omega)).wr (by unfold mwS; omega)
  have s4 : MSt M4 tb e q := by
    rw [hM4]; exact MSt_wr (MSt_wr (MSt_wr hS (by decide) (Or.inl (by decide))) (by decide) (Or.inl (by decide))) (by decide) (Or.inl (by decide))
  refine H _ (MSt_wr s4 (by decide) (by decide)) ⟨by rw [pu_wr_self, upd_s], fun i hi => ?_⟩ (f4.wr scF35) (o4.wr (by unfold mwS; omega))
  rw [pu_wr_ne (by decide), pu_wr_ne (by decide), pu_wr_ne (by decide), hM4]
  have g1 : pu_wr (pu_wr (pu_wr M 79 m (nI p)) 80 m (nI c)) 81 m v2 79 i = upd (M 79) m (nI p) i := by rw [pu_wr_ne (by decide), pu_wr_ne (by decide), pu_wr_self]
  have g2 : pu_wr (pu_wr (pu_wr M 79 m (nI p)) 80 m (nI c)) 81 m v2 80 i = upd (M 80) m (nI c) i := by rw [pu_wr_ne (by decide), pu_wr_self, pu_wr_ne (by decide)]
  have g3 : pu_wr (pu_wr (pu_wr M 79 m (nI p)) 80 m (nI c)) 81 m v2 81 i = upd (M 81) m v2 i := by rw [pu_wr_self, pu_wr_ne (by decide), pu_wr_ne (by decide)]
  rw [g1, g2, g3]
  by_cases x : i = m
  · rw [x, fset_s, upd_s, upd_s, upd_s]; exact ⟨rfl, rfl, hv⟩
  · rw [fset_n x, upd_n x, upd_n x, upd_n x]; exact hC.2 i (by omega)
theorem c_m_readsWish {Q : Int32 → pu_M → Prop} (hX : TX tb e) (hq : q ≤ 240) (hm : m ≤ 24) (hS : MSt M tb e q) (hC : MWn ws m M) (H : match rdW tb e m q with
    | .inl f => ∀ M', M' 58 7 = f → fr M M' → only mwS M M' → Q 0 M'
    | .inr (x, q') => ∀ M', MSt M' tb e q' → MWn (fset ws m x) (m + 1) M' → fr M M' → only mwS M M' → Q 1 M') : pu_I L (d + 3) 211 [.ref 58] M Q := by
  have o7 : ∀ {A : pu_M} {x : Int32}, only mwS M A → only mwS M (pu_wr A 58 7 x) := fun o => o.wr (Or.inl rfl)
  have o5 : ∀ {A : pu_M} {x : Int32}, only mwS M A → only mwS M (pu_wr A 58 5 x) := fun o => o.wr (Or.inl rfl)
  refine r_m_readsWish (c_m_isLetter hX (by omega) hS ?_)
  unfold rdW at H
  cases hr : chR tb e 97 16 q with
  | none =>
    rw [hr] at H
    rw [if_pos (show bI (none : Option Nat).isSome = 0 from rfl)]
    exact c_m_wrongAt hS ⟨Or.inl rfl, H _ (by rw [pu_wr_self, upd_s]) ((fr.rf M).wr scF7) (o7 (only.rf _ M))⟩
  | some p =>
    rw [hr] at H
    have hp := (chR_lt hr).1
    rw [if_neg (show ¬ bI (some p).isSome = 0 from (by decide : ¬ bI true = 0)), hC.1]
    dsimp only at H
    by_cases hm24 : m = 24
    · rw [if_pos hm24] at H
      rw [if_pos (by rw [hm24]; rfl)]
      exact c_m_wrongAt hS ⟨Or.inl rfl, H _ (by rw [pu_wr_self, upd_s]) ((fr.rf M).wr scF7) (o7 (only.rf _ M))⟩
    · rw [if_neg hm24] at H
      rw [if_neg (show ¬ nI m = 24 from fun z => hm24 ((nI_eq (by omega) (by decide)).mp z))]
      refine c_m_here hX (by omega) hS ?_
      rw [hS.2.1, nI_1, n_97, ch_sub hr]
      have s1 := MSt_adv hS
      have f1 : fr M (pu_wr M 58 5 (nI (q + 1))) := (fr.rf M).wr scF5
      have w1 : only mwS M (pu_wr M 58 5 (nI (q + 1))) := o5 (only.rf _ M)
      have c1 : MWn ws m (pu_wr M 58 5 (nI (q + 1))) := MWn_58 hC (by decide)
      generalize pu_wr M 58 5 (nI (q + 1)) = M1 at s1 f1 w1 c1 ⊢
      refine c_m_here hX (by omega) s1 ?_
      have go95 : ch tb e (q + 1) = 43 ∨ ch tb e (q + 1) = 45 ∨ ch tb e (q + 1) = 35 ∨ ch tb e (q + 1) = 46 → pu_R L (d + 3) 211 95 [.ref 58, .int (nI p), .int (-1), .int (ch tb e (q + 1))] [] M1 (pu_qI Q) := by
        intro hc4
        have ec : ch tb e (q + 1) = nI (tb (q + 1)) := by
          have : q + 1 < e := by
            rcases hc4 with hc | hc | hc | hc
            · exact (ch_lit hX (c := 43) rfl (by decide) hc).1
            · exact (ch_lit hX (c := 45) rfl (by decide) hc).1
            · exact (ch_lit hX (c := 35) rfl (by decide) hc).1
            · exact (ch_lit hX (c := 46) rfl (by decide) hc).1
          unfold ch; rw [if_pos this]
        refine r_m_readsWish_95 ?_
        rw [s1.2.1, nI_1]
        have s2 := MSt_adv s1
        have f2 : fr M (pu_wr M1 58 5 (nI (q + 1 + 1))) := f1.wr scF5
        have w2 : only mwS M (pu_wr M1 58 5 (nI (q + 1 + 1))) := o5 w1
        have c2 : MWn ws m (pu_wr M1 58 5 (nI (q + 1 + 1))) := MWn_58 c1 (by decide)
        generalize pu_wr M1 58 5 (nI (q + 1 + 1)) = M2 at s2 f2 w2 c2 ⊢
        by_cases hc : ch tb e (q + 1) = 43 ∨ ch tb e (q + 1) = 45
        · rw [if_pos hc] at H
          have go : pu_R L (d + 3) 211 117 [.ref 58, .int (nI p), .int (-1), .int (ch tb e (q + 1))] [] M2 (pu_qI Q) := by
            refine r_m_readsWish_117 (c_m_isLetter hX (by omega) s2 ?_)
            cases hr2 : chR tb e 97 16 (q + 2) with
            | none =>
              rw [hr2] at H
              rw [if_pos (show bI (none : Option Nat).isSome = 0 from rfl)]
              exact c_m_wrongAt s2 ⟨Or.inl rfl, H _ (by rw [pu_wr_self, upd_s]) (f2.wr scF7) (o7 w2)⟩
            | some r =>
              rw [hr2] at H
              have hr16 := (chR_lt hr2).1
              rw [if_neg (show ¬ bI (some r).isSome = 0 from (by decide : ¬ bI true = 0))]
              refine c_m_here hX (by omega) s2 ?_
              rw [n_97, show q + 1 + 1 = q + 2 from rfl, ch_sub hr2]
              dsimp only at H
              by_cases hrp : r = p
              · rw [if_pos hrp] at H
                rw [if_pos (by rw [hrp])]
                exact c_m_wrongAt s2 ⟨Or.inl rfl, H _ (by rw [pu_wr_self, upd_s]) (f2.wr scF7) (o7 w2)⟩
              · rw [if_neg hrp] at H
                rw [if_neg (fun z => hrp ((nI_eq (by omega) (by omega)).mp z)), s2.2.1, nI_1, ec]
                exact c_m_168 (by omega) (x := some r) rfl (MSt_adv s2) (MWn_58 c2 (by decide)) (fun M' a b c o => H M' a b ((f2.wr scF5).tr c) ((o5 w2).tr o))
          by_cases h43 : ch tb e (q + 1) = 43
          · rw [if_pos h43]; exact go
          · rw [if_neg h43, if_pos (hc.resolve_left h43)]; exact go
        · rw [if_neg hc] at H
          rw [if_neg (fun z => hc (Or.inl z)), if_neg (fun z => hc (Or.inr z))]
          have hc2 : ch tb e (q + 1) = 35 ∨ ch tb e (q + 1) = 46 := by
            rcases hc4 with z | z | z | z
            · exact absurd (Or.inl z) hc
            · exact absurd (Or.inr z) hc
            · exact Or.inl z
            · exact Or.inr z
          rw [if_pos hc2] at H
          rw [ec]
          exact c_m_168 (by omega) (x := none) rfl s2 c2 (fun M' a b c o => H M' a b (f2.tr c) (w2.tr o))
      by_cases h43 : ch tb e (q + 1) = 43
      · rw [if_pos h43]; exact go95 (Or.inl h43)
      rw [if_neg h43]
      by_cases h45 : ch tb e (q + 1) = 45
      · rw [if_pos h45]; exact go95 (Or.inr (Or.inl h45))
      rw [if_neg h45]
      by_cases h35 : ch tb e (q + 1) = 35
      · rw [if_pos h35]; exact go95 (Or.inr (Or.inr (Or.inl h35)))
      rw [if_neg h35]
      by_cases h46 : ch tb e (q + 1) = 46
      · rw [if_pos h46]; exact go95 (Or.inr (Or.inr (Or.inr h46)))
      rw [if_neg h46]
      rw [if_neg (fun z => z.elim h43 h45), if_neg (fun z => z.elim h35 h46)] at H
      exact c_m_wrongAt s1 ⟨Or.inl rfl, H _ (by rw [pu_wr_self, upd_s]) (f1.wr scF7) (o7 w1)⟩
def mvS (k : Nat) : Prop := k = 58 ∨ (76 ≤ k ∧ k ≤ 81)
theorem c_m_wEnd {Q : Int32 → pu_M → Prop} {v1 v2 : Int32} (hm : m ≤ 24) (hC : MWn ws m M) (H : ∀ M', MW ws m M' → M' 58 4 = 0 → (∀ j, j ≠ 4 → j ≠ 34 → M' 58 j = M 58 j) → only mvS M M' → Q (nI m) M') (hv : ¬ v2 = 0) : pu_R L (d + 4) 212 75 [.ref 58, .int v1, .int v2, mq_un] [] M (pu_qI Q) := by
  refine r_m_wishes_75 ?_
  have e35 : pu_wr M 58 4 0 58 35 = nI m := by rw [pu_wr_self, upd_n (by decide)]; exact hC.1
  rw [if_neg hv, e35]
  refine dn (R := fun k => ∀ M', M' 58 35 = nI m → (∀ i, i < m → M' 79 i = nI (ws i).1 ∧ M' 80 i = nI (ws i).2.1 ∧ M' 81 i = pJ (ws i).2.2) → (∀ i, i < k → M' 76 i = nI (ws i).1 ∧ M' 77 i = nI (ws i).2.1 ∧ M' 78 i = pJ (ws i).2.2) → M' 58 34 = nI m → M' 58 4 = 0 → (∀ j, j ≠ 4 → j ≠ 34 → M' 58 j = M 58 j) → only mvS M M' → pu_R L (d + 4) 212 99 [.ref 58, .int v1, .int v2, .int (nI k)] [] M' (pu_qI Q)) m (fun M' a1 a2 a3 a4 a5 a6 o => by
      refine r_m_wishes_99 ?_
      rw [a1, if_pos ((nI_leI (by omega) (by omega)).mpr (by omega))]
      exact H M' ⟨a4, a3⟩ a5 a6 o) (fun k hk ih M' a1 a2 a3 a4 a5 a6 o => by
    refine r_m_wishes_99 ?_
    rw [a1, if_neg (fun z => by have := (nI_leI (by omega) (by omega)).mp z; omega), nI_clamp (by omega), nI_1]
    refine ⟨inb_nI (by omega) (by decide), inb_nI (by omega) (by decide), inb_nI (by omega) (by decide), inb_nI (by omega) (by decide), inb_nI (by omega) (by decide), inb_nI (by omega) (by decide), fun M7 hM7 => ?_⟩
    have g80 : pu_wr M' 76 k (M' 79 k) 80 k = M' 80 k := by rw [pu_wr_ne (by decide)]
    rw [g80] at hM7
    have g81 : pu_wr (pu_wr M' 76 k (M' 79 k)) 77 k (M' 80 k) 81 k = M' 81 k := by rw [pu_wr_ne (by decide), pu_wr_ne (by decide)]
    rw [g81] at hM7
    have k1 : ∀ c, c ≠ 76 → c ≠ 77 → c ≠ 78 → M7 c = M' c := fun c h1 h2 h3 => by rw [hM7, pu_wr_ne h3, pu_wr_ne h2, pu_wr_ne h1]
    have k76 : M7 76 = upd (M' 76) k (M' 79 k) := by rw [hM7, pu_wr_ne (by decide), pu_wr_ne (by decide), pu_wr_self]
    have k77 : M7 77 = upd (M' 77) k (M' 80 k) := by rw [hM7, pu_wr_ne (by decide), pu_wr_self, pu_wr_ne (by decide)]
    have k78 : M7 78 = upd (M' 78) k (M' 81 k) := by rw [hM7, pu_wr_self, pu_wr_ne (by decide), pu_wr_ne (by decide)]
    have o7 : only mvS M M7 := by rw [hM7]; exact ((o.wr (by unfold mvS; omega)).wr (by unfold mvS; omega)).wr (by unfold mvS; omega)
    have e58 : M7 58 = M' 58 := k1 58 (by decide) (by decide) (by decide)
    refine ih M7 (by rw [e58]; exact a1) (fun i hi => ?_) (fun i hi => ?_) (by rw [e58]; exact a4) (by rw [e58]; exact a5) (by rw [e58]; exact a6) o7
    · rw [k1 79 (by decide) (by decide) (by decide), k1 80 (by decide) (by decide) (by decide), k1 81 (by decide) (by decide) (by decide)]; exact a2 i hi
    · rw [k76, k77, k78]
      by_cases x : i = k
      · rw [x, upd_s, upd_s, upd_s]; exact a2 k hk
      · rw [upd_n x, upd_n x, upd_n x]; exact a3 i (by omega)) _ ?_ ?_ ?_ ?_ ?_ ?_ ?_
  · rw [pu_wr_self, upd_n (by decide)]; exact e35
  · intro i hi; rw [pu_wr_ne (by decide), pu_wr_ne (by decide), pu_wr_ne (by decide), pu_wr_ne (by decide), pu_wr_ne (by decide), pu_wr_ne (by decide)]; exact hC.2 i hi
  · intro i hi; omega
  · rw [pu_wr_self, upd_s]
  · rw [pu_wr_self, upd_n (by decide), pu_wr_self, upd_s]
  · intro j j1 j2; rw [pu_wr_self, upd_n j2, pu_wr_self, upd_n j1]
  · exact ((only.rf mvS M).wr (Or.inl rfl)).wr (Or.inl rfl)
theorem c_m_wLoop {Q : Int32 → pu_M → Prop} {v1 : Int32} (hX : TX tb e) : ∀ {g m q : Nat} {ws : Nat → Wi} {M : pu_M} {x : Int32}, g + m = 25 → m ≤ 24 → q ≤ 240 → (match rdW tb e m q with
    | .inl f => x = 0 ∧ M 58 7 = f
    | .inr (w, q') => x = 1 ∧ MSt M tb e q' ∧ MWn (fset ws m w) (m + 1) M) → (match rdWs tb e (g + 0) m q ws with
    | .inl f => ∀ M', M' 58 4 = 0 → (∀ j, j ≠ 4 → ¬ scF j → M' 58 j = M 58 j) → only mwS M M' → Q f M'
    | .inr (n, ws') => ∀ M', MW ws' n M' → M' 58 4 = 0 → (∀ j, j ≠ 4 → j ≠ 34 → ¬ scF j → M' 58 j = M 58 j) → only mvS M M' → Q (nI n) M') → pu_R L (d + 4) 212 35 [.ref 58, .int v1, .int x, mq_un] [] M (pu_qI Q)
  | 0, m, q, ws, M, x, hg, hm, hq, hR, H => by omega
  | g + 1, m, q, ws, M, x, hg, hm, hq, hR, H => by
    have he := hX.1
    rw [Nat.add_zero] at H
    unfold rdWs at H
    refine r_m_wishes_35 ?_
    have endF : ∀ {M2 : pu_M} {f : Int32}, M2 58 7 = f → fr M M2 → only mwS M M2 → (∀ M', M' 58 4 = 0 → (∀ j, j ≠ 4 → ¬ scF j → M' 58 j = M 58 j) → only mwS M M' → Q f M') → pu_R L (d + 4) 212 75 [.ref 58, .int v1, .int 0, mq_un] [] M2 (pu_qI Q) := by
      intro M2 f h7 hfr o H
      refine r_m_wishes_75 ?_
      have e7 : pu_wr M2 58 4 0 58 7 = f := by rw [pu_wr_self, upd_n (by decide)]; exact h7
      rw [if_pos rfl, e7]
      exact H _ (by rw [pu_wr_self, upd_s]) (fun j j1 j2 => by rw [pu_wr_self, upd_n j1]; exact hfr j j2) (o.wr (Or.inl rfl))
    cases hr : rdW tb e m q with
    | inl f =>
      rw [hr] at H hR
      obtain ⟨rfl, h7⟩ := hR
      rw [if_pos rfl]
      exact endF h7 (fr.rf M) (only.rf _ M) H
    | inr y =>
      obtain ⟨w, q'⟩ := y
      rw [hr] at H hR
      obtain ⟨rfl, hS, hC⟩ := hR
      obtain ⟨h1, h2, h3, h4⟩ := rdW_r hX hm hr
      dsimp only at H
      rw [if_neg (by decide), hS.1, hS.2.1]
      by_cases hqe : q' < e
      · rw [if_pos hqe] at H
        rw [if_neg (fun z => by have := (nI_leI (by omega) (by omega)).mp z; omega)]
        refine c_m_takes hX (by omega) hS (fun hc => ?_) (fun hc => ?_)
        · rw [if_pos hc] at H
          rw [if_neg (by decide)]
          have s1 := MSt_adv hS
          have f1 : fr M (pu_wr M 58 5 (nI (q' + 1))) := (fr.rf M).wr scF5
          have w1 : only mwS M (pu_wr M 58 5 (nI (q' + 1))) := (only.rf _ M).wr (Or.inl rfl)
          have c1 : MWn (fset ws m w) (m + 1) (pu_wr M 58 5 (nI (q' + 1))) := MWn_58 hC (by decide)
          generalize pu_wr M 58 5 (nI (q' + 1)) = M1 at s1 f1 w1 c1 ⊢
          have next : ∀ {M2 : pu_M} {x : Int32}, fr M1 M2 → only mwS M1 M2 → (match rdW tb e (m + 1) (q' + 1) with
              | .inl f => x = 0 ∧ M2 58 7 = f
              | .inr (z, q2) => x = 1 ∧ MSt M2 tb e q2 ∧ MWn (fset (fset ws m w) (m + 1) z) (m + 1 + 1) M2) → pu_R L (d + 4) 212 35 [.ref 58, .int v1, .int x, mq_un] [] M2 (pu_qI Q) := by
            intro M2 x f2 o2 hR2
            refine c_m_wLoop hX (g := g) (m := m + 1) (q := q' + 1) (ws := fset ws m w) (by omega) (by omega) (by omega) hR2 ?_
            rw [Nat.add_zero]
            revert H
            generalize rdWs tb e g (m + 1) (q' + 1) (fset ws m w) = R
            intro H
            cases R with
            | inl f => exact fun M' a b o => H M' a (fun j j1 j2 => by rw [b j j1 j2, f2 j j2, f1 j j2]) ((w1.tr o2).tr o)
            | inr z =>
              refine fun M' a0 a b o => H M' a0 a (fun j j1 j2 j3 => by rw [b j j1 j2 j3, f2 j j3, f1 j j3]) (fun k hk => ?_)
              have hk' : ¬ mwS k := fun z => hk (by unfold mwS at z; unfold mvS; omega)
              rw [o k hk, o2 k hk', w1 k hk']
          refine c_m_readsWish hX (by omega) (by omega) s1 c1 ?_
          cases hr2 : rdW tb e (m + 1) (q' + 1) with
          | inl f => exact fun M2 a b o => by rw [if_pos rfl]; exact next b o (by rw [hr2]; exact ⟨rfl, a⟩)
          | inr z => exact fun M2 a b c o => by rw [if_neg (by decide)]; exact next c o (by rw [hr2]; exact ⟨rfl, a, b⟩)
        · rw [if_neg hc] at H
          rw [if_pos rfl]
          refine r_m_wishes_35 ?_
          rw [if_pos rfl]
          exact endF (by rw [pu_wr_self, upd_s]) ((fr.rf M).wr scF7) ((only.rf _ M).wr (Or.inl rfl)) H
      · rw [if_neg hqe] at H
        rw [if_pos ((nI_leI (by omega) (by omega)).mpr (by omega))]
        exact c_m_wEnd (by omega) hC (fun M' a b c o => H M' a b (fun j j1 j2 _ => c j j1 j2) o) (by decide)
theorem c_m_wishes {Q : Int32 → pu_M → Prop} (h1 : 1 ≤ e) (h2 : e ≤ 120) (hen : e ≤ n) (hT : MT M n tb) (H : match rdWs tb e 25 0 0 dfW with
    | .inl f => ∀ M', M' 58 4 = 0 → (∀ j, j ≠ 4 → ¬ scF j → M' 58 j = M 58 j) → only mwS M M' → Q f M'
    | .inr (k, ws) => ∀ M', MW ws k M' → M' 58 4 = 0 → (∀ j, j ≠ 4 → j ≠ 34 → ¬ scF j → M' 58 j = M 58 j) → only mvS M M' → Q (nI k) M') : pu_I L (d + 4) 212 [.ref 58, .int (nI e)] M Q := by
  obtain ⟨t1, t2, t3⟩ := hT
  have hX : TX tb e := ⟨by omega, fun i hi => (t3 i (by omega)).2⟩
  refine r_m_wishes (c_m_in ?_)
  rw [if_neg (by rw [n_1, n_120, nI_ltI (by omega) (by omega), nI_ltI (by omega) (by omega)]; omega), if_neg (by decide), t2, if_pos ((nI_leI (by omega) (by omega)).mpr hen)]
  refine c_m_begins (fun M1 b6 b5 _ _ f1 o1 => ?_)
  have s1 : MSt (pu_wr M1 58 35 0) tb e 0 := MSt_wr ⟨b6, b5, fun i hi => by rw [o1 62 (by decide)]; exact (t3 i (by omega)).1⟩ (by decide) (by decide)
  have c1 : MWn dfW 0 (pu_wr M1 58 35 0) := ⟨by rw [pu_wr_self, upd_s]; rfl, fun i hi => by omega⟩
  have f1 : fr M (pu_wr M1 58 35 0) := f1.wr scF35
  have o1 : only mwS M (pu_wr M1 58 35 0) := only.wr (fun k hk => o1 k (fun z => hk (Or.inl z))) (Or.inl rfl)
  generalize pu_wr M1 58 35 0 = M2 at s1 c1 f1 o1 ⊢
  have next : ∀ {M3 : pu_M} {x : Int32}, fr M2 M3 → only mwS M2 M3 → (match rdW tb e 0 0 with
      | .inl f => x = 0 ∧ M3 58 7 = f
      | .inr (z, q2) => x = 1 ∧ MSt M3 tb e q2 ∧ MWn (fset dfW 0 z) (0 + 1) M3) → pu_R L (d + 4) 212 35 [.ref 58, .int (nI e), .int x, mq_un] [] M3 (pu_qI Q) := by
    intro M3 x f2 o2 hR2
    refine c_m_wLoop hX (g := 25) (m := 0) (q := 0) (ws := dfW) (by omega) (by omega) (by omega) hR2 ?_
    revert H
    generalize rdWs tb e 25 0 0 dfW = R
    intro H
    cases R with
    | inl f => exact fun M' a b o => H M' a (fun j j1 j2 => by rw [b j j1 j2, f2 j j2, f1 j j2]) ((o1.tr o2).tr o)
    | inr z =>
      refine fun M' a0 a b o => H M' a0 a (fun j j1 j2 j3 => by rw [b j j1 j2 j3, f2 j j3, f1 j j3]) (fun k hk => ?_)
      have hk' : ¬ mwS k := fun z => hk (by unfold mwS at z; unfold mvS; omega)
      rw [o k hk, o2 k hk', o1 k hk']
  refine c_m_readsWish hX (by omega) (by omega) s1 c1 ?_
  cases hr2 : rdW tb e 0 0 with
  | inl f => exact fun M2 a b o => next b o (by rw [hr2]; exact ⟨rfl, a⟩)
  | inr z => exact fun M2 a b c o => next c o (by rw [hr2]; exact ⟨rfl, a, b⟩)
theorem c_m_wishesN {Q : Int32 → pu_M → Prop} {v : Int32} (hN : ¬ okE 1 120 n v) (hT : MT M n tb) (H : Q (-1) M) : pu_I L (d + 4) 212 [.ref 58, .int v] M Q := by
  refine r_m_wishes (c_m_in ?_)
  by_cases h : v < 1 ∨ 120 < v
  · rw [if_pos h, if_pos rfl]; exact H
  · rw [if_neg h, if_neg (by decide), hT.2.1, if_neg (in_no (a := 1) (b := 120) (by decide) (by decide) hT.1 hN h)]; exact H
end WX
