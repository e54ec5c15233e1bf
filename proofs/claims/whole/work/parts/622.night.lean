/-! NIGHTS in the class: nights, tried -/
section NP
variable {L d : Nat} {M : pu_M} {P : Pp} {y ly : Nat} {F : Law}
theorem c_Y_pass {Q : pu_M → Prop} {n : Nat} (hy : pu_isY y) (hl : pu_isL ly) (hF : wI F) (hI : PI P) (hC : CY P M y) (hK : kL M ly F) (hn : n ≤ 240) (H : ∀ M', nyT M' y ly F (n_go F n (P, 0, 0)) → only (nyS y ly) M M' → Q M') : pu_V L (d + 7) 59 [.ref 4, .ref y, .ref ly, .int (nI n)] M Q := by
  have hy' : 16 ≤ y ∧ y ≤ 26 := by unfold pu_isY at hy; omega
  have hl' : 31 ≤ ly ∧ ly ≤ 40 := by unfold pu_isL at hl; omega
  have key : ∀ (j i : Nat) (s : Ns) (M' : pu_M) (v5 : Value), i + j = n → PI s.1 → nyT M' y ly F s → only (nyS y ly) M M' → (∀ M'', nyT M'' y ly F (n_go F j s) → only (nyS y ly) M M'' → Q M'') → pu_R L (d + 7) 59 13 [.ref 4, .ref y, .ref ly, .int (nI n), .int (nI i), v5] [] M' (pu_qV Q) := by
    intro j
    induction j with
    | zero =>
      intro i s M' v5 hi hs ht o H
      refine r_Night_pass_13 hy hl ?_
      rw [if_pos (by rw [nI_leI (by omega) (by omega)]; omega)]
      exact H M' ht o
    | succ j ih =>
      intro i s M' v5 hi hs ht o H
      refine r_Night_pass_13 hy hl ?_
      have hnt := hs.2.2.1
      have e5 : M' y 5 = nI (nt s.1) := ht.1.2.2.2.1
      have hgo : n_go F (j + 1) s = if nt s.1 < 9999 then n_go F j (n_ng F s) else s := rfl
      rw [hgo] at H
      rw [if_neg (by rw [nI_leI (by omega) (by omega)]; omega), e5]
      by_cases h99 : nt s.1 < 9999
      · rw [if_pos h99] at H
        rw [if_neg (by rw [n_9999, nI_leI (by omega) (by omega)]; omega)]
        have inn : ∀ (j2 p : Nat) (M' : pu_M), p + j2 = 16 → nyT M' y ly F (fo (n_ps F) p s) → only (nyS y ly) M M' → pu_R L (d + 7) 59 32 [.ref 4, .ref y, .ref ly, .int (nI n), .int (nI i), .int (nI p)] [] M' (pu_qV Q) := by
          intro j2
          induction j2 with
          | zero =>
            intro p M' hp ht o
            obtain rfl : p = 16 := by omega
            refine r_Night_pass_32 hy hl ?_
            have e5 : M' y 5 = nI (nt (fo (n_ps F) 16 s).1) := ht.1.2.2.2.1
            rw [if_pos ge16, e5, nI_1, nI_1]
            refine ih (i + 1) (n_ng F s) _ _ (by omega) (PI_ng hs h99) ⟨CY_nt ht.1, ?_, ?_, ?_⟩ (o.wr (Or.inr (Or.inl ⟨by omega, by omega⟩))) H
            · refine ⟨?_, ?_⟩
              · unfold kR
                rw [pu_wr_ne (show ly ≠ y by omega), pu_wr_ne (show ly + 3 ≠ y by omega), pu_wr_ne (show ly + 4 ≠ y by omega), pu_wr_ne (show ly + 5 ≠ y by omega), pu_wr_ne (show ly + 6 ≠ y by omega)]; exact ht.2.1.1
              · unfold kCd
                rw [pu_wr_ne (show ly + 1 ≠ y by omega), pu_wr_ne (show ly + 2 ≠ y by omega)]; exact ht.2.1.2
            · rw [pu_wr_ne (by omega)]; exact ht.2.2.1
            · rw [pu_wr_ne (by omega)]; exact ht.2.2.2
          | succ j2 ih2 =>
            intro p M' hp ht o
            have hp16 : p < 16 := by omega
            have hIp := (PI_fo (F := F) hs p (by omega)).1
            refine r_Night_pass_32 hy hl ?_
            rw [if_neg (lt16 hp16), nI_1]
            have es : fo (n_ps F) (p + 1) s = n_ps F p (fo (n_ps F) p s) := rfl
            have ih2 := ih2 (p + 1)
            rw [es] at ih2
            generalize fo (n_ps F) p s = a at ih2 ht hIp
            unfold n_ps at ih2
            refine c_Y_isLaid hy ht.1 hIp hp16 ?_
            have hmd := (hIp.1 p hp16).2.1
            cases hlaid : (pl a.1 p).isSome with
            | false =>
              rw [if_neg (by rw [hlaid]; simp)] at ih2
              rw [if_neg (by decide), if_pos rfl]
              exact ih2 M' (by omega) ht o
            | true =>
              rw [if_pos rfl, if_neg (by decide), nI_clamp (by omega), (ht.1.1 p hp16).2.1]
              refine ⟨inb_nI hp16 (by decide), ?_⟩
              by_cases h0 : md a.1 p = 0
              · rw [if_neg (by rw [hlaid, h0]; decide)] at ih2
                rw [h0, if_pos (show nI 0 ≤ 0 by decide)]
                exact ih2 M' (by omega) ht o
              · rw [if_pos (by rw [hlaid]; simp; omega)] at ih2
                rw [if_neg (by rw [n_0, nI_leI (by omega) (by decide)]; omega)]
                exact c_Y_wake hy hl hF hIp hp16 ht (fun M2 t2 o2 => ih2 M2 (by omega) t2 (o.tr o2))
        exact inn 16 0 M' rfl ht o
      · rw [if_neg h99] at H
        rw [if_pos (by rw [n_9999, nI_leI (by omega) (by omega)]; omega)]
        exact H M' ht o
  refine r_Night_pass hy hl (key n 0 (P, 0, 0) _ _ (by omega) hI ⟨CY_ot (CY_ot hC (by omega)) (by omega), ?_, ?_, ?_⟩ (((only.rf (nyS y ly) M).wr (Or.inl rfl)).wr (Or.inl rfl)) H)
  · refine ⟨?_, ?_⟩
    · unfold kR
      rw [pu_wr_ne (show ly ≠ 4 by omega), pu_wr_ne (show ly + 3 ≠ 4 by omega), pu_wr_ne (show ly + 4 ≠ 4 by omega), pu_wr_ne (show ly + 5 ≠ 4 by omega), pu_wr_ne (show ly + 6 ≠ 4 by omega), pu_wr_ne (show ly ≠ 4 by omega), pu_wr_ne (show ly + 3 ≠ 4 by omega), pu_wr_ne (show ly + 4 ≠ 4 by omega), pu_wr_ne (show ly + 5 ≠ 4 by omega), pu_wr_ne (show ly + 6 ≠ 4 by omega)]; exact hK.1
    · unfold kCd
      rw [pu_wr_ne (show ly + 1 ≠ 4 by omega), pu_wr_ne (show ly + 2 ≠ 4 by omega), pu_wr_ne (show ly + 1 ≠ 4 by omega), pu_wr_ne (show ly + 2 ≠ 4 by omega)]; exact hK.2
  · rw [pu_wr_self, upd_n (by decide), pu_wr_self, upd_s]; rfl
  · rw [pu_wr_self, upd_s]; rfl
def okN (v : Int32) : Prop := ∃ n, v = nI n ∧ 1 ≤ n ∧ n ≤ 240
theorem okN_or (v : Int32) : okN v ∨ (v < 1 ∨ 240 < v) := by
  rcases vbig (N := 240) (B := 240) rfl v with ⟨n, hn, rfl⟩ | h
  · by_cases h0 : n = 0
    · subst h0; right; left; decide
    · exact Or.inl ⟨n, rfl, by omega, hn⟩
  · right
    rcases h with h | h
    · left
      rw [Int32.lt_iff_toInt_lt] at h ⊢
      have e0 : (0 : Int32).toInt = 0 := rfl
      have e1 : (1 : Int32).toInt = 1 := rfl
      omega
    · exact Or.inr h
theorem okN_in {n : Nat} (h1 : 1 ≤ n) (h2 : n ≤ 240) : ¬ (nI n < 1 ∨ 240 < nI n) := by
  rw [n_1, n_240, nI_ltI (by omega) (by omega), nI_ltI (by omega) (by omega)]; omega
theorem c_x_nights {Q : Int32 → pu_M → Prop} {v : Int32} (h9 : M 0 9 = nI y) (h11 : M 0 11 = nI ly) (hy : pu_isY y) (hl : pu_isL ly) (hF : wI F) (hI : PI P) (hC : CY P M y) (hK : kL M ly F) (H0 : (v < 1 ∨ 240 < v) → Q (-1) M) (H1 : ∀ n, v = nI n → 1 ≤ n → n ≤ 240 → ∀ M', nyT M' y ly F (n_go F n (P, 0, 0)) → only (nyS y ly) M M' → Q (nI (n_go F n (P, 0, 0)).2.1) M') : pu_I L (d + 8) 127 [.ref 0, .int v] M Q := by
  refine r_x_nights ?_
  rcases okN_or v with ⟨n, rfl, n1, n2⟩ | h
  · have hin := okN_in n1 n2
    rw [if_neg (fun z => hin (Or.inl z)), if_pos (Int32.not_lt.mp (fun z => hin (Or.inr z)))]
    refine ⟨y, h9, hy, ly, h11, hl, c_Y_pass hy hl hF hI hC hK n2 (fun M' t o => ?_)⟩
    rw [t.2.2.1]
    exact H1 n rfl n1 n2 M' t o
  · by_cases z : v < 1
    · rw [if_pos z]; exact H0 h
    · rw [if_neg z, if_neg (lt_not_le (h.resolve_left z))]; exact H0 h
def n_ml (P : Pp) : Nat := cnt (fun p => (pl P p).isSome && decide (md P p = 0)) 16
theorem c_Y_silenced {Q : Int32 → pu_M → Prop} (hy : pu_isY y) (hC : CY P M y) (hI : PI P) (H : Q (nI (n_ml P)) M) : pu_I L (d + 3) 105 [.ref y] M Q := by
  have key : ∀ j k, k + j = 16 → pu_R L (d + 3) 105 4 [.ref y, .int (nI (cnt (fun p => (pl P p).isSome && decide (md P p = 0)) k)), .int (nI k)] [] M (pu_qI Q) := by
    intro j
    induction j with
    | zero =>
      intro k hk
      obtain rfl : k = 16 := by omega
      refine r_Yard_silenced_4 hy ?_
      rw [if_pos ge16]; exact H
    | succ j ih =>
      intro k hk
      have hk16 : k < 16 := by omega
      have hmd := (hI.1 k hk16).2.1
      refine r_Yard_silenced_4 hy ?_
      rw [if_neg (lt16 hk16)]
      refine c_Y_isLaid hy hC hI hk16 ?_
      have ih := ih (k + 1) (by omega)
      cases hlaid : (pl P k).isSome with
      | false =>
        rw [cnt_f (P := fun p => (pl P p).isSome && decide (md P p = 0)) (by rw [hlaid]; rfl)] at ih
        rw [if_neg (by decide), if_pos rfl, add0, nI_1]
        exact ih
      | true =>
        rw [if_pos rfl, if_neg (by decide), nI_clamp (by omega), (hC.1 k hk16).2.1]
        refine ⟨inb_nI hk16 (by decide), ?_⟩
        by_cases h0 : md P k = 0
        · rw [cnt_t (P := fun p => (pl P p).isSome && decide (md P p = 0)) (by rw [hlaid, h0]; rfl)] at ih
          rw [h0, if_pos (show nI 0 = 0 from rfl), nI_1, nI_1]
          exact ih
        · rw [cnt_f (P := fun p => (pl P p).isSome && decide (md P p = 0)) (by rw [hlaid]; simpa using h0)] at ih
          rw [if_neg (by rw [n_0, nI_eq (by omega) (by decide)]; exact h0), add0, nI_1]
          exact ih
  exact r_Yard_silenced hy (key 16 0 rfl)
/-- what is asked of a try -/
def v_tried (s : Ns) (w : Int32) : Int32 := if w = 0 then nI s.2.1 else if w = 1 then nI s.2.2 else if w = 2 then nI (n_ml s.1) else if 30 ≤ w then nI (pc (tp s.1 (w - 30).toNatClampNeg)) else nI (md s.1 (w - 10).toNatClampNeg)
def okTr (P : Pp) (w : Int32) : Prop := ¬ (w < 0 ∨ 2 < w) ∨ tdV P (w - 10) = true ∨ tdV P (w - 30) = true
theorem sub_nI {w : Int32} {a p : Nat} (h : w - nI a = nI p) : w = nI (a + p) := by
  have : w = w - nI a + nI a := by rw [Int32.sub_add_cancel]
  rw [this, h, nI_add, Nat.add_comm]
theorem tdV_ex {v : Int32} (h : tdV P v = true) : ∃ p, p < 16 ∧ v = nI p ∧ tl P p = true := by
  rcases v16 v with ⟨p, hp, rfl⟩ | hv
  · rw [tdV_nI hp] at h; exact ⟨p, hp, rfl, h⟩
  · rw [tdV_out hv] at h; exact absurd h (by decide)
theorem c_x_tried {Q : Int32 → pu_M → Prop} {v w : Int32} {y2 : Nat} (h9 : M 0 9 = nI y) (h10 : M 0 10 = nI y2) (h11 : M 0 11 = nI ly) (hy : pu_isY y) (hy2 : pu_isY y2) (hne : y2 ≠ y) (hl : pu_isL ly) (hF : wI F) (hI : PI P) (hC : CY P M y) (hK : kL M ly F) (H0 : ¬ (okN v ∧ okTr P w) → Q (-1) M) (H1 : ∀ n, v = nI n → 1 ≤ n → n ≤ 240 → okTr P w → ∀ M', kL M' ly F → only (nyS y2 ly) M M' → Q (v_tried (n_go F n (P, 0, 0)) w) M') : pu_I L (d + 8) 128 [.ref 0, .int v, .int w] M Q := by
  have hy' : 16 ≤ y ∧ y ≤ 26 := by unfold pu_isY at hy; omega
  have hy2' : 16 ≤ y2 ∧ y2 ≤ 26 := by unfold pu_isY at hy2; omega
  have hl' : 31 ≤ ly ∧ ly ≤ 40 := by unfold pu_isL at hl; omega
  -- the end: what of mood, of topics
  have fin : ∀ (m t k : Bool), m = tdV P (w - 10) → t = tdV P (w - 30) → (k = true ↔ okTr P w) → pu_R L (d + 8) 128 76 [.ref 0, .int v, .int w, .int (bI m), .int (bI t), mq_un] [.int (bI k)] M (pu_qI Q) := by
    intro m t k hm ht hk
    refine r_x_tried_76 ?_
    rcases okN_or v with ⟨n, rfl, n1, n2⟩ | h
    · have hin := okN_in n1 n2
      rw [if_neg (fun z => hin (Or.inl z)), if_neg (fun z => hin (Or.inr z))]
      cases k with
      | false =>
        rw [if_pos (show bI false = 0 from rfl)]
        exact H0 (fun z => absurd (hk.mpr z.2) (by decide))
      | true =>
        have okt := hk.mp rfl
        rw [if_neg (show ¬ bI true = 0 by decide)]
        refine ⟨y2, h10, hy2, y, h9, hy, c_Y_copyFrom hy2 hy hne hC (fun M1 c1 o1 => ?_)⟩
        have e0 : M1 0 = M 0 := o1 0 (by unfold yS; omega)
        have k1 : kL M1 ly F := by
          refine ⟨?_, ?_⟩
          · unfold kR
            rw [o1 ly (by unfold yS; omega), o1 (ly + 3) (by unfold yS; omega), o1 (ly + 4) (by unfold yS; omega), o1 (ly + 5) (by unfold yS; omega), o1 (ly + 6) (by unfold yS; omega)]; exact hK.1
          · unfold kCd
            rw [o1 (ly + 1) (by unfold yS; omega), o1 (ly + 2) (by unfold yS; omega)]; exact hK.2
        refine ⟨y2, by rw [e0]; exact h10, hy2, ly, by rw [e0]; exact h11, hl, c_Y_pass hy2 hl hF hI c1 k1 n2 (fun M2 t2 o2 => ?_)⟩
        have O2 : only (nyS y2 ly) M M2 := (show only (nyS y2 ly) M M1 from fun j hj => o1 j (fun z => hj (Or.inr (Or.inl (by unfold yS at z; omega))))).tr o2
        have H1 := H1 n rfl n1 n2 okt M2 t2.2.1 O2
        have e02 : M2 0 = M 0 := O2 0 (by unfold nyS; omega)
        have hI2 : PI (n_go F n (P, 0, 0)).1 := PI_go hI
        unfold v_tried at H1
        generalize n_go F n (P, 0, 0) = s at t2 H1 hI2
        cases hm1 : m with
        | true =>
          obtain ⟨p, hp, ep, htl⟩ := tdV_ex (P := P) (v := w - 10) (by rw [← hm, hm1])
          have ew : w = nI (10 + p) := sub_nI (a := 10) ep
          rw [if_neg (show ¬ bI true = 0 by decide)]
          refine ⟨y2, by rw [e02]; exact h10, hy2, ?_⟩
          rw [ep, nI_clamp (by omega), (t2.1.1 p hp).2.1]
          refine ⟨inb_nI hp (by decide), ?_⟩
          rw [ep, nI_clamp (by omega)] at H1
          rw [if_neg (by rw [ew, n_0, nI_eq (by omega) (by decide)]; omega), if_neg (by rw [ew, n_1, nI_eq (by omega) (by decide)]; omega), if_neg (by rw [ew, n_2, nI_eq (by omega) (by decide)]; omega), if_neg (by rw [ew, n_30, nI_leI (by omega) (by omega)]; omega)] at H1
          exact H1
        | false =>
          rw [if_pos (show bI false = 0 from rfl)]
          cases ht1 : t with
          | true =>
            obtain ⟨p, hp, ep, htl⟩ := tdV_ex (P := P) (v := w - 30) (by rw [← ht, ht1])
            have ew : w = nI (30 + p) := sub_nI (a := 30) ep
            rw [if_neg (show ¬ bI true = 0 by decide)]
            refine ⟨y2, by rw [e02]; exact h10, hy2, ?_⟩
            rw [ep, nI_clamp (by omega), (t2.1.1 p hp).1]
            refine ⟨inb_nI hp (by decide), c_Int_bitCount (hI2.1 p hp).1 ?_⟩
            rw [ep, nI_clamp (by omega)] at H1
            rw [if_neg (by rw [ew, n_0, nI_eq (by omega) (by decide)]; omega), if_neg (by rw [ew, n_1, nI_eq (by omega) (by decide)]; omega), if_neg (by rw [ew, n_2, nI_eq (by omega) (by decide)]; omega), if_pos (by rw [ew, n_30, nI_leI (by omega) (by omega)]; omega)] at H1
            exact H1
          | false =>
            rw [if_pos (show bI false = 0 from rfl)]
            have hw : ¬ (w < 0 ∨ 2 < w) := by
              rcases okt with z | z | z
              · exact z
              · rw [← hm, hm1] at z; exact absurd z (by decide)
              · rw [← ht, ht1] at z; exact absurd z (by decide)
            by_cases w2 : w = 2
            · rw [if_pos w2]
              rw [if_neg (by rw [w2]; decide), if_neg (by rw [w2]; decide), if_pos w2] at H1
              exact ⟨y2, by rw [e02]; exact h10, hy2, c_Y_silenced hy2 t2.1 hI2 H1⟩
            · rw [if_neg w2]
              by_cases w0 : w = 0
              · rw [if_pos w0] at H1 ⊢
                rw [t2.2.2.1]; exact H1
              · rw [if_neg w0] at H1 ⊢
                have w1 : w = 1 := by
                  obtain ⟨j, hj, rfl⟩ := nI_of2 (M := 2) (n := 2) rfl (fun z => hw (Or.inl z)) (Int32.not_lt.mp (fun z => hw (Or.inr z)))
                  have : j = 0 ∨ j = 1 ∨ j = 2 := by omega
                  rcases this with rfl | rfl | rfl
                  · exact absurd rfl w0
                  · rfl
                  · exact absurd rfl w2
                rw [if_pos w1] at H1
                rw [t2.2.2.2]; exact H1
    · by_cases z : v < 1
      · rw [if_pos z]; exact H0 (fun z2 => by obtain ⟨n, rfl, n1, n2⟩ := z2.1; exact okN_in n1 n2 h)
      · rw [if_neg z, if_pos (h.resolve_left z)]; exact H0 (fun z2 => by obtain ⟨n, rfl, n1, n2⟩ := z2.1; exact okN_in n1 n2 h)
  have fin51 : ∀ (m t : Bool), m = tdV P (w - 10) → t = tdV P (w - 30) → pu_R L (d + 8) 128 51 [.ref 0, .int v, .int w, .int (bI m), mq_un, mq_un] [.int (bI t)] M (pu_qI Q) := by
    intro m t hm ht
    refine r_x_tried_51 ?_
    have yes : okTr P w → pu_R L (d + 8) 128 76 [.ref 0, .int v, .int w, .int (bI m), .int (bI t), mq_un] [.int 1] M (pu_qI Q) := fun h => fin m t true hm ht ⟨fun _ => h, fun _ => rfl⟩
    have no : ¬ okTr P w → pu_R L (d + 8) 128 76 [.ref 0, .int v, .int w, .int (bI m), .int (bI t), mq_un] [.int 0] M (pu_qI Q) := fun h => fin m t false hm ht ⟨fun z => absurd z (by decide), fun z => absurd z h⟩
    have mid : (w < 0 ∨ 2 < w) → (if bI m = 0 then (if bI t = 0 then pu_R L (d + 8) 128 76 [.ref 0, .int v, .int w, .int (bI m), .int (bI t), mq_un] [.int 0] M (pu_qI Q) else pu_R L (d + 8) 128 76 [.ref 0, .int v, .int w, .int (bI m), .int (bI t), mq_un] [.int 1] M (pu_qI Q)) else pu_R L (d + 8) 128 76 [.ref 0, .int v, .int w, .int (bI m), .int (bI t), mq_un] [.int 1] M (pu_qI Q)) := by
      intro hw
      cases hm1 : m with
      | true =>
        rw [hm1] at yes
        rw [if_neg (show ¬ bI true = 0 by decide)]
        exact yes (Or.inr (Or.inl (by rw [← hm, hm1])))
      | false =>
        rw [hm1] at yes no
        rw [if_pos (show bI false = 0 from rfl)]
        cases ht1 : t with
        | true =>
          rw [ht1] at yes
          rw [if_neg (show ¬ bI true = 0 by decide)]
          exact yes (Or.inr (Or.inr (by rw [← ht, ht1])))
        | false =>
          rw [ht1] at no
          rw [if_pos (show bI false = 0 from rfl)]
          refine no (fun z => ?_)
          rcases z with z | z | z
          · exact z hw
          · rw [← hm, hm1] at z; exact absurd z (by decide)
          · rw [← ht, ht1] at z; exact absurd z (by decide)
    by_cases w0 : w < 0
    · rw [if_pos w0]; exact mid (Or.inl w0)
    · rw [if_neg w0]
      by_cases w2 : w ≤ 2
      · rw [if_pos w2]; exact yes (Or.inl (fun z => z.elim w0 (le_not_lt w2)))
      · rw [if_neg w2]; exact mid (Or.inr (Int32.not_le.mp w2))
  have lt_td : ∀ a : Nat, a ≤ 30 → w < nI a → tdV P (w - nI a) = false := by
    intro a ha hlt
    cases hx : tdV P (w - nI a) with
    | false => rfl
    | true =>
      exfalso
      obtain ⟨p, hp, ep, _⟩ := tdV_ex hx
      rw [sub_nI ep, nI_ltI (by omega) (by omega)] at hlt
      omega
  have fin25 : ∀ (m : Bool), m = tdV P (w - 10) → pu_R L (d + 8) 128 25 [.ref 0, .int v, .int w, mq_un, mq_un, mq_un] [.int (bI m)] M (pu_qI Q) := by
    intro m hm
    refine r_x_tried_25 ?_
    by_cases w30 : w < 30
    · rw [if_pos w30]; exact fin51 m false hm (lt_td 30 (by decide) w30).symm
    · rw [if_neg w30]
      refine ⟨y, h9, hy, ?_⟩
      rcases v16 (w - 30) with ⟨p, hp, ep⟩ | ho
      · rw [ep]
        refine c_Y_isTold hy hC hp ?_
        have et : tdV P (w - 30) = tl P p := by rw [ep, tdV_nI hp]
        cases htl : tl P p with
        | true => rw [if_pos rfl, if_neg (by decide)]; exact fin51 m true hm (by rw [et, htl])
        | false => rw [if_neg (by decide), if_pos rfl]; exact fin51 m false hm (by rw [et, htl])
      · refine c_Y_isToldN hy ho ?_
        rw [if_pos rfl]; exact fin51 m false hm (tdV_out ho).symm
  refine r_x_tried ?_
  by_cases w10 : w < 10
  · rw [if_pos w10]; exact fin25 false (lt_td 10 (by decide) w10).symm
  · rw [if_neg w10]
    refine ⟨y, h9, hy, ?_⟩
    rcases v16 (w - 10) with ⟨p, hp, ep⟩ | ho
    · rw [ep]
      refine c_Y_isTold hy hC hp ?_
      have et : tdV P (w - 10) = tl P p := by rw [ep, tdV_nI hp]
      cases htl : tl P p with
      | true => rw [if_pos rfl, if_neg (by decide)]; exact fin25 true (by rw [et, htl])
      | false => rw [if_neg (by decide), if_pos rfl]; exact fin25 false (by rw [et, htl])
    · refine c_Y_isToldN hy ho ?_
      rw [if_pos rfl]; exact fin25 false (tdV_out ho).symm
end NP
