/-! NIGHTS in the class -/
def nyS (y ly k : Nat) : Prop := k = 4 ∨ (y ≤ k ∧ k ≤ y + 4) ∨ k = ly ∨ k = ly + 7 ∨ k = ly + 8
section NW
variable {L d : Nat} {M : pu_M} {P : Pp} {y ly : Nat} {F : Law}
theorem only_E {M' : pu_M} (f : kE ly M M') : only (nyS y ly) M M' := fun k hk => f.1 k (fun z => hk (Or.inr (Or.inr (Or.inl z)))) (fun z => hk (Or.inr (Or.inr (Or.inr (Or.inr z)))))
theorem only_7 {M' : pu_M} (f : only (fun j => j = ly + 7) M M') : only (nyS y ly) M M' := fun k hk => f k (fun z => hk (Or.inr (Or.inr (Or.inr (Or.inl z)))))
theorem kL_7 {M' : pu_M} (hl : pu_isL ly) (h : kL M ly F) (f : only (fun j => j = ly + 7) M M') : kL M' ly F := by
  refine ⟨?_, ?_⟩
  · unfold kR
    rw [f ly (by omega), f (ly + 3) (by omega), f (ly + 4) (by omega), f (ly + 5) (by omega), f (ly + 6) (by omega)]
    exact h.1
  · unfold kCd
    rw [f (ly + 1) (by omega), f (ly + 2) (by omega)]
    exact h.2
theorem CY_E {M' : pu_M} (hy : pu_isY y) (hl : pu_isL ly) (h : CY P M y) (f : kE ly M M') : CY P M' y := by
  have hy' : 16 ≤ y ∧ y ≤ 26 := by unfold pu_isY at hy; omega
  have hl' : 31 ≤ ly ∧ ly ≤ 40 := by unfold pu_isL at hl; omega
  unfold CY
  rw [f.1 (y + 1) (by omega) (by omega), f.1 (y + 2) (by omega) (by omega), f.1 (y + 3) (by omega) (by omega), f.1 (y + 4) (by omega) (by omega), f.1 y (by omega) (by omega)]
  exact h
theorem CY_7 {M' : pu_M} (hy : pu_isY y) (hl : pu_isL ly) (h : CY P M y) (f : only (fun j => j = ly + 7) M M') : CY P M' y := by
  have hy' : 16 ≤ y ∧ y ≤ 26 := by unfold pu_isY at hy; omega
  have hl' : 31 ≤ ly ∧ ly ≤ 40 := by unfold pu_isL at hl; omega
  exact CY_only h f (fun k h1 h2 z => by omega)
/-- the letters that hang on p alone -/
def kV3 (M : pu_M) (ly : Nat) (P : Pp) (p : Nat) : Prop := M (ly + 7) 4 = nI (md P p) ∧ M (ly + 7) 6 = nI (pc (bs (bsd P p) 16)) ∧ M (ly + 7) 7 = nI (nt P % 100)
theorem kV3_of {p : Nat} {k : Option Nat} (h : kVl M ly (n_fa P p k)) : kV3 M ly P p := ⟨h 4 (by decide), h 6 (by decide), h 7 (by decide)⟩
theorem c_Y_fav {Q : Int32 → pu_M → Prop} {p : Nat} (hy : pu_isY y) (hl : pu_isL ly) (hF : wI F) (hC : CY P M y) (hI : PI P) (hK : kL M ly F) (hp : p < 16) (h3 : kV3 M ly P p) (H : ∀ M', CY P M' y → kL M' ly F → kV3 M' ly P p → only (nyS y ly) M M' → M' 4 = M 4 → Q (pJ (n_fav F P p)) M') : pu_I L (d + 5) 61 [.ref 4, .ref y, .ref ly, .int (nI p), .int (nI (bs (bsd P p) 16))] M Q := by
  have hl' : 31 ≤ ly ∧ ly ≤ 40 := by unfold pu_isL at hl; omega
  have hbs := bs_lt (bsd P p) 16
  have key : ∀ (j k : Nat) (M' : pu_M) (v8 : Value), k + j = 16 → CY P M' y → kL M' ly F → kV3 M' ly P p → only (nyS y ly) M M' → M' 4 = M 4 → pu_R L (d + 5) 61 9 [.ref 4, .ref y, .ref ly, .int (nI p), .int (nI (bs (bsd P p) 16)), .int (pJ (fo (n_lk F P p) k (none, 0)).1), .int (nI (fo (n_lk F P p) k (none, 0)).2), .int (nI k), v8] [] M' (pu_qI Q) := by
    intro j
    induction j with
    | zero =>
      intro k M' v8 hk c1 k1 s1 o e4
      obtain rfl : k = 16 := by omega
      refine r_Night_favourite_9 hy hl ?_
      rw [if_pos ge16]
      exact H M' c1 k1 s1 o e4
    | succ j ih =>
      intro k M' v8 hk c1 k1 s1 o e4
      have hk16 : k < 16 := by omega
      refine r_Night_favourite_9 hy hl ?_
      rw [if_neg (lt16 hk16), nI_bit (by omega) (by omega), bs_bit, nI_1, nI_clamp (by omega), (c1.1 k hk16).2.1]
      have es : fo (n_lk F P p) (k + 1) (none, 0) = n_lk F P p k (fo (n_lk F P p) k (none, 0)) := rfl
      have ih := ih (k + 1)
      rw [es] at ih
      have bnd : (fo (n_lk F P p) k (none, 0)).2 ≤ 9999 := by
        refine fo_inv (I := fun a : Option Nat × Nat => a.2 ≤ 9999) (fun k a ha => ?_) (Nat.zero_le _) k
        unfold n_lk
        split
        · split
          · exact w_ask_le (by decide)
          · exact ha
        · exact ha
      generalize fo (n_lk F P p) k (none, 0) = a at ih bnd ⊢
      unfold n_lk at ih
      have hmd := (hI.1 k hk16).2.1
      rw [show (decide (k < 16) && bsd P p k) = bsd P p k by simp [hk16]]
      cases hb : bsd P p k with
      | false =>
        rw [if_neg (by rw [hb]; simp)] at ih
        rw [if_neg (by decide)]
        exact ih M' _ (by omega) c1 k1 s1 o e4
      | true =>
        rw [if_pos (by decide)]
        refine ⟨inb_nI hk16 (by decide), ?_⟩
        by_cases h0 : md P k = 0
        · rw [if_neg (by rw [hb, h0]; decide)] at ih
          rw [h0, if_pos (show nI 0 ≤ 0 by decide)]
          exact ih M' _ (by omega) c1 k1 s1 o e4
        · rw [if_pos (by rw [hb]; simp; omega)] at ih
          rw [if_neg (by rw [n_0, nI_leI (by omega) (by decide)]; omega)]
          have := c_Y_tellLaw (L := L) (d := d + 2) (k := some k) hy hl c1 hI hp (fun q z => by cases z; exact hk16) s1.1 s1.2.1 s1.2.2 (Q := fun M2 => pu_I L (d + 4) 39 [.ref ly, .int 101, .int 9999] M2 (fun x4 M3 => if x4 ≤ nI a.2 then pu_R L (d + 5) 61 9 [.ref 4, .ref y, .ref ly, .int (nI p), .int (nI (bs (bsd P p) 16)), .int (pJ a.1), .int (nI a.2), .int (nI (k + 1)), .int x4] [] M3 (pu_qI Q) else pu_R L (d + 5) 61 9 [.ref 4, .ref y, .ref ly, .int (nI p), .int (nI (bs (bsd P p) 16)), .int (nI k), .int x4, .int (nI (k + 1)), .int x4] [] M3 (pu_qI Q))) (fun M2 w2 f2 => ?_)
          · exact this
          · rw [n_101, n_9999]
            have k2 := kL_7 hl k1 f2
            refine c_L_ask hl hF k2 w2 (by decide) (by decide) (by decide) (by decide) (fun M3 f3 => ?_)
            have c3 := CY_E hy hl (CY_7 hy hl c1 f2) f3
            have k3 := kL_E hl k2 f3
            have s3 := kV3_of (kVl_E w2 f3)
            have o3 : only (nyS y ly) M M3 := (o.tr (only_7 f2)).tr (only_E f3)
            have e3 : M3 4 = M 4 := by rw [f3.1 4 (by omega) (by omega), f2 4 (by omega), e4]
            have hle := w_ask_le (F := F) (u := n_fa P p (some k)) (c := 101) (hi := 9999) (by decide)
            by_cases z : a.2 < w_ask F (n_fa P p (some k)) 101 9999
            · rw [if_pos z] at ih
              rw [if_neg (by rw [nI_leI (by omega) (by omega)]; omega)]
              exact ih M3 _ (by omega) c3 k3 s3 o3 e3
            · rw [if_neg z] at ih
              rw [if_pos (by rw [nI_leI (by omega) (by omega)]; omega)]
              exact ih M3 _ (by omega) c3 k3 s3 o3 e3
  exact r_Night_favourite hy hl (key 16 0 M _ rfl hC hK h3 (only.rf _ _) rfl)
/-- what a night does with one: the people, how often they talked, what was learnt -/
def nyT (M : pu_M) (y ly : Nat) (F : Law) (s : Ns) : Prop := CY s.1 M y ∧ kL M ly F ∧ M 4 0 = nI s.2.1 ∧ M 4 1 = nI s.2.2
theorem mo_within {m g b : Nat} : (if (0 : Int32) < (if nI m + nI g - nI b < 99 then nI m + nI g - nI b else 99) then (if nI m + nI g - nI b < 99 then nI m + nI g - nI b else 99) else 0) = nI (n_mo m g b) := by
  unfold n_mo
  rw [nI_add]
  exact within_cl (hi := 99) (by decide) (by decide)
theorem fav_lt {p k : Nat} (h : n_fav F P p = some k) : k < 16 := by
  have : ∀ n, n ≤ 16 → ∀ q, (fo (n_lk F P p) n (none, 0)).1 = some q → q < 16 := by
    intro n
    induction n with
    | zero => intro _ q hq; cases hq
    | succ n ih =>
      intro hn q hq
      have hq : (n_lk F P p n (fo (n_lk F P p) n (none, 0))).1 = some q := hq
      unfold n_lk at hq
      split at hq
      · split at hq
        · cases hq; omega
        · exact ih (by omega) q hq
      · exact ih (by omega) q hq
  exact this 16 (Nat.le_refl _) k h
theorem c_Y_wake {Q : pu_M → Prop} {p : Nat} {s : Ns} (hy : pu_isY y) (hl : pu_isL ly) (hF : wI F) (hI : PI s.1) (hp : p < 16) (h : nyT M y ly F s) (H : ∀ M', nyT M' y ly F (n_wk F p s) → only (nyS y ly) M M' → Q M') : pu_V L (d + 6) 60 [.ref 4, .ref y, .ref ly, .int (nI p)] M Q := by
  have hy' : 16 ≤ y ∧ y ≤ 26 := by unfold pu_isY at hy; omega
  have hl' : 31 ≤ ly ∧ ly ≤ 40 := by unfold pu_isL at hl; omega
  obtain ⟨P, t, l⟩ := s
  obtain ⟨hC, hK, h0, h1⟩ := h
  dsimp only at hI hC h0 h1
  have hbs := bs_lt (bsd P p) 16
  have hnt := hI.2.2.1
  have h7 : ∀ {i : Nat} {x : Int32}, nyS y ly (ly + 7) := fun {i x} => Or.inr (Or.inr (Or.inr (Or.inl rfl)))
  refine r_Night_wake hy hl (c_Y_beside hy hC hI hp ?_)
  rw [nI_clamp (by omega), (hC.1 p hp).2.1]
  refine ⟨inb_nI hp (by decide), c_Int_bitCount hbs ?_⟩
  rw [pu_wr_ne (show y ≠ ly + 7 by omega), pu_wr_ne (show y ≠ ly + 7 by omega), hC.2.2.2.1, n_100, nI_rem (by omega) (by decide) (by decide)]
  have e4 : (4 : Int32).toNatClampNeg = 4 := rfl
  have e6 : (6 : Int32).toNatClampNeg = 6 := rfl
  have e7 : (7 : Int32).toNatClampNeg = 7 := rfl
  rw [e4, e6, e7]
  have o1 : only (fun j => j = ly + 7) M (pu_wr (pu_wr (pu_wr M (ly + 7) 4 (nI (md P p))) (ly + 7) 6 (nI (pc (bs (bsd P p) 16)))) (ly + 7) 7 (nI (nt P % 100))) := (((only.rf (fun j => j = ly + 7) M).wr rfl).wr rfl).wr rfl
  have v1 : kV3 (pu_wr (pu_wr (pu_wr M (ly + 7) 4 (nI (md P p))) (ly + 7) 6 (nI (pc (bs (bsd P p) 16)))) (ly + 7) 7 (nI (nt P % 100))) ly P p := by
    refine ⟨?_, ?_, ?_⟩
    · rw [pu_wr_self, upd_n (by decide), pu_wr_self, upd_n (by decide), pu_wr_self, upd_s]
    · rw [pu_wr_self, upd_n (by decide), pu_wr_self, upd_s]
    · rw [pu_wr_self, upd_s]
  generalize pu_wr (pu_wr (pu_wr M (ly + 7) 4 (nI (md P p))) (ly + 7) 6 (nI (pc (bs (bsd P p) 16)))) (ly + 7) 7 (nI (nt P % 100)) = M1 at o1 v1 ⊢
  have c1 := CY_7 hy hl hC o1
  have k1 := kL_7 hl hK o1
  have f1 : M1 4 = M 4 := o1 4 (by omega)
  refine c_Y_tellLaw (k := none) hy hl c1 hI hp (fun q z => by cases z) v1.1 v1.2.1 v1.2.2 (fun M2 w2 o2 => ?_)
  have c2 := CY_7 hy hl c1 o2
  have k2 := kL_7 hl k1 o2
  refine c_L_any hl hF k2 w2 (fun M3 f3 => ?_)
  have c3 := CY_E hy hl c2 f3
  have k3 := kL_E hl k2 f3
  have v3 := kV3_of (kVl_E w2 f3)
  have e3 : M3 4 = M 4 := by rw [f3.1 4 (by omega) (by omega), o2 4 (by omega), f1]
  have O3 : only (nyS y ly) M M3 := ((only_7 o1).tr (only_7 o2)).tr (only_E f3)
  unfold n_wk n_sil at H
  dsimp only at H
  cases hs : w_any F (n_fa P p none) with
  | true =>
    rw [hs, if_pos rfl] at H
    rw [if_neg (show ¬ bI true = 0 by decide)]
    exact H M3 ⟨c3, k3, by rw [e3]; exact h0, by rw [e3]; exact h1⟩ O3
  | false =>
    rw [hs, if_neg (by decide)] at H
    rw [if_pos (show bI false = 0 from rfl)]
    refine c_Y_fav hy hl hF c3 hI k3 hp v3 (fun M4 c4 k4 v4 o4 e4 => ?_)
    have hfk : ∀ q, n_fav F P p = some q → q < 16 := fun q hq => fav_lt hq
    refine c_Y_tellLaw (k := n_fav F P p) hy hl c4 hI hp hfk v4.1 v4.2.1 v4.2.2 (fun M5 w5 o5 => ?_)
    have c5 := CY_7 hy hl c4 o5
    have k5 := kL_7 hl k4 o5
    rw [n_104, n_10, n_103, n_99, n_98]
    refine c_L_ask hl hF k5 w5 (by decide) (by decide) (by decide) (by decide) (fun M6 f6 => ?_)
    refine c_L_ask hl hF (kL_E hl k5 f6) (kVl_E w5 f6) (by decide) (by decide) (by decide) (by decide) (fun M7 f7 => ?_)
    refine c_L_ask hl hF (kL_E hl (kL_E hl k5 f6) f7) (kVl_E (kVl_E w5 f6) f7) (by decide) (by decide) (by decide) (by decide) (fun M8 f8 => ?_)
    have f68 : kE ly M5 M8 := (f6.tr f7).tr f8
    have c8 := CY_E hy hl c5 f68
    have k8 := kL_E hl k5 f68
    have e8 : M8 4 = M 4 := by rw [f68.1 4 (by omega) (by omega), o5 4 (by omega), e4, e3]
    have O8 : only (nyS y ly) M M8 := ((O3.tr o4).tr (only_7 o5)).tr (only_E f68)
    -- the mood at the end
    have last : ∀ (P2 : Pp) (M9 : pu_M) (h g b t2 l2 : Nat) (x10 x13 : Int32), md P2 = md P → CY P2 M9 y → kL M9 ly F → M9 4 0 = nI t2 → M9 4 1 = nI l2 → only (nyS y ly) M M9 → (∀ M', nyT M' y ly F (setmd P2 p (n_mo (md P p) g b), t2, l2) → only (nyS y ly) M M' → Q M') → pu_R L (d + 6) 60 144 [.ref 4, .ref y, .ref ly, .int (nI p), .int (nI (bs (bsd P p) 16)), .int x10, .int x13, .int (nI g), .int (nI b)] [] M9 (pu_qV Q) := by
      intro P2 M9 h g b t2 l2 x10 x13 em c9 k9 a0 a1 o9 H9
      refine r_Night_wake_144 hy hl ?_
      have emd : M9 (y + 2) p = nI (md P p) := by rw [(c9.1 p hp).2.1, em]
      rw [nI_clamp (by omega), emd]
      refine ⟨inb_nI hp (by decide), r_x_within ?_⟩
      rw [mo_within]
      refine ⟨inb_nI hp (by decide), H9 _ ⟨CY_md c9, ?_, ?_, ?_⟩ (o9.wr (Or.inr (Or.inl ⟨by omega, by omega⟩)))⟩
      · refine ⟨?_, ?_⟩
        · unfold kR
          rw [pu_wr_ne (show ly ≠ y + 2 by omega), pu_wr_ne (show ly + 3 ≠ y + 2 by omega), pu_wr_ne (show ly + 4 ≠ y + 2 by omega), pu_wr_ne (show ly + 5 ≠ y + 2 by omega), pu_wr_ne (show ly + 6 ≠ y + 2 by omega)]; exact k9.1
        · unfold kCd
          rw [pu_wr_ne (show ly + 1 ≠ y + 2 by omega), pu_wr_ne (show ly + 2 ≠ y + 2 by omega)]; exact k9.2
      · rw [pu_wr_ne (by omega)]; exact a0
      · rw [pu_wr_ne (by omega)]; exact a1
    unfold n_wk2 at H
    cases hf : n_fav F P p with
    | none =>
      rw [hf] at H
      rw [if_pos pJ_n]
      exact last P M8 0 _ _ t l _ _ rfl c8 k8 (by rw [e8]; exact h0) (by rw [e8]; exact h1) O8 H
    | some k =>
      have hk := hfk k hf
      rw [hf] at H
      dsimp only at H
      rw [if_neg (show ¬ pJ (some k) = -1 from fun z => (nI_m1 (show k < 2 ^ 31 by omega)).mp z)]
      refine r_Yard_drawNext hy ?_
      have hlo := hI.2.2.2
      have ey6 : pu_wr M8 4 0 (M8 4 0 + 1) y 6 = nI (lo P) := by rw [pu_wr_ne (by omega)]; exact c8.2.2.2.2
      rw [ey6, nI_lo1 hlo, pu_wr_self, upd_s, n_10, nI_rem (by have := n_lo_lt (lo P); omega) (by decide) (by decide)]
      have c9 : CY (setlo P (n_lo (lo P))) (pu_wr (pu_wr M8 4 0 (M8 4 0 + 1)) y 6 (nI (n_lo (lo P)))) y := CY_lo (CY_ot c8 (by omega))
      have a0 : (pu_wr (pu_wr M8 4 0 (M8 4 0 + 1)) y 6 (nI (n_lo (lo P)))) 4 0 = nI (t + 1) := by rw [pu_wr_ne (by omega), pu_wr_self, upd_s, e8, h0, nI_1]
      have a1 : (pu_wr (pu_wr M8 4 0 (M8 4 0 + 1)) y 6 (nI (n_lo (lo P)))) 4 1 = nI l := by rw [pu_wr_ne (by omega), pu_wr_self, upd_n (by decide), e8]; exact h1
      have k9 : kL (pu_wr (pu_wr M8 4 0 (M8 4 0 + 1)) y 6 (nI (n_lo (lo P)))) ly F := by
        refine ⟨?_, ?_⟩
        · unfold kR
          rw [pu_wr_ne (show ly ≠ y by omega), pu_wr_ne (show ly + 3 ≠ y by omega), pu_wr_ne (show ly + 4 ≠ y by omega), pu_wr_ne (show ly + 5 ≠ y by omega), pu_wr_ne (show ly + 6 ≠ y by omega), pu_wr_ne (show ly ≠ 4 by omega), pu_wr_ne (show ly + 3 ≠ 4 by omega), pu_wr_ne (show ly + 4 ≠ 4 by omega), pu_wr_ne (show ly + 5 ≠ 4 by omega), pu_wr_ne (show ly + 6 ≠ 4 by omega)]; exact k8.1
        · unfold kCd
          rw [pu_wr_ne (show ly + 1 ≠ y by omega), pu_wr_ne (show ly + 2 ≠ y by omega), pu_wr_ne (show ly + 1 ≠ 4 by omega), pu_wr_ne (show ly + 2 ≠ 4 by omega)]; exact k8.2
      have o9 : only (nyS y ly) M (pu_wr (pu_wr M8 4 0 (M8 4 0 + 1)) y 6 (nI (n_lo (lo P)))) := (O8.wr (Or.inl rfl)).wr (Or.inr (Or.inl ⟨by omega, by omega⟩))
      generalize pu_wr (pu_wr M8 4 0 (M8 4 0 + 1)) y 6 (nI (n_lo (lo P))) = M9 at c9 a0 a1 k9 o9 ⊢
      have hle := w_ask_le (F := F) (u := n_fa P p (some k)) (c := 104) (hi := 10) (by decide)
      unfold n_dr at H
      have hxlt := n_lo_lt (lo P)
      generalize n_lo (lo P) = x at H hxlt c9 ⊢
      generalize w_ask F (n_fa P p (some k)) 104 10 = hh at H hle ⊢
      by_cases z : x % 10 < hh
      · rw [if_pos z] at H
        rw [if_neg (by rw [nI_leI (by omega) (by omega)]; omega)]
        have hIl : PI (setlo P x) := PI_setlo hI hxlt
        refine c_Y_learn (l := l) hy c9 hIl hp hk a1 (fun M10 c10 b1 b0 o10 => ?_)
        have em : md (n_le (setlo P x) p k l).1 = md P := by
          unfold n_le
          cases hu : n_un (setlo P x) p k with
          | none => exact md_lo _ _
          | some t => exact (md_tp _ _ _).trans (md_lo _ _)
        refine last _ M10 0 _ _ (t + 1) _ _ _ em c10 ?_ (by rw [b0 0 (by decide)]; exact a0) b1 (o9.tr (fun q hq => o10 q (fun z => hq (by rcases z with z | z; exact Or.inl z; exact Or.inr (Or.inl ⟨by omega, by omega⟩))))) H
        refine ⟨?_, ?_⟩
        · unfold kR
          rw [o10 ly (by omega), o10 (ly + 3) (by omega), o10 (ly + 4) (by omega), o10 (ly + 5) (by omega), o10 (ly + 6) (by omega)]; exact k9.1
        · unfold kCd
          rw [o10 (ly + 1) (by omega), o10 (ly + 2) (by omega)]; exact k9.2
      · rw [if_neg z] at H
        rw [if_pos (by rw [nI_leI (by omega) (by omega)]; omega)]
        exact last _ M9 0 _ _ (t + 1) l _ _ (md_lo _ _) c9 k9 a0 a1 o9 H
end NW
