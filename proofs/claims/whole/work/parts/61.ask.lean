/-! THE LAW is asked for a letter -/
abbrev Law : Type := (Nat → Lin) × (Nat → Rul) × Nat × Nat
def wf (F : Law) : Nat → Lin := F.1
def wR (F : Law) : Nat → Rul := F.2.1
def wm (F : Law) : Nat := F.2.2.1
def wc (F : Law) : Nat := F.2.2.2
/-- m rules over c steps that fit -/
def wI (F : Law) : Prop := l_good (wf F) (wR F) (wm F) ∧ wc F ≤ 240 ∧ ∀ i, i < wm F → (wR F i).2.2.2 ≤ wc F
def kL (M : pu_M) (y : Nat) (F : Law) : Prop := kR M y (wR F) (wm F) ∧ kCd M y (wf F) (wc F)
def mLaw (M : pu_M) (F : Law) : Prop := mLw M (wf F) (wR F) (wm F) (wc F)
def w_tC (F : Law) (u : Nat → Int32) (x : Rul) : Bool := match l_ex (wf F) u x.2.2.2 240 x.2.2.1 (fun _ => 0) false with
  | none => false
  | some z => z.2
def w_vE (F : Law) (u : Nat → Int32) (x : Rul) : Int32 := match l_ex (wf F) u x.2.2.1 240 x.2.1 (fun _ => 0) false with
  | none => 0
  | some z => z.1 0
def w_cl (v : Int32) (hi : Nat) : Nat := if 0 ≤ v then (if v ≤ nI hi then v.toNatClampNeg else hi) else 0
theorem w_cl_le {v : Int32} {hi : Nat} (h : hi < 2 ^ 31) : w_cl v hi ≤ hi := by
  unfold w_cl
  by_cases h0 : 0 ≤ v
  · rw [if_pos h0]
    by_cases h1 : v ≤ nI hi
    · rw [if_pos h1]
      rw [Int32.le_iff_toInt_le, nI_toInt h] at h1
      rw [clampI]; omega
    · rw [if_neg h1]; exact Nat.le_refl _
  · rw [if_neg h0]; exact Nat.zero_le _
def w_askL (F : Law) (u : Nat → Int32) (c hi : Nat) : Nat → Nat → Nat
  | 0, _ => 0
  | j + 1, i => if (wR F i).1 = c ∧ w_tC F u (wR F i) = true then w_cl (w_vE F u (wR F i)) hi else w_askL F u c hi j (i + 1)
def w_ask (F : Law) (u : Nat → Int32) (c hi : Nat) : Nat := w_askL F u c hi (wm F) 0
def w_anyL (F : Law) (u : Nat → Int32) : Nat → Nat → Bool
  | 0, _ => false
  | j + 1, i => if (wR F i).1 = 113 ∧ w_tC F u (wR F i) = true then true else w_anyL F u j (i + 1)
def w_any (F : Law) (u : Nat → Int32) : Bool := w_anyL F u (wm F) 0
theorem w_askL_le {F : Law} {u : Nat → Int32} {c hi : Nat} (h : hi < 2 ^ 31) : ∀ {j i : Nat}, w_askL F u c hi j i ≤ hi
  | 0, i => Nat.zero_le _
  | j + 1, i => by
    show (if (wR F i).1 = c ∧ w_tC F u (wR F i) = true then w_cl (w_vE F u (wR F i)) hi else w_askL F u c hi j (i + 1)) ≤ hi
    split
    · exact w_cl_le h
    · exact w_askL_le h
theorem w_ask_le {F : Law} {u : Nat → Int32} {c hi : Nat} (h : hi < 2 ^ 31) : w_ask F u c hi ≤ hi := w_askL_le h
theorem within_cl {v : Int32} {hi : Nat} (h : hi < 2 ^ 31) (h0 : 0 < hi) : (if (0 : Int32) < (if v < nI hi then v else nI hi) then (if v < nI hi then v else nI hi) else 0) = nI (w_cl v hi) := by
  have e0 : (0 : Int32).toInt = 0 := rfl
  unfold w_cl
  by_cases h1 : 0 ≤ v
  · rw [if_pos h1]
    have ev : v = nI v.toNatClampNeg := by
      rw [Int32.le_iff_toInt_le, e0] at h1
      apply Int32.toInt_inj.mp
      rw [nI_toInt (by rw [clampI]; have := Int32.toInt_lt v; omega), clampI]; omega
    by_cases h2 : v < nI hi
    · rw [if_pos h2, if_pos (Int32.not_lt.mp (fun z => by rw [Int32.lt_iff_toInt_lt] at h2 z; omega))]
      by_cases h3 : 0 < v
      · rw [if_pos h3]; exact ev
      · rw [if_neg h3]
        have : v = 0 := by
          apply Int32.toInt_inj.mp
          rw [Int32.le_iff_toInt_le] at h1
          rw [Int32.lt_iff_toInt_lt] at h3
          omega
        rw [this]; rfl
    · rw [if_neg h2, if_pos (show (0 : Int32) < nI hi by rw [n_0, nI_ltI (by omega) h]; exact h0)]
      by_cases h3 : v ≤ nI hi
      · rw [if_pos h3]
        have : v = nI hi := by
          apply Int32.toInt_inj.mp
          rw [Int32.le_iff_toInt_le] at h3
          rw [Int32.lt_iff_toInt_lt] at h2
          omega
        rw [this, nI_clamp h]
      · rw [if_neg h3]
  · rw [if_neg h1]
    have hneg : v < 0 := Int32.not_le.mp h1
    have h2 : v < nI hi := by
      rw [Int32.lt_iff_toInt_lt] at hneg ⊢
      rw [nI_toInt h]; omega
    rw [if_pos h2, if_neg (fun z => by rw [Int32.lt_iff_toInt_lt] at hneg z; omega)]; rfl
section AS
variable {L d : Nat} {M : pu_M} {F : Law} {u : Nat → Int32}
theorem kL_E {y : Nat} {M' : pu_M} (hy : pu_isL y) (h : kL M y F) (f : kE y M M') : kL M' y F := by
  have hy' : 31 ≤ y ∧ y ≤ 40 := by unfold pu_isL at hy; omega
  refine ⟨?_, ?_⟩
  · unfold kR
    rw [f.2 7 (by decide) (by decide), f.1 (y + 3) (by omega) (by omega), f.1 (y + 4) (by omega) (by omega), f.1 (y + 5) (by omega) (by omega), f.1 (y + 6) (by omega) (by omega)]
    exact h.1
  · unfold kCd
    rw [f.1 (y + 1) (by omega) (by omega), f.1 (y + 2) (by omega) (by omega)]
    exact h.2
theorem kVl_E {y : Nat} {M' : pu_M} (h : kVl M y u) (f : kE y M M') : kVl M' y u := by
  unfold kVl
  rw [f.1 (y + 7) (by omega) (by omega)]; exact h
/-- the class tries the C of a rule -/
theorem c_L_tryC {y i : Nat} {Q : Int32 → pu_M → Prop} (hy : pu_isL y) (hF : wI F) (hK : kL M y F) (hV : kVl M y u) (hi : i < wm F) (H0 : w_tC F u (wR F i) = false → ∀ x M', (x = 0 ∨ M' y 11 = 0) → kE y M M' → Q x M') (H1 : w_tC F u (wR F i) = true → ∀ M', ¬ M' y 11 = 0 → kE y M M' → Q 1 M') : pu_I L (d + 3) 41 [.ref y, .int (M (y + 5) i), .int (M (y + 6) i)] M Q := by
  obtain ⟨r1, r2, r3, r4⟩ := hK.1.2 i hi
  obtain ⟨g1, g2, g3, g4, g5, g6, g7⟩ := hF.1.2 i hi
  rw [r3, r4]
  refine c_L_run hy g3 (hF.2.2 i hi) hF.2.1 g6 g7 hK.2 hV ?_
  unfold w_tC at H0 H1
  cases hx : l_ex (wf F) u (wR F i).2.2.2 240 (wR F i).2.2.1 (fun _ => 0) false with
  | none => rw [hx] at H0; exact fun M' f => H0 rfl 0 M' (Or.inl rfl) f
  | some z =>
    rw [hx] at H0 H1
    intro M' s f
    cases hz : z.2 with
    | false => exact H0 hz 1 M' (Or.inr (by rw [s.2.1, hz]; rfl)) f
    | true => exact H1 hz M' (by rw [s.2.1, hz]; decide) f
theorem c_L_ask {y c hi : Nat} {Q : Int32 → pu_M → Prop} (hy : pu_isL y) (hF : wI F) (hK : kL M y F) (hV : kVl M y u) (hc : c < 2 ^ 31) (hc2 : ¬ c = 113) (hhi : hi < 2 ^ 31) (h0 : 0 < hi) (H : ∀ M', kE y M M' → Q (nI (w_ask F u c hi)) M') : pu_I L (d + 4) 39 [.ref y, .int (nI c), .int (nI hi)] M Q := by
  have hm := hF.1.1
  have key : ∀ (j i : Nat) (M' : pu_M), i + j = wm F → kE y M M' → (∀ M'', kE y M' M'' → Q (nI (w_askL F u c hi j i)) M'') → pu_R L (d + 4) 39 2 [.ref y, .int (nI c), .int (nI hi), .int (nI i), mq_un] [] M' (pu_qI Q) := by
    intro j
    induction j with
    | zero =>
      intro i M' hij f H
      have hK' := kL_E hy hK f
      refine r_Law_ask_2 hy ?_
      rw [hK'.1.1, if_pos (by rw [nI_leI (by omega) (by omega)]; omega)]
      exact H M' (kE.rf y M')
    | succ j ih =>
      intro i M' hij f H
      have hK' := kL_E hy hK f
      have hV' := kVl_E hV f
      have hil : i < wm F := by omega
      obtain ⟨r1, r2, r3, r4⟩ := hK'.1.2 i hil
      obtain ⟨g1, g2, g3, g4, g5, g6, g7⟩ := hF.1.2 i hil
      refine r_Law_ask_2 hy ?_
      rw [hK'.1.1, if_neg (by rw [nI_leI (by omega) (by omega)]; omega), nI_clamp (by omega), r1]
      refine ⟨inb_nI (by omega) (by decide), ?_⟩
      have hstep : w_askL F u c hi (j + 1) i = if (wR F i).1 = c ∧ w_tC F u (wR F i) = true then w_cl (w_vE F u (wR F i)) hi else w_askL F u c hi j (i + 1) := rfl
      rw [hstep] at H
      have on : ∀ M2, kE y M' M2 → ¬ ((wR F i).1 = c ∧ w_tC F u (wR F i) = true) → pu_R L (d + 4) 39 2 [.ref y, .int (nI c), .int (nI hi), .int (nI i + 1), mq_un] [] M2 (pu_qI Q) := by
        intro M2 f2 hn
        rw [if_neg hn] at H
        rw [nI_1]
        exact ih (i + 1) M2 (by omega) (f.tr f2) (fun M3 f3 => H M3 (f2.tr f3))
      by_cases hl : (wR F i).1 = c
      · rw [if_pos (by rw [hl])]
        refine ⟨inb_nI (by omega) (by decide), inb_nI (by omega) (by decide), ?_⟩
        refine c_L_tryC hy hF hK' hV' hil (fun ht x M2 hx f2 => ?_) (fun ht M2 h11 f2 => ?_)
        · have hn : ¬ ((wR F i).1 = c ∧ w_tC F u (wR F i) = true) := fun z => by rw [ht] at z; exact absurd z.2 (by decide)
          by_cases hx0 : x = 0
          · rw [if_pos hx0]; exact on M2 f2 hn
          · rw [if_neg hx0, if_pos (hx.resolve_left hx0)]; exact on M2 f2 hn
        · rw [if_neg (by decide), if_neg h11]
          rw [if_pos ⟨hl, ht⟩] at H
          refine ⟨inb_nI (by omega) (by decide), inb_nI (by omega) (by decide), ?_⟩
          have hK2 := kL_E hy hK' f2
          have hV2 := kVl_E hV' f2
          obtain ⟨q1, q2, q3, q4⟩ := hK2.1.2 i hil
          obtain ⟨e5, e6⟩ := g5 (by rw [hl]; exact hc2)
          have gc := hF.2.2 i hil
          rw [q2, q3]
          refine c_L_run hy g2 (show (wR F i).2.2.1 ≤ wc F by omega) hF.2.1 e5 e6 hK2.2 hV2 ?_
          unfold w_vE at H
          cases hx : l_ex (wf F) u (wR F i).2.2.1 240 (wR F i).2.1 (fun _ => 0) false with
          | none =>
            rw [hx] at H
            intro M3 f3
            rw [if_pos rfl]
            refine r_Law_ask_77 hy ?_
            rw [if_pos rfl]
            have := H M3 (f2.tr f3)
            have ez : w_cl 0 hi = 0 := by
              unfold w_cl
              rw [if_pos (by decide), if_pos (by rw [n_0, nI_leI (by decide) hhi]; omega)]; rfl
            rw [ez] at this
            exact this
          | some z =>
            rw [hx] at H
            intro M3 s3 f3
            rw [if_neg (by decide), s3.1, if_pos (show nI (l_hg 1) = 1 from rfl), if_neg (by decide), s3.2.2 (0 : Int32).toNatClampNeg (by decide)]
            refine r_x_within ?_
            rw [within_cl hhi h0]
            exact H M3 (f2.tr f3)
      · rw [if_neg (by rw [nI_eq (by have := hF.1.2 i hil; unfold l_rg at this; omega) hc]; exact hl)]
        exact on M' (kE.rf y M') (fun z => hl z.1)
  exact r_Law_ask hy (key (wm F) 0 M (by omega) (kE.rf y M) H)
theorem c_L_any {y : Nat} {Q : Int32 → pu_M → Prop} (hy : pu_isL y) (hF : wI F) (hK : kL M y F) (hV : kVl M y u) (H : ∀ M', kE y M M' → Q (bI (w_any F u)) M') : pu_I L (d + 4) 40 [.ref y] M Q := by
  have hm := hF.1.1
  have key : ∀ (j i : Nat) (M' : pu_M), i + j = wm F → kE y M M' → (∀ M'', kE y M' M'' → Q (bI (w_anyL F u j i)) M'') → pu_R L (d + 4) 40 2 [.ref y, .int (nI i)] [] M' (pu_qI Q) := by
    intro j
    induction j with
    | zero =>
      intro i M' hij f H
      have hK' := kL_E hy hK f
      refine r_Law_keepsSilent_2 hy ?_
      rw [hK'.1.1, if_pos (by rw [nI_leI (by omega) (by omega)]; omega)]
      exact H M' (kE.rf y M')
    | succ j ih =>
      intro i M' hij f H
      have hK' := kL_E hy hK f
      have hV' := kVl_E hV f
      have hi : i < wm F := by omega
      obtain ⟨r1, r2, r3, r4⟩ := hK'.1.2 i hi
      obtain ⟨g1, g2, g3, g4, g5, g6, g7⟩ := hF.1.2 i hi
      refine r_Law_keepsSilent_2 hy ?_
      rw [hK'.1.1, if_neg (by rw [nI_leI (by omega) (by omega)]; omega), nI_clamp (by omega), r1]
      refine ⟨inb_nI (by omega) (by decide), ?_⟩
      have hstep : w_anyL F u (j + 1) i = if (wR F i).1 = 113 ∧ w_tC F u (wR F i) = true then true else w_anyL F u j (i + 1) := rfl
      rw [hstep] at H
      have on : ∀ M2, kE y M' M2 → ¬ ((wR F i).1 = 113 ∧ w_tC F u (wR F i) = true) → pu_R L (d + 4) 40 2 [.ref y, .int (nI i + 1)] [] M2 (pu_qI Q) := by
        intro M2 f2 hn
        rw [if_neg hn] at H
        rw [nI_1]
        exact ih (i + 1) M2 (by omega) (f.tr f2) (fun M3 f3 => H M3 (f2.tr f3))
      by_cases hl : (wR F i).1 = 113
      · rw [if_pos (by rw [hl]; rfl)]
        refine ⟨inb_nI (by omega) (by decide), inb_nI (by omega) (by decide), ?_⟩
        refine c_L_tryC hy hF hK' hV' hi (fun ht x M2 hx f2 => ?_) (fun ht M2 h11 f2 => ?_)
        · have hn : ¬ ((wR F i).1 = 113 ∧ w_tC F u (wR F i) = true) := fun z => by rw [ht] at z; exact absurd z.2 (by decide)
          by_cases hx0 : x = 0
          · rw [if_pos hx0]; exact on M2 f2 hn
          · rw [if_neg hx0, if_pos (hx.resolve_left hx0)]; exact on M2 f2 hn
        · rw [if_neg (by decide), if_neg h11]
          rw [if_pos ⟨hl, ht⟩] at H
          exact H M2 f2
      · rw [if_neg (show ¬ nI (wR F i).1 = 113 by rw [n_113, nI_eq (by have := hF.1.2 i hi; unfold l_rg at this; omega) (by decide)]; exact hl)]
        exact on M' (kE.rf y M') (fun z => hl z.1)
  exact r_Law_keepsSilent hy (key (wm F) 0 M (by omega) (kE.rf y M) H)
/-! the model's -/
def mVl (M : pu_M) (u : Nat → Int32) : Prop := ∀ v, v < 8 → M 75 v = u v
theorem mLaw_o {M' : pu_M} (h : mLaw M F) (f : only (fun k => k = 74) M M') : mLaw M' F := by
  unfold mLaw mLw
  rw [f 58 (by decide), f 69 (by decide), f 70 (by decide), f 71 (by decide), f 72 (by decide), f 73 (by decide)]; exact h
theorem mVl_o {M' : pu_M} (h : mVl M u) (f : only (fun k => k = 74) M M') : mVl M' u := by
  unfold mVl
  rw [f 75 (by decide)]; exact h
theorem c_N_tryC {i : Nat} {Q : Int32 → pu_M → Prop} (hF : wI F) (hK : mLaw M F) (hV : mVl M u) (hi : i < wm F) (H0 : w_tC F u (wR F i) = false → ∀ x M', ¬ x = 1 → only (fun k => k = 74) M M' → Q x M') (H1 : w_tC F u (wR F i) = true → ∀ M', only (fun k => k = 74) M M' → Q 1 M') : pu_I L (d + 2) 201 [.ref 58, .int (M 72 i), .int (M 73 i)] M Q := by
  obtain ⟨r1, r2, r3, r4⟩ := hK.2.1 i hi
  obtain ⟨g1, g2, g3, g4, g5, g6, g7⟩ := hF.1.2 i hi
  rw [r3, r4]
  refine c_N_run (u := u) g3 (hF.2.2 i hi) hF.2.1 g6 g7 hK.2.2 hV ?_
  unfold w_tC at H0 H1
  cases hx : l_ex (wf F) u (wR F i).2.2.2 240 (wR F i).2.2.1 (fun _ => 0) false with
  | none => rw [hx] at H0; exact fun M' f => H0 rfl 0 M' (by decide) f
  | some z =>
    rw [hx] at H0 H1
    intro M' s f
    rw [mS_99] at s
    rw [s]
    cases hz : z.2 with
    | false => exact H0 hz _ M' (by decide) f
    | true => exact H1 hz M' f
theorem c_N_ask {c hi : Nat} {Q : Int32 → pu_M → Prop} (hF : wI F) (hK : mLaw M F) (hV : mVl M u) (hc : c < 2 ^ 31) (hc2 : ¬ c = 113) (hhi : hi < 2 ^ 31) (H : ∀ M', only (fun k => k = 74) M M' → Q (nI (w_ask F u c hi)) M') : pu_I L (d + 3) 202 [.ref 58, .int (nI c), .int (nI hi)] M Q := by
  have hm := hF.1.1
  have key : ∀ (j i : Nat) (M' : pu_M), i + j = wm F → only (fun k => k = 74) M M' → (∀ M'', only (fun k => k = 74) M' M'' → Q (nI (w_askL F u c hi j i)) M'') → pu_R L (d + 3) 202 2 [.ref 58, .int (nI c), .int (nI hi), .int (nI i), mq_un] [] M' (pu_qI Q) := by
    intro j
    induction j with
    | zero =>
      intro i M' hij f H
      have hK' := mLaw_o hK f
      refine r_m_byLaw_2 ?_
      rw [hK'.1, if_pos (by rw [nI_leI (by omega) (by omega)]; omega)]
      exact H M' (only.rf _ _)
    | succ j ih =>
      intro i M' hij f H
      have hK' := mLaw_o hK f
      have hV' := mVl_o hV f
      have hil : i < wm F := by omega
      obtain ⟨r1, r2, r3, r4⟩ := hK'.2.1 i hil
      obtain ⟨g1, g2, g3, g4, g5, g6, g7⟩ := hF.1.2 i hil
      refine r_m_byLaw_2 ?_
      rw [hK'.1, if_neg (by rw [nI_leI (by omega) (by omega)]; omega), nI_clamp (by omega), r1]
      refine ⟨inb_nI (by omega) (by decide), ?_⟩
      have hstep : w_askL F u c hi (j + 1) i = if (wR F i).1 = c ∧ w_tC F u (wR F i) = true then w_cl (w_vE F u (wR F i)) hi else w_askL F u c hi j (i + 1) := rfl
      rw [hstep] at H
      have on : ∀ M2, only (fun k => k = 74) M' M2 → ¬ ((wR F i).1 = c ∧ w_tC F u (wR F i) = true) → pu_R L (d + 3) 202 2 [.ref 58, .int (nI c), .int (nI hi), .int (nI i + 1), mq_un] [] M2 (pu_qI Q) := by
        intro M2 f2 hn
        rw [if_neg hn] at H
        rw [nI_1]
        exact ih (i + 1) M2 (by omega) (f.tr f2) (fun M3 f3 => H M3 (f2.tr f3))
      by_cases hl : (wR F i).1 = c
      · rw [if_pos (by rw [hl])]
        refine ⟨inb_nI (by omega) (by decide), inb_nI (by omega) (by decide), ?_⟩
        refine c_N_tryC hF hK' hV' hil (fun ht x M2 hx f2 => ?_) (fun ht M2 f2 => ?_)
        · have hn : ¬ ((wR F i).1 = c ∧ w_tC F u (wR F i) = true) := fun z => by rw [ht] at z; exact absurd z.2 (by decide)
          rw [if_neg hx]; exact on M2 f2 hn
        · rw [if_pos rfl]
          rw [if_pos ⟨hl, ht⟩] at H
          refine ⟨inb_nI (by omega) (by decide), inb_nI (by omega) (by decide), ?_⟩
          have hK2 := mLaw_o hK' f2
          have hV2 := mVl_o hV' f2
          obtain ⟨q1, q2, q3, q4⟩ := hK2.2.1 i hil
          obtain ⟨e5, e6⟩ := g5 (by rw [hl]; exact hc2)
          have gc := hF.2.2 i hil
          rw [q2, q3]
          refine c_N_run (u := u) g2 (show (wR F i).2.2.1 ≤ wc F by omega) hF.2.1 e5 e6 hK2.2.2 hV2 ?_
          have fin : ∀ (x : Int32) (M3 : pu_M), x = w_vE F u (wR F i) → only (fun k => k = 74) M2 M3 → (if 0 ≤ x then (if x ≤ nI hi then Q x M3 else Q (nI hi) M3) else Q 0 M3) := by
            intro x M3 hx f3
            have := H M3 (f2.tr f3)
            rw [← hx] at this
            unfold w_cl at this
            by_cases h1 : 0 ≤ x
            · rw [if_pos h1] at this ⊢
              by_cases h2 : x ≤ nI hi
              · rw [if_pos h2] at this ⊢
                have ev : x = nI x.toNatClampNeg := by
                  have e0 : (0 : Int32).toInt = 0 := rfl
                  rw [Int32.le_iff_toInt_le, e0] at h1
                  apply Int32.toInt_inj.mp
                  rw [nI_toInt (by rw [clampI]; have := Int32.toInt_lt x; omega), clampI]; omega
                rw [← ev] at this; exact this
              · rw [if_neg h2] at this ⊢; exact this
            · rw [if_neg h1] at this ⊢; exact this
          unfold w_vE at fin
          cases hx : l_ex (wf F) u (wR F i).2.2.1 240 (wR F i).2.1 (fun _ => 0) false with
          | none =>
            rw [hx] at fin
            exact fun M3 f3 => fin 0 M3 rfl f3
          | some z =>
            rw [hx] at fin
            intro M3 s3 f3
            rw [mS_n (by decide)] at s3
            exact fin _ M3 (s3 0 (by decide)) f3
      · rw [if_neg (by rw [nI_eq (by have := hF.1.2 i hil; unfold l_rg at this; omega) hc]; exact hl)]
        exact on M' (only.rf _ _) (fun z => hl z.1)
  exact r_m_byLaw (key (wm F) 0 M (by omega) (only.rf _ _) H)
theorem c_N_any {Q : Int32 → pu_M → Prop} (hF : wI F) (hK : mLaw M F) (hV : mVl M u) (H : ∀ M', only (fun k => k = 74) M M' → Q (bI (w_any F u)) M') : pu_I L (d + 3) 203 [.ref 58, .int 113] M Q := by
  have hm := hF.1.1
  have key : ∀ (j i : Nat) (M' : pu_M), i + j = wm F → only (fun k => k = 74) M M' → (∀ M'', only (fun k => k = 74) M' M'' → Q (bI (w_anyL F u j i)) M'') → pu_R L (d + 3) 203 2 [.ref 58, .int 113, .int (nI i)] [] M' (pu_qI Q) := by
    intro j
    induction j with
    | zero =>
      intro i M' hij f H
      have hK' := mLaw_o hK f
      refine r_m_holdsAny_2 ?_
      rw [hK'.1, if_pos (by rw [nI_leI (by omega) (by omega)]; omega)]
      exact H M' (only.rf _ _)
    | succ j ih =>
      intro i M' hij f H
      have hK' := mLaw_o hK f
      have hV' := mVl_o hV f
      have hi : i < wm F := by omega
      obtain ⟨r1, r2, r3, r4⟩ := hK'.2.1 i hi
      refine r_m_holdsAny_2 ?_
      rw [hK'.1, if_neg (by rw [nI_leI (by omega) (by omega)]; omega), nI_clamp (by omega), r1]
      refine ⟨inb_nI (by omega) (by decide), ?_⟩
      have hstep : w_anyL F u (j + 1) i = if (wR F i).1 = 113 ∧ w_tC F u (wR F i) = true then true else w_anyL F u j (i + 1) := rfl
      rw [hstep] at H
      have on : ∀ M2, only (fun k => k = 74) M' M2 → ¬ ((wR F i).1 = 113 ∧ w_tC F u (wR F i) = true) → pu_R L (d + 3) 203 2 [.ref 58, .int 113, .int (nI i + 1)] [] M2 (pu_qI Q) := by
        intro M2 f2 hn
        rw [if_neg hn] at H
        rw [nI_1]
        exact ih (i + 1) M2 (by omega) (f.tr f2) (fun M3 f3 => H M3 (f2.tr f3))
      by_cases hl : (wR F i).1 = 113
      · rw [if_pos (by rw [hl]; rfl)]
        refine ⟨inb_nI (by omega) (by decide), inb_nI (by omega) (by decide), ?_⟩
        refine c_N_tryC hF hK' hV' hi (fun ht x M2 hx f2 => ?_) (fun ht M2 f2 => ?_)
        · have hn : ¬ ((wR F i).1 = 113 ∧ w_tC F u (wR F i) = true) := fun z => by rw [ht] at z; exact absurd z.2 (by decide)
          rw [if_neg hx]; exact on M2 f2 hn
        · rw [if_pos rfl]
          rw [if_pos ⟨hl, ht⟩] at H
          exact H M2 f2
      · rw [if_neg (show ¬ nI (wR F i).1 = 113 by rw [n_113, nI_eq (by have := hF.1.2 i hi; unfold l_rg at this; omega) (by decide)]; exact hl)]
        exact on M' (only.rf _ _) (fun z => hl z.1)
  exact r_m_holdsAny (key (wm F) 0 M (by omega) (only.rf _ _) H)
end AS
