/-! best, move, good -/
/-- the class's cells but for those that it only reckons in -/
def eqX (M M' : pu_M) : Prop := ∀ k, (k < 4 ∨ 16 ≤ k) → M' k = M k
theorem eqX.rf (M : pu_M) : eqX M M := fun _ _ => rfl
theorem eqX.tr {A B C : pu_M} (h1 : eqX A B) (h2 : eqX B C) : eqX A C := fun k hk => (h2 k hk).trans (h1 k hk)
theorem eqX.wr {M M' : pu_M} {k i : Nat} {x : Int32} (h : eqX M M') (h1 : 4 ≤ k) (h2 : k < 16) : eqX M (pu_wr M' k i x) := fun j hj => by
  rw [pu_wr_ne (by omega)]; exact h j hj
theorem CY.eqX {P : Pp} {M M' : pu_M} {y : Nat} (hy : pu_isY y) (h : CY P M y) (e : eqX M M') : CY P M' y := by
  have h16 : 16 ≤ y := by unfold pu_isY at hy; omega
  unfold CY
  rw [e (y + 1) (by omega), e (y + 2) (by omega), e (y + 3) (by omega), e (y + 4) (by omega), e y (by omega)]
  exact h
def PS (M : pu_M) (a : Int32 × Int32 × Int32) : Prop := M 5 0 = a.1 ∧ M 5 1 = a.2.1 ∧ M 5 2 = a.2.2
def off (f s m : Int32) (a : Int32 × Int32 × Int32) : Int32 × Int32 × Int32 := if m ≤ a.2.2 then a else (f, s, m)
theorem PS_wr (M : pu_M) (f s m : Int32) : PS (pu_wr (pu_wr (pu_wr M 5 0 f) 5 1 s) 5 2 m) (f, s, m) := by
  refine ⟨?_, ?_, ?_⟩ <;> simp [pu_wr]
theorem ph : ∀ (n : Nat) (l : List Nat), l.length ≤ n → ∃ w, w ≤ n ∧ w ∉ l
  | 0, l, h => ⟨0, Nat.le_refl _, by have : l = [] := List.length_eq_zero_iff.mp (by omega); simp [this]⟩
  | n + 1, l, h => by
    by_cases hm : n + 1 ∈ l
    · have hl : (l.filter (fun x => decide (x ≠ n + 1))).length < l.length := by
        rw [List.length_filter_lt_length_iff_exists]
        exact ⟨n + 1, hm, by simp⟩
      obtain ⟨w, h1, h2⟩ := ph n (l.filter (fun x => decide (x ≠ n + 1))) (by omega)
      refine ⟨w, by omega, fun hw => h2 (List.mem_filter.mpr ⟨hw, ?_⟩)⟩
      simp; omega
    · exact ⟨n + 1, Nat.le_refl _, hm⟩
/-- there is grass -/
theorem grass (P : Pp) : ∃ w, w < 60 ∧ who P w = none := by
  obtain ⟨w, h1, h2⟩ := ph 16 ((List.range 16).map (fun p => (pl P p).getD 100)) (by simp)
  refine ⟨w, by omega, ?_⟩
  cases e : who P w with
  | none => rfl
  | some p =>
    obtain ⟨hp, hw⟩ := who_some e
    exact absurd (List.mem_map.mpr ⟨p, List.mem_range.mpr hp, by rw [hw]; rfl⟩) h2
def free1 (P : Pp) (p w : Nat) : Bool := who P w == none || who P w == some p
/-- the best plot so far -/
def bst (P : Pp) (p w : Nat) (a : Int32 × Int32) : Int32 × Int32 := if free1 P p w = true then (if a.1 = -1 ∨ a.2 < tas P p w 0 then (nI w, tas P p w 0) else a) else a
def s_best (P : Pp) (v w : Int32) : Int32 := if tdV P v = true ∧ ¬ (w < 0 ∨ 1 < w) then (if w = 0 then (fo (bst P v.toNatClampNeg) 60 (-1, 0)).1 else (fo (bst P v.toNatClampNeg) 60 (-1, 0)).2) else -1000
theorem bst_ne {P : Pp} {p : Nat} : ∀ {n w : Nat}, w < n → n ≤ 60 → free1 P p w = true → (fo (bst P p) n (-1, 0)).1 ≠ -1
  | 0, w, h, _, _ => by omega
  | n + 1, w, h, hn, hf => by
    show (bst P p n (fo (bst P p) n (-1, 0))).1 ≠ -1
    by_cases hw : w = n
    · subst hw
      generalize fo (bst P p) w (-1, 0) = a
      unfold bst
      rw [if_pos hf]
      split
      · intro z; exact (nI_m1 (show w < 2 ^ 31 by omega)).mp z
      next h => exact fun z => h (Or.inl z)
    · have := bst_ne (P := P) (p := p) (n := n) (w := w) (by omega) (by omega) hf
      generalize fo (bst P p) n (-1, 0) = a at this ⊢
      unfold bst
      split
      · split
        · intro z; exact (nI_m1 (show n < 2 ^ 31 by omega)).mp z
        · exact this
      · exact this
theorem lt60 {k : Nat} (h : k < 60) : ¬ (60 : Int32) ≤ nI k := by rw [n_60, nI_leI (by omega) (by omega)]; omega
theorem ge60 : (60 : Int32) ≤ nI 60 := by decide
theorem lt10 {k : Nat} (h : k < 10) : ¬ (10 : Int32) ≤ nI k := by rw [n_10, nI_leI (by omega) (by omega)]; omega
theorem ge10 : (10 : Int32) ≤ nI 10 := by decide
theorem far_lt {x : Int32} (h : sm x 20000) : ¬ x ≤ (-1000000) := by
  rw [Int32.le_iff_toInt_le]
  have e : ((-1000000 : Int32)).toInt = -1000000 := rfl
  have := h.1
  omega
theorem pI_nI {o : Option Nat} {p : Nat} (hp : p < 2 ^ 31) (ho : ∀ q, o = some q → q < 2 ^ 31) : (pI o = nI p) ↔ o = some p := by
  cases o with
  | none => simp [pI, m2_nI hp]
  | some v => simp [pI, nI_eq (ho v rfl) hp]
theorem pI_m2 {o : Option Nat} (ho : ∀ q, o = some q → q < 2 ^ 31) : (pI o = -2) ↔ o = none := by
  cases o with
  | none => simp [pI]
  | some v => simp [pI, nI_m2 (ho v rfl)]
theorem who_lt {P : Pp} {w q : Nat} (h : who P w = some q) : q < 2 ^ 31 := by have := (who_some h).1; omega
section SC
variable {L d : Nat} {M : pu_M} {P : Pp} {y : Nat}
theorem c_Plan_offer {Q : pu_M → Prop} {f s m : Int32} {a : Int32 × Int32 × Int32} (hS : PS M a) (H : ∀ M', eqX M M' → PS M' (off f s m a) → Q M') : pu_V L (d + 1) 67 [.ref 5, .int f, .int s, .int m] M Q := by
  refine r_Plan_offer ?_
  unfold off at H
  rw [hS.2.2]
  by_cases h : m ≤ a.2.2
  · rw [if_pos h] at H ⊢; exact H M (eqX.rf M) hS
  · rw [if_neg h] at H ⊢
    exact H _ ((((eqX.rf M).wr (by decide) (by decide)).wr (by decide) (by decide)).wr (by decide) (by decide)) (PS_wr M f s m)
theorem c_Plan_begin {Q : pu_M → Prop} {m : Int32} (H : ∀ M', eqX M M' → PS M' (-2, -2, m) → Q M') : pu_V L (d + 1) 66 [.ref 5, .int m] M Q := by
  refine r_Plan_begin ?_
  exact H _ ((((eqX.rf M).wr (by decide) (by decide)).wr (by decide) (by decide)).wr (by decide) (by decide)) (PS_wr M (-2) (-2) m)
theorem c_Plan_tells {Q : Int32 → pu_M → Prop} {v : Int32} {a : Int32 × Int32 × Int32} (hS : PS M a) (H : Q (if v = 0 then a.1 else if v = 1 then a.2.1 else a.2.2) M) : pu_I L (d + 1) 65 [.ref 5, .int v] M Q := by
  refine r_Plan_tells ?_
  rw [hS.1, hS.2.1, hS.2.2]
  by_cases h0 : v = 0
  · rw [if_pos h0] at H ⊢; exact H
  · rw [if_neg h0] at H ⊢
    by_cases h1 : v = 1
    · rw [if_pos h1] at H ⊢; exact H
    · rw [if_neg h1] at H ⊢; exact H
theorem c_x_best {Q : Int32 → pu_M → Prop} {v w : Int32} (h9 : M 0 9 = nI y) (hy : pu_isY y) (hC : CY P M y) (hI : PI P) (H : ∀ M', eqX M M' → Q (s_best P v w) M') : pu_I L (d + 5) 132 [.ref 0, .int v, .int w] M Q := by
  refine r_x_best ⟨y, h9, hy, ?_⟩
  unfold s_best at H
  rcases v16 v with ⟨p, hp, rfl⟩ | hv
  · refine c_Y_isTold hy hC hp ?_
    rw [tdV_nI hp, nI_clamp (by omega)] at H
    cases ht : tl P p with
    | false => rw [ht] at H; simpa using H M (eqX.rf M)
    | true =>
      rw [ht] at H
      rw [if_pos rfl, if_neg (by decide)]
      rcases v01 (w := w) with hw | ⟨hw1, hw2⟩
      · have H := H M (eqX.rf M)
        rw [if_neg (fun z => z.2 hw)] at H
        by_cases h0 : w < 0
        · rw [if_pos h0]; exact H
        · rw [if_neg h0, if_neg (lt_not_le (hw.resolve_left h0))]; exact H
      · rw [if_neg hw1, if_pos hw2]
        rw [if_pos ⟨rfl, fun z => z.elim hw1 (le_not_lt hw2)⟩] at H
        refine ⟨y, h9, hy, r_Plan_seekPlot hy (c_Plan_begin ?_)⟩
        -- the plan's cells beside the best so far
        have key := dn (R := fun k => ∀ M', eqX M M' → PS M' (if (fo (bst P p) k (-1, 0)).1 = -1 then (-2, -2, -1000000) else (nI p, (fo (bst P p) k (-1, 0)).1, (fo (bst P p) k (-1, 0)).2)) → pu_R L (d + 4) 69 8 [.ref 5, .ref y, .int (nI p), .int (nI k)] [] M' (pu_qV (fun M7 => if w = 0 then Q (M7 5 1) M7 else Q (M7 5 2) M7))) 60 (fun M' e hS => by
            refine r_Plan_seekPlot_8 hy ?_
            rw [if_pos ge60]
            obtain ⟨w0, h1, h2⟩ := grass P
            rw [if_neg (bst_ne h1 (by decide) (by unfold free1; rw [h2]; rfl))] at hS
            have H := H M' e
            by_cases h0 : w = 0
            · rw [if_pos h0] at H ⊢; rw [hS.2.1]; exact H
            · rw [if_neg h0] at H ⊢; rw [hS.2.2]; exact H) (fun k hk ih M' e hS => by
          have hC' := hC.eqX hy e
          refine r_Plan_seekPlot_8 hy ?_
          rw [if_neg (lt60 hk)]
          refine c_Y_bitOn hy hC' hk ?_
          have e1 : fo (bst P p) (k + 1) (-1, 0) = bst P p k (fo (bst P p) k (-1, 0)) := rfl
          simp only [e1] at ih
          generalize fo (bst P p) k (-1, 0) = a at ih hS
          have hbw := bw_lt (P := P) k
          have h2p := p2_lt hp
          change if nI (bw (who P k)) &&& ((1 : Int32) <<< (nI p &&& 31) ^^^ (-1)) = 0 then _ else _
          have hcond : (nI (bw (who P k)) &&& ((1 : Int32) <<< (nI p &&& 31) ^^^ (-1)) = 0) ↔ free1 P p k = true := by
            rw [nI_pow (by omega), nI_andn (by omega) (by omega), n_0, nI_eq (Nat.lt_of_lt_of_le (an_lt (n := 16) hbw (by decide)) (by decide)) (by decide)]
            unfold an
            rw [bs_zero]
            unfold free1
            cases ew : who P k with
            | none => simp [bw]
            | some q =>
              have hq := (who_some ew).1
              simp only [bw, Nat.testBit_two_pow]
              constructor
              · intro h
                have := h q (by omega)
                simp at this
                simp [this]
              · intro h j hj
                simp at h
                subst h
                simp
          have hta := sm_tas P p k 0
          by_cases hf : free1 P p k = true
          · rw [if_pos (hcond.mpr hf)]
            refine c_Y_talkAt hy hC' hI hp hk (by decide) ?_
            refine c_Plan_offer hS (fun M2 e2 hS2 => ?_)
            rw [nI_1]
            refine ih M2 (e.tr e2) ?_
            unfold bst
            rw [if_pos hf]
            unfold off at hS2
            by_cases ha : a.1 = -1
            · rw [if_pos ha] at hS2
              rw [if_neg (far_lt (sm_le hta (by decide)))] at hS2
              rw [if_pos (Or.inl ha), if_neg (fun z => (nI_m1 (show k < 2 ^ 31 by omega)).mp z)]
              exact hS2
            · rw [if_neg ha] at hS2
              by_cases hl : tas P p k 0 ≤ a.2
              · rw [if_pos hl] at hS2
                rw [if_neg (c := a.1 = -1 ∨ a.2 < tas P p k 0) (fun z => z.elim ha (le_not_lt hl)), if_neg ha]; exact hS2
              · rw [if_neg hl] at hS2
                rw [if_pos (Or.inr (Int32.not_le.mp hl)), if_neg (fun z => (nI_m1 (show k < 2 ^ 31 by omega)).mp z)]; exact hS2
          · rw [if_neg (fun z => hf (hcond.mp z)), nI_1]
            refine ih M' e ?_
            unfold bst
            rw [if_neg hf]; exact hS)
        exact fun M' e hS => key M' e (by simpa [fo] using hS)
  · refine c_Y_isToldN hy hv ?_
    rw [tdV_out hv] at H
    simpa using H M (eqX.rf M)
theorem c_m_best {Q : Int32 → pu_M → Prop} {v w : Int32} (hM : PM P (M 59)) (hI : PI P) (H : Q (s_best P v w) M) : pu_I L (d + 5) 225 [.ref 58, .int v, .int w] M Q := by
  refine r_m_best ?_
  unfold s_best at H
  rcases v16 v with ⟨p, hp, rfl⟩ | hv
  · refine c_m_isTold hM hp ?_
    rw [tdV_nI hp, nI_clamp (by omega)] at H
    cases ht : tl P p with
    | false => rw [ht] at H; simpa using H
    | true =>
      rw [ht] at H
      rw [if_pos rfl, if_neg (by decide)]
      refine c_m_in ?_
      by_cases hw : w < 0 ∨ 1 < w
      · rw [if_neg (fun z => z.2 hw)] at H
        rw [if_pos hw, if_pos rfl]; exact H
      · rw [if_pos ⟨rfl, hw⟩] at H
        rw [if_neg hw, if_neg (by decide)]
        have key := dn (R := fun k => ∀ j6 j7 : Value, pu_R L (d + 5) 225 29 [.ref 58, .int (nI p), .int w, .int (fo (bst P p) k (-1, 0)).1, .int (fo (bst P p) k (-1, 0)).2, .int (nI k), j6, j7] [] M (pu_qI Q)) 60 (fun j6 j7 => r_m_best_29 (by
            rw [if_pos ge60]
            by_cases h0 : w = 0
            · rw [if_pos h0] at H ⊢; exact H
            · rw [if_neg h0] at H ⊢; exact H)) (fun k hk ih j6 j7 => by
          refine r_m_best_29 ?_
          rw [if_neg (lt60 hk)]
          refine c_m_whoLies hM hI hk ?_
          have e1 : fo (bst P p) (k + 1) (-1, 0) = bst P p k (fo (bst P p) k (-1, 0)) := rfl
          rw [e1] at ih
          generalize fo (bst P p) k (-1, 0) = a at ih ⊢
          have fin : free1 P p k = true → ∀ j : Value, pu_R L (d + 5) 225 60 [.ref 58, .int (nI p), .int w, .int a.1, .int a.2, .int (nI k), .int (pI (who P k)), j] [] M (pu_qI Q) := by
            intro hf j
            refine r_m_best_60 (c_m_talkAt hM hI hp hk ?_)
            unfold bst at ih
            rw [if_pos hf] at ih
            rw [nI_1]
            by_cases ha : a.1 = -1
            · rw [if_pos (Or.inl ha)] at ih; rw [if_pos ha]; exact ih _ _
            · rw [if_neg ha]
              by_cases hl : a.2 < tas P p k 0
              · rw [if_pos (Or.inr hl)] at ih; rw [if_pos hl]; exact ih _ _
              · rw [if_neg (fun z => z.elim ha hl)] at ih; rw [if_neg hl]; exact ih _ _
          by_cases h1 : pI (who P k) = -2
          · rw [if_pos h1]
            exact fin (by unfold free1; rw [(pI_m2 (fun q => who_lt)).mp h1]; rfl) j7
          · rw [if_neg h1]
            by_cases h2 : pI (who P k) = nI p
            · rw [if_pos h2]
              exact fin (by unfold free1; rw [(pI_nI (by omega) (fun q => who_lt)).mp h2]; simp) j7
            · rw [if_neg h2, nI_1]
              have hf : free1 P p k = false := by
                unfold free1
                rw [Bool.or_eq_false_iff]
                constructor
                · rw [beq_eq_false_iff_ne]; exact fun z => h1 ((pI_m2 (fun q => who_lt)).mpr z)
                · rw [beq_eq_false_iff_ne]; exact fun z => h2 ((pI_nI (by omega) (fun q => who_lt)).mpr z)
              unfold bst at ih
              rw [if_neg (by rw [hf]; decide)] at ih
              exact ih _ _)
        exact key mq_un mq_un
  · refine c_m_isToldN hv ?_
    rw [tdV_out hv] at H
    simpa using H
end SC
