/-! move, good -/
theorem fo_inv {α : Type} {f : Nat → α → α} {I : α → Prop} (hf : ∀ k a, I a → I (f k a)) {a : α} (h : I a) : ∀ n, I (fo f n a)
  | 0 => h
  | n + 1 => hf n _ (fo_inv hf h n)
theorem fo_inv2 {α : Type} {f : Nat → α → α} {I : α → Prop} : ∀ {n : Nat}, (∀ k a, k < n → I a → I (f k a)) → ∀ {a : α}, I a → I (fo f n a)
  | 0, _, _, h => h
  | n + 1, hf, _, h => hf n _ (Nat.lt_succ_self n) (fo_inv2 (fun k a hk => hf k a (by omega)) h)
def mvi (P : Pp) (p : Nat) (t : Int32) (w : Nat) (a : Int32 × Int32 × Int32) : Int32 × Int32 × Int32 := if (who P w).isNone = true then off (nI p) (nI w) (tas P p w 0 - t) a else a
def mvo (P : Pp) (p : Nat) (a : Int32 × Int32 × Int32) : Int32 × Int32 × Int32 := match pl P p with
  | some b => fo (mvi P p (tas P p b 0)) 60 a
  | none => a
def tell3 (v : Int32) (a : Int32 × Int32 × Int32) : Int32 := if v = 0 then a.1 else if v = 1 then a.2.1 else a.2.2
def s_move (P : Pp) (v : Int32) : Int32 := if v < 0 ∨ 2 < v then -1 else if (fo (mvo P) 16 (-2, -2, 0)).1 = -2 then -2 else tell3 v (fo (mvo P) 16 (-2, -2, 0))
theorem off_m2 {p : Nat} (hp : p < 2 ^ 31) {s m : Int32} {a : Int32 × Int32 × Int32} (h : a.1 = -2 → a.2.1 = -2) : (off (nI p) s m a).1 = -2 → (off (nI p) s m a).2.1 = -2 := by
  unfold off; split
  · exact h
  · intro z; exact ((nI_m2 hp).mp z).elim
theorem mvo_m2 (P : Pp) : (fo (mvo P) 16 (-2, -2, 0)).1 = -2 → (fo (mvo P) 16 (-2, -2, 0)).2.1 = -2 := by
  refine fo_inv2 (I := fun a : Int32 × Int32 × Int32 => a.1 = -2 → a.2.1 = -2) (fun p a hp h => ?_) (fun _ => rfl)
  unfold mvo; split
  · refine fo_inv2 (I := fun a : Int32 × Int32 × Int32 => a.1 = -2 → a.2.1 = -2) (fun w a hw h => ?_) h
    unfold mvi; split
    · exact off_m2 (by omega) h
    · exact h
  · exact h
theorem v02 {w : Int32} : (w < 0 ∨ 2 < w) ∨ (¬ w < 0 ∧ w ≤ 2) := by
  by_cases h : w < 0
  · exact Or.inl (Or.inl h)
  · by_cases h2 : 2 < w
    · exact Or.inl (Or.inr h2)
    · exact Or.inr ⟨h, Int32.not_lt.mp h2⟩
section RC
variable {L d : Nat} {M : pu_M} {P : Pp} {y : Nat}
theorem c_x_move {Q : Int32 → pu_M → Prop} {v : Int32} (h9 : M 0 9 = nI y) (hy : pu_isY y) (hC : CY P M y) (hI : PI P) (H : ∀ M', eqX M M' → Q (s_move P v) M') : pu_I L (d + 5) 133 [.ref 0, .int v] M Q := by
  refine r_x_move ?_
  unfold s_move at H
  rcases v02 (w := v) with hv | ⟨hv1, hv2⟩
  · rw [if_pos hv] at H
    by_cases h0 : v < 0
    · rw [if_pos h0]; exact H M (eqX.rf M)
    · rw [if_neg h0, if_neg (lt_not_le (hv.resolve_left h0))]; exact H M (eqX.rf M)
  · rw [if_neg hv1, if_pos hv2]
    rw [if_neg (fun z => z.elim hv1 (le_not_lt hv2))] at H
    refine ⟨y, h9, hy, r_Plan_seekMove hy (c_Plan_begin ?_)⟩
    have key := dn (R := fun k => ∀ M' (j3 j4 : Value), eqX M M' → PS M' (fo (mvo P) k (-2, -2, 0)) → pu_R L (d + 4) 70 7 [.ref 5, .ref y, .int (nI k), j3, j4] [] M' (pu_qV (fun M3 => pu_I L (d + 4) 65 [.ref 5, .int v] M3 (fun x5 M4 => Q x5 M4)))) 16 (fun M' j3 j4 e hS => by
        refine r_Plan_seekMove_7 hy ?_
        rw [if_pos ge16]
        refine r_Plan_noneIfNoMore ?_
        have hm2 := mvo_m2 P
        generalize fo (mvo P) 16 (-2, -2, 0) = a at H hS hm2
        rw [hS.1]
        by_cases ha : a.1 = -2
        · rw [if_pos ha] at H ⊢
          refine c_Plan_tells (a := (-2, -2, -2)) ⟨?_, ?_, ?_⟩ ?_
          · rw [show pu_wr M' 5 2 (-2) 5 0 = M' 5 0 by simp [pu_wr], hS.1, ha]
          · rw [show pu_wr M' 5 2 (-2) 5 1 = M' 5 1 by simp [pu_wr], hS.2.1, hm2 ha]
          · simp [pu_wr]
          · have := H _ (e.wr (k := 5) (i := 2) (x := -2) (by decide) (by decide))
            simpa using this
        · rw [if_neg ha] at H ⊢
          exact c_Plan_tells hS (H M' e)) (fun k hk ih M' j3 j4 e hS => by
      have hC' := hC.eqX hy e
      refine r_Plan_seekMove_7 hy ?_
      rw [if_neg (lt16 hk)]
      have e1 : fo (mvo P) (k + 1) (-2, -2, 0) = mvo P k (fo (mvo P) k (-2, -2, 0)) := rfl
      rw [e1] at ih
      generalize fo (mvo P) k (-2, -2, 0) = a at ih hS
      refine c_Y_isLaid hy hC' hI hk ?_
      cases eb : pl P k with
      | none =>
        unfold mvo at ih
        rw [eb] at ih
        simp only [Option.isSome_none, Bool.false_eq_true, if_false]
        rw [if_pos trivial]
        refine r_Plan_seekMove_41 hy ?_
        rw [if_neg (by decide)]
        refine c_Y_isLaid hy hC' hI hk ?_
        rw [eb]
        simp only [Option.isSome_none, Bool.false_eq_true, if_false]
        rw [if_pos trivial, nI_1]
        exact ih M' _ _ e hS
      | some b =>
        have hb := ((hI.1 k hk).2.2 b eb).1
        unfold mvo at ih
        rw [eb] at ih
        simp only [Option.isSome_some, if_true]
        rw [if_neg (by decide)]
        simp (disch := omega) only [nI_clamp, inb_nI, true_and, (hC'.1 k hk).2.2, eb, pI]
        refine c_Y_talkAt hy hC' hI hk hb (by decide) ?_
        exact dn (R := fun j => ∀ M2, eqX M M2 → PS M2 (fo (mvi P k (tas P k b 0)) j a) → pu_R L (d + 4) 70 41 [.ref 5, .ref y, .int (nI k), .int (tas P k b 0), .int (nI j)] [] M2 (pu_qV (fun M3 => pu_I L (d + 4) 65 [.ref 5, .int v] M3 (fun x5 M4 => Q x5 M4)))) 60 (fun M2 e2 hS2 => by
            refine r_Plan_seekMove_41 hy ?_
            rw [if_pos ge60, nI_1]
            exact ih M2 _ _ e2 hS2) (fun j hj ihj M2 e2 hS2 => by
          have hC2 := hC.eqX hy e2
          refine r_Plan_seekMove_41 hy ?_
          rw [if_neg (lt60 hj)]
          refine c_Y_isLaid hy hC2 hI hk ?_
          rw [eb]
          simp only [Option.isSome_some, if_true]
          rw [if_neg (by decide)]
          refine c_Y_bitOn hy hC2 hj ?_
          have ej : fo (mvi P k (tas P k b 0)) (j + 1) a = mvi P k (tas P k b 0) j (fo (mvi P k (tas P k b 0)) j a) := rfl
          rw [ej] at ihj
          generalize fo (mvi P k (tas P k b 0)) j a = c at ihj hS2
          unfold mvi at ihj
          cases ew : who P j with
          | none =>
            rw [ew] at ihj
            simp only [Option.isNone_none, if_true] at ihj
            rw [if_pos (by decide)]
            refine c_Y_talkAt hy hC2 hI hk hj (by decide) (c_Plan_offer hS2 (fun M3 e3 hS3 => ?_))
            rw [nI_1]
            exact ihj M3 (e2.tr e3) hS3
          | some q =>
            rw [ew] at ihj
            simp only [Option.isNone_some, Bool.false_eq_true, if_false] at ihj
            have hq := (who_some ew).1
            have hne : ¬ nI (2 ^ q) = 0 := nI_ne0 (Nat.two_pow_pos q) (by have := p2_lt hq; omega)
            dsimp only
            rw [if_neg hne, nI_1]
            exact ihj M2 e2 hS2) M' e hS)
    exact fun M' e hS => key M' _ _ e hS
theorem c_m_move {Q : Int32 → pu_M → Prop} {v : Int32} (hM : PM P (M 59)) (hI : PI P) (H : Q (s_move P v) M) : pu_I L (d + 5) 226 [.ref 58, .int v] M Q := by
  refine r_m_move (c_m_in ?_)
  unfold s_move at H
  by_cases hv : v < 0 ∨ 2 < v
  · rw [if_pos hv] at H; rw [if_pos hv, if_pos rfl]; exact H
  · rw [if_neg hv] at H
    rw [if_neg hv, if_neg (by decide)]
    have key := dn (R := fun k => ∀ (j6 j7 : Value), pu_R L (d + 5) 226 23 [.ref 58, .int v, .int (fo (mvo P) k (-2, -2, 0)).1, .int (fo (mvo P) k (-2, -2, 0)).2.1, .int (fo (mvo P) k (-2, -2, 0)).2.2, .int (nI k), j6, j7] [] M (pu_qI Q)) 16 (fun j6 j7 => by
        refine r_m_move_23 ?_
        rw [if_pos ge16]
        generalize fo (mvo P) 16 (-2, -2, 0) = a at H ⊢
        by_cases ha : a.1 = -2
        · rw [if_pos ha] at H ⊢; exact H
        · rw [if_neg ha] at H ⊢
          unfold tell3 at H
          by_cases h0 : v = 0
          · rw [if_pos h0] at H ⊢; exact H
          · rw [if_neg h0] at H ⊢
            by_cases h1 : v = 1
            · rw [if_pos h1] at H ⊢; exact H
            · rw [if_neg h1] at H ⊢; exact H) (fun k hk ih j6 j7 => by
      refine r_m_move_23 ?_
      rw [if_neg (lt16 hk)]
      have e1 : fo (mvo P) (k + 1) (-2, -2, 0) = mvo P k (fo (mvo P) k (-2, -2, 0)) := rfl
      rw [e1] at ih
      generalize fo (mvo P) k (-2, -2, 0) = a at ih ⊢
      unfold mvo at ih
      cases eb : pl P k with
      | none =>
        rw [eb] at ih
        refine r_m_move_33 ?_
        rw [if_neg (by decide)]
        refine c_m_isLaid hM hI hk ?_
        rw [eb]
        simp only [Option.isSome_none, Bool.false_eq_true, if_false]
        rw [if_pos trivial, nI_1]
        exact ih _ _
      | some b =>
        have hb := ((hI.1 k hk).2.2 b eb).1
        rw [eb] at ih
        have h4 := (hM.1 k hk).2.2.2
        rw [eb] at h4
        exact dn (R := fun j => ∀ j7 : Value, pu_R L (d + 5) 226 33 [.ref 58, .int v, .int (fo (mvi P k (tas P k b 0)) j a).1, .int (fo (mvi P k (tas P k b 0)) j a).2.1, .int (fo (mvi P k (tas P k b 0)) j a).2.2, .int (nI k), .int (nI j), j7] [] M (pu_qI Q)) 60 (fun j7 => by
            refine r_m_move_33 ?_
            rw [if_pos ge60, nI_1]
            exact ih _ _) (fun j hj ihj j7 => by
          refine r_m_move_33 ?_
          rw [if_neg (lt60 hj)]
          refine c_m_isLaid hM hI hk ?_
          rw [eb]
          simp only [Option.isSome_some, if_true]
          rw [if_neg (by decide)]
          refine c_m_whoLies hM hI hj ?_
          have ej : fo (mvi P k (tas P k b 0)) (j + 1) a = mvi P k (tas P k b 0) j (fo (mvi P k (tas P k b 0)) j a) := rfl
          rw [ej] at ihj
          generalize fo (mvi P k (tas P k b 0)) j a = c at ihj ⊢
          unfold mvi at ihj
          cases ew : who P j with
          | none =>
            rw [ew] at ihj
            simp only [Option.isNone_none, if_true] at ihj
            rw [if_pos (show pI none = -2 from rfl)]
            refine c_m_talkAt hM hI hk hj ?_
            simp (disch := omega) only [n_48, nI_add, nI_clamp, inb_nI, true_and, h4, pI]
            refine c_m_talkAt hM hI hk hb ?_
            unfold off at ihj
            by_cases hl : c.2.2 < tas P k j 0 - tas P k b 0
            · rw [if_neg (lt_not_le hl)] at ihj; rw [if_pos hl, nI_1]; exact ihj _
            · rw [if_pos (Int32.not_lt.mp hl)] at ihj; rw [if_neg hl, nI_1]; exact ihj _
          | some q =>
            rw [ew] at ihj
            simp only [Option.isNone_some, Bool.false_eq_true, if_false] at ihj
            rw [if_neg (show ¬ pI (some q) = -2 from fun z => (nI_m2 (who_lt ew)).mp z), nI_1]
            exact ihj _) j7)
    exact key mq_un mq_un
end RC
