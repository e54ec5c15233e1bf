/-! those of a set by their numbers: the i-th of it -/
def mbk (s : Nat) : Nat → Nat → Nat
  | 0 => fun _ => 0
  | k + 1 => if s.testBit k = true then fset (mbk s k) (cnt (fun j => s.testBit j) k) k else mbk s k
def mb (s : Nat) : Nat → Nat := mbk s 16
theorem cnt_le2 {A : Nat → Bool} : ∀ {k n : Nat}, k ≤ n → cnt A k ≤ cnt A n := by
  intro k n h
  obtain ⟨j, rfl⟩ : ∃ j, n = k + j := ⟨n - k, by omega⟩
  rw [cnt_add]
  omega
theorem mbk_t {s k : Nat} (h : s.testBit k = true) : mbk s (k + 1) = fset (mbk s k) (cnt (fun j => s.testBit j) k) k := by
  show (if s.testBit k = true then _ else _) = _
  rw [if_pos h]
theorem mbk_f {s k : Nat} (h : s.testBit k = false) : mbk s (k + 1) = mbk s k := by
  show (if s.testBit k = true then _ else _) = _
  rw [if_neg (by rw [h]; decide)]
theorem mbk_ok (s : Nat) : ∀ k, (∀ i, i < cnt (fun j => s.testBit j) k → mbk s k i < k ∧ s.testBit (mbk s k i) = true) ∧ (∀ i j, i < j → j < cnt (fun j => s.testBit j) k → mbk s k i < mbk s k j) ∧ (∀ p, p < k → s.testBit p = true → ∃ i, i < cnt (fun j => s.testBit j) k ∧ mbk s k i = p)
  | 0 => ⟨fun i hi => absurd hi (by simp [cnt]), fun i j _ hj => absurd hj (by simp [cnt]), fun p hp => absurd hp (by omega)⟩
  | k + 1 => by
    obtain ⟨h1, h2, h3⟩ := mbk_ok s k
    cases hb : s.testBit k with
    | false =>
      rw [mbk_f hb, cnt_f (P := fun j => s.testBit j) hb]
      refine ⟨fun i hi => ⟨by have := (h1 i hi).1; omega, (h1 i hi).2⟩, h2, fun p hp hs => ?_⟩
      have : p ≠ k := fun z => by rw [z, hb] at hs; exact absurd hs (by decide)
      exact h3 p (by omega) hs
    | true =>
      rw [mbk_t hb, cnt_t (P := fun j => s.testBit j) hb]
      refine ⟨fun i hi => ?_, fun i j hij hj => ?_, fun p hp hs => ?_⟩
      · by_cases e : i = cnt (fun j => s.testBit j) k
        · rw [e, fset_s]; exact ⟨by omega, hb⟩
        · rw [fset_n e]
          have := h1 i (by omega)
          exact ⟨by omega, this.2⟩
      · rw [fset_n (show i ≠ cnt (fun j => s.testBit j) k by omega)]
        by_cases e : j = cnt (fun j => s.testBit j) k
        · rw [e, fset_s]; exact (h1 i (by omega)).1
        · rw [fset_n e]; exact h2 i j hij (by omega)
      · by_cases e : p = k
        · exact ⟨_, Nat.lt_succ_self _, by rw [fset_s, e]⟩
        · obtain ⟨i, hi, he⟩ := h3 p (by omega) hs
          exact ⟨i, by omega, by rw [fset_n (by omega)]; exact he⟩
theorem mb_lt {s i : Nat} (h : i < pc s) : mb s i < 16 ∧ s.testBit (mb s i) = true := (mbk_ok s 16).1 i h
theorem mb_mono {s i j : Nat} (hij : i < j) (h : j < pc s) : mb s i < mb s j := (mbk_ok s 16).2.1 i j hij h
theorem mb_inj {s i j : Nat} (hi : i < pc s) (hj : j < pc s) (h : mb s i = mb s j) : i = j := by
  rcases Nat.lt_trichotomy i j with z | z | z
  · have := mb_mono z hj; omega
  · exact z
  · have := mb_mono z hi; omega
theorem mb_ex {s p : Nat} (hp : p < 16) (h : s.testBit p = true) : ∃ i, i < pc s ∧ mb s i = p := (mbk_ok s 16).2.2 p hp h
def coS (k : Nat) : Prop := 6 ≤ k ∧ k ≤ 12
theorem eqX_co {M M' : pu_M} (o : only coS M M') : eqX M M' := fun k hk => o k (by unfold coS; omega)
theorem CY_co {P : Pp} {M M' : pu_M} {y : Nat} (hy : pu_isY y) (h : CY P M y) (o : only coS M M') : CY P M' y := CY.eqX hy h (eqX_co o)
/-- the company holds a set -/
def GA (P : Pp) (s : Nat) (M : pu_M) : Prop := M 6 8 = nI (pc s) ∧ (∀ i, i < pc s → M 7 i = nI (mb s i)) ∧ (∀ i j, i < pc s → j < pc s → M 8 (i * 10 + j) = tk P (mb s i) (mb s j))
section GA
variable {L d : Nat} {M : pu_M} {P : Pp} {y s : Nat}
theorem c_Co_gather {Q : pu_M → Prop} (hy : pu_isY y) (hC : CY P M y) (hI : PI P) (hs : s < 65536) (hn : pc s ≤ 10) (H : ∀ M', GA P s M' → only coS M M' → Q M') : pu_V L (d + 3) 8 [.ref 6, .ref y, .int (nI s)] M Q := by
  have hrow : ∀ (j i : Nat) (M' : pu_M) (v4 : Value), i + j = pc s → M' 6 8 = nI (pc s) → (∀ i, i < pc s → M' 7 i = nI (mb s i)) → (∀ a b, a < i → b < pc s → M' 8 (a * 10 + b) = tk P (mb s a) (mb s b)) → only coS M M' → pu_R L (d + 3) 8 59 [.ref 6, .ref y, .int (nI s), .int (nI i), v4] [] M' (pu_qV Q) := by
    intro j
    induction j with
    | zero =>
      intro i M' v4 hi a1 a2 a3 o
      refine r_Company_gather_59 hy ?_
      rw [a1, if_pos (by rw [nI_leI (by omega) (by omega)]; omega)]
      exact H M' ⟨a1, a2, fun a b ha hb => a3 a b (by omega) hb⟩ o
    | succ j ih =>
      intro i M' v4 hi a1 a2 a3 o
      refine r_Company_gather_59 hy ?_
      rw [a1, if_neg (by rw [nI_leI (by omega) (by omega)]; omega)]
      have hin : ∀ (jj b : Nat) (M' : pu_M), b + jj = pc s → M' 6 8 = nI (pc s) → (∀ i, i < pc s → M' 7 i = nI (mb s i)) → (∀ a b, a < i → b < pc s → M' 8 (a * 10 + b) = tk P (mb s a) (mb s b)) → (∀ c, c < b → M' 8 (i * 10 + c) = tk P (mb s i) (mb s c)) → only coS M M' → pu_R L (d + 3) 8 70 [.ref 6, .ref y, .int (nI s), .int (nI i), .int (nI b)] [] M' (pu_qV Q) := by
        intro jj
        induction jj with
        | zero =>
          intro b M' hb a1 a2 a3 a4 o
          refine r_Company_gather_70 hy ?_
          rw [a1, if_pos (by rw [nI_leI (by omega) (by omega)]; omega), nI_1]
          refine ih (i + 1) M' _ (by omega) a1 a2 ?_ o
          intro a c ha hc
          by_cases e : a = i
          · subst e; exact a4 c (by omega)
          · exact a3 a c (by omega) hc
        | succ jj ih2 =>
          intro b M' hb a1 a2 a3 a4 o
          have hi2 : i < pc s := by omega
          have hb2 : b < pc s := by omega
          refine r_Company_gather_70 hy ?_
          rw [a1, if_neg (by rw [nI_leI (by omega) (by omega)]; omega)]
          refine ⟨inb_nI (by omega) (by decide), inb_nI (by omega) (by decide), ?_⟩
          rw [nI_clamp (show i < 2 ^ 31 by omega), nI_clamp (show b < 2 ^ 31 by omega), a2 i hi2, a2 b hb2]
          refine c_Y_talkOf hy (CY_co hy hC o) hI (mb_lt hi2).1 (mb_lt hb2).1 ?_
          rw [n_10, pk_mul, nI_add, nI_clamp (show i * 10 + b < 2 ^ 31 by omega), nI_1]
          refine ⟨inb_nI (by omega) (by decide), ?_⟩
          refine ih2 (b + 1) _ (by omega) ?_ ?_ ?_ ?_ (o.wr (by unfold coS; omega))
          · rw [pu_wr_ne (by decide)]; exact a1
          · intro k hk; rw [pu_wr_ne (by decide)]; exact a2 k hk
          · intro a c ha hc; rw [pu_wr_self, upd_n (by omega)]; exact a3 a c ha hc
          · intro c hc
            rw [pu_wr_self]
            by_cases e : c = b
            · subst e; exact upd_s
            · rw [upd_n (by omega)]; exact a4 c (by omega)
      exact hin (pc s) 0 M' (by omega) a1 a2 a3 (fun c hc => absurd hc (by omega)) o
  have hmem : ∀ (j k : Nat) (M' : pu_M), k + j = 16 → M' 6 8 = nI (cnt (fun j => s.testBit j) k) → (∀ i, i < cnt (fun j => s.testBit j) k → M' 7 i = nI (mbk s k i)) → only coS M M' → pu_R L (d + 3) 8 7 [.ref 6, .ref y, .int (nI s), .int (nI k), mq_un] [] M' (pu_qV Q) := by
    intro j
    induction j with
    | zero =>
      intro k M' hk a1 a2 o
      obtain rfl : k = 16 := by omega
      refine r_Company_gather_7 hy ?_
      rw [if_pos ge16]
      exact hrow (pc s) 0 M' _ (by omega) a1 a2 (fun a b ha => absurd ha (by omega)) o
    | succ j ih =>
      intro k M' hk a1 a2 o
      refine r_Company_gather_7 hy ?_
      rw [if_neg (lt16 (by omega)), nI_bit (by omega) (by omega)]
      cases hb : s.testBit k with
      | false =>
        rw [if_neg (by decide), nI_1]
        refine ih (k + 1) M' (by omega) ?_ ?_ o
        · rw [cnt_f (P := fun j => s.testBit j) hb]; exact a1
        · rw [cnt_f (P := fun j => s.testBit j) hb, mbk_f hb]; exact a2
      | true =>
        have hc : cnt (fun j => s.testBit j) k + 1 ≤ pc s := by
          have := cnt_le2 (A := fun j => s.testBit j) (show k + 1 ≤ 16 by omega)
          rw [cnt_t (P := fun j => s.testBit j) hb] at this
          exact this
        rw [if_pos (by decide), a1, if_neg (by rw [n_10, nI_leI (by omega) (by omega)]; omega)]
        refine ⟨inb_nI (by omega) (by decide), ?_⟩
        rw [nI_clamp (show cnt (fun j => s.testBit j) k < 2 ^ 31 by omega), pu_wr_ne (show (6 : Nat) ≠ 7 by decide), a1, nI_1, nI_1]
        refine ih (k + 1) _ (by omega) ?_ ?_ ((o.wr (by unfold coS; omega)).wr (by unfold coS; omega))
        · rw [cnt_t (P := fun j => s.testBit j) hb, pu_wr_self]; exact upd_s
        · rw [cnt_t (P := fun j => s.testBit j) hb, mbk_t hb]
          intro i hi
          rw [pu_wr_ne (show (7 : Nat) ≠ 6 by decide), pu_wr_self]
          by_cases e : i = cnt (fun j => s.testBit j) k
          · rw [e, upd_s, fset_s]
          · rw [upd_n e, fset_n e]; exact a2 i (by omega)
  refine r_Company_gather hy (hmem 16 0 _ rfl ?_ (fun i hi => absurd hi (by simp [cnt])) ((only.rf _ _).wr (by unfold coS; omega)))
  rw [pu_wr_self]; exact upd_s
end GA
