/-! sets that spread; rank, alike; what the calls on people answer -/
theorem cnt_t {P : Nat → Bool} {k : Nat} (h : P k = true) : cnt P (k + 1) = cnt P k + 1 := by simp [cnt, h]
theorem cnt_f {P : Nat → Bool} {k : Nat} (h : P k = false) : cnt P (k + 1) = cnt P k := by simp [cnt, h]
theorem cnt_mono {A B : Nat → Bool} : ∀ {n : Nat}, (∀ k, k < n → A k = true → B k = true) → cnt A n ≤ cnt B n
  | 0, _ => Nat.le_refl _
  | n + 1, h => by
    simp only [cnt]
    have := cnt_mono (A := A) (B := B) (n := n) (fun k hk => h k (by omega))
    have h2 := h n (by omega)
    cases ha : A n <;> cases hb : B n <;> simp_all <;> omega
theorem cnt_lt {A B : Nat → Bool} : ∀ {n : Nat}, (∀ k, k < n → A k = true → B k = true) → (∃ k, k < n ∧ B k = true ∧ A k = false) → cnt A n < cnt B n
  | 0, _, ⟨k, hk, _⟩ => by omega
  | n + 1, h, ⟨k, hk, hb, ha⟩ => by
    simp only [cnt]
    have hm := cnt_mono (A := A) (B := B) (n := n) (fun k hk => h k (by omega))
    by_cases e : k = n
    · subst e; rw [ha, hb]; simp; omega
    · have := cnt_lt (A := A) (B := B) (n := n) (fun k hk => h k (by omega)) ⟨k, by omega, hb, ha⟩
      have h2 := h n (by omega)
      cases hA : A n <;> cases hB : B n <;> simp_all <;> omega
theorem wbs_lt (P : Pp) (s : Nat) : wbs P s < 65536 := bs_lt _ 16
theorem wbs_sup {P : Pp} {s q : Nat} (hq : q < 16) (h : s.testBit q = true) : (wbs P s).testBit q = true := by
  unfold wbs; rw [bs_bit]; simp [hq, h]
theorem wbs_grow {P : Pp} {s : Nat} (hs : s < 65536) (h : wbs P s ≠ s) : pc s < pc (wbs P s) := by
  unfold pc
  refine cnt_lt (fun k hk h => wbs_sup hk h) ?_
  apply Classical.byContradiction
  intro hn
  apply h
  apply Nat.eq_of_testBit_eq
  intro i
  by_cases hi : i < 16
  · cases h1 : s.testBit i with
    | true => exact wbs_sup hi h1
    | false =>
      cases h2 : (wbs P s).testBit i with
      | false => rfl
      | true => exact absurd ⟨i, hi, h2, h1⟩ hn
  · rw [Nat.testBit_lt_two_pow (Nat.lt_of_lt_of_le (wbs_lt P s) (Nat.pow_le_pow_right (n := 2) (by decide) (show 16 ≤ i by omega))), Nat.testBit_lt_two_pow (Nat.lt_of_lt_of_le hs (Nat.pow_le_pow_right (n := 2) (by decide) (show 16 ≤ i by omega)))]
def itw (P : Pp) (s : Nat) : Nat → Nat
  | 0 => s
  | k + 1 => wbs P (itw P s k)
theorem itw_lt {P : Pp} {s : Nat} (hs : s < 65536) : ∀ k, itw P s k < 65536
  | 0 => hs
  | k + 1 => wbs_lt P _
theorem itw_stay {P : Pp} {s k : Nat} (h : wbs P (itw P s k) = itw P s k) : ∀ j, itw P s (k + j) = itw P s k
  | 0 => rfl
  | j + 1 => by show wbs P (itw P s (k + j)) = _; rw [itw_stay h j, h]
theorem itw_pc {P : Pp} {s : Nat} (hs : s < 65536) : ∀ k, (∀ j, j < k → wbs P (itw P s j) ≠ itw P s j) → pc s + k ≤ pc (itw P s k)
  | 0, _ => Nat.le_refl _
  | k + 1, h => by
    have := itw_pc hs k (fun j hj => h j (by omega))
    have h2 := wbs_grow (itw_lt hs k) (h k (by omega))
    show _ ≤ pc (wbs P (itw P s k))
    omega
theorem pc_le (x : Nat) : pc x ≤ 16 := cnt_le _ 16
theorem itw_stable {P : Pp} {s : Nat} (hs : s < 65536) {n : Nat} (hn : 16 < pc s + n + 1) : wbs P (itw P s n) = itw P s n := by
  apply Classical.byContradiction
  intro h
  have key : ∀ j, j < n + 1 → wbs P (itw P s j) ≠ itw P s j := by
    intro j hj z
    apply h
    have e := itw_stay z (n - j)
    have e2 := itw_stay z (n - j + 1)
    rw [show j + (n - j) = n by omega] at e
    rw [show j + (n - j + 1) = n + 1 by omega] at e2
    show itw P s (n + 1) = _
    rw [e, e2]
  have := itw_pc hs (n + 1) key
  have := pc_le (itw P s (n + 1))
  omega
theorem wbs_zero (P : Pp) : wbs P 0 = 0 := bs_zero.mpr (fun k _ => by simp)
theorem itw_st16 {P : Pp} {s : Nat} (hs : s < 65536) : wbs P (itw P s 16) = itw P s 16 := itw_stable hs (by omega)
/-- how often it grew -/
def itn (P : Pp) (s n : Nat) : Nat := cnt (fun k => decide (itw P s (k + 1) ≠ itw P s k)) n
theorem itn_stay {P : Pp} {s k : Nat} (h : wbs P (itw P s k) = itw P s k) : ∀ j, itn P s (k + j) = itn P s k
  | 0 => rfl
  | j + 1 => by
    have e1 := itw_stay h j
    have e2 := itw_stay h (j + 1)
    show itn P s (k + j) + (if decide (itw P s (k + j + 1) ≠ itw P s (k + j)) = true then 1 else 0) = _
    rw [itn_stay h j, e1, show itw P s (k + j + 1) = itw P s k from e2]
    simp
theorem itn_le (P : Pp) (s n : Nat) : itn P s n ≤ n := cnt_le _ n
/-- told, of any number -/
def tdV (P : Pp) (v : Int32) : Bool := !(decide (v < 0 ∨ 15 < v)) && tl P v.toNatClampNeg
theorem in15 {p : Nat} (hp : p < 16) : ¬ (nI p < 0 ∨ 15 < nI p) := by
  intro h
  rcases h with h | h
  · exact nI_pos (by omega) h
  · rw [n_15, nI_ltI (by omega) (by omega)] at h; omega
theorem tdV_nI {P : Pp} {p : Nat} (hp : p < 16) : tdV P (nI p) = tl P p := by
  unfold tdV; rw [decide_eq_false (in15 hp), nI_clamp (by omega)]; rfl
theorem tdV_out {P : Pp} {v : Int32} (h : v < 0 ∨ 15 < v) : tdV P v = false := by
  unfold tdV; rw [decide_eq_true h]; rfl
def rk (P : Pp) (p : Nat) : Nat := cnt (fun q => tl P q && (decide (md P p < md P q) || (decide (md P q = md P p) && decide (q < p)))) 16
def s_personIs (P : Pp) (v w : Int32) : Int32 := if tdV P v = true then (if w = 0 then nI (tp P v.toNatClampNeg) else if w = 1 then nI (md P v.toNatClampNeg) else if w = 2 then pI (pl P v.toNatClampNeg) else if w = 3 then nI (bs (bsd P v.toNatClampNeg) 16) else if w = 4 then nI (rk P v.toNatClampNeg) else -1) else -1
def s_talk (P : Pp) (v w : Int32) : Int32 := if tdV P v = true ∧ tdV P w = true ∧ ¬ v = w then tk P v.toNatClampNeg w.toNatClampNeg else -1000
def fo {α : Type} (f : Nat → α → α) : Nat → α → α
  | 0, a => a
  | n + 1, a => f n (fo f n a)
/-- who is most like p so far, and by how much he isn't -/
def alk (P : Pp) (p k : Nat) (a : Int32 × Int32) : Int32 × Int32 := if k = p ∨ tl P k = false then a else if a.1 = -2 ∨ nI (pc (tp P p ^^^ tp P k)) < a.2 then (nI k, nI (pc (tp P p ^^^ tp P k))) else a
def s_alike (P : Pp) (v w : Int32) : Int32 := if tdV P v = true ∧ ¬ (w < 0 ∨ 1 < w) then (if w = 0 then (fo (alk P v.toNatClampNeg) 16 (-2, -2)).1 else (fo (alk P v.toNatClampNeg) 16 (-2, -2)).2) else -1
def hav (P : Pp) (t : Nat) : Nat := bs (fun p => tl P p && (tp P p).testBit t) 16
def s_heard (P : Pp) (v w : Int32) : Int32 := if v < 0 ∨ 15 < v ∨ w < 0 ∨ 1 < w then -1 else if w = 0 then nI (itn P (hav P v.toNatClampNeg) 16) else nI (itw P (hav P v.toNatClampNeg) 16)
section WC
variable {L d : Nat} {M : pu_M} {P : Pp} {y : Nat}
theorem c_Y_rank {Q : Int32 → pu_M → Prop} {p : Nat} (hy : pu_isY y) (hC : CY P M y) (hI : PI P) (hp : p < 16) (H : Q (nI (rk P p)) M) : pu_I L (d + 3) 107 [.ref y, .int (nI p)] M Q := by
  have hmp := (hI.1 p hp).2.1
  have key := dn (R := fun k => ∀ j : Value, pu_R L (d + 3) 107 4 [.ref y, .int (nI p), .int (nI (cnt (fun q => tl P q && (decide (md P p < md P q) || (decide (md P q = md P p) && decide (q < p)))) k)), .int (nI k), j] [] M (pu_qI Q)) 16 (fun j => r_Yard_rank_4 hy (by rw [if_pos ge16]; exact H)) (fun k hk ih j => by
    refine r_Yard_rank_4 hy ?_
    have hmk := (hI.1 k hk).2.1
    rw [if_neg (lt16 hk)]
    simp (disch := omega) only [nI_clamp, inb_nI, true_and, (hC.1 p hp).2.1, (hC.1 k hk).2.1, nI_ltI, nI_eq, nI_leI]
    have fin : ∀ (b : Bool), b = (decide (md P p < md P k) || (decide (md P k = md P p) && decide (k < p))) → pu_R L (d + 3) 107 50 [.ref y, .int (nI p), .int (nI (cnt (fun q => tl P q && (decide (md P p < md P q) || (decide (md P q = md P p) && decide (q < p)))) k)), .int (nI k), j] [.int (bI b)] M (pu_qI Q) := by
      intro b hb
      refine r_Yard_rank_50 hy (c_Y_isTold hy hC hk ?_)
      have ih' := ih (.int (bI b))
      cases ht : tl P k with
      | false =>
        rw [cnt_f (by simp [ht])] at ih'
        rw [if_neg (by decide), if_pos rfl, add0, nI_1]
        exact ih'
      | true =>
        rw [if_pos rfl, if_neg (by decide)]
        cases b with
        | false => rw [cnt_f (by simp only [ht, ← hb, Bool.and_false])] at ih'; rw [if_pos (by decide), add0, nI_1]; exact ih'
        | true => rw [cnt_t (by simp only [ht, ← hb, Bool.and_true])] at ih'; rw [if_neg (by decide), nI_1, nI_1]; exact ih'
    by_cases h1 : md P p < md P k
    · rw [if_pos h1]; exact fin true (by simp [h1])
    · rw [if_neg h1]
      by_cases h2 : md P k = md P p
      · rw [if_pos h2]
        by_cases h3 : p ≤ k
        · rw [if_pos h3]; exact fin false (by simp [h1, show ¬ k < p by omega])
        · rw [if_neg h3]; exact fin true (by simp [h2, show k < p by omega])
      · rw [if_neg h2]; exact fin false (by simp [h1, h2]))
  exact r_Yard_rank hy (key mq_un)
theorem c_m_rankOf {Q : Int32 → pu_M → Prop} {p : Nat} (hM : PM P (M 59)) (hI : PI P) (hp : p < 16) (H : Q (nI (rk P p)) M) : pu_I L (d + 3) 220 [.ref 58, .int (nI p)] M Q := by
  have hmp := (hI.1 p hp).2.1
  refine r_m_rankOf (dn (R := fun k => pu_R L (d + 3) 220 4 [.ref 58, .int (nI p), .int (nI (cnt (fun q => tl P q && (decide (md P p < md P q) || (decide (md P q = md P p) && decide (q < p)))) k)), .int (nI k)] [] M (pu_qI Q)) 16 (r_m_rankOf_4 (by rw [if_pos ge16]; exact H)) (fun k hk ih => ?_))
  refine r_m_rankOf_4 ?_
  have hmk := (hI.1 k hk).2.1
  rw [if_neg (lt16 hk)]
  refine c_m_isTold hM hk ?_
  cases ht : tl P k with
  | false =>
    rw [cnt_f (by simp [ht])] at ih
    rw [if_neg (by decide), if_pos rfl, nI_1]
    exact ih
  | true =>
    rw [if_pos rfl, if_neg (by decide)]
    simp (disch := omega) only [n_32, nI_add, nI_clamp, inb_nI, true_and, (hM.1 p hp).2.2.1, (hM.1 k hk).2.2.1, nI_ltI, nI_eq, nI_leI, nI_1]
    by_cases h1 : md P p < md P k
    · rw [if_pos h1]; rw [cnt_t (by simp [ht, h1])] at ih; exact ih
    · rw [if_neg h1]
      by_cases h2 : md P k = md P p
      · rw [if_pos h2]
        by_cases h3 : p ≤ k
        · rw [if_pos h3]; rw [cnt_f (by simp [ht, h1, h2, show ¬ k < p by omega])] at ih; exact ih
        · rw [if_neg h3]; rw [cnt_t (by simp [ht, h1, h2, show k < p by omega])] at ih; exact ih
      · rw [if_neg h2]; rw [cnt_f (by simp [ht, h1, h2])] at ih; exact ih
theorem c_x_personIs {Q : Int32 → pu_M → Prop} {v w : Int32} (h9 : M 0 9 = nI y) (hy : pu_isY y) (hC : CY P M y) (hI : PI P) (H : Q (s_personIs P v w) M) : pu_I L (d + 4) 129 [.ref 0, .int v, .int w] M Q := by
  refine r_x_personIs ⟨y, h9, hy, ?_⟩
  rcases v16 v with ⟨p, hp, rfl⟩ | hv
  · refine c_Y_isTold hy hC hp ?_
    unfold s_personIs at H
    rw [tdV_nI hp, nI_clamp (by omega)] at H
    cases ht : tl P p with
    | false => rw [ht] at H; simpa using H
    | true =>
      rw [ht, if_pos rfl] at H
      rw [if_pos rfl, if_neg (by decide)]
      obtain ⟨a1, a2, a3⟩ := hC.1 p hp
      by_cases h0 : w = 0
      · rw [if_pos h0] at H ⊢; refine ⟨y, h9, hy, inb_nI hp (by decide), ?_⟩; rw [nI_clamp (by omega), a1]; exact H
      rw [if_neg h0] at H ⊢
      by_cases h1 : w = 1
      · rw [if_pos h1] at H ⊢; refine ⟨y, h9, hy, inb_nI hp (by decide), ?_⟩; rw [nI_clamp (by omega), a2]; exact H
      rw [if_neg h1] at H ⊢
      by_cases h2 : w = 2
      · rw [if_pos h2] at H ⊢; refine ⟨y, h9, hy, inb_nI hp (by decide), ?_⟩; rw [nI_clamp (by omega), a3]; exact H
      rw [if_neg h2] at H ⊢
      by_cases h3 : w = 3
      · rw [if_pos h3] at H ⊢; exact ⟨y, h9, hy, c_Y_beside hy hC hI hp H⟩
      rw [if_neg h3] at H ⊢
      by_cases h4 : w = 4
      · rw [if_pos h4] at H ⊢; exact ⟨y, h9, hy, c_Y_rank hy hC hI hp H⟩
      rw [if_neg h4] at H ⊢
      exact H
  · refine c_Y_isToldN hy hv ?_
    unfold s_personIs at H
    rw [tdV_out hv] at H
    simpa using H
theorem c_m_personIs {Q : Int32 → pu_M → Prop} {v w : Int32} (hM : PM P (M 59)) (hI : PI P) (H : Q (s_personIs P v w) M) : pu_I L (d + 5) 221 [.ref 58, .int v, .int w] M Q := by
  refine r_m_personIs ?_
  rcases v16 v with ⟨p, hp, rfl⟩ | hv
  · refine c_m_isTold hM hp ?_
    unfold s_personIs at H
    rw [tdV_nI hp, nI_clamp (by omega)] at H
    cases ht : tl P p with
    | false => rw [ht] at H; simpa using H
    | true =>
      rw [ht, if_pos rfl] at H
      rw [if_pos rfl, if_neg (by decide)]
      obtain ⟨-, a1, a2, a3⟩ := hM.1 p hp
      by_cases h0 : w = 0
      · rw [if_pos h0] at H ⊢; simp (disch := omega) only [n_16, nI_add, nI_clamp, inb_nI, true_and, a1]; exact H
      rw [if_neg h0] at H ⊢
      by_cases h1 : w = 1
      · rw [if_pos h1] at H ⊢; simp (disch := omega) only [n_32, nI_add, nI_clamp, inb_nI, true_and, a2]; exact H
      rw [if_neg h1] at H ⊢
      by_cases h2 : w = 2
      · rw [if_pos h2] at H ⊢; simp (disch := omega) only [n_48, nI_add, nI_clamp, inb_nI, true_and, a3]; exact H
      rw [if_neg h2] at H ⊢
      by_cases h3 : w = 3
      · rw [if_pos h3] at H ⊢; exact c_m_besideSet hM hI hp H
      rw [if_neg h3] at H ⊢
      by_cases h4 : w = 4
      · rw [if_pos h4] at H ⊢; exact c_m_rankOf hM hI hp H
      rw [if_neg h4] at H ⊢
      exact H
  · refine c_m_isToldN hv ?_
    unfold s_personIs at H
    rw [tdV_out hv] at H
    simpa using H
theorem c_x_talk {Q : Int32 → pu_M → Prop} {v w : Int32} (h9 : M 0 9 = nI y) (hy : pu_isY y) (hC : CY P M y) (hI : PI P) (H : Q (s_talk P v w) M) : pu_I L (d + 3) 130 [.ref 0, .int v, .int w] M Q := by
  refine r_x_talk ⟨y, h9, hy, ?_⟩
  unfold s_talk at H
  rcases v16 v with ⟨p, hp, rfl⟩ | hv
  · refine c_Y_isTold hy hC hp ?_
    rw [tdV_nI hp, nI_clamp (by omega)] at H
    cases ht : tl P p with
    | false => rw [ht] at H; simpa using H
    | true =>
      rw [ht] at H
      rw [if_pos rfl, if_neg (by decide)]
      refine ⟨y, h9, hy, ?_⟩
      rcases v16 w with ⟨q, hq, rfl⟩ | hw
      · refine c_Y_isTold hy hC hq ?_
        rw [tdV_nI hq, nI_clamp (show q < 2 ^ 31 by omega)] at H
        cases ht2 : tl P q with
        | false => rw [ht2] at H; simpa using H
        | true =>
          rw [ht2] at H
          rw [if_pos rfl, if_neg (by decide)]
          by_cases e : nI p = nI q
          · rw [if_pos e]; rw [if_neg (fun z => z.2.2 e)] at H; exact H
          · rw [if_neg e]; rw [if_pos ⟨rfl, rfl, e⟩] at H
            exact ⟨y, h9, hy, c_Y_talkOf hy hC hI hp hq H⟩
      · refine c_Y_isToldN hy hw ?_
        rw [tdV_out hw] at H
        simpa using H
  · refine c_Y_isToldN hy hv ?_
    rw [tdV_out hv] at H
    simpa using H
theorem c_m_talk {Q : Int32 → pu_M → Prop} {v w : Int32} (hM : PM P (M 59)) (hI : PI P) (H : Q (s_talk P v w) M) : pu_I L (d + 4) 222 [.ref 58, .int v, .int w] M Q := by
  refine r_m_talk ?_
  unfold s_talk at H
  rcases v16 v with ⟨p, hp, rfl⟩ | hv
  · refine c_m_isTold hM hp ?_
    rw [tdV_nI hp, nI_clamp (by omega)] at H
    cases ht : tl P p with
    | false => rw [ht] at H; simpa using H
    | true =>
      rw [ht] at H
      rw [if_pos rfl, if_neg (by decide)]
      rcases v16 w with ⟨q, hq, rfl⟩ | hw
      · refine c_m_isTold hM hq ?_
        rw [tdV_nI hq, nI_clamp (show q < 2 ^ 31 by omega)] at H
        cases ht2 : tl P q with
        | false => rw [ht2] at H; simpa using H
        | true =>
          rw [ht2] at H
          rw [if_pos rfl, if_neg (by decide)]
          by_cases e : nI p = nI q
          · rw [if_pos e]; rw [if_neg (fun z => z.2.2 e)] at H; exact H
          · rw [if_neg e]; rw [if_pos ⟨rfl, rfl, e⟩] at H
            exact c_m_talkOf hM hI hp hq H
      · refine c_m_isToldN hw ?_
        rw [tdV_out hw] at H
        simpa using H
  · refine c_m_isToldN hv ?_
    rw [tdV_out hv] at H
    simpa using H
end WC
