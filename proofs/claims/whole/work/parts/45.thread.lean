/-! threads of talk -/
theorem fo_congr {α : Type} {f g : Nat → α → α} : ∀ {n : Nat}, (∀ k, k < n → ∀ a, f k a = g k a) → ∀ a, fo f n a = fo g n a
  | 0, _, _ => rfl
  | n + 1, h, a => by show f n (fo f n a) = g n (fo g n a); rw [fo_congr (fun k hk => h k (by omega)) a, h n (by omega)]
def mx (f : Nat → Nat) (n : Nat) : Nat := fo (fun i a => if a < f i then f i else a) n 0
theorem mx_s (f : Nat → Nat) (n : Nat) : mx f (n + 1) = if mx f n < f n then f n else mx f n := rfl
theorem mx_ge {f : Nat → Nat} : ∀ {n i : Nat}, i < n → f i ≤ mx f n
  | 0, _, h => by omega
  | n + 1, i, h => by
    rw [mx_s]
    by_cases e : i = n
    · subst e; split <;> omega
    · have := mx_ge (f := f) (n := n) (i := i) (by omega)
      split <;> omega
theorem mx_ex {f : Nat → Nat} : ∀ {n : Nat}, 0 < n → ∃ i, i < n ∧ mx f n = f i
  | 0, h => by omega
  | n + 1, _ => by
    rw [mx_s]
    by_cases e : mx f n < f n
    · rw [if_pos e]; exact ⟨n, by omega, rfl⟩
    · rw [if_neg e]
      by_cases h0 : n = 0
      · subst h0; refine ⟨0, by omega, ?_⟩
        have : mx f 0 = 0 := rfl
        omega
      · obtain ⟨i, hi, h⟩ := mx_ex (f := f) (n := n) (by omega)
        exact ⟨i, by omega, h⟩
theorem mx_rev {f : Nat → Nat} {n : Nat} (hn : 0 < n) : mx (fun m => f (n - 1 - m)) n = mx f n := by
  obtain ⟨i, hi, e1⟩ := mx_ex (f := fun m => f (n - 1 - m)) hn
  obtain ⟨j, hj, e2⟩ := mx_ex (f := f) hn
  have h1 := mx_ge (f := f) (n := n) (i := n - 1 - i) (by omega)
  have h2 := mx_ge (f := fun m => f (n - 1 - m)) (n := n) (i := n - 1 - j) (by omega)
  have e3 : n - 1 - (n - 1 - j) = j := by omega
  try dsimp only at e1 h2
  rw [e3] at h2
  omega
def lkS (S : Nat → Nat) (i j : Nat) : Bool := decide (¬ S i &&& S j = 0)
def lin (S t : Nat → Nat) (i m : Nat) : Nat := fo (fun q a => if lkS S i (i + 1 + q) = true then (if a < 1 + t (i + 1 + q) then 1 + t (i + 1 + q) else a) else a) m 1
def lfT (S : Nat → Nat) (n : Nat) : Nat → Nat → Nat
  | 0, _ => 0
  | j + 1, i => if i + j + 1 = n then lin S (lfT S n j) i j else lfT S n j i
def lf (S : Nat → Nat) (n i : Nat) : Nat := lfT S n n i
theorem lfT_st {S : Nat → Nat} {n i j : Nat} (h : n ≤ i + j) : ∀ e, lfT S n (j + e) i = lfT S n j i
  | 0 => rfl
  | e + 1 => by
    show (if i + (j + e) + 1 = n then _ else lfT S n (j + e) i) = _
    rw [if_neg (by omega), lfT_st h e]
theorem lf_eq {S : Nat → Nat} {n i j : Nat} (h : i + j + 1 = n) : lf S n i = lin S (lf S n) i j := by
  have e1 : lf S n i = lfT S n (j + 1) i := by
    have := lfT_st (S := S) (n := n) (i := i) (j := j + 1) (by omega) (n - (j + 1))
    rw [show j + 1 + (n - (j + 1)) = n by omega] at this
    exact this
  rw [e1]
  show (if i + j + 1 = n then lin S (lfT S n j) i j else _) = _
  rw [if_pos h]
  refine fo_congr (fun q hq a => ?_) 1
  have : lfT S n j (i + 1 + q) = lf S n (i + 1 + q) := by
    have := lfT_st (S := S) (n := n) (i := i + 1 + q) (j := j) (by omega) (n - j)
    rw [show j + (n - j) = n by omega] at this
    exact this.symm
  rw [this]
theorem lfT_le {S : Nat → Nat} {n : Nat} : ∀ j i, lfT S n j i ≤ j
  | 0, _ => Nat.le_refl _
  | j + 1, i => by
    show (if i + j + 1 = n then lin S (lfT S n j) i j else lfT S n j i) ≤ _
    have ih := lfT_le (S := S) (n := n) j
    split
    · refine fo_inv (I := fun a => a ≤ j + 1) (fun k a ha => ?_) (by omega) j
      have := ih (i + 1 + k)
      try dsimp only
      split
      · split <;> omega
      · exact ha
    · have := ih i; omega
theorem lf_le {S : Nat → Nat} {n i : Nat} : lf S n i ≤ n := lfT_le n i
theorem lin_le {S t : Nat → Nat} {i m n : Nat} (h : ∀ k, t k ≤ n) : lin S t i m ≤ n + 1 := by
  refine fo_inv (I := fun a => a ≤ n + 1) (fun k a ha => ?_) (by omega) m
  have := h (i + 1 + k)
  try dsimp only
  split
  · split <;> omega
  · exact ha
theorem lin_ge {S t : Nat → Nat} {i m : Nat} : 1 ≤ lin S t i m := by
  refine fo_inv (I := fun a => 1 ≤ a) (fun k a ha => ?_) (by omega) m
  try dsimp only
  split
  · split <;> omega
  · exact ha
theorem lin_at {S t : Nat → Nat} {i m : Nat} : lin S t i m = 1 ∨ ∃ q, q < m ∧ lkS S i (i + 1 + q) = true ∧ lin S t i m = 1 + t (i + 1 + q) := by
  refine fo_inv2 (n := m) (I := fun a => a = 1 ∨ ∃ q, q < m ∧ lkS S i (i + 1 + q) = true ∧ a = 1 + t (i + 1 + q)) (fun k a hk ha => ?_) (Or.inl rfl)
  try dsimp only
  split
  next h =>
    split
    · exact Or.inr ⟨k, hk, h, rfl⟩
    · exact ha
  · exact ha
theorem lf_next {S : Nat → Nat} {n a x : Nat} (ha : a < n) (h : lf S n a = x + 2) : ∃ b, a < b ∧ b < n ∧ lkS S a b = true ∧ lf S n b = x + 1 := by
  rw [lf_eq (j := n - 1 - a) (by omega)] at h
  rcases lin_at (S := S) (t := lf S n) (i := a) (m := n - 1 - a) with e | ⟨q, hq, h1, h2⟩
  · omega
  · exact ⟨a + 1 + q, by omega, by omega, h1, by omega⟩
theorem fnd_is {R : Nat → Bool} {j k : Nat} (h : ∃ i, k ≤ i ∧ i < k + j ∧ R i = true) : ∃ a, fnd R j k = some a := by
  cases e : fnd R j k with
  | some a => exact ⟨a, rfl⟩
  | none =>
    obtain ⟨i, h1, h2, h3⟩ := h
    rw [fnd_none e i h1 h2] at h3; cases h3
def pcd (S : Nat → Nat) (n p a i : Nat) : Bool := decide (lf S n i = mx (lf S n) n - p) && (decide (p = 0) || lkS S a i)
def pth (S : Nat → Nat) (n : Nat) : Nat → Option Nat
  | 0 => fnd (pcd S n 0 0) n 0
  | p + 1 => match pth S n p with
    | some a => fnd (pcd S n (p + 1) a) (n - (a + 1)) (a + 1)
    | none => none
theorem pth_is {S : Nat → Nat} {n : Nat} (hn : 0 < n) : ∀ {p : Nat}, p < mx (lf S n) n → ∃ a, pth S n p = some a ∧ a < n ∧ lf S n a = mx (lf S n) n - p
  | 0, h => by
    obtain ⟨i, hi, e⟩ := mx_ex (f := lf S n) hn
    obtain ⟨a, ha⟩ := fnd_is (R := pcd S n 0 0) (j := n) (k := 0) ⟨i, by omega, by omega, by simp [pcd, e]⟩
    obtain ⟨_, h2, h3, _⟩ := fnd_some ha
    refine ⟨a, ha, by omega, ?_⟩
    simp [pcd] at h3; omega
  | p + 1, h => by
    obtain ⟨a, ha, hl, hx⟩ := pth_is hn (show p < mx (lf S n) n by omega)
    obtain ⟨b, b1, b2, b3, b4⟩ := lf_next (S := S) (n := n) (a := a) (x := mx (lf S n) n - p - 2) hl (by omega)
    obtain ⟨c, hc⟩ := fnd_is (R := pcd S n (p + 1) a) (j := n - (a + 1)) (k := a + 1) ⟨b, by omega, by omega, by simp only [pcd, b3, b4, Bool.or_true, Bool.and_true, decide_eq_true_eq]; omega⟩
    obtain ⟨h1, h2, h3, _⟩ := fnd_some hc
    refine ⟨c, by simp only [pth, ha]; exact hc, by omega, ?_⟩
    simp [pcd] at h3; omega
def sy (tb : Nat → Nat) (i : Nat) : Nat := 256 * tb (2 * i) + tb (2 * i + 1)
def s_thread (S : Nat → Nat) (n : Nat) (w : Int32) : Int32 := if w = 100 then nI (mx (lf S n) n) else if w < nI (mx (lf S n) n) then pI (pth S n w.toNatClampNeg) else -4
theorem sh8 {a b : Nat} (ha : a < 256) (hb : b < 256) : (nI a <<< ((8 : Int32) &&& 31)) ||| nI b = nI (256 * a + b) := by
  rw [n_8, pk_shlN _ 8 (sm_31 8 (by decide)) (by omega), nI_or (by omega) (by omega)]
  congr 1
  have := Nat.two_pow_add_eq_or_of_lt (i := 8) (b := b) (by omega) a
  rw [show a * 2 ^ 8 = 2 ^ 8 * a from Nat.mul_comm _ _, ← this]
theorem nI_zero {x : Nat} (h : x < 2 ^ 31) : (nI x = 0) ↔ x = 0 := by rw [n_0, nI_eq h (by decide)]
theorem am1 (x : Int32) : x + (-1) = x - 1 := (Int32.sub_eq_add_neg x 1).symm
def hS (k : Nat) : Prop := k = 13 ∨ k = 14 ∨ k = 15
section SY
variable {L d : Nat} {M : pu_M} {n : Nat} {tb : Nat → Nat}
theorem sy_lt (hb : ∀ i, i < 2 * n → tb i < 256) {i : Nat} (hi : i < n) : sy tb i < 65536 := by
  have h1 := hb (2 * i) (by omega)
  have h2 := hb (2 * i + 1) (by omega)
  unfold sy; omega
theorem sy_and (hb : ∀ i, i < 2 * n → tb i < 256) {i j : Nat} (hi : i < n) (hj : j < n) : nI (sy tb i) &&& nI (sy tb j) = nI (sy tb i &&& sy tb j) ∧ ((nI (sy tb i &&& sy tb j) = 0) ↔ lkS (sy tb) i j = false) := by
  have h1 := sy_lt hb hi
  have h2 := sy_lt hb hj
  have h3 : sy tb i &&& sy tb j ≤ sy tb i := Nat.and_le_left
  refine ⟨nI_and (by omega) (by omega), ?_⟩
  rw [nI_zero (by omega)]
  unfold lkS
  simp
theorem c_Sa_hear {Q : pu_M → Prop} (hn : n ≤ 20) (h5 : M 1 5 = nI (2 * n)) (hb : ∀ i, i < 2 * n → tb i < 256) (h2 : ∀ i, i < 2 * n → M 2 i = nI (tb i)) (H : ∀ M', M' 13 2 = nI n → (∀ i, i < n → M' 14 i = nI (sy tb i)) → (∀ i, i < n → M' 15 i = nI (lf (sy tb) n i)) → only hS M M' → Q M') : pu_V L (d + 2) 75 [.ref 13, .ref 1, .int (nI n)] M Q := by
  refine r_Sayings_hear ?_
  have e20 : (if (20 : Int32) < nI n then 20 else nI n) = nI n := if_neg (by rw [n_20, nI_ltI (by omega) (by omega)]; omega)
  rw [e20]
  have key2 := dn (R := fun j => ∀ M' (v4 : Value), M' 13 2 = nI n → (∀ i, i < n → M' 14 i = nI (sy tb i)) → (∀ i, n ≤ i + j → i < n → M' 15 i = nI (lf (sy tb) n i)) → only hS M M' → pu_R L (d + 2) 75 59 [.ref 13, .ref 1, .int (nI n), .int (nI (n - j) - 1), v4] [] M' (pu_qV Q)) n (fun M' v4 a1 a2 a3 o => by
      refine r_Sayings_hear_59 ?_
      rw [Nat.sub_self, if_pos (by decide)]
      exact H M' a1 a2 (fun i hi => a3 i (by omega) hi) o) (fun j hj ih M' v4 a1 a2 a3 o => by
    refine r_Sayings_hear_59 ?_
    obtain ⟨i, hi⟩ : ∃ i, i + j + 1 = n := ⟨n - 1 - j, by omega⟩
    have ei : nI (n - j) - 1 = nI i := by rw [n_1, pk_sub (by omega)]; congr 1; omega
    have ei' : nI (n - (j + 1)) - 1 = nI i + (-1) := by rw [am1]; congr 2; omega
    rw [ei'] at ih
    rw [ei, if_neg (nI_pos (by omega)), nI_clamp (by omega), nI_1]
    refine ⟨inb_nI (by omega) (by decide), ?_⟩
    refine dn (R := fun m => ∀ M2, M2 13 2 = nI n → (∀ i, i < n → M2 14 i = nI (sy tb i)) → (∀ i, n ≤ i + j → i < n → M2 15 i = nI (lf (sy tb) n i)) → M2 15 i = nI (lin (sy tb) (lf (sy tb) n) i m) → only hS M M2 → pu_R L (d + 2) 75 75 [.ref 13, .ref 1, .int (nI n), .int (nI i), .int (nI (i + 1 + m))] [] M2 (pu_qV Q)) j (fun M2 b1 b2 b3 b4 o2 => by
        refine r_Sayings_hear_75 ?_
        rw [b1, if_pos (by rw [nI_leI (by omega) (by omega)]; omega)]
        refine ih M2 _ b1 b2 (fun i' h1 h2 => ?_) o2
        by_cases e : i' = i
        · rw [e, b4, lf_eq hi]
        · exact b3 i' (by omega) h2) (fun m hm ihm M2 b1 b2 b3 b4 o2 => by
      refine r_Sayings_hear_75 ?_
      obtain ⟨q1, q2⟩ := sy_and hb (show i < n by omega) (show i + 1 + m < n by omega)
      have hl1 := lin_le (S := sy tb) (t := lf (sy tb) n) (i := i) (m := m) (n := n) (fun k => lf_le)
      have hl2 := lf_le (S := sy tb) (n := n) (i := i + 1 + m)
      have hw : 1 + nI (lf (sy tb) n (i + 1 + m)) = nI (1 + lf (sy tb) n (i + 1 + m)) := by rw [n_1, nI_add]
      rw [b1, if_neg (by rw [nI_leI (by omega) (by omega)]; omega), nI_clamp (by omega), nI_clamp (by omega), b2 i (by omega), b2 (i + 1 + m) (by omega), q1, b4, b3 (i + 1 + m) (by omega) (by omega), hw, nI_1]
      refine ⟨inb_nI (by omega) (by decide), inb_nI (by omega) (by decide), ?_⟩
      have es : lin (sy tb) (lf (sy tb) n) i (m + 1) = if lkS (sy tb) i (i + 1 + m) = true then (if lin (sy tb) (lf (sy tb) n) i m < 1 + lf (sy tb) n (i + 1 + m) then 1 + lf (sy tb) n (i + 1 + m) else lin (sy tb) (lf (sy tb) n) i m) else lin (sy tb) (lf (sy tb) n) i m := rfl
      rw [es] at ihm
      cases hk : lkS (sy tb) i (i + 1 + m) with
      | false =>
        rw [hk, if_neg (by decide)] at ihm
        rw [if_pos (q2.mpr hk)]
        exact ihm M2 b1 b2 b3 b4 o2
      | true =>
        rw [hk, if_pos rfl] at ihm
        rw [if_neg (fun z => by rw [q2.mp z] at hk; cases hk)]
        refine ⟨inb_nI (by omega) (by decide), inb_nI (by omega) (by decide), inb_nI (by omega) (by decide), ?_⟩
        refine ihm _ (by rw [pu_wr_ne (by decide)]; exact b1) (fun i hi => by rw [pu_wr_ne (by decide)]; exact b2 i hi) (fun i' h1 h2 => by rw [pu_wr_self, upd_n (by omega)]; exact b3 i' h1 h2) ?_ (o2.wr (Or.inr (Or.inr rfl)))
        rw [pu_wr_self, upd_s]
        by_cases hx : lin (sy tb) (lf (sy tb) n) i m < 1 + lf (sy tb) n (i + 1 + m)
        · rw [if_pos hx, if_pos ((nI_ltI (by omega) (by omega)).mpr hx)]
        · rw [if_neg hx, if_neg (fun z => hx ((nI_ltI (by omega) (by omega)).mp z))]) _ ?_ ?_ ?_ ?_ ?_
    · rw [pu_wr_ne (by decide)]; exact a1
    · intro i hi; rw [pu_wr_ne (by decide)]; exact a2 i hi
    · intro i' h1 h2; rw [pu_wr_self, upd_n (by omega)]; exact a3 i' h1 h2
    · rw [pu_wr_self, upd_s]; rfl
    · exact o.wr (Or.inr (Or.inr rfl)))
  refine dn (R := fun k => ∀ M', M' 13 2 = nI n → (∀ i, i < k → M' 14 i = nI (sy tb i)) → only hS M M' → pu_R L (d + 2) 75 12 [.ref 13, .ref 1, .int (nI n), .int (nI k), mq_un] [] M' (pu_qV Q)) n (fun M' a1 a2 o => by
      refine r_Sayings_hear_12 ?_
      rw [a1, if_pos (by rw [nI_leI (by omega) (by omega)]; omega)]
      exact key2 M' _ a1 a2 (fun i h1 h2 => by omega) o) (fun k hk ih M' a1 a2 o => by
    refine r_Sayings_hear_12 ?_
    have o1 : M' 1 = M 1 := o 1 (by unfold hS; omega)
    have o2 : M' 2 = M 2 := o 2 (by unfold hS; omega)
    have e1 : (2 : Int32) * nI k = nI (2 * k) := by rw [n_2, pk_mul]
    rw [a1, if_neg (by rw [nI_leI (by omega) (by omega)]; omega), e1, nI_1, nI_1]
    refine c_Tape_at (by rw [o1]; exact h5) (by omega) (by omega) (c_Tape_at (by rw [o1]; exact h5) (by omega) (by omega) ⟨inb_nI (by omega) (by decide), ?_⟩)
    rw [o2, h2 _ (by omega), h2 _ (by omega), sh8 (hb _ (by omega)) (hb _ (by omega)), nI_clamp (by omega)]
    refine ih _ (by rw [pu_wr_ne (by decide)]; exact a1) (fun i hi => ?_) (o.wr (Or.inr (Or.inl rfl)))
    rw [pu_wr_self]
    by_cases e : i = k
    · rw [e, upd_s]; rfl
    · rw [upd_n e]; exact a2 i (by omega)) _ ?_ ?_ ?_
  · rw [pu_wr_self, upd_s]
  · intro i hi; omega
  · exact (only.rf hS M).wr (Or.inl rfl)
theorem c_Sa_longest {Q : Int32 → pu_M → Prop} (hn : n ≤ 20) (a1 : M 13 2 = nI n) (a3 : ∀ i, i < n → M 15 i = nI (lf (sy tb) n i)) (H : Q (nI (mx (lf (sy tb) n) n)) M) : pu_I L (d + 1) 76 [.ref 13] M Q := by
  have hle : ∀ k, mx (lf (sy tb) n) k ≤ n := fun k => fo_inv (I := fun a => a ≤ n) (fun k a ha => by
    have := lf_le (S := sy tb) (n := n) (i := k)
    split <;> omega) (by omega) k
  refine r_Sayings_longest (dn (R := fun k => pu_R L (d + 1) 76 4 [.ref 13, .int (nI (mx (lf (sy tb) n) k)), .int (nI k)] [] M (pu_qI Q)) n (r_Sayings_longest_4 (by rw [a1, if_pos (by rw [nI_leI (by omega) (by omega)]; omega)]; exact H)) (fun k hk ih => ?_))
  refine r_Sayings_longest_4 ?_
  have := hle k
  have := lf_le (S := sy tb) (n := n) (i := k)
  rw [a1, if_neg (by rw [nI_leI (by omega) (by omega)]; omega), nI_clamp (by omega), a3 k hk, nI_1]
  refine ⟨inb_nI (by omega) (by decide), ?_⟩
  rw [mx_s] at ih
  by_cases hx : mx (lf (sy tb) n) k < lf (sy tb) n k
  · rw [if_pos hx] at ih; rw [if_pos ((nI_ltI (by omega) (by omega)).mpr hx)]; exact ih
  · rw [if_neg hx] at ih; rw [if_neg (fun z => hx ((nI_ltI (by omega) (by omega)).mp z))]; exact ih
theorem mx_lf_le : mx (lf (sy tb) n) n ≤ n := fo_inv (I := fun a => a ≤ n) (fun k a ha => by
    have := lf_le (S := sy tb) (n := n) (i := k)
    split <;> omega) (by omega) n
theorem c_Sa_placeOf {Q : Int32 → pu_M → Prop} {w : Nat} (hn : n ≤ 20) (h0 : 0 < n) (hw : w < 20) (a1 : M 13 2 = nI n) (hb : ∀ i, i < 2 * n → tb i < 256) (a2 : ∀ i, i < n → M 14 i = nI (sy tb i)) (a3 : ∀ i, i < n → M 15 i = nI (lf (sy tb) n i)) (H : Q (if nI w < nI (mx (lf (sy tb) n) n) then pI (pth (sy tb) n w) else -4) M) : pu_I L (d + 2) 77 [.ref 13, .int (nI w)] M Q := by
  refine r_Sayings_placeOf (c_Sa_longest hn a1 a3 ?_)
  have hm := mx_lf_le (n := n) (tb := tb)
  by_cases hwm : w < mx (lf (sy tb) n) n
  · rw [if_pos ((nI_ltI (by omega) (by omega)).mpr hwm)] at H
    have key := dn (R := fun i => ∀ p a v3 v4, p ≤ w → pth (sy tb) n p = fnd (pcd (sy tb) n p a) (n - i) i → ((p = 0 ∧ v4 = 1) ∨ (p ≠ 0 ∧ v4 = 0 ∧ a < n ∧ v3 = nI (sy tb a))) → pu_R L (d + 2) 77 17 [.ref 13, .int (nI w), .int (nI (mx (lf (sy tb) n) n - p)), .int v3, .int v4, .int (nI p), .int (nI i)] [] M (pu_qI Q)) n (fun p a v3 v4 hp e _ => by
        obtain ⟨b, hb, -, -⟩ := pth_is h0 (show p < mx (lf (sy tb) n) n by omega)
        rw [Nat.sub_self, hb] at e
        cases e) (fun i hi ih p a v3 v4 hp e hv => by
      refine r_Sayings_placeOf_17 ?_
      have hl := lf_le (S := sy tb) (n := n) (i := i)
      rw [a1, if_neg (by rw [nI_leI (by omega) (by omega)]; omega), if_neg (by rw [n_0, nI_leI (by omega) (by omega)]; omega), nI_clamp (by omega), a3 i hi, a2 i hi, nI_1]
      refine ⟨inb_nI (by omega) (by decide), ?_⟩
      rw [show n - i = (n - (i + 1)) + 1 by omega] at e
      have hit : pcd (sy tb) n p a i = true → pu_R L (d + 2) 77 58 [.ref 13, .int (nI w), .int (nI (mx (lf (sy tb) n) n - p)), .int v3, .int v4, .int (nI p), .int (nI i)] [] M (pu_qI Q) := by
        intro hc
        rw [fnd_t hc] at e
        refine r_Sayings_placeOf_58 ?_
        by_cases hpw : p = w
        · rw [if_pos (by rw [hpw])]; rw [← hpw, e] at H; exact H
        · rw [if_neg (fun z => hpw ((nI_eq (by omega) (by omega)).mp z)), nI_clamp (by omega), a2 i hi, nI_1, nI_1]
          refine ⟨inb_nI (by omega) (by decide), ?_⟩
          have e1 : nI (mx (lf (sy tb) n) n - p) + (-1) = nI (mx (lf (sy tb) n) n - (p + 1)) := by rw [am1, n_1, pk_sub (by omega)]; congr 1
          rw [e1]
          refine ih (p + 1) i _ 0 (by omega) ?_ (Or.inr ⟨by omega, rfl, hi, rfl⟩)
          show (match pth (sy tb) n p with | some a => fnd (pcd (sy tb) n (p + 1) a) (n - (a + 1)) (a + 1) | none => none) = _
          rw [e]
      have hmiss : pcd (sy tb) n p a i = false → pu_R L (d + 2) 77 17 [.ref 13, .int (nI w), .int (nI (mx (lf (sy tb) n) n - p)), .int v3, .int v4, .int (nI p), .int (nI (i + 1))] [] M (pu_qI Q) := by
        intro hc
        rw [fnd_f hc] at e
        exact ih p a v3 v4 hp e hv
      by_cases hx : lf (sy tb) n i = mx (lf (sy tb) n) n - p
      · rw [if_pos (by rw [hx])]
        rcases hv with ⟨p0, rfl⟩ | ⟨p0, rfl, ha, rfl⟩
        · rw [if_neg (by decide)]
          exact hit (by simp [pcd, hx, p0])
        · rw [if_pos rfl]
          obtain ⟨q1, q2⟩ := sy_and hb hi ha
          refine ⟨inb_nI (by omega) (by decide), ?_⟩
          rw [q1]
          have hs : lkS (sy tb) a i = lkS (sy tb) i a := by unfold lkS; rw [Nat.and_comm]
          cases hk : lkS (sy tb) i a with
          | false => rw [if_pos (q2.mpr hk)]; exact hmiss (by simp [pcd, hs, hk, p0])
          | true => rw [if_neg (fun z => by rw [q2.mp z] at hk; cases hk)]; exact hit (by simp [pcd, hx, hs, hk])
      · rw [if_neg (fun z => hx ((nI_eq (by omega) (by omega)).mp z))]
        exact hmiss (by simp [pcd, hx]))
    exact key 0 0 65535 1 (by omega) rfl (Or.inl ⟨rfl, rfl⟩)
  · rw [if_neg (fun z => hwm ((nI_ltI (by omega) (by omega)).mp z))] at H
    have key := dn (R := fun i => ∀ p v3 v4, p ≤ mx (lf (sy tb) n) n → pu_R L (d + 2) 77 17 [.ref 13, .int (nI w), .int (nI (mx (lf (sy tb) n) n - p)), .int v3, .int v4, .int (nI p), .int (nI i)] [] M (pu_qI Q)) n (fun p v3 v4 hp => by
        refine r_Sayings_placeOf_17 ?_
        rw [a1, if_pos (by rw [nI_leI (by omega) (by omega)]; omega)]; exact H) (fun i hi ih p v3 v4 hp => by
      refine r_Sayings_placeOf_17 ?_
      have hl := lf_le (S := sy tb) (n := n) (i := i)
      rw [a1, if_neg (by rw [nI_leI (by omega) (by omega)]; omega)]
      by_cases hp0 : p = mx (lf (sy tb) n) n
      · rw [if_pos (by rw [hp0, Nat.sub_self]; decide)]; exact H
      rw [if_neg (by rw [n_0, nI_leI (by omega) (by omega)]; omega), nI_clamp (by omega), nI_1]
      refine ⟨inb_nI (by omega) (by decide), ?_⟩
      have hit : pu_R L (d + 2) 77 58 [.ref 13, .int (nI w), .int (nI (mx (lf (sy tb) n) n - p)), .int v3, .int v4, .int (nI p), .int (nI i)] [] M (pu_qI Q) := by
        refine r_Sayings_placeOf_58 ?_
        rw [if_neg (fun z => by have := (nI_eq (by omega) (by omega)).mp z; omega), nI_1, nI_1]
        refine ⟨inb_nI (by omega) (by decide), ?_⟩
        have e1 : nI (mx (lf (sy tb) n) n - p) + (-1) = nI (mx (lf (sy tb) n) n - (p + 1)) := by rw [am1, n_1, pk_sub (by omega)]; congr 1
        rw [e1]
        exact ih (p + 1) _ _ (by omega)
      split
      · split
        · refine ⟨inb_nI (by omega) (by decide), ?_⟩
          split
          · exact ih p _ _ hp
          · exact hit
        · exact hit
      · exact ih p _ _ hp)
    exact key 0 65535 1 (by omega)
end SY
