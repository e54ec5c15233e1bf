/-! ROWS in the model: an order; row -/
def r_sk (T : Nat → Nat → Int) (l : Ro) : Nat → Int
  | 0 => 0
  | k + 1 => r_sk T l k + (if k = 0 then 0 else T (l.getD (k - 1) 0) (l.getD k 0))
theorem r_sk_c {T : Nat → Nat → Int} {a : Nat} {l : Ro} : ∀ k, r_sk T (a :: l) (k + 1) = (if k = 0 then 0 else T a (l.getD 0 0)) + r_sk T l k
  | 0 => rfl
  | k + 1 => by
    show r_sk T (a :: l) (k + 1) + (if k + 1 = 0 then 0 else T ((a :: l).getD k 0) ((a :: l).getD (k + 1) 0)) = (if k + 1 = 0 then 0 else T a (l.getD 0 0)) + (r_sk T l k + (if k = 0 then 0 else T (l.getD (k - 1) 0) (l.getD k 0)))
    rw [r_sk_c k]
    cases k with
    | zero =>
      show (0 : Int) + r_sk T l 0 + T a (l.getD 0 0) = T a (l.getD 0 0) + (r_sk T l 0 + 0)
      omega
    | succ k =>
      show T a (l.getD 0 0) + r_sk T l (k + 1) + T (l.getD k 0) (l.getD (k + 1) 0) = T a (l.getD 0 0) + (r_sk T l (k + 1) + T (l.getD k 0) (l.getD (k + 1) 0))
      omega
theorem r_wt_sk {T : Nat → Nat → Int} : ∀ (l : Ro) (a : Nat), r_wt T a l = r_sk T (a :: l) (l.length + 1)
  | [], a => rfl
  | i :: l, a => by
    rw [r_sk_c]
    show T a i + r_wt T i l = (if l.length + 1 = 0 then 0 else T a i) + r_sk T (i :: l) (l.length + 1)
    rw [if_neg (by omega), r_wt_sk l i]
theorem r_w0_sk {T : Nat → Nat → Int} (l : Ro) : r_w0 T l = r_sk T l l.length := by
  cases l with
  | nil => rfl
  | cons a l => exact r_wt_sk l a
theorem r_sk_b {P : Pp} {s : Nat} {l : Ro} : ∀ k : Nat, -(64 * (k : Int)) ≤ r_sk (tZ P s) l k ∧ r_sk (tZ P s) l k ≤ 64 * (k : Int)
  | 0 => ⟨by show -(64 * ((0 : Nat) : Int)) ≤ 0; omega, by show (0 : Int) ≤ 64 * ((0 : Nat) : Int); omega⟩
  | k + 1 => by
    have ih := r_sk_b (P := P) (s := s) (l := l) k
    have ht := tZ_b P s (l.getD (k - 1) 0) (l.getD k 0)
    have e : r_sk (tZ P s) l (k + 1) = r_sk (tZ P s) l k + (if k = 0 then 0 else tZ P s (l.getD (k - 1) 0) (l.getD k 0)) := rfl
    rw [e]
    have hk : ((k + 1 : Nat) : Int) = (k : Int) + 1 := by omega
    split <;> omega
/-- what is found so far -/
def mFS (s : Nat) (M : pu_M) (c : Nat) (a : Int × Ro) : Prop := M 58 41 = nI c ∧ (M 58 42).toInt = a.1 ∧ (a.1 = -1000000 ∨ ∀ k, k < pc s → M 83 k = nI (mb s (a.2.getD k 0)))
def mrS (k : Nat) : Prop := k = 58 ∨ k = 82 ∨ k = 83 ∨ k = 84
def mrF (M M' : pu_M) : Prop := only mrS M M' ∧ ∀ j, j ≠ 41 → j ≠ 42 → M' 58 j = M 58 j
theorem mrF.rf (M : pu_M) : mrF M M := ⟨only.rf _ _, fun _ _ _ => rfl⟩
theorem mrF.tr {A B C : pu_M} (h1 : mrF A B) (h2 : mrF B C) : mrF A C := ⟨h1.1.tr h2.1, fun j a b => (h2.2 j a b).trans (h1.2 j a b)⟩
section MB
variable {L d : Nat} {M : pu_M} {P : Pp} {s m : Nat} {l : Ro} {ws : Nat → Wi}
theorem MW_F {M' : pu_M} (h : MW ws m M) (f : mrF M M') : MW ws m M' := by
  unfold MW
  rw [f.2 34 (by decide) (by decide), f.1 76 (by unfold mrS; omega), f.1 77 (by unfold mrS; omega), f.1 78 (by unfold mrS; omega)]; exact h
theorem r_ix_mb {k : Nat} (hk : k < pc s) : r_ix s (mb s k) = some k := fnd_at (by omega) (by omega) (by simp) (fun i _ hi => by
  rw [decide_eq_false_iff_not]
  intro z
  exact absurd (mb_inj (show i < pc s by omega) hk z) (by omega))
theorem good_s {i : Nat} : r_good s (pc s) ws (i + 1) l = (r_good s (pc s) ws i l && r_hold s (pc s) l (ws i)) := by
  rw [Bool.eq_iff_iff, Bool.and_eq_true, good_iff, good_iff]
  constructor
  · intro h; exact ⟨fun j hj => h j (by omega), h i (by omega)⟩
  · intro ⟨h1, h2⟩ j hj
    by_cases z : j = i
    · subst z; exact h2
    · exact h1 j (by omega)
theorem c_m_mayBe {Q : pu_M → Prop} {c : Nat} {a : Int × Ro} (hn1 : 2 ≤ pc s) (hn : pc s ≤ 7) (hM : PM P (M 59)) (hI : PI P) (hW : WI ws m) (hC : MW ws m M) (hl : l ∈ xt (pc s) (pc s) 0) (hR : mRO s M l) (hNo : ∀ p, p < 16 → r_ix s p = none → M 84 p = -1) (hF : mFS s M c a) (H : ∀ M', mRO s M' l → (∀ p, p < 16 → r_ix s p = none → M' 84 p = -1) → mFS s M' (if r_good s (pc s) ws m l = true then c + 1 else c) (b_st (r_w0 (tZ P s)) a l) → mrF M M' → Q M') : pu_V L (d + 4) 235 [.ref 58, .int (nI (pc s))] M Q := by
  obtain ⟨f1, f2, f3⟩ := xt_f1 hl
  have f4 : ∀ i, i < pc s → ∃ k, k < pc s ∧ l.getD k 0 = i := fun i hi => xt_f3 hl (r_un_0 _).symm i hi (by simp)
  have hm := hW.1
  -- the best is written down
  have copy : ∀ (j k : Nat) (M' : pu_M) (v2 v3 : Int32), k + j = pc s → mRO s M' l → (∀ p, p < 16 → r_ix s p = none → M' 84 p = -1) → M' 58 41 = nI (if r_good s (pc s) ws m l = true then c + 1 else c) → (M' 58 42).toInt = r_w0 (tZ P s) l → (∀ i, i < k → M' 83 i = nI (mb s (l.getD i 0))) → mrF M M' → b_st (r_w0 (tZ P s)) a l = (r_w0 (tZ P s) l, l) → pu_R L (d + 4) 235 115 [.ref 58, .int (nI (pc s)), .int v2, .int v3, .int (nI k)] [] M' (pu_qV Q) := by
    intro j
    induction j with
    | zero =>
      intro k M' v2 v3 hk r1 no e41 e42 hb f eb
      refine r_m_mayBeOrder_115 ?_
      rw [if_pos (by rw [nI_leI (by omega) (by omega)]; omega)]
      exact H M' r1 no (by rw [eb]; exact ⟨e41, e42, Or.inr (fun i hi => hb i (by omega))⟩) f
    | succ j ih =>
      intro k M' v2 v3 hk r1 no e41 e42 hb f eb
      refine r_m_mayBeOrder_115 ?_
      rw [if_neg (by rw [nI_leI (by omega) (by omega)]; omega), nI_clamp (by omega), nI_1]
      refine ⟨inb_nI (by omega) (by decide), inb_nI (by omega) (by decide), ih (k + 1) _ v2 v3 (by omega) ⟨r1.1, fun i hi => by rw [pu_wr_ne (by decide)]; exact r1.2 i hi⟩ (fun p hp hx => by rw [pu_wr_ne (by decide)]; exact no p hp hx) (by rw [pu_wr_ne (by decide)]; exact e41) (by rw [pu_wr_ne (by decide)]; exact e42) (fun i hi => ?_) ⟨f.1.wr (Or.inr (Or.inr (Or.inl rfl))), fun j j1 j2 => by rw [pu_wr_ne (by decide)]; exact f.2 j j1 j2⟩ eb⟩
      rw [pu_wr_self]
      by_cases e : i = k
      · subst e; rw [upd_s]; exact (r1.2 i (by omega)).2
      · rw [upd_n e]; exact hb i (by omega)
  -- the wishes
  have wish : ∀ (j i : Nat) (M' : pu_M) (x : Int32), i + j = m → mRO s M' l → mPL s M' l → M' 58 41 = nI c → (M' 58 42).toInt = a.1 → (a.1 = -1000000 ∨ ∀ k, k < pc s → M' 83 k = nI (mb s (a.2.getD k 0))) → mrF M M' → x.toInt = r_w0 (tZ P s) l → pu_R L (d + 4) 235 57 [.ref 58, .int (nI (pc s)), .int x, .int (bI (r_good s (pc s) ws i l)), .int (nI i)] [] M' (pu_qV Q) := by
    intro j
    induction j with
    | zero =>
      intro i M' x hi r1 pl1 e41 e42 hb f hx
      obtain rfl : i = m := by omega
      have hC' := MW_F hC f
      refine r_m_mayBeOrder_57 ?_
      rw [hC'.1, if_pos (by rw [nI_leI (by omega) (by omega)]; omega)]
      -- behind the count
      have fin : ∀ (M2 : pu_M), mRO s M2 l → (∀ p, p < 16 → r_ix s p = none → M2 84 p = -1) → M2 58 41 = nI (if r_good s (pc s) ws i l = true then c + 1 else c) → M2 58 42 = M' 58 42 → M2 83 = M' 83 → mrF M M2 → ∀ v3 : Int32, (if M2 58 42 < x then pu_R L (d + 4) 235 115 [.ref 58, .int (nI (pc s)), .int x, .int v3, .int 0] [] (pu_wr M2 58 42 x) (pu_qV Q) else Q M2) := by
        intro M2 r2 no2 a41 a42 a83 f2 v3
        rw [a42]
        by_cases hlt : M' 58 42 < x
        · rw [if_pos hlt]
          have hz : ¬ r_w0 (tZ P s) l ≤ a.1 := by
            rw [Int32.lt_iff_toInt_lt] at hlt; omega
          refine copy (pc s) 0 _ x v3 (by omega) ⟨r2.1, fun i hi => by rw [pu_wr_ne (by decide)]; exact r2.2 i hi⟩ (fun p hp hx => by rw [pu_wr_ne (by decide)]; exact no2 p hp hx) (by rw [pu_wr_self, upd_n (by decide)]; exact a41) (by rw [pu_wr_self, upd_s]; exact hx) (fun i hi => absurd hi (by omega)) ⟨f2.1.wr (Or.inl rfl), fun j j1 j2 => by rw [pu_wr_self, upd_n j2]; exact f2.2 j j1 j2⟩ ?_
          unfold b_st; rw [if_neg hz]
        · rw [if_neg hlt]
          have hz : r_w0 (tZ P s) l ≤ a.1 := by
            rw [Int32.lt_iff_toInt_lt] at hlt; omega
          have eb : b_st (r_w0 (tZ P s)) a l = a := by unfold b_st; rw [if_pos hz]
          exact H M2 r2 no2 (by rw [eb]; exact ⟨a41, by rw [a42]; exact e42, by rw [a83]; exact hb⟩) f2
      cases hg : r_good s (pc s) ws i l with
      | false =>
        rw [hg] at fin
        rw [if_pos (show bI false = 0 from rfl)]
        exact fin M' r1 pl1.2 (by rw [if_neg (by decide)]; exact e41) rfl rfl f _
      | true =>
        rw [hg] at fin
        rw [if_neg (show ¬ bI true = 0 by decide)]
        refine fin (pu_wr M' 58 41 (M' 58 41 + 1)) ⟨r1.1, fun i hi => by rw [pu_wr_ne (by decide)]; exact r1.2 i hi⟩ (fun p hp hx => by rw [pu_wr_ne (by decide)]; exact pl1.2 p hp hx) (by rw [if_pos rfl, pu_wr_self, upd_s, e41, nI_1]) (by rw [pu_wr_self, upd_n (by decide)]) (by rw [pu_wr_ne (by decide)]) ⟨f.1.wr (Or.inl rfl), fun j j1 j2 => by rw [pu_wr_self, upd_n j1]; exact f.2 j j1 j2⟩ _
    | succ j ih =>
      intro i M' x hi r1 pl1 e41 e42 hb f hx
      have hC' := MW_F hC f
      refine r_m_mayBeOrder_57 ?_
      rw [hC'.1, if_neg (by rw [nI_leI (by omega) (by omega)]; omega)]
      refine c_m_holdsInRow hn1 hn hW hC' pl1 f3 f4 (by omega) ?_
      have ih := ih (i + 1) M' x (by omega) r1 pl1 e41 e42 hb f hx
      rw [good_s] at ih
      rw [nI_1]
      cases hh : r_hold s (pc s) l (ws i) with
      | true =>
        rw [hh, Bool.and_true] at ih
        rw [if_neg (show ¬ bI true = 0 by decide)]; exact ih
      | false =>
        rw [hh, Bool.and_false] at ih
        rw [if_pos (show bI false = 0 from rfl)]; exact ih
  -- the places and the sum
  have key : ∀ (j k : Nat) (M' : pu_M) (x : Int32), k + j = pc s → mRO s M' l → (∀ i, i < k → M' 84 (mb s (l.getD i 0)) = nI i) → (∀ p, p < 16 → r_ix s p = none → M' 84 p = -1) → only (fun k => k = 84) M M' → x.toInt = r_sk (tZ P s) l k → pu_R L (d + 4) 235 4 [.ref 58, .int (nI (pc s)), .int x, .int (nI k), mq_un] [] M' (pu_qV Q) := by
    intro j
    induction j with
    | zero =>
      intro k M' x hk r1 p1 p2 o hx
      obtain rfl : k = pc s := by omega
      refine r_m_mayBeOrder_4 ?_
      rw [if_pos (by rw [nI_leI (by omega) (by omega)]; omega)]
      refine wish m 0 M' x (by omega) r1 ⟨p1, p2⟩ (by rw [o 58 (by decide)]; exact hF.1) (by rw [o 58 (by decide)]; exact hF.2.1) (by rw [o 83 (by decide)]; exact hF.2.2) ⟨fun k hk => o k (fun z => hk (Or.inr (Or.inr (Or.inr z)))), fun j _ _ => by rw [o 58 (by decide)]⟩ ?_
      rw [hx, r_w0_sk, f1]
    | succ j ih =>
      intro k M' x hk r1 p1 p2 o hx
      obtain ⟨q1, q2⟩ := r1.2 k (by omega)
      have hmb := (mb_lt (s := s) q1).1
      have hM' : PM P (M' 59) := by rw [o 59 (by decide)]; exact hM
      refine r_m_mayBeOrder_4 ?_
      rw [if_neg (by rw [nI_leI (by omega) (by omega)]; omega), nI_clamp (show k < 2 ^ 31 by omega), q2, nI_clamp (show mb s (l.getD k 0) < 2 ^ 31 by omega), nI_1]
      refine ⟨inb_nI (by omega) (by decide), inb_nI hmb (by decide), ?_⟩
      -- the next place
      have nxt : ∀ x' : Int32, x'.toInt = r_sk (tZ P s) l (k + 1) → pu_R L (d + 4) 235 4 [.ref 58, .int (nI (pc s)), .int x', .int (nI (k + 1)), mq_un] [] (pu_wr M' 84 (mb s (l.getD k 0)) (nI k)) (pu_qV Q) := by
        intro x' hx'
        refine ih (k + 1) _ x' (by omega) ⟨r1.1, fun i hi => by rw [pu_wr_ne (by decide)]; exact r1.2 i hi⟩ (fun i hi => ?_) (fun p hp hpx => ?_) (o.wr rfl) hx'
        · rw [pu_wr_self]
          by_cases e : i = k
          · subst e; rw [upd_s]
          · rw [upd_n (fun z => e (f3 i k (by omega) (by omega) (mb_inj (r1.2 i (by omega)).1 q1 z)))]
            exact p1 i (by omega)
        · rw [pu_wr_self, upd_n (fun z => by rw [z, r_ix_mb q1] at hpx; cases hpx)]
          exact p2 p hp hpx
      have es : r_sk (tZ P s) l (k + 1) = r_sk (tZ P s) l k + (if k = 0 then 0 else tZ P s (l.getD (k - 1) 0) (l.getD k 0)) := rfl
      by_cases h0 : k = 0
      · rw [if_pos (by rw [h0]; decide)]
        refine nxt x ?_
        rw [es, if_pos h0, hx, Int.add_zero]
      · obtain ⟨u1, u2⟩ := r1.2 (k - 1) (by omega)
        have ek1 : nI k - 1 = nI (k - 1) := pk_sub (a := k) (b := 1) (by omega)
        rw [if_neg (by rw [n_0, nI_leI (by omega) (by decide)]; omega), ek1, nI_clamp (show k - 1 < 2 ^ 31 by omega), pu_wr_ne (show (82 : Nat) ≠ 84 by decide), u2, q2]
        refine ⟨inb_nI (by omega) (by decide), inb_nI (by omega) (by decide), ?_⟩
        refine c_m_talkOf (by rw [pu_wr_ne (by decide)]; exact hM') hI (mb_lt (s := s) u1).1 hmb (nxt _ ?_)
        have hsk := r_sk_b (P := P) (s := s) (l := l) k
        have ht := tZ_b P s (l.getD (k - 1) 0) (l.getD k 0)
        have et : (tk P (mb s (l.getD (k - 1) 0)) (mb s (l.getD k 0))).toInt = tZ P s (l.getD (k - 1) 0) (l.getD k 0) := rfl
        have hk7 : (k : Int) ≤ 7 := by omega
        rw [i_add (by rw [hx]; omega) (by rw [hx]; omega) (by rw [et]; omega) (by rw [et]; omega), hx, et, es, if_neg h0]
  exact r_m_mayBeOrder (key (pc s) 0 M 0 (by omega) hR (fun i hi => absurd hi (by omega)) hNo (only.rf _ _) rfl)
theorem o_all (hn1 : 2 ≤ pc s) (hn : pc s ≤ 7) : o_ch (pc s) (xt (pc s) (pc s) 0) = true ∧ ∃ l xs, xt (pc s) (pc s) 0 = l :: xs ∧ ∀ k, k < pc s → l.getD k 0 = k := by
  have hd : ∀ {n : Nat} {l0 : Ro}, (xt n n 0).head? = some l0 → (∀ k, k < n → l0.getD k 0 = k) → ∃ l xs, xt n n 0 = l :: xs ∧ ∀ k, k < n → l.getD k 0 = k := by
    intro n l0 h1 h2
    cases hx : xt n n 0 with
    | nil => rw [hx] at h1; cases h1
    | cons l xs =>
      rw [hx] at h1
      have : l = l0 := Option.some.inj h1
      subst this
      exact ⟨l, xs, rfl, h2⟩
  have hcs : pc s = 2 ∨ pc s = 3 ∨ pc s = 4 ∨ pc s = 5 ∨ pc s = 6 ∨ pc s = 7 := by omega
  rcases hcs with h | h | h | h | h | h
  · rw [h]; exact ⟨o_all2.2.1, hd o_all2.1 (by decide)⟩
  · rw [h]; exact ⟨o_all3.2.1, hd o_all3.1 (by decide)⟩
  · rw [h]; exact ⟨o_all4.2.1, hd o_all4.1 (by decide)⟩
  · rw [h]; exact ⟨o_all5.2.1, hd o_all5.1 (by decide)⟩
  · rw [h]; exact ⟨o_all6.2.1, hd o_all6.1 (by decide)⟩
  · rw [h]; exact ⟨o_all7.2.1, hd o_all7.1 (by decide)⟩
theorem c_m_orders {Q : Int32 → pu_M → Prop} {v1 v2 : Int32} (hn1 : 2 ≤ pc s) (hn : pc s ≤ 7) (hI : PI P) (hW : WI ws m) (FIN : ∀ (M' : pu_M) (c : Nat) (a : Int × Ro), mFS s M' c a → mrF M M' → c = c_P (r_good s (pc s) ws m) (xt (pc s) (pc s) 0) → a = (xt (pc s) (pc s) 0).foldl (b_st (r_w0 (tZ P s))) (-1000000, []) → pu_R L (d + 5) 236 127 [.ref 58, .int v1, .int v2, .int (nI (pc s)), .int 0] [] M' (pu_qI Q)) : ∀ (xs : List Ro) (l : Ro) (M' : pu_M) (c : Nat) (a : Int × Ro), (∀ x, x ∈ l :: xs → x ∈ xt (pc s) (pc s) 0) → o_ch (pc s) (l :: xs) = true → PM P (M' 59) → MW ws m M' → mRO s M' l → (∀ p, p < 16 → r_ix s p = none → M' 84 p = -1) → mFS s M' c a → mrF M M' → c + c_P (r_good s (pc s) ws m) (l :: xs) = c_P (r_good s (pc s) ws m) (xt (pc s) (pc s) 0) → (l :: xs).foldl (b_st (r_w0 (tZ P s))) a = (xt (pc s) (pc s) 0).foldl (b_st (r_w0 (tZ P s))) (-1000000, []) → pu_R L (d + 5) 236 127 [.ref 58, .int v1, .int v2, .int (nI (pc s)), .int 1] [] M' (pu_qI Q) := by
  intro xs
  induction xs with
  | nil =>
    intro l M' c a hmem hch hM hC hR hNo hF f hc ha
    refine r_m_row_127 ?_
    rw [if_neg (by decide)]
    refine c_m_mayBe hn1 hn hM hI hW hC (hmem l List.mem_cons_self) hR hNo (c := c) (a := a) hF (fun M2 r2 no2 f2 ff2 => ?_)
    have hx : o_nx (pc s) l = none := by
      have : (o_nx (pc s) l == none) = true := hch
      simpa using this
    refine c_m_next hn1 hn r2 ?_
    rw [hx]
    refine FIN M2 (if r_good s (pc s) ws m l = true then c + 1 else c) (b_st (r_w0 (tZ P s)) a l) f2 (f.tr ff2) ?_ ha
    rw [← hc]
    show _ = c + ((if r_good s (pc s) ws m l = true then 1 else 0) + 0)
    split <;> omega
  | cons l' xs ih =>
    intro l M' c a hmem hch hM hC hR hNo hF f hc ha
    refine r_m_row_127 ?_
    rw [if_neg (by decide)]
    refine c_m_mayBe hn1 hn hM hI hW hC (hmem l List.mem_cons_self) hR hNo (c := c) (a := a) hF (fun M2 r2 no2 f2 ff2 => ?_)
    have hch2 : (o_nx (pc s) l == some l' && o_ch (pc s) (l' :: xs)) = true := hch
    rw [Bool.and_eq_true] at hch2
    have hx : o_nx (pc s) l = some l' := by simpa using hch2.1
    refine c_m_next hn1 hn r2 ?_
    rw [hx]
    intro M3 r3 o3
    have ff3 : mrF M2 M3 := ⟨fun k hk => o3 k (fun z => hk (Or.inr (Or.inl z))), fun j _ _ => by rw [o3 58 (by decide)]⟩
    have ff23 := ff2.tr ff3
    refine ih l' M3 (if r_good s (pc s) ws m l = true then c + 1 else c) (b_st (r_w0 (tZ P s)) a l) (fun x hx => hmem x (List.mem_cons_of_mem _ hx)) hch2.2 (by rw [ff23.1 59 (by unfold mrS; omega)]; exact hM) (MW_F hC ff23) r3 (fun p hp hpx => by rw [o3 84 (by decide)]; exact no2 p hp hpx) ?_ (f.tr ff23) ?_ ha
    · exact ⟨by rw [o3 58 (by decide)]; exact f2.1, by rw [o3 58 (by decide)]; exact f2.2.1, by rw [o3 83 (by decide)]; exact f2.2.2⟩
    · rw [← hc]
      show _ = c + ((if r_good s (pc s) ws m l = true then 1 else 0) + c_P (r_good s (pc s) ws m) (l' :: xs))
      split <;> omega
theorem c_m_row {Q : Int32 → pu_M → Prop} {v x : Int32} (hM : PM P (M 59)) (hI : PI P) (hW : WI ws m) (hC : MW ws m M) (H0 : ¬ okRo v x → Q (-1000) M) (H1 : okRo v x → ¬ tlRo P v → Q (-2) M) (H2 : okRo v x → tlRo P v → ∀ M', mrF M M' → Q (v_row P ws m v.toNatClampNeg x) M') : pu_I L (d + 5) 236 [.ref 58, .int v, .int x] M Q := by
  refine r_m_row (c_m_in ?_)
  rcases vbig (N := 65535) (B := 65535) rfl v with ⟨s, hs, rfl⟩ | hv
  · have hs : s < 65536 := by omega
    have hpc := pc_le s
    have ecl : (nI s).toNatClampNeg = s := nI_clamp (by omega)
    unfold okRo at H0 H1 H2
    unfold tlRo at H1 H2
    rw [ecl] at H0 H1 H2
    have hr : ¬ (nI s < 0 ∨ 65535 < nI s) := by
      intro z
      rcases z with z | z
      · exact nI_pos (by omega) z
      · rw [n_65535, nI_ltI (by omega) (by omega)] at z; omega
    rw [if_neg hr, if_neg (by decide)]
    refine c_m_bits hs (c_m_in ?_)
    by_cases c1 : nI (pc s) < 2 ∨ 7 < nI (pc s)
    · rw [if_pos c1, if_pos rfl]
      rw [n_2, n_7, nI_ltI (by omega) (by omega), nI_ltI (by omega) (by omega)] at c1
      exact H0 (fun z => by have := z.2.1; omega)
    rw [if_neg c1, if_neg (by decide)]
    rw [n_2, n_7, nI_ltI (by omega) (by omega), nI_ltI (by omega) (by omega)] at c1
    have hn1 : 2 ≤ pc s := by omega
    have hn : pc s ≤ 7 := by omega
    have fin : (¬ (x < 0 ∨ 6 < x) ∨ x = 100 ∨ x = 101) → an s (bs (tl P) 16) = 0 → pu_R L (d + 5) 236 67 [.ref 58, .int (nI s), .int x, .int 0, .int 0] [] M (pu_qI Q) := by
      intro hx ct
      have H2 := H2 ⟨hr, ⟨hn1, hn⟩, hx⟩ ct
      obtain ⟨i0, z0, t1, t2, t3, t4, tb1, tb2, _, _⟩ := r_top (tZ_b P s) (n := pc s) (m := pc s - 1) (by omega) hn
      have eb : bsRo P s = (z0.1, i0 :: z0.2) := by unfold bsRo; rw [t3]
      obtain ⟨hch, l, xs, hxt, hid⟩ := o_all hn1 hn
      -- the answer
      have FIN : ∀ (M' : pu_M) (c : Nat) (a : Int × Ro), mFS s M' c a → mrF M M' → c = c_P (r_good s (pc s) ws m) (xt (pc s) (pc s) 0) → a = (xt (pc s) (pc s) 0).foldl (b_st (r_w0 (tZ P s))) (-1000000, []) → pu_R L (d + 5) 236 127 [.ref 58, .int (nI s), .int x, .int (nI (pc s)), .int 0] [] M' (pu_qI Q) := by
        intro M' c a hF f hc ha
        rw [r_pl_eq hn1 hn hW] at hc
        rw [b_fold, t3, b_ov_s, if_neg (by show ¬ z0.1 ≤ -1000000; omega)] at ha
        subst hc ha
        have H2 := H2 M' f
        unfold v_row at H2
        rw [eb] at H2
        obtain ⟨a1, a2, a3⟩ := hF
        refine r_m_row_127 ?_
        rw [if_pos rfl]
        by_cases h101 : x = 101
        · rw [if_pos h101] at H2
          rw [if_neg (by rw [h101]; decide), if_neg (by rw [h101]; decide), a1]
          exact H2
        · rw [if_neg h101] at H2
          by_cases h100 : x = 100
          · rw [if_pos h100] at H2
            rw [if_neg (by rw [h100]; decide), if_pos h100]
            have : M' 58 42 = Int32.ofInt z0.1 := by
              apply Int32.toInt_inj.mp
              rw [a2, Int32.toInt_ofInt]
              exact (mq_bmod (by show -2147483648 ≤ z0.1; omega) (by show z0.1 < 2147483648; omega)).symm
            rw [this]; exact H2
          · rw [if_neg h100] at H2
            have hx6 : ¬ (x < 0 ∨ 6 < x) := by
              rcases hx with z | z | z
              · exact z
              · exact absurd z h100
              · exact absurd z h101
            obtain ⟨k, hk6, rfl⟩ := nI_of2 (M := 6) (n := 6) rfl (fun z => hx6 (Or.inl z)) (Int32.not_lt.mp (fun z => hx6 (Or.inr z)))
            rw [if_pos (by rw [n_100, nI_ltI (by omega) (by omega)]; omega)]
            by_cases hk : k < pc s
            · rw [if_pos (by rw [nI_ltI (by omega) (by omega)]; exact hk), nI_clamp (by omega)] at H2
              rw [if_neg (by rw [nI_leI (by omega) (by omega)]; omega), nI_clamp (by omega)]
              refine ⟨inb_nI (by omega) (by decide), ?_⟩
              rcases a3 with z | z
              · exfalso
                have z : z0.1 = -1000000 := z
                omega
              · rw [z k hk]; exact H2
            · rw [if_neg (by rw [nI_ltI (by omega) (by omega)]; exact hk)] at H2
              rw [if_pos (by rw [nI_leI (by omega) (by omega)]; omega)]
              exact H2
      -- those of the row are gathered
      have loop : ∀ (j k : Nat) (M' : pu_M), k + j = 16 → (∀ i, i < cnt (fun j => s.testBit j) k → M' 82 i = nI (mbk s k i)) → (∀ p, p < k → M' 84 p = -1) → only mrS M M' → M' 58 = M 58 → pu_R L (d + 5) 236 67 [.ref 58, .int (nI s), .int x, .int (nI (cnt (fun j => s.testBit j) k)), .int (nI k)] [] M' (pu_qI Q) := by
        intro j
        induction j with
        | zero =>
          intro k M' hk a1 a2 o e58
          obtain rfl : k = 16 := by omega
          refine r_m_row_67 ?_
          rw [if_pos ge16]
          have hmf : mrF M (pu_wr (pu_wr M' 58 41 0) 58 42 (-1000000)) := ⟨(o.wr (Or.inl rfl)).wr (Or.inl rfl), fun j j1 j2 => by rw [pu_wr_self, upd_n j2, pu_wr_self, upd_n j1, e58]⟩
          have ht : l :: xs = xt (pc s) (pc s) 0 := hxt.symm
          have hl := xt_f1 (n := pc s) (f := pc s) (X := 0) (l := l) (by rw [hxt]; exact List.mem_cons_self)
          refine c_m_orders hn1 hn hI hW FIN xs l _ 0 (-1000000, []) (fun y hy => by rw [hxt]; exact hy) (by rw [ht]; exact hch) ?_ (MW_F hC hmf) ⟨hl.1, fun k hk => ⟨(hl.2.1 k hk).1, ?_⟩⟩ (fun p hp _ => ?_) ⟨?_, ?_, Or.inl rfl⟩ hmf ?_ (by rw [ht])
          · rw [hmf.1 59 (by unfold mrS; omega)]; exact hM
          · rw [pu_wr_ne (by decide), pu_wr_ne (by decide), hid k hk]; exact a1 k hk
          · rw [pu_wr_ne (by decide), pu_wr_ne (by decide)]; exact a2 p hp
          · rw [pu_wr_self, upd_n (by decide), pu_wr_self, upd_s]; rfl
          · rw [pu_wr_self, upd_s]; rfl
          · rw [ht, Nat.zero_add]
        | succ j ih =>
          intro k M' hk a1 a2 o e58
          refine r_m_row_67 ?_
          rw [if_neg (lt16 (by omega)), nI_clamp (show k < 2 ^ 31 by omega)]
          refine ⟨inb_nI (by omega) (by decide), c_m_has hs (by omega) ?_⟩
          have b2 : ∀ p, p < k + 1 → pu_wr M' 84 k (-1) 84 p = -1 := fun p hp => by
            rw [pu_wr_self]
            by_cases e : p = k
            · subst e; exact upd_s
            · rw [upd_n e]; exact a2 p (by omega)
          have ow : only mrS M (pu_wr M' 84 k (-1)) := o.wr (Or.inr (Or.inr (Or.inr rfl)))
          cases hb : s.testBit k with
          | false =>
            rw [if_neg (by decide), if_pos rfl, nI_1]
            have := ih (k + 1) (pu_wr M' 84 k (-1)) (by omega)
            rw [cnt_f (P := fun j => s.testBit j) hb, mbk_f hb] at this
            exact this (fun i hi => by rw [pu_wr_ne (by decide)]; exact a1 i hi) b2 ow (by rw [pu_wr_ne (by decide)]; exact e58)
          | true =>
            have hc : cnt (fun j => s.testBit j) k + 1 ≤ pc s := by
              have := cnt_le2 (A := fun j => s.testBit j) (show k + 1 ≤ 16 by omega)
              rw [cnt_t (P := fun j => s.testBit j) hb] at this
              exact this
            rw [if_pos rfl, if_neg (by decide), nI_clamp (show cnt (fun j => s.testBit j) k < 2 ^ 31 by omega), nI_1, nI_1]
            refine ⟨inb_nI (by omega) (by decide), ?_⟩
            have := ih (k + 1) (pu_wr (pu_wr M' 84 k (-1)) 82 (cnt (fun j => s.testBit j) k) (nI k)) (by omega)
            rw [cnt_t (P := fun j => s.testBit j) hb, mbk_t hb] at this
            refine this (fun i hi => ?_) (fun p hp => by rw [pu_wr_ne (by decide)]; exact b2 p hp) (ow.wr (Or.inr (Or.inl rfl))) (by rw [pu_wr_ne (by decide), pu_wr_ne (by decide)]; exact e58)
            rw [pu_wr_self]
            by_cases e : i = cnt (fun j => s.testBit j) k
            · rw [e, upd_s, fset_s]
            · rw [upd_n e, fset_n e, pu_wr_ne (by decide)]; exact a1 i (by omega)
      exact loop 16 0 M rfl (fun i hi => absurd hi (by simp [cnt])) (fun p hp => absurd hp (by omega)) (only.rf _ _) rfl
    have told : (¬ (x < 0 ∨ 6 < x) ∨ x = 100 ∨ x = 101) → pu_I L (d + 4) 166 [.ref 58] M (fun x14 M13 => if nI s &&& (x14 ^^^ (-1)) = 0 then pu_R L (d + 5) 236 67 [.ref 58, .int (nI s), .int x, .int 0, .int 0] [] M13 (pu_qI Q) else Q (-2) M13) := by
      intro hx
      refine c_m_toldSet hM ?_
      have h1 := bs_lt (tl P) 16
      have h2 : an s (bs (tl P) 16) < 2 ^ 16 := an_lt hs (by decide)
      rw [nI_andn (by omega) (by omega)]
      by_cases ct : an s (bs (tl P) 16) = 0
      · rw [ct, if_pos (show nI 0 = 0 from rfl)]; exact fin hx ct
      · rw [if_neg (by rw [n_0, nI_eq (by omega) (by decide)]; exact ct)]
        exact H1 ⟨hr, ⟨hn1, hn⟩, hx⟩ ct
    refine c_m_in ?_
    by_cases hx6 : x < 0 ∨ 6 < x
    · rw [if_pos hx6, if_pos rfl]
      refine c_m_in ?_
      by_cases hx1 : x < 100 ∨ 101 < x
      · rw [if_pos hx1, if_pos rfl]
        refine H0 (fun z => ?_)
        rcases z.2.2 with z | z | z
        · exact z hx6
        · rw [z] at hx1; exact absurd hx1 (by decide)
        · rw [z] at hx1; exact absurd hx1 (by decide)
      · rw [if_neg hx1, if_neg (by decide)]
        refine told (Or.inr ?_)
        have e0 : (100 : Int32).toInt = 100 := rfl
        have e1 : (101 : Int32).toInt = 101 := rfl
        have g1 : ¬ x < 100 := fun z => hx1 (Or.inl z)
        have g2 : ¬ 101 < x := fun z => hx1 (Or.inr z)
        rw [Int32.lt_iff_toInt_lt] at g1 g2
        by_cases h100 : x = 100
        · exact Or.inl h100
        · right
          apply Int32.toInt_inj.mp
          have : ¬ x.toInt = 100 := fun z => h100 (Int32.toInt_inj.mp (by rw [z, e0]))
          omega
    · rw [if_neg hx6, if_neg (by decide)]
      exact told (Or.inl hx6)
  · rw [if_pos hv, if_pos rfl]; exact H0 (fun z => z.1 hv)
end MB
