/-! the model reads THE LAW: law -/
def mLw (M : pu_M) (f : Nat → Lin) (R : Nat → Rul) (m c : Nat) : Prop := M 58 13 = nI m ∧ (∀ i, i < m → M 70 i = nI (R i).1 ∧ M 71 i = nI (R i).2.1 ∧ M 72 i = nI (R i).2.2.1 ∧ M 73 i = nI (R i).2.2.2) ∧ ∀ p, p < c → M 69 p = nI (1048576 * (f p).1 + (f p).2.1) ∧ (f p).2.1 < 1048576
def mlS (k : Nat) : Prop := k = 58 ∨ (63 ≤ k ∧ k ≤ 68)
def mkS (k : Nat) : Prop := k = 58 ∨ (63 ≤ k ∧ k ≤ 73)
section ML
variable {L d : Nat} {tb : Nat → Nat} {e : Nat} {Q : Int32 → pu_M → Prop} {R : Nat → Rul} {m n : Nat} {s : Lst} {M : pu_M}
theorem c_m_lEnd {v1 v2 : Int32} (hm : m ≤ 16) (hc : lcn s ≤ 240) (hC : mC M s) (hR : mR M R m) (H : ∀ M', mLw M' (lfn s) R m (lcn s) → M' 58 4 = 0 → (∀ j, j ≠ 4 → j ≠ 13 → M' 58 j = M 58 j) → only mkS M M' → Q (nI m) M') (hv : ¬ v2 = 0) : pu_R L (d + 9) 199 71 [.ref 58, .int v1, .int v2, mq_un] [] M (pu_qI Q) := by
  refine r_m_law_71 ?_
  have e12 : pu_wr M 58 4 0 58 12 = nI m := by rw [pu_wr_self, upd_n (by decide)]; exact hR.1
  rw [if_neg hv, e12]
  -- the rules
  have rules : ∀ (j k : Nat) (M' : pu_M), k + j = m → M' 58 12 = nI m → (∀ i, i < m → M' 65 i = nI (R i).1 ∧ M' 66 i = nI (R i).2.1 ∧ M' 67 i = nI (R i).2.2.1 ∧ M' 68 i = nI (R i).2.2.2) → (∀ i, i < k → M' 70 i = nI (R i).1 ∧ M' 71 i = nI (R i).2.1 ∧ M' 72 i = nI (R i).2.2.1 ∧ M' 73 i = nI (R i).2.2.2) → (∀ p, p < lcn s → M' 69 p = nI (1048576 * (lfn s p).1 + (lfn s p).2.1)) → M' 58 13 = nI m → M' 58 4 = 0 → (∀ j, j ≠ 4 → j ≠ 13 → M' 58 j = M 58 j) → only mkS M M' → pu_R L (d + 9) 199 123 [.ref 58, .int v1, .int v2, .int (nI k)] [] M' (pu_qI Q) := by
    intro j
    induction j with
    | zero =>
      intro k M' hk a1 a2 a3 a4 a5 a6 a7 o
      refine r_m_law_123 ?_
      rw [a1, if_pos ((nI_leI (by omega) (by omega)).mpr (by omega))]
      obtain rfl : k = m := by omega
      exact H M' ⟨a5, a3, fun p hp => ⟨a4 p hp, (hC.2 p hp).2.2⟩⟩ a6 a7 o
    | succ j ih =>
      intro k M' hk a1 a2 a3 a4 a5 a6 a7 o
      refine r_m_law_123 ?_
      rw [a1, if_neg (fun z => by have := (nI_leI (by omega) (by omega)).mp z; omega), nI_clamp (by omega), nI_1]
      refine ⟨inb_nI (by omega) (by decide), inb_nI (by omega) (by decide), inb_nI (by omega) (by decide), inb_nI (by omega) (by decide), inb_nI (by omega) (by decide), inb_nI (by omega) (by decide), fun M7 hM7 => ?_⟩
      have g66 : pu_wr M' 70 k (M' 65 k) 66 k = M' 66 k := by rw [pu_wr_ne (by decide)]
      rw [g66] at hM7
      have g67 : pu_wr (pu_wr M' 70 k (M' 65 k)) 71 k (M' 66 k) 67 k = M' 67 k := by rw [pu_wr_ne (by decide), pu_wr_ne (by decide)]
      rw [g67] at hM7
      have g68 : M7 68 k = M' 68 k := by rw [hM7, pu_wr_ne (by decide), pu_wr_ne (by decide), pu_wr_ne (by decide)]
      rw [g68]
      refine ⟨inb_nI (by omega) (by decide), inb_nI (by omega) (by decide), ?_⟩
      have k1 : ∀ c, c ≠ 70 → c ≠ 71 → c ≠ 72 → c ≠ 73 → pu_wr M7 73 k (M' 68 k) c = M' c := fun c h1 h2 h3 h4 => by rw [pu_wr_ne h4, hM7, pu_wr_ne h3, pu_wr_ne h2, pu_wr_ne h1]
      have k70 : pu_wr M7 73 k (M' 68 k) 70 = upd (M' 70) k (M' 65 k) := by rw [pu_wr_ne (by decide), hM7, pu_wr_ne (by decide), pu_wr_ne (by decide), pu_wr_self]
      have k71 : pu_wr M7 73 k (M' 68 k) 71 = upd (M' 71) k (M' 66 k) := by rw [pu_wr_ne (by decide), hM7, pu_wr_ne (by decide), pu_wr_self, pu_wr_ne (by decide)]
      have k72 : pu_wr M7 73 k (M' 68 k) 72 = upd (M' 72) k (M' 67 k) := by rw [pu_wr_ne (by decide), hM7, pu_wr_self, pu_wr_ne (by decide), pu_wr_ne (by decide)]
      have k73 : pu_wr M7 73 k (M' 68 k) 73 = upd (M' 73) k (M' 68 k) := by rw [pu_wr_self, hM7, pu_wr_ne (by decide), pu_wr_ne (by decide), pu_wr_ne (by decide)]
      have o7 : only mkS M (pu_wr M7 73 k (M' 68 k)) := by rw [hM7]; exact (((o.wr (by unfold mkS; omega)).wr (by unfold mkS; omega)).wr (by unfold mkS; omega)).wr (by unfold mkS; omega)
      have e58 : pu_wr M7 73 k (M' 68 k) 58 = M' 58 := k1 58 (by decide) (by decide) (by decide) (by decide)
      refine ih (k + 1) _ (by omega) (by rw [e58]; exact a1) (fun i hi => ?_) (fun i hi => ?_) (fun p hp => ?_) (by rw [e58]; exact a5) (by rw [e58]; exact a6) (by rw [e58]; exact a7) o7
      · rw [k1 65 (by decide) (by decide) (by decide) (by decide), k1 66 (by decide) (by decide) (by decide) (by decide), k1 67 (by decide) (by decide) (by decide) (by decide), k1 68 (by decide) (by decide) (by decide) (by decide)]; exact a2 i hi
      · rw [k70, k71, k72, k73]
        by_cases x : i = k
        · rw [x, upd_s, upd_s, upd_s, upd_s]; exact a2 k (by omega)
        · rw [upd_n x, upd_n x, upd_n x, upd_n x]; exact a3 i (by omega)
      · rw [k1 69 (by decide) (by decide) (by decide) (by decide)]; exact a4 p hp
  -- the steps
  have steps : ∀ (j k : Nat) (M' : pu_M), k + j = lcn s → M' 58 12 = nI m → M' 58 10 = nI (lcn s) → (∀ i, i < m → M' 65 i = nI (R i).1 ∧ M' 66 i = nI (R i).2.1 ∧ M' 67 i = nI (R i).2.2.1 ∧ M' 68 i = nI (R i).2.2.2) → (∀ p, p < lcn s → M' 63 p = nI (1048576 * (lfn s p).1 + (lfn s p).2.1)) → (∀ p, p < k → M' 69 p = nI (1048576 * (lfn s p).1 + (lfn s p).2.1)) → M' 58 13 = nI m → M' 58 4 = 0 → (∀ j, j ≠ 4 → j ≠ 13 → M' 58 j = M 58 j) → only mkS M M' → pu_R L (d + 9) 199 95 [.ref 58, .int v1, .int v2, .int (nI k)] [] M' (pu_qI Q) := by
    intro j
    induction j with
    | zero =>
      intro k M' hk a1 a10 a2 a3 a4 a5 a6 a7 o
      refine r_m_law_95 ?_
      rw [a10, if_pos ((nI_leI (by omega) (by omega)).mpr (by omega))]
      exact rules m 0 M' (by omega) a1 a2 (fun i hi => absurd hi (by omega)) (fun p hp => a4 p (by omega)) a5 a6 a7 o
    | succ j ih =>
      intro k M' hk a1 a10 a2 a3 a4 a5 a6 a7 o
      refine r_m_law_95 ?_
      rw [a10, if_neg (fun z => by have := (nI_leI (by omega) (by omega)).mp z; omega), nI_clamp (by omega), nI_1]
      refine ⟨inb_nI (by omega) (by decide), inb_nI (by omega) (by decide), ?_⟩
      have e58 : pu_wr M' 69 k (M' 63 k) 58 = M' 58 := pu_wr_ne (by decide)
      refine ih (k + 1) _ (by omega) (by rw [e58]; exact a1) (by rw [e58]; exact a10) (fun i hi => ?_) (fun p hp => ?_) (fun p hp => ?_) (by rw [e58]; exact a5) (by rw [e58]; exact a6) (by rw [e58]; exact a7) (o.wr (by unfold mkS; omega))
      · rw [pu_wr_ne (by decide), pu_wr_ne (by decide), pu_wr_ne (by decide), pu_wr_ne (by decide)]; exact a2 i hi
      · rw [pu_wr_ne (by decide)]; exact a3 p hp
      · rw [pu_wr_self]
        by_cases x : p = k
        · rw [x, upd_s]; exact a3 k (by omega)
        · rw [upd_n x]; exact a4 p (by omega)
  refine steps (lcn s) 0 _ (by omega) ?_ ?_ ?_ ?_ (fun p hp => absurd hp (by omega)) ?_ ?_ ?_ (((only.rf mkS M).wr (Or.inl rfl)).wr (Or.inl rfl))
  · rw [pu_wr_self, upd_n (by decide)]; exact e12
  · rw [pu_wr_self, upd_n (by decide), pu_wr_self, upd_n (by decide)]; exact hC.1
  · intro i hi; rw [pu_wr_ne (by decide), pu_wr_ne (by decide), pu_wr_ne (by decide), pu_wr_ne (by decide), pu_wr_ne (by decide), pu_wr_ne (by decide), pu_wr_ne (by decide), pu_wr_ne (by decide)]; exact hR.2 i hi
  · intro p hp; rw [pu_wr_ne (by decide), pu_wr_ne (by decide)]; exact (hC.2 p hp).1
  · rw [pu_wr_self, upd_s]
  · rw [pu_wr_self, upd_n (by decide), pu_wr_self, upd_s]
  · intro j j1 j2; rw [pu_wr_self, upd_n j2, pu_wr_self, upd_n j1]
theorem c_m_lLoop {v1 : Int32} (hX : TX tb e) : ∀ {g m : Nat} {R : Nat → Rul} {s : Lst} {M : pu_M} {x : Int32}, g + m = 17 → m ≤ 16 → lqn s ≤ e → lcn s ≤ lqn s → (match l_rule tb e m s with
    | .inl f => x = 0 ∧ M 58 7 = f
    | .inr y => x = 1 ∧ MSt M tb e (lqn y.2) ∧ mC M y.2 ∧ mR M (fset R m y.1) (m + 1)) → (match l_rules tb e g m R s with
    | .inl f => ∀ M', M' 58 4 = 0 → (∀ j, j ≠ 4 → ¬ scF j → M' 58 j = M 58 j) → only mlS M M' → Q f M'
    | .inr y => ∀ M', mLw M' (lfn y.2.2) y.2.1 y.1 (lcn y.2.2) → M' 58 4 = 0 → (∀ j, j ≠ 4 → j ≠ 13 → ¬ scF j → M' 58 j = M 58 j) → only mkS M M' → Q (nI y.1) M') → pu_R L (d + 9) 199 31 [.ref 58, .int v1, .int x, mq_un] [] M (pu_qI Q)
  | 0, m, R, s, M, x, hg, hm, hq, hc, hR, H => by omega
  | g + 1, m, R, s, M, x, hg, hm, hq, hc, hR, H => by
    have he := hX.1
    unfold l_rules at H
    refine r_m_law_31 ?_
    have endF : ∀ {M2 : pu_M} {f : Int32}, M2 58 7 = f → mO M M2 → (∀ M', M' 58 4 = 0 → (∀ j, j ≠ 4 → ¬ scF j → M' 58 j = M 58 j) → only mlS M M' → Q f M') → pu_R L (d + 9) 199 71 [.ref 58, .int v1, .int 0, mq_un] [] M2 (pu_qI Q) := by
      intro M2 f h7 o H
      refine r_m_law_71 ?_
      have e7 : pu_wr M2 58 4 0 58 7 = f := by rw [pu_wr_self, upd_n (by decide)]; exact h7
      rw [if_pos rfl, e7]
      exact H _ (by rw [pu_wr_self, upd_s]) (fun j j1 j2 => by rw [pu_wr_self, upd_n j1]; exact o.2 j j2) (only.wr o.1 (Or.inl rfl))
    have tp := l_rule_tp hX hm hq hc
    cases hr : l_rule tb e m s with
    | inl f =>
      rw [hr] at H hR
      obtain ⟨rfl, h7⟩ := hR
      rw [if_pos rfl]
      exact endF h7 (mO.rf M) H
    | inr y =>
      obtain ⟨w, s'⟩ := y
      rw [hr] at H hR tp
      obtain ⟨rfl, hS, hC, hR'⟩ := hR
      obtain ⟨p1, p2, p3, p4, -⟩ := tp
      dsimp only at H hS hC hR' p1 p2 p3 p4
      rw [if_neg (by decide), hS.1, hS.2.1]
      by_cases hqe : lqn s' < e
      · rw [if_pos hqe] at H
        rw [if_neg (fun z => by have := (nI_leI (by omega) (by omega)).mp z; omega)]
        refine c_m_takes hX (by omega) hS (fun hch => ?_) (fun hch => ?_)
        · rw [if_pos hch] at H
          rw [if_neg (by decide)]
          have s1 : MSt (pu_wr M 58 5 (nI (lqn s' + 1))) tb e (lqn (l_adv s')) := MSt_adv hS
          have o1 : mO M (pu_wr M 58 5 (nI (lqn s' + 1))) := (mO.rf M).w58 scF5
          have c1 : mC (pu_wr M 58 5 (nI (lqn s' + 1))) (l_adv s') := mC_58 hC (by decide)
          have r1 : mR (pu_wr M 58 5 (nI (lqn s' + 1))) (fset R m w) (m + 1) := mR_58 hR' (by decide)
          generalize pu_wr M 58 5 (nI (lqn s' + 1)) = M1 at s1 o1 c1 r1 ⊢
          have hc1 : lcn (l_adv s') ≤ lqn (l_adv s') := show lcn s' ≤ lqn s' + 1 by omega
          have next : ∀ {M2 : pu_M} {x : Int32}, mO M1 M2 → (match l_rule tb e (m + 1) (l_adv s') with
              | .inl f => x = 0 ∧ M2 58 7 = f
              | .inr z => x = 1 ∧ MSt M2 tb e (lqn z.2) ∧ mC M2 z.2 ∧ mR M2 (fset (fset R m w) (m + 1) z.1) (m + 1 + 1)) → pu_R L (d + 9) 199 31 [.ref 58, .int v1, .int x, mq_un] [] M2 (pu_qI Q) := by
            intro M2 x o2 hR2
            refine c_m_lLoop hX (g := g) (m := m + 1) (R := fset R m w) (s := l_adv s') (by omega) (by omega) hqe hc1 hR2 ?_
            revert H
            generalize l_rules tb e g (m + 1) (fset R m w) (l_adv s') = RR
            intro H
            cases RR with
            | inl f => exact fun M' a b o => H M' a (fun j j1 j2 => by rw [b j j1 j2, o2.2 j j2, o1.2 j j2]) ((o1.1.tr o2.1).tr o)
            | inr z =>
              refine fun M' a0 a b o => H M' a0 a (fun j j1 j2 j3 => by rw [b j j1 j2 j3, o2.2 j j3, o1.2 j j3]) (fun k hk => ?_)
              have hk' : ¬ mlS k := fun z => hk (by unfold mlS at z; unfold mkS; omega)
              rw [o k hk, o2.1 k hk', o1.1 k hk']
          refine c_N_rule (s := l_adv s') hX (by omega) s1 c1 r1 hc1 hqe ?_
          cases hr2 : l_rule tb e (m + 1) (l_adv s') with
          | inl f => exact fun M2 a o => by rw [if_pos rfl]; exact next o (by rw [hr2]; exact ⟨rfl, a⟩)
          | inr z => exact fun M2 a b c o => by rw [if_neg (by decide)]; exact next o (by rw [hr2]; exact ⟨rfl, a, b, c⟩)
        · rw [if_neg hch] at H
          rw [if_pos rfl]
          refine r_m_law_31 ?_
          rw [if_pos rfl]
          exact endF (by rw [pu_wr_self, upd_s]) ((mO.rf M).w58 scF7) H
      · rw [if_neg hqe] at H
        rw [if_pos ((nI_leI (by omega) (by omega)).mpr (by omega))]
        exact c_m_lEnd (s := s') (by omega) (by omega) hC hR' (fun M' a b c o => H M' a b (fun j j1 j2 _ => c j j1 j2) o) (by decide)
theorem c_m_law (h1 : 1 ≤ e) (h2 : e ≤ 240) (hen : e ≤ n) (hT : MT M n tb) (H : match l_rules tb e 17 0 l_R0 l_s0 with
    | .inl f => ∀ M', M' 58 4 = 0 → (∀ j, j ≠ 4 → ¬ scF j → M' 58 j = M 58 j) → only mlS M M' → Q f M'
    | .inr y => ∀ M', mLw M' (lfn y.2.2) y.2.1 y.1 (lcn y.2.2) → M' 58 4 = 0 → (∀ j, j ≠ 4 → j ≠ 13 → ¬ scF j → M' 58 j = M 58 j) → only mkS M M' → Q (nI y.1) M') : pu_I L (d + 9) 199 [.ref 58, .int (nI e)] M Q := by
  obtain ⟨t1, t2, t3⟩ := hT
  have hX : TX tb e := ⟨by omega, fun i hi => (t3 i (by omega)).2⟩
  refine r_m_law (c_m_in ?_)
  rw [if_neg (by rw [n_1, n_240, nI_ltI (by omega) (by omega), nI_ltI (by omega) (by omega)]; omega), if_neg (by decide), t2, if_pos ((nI_leI (by omega) (by omega)).mpr hen)]
  refine c_m_begins (fun M1 b6 b5 b10 b12 f1 o1 => ?_)
  have s1 : MSt M1 tb e (lqn l_s0) := ⟨b6, b5, fun i hi => by rw [o1 62 (by decide)]; exact (t3 i (by omega)).1⟩
  have c1 : mC M1 l_s0 := ⟨b10, fun p hp => absurd hp (by show ¬ p < 0; omega)⟩
  have r1 : mR M1 l_R0 0 := ⟨b12, fun i hi => absurd hi (by omega)⟩
  have o1 : mO M M1 := ⟨fun k hk => o1 k (fun z => hk (Or.inl z)), f1⟩
  have next : ∀ {M3 : pu_M} {x : Int32}, mO M1 M3 → (match l_rule tb e 0 l_s0 with
      | .inl f => x = 0 ∧ M3 58 7 = f
      | .inr z => x = 1 ∧ MSt M3 tb e (lqn z.2) ∧ mC M3 z.2 ∧ mR M3 (fset l_R0 0 z.1) (0 + 1)) → pu_R L (d + 9) 199 31 [.ref 58, .int (nI e), .int x, mq_un] [] M3 (pu_qI Q) := by
    intro M3 x o2 hR2
    refine c_m_lLoop hX (g := 17) (m := 0) (R := l_R0) (s := l_s0) (by omega) (by omega) (Nat.zero_le _) (Nat.le_refl _) hR2 ?_
    revert H
    generalize l_rules tb e 17 0 l_R0 l_s0 = RR
    intro H
    cases RR with
    | inl f => exact fun M' a b o => H M' a (fun j j1 j2 => by rw [b j j1 j2, o2.2 j j2, o1.2 j j2]) ((o1.1.tr o2.1).tr o)
    | inr z =>
      refine fun M' a0 a b o => H M' a0 a (fun j j1 j2 j3 => by rw [b j j1 j2 j3, o2.2 j j3, o1.2 j j3]) (fun k hk => ?_)
      have hk' : ¬ mlS k := fun z => hk (by unfold mlS at z; unfold mkS; omega)
      rw [o k hk, o2.1 k hk', o1.1 k hk']
  refine c_N_rule (s := l_s0) hX (by decide) s1 c1 r1 (Nat.le_refl _) (Nat.zero_le _) ?_
  cases hr2 : l_rule tb e 0 l_s0 with
  | inl f => exact fun M2 a o => next o (by rw [hr2]; exact ⟨rfl, a⟩)
  | inr z => exact fun M2 a b c o => next o (by rw [hr2]; exact ⟨rfl, a, b, c⟩)
theorem c_m_lawN {v : Int32} (hN : ¬ okE 1 240 n v) (hT : MT M n tb) (H : Q (-1) M) : pu_I L (d + 9) 199 [.ref 58, .int v] M Q := by
  refine r_m_law (c_m_in ?_)
  by_cases h : v < 1 ∨ 240 < v
  · rw [if_pos h, if_pos rfl]; exact H
  · rw [if_neg h, if_neg (by decide), hT.2.1, if_neg (in_no (a := 1) (b := 240) (by decide) (by decide) hT.1 hN h)]; exact H
end ML
