/-! NIGHTS in the model -/
def nmS (k : Nat) : Prop := k = 58 ∨ k = 59 ∨ k = 74 ∨ k = 75
theorem PM_md {P : Pp} {g : Nat → Int32} {p m : Nat} (h : PM P g) (hp : p < 16) : PM (setmd P p m) (upd g (32 + p) (nI m)) := by
  refine ⟨fun q hq => ⟨?_, ?_, ?_, ?_⟩, ?_, ?_⟩
  · rw [upd_n (by omega)]; exact (h.1 q hq).1
  · rw [upd_n (by omega)]; exact (h.1 q hq).2.1
  · show _ = nI (fset (md P) p m q)
    by_cases z : q = p
    · subst z; rw [upd_s, fset_s]
    · rw [upd_n (by omega), fset_n z]; exact (h.1 q hq).2.2.1
  · rw [upd_n (by omega)]; exact (h.1 q hq).2.2.2
  · rw [upd_n (by omega)]; exact h.2.1
  · rw [upd_n (by omega)]; exact h.2.2
theorem PM_lo {P : Pp} {g : Nat → Int32} {x : Nat} (h : PM P g) : PM (setlo P x) (upd g 65 (nI x)) := by
  refine ⟨fun q hq => ?_, ?_, ?_⟩
  · rw [upd_n (by omega), upd_n (by omega), upd_n (by omega), upd_n (by omega)]; exact h.1 q hq
  · rw [upd_n (by decide)]; exact h.2.1
  · rw [upd_s]; rfl
theorem PM_nt {P : Pp} {g : Nat → Int32} {x : Nat} (h : PM P g) : PM (setnt P x) (upd g 64 (nI x)) := by
  refine ⟨fun q hq => ?_, ?_, ?_⟩
  · rw [upd_n (by omega), upd_n (by omega), upd_n (by omega), upd_n (by omega)]; exact h.1 q hq
  · rw [upd_s]; rfl
  · rw [upd_n (by decide)]; exact h.2.2
section MN
variable {L d : Nat} {M : pu_M} {P : Pp} {F : Law}
theorem c_N_feels {Q : pu_M → Prop} {p : Nat} {k : Option Nat} (hM : PM P (M 59)) (hI : PI P) (hp : p < 16) (hk : ∀ q, k = some q → q < 16) (H : ∀ M', mVl M' (n_fa P p k) → only (fun j => j = 75) M M' → Q M') : pu_V L (d + 5) 204 [.ref 58, .int (nI p), .int (pJ k)] M Q := by
  have tpp := (hI.1 p hp).1
  have hnt := hI.2.2.1
  have fin : ∀ (v3 : Int32) (M0 : pu_M) (s2 : Int32), only (fun j => j = 75) M M0 → (∀ v, v < 5 → M0 75 v = n_fa P p k v) → s2 = n_fa P p k 5 → pu_R L (d + 5) 204 128 [.ref 58, .int (nI p), .int (pJ k), .int v3] [.int s2, .int 5, .ref 75] M0 (pu_qV Q) := by
    intro v3 M0 s2 o hv hs
    refine r_m_feels_128 ⟨by decide, ?_⟩
    have e5 : (5 : Int32).toNatClampNeg = 5 := rfl
    rw [e5]
    have hM1 : PM P ((pu_wr M0 75 5 s2) 59) := by rw [pu_wr_ne (by decide), o 59 (by decide)]; exact hM
    refine c_m_besideSet hM1 hI hp (c_m_bits (bs_lt _ 16) ?_)
    have e6 : (6 : Int32).toNatClampNeg = 6 := rfl
    have e7 : (7 : Int32).toNatClampNeg = 7 := rfl
    have e64 : (64 : Int32).toNatClampNeg = 64 := rfl
    rw [e6, e7, e64, pu_wr_ne (show (59 : Nat) ≠ 75 by decide), hM1.2.1, n_100, nI_rem (by omega) (by decide) (by decide)]
    refine H _ (fun v h8 => ?_) (((o.wr rfl).wr rfl).wr rfl)
    rw [pu_wr_self, pu_wr_self, pu_wr_self]
    have hcs : v < 5 ∨ v = 5 ∨ v = 6 ∨ v = 7 := by omega
    rcases hcs with h | rfl | rfl | rfl
    · rw [upd_n (by omega), upd_n (by omega), upd_n (by omega)]; exact hv v h
    · rw [upd_n (by decide), upd_n (by decide), upd_s]; exact hs
    · rw [upd_n (by decide), upd_s]; rfl
    · rw [upd_s]; rfl
  have z0 : (0 : Int32).toNatClampNeg = 0 := rfl
  have z1 : (1 : Int32).toNatClampNeg = 1 := rfl
  have z2 : (2 : Int32).toNatClampNeg = 2 := rfl
  have z3 : (3 : Int32).toNatClampNeg = 3 := rfl
  have z4 : (4 : Int32).toNatClampNeg = 4 := rfl
  have clp : ∀ a : Nat, a ≤ 48 → ∀ q : Nat, q < 16 → (nI a + nI q).toNatClampNeg = a + q := fun a ha q hq => by rw [nI_add, nI_clamp (by omega)]
  refine r_m_feels ?_
  cases k with
  | none =>
    rw [if_pos pJ_n]
    refine r_m_feels_10 ?_
    rw [if_pos rfl, if_pos rfl, z0, z1]
    refine r_m_feels_52 ⟨by decide, ?_⟩
    rw [if_pos rfl, z2]
    refine r_m_feels_90 ⟨by decide, by rw [n_32, nI_add]; exact inb_nI (by omega) (by decide), ?_⟩
    rw [if_pos rfl, z3, z4, n_32, clp 32 (by decide) p hp]
    have e59 : (pu_wr (pu_wr (pu_wr (pu_wr M 75 0 (nI p)) 75 1 0) 75 2 0) 75 3 0) 59 (32 + p) = nI (md P p) := by
      rw [pu_wr_ne (by decide), pu_wr_ne (by decide), pu_wr_ne (by decide), pu_wr_ne (by decide)]; exact (hM.1 p hp).2.2.1
    rw [e59]
    refine fin _ _ _ ((((((only.rf (fun j => j = 75) M).wr rfl).wr rfl).wr rfl).wr rfl).wr rfl) (fun v hv => ?_) rfl
    rw [pu_wr_self, pu_wr_self, pu_wr_self, pu_wr_self, pu_wr_self]
    have hcs : v = 0 ∨ v = 1 ∨ v = 2 ∨ v = 3 ∨ v = 4 := by omega
    rcases hcs with rfl | rfl | rfl | rfl | rfl <;> rfl
  | some q =>
    have hq := hk q rfl
    have tpq := (hI.1 q hq).1
    rw [if_neg (show ¬ pJ (some q) = -1 from fun z => (nI_m1 (show q < 2 ^ 31 by omega)).mp z)]
    refine r_m_feels_10 ?_
    rw [if_neg (by decide), if_neg (by decide), z0, z1]
    have o1 : only (fun j => j = 75) M (pu_wr (pu_wr M 75 0 (nI p)) 75 1 (pJ (some q))) := ((only.rf (fun j => j = 75) M).wr rfl).wr rfl
    have hM1 : PM P ((pu_wr (pu_wr M 75 0 (nI p)) 75 1 (pJ (some q))) 59) := by rw [o1 59 (by decide)]; exact hM
    refine c_m_shared (q := q) hM1 hI hp hq ?_
    refine r_m_feels_52 ⟨by decide, ?_⟩
    rw [if_neg (by decide), z2]
    show mq_inb (16 + nI q) 66 = true ∧ mq_inb (16 + nI p) 66 = true ∧ _
    rw [n_16]
    refine ⟨by rw [nI_add]; exact inb_nI (by omega) (by decide), by rw [nI_add]; exact inb_nI (by omega) (by decide), ?_⟩
    show pu_I L (d + 4) 162 [.int (((pu_wr (pu_wr (pu_wr M 75 0 (nI p)) 75 1 (pJ (some q))) 75 2 (nI (pc (tp P p &&& tp P q)))) 59 (nI 16 + nI q).toNatClampNeg) &&& (((pu_wr (pu_wr (pu_wr M 75 0 (nI p)) 75 1 (pJ (some q))) 75 2 (nI (pc (tp P p &&& tp P q)))) 59 (nI 16 + nI p).toNatClampNeg) ^^^ (-1)))] _ _
    rw [clp 16 (by decide) q hq, clp 16 (by decide) p hp, pu_wr_ne (show (59 : Nat) ≠ 75 by decide), (hM1.1 q hq).2.1, (hM1.1 p hp).2.1, nI_andn (by omega) (by omega)]
    refine c_m_bits (Nat.lt_of_lt_of_le (an_lt (n := 16) tpq (by decide)) (Nat.le_refl _)) ?_
    refine r_m_feels_90 ⟨by decide, by rw [n_32, nI_add]; exact inb_nI (by omega) (by decide), ?_⟩
    rw [if_neg (by decide), z3, z4, n_32, clp 32 (by decide) p hp]
    have e59 : ∀ i, (pu_wr (pu_wr (pu_wr (pu_wr M 75 0 (nI p)) 75 1 (pJ (some q))) 75 2 (nI (pc (tp P p &&& tp P q)))) 75 3 (nI (pc (an (tp P q) (tp P p))))) 59 i = M 59 i := fun i => by
      rw [pu_wr_ne (by decide), pu_wr_ne (by decide), pu_wr_ne (by decide), pu_wr_ne (by decide)]
    rw [e59]
    refine ⟨by show mq_inb (nI 32 + nI q) 66 = true; rw [nI_add]; exact inb_nI (by omega) (by decide), ?_⟩
    refine fin _ _ _ ((((((only.rf (fun j => j = 75) M).wr rfl).wr rfl).wr rfl).wr rfl).wr rfl) (fun v hv => ?_) ?_
    · rw [pu_wr_self, pu_wr_self, pu_wr_self, pu_wr_self, pu_wr_self]
      have hcs : v = 0 ∨ v = 1 ∨ v = 2 ∨ v = 3 ∨ v = 4 := by omega
      rcases hcs with rfl | rfl | rfl | rfl | rfl
      · rfl
      · rfl
      · rfl
      · rfl
      · exact (hM.1 p hp).2.2.1
    · show (pu_wr (pu_wr (pu_wr (pu_wr (pu_wr M 75 0 (nI p)) 75 1 (pJ (some q))) 75 2 (nI (pc (tp P p &&& tp P q)))) 75 3 (nI (pc (an (tp P q) (tp P p))))) 75 4 (M 59 (32 + p))) 59 (nI 32 + nI q).toNatClampNeg = nI (md P q)
      rw [clp 32 (by decide) q hq, pu_wr_ne (by decide), e59]; exact (hM.1 q hq).2.2.1
theorem mLaw_75 {M' : pu_M} (h : mLaw M F) (f : only (fun k => k = 75) M M') : mLaw M' F := by
  unfold mLaw mLw
  rw [f 58 (by decide), f 69 (by decide), f 70 (by decide), f 71 (by decide), f 72 (by decide), f 73 (by decide)]; exact h
theorem o74 {M' : pu_M} (f : only (fun k => k = 74) M M') : only nmS M M' := fun k hk => f k (fun z => hk (Or.inr (Or.inr (Or.inl z))))
theorem o75 {M' : pu_M} (f : only (fun k => k = 75) M M') : only nmS M M' := fun k hk => f k (fun z => hk (Or.inr (Or.inr (Or.inr z))))
theorem c_N_fav {Q : Int32 → pu_M → Prop} {p : Nat} (hF : wI F) (hM : PM P (M 59)) (hI : PI P) (hK : mLaw M F) (hp : p < 16) (H : ∀ M', M' 59 = M 59 → M' 58 = M 58 → mLaw M' F → only nmS M M' → Q (pJ (n_fav F P p)) M') : pu_I L (d + 6) 213 [.ref 58, .int (nI p)] M Q := by
  have key : ∀ (j k : Nat) (M' : pu_M) (v5 : Value), k + j = 16 → M' 59 = M 59 → M' 58 = M 58 → mLaw M' F → only nmS M M' → pu_R L (d + 6) 213 7 [.ref 58, .int (nI p), .int (pJ (fo (n_lk F P p) k (none, 0)).1), .int (nI (fo (n_lk F P p) k (none, 0)).2), .int (nI k), v5] [] M' (pu_qI Q) := by
    intro j
    induction j with
    | zero =>
      intro k M' v5 hk e59 e58 k1 o
      obtain rfl : k = 16 := by omega
      refine r_m_likesMost_7 ?_
      rw [if_pos ge16]
      exact H M' e59 e58 k1 o
    | succ j ih =>
      intro k M' v5 hk e59 e58 k1 o
      have hk16 : k < 16 := by omega
      have hM' : PM P (M' 59) := by rw [e59]; exact hM
      refine r_m_likesMost_7 ?_
      rw [if_neg (lt16 hk16)]
      refine c_m_areBeside hM' hI hp hk16 ?_
      have es : fo (n_lk F P p) (k + 1) (none, 0) = n_lk F P p k (fo (n_lk F P p) k (none, 0)) := rfl
      have ih := ih (k + 1)
      rw [es] at ih
      have bnd : (fo (n_lk F P p) k (none, 0)).2 ≤ 9999 := by
        refine fo_inv (I := fun a : Option Nat × Nat => a.2 ≤ 9999) (fun k a ha => ?_) (Nat.zero_le _) k
        unfold n_lk
        split
        · split
          · exact w_ask_le (by decide)
          · exact ha
        · exact ha
      generalize fo (n_lk F P p) k (none, 0) = a at ih bnd ⊢
      unfold n_lk at ih
      have hmd := (hI.1 k hk16).2.1
      rw [nI_1]
      cases hb : bsd P p k with
      | false =>
        rw [if_neg (by rw [hb]; simp)] at ih
        rw [if_neg (by decide), if_pos rfl]
        exact ih M' _ (by omega) e59 e58 k1 o
      | true =>
        rw [if_pos rfl, if_neg (by decide), n_32, nI_add, nI_clamp (by omega), (hM'.1 k hk16).2.2.1]
        refine ⟨inb_nI (by omega) (by decide), ?_⟩
        by_cases h0 : md P k = 0
        · rw [if_neg (by rw [hb, h0]; decide)] at ih
          rw [h0, if_pos (show nI 0 = 0 from rfl)]
          exact ih M' _ (by omega) e59 e58 k1 o
        · rw [if_pos (by rw [hb]; simp; omega)] at ih
          rw [if_neg (by rw [n_0, nI_eq (by omega) (by decide)]; exact h0)]
          refine c_N_feels (k := some k) hM' hI hp (fun q z => by cases z; exact hk16) (fun M2 w2 f2 => ?_)
          rw [n_101, n_9999]
          have k2 := mLaw_75 k1 f2
          refine c_N_ask hF k2 w2 (by decide) (by decide) (by decide) (fun M3 f3 => ?_)
          have k3 := mLaw_o k2 f3
          have e3 : M3 59 = M 59 := by rw [f3 59 (by decide), f2 59 (by decide), e59]
          have e38 : M3 58 = M 58 := by rw [f3 58 (by decide), f2 58 (by decide), e58]
          have o3 : only nmS M M3 := (o.tr (o75 f2)).tr (o74 f3)
          have hle := w_ask_le (F := F) (u := n_fa P p (some k)) (c := 101) (hi := 9999) (by decide)
          by_cases z : a.2 < w_ask F (n_fa P p (some k)) 101 9999
          · rw [if_pos z] at ih
            rw [if_pos (by rw [nI_ltI (by omega) (by omega)]; exact z)]
            exact ih M3 _ (by omega) e3 e38 k3 o3
          · rw [if_neg z] at ih
            rw [if_neg (by rw [nI_ltI (by omega) (by omega)]; exact z)]
            exact ih M3 _ (by omega) e3 e38 k3 o3
  exact r_m_likesMost (key 16 0 M _ rfl rfl rfl hK (only.rf _ _))
theorem c_N_learn {Q : pu_M → Prop} {p k l : Nat} (hM : PM P (M 59)) (hI : PI P) (hp : p < 16) (hk : k < 16) (hl : M 58 37 = nI l) (H : ∀ M', PM (n_le P p k l).1 (M' 59) → M' 58 37 = nI (n_le P p k l).2 → (∀ j, j ≠ 37 → M' 58 j = M 58 j) → only (fun j => j = 58 ∨ j = 59) M M' → Q M') : pu_V L (d + 2) 214 [.ref 58, .int (nI p), .int (nI k)] M Q := by
  have tpp := (hI.1 p hp).1
  have tpk := (hI.1 k hk).1
  unfold n_le n_un at H
  have key : ∀ (j t : Nat), t + j = 16 → fnd (fun t => (tp P k).testBit t && !(tp P p).testBit t) 16 0 = fnd (fun t => (tp P k).testBit t && !(tp P p).testBit t) j t → pu_R L (d + 2) 214 2 [.ref 58, .int (nI p), .int (nI k), .int (nI t)] [] M (pu_qV Q) := by
    intro j
    induction j with
    | zero =>
      intro t ht e
      obtain rfl : t = 16 := by omega
      refine r_m_learns_2 ?_
      rw [if_pos ge16]
      rw [e] at H
      exact H M hM hl (fun _ _ => rfl) (only.rf _ _)
    | succ j ih =>
      intro t ht e
      have ht16 : t < 16 := by omega
      refine r_m_learns_2 ?_
      rw [if_neg (lt16 ht16), n_16, nI_add, nI_add, nI_clamp (show 16 + k < 2 ^ 31 by omega), nI_clamp (show 16 + p < 2 ^ 31 by omega), (hM.1 k hk).2.1, nI_1]
      refine ⟨inb_nI (by omega) (by decide), c_m_has tpk (by omega) ?_⟩
      cases hb : (tp P k).testBit t with
      | false =>
        rw [if_neg (by decide), if_pos rfl]
        exact ih (t + 1) (by omega) (by rw [e, fnd_f (by rw [hb]; rfl)])
      | true =>
        rw [if_pos rfl, if_neg (by decide), (hM.1 p hp).2.1]
        refine ⟨inb_nI (by omega) (by decide), c_m_has tpp (by omega) ?_⟩
        cases hb2 : (tp P p).testBit t with
        | true =>
          rw [if_pos rfl, if_neg (by decide)]
          exact ih (t + 1) (by omega) (by rw [e, fnd_f (by rw [hb, hb2]; rfl)])
        | false =>
          rw [if_neg (by decide), if_pos rfl]
          refine ⟨inb_nI (by omega) (by decide), inb_nI (by omega) (by decide), fun M9 e9 => ?_⟩
          have h2 := p2_lt ht16
          rw [(hM.1 p hp).2.1, nI_pow (by omega), nI_or (by omega) (by omega), pu_wr_ne (show (58 : Nat) ≠ 59 by decide), hl, nI_1] at e9
          rw [e, fnd_t (by rw [hb, hb2]; rfl)] at H
          subst e9
          refine H _ ?_ (by rw [pu_wr_self, upd_s]) (fun j hj => ?_) (((only.rf (fun j => j = 58 ∨ j = 59) M).wr (Or.inr rfl)).wr (Or.inl rfl))
          · rw [pu_wr_ne (by decide), pu_wr_self]; exact PM_tp hM hp
          · rw [pu_wr_self, upd_n hj, pu_wr_ne (by decide)]
  exact r_m_learns (key 16 0 rfl rfl)
def nmT (M : pu_M) (F : Law) (s : Ns) : Prop := PM s.1 (M 59) ∧ mLaw M F ∧ M 58 36 = nI s.2.1 ∧ M 58 37 = nI s.2.2
def nmF (M M' : pu_M) : Prop := only nmS M M' ∧ ∀ j, j ≠ 36 → j ≠ 37 → M' 58 j = M 58 j
theorem nmF.rf (M : pu_M) : nmF M M := ⟨only.rf _ _, fun _ _ _ => rfl⟩
theorem nmF.tr {A B C : pu_M} (h1 : nmF A B) (h2 : nmF B C) : nmF A C := ⟨h1.1.tr h2.1, fun j a b => (h2.2 j a b).trans (h1.2 j a b)⟩
theorem mLaw_F {M' : pu_M} (h : mLaw M F) (f : nmF M M') : mLaw M' F := by
  unfold mLaw mLw
  rw [f.2 13 (by decide) (by decide), f.1 69 (by unfold nmS; omega), f.1 70 (by unfold nmS; omega), f.1 71 (by unfold nmS; omega), f.1 72 (by unfold nmS; omega), f.1 73 (by unfold nmS; omega)]; exact h
theorem mo_minmax {Q : Int32 → Prop} {m g b : Nat} (H : Q (nI (n_mo m g b))) : (if nI m + nI g - nI b ≤ 99 then (if 0 ≤ nI m + nI g - nI b then Q (nI m + nI g - nI b) else Q 0) else (if (0 : Int32) ≤ 99 then Q 99 else Q 0)) := by
  unfold n_mo w_cl at H
  rw [← nI_add] at H
  generalize nI m + nI g - nI b = v at H ⊢
  have e0 : (0 : Int32).toInt = 0 := rfl
  have e99 : (99 : Int32).toInt = 99 := rfl
  by_cases h0 : 0 ≤ v
  · rw [if_pos h0] at H
    by_cases h1 : v ≤ 99
    · rw [if_pos (show v ≤ nI 99 from h1)] at H
      rw [if_pos h1, if_pos h0]
      have ev : v = nI v.toNatClampNeg := by
        rw [Int32.le_iff_toInt_le, e0] at h0
        apply Int32.toInt_inj.mp
        rw [nI_toInt (by rw [clampI]; have := Int32.toInt_lt v; omega), clampI]; omega
      rw [← ev] at H; exact H
    · rw [if_neg (show ¬ v ≤ nI 99 from h1)] at H
      rw [if_neg h1, if_pos (by decide)]; exact H
  · rw [if_neg h0] at H
    have h1 : v ≤ 99 := by
      rw [Int32.le_iff_toInt_le] at h0 ⊢; omega
    rw [if_pos h1, if_neg h0]; exact H
theorem c_N_turn {Q : pu_M → Prop} {p : Nat} {s : Ns} (hF : wI F) (hI : PI s.1) (hp : p < 16) (h : nmT M F s) (H : ∀ M', nmT M' F (n_wk F p s) → nmF M M' → Q M') : pu_V L (d + 7) 215 [.ref 58, .int (nI p)] M Q := by
  obtain ⟨P, t, l⟩ := s
  obtain ⟨hM, hK, h0, h1⟩ := h
  dsimp only at hI hM h0 h1
  refine r_m_turnOf ?_
  refine c_N_feels (k := none) hM hI hp (fun q z => by cases z) (fun M1 w1 o1 => ?_)
  have k1 := mLaw_75 hK o1
  refine c_N_any hF k1 w1 (fun M2 o2 => ?_)
  have k2 := mLaw_o k1 o2
  have e59 : M2 59 = M 59 := by rw [o2 59 (by decide), o1 59 (by decide)]
  have e58 : M2 58 = M 58 := by rw [o2 58 (by decide), o1 58 (by decide)]
  have F2 : nmF M M2 := ⟨(o75 o1).tr (o74 o2), fun j _ _ => by rw [e58]⟩
  unfold n_wk n_sil at H
  dsimp only at H
  cases hs : w_any F (n_fa P p none) with
  | true =>
    rw [hs, if_pos rfl] at H
    rw [if_neg (show ¬ bI true = 0 by decide)]
    exact H M2 ⟨by rw [e59]; exact hM, k2, by rw [e58]; exact h0, by rw [e58]; exact h1⟩ F2
  | false =>
    rw [hs, if_neg (by decide)] at H
    rw [if_pos (show bI false = 0 from rfl)]
    have hM2 : PM P (M2 59) := by rw [e59]; exact hM
    refine c_N_fav hF hM2 hI k2 hp (fun M3 a59 a58 k3 o3 => ?_)
    have hM3 : PM P (M3 59) := by rw [a59]; exact hM2
    have hfk : ∀ q, n_fav F P p = some q → q < 16 := fun q hq => fav_lt hq
    refine c_N_feels (k := n_fav F P p) hM3 hI hp hfk (fun M4 w4 o4 => ?_)
    have k4 := mLaw_75 k3 o4
    rw [n_104, n_10, n_103, n_99, n_98]
    refine c_N_ask hF k4 w4 (by decide) (by decide) (by decide) (fun M5 o5 => ?_)
    refine c_N_ask hF (mLaw_o k4 o5) (mVl_o w4 o5) (by decide) (by decide) (by decide) (fun M6 o6 => ?_)
    refine c_N_ask hF (mLaw_o (mLaw_o k4 o5) o6) (mVl_o (mVl_o w4 o5) o6) (by decide) (by decide) (by decide) (fun M7 o7 => ?_)
    have o57 : only (fun k => k = 74) M4 M7 := (o5.tr o6).tr o7
    have k7 := mLaw_o k4 o57
    have b59 : M7 59 = M 59 := by rw [o57 59 (by decide), o4 59 (by decide), a59, e59]
    have b58 : M7 58 = M 58 := by rw [o57 58 (by decide), o4 58 (by decide), a58, e58]
    have hM7 : PM P (M7 59) := by rw [b59]; exact hM
    have F7 : nmF M M7 := ⟨((F2.1.tr o3).tr (o75 o4)).tr (o74 o57), fun j _ _ => by rw [b58]⟩
    -- the mood at the end
    have last : ∀ (P2 : Pp) (M9 : pu_M) (g b t2 l2 : Nat) (x5 x8 : Int32), md P2 = md P → PM P2 (M9 59) → mLaw M9 F → M9 58 36 = nI t2 → M9 58 37 = nI l2 → nmF M M9 → (∀ M', nmT M' F (setmd P2 p (n_mo (md P p) g b), t2, l2) → nmF M M' → Q M') → pu_R L (d + 7) 215 118 [.ref 58, .int (nI p), .int x5, .int x8, .int (nI g), .int (nI b)] [] M9 (pu_qV Q) := by
      intro P2 M9 g b t2 l2 x5 x8 em c9 k9 a0 a1 f9 H9
      refine r_m_turnOf_118 ?_
      have emd : M9 59 (32 + p) = nI (md P p) := by rw [(c9.1 p hp).2.2.1, em]
      rw [n_32, nI_add, nI_clamp (by omega), emd]
      refine ⟨inb_nI (by omega) (by decide), r_m_min ?_⟩
      have goal : ∀ x : Int32, x = nI (n_mo (md P p) g b) → mq_inb (nI (32 + p)) 66 = true ∧ Q (pu_wr M9 59 (32 + p) x) := by
        intro x hx
        subst hx
        refine ⟨inb_nI (by omega) (by decide), H9 _ ⟨?_, ?_, ?_, ?_⟩ ⟨f9.1.wr (Or.inr (Or.inl rfl)), fun j j1 j2 => by rw [pu_wr_ne (by decide)]; exact f9.2 j j1 j2⟩⟩
        · rw [pu_wr_self]; exact PM_md c9 hp
        · unfold mLaw mLw
          rw [pu_wr_ne (by decide), pu_wr_ne (by decide), pu_wr_ne (by decide), pu_wr_ne (by decide), pu_wr_ne (by decide), pu_wr_ne (by decide)]; exact k9
        · rw [pu_wr_ne (by decide)]; exact a0
        · rw [pu_wr_ne (by decide)]; exact a1
      have hmm := mo_minmax (Q := fun x => mq_inb (nI (32 + p)) 66 = true ∧ Q (pu_wr M9 59 (32 + p) x)) (m := md P p) (g := g) (b := b) (goal _ rfl)
      by_cases h1 : nI (md P p) + nI g - nI b ≤ 99
      · rw [if_pos h1] at hmm ⊢
        refine r_m_max ?_
        by_cases h2 : 0 ≤ nI (md P p) + nI g - nI b
        · rw [if_pos h2] at hmm ⊢; exact hmm
        · rw [if_neg h2] at hmm ⊢; exact hmm
      · rw [if_neg h1] at hmm ⊢
        refine r_m_max ?_
        rw [if_pos (by decide)] at hmm ⊢; exact hmm
    unfold n_wk2 at H
    cases hf : n_fav F P p with
    | none =>
      rw [hf] at H
      rw [if_pos pJ_n]
      exact last P M7 _ _ t l _ _ rfl hM7 k7 (by rw [b58]; exact h0) (by rw [b58]; exact h1) F7 H
    | some k =>
      have hk := hfk k hf
      rw [hf] at H
      dsimp only at H
      rw [if_neg (show ¬ pJ (some k) = -1 from fun z => (nI_m1 (show k < 2 ^ 31 by omega)).mp z)]
      intro M13 e13
      have hlo := hI.2.2.2
      have z65 : (65 : Int32).toNatClampNeg = 65 := rfl
      rw [z65] at e13 ⊢
      rw [pu_wr_ne (show (59 : Nat) ≠ 58 by decide), hM7.2.2, nI_lo2 hlo, b58, h0, nI_1] at e13
      have hxlt := n_lo_lt (lo P)
      unfold n_dr at H
      generalize n_lo (lo P) = x at H hxlt e13
      have c9 : PM (setlo P x) (M13 59) := by rw [e13, pu_wr_self, pu_wr_ne (by decide)]; exact PM_lo hM7
      have a0 : M13 58 36 = nI (t + 1) := by rw [e13, pu_wr_ne (by decide), pu_wr_self, upd_s]
      have a1 : M13 58 37 = nI l := by rw [e13, pu_wr_ne (by decide), pu_wr_self, upd_n (by decide), b58]; exact h1
      have f9 : nmF M M13 := by
        rw [e13]
        exact ⟨(F7.1.wr (Or.inl rfl)).wr (Or.inr (Or.inl rfl)), fun j j1 j2 => by rw [pu_wr_ne (by decide), pu_wr_self, upd_n j1]; exact F7.2 j j1 j2⟩
      have k9 : mLaw M13 F := mLaw_F hK f9
      have e65 : M13 59 65 = nI x := c9.2.2
      have hle := w_ask_le (F := F) (u := n_fa P p (some k)) (c := 104) (hi := 10) (by decide)
      rw [e65, nI_rem (by omega) (by decide) (by decide)]
      generalize w_ask F (n_fa P p (some k)) 104 10 = hh at H hle ⊢
      by_cases z : x % 10 < hh
      · rw [if_pos z] at H
        rw [if_neg (by rw [nI_leI (by omega) (by omega)]; omega)]
        have hIl : PI (setlo P x) := PI_setlo hI hxlt
        refine c_N_learn (l := l) c9 hIl hp hk a1 (fun M10 c10 b1 b0 o10 => ?_)
        have em : md (n_le (setlo P x) p k l).1 = md P := by
          unfold n_le
          cases hu : n_un (setlo P x) p k with
          | none => exact md_lo _ _
          | some t => exact (md_tp _ _ _).trans (md_lo _ _)
        have f10 : nmF M13 M10 := ⟨fun q hq => o10 q (fun z => hq (by rcases z with z | z; exact Or.inl z; exact Or.inr (Or.inl z))), fun j _ j2 => b0 j j2⟩
        exact last _ M10 _ _ (t + 1) _ _ _ em c10 (mLaw_F k9 f10) (by rw [b0 36 (by decide)]; exact a0) b1 (f9.tr f10) H
      · rw [if_neg z] at H
        rw [if_pos (by rw [nI_leI (by omega) (by omega)]; omega)]
        exact last _ M13 _ _ (t + 1) l _ _ (md_lo _ _) c9 k9 a0 a1 f9 H
end MN
