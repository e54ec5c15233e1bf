/-! the law's loop -/
def ST (M : pu_M) : Prop := ∃ P n tb F m ws b K, VC P n tb F m ws b K M ∧ VM P n tb F m ws b K M ∧ VI P F m ws b K
section GO
variable {L i j : Nat} {M : pu_M} {P K : Pp} {n : Nat} {tb : Nat → Nat} {F : Law} {m : Nat} {ws : Nat → Wi} {b : Bool} {R E : pu_M → Prop} {a1 a2 a3 a4 a5 : Int32}
theorem g_0 (hp : PR L i j [.ref 0] [.ref 58] P n tb F m ws b K M) (hm : VM P n tb F m ws b K M) (H : ∀ M', ST M' → R M') : pu_I L 59 i [.ref 0] M (fun x M1 => pu_I L 59 j [.ref 58] M1 (fun x' M2 => if x = x' then R M2 else E M2)) := by
  obtain ⟨x, P', n', tb', F', m', ws', b', K', vi, hx, hy⟩ := hp
  refine hx _ (fun M1 c1 e1 => ?_)
  refine hy M1 (VM_c hm e1) _ (fun M2 m2 e2 => ?_)
  rw [if_pos rfl]
  exact H M2 ⟨P', n', tb', F', m', ws', b', K', VC_m c1 e2, m2, vi⟩
theorem g_1 (h1 : mq_inb a1 L = true) (hp : PR L i j [.ref 0, .int (M 1000000 a1.toNatClampNeg)] [.ref 58, .int (M 1000000 a1.toNatClampNeg)] P n tb F m ws b K M) (hm : VM P n tb F m ws b K M) (H : ∀ M', ST M' → R M') : mq_inb a1 L = true ∧ pu_I L 59 i [.ref 0, .int (M 1000000 a1.toNatClampNeg)] M (fun x M1 => mq_inb a1 L = true ∧ pu_I L 59 j [.ref 58, .int (M1 1000000 a1.toNatClampNeg)] M1 (fun x' M2 => if x = x' then R M2 else E M2)) := by
  obtain ⟨x, P', n', tb', F', m', ws', b', K', vi, hx, hy⟩ := hp
  refine ⟨h1, hx _ (fun M1 c1 e1 => ⟨h1, ?_⟩)⟩
  rw [e1 1000000 (by omega)]
  refine hy M1 (VM_c hm e1) _ (fun M2 m2 e2 => ?_)
  rw [if_pos rfl]
  exact H M2 ⟨P', n', tb', F', m', ws', b', K', VC_m c1 e2, m2, vi⟩
theorem g_2 (h1 : mq_inb a1 L = true) (h2 : mq_inb a2 L = true) (hp : PR L i j [.ref 0, .int (M 1000000 a1.toNatClampNeg), .int (M 1000000 a2.toNatClampNeg)] [.ref 58, .int (M 1000000 a1.toNatClampNeg), .int (M 1000000 a2.toNatClampNeg)] P n tb F m ws b K M) (hm : VM P n tb F m ws b K M) (H : ∀ M', ST M' → R M') : mq_inb a1 L = true ∧ mq_inb a2 L = true ∧ pu_I L 59 i [.ref 0, .int (M 1000000 a1.toNatClampNeg), .int (M 1000000 a2.toNatClampNeg)] M (fun x M1 => mq_inb a1 L = true ∧ mq_inb a2 L = true ∧ pu_I L 59 j [.ref 58, .int (M1 1000000 a1.toNatClampNeg), .int (M1 1000000 a2.toNatClampNeg)] M1 (fun x' M2 => if x = x' then R M2 else E M2)) := by
  obtain ⟨x, P', n', tb', F', m', ws', b', K', vi, hx, hy⟩ := hp
  refine ⟨h1, h2, hx _ (fun M1 c1 e1 => ⟨h1, h2, ?_⟩)⟩
  rw [e1 1000000 (by omega)]
  refine hy M1 (VM_c hm e1) _ (fun M2 m2 e2 => ?_)
  rw [if_pos rfl]
  exact H M2 ⟨P', n', tb', F', m', ws', b', K', VC_m c1 e2, m2, vi⟩
theorem g_3 (h1 : mq_inb a1 L = true) (h2 : mq_inb a2 L = true) (h3 : mq_inb a3 L = true) (hp : PR L i j [.ref 0, .int (M 1000000 a1.toNatClampNeg), .int (M 1000000 a2.toNatClampNeg), .int (M 1000000 a3.toNatClampNeg)] [.ref 58, .int (M 1000000 a1.toNatClampNeg), .int (M 1000000 a2.toNatClampNeg), .int (M 1000000 a3.toNatClampNeg)] P n tb F m ws b K M) (hm : VM P n tb F m ws b K M) (H : ∀ M', ST M' → R M') : mq_inb a1 L = true ∧ mq_inb a2 L = true ∧ mq_inb a3 L = true ∧ pu_I L 59 i [.ref 0, .int (M 1000000 a1.toNatClampNeg), .int (M 1000000 a2.toNatClampNeg), .int (M 1000000 a3.toNatClampNeg)] M (fun x M1 => mq_inb a1 L = true ∧ mq_inb a2 L = true ∧ mq_inb a3 L = true ∧ pu_I L 59 j [.ref 58, .int (M1 1000000 a1.toNatClampNeg), .int (M1 1000000 a2.toNatClampNeg), .int (M1 1000000 a3.toNatClampNeg)] M1 (fun x' M2 => if x = x' then R M2 else E M2)) := by
  obtain ⟨x, P', n', tb', F', m', ws', b', K', vi, hx, hy⟩ := hp
  refine ⟨h1, h2, h3, hx _ (fun M1 c1 e1 => ⟨h1, h2, h3, ?_⟩)⟩
  rw [e1 1000000 (by omega)]
  refine hy M1 (VM_c hm e1) _ (fun M2 m2 e2 => ?_)
  rw [if_pos rfl]
  exact H M2 ⟨P', n', tb', F', m', ws', b', K', VC_m c1 e2, m2, vi⟩
theorem g_5 (h1 : mq_inb a1 L = true) (h2 : mq_inb a2 L = true) (h3 : mq_inb a3 L = true) (h4 : mq_inb a4 L = true) (h5 : mq_inb a5 L = true) (hp : PR L i j [.ref 0, .int (M 1000000 a1.toNatClampNeg), .int (M 1000000 a2.toNatClampNeg), .int (M 1000000 a3.toNatClampNeg), .int (M 1000000 a4.toNatClampNeg), .int (M 1000000 a5.toNatClampNeg)] [.ref 58, .int (M 1000000 a1.toNatClampNeg), .int (M 1000000 a2.toNatClampNeg), .int (M 1000000 a3.toNatClampNeg), .int (M 1000000 a4.toNatClampNeg), .int (M 1000000 a5.toNatClampNeg)] P n tb F m ws b K M) (hm : VM P n tb F m ws b K M) (H : ∀ M', ST M' → R M') : mq_inb a1 L = true ∧ mq_inb a2 L = true ∧ mq_inb a3 L = true ∧ mq_inb a4 L = true ∧ mq_inb a5 L = true ∧ pu_I L 59 i [.ref 0, .int (M 1000000 a1.toNatClampNeg), .int (M 1000000 a2.toNatClampNeg), .int (M 1000000 a3.toNatClampNeg), .int (M 1000000 a4.toNatClampNeg), .int (M 1000000 a5.toNatClampNeg)] M (fun x M1 => mq_inb a1 L = true ∧ mq_inb a2 L = true ∧ mq_inb a3 L = true ∧ mq_inb a4 L = true ∧ mq_inb a5 L = true ∧ pu_I L 59 j [.ref 58, .int (M1 1000000 a1.toNatClampNeg), .int (M1 1000000 a2.toNatClampNeg), .int (M1 1000000 a3.toNatClampNeg), .int (M1 1000000 a4.toNatClampNeg), .int (M1 1000000 a5.toNatClampNeg)] M1 (fun x' M2 => if x = x' then R M2 else E M2)) := by
  obtain ⟨x, P', n', tb', F', m', ws', b', K', vi, hx, hy⟩ := hp
  refine ⟨h1, h2, h3, h4, h5, hx _ (fun M1 c1 e1 => ⟨h1, h2, h3, h4, h5, ?_⟩)⟩
  rw [e1 1000000 (by omega)]
  refine hy M1 (VM_c hm e1) _ (fun M2 m2 e2 => ?_)
  rw [if_pos rfl]
  exact H M2 ⟨P', n', tb', F', m', ws', b', K', VC_m c1 e2, m2, vi⟩
end GO
theorem l_past {L i : Nat} (hL : L ≤ 3072) (hi : i ≤ 4000) : (Int32.ofNat L) - 6 < nI i ↔ L < i + 6 := by
  by_cases h : 6 ≤ L
  · have e : (Int32.ofNat L) - 6 = nI (L - 6) := pk_sub (a := L) (b := 6) h
    rw [e, nI_ltI (by omega) (by omega)]; omega
  · have h0 : (nI i).toInt = i := nI_toInt (by omega)
    have : ((Int32.ofNat L) - 6).toInt < 0 := by
      have hc : L = 0 ∨ L = 1 ∨ L = 2 ∨ L = 3 ∨ L = 4 ∨ L = 5 := by omega
      rcases hc with h | h | h | h | h | h <;> subst h <;> decide
    rw [Int32.lt_iff_toInt_lt, h0]; omega
set_option maxRecDepth 20000 in
theorem l_loop {L : Nat} (hL : L ≤ 3072) : ∀ (j i : Nat) (M : pu_M), L ≤ i + j → i ≤ L + 6 → ST M → pu_R L 60 263 18 [.ref 1000000, .ref 0, .ref 58, .int (nI i)] [] M (pu_qI (fun x _ => x = 1)) := by
  intro j
  induction j with
  | zero =>
    intro i M hj hi hS
    refine r_law_law_18 (d := 50) ?_
    exact Eq.mpr (if_pos ((l_past hL (by omega)).mpr (by omega))) rfl
  | succ j ih =>
    intro i M hj hi hS
    refine r_law_law_18 (d := 50) ?_
    by_cases hlt : (Int32.ofNat L) - 6 < nI i
    · exact Eq.mpr (if_pos hlt) rfl
    refine Eq.mpr (if_neg hlt) ?_
    have hlt' : ¬ L < i + 6 := fun z => hlt ((l_past hL (by omega)).mpr z)
    have n6 : nI i + 6 = nI (i + 6) := (Int32.ofNat_add i 6).symm
    have b0 : mq_inb (nI i) L = true := inb_nI (by omega) (by omega)
    have b1 : mq_inb (nI i + 1) L = true := by rw [nI_1]; exact inb_nI (by omega) (by omega)
    have b2 : mq_inb (nI i + 2) L = true := by rw [show nI i + 2 = nI (i + 2) from (Int32.ofNat_add i 2).symm]; exact inb_nI (by omega) (by omega)
    have b3 : mq_inb (nI i + 3) L = true := by rw [show nI i + 3 = nI (i + 3) from (Int32.ofNat_add i 3).symm]; exact inb_nI (by omega) (by omega)
    have b4 : mq_inb (nI i + 4) L = true := by rw [show nI i + 4 = nI (i + 4) from (Int32.ofNat_add i 4).symm]; exact inb_nI (by omega) (by omega)
    have b5 : mq_inb (nI i + 5) L = true := by rw [show nI i + 5 = nI (i + 5) from (Int32.ofNat_add i 5).symm]; exact inb_nI (by omega) (by omega)
    have H : ∀ M', ST M' → pu_R L (50 + 10) 263 18 [.ref 1000000, .ref 0, .ref 58, .int (nI i + 6)] [] M' (pu_qI (fun x _ => x = 1)) := by
      intro M' h
      rw [n6]
      exact ih (i + 6) M' (by omega) (by omega) h
    refine ⟨b0, ?_⟩
    have hS0 := hS
    obtain ⟨P, n, tb, F, m, ws, b, K, hc, hm, hv⟩ := hS
    generalize M 1000000 (nI i).toNatClampNeg &&& 31 = q
    by_cases c0 : q = 0
    · exact Eq.mpr (if_pos c0) (g_3 b1 b2 b3 (p_0 hc hv) hm H)
    refine Eq.mpr (if_neg c0) ?_
    by_cases c1 : q = 1
    · exact Eq.mpr (if_pos c1) (g_5 b1 b2 b3 b4 b5 (p_1 hc hv) hm H)
    refine Eq.mpr (if_neg c1) ?_
    by_cases c2 : q = 2
    · exact Eq.mpr (if_pos c2) (g_1 b1 (p_2 hc hv) hm H)
    refine Eq.mpr (if_neg c2) ?_
    by_cases c3 : q = 3
    · exact Eq.mpr (if_pos c3) (g_1 b1 (p_3 hc hv) hm H)
    refine Eq.mpr (if_neg c3) ?_
    by_cases c4 : q = 4
    · exact Eq.mpr (if_pos c4) (g_1 b1 (p_4 hc hv) hm H)
    refine Eq.mpr (if_neg c4) ?_
    by_cases c5 : q = 5
    · exact Eq.mpr (if_pos c5) (g_1 b1 (p_5 hc hv) hm H)
    refine Eq.mpr (if_neg c5) ?_
    by_cases c6 : q = 6
    · exact Eq.mpr (if_pos c6) (g_2 b1 b2 (p_6 hc hv) hm H)
    refine Eq.mpr (if_neg c6) ?_
    by_cases c7 : q = 7
    · exact Eq.mpr (if_pos c7) (g_2 b1 b2 (p_7 hc hv) hm H)
    refine Eq.mpr (if_neg c7) ?_
    by_cases c8 : q = 8
    · exact Eq.mpr (if_pos c8) (g_2 b1 b2 (p_8 hc hv) hm H)
    refine Eq.mpr (if_neg c8) ?_
    by_cases c9 : q = 9
    · exact Eq.mpr (if_pos c9) (g_0 (p_9 hc hv) hm H)
    refine Eq.mpr (if_neg c9) ?_
    by_cases c10 : q = 10
    · exact Eq.mpr (if_pos c10) (g_2 b1 b2 (p_10 hc hv) hm H)
    refine Eq.mpr (if_neg c10) ?_
    by_cases c11 : q = 11
    · exact Eq.mpr (if_pos c11) (g_1 b1 (p_11 hc hv) hm H)
    refine Eq.mpr (if_neg c11) ?_
    by_cases c12 : q = 12
    · exact Eq.mpr (if_pos c12) (g_1 b1 (p_12 hc hv) hm H)
    refine Eq.mpr (if_neg c12) ?_
    by_cases c13 : q = 13
    · exact Eq.mpr (if_pos c13) (g_1 b1 (p_13 hc hv) hm H)
    refine Eq.mpr (if_neg c13) ?_
    by_cases c14 : q = 14
    · exact Eq.mpr (if_pos c14) (g_2 b1 b2 (p_14 hc hv) hm H)
    refine Eq.mpr (if_neg c14) ?_
    by_cases c15 : q = 15
    · exact Eq.mpr (if_pos c15) (g_2 b1 b2 (p_15 hc hv) hm H)
    refine Eq.mpr (if_neg c15) ?_
    by_cases c16 : q = 16
    · exact Eq.mpr (if_pos c16) (g_2 b1 b2 (p_16 hc hv) hm H)
    refine Eq.mpr (if_neg c16) ?_
    by_cases c17 : q = 17
    · exact Eq.mpr (if_pos c17) (g_1 b1 (p_17 hc hv) hm H)
    refine Eq.mpr (if_neg c17) ?_
    by_cases c18 : q = 18
    · exact Eq.mpr (if_pos c18) (g_2 b1 b2 (p_18 hc hv) hm H)
    refine Eq.mpr (if_neg c18) ?_
    by_cases c19 : q = 19
    · exact Eq.mpr (if_pos c19) (g_2 b1 b2 (p_19 hc hv) hm H)
    refine Eq.mpr (if_neg c19) ?_
    by_cases c20 : q = 20
    · exact Eq.mpr (if_pos c20) (g_2 b1 b2 (p_20 hc hv) hm H)
    refine Eq.mpr (if_neg c20) ?_
    by_cases c21 : q = 21
    · exact Eq.mpr (if_pos c21) (g_1 b1 (p_21 hc hv) hm H)
    refine Eq.mpr (if_neg c21) ?_
    by_cases c22 : q = 22
    · exact Eq.mpr (if_pos c22) (g_1 b1 (p_22 hc hv) hm H)
    refine Eq.mpr (if_neg c22) ?_
    by_cases c23 : q = 23
    · exact Eq.mpr (if_pos c23) (g_0 (p_23 hc hv) hm H)
    refine Eq.mpr (if_neg c23) ?_
    by_cases c24 : q = 24
    · exact Eq.mpr (if_pos c24) (g_2 b1 b2 (p_24 hc hv) hm H)
    refine Eq.mpr (if_neg c24) ?_
    by_cases c25 : q = 25
    · exact Eq.mpr (if_pos c25) (g_1 b1 (p_25 hc hv) hm H)
    refine Eq.mpr (if_neg c25) ?_
    by_cases c26 : q = 26
    · exact Eq.mpr (if_pos c26) (g_0 (p_26 hc hv) hm H)
    refine Eq.mpr (if_neg c26) ?_
    by_cases c27 : q = 27
    · exact Eq.mpr (if_pos c27) (g_0 (p_27 hc hv) hm H)
    refine Eq.mpr (if_neg c27) ?_
    by_cases c28 : q = 28
    · exact Eq.mpr (if_pos c28) (g_1 b1 (p_28 hc hv) hm H)
    refine Eq.mpr (if_neg c28) ?_
    by_cases c29 : q = 29
    · exact Eq.mpr (if_pos c29) (g_1 b1 (p_29 hc hv) hm H)
    refine Eq.mpr (if_neg c29) ?_
    exact H M hS0
def P_0 : Pp := (fun _ => false, fun _ => 0, fun _ => 0, fun _ => none, 0, 1)
def F_0 : Law := (fun _ => (0, 0, 0), l_R0, 0, 0)
set_option maxRecDepth 20000 in
theorem l_cf : (∀ p, p < 16 → cf_24_f p = -2) ∧ (∀ w, w < 60 → cf_25_f w = -2) ∧ ∀ p, p < 16 → cf_59_17 p = 0 ∧ cf_59_17 (16 + p) = 0 ∧ cf_59_17 (32 + p) = 0 ∧ cf_59_17 (48 + p) = -2 := by decide +kernel
theorem l_who (w : Nat) : who P_0 w = none := by
  cases h : who P_0 w with
  | none => rfl
  | some p => exact absurd (who_some h).2 (by intro z; cases z)
set_option maxRecDepth 20000 in
theorem ST_0 (xs : Nat → Int32) : ST (pu_M0 xs) := by
  refine ⟨P_0, 0, fun _ => 0, F_0, 0, dfW, false, P_0, ⟨21, 26, 31, 40, 50, 54, by unfold HR; omega, ⟨⟨rfl, rfl⟩, ⟨rfl, rfl⟩, ⟨rfl, rfl⟩, rfl⟩, ⟨fun p hp => ⟨rfl, rfl, l_cf.1 p hp⟩, fun w hw => ?_, rfl, rfl, rfl⟩, ⟨by omega, rfl, fun i hi => absurd hi (by omega)⟩, ⟨⟨rfl, fun i hi => absurd hi (by show ¬ i < 0; omega)⟩, fun p hp => absurd hp (by show ¬ p < 0; omega)⟩, ⟨rfl, fun i hi => absurd hi (by omega)⟩, fun h => by cases h⟩, ⟨⟨fun p hp => l_cf.2.2 p hp, rfl, rfl⟩, ⟨by omega, rfl, fun i hi => absurd hi (by omega)⟩, ⟨rfl, fun i hi => absurd hi (by show ¬ i < 0; omega), fun p hp => absurd hp (by show ¬ p < 0; omega)⟩, ⟨rfl, fun i hi => absurd hi (by omega)⟩, rfl, fun h => by cases h⟩, ⟨?_, ⟨⟨by show 0 ≤ 16; omega, fun i hi => absurd hi (by show ¬ i < 0; omega)⟩, by show 0 ≤ 240; omega, fun i hi => absurd hi (by show ¬ i < 0; omega)⟩, ⟨by omega, fun i hi => absurd hi (by omega)⟩, fun h => by cases h⟩⟩
  · rw [l_who]; exact l_cf.2.1 w hw
  · exact ⟨(fun p _ => ⟨(by show 0 < 65536; omega), (by show 0 < 100; omega), fun w h => by cases h⟩), (fun p q w _ _ h => by cases h), (by show 0 ≤ 9999; omega), (by show 1 < 65536; omega)⟩
theorem mq_law_holds (L : Nat) (xs : Nat → Int32) (hL : L ≤ 3072) : mq_Law L xs := mq_Law_of (l_loop hL L 0 (pu_M0 xs) (by omega) (by omega) (ST_0 xs))
