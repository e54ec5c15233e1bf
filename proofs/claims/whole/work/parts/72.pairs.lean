/-! each call that changes something, of the class beside the model's -/
section PC
variable {L : Nat} {M : pu_M} {P K : Pp} {n : Nat} {tb : Nat → Nat} {F : Law} {m : Nat} {ws : Nat → Wi} {b : Bool} {u v x1 x2 x3 : Int32}
/-- the yard that is used changes -/
theorem VC_y {P' : Pp} {M' : pu_M} {y y2 l l2 w w2 : Nat} (hr : HR y y2 l l2 w w2) (hd : HD (M 0) y y2 l l2 w w2 b) (ct : CT M n tb) (cl : kL M l F) (cw : CW ws m M w) (ck : b = true → CY K M 16) (cy : CY P' M' y) (o : only (yS y) M M') : VC P' n tb F m ws b K M' ∧ ∀ k, 58 ≤ k → M' k = M k := by
  have e : ∀ k, ¬ (y ≤ k ∧ k ≤ y + 4) → M' k = M k := o
  have hr' := hr
  unfold HR at hr
  refine ⟨⟨y, y2, l, l2, w, w2, hr', ?_, cy, CT_e ct (e 1 (by omega)) (e 2 (by omega)), kL_e cl (fun k _ _ => e k (by omega)) (by rw [e l (by omega)]), CW_e cw (fun k _ _ => e k (by omega)), fun hb => CY_e (ck hb) (fun k _ _ => e k (by omega))⟩, fun k _ => e k (by omega)⟩
  rw [e 0 (by omega)]; exact hd
theorem VM_59 {P' : Pp} {M1 M' : pu_M} (hm : VM P n tb F m ws b K M1) (hp : PM P' (M' 59)) (o : only (fun k => k = 59) M1 M') : VM P' n tb F m ws b K M' ∧ ∀ k, (k < 58 ∨ 90 ≤ k) → M' k = M1 k := by
  have e : ∀ k, ¬ (k = 59) → M' k = M1 k := o
  obtain ⟨h1, h2, h3, h4, h5, h6⟩ := hm
  refine ⟨⟨hp, MT_e h2 (by rw [e 58 (by omega)]) (e 62 (by omega)), mLaw_e h3 (by rw [e 58 (by omega)]) (fun k _ _ => e k (by omega)), MW_e h4 (by rw [e 58 (by omega)]) (fun k _ _ => e k (by omega)), ?_, ?_⟩, fun k _ => e k (by omega)⟩
  · rw [e 58 (by omega)]; exact h5
  · rw [e 61 (by omega)]; exact h6
/-- only the tape is emptied -/
theorem VC_t {M' : pu_M} (hc : VC P n tb F m ws b K M) (h0 : M' 1 1 = 0) (e : ∀ k, k ≠ 1 → (k < 3 ∨ 16 ≤ k) → M' k = M k) : VC P 0 tb F m ws b K M' := by
  obtain ⟨y, y2, l, l2, w, w2, hr, hd, cy, ct, cl, cw, ck⟩ := hc
  have hr' := hr
  unfold HR at hr
  refine ⟨y, y2, l, l2, w, w2, hr', ?_, CY_e cy (fun k _ _ => e k (by omega) (by omega)), CT_0 h0, kL_e cl (fun k _ _ => e k (by omega) (by omega)) (by rw [e l (by omega) (by omega)]), CW_e cw (fun k _ _ => e k (by omega) (by omega)), fun hb => CY_e (ck hb) (fun k _ _ => e k (by omega) (by omega))⟩
  rw [e 0 (by omega) (by omega)]; exact hd
theorem VM_t {M1 M' : pu_M} (hm : VM P n tb F m ws b K M1) (h0 : M' 58 4 = 0) (e : ∀ k, (k = 59 ∨ k = 61 ∨ (69 ≤ k ∧ k ≤ 73) ∨ (76 ≤ k ∧ k ≤ 78)) → M' k = M1 k) (f : ∀ j, (j = 13 ∨ j = 34 ∨ j = 49) → M' 58 j = M1 58 j) : VM P 0 tb F m ws b K M' := by
  obtain ⟨h1, h2, h3, h4, h5, h6⟩ := hm
  refine ⟨?_, MT_0 h0, mLaw_e h3 (f 13 (by omega)) (fun k _ _ => e k (by omega)), MW_e h4 (f 34 (by omega)) (fun k _ _ => e k (by omega)), ?_, ?_⟩
  · rw [e 59 (by omega)]; exact h1
  · rw [f 49 (by omega)]; exact h5
  · rw [e 61 (by omega)]; exact h6
theorem p_0 (hc : VC P n tb F m ws b K M) (hi : VI P F m ws b K) : PR L 122 174 [.ref 0, .int x1, .int x2, .int x3] [.ref 58, .int x1, .int x2, .int x3] P n tb F m ws b K M := by
  have hc0 := hc
  obtain ⟨y, y2, l, l2, w, w2, hr, hd, cy, ct, cl, cw, ck⟩ := hc
  have hs := hr.is
  by_cases h0 : okP x1 x2 x3
  · have hb2 : x2.toNatClampNeg < 65536 := by
      obtain ⟨j, hj, e⟩ := nI_of2 (M := 65535) (n := 65535) rfl (fun z => h0.2.1 (Or.inl z)) (Int32.not_lt.mp (fun z => h0.2.1 (Or.inr z)))
      rw [e, nI_clamp (by omega)]; omega
    have hb3 : x3.toNatClampNeg < 100 := by
      obtain ⟨j, hj, e⟩ := nI_of2 (M := 99) (n := 99) rfl (fun z => h0.2.2 (Or.inl z)) (Int32.not_lt.mp (fun z => h0.2.2 (Or.inr z)))
      rw [e, nI_clamp (by omega)]; omega
    refine ⟨1, tellP P x1.toNatClampNeg x2.toNatClampNeg x3.toNatClampNeg, n, tb, F, m, ws, b, K, ⟨PI_tell hi.1 hb2 hb3, hi.2⟩, fun Q H => c_x_person (d := 54) hd.1.1 hs.1 cy hi.1 (fun z => absurd h0 z) (fun _ M' cy' o => ?_), fun M1 hm Q H => c_m_person (d := 57) hm.1 hi.1 (fun z => absurd h0 z) (fun _ M' hp o => ?_)⟩
    · have := VC_y hr hd ct cl cw ck cy' o
      exact H M' this.1 this.2
    · have := VM_59 hm hp o
      exact H M' this.1 this.2
  · exact ⟨0, P, n, tb, F, m, ws, b, K, hi, fun Q H => c_x_person (d := 54) hd.1.1 hs.1 cy hi.1 (fun _ => H M hc0 (fun _ _ => rfl)) (fun z => absurd z h0), fun M1 hm Q H => c_m_person (d := 57) hm.1 hi.1 (fun _ => H M1 hm (fun _ _ => rfl)) (fun z => absurd z h0)⟩
theorem p_1 (hc : VC P n tb F m ws b K M) (hi : VI P F m ws b K) : PR L 123 176 [.ref 0, .int x1, .int x2, .int x3, .int u, .int v] [.ref 58, .int x1, .int x2, .int x3, .int u, .int v] P n tb F m ws b K M := by
  have hc0 := hc
  obtain ⟨y, y2, l, l2, w, w2, hr, hd, cy, ct, cl, cw, ck⟩ := hc
  by_cases h0 : n + 20 ≤ 260
  · refine ⟨nI (n + 20), P, n + 20, w20 tb n x1 x2 x3 u v, F, m, ws, b, K, hi, fun Q H => c_x_feed (d := 57) ct (fun z => absurd h0 z) (fun _ M' ct' o => ?_), fun M1 hm Q H => c_m_feed (d := 57) hm.2.1 (fun z => absurd h0 z) (fun _ M' mt' o f => ?_)⟩
    · have e : ∀ k, ¬ (k = 1 ∨ k = 2) → M' k = M k := o
      have hr' := hr
      unfold HR at hr
      refine H M' ⟨y, y2, l, l2, w, w2, hr', ?_, CY_e cy (fun k _ _ => e k (by omega)), ct', kL_e cl (fun k _ _ => e k (by omega)) (by rw [e l (by omega)]), CW_e cw (fun k _ _ => e k (by omega)), fun hb => CY_e (ck hb) (fun k _ _ => e k (by omega))⟩ (fun k _ => e k (by omega))
      rw [e 0 (by omega)]; exact hd
    · have e : ∀ k, ¬ (k = 58 ∨ k = 62) → M' k = M1 k := o
      obtain ⟨h1, h2, h3, h4, h5, h6⟩ := hm
      refine H M' ⟨?_, mt', mLaw_e h3 (f 13 (by omega)) (fun k _ _ => e k (by omega)), MW_e h4 (f 34 (by omega)) (fun k _ _ => e k (by omega)), ?_, ?_⟩ (fun k _ => e k (by omega))
      · rw [e 59 (by omega)]; exact h1
      · rw [f 49 (by omega)]; exact h5
      · rw [e 61 (by omega)]; exact h6
  · exact ⟨-1, P, n, tb, F, m, ws, b, K, hi, fun Q H => c_x_feed (d := 57) ct (fun _ => H M hc0 (fun _ _ => rfl)) (fun z => absurd z h0), fun M1 hm Q H => c_m_feed (d := 57) hm.2.1 (fun _ => H M1 hm (fun _ _ => rfl)) (fun z => absurd z h0)⟩
theorem p_2 (hc : VC P n tb F m ws b K M) (hi : VI P F m ws b K) : PR L 124 199 [.ref 0, .int v] [.ref 58, .int v] P n tb F m ws b K M := by
  have hc0 := hc
  obtain ⟨y, y2, l, l2, w, w2, hr, hd, cy, ct, cl, cw, ck⟩ := hc
  have hs := hr.is
  have hr' := hr
  unfold HR at hr
  by_cases ho : okE 1 240 n v
  · obtain ⟨e, rfl, h1, h2, h3⟩ := ho
    have hX : TX tb e := ⟨h2, fun i hi => (ct.2.2 i (by omega)).2⟩
    have ht := l_rules_tp hX (g := 17) (m := 0) (R := l_R0) (s := l_s0) rfl (by omega) (Nat.zero_le _) (Nat.le_refl _) ⟨by omega, fun i hi => absurd hi (by omega)⟩ (fun i hi => absurd hi (by omega))
    cases er : l_rules tb e 17 0 l_R0 l_s0 with
    | inl f =>
      refine ⟨f, P, 0, tb, F, m, ws, b, K, hi, fun Q H => c_x_law (d := 37) h1 h2 h3 ct hd.2.1.1 hd.2.1.2 hs.2.2.1 hs.2.2.2.1 (fun _ => ?_), fun M1 hm Q H => c_m_law (d := 50) h1 h2 h3 hm.2.1 ?_⟩
      · rw [er]
        intro M' t o
        have e : ∀ k, ¬ (k = 1 ∨ k = 49 ∨ (l2 ≤ k ∧ k ≤ l2 + 6)) → M' k = M k := o
        refine H M' ⟨y, y2, l, l2, w, w2, hr', ?_, CY_e cy (fun k _ _ => e k (by omega)), CT_0 t, kL_e cl (fun k _ _ => e k (by omega)) (by rw [e l (by omega)]), CW_e cw (fun k _ _ => e k (by omega)), fun hb => CY_e (ck hb) (fun k _ _ => e k (by omega))⟩ (fun k _ => e k (by omega))
        rw [e 0 (by omega)]; exact hd
      · rw [er]
        intro M' t f o
        have e : ∀ k, ¬ (k = 58 ∨ (63 ≤ k ∧ k ≤ 68)) → M' k = M1 k := o
        exact H M' (VM_t hm t (fun k _ => e k (by omega)) (fun j _ => f j (by omega) (by unfold scF; omega))) (fun k _ => e k (by omega))
    | inr x =>
      rw [er] at ht
      refine ⟨nI x.1, P, 0, tb, (lfn x.2.2, x.2.1, x.1, lcn x.2.2), m, ws, b, K, ⟨hi.1, ⟨ht.2.1, ht.1, ht.2.2⟩, hi.2.2⟩, fun Q H => c_x_law (d := 37) h1 h2 h3 ct hd.2.1.1 hd.2.1.2 hs.2.2.1 hs.2.2.2.1 (fun _ => ?_), fun M1 hm Q H => c_m_law (d := 50) h1 h2 h3 hm.2.1 ?_⟩
      · rw [er]
        intro M' t kc kr a11 a12 a0 o
        have e : ∀ k, ¬ (k = 0 ∨ k = 1 ∨ k = 49 ∨ (l2 ≤ k ∧ k ≤ l2 + 6)) → M' k = M k := o
        refine H M' ⟨y, y2, l2, l, w, w2, by unfold HR; omega, ⟨⟨?_, ?_⟩, ⟨a11, a12⟩, ⟨?_, ?_⟩, ?_⟩, CY_e cy (fun k _ _ => e k (by omega)), CT_0 t, ⟨kr, kc.2⟩, CW_e cw (fun k _ _ => e k (by omega)), fun hb => CY_e (ck hb) (fun k _ _ => e k (by omega))⟩ (fun k _ => e k (by omega))
        · rw [a0 9 (by omega) (by omega)]; exact hd.1.1
        · rw [a0 10 (by omega) (by omega)]; exact hd.1.2
        · rw [a0 13 (by omega) (by omega)]; exact hd.2.2.1.1
        · rw [a0 14 (by omega) (by omega)]; exact hd.2.2.1.2
        · rw [a0 8 (by omega) (by omega)]; exact hd.2.2.2
      · rw [er]
        intro M' ml t f o
        have e : ∀ k, ¬ (k = 58 ∨ (63 ≤ k ∧ k ≤ 73)) → M' k = M1 k := o
        obtain ⟨h1, h2, h3, h4, h5, h6⟩ := hm
        refine H M' ⟨?_, MT_0 t, ml, MW_e h4 (f 34 (by omega) (by omega) (by unfold scF; omega)) (fun k _ _ => e k (by omega)), ?_, ?_⟩ (fun k _ => e k (by omega))
        · rw [e 59 (by omega)]; exact h1
        · rw [f 49 (by omega) (by omega) (by unfold scF; omega)]; exact h5
        · rw [e 61 (by omega)]; exact h6
  · exact ⟨-1, P, n, tb, F, m, ws, b, K, hi, fun Q H => c_x_lawN (d := 37) ho ct (H M hc0 (fun _ _ => rfl)), fun M1 hm Q H => c_m_lawN (d := 50) ho hm.2.1 (H M1 hm (fun _ _ => rfl))⟩
theorem p_3 (hc : VC P n tb F m ws b K M) (hi : VI P F m ws b K) : PR L 125 210 [.ref 0, .int v] [.ref 58, .int v] P n tb F m ws b K M := by
  have hc0 := hc
  obtain ⟨y, y2, l, l2, w, w2, hr, hd, cy, ct, cl, cw, ck⟩ := hc
  have hs := hr.is
  have hr' := hr
  unfold HR at hr
  by_cases ho : okE 1 120 n v
  · obtain ⟨e, rfl, h1, h2, h3⟩ := ho
    have hX : TX tb e := ⟨by omega, fun i hi => (ct.2.2 i (by omega)).2⟩
    have ht := rdBs_ok hX (g := 21) (m := 0) (q := 0) rfl (by omega) (by omega) hi.1
    cases er : rdBs tb e 21 0 0 P with
    | inl f =>
      refine ⟨f, P, 0, tb, F, m, ws, b, K, hi, fun Q H => c_x_burials (d := 51) h1 h2 h3 ct hd.1.1 hd.1.2 hs.1 hs.2.1 (by omega) cy hi.1 (fun _ => ?_), fun M1 hm Q H => c_m_burials (d := 54) h1 h2 h3 hm.2.1 hm.1 hi.1 ?_⟩
      · rw [er]
        intro M' t o
        have e : ∀ k, ¬ (k = 1 ∨ (y2 ≤ k ∧ k ≤ y2 + 4)) → M' k = M k := o
        refine H M' ⟨y, y2, l, l2, w, w2, hr', ?_, CY_e cy (fun k _ _ => e k (by omega)), CT_0 t, kL_e cl (fun k _ _ => e k (by omega)) (by rw [e l (by omega)]), CW_e cw (fun k _ _ => e k (by omega)), fun hb => CY_e (ck hb) (fun k _ _ => e k (by omega))⟩ (fun k _ => e k (by omega))
        rw [e 0 (by omega)]; exact hd
      · rw [er]
        intro M' hp t f o
        have e : ∀ k, ¬ (k = 58 ∨ k = 59 ∨ k = 60) → M' k = M1 k := o
        obtain ⟨h1, h2, h3, h4, h5, h6⟩ := hm
        refine H M' ⟨hp, MT_0 t, mLaw_e h3 (f 13 (by omega) (by unfold scF; omega)) (fun k _ _ => e k (by omega)), MW_e h4 (f 34 (by omega) (by unfold scF; omega)) (fun k _ _ => e k (by omega)), ?_, ?_⟩ (fun k _ => e k (by omega))
        · rw [f 49 (by omega) (by unfold scF; omega)]; exact h5
        · rw [e 61 (by omega)]; exact h6
    | inr x =>
      obtain ⟨k, P'⟩ := x
      rw [er] at ht
      refine ⟨nI k, P', 0, tb, F, m, ws, b, K, ⟨ht.1, hi.2⟩, fun Q H => c_x_burials (d := 51) h1 h2 h3 ct hd.1.1 hd.1.2 hs.1 hs.2.1 (by omega) cy hi.1 (fun _ => ?_), fun M1 hm Q H => c_m_burials (d := 54) h1 h2 h3 hm.2.1 hm.1 hi.1 ?_⟩
      · rw [er]
        intro M' t cy' a9 a10 a0 o
        have e : ∀ k, ¬ (k = 0 ∨ k = 1 ∨ (y2 ≤ k ∧ k ≤ y2 + 4)) → M' k = M k := o
        refine H M' ⟨y2, y, l, l2, w, w2, by unfold HR; omega, ⟨⟨a9, a10⟩, ⟨?_, ?_⟩, ⟨?_, ?_⟩, ?_⟩, cy', CT_0 t, kL_e cl (fun k _ _ => e k (by omega)) (by rw [e l (by omega)]), CW_e cw (fun k _ _ => e k (by omega)), fun hb => CY_e (ck hb) (fun k _ _ => e k (by omega))⟩ (fun k _ => e k (by omega))
        · rw [a0 11 (by omega) (by omega)]; exact hd.2.1.1
        · rw [a0 12 (by omega) (by omega)]; exact hd.2.1.2
        · rw [a0 13 (by omega) (by omega)]; exact hd.2.2.1.1
        · rw [a0 14 (by omega) (by omega)]; exact hd.2.2.1.2
        · rw [a0 8 (by omega) (by omega)]; exact hd.2.2.2
      · rw [er]
        intro M' hp t f o
        have e : ∀ k, ¬ (k = 58 ∨ k = 59 ∨ k = 60) → M' k = M1 k := o
        obtain ⟨h1, h2, h3, h4, h5, h6⟩ := hm
        refine H M' ⟨hp, MT_0 t, mLaw_e h3 (f 13 (by omega) (by unfold scF; omega)) (fun k _ _ => e k (by omega)), MW_e h4 (f 34 (by omega) (by unfold scF; omega)) (fun k _ _ => e k (by omega)), ?_, ?_⟩ (fun k _ => e k (by omega))
        · rw [f 49 (by omega) (by unfold scF; omega)]; exact h5
        · rw [e 61 (by omega)]; exact h6
  · exact ⟨-1, P, n, tb, F, m, ws, b, K, hi, fun Q H => c_x_burialsN (d := 51) ho ct (H M hc0 (fun _ _ => rfl)), fun M1 hm Q H => c_m_burialsN (d := 54) ho hm.2.1 (H M1 hm (fun _ _ => rfl))⟩
theorem p_4 (hc : VC P n tb F m ws b K M) (hi : VI P F m ws b K) : PR L 126 212 [.ref 0, .int v] [.ref 58, .int v] P n tb F m ws b K M := by
  have hc0 := hc
  obtain ⟨y, y2, l, l2, w, w2, hr, hd, cy, ct, cl, cw, ck⟩ := hc
  have hs := hr.is
  have hr' := hr
  unfold HR at hr
  by_cases ho : okE 1 120 n v
  · obtain ⟨e, rfl, h1, h2, h3⟩ := ho
    have hX : TX tb e := ⟨by omega, fun i hi => (ct.2.2 i (by omega)).2⟩
    have ht := rdWs_ok hX (g := 25) (m := 0) (q := 0) (ws := dfW) (by omega) ⟨by omega, fun i hi => absurd hi (by omega)⟩
    cases er : rdWs tb e 25 0 0 dfW with
    | inl f =>
      refine ⟨f, P, 0, tb, F, m, ws, b, K, hi, fun Q H => c_x_wishes (d := 54) h1 h2 h3 ct hd.2.2.1.1 hd.2.2.1.2 hs.2.2.2.2.1 hs.2.2.2.2.2 (fun _ => ?_), fun M1 hm Q H => c_m_wishes (d := 55) h1 h2 h3 hm.2.1 ?_⟩
      · rw [er]
        intro M' t o
        have e : ∀ k, ¬ (k = 1 ∨ (w2 ≤ k ∧ k ≤ w2 + 3)) → M' k = M k := o
        refine H M' ⟨y, y2, l, l2, w, w2, hr', ?_, CY_e cy (fun k _ _ => e k (by omega)), CT_0 t, kL_e cl (fun k _ _ => e k (by omega)) (by rw [e l (by omega)]), CW_e cw (fun k _ _ => e k (by omega)), fun hb => CY_e (ck hb) (fun k _ _ => e k (by omega))⟩ (fun k _ => e k (by omega))
        rw [e 0 (by omega)]; exact hd
      · rw [er]
        intro M' t f o
        have e : ∀ k, ¬ (k = 58 ∨ k = 79 ∨ k = 80 ∨ k = 81) → M' k = M1 k := o
        exact H M' (VM_t hm t (fun k _ => e k (by omega)) (fun j _ => f j (by omega) (by unfold scF; omega))) (fun k _ => e k (by omega))
    | inr x =>
      obtain ⟨k, ws'⟩ := x
      rw [er] at ht
      refine ⟨nI k, P, 0, tb, F, k, ws', b, K, ⟨hi.1, hi.2.1, ht, hi.2.2.2⟩, fun Q H => c_x_wishes (d := 54) h1 h2 h3 ct hd.2.2.1.1 hd.2.2.1.2 hs.2.2.2.2.1 hs.2.2.2.2.2 (fun _ => ?_), fun M1 hm Q H => c_m_wishes (d := 55) h1 h2 h3 hm.2.1 ?_⟩
      · rw [er]
        intro M' t cw' a13 a14 a0 o
        have e : ∀ k, ¬ (k = 0 ∨ k = 1 ∨ (w2 ≤ k ∧ k ≤ w2 + 3)) → M' k = M k := o
        refine H M' ⟨y, y2, l, l2, w2, w, by unfold HR; omega, ⟨⟨?_, ?_⟩, ⟨?_, ?_⟩, ⟨a13, a14⟩, ?_⟩, CY_e cy (fun k _ _ => e k (by omega)), CT_0 t, kL_e cl (fun k _ _ => e k (by omega)) (by rw [e l (by omega)]), cw', fun hb => CY_e (ck hb) (fun k _ _ => e k (by omega))⟩ (fun k _ => e k (by omega))
        · rw [a0 9 (by omega) (by omega)]; exact hd.1.1
        · rw [a0 10 (by omega) (by omega)]; exact hd.1.2
        · rw [a0 11 (by omega) (by omega)]; exact hd.2.1.1
        · rw [a0 12 (by omega) (by omega)]; exact hd.2.1.2
        · rw [a0 8 (by omega) (by omega)]; exact hd.2.2.2
      · rw [er]
        intro M' mw t f o
        have e : ∀ k, ¬ (k = 58 ∨ (76 ≤ k ∧ k ≤ 81)) → M' k = M1 k := o
        obtain ⟨h1, h2, h3, h4, h5, h6⟩ := hm
        refine H M' ⟨?_, MT_0 t, mLaw_e h3 (f 13 (by omega) (by omega) (by unfold scF; omega)) (fun k _ _ => e k (by omega)), mw, ?_, ?_⟩ (fun k _ => e k (by omega))
        · rw [e 59 (by omega)]; exact h1
        · rw [f 49 (by omega) (by omega) (by unfold scF; omega)]; exact h5
        · rw [e 61 (by omega)]; exact h6
  · exact ⟨-1, P, n, tb, F, m, ws, b, K, hi, fun Q H => c_x_wishesN (d := 54) ho ct (H M hc0 (fun _ _ => rfl)), fun M1 hm Q H => c_m_wishesN (d := 55) ho hm.2.1 (H M1 hm (fun _ _ => rfl))⟩
theorem p_5 (hc : VC P n tb F m ws b K M) (hi : VI P F m ws b K) : PR L 127 217 [.ref 0, .int v] [.ref 58, .int v] P n tb F m ws b K M := by
  have hc0 := hc
  obtain ⟨y, y2, l, l2, w, w2, hr, hd, cy, ct, cl, cw, ck⟩ := hc
  have hs := hr.is
  have hr' := hr
  unfold HR at hr
  by_cases hv : v < 1 ∨ 240 < v
  · refine ⟨-1, P, n, tb, F, m, ws, b, K, hi, fun Q H => c_x_nights (d := 51) hd.1.1 hd.2.1.1 hs.1 hs.2.2.1 hi.2.1 hi.1 cy cl (fun _ => H M hc0 (fun _ _ => rfl)) (fun j e h1 h2 => ?_), fun M1 hm Q H => c_m_nights (d := 50) hi.2.1 hi.1 hm.1 hm.2.2.1 (fun _ => H M1 hm (fun _ _ => rfl)) (fun j e h1 h2 => ?_)⟩
    · exfalso
      rw [e, n_1, n_240, nI_ltI (by omega) (by omega), nI_ltI (by omega) (by omega)] at hv
      omega
    · exfalso
      rw [e, n_1, n_240, nI_ltI (by omega) (by omega), nI_ltI (by omega) (by omega)] at hv
      omega
  · have hv0 : ¬ v < 0 := fun z => hv (Or.inl (by
      have e0 : (0 : Int32).toInt = 0 := rfl
      have e1 : (1 : Int32).toInt = 1 := rfl
      rw [Int32.lt_iff_toInt_lt] at z ⊢; omega))
    obtain ⟨j, hj, rfl⟩ := nI_of2 (M := 240) (n := 240) rfl hv0 (Int32.not_lt.mp (fun z => hv (Or.inr z)))
    refine ⟨nI (n_go F j (P, 0, 0)).2.1, (n_go F j (P, 0, 0)).1, n, tb, F, m, ws, b, K, ⟨PI_go (s := (P, 0, 0)) hi.1, hi.2⟩, fun Q H => c_x_nights (d := 51) hd.1.1 hd.2.1.1 hs.1 hs.2.2.1 hi.2.1 hi.1 cy cl (fun z => absurd z hv) (fun j' e h1 h2 M' ny o => ?_), fun M1 hm Q H => c_m_nights (d := 50) hi.2.1 hi.1 hm.1 hm.2.2.1 (fun z => absurd z hv) (fun j' e h1 h2 M' nm o => ?_)⟩
    · obtain rfl : j = j' := (nI_eq (by omega) (by omega)).mp e
      have e : ∀ k, ¬ (k = 4 ∨ (y ≤ k ∧ k ≤ y + 4) ∨ k = l ∨ k = l + 7 ∨ k = l + 8) → M' k = M k := o
      refine H M' ⟨y, y2, l, l2, w, w2, hr', ?_, ny.1, CT_e ct (e 1 (by omega)) (e 2 (by omega)), ny.2.1, CW_e cw (fun k _ _ => e k (by omega)), fun hb => CY_e (ck hb) (fun k _ _ => e k (by omega))⟩ (fun k _ => e k (by omega))
      rw [e 0 (by omega)]; exact hd
    · obtain rfl : j = j' := (nI_eq (by omega) (by omega)).mp e
      have e : ∀ k, ¬ (k = 58 ∨ k = 59 ∨ k = 74 ∨ k = 75) → M' k = M1 k := o.1
      obtain ⟨h1, h2, h3, h4, h5, h6⟩ := hm
      refine H M' ⟨nm.1, MT_e h2 (o.2 4 (by omega) (by omega)) (e 62 (by omega)), nm.2.1, MW_e h4 (o.2 34 (by omega) (by omega)) (fun k _ _ => e k (by omega)), ?_, ?_⟩ (fun k _ => e k (by omega))
      · rw [o.2 49 (by omega) (by omega)]; exact h5
      · rw [e 61 (by omega)]; exact h6
theorem p_6 (hc : VC P n tb F m ws b K M) (hi : VI P F m ws b K) : PR L 128 219 [.ref 0, .int u, .int v] [.ref 58, .int u, .int v] P n tb F m ws b K M := by
  have hc0 := hc
  obtain ⟨y, y2, l, l2, w, w2, hr, hd, cy, ct, cl, cw, ck⟩ := hc
  have hs := hr.is
  have hr' := hr
  unfold HR at hr
  by_cases ho : okN u ∧ okTr P v
  · obtain ⟨⟨j, rfl, hj1, hj2⟩, h3⟩ := ho
    have ho : okN (nI j) ∧ okTr P v := ⟨⟨j, rfl, hj1, hj2⟩, h3⟩
    refine ⟨v_tried (n_go F j (P, 0, 0)) v, P, n, tb, F, m, ws, b, K, hi, fun Q H => c_x_tried (d := 51) hd.1.1 hd.1.2 hd.2.1.1 hs.1 hs.2.1 (by omega) hs.2.2.1 hi.2.1 hi.1 cy cl (fun z => absurd ho z) (fun j' e h1 h2 _ M' ny o => ?_), fun M1 hm Q H => c_m_tried (d := 50) hi.2.1 hi.1 hm.1 hm.2.2.1 (fun z => absurd ho z) (fun j' e h1 h2 _ M' hp f o => ?_)⟩
    · obtain rfl : j = j' := (nI_eq (by omega) (by omega)).mp e
      have e : ∀ k, ¬ (k = 4 ∨ (y2 ≤ k ∧ k ≤ y2 + 4) ∨ k = l ∨ k = l + 7 ∨ k = l + 8) → M' k = M k := o
      refine H M' ⟨y, y2, l, l2, w, w2, hr', ?_, CY_e cy (fun k _ _ => e k (by omega)), CT_e ct (e 1 (by omega)) (e 2 (by omega)), ny, CW_e cw (fun k _ _ => e k (by omega)), fun hb => CY_e (ck hb) (fun k _ _ => e k (by omega))⟩ (fun k _ => e k (by omega))
      rw [e 0 (by omega)]; exact hd
    · obtain rfl : j = j' := (nI_eq (by omega) (by omega)).mp e
      have e : ∀ k, ¬ (k = 58 ∨ k = 59 ∨ k = 60 ∨ k = 74 ∨ k = 75) → M' k = M1 k := o
      obtain ⟨h1, h2, h3, h4, h5, h6⟩ := hm
      refine H M' ⟨hp, MT_e h2 (f 4 (by omega) (by omega)) (e 62 (by omega)), mLaw_e h3 (f 13 (by omega) (by omega)) (fun k _ _ => e k (by omega)), MW_e h4 (f 34 (by omega) (by omega)) (fun k _ _ => e k (by omega)), ?_, ?_⟩ (fun k _ => e k (by omega))
      · rw [f 49 (by omega) (by omega)]; exact h5
      · rw [e 61 (by omega)]; exact h6
  · exact ⟨-1, P, n, tb, F, m, ws, b, K, hi, fun Q H => c_x_tried (d := 51) hd.1.1 hd.1.2 hd.2.1.1 hs.1 hs.2.1 (by omega) hs.2.2.1 hi.2.1 hi.1 cy cl (fun _ => H M hc0 (fun _ _ => rfl)) (fun j' e h1 h2 h3 => absurd ⟨⟨j', e, h1, h2⟩, h3⟩ ho), fun M1 hm Q H => c_m_tried (d := 50) hi.2.1 hi.1 hm.1 hm.2.2.1 (fun _ => H M1 hm (fun _ _ => rfl)) (fun j' e h1 h2 h3 => absurd ⟨⟨j', e, h1, h2⟩, h3⟩ ho)⟩
theorem p_19 (hc : VC P n tb F m ws b K M) (hi : VI P F m ws b K) : PR L 141 246 [.ref 0, .int u, .int v] [.ref 58, .int u, .int v] P n tb F m ws b K M := by
  have hc0 := hc
  obtain ⟨y, y2, l, l2, w, w2, hr, hd, cy, ct, cl, cw, ck⟩ := hc
  by_cases ho : okT n u v
  · obtain ⟨e, rfl, h1, h2, h3, h4⟩ := ho
    refine ⟨s_thread (sy tb) e v, P, 0, tb, F, m, ws, b, K, hi, fun Q H => c_x_thread (d := 56) h1 h2 h3 h4 ct (fun M' t o => ?_), fun M1 hm Q H => c_m_thread (d := 56) h1 h2 h3 h4 hm.2.1 (fun M' t f o => ?_)⟩
    · have e : ∀ k, ¬ (k = 1 ∨ k = 13 ∨ k = 14 ∨ k = 15) → M' k = M k := o
      exact H M' (VC_t hc0 t (fun k _ _ => e k (by omega))) (fun k _ => e k (by omega))
    · have e : ∀ k, ¬ (k = 58 ∨ k = 87) → M' k = M1 k := o
      exact H M' (VM_t hm t (fun k _ => e k (by omega)) (fun j _ => f j (by omega))) (fun k _ => e k (by omega))
  · exact ⟨-1, P, n, tb, F, m, ws, b, K, hi, fun Q H => c_x_threadN (d := 56) ho ct (H M hc0 (fun _ _ => rfl)), fun M1 hm Q H => c_m_threadN (d := 56) ho hm.2.1 (H M1 hm (fun _ _ => rfl))⟩
theorem p_25 (hc : VC P n tb F m ws b K M) (hi : VI P F m ws b K) : PR L 147 255 [.ref 0, .int v] [.ref 58, .int v] P n tb F m ws b K M := by
  have hc0 := hc
  obtain ⟨y, y2, l, l2, w, w2, hr, hd, cy, ct, cl, cw, ck⟩ := hc
  have hs := hr.is
  by_cases h0 : okS v
  · have hb2 : v.toNatClampNeg < 65536 := by
      obtain ⟨j, hj, e⟩ := nI_of2 (M := 65535) (n := 65535) rfl (fun z => h0 (Or.inl z)) (Int32.not_lt.mp (fun z => h0 (Or.inr z)))
      rw [e, nI_clamp (by omega)]; omega
    refine ⟨1, setlo P v.toNatClampNeg, n, tb, F, m, ws, b, K, ⟨PI_setlo hi.1 hb2, hi.2⟩, fun Q H => c_x_seed (d := 58) hd.1.1 hs.1 cy (fun z => absurd h0 z) (fun _ M' cy' o => ?_), fun M1 hm Q H => c_m_seed (d := 57) hm.1 (fun z => absurd h0 z) (fun _ M' hp o => ?_)⟩
    · have := VC_y hr hd ct cl cw ck cy' o
      exact H M' this.1 this.2
    · have := VM_59 hm hp o
      exact H M' this.1 this.2
  · exact ⟨0, P, n, tb, F, m, ws, b, K, hi, fun Q H => c_x_seed (d := 58) hd.1.1 hs.1 cy (fun _ => H M hc0 (fun _ _ => rfl)) (fun z => absurd z h0), fun M1 hm Q H => c_m_seed (d := 57) hm.1 (fun _ => H M1 hm (fun _ _ => rfl)) (fun z => absurd z h0)⟩
theorem p_26 (hc : VC P n tb F m ws b K M) (hi : VI P F m ws b K) : PR L 148 256 [.ref 0] [.ref 58] P n tb F m ws b K M := by
  obtain ⟨y, y2, l, l2, w, w2, hr, hd, cy, ct, cl, cw, ck⟩ := hc
  have hs := hr.is
  have hr' := hr
  unfold HR at hr
  refine ⟨nI (nt P), P, n, tb, F, m, ws, true, P, ⟨hi.1, hi.2.1, hi.2.2.1, fun _ => hi.1⟩, fun Q H => c_x_keep (d := 57) hd.1.1 hs.1 (by omega) cy (fun M' ck' a8 a0 o => ?_), fun M1 hm Q H => c_m_keep (d := 57) hm.1 (fun M' hp a49 f o => ?_)⟩
  · have e : ∀ k, ¬ ((16 ≤ k ∧ k ≤ 16 + 4) ∨ k = 0) → M' k = M k := o
    refine H M' ⟨y, y2, l, l2, w, w2, hr', ⟨⟨?_, ?_⟩, ⟨?_, ?_⟩, ⟨?_, ?_⟩, a8⟩, CY_e cy (fun k _ _ => e k (by omega)), CT_e ct (e 1 (by omega)) (e 2 (by omega)), kL_e cl (fun k _ _ => e k (by omega)) (by rw [e l (by omega)]), CW_e cw (fun k _ _ => e k (by omega)), fun _ => ck'⟩ (fun k _ => e k (by omega))
    · rw [a0 9 (by omega)]; exact hd.1.1
    · rw [a0 10 (by omega)]; exact hd.1.2
    · rw [a0 11 (by omega)]; exact hd.2.1.1
    · rw [a0 12 (by omega)]; exact hd.2.1.2
    · rw [a0 13 (by omega)]; exact hd.2.2.1.1
    · rw [a0 14 (by omega)]; exact hd.2.2.1.2
  · have e : ∀ k, ¬ (k = 58 ∨ k = 61) → M' k = M1 k := o
    obtain ⟨h1, h2, h3, h4, h5, h6⟩ := hm
    refine H M' ⟨?_, MT_e h2 (f 4 (by omega)) (e 62 (by omega)), mLaw_e h3 (f 13 (by omega)) (fun k _ _ => e k (by omega)), MW_e h4 (f 34 (by omega)) (fun k _ _ => e k (by omega)), a49, fun _ => hp⟩ (fun k _ => e k (by omega))
    rw [e 59 (by omega)]; exact h1
theorem p_27 (hc : VC P n tb F m ws b K M) (hi : VI P F m ws b K) : PR L 149 257 [.ref 0] [.ref 58] P n tb F m ws b K M := by
  have hc0 := hc
  obtain ⟨y, y2, l, l2, w, w2, hr, hd, cy, ct, cl, cw, ck⟩ := hc
  have hs := hr.is
  have hr' := hr
  unfold HR at hr
  cases b with
  | false =>
    exact ⟨0, P, n, tb, F, m, ws, false, K, hi, fun Q H => c_x_undo (d := 57) (K := K) hd.1.1 hs.1 (by omega) (fun _ => H M hc0 (fun _ _ => rfl)) (fun z => absurd hd.2.2.2 z), fun M1 hm Q H => c_m_undo (d := 57) (K := K) (fun _ => H M1 hm (fun _ _ => rfl)) (fun z => absurd hm.2.2.2.2.1 z)⟩
  | true =>
    refine ⟨1, K, n, tb, F, m, ws, true, K, ⟨hi.2.2.2 rfl, hi.2⟩, fun Q H => c_x_undo (d := 57) (K := K) hd.1.1 hs.1 (by omega) (fun z => absurd (hd.2.2.2.symm.trans z) (by decide)) (fun _ => ⟨ck rfl, fun M' cy' o => ?_⟩), fun M1 hm Q H => c_m_undo (d := 57) (K := K) (fun z => absurd (hm.2.2.2.2.1.symm.trans z) (by decide)) (fun _ => ⟨hm.2.2.2.2.2 rfl, fun M' hp o => ?_⟩)⟩
    · have := VC_y hr' hd ct cl cw ck cy' o
      exact H M' this.1 this.2
    · have := VM_59 hm hp o
      exact H M' this.1 this.2
theorem p_28 (hc : VC P n tb F m ws b K M) (hi : VI P F m ws b K) : PR L 150 258 [.ref 0, .int v] [.ref 58, .int v] P n tb F m ws b K M := by
  have hc0 := hc
  obtain ⟨y, y2, l, l2, w, w2, hr, hd, cy, ct, cl, cw, ck⟩ := hc
  have hs := hr.is
  by_cases ho : v < 0 ∨ 16 < v ∨ nI n < v
  · exact ⟨-2, P, n, tb, F, m, ws, b, K, hi, fun Q H => c_x_check (d := 56) hd.1.1 hs.1 cy hi.1 ct (fun _ => H M hc0 (fun _ _ => rfl)) (fun z => absurd ho z), fun M1 hm Q H => c_m_check (d := 56) hm.1 hi.1 hm.2.1 (fun _ => H M1 hm (fun _ _ => rfl)) (fun z => absurd ho z)⟩
  · refine ⟨s_check P n tb v, P, 0, tb, F, m, ws, b, K, hi, fun Q H => c_x_check (d := 56) hd.1.1 hs.1 cy hi.1 ct (fun z => absurd z ho) (fun _ M' t o => ?_), fun M1 hm Q H => c_m_check (d := 56) hm.1 hi.1 hm.2.1 (fun z => absurd z ho) (fun _ M' t f o => ?_)⟩
    · have e : ∀ k, ¬ (k = 1) → M' k = M k := o
      exact H M' (VC_t hc0 t (fun k _ _ => e k (by omega))) (fun k _ => e k (by omega))
    · have e : ∀ k, ¬ (k = 58) → M' k = M1 k := o
      exact H M' (VM_t hm t (fun k _ => e k (by omega)) (fun j _ => f j (by omega))) (fun k _ => e k (by omega))
end PC
