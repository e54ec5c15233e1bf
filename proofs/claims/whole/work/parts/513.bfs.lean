/-! the model's walk: a queue of plots, and how many steps to each -/
def WB (f : Nat → Bool) (w0 : Nat) (st : Nat → Option Nat) (q : Nat → Nat) (m k b : Nat) : Prop :=
  m = cnt (fun w => (st w).isSome) 60 ∧
  (∀ i, i < m → q i < 60 ∧ ∃ s, st (q i) = some s ∧ s ≤ i) ∧
  (∀ w, w < 60 → ∀ s, st w = some s → (∃ i, i < m ∧ q i = w) ∧ rs f (sf f w0) s w = true) ∧
  (∀ i j s s', i ≤ j → j < m → st (q i) = some s → st (q j) = some s' → s ≤ s') ∧
  (∀ j s s', k < m → j < m → st (q k) = some s → st (q j) = some s' → s' ≤ s + 1) ∧
  (∀ i w s, i < m → w < 60 → (i < k ∨ (i = k ∧ w < b)) → nx (q i) w = true → f w = true → st (q i) = some s → ∃ s', st w = some s' ∧ s' ≤ s + 1) ∧
  st w0 = some 0
theorem cnt_up {A B : Nat → Bool} {p : Nat} (ha : A p = false) (hb : B p = true) (h : ∀ k, k ≠ p → B k = A k) : ∀ {n : Nat}, p < n → cnt B n = cnt A n + 1
  | 0, hp => absurd hp (by omega)
  | n + 1, hp => by
    simp only [cnt]
    by_cases e : p = n
    · subst e
      rw [ha, hb, cnt_eq (n := p) (fun k hk => h k (by omega))]
      rfl
    · rw [cnt_up ha hb h (show p < n by omega), h n (fun z => e z.symm)]
      omega
theorem WB_init {f : Nat → Bool} {w0 : Nat} (hw : w0 < 60) (hf : f w0 = true) : WB f w0 (fset (fun _ => none) w0 (some 0)) (fun _ => w0) 1 0 0 := by
  have e0 : fset (fun _ => (none : Option Nat)) w0 (some 0) w0 = some 0 := fset_s
  refine ⟨?_, ?_, ?_, ?_, ?_, ?_, e0⟩
  · have := cnt_up (A := fun _ => false) (B := fun w => (fset (fun _ => (none : Option Nat)) w0 (some 0) w).isSome) (p := w0) rfl (by simp [fset]) (fun k hk => by simp [fset, hk]) hw
    rw [this, cnt_z (fun _ _ => rfl)]
  · intro i hi; exact ⟨hw, 0, e0, Nat.zero_le _⟩
  · intro w hw' s hs
    by_cases e : w = w0
    · subst e
      rw [e0] at hs
      obtain rfl : 0 = s := by simpa using hs
      exact ⟨⟨0, by decide, rfl⟩, C_self hf 0⟩
    · rw [fset_n e] at hs; cases hs
  · intro i j s s' _ _ h1 h2
    rw [h1] at h2; cases h2; exact Nat.le_refl _
  · intro j s s' _ _ h1 h2
    rw [h1] at h2; cases h2; omega
  · intro i w s h1 h2 h3; omega
theorem WB_push {f : Nat → Bool} {w0 : Nat} {st : Nat → Option Nat} {q : Nat → Nat} {m k b s : Nat} (h : WB f w0 st q m k b) (hk : k < m) (hb : b < 60) (hn : nx (q k) b = true) (he : st b = none) (hf : f b = true) (hs : st (q k) = some s) : m < 60 ∧ WB f w0 (fset st b (some (s + 1))) (fset q m b) (m + 1) k (b + 1) := by
  obtain ⟨c1, c2, c3, c4, c5, c6, c7⟩ := h
  have hne : ∀ i, i < m → q i ≠ b := by
    intro i hi z
    obtain ⟨-, s1, h1, -⟩ := c2 i hi
    rw [z, he] at h1; cases h1
  have A : ∀ i, i < m → fset q m b i = q i := fun i hi => fset_n (by omega)
  have A2 : ∀ i, i < m → fset st b (some (s + 1)) (fset q m b i) = st (q i) := fun i hi => by rw [A i hi, fset_n (hne i hi)]
  have B : fset q m b m = b := fset_s
  have B2 : fset st b (some (s + 1)) (fset q m b m) = some (s + 1) := by rw [B]; exact fset_s
  have hc : cnt (fun w => (fset st b (some (s + 1)) w).isSome) 60 = cnt (fun w => (st w).isSome) 60 + 1 := cnt_up (p := b) (by rw [he]; rfl) (by simp [fset]) (fun k hk => by simp [fset, hk]) hb
  have hle := cnt_le (fun w => (fset st b (some (s + 1)) w).isSome) 60
  obtain ⟨-, s2, hs2, hsk⟩ := c2 k hk
  rw [hs] at hs2
  obtain rfl : s = s2 := by simpa using hs2
  refine ⟨by omega, by omega, ?_, ?_, ?_, ?_, ?_, ?_⟩
  · intro i hi
    by_cases e : i = m
    · subst e; rw [B2, B]; exact ⟨hb, s + 1, rfl, by omega⟩
    · rw [A2 i (by omega), A i (by omega)]
      exact c2 i (by omega)
  · intro w hw s1 h1
    by_cases e : w = b
    · subst e
      rw [fset_s] at h1
      obtain rfl : s + 1 = s1 := by simpa using h1
      exact ⟨⟨m, by omega, B⟩, rs_step (c2 k hk).1 (c3 (q k) (c2 k hk).1 s hs).2 hn hf⟩
    · rw [fset_n e] at h1
      obtain ⟨⟨i, hi, hq⟩, hr⟩ := c3 w hw s1 h1
      exact ⟨⟨i, by omega, by rw [A i hi]; exact hq⟩, hr⟩
  · intro i j s1 s2 hij hj h1 h2
    by_cases e : j = m
    · subst e
      rw [B2] at h2
      obtain rfl : s + 1 = s2 := by simpa using h2
      by_cases e2 : i = j
      · subst e2; rw [B2] at h1
        obtain rfl : s + 1 = s1 := by simpa using h1
        exact Nat.le_refl _
      · rw [A2 i (by omega)] at h1
        exact c5 i s s1 hk (by omega) hs h1
    · rw [A2 i (by omega)] at h1
      rw [A2 j (by omega)] at h2
      exact c4 i j s1 s2 hij (by omega) h1 h2
  · intro j s1 s2 _ hj h1 h2
    rw [A2 k hk, hs] at h1
    obtain rfl : s = s1 := by simpa using h1
    by_cases e : j = m
    · subst e; rw [B2] at h2
      obtain rfl : s + 1 = s2 := by simpa using h2
      exact Nat.le_refl _
    · rw [A2 j (by omega)] at h2
      exact c5 j s s2 hk (by omega) hs h2
  · intro i w s1 hi hw hc1 hnx hfw h1
    have him : i < m := by omega
    rw [A2 i him] at h1
    rw [A i him] at hnx
    by_cases e : w = b
    · subst e
      rcases hc1 with hc1 | ⟨hc1, -⟩
      · obtain ⟨s3, h3, -⟩ := c6 i w s1 him hw (Or.inl hc1) hnx hfw h1
        rw [he] at h3; cases h3
      · subst hc1
        rw [hs] at h1
        obtain rfl : s = s1 := by simpa using h1
        exact ⟨s + 1, fset_s, Nat.le_refl _⟩
    · rw [fset_n e]
      exact c6 i w s1 him hw (by omega) hnx hfw h1
  · rw [fset_n (fun z => by rw [z, he] at c7; cases c7)]; exact c7
theorem WB_skip {f : Nat → Bool} {w0 : Nat} {st : Nat → Option Nat} {q : Nat → Nat} {m k b : Nat} (h : WB f w0 st q m k b) (hk : k < m) (hb : b < 60) (hc : nx (q k) b = true → f b = true → ∃ s, st b = some s) : WB f w0 st q m k (b + 1) := by
  obtain ⟨c1, c2, c3, c4, c5, c6, c7⟩ := h
  refine ⟨c1, c2, c3, c4, c5, ?_, c7⟩
  intro i w s hi hw h1 h2 h3 h4
  by_cases e : i = k ∧ w = b
  · obtain ⟨rfl, rfl⟩ := e
    obtain ⟨s', h5⟩ := hc h2 h3
    obtain ⟨⟨j, hj, hq⟩, -⟩ := c3 w hw s' h5
    refine ⟨s', h5, c5 j s s' hi hj h4 ?_⟩
    rw [hq]; exact h5
  · exact c6 i w s hi hw (by omega) h2 h3 h4
theorem WB_next {f : Nat → Bool} {w0 : Nat} {st : Nat → Option Nat} {q : Nat → Nat} {m k : Nat} (h : WB f w0 st q m k 60) (hk : k < m) : WB f w0 st q m (k + 1) 0 := by
  obtain ⟨c1, c2, c3, c4, c5, c6, c7⟩ := h
  refine ⟨c1, c2, c3, c4, ?_, ?_, c7⟩
  · intro j s s' h1 h2 h3 h4
    obtain ⟨-, s0, h5, -⟩ := c2 k hk
    have a := c4 k (k + 1) s0 s (by omega) h1 h5 h3
    have b := c5 j s0 s' hk h2 h5 h4
    omega
  · intro i w s hi hw h1 h2 h3 h4
    exact c6 i w s hi hw (by omega) h2 h3 h4
theorem fnd_least {R : Nat → Bool} {j s : Nat} (h : R s = true) (hj : s < j) (hl : ∀ i, i < s → R i = false) : fnd R j 0 = some s := by
  cases e : fnd R j 0 with
  | none =>
    rw [fnd_none e s (by omega) (by omega)] at h
    exact absurd h (by decide)
  | some p =>
    obtain ⟨-, h1, h2, h3⟩ := fnd_some e
    rcases Nat.lt_trichotomy p s with hp | hp | hp
    · rw [hl p hp] at h2; exact absurd h2 (by decide)
    · rw [hp]
    · rw [h3 s (by omega) hp] at h; exact absurd h (by decide)
/-- how many steps to a plot -/
def dst (f : Nat → Bool) (w0 w : Nat) : Option Nat := fnd (fun k => rs f (sf f w0) k w) 60 0
theorem WB_end {f : Nat → Bool} {w0 : Nat} {st : Nat → Option Nat} {q : Nat → Nat} {m k : Nat} (h : WB f w0 st q m k 0) (hk : m ≤ k) : (∀ w, w < 60 → st w = dst f w0 w) ∧ m = sz f w0 := by
  obtain ⟨c1, c2, c3, c4, c5, c6, c7⟩ := h
  have hm : m ≤ 60 := by rw [c1]; exact cnt_le _ _
  have cp : ∀ {j w : Nat}, w < 60 → rs f (sf f w0) j w = true → ∃ s, st w = some s ∧ s ≤ j := by
    intro j
    induction j with
    | zero =>
      intro w hw hr
      obtain ⟨rfl, -⟩ := sf_iff.mp (show sf f w0 w = true from hr)
      exact ⟨0, c7, Nat.le_refl _⟩
    | succ j ih =>
      intro w hw hr
      rcases rs_inv hr with h1 | ⟨x, hx, h1, h2, h3⟩
      · obtain ⟨s, a, b⟩ := ih hw h1; exact ⟨s, a, by omega⟩
      · obtain ⟨s, a, b⟩ := ih hx h1
        obtain ⟨⟨i, hi, hq⟩, -⟩ := c3 x hx s a
        obtain ⟨s', a', b'⟩ := c6 i w s hi hw (Or.inl (by omega)) (by rw [hq]; exact h2) h3 (by rw [hq]; exact a)
        exact ⟨s', a', by omega⟩
  constructor
  · intro w hw
    cases e : st w with
    | none =>
      cases e2 : dst f w0 w with
      | none => rfl
      | some p =>
        obtain ⟨-, -, h2, -⟩ := fnd_some e2
        obtain ⟨s, a, -⟩ := cp hw h2
        rw [e] at a; cases a
    | some s =>
      obtain ⟨⟨i, hi, hq⟩, hr⟩ := c3 w hw s e
      obtain ⟨-, s2, h2, h3⟩ := c2 i hi
      rw [hq, e] at h2
      obtain rfl : s = s2 := by simpa using h2
      refine (fnd_least (R := fun k => rs f (sf f w0) k w) hr (by omega) (fun j hj => ?_)).symm
      cases e3 : rs f (sf f w0) j w with
      | false => rfl
      | true =>
        obtain ⟨s', a, b⟩ := cp hw e3
        rw [e] at a
        obtain rfl : s = s' := by simpa using a
        omega
  · rw [c1]
    refine cnt_eq (fun w hw => ?_)
    rw [Bool.eq_iff_iff, Option.isSome_iff_exists]
    constructor
    · rintro ⟨s, e⟩
      obtain ⟨⟨i, hi, hq⟩, hr⟩ := c3 w hw s e
      obtain ⟨-, s2, h2, h3⟩ := c2 i hi
      rw [hq, e] at h2
      obtain rfl : s = s2 := by simpa using h2
      have := rs_mono hr (60 - s)
      rwa [show s + (60 - s) = 60 by omega] at this
    · intro e
      obtain ⟨s, a, -⟩ := cp hw e
      exact ⟨s, a⟩
def wkS (k : Nat) : Prop := k = 88 ∨ k = 89
theorem pJ_m1 {o : Option Nat} (ho : ∀ s, o = some s → s < 2 ^ 31) : (pJ o = -1) ↔ o = none := by
  cases o with
  | none => simp [pJ]
  | some s => simp [pJ, nI_m1 (ho s rfl)]
section WK
variable {L d : Nat} {M : pu_M} {P : Pp}
theorem c_m_walks {Q : Int32 → pu_M → Prop} {w0 : Nat} (hM : PM P (M 59)) (hI : PI P) (hw : w0 < 60) (H : ∀ M', (∀ w, w < 60 → M' 88 w = pJ (dst (fg P) w0 w)) → only wkS M M' → Q (nI (sz (fg P) w0)) M') : pu_I L (d + 3) 248 [.ref 58, .int (nI w0)] M Q := by
  have hPM : ∀ {M' : pu_M}, only wkS M M' → PM P (M' 59) := fun o => by rw [o 59 (by unfold wkS; omega)]; exact hM
  have fin : ∀ {st : Nat → Option Nat} {q : Nat → Nat} {m k : Nat} {M' : pu_M}, WB (fg P) w0 st q m k 0 → m ≤ k → (∀ w, w < 60 → M' 88 w = pJ (st w)) → only wkS M M' → Q (nI m) M' := by
    intro st q m k M' h1 h2 h3 h4
    obtain ⟨e1, e2⟩ := WB_end h1 h2
    rw [e2]
    exact H M' (fun w hw => by rw [h3 w hw, e1 w hw]) h4
  have out : ∀ (j k m : Nat) (st : Nat → Option Nat) (q : Nat → Nat) (M' : pu_M) (v4 : Value), k + j = 60 → k ≤ m → WB (fg P) w0 st q m k 0 → (∀ w, w < 60 → M' 88 w = pJ (st w)) → (∀ i, i < m → M' 89 i = nI (q i)) → only wkS M M' → pu_R L (d + 3) 248 51 [.ref 58, .int (nI w0), .int (nI m), .int (nI k), v4] [] M' (pu_qI Q) := by
    intro j
    induction j with
    | zero =>
      intro k m st q M' v4 hk hkm h1 h2 h3 h4
      have hm : m ≤ 60 := by rw [h1.1]; exact cnt_le _ _
      refine r_m_walksFrom_51 ?_
      rw [if_pos (by rw [nI_leI (by omega) (by omega)]; omega)]
      exact fin h1 (by omega) h2 h4
    | succ j ih =>
      intro k m st q M' v4 hk hkm h1 h2 h3 h4
      have hm : m ≤ 60 := by rw [h1.1]; exact cnt_le _ _
      refine r_m_walksFrom_51 ?_
      by_cases hmk : m ≤ k
      · rw [if_pos (by rw [nI_leI (by omega) (by omega)]; exact hmk)]
        exact fin h1 hmk h2 h4
      · rw [if_neg (by rw [nI_leI (by omega) (by omega)]; exact hmk)]
        have inn : ∀ (jj b m : Nat) (st : Nat → Option Nat) (q : Nat → Nat) (M' : pu_M), b + jj = 60 → k < m → WB (fg P) w0 st q m k b → (∀ w, w < 60 → M' 88 w = pJ (st w)) → (∀ i, i < m → M' 89 i = nI (q i)) → only wkS M M' → pu_R L (d + 3) 248 59 [.ref 58, .int (nI w0), .int (nI m), .int (nI k), .int (nI b)] [] M' (pu_qI Q) := by
          intro jj
          induction jj with
          | zero =>
            intro b m st q M' hb hkm h1 h2 h3 h4
            obtain rfl : b = 60 := by omega
            refine r_m_walksFrom_59 ?_
            rw [if_pos ge60, nI_1]
            exact ih (k + 1) m st q M' _ (by omega) (by omega) (WB_next h1 hkm) h2 h3 h4
          | succ jj ih2 =>
            intro b m st q M' hb hkm h1 h2 h3 h4
            have hm : m ≤ 60 := by rw [h1.1]; exact cnt_le _ _
            have hb6 : b < 60 := by omega
            obtain ⟨hqk, s, hs, hsk⟩ := h1.2.1 k hkm
            have skip : (nx (q k) b = true → fg P b = true → ∃ s, st b = some s) → pu_R L (d + 3) 248 59 [.ref 58, .int (nI w0), .int (nI m), .int (nI k), .int (nI b + 1)] [] M' (pu_qI Q) := by
              intro hc
              rw [nI_1]
              exact ih2 (b + 1) m st q M' (by omega) hkm (WB_skip h1 hkm hb6 hc) h2 h3 h4
            refine r_m_walksFrom_59 ?_
            rw [if_neg (lt60 hb6)]
            refine ⟨inb_nI (by omega) (by decide), ?_⟩
            rw [nI_clamp (show k < 2 ^ 31 by omega), h3 k hkm]
            refine c_m_areNext hqk hb6 ?_
            cases hn : nx (q k) b with
            | false =>
              rw [if_neg (by decide), if_pos (by decide)]
              exact skip (fun z => by rw [hn] at z; exact absurd z (by decide))
            | true =>
              rw [if_pos (by decide), if_neg (by decide)]
              refine ⟨inb_nI hb6 (by decide), ?_⟩
              rw [nI_clamp (show b < 2 ^ 31 by omega), h2 b hb6]
              have hsm : ∀ s, st b = some s → s < 2 ^ 31 := by
                intro s' e
                obtain ⟨⟨i, hi, hq⟩, -⟩ := h1.2.2.1 b hb6 s' e
                obtain ⟨-, s2, a1, a2⟩ := h1.2.1 i hi
                rw [hq, e] at a1
                obtain rfl : s' = s2 := by simpa using a1
                omega
              cases hst : st b with
              | some s' =>
                rw [if_neg (by rw [pJ_m1 (fun s e => hsm s (by rw [hst]; exact e))]; simp)]
                exact skip (fun _ _ => ⟨s', hst⟩)
              | none =>
                rw [if_pos (by decide)]
                refine c_m_whoLies (hPM h4) hI hb6 ?_
                cases hwho : who P b with
                | some r =>
                  rw [if_neg (by rw [pI_m2 (fun q e => who_lt (hwho.trans e))]; simp)]
                  exact skip (fun _ z => by simp [fg, hwho] at z)
                | none =>
                  rw [if_pos (by decide)]
                  have hf : fg P b = true := by simp [fg, hwho]
                  obtain ⟨hm6, hW⟩ := WB_push h1 hkm hb6 hn hst hf hs
                  refine ⟨inb_nI (by omega) (by decide), ?_, inb_nI hb6 (by decide), inb_nI hm6 (by decide), ?_⟩
                  · rw [h3 k hkm]; exact inb_nI hqk (by decide)
                  · rw [h3 k hkm, nI_clamp (show m < 2 ^ 31 by omega), nI_clamp (show q k < 2 ^ 31 by omega), h2 (q k) hqk, hs, nI_1, nI_1]
                    refine ih2 (b + 1) (m + 1) _ _ _ (by omega) (by omega) hW ?_ ?_ ((h4.wr (Or.inl rfl)).wr (Or.inr rfl))
                    · intro w hw'
                      rw [pu_wr_ne (by decide), pu_wr_self]
                      by_cases e : w = b
                      · subst e; rw [upd_s, fset_s]; exact nI_1 s
                      · rw [upd_n e, fset_n e]; exact h2 w hw'
                    · intro i hi
                      rw [pu_wr_self]
                      by_cases e : i = m
                      · subst e; rw [upd_s, fset_s]
                      · rw [upd_n e, fset_n e, pu_wr_ne (by decide)]
                        exact h3 i (by omega)
        exact inn 60 0 m st q M' rfl (by omega) h1 h2 h3 h4
  have lay : ∀ (j k : Nat) (M' : pu_M), k + j = 60 → (∀ i, i < k → M' 88 i = -1) → only wkS M M' → pu_R L (d + 3) 248 2 [.ref 58, .int (nI w0), .int (nI k), mq_un, mq_un] [] M' (pu_qI Q) := by
    intro j
    induction j with
    | zero =>
      intro k M' hk h1 h2
      obtain rfl : k = 60 := by omega
      refine r_m_walksFrom_2 ?_
      rw [if_pos ge60]
      refine c_m_whoLies (hPM h2) hI hw ?_
      cases hwho : who P w0 with
      | some r =>
        rw [if_neg (by rw [pI_m2 (fun q e => who_lt (hwho.trans e))]; simp)]
        have hf : fg P w0 = false := by simp [fg, hwho]
        have := H M' (fun w hw' => by
          rw [h1 w hw']
          have : dst (fg P) w0 w = none := by
            cases e : dst (fg P) w0 w with
            | none => rfl
            | some p =>
              obtain ⟨-, -, h3, -⟩ := fnd_some e
              rw [rs_e (fun u _ => sf_0 hf u) hw'] at h3
              exact absurd h3 (by decide)
          rw [this]; rfl) h2
        rw [sz_0 hf] at this
        exact this
      | none =>
        rw [if_pos (by decide)]
        have hf : fg P w0 = true := by simp [fg, hwho]
        refine ⟨inb_nI hw (by decide), ?_⟩
        rw [nI_clamp (show w0 < 2 ^ 31 by omega)]
        refine out 60 0 1 _ _ _ _ rfl (by decide) (WB_init hw hf) ?_ ?_ ((h2.wr (Or.inl rfl)).wr (Or.inr rfl))
        · intro w hw'
          rw [pu_wr_ne (by decide), pu_wr_self]
          by_cases e : w = w0
          · subst e; rw [upd_s, fset_s]; rfl
          · rw [upd_n e, fset_n e, h1 w hw']; rfl
        · intro i hi
          obtain rfl : i = 0 := by omega
          rw [pu_wr_self]
          exact upd_s
    | succ j ih =>
      intro k M' hk h1 h2
      refine r_m_walksFrom_2 ?_
      rw [if_neg (lt60 (by omega))]
      refine ⟨inb_nI (by omega) (by decide), ?_⟩
      rw [nI_clamp (show k < 2 ^ 31 by omega), nI_1]
      refine ih (k + 1) _ (by omega) ?_ (h2.wr (Or.inl rfl))
      intro i hi
      rw [pu_wr_self]
      by_cases e : i = k
      · subst e; exact upd_s
      · rw [upd_n e]; exact h1 i (by omega)
  exact r_m_walksFrom (lay 60 0 M rfl (fun i hi => absurd hi (by omega)) (only.rf _ _))
end WK
