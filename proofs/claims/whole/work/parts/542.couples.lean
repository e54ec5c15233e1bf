/-! couples: the model's call -/
section CM
variable {L d : Nat} {M : pu_M} {P : Pp} {s : Nat}
theorem c_m_couples {Q : Int32 → pu_M → Prop} {v w : Int32} (hM : PM P (M 59)) (hI : PI P) (H0 : ¬ okCo v w → Q (-1000) M) (H1 : okCo v w → ¬ amCo P v w → Q (-3) M) (H2 : okCo v w → amCo P v w → ∀ M', fr M M' → only mcoS M M' → Q (v_couples P v.toNatClampNeg w) M') : pu_I L (d + 5) 239 [.ref 58, .int v, .int w] M Q := by
  refine r_m_couples (c_m_in ?_)
  rcases vbig (N := 65535) (B := 65535) rfl v with ⟨s, hs, rfl⟩ | hv
  · have hs : s < 65536 := by omega
    have hpc := pc_le s
    have ecl : (nI s).toNatClampNeg = s := nI_clamp (by omega)
    unfold okCo at H0 H1 H2
    unfold amCo at H1 H2
    rw [ecl] at H0 H1 H2
    have hr : ¬ (nI s < 0 ∨ 65535 < nI s) := by
      intro z
      rcases z with z | z
      · exact nI_pos (by omega) z
      · rw [n_65535, nI_ltI (by omega) (by omega)] at z; omega
    rw [if_neg hr, if_neg (by decide)]
    refine c_m_bits hs (c_m_in ?_)
    by_cases c1 : nI (pc s) < 2 ∨ 10 < nI (pc s)
    · rw [if_pos c1, if_pos rfl]
      rw [n_2, n_10, nI_ltI (by omega) (by omega), nI_ltI (by omega) (by omega)] at c1
      exact H0 (fun z => by have := z.2.1; omega)
    rw [if_neg c1, if_neg (by decide)]
    rw [n_2, n_10, nI_ltI (by omega) (by omega), nI_ltI (by omega) (by omega)] at c1
    have hn : pc s ≤ 10 := by omega
    have fin : (¬ (w < 0 ∨ 15 < w) ∨ w = 100) → pu_R L (d + 5) 239 43 [.ref 58, .int (nI s), .int w, mq_un] [] M (pu_qI Q) := by
      intro hw
      have H1 := H1 ⟨hr, ⟨by omega, by omega⟩, hw⟩
      have H2 := H2 ⟨hr, ⟨by omega, by omega⟩, hw⟩
      refine r_m_couples_43 (c_m_toldSet hM ?_)
      have h1 := bs_lt (tl P) 16
      have h2 : an s (bs (tl P) 16) < 2 ^ 16 := an_lt hs (by decide)
      rw [nI_andn (by omega) (by omega)]
      by_cases ct : an s (bs (tl P) 16) = 0
      · rw [ct, if_pos (show nI 0 = 0 from rfl)]
        have fin2 : (w = 100 ∨ s.testBit w.toNatClampNeg = true) → pu_R L (d + 5) 239 78 [.ref 58, .int (nI s), .int w, .int 0] [] (pu_wr M 58 45 0) (pu_qI Q) := by
          intro hb
          have H2 := H2 ⟨ct, hb⟩
          have loop : ∀ (j k : Nat) (M' : pu_M), k + j = 16 → M' 58 45 = nI (cnt (fun j => s.testBit j) k) → (∀ i, i < cnt (fun j => s.testBit j) k → M' 85 i = nI (mbk s k i)) → fr M M' → only mcoS M M' → pu_R L (d + 5) 239 78 [.ref 58, .int (nI s), .int w, .int (nI k)] [] M' (pu_qI Q) := by
            intro j
            induction j with
            | zero =>
              intro k M' hk a1 a2 f o
              obtain rfl : k = 16 := by omega
              refine r_m_couples_78 ?_
              rw [if_pos ge16]
              have hM' : PM P (M' 59) := by rw [o 59 (by unfold mcoS; omega)]; exact hM
              refine c_m_lays (s := s) hM' hI ⟨a1, a2⟩ hn (fun M2 g2 w2 o2 => ?_)
              have o3 : only mcoS M M2 := fun k hk => (o2 k (fun z => hk (Or.inr (Or.inr z)))).trans (o k hk)
              have f3 : fr M M2 := fun j hj => by rw [o2 58 (by decide)]; exact f j hj
              have H2 := H2 M2 f3 o3
              have hM2 : PM P (M2 59) := by rw [o3 59 (by unfold mcoS; omega)]; exact hM
              unfold v_couples at H2
              by_cases h100 : w = 100
              · rw [if_pos h100] at H2 ⊢
                have := pw10 hn
                have := Nat.two_pow_pos (pc s)
                rw [g2.1, nI_all hn, nI_clamp (by omega), w2 _ (by omega)]
                exact ⟨inb_nI (by omega) (by decide), H2⟩
              · rw [if_neg h100] at H2 ⊢
                rcases v16 w with ⟨p, hp, rfl⟩ | hw2
                · rw [nI_clamp (by omega)] at H2
                  exact c_m_isWith hM2 hI g2 hn hp w2 H2
                · exact absurd hw2 (hw.resolve_right h100)
            | succ j ih =>
              intro k M' hk a1 a2 f o
              refine r_m_couples_78 ?_
              rw [if_neg (lt16 (by omega))]
              refine c_m_has hs (by omega) ?_
              cases hb : s.testBit k with
              | false =>
                rw [if_neg (by decide), if_pos rfl, nI_1]
                refine ih (k + 1) M' (by omega) ?_ ?_ f o
                · rw [cnt_f (P := fun j => s.testBit j) hb]; exact a1
                · rw [cnt_f (P := fun j => s.testBit j) hb, mbk_f hb]; exact a2
              | true =>
                have hc : cnt (fun j => s.testBit j) k + 1 ≤ pc s := by
                  have := cnt_le2 (A := fun j => s.testBit j) (show k + 1 ≤ 16 by omega)
                  rw [cnt_t (P := fun j => s.testBit j) hb] at this
                  exact this
                rw [if_pos rfl, if_neg (by decide), a1]
                refine ⟨inb_nI (by omega) (by decide), ?_⟩
                rw [nI_clamp (show cnt (fun j => s.testBit j) k < 2 ^ 31 by omega), pu_wr_ne (show (58 : Nat) ≠ 85 by decide), a1, nI_1, nI_1]
                refine ih (k + 1) _ (by omega) ?_ ?_ ((f.ot (by decide)).wr (by unfold scF; omega)) ((o.wr (by unfold mcoS; omega)).wr (by unfold mcoS; omega))
                · rw [cnt_t (P := fun j => s.testBit j) hb, pu_wr_self]; exact upd_s
                · rw [cnt_t (P := fun j => s.testBit j) hb, mbk_t hb]
                  intro i hi
                  rw [pu_wr_ne (show (85 : Nat) ≠ 58 by decide), pu_wr_self]
                  by_cases e : i = cnt (fun j => s.testBit j) k
                  · rw [e, upd_s, fset_s]
                  · rw [upd_n e, fset_n e]; exact a2 i (by omega)
          refine loop 16 0 _ rfl ?_ (fun i hi => absurd hi (by simp [cnt])) ((fr.rf M).wr (by unfold scF; omega)) ((only.rf _ _).wr (by unfold mcoS; omega))
          rw [pu_wr_self]; exact upd_s
        by_cases h100 : w = 100
        · rw [if_pos h100]; exact fin2 (Or.inl h100)
        · rw [if_neg h100]
          rcases v16 w with ⟨p, hp, rfl⟩ | hw2
          · rw [nI_clamp (by omega)] at fin2
            refine c_m_has hs (by omega) ?_
            cases hb : s.testBit p with
            | true => rw [if_pos rfl, if_neg (by decide)]; exact fin2 (Or.inr hb)
            | false =>
              rw [if_neg (by decide), if_pos rfl]
              refine H1 (fun z => ?_)
              rw [nI_clamp (by omega), hb] at z
              exact z.2.elim h100 (by decide)
          · exact absurd hw2 (hw.resolve_right h100)
      · rw [if_neg (by rw [n_0, nI_eq (by omega) (by omega)]; exact ct)]; exact H1 (fun z => ct z.1)
    refine c_m_in ?_
    by_cases hw : w < 0 ∨ 15 < w
    · rw [if_pos hw, if_pos rfl]
      by_cases h100 : w = 100
      · rw [if_pos h100]; exact fin (Or.inr h100)
      · rw [if_neg h100]; exact H0 (fun z => z.2.2.elim (fun z => z hw) h100)
    · rw [if_neg hw, if_neg (by decide)]; exact fin (Or.inl hw)
  · rw [if_pos hv, if_pos rfl]; exact H0 (fun z => z.1 hv)
end CM
