/-! NIGHTS in the model: nights, tried -/
section MP
variable {L d : Nat} {M : pu_M} {P : Pp} {F : Law}
theorem c_N_pass {Q : pu_M → Prop} {n : Nat} (hF : wI F) (hI : PI P) (hM : PM P (M 59)) (hK : mLaw M F) (hn : n ≤ 240) (H : ∀ M', nmT M' F (n_go F n (P, 0, 0)) → nmF M M' → Q M') : pu_V L (d + 8) 216 [.ref 58, .int (nI n)] M Q := by
  have z64 : (64 : Int32).toNatClampNeg = 64 := rfl
  have key : ∀ (j i : Nat) (s : Ns) (M' : pu_M) (v5 : Value), i + j = n → PI s.1 → nmT M' F s → nmF M M' → (∀ M'', nmT M'' F (n_go F j s) → nmF M M'' → Q M'') → pu_R L (d + 8) 216 12 [.ref 58, .int (nI n), .int (nI i), v5] [] M' (pu_qV Q) := by
    intro j
    induction j with
    | zero =>
      intro i s M' v5 hi hs ht o H
      refine r_m_nightsGo_12 ?_
      rw [if_pos (by rw [nI_leI (by omega) (by omega)]; omega)]
      exact H M' ht o
    | succ j ih =>
      intro i s M' v5 hi hs ht o H
      refine r_m_nightsGo_12 ?_
      have hnt := hs.2.2.1
      have e5 : M' 59 64 = nI (nt s.1) := ht.1.2.1
      have hgo : n_go F (j + 1) s = if nt s.1 < 9999 then n_go F j (n_ng F s) else s := rfl
      rw [hgo] at H
      rw [if_neg (by rw [nI_leI (by omega) (by omega)]; omega), z64, e5]
      by_cases h99 : nt s.1 < 9999
      · rw [if_pos h99] at H
        rw [if_neg (by rw [n_9999, nI_leI (by omega) (by omega)]; omega)]
        have inn : ∀ (j2 p : Nat) (M' : pu_M), p + j2 = 16 → nmT M' F (fo (n_ps F) p s) → nmF M M' → pu_R L (d + 8) 216 32 [.ref 58, .int (nI n), .int (nI i), .int (nI p)] [] M' (pu_qV Q) := by
          intro j2
          induction j2 with
          | zero =>
            intro p M' hp ht o
            obtain rfl : p = 16 := by omega
            refine r_m_nightsGo_32 ?_
            have e5 : M' 59 64 = nI (nt (fo (n_ps F) 16 s).1) := ht.1.2.1
            rw [if_pos ge16, z64, e5, nI_1, nI_1]
            refine ih (i + 1) (n_ng F s) _ _ (by omega) (PI_ng hs h99) ⟨?_, ?_, ?_, ?_⟩ ⟨o.1.wr (Or.inr (Or.inl rfl)), fun j j1 j2 => by rw [pu_wr_ne (by decide)]; exact o.2 j j1 j2⟩ H
            · rw [pu_wr_self]; exact PM_nt ht.1
            · unfold mLaw mLw
              rw [pu_wr_ne (by decide), pu_wr_ne (by decide), pu_wr_ne (by decide), pu_wr_ne (by decide), pu_wr_ne (by decide), pu_wr_ne (by decide)]; exact ht.2.1
            · rw [pu_wr_ne (by decide)]; exact ht.2.2.1
            · rw [pu_wr_ne (by decide)]; exact ht.2.2.2
          | succ j2 ih2 =>
            intro p M' hp ht o
            have hp16 : p < 16 := by omega
            have hIp := (PI_fo (F := F) hs p (by omega)).1
            refine r_m_nightsGo_32 ?_
            rw [if_neg (lt16 hp16), nI_1]
            have es : fo (n_ps F) (p + 1) s = n_ps F p (fo (n_ps F) p s) := rfl
            have ih2 := ih2 (p + 1)
            rw [es] at ih2
            generalize fo (n_ps F) p s = a at ih2 ht hIp
            unfold n_ps at ih2
            refine c_m_isLaid ht.1 hIp hp16 ?_
            have hmd := (hIp.1 p hp16).2.1
            cases hlaid : (pl a.1 p).isSome with
            | false =>
              rw [if_neg (by rw [hlaid]; simp)] at ih2
              rw [if_neg (by decide), if_pos rfl]
              exact ih2 M' (by omega) ht o
            | true =>
              rw [if_pos rfl, if_neg (by decide), n_32, nI_add, nI_clamp (by omega), (ht.1.1 p hp16).2.2.1]
              refine ⟨inb_nI (by omega) (by decide), ?_⟩
              by_cases h0 : md a.1 p = 0
              · rw [if_neg (by rw [hlaid, h0]; decide)] at ih2
                rw [h0, if_pos (show nI 0 ≤ 0 by decide)]
                exact ih2 M' (by omega) ht o
              · rw [if_pos (by rw [hlaid]; simp; omega)] at ih2
                rw [if_neg (by rw [n_0, nI_leI (by omega) (by decide)]; omega)]
                exact c_N_turn hF hIp hp16 ht (fun M2 t2 o2 => ih2 M2 (by omega) t2 (o.tr o2))
        exact inn 16 0 M' rfl ht o
      · rw [if_neg h99] at H
        rw [if_pos (by rw [n_9999, nI_leI (by omega) (by omega)]; omega)]
        exact H M' ht o
  refine r_m_nightsGo (key n 0 (P, 0, 0) _ _ (by omega) hI ⟨?_, ?_, ?_, ?_⟩ ⟨((only.rf nmS M).wr (Or.inl rfl)).wr (Or.inl rfl), fun j j1 j2 => by rw [pu_wr_self, upd_n j2, pu_wr_self, upd_n j1]⟩ H)
  · rw [pu_wr_ne (by decide), pu_wr_ne (by decide)]; exact hM
  · refine mLaw_F hK ⟨((only.rf nmS M).wr (Or.inl rfl)).wr (Or.inl rfl), fun j j1 j2 => by rw [pu_wr_self, upd_n j2, pu_wr_self, upd_n j1]⟩
  · rw [pu_wr_self, upd_n (by decide), pu_wr_self, upd_s]; rfl
  · rw [pu_wr_self, upd_s]; rfl
theorem c_m_nights {Q : Int32 → pu_M → Prop} {v : Int32} (hF : wI F) (hI : PI P) (hM : PM P (M 59)) (hK : mLaw M F) (H0 : (v < 1 ∨ 240 < v) → Q (-1) M) (H1 : ∀ n, v = nI n → 1 ≤ n → n ≤ 240 → ∀ M', nmT M' F (n_go F n (P, 0, 0)) → nmF M M' → Q (nI (n_go F n (P, 0, 0)).2.1) M') : pu_I L (d + 9) 217 [.ref 58, .int v] M Q := by
  refine r_m_nights (c_m_in ?_)
  rcases okN_or v with ⟨n, rfl, n1, n2⟩ | h
  · rw [if_neg (okN_in n1 n2), if_neg (by decide)]
    refine c_N_pass hF hI hM hK n2 (fun M' t o => ?_)
    rw [t.2.2.1]
    exact H1 n rfl n1 n2 M' t o
  · rw [if_pos h, if_pos rfl]; exact H0 h
theorem c_m_moodless {Q : Int32 → pu_M → Prop} (hM : PM P (M 59)) (hI : PI P) (H : Q (nI (n_ml P)) M) : pu_I L (d + 2) 218 [.ref 58] M Q := by
  have key : ∀ j k, k + j = 16 → pu_R L (d + 2) 218 4 [.ref 58, .int (nI (cnt (fun p => (pl P p).isSome && decide (md P p = 0)) k)), .int (nI k)] [] M (pu_qI Q) := by
    intro j
    induction j with
    | zero =>
      intro k hk
      obtain rfl : k = 16 := by omega
      refine r_m_moodless_4 ?_
      rw [if_pos ge16]; exact H
    | succ j ih =>
      intro k hk
      have hk16 : k < 16 := by omega
      have hmd := (hI.1 k hk16).2.1
      refine r_m_moodless_4 ?_
      rw [if_neg (lt16 hk16), nI_1]
      refine c_m_isLaid hM hI hk16 ?_
      have ih := ih (k + 1) (by omega)
      cases hlaid : (pl P k).isSome with
      | false =>
        rw [cnt_f (P := fun p => (pl P p).isSome && decide (md P p = 0)) (by rw [hlaid]; rfl)] at ih
        rw [if_neg (by decide), if_pos rfl]
        exact ih
      | true =>
        rw [if_pos rfl, if_neg (by decide), n_32, nI_add, nI_clamp (by omega), (hM.1 k hk16).2.2.1]
        refine ⟨inb_nI (by omega) (by decide), ?_⟩
        by_cases h0 : md P k = 0
        · rw [cnt_t (P := fun p => (pl P p).isSome && decide (md P p = 0)) (by rw [hlaid, h0]; rfl)] at ih
          rw [h0, if_pos (show nI 0 = 0 from rfl), nI_1]
          exact ih
        · rw [cnt_f (P := fun p => (pl P p).isSome && decide (md P p = 0)) (by rw [hlaid]; simpa using h0)] at ih
          rw [if_neg (by rw [n_0, nI_eq (by omega) (by decide)]; exact h0)]
          exact ih
  exact r_m_moodless (key 16 0 rfl)
def nqS (k : Nat) : Prop := k = 58 ∨ k = 59 ∨ k = 60 ∨ k = 74 ∨ k = 75
theorem c_m_tried {Q : Int32 → pu_M → Prop} {v w : Int32} (hF : wI F) (hI : PI P) (hM : PM P (M 59)) (hK : mLaw M F) (H0 : ¬ (okN v ∧ okTr P w) → Q (-1) M) (H1 : ∀ n, v = nI n → 1 ≤ n → n ≤ 240 → okTr P w → ∀ M', PM P (M' 59) → (∀ j, j ≠ 36 → j ≠ 37 → M' 58 j = M 58 j) → only nqS M M' → Q (v_tried (n_go F n (P, 0, 0)) w) M') : pu_I L (d + 9) 219 [.ref 58, .int v, .int w] M Q := by
  refine r_m_tried (c_m_in ?_)
  rcases okN_or v with ⟨n, rfl, n1, n2⟩ | h
  · rw [if_neg (okN_in n1 n2), if_neg (by decide)]
    have fin : okTr P w → pu_R L (d + 9) 219 44 [.ref 58, .int (nI n), .int w, mq_un] [] M (pu_qI Q) := by
      intro okt
      refine r_m_tried_44 ?_
      refine c_m_copies (a := 59) (b := 60) rfl (by decide) rfl (by decide) (by decide) (fun M1 e1 o1 => ?_)
      have hM1 : PM P (M1 59) := by rw [o1 59 (by decide)]; exact hM
      have hA1 : PM P (M1 60) := PM_copy hM (fun i hi => e1 i hi)
      have k1 : mLaw M1 F := by
        unfold mLaw mLw
        rw [o1 58 (by decide), o1 69 (by decide), o1 70 (by decide), o1 71 (by decide), o1 72 (by decide), o1 73 (by decide)]; exact hK
      refine c_N_pass hF hI hM1 k1 n2 (fun M2 t2 f2 => ?_)
      have hI2 : PI (n_go F n (P, 0, 0)).1 := PI_go hI
      have H1 := H1 n rfl n1 n2 okt
      unfold v_tried at H1
      generalize n_go F n (P, 0, 0) = s at t2 H1 hI2
      have hA2 : PM P (M2 60) := by rw [f2.1 60 (by unfold nmS; omega)]; exact hA1
      -- the people come back
      have back : ∀ x : Int32, (∀ M', PM P (M' 59) → (∀ j, j ≠ 36 → j ≠ 37 → M' 58 j = M 58 j) → only nqS M M' → Q x M') → pu_V L (d + 8) 163 [.ref 60, .ref 59] M2 (fun M9 => Q x M9) := by
        intro x HQ
        refine c_m_copies (a := 60) (b := 59) rfl (by decide) rfl (by decide) (by decide) (fun M3 e3 o3 => HQ M3 (PM_copy hA2 (fun i hi => e3 i hi)) (fun j j1 j2 => ?_) (fun k hk => ?_))
        · rw [o3 58 (by decide), f2.2 j j1 j2, o1 58 (by decide)]
        · rw [o3 k (fun z => hk (Or.inr (Or.inl z))), f2.1 k (fun z => hk (by unfold nmS at z; unfold nqS; omega)), o1 k (fun z => hk (Or.inr (Or.inr (Or.inl z))))]
      by_cases w0 : w = 0
      · rw [if_pos w0] at H1 ⊢
        rw [t2.2.2.1]; exact back _ H1
      · rw [if_neg w0] at H1 ⊢
        by_cases w1 : w = 1
        · rw [if_pos w1] at H1 ⊢
          rw [t2.2.2.2]; exact back _ H1
        · rw [if_neg w1] at H1 ⊢
          by_cases w2 : w = 2
          · rw [if_pos w2] at H1 ⊢
            exact c_m_moodless t2.1 hI2 (back _ H1)
          · rw [if_neg w2] at H1 ⊢
            have hbig : w < 0 ∨ 2 < w := by
              apply Classical.byContradiction
              intro hw
              obtain ⟨j, hj, rfl⟩ := nI_of2 (M := 2) (n := 2) rfl (fun z => hw (Or.inl z)) (Int32.not_lt.mp (fun z => hw (Or.inr z)))
              have : j = 0 ∨ j = 1 ∨ j = 2 := by omega
              rcases this with rfl | rfl | rfl
              · exact w0 rfl
              · exact w1 rfl
              · exact w2 rfl
            rcases okt with z | z | z
            · exact absurd hbig z
            · obtain ⟨p, hp, ep, htl⟩ := tdV_ex z
              have ew : w = nI (10 + p) := sub_nI (a := 10) ep
              have n30 : ¬ 30 ≤ w := by rw [ew, n_30, nI_leI (by omega) (by omega)]; omega
              rw [if_neg n30] at H1 ⊢
              rw [ep, nI_clamp (by omega)] at H1
              have ei : (32 : Int32) + w - 10 = nI (32 + p) := by
                rw [ew, n_32, n_10, nI_add, pk_sub (by omega)]; congr 1; omega
              rw [ei, nI_clamp (by omega), (t2.1.1 p hp).2.2.1]
              exact ⟨inb_nI (by omega) (by decide), back _ H1⟩
            · obtain ⟨p, hp, ep, htl⟩ := tdV_ex z
              have ew : w = nI (30 + p) := sub_nI (a := 30) ep
              have n30 : 30 ≤ w := by rw [ew, n_30, nI_leI (by omega) (by omega)]; omega
              rw [if_pos n30] at H1 ⊢
              rw [ep, nI_clamp (by omega)] at H1
              have ei : (16 : Int32) + w - 30 = nI (16 + p) := by
                rw [ew, n_16, n_30, nI_add, pk_sub (by omega)]; congr 1; omega
              rw [ei, nI_clamp (by omega), (t2.1.1 p hp).2.1]
              exact ⟨inb_nI (by omega) (by decide), c_m_bits (hI2.1 p hp).1 (back _ H1)⟩
    have hT : ∀ {x : Int32} {Q' : Int32 → pu_M → Prop}, (tdV P x = true → Q' 1 M) → (tdV P x = false → Q' 0 M) → pu_I L (d + 8) 164 [.ref 58, .int x] M Q' := by
      intro x Q' h1 h0
      rcases v16 x with ⟨p, hp, rfl⟩ | ho
      · refine c_m_isTold hM hp ?_
        rw [tdV_nI hp] at h1 h0
        cases htl : tl P p with
        | true => rw [if_pos rfl]; exact h1 htl
        | false => rw [if_neg (by decide)]; exact h0 htl
      · exact c_m_isToldN ho (h0 (tdV_out ho))
    refine c_m_in ?_
    by_cases hw : w < 0 ∨ 2 < w
    · rw [if_pos hw, if_pos rfl]
      refine hT (fun h1 => ?_) (fun h1 => ?_)
      · rw [if_neg (by decide)]; exact fin (Or.inr (Or.inl h1))
      · rw [if_pos rfl]
        refine hT (fun h2 => ?_) (fun h2 => ?_)
        · rw [if_neg (by decide)]; exact fin (Or.inr (Or.inr h2))
        · rw [if_pos rfl]
          refine H0 (fun z => ?_)
          rcases z.2 with z | z | z
          · exact z hw
          · rw [h1] at z; exact absurd z (by decide)
          · rw [h2] at z; exact absurd z (by decide)
    · rw [if_neg hw, if_neg (by decide)]; exact fin (Or.inl hw)
  · rw [if_pos h, if_pos rfl]; exact H0 (fun z2 => by obtain ⟨n, rfl, n1, n2⟩ := z2.1; exact okN_in n1 n2 h)
end MP
