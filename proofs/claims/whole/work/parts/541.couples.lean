/-! couples: the class's call and the model's -/
section CX
variable {L d : Nat} {M : pu_M} {P : Pp} {y s : Nat}
theorem c_x_sizeOf {Q : Int32 → pu_M → Prop} (hs : s < 65536) (H : Q (nI (pc s)) M) : pu_I L (d + 2) 154 [.int (nI s)] M Q := by
  refine r_x_sizeOf ?_
  rw [if_neg (nI_pos (by omega)), if_pos (by rw [n_65535, nI_leI (by omega) (by omega)]; omega)]
  exact c_Int_bitCount hs H
theorem c_x_sizeOfN {Q : Int32 → pu_M → Prop} {v : Int32} (hv : v < 0 ∨ 65535 < v) (H : Q (-1) M) : pu_I L (d + 2) 154 [.int v] M Q := by
  refine r_x_sizeOf ?_
  by_cases h : v < 0
  · rw [if_pos h]; exact H
  · rw [if_neg h, if_neg (lt_not_le (hv.resolve_left h))]; exact H
theorem c_Y_allTold {Q : Int32 → pu_M → Prop} (hy : pu_isY y) (hC : CY P M y) (hs : s < 65536) (H : if an s (bs (tl P) 16) = 0 then Q 1 M else Q 0 M) : pu_I L (d + 1) 101 [.ref y, .int (nI s)] M Q := by
  refine r_Yard_allTold hy ?_
  have h1 := bs_lt (tl P) 16
  have h2 : an s (bs (tl P) 16) < 2 ^ 16 := an_lt hs (by decide)
  rw [hC.2.2.1, nI_andn (by omega) (by omega)]
  by_cases h : an s (bs (tl P) 16) = 0
  · rw [if_pos h] at H; rw [h, if_pos (show nI 0 = 0 from rfl)]; exact H
  · rw [if_neg h] at H; rw [if_neg (by rw [n_0, nI_eq (by omega) (by omega)]; exact h)]; exact H
theorem v100 {w : Int32} (h : w = 100) : (w < 0 ∨ 15 < w) := by subst h; decide
theorem c_x_couples {Q : Int32 → pu_M → Prop} {v w : Int32} (h9 : M 0 9 = nI y) (hy : pu_isY y) (hC : CY P M y) (hI : PI P) (H0 : ¬ okCo v w → Q (-1000) M) (H1 : okCo v w → ¬ amCo P v w → Q (-3) M) (H2 : okCo v w → amCo P v w → ∀ M', only coS M M' → Q (v_couples P v.toNatClampNeg w) M') : pu_I L (d + 4) 137 [.ref 0, .int v, .int w] M Q := by
  refine r_x_couples ?_
  rcases vbig (N := 65535) (B := 65535) rfl v with ⟨s, hs, rfl⟩ | hv
  · have hs : s < 65536 := by omega
    refine c_x_sizeOf hs ?_
    have hpc := pc_le s
    have ecl : (nI s).toNatClampNeg = s := nI_clamp (by omega)
    unfold okCo at H0 H1 H2
    unfold amCo at H1 H2
    rw [ecl] at H0 H1 H2
    have hr : ¬ (nI s < 0 ∨ 65535 < nI s) := by
      intro z
      rcases z with z | z
      · exact nI_pos (by omega) z
      · rw [n_65535, nI_ltI (by omega) (by omega)] at z; omega
    by_cases c1 : pc s < 2
    · rw [if_pos (by rw [n_2, nI_ltI (by omega) (by omega)]; exact c1)]; exact H0 (fun z => by have := z.2.1; omega)
    rw [if_neg (by rw [n_2, nI_ltI (by omega) (by omega)]; exact c1)]
    by_cases c2 : 10 < pc s
    · rw [if_pos (by rw [n_10, nI_ltI (by omega) (by omega)]; exact c2)]; exact H0 (fun z => by have := z.2.1; omega)
    rw [if_neg (by rw [n_10, nI_ltI (by omega) (by omega)]; exact c2)]
    have hn : pc s ≤ 10 := by omega
    have fin : (¬ (w < 0 ∨ 15 < w) ∨ w = 100) → pu_R L (d + 4) 137 33 [.ref 0, .int (nI s), .int w, .int (nI (pc s))] [] M (pu_qI Q) := by
      intro hw
      have H1 := H1 ⟨hr, ⟨by omega, by omega⟩, hw⟩
      have H2 := H2 ⟨hr, ⟨by omega, by omega⟩, hw⟩
      refine r_x_couples_33 ⟨y, h9, hy, c_Y_allTold hy hC hs ?_⟩
      by_cases ct : an s (bs (tl P) 16) = 0
      · rw [if_pos ct, if_neg (by decide)]
        have fin2 : (w = 100 ∨ s.testBit w.toNatClampNeg = true) → pu_R L (d + 4) 137 64 [.ref 0, .int (nI s), .int w, .int (nI (pc s))] [] M (pu_qI Q) := by
          intro hb
          have H2 := H2 ⟨ct, hb⟩
          refine r_x_couples_64 ⟨y, h9, hy, c_Co_gather hy hC hI hs hn (fun M1 g1 o1 => c_Co_weigh g1 hn (fun M2 g2 w2 o2 => ?_))⟩
          have H2 := H2 M2 (o1.tr o2)
          unfold v_couples at H2
          by_cases h100 : w = 100
          · rw [if_pos h100] at H2 ⊢
            refine r_Company_mostInCouples (c_Co_all g2.1 hn ?_)
            have := pw10 hn
            have := Nat.two_pow_pos (pc s)
            rw [nI_clamp (by omega), w2 _ (by omega)]
            exact ⟨inb_nI (by omega) (by decide), H2⟩
          · rw [if_neg h100] at H2 ⊢
            rcases v16 w with ⟨p, hp, rfl⟩ | hw2
            · rw [nI_clamp (by omega)] at H2 hb
              obtain ⟨k, hk, rfl⟩ := mb_ex hp (hb.resolve_left h100)
              exact c_Co_coupledWith g2 hn w2 hk H2
            · exact absurd hw2 (hw.resolve_right h100)
        by_cases h100 : w = 100
        · rw [if_pos h100]; exact fin2 (Or.inl h100)
        · rw [if_neg h100]
          rcases v16 w with ⟨p, hp, rfl⟩ | hw2
          · rw [nI_clamp (by omega)] at fin2
            rw [nI_bit (by omega) (by omega)]
            cases hb : s.testBit p with
            | true => rw [if_neg (by decide)]; exact fin2 (Or.inr hb)
            | false =>
              rw [if_pos (by decide)]
              refine H1 (fun z => ?_)
              rw [nI_clamp (by omega), hb] at z
              exact z.2.elim h100 (by decide)
          · exact absurd hw2 (hw.resolve_right h100)
      · rw [if_neg ct, if_pos rfl]; exact H1 (fun z => ct z.1)
    rcases v16 w with ⟨p, hp, rfl⟩ | hw
    · refine c_x_isOne hp ?_
      rw [if_neg (by decide)]
      exact fin (Or.inl (in15 hp))
    · refine c_x_isOneN hw ?_
      rw [if_pos rfl]
      by_cases h100 : w = 100
      · rw [if_pos h100]; exact fin (Or.inr h100)
      · rw [if_neg h100]; exact H0 (fun z => z.2.2.elim (fun z => z hw) h100)
  · refine c_x_sizeOfN hv ?_
    rw [if_pos (by decide)]; exact H0 (fun z => z.1 hv)
/-! the model's -/
def mcoS (k : Nat) : Prop := k = 58 ∨ k = 85 ∨ k = 86
def GM (s : Nat) (M : pu_M) : Prop := M 58 45 = nI (pc s) ∧ (∀ i, i < pc s → M 85 i = nI (mb s i))
theorem GM_86 {i : Nat} {x : Int32} (hG : GM s M) : GM s (pu_wr M 86 i x) := by
  unfold GM
  rw [pu_wr_ne (by decide), pu_wr_ne (by decide)]; exact hG
theorem c_m_lays {Q : pu_M → Prop} (hM : PM P (M 59)) (hI : PI P) (hG : GM s M) (hn : pc s ≤ 10) (H : ∀ M', GM s M' → (∀ X, X < 2 ^ pc s → M' 86 X = nI (Wc (tN P s) (pc s) X)) → only (fun k => k = 86) M M' → Q M') : pu_V L (d + 4) 237 [.ref 58] M Q := by
  have hp := pw10 hn
  have hp0 := Nat.two_pow_pos (pc s)
  have key : ∀ (j X : Nat) (M' : pu_M) (v2 v3 : Value), X + j = 2 ^ pc s → GM s M' → (∀ Y, Y < X → M' 86 Y = nI (Wc (tN P s) (pc s) Y)) → only (fun k => k = 86) M M' → pu_R L (d + 4) 237 2 [.ref 58, .int (nI X), v2, v3] [] M' (pu_qV Q) := by
    intro j
    induction j with
    | zero =>
      intro X M' v2 v3 hX g a1 o
      refine r_m_laysCouples_2 ?_
      rw [g.1, nI_pow (by omega), if_pos (by rw [nI_leI (by omega) (by omega)]; omega)]
      exact H M' g (fun Y hY => a1 Y (by omega)) o
    | succ j ih =>
      intro X M' v2 v3 hX g a1 o
      have hX31 : X < 2 ^ 31 := by omega
      refine r_m_laysCouples_2 ?_
      rw [g.1, nI_pow (by omega), if_neg (by rw [nI_leI (by omega) (by omega)]; omega), nI_clamp (by omega)]
      refine ⟨inb_nI (by omega) (by decide), ?_⟩
      have htop := W_top (n := pc s) (tN_le P s) (show X < 1024 by omega)
      have hWX := W_eq (t := tN P s) (n := pc s) hX31
      have rowb : ∀ a, a ≤ pc s → fo (crow (tN P s) (Wc (tN P s) (pc s)) X) a 0 ≤ Wc (tN P s) (pc s) X := by
        intro a ha
        rcases (W_two (t := tN P s) (n := pc s) (X := X) a).2 with h | ⟨a', b', h1, h2, h3, h4⟩
        · rw [h]; exact Nat.zero_le _
        · rw [h4]
          obtain ⟨c1, c2, c3⟩ := cc_iff.mp h3
          exact W_p1 (tN_comm P s) hX31 (by omega) (by omega) (by omega) c1 c2 c3
      have rows : ∀ (j2 a : Nat) (M' : pu_M) (v3 : Value), a + j2 = pc s → GM s M' → (∀ Y, Y < X → M' 86 Y = nI (Wc (tN P s) (pc s) Y)) → M' 86 X = nI (fo (crow (tN P s) (Wc (tN P s) (pc s)) X) a 0) → only (fun k => k = 86) M M' → pu_R L (d + 4) 237 21 [.ref 58, .int (nI X), .int (nI a), v3] [] M' (pu_qV Q) := by
        intro j2
        induction j2 with
        | zero =>
          intro a M' v3 ha g a1 aX o
          refine r_m_laysCouples_21 ?_
          obtain rfl : a = pc s := by omega
          rw [g.1, if_pos (by rw [nI_leI (by omega) (by omega)]; omega), nI_1]
          refine ih (X + 1) M' _ _ (by omega) g (fun Y hY => ?_) o
          by_cases e : Y = X
          · subst e; rw [aX, hWX]; rfl
          · exact a1 Y (by omega)
        | succ j2 ih2 =>
          intro a M' v3 ha g a1 aX o
          refine r_m_laysCouples_21 ?_
          rw [g.1, if_neg (by rw [nI_leI (by omega) (by omega)]; omega)]
          have inn : ∀ (j3 b : Nat) (M' : pu_M), b + j3 = a → GM s M' → (∀ Y, Y < X → M' 86 Y = nI (Wc (tN P s) (pc s) Y)) → M' 86 X = nI (fo (cst (tN P s) (Wc (tN P s) (pc s)) X a) b (fo (crow (tN P s) (Wc (tN P s) (pc s)) X) a 0)) → only (fun k => k = 86) M M' → pu_R L (d + 4) 237 31 [.ref 58, .int (nI X), .int (nI a), .int (nI b)] [] M' (pu_qV Q) := by
            intro j3
            induction j3 with
            | zero =>
              intro b M' hb g a1 aX o
              obtain rfl : b = a := by omega
              refine r_m_laysCouples_31 ?_
              rw [if_pos (by rw [nI_leI (by omega) (by omega)]; omega), nI_1]
              exact ih2 (b + 1) M' _ (by omega) g a1 aX o
            | succ j3 ih3 =>
              intro b M' hb g a1 aX o
              refine r_m_laysCouples_31 ?_
              have hM' : PM P (M' 59) := by rw [o 59 (by decide)]; exact hM
              rw [if_neg (by rw [nI_leI (by omega) (by omega)]; omega)]
              have e1 : fo (cst (tN P s) (Wc (tN P s) (pc s)) X a) (b + 1) (fo (crow (tN P s) (Wc (tN P s) (pc s)) X) a 0) = cst (tN P s) (Wc (tN P s) (pc s)) X a b (fo (cst (tN P s) (Wc (tN P s) (pc s)) X a) b (fo (crow (tN P s) (Wc (tN P s) (pc s)) X) a 0)) := rfl
              have hb1 : fo (cst (tN P s) (Wc (tN P s) (pc s)) X a) b (fo (crow (tN P s) (Wc (tN P s) (pc s)) X) a 0) ≤ Wc (tN P s) (pc s) X := by
                rcases (fmx_sp (c := cc (tN P s) X a) (v := fun b => tN P s a b + Wc (tN P s) (pc s) (cl (cl X a) b)) b (fo (crow (tN P s) (Wc (tN P s) (pc s)) X) a 0)).2.2 with h | ⟨b', h1, h2, h3⟩
                · unfold cst; rw [h]; exact rowb a (by omega)
                · unfold cst; rw [h3]
                  obtain ⟨c1, c2, c3⟩ := cc_iff.mp h2
                  exact W_p1 (tN_comm P s) hX31 (by omega) (by omega) (by omega) c1 c2 c3
              have ih3 := ih3 (b + 1)
              rw [e1] at ih3
              generalize fo (cst (tN P s) (Wc (tN P s) (pc s)) X a) b (fo (crow (tN P s) (Wc (tN P s) (pc s)) X) a 0) = acc at ih3 aX hb1
              unfold cst fmx at ih3
              have skip : ¬ cc (tN P s) X a b = true → pu_R L (d + 4) 237 31 [.ref 58, .int (nI X), .int (nI a), .int (nI b + 1)] [] M' (pu_qV Q) := by
                intro hc
                rw [if_neg hc] at ih3
                rw [nI_1]
                exact ih3 M' (by omega) g a1 aX o
              refine c_m_has (by omega) (by omega) ?_
              cases ha1 : X.testBit a with
              | false => rw [if_neg (by decide), if_pos rfl]; exact skip (fun z => by rw [(cc_iff.mp z).1] at ha1; exact absurd ha1 (by decide))
              | true =>
                rw [if_pos rfl, if_neg (by decide)]
                refine c_m_has (by omega) (by omega) ?_
                cases hb2 : X.testBit b with
                | false => rw [if_neg (by decide), if_pos rfl]; exact skip (fun z => by rw [(cc_iff.mp z).2.1] at hb2; exact absurd hb2 (by decide))
                | true =>
                  rw [if_pos rfl, if_neg (by decide), nI_clamp (show a < 2 ^ 31 by omega), nI_clamp (show b < 2 ^ 31 by omega), nI_clamp (show X < 2 ^ 31 by omega), g.2 a (by omega), g.2 b (by omega)]
                  refine ⟨inb_nI (by omega) (by decide), inb_nI (by omega) (by decide), ?_⟩
                  have m1 := (mb_lt (s := s) (show a < pc s by omega)).1
                  have m2 := (mb_lt (s := s) (show b < pc s by omega)).1
                  refine c_m_talkOf hM' hI m1 m2 ?_
                  by_cases hpos : 0 < tN P s a b
                  · rw [if_pos ((tN_pos P s a b).mpr hpos)]
                    refine ⟨inb_nI (by omega) (by decide), inb_nI (by omega) (by decide), inb_nI (by omega) (by decide), ?_⟩
                    rw [g.2 a (by omega), g.2 b (by omega)]
                    refine c_m_talkOf hM' hI m1 m2 ?_
                    have hcc : cc (tN P s) X a b = true := cc_iff.mpr ⟨ha1, hb2, hpos⟩
                    have hc2 := cl2_less (b := b) hX31 ha1
                    have hc1 : cl X a < 2 ^ 31 := cl_lt hX31 (Nat.le_refl _)
                    have hc1b : cl X a ≤ X := cl_le hX31
                    have hw := W_top (n := pc s) (tN_le P s) (show cl (cl X a) b < 1024 by omega)
                    have ht := tN_le P s a b
                    rw [if_pos hcc] at ih3
                    rw [nI_cl (by omega) (by omega), nI_cl (by omega) (by omega), nI_clamp (show cl (cl X a) b < 2 ^ 31 by omega), a1 _ hc2, aX, tN_val hpos, nI_add]
                    refine ⟨inb_nI (by omega) (by decide), r_m_max ?_⟩
                    have go : ∀ z, (if acc < tN P s a b + Wc (tN P s) (pc s) (cl (cl X a) b) then tN P s a b + Wc (tN P s) (pc s) (cl (cl X a) b) else acc) = z → pu_R L (d + 4) 237 31 [.ref 58, .int (nI X), .int (nI a), .int (nI b + 1)] [] (pu_wr M' 86 X (nI z)) (pu_qV Q) := by
                      intro z hz
                      rw [nI_1]
                      refine ih3 _ (by omega) (GM_86 g) (fun Y hY => ?_) ?_ (o.wr rfl)
                      · rw [pu_wr_self, upd_n (by omega)]; exact a1 Y hY
                      · rw [pu_wr_self, upd_s, ← hz]
                    by_cases hle : acc ≤ tN P s a b + Wc (tN P s) (pc s) (cl (cl X a) b)
                    · rw [if_pos ((nI_leI (by omega) (by omega)).mpr hle)]
                      refine ⟨inb_nI (by omega) (by decide), go _ ?_⟩
                      by_cases hlt : acc < tN P s a b + Wc (tN P s) (pc s) (cl (cl X a) b)
                      · rw [if_pos hlt]
                      · rw [if_neg hlt]; omega
                    · rw [if_neg (fun z => hle ((nI_leI (by omega) (by omega)).mp z))]
                      refine ⟨inb_nI (by omega) (by decide), go _ ?_⟩
                      rw [if_neg (by omega)]
                  · rw [if_neg (fun z => hpos ((tN_pos P s a b).mp z))]
                    exact skip (fun z => hpos (cc_iff.mp z).2.2)
          exact inn a 0 M' (by omega) g a1 aX o
      refine rows (pc s) 0 _ _ (by omega) (GM_86 g) (fun Y hY => ?_) ?_ (o.wr rfl)
      · rw [pu_wr_self, upd_n (by omega)]; exact a1 Y hY
      · rw [pu_wr_self, upd_s]; rfl
  exact r_m_laysCouples (key (2 ^ pc s) 0 M _ _ (by omega) hG (fun Y hY => absurd hY (by omega)) (only.rf _ _))
theorem cl_or {X a : Nat} (hX : X < 65536) (ha : a < 16) (h : X.testBit a = true) : nI (cl X a) ||| ((1 : Int32) <<< (nI a &&& 31)) = nI X := by
  have h2 := p2_lt ha
  have h1 : cl X a ≤ X := cl_le (by omega)
  rw [nI_pow (by omega), nI_or (by omega) (by omega)]
  congr 1
  apply Nat.eq_of_testBit_eq
  intro i
  rw [Nat.testBit_or, cl_bit (by omega), Nat.testBit_two_pow]
  by_cases e : a = i
  · subst e; simp [h]
  · simp [e]
theorem c_m_isWith {Q : Int32 → pu_M → Prop} {w : Nat} (hM : PM P (M 59)) (hI : PI P) (hG : GM s M) (hn : pc s ≤ 10) (hw : w < 16) (hW : ∀ X, X < 2 ^ pc s → M 86 X = nI (Wc (tN P s) (pc s) X)) (H : Q (pI ((cow (tN P s) (pc s) (fun i => mb s i == w) (pc s) 0 (2 ^ pc s - 1)).map (mb s))) M) : pu_I L (d + 4) 238 [.ref 58, .int (nI w)] M Q := by
  have hp := pw10 hn
  have hp0 := Nat.two_pow_pos (pc s)
  have hmw : ∀ i, i < pc s → ((nI (mb s i) = nI w) ↔ (mb s i == w) = true) := fun i hi => by
    have := (mb_lt (s := s) hi).1
    rw [nI_eq (by omega) (by omega), beq_iff_eq]
  have key : ∀ j a X (v4 v5 : Value), a + j = pc s → X < 2 ^ pc s → Q (pI ((cow (tN P s) (pc s) (fun i => mb s i == w) j a X).map (mb s))) M → pu_R L (d + 4) 238 11 [.ref 58, .int (nI w), .int (nI X), .int (nI a), v4, v5] [] M (pu_qI Q) := by
    intro j
    induction j with
    | zero =>
      intro a X v4 v5 ha hX h
      refine r_m_isWith_11 ?_
      rw [hG.1, if_pos (by rw [nI_leI (by omega) (by omega)]; omega)]; exact h
    | succ j ih =>
      intro a X v4 v5 ha hX h
      have hX31 : X < 2 ^ 31 := by omega
      refine r_m_isWith_11 ?_
      rw [hG.1, if_neg (by rw [nI_leI (by omega) (by omega)]; omega)]
      refine c_m_has (by omega) (by omega) ?_
      cases hb : X.testBit a with
      | false =>
        have h : Q (pI (Option.map (mb s) (if X.testBit a = true then _ else cow (tN P s) (pc s) (fun i => mb s i == w) j (a + 1) X))) M := h
        rw [if_neg (by rw [hb]; decide)] at h
        rw [if_neg (by decide), if_pos rfl, nI_1]
        exact ih (a + 1) X _ _ (by omega) hX h
      | true =>
        have h : Q (pI (Option.map (mb s) (if X.testBit a = true then (if (mb s a == w) = true then coo (tN P s) (pc s) X a else match coo (tN P s) (pc s) X a with
          | none => cow (tN P s) (pc s) (fun i => mb s i == w) j (a + 1) (cl X a)
          | some b => if (mb s b == w) = true then some a else cow (tN P s) (pc s) (fun i => mb s i == w) j (a + 1) (cl (cl X a) b)) else _))) M := h
        rw [if_pos hb] at h
        rw [if_pos rfl, if_neg (by decide), nI_cl (by omega) (by omega)]
        have hcl := cl_less hX31 (show a < 31 by omega) hb
        have hcl31 : cl X a < 2 ^ 31 := by omega
        -- the end of the search
        have fin : ∀ (o : Option Nat) (v5 : Int32), coo (tN P s) (pc s) X a = o → pu_R L (d + 4) 238 156 [.ref 58, .int (nI w), .int (nI (match o with | none => cl X a | some b => cl (cl X a) b)), .int (nI a), .int (pJ o), .int v5] [] M (pu_qI Q) := by
          intro o v5 ho
          refine r_m_isWith_156 ?_
          rw [nI_clamp (show a < 2 ^ 31 by omega), hG.2 a (by omega)]
          refine ⟨inb_nI (by omega) (by decide), ?_⟩
          rw [ho] at h
          by_cases e : (mb s a == w) = true
          · rw [if_pos e] at h
            rw [if_pos ((hmw a (by omega)).mpr e)]
            cases o with
            | none => rw [if_pos pJ_n]; exact h
            | some b =>
              obtain ⟨b1, b2, b3⟩ := coo_lt hX31 ho
              rw [if_neg (show ¬ pJ (some b) = -1 from fun z => (nI_m1 (show b < 2 ^ 31 by omega)).mp z)]
              refine ⟨inb_nI (by omega) (by decide), ?_⟩
              show Q (M 85 (nI b).toNatClampNeg) M
              rw [nI_clamp (by omega), hG.2 b b2]; exact h
          · rw [if_neg e] at h
            rw [if_neg (fun z => e ((hmw a (by omega)).mp z)), nI_1]
            cases o with
            | none => rw [if_pos pJ_n]; exact ih (a + 1) (cl X a) _ _ (by omega) (by omega) h
            | some b =>
              obtain ⟨b1, b2, b3⟩ := coo_lt hX31 ho
              have hcl2 := cl2_less (b := b) hX31 hb
              rw [if_neg (show ¬ pJ (some b) = -1 from fun z => (nI_m1 (show b < 2 ^ 31 by omega)).mp z)]
              refine ⟨inb_nI (by omega) (by decide), ?_⟩
              show if M 85 (nI b).toNatClampNeg = nI w then _ else _
              rw [nI_clamp (by omega), hG.2 b b2]
              dsimp only at h
              by_cases eb : (mb s b == w) = true
              · rw [if_pos eb] at h
                rw [if_pos ((hmw b b2).mpr eb)]
                exact ⟨inb_nI (by omega) (by decide), h⟩
              · rw [if_neg eb] at h
                rw [if_neg (fun z => eb ((hmw b b2).mp z))]
                exact ih (a + 1) (cl (cl X a) b) _ _ (by omega) (by omega) h
        have srch : ∀ j2 b, b + 1 = a + 1 + j2 → b < pc s → pu_R L (d + 4) 238 49 [.ref 58, .int (nI w), .int (nI (cl X a)), .int (nI a), .int (pJ (fnd (cot (tN P s) (pc s) X a) (pc s - b - 1) (b + 1))), .int (nI b)] [] M (pu_qI Q) := by
          intro j2
          induction j2 with
          | zero =>
            intro b hb2 hbn
            obtain rfl : b = a := by omega
            refine r_m_isWith_49 ?_
            rw [if_pos (by rw [nI_leI (by omega) (by omega)]; omega)]
            cases ho : fnd (cot (tN P s) (pc s) X b) (pc s - b - 1) (b + 1) with
            | none => rw [if_pos pJ_n]; exact fin none _ ho
            | some c =>
              obtain ⟨b1, b2, b3⟩ := coo_lt hX31 ho
              rw [if_neg (show ¬ pJ (some c) = -1 from fun z => (nI_m1 (show c < 2 ^ 31 by omega)).mp z)]
              show pu_R L (d + 4) 238 156 [.ref 58, .int (nI w), .int (nI (cl X b) &&& (((1 : Int32) <<< (nI c &&& 31)) ^^^ (-1))), .int (nI b), .int (pJ (some c)), .int (nI b)] [] M (pu_qI Q)
              rw [nI_cl (by omega) (by omega)]
              exact fin (some c) _ ho
          | succ j2 ih2 =>
            intro b hb2 hbn
            refine r_m_isWith_49 ?_
            rw [if_neg (by rw [nI_leI (by omega) (by omega)]; omega)]
            have em : nI b + (-1) = nI (b - 1) := by
              have := pk_sub (show 1 ≤ b by omega)
              rw [← this, Int32.sub_eq_add_neg]; rfl
            have ih2 := ih2 (b - 1) (by omega) (by omega)
            rw [show b - 1 + 1 = b by omega, show pc s - (b - 1) - 1 = (pc s - b - 1) + 1 by omega] at ih2
            rw [em]
            refine c_m_has (by omega) (by omega) ?_
            have skip : ¬ cot (tN P s) (pc s) X a b = true → pu_R L (d + 4) 238 49 [.ref 58, .int (nI w), .int (nI (cl X a)), .int (nI a), .int (pJ (fnd (cot (tN P s) (pc s) X a) (pc s - b - 1) (b + 1))), .int (nI (b - 1))] [] M (pu_qI Q) := by
              intro hc
              rw [Bool.not_eq_true] at hc
              rw [fnd_f hc] at ih2; exact ih2
            cases hb3 : (cl X a).testBit b with
            | false =>
              rw [if_neg (by decide), if_pos rfl]
              exact skip (by unfold cot; rw [hb3]; simp)
            | true =>
              rw [if_pos rfl, if_neg (by decide), nI_clamp (show a < 2 ^ 31 by omega), nI_clamp (show b < 2 ^ 31 by omega), hG.2 a (by omega), hG.2 b (by omega)]
              refine ⟨inb_nI (by omega) (by decide), inb_nI (by omega) (by decide), ?_⟩
              have m1 := (mb_lt (s := s) (show a < pc s by omega)).1
              have m2 := (mb_lt (s := s) (show b < pc s by omega)).1
              refine c_m_talkOf hM hI m1 m2 ?_
              by_cases hpos : 0 < tN P s a b
              · rw [if_pos ((tN_pos P s a b).mpr hpos)]
                refine ⟨inb_nI (by omega) (by decide), inb_nI (by omega) (by decide), ?_⟩
                rw [hG.2 a (by omega), hG.2 b (by omega)]
                refine c_m_talkOf hM hI m1 m2 ?_
                have hc2 := cl2_less (b := b) hX31 hb
                have hw := W_top (n := pc s) (tN_le P s) (show cl (cl X a) b < 1024 by omega)
                have hw2 := W_top (n := pc s) (tN_le P s) (show X < 1024 by omega)
                have ht := tN_le P s a b
                rw [nI_cl (by omega) (by omega), cl_or (by omega) (by omega) hb, nI_clamp (by omega), nI_clamp (by omega), hW _ (by omega), hW X hX, tN_val hpos, nI_add]
                refine ⟨inb_nI (by omega) (by decide), inb_nI (by omega) (by decide), ?_⟩
                by_cases e : tN P s a b + Wc (tN P s) (pc s) (cl (cl X a) b) = Wc (tN P s) (pc s) X
                · rw [if_pos (by rw [e])]
                  rw [fnd_t (by unfold cot; rw [hb3]; simp [hpos, e])] at ih2; exact ih2
                · rw [if_neg (by rw [nI_eq (by omega) (by omega)]; exact e)]
                  exact skip (by unfold cot; rw [hb3]; simp [e])
              · rw [if_neg (fun z => hpos ((tN_pos P s a b).mp z))]
                exact skip (by unfold cot; rw [hb3]; simp [hpos])
        have := srch (pc s - 1 - a) (pc s - 1) (by omega) (by omega)
        rw [show pc s - (pc s - 1) - 1 = 0 by omega] at this
        rw [hG.1, show nI (pc s) - 1 = nI (pc s - 1) from pk_sub (a := pc s) (b := 1) (by omega)]
        exact this
  refine r_m_isWith ?_
  rw [hG.1, nI_all hn]
  exact key (pc s) 0 _ _ _ (by omega) (by omega) H
end CX
