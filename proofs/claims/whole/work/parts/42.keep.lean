/-! seed, keep, undo -/
section KC
variable {L d : Nat} {M : pu_M} {P : Pp} {y : Nat}
theorem cpy16 {f g : Nat → Int32} {j : Nat} (h : j < 16) : va_cpy f g (0 : Int32).toNatClampNeg (0 : Int32).toNatClampNeg (16 : Int32).toNatClampNeg j = f j := by
  have e0 : (0 : Int32).toNatClampNeg = 0 := rfl
  have e1 : (16 : Int32).toNatClampNeg = 16 := rfl
  rw [e0, e1, pk_cpy_in (by omega) (by omega)]; congr 1; omega
theorem cpy60 {f g : Nat → Int32} {j : Nat} (h : j < 60) : va_cpy f g (0 : Int32).toNatClampNeg (0 : Int32).toNatClampNeg (60 : Int32).toNatClampNeg j = f j := by
  have e0 : (0 : Int32).toNatClampNeg = 0 := rfl
  have e1 : (60 : Int32).toNatClampNeg = 60 := rfl
  rw [e0, e1, pk_cpy_in (by omega) (by omega)]; congr 1; omega
theorem c_Y_copyFrom {Q : pu_M → Prop} {a b : Nat} (ha : pu_isY a) (hb : pu_isY b) (hab : a ≠ b) (hC : CY P M b) (H : ∀ M', CY P M' a → only (yS a) M M' → Q M') : pu_V L (d + 1) 99 [.ref a, .ref b] M Q := by
  have hd : a + 5 ≤ b ∨ b + 5 ≤ a := by unfold pu_isY at ha hb; omega
  refine r_Yard_copyFrom ha hb (fun M1 h1 M3 h3 M5 h5 => ?_)
  have o1 : only (yS a) M M1 := by rw [h1]; exact ((only.rf _ M).wrA ⟨by omega, by omega⟩).wrA ⟨by omega, by omega⟩
  have o3 : only (yS a) M1 M3 := by rw [h3]; exact ((only.rf _ M1).wrA ⟨by omega, by omega⟩).wrA ⟨by omega, by omega⟩
  have o5 : only (yS a) M3 M5 := by rw [h5]; exact (((only.rf _ M3).wr ⟨by omega, by omega⟩).wr ⟨by omega, by omega⟩).wr ⟨by omega, by omega⟩
  have nb : ∀ k, b ≤ k → k ≤ b + 4 → ¬ yS a k := fun k k1 k2 z => by have z1 := z.1; have z2 := z.2; omega
  have eb1 : ∀ k, b ≤ k → k ≤ b + 4 → M1 k = M k := fun k k1 k2 => o1 k (nb k k1 k2)
  have eb3 : ∀ k, b ≤ k → k ≤ b + 4 → M3 k = M k := fun k k1 k2 => (o3 k (nb k k1 k2)).trans (eb1 k k1 k2)
  obtain ⟨c1, c2, c3, c4, c5⟩ := hC
  refine H M5 ⟨fun p hp => ⟨?_, ?_, ?_⟩, fun w hw => ?_, ?_, ?_, ?_⟩ ((o1.tr o3).tr o5)
  · rw [h5, pu_wr_ne (by omega), pu_wr_ne (by omega), pu_wr_ne (by omega), h3, pu_wrA_ne (by omega), pu_wrA_ne (by omega), h1, pu_wrA_ne (by omega), pu_wrA_self, cpy16 hp]
    exact (c1 p hp).1
  · rw [h5, pu_wr_ne (by omega), pu_wr_ne (by omega), pu_wr_ne (by omega), h3, pu_wrA_ne (by omega), pu_wrA_ne (by omega), h1, pu_wrA_self, cpy16 hp, pu_wrA_ne (by omega)]
    exact (c1 p hp).2.1
  · rw [h5, pu_wr_ne (by omega), pu_wr_ne (by omega), pu_wr_ne (by omega), h3, pu_wrA_ne (by omega), pu_wrA_self, cpy16 hp, eb1 _ (by omega) (by omega)]
    exact (c1 p hp).2.2
  · rw [h5, pu_wr_ne (by omega), pu_wr_ne (by omega), pu_wr_ne (by omega), h3, pu_wrA_self, cpy60 hw, pu_wrA_ne (by omega), eb1 _ (by omega) (by omega)]
    exact c2 w hw
  · rw [h5, pu_wr_self, upd_n (by decide), pu_wr_self, upd_n (by decide), pu_wr_self, upd_s, eb3 b (by omega) (by omega)]; exact c3
  · rw [h5, pu_wr_self, upd_n (by decide), pu_wr_self, upd_s, pu_wr_ne (Ne.symm hab), eb3 b (by omega) (by omega)]; exact c4
  · rw [h5, pu_wr_self, upd_s, pu_wr_ne (Ne.symm hab), pu_wr_ne (Ne.symm hab), eb3 b (by omega) (by omega)]; exact c5
theorem c_m_copies {Q : pu_M → Prop} {a b : Nat} (ha : pu_sh L a = .inl (false, 66)) (ka : a < 90) (hb : pu_sh L b = .inl (false, 66)) (kb : b < 90) (hab : a ≠ b) (H : ∀ M', (∀ i, i < 66 → M' b i = M a i) → only (fun k => k = b) M M' → Q M') : pu_V L (d + 1) 163 [.ref a, .ref b] M Q := by
  have key := dn (R := fun k => ∀ M', (∀ i, i < k → M' b i = M a i) → only (fun k => k = b) M M' → pu_R L (d + 1) 163 2 [.ref a, .ref b, .int (nI k)] [] M' (pu_qV Q)) 66 (fun M' h o => r_m_copies_2 ha ka hb kb (by rw [if_pos (by decide)]; exact H M' h o)) (fun k hk ih M' h o => by
    refine r_m_copies_2 ha ka hb kb ?_
    rw [if_neg (by rw [n_66, nI_leI (by omega) (by omega)]; omega)]
    simp (disch := omega) only [nI_clamp, inb_nI, true_and, nI_1]
    refine ih _ (fun i hi => ?_) (o.wr rfl)
    rw [pu_wr_self]
    by_cases x : i = k
    · subst x; rw [upd_s, o a hab]
    · rw [upd_n x]; exact h i (by omega))
  exact r_m_copies ha ka hb kb (key M (fun i hi => by omega) (only.rf _ M))
theorem PM_copy {f g : Nat → Int32} (h : PM P f) (e : ∀ i, i < 66 → g i = f i) : PM P g := by
  obtain ⟨h1, h2, h3⟩ := h
  refine ⟨fun p hp => ?_, by rw [e 64 (by decide)]; exact h2, by rw [e 65 (by decide)]; exact h3⟩
  rw [e p (by omega), e (16 + p) (by omega), e (32 + p) (by omega), e (48 + p) (by omega)]
  exact h1 p hp
theorem c_x_keep {Q : Int32 → pu_M → Prop} (h9 : M 0 9 = nI y) (hy : pu_isY y) (hy16 : y ≠ 16) (hC : CY P M y) (H : ∀ M', CY P M' 16 → M' 0 8 = 1 → (∀ j, j ≠ 8 → M' 0 j = M 0 j) → only (fun k => yS 16 k ∨ k = 0) M M' → Q (nI (nt P)) M') : pu_I L (d + 2) 148 [.ref 0] M Q := by
  refine r_x_keep ⟨y, h9, hy, c_Y_copyFrom (Or.inl rfl) hy (Ne.symm hy16) hC (fun M3 hC3 o => ?_)⟩
  have n0 : ¬ yS 16 0 := fun z => by have := z.1; omega
  have e0 := o 0 n0
  have y16 : 21 ≤ y := by unfold pu_isY at hy; omega
  have ey : M3 y = M y := o y (fun z => by have := z.2; omega)
  refine ⟨y, ?_, hy, ?_⟩
  · rw [pu_wr_self, upd_n (by decide), e0, h9]
  · rw [pu_wr_ne (by omega), ey, hC.2.2.2.1]
    refine H _ ?_ (by rw [pu_wr_self, upd_s]) (fun j hj => by rw [pu_wr_self, upd_n hj, e0]) (fun k hk => ?_)
    · unfold CY
      rw [pu_wr_ne (by decide), pu_wr_ne (by decide), pu_wr_ne (by decide), pu_wr_ne (by decide), pu_wr_ne (by decide)]
      exact hC3
    · rw [pu_wr_ne (fun z => hk (Or.inr z))]; exact o k (fun z => hk (Or.inl z))
theorem c_m_keep {Q : Int32 → pu_M → Prop} (hM : PM P (M 59)) (H : ∀ M', PM P (M' 61) → M' 58 49 = 1 → (∀ j, j ≠ 49 → M' 58 j = M 58 j) → only (fun k => k = 58 ∨ k = 61) M M' → Q (nI (nt P)) M') : pu_I L (d + 2) 256 [.ref 58] M Q := by
  refine r_m_keep (c_m_copies rfl (by decide) rfl (by decide) (by decide) (fun M' h o => ?_))
  have e58 : M' 58 = pu_wr M 58 49 1 58 := o 58 (by decide)
  have e59 : M' 59 = M 59 := by rw [o 59 (by decide), pu_wr_ne (by decide)]
  have h64 : (64 : Int32).toNatClampNeg = 64 := rfl
  rw [e59, h64, hM.2.1]
  refine H M' (PM_copy hM (fun i hi => by rw [h i hi, pu_wr_ne (by decide)])) (by rw [e58, pu_wr_self, upd_s]) (fun j hj => by rw [e58, pu_wr_self, upd_n hj]) (fun k hk => ?_)
  rw [o k (fun z => hk (Or.inr z)), pu_wr_ne (fun z => hk (Or.inl z))]
theorem c_x_undo {Q : Int32 → pu_M → Prop} {K : Pp} (h9 : M 0 9 = nI y) (hy : pu_isY y) (hy16 : y ≠ 16) (H0 : M 0 8 = 0 → Q 0 M) (H1 : ¬ M 0 8 = 0 → CY K M 16 ∧ ∀ M', CY K M' y → only (yS y) M M' → Q 1 M') : pu_I L (d + 2) 149 [.ref 0] M Q := by
  refine r_x_undo ?_
  by_cases h : M 0 8 = 0
  · rw [if_pos h]; exact H0 h
  · rw [if_neg h]
    obtain ⟨hK, H1⟩ := H1 h
    exact ⟨y, h9, hy, c_Y_copyFrom hy (Or.inl rfl) hy16 hK H1⟩
theorem c_m_undo {Q : Int32 → pu_M → Prop} {K : Pp} (H0 : M 58 49 = 0 → Q 0 M) (H1 : ¬ M 58 49 = 0 → PM K (M 61) ∧ ∀ M', PM K (M' 59) → only (fun k => k = 59) M M' → Q 1 M') : pu_I L (d + 2) 257 [.ref 58] M Q := by
  refine r_m_undo ?_
  by_cases h : M 58 49 = 0
  · rw [if_pos h]; exact H0 h
  · rw [if_neg h]
    obtain ⟨hK, H1⟩ := H1 h
    exact c_m_copies rfl (by decide) rfl (by decide) (by decide) (fun M' h o => H1 M' (PM_copy hK h) o)
def okS (v : Int32) : Prop := ¬ (v < 0 ∨ 65535 < v)
theorem c_x_seed {Q : Int32 → pu_M → Prop} {v : Int32} (h9 : M 0 9 = nI y) (hy : pu_isY y) (hC : CY P M y) (H0 : ¬ okS v → Q 0 M) (H1 : okS v → ∀ M', CY (setlo P v.toNatClampNeg) M' y → only (yS y) M M' → Q 1 M') : pu_I L (d + 1) 147 [.ref 0, .int v] M Q := by
  refine r_x_seed ?_
  by_cases b0 : v < 0
  · rw [if_pos b0]; exact H0 (fun z => z (Or.inl b0))
  rw [if_neg b0]
  by_cases b1 : 65535 < v
  · rw [if_neg (lt_not_le b1)]; exact H0 (fun z => z (Or.inr b1))
  rw [if_pos (Int32.not_lt.mp b1)]
  have hok : okS v := fun z => z.elim b0 b1
  obtain ⟨t, ht, rfl⟩ := (vbig (N := 65535) (B := 65535) rfl v).resolve_right hok
  obtain ⟨c1, c2, c3, c4, c5⟩ := hC
  refine ⟨y, h9, hy, H1 hok _ ⟨fun p hp => ?_, fun w hw => ?_, ?_, ?_, ?_⟩ ((only.rf _ M).wr ⟨by omega, by omega⟩)⟩
  · rw [pu_wr_ne (by omega), pu_wr_ne (by omega), pu_wr_ne (by omega)]; exact c1 p hp
  · rw [pu_wr_ne (by omega)]; exact c2 w hw
  · rw [pu_wr_self, upd_n (by decide)]; exact c3
  · rw [pu_wr_self, upd_n (by decide)]; exact c4
  · rw [pu_wr_self, upd_s, nI_clamp (by omega)]; rfl
theorem c_m_seed {Q : Int32 → pu_M → Prop} {v : Int32} (hM : PM P (M 59)) (H0 : ¬ okS v → Q 0 M) (H1 : okS v → ∀ M', PM (setlo P v.toNatClampNeg) (M' 59) → only (fun k => k = 59) M M' → Q 1 M') : pu_I L (d + 2) 255 [.ref 58, .int v] M Q := by
  refine r_m_seed (c_m_in ?_)
  by_cases hv : v < 0 ∨ 65535 < v
  · rw [if_pos hv, if_pos rfl]; exact H0 (fun z => z hv)
  rw [if_neg hv, if_neg (by decide)]
  obtain ⟨t, ht, rfl⟩ := (vbig (N := 65535) (B := 65535) rfl v).resolve_right hv
  have h65 : (65 : Int32).toNatClampNeg = 65 := rfl
  obtain ⟨c1, c2, c3⟩ := hM
  refine H1 hv _ ⟨fun p hp => ?_, ?_, ?_⟩ ((only.rf (fun k => k = 59) M).wr rfl)
  · rw [pu_wr_self, h65, upd_n (by omega), upd_n (by omega), upd_n (by omega), upd_n (by omega)]; exact c1 p hp
  · rw [pu_wr_self, h65, upd_n (by omega)]; exact c2
  · rw [pu_wr_self, h65, upd_s, nI_clamp (by omega)]; rfl
theorem PI_setlo {x : Nat} (hI : PI P) (hx : x < 65536) : PI (setlo P x) := ⟨hI.1, hI.2.1, hI.2.2.1, hx⟩
end KC
