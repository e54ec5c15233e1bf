/-! wishes -/
def okE (a b n : Nat) (v : Int32) : Prop := ∃ e, v = nI e ∧ a ≤ e ∧ e ≤ b ∧ e ≤ n
section OP
variable {L d : Nat} {M : pu_M} {tb : Nat → Nat} {n : Nat}
theorem c_open_ok {Q : Int32 → pu_M → Prop} {a b e : Nat} (ha : a ≤ e) (hb : e ≤ b) (hen : e ≤ n) (hb2 : b ≤ 240) (hT : CT M n tb) (H : ∀ M', TX tb e → TS M' tb e 0 → only (fun k => k = 1) M M' → Q 1 M') : pu_I L (d + 2) 81 [.ref 1, .int (nI e), .int (nI a), .int (nI b)] M Q := by
  have hn := hT.1
  refine c_Tape_open (B := b) (by rw [nI_toInt (by omega)]) (nI_pos (by omega)) hT (fun h => ?_) (fun h e' he' hn' hB' M' hB o => ?_)
  · exfalso
    rw [nI_ltI (by omega) (by omega), nI_ltI (by omega) (by omega), nI_ltI (by omega) (by omega)] at h
    omega
  · obtain rfl : e' = e := ((nI_eq (by omega) (by omega)).mp he').symm
    have o2 : M' 2 = M 2 := o 2 (by decide)
    exact H M' ⟨by omega, fun i hi => (hT.2.2 i (by omega)).2⟩ (TS_of (n := n) (fun i hi => by rw [o2]; exact hT.2.2 i hi) hen hB) o
theorem c_open_no {Q : Int32 → pu_M → Prop} {a b : Nat} {v : Int32} (hb2 : b ≤ 240) (ha : a ≤ 240) (hN : ¬ okE a b n v) (hT : CT M n tb) (H : Q 0 M) : pu_I L (d + 2) 81 [.ref 1, .int v, .int (nI a), .int (nI b)] M Q := by
  have hn := hT.1
  refine c_Tape_open (B := b) (by rw [nI_toInt (by omega)]) (nI_pos (by omega)) hT (fun h => H) (fun h e' he' hn' hB' M' hB o => ?_)
  exfalso
  apply hN
  refine ⟨e', he', ?_, hB', hn'⟩
  rcases Nat.lt_or_ge e' a with z | z
  · exact absurd (Or.inl (by rw [he', nI_ltI (by omega) (by omega)]; exact z)) h
  · exact z
theorem in_no {a b : Nat} {v : Int32} (ha : a ≤ 240) (hb2 : b ≤ 240) (hn : n ≤ 260) (hN : ¬ okE a b n v) (h : ¬ (v < nI a ∨ nI b < v)) : ¬ v ≤ nI n := by
  intro z
  apply hN
  have hv0 : ¬ v < 0 := by
    intro y
    apply h; left
    rw [Int32.lt_iff_toInt_lt] at y ⊢
    rw [nI_toInt (by omega)]
    have e2 : (0 : Int32).toInt = 0 := rfl
    omega
  obtain ⟨j, hj, rfl⟩ := nI_of2 (M := nI b) (n := b) (by rw [nI_toInt (by omega)]) hv0 (Int32.not_lt.mp (fun z => h (Or.inr z)))
  refine ⟨j, rfl, ?_, hj, (nI_leI (by omega) (by omega)).mp z⟩
  rcases Nat.lt_or_ge j a with y | y
  · exact absurd (Or.inl ((nI_ltI (by omega) (by omega)).mpr y)) h
  · exact y
end OP
abbrev Wi : Type := Nat × Nat × Option Nat
def rdW (tb : Nat → Nat) (e m q : Nat) : Int32 ⊕ (Wi × Nat) := match chR tb e 97 16 q with
  | none => .inl (flt 1 q)
  | some p => if m = 24 then .inl (flt 4 q) else
    if ch tb e (q + 1) = 43 ∨ ch tb e (q + 1) = 45 then (match chR tb e 97 16 (q + 2) with
      | none => .inl (flt 1 (q + 2))
      | some r => if r = p then .inl (flt 6 (q + 2)) else .inr ((p, tb (q + 1), some r), q + 3))
    else if ch tb e (q + 1) = 35 ∨ ch tb e (q + 1) = 46 then .inr ((p, tb (q + 1), none), q + 2)
    else .inl (flt 1 (q + 1))
def rdWs (tb : Nat → Nat) (e : Nat) : Nat → Nat → Nat → (Nat → Wi) → Int32 ⊕ (Nat × (Nat → Wi))
  | 0, _, _, _ => .inl (-1)
  | g + 1, m, q, ws => match rdW tb e m q with
    | .inl f => .inl f
    | .inr (w, q') => if q' < e then (if ch tb e q' = 59 then rdWs tb e g (m + 1) (q' + 1) (fset ws m w) else .inl (flt 1 q')) else .inr (m + 1, fset ws m w)
def okWi (w : Wi) : Prop := w.1 < 16 ∧ (((w.2.1 = 43 ∨ w.2.1 = 45) ∧ ∃ r, w.2.2 = some r ∧ r < 16 ∧ r ≠ w.1) ∨ ((w.2.1 = 35 ∨ w.2.1 = 46) ∧ w.2.2 = none))
def WI (ws : Nat → Wi) (m : Nat) : Prop := m ≤ 24 ∧ ∀ i, i < m → okWi (ws i)
theorem rdW_l {tb : Nat → Nat} {e m q : Nat} {f : Int32} (hq : q ≤ 240) (h : rdW tb e m q = .inl f) : f < 0 := by
  unfold rdW at h
  split at h
  · rw [← Sum.inl.inj h]; exact flt_neg (by decide) (by decide) (by omega)
  · split at h
    · rw [← Sum.inl.inj h]; exact flt_neg (by decide) (by decide) (by omega)
    · split at h
      · split at h
        · rw [← Sum.inl.inj h]; exact flt_neg (by decide) (by decide) (by omega)
        · split at h
          · rw [← Sum.inl.inj h]; exact flt_neg (by decide) (by decide) (by omega)
          · cases h
      · split at h
        · cases h
        · rw [← Sum.inl.inj h]; exact flt_neg (by decide) (by decide) (by omega)
theorem ch_lit {tb : Nat → Nat} {e q : Nat} {v : Int32} {c : Nat} (hX : TX tb e) (hv : v = nI c) (hc : c < 2 ^ 31) (h : ch tb e q = v) : q < e ∧ tb q = c := (ch_nI hX hc).mp (by rw [h, hv])
theorem rdW_r {tb : Nat → Nat} {e m q q' : Nat} {w : Wi} (hX : TX tb e) (hm : m ≤ 24) (h : rdW tb e m q = .inr (w, q')) : q < e ∧ q' ≤ q + 3 ∧ m < 24 ∧ okWi w := by
  unfold rdW at h
  split at h
  · cases h
  next p hp =>
    obtain ⟨p1, p2, p3⟩ := chR_lt hp
    split at h
    · cases h
    next hm24 =>
      split at h
      next hc =>
        split at h
        · cases h
        next r hr =>
          split at h
          · cases h
          next hrp =>
            cases h
            refine ⟨p2, by omega, by omega, p1, Or.inl ⟨?_, r, rfl, (chR_lt hr).1, hrp⟩⟩
            rcases hc with hc | hc
            · exact Or.inl (ch_lit hX (c := 43) rfl (by decide) hc).2
            · exact Or.inr (ch_lit hX (c := 45) rfl (by decide) hc).2
      · split at h
        next hc =>
          cases h
          refine ⟨p2, by omega, by omega, p1, Or.inr ⟨?_, rfl⟩⟩
          rcases hc with hc | hc
          · exact Or.inl (ch_lit hX (c := 35) rfl (by decide) hc).2
          · exact Or.inr (ch_lit hX (c := 46) rfl (by decide) hc).2
        · cases h
theorem WI_s {ws : Nat → Wi} {m : Nat} {w : Wi} (h : WI ws m) (hm : m < 24) (hw : okWi w) : WI (fset ws m w) (m + 1) := by
  refine ⟨by omega, fun i hi => ?_⟩
  by_cases e : i = m
  · rw [e, fset_s]; exact hw
  · rw [fset_n e]; exact h.2 i (by omega)
theorem rdWs_ok {tb : Nat → Nat} {e : Nat} (hX : TX tb e) : ∀ {g m q : Nat} {ws : Nat → Wi}, q ≤ 240 → WI ws m → match rdWs tb e g m q ws with
    | .inl f => f < 0
    | .inr (n, ws') => WI ws' n
  | 0, m, q, ws, _, _ => by unfold rdWs; decide
  | g + 1, m, q, ws, hq, hW => by
    unfold rdWs
    cases h : rdW tb e m q with
    | inl f => exact rdW_l hq h
    | inr x =>
      obtain ⟨w, q'⟩ := x
      obtain ⟨h1, h2, h3, h4⟩ := rdW_r hX hW.1 h
      have he := hX.1
      dsimp only
      by_cases hq' : q' < e
      · rw [if_pos hq']
        by_cases hc : ch tb e q' = 59
        · rw [if_pos hc]; exact rdWs_ok hX (by omega) (WI_s hW h3 h4)
        · rw [if_neg hc]; exact flt_neg (by decide) (by decide) (by omega)
      · rw [if_neg hq']; exact WI_s hW h3 h4
def CW (ws : Nat → Wi) (m : Nat) (M : pu_M) (w : Nat) : Prop := M w 3 = nI m ∧ ∀ i, i < m → M (w + 1) i = nI (ws i).2.1 ∧ M (w + 2) i = nI (ws i).1 ∧ M (w + 3) i = pJ (ws i).2.2
def wS (w k : Nat) : Prop := k = 1 ∨ (w ≤ k ∧ k ≤ w + 3)
section WC2
variable {L d : Nat} {M : pu_M} {tb : Nat → Nat} {e q m w : Nat} {f : Int32} {ws : Nat → Wi}
theorem only_1w {M' : pu_M} (o : only (fun k => k = 1) M M') : only (wS w) M M' := fun k hk => o k (fun z => hk (Or.inl z))
theorem CW_1 (hw : pu_isW w) {M' : pu_M} (h : CW ws m M w) (o : only (fun k => k = 1) M M') : CW ws m M' w := by
  have : 50 ≤ w := by unfold pu_isW at hw; omega
  unfold CW
  rw [o w (by omega), o (w + 1) (by omega), o (w + 2) (by omega), o (w + 3) (by omega)]
  exact h
theorem c_W_add {Q : pu_M → Prop} {v1 v2 v3 : Int32} (hw : pu_isW w) (h : M w 3 = nI m) (hm : m ≤ 24) (H0 : m = 24 → Q M) (H1 : m < 24 → ∀ M', M' w 3 = nI (m + 1) → M' (w + 1) = upd (M (w + 1)) m v1 → M' (w + 2) = upd (M (w + 2)) m v2 → M' (w + 3) = upd (M (w + 3)) m v3 → only (fun k => w ≤ k ∧ k ≤ w + 3) M M' → Q M') : pu_V L (d + 1) 93 [.ref w, .int v1, .int v2, .int v3] M Q := by
  refine r_Wishes_add hw ?_
  by_cases h24 : m = 24
  · rw [if_pos (by rw [h, h24]; decide)]; exact H0 h24
  · have e1 : ∀ x, pu_wr M (w + 1) m x w = M w := fun x => pu_wr_ne (by omega)
    have e2 : ∀ x z, pu_wr (pu_wr M (w + 1) m x) (w + 2) m z w = M w := fun x z => by rw [pu_wr_ne (by omega), e1]
    rw [if_neg (by rw [h, n_24, nI_leI (by omega) (by omega)]; omega), h, nI_clamp (by omega), e1, h, nI_clamp (by omega), e2, h, nI_clamp (by omega)]
    refine ⟨inb_nI (by omega) (by decide), inb_nI (by omega) (by decide), inb_nI (by omega) (by decide), fun M4 hM4 => ?_⟩
    have e3 : M4 w = M w := by rw [hM4, pu_wr_ne (by omega), e2]
    rw [e3, h, nI_1]
    refine H1 (by omega) _ (by rw [pu_wr_self, upd_s]) ?_ ?_ ?_ ?_
    · rw [pu_wr_ne (by omega), hM4, pu_wr_ne (by omega), pu_wr_ne (by omega), pu_wr_self]
    · rw [pu_wr_ne (by omega), hM4, pu_wr_ne (by omega), pu_wr_self, pu_wr_ne (by omega)]
    · rw [pu_wr_ne (by omega), hM4, pu_wr_self, pu_wr_ne (by omega), pu_wr_ne (by omega)]
    · rw [hM4]
      exact ((((only.rf (fun k => w ≤ k ∧ k ≤ w + 3) M).wr (by omega)).wr (by omega)).wr (by omega)).wr (by omega)
theorem c_W_addD {Q : pu_M → Prop} {v1 v2 v3 : Int32} (hw : pu_isW w) (h : M w 3 = nI m) (hm : m ≤ 24) (hD : DS M f) (H : ∀ M', DS M' f → only (wS w) M M' → Q M') : pu_V L (d + 1) 93 [.ref w, .int v1, .int v2, .int v3] M Q := by
  have h50 : 50 ≤ w := by unfold pu_isW at hw; omega
  refine c_W_add hw h hm (fun _ => H M hD (only.rf _ M)) (fun _ M' _ _ _ _ o => H M' (DS_only hD o (by omega)) (fun k hk => o k (fun z => hk (Or.inr z))))
theorem c_W_addT {Q : pu_M → Prop} {p c : Nat} {x : Option Nat} {v3 : Int32} (hw : pu_isW w) (hC : CW ws m M w) (hm : m < 24) (hT : TS M tb e q) (hv : v3 = pJ x) (H : ∀ M', TS M' tb e q → CW (fset ws m (p, c, x)) (m + 1) M' w → only (wS w) M M' → Q M') : pu_V L (d + 1) 93 [.ref w, .int (nI c), .int (nI p), .int v3] M Q := by
  have h50 : 50 ≤ w := by unfold pu_isW at hw; omega
  refine c_W_add hw hC.1 (by omega) (fun z => by omega) (fun _ M' a0 a1 a2 a3 o => H M' (TS_only hT o (by omega) (by omega)) ⟨a0, fun i hi => ?_⟩ (fun k hk => o k (fun z => hk (Or.inr z))))
  rw [a1, a2, a3]
  by_cases x : i = m
  · rw [x, fset_s, upd_s, upd_s, upd_s]; exact ⟨rfl, rfl, hv⟩
  · rw [fset_n x, upd_n x, upd_n x, upd_n x]; exact hC.2 i (by omega)
theorem c_W_44D {Q : pu_M → Prop} {v2 : Int32} (hw : pu_isW w) (hf : ¬ f = 0) (h : M w 3 = nI m) (hm : m ≤ 24) (hD : DS M f) (H : ∀ M', DS M' f → only (wS w) M M' → Q M') : pu_R L (d + 2) 92 44 [.ref w, .ref 1, .int v2, mq_un, mq_un] [] M (pu_qV Q) := by
  have h50 : 50 ≤ w := by unfold pu_isW at hw; omega
  refine r_Wishes_readLine_44 hw (c_D_step hf hD (fun M1 t1 o1 => ?_))
  rw [t1.2.1, if_neg (by decide), if_neg (by decide), if_neg (by decide), if_neg (by decide)]
  refine c_D_fail hf t1 (c_D_step hf t1 (fun M2 t2 o2 => c_W_addD hw (m := m) (by rw [o2 w (by omega), o1 w (by omega)]; exact h) hm t2 (fun M3 t3 o3 => H M3 t3 ?_)))
  exact ((only_1w o1).tr (only_1w o2)).tr o3
theorem c_W_68 {Q : pu_M → Prop} {p : Nat} {v4 : Int32} (hw : pu_isW w) (hX : TX tb e) (hq : q ≤ 240) (hm : m < 24) (hp : p < 16) (hc : ch tb e (q + 1) = 43 ∨ ch tb e (q + 1) = 45) (hT : TS M tb e (q + 1)) (hC : CW ws m M w) (H : match (match chR tb e 97 16 (q + 2) with
      | none => .inl (flt 1 (q + 2))
      | some r => if r = p then .inl (flt 6 (q + 2)) else .inr ((p, tb (q + 1), some r), q + 3) : Int32 ⊕ (Wi × Nat)) with
    | .inl f => ∀ M', DS M' f → only (wS w) M M' → Q M'
    | .inr (x, q') => ∀ M', TS M' tb e q' → CW (fset ws m x) (m + 1) M' w → only (wS w) M M' → Q M') : pu_R L (d + 2) 92 68 [.ref w, .ref 1, .int (nI p), .int (ch tb e (q + 1)), .int v4] [] M (pu_qV Q) := by
  have h50 : 50 ≤ w := by unfold pu_isW at hw; omega
  have ec : ch tb e (q + 1) = nI (tb (q + 1)) := by
    have : q + 1 < e := by
      rcases hc with hc | hc
      · exact (ch_lit hX (c := 43) rfl (by decide) hc).1
      · exact (ch_lit hX (c := 45) rfl (by decide) hc).1
    unfold ch; rw [if_pos this]
  refine r_Wishes_readLine_68 hw (c_T_step hX (by omega) hT (fun M1 t1 o1 => c_T_among (a := 97) (n := 16) hX (by decide) t1 ?_))
  have hC1 := CW_1 hw hC o1
  cases hr : chR tb e 97 16 (q + 1 + 1) with
  | none =>
    rw [hr] at H
    rw [if_pos (show pJ none = -1 from rfl)]
    have hf : ¬ flt 1 (q + 2) = 0 := neg_ne (flt_neg (by decide) (by decide) (by omega))
    refine c_T_failq t1 (fun M2 t2 o2 => c_D_step hf t2 (fun M3 t3 o3 => c_W_addD hw (m := m) (by rw [o3 w (by omega), o2 w (by omega)]; exact hC1.1) (by omega) t3 (fun M4 t4 o4 => H M4 t4 ?_)))
    exact (((only_1w o1).tr (only_1w o2)).tr (only_1w o3)).tr o4
  | some r =>
    rw [hr] at H
    have hr16 := (chR_lt hr).1
    rw [if_neg (show ¬ pJ (some r) = -1 from fun z => (nI_m1 (by omega)).mp z)]
    dsimp only at H
    by_cases hrp : r = p
    · rw [if_pos hrp] at H
      rw [if_pos (show pJ (some r) = nI p by rw [hrp]; rfl)]
      have hf : ¬ flt 6 (q + 2) = 0 := neg_ne (flt_neg (by decide) (by decide) (by omega))
      refine c_T_failq t1 (fun M2 t2 o2 => c_D_step hf t2 (fun M3 t3 o3 => c_W_addD hw (m := m) (by rw [o3 w (by omega), o2 w (by omega)]; exact hC1.1) (by omega) t3 (fun M4 t4 o4 => H M4 t4 ?_)))
      exact (((only_1w o1).tr (only_1w o2)).tr (only_1w o3)).tr o4
    · rw [if_neg hrp] at H
      rw [if_neg (show ¬ pJ (some r) = nI p from fun z => hrp ((nI_eq (by omega) (by omega)).mp z)), ec]
      refine c_T_step hX (by omega) t1 (fun M2 t2 o2 => c_W_addT hw (CW_1 hw hC1 o2) hm t2 (x := some r) rfl (fun M3 t3 c3 o3 => H M3 t3 c3 ?_))
      exact ((only_1w o1).tr (only_1w o2)).tr o3
theorem c_W_readLine {Q : pu_M → Prop} (hw : pu_isW w) (hX : TX tb e) (hq : q ≤ 240) (hm : m ≤ 24) (hT : TS M tb e q) (hC : CW ws m M w) (H : match rdW tb e m q with
    | .inl f => ∀ M', DS M' f → only (wS w) M M' → Q M'
    | .inr (x, q') => ∀ M', TS M' tb e q' → CW (fset ws m x) (m + 1) M' w → only (wS w) M M' → Q M') : pu_V L (d + 2) 92 [.ref w, .ref 1] M Q := by
  have h50 : 50 ≤ w := by unfold pu_isW at hw; omega
  refine r_Wishes_readLine hw (c_T_among (a := 97) (n := 16) hX (by decide) hT ?_)
  unfold rdW at H
  cases hr : chR tb e 97 16 q with
  | none =>
    rw [hr] at H
    rw [if_pos (show pJ none = -1 from rfl)]
    have hf : ¬ flt 1 q = 0 := neg_ne (flt_neg (by decide) (by decide) (by omega))
    exact c_T_failq hT (fun M1 t1 o1 => c_W_44D hw hf (m := m) (by rw [o1 w (by omega)]; exact hC.1) hm t1 (fun M2 t2 o2 => H M2 t2 ((only_1w o1).tr o2)))
  | some p =>
    rw [hr] at H
    have hp := (chR_lt hr).1
    rw [if_neg (show ¬ pJ (some p) = -1 from fun z => (nI_m1 (by omega)).mp z), hC.1]
    dsimp only at H
    by_cases hm24 : m = 24
    · rw [if_pos hm24] at H
      rw [if_neg (by rw [n_24, nI_ltI (by omega) (by omega)]; omega)]
      have hf : ¬ flt 4 q = 0 := neg_ne (flt_neg (by decide) (by decide) (by omega))
      exact c_T_failq hT (fun M1 t1 o1 => c_W_44D hw hf (m := m) (by rw [o1 w (by omega)]; exact hC.1) hm t1 (fun M2 t2 o2 => H M2 t2 ((only_1w o1).tr o2)))
    · rw [if_neg hm24] at H
      rw [if_pos (by rw [n_24, nI_ltI (by omega) (by omega)]; omega)]
      refine r_Wishes_readLine_44 hw (c_T_step hX (by omega) hT (fun M1 t1 o1 => ?_))
      have hC1 := CW_1 hw hC o1
      rw [t1.2.2.2.2.1]
      by_cases hc : ch tb e (q + 1) = 43 ∨ ch tb e (q + 1) = 45
      · rw [if_pos hc] at H
        have go : ∀ v4, pu_R L (d + 2) 92 68 [.ref w, .ref 1, .int (nI p), .int (ch tb e (q + 1)), .int v4] [] M1 (pu_qV Q) := by
          intro v4
          refine c_W_68 hw hX hq (by omega) hp hc t1 hC1 ?_
          revert H
          generalize (match chR tb e 97 16 (q + 2) with
            | none => .inl (flt 1 (q + 2))
            | some r => if r = p then .inl (flt 6 (q + 2)) else .inr ((p, tb (q + 1), some r), q + 3) : Int32 ⊕ (Wi × Nat)) = R
          intro H
          cases R with
          | inl f => exact fun M' t o => H M' t ((only_1w o1).tr o)
          | inr x => exact fun M' t c o => H M' t c ((only_1w o1).tr o)
        by_cases h43 : ch tb e (q + 1) = 43
        · rw [if_pos h43]; exact go _
        · rw [if_neg h43, if_pos (hc.resolve_left h43)]; exact go _
      · rw [if_neg hc] at H
        rw [if_neg (fun z => hc (Or.inl z)), if_neg (fun z => hc (Or.inr z))]
        by_cases hc2 : ch tb e (q + 1) = 35 ∨ ch tb e (q + 1) = 46
        · rw [if_pos hc2] at H
          have ec : ch tb e (q + 1) = nI (tb (q + 1)) := by
            have : q + 1 < e := by
              rcases hc2 with hc | hc
              · exact (ch_lit hX (c := 35) rfl (by decide) hc).1
              · exact (ch_lit hX (c := 46) rfl (by decide) hc).1
            unfold ch; rw [if_pos this]
          have go : pu_V L (d + 1) 83 [.ref 1] M1 (fun M2 => pu_V L (d + 1) 93 [.ref w, .int (ch tb e (q + 1)), .int (nI p), .int (-1)] M2 (fun M3 => Q M3)) := by
            rw [ec]
            refine c_T_step hX (by omega) t1 (fun M2 t2 o2 => c_W_addT hw (CW_1 hw hC1 o2) (by omega) t2 (x := none) rfl (fun M3 t3 c3 o3 => H M3 t3 c3 ?_))
            exact ((only_1w o1).tr (only_1w o2)).tr o3
          by_cases h35 : ch tb e (q + 1) = 35
          · rw [if_pos h35]; exact go
          · rw [if_neg h35, if_pos (hc2.resolve_left h35)]; exact go
        · rw [if_neg hc2] at H
          rw [if_neg (fun z => hc2 (Or.inl z)), if_neg (fun z => hc2 (Or.inr z))]
          have hf : ¬ flt 1 (q + 1) = 0 := neg_ne (flt_neg (by decide) (by decide) (by omega))
          refine c_T_failq t1 (fun M2 t2 o2 => c_D_step hf t2 (fun M3 t3 o3 => c_W_addD hw (m := m) (by rw [o3 w (by omega), o2 w (by omega)]; exact hC1.1) hm t3 (fun M4 t4 o4 => H M4 t4 ?_)))
          exact (((only_1w o1).tr (only_1w o2)).tr (only_1w o3)).tr o4
theorem c_W_read {Q : Int32 → pu_M → Prop} (hw : pu_isW w) (hX : TX tb e) : ∀ {g m q : Nat} {ws : Nat → Wi} {M : pu_M}, g + m = 25 → m ≤ 24 → q ≤ 240 → TS M tb e q → CW ws m M w → (match rdWs tb e g m q ws with
    | .inl f => ∀ M', M' 1 1 = 0 → only (wS w) M M' → Q f M'
    | .inr (n, ws') => ∀ M', M' 1 1 = 0 → CW ws' n M' w → only (wS w) M M' → Q (nI n) M') → pu_R L (d + 4) 91 9 [.ref w, .ref 1, .int 1, .int (nI m)] [] M (pu_qI Q)
  | 0, m, q, ws, M, hg, hm, hq, hT, hC, H => by omega
  | g + 1, m, q, ws, M, hg, hm, hq, hT, hC, H => by
    have he := hX.1
    refine r_Wishes_read_9 hw ?_
    rw [if_neg (by decide), if_neg (by rw [n_24, nI_ltI (by omega) (by omega)]; omega), nI_1]
    refine c_W_readLine hw hX hq hm hT hC ?_
    unfold rdWs at H
    cases hr : rdW tb e m q with
    | inl f =>
      rw [hr] at H
      have hf := neg_ne (rdW_l hq hr)
      refine fun M1 t1 o1 => c_D_next hf t1 (r_Wishes_read_9 hw ?_)
      rw [if_pos rfl]
      exact c_D_answer hf t1 (H M1 t1.2.2 o1)
    | inr x =>
      obtain ⟨x, q'⟩ := x
      rw [hr] at H
      obtain ⟨h1, h2, h3, h4⟩ := rdW_r hX hm hr
      dsimp only at H
      refine fun M1 t1 c1 o1 => c_T_next hX (by omega) t1 (fun hn => ?_) (fun hqe hc M2 t2 o2 => ?_) (fun hqe hc M2 t2 o2 => ?_)
      · rw [if_neg hn] at H
        refine r_Wishes_read_9 hw ?_
        rw [if_pos rfl, c1.1]
        exact c_T_answer t1 (H M1 t1.2.2.2.2.2 c1 o1)
      · rw [if_pos hqe, if_pos hc] at H
        refine c_W_read hw hX (g := g) (ws := fset ws m x) (by omega) (by omega) (by omega) t2 (CW_1 hw c1 o2) ?_
        revert H
        generalize rdWs tb e g (m + 1) (q' + 1) (fset ws m x) = R
        intro H
        cases R with
        | inl f => exact fun M' a o => H M' a ((o1.tr (only_1w o2)).tr o)
        | inr z => exact fun M' a c o => H M' a c ((o1.tr (only_1w o2)).tr o)
      · rw [if_pos hqe, if_neg hc] at H
        have hf : ¬ flt 1 q' = 0 := neg_ne (flt_neg (by decide) (by decide) (by omega))
        refine r_Wishes_read_9 hw ?_
        rw [if_pos rfl]
        exact c_D_answer hf t2 (H M2 t2.2.2 (o1.tr (only_1w o2)))
end WC2
