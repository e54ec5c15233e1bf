/-! hold -/
def wal (w : Nat) : Bool := decide (w % 10 = 0) || decide (w % 10 = 9) || decide (w < 10) || decide (50 ≤ w)
def nrW (P : Pp) (x : Wi) : Bool := match x.2.2 with
  | some r => bsd P x.1 r
  | none => false
def hwi (P : Pp) (x : Wi) : Bool := if x.2.1 = 43 then nrW P x else if x.2.1 = 45 then !nrW P x else if x.2.1 = 35 then (match pl P x.1 with | some w => wal w | none => false) else (pl P x.1).isSome && decide (bs (bsd P x.1) 16 = 0)
theorem cnt_mono2 (f : Nat → Bool) {i : Nat} : ∀ {n : Nat}, i ≤ n → cnt f i ≤ cnt f n
  | 0, h => by have : i = 0 := by omega
               subst this; exact Nat.le_refl _
  | n + 1, h => by
    by_cases e : i = n + 1
    · rw [e]; exact Nat.le_refl _
    · have := cnt_mono2 f (n := n) (i := i) (by omega)
      simp only [cnt]; omega
def s_hold (P : Pp) (ws : Nat → Wi) (m : Nat) (v : Int32) : Int32 := if v < 0 ∨ 1 < v then -1 else if v = 0 then nI (cnt (fun i => hwi P (ws i)) m) else pI (fnd (fun i => !hwi P (ws i)) m 0)
section HO
variable {L d : Nat} {M : pu_M} {P : Pp} {y w m : Nat} {ws : Nat → Wi}
theorem c_W_isByWall {Q : Int32 → pu_M → Prop} {b : Nat} (hb : b < 60) (H : Q (bI (wal b)) M) : pu_I L (d + 1) 97 [.int (nI b)] M Q := by
  refine r_Wishes_isByWall ?_
  have em : nI b % 10 = nI (b % 10) := nI_rem (by omega) (by decide) (by decide)
  have n50 : (50 : Int32) = nI 50 := rfl
  unfold wal at H
  have c1 : (nI b % 10 = 0) ↔ b % 10 = 0 := by rw [em, n_0, nI_eq (by omega) (by omega)]
  have c2 : (nI b % 10 = 9) ↔ b % 10 = 9 := by rw [em, n_9, nI_eq (by omega) (by omega)]
  have c3 : (nI b < 10) ↔ b < 10 := by rw [n_10, nI_ltI (by omega) (by omega)]
  have c4 : (nI b < 50) ↔ b < 50 := by rw [n50, nI_ltI (by omega) (by omega)]
  by_cases h1 : b % 10 = 0
  · rw [if_pos (c1.mpr h1)]; simpa [bI, h1] using H
  rw [if_neg (fun z => h1 (c1.mp z))]
  by_cases h2 : b % 10 = 9
  · rw [if_pos (c2.mpr h2)]; simpa [bI, h2] using H
  rw [if_neg (fun z => h2 (c2.mp z))]
  by_cases h3 : b < 10
  · rw [if_pos (c3.mpr h3)]; simpa [bI, h3] using H
  rw [if_neg (fun z => h3 (c3.mp z))]
  by_cases h4 : b < 50
  · rw [if_pos (c4.mpr h4)]; simpa [bI, h1, h2, h3, show ¬ 50 ≤ b by omega] using H
  · rw [if_neg (fun z => h4 (c4.mp z))]; simpa [bI, show 50 ≤ b by omega] using H
theorem c_m_isByWall {Q : Int32 → pu_M → Prop} {b : Nat} (hb : b < 60) (H : Q (bI (wal b)) M) : pu_I L (d + 1) 229 [.int (nI b)] M Q := by
  refine r_m_isByWall ?_
  have em : nI b % 10 = nI (b % 10) := nI_rem (by omega) (by decide) (by decide)
  have ed : nI b / 10 = nI (b / 10) := pk_div (by omega) (by decide) (by decide)
  unfold wal at H
  have c1 : (nI b % 10 = 0) ↔ b % 10 = 0 := by rw [em, n_0, nI_eq (by omega) (by omega)]
  have c2 : (nI b % 10 = 9) ↔ b % 10 = 9 := by rw [em, n_9, nI_eq (by omega) (by omega)]
  have c3 : (nI b / 10 = 0) ↔ b < 10 := by rw [ed, n_0, nI_eq (by omega) (by omega)]; omega
  have c4 : (nI b / 10 = 5) ↔ 50 ≤ b := by rw [ed, n_5, nI_eq (by omega) (by omega)]; omega
  by_cases h1 : b % 10 = 0
  · rw [if_pos (c1.mpr h1)]; simpa [bI, h1] using H
  rw [if_neg (fun z => h1 (c1.mp z))]
  by_cases h2 : b % 10 = 9
  · rw [if_pos (c2.mpr h2)]; simpa [bI, h2] using H
  rw [if_neg (fun z => h2 (c2.mp z))]
  by_cases h3 : b < 10
  · rw [if_pos (c3.mpr h3)]; simpa [bI, h3] using H
  rw [if_neg (fun z => h3 (c3.mp z))]
  by_cases h4 : 50 ≤ b
  · rw [if_pos (c4.mpr h4)]; simpa [bI, h4] using H
  · rw [if_neg (fun z => h4 (c4.mp z))]; simpa [bI, h1, h2, h3, h4] using H
theorem c_W_holds {Q : Int32 → pu_M → Prop} {i : Nat} (hw : pu_isW w) (hy : pu_isY y) (hC : CY P M y) (hI : PI P) (hW : WI ws m) (hc : CW ws m M w) (hi : i < m) (H : Q (bI (hwi P (ws i))) M) : pu_I L (d + 4) 96 [.ref w, .int (nI i), .ref y] M Q := by
  obtain ⟨hm, hW⟩ := hW
  obtain ⟨g1, g2, g3⟩ := hc.2 i hi
  obtain ⟨hp, hk⟩ := hW i hi
  generalize ws i = x at g1 g2 g3 hp hk H
  refine r_Wishes_holds hw hy ⟨inb_nI (by omega) (by decide), inb_nI (by omega) (by decide), ?_⟩
  rw [nI_clamp (by omega), g3, g2]
  have n43 : (43 : Int32) = nI 43 := rfl
  rcases hk with ⟨hc1, r, hr, hr16, hrp⟩ | ⟨hc1, hr⟩
  · rw [hr, if_neg (show ¬ pJ (some r) = -1 from fun z => (nI_m1 (by omega)).mp z)]
    refine c_Y_beside hy hC hI hp ⟨inb_nI (by omega) (by decide), ?_⟩
    have hl : bs (bsd P x.1) 16 < 2 ^ 16 := bs_lt _ _
    rw [g3, hr]
    have eb : (nI (bs (bsd P x.1) 16) >>> (pJ (some r) &&& 31)) &&& 1 = nI (if bsd P x.1 r = true then 1 else 0) := by
      rw [show pJ (some r) = nI r from rfl, nI_bit (by omega) (by omega), bs_bit]
      simp [hr16]
    rw [eb]
    have hn : nrW P x = bsd P x.1 r := by unfold nrW; rw [hr]
    have fin : ∀ b : Bool, b = bsd P x.1 r → pu_R L (d + 4) 96 40 [.ref w, .int (nI i), .ref y, .int (nI x.1), mq_un] [.int (bI b)] M (pu_qI Q) := by
      intro b hb
      refine r_Wishes_holds_40 hw hy ⟨inb_nI (by omega) (by decide), ?_⟩
      rw [nI_clamp (by omega), g1]
      unfold hwi at H
      rw [hn, ← hb] at H
      rcases hc1 with h43 | h45
      · rw [if_pos h43] at H
        rw [h43, if_neg (by decide), if_pos (show nI 43 = 43 from rfl)]
        exact ⟨by cases b; exact Or.inl rfl; exact Or.inr rfl, H⟩
      · rw [if_neg (by omega), if_pos h45] at H
        rw [h45, if_neg (by decide), if_neg (by decide), if_pos (show nI 45 = 45 from rfl)]
        cases b with
        | false => rw [if_pos (by decide)]; exact H
        | true => rw [if_neg (by decide)]; exact H
    cases hb : bsd P x.1 r with
    | true => rw [if_pos (by decide)]; exact fin true hb.symm
    | false => rw [if_neg (by decide)]; exact fin false hb.symm
  · rw [hr, if_pos (show pJ none = -1 from rfl)]
    refine r_Wishes_holds_40 hw hy ⟨inb_nI (by omega) (by decide), ?_⟩
    rw [nI_clamp (by omega), g1]
    unfold hwi at H
    rcases hc1 with h35 | h46
    · rw [if_neg (by omega), if_neg (by omega), if_pos h35] at H
      rw [h35, if_pos (show nI 35 = 35 from rfl)]
      refine c_Y_isLaid hy hC hI hp ?_
      cases e : pl P x.1 with
      | none =>
        rw [e] at H
        simp only [Option.isSome_none, Bool.false_eq_true, if_false]
        rw [if_pos trivial]; exact H
      | some b =>
        rw [e] at H
        have hb := ((hI.1 _ hp).2.2 b e).1
        simp only [Option.isSome_some, if_true]
        rw [if_neg (by decide), nI_clamp (by omega), (hC.1 _ hp).2.2, e, pI]
        refine ⟨inb_nI hp (by decide), c_W_isByWall hb ?_⟩
        dsimp only at H
        cases hv : wal b with
        | false => rw [hv] at H; rw [if_pos (by decide)]; exact H
        | true => rw [hv] at H; rw [if_neg (by decide)]; exact H
    · rw [if_neg (by omega), if_neg (by omega), if_neg (by omega)] at H
      rw [h46, if_neg (by decide), if_neg (by decide), if_neg (by decide)]
      refine c_Y_isLaid hy hC hI hp ?_
      have hl : bs (bsd P x.1) 16 < 2 ^ 16 := bs_lt _ _
      cases e : (pl P x.1).isSome with
      | false => rw [e] at H; rw [if_neg (by decide), if_pos rfl]; exact H
      | true =>
        rw [e] at H
        rw [if_pos rfl, if_neg (by decide)]
        refine c_Y_beside hy hC hI hp ?_
        by_cases h0 : bs (bsd P x.1) 16 = 0
        · rw [if_pos ((nI_zero (by omega)).mpr h0)]; simpa [bI, h0] using H
        · rw [if_neg (fun z => h0 ((nI_zero (by omega)).mp z))]; simpa [bI, h0] using H
theorem c_m_holdsWish {Q : Int32 → pu_M → Prop} {i : Nat} (hM : PM P (M 59)) (hI : PI P) (hW : WI ws m) (hc : MW ws m M) (hi : i < m) (H : Q (bI (hwi P (ws i))) M) : pu_I L (d + 5) 230 [.ref 58, .int (nI i)] M Q := by
  obtain ⟨hm, hW⟩ := hW
  obtain ⟨g1, g2, g3⟩ := hc.2 i hi
  obtain ⟨hp, hk⟩ := hW i hi
  generalize ws i = x at g1 g2 g3 hp hk H
  refine r_m_holdsWish ⟨inb_nI (by omega) (by decide), inb_nI (by omega) (by decide), inb_nI (by omega) (by decide), ?_⟩
  rw [nI_clamp (by omega), g1, g2, g3]
  unfold hwi at H
  rcases hk with ⟨hc1, r, hr, hr16, hrp⟩ | ⟨hc1, hr⟩
  · have hn : nrW P x = bsd P x.1 r := by unfold nrW; rw [hr]
    rw [hn] at H
    rw [hr, show pJ (some r) = nI r from rfl]
    rcases hc1 with h43 | h45
    · rw [if_pos h43] at H
      rw [h43, if_neg (by decide), if_pos (show nI 43 = 43 from rfl)]
      refine c_m_areBeside hM hI hp hr16 ?_
      cases hb : bsd P x.1 r with
      | true => rw [hb] at H; rw [if_pos rfl]; exact ⟨Or.inr rfl, H⟩
      | false => rw [hb] at H; rw [if_neg (by decide)]; exact ⟨Or.inl rfl, H⟩
    · rw [if_neg (by omega), if_pos h45] at H
      rw [h45, if_neg (by decide), if_neg (by decide), if_pos (show nI 45 = 45 from rfl)]
      refine c_m_areBeside hM hI hp hr16 ?_
      cases hb : bsd P x.1 r with
      | true => rw [hb] at H; rw [if_pos rfl, if_neg (by decide)]; exact H
      | false => rw [hb] at H; rw [if_neg (by decide), if_pos rfl]; exact H
  · rcases hc1 with h35 | h46
    · rw [if_neg (by omega), if_neg (by omega), if_pos h35] at H
      rw [h35, if_pos (show nI 35 = 35 from rfl)]
      refine c_m_isLaid hM hI hp ?_
      have h4 := (hM.1 _ hp).2.2.2
      cases e : pl P x.1 with
      | none =>
        rw [e] at H
        simp only [Option.isSome_none, Bool.false_eq_true, if_false]
        rw [if_pos trivial]; exact H
      | some b =>
        rw [e] at H h4
        have hb := ((hI.1 _ hp).2.2 b e).1
        simp only [Option.isSome_some, if_true]
        rw [if_neg (by decide)]
        simp (disch := omega) only [n_48, nI_add, nI_clamp, inb_nI, true_and, h4, pI]
        refine c_m_isByWall hb ?_
        dsimp only at H
        cases hv : wal b with
        | false => rw [hv] at H; rw [if_pos (by decide)]; exact H
        | true => rw [hv] at H; rw [if_neg (by decide)]; exact H
    · rw [if_neg (by omega), if_neg (by omega), if_neg (by omega)] at H
      rw [h46, if_neg (by decide), if_neg (by decide), if_neg (by decide)]
      refine c_m_isLaid hM hI hp ?_
      have hl : bs (bsd P x.1) 16 < 2 ^ 16 := bs_lt _ _
      cases e : (pl P x.1).isSome with
      | false => rw [e] at H; rw [if_neg (by decide), if_pos rfl]; exact H
      | true =>
        rw [e] at H
        rw [if_pos rfl, if_neg (by decide)]
        refine c_m_besideSet hM hI hp ?_
        by_cases h0 : bs (bsd P x.1) 16 = 0
        · rw [if_pos ((nI_zero (by omega)).mpr h0)]; simpa [bI, h0] using H
        · rw [if_neg (fun z => h0 ((nI_zero (by omega)).mp z))]; simpa [bI, h0] using H
theorem c_x_hold {Q : Int32 → pu_M → Prop} {v : Int32} (h9 : M 0 9 = nI y) (hy : pu_isY y) (hC : CY P M y) (hI : PI P) (h13 : M 0 13 = nI w) (hw : pu_isW w) (hW : WI ws m) (hc : CW ws m M w) (H : Q (s_hold P ws m v) M) : pu_I L (d + 6) 135 [.ref 0, .int v] M Q := by
  refine r_x_hold ?_
  have hm := hW.1
  unfold s_hold at H
  rcases v01 (w := v) with hv | ⟨hv1, hv2⟩
  · rw [if_pos hv] at H
    by_cases h0 : v < 0
    · rw [if_pos h0]; exact H
    · rw [if_neg h0, if_neg (lt_not_le (hv.resolve_left h0))]; exact H
  · rw [if_neg (fun z => z.elim hv1 (le_not_lt hv2))] at H
    rw [if_neg hv1, if_pos hv2]
    by_cases h0 : v = 0
    · rw [if_pos h0] at H ⊢
      refine ⟨w, h13, hw, y, h9, hy, r_Wishes_holding hw hy (dn (R := fun k => pu_R L (d + 5) 94 4 [.ref w, .ref y, .int (nI (cnt (fun i => hwi P (ws i)) k)), .int (nI k)] [] M (pu_qI Q)) m (r_Wishes_holding_4 hw hy ?_) (fun k hk ih => r_Wishes_holding_4 hw hy ?_))⟩
      · rw [hc.1, if_pos ((nI_leI (by omega) (by omega)).mpr (by omega))]; exact H
      · rw [hc.1, if_neg (fun z => by have := (nI_leI (by omega) (by omega)).mp z; omega)]
        refine c_W_holds hw hy hC hI hW hc hk ?_
        cases hb : hwi P (ws k) with
        | true => rw [cnt_t hb] at ih; rw [if_neg (by decide), nI_1, nI_1]; exact ih
        | false => rw [cnt_f hb] at ih; rw [if_pos (by decide), add0, nI_1]; exact ih
    · rw [if_neg h0] at H ⊢
      refine ⟨w, h13, hw, y, h9, hy, r_Wishes_firstBroken hw hy (dn (R := fun k => Q (pI (fnd (fun i => !hwi P (ws i)) (m - k) k)) M → pu_R L (d + 5) 95 2 [.ref w, .ref y, .int (nI k)] [] M (pu_qI Q)) m (fun h => r_Wishes_firstBroken_2 hw hy ?_) (fun k hk ih h => r_Wishes_firstBroken_2 hw hy ?_) H)⟩
      · rw [hc.1, if_pos ((nI_leI (by omega) (by omega)).mpr (by omega))]; rw [Nat.sub_self] at h; exact h
      · rw [hc.1, if_neg (fun z => by have := (nI_leI (by omega) (by omega)).mp z; omega)]
        refine c_W_holds hw hy hC hI hW hc hk ?_
        rw [show m - k = (m - (k + 1)) + 1 by omega] at h
        cases hb : hwi P (ws k) with
        | true => rw [fnd_f (by simp [hb])] at h; rw [if_neg (by decide), nI_1]; exact ih h
        | false => rw [fnd_t (by simp [hb])] at h; rw [if_pos (by decide)]; exact h
theorem c_m_hold {Q : Int32 → pu_M → Prop} {v : Int32} (hM : PM P (M 59)) (hI : PI P) (hW : WI ws m) (hc : MW ws m M) (H : Q (s_hold P ws m v) M) : pu_I L (d + 6) 231 [.ref 58, .int v] M Q := by
  refine r_m_hold (c_m_in ?_)
  have hm := hW.1
  unfold s_hold at H
  by_cases hv : v < 0 ∨ 1 < v
  · rw [if_pos hv] at H; rw [if_pos hv, if_pos rfl]; exact H
  · rw [if_neg hv] at H
    rw [if_neg hv, if_neg (by decide), hc.1]
    have key := dn (R := fun j => pu_R L (d + 6) 231 24 [.ref 58, .int v, .int (nI (cnt (fun i => hwi P (ws i)) m - cnt (fun i => hwi P (ws i)) (m - j))), .int (pI (fnd (fun i => !hwi P (ws i)) j (m - j))), .int (nI (m - j) - 1)] [] M (pu_qI Q)) m (r_m_hold_24 (by
        rw [Nat.sub_self, if_pos (by decide)]
        rw [show cnt (fun i => hwi P (ws i)) 0 = 0 from rfl, Nat.sub_zero]
        by_cases h0 : v = 0
        · rw [if_pos h0] at H ⊢; exact H
        · rw [if_neg h0] at H ⊢; exact H)) (fun j hj ih => by
      obtain ⟨i, hi⟩ : ∃ i, i + j + 1 = m := ⟨m - 1 - j, by omega⟩
      refine r_m_hold_24 ?_
      have ei : nI (m - j) - 1 = nI i := by rw [n_1, pk_sub (by omega)]; congr 1; omega
      rw [show m - (j + 1) = i by omega] at ih
      rw [ei, if_neg (nI_pos (by omega)), show m - j = i + 1 by omega]
      refine c_m_holdsWish hM hI hW hc (by omega) ?_
      have hmo := cnt_mono2 (fun i => hwi P (ws i)) (show i + 1 ≤ m by omega)
      rw [am1]
      cases hb : hwi P (ws i) with
      | true =>
        rw [fnd_f (by simp [hb])] at ih
        rw [cnt_t (P := fun i => hwi P (ws i)) hb] at hmo ⊢
        rw [if_neg (by decide), nI_1]
        rw [show cnt (fun i => hwi P (ws i)) m - (cnt (fun i => hwi P (ws i)) i + 1) + 1 = cnt (fun i => hwi P (ws i)) m - cnt (fun i => hwi P (ws i)) i by omega]
        exact ih
      | false =>
        rw [fnd_t (by simp [hb])] at ih
        rw [cnt_f (P := fun i => hwi P (ws i)) hb, if_pos (by decide)]
        exact ih)
    rw [Nat.sub_zero, Nat.sub_self] at key
    exact key
end HO
