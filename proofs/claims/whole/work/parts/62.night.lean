/-! NIGHTS -/
def n_fa (P : Pp) (p : Nat) (k : Option Nat) : Nat → Int32
  | 0 => nI p
  | 1 => match k with
    | none => 0
    | some q => nI q
  | 2 => match k with
    | none => 0
    | some q => nI (pc (tp P p &&& tp P q))
  | 3 => match k with
    | none => 0
    | some q => nI (pc (an (tp P q) (tp P p)))
  | 4 => nI (md P p)
  | 5 => match k with
    | none => 0
    | some q => nI (md P q)
  | 6 => nI (pc (bs (bsd P p) 16))
  | _ => nI (nt P % 100)
abbrev Ns : Type := Pp × Nat × Nat
def n_sil (F : Law) (P : Pp) (p : Nat) : Bool := w_any F (n_fa P p none)
def n_lk (F : Law) (P : Pp) (p k : Nat) (a : Option Nat × Nat) : Option Nat × Nat := if (bsd P p k && decide (0 < md P k)) = true then (if a.2 < w_ask F (n_fa P p (some k)) 101 9999 then (some k, w_ask F (n_fa P p (some k)) 101 9999) else a) else a
def n_fav (F : Law) (P : Pp) (p : Nat) : Option Nat := (fo (n_lk F P p) 16 (none, 0)).1
def n_mo (m g b : Nat) : Nat := w_cl (nI (m + g) - nI b) 99
def n_lo (x : Nat) : Nat := (25173 * x + 13849) % 65536
def n_un (P : Pp) (p k : Nat) : Option Nat := fnd (fun t => (tp P k).testBit t && !(tp P p).testBit t) 16 0
def n_le (P : Pp) (p k l : Nat) : Pp × Nat := match n_un P p k with
  | none => (P, l)
  | some t => (settp P p (tp P p ||| 2 ^ t), l + 1)
def n_dr (P : Pp) (p k h l : Nat) : Pp × Nat := if n_lo (lo P) % 10 < h then n_le (setlo P (n_lo (lo P))) p k l else (setlo P (n_lo (lo P)), l)
def n_wk2 (F : Law) (p : Nat) (ko : Option Nat) (s : Ns) : Ns := match ko with
  | none => (setmd s.1 p (n_mo (md s.1 p) (w_ask F (n_fa s.1 p none) 103 99) (w_ask F (n_fa s.1 p none) 98 99)), s.2.1, s.2.2)
  | some k => (setmd (n_dr s.1 p k (w_ask F (n_fa s.1 p (some k)) 104 10) s.2.2).1 p (n_mo (md s.1 p) (w_ask F (n_fa s.1 p (some k)) 103 99) (w_ask F (n_fa s.1 p (some k)) 98 99)), s.2.1 + 1, (n_dr s.1 p k (w_ask F (n_fa s.1 p (some k)) 104 10) s.2.2).2)
def n_wk (F : Law) (p : Nat) (s : Ns) : Ns := if n_sil F s.1 p = true then s else n_wk2 F p (n_fav F s.1 p) s
def n_ps (F : Law) (p : Nat) (s : Ns) : Ns := if ((pl s.1 p).isSome && decide (0 < md s.1 p)) = true then n_wk F p s else s
def setnt (P : Pp) (n : Nat) : Pp := (tl P, tp P, md P, pl P, n, lo P)
def n_ng (F : Law) (s : Ns) : Ns := (setnt (fo (n_ps F) 16 s).1 (nt (fo (n_ps F) 16 s).1 + 1), (fo (n_ps F) 16 s).2)
def n_go (F : Law) : Nat → Ns → Ns
  | 0, s => s
  | j + 1, s => if nt s.1 < 9999 then n_go F j (n_ng F s) else s
/-! the people stay people -/
theorem PI_setmd {P : Pp} (hI : PI P) {p m : Nat} (hm : m < 100) : PI (setmd P p m) := by
  obtain ⟨h1, h2, h3⟩ := hI
  refine ⟨fun q hq => ⟨(h1 q hq).1, ?_, (h1 q hq).2.2⟩, h2, h3⟩
  show fset (md P) p m q < _
  by_cases x : q = p
  · subst x; rw [fset_s]; exact hm
  · rw [fset_n x]; exact (h1 q hq).2.1
theorem PI_setnt {P : Pp} (hI : PI P) {n : Nat} (hn : n ≤ 9999) : PI (setnt P n) := ⟨hI.1, hI.2.1, hn, hI.2.2.2⟩
theorem n_mo_lt (m g b : Nat) : n_mo m g b < 100 := Nat.lt_succ_of_le (w_cl_le (by decide))
theorem n_lo_lt (x : Nat) : n_lo x < 65536 := Nat.mod_lt _ (by decide)
theorem PI_dr {P : Pp} (hI : PI P) {p k h l : Nat} (hp : p < 16) : PI (n_dr P p k h l).1 := by
  have hL : PI (setlo P (n_lo (lo P))) := PI_setlo hI (n_lo_lt _)
  unfold n_dr
  by_cases z : n_lo (lo P) % 10 < h
  · rw [if_pos z]
    unfold n_le
    cases hu : n_un (setlo P (n_lo (lo P))) p k with
    | none => exact hL
    | some t =>
      have ht : t < 16 := by have := (fnd_some hu).2.1; omega
      exact PI_settp hL (Nat.or_lt_two_pow (n := 16) (hL.1 p hp).1 (p2_lt ht))
  · rw [if_neg z]; exact hL
theorem md_lo (P : Pp) (x : Nat) : md (setlo P x) = md P := rfl
theorem md_tp (P : Pp) (p x : Nat) : md (settp P p x) = md P := rfl
theorem nt_lo (P : Pp) (x : Nat) : nt (setlo P x) = nt P := rfl
theorem nt_tp (P : Pp) (p x : Nat) : nt (settp P p x) = nt P := rfl
theorem md_dr {P : Pp} {p k h l : Nat} : md (n_dr P p k h l).1 = md P := by
  unfold n_dr
  by_cases z : n_lo (lo P) % 10 < h
  · rw [if_pos z]
    unfold n_le
    cases hu : n_un (setlo P (n_lo (lo P))) p k with
    | none => exact md_lo _ _
    | some t => exact (md_tp _ _ _).trans (md_lo _ _)
  · rw [if_neg z]; exact md_lo _ _
theorem nt_dr {P : Pp} {p k h l : Nat} : nt (n_dr P p k h l).1 = nt P := by
  unfold n_dr
  by_cases z : n_lo (lo P) % 10 < h
  · rw [if_pos z]
    unfold n_le
    cases hu : n_un (setlo P (n_lo (lo P))) p k with
    | none => exact nt_lo _ _
    | some t => exact (nt_tp _ _ _).trans (nt_lo _ _)
  · rw [if_neg z]; exact nt_lo _ _
theorem PI_wk {F : Law} {p : Nat} {s : Ns} (hI : PI s.1) (hp : p < 16) : PI (n_wk F p s).1 ∧ nt (n_wk F p s).1 = nt s.1 := by
  unfold n_wk
  by_cases z : n_sil F s.1 p = true
  · rw [if_pos z]; exact ⟨hI, rfl⟩
  · rw [if_neg z]
    unfold n_wk2
    cases n_fav F s.1 p with
    | none => exact ⟨PI_setmd hI (n_mo_lt _ _ _), rfl⟩
    | some k => exact ⟨PI_setmd (PI_dr hI hp) (n_mo_lt _ _ _), nt_dr⟩
theorem PI_ps {F : Law} {p : Nat} {s : Ns} (hI : PI s.1) (hp : p < 16) : PI (n_ps F p s).1 ∧ nt (n_ps F p s).1 = nt s.1 := by
  unfold n_ps
  by_cases z : ((pl s.1 p).isSome && decide (0 < md s.1 p)) = true
  · rw [if_pos z]; exact PI_wk hI hp
  · rw [if_neg z]; exact ⟨hI, rfl⟩
theorem PI_fo {F : Law} {s : Ns} (hI : PI s.1) : ∀ n, n ≤ 16 → PI (fo (n_ps F) n s).1 ∧ nt (fo (n_ps F) n s).1 = nt s.1
  | 0, _ => ⟨hI, rfl⟩
  | n + 1, hn => by
    have ih := PI_fo (F := F) hI n (by omega)
    have := PI_ps (F := F) (p := n) ih.1 (by omega)
    exact ⟨this.1, this.2.trans ih.2⟩
theorem PI_ng {F : Law} {s : Ns} (hI : PI s.1) (hn : nt s.1 < 9999) : PI (n_ng F s).1 := by
  have := PI_fo (F := F) hI 16 (Nat.le_refl _)
  exact PI_setnt this.1 (by rw [this.2]; omega)
theorem PI_go {F : Law} : ∀ {j : Nat} {s : Ns}, PI s.1 → PI (n_go F j s).1
  | 0, s, h => h
  | j + 1, s, h => by
    show PI (if nt s.1 < 9999 then n_go F j (n_ng F s) else s).1
    by_cases z : nt s.1 < 9999
    · rw [if_pos z]; exact PI_go (PI_ng h z)
    · rw [if_neg z]; exact h
/-! numbers -/
theorem nI_neg {x : Nat} (hx : x ≤ 2 ^ 32) : -(nI x) = nI (2 ^ 32 - x) := by
  have h : nI (2 ^ 32 - x) + nI x = 0 := by
    rw [nI_add, Nat.sub_add_cancel hx]; decide
  have h2 : -(nI x) = 0 - nI x := by simp
  rw [h2, ← h]
  first | exact Int32.add_sub_cancel _ _ | simp
theorem nI_low {x t : Nat} (hx : x < 65536) (ht : x.testBit t = true) (hl : ∀ i, i < t → x.testBit i = false) : nI x &&& (-(nI x)) = nI (2 ^ t) := by
  have t16 : t < 16 := by
    apply Nat.lt_of_not_le
    intro z
    rw [Nat.testBit_lt_two_pow (Nat.lt_of_lt_of_le hx (Nat.pow_le_pow_right (n := 2) (by decide) z))] at ht
    exact absurd ht (by decide)
  have h2 := p2_lt t16
  have hpos : 0 < x := by
    apply Nat.pos_of_ne_zero
    intro z
    rw [z] at ht; simp at ht
  rw [nI_neg (by omega)]
  apply Int32.toBitVec_inj.mp
  apply BitVec.eq_of_toNat_eq
  show ((nI x).toBitVec &&& (nI (2 ^ 32 - x)).toBitVec).toNat = (nI (2 ^ t)).toBitVec.toNat
  rw [BitVec.toNat_and, pk_tn (by omega), pk_tn (by omega), pk_tn (by omega), low_bits (n := 32) (by omega) ht hl]
theorem nI_lo1 {x : Nat} (hx : x < 65536) : ((25173 : Int32) * nI x + 13849) &&& 65535 = nI (n_lo x) := by
  rw [n_25173, n_13849, pk_mul, nI_add, pk_andN (k := 16) (by omega) rfl]; rfl
theorem nI_lo2 {x : Nat} (hx : x < 65536) : ((25173 : Int32) * nI x + 13849) % 65536 = nI (n_lo x) := by
  rw [n_25173, n_13849, n_65536, pk_mul, nI_add, nI_rem (by omega) (by decide) (by decide)]; rfl
theorem pc_0 : pc 0 = 0 := by decide
section NY
variable {L d : Nat} {M : pu_M} {P : Pp} {y ly : Nat}
theorem CY_md (hC : CY P M y) {p m : Nat} : CY (setmd P p m) (pu_wr M (y + 2) p (nI m)) y := by
  obtain ⟨h1, h2, h3, h4, h5⟩ := hC
  refine ⟨fun q hq => ⟨?_, ?_, ?_⟩, fun w hw => ?_, ?_, ?_, ?_⟩
  · rw [pu_wr_ne (by omega)]; exact (h1 q hq).1
  · rw [pu_wr_self]
    show _ = nI (fset (md P) p m q)
    by_cases z : q = p
    · subst z; rw [upd_s, fset_s]
    · rw [upd_n z, fset_n z]; exact (h1 q hq).2.1
  · rw [pu_wr_ne (by omega)]; exact (h1 q hq).2.2
  · rw [pu_wr_ne (by omega)]; exact h2 w hw
  · rw [pu_wr_ne (by omega)]; exact h3
  · rw [pu_wr_ne (by omega)]; exact h4
  · rw [pu_wr_ne (by omega)]; exact h5
theorem CY_lo (hC : CY P M y) {x : Nat} : CY (setlo P x) (pu_wr M y 6 (nI x)) y := by
  obtain ⟨h1, h2, h3, h4, h5⟩ := hC
  refine ⟨fun q hq => ?_, fun w hw => ?_, ?_, ?_, ?_⟩
  · rw [pu_wr_ne (show y + 1 ≠ y by omega), pu_wr_ne (show y + 2 ≠ y by omega), pu_wr_ne (show y + 3 ≠ y by omega)]; exact h1 q hq
  · rw [pu_wr_ne (by omega)]; exact h2 w hw
  · rw [pu_wr_self, upd_n (by decide)]; exact h3
  · rw [pu_wr_self, upd_n (by decide)]; exact h4
  · rw [pu_wr_self, upd_s]; rfl
theorem CY_nt (hC : CY P M y) {x : Nat} : CY (setnt P x) (pu_wr M y 5 (nI x)) y := by
  obtain ⟨h1, h2, h3, h4, h5⟩ := hC
  refine ⟨fun q hq => ?_, fun w hw => ?_, ?_, ?_, ?_⟩
  · rw [pu_wr_ne (show y + 1 ≠ y by omega), pu_wr_ne (show y + 2 ≠ y by omega), pu_wr_ne (show y + 3 ≠ y by omega)]; exact h1 q hq
  · rw [pu_wr_ne (by omega)]; exact h2 w hw
  · rw [pu_wr_self, upd_n (by decide)]; exact h3
  · rw [pu_wr_self, upd_s]; rfl
  · rw [pu_wr_self, upd_n (by decide)]; exact h5
theorem CY_ot (hC : CY P M y) {k i : Nat} {x : Int32} (hk : k < y ∨ y + 4 < k) : CY P (pu_wr M k i x) y := by
  unfold CY
  rw [pu_wr_ne (show y + 1 ≠ k by omega), pu_wr_ne (show y + 2 ≠ k by omega), pu_wr_ne (show y + 3 ≠ k by omega), pu_wr_ne (show y + 4 ≠ k by omega), pu_wr_ne (show y ≠ k by omega)]
  exact hC
theorem CY_only {M' : pu_M} (hC : CY P M y) {S : Nat → Prop} (o : only S M M') (h : ∀ k, y ≤ k → k ≤ y + 4 → ¬ S k) : CY P M' y := by
  unfold CY
  rw [o (y + 1) (h _ (by omega) (by omega)), o (y + 2) (h _ (by omega) (by omega)), o (y + 3) (h _ (by omega) (by omega)), o (y + 4) (h _ (by omega) (by omega)), o y (h _ (by omega) (by omega))]
  exact hC
/-- what of the letters hangs on with whom one talks -/
theorem c_Y_tellLaw {Q : pu_M → Prop} {p : Nat} {k : Option Nat} (hy : pu_isY y) (hl : pu_isL ly) (hC : CY P M y) (hI : PI P) (hp : p < 16) (hk : ∀ q, k = some q → q < 16) (v4 : M (ly + 7) 4 = nI (md P p)) (v6 : M (ly + 7) 6 = nI (pc (bs (bsd P p) 16))) (v7 : M (ly + 7) 7 = nI (nt P % 100)) (H : ∀ M', kVl M' ly (n_fa P p k) → only (fun j => j = ly + 7) M M' → Q M') : pu_V L (d + 2) 62 [.ref 4, .ref y, .ref ly, .int (nI p), .int (pJ k)] M Q := by
  have hy' : 16 ≤ y ∧ y ≤ 26 := by unfold pu_isY at hy; omega
  have hl' : 31 ≤ ly ∧ ly ≤ 40 := by unfold pu_isL at hl; omega
  have ow : ∀ {M' : pu_M} {i : Nat} {x : Int32}, only (fun j => j = ly + 7) M M' → only (fun j => j = ly + 7) M (pu_wr M' (ly + 7) i x) := fun o => o.wr rfl
  have tpp := (hI.1 p hp).1
  have fin : ∀ (s2 x3 x5 x6 : Int32), s2 = n_fa P p k 1 → x3 = n_fa P p k 2 → x5 = n_fa P p k 3 → x6 = n_fa P p k 5 → Q (pu_wr (pu_wr (pu_wr (pu_wr (pu_wr M (ly + 7) (0 : Int32).toNatClampNeg (nI p)) (ly + 7) (1 : Int32).toNatClampNeg s2) (ly + 7) (2 : Int32).toNatClampNeg x3) (ly + 7) (3 : Int32).toNatClampNeg x5) (ly + 7) (5 : Int32).toNatClampNeg x6) := by
    intro s2 x3 x5 x6 e1 e2 e3 e5
    refine H _ (fun v hv => ?_) (ow (ow (ow (ow (ow (only.rf _ M))))))
    rw [pu_wr_self, pu_wr_self, pu_wr_self, pu_wr_self, pu_wr_self]
    have hcs : v = 0 ∨ v = 1 ∨ v = 2 ∨ v = 3 ∨ v = 4 ∨ v = 5 ∨ v = 6 ∨ v = 7 := by omega
    rcases hcs with rfl | rfl | rfl | rfl | rfl | rfl | rfl | rfl
    · rfl
    · exact e1
    · exact e2
    · exact e3
    · exact v4
    · exact e5
    · exact v6
    · exact v7
  refine r_Night_tellLaw hy hl ?_
  cases k with
  | none =>
    rw [if_pos (show pJ none < 0 by decide)]
    refine r_Night_tellLaw_17 hy hl ?_
    rw [if_neg (by decide), nI_clamp (by omega), (hC.1 p hp).1]
    refine ⟨inb_nI hp (by decide), r_Night_tellLaw_43 hy hl ?_⟩
    rw [if_neg (by decide)]
    refine r_Night_tellLaw_68 hy hl ⟨by decide, ?_⟩
    have z1 : nI (tp P p) &&& 0 = nI 0 := by rw [n_0, nI_and (by omega) (by decide)]; simp
    have z2 : (0 : Int32) &&& (nI (tp P p) ^^^ (-1)) = nI 0 := by
      rw [n_0, nI_andn (by decide) (by omega)]
      congr 1
    rw [z1]
    refine c_Int_bitCount (by decide) ?_
    rw [z2]
    refine c_Int_bitCount (by decide) ?_
    rw [if_neg (by decide)]
    exact fin 0 _ _ 0 rfl (by rw [pc_0]; rfl) (by rw [pc_0]; rfl) rfl
  | some q =>
    have hq := hk q rfl
    have tpq := (hI.1 q hq).1
    rw [if_neg (show ¬ pJ (some q) < 0 from nI_pos (by omega)), if_pos (show pJ (some q) < 16 by show nI q < 16; rw [n_16, nI_ltI (by omega) (by omega)]; exact hq)]
    refine r_Night_tellLaw_17 hy hl ?_
    rw [if_pos rfl]
    show mq_inb (nI p) 16 = true ∧ mq_inb (nI q) 16 = true ∧ pu_R L (d + 2) 62 43 [.ref 4, .ref y, .ref ly, .int (nI p), .int (nI q), .int 0, .int (M (y + 1) (nI p).toNatClampNeg), mq_un] [.int (M (y + 1) (nI q).toNatClampNeg)] M (pu_qV Q)
    rw [nI_clamp (show p < 2 ^ 31 by omega), nI_clamp (show q < 2 ^ 31 by omega), (hC.1 p hp).1, (hC.1 q hq).1]
    refine ⟨inb_nI hp (by decide), inb_nI hq (by decide), r_Night_tellLaw_43 hy hl ?_⟩
    rw [if_pos rfl]
    refine r_Night_tellLaw_68 hy hl ⟨by decide, ?_⟩
    rw [nI_and (by omega) (by omega)]
    refine c_Int_bitCount (tp_and hI hp hq) ?_
    rw [nI_andn (by omega) (by omega)]
    refine c_Int_bitCount (Nat.lt_of_lt_of_le (an_lt (n := 16) tpq (by decide)) (Nat.le_refl _)) ?_
    rw [if_pos rfl]
    refine ⟨inb_nI hq (by decide), fun M7 e7 => ?_⟩
    rw [nI_clamp (show q < 2 ^ 31 by omega), pu_wr_ne (show y + 2 ≠ ly + 7 by omega), pu_wr_ne (show y + 2 ≠ ly + 7 by omega), pu_wr_ne (show y + 2 ≠ ly + 7 by omega), pu_wr_ne (show y + 2 ≠ ly + 7 by omega), (hC.1 q hq).2.1] at e7
    rw [e7]
    exact fin (nI q) _ _ _ rfl rfl rfl rfl
theorem c_Y_learn {Q : pu_M → Prop} {p k l : Nat} (hy : pu_isY y) (hC : CY P M y) (hI : PI P) (hp : p < 16) (hk : k < 16) (hl : M 4 1 = nI l) (H : ∀ M', CY (n_le P p k l).1 M' y → M' 4 1 = nI (n_le P p k l).2 → (∀ j, j ≠ 1 → M' 4 j = M 4 j) → only (fun j => j = 4 ∨ j = y + 1) M M' → Q M') : pu_V L (d + 1) 63 [.ref 4, .ref y, .int (nI p), .int (nI k)] M Q := by
  have hy' : 16 ≤ y ∧ y ≤ 26 := by unfold pu_isY at hy; omega
  have tpp := (hI.1 p hp).1
  have tpk := (hI.1 k hk).1
  have hx : an (tp P k) (tp P p) < 2 ^ 16 := an_lt tpk (by decide)
  have bits : ∀ i, (an (tp P k) (tp P p)).testBit i = ((tp P k).testBit i && !(tp P p).testBit i) := fun i => an_bit (by omega) i
  refine r_Night_learn hy ?_
  rw [nI_clamp (show p < 2 ^ 31 by omega), nI_clamp (show k < 2 ^ 31 by omega), (hC.1 p hp).1, (hC.1 k hk).1, nI_andn (by omega) (by omega)]
  refine ⟨inb_nI hk (by decide), inb_nI hp (by decide), ?_⟩
  unfold n_le at H
  cases hu : n_un P p k with
  | none =>
    rw [hu] at H
    have e0 : an (tp P k) (tp P p) = 0 := by
      apply Nat.eq_of_testBit_eq
      intro i
      rw [Nat.zero_testBit]
      by_cases hi : i < 16
      · rw [bits]; exact fnd_none hu i (by omega) (by omega)
      · exact Nat.testBit_lt_two_pow (Nat.lt_of_lt_of_le hx (Nat.pow_le_pow_right (by decide) (by omega)))
    rw [e0, if_pos (show nI 0 = 0 from rfl)]
    exact H M hC hl (fun _ _ => rfl) (only.rf _ _)
  | some t =>
    rw [hu] at H
    obtain ⟨f1, f2, f3, f4⟩ := fnd_some hu
    have hb : (an (tp P k) (tp P p)).testBit t = true := by rw [bits]; exact f3
    have h2t := p2_lt (show t < 16 by omega)
    have hne : ¬ an (tp P k) (tp P p) = 0 := fun z => by rw [z] at hb; simp at hb
    rw [if_neg (by rw [n_0, nI_eq (by omega) (by decide)]; exact hne)]
    refine ⟨inb_nI hp (by decide), inb_nI hp (by decide), fun M5 e5 => ?_⟩
    rw [nI_low hx hb (fun i hi => by rw [bits]; exact f4 i (by omega) hi), nI_or (by omega) (by omega)] at e5
    have e41 : M5 4 1 = nI l := by rw [e5, pu_wr_ne (by omega)]; exact hl
    rw [e41, nI_1]
    have c5 : CY (settp P p (tp P p ||| 2 ^ t)) M5 y := by rw [e5]; exact CY_tp hC hp
    refine H _ (CY_ot c5 (by omega)) (by rw [pu_wr_self, upd_s]) (fun j hj => ?_) ?_
    · rw [pu_wr_self, upd_n hj, e5, pu_wr_ne (by omega)]
    · rw [e5]; exact ((only.rf (fun j => j = 4 ∨ j = y + 1) M).wr (Or.inr rfl)).wr (Or.inl rfl)
end NY
