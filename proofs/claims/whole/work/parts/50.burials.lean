/-! burials -/
def rdP (tb : Nat → Nat) (e q : Nat) (P : Pp) (p : Nat) : Int32 ⊕ (Pp × Nat) := match chR tb e 48 10 q with
  | none => .inl (flt 1 q)
  | some x => if ¬ ch tb e (q + 1) = 44 then .inl (flt 1 (q + 1)) else match chR tb e 48 10 (q + 2) with
    | none => .inl (flt 1 (q + 2))
    | some z => if 6 ≤ z then .inl (flt 3 (q + 2)) else if free1 P p (10 * z + x) = true then .inr (setpl P p (some (10 * z + x)), q + 3) else .inl (flt 8 q)
def rdO (tb : Nat → Nat) (e q : Nat) (P : Pp) (p : Nat) : Int32 ⊕ (Pp × Nat) := match chR tb e 97 16 q with
  | none => .inl (flt 1 q)
  | some r => if tl P r = true then .inr (swp P p r, q + 1) else .inl (flt 7 q)
def rdT (tb : Nat → Nat) (e q : Nat) (P : Pp) (p : Nat) (b : Bool) : Int32 ⊕ (Pp × Nat) := match chR tb e 65 16 q with
  | none => .inl (flt 1 q)
  | some t => .inr (settp P p (if b = true then tp P p ||| 2 ^ t else an (tp P p) (2 ^ t)), q + 1)
def rdC (tb : Nat → Nat) (e q : Nat) (P : Pp) (p : Nat) : Int32 ⊕ (Pp × Nat) :=
  if ch tb e q = 64 then rdP tb e (q + 1) P p
  else if ch tb e q = 33 then .inr (setpl P p none, q + 1)
  else if ch tb e q = 61 then rdO tb e (q + 1) P p
  else if ch tb e q = 43 then rdT tb e (q + 1) P p true
  else if ch tb e q = 45 then rdT tb e (q + 1) P p false
  else .inl (flt 1 q)
def rdB (tb : Nat → Nat) (e m q : Nat) (P : Pp) : Int32 ⊕ (Pp × Nat) := match chR tb e 97 16 q with
  | none => .inl (flt 1 q)
  | some p => if m = 20 then .inl (flt 4 q) else if tl P p = true then rdC tb e (q + 1) P p else .inl (flt 7 q)
def rdBs (tb : Nat → Nat) (e : Nat) : Nat → Nat → Nat → Pp → Int32 ⊕ (Nat × Pp)
  | 0, _, _, _ => .inl (-1)
  | g + 1, m, q, P => match rdB tb e m q P with
    | .inl f => .inl f
    | .inr (P', q') => if q' < e then (if ch tb e q' = 59 then rdBs tb e g (m + 1) (q' + 1) P' else .inl (flt 1 q')) else .inr (m + 1, P')
/-- a piece read from q on: a fault, or new people a few bytes on -/
def okB (e q : Nat) (R : Int32 ⊕ (Pp × Nat)) : Prop := match R with
  | .inl f => f < 0
  | .inr (P', q') => PI P' ∧ q' ≤ q + 3 ∧ q ≤ e
theorem PI_settp {P : Pp} (hI : PI P) {p t : Nat} (ht : t < 65536) : PI (settp P p t) := by
  obtain ⟨h1, h2, h3⟩ := hI
  refine ⟨fun q hq => ⟨?_, (h1 q hq).2.1, (h1 q hq).2.2⟩, h2, h3⟩
  show fset (tp P) p t q < _
  by_cases x : q = p
  · subst x; rw [fset_s]; exact ht
  · rw [fset_n x]; exact (h1 q hq).1
theorem PI_lay {P : Pp} (hI : PI P) {p w : Nat} (hw : w < 60) (ht : tl P p = true) (hf : free1 P p w = true) : PI (setpl P p (some w)) := by
  refine PI_setpl hI (fun w' h => ?_)
  obtain rfl := Option.some.inj h
  refine ⟨hw, ht, fun q hq hqp z => ?_⟩
  have := who_of hI hq z
  unfold free1 at hf
  rw [this] at hf
  simp at hf
  exact hqp hf
theorem rdP_ok {tb : Nat → Nat} {e q : Nat} {P : Pp} {p : Nat} (hq : q ≤ 300) (hI : PI P) (ht : tl P p = true) : okB e q (rdP tb e q P p) := by
  unfold rdP
  cases h1 : chR tb e 48 10 q with
  | none => exact flt_neg (by decide) (by decide) (by omega)
  | some x =>
    dsimp only
    split
    · exact flt_neg (by decide) (by decide) (by omega)
    · cases h2 : chR tb e 48 10 (q + 2) with
      | none => exact flt_neg (by decide) (by decide) (by omega)
      | some z =>
        dsimp only
        have hx := chR_lt h1
        have hz := chR_lt h2
        split
        · exact flt_neg (by decide) (by decide) (by omega)
        · split
          next hf => exact ⟨PI_lay hI (by omega) ht hf, by omega, by omega⟩
          · exact flt_neg (by decide) (by decide) (by omega)
theorem rdO_ok {tb : Nat → Nat} {e q : Nat} {P : Pp} {p : Nat} (hq : q ≤ 300) (hI : PI P) (hp : p < 16) (ht : tl P p = true) : okB e q (rdO tb e q P p) := by
  unfold rdO
  cases h1 : chR tb e 97 16 q with
  | none => exact flt_neg (by decide) (by decide) (by omega)
  | some r =>
    have hr := chR_lt h1
    dsimp only
    split
    next h => exact ⟨PI_swp hI hp hr.1 ht h, by omega, by omega⟩
    · exact flt_neg (by decide) (by decide) (by omega)
theorem rdT_ok {tb : Nat → Nat} {e q : Nat} {P : Pp} {p : Nat} {b : Bool} (hq : q ≤ 300) (hI : PI P) (hp : p < 16) : okB e q (rdT tb e q P p b) := by
  unfold rdT
  cases h1 : chR tb e 65 16 q with
  | none => exact flt_neg (by decide) (by decide) (by omega)
  | some r =>
    have hr := chR_lt h1
    have h2 := p2_lt hr.1
    have htp := (hI.1 p hp).1
    refine ⟨PI_settp hI ?_, by omega, by omega⟩
    split
    · exact Nat.or_lt_two_pow (n := 16) htp h2
    · exact an_lt (n := 16) htp (by decide)
theorem rdC_ok {tb : Nat → Nat} {e q : Nat} {P : Pp} {p : Nat} (hX : TX tb e) (hq : q ≤ 290) (hI : PI P) (hp : p < 16) (ht : tl P p = true) : match rdC tb e q P p with
    | .inl f => f < 0
    | .inr (P', q') => PI P' ∧ q' ≤ q + 4 := by
  unfold rdC
  have up : ∀ R, okB e (q + 1) R → match R with
    | .inl f => f < 0
    | .inr (P', q') => PI P' ∧ q' ≤ q + 4 := by
    intro R hR
    cases R with
    | inl f => exact hR
    | inr x => exact ⟨hR.1, by have := hR.2.1; omega⟩
  by_cases h1 : ch tb e q = 64
  · rw [if_pos h1]; exact up _ (rdP_ok (by omega) hI ht)
  rw [if_neg h1]
  by_cases h2 : ch tb e q = 33
  · rw [if_pos h2]; exact ⟨PI_none hI, by omega⟩
  rw [if_neg h2]
  by_cases h3 : ch tb e q = 61
  · rw [if_pos h3]; exact up _ (rdO_ok (by omega) hI hp ht)
  rw [if_neg h3]
  by_cases h4 : ch tb e q = 43
  · rw [if_pos h4]; exact up _ (rdT_ok (by omega) hI hp)
  rw [if_neg h4]
  by_cases h5 : ch tb e q = 45
  · rw [if_pos h5]; exact up _ (rdT_ok (by omega) hI hp)
  rw [if_neg h5]
  exact flt_neg (by decide) (by decide) (by omega)
theorem rdB_ok {tb : Nat → Nat} {e m q : Nat} {P : Pp} (hX : TX tb e) (hq : q ≤ 240) (hm : m ≤ 20) (hI : PI P) : match rdB tb e m q P with
    | .inl f => f < 0
    | .inr (P', q') => PI P' ∧ q' ≤ q + 5 ∧ m < 20 ∧ q < e := by
  unfold rdB
  cases h1 : chR tb e 97 16 q with
  | none => exact flt_neg (by decide) (by decide) (by omega)
  | some p =>
    have hp := chR_lt h1
    dsimp only
    by_cases hm20 : m = 20
    · rw [if_pos hm20]; exact flt_neg (by decide) (by decide) (by omega)
    · rw [if_neg hm20]
      by_cases ht : tl P p = true
      · rw [if_pos ht]
        have := rdC_ok (q := q + 1) hX (by omega) hI hp.1 ht
        revert this
        cases rdC tb e (q + 1) P p with
        | inl f => exact id
        | inr x => exact fun h => ⟨h.1, by have := h.2; omega, by omega, hp.2.1⟩
      · rw [if_neg ht]; exact flt_neg (by decide) (by decide) (by omega)
theorem rdBs_ok {tb : Nat → Nat} {e : Nat} (hX : TX tb e) : ∀ {g m q : Nat} {P : Pp}, g + m = 21 → m ≤ 20 → q ≤ 240 → PI P → match rdBs tb e g m q P with
    | .inl f => f < 0
    | .inr (n, P') => PI P' ∧ n ≤ 20
  | 0, m, q, P, _, _, _, _ => by unfold rdBs; decide
  | g + 1, m, q, P, hg, hm, hq, hI => by
    unfold rdBs
    have h := rdB_ok hX hq hm hI
    revert h
    cases rdB tb e m q P with
    | inl f => exact id
    | inr x =>
      intro h
      obtain ⟨h1, h2, h3, h4⟩ := h
      have he := hX.1
      dsimp only at h1 h2 ⊢
      by_cases hq' : x.2 < e
      · rw [if_pos hq']
        by_cases hc : ch tb e x.2 = 59
        · rw [if_pos hc]; exact rdBs_ok hX (by omega) (by omega) (by omega) h1
        · rw [if_neg hc]; exact flt_neg (by decide) (by decide) (by omega)
      · rw [if_neg hq']; exact ⟨h1, by omega⟩
def bS (y k : Nat) : Prop := k = 1 ∨ yS y k
section BU
variable {L d : Nat} {M : pu_M} {tb : Nat → Nat} {e q m y : Nat} {f : Int32} {P : Pp}
theorem only_1b {M' : pu_M} (o : only (fun k => k = 1) M M') : only (bS y) M M' := fun k hk => o k (fun z => hk (Or.inl z))
theorem only_yb {M' : pu_M} (o : only (yS y) M M') : only (bS y) M M' := fun k hk => o k (fun z => hk (Or.inr z))
theorem TS_y (hy : pu_isY y) {M' : pu_M} (h : TS M tb e q) (o : only (yS y) M M') : TS M' tb e q := by
  have : 16 ≤ y := by unfold pu_isY at hy; omega
  exact TS_only h o (fun z => by have := z.1; omega) (fun z => by have := z.1; omega)
theorem fset_fset {α : Type} {g : Nat → α} {p : Nat} {a b : α} : fset (fset g p a) p b = fset g p b := by
  funext k; unfold fset; by_cases h : k = p <;> simp [h]
theorem setpl_2 {p : Nat} {a b : Option Nat} : setpl (setpl P p a) p b = setpl P p b := by
  show (tl P, tp P, md P, fset (fset (pl P) p a) p b, nt P, lo P) = _
  rw [fset_fset]; rfl
theorem c_Y_bitOnB {Q : Int32 → pu_M → Prop} {w : Nat} (hy : pu_isY y) (hC : CY P M y) (hw : w < 60) (H : Q (nI (bw (who P w))) M) : pu_I L (d + 1) 112 [.ref y, .int (nI w)] M Q := by
  refine c_Y_bitOn hy hC hw ?_
  unfold bw at H
  exact H
theorem c_Y_lay {Q : pu_M → Prop} {p : Nat} {o : Option Nat} (hy : pu_isY y) (hC : CY P M y) (hI : PI P) (hp : p < 16) (hI' : PI (setpl P p o)) (H : ∀ M', CY (setpl P p o) M' y → only (yS y) M M' → Q M') : pu_V L (d + 4) 110 [.ref y, .int (nI p), .int (pI o)] M Q := by
  refine r_Yard_lay hy (c_Y_takeUp hy hC hI hp (fun M1 c1 o1 => ?_))
  cases o with
  | none => rw [if_pos (show pI none < 0 by decide)]; exact H M1 c1 o1
  | some w =>
    have hw : w < 60 := ((hI'.1 p hp).2.2 w (show fset (pl P) p (some w) p = some w by rw [fset_s])).1
    rw [pI, if_neg (nI_pos (by omega)), if_neg (lt60 hw), nI_clamp (by omega), nI_clamp (by omega)]
    refine ⟨inb_nI hp (by decide), inb_nI hw (by decide), ?_⟩
    have hI2 : PI (setpl (setpl P p none) p (some w)) := by rw [setpl_2]; exact hI'
    have hwho := who_setpl (PI_none hI (p := p)) hp hI2
    have hC2 : CY (setpl (setpl P p none) p (some w)) (pu_wr (pu_wr M1 (y + 3) p (nI w)) (y + 4) w (nI p)) y := by
      refine CY_setpl c1 (PI_none hI) hp hI2 (fun k k3 k4 => by rw [pu_wr_ne k4, pu_wr_ne k3]) (fun q hq => ?_) (fun w' hw' => ?_)
      · rw [pu_wr_ne (by omega), pu_wr_self]
        by_cases x : q = p
        · subst x; rw [upd_s, fset_s]; rfl
        · rw [upd_n x, fset_n x]; exact (c1.1 q hq).2.2
      · rw [pu_wr_self, pu_wr_ne (by omega), hwho w']
        by_cases x : w' = w
        · subst x; rw [upd_s, if_pos rfl]; rfl
        · rw [upd_n x, if_neg (fun z => x (Option.some.inj z).symm), c1.2.1 w' hw', if_neg]
          intro z
          have : fset (pl P) p none p = some w' := (who_some z).2
          rw [fset_s] at this; cases this
    rw [setpl_2] at hC2
    exact H _ hC2 ((o1.wr ⟨by omega, by omega⟩).wr ⟨by omega, by omega⟩)
theorem c_Y_exchange {Q : pu_M → Prop} {p r : Nat} (hy : pu_isY y) (hC : CY P M y) (hI : PI P) (hp : p < 16) (hr : r < 16) (tp' : tl P p = true) (tr : tl P r = true) (H : ∀ M', CY (swp P p r) M' y → only (yS y) M M' → Q M') : pu_V L (d + 5) 111 [.ref y, .int (nI p), .int (nI r)] M Q := by
  refine r_Yard_exchange hy ⟨inb_nI hp (by decide), inb_nI hr (by decide), ?_⟩
  rw [nI_clamp (by omega), nI_clamp (by omega), (hC.1 p hp).2.2, (hC.1 r hr).2.2]
  have i1 := PI_none hI (p := p)
  have i2 := PI_none i1 (p := r)
  have i3 : PI (setpl (setpl (setpl P p none) r none) p (pl P r)) := PI_setpl i2 (fun w hw => ⟨((hI.1 r hr).2.2 w hw).1, tp', fun k hk hkp z => by
    have z' : fset (fset (pl P) p none) r none k = some w := z
    by_cases x : k = r
    · subst x; rw [fset_s] at z'; cases z'
    · rw [fset_n x, fset_n hkp] at z'
      exact x (hI.2.1 k r w hk hr z' hw)⟩)
  have i4 : PI (setpl (setpl (setpl (setpl P p none) r none) p (pl P r)) r (pl P p)) := PI_setpl i3 (fun w hw => ⟨((hI.1 p hp).2.2 w hw).1, tr, fun k hk hkr z => by
    have z' : fset (fset (fset (pl P) p none) r none) p (pl P r) k = some w := z
    by_cases x : k = p
    · subst x; rw [fset_s] at z'
      exact hkr (hI.2.1 k r w hk hr hw z')
    · rw [fset_n x, fset_n hkr, fset_n x] at z'
      exact x (hI.2.1 k p w hk hp z' hw)⟩)
  have es : setpl (setpl (setpl (setpl P p none) r none) p (pl P r)) r (pl P p) = swp P p r := by
    show (tl P, tp P, md P, fset (fset (fset (fset (pl P) p none) r none) p (pl P r)) r (pl P p), nt P, lo P) = (tl P, tp P, md P, (fun k => pl P (sw p r k)), nt P, lo P)
    congr 4
    funext k
    unfold sw
    by_cases x : k = r
    · rw [x, fset_s]
      by_cases z : r = p
      · rw [if_pos z, z]
      · rw [if_neg z, if_pos rfl]
    · rw [fset_n x]
      by_cases z : k = p
      · rw [z, fset_s, if_pos rfl]
      · rw [fset_n z, fset_n x, fset_n z, if_neg z, if_neg x]
  refine c_Y_takeUp hy hC hI hp (fun M1 c1 o1 => c_Y_takeUp hy c1 i1 hr (fun M2 c2 o2 => c_Y_lay hy c2 i2 hp i3 (fun M3 c3 o3 => c_Y_lay hy c3 i3 hr i4 (fun M4 c4 o4 => ?_))))
  rw [es] at c4
  exact H M4 c4 (((o1.tr o2).tr o3).tr o4)
theorem c_B_among {Q : Int32 → pu_M → Prop} {a n : Nat} (hX : TX tb e) (hq : q ≤ 1000) (han : a + n < 1000) (h : TS M tb e q) (H : match chR tb e a n q with
    | none => ∀ M', DS M' (flt 1 q) → only (fun k => k = 1) M M' → Q (-1) M'
    | some k => ∀ M', TS M' tb e (q + 1) → only (fun k => k = 1) M M' → Q (nI k) M') : pu_I L (d + 2) 6 [.ref 3, .int (nI a), .int (nI n)] M Q := by
  refine r_BurialReader_readAmong (c_T_among hX han h ?_)
  cases hr : chR tb e a n q with
  | none => rw [hr] at H; rw [if_pos (show pJ none = -1 from rfl)]; exact c_T_failq h H
  | some k =>
    rw [hr] at H
    have := chR_lt hr
    rw [if_neg (show ¬ pJ (some k) = -1 from fun z => (nI_m1 (by omega)).mp z)]
    exact c_T_step hX hq h H
theorem c_B_amongD {Q : Int32 → pu_M → Prop} {a n : Nat} (ha : a < 1000) (hf : ¬ f = 0) (h : DS M f) (H : Q (-1) M) : pu_I L (d + 2) 6 [.ref 3, .int (nI a), .int (nI n)] M Q := by
  refine r_BurialReader_readAmong (c_D_among ha h ?_)
  rw [if_pos rfl]; exact c_D_fail hf h H
theorem c_B_one {Q : Int32 → pu_M → Prop} (hy : pu_isY y) (hC : CY P M y) (hX : TX tb e) (hq : q ≤ 900) (h : TS M tb e q) (H : match chR tb e 97 16 q with
    | none => ∀ M', DS M' (flt 1 q) → only (fun k => k = 1) M M' → Q (-1) M'
    | some k => if tl P k = true then ∀ M', TS M' tb e (q + 1) → only (fun k => k = 1) M M' → Q (nI k) M' else ∀ M', DS M' (flt 7 q) → only (fun k => k = 1) M M' → Q (-1) M') : pu_I L (d + 3) 3 [.ref 3, .ref y] M Q := by
  refine r_BurialReader_readOne hy (c_B_among (a := 97) (n := 16) hX (by omega) (by decide) h ?_)
  cases hr : chR tb e 97 16 q with
  | none => rw [hr] at H; exact fun M1 t1 o1 => by rw [if_pos rfl]; exact H M1 t1 o1
  | some k =>
    rw [hr] at H
    have hk := (chR_lt hr).1
    refine fun M1 t1 o1 => ?_
    rw [if_neg (fun z => (nI_m1 (by omega)).mp z)]
    refine c_Y_isTold hy (CY_only1 hy hC o1) hk ?_
    dsimp only at H
    cases ht : tl P k with
    | true => rw [ht, if_pos rfl] at H; rw [if_pos rfl, if_neg (by decide)]; exact H M1 t1 o1
    | false =>
      rw [ht, if_neg (by decide)] at H
      rw [if_neg (by decide), if_pos rfl, t1.2.2.1, n_1, pk_sub (by omega), Nat.add_sub_cancel]
      exact c_T_fail t1 (fun M2 t2 o2 => H M2 t2 (o1.tr o2))
theorem c_B_oneD {Q : Int32 → pu_M → Prop} (hy : pu_isY y) (hf : ¬ f = 0) (h : DS M f) (H : Q (-1) M) : pu_I L (d + 3) 3 [.ref 3, .ref y] M Q := by
  refine r_BurialReader_readOne hy (c_B_amongD (a := 97) (n := 16) (by decide) hf h ?_)
  rw [if_pos rfl]; exact H
/-- what reading a piece leaves -/
def aft (M : pu_M) (tb : Nat → Nat) (e y : Nat) (Q : pu_M → Prop) (R : Int32 ⊕ (Pp × Nat)) : Prop := match R with
  | .inl f => ∀ M', DS M' f → only (bS y) M M' → Q M'
  | .inr (P', q') => ∀ M', TS M' tb e q' → CY P' M' y → only (bS y) M M' → Q M'
theorem aft_tr {M1 : pu_M} {Q : pu_M → Prop} {R : Int32 ⊕ (Pp × Nat)} (o : only (bS y) M M1) (H : aft M tb e y Q R) : aft M1 tb e y Q R := by
  cases R with
  | inl f => exact fun M' a b => H M' a (o.tr b)
  | inr x => exact fun M' a c b => H M' a c (o.tr b)
theorem c_B_plot {Q : pu_M → Prop} {p : Nat} (hy : pu_isY y) (hC : CY P M y) (hI : PI P) (hp : p < 16) (ht : tl P p = true) (hX : TX tb e) (hq : q ≤ 300) (h : TS M tb e q) (H : aft M tb e y Q (rdP tb e q P p)) : pu_V L (d + 5) 5 [.ref 3, .ref y, .int (nI p)] M Q := by
  refine r_BurialReader_readPlot hy ?_
  rw [h.2.2.1]
  have dead60 : ∀ {M2 : pu_M} {g v3 v4 v5 : Int32}, ¬ g = 0 → DS M2 g → Q M2 → pu_R L (d + 5) 5 60 [.ref 3, .ref y, .int (nI p), .int v3, .int v4, .int v5, mq_un] [] M2 (pu_qV Q) := by
    intro M2 g v3 v4 v5 hg h2 hQ
    refine r_BurialReader_readPlot_60 hy ?_
    rw [if_neg (by rw [h2.1]; exact hg)]; exact hQ
  refine c_B_among (a := 48) (n := 10) hX (by omega) (by decide) h ?_
  unfold rdP at H
  cases hx : chR tb e 48 10 q with
  | none =>
    rw [hx] at H
    have hf : ¬ flt 1 q = 0 := neg_ne (flt_neg (by decide) (by decide) (by omega))
    refine fun M1 t1 o1 => c_D_wants (by decide) hf t1 (c_B_amongD (a := 48) (n := 10) (by decide) hf t1 ?_)
    rw [if_pos (by decide)]
    exact dead60 hf t1 (H M1 t1 (only_1b o1))
  | some x =>
    rw [hx] at H
    have hx10 := (chR_lt hx).1
    refine fun M1 t1 o1 => c_T_wants hX (by omega) t1 (fun hc M2 t2 o2 => ?_) (fun hc M2 t2 o2 => ?_)
    · dsimp only at H
      rw [if_neg (fun z => z hc)] at H
      refine c_B_among (a := 48) (n := 10) hX (by omega) (by decide) t2 ?_
      have o12 : only (bS y) M M2 := (only_1b o1).tr (only_1b o2)
      cases hz : chR tb e 48 10 (q + 1 + 1) with
      | none =>
        rw [show q + 2 = q + 1 + 1 from rfl, hz] at H
        have hf : ¬ flt 1 (q + 1 + 1) = 0 := neg_ne (flt_neg (by decide) (by decide) (by omega))
        refine fun M3 t3 o3 => ?_
        rw [if_pos (by decide)]
        exact dead60 hf t3 (H M3 t3 (o12.tr (only_1b o3)))
      | some z =>
        rw [show q + 2 = q + 1 + 1 from rfl, hz] at H
        have hz10 := (chR_lt hz).1
        refine fun M3 t3 o3 => ?_
        have o13 : only (bS y) M M3 := o12.tr (only_1b o3)
        dsimp only at H
        by_cases h6 : 6 ≤ z
        · rw [if_pos h6] at H
          have hf : ¬ flt 3 (q + 1 + 1) = 0 := neg_ne (flt_neg (by decide) (by decide) (by omega))
          rw [if_neg (by rw [n_5, nI_leI (by omega) (by omega)]; omega), t3.2.2.1, n_1, pk_sub (by omega), Nat.add_sub_cancel]
          exact c_T_fail t3 (fun M4 t4 o4 => dead60 hf t4 (H M4 t4 (o13.tr (only_1b o4))))
        · rw [if_neg h6] at H
          rw [if_pos (by rw [n_5, nI_leI (by omega) (by omega)]; omega)]
          refine r_BurialReader_readPlot_60 hy ?_
          have ew : nI z * 10 + nI x = nI (10 * z + x) := by rw [n_10, pk_mul, nI_add, Nat.mul_comm]
          have hw : 10 * z + x < 60 := by omega
          have c3 : CY P M3 y := CY_only1 hy (CY_only1 hy (CY_only1 hy hC o1) o2) o3
          rw [if_pos t3.2.2.2.1, ew]
          refine c_Y_bitOnB hy c3 hw ?_
          have hcond : (nI (bw (who P (10 * z + x))) &&& ((1 <<< (nI p &&& 31)) ^^^ (-1)) = 0) ↔ free1 P p (10 * z + x) = true := by
            have hl : bw (who P (10 * z + x)) < 65536 := bw_lt _
            have hp2 := p2_lt hp
            have hal : an (bw (who P (10 * z + x))) (2 ^ p) < 2 ^ 16 := an_lt (n := 16) hl (by decide)
            rw [nI_pow (by omega), nI_andn (by omega) (by omega), nI_zero (by omega)]
            unfold an
            rw [bs_zero]
            unfold free1
            cases ew : who P (10 * z + x) with
            | none => simp [bw]
            | some q =>
              have hq := (who_some ew).1
              simp only [bw, Nat.testBit_two_pow]
              constructor
              · intro h
                have := h q (by omega)
                simp at this
                simp [this]
              · intro h j hj
                simp at h
                subst h
                simp
          by_cases hfr : free1 P p (10 * z + x) = true
          · rw [if_pos hfr] at H
            rw [if_pos (hcond.mpr hfr), show nI (10 * z + x) = pI (some (10 * z + x)) from rfl]
            exact c_Y_lay hy c3 hI hp (PI_lay hI hw ht hfr) (fun M4 c4 o4 => H M4 (TS_y hy t3 o4) c4 (o13.tr (only_yb o4)))
          · rw [if_neg hfr] at H
            rw [if_neg (fun z => hfr (hcond.mp z))]
            exact c_T_fail t3 (fun M4 t4 o4 => H M4 t4 (o13.tr (only_1b o4)))
    · dsimp only at H
      rw [if_pos hc] at H
      have hf : ¬ flt 1 (q + 1) = 0 := neg_ne (flt_neg (by decide) (by decide) (by omega))
      refine c_B_amongD (a := 48) (n := 10) (by decide) hf t2 ?_
      rw [if_pos (by decide)]
      exact dead60 hf t2 (H M2 t2 ((only_1b o1).tr (only_1b o2)))
theorem CY_tp (hC : CY P M y) {p t : Nat} (hp : p < 16) : CY (settp P p t) (pu_wr M (y + 1) p (nI t)) y := by
  obtain ⟨c1, c2, c3, c4, c5⟩ := hC
  refine ⟨fun r hr => ⟨?_, ?_, ?_⟩, fun w hw => ?_, ?_, ?_, ?_⟩
  · rw [pu_wr_self]
    show _ = nI (fset (tp P) p t r)
    by_cases x : r = p
    · subst x; rw [upd_s, fset_s]
    · rw [upd_n x, fset_n x]; exact (c1 r hr).1
  · rw [pu_wr_ne (by omega)]; exact (c1 r hr).2.1
  · rw [pu_wr_ne (by omega)]; exact (c1 r hr).2.2
  · rw [pu_wr_ne (by omega)]; exact c2 w hw
  · rw [pu_wr_ne (by omega)]; exact c3
  · rw [pu_wr_ne (by omega)]; exact c4
  · rw [pu_wr_ne (by omega)]; exact c5
theorem c_B_topic {Q : Int32 → pu_M → Prop} (hX : TX tb e) (hq : q ≤ 900) (h : TS M tb e q) (H : match chR tb e 65 16 q with
    | none => ∀ M', DS M' (flt 1 q) → only (fun k => k = 1) M M' → Q 0 M'
    | some k => ∀ M', TS M' tb e (q + 1) → only (fun k => k = 1) M M' → Q (nI (2 ^ k)) M') : pu_I L (d + 3) 4 [.ref 3] M Q := by
  refine r_BurialReader_readTopic (c_B_among (a := 65) (n := 16) hX (by omega) (by decide) h ?_)
  cases hr : chR tb e 65 16 q with
  | none => rw [hr] at H; exact fun M1 t1 o1 => by rw [if_pos rfl]; exact H M1 t1 o1
  | some k =>
    rw [hr] at H
    have hk := (chR_lt hr).1
    refine fun M1 t1 o1 => ?_
    rw [if_neg (fun z => (nI_m1 (by omega)).mp z), nI_pow (by omega)]
    exact H M1 t1 o1
theorem c_B_36 {Q : pu_M → Prop} {v2 : Int32} (hy : pu_isY y) (hC : CY P M y) (hI : PI P) (hX : TX tb e) (hq : q ≤ 240) (h : TS M tb e q) (H : aft M tb e y Q (match chR tb e 97 16 q with
    | none => .inl (flt 1 q)
    | some p => if tl P p = true then rdC tb e (q + 1) P p else .inl (flt 7 q))) : pu_R L (d + 6) 2 36 [.ref 3, .ref y, .int v2, mq_un, mq_un] [] M (pu_qV Q) := by
  have h16 : 16 ≤ y := by unfold pu_isY at hy; omega
  refine r_BurialReader_readLine_36 hy (c_B_one hy hC hX (by omega) h ?_)
  cases hr : chR tb e 97 16 q with
  | none => rw [hr] at H; exact fun M1 t1 o1 => by rw [if_pos rfl]; exact H M1 t1 (only_1b o1)
  | some p =>
    rw [hr] at H
    have hp := (chR_lt hr).1
    dsimp only at H ⊢
    cases ht : tl P p with
    | false => rw [ht, if_neg (by decide)] at H; rw [if_neg (by decide)]; exact fun M1 t1 o1 => by rw [if_pos rfl]; exact H M1 t1 (only_1b o1)
    | true =>
      rw [ht, if_pos rfl] at H; rw [if_pos rfl]
      refine fun M1 t1 o1 => ?_
      rw [if_neg (fun z => (nI_m1 (by omega)).mp z)]
      have c1 := CY_only1 hy hC o1
      unfold rdC at H
      refine c_T_takes hX (by omega) t1 (fun h64 M2 t2 o2 => ?_) (fun h64 => ?_)
      · rw [if_pos h64] at H
        rw [if_neg (by decide)]
        exact c_B_plot hy (CY_only1 hy c1 o2) hI hp ht hX (by omega) t2 (aft_tr ((only_1b o1).tr (only_1b o2)) H)
      rw [if_neg h64] at H
      rw [if_pos rfl]
      refine c_T_takes hX (by omega) t1 (fun h33 M2 t2 o2 => ?_) (fun h33 => ?_)
      · rw [if_pos h33] at H
        rw [if_neg (by decide)]
        exact c_Y_takeUp hy (CY_only1 hy c1 o2) hI hp (fun M3 c3 o3 => H M3 (TS_y hy t2 o3) c3 (((only_1b o1).tr (only_1b o2)).tr (only_yb o3)))
      rw [if_neg h33] at H
      rw [if_pos rfl]
      refine c_T_takes hX (by omega) t1 (fun h61 M2 t2 o2 => ?_) (fun h61 => ?_)
      · rw [if_pos h61] at H
        rw [if_neg (by decide)]
        have c2 := CY_only1 hy c1 o2
        have o12 : only (bS y) M M2 := (only_1b o1).tr (only_1b o2)
        refine c_B_one hy c2 hX (by omega) t2 ?_
        unfold rdO at H
        cases hr2 : chR tb e 97 16 (q + 1 + 1) with
        | none => rw [hr2] at H; exact fun M3 t3 o3 => by rw [if_pos rfl]; exact H M3 t3 (o12.tr (only_1b o3))
        | some r =>
          rw [hr2] at H
          have hr16 := (chR_lt hr2).1
          dsimp only at H ⊢
          cases htr : tl P r with
          | false => rw [htr, if_neg (by decide)] at H; rw [if_neg (by decide)]; exact fun M3 t3 o3 => by rw [if_pos rfl]; exact H M3 t3 (o12.tr (only_1b o3))
          | true =>
            rw [htr, if_pos rfl] at H; rw [if_pos rfl]
            refine fun M3 t3 o3 => ?_
            rw [if_neg (fun z => (nI_m1 (by omega)).mp z)]
            exact c_Y_exchange hy (CY_only1 hy c2 o3) hI hp hr16 ht htr (fun M4 c4 o4 => H M4 (TS_y hy t3 o4) c4 ((o12.tr (only_1b o3)).tr (only_yb o4)))
      rw [if_neg h61] at H
      rw [if_pos rfl]
      have htp := (hI.1 p hp).1
      refine c_T_takes hX (by omega) t1 (fun h43 M2 t2 o2 => ?_) (fun h43 => ?_)
      · rw [if_pos h43] at H
        have c2 := CY_only1 hy c1 o2
        have o12 : only (bS y) M M2 := (only_1b o1).tr (only_1b o2)
        rw [if_neg (by decide), nI_clamp (by omega), (c2.1 p hp).1]
        refine ⟨inb_nI hp (by decide), c_B_topic hX (by omega) t2 ?_⟩
        unfold rdT at H
        cases hr2 : chR tb e 65 16 (q + 1 + 1) with
        | none =>
          rw [hr2] at H
          refine fun M3 t3 o3 => ⟨inb_nI hp (by decide), H _ (DS_only t3 ((only.rf (yS y) M3).wr ⟨by omega, by omega⟩) (fun z => by have := z.1; omega)) ((o12.tr (only_1b o3)).wr (Or.inr ⟨by omega, by omega⟩))⟩
        | some t =>
          rw [hr2] at H
          have h2t := p2_lt (chR_lt hr2).1
          refine fun M3 t3 o3 => ⟨inb_nI hp (by decide), ?_⟩
          rw [nI_or (by omega) (by omega)]
          have ow : only (yS y) M3 (pu_wr M3 (y + 1) p (nI (tp P p ||| 2 ^ t))) := (only.rf (yS y) M3).wr ⟨by omega, by omega⟩
          exact H _ (TS_y hy t3 ow) (CY_tp (CY_only1 hy c2 o3) hp) ((o12.tr (only_1b o3)).tr (only_yb ow))
      rw [if_neg h43] at H
      rw [if_pos rfl]
      refine c_T_takes hX (by omega) t1 (fun h45 M2 t2 o2 => ?_) (fun h45 => ?_)
      · rw [if_pos h45] at H
        have c2 := CY_only1 hy c1 o2
        have o12 : only (bS y) M M2 := (only_1b o1).tr (only_1b o2)
        rw [if_neg (by decide), nI_clamp (by omega), (c2.1 p hp).1]
        refine ⟨inb_nI hp (by decide), c_B_topic hX (by omega) t2 ?_⟩
        unfold rdT at H
        cases hr2 : chR tb e 65 16 (q + 1 + 1) with
        | none =>
          rw [hr2] at H
          refine fun M3 t3 o3 => ⟨inb_nI hp (by decide), H _ (DS_only t3 ((only.rf (yS y) M3).wr ⟨by omega, by omega⟩) (fun z => by have := z.1; omega)) ((o12.tr (only_1b o3)).wr (Or.inr ⟨by omega, by omega⟩))⟩
        | some t =>
          rw [hr2] at H
          have h2t := p2_lt (chR_lt hr2).1
          refine fun M3 t3 o3 => ⟨inb_nI hp (by decide), ?_⟩
          rw [nI_andn (by omega) (by omega)]
          have ow : only (yS y) M3 (pu_wr M3 (y + 1) p (nI (an (tp P p) (2 ^ t)))) := (only.rf (yS y) M3).wr ⟨by omega, by omega⟩
          exact H _ (TS_y hy t3 ow) (CY_tp (CY_only1 hy c2 o3) hp) ((o12.tr (only_1b o3)).tr (only_yb ow))
      rw [if_neg h45] at H
      rw [if_pos rfl]
      exact c_T_failq t1 (fun M2 t2 o2 => H M2 t2 ((only_1b o1).tr (only_1b o2)))
theorem c_B_line {Q : pu_M → Prop} (hy : pu_isY y) (hC : CY P M y) (hI : PI P) (hX : TX tb e) (hq : q ≤ 240) (hm : m ≤ 20) (h : TS M tb e q) (H : aft M tb e y Q (rdB tb e m q P)) : pu_V L (d + 6) 2 [.ref 3, .ref y, .int (nI m)] M Q := by
  refine r_BurialReader_readLine hy (c_T_among (a := 97) (n := 16) hX (by decide) h ?_)
  unfold rdB at H
  cases hr : chR tb e 97 16 q with
  | none =>
    rw [hr] at H
    rw [if_pos (show pJ none = -1 from rfl)]
    exact c_B_36 hy hC hI hX hq h (by rw [hr]; exact H)
  | some p =>
    rw [hr] at H
    have hp := (chR_lt hr).1
    rw [if_neg (show ¬ pJ (some p) = -1 from fun z => (nI_m1 (by omega)).mp z)]
    dsimp only at H
    by_cases hm20 : m = 20
    · rw [if_pos hm20] at H
      rw [if_neg (by rw [n_20, nI_ltI (by omega) (by omega)]; omega)]
      have hf : ¬ flt 4 q = 0 := neg_ne (flt_neg (by decide) (by decide) (by omega))
      refine c_T_failq h (fun M1 t1 o1 => r_BurialReader_readLine_36 hy (c_B_oneD hy hf t1 ?_))
      rw [if_pos rfl]; exact H M1 t1 (only_1b o1)
    · rw [if_neg hm20] at H
      rw [if_pos (by rw [n_20, nI_ltI (by omega) (by omega)]; omega)]
      exact c_B_36 hy hC hI hX hq h (by rw [hr]; exact H)
theorem c_B_read {Q : Int32 → pu_M → Prop} (hy : pu_isY y) (hX : TX tb e) : ∀ {g m q : Nat} {P : Pp} {M : pu_M}, g + m = 21 → m ≤ 20 → q ≤ 240 → PI P → TS M tb e q → CY P M y → (match rdBs tb e g m q P with
    | .inl f => ∀ M', M' 1 1 = 0 → only (bS y) M M' → Q f M'
    | .inr (n, P') => ∀ M', M' 1 1 = 0 → CY P' M' y → only (bS y) M M' → Q (nI n) M') → pu_R L (d + 7) 1 4 [.ref 3, .ref y, .int (nI m), .int 1] [] M (pu_qI Q)
  | 0, m, q, P, M, hg, hm, hq, hI, hT, hC, H => by omega
  | g + 1, m, q, P, M, hg, hm, hq, hI, hT, hC, H => by
    have he := hX.1
    refine r_BurialReader_read_4 hy ?_
    rw [if_neg (by decide), if_neg (by rw [n_20, nI_ltI (by omega) (by omega)]; omega), nI_1]
    refine c_B_line hy hC hI hX hq hm hT ?_
    unfold rdBs at H
    have hok := rdB_ok hX hq hm hI
    revert H hok
    cases rdB tb e m q P with
    | inl f =>
      intro H hok
      have hf := neg_ne hok
      refine fun M1 t1 o1 => c_D_next hf t1 (r_BurialReader_read_4 hy ?_)
      rw [if_pos rfl]
      exact c_D_answer hf t1 (H M1 t1.2.2 o1)
    | inr x =>
      obtain ⟨P', q'⟩ := x
      intro H hok
      obtain ⟨h1, h2, h3, h4⟩ := hok
      dsimp only at H
      refine fun M1 t1 c1 o1 => c_T_next hX (by omega) t1 (fun hn => ?_) (fun hqe hc M2 t2 o2 => ?_) (fun hqe hc M2 t2 o2 => ?_)
      · rw [if_neg hn] at H
        refine r_BurialReader_read_4 hy ?_
        rw [if_pos rfl]
        exact c_T_answer t1 (H M1 t1.2.2.2.2.2 c1 o1)
      · rw [if_pos hqe, if_pos hc] at H
        refine c_B_read hy hX (g := g) (P := P') (by omega) (by omega) (by omega) h1 t2 (CY_only1 hy c1 o2) ?_
        revert H
        generalize rdBs tb e g (m + 1) (q' + 1) P' = R
        intro H
        cases R with
        | inl f => exact fun M' a o => H M' a ((o1.tr (only_1b o2)).tr o)
        | inr z => exact fun M' a c o => H M' a c ((o1.tr (only_1b o2)).tr o)
      · rw [if_pos hqe, if_neg hc] at H
        have hf : ¬ flt 1 q' = 0 := neg_ne (flt_neg (by decide) (by decide) (by omega))
        refine r_BurialReader_read_4 hy ?_
        rw [if_pos rfl]
        exact c_D_answer hf t2 (H M2 t2.2.2 (o1.tr (only_1b o2)))
end BU
