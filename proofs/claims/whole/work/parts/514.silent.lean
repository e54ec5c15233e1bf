/-! silent, visit, visited -/
def mnb (D : Nat → Option Nat) (w u : Nat) (a : Option Nat) : Option Nat :=
  if nx w u = true then (match D u with | none => a | some s => (match a with | none => some s | some b => if s < b then some s else some b)) else a
theorem mnb_0 {D : Nat → Option Nat} {w u : Nat} {a : Option Nat} (h : nx w u = false) : mnb D w u a = a := by unfold mnb; rw [h]; rfl
theorem mnb_1 {D : Nat → Option Nat} {w u : Nat} {a : Option Nat} (h : D u = none) : mnb D w u a = a := by unfold mnb; rw [h]; split <;> rfl
theorem mnb_2 {D : Nat → Option Nat} {w u s : Nat} (h : nx w u = true) (h2 : D u = some s) : mnb D w u none = some s := by unfold mnb; rw [h, h2]; rfl
theorem mnb_3 {D : Nat → Option Nat} {w u s b : Nat} (h : nx w u = true) (h2 : D u = some s) : mnb D w u (some b) = if s < b then some s else some b := by unfold mnb; rw [h, h2]; rfl
theorem mnb_sp {D : Nat → Option Nat} {w : Nat} : ∀ n, (fo (mnb D w) n none = none → ∀ u, u < n → nx w u = true → D u = none) ∧ (∀ b, fo (mnb D w) n none = some b → (∃ u, u < n ∧ nx w u = true ∧ D u = some b) ∧ ∀ u, u < n → nx w u = true → ∀ s, D u = some s → b ≤ s)
  | 0 => ⟨fun _ u hu => absurd hu (by omega), fun b hb => by cases hb⟩
  | n + 1 => by
    have ih := mnb_sp (D := D) (w := w) n
    show (mnb D w n (fo (mnb D w) n none) = none → _) ∧ (∀ b, mnb D w n (fo (mnb D w) n none) = some b → _)
    generalize fo (mnb D w) n none = a at ih ⊢
    obtain ⟨i1, i2⟩ := ih
    cases hn : nx w n with
    | false =>
      rw [mnb_0 hn]
      constructor
      · intro h u hu hx
        by_cases e : u = n
        · subst e; rw [hn] at hx; exact absurd hx (by decide)
        · exact i1 h u (by omega) hx
      · intro b hb
        obtain ⟨⟨u, a1, a2, a3⟩, a4⟩ := i2 b hb
        refine ⟨⟨u, by omega, a2, a3⟩, ?_⟩
        intro u hu hx
        by_cases e : u = n
        · subst e; rw [hn] at hx; exact absurd hx (by decide)
        · exact a4 u (by omega) hx
    | true =>
      cases hd : D n with
      | none =>
        rw [mnb_1 hd]
        constructor
        · intro h u hu hx
          by_cases e : u = n
          · subst e; exact hd
          · exact i1 h u (by omega) hx
        · intro b hb
          obtain ⟨⟨u, a1, a2, a3⟩, a4⟩ := i2 b hb
          refine ⟨⟨u, by omega, a2, a3⟩, ?_⟩
          intro u hu hx s hs
          by_cases e : u = n
          · subst e; rw [hd] at hs; cases hs
          · exact a4 u (by omega) hx s hs
      | some s0 =>
        cases a with
        | none =>
          rw [mnb_2 hn hd]
          constructor
          · intro h; cases h
          · intro b hb
            obtain rfl : s0 = b := by simpa using hb
            refine ⟨⟨n, by omega, hn, hd⟩, ?_⟩
            intro u hu hx s hs
            by_cases e : u = n
            · subst e; rw [hd] at hs
              obtain rfl : s0 = s := by simpa using hs
              exact Nat.le_refl _
            · rw [i1 rfl u (by omega) hx] at hs; cases hs
        | some b0 =>
          rw [mnb_3 hn hd]
          obtain ⟨⟨u0, a1, a2, a3⟩, a4⟩ := i2 b0 rfl
          by_cases hlt : s0 < b0
          · rw [if_pos hlt]
            constructor
            · intro h; cases h
            · intro b hb
              obtain rfl : s0 = b := by simpa using hb
              refine ⟨⟨n, by omega, hn, hd⟩, ?_⟩
              intro u hu hx s hs
              by_cases e : u = n
              · subst e; rw [hd] at hs
                obtain rfl : s0 = s := by simpa using hs
                exact Nat.le_refl _
              · have := a4 u (by omega) hx s hs; omega
          · rw [if_neg hlt]
            constructor
            · intro h; cases h
            · intro b hb
              obtain rfl : b0 = b := by simpa using hb
              refine ⟨⟨u0, by omega, a2, a3⟩, ?_⟩
              intro u hu hx s hs
              by_cases e : u = n
              · subst e; rw [hd] at hs
                obtain rfl : s0 = s := by simpa using hs
                omega
              · exact a4 u (by omega) hx s hs
theorem nbs_sg {w u : Nat} (hw : w < 60) : nbs (sg w) u = nx w u := by
  rw [Bool.eq_iff_iff, nbs_iff]
  constructor
  · rintro ⟨x, -, h1, h2⟩
    obtain rfl : x = w := of_decide_eq_true h1
    exact h2
  · intro h; exact ⟨w, hw, decide_eq_true rfl, h⟩
theorem mnb_hit {f : Nat → Bool} {w w0 : Nat} (hw : w < 60) : fo (mnb (dst f w0) w) 60 none = fnd (hit f (sf f w0) (nbs (sg w))) 60 0 := by
  obtain ⟨i1, i2⟩ := mnb_sp (D := dst f w0) (w := w) 60
  cases e : fo (mnb (dst f w0) w) 60 none with
  | none =>
    cases e2 : fnd (hit f (sf f w0) (nbs (sg w))) 60 0 with
    | none => rfl
    | some p =>
      obtain ⟨-, h1, h2, -⟩ := fnd_some e2
      obtain ⟨u, hu, h3, h4⟩ := hit_iff.mp h2
      rw [nbs_sg hw] at h4
      have := fnd_none (i1 e u hu h4) p (by omega) h1
      rw [h3] at this
      exact absurd this (by decide)
  | some b =>
    obtain ⟨⟨u, hu, h1, h2⟩, h3⟩ := i2 b e
    obtain ⟨-, h4, h5, -⟩ := fnd_some h2
    refine (fnd_least (hit_iff.mpr ⟨u, hu, h5, by rw [nbs_sg hw]; exact h1⟩) (by omega) (fun i hi => ?_)).symm
    cases e3 : hit f (sf f w0) (nbs (sg w)) i with
    | false => rfl
    | true =>
      obtain ⟨u', hu', h6, h7⟩ := hit_iff.mp e3
      rw [nbs_sg hw] at h7
      cases e4 : dst f w0 u' with
      | none =>
        have := fnd_none e4 i (by omega) (by omega)
        rw [h6] at this
        exact absurd this (by decide)
      | some s =>
        have h8 := h3 u' hu' h7 s e4
        obtain ⟨-, -, -, h9⟩ := fnd_some e4
        have := h9 i (by omega) (by omega)
        rw [h6] at this
        exact absurd this (by decide)
theorem vis_iff {f s : Nat → Bool} {w : Nat} : (∀ k, k < 60 → (nbs (sg w) k && rs f s 60 k) = false) ↔ fnd (hit f s (nbs (sg w))) 60 0 = none := by
  constructor
  · intro h
    cases e : fnd (hit f s (nbs (sg w))) 60 0 with
    | none => rfl
    | some p =>
      obtain ⟨-, h1, h2, -⟩ := fnd_some e
      obtain ⟨u, hu, h3, h4⟩ := hit_iff.mp h2
      have h5 := rs_mono h3 (60 - p)
      rw [show p + (60 - p) = 60 by omega] at h5
      have := h u hu
      rw [h4, h5] at this
      exact absurd this (by decide)
  · intro h k hk
    cases e : (nbs (sg w) k && rs f s 60 k) with
    | false => rfl
    | true =>
      rw [Bool.and_eq_true, rs_60 hk] at e
      have := fnd_none h 59 (by omega) (by omega)
      rw [hit_iff.mpr ⟨k, hk, e.2, e.1⟩] at this
      exact absurd this (by decide)
def slt (P : Pp) (w : Nat) : Bool := fg P w && !nbs (fun u => !fg P u) w
def s_silent (P : Pp) (v : Int32) : Int32 := if v < 0 ∨ 2 < v then -1 else if v = 0 then nI (cnt (slt P) 60) else if v = 1 then pI (fnd (slt P) 60 0) else nI (mx (sz (fg P)) 60)
def vst (P : Pp) (w : Nat) : Option Nat := fnd (hit (fg P) (sf (fg P) 0) (nbs (sg w))) 60 0
def s_visit (P : Pp) (v : Int32) : Int32 := if tdV P v = true then (match pl P v.toNatClampNeg with | none => -2 | some w => pI (vst P w)) else -1
def vsd (P : Pp) (p : Nat) : Bool := match pl P p with | none => false | some w => (vst P w).isSome
def s_visited (P : Pp) : Int32 := nI (bs (vsd P) 16)
section SV
variable {L d : Nat} {M : pu_M} {P : Pp} {y : Nat}
theorem c_m_stepsBeside {Q : Int32 → pu_M → Prop} {w : Nat} {D : Nat → Option Nat} (hw : w < 60) (hD : ∀ u, u < 60 → M 88 u = pJ (D u)) (hb : ∀ u s, D u = some s → s < 60) (H : Q (pI (fo (mnb D w) 60 none)) M) : pu_I L (d + 3) 251 [.ref 58, .int (nI w)] M Q := by
  have hba : ∀ k b, fo (mnb D w) k none = some b → b < 60 := by
    intro k b hk
    obtain ⟨⟨u, -, -, h⟩, -⟩ := (mnb_sp (D := D) (w := w) k).2 b hk
    exact hb u b h
  refine r_m_stepsBeside (dn (R := fun k => pu_R L (d + 3) 251 5 [.ref 58, .int (nI w), .int (pI (fo (mnb D w) k none)), .int (nI k)] [] M (pu_qI Q)) 60 ?_ ?_)
  · refine r_m_stepsBeside_5 ?_
    rw [if_pos ge60]; exact H
  · intro k hk ih
    refine r_m_stepsBeside_5 ?_
    rw [if_neg (lt60 hk)]
    refine c_m_areNext hw hk ?_
    have hbk := hba k
    have ih : pu_R L (d + 3) 251 5 [.ref 58, .int (nI w), .int (pI (mnb D w k (fo (mnb D w) k none))), .int (nI (k + 1))] [] M (pu_qI Q) := ih
    generalize fo (mnb D w) k none = a at hbk ih ⊢
    cases hn : nx w k with
    | false =>
      rw [mnb_0 hn] at ih
      rw [if_neg (by decide), if_pos (by decide), nI_1]
      exact ih
    | true =>
      rw [if_pos (by decide), if_neg (by decide)]
      refine ⟨inb_nI hk (by decide), ?_⟩
      rw [nI_clamp (show k < 2 ^ 31 by omega), hD k hk, nI_1]
      cases hd : D k with
      | none =>
        rw [mnb_1 hd] at ih
        rw [if_pos (by decide)]
        exact ih
      | some s =>
        have hs := hb k s hd
        rw [if_neg (by show ¬ nI s = -1; rw [nI_m1 (by omega)]; exact id)]
        cases a with
        | none =>
          rw [mnb_2 hn hd] at ih
          rw [if_pos (by decide)]
          exact ⟨inb_nI hk (by decide), ih⟩
        | some b =>
          have hb6 := hbk b rfl
          rw [mnb_3 hn hd] at ih
          rw [if_neg (by show ¬ nI b = -2; rw [nI_m2 (by omega)]; exact id)]
          refine ⟨inb_nI hk (by decide), ?_⟩
          by_cases hlt : s < b
          · rw [if_pos hlt] at ih
            rw [if_neg (by show ¬ nI b ≤ nI s; rw [nI_leI (by omega) (by omega)]; omega)]
            exact ⟨inb_nI hk (by decide), ih⟩
          · rw [if_neg hlt] at ih
            rw [if_pos (by show nI b ≤ nI s; rw [nI_leI (by omega) (by omega)]; omega)]
            exact ih
theorem dst_lt {f : Nat → Bool} {w0 u s : Nat} (h : dst f w0 u = some s) : s < 60 := by
  obtain ⟨-, h1, -, -⟩ := fnd_some h; omega
theorem c_m_isSilent {Q : Int32 → pu_M → Prop} {w : Nat} (hM : PM P (M 59)) (hI : PI P) (hw : w < 60) (H : if slt P w = true then Q 1 M else Q 0 M) : pu_I L (d + 3) 249 [.ref 58, .int (nI w)] M Q := by
  refine r_m_isSilent (c_m_whoLies hM hI hw ?_)
  cases hwho : who P w with
  | some r =>
    rw [if_neg (by rw [pI_m2 (fun q e => who_lt (hwho.trans e))]; simp)]
    have : slt P w = false := by simp [slt, fg, hwho]
    rw [this, if_neg (by decide)] at H
    exact H
  | none =>
    rw [if_pos (by decide)]
    have hf : fg P w = true := by simp [fg, hwho]
    have key : ∀ j k, k + j = 60 → (∀ u, u < k → nx w u = true → fg P u = true) → pu_R L (d + 3) 249 14 [.ref 58, .int (nI w), .int (nI k)] [] M (pu_qI Q) := by
      intro j
      induction j with
      | zero =>
        intro k hk h
        obtain rfl : k = 60 := by omega
        refine r_m_isSilent_14 ?_
        rw [if_pos ge60]
        have hs : slt P w = true := by
          unfold slt
          rw [hf]
          cases e : nbs (fun u => !fg P u) w with
          | false => rfl
          | true =>
            obtain ⟨u, hu, h1, h2⟩ := nbs_iff.mp e
            rw [nx_sy] at h2
            rw [h u hu h2] at h1
            exact absurd h1 (by decide)
        rw [hs, if_pos (by decide)] at H
        exact H
      | succ j ih =>
        intro k hk h
        have hk6 : k < 60 := by omega
        refine r_m_isSilent_14 ?_
        rw [if_neg (lt60 hk6)]
        refine c_m_areNext hw hk6 ?_
        cases hn : nx w k with
        | false =>
          rw [if_neg (by decide), if_pos (by decide), nI_1]
          refine ih (k + 1) (by omega) (fun u hu hx => ?_)
          by_cases e : u = k
          · subst e; rw [hn] at hx; exact absurd hx (by decide)
          · exact h u (by omega) hx
        | true =>
          rw [if_pos (by decide), if_neg (by decide)]
          refine c_m_whoLies hM hI hk6 ?_
          cases hwk : who P k with
          | none =>
            rw [if_pos (by decide), nI_1]
            refine ih (k + 1) (by omega) (fun u hu hx => ?_)
            by_cases e : u = k
            · subst e; simp [fg, hwk]
            · exact h u (by omega) hx
          | some r =>
            rw [if_neg (by rw [pI_m2 (fun q e => who_lt (hwk.trans e))]; simp)]
            have hs : slt P w = false := by
              unfold slt
              rw [nbs_iff.mpr ⟨k, hk6, by simp [fg, hwk], by rw [nx_sy]; exact hn⟩]
              simp
            rw [hs, if_neg (by decide)] at H
            exact H
    exact key 60 0 rfl (fun u hu => absurd hu (by omega))
theorem c_m_silent {Q : Int32 → pu_M → Prop} {v : Int32} (hM : PM P (M 59)) (hI : PI P) (H : ∀ M', only wkS M M' → Q (s_silent P v) M') : pu_I L (d + 6) 250 [.ref 58, .int v] M Q := by
  refine r_m_silent (c_m_in ?_)
  by_cases hv : v < 0 ∨ 2 < v
  · rw [if_pos hv, if_pos (by decide)]
    have := H M (only.rf _ _)
    unfold s_silent at this
    rw [if_pos hv] at this
    exact this
  · rw [if_neg hv, if_neg (by decide)]
    have szle : ∀ w, sz (fg P) w ≤ 60 := fun w => cnt_le _ 60
    have key : ∀ (n c : Nat) (mst : Int32) (M' : pu_M), n ≤ 60 → c + cnt (slt P) n = cnt (slt P) 60 → (v = 2 → mst = nI (mx (fun m => sz (fg P) (59 - m)) (60 - n))) → only wkS M M' → pu_R L (d + 6) 250 23 [.ref 58, .int v, .int (nI c), .int (pI (fnd (slt P) (60 - n) n)), .int mst, .int (nI n + (-1))] [] M' (pu_qI Q) := by
      intro n
      induction n with
      | zero =>
        intro c mst M' hn hc hm o
        refine r_m_silent_23 ?_
        rw [if_pos (by decide)]
        have hH := H M' o
        unfold s_silent at hH
        rw [if_neg hv] at hH
        by_cases h0 : v = 0
        · rw [if_pos h0] at hH ⊢
          have : c = cnt (slt P) 60 := by simpa [cnt] using hc
          rw [this]; exact hH
        · rw [if_neg h0] at hH ⊢
          by_cases h1 : v = 1
          · rw [if_pos h1] at hH ⊢; exact hH
          · rw [if_neg h1] at hH ⊢
            have h2 : v = 2 := by
              rcases v02 (w := v) with z | ⟨z1, z2⟩
              · exact absurd z hv
              · obtain ⟨j, hj, e⟩ := nI_of2 (M := 2) (n := 2) rfl z1 z2
                have : j = 0 ∨ j = 1 ∨ j = 2 := by omega
                rcases this with rfl | rfl | rfl
                · exact absurd e h0
                · exact absurd e h1
                · exact e
            rw [hm h2, show (60 - 0) = 60 from rfl, mx_rev (f := sz (fg P)) (n := 60) (by decide)]
            exact hH
      | succ n ih =>
        intro c mst M' hn hc hm o
        have hPM : ∀ {M' : pu_M}, only wkS M M' → PM P (M' 59) := fun o => by rw [o 59 (by unfold wkS; omega)]; exact hM
        have mid : ∀ (mst : Int32) (M' : pu_M), (v = 2 → mst = nI (mx (fun m => sz (fg P) (59 - m)) (60 - n))) → only wkS M M' → pu_R L (d + 6) 250 46 [.ref 58, .int v, .int (nI c), .int (pI (fnd (slt P) (60 - (n + 1)) (n + 1))), .int mst, .int (nI n)] [] M' (pu_qI Q) := by
          intro mst M' hm o
          refine r_m_silent_46 (c_m_isSilent (hPM o) hI (by omega) ?_)
          rw [show 60 - (n + 1) = 59 - n by omega]
          have e60 : 60 - n = (59 - n) + 1 := by omega
          cases hs : slt P n with
          | true =>
            rw [if_pos (by decide), if_neg (by decide), nI_1]
            have := ih (c + 1) mst M' (by omega) (by rw [cnt_t hs] at hc; omega) hm o
            rw [e60, fnd_t hs] at this
            exact this
          | false =>
            rw [if_neg (by decide), if_pos (by decide)]
            have := ih c mst M' (by omega) (by rw [cnt_f hs] at hc; omega) hm o
            rw [e60, fnd_f hs] at this
            exact this
        refine r_m_silent_23 ?_
        rw [pk_m1, if_neg (nI_pos (by omega))]
        by_cases h2 : v = 2
        · rw [if_pos h2]
          refine c_m_walks (hPM o) hI (by omega) ?_
          intro M2 _ o2
          rw [hm h2]
          have hle : mx (fun m => sz (fg P) (59 - m)) (60 - (n + 1)) ≤ 60 := mx_le (fun i => szle _) _
          have hle2 := szle n
          refine c_m_max (by omega) (by omega) ?_
          refine mid _ M2 ?_ (o.tr o2)
          intro _
          rw [show 60 - n = (60 - (n + 1)) + 1 by omega, mx_s]
          rw [show 59 - (60 - (n + 1)) = n by omega]
        · rw [if_neg h2]
          exact mid mst M' (fun z => absurd z h2) o
    have := key 60 0 0 M (Nat.le_refl _) (by omega) (fun _ => rfl) (only.rf _ _)
    exact this
theorem c_x_silent {Q : Int32 → pu_M → Prop} {v : Int32} (h9 : M 0 9 = nI y) (hy : pu_isY y) (hC : CY P M y) (H : Q (s_silent P v) M) : pu_I L (d + 4) 143 [.ref 0, .int v] M Q := by
  refine r_x_silent ?_
  unfold s_silent at H
  by_cases h0 : v < 0
  · rw [if_pos (Or.inl h0)] at H; rw [if_pos h0]; exact H
  · rw [if_neg h0]
    by_cases h2 : v ≤ 2
    · rw [if_neg (fun z => z.elim h0 (le_not_lt h2))] at H
      rw [if_pos h2]
      refine ⟨y, h9, hy, c_Y_freePlots hy hC ?_⟩
      by_cases e2 : v = 2
      · subst e2
        rw [if_pos (by decide)]
        rw [if_neg (by decide), if_neg (by decide)] at H
        exact c_G_largest H
      · rw [if_neg e2, lN_andn2 (fg P)]
        refine c_G_nextTo ?_
        rw [lN_andn]
        have hsl : (fun k => fg P k && !nbs (fun u => !fg P u) k) = slt P := rfl
        rw [hsl]
        by_cases e0 : v = 0
        · rw [if_pos e0] at H ⊢
          exact c_L_bitCount H
        · rw [if_neg e0] at H ⊢
          have e1 : v = 1 := by
            obtain ⟨j, hj, e⟩ := nI_of2 (M := 2) (n := 2) rfl h0 h2
            have : j = 0 ∨ j = 1 ∨ j = 2 := by omega
            rcases this with rfl | rfl | rfl
            · exact absurd e e0
            · exact e
            · exact absurd e e2
          rw [if_pos e1] at H
          exact c_G_lowest H
    · rw [if_pos (Or.inr (Int32.not_le.mp h2))] at H
      rw [if_neg h2]; exact H
theorem free0 : lN (gs (fg P)) &&& 1 = lN (gs (sf (fg P) 0)) := by
  have h1 : (1 : Int64) = lN (gs (sg 0)) := by rw [gs_sg (by decide)]; rfl
  have h2 : gs (fun k => fg P k && sg 0 k) = gs (sf (fg P) 0) := gs_eq (fun k _ => by unfold sf sg; rw [Bool.and_comm])
  rw [h1, lN_and, h2]
theorem bit1 {w : Nat} (hw : w < 60) : (1 : Int64) <<< ((nI w).toInt64 &&& 63) = lN (gs (sg w)) := by
  have h1 : (1 : Int64) = lN 1 := rfl
  rw [h1, wb_shl 1 (by omega), Nat.one_mul, gs_sg hw]
theorem c_x_visit {Q : Int32 → pu_M → Prop} {v : Int32} (h9 : M 0 9 = nI y) (hy : pu_isY y) (hC : CY P M y) (hI : PI P) (H : Q (s_visit P v) M) : pu_I L (d + 4) 144 [.ref 0, .int v] M Q := by
  refine r_x_visit ⟨y, h9, hy, ?_⟩
  unfold s_visit at H
  rcases v16 v with ⟨p, hp, rfl⟩ | hv
  · rw [tdV_nI hp, nI_clamp (by omega)] at H
    refine c_Y_isTold hy hC hp ?_
    cases ht : tl P p with
    | false => rw [ht, if_neg (by decide)] at H; rw [if_neg (by decide), if_pos (by decide)]; exact H
    | true =>
      rw [ht, if_pos (by decide)] at H
      rw [if_pos (by decide), if_neg (by decide)]
      refine ⟨y, h9, hy, c_Y_isLaid hy hC hI hp ?_⟩
      cases e : pl P p with
      | none => rw [e] at H; simpa using H
      | some w =>
        rw [e] at H
        have hw := ((hI.1 p hp).2.2 w e).1
        simp only [Option.isSome_some, if_true]
        rw [if_neg (by decide)]
        refine ⟨y, h9, hy, c_Y_freePlots hy hC ⟨y, h9, hy, inb_nI hp (by decide), ?_⟩⟩
        rw [nI_clamp (show p < 2 ^ 31 by omega), (hC.1 p hp).2.2, e, free0]
        show pu_J L _ 29 [.long ((1 : Int64) <<< ((nI w).toInt64 &&& 63))] M _
        rw [bit1 hw]
        exact c_G_nextTo (c_G_steps H)
  · rw [tdV_out hv, if_neg (by decide)] at H
    refine c_Y_isToldN hy hv ?_
    rw [if_pos (by decide)]; exact H
theorem c_m_visit {Q : Int32 → pu_M → Prop} {v : Int32} (hM : PM P (M 59)) (hI : PI P) (H : ∀ M', only wkS M M' → Q (s_visit P v) M') : pu_I L (d + 5) 252 [.ref 58, .int v] M Q := by
  refine r_m_visit ?_
  unfold s_visit at H
  rcases v16 v with ⟨p, hp, rfl⟩ | hv
  · rw [tdV_nI hp, nI_clamp (by omega)] at H
    refine c_m_isTold hM hp ?_
    cases ht : tl P p with
    | false => rw [ht, if_neg (by decide)] at H; rw [if_neg (by decide), if_pos (by decide)]; exact H M (only.rf _ _)
    | true =>
      rw [ht, if_pos (by decide)] at H
      rw [if_pos (by decide), if_neg (by decide)]
      refine c_m_isLaid hM hI hp ?_
      cases e : pl P p with
      | none => rw [e] at H; simpa using H M (only.rf _ _)
      | some w =>
        rw [e] at H
        have hw := ((hI.1 p hp).2.2 w e).1
        simp only [Option.isSome_some, if_true]
        rw [if_neg (by decide)]
        refine c_m_walks (w0 := 0) hM hI (by decide) ?_
        intro M2 hD o
        have h59 : M2 59 = M 59 := o 59 (by unfold wkS; omega)
        have h4 := (hM.1 p hp).2.2.2
        rw [e] at h4
        simp (disch := omega) only [n_48, nI_add, nI_clamp, inb_nI, true_and, h59, h4]
        refine c_m_stepsBeside hw hD (fun u s => dst_lt) ?_
        rw [mnb_hit hw]
        exact H M2 o
  · rw [tdV_out hv, if_neg (by decide)] at H
    refine c_m_isToldN hv ?_
    rw [if_pos (by decide)]; exact H M (only.rf _ _)
theorem c_x_visited {Q : Int32 → pu_M → Prop} (h9 : M 0 9 = nI y) (hy : pu_isY y) (hC : CY P M y) (hI : PI P) (H : Q (s_visited P) M) : pu_I L (d + 4) 145 [.ref 0] M Q := by
  refine r_x_visited ⟨y, h9, hy, c_Y_freePlots hy hC ?_⟩
  rw [free0]
  refine c_G_spread ?_
  refine dn (R := fun k => pu_R L (d + 4) 145 22 [.ref 0, .long (lN (gs (fg P))), mq_un, .long (lN (gs (rs (fg P) (sf (fg P) 0) 60))), mq_un, .int (nI (bs (vsd P) k)), .int (nI k)] [] M (pu_qI Q)) 16 ?_ ?_
  · refine r_x_visited_22 ?_
    rw [if_pos ge16]; exact H
  · intro k hk ih
    refine r_x_visited_22 ?_
    rw [if_neg (lt16 hk)]
    refine ⟨y, h9, hy, c_Y_isLaid hy hC hI hk ?_⟩
    cases e : pl P k with
    | none =>
      have : vsd P k = false := by unfold vsd; rw [e]
      rw [bs_skip _ this] at ih
      simp only [Option.isSome_none, if_neg (show ¬ (false = true) by decide)]
      rw [if_pos trivial, nI_1]
      exact ih
    | some w =>
      have hw := ((hI.1 k hk).2.2 w e).1
      simp only [Option.isSome_some, if_true]
      rw [if_neg (by decide)]
      refine ⟨y, h9, hy, inb_nI hk (by decide), ?_⟩
      rw [nI_clamp (show k < 2 ^ 31 by omega), (hC.1 k hk).2.2, e]
      show pu_J L _ 29 [.long ((1 : Int64) <<< ((nI w).toInt64 &&& 63))] M _
      rw [bit1 hw]
      refine c_G_nextTo ?_
      rw [lN_and]
      cases hv : vst P w with
      | none =>
        have : vsd P k = false := by unfold vsd; rw [e]; dsimp only; rw [hv]; rfl
        rw [bs_skip _ this] at ih
        rw [if_pos (gs_ne.mpr (vis_iff.mpr hv)), nI_1]
        exact ih
      | some s =>
        have hb : vsd P k = true := by unfold vsd; rw [e]; dsimp only; rw [hv]; rfl
        rw [if_neg (fun z => by have := vis_iff.mp (gs_ne.mp z); unfold vst at hv; rw [hv] at this; cases this), bs_step _ (by omega) hb, nI_1]
        exact ih
theorem c_m_visited {Q : Int32 → pu_M → Prop} (hM : PM P (M 59)) (hI : PI P) (H : ∀ M', only wkS M M' → Q (s_visited P) M') : pu_I L (d + 5) 253 [.ref 58] M Q := by
  refine r_m_visited (c_m_walks (w0 := 0) hM hI (by decide) ?_)
  intro M2 hD o
  have h59 : M2 59 = M 59 := o 59 (by unfold wkS; omega)
  have hM2 : PM P (M2 59) := by rw [h59]; exact hM
  refine dn (R := fun k => pu_R L (d + 5) 253 10 [.ref 58, .int (nI (bs (vsd P) k)), .int (nI k)] [] M2 (pu_qI Q)) 16 ?_ ?_
  · refine r_m_visited_10 ?_
    rw [if_pos ge16]; exact H M2 o
  · intro k hk ih
    refine r_m_visited_10 ?_
    rw [if_neg (lt16 hk)]
    refine c_m_isLaid hM2 hI hk ?_
    cases e : pl P k with
    | none =>
      have : vsd P k = false := by unfold vsd; rw [e]
      rw [bs_skip _ this] at ih
      simp only [Option.isSome_none, if_neg (show ¬ (false = true) by decide)]
      rw [if_pos trivial, nI_1]
      exact ih
    | some w =>
      have hw := ((hI.1 k hk).2.2 w e).1
      have h4 := (hM.1 k hk).2.2.2
      rw [e] at h4
      simp only [Option.isSome_some, if_true]
      rw [if_neg (by decide)]
      simp (disch := omega) only [n_48, nI_add, nI_clamp, inb_nI, true_and, h59, h4]
      refine c_m_stepsBeside hw hD (fun u s => dst_lt) ?_
      rw [mnb_hit hw]
      cases hv : vst P w with
      | none =>
        have : vsd P k = false := by unfold vsd; rw [e]; dsimp only; rw [hv]; rfl
        rw [bs_skip _ this] at ih
        unfold vst at hv
        rw [hv, if_pos (by decide), nI_1]
        exact ih
      | some s =>
        have hb : vsd P k = true := by unfold vsd; rw [e]; dsimp only; rw [hv]; rfl
        unfold vst at hv
        obtain ⟨-, hs6, -, -⟩ := fnd_some hv
        rw [hv, if_neg (by show ¬ nI s = -2; rw [nI_m2 (by omega)]; exact id), nI_1]
        rw [← bs_step _ (by omega) hb] at ih
        exact ih
end SV
