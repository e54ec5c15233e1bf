/-! THE LAW as a text, and the steps that it says. A step: what, with, and how high the numbers stand ahead of it (99: a truth stands there). A state: the place, how many steps, the steps, the height -/
abbrev Lin : Type := Nat × Nat × Nat
abbrev Lst : Type := Nat × Nat × (Nat → Lin) × Nat
abbrev Lre : Type := Int32 ⊕ Lst
def lqn (s : Lst) : Nat := s.1
def lcn (s : Lst) : Nat := s.2.1
def lfn (s : Lst) : Nat → Lin := s.2.2.1
def lhn (s : Lst) : Nat := s.2.2.2
def l_nh (o h : Nat) : Nat := if o < 2 then h + 1 else if o < 7 then h - 1 else if o < 11 then 99 else 0
def l_atq (q : Nat) (s : Lst) : Lst := (q, lcn s, lfn s, lhn s)
def l_adv (s : Lst) : Lst := l_atq (lqn s + 1) s
def l_h0 (s : Lst) : Lst := (lqn s, lcn s, lfn s, 0)
def l_emt (o v : Nat) (s : Lst) : Lst := (lqn s, lcn s + 1, fset (lfn s) (lcn s) (o, v, lhn s), l_nh o (lhn s))
def l_emw (w : Option Nat) (s : Lst) : Lst := match w with
  | none => s
  | some o => l_emt o 0 s
def l_pat (w : Option Nat) (s : Lst) : Lst := match w with
  | none => s
  | some p => (lqn s, lcn s, fset (lfn s) p ((lfn s p).1, lcn s, (lfn s p).2.2), lhn s)
def l_bn (x : Lre) (k : Lst → Lre) : Lre := match x with
  | .inl f => .inl f
  | .inr s => k s
def l_po (A : Int32 → Prop) (B : Lst → Prop) : Lre → Prop
  | .inl f => A f
  | .inr s => B s
theorem l_po_bn {A : Int32 → Prop} {B : Lst → Prop} {x : Lre} {k : Lst → Lre} : l_po A B (l_bn x k) ↔ l_po A (fun s => l_po A B (k s)) x := by cases x <;> exact Iff.rfl
theorem l_po_mono {A A' : Int32 → Prop} {B B' : Lst → Prop} {x : Lre} (h : l_po A B x) (ha : ∀ f, x = .inl f → A f → A' f) (hb : ∀ s, x = .inr s → B s → B' s) : l_po A' B' x := by
  cases x with
  | inl f => exact ha f rfl h
  | inr s => exact hb s rfl h
theorem l_po_and {A A' : Int32 → Prop} {B B' : Lst → Prop} {x : Lre} (h : l_po A B x) (h' : l_po A' B' x) : l_po (fun f => A f ∧ A' f) (fun s => B s ∧ B' s) x := by
  cases x with
  | inl f => exact ⟨h, h'⟩
  | inr s => exact ⟨h, h'⟩
def l_so (x : Int32) : Option Nat := if x = 43 then some 2 else if x = 45 then some 3 else if x = 42 then some 4 else if x = 47 then some 5 else if x = 37 then some 6 else none
def l_vo (x : Int32) : Option Nat := if x = 107 then some 1 else if x = 109 then some 4 else if x = 110 then some 6 else if x = 111 then some 5 else if x = 112 then some 0 else if x = 115 then some 2 else if x = 116 then some 7 else if x = 117 then some 3 else none
def l_co (x : Int32) : Option Nat := if x = 60 then some 7 else if x = 62 then some 8 else if x = 61 then some 9 else none
section SP
variable (tb : Nat → Nat) (e : Nat)
def l_num : Nat → Nat → Nat → Int32 ⊕ (Nat × Nat)
  | 0, a, q => match chR tb e 48 10 q with
    | some _ => .inl (flt 2 q)
    | none => .inr (a, q)
  | j + 1, a, q => match chR tb e 48 10 q with
    | some k => l_num j (10 * a + k) (q + 1)
    | none => .inr (a, q)
def l_atom (s : Lst) : Lre := match chR tb e 48 10 (lqn s) with
  | some _ => (match l_num tb e 5 0 (lqn s) with
    | .inl f => .inl f
    | .inr x => .inr (l_emt 0 x.1 (l_atq x.2 s)))
  | none => (match l_vo (ch tb e (lqn s)) with
    | none => .inl (flt 1 (lqn s))
    | some k => .inr (l_emt 1 k (l_adv s)))
def l_sumL (fc : Lst → Lre) : Nat → Option Nat → Lst → Lre
  | 0, _, _ => .inl 0
  | g + 1, w, s => match l_so (ch tb e (lqn s)) with
    | none => .inr (l_emw w s)
    | some o => if o < 4 then l_bn (fc (l_adv (l_emw w s))) (l_sumL fc g (some o)) else l_bn (fc (l_adv s)) (fun s' => l_sumL fc g w (l_emt o 0 s'))
def l_sumR (fc : Lst → Lre) (s : Lst) : Lre := l_bn (fc s) (l_sumL tb e fc 241 none)
def l_end (c : Int32) (s : Lst) : Lre := if ch tb e (lqn s) = c then .inr (l_adv s) else .inl (flt 1 (lqn s))
def l_fac : Nat → Lst → Lre
  | 0, s => if ch tb e (lqn s) = 91 then .inl (flt 5 (lqn s)) else l_atom tb e s
  | r + 1, s => if ch tb e (lqn s) = 91 then l_bn (l_sumR tb e (l_fac r) (l_adv s)) (l_end tb e 93) else l_atom tb e s
def l_cmp2 (r : Nat) (s : Lst) : Lre := match l_co (ch tb e (lqn s)) with
  | none => .inl (flt 1 (lqn s))
  | some o => l_bn (l_sumR tb e (l_fac tb e r) (l_adv s)) (fun s2 => .inr (l_emt o 0 s2))
def l_cmp (r : Nat) (s : Lst) : Lre := l_bn (l_sumR tb e (l_fac tb e r) s) (l_cmp2 tb e r)
def l_conL (ts : Lst → Lre) : Nat → Option Nat → Option Nat → Lst → Lre
  | 0, _, _, _ => .inl 0
  | g + 1, ot, op, s => if ch tb e (lqn s) = 38 then l_bn (ts (l_adv (l_emt 11 0 (l_pat ot s)))) (l_conL ts g (some (lcn s)) op) else
    if ch tb e (lqn s) = 124 then l_bn (ts (l_adv (l_emt 12 0 (l_pat op (l_pat ot s))))) (l_conL ts g none (some (lcn s))) else .inr (l_pat op (l_pat ot s))
def l_conR (ts : Lst → Lre) (s : Lst) : Lre := l_bn (ts s) (l_conL tb e ts 241 none none)
def l_tst : Nat → Lst → Lre
  | 0, s => if ch tb e (lqn s) = 33 then .inl (flt 5 (lqn s)) else if ch tb e (lqn s) = 40 then .inl (flt 5 (lqn s)) else l_cmp tb e 0 s
  | r + 1, s => if ch tb e (lqn s) = 33 then l_bn (l_tst r (l_adv s)) (fun s' => .inr (l_emt 10 0 s')) else if ch tb e (lqn s) = 40 then l_bn (l_conR tb e (l_tst r) (l_adv s)) (l_end tb e 41) else l_cmp tb e (r + 1) s
end SP
/-! how far one comes -/
section OK
variable {tb : Nat → Nat} {e : Nat}
theorem ch_m1 {q : Nat} {c : Int32} (h : ch tb e q = c) (hc : ¬ c = -1) : q < e := by
  unfold ch at h
  by_cases z : q < e
  · exact z
  · rw [if_neg z] at h; exact absurd h.symm hc
theorem l_so_lt {q o : Nat} (h : l_so (ch tb e q) = some o) : q < e ∧ 2 ≤ o ∧ o ≤ 6 := by
  have h2 : q < e := by
    by_cases z : q < e
    · exact z
    · have : ch tb e q = -1 := by unfold ch; rw [if_neg z]
      rw [this] at h; cases h
  refine ⟨h2, ?_⟩
  unfold l_so at h
  repeat (split at h; · cases h; omega)
  cases h
theorem l_vo_lt {q o : Nat} (h : l_vo (ch tb e q) = some o) : q < e ∧ o < 8 := by
  have h2 : q < e := by
    by_cases z : q < e
    · exact z
    · have : ch tb e q = -1 := by unfold ch; rw [if_neg z]
      rw [this] at h; cases h
  refine ⟨h2, ?_⟩
  unfold l_vo at h
  repeat (split at h; · cases h; omega)
  cases h
theorem l_co_lt {q o : Nat} (h : l_co (ch tb e q) = some o) : q < e ∧ 7 ≤ o ∧ o ≤ 9 := by
  have h2 : q < e := by
    by_cases z : q < e
    · exact z
    · have : ch tb e q = -1 := by unfold ch; rw [if_neg z]
      rw [this] at h; cases h
  refine ⟨h2, ?_⟩
  unfold l_co at h
  repeat (split at h; · cases h; omega)
  cases h
def l_ww (w : Option Nat) : Nat := match w with
  | none => 0
  | some _ => 1
theorem l_emw_q (w : Option Nat) (s : Lst) : lqn (l_emw w s) = lqn s := by cases w <;> rfl
theorem l_emw_c (w : Option Nat) (s : Lst) : lcn (l_emw w s) = lcn s + l_ww w := by cases w <;> rfl
theorem l_pat_q (w : Option Nat) (s : Lst) : lqn (l_pat w s) = lqn s := by cases w <;> rfl
theorem l_pat_c (w : Option Nat) (s : Lst) : lcn (l_pat w s) = lcn s := by cases w <;> rfl
theorem l_pat_h (w : Option Nat) (s : Lst) : lhn (l_pat w s) = lhn s := by cases w <;> rfl
theorem l_num_ok (he : e ≤ 240) : ∀ {j a q B : Nat}, q ≤ e → a < B → match l_num tb e j a q with
    | .inl f => f < 0
    | .inr x => q ≤ x.2 ∧ x.2 ≤ e ∧ x.1 < B * 10 ^ j := by
  intro j
  induction j with
  | zero =>
    intro a q B hq ha
    unfold l_num
    cases hc : chR tb e 48 10 q with
    | some k => exact flt_neg (by decide) (by decide) (by omega)
    | none => exact ⟨Nat.le_refl _, hq, by simpa using ha⟩
  | succ j ih =>
    intro a q B hq ha
    unfold l_num
    cases hc : chR tb e 48 10 q with
    | some k =>
      obtain ⟨h1, h2, h3⟩ := chR_lt hc
      have := ih (a := 10 * a + k) (q := q + 1) (B := 10 * B) (by omega) (by omega)
      dsimp only
      cases hn : l_num tb e j (10 * a + k) (q + 1) with
      | inl f => rw [hn] at this; exact this
      | inr x =>
        rw [hn] at this
        obtain ⟨t1, t2, t3⟩ := this
        refine ⟨by omega, t2, ?_⟩
        rw [Nat.pow_succ, Nat.mul_comm (10 ^ j) 10, ← Nat.mul_assoc, Nat.mul_comm B 10]; exact t3
    | none =>
      refine ⟨Nat.le_refl _, hq, ?_⟩
      have : 1 ≤ 10 ^ (j + 1) := Nat.le_trans (Nat.one_le_two_pow (n := j + 1)) (Nat.pow_le_pow_left (by decide) _)
      calc a < B := ha
        _ = B * 1 := (Nat.mul_one B).symm
        _ ≤ B * 10 ^ (j + 1) := Nat.mul_le_mul_left B this
/-- a good end: at least one further, no more steps than bytes -/
def l_go (e : Nat) (s : Lst) (k : Nat) : Lre → Prop := l_po (fun f => f < 0) (fun s' => lqn s + 1 ≤ lqn s' ∧ lqn s' ≤ e ∧ lcn s' + lqn s ≤ lqn s' + lcn s + k)
theorem l_atom_ok (he : e ≤ 240) {s : Lst} (hq : lqn s ≤ e) : l_go e s 0 (l_atom tb e s) := by
  unfold l_atom
  cases hc : chR tb e 48 10 (lqn s) with
  | some k =>
    obtain ⟨h1, h2, h3⟩ := chR_lt hc
    have hu : l_num tb e 5 0 (lqn s) = l_num tb e 4 (10 * 0 + k) (lqn s + 1) := by
      show (match chR tb e 48 10 (lqn s) with | some k => l_num tb e 4 (10 * 0 + k) (lqn s + 1) | none => .inr (0, lqn s)) = _
      rw [hc]
    have := l_num_ok (tb := tb) he (j := 4) (a := 10 * 0 + k) (q := lqn s + 1) (B := 10) (by omega) (by omega)
    dsimp only
    rw [hu]
    cases hn : l_num tb e 4 (10 * 0 + k) (lqn s + 1) with
    | inl f => rw [hn] at this; exact this
    | inr x =>
      rw [hn] at this
      exact ⟨this.1, this.2.1, show lcn s + 1 + lqn s ≤ x.2 + lcn s + 0 by have := this.1; omega⟩
  | none =>
    dsimp only
    cases hv : l_vo (ch tb e (lqn s)) with
    | none => exact flt_neg (by decide) (by decide) (by omega)
    | some k =>
      have := (l_vo_lt hv).1
      exact ⟨Nat.le_refl _, this, show lcn s + 1 + lqn s ≤ lqn s + 1 + lcn s + 0 by omega⟩
theorem l_sumL_ok {fc : Lst → Lre} (hf : ∀ s, lqn s ≤ e → l_go e s 0 (fc s)) : ∀ {g : Nat} {w : Option Nat} {s : Lst}, lqn s ≤ e → e < lqn s + g → l_po (fun f => f < 0) (fun s' => lqn s ≤ lqn s' ∧ lqn s' ≤ e ∧ lcn s' + lqn s ≤ lqn s' + lcn s + l_ww w) (l_sumL tb e fc g w s) := by
  intro g
  induction g with
  | zero => intro w s h1 h2; omega
  | succ g ih =>
    intro w s h1 h2
    unfold l_sumL
    cases ho : l_so (ch tb e (lqn s)) with
    | none =>
      show lqn s ≤ lqn (l_emw w s) ∧ lqn (l_emw w s) ≤ e ∧ lcn (l_emw w s) + lqn s ≤ lqn (l_emw w s) + lcn s + l_ww w
      rw [l_emw_q, l_emw_c]; omega
    | some o =>
      obtain ⟨o1, o2, o3⟩ := l_so_lt ho
      dsimp only
      by_cases h4 : o < 4
      · rw [if_pos h4, l_po_bn]
        have hq : lqn (l_adv (l_emw w s)) = lqn s + 1 := by show lqn (l_emw w s) + 1 = _; rw [l_emw_q]
        have hc : lcn (l_adv (l_emw w s)) = lcn s + l_ww w := l_emw_c w s
        refine l_po_mono (hf (l_adv (l_emw w s)) (by omega)) (fun f _ h => h) (fun s1 _ h => ?_)
        obtain ⟨a1, a2, a3⟩ := h
        refine l_po_mono (ih (w := some o) (s := s1) a2 (by omega)) (fun f _ h => h) (fun s2 _ h => ?_)
        obtain ⟨b1, b2, b3⟩ := h
        have : l_ww (some o) = 1 := rfl
        exact ⟨by omega, b2, by omega⟩
      · rw [if_neg h4, l_po_bn]
        have hq : lqn (l_adv s) = lqn s + 1 := rfl
        have hc : lcn (l_adv s) = lcn s := rfl
        refine l_po_mono (hf (l_adv s) (by omega)) (fun f _ h => h) (fun s1 _ h => ?_)
        obtain ⟨a1, a2, a3⟩ := h
        have hq1 : lqn (l_emt o 0 s1) = lqn s1 := rfl
        have hc1 : lcn (l_emt o 0 s1) = lcn s1 + 1 := rfl
        refine l_po_mono (ih (w := w) (s := l_emt o 0 s1) (by omega) (by omega)) (fun f _ h => h) (fun s2 _ h => ?_)
        obtain ⟨b1, b2, b3⟩ := h
        exact ⟨by omega, b2, by omega⟩
theorem l_sumR_ok (he : e ≤ 240) {fc : Lst → Lre} (hf : ∀ s, lqn s ≤ e → l_go e s 0 (fc s)) {s : Lst} (hs : lqn s ≤ e) : l_go e s 0 (l_sumR tb e fc s) := by
  unfold l_sumR l_go
  rw [l_po_bn]
  refine l_po_mono (hf s hs) (fun f _ h => h) (fun s1 _ h => ?_)
  obtain ⟨a1, a2, a3⟩ := h
  refine l_po_mono (l_sumL_ok hf (w := none) (s := s1) a2 (by omega)) (fun f _ h => h) (fun s2 _ h => ?_)
  obtain ⟨b1, b2, b3⟩ := h
  have : l_ww none = 0 := rfl
  exact ⟨by omega, b2, by omega⟩
theorem l_end_ok (he : e ≤ 240) {c : Int32} (hc : ¬ c = -1) {s : Lst} (hs : lqn s ≤ e) : l_po (fun f => f < 0) (fun s' => lqn s + 1 = lqn s' ∧ lqn s' ≤ e ∧ lcn s' = lcn s) (l_end tb e c s) := by
  unfold l_end
  by_cases h : ch tb e (lqn s) = c
  · rw [if_pos h]
    exact ⟨rfl, ch_m1 h hc, rfl⟩
  · rw [if_neg h]; exact flt_neg (by decide) (by decide) (by omega)
theorem l_fac_ok (he : e ≤ 240) : ∀ {r : Nat} {s : Lst}, lqn s ≤ e → l_go e s 0 (l_fac tb e r s) := by
  intro r
  induction r with
  | zero =>
    intro s hs
    unfold l_fac
    by_cases h : ch tb e (lqn s) = 91
    · rw [if_pos h]; exact flt_neg (by decide) (by decide) (by omega)
    · rw [if_neg h]; exact l_atom_ok he hs
  | succ r ih =>
    intro s hs
    unfold l_fac
    by_cases h : ch tb e (lqn s) = 91
    · rw [if_pos h]
      have hl := ch_m1 h (by decide)
      unfold l_go
      rw [l_po_bn]
      refine l_po_mono (l_sumR_ok he (fun s hs => ih hs) (s := l_adv s) hl) (fun f _ h => h) (fun s1 _ h => ?_)
      obtain ⟨a1, a2, a3⟩ := h
      have hq : lqn (l_adv s) = lqn s + 1 := rfl
      have hc : lcn (l_adv s) = lcn s := rfl
      refine l_po_mono (l_end_ok he (by decide) a2) (fun f _ h => h) (fun s2 _ h => ?_)
      obtain ⟨b1, b2, b3⟩ := h
      exact ⟨by omega, b2, by omega⟩
    · rw [if_neg h]; exact l_atom_ok he hs
theorem l_sum_ok (he : e ≤ 240) {r : Nat} {s : Lst} (hs : lqn s ≤ e) : l_go e s 0 (l_sumR tb e (l_fac tb e r) s) := l_sumR_ok he (fun _ h => l_fac_ok he h) hs
theorem l_cmp2_ok (he : e ≤ 240) {r : Nat} {s : Lst} (hs : lqn s ≤ e) : l_go e s 0 (l_cmp2 tb e r s) := by
  unfold l_cmp2
  cases ho : l_co (ch tb e (lqn s)) with
  | none => exact flt_neg (by decide) (by decide) (by omega)
  | some o =>
    have hl := (l_co_lt ho).1
    unfold l_go
    rw [l_po_bn]
    refine l_po_mono (l_sum_ok (tb := tb) he (r := r) (s := l_adv s) hl) (fun f _ h => h) (fun s1 _ h => ?_)
    obtain ⟨a1, a2, a3⟩ := h
    have hq : lqn (l_adv s) = lqn s + 1 := rfl
    have hc : lcn (l_adv s) = lcn s := rfl
    exact ⟨show lqn s + 1 ≤ lqn s1 by omega, a2, show lcn s1 + 1 + lqn s ≤ lqn s1 + lcn s + 0 by omega⟩
theorem l_cmp_ok (he : e ≤ 240) {r : Nat} {s : Lst} (hs : lqn s ≤ e) : l_go e s 0 (l_cmp tb e r s) := by
  unfold l_cmp l_go
  rw [l_po_bn]
  refine l_po_mono (l_sum_ok (tb := tb) he (r := r) hs) (fun f _ h => h) (fun s1 _ h => ?_)
  obtain ⟨a1, a2, a3⟩ := h
  refine l_po_mono (l_cmp2_ok he (r := r) a2) (fun f _ h => h) (fun s2 _ h => ?_)
  obtain ⟨b1, b2, b3⟩ := h
  exact ⟨by omega, b2, by omega⟩
theorem l_conL_ok {ts : Lst → Lre} (hf : ∀ s, lqn s ≤ e → l_go e s 0 (ts s)) : ∀ {g : Nat} {ot op : Option Nat} {s : Lst}, lqn s ≤ e → e < lqn s + g → l_po (fun f => f < 0) (fun s' => lqn s ≤ lqn s' ∧ lqn s' ≤ e ∧ lcn s' + lqn s ≤ lqn s' + lcn s) (l_conL tb e ts g ot op s) := by
  intro g
  induction g with
  | zero => intro ot op s h1 h2; omega
  | succ g ih =>
    intro ot op s h1 h2
    unfold l_conL
    have step : ∀ {o : Nat} {s0 : Lst} {ot op : Option Nat}, lqn s0 = lqn s → lcn s0 = lcn s → lqn s < e → l_po (fun f => f < 0) (fun s' => lqn s ≤ lqn s' ∧ lqn s' ≤ e ∧ lcn s' + lqn s ≤ lqn s' + lcn s) (l_bn (ts (l_adv (l_emt o 0 s0))) (l_conL tb e ts g ot op)) := by
      intro o s0 ot op e1 e2 hl
      rw [l_po_bn]
      have hq : lqn (l_adv (l_emt o 0 s0)) = lqn s0 + 1 := rfl
      have hc : lcn (l_adv (l_emt o 0 s0)) = lcn s0 + 1 := rfl
      refine l_po_mono (hf (l_adv (l_emt o 0 s0)) (by omega)) (fun f _ h => h) (fun s1 _ h => ?_)
      obtain ⟨a1, a2, a3⟩ := h
      refine l_po_mono (ih (ot := ot) (op := op) (s := s1) a2 (by omega)) (fun f _ h => h) (fun s2 _ h => ?_)
      obtain ⟨b1, b2, b3⟩ := h
      exact ⟨by omega, b2, by omega⟩
    by_cases h38 : ch tb e (lqn s) = 38
    · rw [if_pos h38]
      exact step (l_pat_q _ _) (l_pat_c _ _) (ch_m1 h38 (by decide))
    · rw [if_neg h38]
      by_cases h124 : ch tb e (lqn s) = 124
      · rw [if_pos h124]
        exact step (by rw [l_pat_q, l_pat_q]) (by rw [l_pat_c, l_pat_c]) (ch_m1 h124 (by decide))
      · rw [if_neg h124]
        show lqn s ≤ lqn (l_pat op (l_pat ot s)) ∧ lqn (l_pat op (l_pat ot s)) ≤ e ∧ lcn (l_pat op (l_pat ot s)) + lqn s ≤ lqn (l_pat op (l_pat ot s)) + lcn s
        rw [l_pat_q, l_pat_q, l_pat_c, l_pat_c]; omega
theorem l_conR_ok (he : e ≤ 240) {ts : Lst → Lre} (hf : ∀ s, lqn s ≤ e → l_go e s 0 (ts s)) {s : Lst} (hs : lqn s ≤ e) : l_go e s 0 (l_conR tb e ts s) := by
  unfold l_conR l_go
  rw [l_po_bn]
  refine l_po_mono (hf s hs) (fun f _ h => h) (fun s1 _ h => ?_)
  obtain ⟨a1, a2, a3⟩ := h
  refine l_po_mono (l_conL_ok hf (ot := none) (op := none) (s := s1) a2 (by omega)) (fun f _ h => h) (fun s2 _ h => ?_)
  obtain ⟨b1, b2, b3⟩ := h
  exact ⟨by omega, b2, by omega⟩
theorem l_tst_ok (he : e ≤ 240) : ∀ {r : Nat} {s : Lst}, lqn s ≤ e → l_go e s 0 (l_tst tb e r s) := by
  intro r
  induction r with
  | zero =>
    intro s hs
    unfold l_tst
    by_cases h33 : ch tb e (lqn s) = 33
    · rw [if_pos h33]; exact flt_neg (by decide) (by decide) (by omega)
    · rw [if_neg h33]
      by_cases h40 : ch tb e (lqn s) = 40
      · rw [if_pos h40]; exact flt_neg (by decide) (by decide) (by omega)
      · rw [if_neg h40]; exact l_cmp_ok he hs
  | succ r ih =>
    intro s hs
    unfold l_tst
    have hq : lqn (l_adv s) = lqn s + 1 := rfl
    have hc : lcn (l_adv s) = lcn s := rfl
    by_cases h33 : ch tb e (lqn s) = 33
    · rw [if_pos h33]
      have hl := ch_m1 h33 (by decide)
      unfold l_go
      rw [l_po_bn]
      refine l_po_mono (ih (s := l_adv s) hl) (fun f _ h => h) (fun s1 _ h => ?_)
      obtain ⟨a1, a2, a3⟩ := h
      exact ⟨show lqn s + 1 ≤ lqn s1 by omega, a2, show lcn s1 + 1 + lqn s ≤ lqn s1 + lcn s + 0 by omega⟩
    · rw [if_neg h33]
      by_cases h40 : ch tb e (lqn s) = 40
      · rw [if_pos h40]
        have hl := ch_m1 h40 (by decide)
        unfold l_go
        rw [l_po_bn]
        refine l_po_mono (l_conR_ok he (fun s hs => ih hs) (s := l_adv s) hl) (fun f _ h => h) (fun s1 _ h => ?_)
        obtain ⟨a1, a2, a3⟩ := h
        refine l_po_mono (l_end_ok he (by decide) a2) (fun f _ h => h) (fun s2 _ h => ?_)
        obtain ⟨b1, b2, b3⟩ := h
        exact ⟨by omega, b2, by omega⟩
      · rw [if_neg h40]; exact l_cmp_ok he hs
theorem l_con_ok (he : e ≤ 240) {r : Nat} {s : Lst} (hs : lqn s ≤ e) : l_go e s 0 (l_conR tb e (l_tst tb e r) s) := l_conR_ok he (fun _ h => l_tst_ok he h) hs
end OK
