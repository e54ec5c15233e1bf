/-! the model reads THE LAW: what waits is a list, its top first -/
abbrev Wl : Type := List (Nat × Nat)
def l_WS (g : Nat → Int32) : Wl → Prop
  | [] => True
  | x :: W => g W.length = nI (1048576 * x.1 + x.2) ∧ x.1 ≤ 14 ∧ x.2 < 1048576 ∧ l_WS g W
def mC (M : pu_M) (s : Lst) : Prop := M 58 10 = nI (lcn s) ∧ ∀ p, p < lcn s → M 63 p = nI (1048576 * (lfn s p).1 + (lfn s p).2.1) ∧ (lfn s p).1 ≤ 14 ∧ (lfn s p).2.1 < 1048576
def mT (tb : Nat → Nat) (e : Nat) (M : pu_M) (W : Wl) (o : Nat) (s : Lst) : Prop := MSt M tb e (lqn s) ∧ mC M s ∧ (M 58 11 = nI W.length ∧ l_WS (M 64) W) ∧ M 58 9 = nI o
def mF (M M' : pu_M) : Prop := (∀ k, k ≠ 58 → k ≠ 63 → k ≠ 64 → M' k = M k) ∧ ∀ j, j ≠ 5 → j ≠ 7 → j ≠ 8 → j ≠ 9 → j ≠ 10 → j ≠ 11 → M' 58 j = M 58 j
theorem mF.rf (M : pu_M) : mF M M := ⟨fun _ _ _ _ => rfl, fun _ _ _ _ _ _ _ => rfl⟩
theorem mF.tr {A B C : pu_M} (h1 : mF A B) (h2 : mF B C) : mF A C := ⟨fun k a b c => (h2.1 k a b c).trans (h1.1 k a b c), fun j a b c d e f => (h2.2 j a b c d e f).trans (h1.2 j a b c d e f)⟩
theorem mF.w58 {M M' : pu_M} {i : Nat} {x : Int32} (h : mF M M') (hi : i = 5 ∨ i = 7 ∨ i = 8 ∨ i = 9 ∨ i = 10 ∨ i = 11) : mF M (pu_wr M' 58 i x) := ⟨fun k a b c => by rw [pu_wr_ne a]; exact h.1 k a b c, fun j a b c d e f => by rw [pu_wr_self, upd_n (by omega)]; exact h.2 j a b c d e f⟩
theorem mF.w63 {M M' : pu_M} {i : Nat} {x : Int32} (h : mF M M') : mF M (pu_wr M' 63 i x) := ⟨fun k a b c => by rw [pu_wr_ne b]; exact h.1 k a b c, fun j a b c d e f => by rw [pu_wr_ne (by decide)]; exact h.2 j a b c d e f⟩
theorem mF.w64 {M M' : pu_M} {i : Nat} {x : Int32} (h : mF M M') : mF M (pu_wr M' 64 i x) := ⟨fun k a b c => by rw [pu_wr_ne c]; exact h.1 k a b c, fun j a b c d e f => by rw [pu_wr_ne (by decide)]; exact h.2 j a b c d e f⟩
theorem l_WS_up {g : Nat → Int32} {W : Wl} {k : Nat} {x : Int32} (h : l_WS g W) (hk : W.length ≤ k) : l_WS (upd g k x) W := by
  induction W with
  | nil => trivial
  | cons y W ih =>
    have hk : W.length + 1 ≤ k := hk
    obtain ⟨h1, h2, h3, h4⟩ := h
    exact ⟨by rw [upd_n (by omega)]; exact h1, h2, h3, ih h4 (by omega)⟩
/-- the number of what waits at a place -/
def l_wa : Wl → Nat → Nat
  | [], _ => 0
  | x :: W, k => if k = W.length then x.1 else l_wa W k
theorem u_div {a v : Nat} (ha : a ≤ 14) (hv : v < 1048576) : nI (1048576 * a + v) / 1048576 = nI a := by
  rw [n_1048576, pk_div (by omega) (by decide) (by decide)]
  congr 1; omega
theorem u_rem {a v : Nat} (ha : a ≤ 14) (hv : v < 1048576) : nI (1048576 * a + v) % 1048576 = nI v := by
  rw [n_1048576, nI_rem (by omega) (by decide) (by decide)]
  congr 1; omega
theorem l_WS_wa {g : Nat → Int32} : ∀ {W : Wl} {k : Nat}, l_WS g W → k < W.length → g k / 1048576 = nI (l_wa W k) ∧ l_wa W k ≤ 14
  | [], k, _, hk => absurd hk (by show ¬ k < 0; omega)
  | x :: W, k, h, hk => by
    obtain ⟨h1, h2, h3, h4⟩ := h
    have hk : k < W.length + 1 := hk
    show _ = nI (if k = W.length then x.1 else l_wa W k) ∧ (if k = W.length then x.1 else l_wa W k) ≤ 14
    by_cases z : k = W.length
    · rw [if_pos z, z, h1, u_div h2 h3]; exact ⟨rfl, h2⟩
    · rw [if_neg z]; exact l_WS_wa h4 (by omega)
def l_tp1 (W : Wl) : Int32 := match W with
  | [] => -1
  | x :: _ => nI x.1
section NR
variable {L d : Nat} {M : pu_M} {tb : Nat → Nat} {e o : Nat} {s : Lst} {W : Wl}
theorem mT_58 {i : Nat} {x : Int32} (h : mT tb e M W o s) (h1 : i ≠ 5) (h2 : i ≠ 6) (h3 : i ≠ 9) (h4 : i ≠ 10) (h5 : i ≠ 11) : mT tb e (pu_wr M 58 i x) W o s := by
  obtain ⟨a, b, c, f⟩ := h
  refine ⟨MSt_wr a (by decide) (Or.inr ⟨h1, h2⟩), ⟨?_, ?_⟩, ⟨?_, ?_⟩, ?_⟩
  · rw [pu_wr_self, upd_n (Ne.symm h4)]; exact b.1
  · rw [pu_wr_ne (by decide)]; exact b.2
  · rw [pu_wr_self, upd_n (Ne.symm h5)]; exact c.1
  · rw [pu_wr_ne (by decide)]; exact c.2
  · rw [pu_wr_self, upd_n (Ne.symm h3)]; exact f
theorem mT_adv (h : mT tb e M W o s) : mT tb e (pu_wr M 58 5 (nI (lqn s + 1))) W o (l_adv s) := by
  obtain ⟨a, b, c, f⟩ := h
  refine ⟨MSt_adv a, ⟨?_, ?_⟩, ⟨?_, ?_⟩, ?_⟩
  · rw [pu_wr_self, upd_n (by decide)]; exact b.1
  · rw [pu_wr_ne (by decide)]; exact b.2
  · rw [pu_wr_self, upd_n (by decide)]; exact c.1
  · rw [pu_wr_ne (by decide)]; exact c.2
  · rw [pu_wr_self, upd_n (by decide)]; exact f
theorem mT_open {o' : Nat} (h : mT tb e M W o s) : mT tb e (pu_wr M 58 9 (nI o')) W o' s := by
  obtain ⟨a, b, c, f⟩ := h
  refine ⟨MSt_wr a (by decide) (Or.inr ⟨by decide, by decide⟩), ⟨?_, ?_⟩, ⟨?_, ?_⟩, ?_⟩
  · rw [pu_wr_self, upd_n (by decide)]; exact b.1
  · rw [pu_wr_ne (by decide)]; exact b.2
  · rw [pu_wr_self, upd_n (by decide)]; exact c.1
  · rw [pu_wr_ne (by decide)]; exact c.2
  · rw [pu_wr_self, upd_s]
theorem mT_pop {x : Nat × Nat} (h : mT tb e M (x :: W) o s) : mT tb e (pu_wr M 58 11 (M 58 11 - 1)) W o s := by
  obtain ⟨a, b, c, f⟩ := h
  have c1 : M 58 11 = nI (W.length + 1) := c.1
  refine ⟨MSt_wr a (by decide) (Or.inr ⟨by decide, by decide⟩), ⟨?_, ?_⟩, ⟨?_, ?_⟩, ?_⟩
  · rw [pu_wr_self, upd_n (by decide)]; exact b.1
  · rw [pu_wr_ne (by decide)]; exact b.2
  · rw [pu_wr_self, upd_s, c1]; exact pk_sub (a := W.length + 1) (b := 1) (by omega)
  · rw [pu_wr_ne (by decide)]; exact c.2.2.2.2
  · rw [pu_wr_self, upd_n (by decide)]; exact f
theorem mT_push {x : Nat × Nat} (h : mT tb e M W o s) (h1 : x.1 ≤ 14) (h2 : x.2 < 1048576) : mT tb e (pu_wr (pu_wr M 64 W.length (nI (1048576 * x.1 + x.2))) 58 11 (nI (W.length + 1))) (x :: W) o s := by
  obtain ⟨a, b, c, f⟩ := h
  refine ⟨MSt_wr (MSt_wr a (by decide) (Or.inl (by decide))) (by decide) (Or.inr ⟨by decide, by decide⟩), ⟨?_, ?_⟩, ⟨?_, ?_⟩, ?_⟩
  · rw [pu_wr_self, upd_n (by decide), pu_wr_ne (by decide)]; exact b.1
  · rw [pu_wr_ne (by decide), pu_wr_ne (by decide)]; exact b.2
  · rw [pu_wr_self, upd_s]; rfl
  · rw [pu_wr_ne (by decide), pu_wr_self]
    exact ⟨upd_s, h1, h2, l_WS_up c.2 (Nat.le_refl _)⟩
  · rw [pu_wr_self, upd_n (by decide), pu_wr_ne (by decide)]; exact f
theorem c_N_notes {Q : pu_M → Prop} {a v : Nat} (ha : a ≤ 14) (hv : v < 1048576) (hc : lcn s < 260) (h : mT tb e M W o s) (H : ∀ M', mT tb e M' W o (l_emt a v s) → mF M M' → Q M') : pu_V L (d + 1) 183 [.ref 58, .int (nI a), .int (nI v)] M Q := by
  refine r_m_notes ?_
  obtain ⟨h1, h2, h3, h4⟩ := h
  rw [h2.1, pu_wr_ne (show (58 : Nat) ≠ 63 by decide), h2.1, nI_clamp (by omega), n_1048576, pk_mul, nI_add, nI_1]
  refine ⟨inb_nI hc (by decide), H _ ⟨?_, ⟨?_, fun p hp => ?_⟩, ⟨?_, ?_⟩, ?_⟩ (((mF.rf M).w63).w58 (by omega))⟩
  · exact MSt_wr (MSt_wr h1 (by decide) (Or.inl (by decide))) (by decide) (Or.inr ⟨by decide, by decide⟩)
  · rw [pu_wr_self, upd_s]; rfl
  · have hp : p < lcn s + 1 := hp
    rw [pu_wr_ne (by decide), pu_wr_self]
    show _ = nI (1048576 * (fset (lfn s) (lcn s) (a, v, lhn s) p).1 + (fset (lfn s) (lcn s) (a, v, lhn s) p).2.1) ∧ (fset (lfn s) (lcn s) (a, v, lhn s) p).1 ≤ 14 ∧ (fset (lfn s) (lcn s) (a, v, lhn s) p).2.1 < 1048576
    by_cases z : p = lcn s
    · subst z; rw [upd_s, fset_s]; exact ⟨rfl, ha, hv⟩
    · rw [upd_n z, fset_n z]; exact h2.2 p (by omega)
  · rw [pu_wr_self, upd_n (by decide), pu_wr_ne (by decide)]; exact h3.1
  · rw [pu_wr_ne (by decide), pu_wr_ne (by decide)]; exact h3.2
  · rw [pu_wr_self, upd_n (by decide), pu_wr_ne (by decide)]; exact h4
theorem c_N_top {Q : Int32 → pu_M → Prop} (hW : W.length ≤ 260) (h : mT tb e M W o s) (H : Q (l_tp1 W) M) : pu_I L (d + 1) 185 [.ref 58] M Q := by
  refine r_m_waitTop ?_
  obtain ⟨h1, h2, h3, h4⟩ := h
  rw [h3.1]
  cases W with
  | nil => rw [if_pos (show nI ([] : Wl).length = 0 from rfl)]; exact H
  | cons x W =>
    have hW : W.length + 1 ≤ 260 := hW
    obtain ⟨w1, w2, w3, w4⟩ := h3.2
    show if nI (W.length + 1) = 0 then _ else _
    rw [if_neg (by rw [n_0, nI_eq (by omega) (by decide)]; omega)]
    show mq_inb (nI (W.length + 1) - nI 1) 260 = true ∧ Q (M 64 (nI (W.length + 1) - nI 1).toNatClampNeg / 1048576) M
    rw [pk_sub (by omega), show W.length + 1 - 1 = W.length by omega, nI_clamp (by omega), w1, u_div w2 w3]
    exact ⟨inb_nI (by omega) (by decide), H⟩
theorem c_N_here {Q : Int32 → pu_M → Prop} (hX : TX tb e) (hq : lqn s ≤ 1000) (h : mT tb e M W o s) (H : Q (ch tb e (lqn s)) M) : pu_I L (d + 1) 178 [.ref 58] M Q := c_m_here hX hq h.1 H
theorem c_N_wrong {Q : Int32 → pu_M → Prop} {k : Int32} (h : mT tb e M W o s) (H : ∀ M', M' 58 7 = flt k (lqn s) → mF M M' → Q 0 M') : pu_I L (d + 1) 180 [.ref 58, .int k, .int (M 58 5)] M Q :=
  c_m_wrongAt h.1 (H _ (by rw [pu_wr_self, upd_s]) ((mF.rf M).w58 (by omega)))
theorem c_N_opens {Q : Int32 → pu_M → Prop} {a : Nat} (ha : a ≤ 14) (ho : o ≤ 6) (hW : W.length < 260) (h : mT tb e M W o s) (H5 : o = 6 → ∀ M', M' 58 7 = flt 5 (lqn s) → mF M M' → Q 0 M') (H : o < 6 → ∀ M', mT tb e M' ((a, 0) :: W) (o + 1) (l_adv s) → mF M M' → Q 1 M') : pu_I L (d + 2) 184 [.ref 58, .int (nI a)] M Q := by
  refine r_m_opens ?_
  rw [h.2.2.2]
  by_cases h6 : o = 6
  · rw [if_pos (by rw [h6]; rfl)]
    exact c_N_wrong h (fun M' a b => ⟨Or.inl rfl, H5 h6 M' a b⟩)
  · rw [if_neg (by rw [n_6, nI_eq (by omega) (by omega)]; exact h6)]
    have t1 := mT_open (o' := o + 1) h
    have e11 : pu_wr M 58 9 (nI (o + 1)) 58 11 = nI W.length := t1.2.2.1.1
    rw [nI_1, e11, pu_wr_ne (show (58 : Nat) ≠ 64 by decide), e11, nI_clamp (by omega), nI_1]
    refine ⟨inb_nI hW (by decide), fun M2 e2 => ?_⟩
    have e3 : (1048576 : Int32) * nI a = nI (1048576 * a + 0) := by rw [n_1048576, pk_mul, Nat.add_zero]
    rw [e3] at e2
    have t2 := mT_push (x := (a, 0)) t1 ha (show 0 < 1048576 by decide)
    have f2 : mF M M2 := by rw [e2]; exact (((mF.rf M).w58 (by omega)).w64).w58 (by omega)
    have t2 : mT tb e M2 ((a, 0) :: W) (o + 1) s := by rw [e2]; exact t2
    rw [t2.1.2.1, nI_1]
    exact H (by omega) _ (mT_adv t2) (f2.w58 (by omega))
/-- what waits is closed: * / % -/
theorem c_N_clo4 {Q : pu_M → Prop} {a : Nat} {v1 : Int32} (h1 : 4 ≤ a) (h2 : a ≤ 6) (hc : lcn s < 260) (hW : W.length < 260) (h : mT tb e M ((a, 0) :: W) o s) (H : ∀ M', mT tb e M' W o (l_emt a 0 s) → mF M M' → pu_R L (d + 2) 188 0 [.ref 58, .int v1] [] M' (pu_qV Q)) : pu_R L (d + 2) 188 0 [.ref 58, .int v1] [] M (pu_qV Q) := by
  have hW2 : ((a, 0) :: W).length ≤ 260 := hW
  refine r_m_closesSums_0 (c_N_top hW2 h ?_)
  show if nI a < 4 then _ else _
  rw [if_neg (by rw [n_4, nI_ltI (by omega) (by omega)]; omega)]
  refine c_N_top hW2 h ?_
  show if nI a ≤ 6 then _ else _
  rw [if_pos (by rw [n_6, nI_leI (by omega) (by omega)]; omega)]
  refine c_N_top hW2 h ?_
  exact c_N_notes (v := 0) (by omega) (by decide) hc h (fun M1 t1 f1 => H _ (mT_pop t1) (f1.w58 (by omega)))
/-- + - -/
theorem c_N_clo2 {Q : pu_M → Prop} {a : Nat} (h1 : a = 2 ∨ a = 3) (hc : lcn s < 260) (hW : W.length < 260) (h : mT tb e M ((a, 0) :: W) o s) (H : ∀ M', mT tb e M' W o (l_emt a 0 s) → mF M M' → pu_R L (d + 2) 188 0 [.ref 58, .int 1] [] M' (pu_qV Q)) : pu_R L (d + 2) 188 0 [.ref 58, .int 1] [] M (pu_qV Q) := by
  have hW2 : ((a, 0) :: W).length ≤ 260 := hW
  refine r_m_closesSums_0 (c_N_top hW2 h ?_)
  show if nI a < 4 then _ else _
  rw [if_pos (by rw [n_4, nI_ltI (by omega) (by omega)]; omega)]
  refine r_m_closesSums_17 ?_
  rw [if_neg (by decide)]
  refine c_N_top hW2 h ?_
  rcases h1 with rfl | rfl
  · rw [if_pos (show l_tp1 ((2, 0) :: W) = 2 from rfl)]
    refine c_N_top hW2 h ?_
    exact c_N_notes (v := 0) (by omega) (by decide) hc h (fun M1 t1 f1 => H _ (mT_pop t1) (f1.w58 (by omega)))
  · rw [if_neg (show ¬ l_tp1 ((3, 0) :: W) = 2 by show ¬ nI 3 = 2; decide)]
    refine c_N_top hW2 h ?_
    rw [if_pos (show l_tp1 ((3, 0) :: W) = 3 from rfl)]
    refine c_N_top hW2 h ?_
    exact c_N_notes (v := 0) (by omega) (by decide) hc h (fun M1 t1 f1 => H _ (mT_pop t1) (f1.w58 (by omega)))
/-- the end of closing -/
def l_nop (W : Wl) (a : Nat) : Prop := ∀ x W', W = x :: W' → x.1 < a ∨ 7 ≤ x.1
theorem c_N_cloE {Q : pu_M → Prop} {v1 : Int32} (hv : v1 = 0 ∧ l_nop W 4 ∨ l_nop W 2) (hW : W.length ≤ 260) (h : mT tb e M W o s) (H : Q M) : pu_R L (d + 2) 188 0 [.ref 58, .int v1] [] M (pu_qV Q) := by
  have h17 : pu_R L (d + 2) 188 17 [.ref 58, .int v1] [] M (pu_qV Q) := by
    refine r_m_closesSums_17 ?_
    by_cases z : v1 = 0
    · rw [if_pos z]; exact H
    · rw [if_neg z]
      have hn : l_nop W 2 := by rcases hv with w | w; exact absurd w.1 z; exact w
      refine c_N_top hW h ?_
      have hne : ∀ c : Nat, c = 2 ∨ c = 3 → ¬ l_tp1 W = nI c := by
        intro c hc
        cases W with
        | nil => rcases hc with rfl | rfl <;> decide
        | cons x W =>
          obtain ⟨w1, w2, w3, w4⟩ := h.2.2.1.2
          show ¬ nI x.1 = nI c
          rw [nI_eq (by omega) (by omega)]
          have := hn x W rfl
          omega
      rw [if_neg (show ¬ l_tp1 W = 2 from hne 2 (Or.inl rfl))]
      refine c_N_top hW h ?_
      rw [if_neg (show ¬ l_tp1 W = 3 from hne 3 (Or.inr rfl))]
      exact H
  refine r_m_closesSums_0 (c_N_top hW h ?_)
  by_cases z : l_tp1 W < 4
  · rw [if_pos z]; exact h17
  · rw [if_neg z]
    refine c_N_top hW h ?_
    rw [if_neg]
    · exact h17
    · cases W with
      | nil => exact absurd (show l_tp1 [] < 4 by decide) z
      | cons x W =>
        obtain ⟨w1, w2, w3, w4⟩ := h.2.2.1.2
        show ¬ nI x.1 ≤ 6
        have z : ¬ nI x.1 < 4 := z
        rw [n_4, nI_ltI (by omega) (by omega)] at z
        rw [n_6, nI_leI (by omega) (by omega)]
        rcases hv with w | w
        · have := w.2 x W rfl; omega
        · have := w x W rfl; omega
/-- is a [ open in this sum -/
theorem c_N_hos {Q : Int32 → pu_M → Prop} {b : Nat} (hb : b ≤ W.length) (hW : W.length ≤ 260) (h : mT tb e M W o s) (H : Q (bI (fnd (fun k => decide (l_wa W k = 14)) (W.length - b) b).isSome) M) : pu_I L (d + 1) 190 [.ref 58, .int (nI b)] M Q := by
  have key : ∀ j k, k + j = W.length → Q (bI (fnd (fun k => decide (l_wa W k = 14)) j k).isSome) M → pu_R L (d + 1) 190 2 [.ref 58, .int (nI b), .int (nI k)] [] M (pu_qI Q) := by
    intro j
    induction j with
    | zero =>
      intro k hk H
      refine r_m_hasOpenSum_2 ?_
      rw [h.2.2.1.1, if_pos (by rw [nI_leI (by omega) (by omega)]; omega)]; exact H
    | succ j ih =>
      intro k hk H
      refine r_m_hasOpenSum_2 ?_
      obtain ⟨w1, w2⟩ := l_WS_wa (k := k) h.2.2.1.2 (by omega)
      rw [h.2.2.1.1, if_neg (by rw [nI_leI (by omega) (by omega)]; omega), nI_clamp (by omega), w1, nI_1]
      refine ⟨inb_nI (by omega) (by decide), ?_⟩
      by_cases z : l_wa W k = 14
      · rw [if_pos (by rw [z]; rfl)]
        rw [fnd_t (by simpa using z)] at H; exact H
      · rw [if_neg (by rw [n_14, nI_eq (by omega) (by decide)]; exact z)]
        rw [fnd_f (by simpa using z)] at H; exact ih (k + 1) (by omega) H
  exact r_m_hasOpenSum (key (W.length - b) b (by omega) H)
end NR
