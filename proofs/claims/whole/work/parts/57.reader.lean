/-! the class reads THE LAW -/
def kop : Nat → Int32
  | 0 => 0
  | 1 => 1
  | 2 => 43
  | 3 => 45
  | 4 => 42
  | 5 => 47
  | 6 => 37
  | 7 => 60
  | 8 => 62
  | 9 => 61
  | 10 => 2
  | 11 => 4
  | _ => 3
theorem l_so_k {x : Int32} {o : Nat} (h : l_so x = some o) : x = kop o := by
  unfold l_so at h
  repeat (split at h; · cases h; assumption)
  cases h
theorem l_co_k {x : Int32} {o : Nat} (h : l_co x = some o) : x = kop o := by
  unfold l_co at h
  repeat (split at h; · cases h; assumption)
  cases h
def kC (M : pu_M) (y : Nat) (s : Lst) : Prop := M y 2 = nI (lcn s) ∧ ∀ p, p < lcn s → M (y + 1) p = kop (lfn s p).1 ∧ M (y + 2) p = nI (lfn s p).2.1
def kT (tb : Nat → Nat) (e : Nat) (M : pu_M) (y : Nat) (s : Lst) : Prop := M 49 1 = nI y ∧ TS M tb e (lqn s) ∧ kC M y s
def kD (M : pu_M) (y : Nat) (f : Int32) : Prop := M 49 1 = nI y ∧ DS M f ∧ ∃ c, c ≤ 240 ∧ M y 2 = nI c
def kF (y : Nat) (M M' : pu_M) : Prop := (∀ k, k ≠ 1 → k ≠ y → k ≠ y + 1 → k ≠ y + 2 → M' k = M k) ∧ ∀ j, j ≠ 2 → M' y j = M y j
theorem kF.rf (y : Nat) (M : pu_M) : kF y M M := ⟨fun _ _ _ _ _ => rfl, fun _ _ => rfl⟩
theorem kF.tr {y : Nat} {A B C : pu_M} (h1 : kF y A B) (h2 : kF y B C) : kF y A C := ⟨fun k a b c d => (h2.1 k a b c d).trans (h1.1 k a b c d), fun j hj => (h2.2 j hj).trans (h1.2 j hj)⟩
theorem kF.o1 {y : Nat} (hy : pu_isL y) {M M' : pu_M} (o : only (fun k => k = 1) M M') : kF y M M' := ⟨fun k h1 _ _ _ => o k h1, fun j _ => by rw [o y (by unfold pu_isL at hy; omega)]⟩
def kA (y : Nat) (M : pu_M) (Q : pu_M → Prop) (f : Int32) : Prop := ∀ M', kD M' y f → kF y M M' → Q M'
def kB (tb : Nat → Nat) (e y : Nat) (M : pu_M) (Q : pu_M → Prop) (s : Lst) : Prop := ∀ M', kT tb e M' y s → kF y M M' → Q M'
def kP (tb : Nat → Nat) (e y : Nat) (M : pu_M) (Q : pu_M → Prop) (x : Lre) : Prop := l_po (kA y M Q) (kB tb e y M Q) x
section KR
variable {L d : Nat} {M : pu_M} {tb : Nat → Nat} {e y : Nat} {s : Lst} {f : Int32}
theorem kP_fr {M1 : pu_M} {Q : pu_M → Prop} {x : Lre} (o : kF y M M1) (h : kP tb e y M Q x) : kP tb e y M1 Q x :=
  l_po_mono h (fun f _ a M' d o2 => a M' d (o.tr o2)) (fun s _ b M' d o2 => b M' d (o.tr o2))
theorem kT_1 (hy : pu_isL y) {M' : pu_M} {s' : Lst} (h : kT tb e M y s) (o : only (fun k => k = 1) M M') (ht : TS M' tb e (lqn s')) (e1 : lcn s' = lcn s) (e2 : lfn s' = lfn s) : kT tb e M' y s' := by
  have hy' : 31 ≤ y ∧ y ≤ 40 := by unfold pu_isL at hy; omega
  refine ⟨?_, ht, ?_⟩
  · rw [o 49 (by decide)]; exact h.1
  · unfold kC
    rw [o y (by omega), o (y + 1) (by omega), o (y + 2) (by omega), e1, e2]; exact h.2.2
theorem kD_1 (hy : pu_isL y) {M' : pu_M} {c : Nat} (h1 : M 49 1 = nI y) (h2 : M y 2 = nI c) (hc : c ≤ 240) (o : only (fun k => k = 1) M M') (hd : DS M' f) : kD M' y f := by
  have hy' : 31 ≤ y ∧ y ≤ 40 := by unfold pu_isL at hy; omega
  refine ⟨?_, hd, c, hc, ?_⟩
  · rw [o 49 (by decide)]; exact h1
  · rw [o y (by omega)]; exact h2
theorem c_K_step {Q : pu_M → Prop} (hX : TX tb e) (hy : pu_isL y) (hq : lqn s ≤ 1000) (h : kT tb e M y s) (H : ∀ M', kT tb e M' y (l_adv s) → kF y M M' → Q M') : pu_V L (d + 1) 83 [.ref 1] M Q :=
  c_T_step hX hq h.2.1 (fun M' t o => H M' (kT_1 hy h o t rfl rfl) (kF.o1 hy o))
theorem c_K_stepD {Q : pu_M → Prop} (hy : pu_isL y) (hf : ¬ f = 0) (h : kD M y f) (H : ∀ M', kD M' y f → kF y M M' → Q M') : pu_V L (d + 1) 83 [.ref 1] M Q := by
  obtain ⟨h1, h2, c, hc, h3⟩ := h
  exact c_D_step hf h2 (fun M' t o => H M' (kD_1 hy h1 h3 hc o t) (kF.o1 hy o))
theorem c_K_fail {Q : pu_M → Prop} {k : Int32} (hy : pu_isL y) (hc : lcn s ≤ 240) (h : kT tb e M y s) (H : ∀ M', kD M' y (flt k (lqn s)) → kF y M M' → Q M') : pu_V L (d + 1) 88 [.ref 1, .int k, .int (M 1 3)] M Q :=
  c_T_failq h.2.1 (fun M' t o => H M' (kD_1 hy h.1 h.2.2.1 hc o t) (kF.o1 hy o))
theorem c_K_failD {Q : pu_M → Prop} {k w : Int32} (hf : ¬ f = 0) (h : kD M y f) (H : Q M) : pu_V L (d + 1) 88 [.ref 1, .int k, .int w] M Q := c_D_fail hf h.2.1 H
theorem c_K_wants {Q : pu_M → Prop} {c : Int32} (hX : TX tb e) (hy : pu_isL y) (hq : lqn s ≤ e) (hc : lcn s ≤ 240) (h : kT tb e M y s) (H : kP tb e y M Q (l_end tb e c s)) : pu_V L (d + 2) 85 [.ref 1, .int c] M Q := by
  have he := hX.1
  unfold l_end at H
  refine c_T_wants hX (by omega) h.2.1 (fun z M' t o => ?_) (fun z M' t o => ?_)
  · rw [if_pos z] at H
    exact H M' (kT_1 hy h o t rfl rfl) (kF.o1 hy o)
  · rw [if_neg z] at H
    exact H M' (kD_1 hy h.1 h.2.2.1 hc o t) (kF.o1 hy o)
theorem c_K_wantsD {Q : pu_M → Prop} {c : Int32} (hv : ¬ -1 = c) (hf : ¬ f = 0) (h : kD M y f) (H : Q M) : pu_V L (d + 2) 85 [.ref 1, .int c] M Q := c_D_wants hv hf h.2.1 H
theorem c_K_add {Q : Int32 → pu_M → Prop} {o v : Nat} (hy : pu_isL y) (hc : lcn s < 240) (h : kT tb e M y s) (H : ∀ M', kT tb e M' y (l_emt o v s) → kF y M M' → Q (nI (lcn s)) M') : pu_I L (d + 1) 36 [.ref y, .int (kop o), .int (nI v)] M Q := by
  have hy' : 31 ≤ y ∧ y ≤ 40 := by unfold pu_isL at hy; omega
  obtain ⟨h1, h2, h3, h4⟩ := h
  refine r_Law_add hy ?_
  rw [pu_wr_ne (show y ≠ y + 1 by omega), h3, if_pos (by rw [n_240, nI_ltI (by omega) (by omega)]; exact hc), nI_clamp (by omega)]
  refine ⟨inb_nI (by omega) (by decide), inb_nI (by omega) (by decide), fun M3 e3 => ?_⟩
  rw [pu_wr_ne (show y ≠ y + 2 by omega), pu_wr_ne (show y ≠ y + 1 by omega), h3, nI_1] at e3
  subst e3
  rw [pu_wr_self, upd_s, show nI (lcn s + 1) - 1 = nI (lcn s) from pk_sub (a := lcn s + 1) (b := 1) (by omega)]
  refine H _ ⟨?_, ?_, ?_, fun p hp => ?_⟩ ⟨fun k k1 k2 k3 k4 => ?_, fun j hj => ?_⟩
  · rw [pu_wr_ne (by omega), pu_wr_ne (by omega), pu_wr_ne (by omega)]; exact h1
  · unfold TS
    rw [pu_wr_ne (show 1 ≠ y by omega), pu_wr_ne (show 1 ≠ y + 2 by omega), pu_wr_ne (show 1 ≠ y + 1 by omega), pu_wr_ne (show 2 ≠ y by omega), pu_wr_ne (show 2 ≠ y + 2 by omega), pu_wr_ne (show 2 ≠ y + 1 by omega)]
    exact h2
  · rw [pu_wr_self, upd_s]; rfl
  · have hp : p < lcn s + 1 := hp
    rw [pu_wr_ne (show y + 1 ≠ y by omega), pu_wr_ne (show y + 1 ≠ y + 2 by omega), pu_wr_self, pu_wr_ne (show y + 2 ≠ y by omega), pu_wr_self, pu_wr_ne (show y + 2 ≠ y + 1 by omega)]
    show _ = kop (fset (lfn s) (lcn s) (o, v, lhn s) p).1 ∧ _ = nI (fset (lfn s) (lcn s) (o, v, lhn s) p).2.1
    by_cases z : p = lcn s
    · subst z; rw [upd_s, upd_s, fset_s]; exact ⟨rfl, rfl⟩
    · rw [upd_n z, upd_n z, fset_n z]; exact h4 p (by omega)
  · rw [pu_wr_ne k2, pu_wr_ne k4, pu_wr_ne k3]
  · rw [pu_wr_self, upd_n hj, pu_wr_ne (by omega), pu_wr_ne (by omega)]
theorem c_K_addD {Q : Int32 → pu_M → Prop} {a b : Int32} (hy : pu_isL y) (h : kD M y f) (H : ∀ x M', kD M' y f → kF y M M' → Q x M') : pu_I L (d + 1) 36 [.ref y, .int a, .int b] M Q := by
  have hy' : 31 ≤ y ∧ y ≤ 40 := by unfold pu_isL at hy; omega
  obtain ⟨h1, h2, c, hc, h3⟩ := h
  refine r_Law_add hy ?_
  rw [pu_wr_ne (show y ≠ y + 1 by omega), h3]
  by_cases c240 : c < 240
  · rw [if_pos (by rw [n_240, nI_ltI (by omega) (by omega)]; exact c240), nI_clamp (by omega)]
    refine ⟨inb_nI (by omega) (by decide), inb_nI (by omega) (by decide), fun M3 e3 => ?_⟩
    rw [pu_wr_ne (show y ≠ y + 2 by omega), pu_wr_ne (show y ≠ y + 1 by omega), h3, nI_1] at e3
    subst e3
    refine H _ _ ⟨?_, ?_, c + 1, by omega, ?_⟩ ⟨fun k k1 k2 k3 k4 => ?_, fun j hj => ?_⟩
    · rw [pu_wr_ne (by omega), pu_wr_ne (by omega), pu_wr_ne (by omega)]; exact h1
    · unfold DS
      rw [pu_wr_ne (show 1 ≠ y by omega), pu_wr_ne (show 1 ≠ y + 2 by omega), pu_wr_ne (show 1 ≠ y + 1 by omega)]
      exact h2
    · rw [pu_wr_self, upd_s]
    · rw [pu_wr_ne k2, pu_wr_ne k4, pu_wr_ne k3]
    · rw [pu_wr_self, upd_n hj, pu_wr_ne (by omega), pu_wr_ne (by omega)]
  · rw [if_neg (by rw [n_240, nI_ltI (by omega) (by omega)]; exact c240)]
    exact H _ M ⟨h1, h2, c, hc, h3⟩ (kF.rf y M)
theorem c_K_skip {Q : pu_M → Prop} {w : Option Nat} (hy : pu_isL y) (hc : lcn s ≤ 240) (hw : ∀ p, w = some p → p < lcn s) (h : kT tb e M y s) (H : ∀ M', kT tb e M' y (l_pat w s) → kF y M M' → Q M') : pu_V L (d + 1) 37 [.ref y, .int (pJ w)] M Q := by
  have hy' : 31 ≤ y ∧ y ≤ 40 := by unfold pu_isL at hy; omega
  refine r_Law_endSkip hy ?_
  cases w with
  | none => rw [if_pos (show pJ none < 0 by decide)]; exact H M h (kF.rf y M)
  | some p0 =>
    have hp := hw p0 rfl
    obtain ⟨h1, h2, h3, h4⟩ := h
    rw [if_neg (show ¬ pJ (some p0) < 0 from nI_pos (by omega)), if_neg (show ¬ 240 ≤ pJ (some p0) by show ¬ 240 ≤ nI p0; rw [n_240, nI_leI (by omega) (by omega)]; omega)]
    refine ⟨inb_nI (by omega) (by decide), ?_⟩
    show Q (pu_wr M (y + 2) (nI p0).toNatClampNeg (M y 2))
    rw [nI_clamp (by omega), h3]
    refine H _ ⟨?_, ?_, ?_, fun p hp2 => ?_⟩ ⟨fun k k1 k2 k3 k4 => ?_, fun j hj => ?_⟩
    · rw [pu_wr_ne (by omega)]; exact h1
    · unfold TS
      rw [pu_wr_ne (show 1 ≠ y + 2 by omega), pu_wr_ne (show 2 ≠ y + 2 by omega)]
      exact h2
    · rw [pu_wr_ne (by omega)]; exact h3
    · have hp2 : p < lcn s := hp2
      rw [pu_wr_ne (show y + 1 ≠ y + 2 by omega), pu_wr_self]
      show _ = kop (fset (lfn s) p0 ((lfn s p0).1, lcn s, (lfn s p0).2.2) p).1 ∧ _ = nI (fset (lfn s) p0 ((lfn s p0).1, lcn s, (lfn s p0).2.2) p).2.1
      by_cases z : p = p0
      · subst z; rw [upd_s, fset_s]; exact ⟨(h4 p hp2).1, rfl⟩
      · rw [upd_n z, fset_n z]; exact h4 p hp2
    · rw [pu_wr_ne k4]
    · rw [pu_wr_ne (by omega)]
theorem c_K_skipD {Q : pu_M → Prop} {w : Int32} (hy : pu_isL y) (h : kD M y f) (H : ∀ M', kD M' y f → kF y M M' → Q M') : pu_V L (d + 1) 37 [.ref y, .int w] M Q := by
  have hy' : 31 ≤ y ∧ y ≤ 40 := by unfold pu_isL at hy; omega
  refine r_Law_endSkip hy ?_
  by_cases w0 : w < 0
  · rw [if_pos w0]; exact H M h (kF.rf y M)
  rw [if_neg w0]
  by_cases w1 : 240 ≤ w
  · rw [if_pos w1]; exact H M h (kF.rf y M)
  rw [if_neg w1]
  obtain ⟨p0, hp0, rfl⟩ := nI_of2 (M := 239) (n := 239) rfl w0 (by
    rw [Int32.le_iff_toInt_le] at w1 ⊢
    have e1 : (240 : Int32).toInt = 240 := rfl
    have e2 : (239 : Int32).toInt = 239 := rfl
    omega)
  obtain ⟨h1, h2, c, hc, h3⟩ := h
  rw [nI_clamp (by omega)]
  refine ⟨inb_nI (by omega) (by decide), H _ ⟨?_, ?_, c, hc, ?_⟩ ⟨fun k k1 k2 k3 k4 => ?_, fun j hj => ?_⟩⟩
  · rw [pu_wr_ne (by omega)]; exact h1
  · unfold DS
    rw [pu_wr_ne (show 1 ≠ y + 2 by omega)]; exact h2
  · rw [pu_wr_ne (by omega)]; exact h3
  · rw [pu_wr_ne k4]
  · rw [pu_wr_ne (by omega)]
end KR
