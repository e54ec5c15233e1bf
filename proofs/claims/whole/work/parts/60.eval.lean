/-! THE LAW is asked: steps for a stack. Both go the same way -/
def l_ar (o : Nat) (x y : Int32) : Int32 := if o = 2 then x + y else if o = 3 then x - y else if o = 4 then x * y else if o = 5 then x / y else x % y
def l_cp (o : Nat) (x y : Int32) : Bool := if o = 7 then decide (x < y) else if o = 8 then decide (y < x) else decide (x = y)
def l_ex (f : Nat → Lin) (u : Nat → Int32) (b : Nat) : Nat → Nat → (Nat → Int32) → Bool → Option ((Nat → Int32) × Bool)
  | 0, _, S, fl => some (S, fl)
  | g + 1, p, S, fl => if b ≤ p then some (S, fl) else
    if (f p).1 = 0 then l_ex f u b g (p + 1) (upd S (f p).2.2 (nI (f p).2.1)) fl else
    if (f p).1 = 1 then l_ex f u b g (p + 1) (upd S (f p).2.2 (u (f p).2.1)) fl else
    if (f p).1 < 7 then (if ((f p).1 = 5 ∨ (f p).1 = 6) ∧ S ((f p).2.2 - 1) = 0 then none else l_ex f u b g (p + 1) (upd S ((f p).2.2 - 2) (l_ar (f p).1 (S ((f p).2.2 - 2)) (S ((f p).2.2 - 1)))) fl) else
    if (f p).1 < 10 then l_ex f u b g (p + 1) S (l_cp (f p).1 (S 0) (S 1)) else
    if (f p).1 = 10 then l_ex f u b g (p + 1) S (!fl) else
    if (f p).1 = 11 then l_ex f u b g (if fl = true then p + 1 else (f p).2.1) S fl else l_ex f u b g (if fl = true then (f p).2.1 else p + 1) S fl
def l_hg (h : Nat) : Nat := if h = 99 then 0 else h
def kCd (M : pu_M) (y : Nat) (f : Nat → Lin) (c : Nat) : Prop := ∀ p, p < c → M (y + 1) p = kop (f p).1 ∧ M (y + 2) p = nI (f p).2.1
def kVl (M : pu_M) (y : Nat) (u : Nat → Int32) : Prop := ∀ v, v < 8 → M (y + 7) v = u v
def kS (M : pu_M) (y : Nat) (S : Nat → Int32) (h : Nat) (fl : Bool) : Prop := M y 10 = nI (l_hg h) ∧ M y 11 = bI fl ∧ ∀ i, i < l_hg h → M (y + 8) i = S i
def kE (y : Nat) (M M' : pu_M) : Prop := (∀ k, k ≠ y → k ≠ y + 8 → M' k = M k) ∧ ∀ j, j ≠ 10 → j ≠ 11 → M' y j = M y j
theorem kE.rf (y : Nat) (M : pu_M) : kE y M M := ⟨fun _ _ _ => rfl, fun _ _ _ => rfl⟩
theorem kE.tr {y : Nat} {A B C : pu_M} (h1 : kE y A B) (h2 : kE y B C) : kE y A C := ⟨fun k a b => (h2.1 k a b).trans (h1.1 k a b), fun j a b => (h2.2 j a b).trans (h1.2 j a b)⟩
theorem kE.wy {y : Nat} {M M' : pu_M} {i : Nat} {x : Int32} (h : kE y M M') (hi : i = 10 ∨ i = 11) : kE y M (pu_wr M' y i x) := ⟨fun k a b => by rw [pu_wr_ne a]; exact h.1 k a b, fun j a b => by rw [pu_wr_self, upd_n (by omega)]; exact h.2 j a b⟩
theorem kE.w8 {y : Nat} {M M' : pu_M} {i : Nat} {x : Int32} (h : kE y M M') : kE y M (pu_wr M' (y + 8) i x) := ⟨fun k a b => by rw [pu_wr_ne b]; exact h.1 k a b, fun j a b => by rw [pu_wr_ne (by omega)]; exact h.2 j a b⟩
section EV
variable {L d : Nat} {M : pu_M} {y : Nat} {S : Nat → Int32} {h : Nat} {fl : Bool}
theorem c_L_push {Q : Int32 → pu_M → Prop} {x : Int32} (hy : pu_isL y) (hh : h ≤ 30) (hS : kS M y S h fl) (H : ∀ M', kS M' y (upd S h x) (h + 1) fl → kE y M M' → Q 1 M') : pu_I L (d + 1) 43 [.ref y, .int x] M Q := by
  have e1 : l_hg h = h := by unfold l_hg; rw [if_neg (by omega)]
  have e2 : l_hg (h + 1) = h + 1 := by unfold l_hg; rw [if_neg (by omega)]
  obtain ⟨s1, s2, s3⟩ := hS
  rw [e1] at s1 s3
  refine r_Law_push hy ?_
  rw [pu_wr_ne (show y ≠ y + 8 by omega), s1, if_neg (nI_pos (by omega)), if_pos (show nI h < Int32.ofNat 32 by show nI h < nI 32; rw [nI_ltI (by omega) (by omega)]; omega), nI_clamp (by omega), nI_1]
  refine ⟨inb_nI (by omega) (by decide), H _ ⟨?_, ?_, fun i hi => ?_⟩ (((kE.rf y M).w8).wy (Or.inl rfl))⟩
  · rw [pu_wr_self, upd_s, e2]
  · rw [pu_wr_self, upd_n (by decide), pu_wr_ne (by omega)]; exact s2
  · rw [e2] at hi
    rw [pu_wr_ne (by omega), pu_wr_self]
    by_cases z : i = h
    · subst z; rw [upd_s, upd_s]
    · rw [upd_n z, upd_n z]; exact s3 i (by omega)
theorem c_L_reckon {Q : Int32 → pu_M → Prop} {v1 : Int32} (hy : pu_isL y) (h2 : 2 ≤ h) (h3 : h ≤ 31) (hS : kS M y S h fl) (H : ∀ M1, M1 y 10 = nI (h - 1) → M1 y 11 = bI fl → (∀ i, i < h → M1 (y + 8) i = S i) → kE y M M1 → (if v1 = 47 then (if S (h - 1) = 0 then Q 0 M1 else pu_R L (d + 1) 44 72 [.ref y, .int v1, .int (S (h - 2)), .int (S (h - 1))] [] M1 (pu_qI Q)) else (if v1 = 37 then (if S (h - 1) = 0 then Q 0 M1 else pu_R L (d + 1) 44 72 [.ref y, .int v1, .int (S (h - 2)), .int (S (h - 1))] [] M1 (pu_qI Q)) else pu_R L (d + 1) 44 72 [.ref y, .int v1, .int (S (h - 2)), .int (S (h - 1))] [] M1 (pu_qI Q)))) : pu_I L (d + 1) 44 [.ref y, .int v1] M Q := by
  have e1 : l_hg h = h := by unfold l_hg; rw [if_neg (by omega)]
  obtain ⟨s1, s2, s3⟩ := hS
  rw [e1] at s1 s3
  refine r_Law_reckon hy ?_
  have em : nI h - 1 = nI (h - 1) := pk_sub (a := h) (b := 1) (by omega)
  have e10 : pu_wr M y 10 (nI (h - 1)) y 10 = nI (h - 1) := by rw [pu_wr_self, upd_s]
  have em2 : nI (h - 1) - 1 = nI (h - 2) := pk_sub (a := h - 1) (b := 1) (by omega)
  have e8 : ∀ i, pu_wr M y 10 (nI (h - 1)) (y + 8) i = M (y + 8) i := fun i => by rw [pu_wr_ne (by omega)]
  rw [s1, em, e10, em2, if_neg (by rw [n_2, nI_ltI (by omega) (by omega)]; omega), if_pos (show nI h ≤ Int32.ofNat 32 by show nI h ≤ nI 32; rw [nI_leI (by omega) (by omega)]; omega), nI_clamp (show h - 2 < 2 ^ 31 by omega), nI_clamp (show h - 1 < 2 ^ 31 by omega), e8, e8, s3 (h - 2) (by omega), s3 (h - 1) (by omega)]
  refine ⟨inb_nI (by omega) (by decide), inb_nI (by omega) (by decide), H _ e10 ?_ (fun i hi => ?_) ((kE.rf y M).wy (Or.inl rfl))⟩
  · rw [pu_wr_self, upd_n (by decide)]; exact s2
  · rw [e8]; exact s3 i hi
theorem c_L_arith {Q : Int32 → pu_M → Prop} {o : Nat} (hy : pu_isL y) (h1 : 2 ≤ o) (h1' : o ≤ 6) (h2 : 2 ≤ h) (h3 : h ≤ 31) (hS : kS M y S h fl) (H0 : ((o = 5 ∨ o = 6) ∧ S (h - 1) = 0) → ∀ M', kE y M M' → Q 0 M') (H : ¬ ((o = 5 ∨ o = 6) ∧ S (h - 1) = 0) → ∀ M', kS M' y (upd S (h - 2) (l_ar o (S (h - 2)) (S (h - 1)))) (h - 1) fl → kE y M M' → Q 1 M') : pu_I L (d + 1) 44 [.ref y, .int (kop o)] M Q := by
  refine c_L_reckon hy h2 h3 hS (fun M1 a1 a2 a3 f1 => ?_)
  have em2 : nI (h - 1) - 1 = nI (h - 2) := pk_sub (a := h - 1) (b := 1) (by omega)
  have eh : l_hg (h - 1) = h - 1 := by unfold l_hg; rw [if_neg (by omega)]
  have res : ∀ x : Int32, kS (pu_wr M1 (y + 8) (h - 2) x) y (upd S (h - 2) x) (h - 1) fl := fun x => by
    refine ⟨?_, ?_, fun i hi => ?_⟩
    · rw [pu_wr_ne (by omega), eh]; exact a1
    · rw [pu_wr_ne (by omega)]; exact a2
    · rw [eh] at hi
      rw [pu_wr_self]
      by_cases z : i = h - 2
      · subst z; rw [upd_s, upd_s]
      · rw [upd_n z, upd_n z]; exact a3 i (by omega)
  have go : ∀ x : Int32, x = l_ar o (S (h - 2)) (S (h - 1)) → ¬ ((o = 5 ∨ o = 6) ∧ S (h - 1) = 0) → mq_inb (M1 y 10 - 1) 32 = true ∧ Q 1 (pu_wr M1 (y + 8) (M1 y 10 - 1).toNatClampNeg x) := by
    intro x hx hn
    rw [a1, em2, nI_clamp (by omega)]
    refine ⟨inb_nI (by omega) (by decide), H hn _ ?_ (f1.w8)⟩
    rw [← hx]; exact res x
  have hcs : o = 2 ∨ o = 3 ∨ o = 4 ∨ o = 5 ∨ o = 6 := by omega
  rcases hcs with rfl | rfl | rfl | rfl | rfl
  · rw [if_neg (show ¬ kop 2 = 47 by decide), if_neg (show ¬ kop 2 = 37 by decide)]
    refine r_Law_reckon_72 hy ?_
    rw [if_neg (show ¬ kop 2 = 37 by decide), if_neg (show ¬ kop 2 = 42 by decide), if_pos (show kop 2 = 43 from rfl)]
    exact go _ rfl (fun z => by omega)
  · rw [if_neg (show ¬ kop 3 = 47 by decide), if_neg (show ¬ kop 3 = 37 by decide)]
    refine r_Law_reckon_72 hy ?_
    rw [if_neg (show ¬ kop 3 = 37 by decide), if_neg (show ¬ kop 3 = 42 by decide), if_neg (show ¬ kop 3 = 43 by decide), if_pos (show kop 3 = 45 from rfl)]
    exact go _ rfl (fun z => by omega)
  · rw [if_neg (show ¬ kop 4 = 47 by decide), if_neg (show ¬ kop 4 = 37 by decide)]
    refine r_Law_reckon_72 hy ?_
    rw [if_neg (show ¬ kop 4 = 37 by decide), if_pos (show kop 4 = 42 from rfl)]
    exact go _ rfl (fun z => by omega)
  · rw [if_pos (show kop 5 = 47 from rfl)]
    by_cases z : S (h - 1) = 0
    · rw [if_pos z]; exact H0 ⟨Or.inl rfl, z⟩ M1 f1
    · rw [if_neg z]
      refine r_Law_reckon_72 hy ?_
      rw [if_neg (show ¬ kop 5 = 37 by decide), if_neg (show ¬ kop 5 = 42 by decide), if_neg (show ¬ kop 5 = 43 by decide), if_neg (show ¬ kop 5 = 45 by decide), if_pos (show kop 5 = 47 from rfl), if_neg z]
      exact ⟨z, go _ rfl (fun w => z w.2)⟩
  · rw [if_neg (show ¬ kop 6 = 47 by decide), if_pos (show kop 6 = 37 from rfl)]
    by_cases z : S (h - 1) = 0
    · rw [if_pos z]; exact H0 ⟨Or.inr rfl, z⟩ M1 f1
    · rw [if_neg z]
      refine r_Law_reckon_72 hy ?_
      rw [if_pos (show kop 6 = 37 from rfl), if_neg z]
      exact ⟨z, go _ rfl (fun w => z w.2)⟩
theorem c_L_comp {Q : Int32 → pu_M → Prop} {o : Nat} (hy : pu_isL y) (h1 : 7 ≤ o) (h1' : o ≤ 9) (hS : kS M y S 2 fl) (H : ∀ M', kS M' y S 99 (l_cp o (S 0) (S 1)) → kE y M M' → Q 1 M') : pu_I L (d + 1) 44 [.ref y, .int (kop o)] M Q := by
  refine c_L_reckon hy (by decide) (by decide) hS (fun M1 a1 a2 a3 f1 => ?_)
  have e0 : M1 y 10 - 1 = 0 := by rw [a1]; rfl
  have fin : ∀ (b : Bool), b = l_cp o (S 0) (S 1) → Q 1 (pu_wr (pu_wr M1 y 10 (M1 y 10 - 1)) y 11 (bI b)) := by
    intro b hb
    refine H _ ⟨?_, ?_, fun i hi => absurd hi (by show ¬ i < 0; omega)⟩ ((f1.wy (Or.inl rfl)).wy (Or.inr rfl))
    · rw [pu_wr_self, upd_n (by decide), pu_wr_self, upd_s, e0]; rfl
    · rw [pu_wr_self, upd_s, hb]
  have hcs : o = 7 ∨ o = 8 ∨ o = 9 := by omega
  rcases hcs with rfl | rfl | rfl
  · rw [if_neg (show ¬ kop 7 = 47 by decide), if_neg (show ¬ kop 7 = 37 by decide)]
    refine r_Law_reckon_72 hy ?_
    rw [if_neg (show ¬ kop 7 = 37 by decide), if_neg (show ¬ kop 7 = 42 by decide), if_neg (show ¬ kop 7 = 43 by decide), if_neg (show ¬ kop 7 = 45 by decide), if_neg (show ¬ kop 7 = 47 by decide), if_pos (show kop 7 = 60 from rfl)]
    by_cases z : S 1 ≤ S 0
    · rw [if_pos z]; exact fin false (by show false = decide (S 0 < S 1); rw [decide_eq_false (le_not_lt z)])
    · rw [if_neg z]; exact fin true (by show true = decide (S 0 < S 1); rw [decide_eq_true (Int32.not_le.mp z)])
  · rw [if_neg (show ¬ kop 8 = 47 by decide), if_neg (show ¬ kop 8 = 37 by decide)]
    refine r_Law_reckon_72 hy ?_
    rw [if_neg (show ¬ kop 8 = 37 by decide), if_neg (show ¬ kop 8 = 42 by decide), if_neg (show ¬ kop 8 = 43 by decide), if_neg (show ¬ kop 8 = 45 by decide), if_neg (show ¬ kop 8 = 47 by decide), if_neg (show ¬ kop 8 = 60 by decide), if_pos (show kop 8 = 62 from rfl)]
    by_cases z : S 0 ≤ S 1
    · rw [if_pos z]; exact fin false (by show false = decide (S 1 < S 0); rw [decide_eq_false (le_not_lt z)])
    · rw [if_neg z]; exact fin true (by show true = decide (S 1 < S 0); rw [decide_eq_true (Int32.not_le.mp z)])
  · rw [if_neg (show ¬ kop 9 = 47 by decide), if_neg (show ¬ kop 9 = 37 by decide)]
    refine r_Law_reckon_72 hy ?_
    rw [if_neg (show ¬ kop 9 = 37 by decide), if_neg (show ¬ kop 9 = 42 by decide), if_neg (show ¬ kop 9 = 43 by decide), if_neg (show ¬ kop 9 = 45 by decide), if_neg (show ¬ kop 9 = 47 by decide), if_neg (show ¬ kop 9 = 60 by decide), if_neg (show ¬ kop 9 = 62 by decide)]
    by_cases z : S 0 = S 1
    · rw [if_pos z]; exact fin true (by show true = decide (S 0 = S 1); rw [decide_eq_true z])
    · rw [if_neg z]; exact fin false (by show false = decide (S 0 = S 1); rw [decide_eq_false z])
end EV
