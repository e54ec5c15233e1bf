/-! what stands before and behind each call: the class, and the model -/
def HR (y y2 l l2 w w2 : Nat) : Prop := ((y = 21 ∧ y2 = 26) ∨ (y = 26 ∧ y2 = 21)) ∧ ((l = 31 ∧ l2 = 40) ∨ (l = 40 ∧ l2 = 31)) ∧ ((w = 50 ∧ w2 = 54) ∨ (w = 54 ∧ w2 = 50))
def HD (f : Nat → Int32) (y y2 l l2 w w2 : Nat) (b : Bool) : Prop := (f 9 = nI y ∧ f 10 = nI y2) ∧ (f 11 = nI l ∧ f 12 = nI l2) ∧ (f 13 = nI w ∧ f 14 = nI w2) ∧ f 8 = bI b
def VC (P : Pp) (n : Nat) (tb : Nat → Nat) (F : Law) (m : Nat) (ws : Nat → Wi) (b : Bool) (K : Pp) (M : pu_M) : Prop := ∃ y y2 l l2 w w2, HR y y2 l l2 w w2 ∧ HD (M 0) y y2 l l2 w w2 b ∧ CY P M y ∧ CT M n tb ∧ kL M l F ∧ CW ws m M w ∧ (b = true → CY K M 16)
def VM (P : Pp) (n : Nat) (tb : Nat → Nat) (F : Law) (m : Nat) (ws : Nat → Wi) (b : Bool) (K : Pp) (M : pu_M) : Prop := PM P (M 59) ∧ MT M n tb ∧ mLaw M F ∧ MW ws m M ∧ M 58 49 = bI b ∧ (b = true → PM K (M 61))
def VI (P : Pp) (F : Law) (m : Nat) (ws : Nat → Wi) (b : Bool) (K : Pp) : Prop := PI P ∧ wI F ∧ WI ws m ∧ (b = true → PI K)
theorem HR.is {y y2 l l2 w w2 : Nat} (h : HR y y2 l l2 w w2) : pu_isY y ∧ pu_isY y2 ∧ pu_isL l ∧ pu_isL l2 ∧ pu_isW w ∧ pu_isW w2 := by
  unfold HR at h
  unfold pu_isY pu_isL pu_isW
  omega
section VF
variable {M M' : pu_M} {P K : Pp} {n : Nat} {tb : Nat → Nat} {F : Law} {m : Nat} {ws : Nat → Wi} {b : Bool}
theorem CY_e {y : Nat} (h : CY P M y) (e : ∀ k, y ≤ k → k ≤ y + 4 → M' k = M k) : CY P M' y := by
  unfold CY
  rw [e y (by omega) (by omega), e (y + 1) (by omega) (by omega), e (y + 2) (by omega) (by omega), e (y + 3) (by omega) (by omega), e (y + 4) (by omega) (by omega)]
  exact h
theorem CT_e (h : CT M n tb) (e1 : M' 1 = M 1) (e2 : M' 2 = M 2) : CT M' n tb := by
  unfold CT
  rw [e1, e2]; exact h
theorem CT_0 (h : M' 1 1 = 0) : CT M' 0 tb := ⟨by omega, h, fun i hi => absurd hi (by omega)⟩
theorem MT_0 (h : M' 58 4 = 0) : MT M' 0 tb := ⟨by omega, h, fun i hi => absurd hi (by omega)⟩
theorem kL_e {l : Nat} (h : kL M l F) (e : ∀ k, l + 1 ≤ k → k ≤ l + 6 → M' k = M k) (e7 : M' l 7 = M l 7) : kL M' l F := by
  unfold kL kR kCd
  rw [e7, e (l + 1) (by omega) (by omega), e (l + 2) (by omega) (by omega), e (l + 3) (by omega) (by omega), e (l + 4) (by omega) (by omega), e (l + 5) (by omega) (by omega), e (l + 6) (by omega) (by omega)]
  exact h
theorem CW_e {w : Nat} (h : CW ws m M w) (e : ∀ k, w ≤ k → k ≤ w + 3 → M' k = M k) : CW ws m M' w := by
  unfold CW
  rw [e w (by omega) (by omega), e (w + 1) (by omega) (by omega), e (w + 2) (by omega) (by omega), e (w + 3) (by omega) (by omega)]
  exact h
theorem MT_e (h : MT M n tb) (e1 : M' 58 4 = M 58 4) (e2 : M' 62 = M 62) : MT M' n tb := by
  unfold MT
  rw [e1, e2]; exact h
theorem mLaw_e (h : mLaw M F) (e1 : M' 58 13 = M 58 13) (e : ∀ k, 69 ≤ k → k ≤ 73 → M' k = M k) : mLaw M' F := by
  unfold mLaw mLw
  rw [e1, e 69 (by omega) (by omega), e 70 (by omega) (by omega), e 71 (by omega) (by omega), e 72 (by omega) (by omega), e 73 (by omega) (by omega)]
  exact h
theorem MW_e (h : MW ws m M) (e1 : M' 58 34 = M 58 34) (e : ∀ k, 76 ≤ k → k ≤ 78 → M' k = M k) : MW ws m M' := by
  unfold MW
  rw [e1, e 76 (by omega) (by omega), e 77 (by omega) (by omega), e 78 (by omega) (by omega)]
  exact h
/-- cells that nobody keeps may change -/
theorem VC_e (h : VC P n tb F m ws b K M) (e : ∀ k, k < 58 → (k < 3 ∨ 16 ≤ k) → M' k = M k) : VC P n tb F m ws b K M' := by
  obtain ⟨y, y2, l, l2, w, w2, hr, hd, cy, ct, cl, cw, ck⟩ := h
  have hr' := hr
  unfold HR at hr
  refine ⟨y, y2, l, l2, w, w2, hr', ?_, CY_e cy (fun k _ _ => e k (by omega) (by omega)), CT_e ct (e 1 (by omega) (by omega)) (e 2 (by omega) (by omega)), kL_e cl (fun k _ _ => e k (by omega) (by omega)) (by rw [e l (by omega) (by omega)]), CW_e cw (fun k _ _ => e k (by omega) (by omega)), fun hb => CY_e (ck hb) (fun k _ _ => e k (by omega) (by omega))⟩
  rw [e 0 (by omega) (by omega)]; exact hd
theorem VM_e (h : VM P n tb F m ws b K M) (e : ∀ k, (k = 59 ∨ k = 61 ∨ k = 62 ∨ (69 ≤ k ∧ k ≤ 73) ∨ (76 ≤ k ∧ k ≤ 78)) → M' k = M k) (f : ∀ j, (j = 4 ∨ j = 13 ∨ j = 34 ∨ j = 49) → M' 58 j = M 58 j) : VM P n tb F m ws b K M' := by
  obtain ⟨h1, h2, h3, h4, h5, h6⟩ := h
  refine ⟨?_, MT_e h2 (f 4 (by omega)) (e 62 (by omega)), mLaw_e h3 (f 13 (by omega)) (fun k _ _ => e k (by omega)), MW_e h4 (f 34 (by omega)) (fun k _ _ => e k (by omega)), ?_, ?_⟩
  · rw [e 59 (by omega)]; exact h1
  · rw [f 49 (by omega)]; exact h5
  · rw [e 61 (by omega)]; exact h6
theorem VM_c (h : VM P n tb F m ws b K M) (e : ∀ k, 58 ≤ k → M' k = M k) : VM P n tb F m ws b K M' := VM_e h (fun k _ => e k (by omega)) (fun j _ => by rw [e 58 (by omega)])
theorem VC_m (h : VC P n tb F m ws b K M) (e : ∀ k, (k < 58 ∨ 90 ≤ k) → M' k = M k) : VC P n tb F m ws b K M' := VC_e h (fun k hk _ => e k (Or.inl hk))
end VF
