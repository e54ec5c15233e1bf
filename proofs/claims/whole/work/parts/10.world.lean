/-! THE SMALL MACHINE'S CELLS AS CELLS OF THE HEAP: cell k lies at base + k, the script at b -/
abbrev mq_kl : List vw_C := [(mq_cn 0, mq_T 0, mq_N 0), (mq_cn 1, mq_T 1, mq_N 1), (mq_cn 0, mq_T 0, mq_N 0), (mq_cn 3, mq_T 3, mq_N 3), (mq_cn 4, mq_T 4, mq_N 4), (mq_cn 5, mq_T 5, mq_N 5), (mq_cn 6, mq_T 6, mq_N 6), (mq_cn 7, mq_T 7, mq_N 7), (mq_cn 8, mq_T 8, mq_N 8), (mq_cn 9, mq_T 9, mq_N 9), (mq_cn 10, mq_T 10, mq_N 10), (mq_cn 11, mq_T 11, mq_N 11), (mq_cn 12, mq_T 12, mq_N 12)]
theorem mq_kl_at (ci : Nat) (h1 : ci < 13) (h2 : ci ≠ 2) : mq_kl[ci]? = some (mq_cn ci, mq_T ci, mq_N ci) := by
  match ci, h1, h2 with
  | 0, _, _ => rfl
  | 1, _, _ => rfl
  | 2, _, h => exact absurd rfl h
  | 3, _, _ => rfl
  | 4, _, _ => rfl
  | 5, _, _ => rfl
  | 6, _, _ => rfl
  | 7, _, _ => rfl
  | 8, _, _ => rfl
  | 9, _, _ => rfl
  | 10, _, _ => rfl
  | 11, _, _ => rfl
  | 12, _, _ => rfl
  | n + 13, h, _ => exact absurd h (by omega)
def mq_cv (base b : Nat) : Value → Value
  | .ref k => if k = mq_SCR then .ref b else .ref (base + k)
  | v => v
theorem mq_cv_ref {base b k : Nat} (h : k ≠ mq_SCR) : mq_cv base b (.ref k) = .ref (base + k) := by simp [mq_cv, h]
theorem mq_cv_cat (base b : Nat) (v : Value) : (mq_cv base b v).category = v.category := by
  cases v <;> simp only [mq_cv]
  split <;> rfl
theorem mq_cat_map (base b : Nat) (st : List Value) : ((st.map (mq_cv base b)).map fun v => v.category).sum = mq_cat st := by
  induction st with
  | nil => rfl
  | cons v vs ih => simp only [List.map_cons, List.sum_cons, mq_cat, mq_cv_cat, ih]
def mq_ec (cI cB : ClassId) (base b : Nat) : mq_E → va_E
  | .inl a => .inl (if a.1 = true then cB else cI, a.2.1, .inl a.2.2)
  | .inr o => .inr (o.1, o.2.map (mq_cv base b))
def mq_wl (cI cB : ClassId) (base b : Nat) (h : mq_H) : va_W := (List.range h.2.1).map fun k => (base + k, mq_ec cI cB base b (h.1 k))
theorem mq_wl_get {cI cB : ClassId} {base b k : Nat} {h : mq_H} (hk : k < h.2.1) : (mq_wl cI cB base b h)[k]? = some (base + k, mq_ec cI cB base b (h.1 k)) := by
  simp [mq_wl, hk]
theorem mq_wl_inv {cI cB : ClassId} {base b k : Nat} {h : mq_H} {q : Nat × va_E} (e : (mq_wl cI cB base b h)[k]? = some q) : k < h.2.1 ∧ q = (base + k, mq_ec cI cB base b (h.1 k)) := by
  have hk : k < h.2.1 := by
    have := (List.getElem?_eq_some_iff.mp e).1
    simpa [mq_wl] using this
  rw [mq_wl_get hk] at e
  exact ⟨hk, (Option.some.inj e).symm⟩
theorem mq_wl_set {cI cB : ClassId} {base b k : Nat} {h : mq_H} {e : mq_E} (hk : k < h.2.1) : (mq_wl cI cB base b h).set k (base + k, mq_ec cI cB base b e) = mq_wl cI cB base b (mq_put h k e) := by
  apply List.ext_getElem?
  intro j
  by_cases hj : j = k
  · subst hj
    rw [List.getElem?_set_self (by simpa [mq_wl] using hk), mq_wl_get (h := mq_put h j e) hk]
    simp [mq_put, mq_up]
  · rw [List.getElem?_set_ne (Ne.symm hj)]
    by_cases hl : j < h.2.1
    · rw [mq_wl_get hl, mq_wl_get (h := mq_put h k e) hl]
      simp [mq_put, mq_up, hj]
    · rw [List.getElem?_eq_none (by simp [mq_wl]; omega), List.getElem?_eq_none (by simp [mq_wl, mq_put]; omega)]
theorem mq_wl_push {cI cB : ClassId} {base b n : Nat} {h : mq_H} {e : mq_E} : mq_wl cI cB base b h ++ [(base + h.2.1, mq_ec cI cB base b e)] = mq_wl cI cB base b (mq_add h e n) := by
  apply List.ext_getElem?
  intro j
  rcases Nat.lt_trichotomy j h.2.1 with hj | hj | hj
  · rw [List.getElem?_append_left (by simpa [mq_wl] using hj), mq_wl_get hj, mq_wl_get (h := mq_add h e n) (show j < h.2.1 + 1 by omega)]
    simp [mq_add, mq_up, Nat.ne_of_lt hj]
  · subst hj
    rw [List.getElem?_append_right (by simp [mq_wl]), mq_wl_get (h := mq_add h e n) (show h.2.1 < h.2.1 + 1 by omega)]
    simp [mq_wl, mq_add, mq_up]
  · rw [List.getElem?_eq_none (by simp [mq_wl]; omega), List.getElem?_eq_none (by simp [mq_wl, mq_add]; omega)]
theorem mq_wl_D (cI cB : ClassId) (base b : Nat) (h : mq_H) : va_D (fun q : Nat => base ≤ q) (mq_wl cI cB base b h) := by
  refine ⟨fun i j x y hi hj hxy => ?_, fun k q hk => ?_⟩
  · obtain ⟨_, rfl⟩ := mq_wl_inv hi
    obtain ⟨_, rfl⟩ := mq_wl_inv hj
    have : base + i = base + j := hxy
    omega
  · obtain ⟨_, rfl⟩ := mq_wl_inv hk
    exact Nat.le_add_right _ _
/-- the world -/
def mq_IV (D : va_G) (cI cB : ClassId) (base b L : Nat) (xs : Nat → Int32) (h : mq_H) (H : Heap) : Prop :=
  H.size = base + h.2.1 ∧ va_P D mq_kl (mq_wl cI cB base b h) H ∧ h.2.1 < mq_SCR ∧ h.1 mq_SCR = .inl (false, L, xs)
/-- what the tables say, and the script -/
def mq_ST (D : va_G) (cI cB : ClassId) (base b L : Nat) (xs : Nat → Int32) (s : State) : Prop :=
  va_K D mq_kl [(cI, .int), (cB, .byte)] s ∧ (∀ r ∈ mq_NL, va_Nw (.methodLinkNest (mq_cn r.1) r.2.1 (mq_y r.2.2.1) "TalkingPlots") s) ∧ va_X b L xs s s.heap ∧ b < base ∧ base ≤ s.heap.size
/-! locals -/
def mq_isv : Value → Bool
  | .retAddr _ => false
  | _ => true
def mq_L (base b : Nat) (LS : Array Slot) (nL : Nat) (ls : List Value) : Prop := LS.size = nL ∧ lv_wf LS ∧ ls.length = nL ∧ ∀ (i : Nat) (v : Value), ls[i]? = some v → mq_isv v = true → LS[i]? = some (.val (mq_cv base b v))
def mq_as (base b : Nat) (ls : List Value) : List (Nat × Value) := (List.range ls.length).filterMap fun i => match ls[i]? with
  | some v => if mq_isv v = true then some (i, mq_cv base b v) else none
  | none => none
theorem mq_as_in {base b i : Nat} {ls : List Value} {v : Value} (h : ls[i]? = some v) (hv : mq_isv v = true) : (i, mq_cv base b v) ∈ mq_as base b ls := by
  refine List.mem_filterMap.mpr ⟨i, List.mem_range.mpr (List.getElem?_eq_some_iff.mp h).1, ?_⟩
  simp [h, hv]
theorem mq_L.has {base b nL : Nat} {LS : Array Slot} {ls : List Value} (h : mq_L base b LS nL ls) : lv_has LS nL (mq_as base b ls) := by
  refine ⟨h.1, h.2.1, fun q hq => ?_⟩
  obtain ⟨i, -, hi⟩ := List.mem_filterMap.mp hq
  split at hi
  next v e =>
    split at hi
    next hv => cases hi; exact h.2.2.2 i v e hv
    next => cases hi
  next => cases hi
theorem mq_L.at {base b nL i : Nat} {LS : Array Slot} {ls : List Value} {v : Value} (h : mq_L base b LS nL ls) (e : ls[i]? = some v) (hv : mq_isv v = true) : LS[i]? = some (.val (mq_cv base b v)) := h.2.2.2 i v e hv
theorem mq_clr_len (ls : List Value) (i : Nat) : (mq_clr ls i).length = ls.length := by
  unfold mq_clr; split
  · rfl
  · split <;> simp
/-- a place that is cleared isn't a value; another stays -/
theorem mq_clr_at {ls : List Value} {i j : Nat} {u : Value} (h : (mq_clr ls i)[j]? = some u) (hu : mq_isv u = true) : ls[j]? = some u ∧ ¬ (j + 1 = i ∧ u.category = 2) := by
  unfold mq_clr at h
  split at h
  · exact ⟨h, fun q => by omega⟩
  next i' =>
    have key : ∀ w, ls[i']? = some w → (ls.set i' mq_un)[j]? = some u → ls[j]? = some u ∧ ¬ (j + 1 = i' + 1 ∧ u.category = 2) := by
      intro w hw h
      by_cases hj : i' = j
      · subst hj
        rw [List.getElem?_set_self (List.getElem?_eq_some_iff.mp hw).1] at h
        cases h; cases hu
      · rw [List.getElem?_set_ne hj] at h
        exact ⟨h, fun q => by omega⟩
    split at h
    next w hw => exact key _ hw h
    next w hw => exact key _ hw h
    next n1 n2 =>
      refine ⟨h, fun q => ?_⟩
      obtain ⟨q1, q2⟩ := q
      have : j = i' := by omega
      subst this
      cases u <;> first | (exact n1 _ h) | (exact n2 _ h) | (cases q2)
theorem mq_L.sto {base b nL i : Nat} {LS : Array Slot} {ls : List Value} {v : Value} {x : List (Nat × Value)} (h : mq_L base b LS nL ls) {LS' : Array Slot} (hi : i < nL) (hx : ∀ q ∈ mq_as base b ls, q ∈ x)
    (h' : lv_has LS' nL ((i, mq_cv base b v) :: x.filter (fun q => !(q.1 == i) && !(q.1 + 1 == i && q.2.category == 2)))) : mq_L base b LS' nL (mq_sto ls i v) := by
  refine ⟨h'.1, h'.2.1, by simp [mq_sto, mq_clr_len, h.2.2.1], fun j u e hu => ?_⟩
  unfold mq_sto at e
  by_cases hj : i = j
  · subst hj
    rw [List.getElem?_set_self (by rw [mq_clr_len, h.2.2.1]; exact hi)] at e
    cases e
    exact h'.2.2 (i, _) List.mem_cons_self
  · rw [List.getElem?_set_ne hj] at e
    obtain ⟨e1, e2⟩ := mq_clr_at e hu
    refine h'.2.2 (j, _) (List.mem_cons_of_mem _ (List.mem_filter.mpr ⟨hx _ (mq_as_in e1 hu), ?_⟩))
    have : ¬ (j + 1 = i ∧ (mq_cv base b u).category = 2) := by rw [mq_cv_cat]; exact e2
    simp only [Bool.and_eq_true, Bool.not_eq_true', beq_eq_false_iff_ne, ne_eq, Bool.and_eq_false_iff]
    refine ⟨Ne.symm hj, ?_⟩
    by_cases z : j + 1 = i
    · exact Or.inr (fun q => this ⟨z, q⟩)
    · exact Or.inl z
theorem mq_L.sto2 {base b nL i : Nat} {LS : Array Slot} {ls : List Value} {v : Value} (h : mq_L base b LS nL ls) {LS' : Array Slot} (hi : i + 1 < nL)
    (h' : lv_has LS' nL ((i, mq_cv base b v) :: (mq_as base b ls).filter (fun q => !(q.1 == i) && (!(q.1 == i + 1) && !(q.1 + 1 == i && q.2.category == 2))))) : mq_L base b LS' nL (mq_sto2 ls i v) := by
  refine ⟨h'.1, h'.2.1, by simp [mq_sto2, mq_clr_len, h.2.2.1], fun j u e hu => ?_⟩
  unfold mq_sto2 at e
  by_cases hj2 : i + 1 = j
  · subst hj2
    rw [List.getElem?_set_self (by rw [List.length_set, mq_clr_len, h.2.2.1]; exact hi)] at e
    cases e; cases hu
  rw [List.getElem?_set_ne hj2] at e
  by_cases hj : i = j
  · subst hj
    rw [List.getElem?_set_self (by rw [mq_clr_len, h.2.2.1]; omega)] at e
    cases e
    exact h'.2.2 (i, _) List.mem_cons_self
  · rw [List.getElem?_set_ne hj] at e
    obtain ⟨e1, e2⟩ := mq_clr_at e hu
    refine h'.2.2 (j, _) (List.mem_cons_of_mem _ (List.mem_filter.mpr ⟨mq_as_in e1 hu, ?_⟩))
    have : ¬ (j + 1 = i ∧ (mq_cv base b u).category = 2) := by rw [mq_cv_cat]; exact e2
    simp only [Bool.and_eq_true, Bool.not_eq_true', beq_eq_false_iff_ne, ne_eq, Bool.and_eq_false_iff]
    refine ⟨Ne.symm hj, Ne.symm hj2, ?_⟩
    by_cases z : j + 1 = i
    · exact Or.inr (fun q => this ⟨z, q⟩)
    · exact Or.inl z
theorem mq_lay_len (vs : List Value) : (mq_lay vs).length = mq_cat vs := by
  induction vs with
  | nil => rfl
  | cons v vs ih => cases v <;> simp [mq_lay, mq_cat, Value.category, ih] <;> omega
theorem mq_pad_len : ∀ (n : Nat) (ls : List Value), ls.length ≤ n → (mq_pad ls n).length = n
  | 0, ls, h => by simpa [mq_pad] using h
  | n + 1, [], h => by simp [mq_pad, mq_pad_len n [] (by simp)]
  | n + 1, v :: vs, h => by simp [mq_pad, mq_pad_len n vs (by simpa using h)]
theorem mq_pad_at : ∀ (n : Nat) (ls : List Value) (i : Nat) (v : Value), (mq_pad ls n)[i]? = some v → mq_isv v = true → ls[i]? = some v
  | 0, ls, i, v, h, _ => by simpa [mq_pad] using h
  | n + 1, [], i, v, h, hv => by
    cases i with
    | zero => simp [mq_pad] at h; subst h; cases hv
    | succ i =>
      have := mq_pad_at n [] i v (by simpa [mq_pad] using h) hv
      simp at this
  | n + 1, w :: ws, i, v, h, hv => by
    cases i with
    | zero => simpa [mq_pad] using h
    | succ i => simpa using mq_pad_at n ws i v (by simpa [mq_pad] using h) hv
theorem mq_lay_at {base b : Nat} : ∀ (vs : List Value) (o i : Nat) (v : Value), (mq_lay vs)[i]? = some v → mq_isv v = true → (o + i, mq_cv base b v) ∈ lv_args o (vs.map (mq_cv base b))
  | [], o, i, v, h, _ => by simp [mq_lay] at h
  | w :: ws, o, i, v, h, hv => by
    by_cases hc : w.category = 2
    · have hl : mq_lay (w :: ws) = w :: mq_un :: mq_lay ws := by cases w <;> first | rfl | (cases hc)
      rw [hl] at h
      simp only [List.map_cons, lv_args, mq_cv_cat, hc, if_pos]
      match i, h with
      | 0, h => cases h; exact List.mem_cons_self
      | 1, h => cases h; cases hv
      | i + 2, h =>
        have := mq_lay_at (base := base) (b := b) ws (o + 2) i v (by simpa using h) hv
        refine List.mem_cons_of_mem _ ?_
        rwa [show o + (i + 2) = o + 2 + i by omega]
    · have hl : mq_lay (w :: ws) = w :: mq_lay ws := by cases w <;> first | rfl | (exact absurd rfl hc)
      rw [hl] at h
      simp only [List.map_cons, lv_args, mq_cv_cat, if_neg hc]
      match i, h with
      | 0, h => cases h; exact List.mem_cons_self
      | i + 1, h =>
        have := mq_lay_at (base := base) (b := b) ws (o + 1) i v (by simpa using h) hv
        refine List.mem_cons_of_mem _ ?_
        rwa [show o + (i + 1) = o + 1 + i by omega]
theorem mq_sl_len (vs : List Value) : (lg_sl vs).length = mq_cat vs := by
  induction vs with
  | nil => rfl
  | cons v vs ih =>
    simp only [lg_sl, List.flatMap_cons, List.length_append, mq_cat] at ih ⊢
    rw [ih]
    rcases lv_cat v with h | h <;> simp [h]
/-- the locals with which a method begins -/
theorem mq_L.ent {base b n : Nat} {vs : List Value} (h : mq_cat vs ≤ n) : mq_L base b ((lg_sl (vs.map (mq_cv base b)) ++ List.replicate (n - (lg_sl (vs.map (mq_cv base b))).length) Slot.unset).toArray) n (mq_ent n vs) := by
  have hc : mq_cat (vs.map (mq_cv base b)) = mq_cat vs := by
    induction vs with
    | nil => rfl
    | cons v vs ih => simp only [List.map_cons, mq_cat, mq_cv_cat]; rw [ih (by simp only [mq_cat] at h; omega)]
  have h1 := lv_entry (vs.map (mq_cv base b)) (n := n) (by rw [mq_sl_len, hc]; exact h)
  refine ⟨h1.1, h1.2.1, mq_pad_len n _ (by rw [mq_lay_len]; exact h), fun i v e hv => ?_⟩
  have e1 := mq_lay_at (base := base) (b := b) vs 0 i v (mq_pad_at n _ i v e hv) hv
  have := h1.2.2 _ e1
  simpa using this
