/-! THE CONSTRUCTORS, on the heap itself -/
def mq_Tm (d m pc : Nat) (ls st : List Value) (h : mq_H) (r : Option Value) (h' : mq_H) : Prop := ∃ f, mq_run f d m pc ls st h = some (r, h')
theorem mq_Tm_go (k : Nat) {d m pc : Nat} {ls st : List Value} {h : mq_H} {r : Option Value} {h' : mq_H} {pc' : Nat} {ls' st' : List Value} {h1 : mq_H} (e : mq_go k d m pc ls st h = some (pc', ls', st', h1)) (t : mq_Tm d m pc' ls' st' h1 r h') : mq_Tm d m pc ls st h r h' := by
  obtain ⟨f, t⟩ := t
  exact ⟨f + k, mq_go_run k e t⟩
theorem mq_Tm_call {d m pc : Nat} {ls st : List Value} {h : mq_H} {r : Option Value} {h' : mq_H} {q : mq_I} {m' ml : Nat} {as rest : List Value} {h1 : mq_H} {r1 : Option Value} (hc : mq_code m pc = some q) (hs : mq_step (d + 1) pc q ls st h = some (.inr (.inl (m', as, rest, ml)))) (hcat : mq_cat as ≤ ml) (H : mq_Tm d m' 0 (mq_ent ml as) [] h r1 h1)
    (k : mq_Tm (d + 1) m q.2.1 ls (r1.toList ++ rest) h1 r h') : mq_Tm (d + 1) m pc ls st h r h' := by
  obtain ⟨f1, e1⟩ := H
  obtain ⟨f2, e2⟩ := k
  refine ⟨(f1 + f2) + 1, ?_⟩
  unfold mq_run
  rw [hc]
  dsimp only
  rw [hs]
  dsimp only
  rw [if_pos hcat, mq_run_more f1 f2 e1]
  dsimp only
  rw [show f1 + f2 = f2 + f1 by omega]
  exact mq_run_more f2 f1 e2
theorem mq_Tm_ret {d m pc : Nat} {ls st : List Value} {h : mq_H} {q : mq_I} {r : Option Value} (hc : mq_code m pc = some q) (hs : mq_step d pc q ls st h = some (.inr (.inr r))) : mq_Tm d m pc ls st h r h := by
  refine ⟨1, ?_⟩
  unfold mq_run
  rw [hc]
  dsimp only
  rw [hs]
def mq_fl (f : Nat → Int32) (n : Nat) (x : Int32) : Nat → Int32 := fun i => if i < n then x else f i
theorem mq_Tm_one {d m pc : Nat} {ls st : List Value} {h : mq_H} {r : Option Value} {h' : mq_H} {q : mq_I} {pc' : Nat} {ls' st' : List Value} {h1 : mq_H} (hc : mq_code m pc = some q) (hs : mq_step d pc q ls st h = some (.inl (pc', ls', st', h1))) (t : mq_Tm d m pc' ls' st' h1 r h') : mq_Tm d m pc ls st h r h' := by
  refine mq_Tm_go 1 ?_ t
  unfold mq_go
  rw [hc]
  dsimp only
  rw [hs]
  rfl
theorem mq_put_put {h : mq_H} {k : Nat} {e1 e2 : mq_E} : mq_put (mq_put h k e1) k e2 = mq_put h k e2 := by
  unfold mq_put
  refine Prod.ext ?_ rfl
  funext j
  show mq_up (mq_up h.1 k e1) k e2 j = mq_up h.1 k e2 j
  unfold mq_up
  by_cases hj : j = k <;> simp [hj]
theorem mq_put_same {h : mq_H} {k : Nat} {e : mq_E} (he : h.1 k = e) : mq_put h k e = h := by
  unfold mq_put
  refine Prod.ext ?_ rfl
  funext j
  show mq_up h.1 k e j = h.1 j
  unfold mq_up
  by_cases hj : j = k
  · subst hj; rw [if_pos rfl, he]
  · rw [if_neg hj]
theorem mq_arr_put {h : mq_H} {k : Nat} {a : Bool × Nat × (Nat → Int32)} (hk : k < h.2.1) : mq_arr (mq_put h k (.inl a)) k = some a := by
  unfold mq_arr
  rw [if_pos (show k < (mq_put h k (.inl a)).2.1 from hk)]
  show (match mq_up h.1 k (.inl a) k with | .inl a => some a | .inr _ => none) = _
  simp [mq_up]
theorem mq_Tm_fl {d k n : Nat} {f : Nat → Int32} {x : Int32} {h : mq_H} (hk : k < h.2.1) (hn : n < 2 ^ 30) : ∀ (j i : Nat), i + j = n →
    mq_Tm d 262 5 [.ref k, .int x, .int (nI i), .int (nI n)] [] (mq_put h k (.inl (false, n, mq_fl f i x))) none (mq_put h k (.inl (false, n, mq_fl f n x))) := by
  intro j
  induction j with
  | zero =>
    intro i hi
    have : i = n := by omega
    subst this
    refine mq_Tm_go 2 (pc' := 7) (ls' := [.ref k, .int x, .int (nI i), .int (nI i)]) (st' := [.int (nI i), .int (nI i)]) rfl ?_
    refine mq_Tm_one (pc' := 20) (ls' := [.ref k, .int x, .int (nI i), .int (nI i)]) (st' := []) rfl (if_pos (c := mq_cmp .ge (nI i) (nI i) = true) (decide_eq_true (nI_le (Nat.le_refl i) (by omega)))) ?_
    exact mq_Tm_ret rfl rfl
  | succ j ih =>
    intro i hi
    refine mq_Tm_go 2 (pc' := 7) (ls' := [.ref k, .int x, .int (nI i), .int (nI n)]) (st' := [.int (nI n), .int (nI i)]) rfl ?_
    refine mq_Tm_one (pc' := 10) (ls' := [.ref k, .int x, .int (nI i), .int (nI n)]) (st' := []) rfl (if_neg (c := mq_cmp .ge (nI i) (nI n) = true) (fun z => nI_ge (show i < n by omega) (by omega) (of_decide_eq_true z))) ?_
    refine mq_Tm_go 3 (pc' := 13) (ls' := [.ref k, .int x, .int (nI i), .int (nI n)]) (st' := [.int x, .int (nI i), .ref k]) rfl ?_
    refine mq_Tm_one (pc' := 14) (ls' := [.ref k, .int x, .int (nI i), .int (nI n)]) (st' := []) (h1 := mq_put h k (.inl (false, n, mq_fl f (i + 1) x))) rfl ?_ ?_
    · have hb : mq_inb (nI i) n = true := by
        simp only [mq_inb, Bool.and_eq_true, Bool.not_eq_true', decide_eq_false_iff_not, decide_eq_true_eq]
        exact ⟨nI_pos (by omega), by rw [nI_clamp (by omega)]; omega⟩
      simp only [mq_step, mq_iir, mq_arr_put hk, hb, and_self, if_true]
      rw [mq_put_put, nI_clamp (by omega)]
      have e : upd (mq_fl f i x) i x = mq_fl f (i + 1) x := by
        funext t
        unfold upd mq_fl
        by_cases h1 : t = i
        · subst h1; simp
        · rw [if_neg h1]
          by_cases h2 : t < i
          · rw [if_pos h2, if_pos (by omega)]
          · rw [if_neg h2, if_neg (by omega)]
      rw [e]
      rfl
    · refine mq_Tm_go 2 (pc' := 5) (ls' := [.ref k, .int x, .int (nI (i + 1)), .int (nI n)]) (st' := []) (h1 := mq_put h k (.inl (false, n, mq_fl f (i + 1) x))) ?_ (ih (i + 1) (by omega))
      rw [nI_succ]
      rfl
theorem mq_Tm_fill {d k n : Nat} {f : Nat → Int32} {x : Int32} {h : mq_H} (ha : mq_arr h k = some (false, n, f)) (hn : n < 2 ^ 30) : mq_Tm d 262 0 (mq_ent 4 [.ref k, .int x]) [] h none (mq_put h k (.inl (false, n, mq_fl f n x))) := by
  obtain ⟨hk, hc⟩ := mq_arr_inv ha
  have h0 : mq_put h k (.inl (false, n, mq_fl f 0 x)) = h := mq_put_same (by rw [hc]; congr)
  have key := mq_Tm_fl (d := d) (f := f) (x := x) hk hn n 0 (by omega)
  rw [h0] at key
  refine mq_Tm_go 3 (pc' := 3) (ls' := [.ref k, .int x, .int 0, mq_un]) (st' := [.ref k]) (h1 := h) rfl ?_
  refine mq_Tm_one (pc' := 4) (ls' := [.ref k, .int x, .int 0, mq_un]) (st' := [.int (Int32.ofNat n)]) (h1 := h) rfl ?_ ?_
  · have : mq_arrR h k = some (false, n, f) := by
      unfold mq_arrR
      rw [if_pos (Or.inl hk), hc]
    simp only [mq_step, mq_r1, this]
    rfl
  · refine mq_Tm_go 1 (pc' := 5) (ls' := [.ref k, .int x, .int 0, .int (Int32.ofNat n)]) (st' := []) (h1 := h) rfl ?_
    exact key
def cf_19_f : Nat → Int32 := mq_fl (fun _ => 0) 16 (-2)
def cf_20_f : Nat → Int32 := mq_fl (fun _ => 0) 60 (-2)
def cf_24_f : Nat → Int32 := mq_fl (fun _ => 0) 16 (-2)
def cf_25_f : Nat → Int32 := mq_fl (fun _ => 0) 60 (-2)
def cf_29_f : Nat → Int32 := mq_fl (fun _ => 0) 16 (-2)
def cf_30_f : Nat → Int32 := mq_fl (fun _ => 0) 60 (-2)
def cf_59_1 : Nat → Int32 := upd (fun _ => 0) (65 : Int32).toNatClampNeg 1
def cf_59_2 : Nat → Int32 := upd (cf_59_1) (48 : Int32).toNatClampNeg (-2)
def cf_59_3 : Nat → Int32 := upd (cf_59_2) (49 : Int32).toNatClampNeg (-2)
def cf_59_4 : Nat → Int32 := upd (cf_59_3) (50 : Int32).toNatClampNeg (-2)
def cf_59_5 : Nat → Int32 := upd (cf_59_4) (51 : Int32).toNatClampNeg (-2)
def cf_59_6 : Nat → Int32 := upd (cf_59_5) (52 : Int32).toNatClampNeg (-2)
def cf_59_7 : Nat → Int32 := upd (cf_59_6) (53 : Int32).toNatClampNeg (-2)
def cf_59_8 : Nat → Int32 := upd (cf_59_7) (54 : Int32).toNatClampNeg (-2)
def cf_59_9 : Nat → Int32 := upd (cf_59_8) (55 : Int32).toNatClampNeg (-2)
def cf_59_10 : Nat → Int32 := upd (cf_59_9) (56 : Int32).toNatClampNeg (-2)
def cf_59_11 : Nat → Int32 := upd (cf_59_10) (57 : Int32).toNatClampNeg (-2)
def cf_59_12 : Nat → Int32 := upd (cf_59_11) (58 : Int32).toNatClampNeg (-2)
def cf_59_13 : Nat → Int32 := upd (cf_59_12) (59 : Int32).toNatClampNeg (-2)
def cf_59_14 : Nat → Int32 := upd (cf_59_13) (60 : Int32).toNatClampNeg (-2)
def cf_59_15 : Nat → Int32 := upd (cf_59_14) (61 : Int32).toNatClampNeg (-2)
def cf_59_16 : Nat → Int32 := upd (cf_59_15) (62 : Int32).toNatClampNeg (-2)
def cf_59_17 : Nat → Int32 := upd (cf_59_16) (63 : Int32).toNatClampNeg (-2)
def ch_0 (L : Nat) (xs : Nat → Int32) : mq_H := mq_h0 L xs
def ch_1 (L : Nat) (xs : Nat → Int32) : mq_H := mq_add (ch_0 L xs) (.inr (11, mq_df 11)) 15
def ch_2 (L : Nat) (xs : Nat → Int32) : mq_H := mq_add (ch_1 L xs) (.inr (8, mq_df 8)) 6
def ch_3 (L : Nat) (xs : Nat → Int32) : mq_H := mq_add (ch_2 L xs) (.inl (false, 260, fun _ => 0)) 260
def ch_4 (L : Nat) (xs : Nat → Int32) : mq_H := mq_put (ch_3 L xs) 1 (.inr (8, [.ref 2, .int 0, .int 0, .int 0, .int 0, .int 0]))
def ch_5 (L : Nat) (xs : Nat → Int32) : mq_H := mq_put (ch_4 L xs) 1 (.inr (8, [.ref 2, .int 0, .int (-1), .int 0, .int 0, .int 0]))
def ch_6 (L : Nat) (xs : Nat → Int32) : mq_H := mq_put (ch_5 L xs) 0 (.inr (11, [.ref 1, .null, .null, .null, .null, .null, .null, .null, .int 0, .null, .null, .null, .null, .null, .null]))
def ch_7 (L : Nat) (xs : Nat → Int32) : mq_H := mq_add (ch_6 L xs) (.inr (0, mq_df 0)) 1
def ch_8 (L : Nat) (xs : Nat → Int32) : mq_H := mq_put (ch_7 L xs) 3 (.inr (0, [.ref 1]))
def ch_9 (L : Nat) (xs : Nat → Int32) : mq_H := mq_put (ch_8 L xs) 0 (.inr (11, [.ref 1, .null, .ref 3, .null, .null, .null, .null, .null, .int 0, .null, .null, .null, .null, .null, .null]))
def ch_10 (L : Nat) (xs : Nat → Int32) : mq_H := mq_add (ch_9 L xs) (.inr (5, mq_df 5)) 2
def ch_11 (L : Nat) (xs : Nat → Int32) : mq_H := mq_put (ch_10 L xs) 0 (.inr (11, [.ref 1, .null, .ref 3, .ref 4, .null, .null, .null, .null, .int 0, .null, .null, .null, .null, .null, .null]))
def ch_12 (L : Nat) (xs : Nat → Int32) : mq_H := mq_add (ch_11 L xs) (.inr (6, mq_df 6)) 3
def ch_13 (L : Nat) (xs : Nat → Int32) : mq_H := mq_put (ch_12 L xs) 0 (.inr (11, [.ref 1, .null, .ref 3, .ref 4, .ref 5, .null, .null, .null, .int 0, .null, .null, .null, .null, .null, .null]))
def ch_14 (L : Nat) (xs : Nat → Int32) : mq_H := mq_add (ch_13 L xs) (.inr (1, mq_df 1)) 9
def ch_15 (L : Nat) (xs : Nat → Int32) : mq_H := mq_add (ch_14 L xs) (.inl (false, 10, fun _ => 0)) 10
def ch_16 (L : Nat) (xs : Nat → Int32) : mq_H := mq_put (ch_15 L xs) 6 (.inr (1, [.ref 7, .null, .null, .null, .null, .null, .int 0, .int 0, .int 0]))
def ch_17 (L : Nat) (xs : Nat → Int32) : mq_H := mq_add (ch_16 L xs) (.inl (false, 100, fun _ => 0)) 100
def ch_18 (L : Nat) (xs : Nat → Int32) : mq_H := mq_put (ch_17 L xs) 6 (.inr (1, [.ref 7, .ref 8, .null, .null, .null, .null, .int 0, .int 0, .int 0]))
def ch_19 (L : Nat) (xs : Nat → Int32) : mq_H := mq_add (ch_18 L xs) (.inl (false, 1024, fun _ => 0)) 1024
def ch_20 (L : Nat) (xs : Nat → Int32) : mq_H := mq_put (ch_19 L xs) 6 (.inr (1, [.ref 7, .ref 8, .ref 9, .null, .null, .null, .int 0, .int 0, .int 0]))
def ch_21 (L : Nat) (xs : Nat → Int32) : mq_H := mq_add (ch_20 L xs) (.inl (false, 896, fun _ => 0)) 896
def ch_22 (L : Nat) (xs : Nat → Int32) : mq_H := mq_put (ch_21 L xs) 6 (.inr (1, [.ref 7, .ref 8, .ref 9, .ref 10, .null, .null, .int 0, .int 0, .int 0]))
def ch_23 (L : Nat) (xs : Nat → Int32) : mq_H := mq_add (ch_22 L xs) (.inl (false, 7, fun _ => 0)) 7
def ch_24 (L : Nat) (xs : Nat → Int32) : mq_H := mq_put (ch_23 L xs) 6 (.inr (1, [.ref 7, .ref 8, .ref 9, .ref 10, .ref 11, .null, .int 0, .int 0, .int 0]))
def ch_25 (L : Nat) (xs : Nat → Int32) : mq_H := mq_add (ch_24 L xs) (.inl (false, 7, fun _ => 0)) 7
def ch_26 (L : Nat) (xs : Nat → Int32) : mq_H := mq_put (ch_25 L xs) 6 (.inr (1, [.ref 7, .ref 8, .ref 9, .ref 10, .ref 11, .ref 12, .int 0, .int 0, .int 0]))
def ch_27 (L : Nat) (xs : Nat → Int32) : mq_H := mq_put (ch_26 L xs) 0 (.inr (11, [.ref 1, .null, .ref 3, .ref 4, .ref 5, .ref 6, .null, .null, .int 0, .null, .null, .null, .null, .null, .null]))
def ch_28 (L : Nat) (xs : Nat → Int32) : mq_H := mq_add (ch_27 L xs) (.inr (7, mq_df 7)) 3
def ch_29 (L : Nat) (xs : Nat → Int32) : mq_H := mq_add (ch_28 L xs) (.inl (false, 20, fun _ => 0)) 20
def ch_30 (L : Nat) (xs : Nat → Int32) : mq_H := mq_put (ch_29 L xs) 13 (.inr (7, [.ref 14, .null, .int 0]))
def ch_31 (L : Nat) (xs : Nat → Int32) : mq_H := mq_add (ch_30 L xs) (.inl (false, 20, fun _ => 0)) 20
def ch_32 (L : Nat) (xs : Nat → Int32) : mq_H := mq_put (ch_31 L xs) 13 (.inr (7, [.ref 14, .ref 15, .int 0]))
def ch_33 (L : Nat) (xs : Nat → Int32) : mq_H := mq_put (ch_32 L xs) 0 (.inr (11, [.ref 1, .null, .ref 3, .ref 4, .ref 5, .ref 6, .ref 13, .null, .int 0, .null, .null, .null, .null, .null, .null]))
def ch_34 (L : Nat) (xs : Nat → Int32) : mq_H := mq_add (ch_33 L xs) (.inr (10, mq_df 10)) 7
def ch_35 (L : Nat) (xs : Nat → Int32) : mq_H := mq_add (ch_34 L xs) (.inl (false, 16, fun _ => 0)) 16
def ch_36 (L : Nat) (xs : Nat → Int32) : mq_H := mq_put (ch_35 L xs) 16 (.inr (10, [.ref 17, .null, .null, .null, .int 0, .int 0, .int 0]))
def ch_37 (L : Nat) (xs : Nat → Int32) : mq_H := mq_add (ch_36 L xs) (.inl (false, 16, fun _ => 0)) 16
def ch_38 (L : Nat) (xs : Nat → Int32) : mq_H := mq_put (ch_37 L xs) 16 (.inr (10, [.ref 17, .ref 18, .null, .null, .int 0, .int 0, .int 0]))
def ch_39 (L : Nat) (xs : Nat → Int32) : mq_H := mq_add (ch_38 L xs) (.inl (false, 16, fun _ => 0)) 16
def ch_40 (L : Nat) (xs : Nat → Int32) : mq_H := mq_put (ch_39 L xs) 16 (.inr (10, [.ref 17, .ref 18, .ref 19, .null, .int 0, .int 0, .int 0]))
def ch_41 (L : Nat) (xs : Nat → Int32) : mq_H := mq_add (ch_40 L xs) (.inl (false, 60, fun _ => 0)) 60
def ch_42 (L : Nat) (xs : Nat → Int32) : mq_H := mq_put (ch_41 L xs) 16 (.inr (10, [.ref 17, .ref 18, .ref 19, .ref 20, .int 0, .int 0, .int 0]))
def ch_43 (L : Nat) (xs : Nat → Int32) : mq_H := mq_put (ch_42 L xs) 16 (.inr (10, [.ref 17, .ref 18, .ref 19, .ref 20, .int 0, .int 0, .int 1]))
def ch_44 (L : Nat) (xs : Nat → Int32) : mq_H := mq_put (ch_43 L xs) 19 (.inl (false, 16, cf_19_f))
def ch_45 (L : Nat) (xs : Nat → Int32) : mq_H := mq_put (ch_44 L xs) 20 (.inl (false, 60, cf_20_f))
def ch_46 (L : Nat) (xs : Nat → Int32) : mq_H := mq_put (ch_45 L xs) 0 (.inr (11, [.ref 1, .null, .ref 3, .ref 4, .ref 5, .ref 6, .ref 13, .ref 16, .int 0, .null, .null, .null, .null, .null, .null]))
def ch_47 (L : Nat) (xs : Nat → Int32) : mq_H := mq_add (ch_46 L xs) (.inr (10, mq_df 10)) 7
def ch_48 (L : Nat) (xs : Nat → Int32) : mq_H := mq_add (ch_47 L xs) (.inl (false, 16, fun _ => 0)) 16
def ch_49 (L : Nat) (xs : Nat → Int32) : mq_H := mq_put (ch_48 L xs) 21 (.inr (10, [.ref 22, .null, .null, .null, .int 0, .int 0, .int 0]))
def ch_50 (L : Nat) (xs : Nat → Int32) : mq_H := mq_add (ch_49 L xs) (.inl (false, 16, fun _ => 0)) 16
def ch_51 (L : Nat) (xs : Nat → Int32) : mq_H := mq_put (ch_50 L xs) 21 (.inr (10, [.ref 22, .ref 23, .null, .null, .int 0, .int 0, .int 0]))
def ch_52 (L : Nat) (xs : Nat → Int32) : mq_H := mq_add (ch_51 L xs) (.inl (false, 16, fun _ => 0)) 16
def ch_53 (L : Nat) (xs : Nat → Int32) : mq_H := mq_put (ch_52 L xs) 21 (.inr (10, [.ref 22, .ref 23, .ref 24, .null, .int 0, .int 0, .int 0]))
def ch_54 (L : Nat) (xs : Nat → Int32) : mq_H := mq_add (ch_53 L xs) (.inl (false, 60, fun _ => 0)) 60
def ch_55 (L : Nat) (xs : Nat → Int32) : mq_H := mq_put (ch_54 L xs) 21 (.inr (10, [.ref 22, .ref 23, .ref 24, .ref 25, .int 0, .int 0, .int 0]))
def ch_56 (L : Nat) (xs : Nat → Int32) : mq_H := mq_put (ch_55 L xs) 21 (.inr (10, [.ref 22, .ref 23, .ref 24, .ref 25, .int 0, .int 0, .int 1]))
def ch_57 (L : Nat) (xs : Nat → Int32) : mq_H := mq_put (ch_56 L xs) 24 (.inl (false, 16, cf_24_f))
def ch_58 (L : Nat) (xs : Nat → Int32) : mq_H := mq_put (ch_57 L xs) 25 (.inl (false, 60, cf_25_f))
def ch_59 (L : Nat) (xs : Nat → Int32) : mq_H := mq_put (ch_58 L xs) 0 (.inr (11, [.ref 1, .null, .ref 3, .ref 4, .ref 5, .ref 6, .ref 13, .ref 16, .int 0, .ref 21, .null, .null, .null, .null, .null]))
def ch_60 (L : Nat) (xs : Nat → Int32) : mq_H := mq_add (ch_59 L xs) (.inr (10, mq_df 10)) 7
def ch_61 (L : Nat) (xs : Nat → Int32) : mq_H := mq_add (ch_60 L xs) (.inl (false, 16, fun _ => 0)) 16
def ch_62 (L : Nat) (xs : Nat → Int32) : mq_H := mq_put (ch_61 L xs) 26 (.inr (10, [.ref 27, .null, .null, .null, .int 0, .int 0, .int 0]))
def ch_63 (L : Nat) (xs : Nat → Int32) : mq_H := mq_add (ch_62 L xs) (.inl (false, 16, fun _ => 0)) 16
def ch_64 (L : Nat) (xs : Nat → Int32) : mq_H := mq_put (ch_63 L xs) 26 (.inr (10, [.ref 27, .ref 28, .null, .null, .int 0, .int 0, .int 0]))
def ch_65 (L : Nat) (xs : Nat → Int32) : mq_H := mq_add (ch_64 L xs) (.inl (false, 16, fun _ => 0)) 16
def ch_66 (L : Nat) (xs : Nat → Int32) : mq_H := mq_put (ch_65 L xs) 26 (.inr (10, [.ref 27, .ref 28, .ref 29, .null, .int 0, .int 0, .int 0]))
def ch_67 (L : Nat) (xs : Nat → Int32) : mq_H := mq_add (ch_66 L xs) (.inl (false, 60, fun _ => 0)) 60
def ch_68 (L : Nat) (xs : Nat → Int32) : mq_H := mq_put (ch_67 L xs) 26 (.inr (10, [.ref 27, .ref 28, .ref 29, .ref 30, .int 0, .int 0, .int 0]))
def ch_69 (L : Nat) (xs : Nat → Int32) : mq_H := mq_put (ch_68 L xs) 26 (.inr (10, [.ref 27, .ref 28, .ref 29, .ref 30, .int 0, .int 0, .int 1]))
def ch_70 (L : Nat) (xs : Nat → Int32) : mq_H := mq_put (ch_69 L xs) 29 (.inl (false, 16, cf_29_f))
def ch_71 (L : Nat) (xs : Nat → Int32) : mq_H := mq_put (ch_70 L xs) 30 (.inl (false, 60, cf_30_f))
def ch_72 (L : Nat) (xs : Nat → Int32) : mq_H := mq_put (ch_71 L xs) 0 (.inr (11, [.ref 1, .null, .ref 3, .ref 4, .ref 5, .ref 6, .ref 13, .ref 16, .int 0, .ref 21, .ref 26, .null, .null, .null, .null]))
def ch_73 (L : Nat) (xs : Nat → Int32) : mq_H := mq_add (ch_72 L xs) (.inr (3, mq_df 3)) 12
def ch_74 (L : Nat) (xs : Nat → Int32) : mq_H := mq_add (ch_73 L xs) (.inl (false, 240, fun _ => 0)) 240
def ch_75 (L : Nat) (xs : Nat → Int32) : mq_H := mq_put (ch_74 L xs) 31 (.inr (3, [.ref 32, .null, .int 0, .null, .null, .null, .null, .int 0, .null, .null, .int 0, .int 0]))
def ch_76 (L : Nat) (xs : Nat → Int32) : mq_H := mq_add (ch_75 L xs) (.inl (false, 240, fun _ => 0)) 240
def ch_77 (L : Nat) (xs : Nat → Int32) : mq_H := mq_put (ch_76 L xs) 31 (.inr (3, [.ref 32, .ref 33, .int 0, .null, .null, .null, .null, .int 0, .null, .null, .int 0, .int 0]))
def ch_78 (L : Nat) (xs : Nat → Int32) : mq_H := mq_add (ch_77 L xs) (.inl (false, 16, fun _ => 0)) 16
def ch_79 (L : Nat) (xs : Nat → Int32) : mq_H := mq_put (ch_78 L xs) 31 (.inr (3, [.ref 32, .ref 33, .int 0, .ref 34, .null, .null, .null, .int 0, .null, .null, .int 0, .int 0]))
def ch_80 (L : Nat) (xs : Nat → Int32) : mq_H := mq_add (ch_79 L xs) (.inl (false, 16, fun _ => 0)) 16
def ch_81 (L : Nat) (xs : Nat → Int32) : mq_H := mq_put (ch_80 L xs) 31 (.inr (3, [.ref 32, .ref 33, .int 0, .ref 34, .ref 35, .null, .null, .int 0, .null, .null, .int 0, .int 0]))
def ch_82 (L : Nat) (xs : Nat → Int32) : mq_H := mq_add (ch_81 L xs) (.inl (false, 16, fun _ => 0)) 16
def ch_83 (L : Nat) (xs : Nat → Int32) : mq_H := mq_put (ch_82 L xs) 31 (.inr (3, [.ref 32, .ref 33, .int 0, .ref 34, .ref 35, .ref 36, .null, .int 0, .null, .null, .int 0, .int 0]))
def ch_84 (L : Nat) (xs : Nat → Int32) : mq_H := mq_add (ch_83 L xs) (.inl (false, 16, fun _ => 0)) 16
def ch_85 (L : Nat) (xs : Nat → Int32) : mq_H := mq_put (ch_84 L xs) 31 (.inr (3, [.ref 32, .ref 33, .int 0, .ref 34, .ref 35, .ref 36, .ref 37, .int 0, .null, .null, .int 0, .int 0]))
def ch_86 (L : Nat) (xs : Nat → Int32) : mq_H := mq_add (ch_85 L xs) (.inl (false, 8, fun _ => 0)) 8
def ch_87 (L : Nat) (xs : Nat → Int32) : mq_H := mq_put (ch_86 L xs) 31 (.inr (3, [.ref 32, .ref 33, .int 0, .ref 34, .ref 35, .ref 36, .ref 37, .int 0, .ref 38, .null, .int 0, .int 0]))
def ch_88 (L : Nat) (xs : Nat → Int32) : mq_H := mq_add (ch_87 L xs) (.inl (false, 32, fun _ => 0)) 32
def ch_89 (L : Nat) (xs : Nat → Int32) : mq_H := mq_put (ch_88 L xs) 31 (.inr (3, [.ref 32, .ref 33, .int 0, .ref 34, .ref 35, .ref 36, .ref 37, .int 0, .ref 38, .ref 39, .int 0, .int 0]))
def ch_90 (L : Nat) (xs : Nat → Int32) : mq_H := mq_put (ch_89 L xs) 0 (.inr (11, [.ref 1, .null, .ref 3, .ref 4, .ref 5, .ref 6, .ref 13, .ref 16, .int 0, .ref 21, .ref 26, .ref 31, .null, .null, .null]))
def ch_91 (L : Nat) (xs : Nat → Int32) : mq_H := mq_add (ch_90 L xs) (.inr (3, mq_df 3)) 12
def ch_92 (L : Nat) (xs : Nat → Int32) : mq_H := mq_add (ch_91 L xs) (.inl (false, 240, fun _ => 0)) 240
def ch_93 (L : Nat) (xs : Nat → Int32) : mq_H := mq_put (ch_92 L xs) 40 (.inr (3, [.ref 41, .null, .int 0, .null, .null, .null, .null, .int 0, .null, .null, .int 0, .int 0]))
def ch_94 (L : Nat) (xs : Nat → Int32) : mq_H := mq_add (ch_93 L xs) (.inl (false, 240, fun _ => 0)) 240
def ch_95 (L : Nat) (xs : Nat → Int32) : mq_H := mq_put (ch_94 L xs) 40 (.inr (3, [.ref 41, .ref 42, .int 0, .null, .null, .null, .null, .int 0, .null, .null, .int 0, .int 0]))
def ch_96 (L : Nat) (xs : Nat → Int32) : mq_H := mq_add (ch_95 L xs) (.inl (false, 16, fun _ => 0)) 16
def ch_97 (L : Nat) (xs : Nat → Int32) : mq_H := mq_put (ch_96 L xs) 40 (.inr (3, [.ref 41, .ref 42, .int 0, .ref 43, .null, .null, .null, .int 0, .null, .null, .int 0, .int 0]))
def ch_98 (L : Nat) (xs : Nat → Int32) : mq_H := mq_add (ch_97 L xs) (.inl (false, 16, fun _ => 0)) 16
def ch_99 (L : Nat) (xs : Nat → Int32) : mq_H := mq_put (ch_98 L xs) 40 (.inr (3, [.ref 41, .ref 42, .int 0, .ref 43, .ref 44, .null, .null, .int 0, .null, .null, .int 0, .int 0]))
def ch_100 (L : Nat) (xs : Nat → Int32) : mq_H := mq_add (ch_99 L xs) (.inl (false, 16, fun _ => 0)) 16
def ch_101 (L : Nat) (xs : Nat → Int32) : mq_H := mq_put (ch_100 L xs) 40 (.inr (3, [.ref 41, .ref 42, .int 0, .ref 43, .ref 44, .ref 45, .null, .int 0, .null, .null, .int 0, .int 0]))
def ch_102 (L : Nat) (xs : Nat → Int32) : mq_H := mq_add (ch_101 L xs) (.inl (false, 16, fun _ => 0)) 16
def ch_103 (L : Nat) (xs : Nat → Int32) : mq_H := mq_put (ch_102 L xs) 40 (.inr (3, [.ref 41, .ref 42, .int 0, .ref 43, .ref 44, .ref 45, .ref 46, .int 0, .null, .null, .int 0, .int 0]))
def ch_104 (L : Nat) (xs : Nat → Int32) : mq_H := mq_add (ch_103 L xs) (.inl (false, 8, fun _ => 0)) 8
def ch_105 (L : Nat) (xs : Nat → Int32) : mq_H := mq_put (ch_104 L xs) 40 (.inr (3, [.ref 41, .ref 42, .int 0, .ref 43, .ref 44, .ref 45, .ref 46, .int 0, .ref 47, .null, .int 0, .int 0]))
def ch_106 (L : Nat) (xs : Nat → Int32) : mq_H := mq_add (ch_105 L xs) (.inl (false, 32, fun _ => 0)) 32
def ch_107 (L : Nat) (xs : Nat → Int32) : mq_H := mq_put (ch_106 L xs) 40 (.inr (3, [.ref 41, .ref 42, .int 0, .ref 43, .ref 44, .ref 45, .ref 46, .int 0, .ref 47, .ref 48, .int 0, .int 0]))
def ch_108 (L : Nat) (xs : Nat → Int32) : mq_H := mq_put (ch_107 L xs) 0 (.inr (11, [.ref 1, .null, .ref 3, .ref 4, .ref 5, .ref 6, .ref 13, .ref 16, .int 0, .ref 21, .ref 26, .ref 31, .ref 40, .null, .null]))
def ch_109 (L : Nat) (xs : Nat → Int32) : mq_H := mq_add (ch_108 L xs) (.inr (4, mq_df 4)) 2
def ch_110 (L : Nat) (xs : Nat → Int32) : mq_H := mq_put (ch_109 L xs) 49 (.inr (4, [.ref 1, .null]))
def ch_111 (L : Nat) (xs : Nat → Int32) : mq_H := mq_put (ch_110 L xs) 49 (.inr (4, [.ref 1, .ref 40]))
def ch_112 (L : Nat) (xs : Nat → Int32) : mq_H := mq_put (ch_111 L xs) 0 (.inr (11, [.ref 1, .ref 49, .ref 3, .ref 4, .ref 5, .ref 6, .ref 13, .ref 16, .int 0, .ref 21, .ref 26, .ref 31, .ref 40, .null, .null]))
def ch_113 (L : Nat) (xs : Nat → Int32) : mq_H := mq_add (ch_112 L xs) (.inr (9, mq_df 9)) 4
def ch_114 (L : Nat) (xs : Nat → Int32) : mq_H := mq_add (ch_113 L xs) (.inl (false, 24, fun _ => 0)) 24
def ch_115 (L : Nat) (xs : Nat → Int32) : mq_H := mq_put (ch_114 L xs) 50 (.inr (9, [.ref 51, .null, .null, .int 0]))
def ch_116 (L : Nat) (xs : Nat → Int32) : mq_H := mq_add (ch_115 L xs) (.inl (false, 24, fun _ => 0)) 24
def ch_117 (L : Nat) (xs : Nat → Int32) : mq_H := mq_put (ch_116 L xs) 50 (.inr (9, [.ref 51, .ref 52, .null, .int 0]))
def ch_118 (L : Nat) (xs : Nat → Int32) : mq_H := mq_add (ch_117 L xs) (.inl (false, 24, fun _ => 0)) 24
def ch_119 (L : Nat) (xs : Nat → Int32) : mq_H := mq_put (ch_118 L xs) 50 (.inr (9, [.ref 51, .ref 52, .ref 53, .int 0]))
def ch_120 (L : Nat) (xs : Nat → Int32) : mq_H := mq_put (ch_119 L xs) 0 (.inr (11, [.ref 1, .ref 49, .ref 3, .ref 4, .ref 5, .ref 6, .ref 13, .ref 16, .int 0, .ref 21, .ref 26, .ref 31, .ref 40, .ref 50, .null]))
def ch_121 (L : Nat) (xs : Nat → Int32) : mq_H := mq_add (ch_120 L xs) (.inr (9, mq_df 9)) 4
def ch_122 (L : Nat) (xs : Nat → Int32) : mq_H := mq_add (ch_121 L xs) (.inl (false, 24, fun _ => 0)) 24
def ch_123 (L : Nat) (xs : Nat → Int32) : mq_H := mq_put (ch_122 L xs) 54 (.inr (9, [.ref 55, .null, .null, .int 0]))
def ch_124 (L : Nat) (xs : Nat → Int32) : mq_H := mq_add (ch_123 L xs) (.inl (false, 24, fun _ => 0)) 24
def ch_125 (L : Nat) (xs : Nat → Int32) : mq_H := mq_put (ch_124 L xs) 54 (.inr (9, [.ref 55, .ref 56, .null, .int 0]))
def ch_126 (L : Nat) (xs : Nat → Int32) : mq_H := mq_add (ch_125 L xs) (.inl (false, 24, fun _ => 0)) 24
def ch_127 (L : Nat) (xs : Nat → Int32) : mq_H := mq_put (ch_126 L xs) 54 (.inr (9, [.ref 55, .ref 56, .ref 57, .int 0]))
def ch_128 (L : Nat) (xs : Nat → Int32) : mq_H := mq_put (ch_127 L xs) 0 (.inr (11, [.ref 1, .ref 49, .ref 3, .ref 4, .ref 5, .ref 6, .ref 13, .ref 16, .int 0, .ref 21, .ref 26, .ref 31, .ref 40, .ref 50, .ref 54]))
def ch_129 (L : Nat) (xs : Nat → Int32) : mq_H := mq_add (ch_128 L xs) (.inr (12, mq_df 12)) 50
def ch_130 (L : Nat) (xs : Nat → Int32) : mq_H := mq_add (ch_129 L xs) (.inl (false, 66, fun _ => 0)) 66
def ch_131 (L : Nat) (xs : Nat → Int32) : mq_H := mq_put (ch_130 L xs) 58 (.inr (12, [.ref 59, .null, .null, .null, .int 0, .int 0, .int 0, .int 0, .int 0, .int 0, .int 0, .int 0, .int 0, .int 0, .null, .null, .null, .null, .null, .null, .null, .null, .null, .null, .null, .null, .null, .int 0, .null, .null, .null, .null, .null, .null, .int 0, .int 0, .int 0, .int 0, .null, .null, .null, .int 0, .int 0, .null, .null, .int 0, .null, .null, .null, .int 0]))
def ch_132 (L : Nat) (xs : Nat → Int32) : mq_H := mq_add (ch_131 L xs) (.inl (false, 66, fun _ => 0)) 66
def ch_133 (L : Nat) (xs : Nat → Int32) : mq_H := mq_put (ch_132 L xs) 58 (.inr (12, [.ref 59, .ref 60, .null, .null, .int 0, .int 0, .int 0, .int 0, .int 0, .int 0, .int 0, .int 0, .int 0, .int 0, .null, .null, .null, .null, .null, .null, .null, .null, .null, .null, .null, .null, .null, .int 0, .null, .null, .null, .null, .null, .null, .int 0, .int 0, .int 0, .int 0, .null, .null, .null, .int 0, .int 0, .null, .null, .int 0, .null, .null, .null, .int 0]))
def ch_134 (L : Nat) (xs : Nat → Int32) : mq_H := mq_add (ch_133 L xs) (.inl (false, 66, fun _ => 0)) 66
def ch_135 (L : Nat) (xs : Nat → Int32) : mq_H := mq_put (ch_134 L xs) 58 (.inr (12, [.ref 59, .ref 60, .ref 61, .null, .int 0, .int 0, .int 0, .int 0, .int 0, .int 0, .int 0, .int 0, .int 0, .int 0, .null, .null, .null, .null, .null, .null, .null, .null, .null, .null, .null, .null, .null, .int 0, .null, .null, .null, .null, .null, .null, .int 0, .int 0, .int 0, .int 0, .null, .null, .null, .int 0, .int 0, .null, .null, .int 0, .null, .null, .null, .int 0]))
def ch_136 (L : Nat) (xs : Nat → Int32) : mq_H := mq_add (ch_135 L xs) (.inl (true, 260, fun _ => 0)) 260
def ch_137 (L : Nat) (xs : Nat → Int32) : mq_H := mq_put (ch_136 L xs) 58 (.inr (12, [.ref 59, .ref 60, .ref 61, .ref 62, .int 0, .int 0, .int 0, .int 0, .int 0, .int 0, .int 0, .int 0, .int 0, .int 0, .null, .null, .null, .null, .null, .null, .null, .null, .null, .null, .null, .null, .null, .int 0, .null, .null, .null, .null, .null, .null, .int 0, .int 0, .int 0, .int 0, .null, .null, .null, .int 0, .int 0, .null, .null, .int 0, .null, .null, .null, .int 0]))
def ch_138 (L : Nat) (xs : Nat → Int32) : mq_H := mq_add (ch_137 L xs) (.inl (false, 260, fun _ => 0)) 260
def ch_139 (L : Nat) (xs : Nat → Int32) : mq_H := mq_put (ch_138 L xs) 58 (.inr (12, [.ref 59, .ref 60, .ref 61, .ref 62, .int 0, .int 0, .int 0, .int 0, .int 0, .int 0, .int 0, .int 0, .int 0, .int 0, .ref 63, .null, .null, .null, .null, .null, .null, .null, .null, .null, .null, .null, .null, .int 0, .null, .null, .null, .null, .null, .null, .int 0, .int 0, .int 0, .int 0, .null, .null, .null, .int 0, .int 0, .null, .null, .int 0, .null, .null, .null, .int 0]))
def ch_140 (L : Nat) (xs : Nat → Int32) : mq_H := mq_add (ch_139 L xs) (.inl (false, 260, fun _ => 0)) 260
def ch_141 (L : Nat) (xs : Nat → Int32) : mq_H := mq_put (ch_140 L xs) 58 (.inr (12, [.ref 59, .ref 60, .ref 61, .ref 62, .int 0, .int 0, .int 0, .int 0, .int 0, .int 0, .int 0, .int 0, .int 0, .int 0, .ref 63, .ref 64, .null, .null, .null, .null, .null, .null, .null, .null, .null, .null, .null, .int 0, .null, .null, .null, .null, .null, .null, .int 0, .int 0, .int 0, .int 0, .null, .null, .null, .int 0, .int 0, .null, .null, .int 0, .null, .null, .null, .int 0]))
def ch_142 (L : Nat) (xs : Nat → Int32) : mq_H := mq_add (ch_141 L xs) (.inl (false, 16, fun _ => 0)) 16
def ch_143 (L : Nat) (xs : Nat → Int32) : mq_H := mq_put (ch_142 L xs) 58 (.inr (12, [.ref 59, .ref 60, .ref 61, .ref 62, .int 0, .int 0, .int 0, .int 0, .int 0, .int 0, .int 0, .int 0, .int 0, .int 0, .ref 63, .ref 64, .ref 65, .null, .null, .null, .null, .null, .null, .null, .null, .null, .null, .int 0, .null, .null, .null, .null, .null, .null, .int 0, .int 0, .int 0, .int 0, .null, .null, .null, .int 0, .int 0, .null, .null, .int 0, .null, .null, .null, .int 0]))
def ch_144 (L : Nat) (xs : Nat → Int32) : mq_H := mq_add (ch_143 L xs) (.inl (false, 16, fun _ => 0)) 16
def ch_145 (L : Nat) (xs : Nat → Int32) : mq_H := mq_put (ch_144 L xs) 58 (.inr (12, [.ref 59, .ref 60, .ref 61, .ref 62, .int 0, .int 0, .int 0, .int 0, .int 0, .int 0, .int 0, .int 0, .int 0, .int 0, .ref 63, .ref 64, .ref 65, .ref 66, .null, .null, .null, .null, .null, .null, .null, .null, .null, .int 0, .null, .null, .null, .null, .null, .null, .int 0, .int 0, .int 0, .int 0, .null, .null, .null, .int 0, .int 0, .null, .null, .int 0, .null, .null, .null, .int 0]))
def ch_146 (L : Nat) (xs : Nat → Int32) : mq_H := mq_add (ch_145 L xs) (.inl (false, 16, fun _ => 0)) 16
def ch_147 (L : Nat) (xs : Nat → Int32) : mq_H := mq_put (ch_146 L xs) 58 (.inr (12, [.ref 59, .ref 60, .ref 61, .ref 62, .int 0, .int 0, .int 0, .int 0, .int 0, .int 0, .int 0, .int 0, .int 0, .int 0, .ref 63, .ref 64, .ref 65, .ref 66, .ref 67, .null, .null, .null, .null, .null, .null, .null, .null, .int 0, .null, .null, .null, .null, .null, .null, .int 0, .int 0, .int 0, .int 0, .null, .null, .null, .int 0, .int 0, .null, .null, .int 0, .null, .null, .null, .int 0]))
def ch_148 (L : Nat) (xs : Nat → Int32) : mq_H := mq_add (ch_147 L xs) (.inl (false, 16, fun _ => 0)) 16
def ch_149 (L : Nat) (xs : Nat → Int32) : mq_H := mq_put (ch_148 L xs) 58 (.inr (12, [.ref 59, .ref 60, .ref 61, .ref 62, .int 0, .int 0, .int 0, .int 0, .int 0, .int 0, .int 0, .int 0, .int 0, .int 0, .ref 63, .ref 64, .ref 65, .ref 66, .ref 67, .ref 68, .null, .null, .null, .null, .null, .null, .null, .int 0, .null, .null, .null, .null, .null, .null, .int 0, .int 0, .int 0, .int 0, .null, .null, .null, .int 0, .int 0, .null, .null, .int 0, .null, .null, .null, .int 0]))
def ch_150 (L : Nat) (xs : Nat → Int32) : mq_H := mq_add (ch_149 L xs) (.inl (false, 260, fun _ => 0)) 260
def ch_151 (L : Nat) (xs : Nat → Int32) : mq_H := mq_put (ch_150 L xs) 58 (.inr (12, [.ref 59, .ref 60, .ref 61, .ref 62, .int 0, .int 0, .int 0, .int 0, .int 0, .int 0, .int 0, .int 0, .int 0, .int 0, .ref 63, .ref 64, .ref 65, .ref 66, .ref 67, .ref 68, .ref 69, .null, .null, .null, .null, .null, .null, .int 0, .null, .null, .null, .null, .null, .null, .int 0, .int 0, .int 0, .int 0, .null, .null, .null, .int 0, .int 0, .null, .null, .int 0, .null, .null, .null, .int 0]))
def ch_152 (L : Nat) (xs : Nat → Int32) : mq_H := mq_add (ch_151 L xs) (.inl (false, 16, fun _ => 0)) 16
def ch_153 (L : Nat) (xs : Nat → Int32) : mq_H := mq_put (ch_152 L xs) 58 (.inr (12, [.ref 59, .ref 60, .ref 61, .ref 62, .int 0, .int 0, .int 0, .int 0, .int 0, .int 0, .int 0, .int 0, .int 0, .int 0, .ref 63, .ref 64, .ref 65, .ref 66, .ref 67, .ref 68, .ref 69, .ref 70, .null, .null, .null, .null, .null, .int 0, .null, .null, .null, .null, .null, .null, .int 0, .int 0, .int 0, .int 0, .null, .null, .null, .int 0, .int 0, .null, .null, .int 0, .null, .null, .null, .int 0]))
def ch_154 (L : Nat) (xs : Nat → Int32) : mq_H := mq_add (ch_153 L xs) (.inl (false, 16, fun _ => 0)) 16
def ch_155 (L : Nat) (xs : Nat → Int32) : mq_H := mq_put (ch_154 L xs) 58 (.inr (12, [.ref 59, .ref 60, .ref 61, .ref 62, .int 0, .int 0, .int 0, .int 0, .int 0, .int 0, .int 0, .int 0, .int 0, .int 0, .ref 63, .ref 64, .ref 65, .ref 66, .ref 67, .ref 68, .ref 69, .ref 70, .ref 71, .null, .null, .null, .null, .int 0, .null, .null, .null, .null, .null, .null, .int 0, .int 0, .int 0, .int 0, .null, .null, .null, .int 0, .int 0, .null, .null, .int 0, .null, .null, .null, .int 0]))
def ch_156 (L : Nat) (xs : Nat → Int32) : mq_H := mq_add (ch_155 L xs) (.inl (false, 16, fun _ => 0)) 16
def ch_157 (L : Nat) (xs : Nat → Int32) : mq_H := mq_put (ch_156 L xs) 58 (.inr (12, [.ref 59, .ref 60, .ref 61, .ref 62, .int 0, .int 0, .int 0, .int 0, .int 0, .int 0, .int 0, .int 0, .int 0, .int 0, .ref 63, .ref 64, .ref 65, .ref 66, .ref 67, .ref 68, .ref 69, .ref 70, .ref 71, .ref 72, .null, .null, .null, .int 0, .null, .null, .null, .null, .null, .null, .int 0, .int 0, .int 0, .int 0, .null, .null, .null, .int 0, .int 0, .null, .null, .int 0, .null, .null, .null, .int 0]))
def ch_158 (L : Nat) (xs : Nat → Int32) : mq_H := mq_add (ch_157 L xs) (.inl (false, 16, fun _ => 0)) 16
def ch_159 (L : Nat) (xs : Nat → Int32) : mq_H := mq_put (ch_158 L xs) 58 (.inr (12, [.ref 59, .ref 60, .ref 61, .ref 62, .int 0, .int 0, .int 0, .int 0, .int 0, .int 0, .int 0, .int 0, .int 0, .int 0, .ref 63, .ref 64, .ref 65, .ref 66, .ref 67, .ref 68, .ref 69, .ref 70, .ref 71, .ref 72, .ref 73, .null, .null, .int 0, .null, .null, .null, .null, .null, .null, .int 0, .int 0, .int 0, .int 0, .null, .null, .null, .int 0, .int 0, .null, .null, .int 0, .null, .null, .null, .int 0]))
def ch_160 (L : Nat) (xs : Nat → Int32) : mq_H := mq_add (ch_159 L xs) (.inl (false, 260, fun _ => 0)) 260
def ch_161 (L : Nat) (xs : Nat → Int32) : mq_H := mq_put (ch_160 L xs) 58 (.inr (12, [.ref 59, .ref 60, .ref 61, .ref 62, .int 0, .int 0, .int 0, .int 0, .int 0, .int 0, .int 0, .int 0, .int 0, .int 0, .ref 63, .ref 64, .ref 65, .ref 66, .ref 67, .ref 68, .ref 69, .ref 70, .ref 71, .ref 72, .ref 73, .ref 74, .null, .int 0, .null, .null, .null, .null, .null, .null, .int 0, .int 0, .int 0, .int 0, .null, .null, .null, .int 0, .int 0, .null, .null, .int 0, .null, .null, .null, .int 0]))
def ch_162 (L : Nat) (xs : Nat → Int32) : mq_H := mq_add (ch_161 L xs) (.inl (false, 8, fun _ => 0)) 8
def ch_163 (L : Nat) (xs : Nat → Int32) : mq_H := mq_put (ch_162 L xs) 58 (.inr (12, [.ref 59, .ref 60, .ref 61, .ref 62, .int 0, .int 0, .int 0, .int 0, .int 0, .int 0, .int 0, .int 0, .int 0, .int 0, .ref 63, .ref 64, .ref 65, .ref 66, .ref 67, .ref 68, .ref 69, .ref 70, .ref 71, .ref 72, .ref 73, .ref 74, .ref 75, .int 0, .null, .null, .null, .null, .null, .null, .int 0, .int 0, .int 0, .int 0, .null, .null, .null, .int 0, .int 0, .null, .null, .int 0, .null, .null, .null, .int 0]))
def ch_164 (L : Nat) (xs : Nat → Int32) : mq_H := mq_add (ch_163 L xs) (.inl (false, 24, fun _ => 0)) 24
def ch_165 (L : Nat) (xs : Nat → Int32) : mq_H := mq_put (ch_164 L xs) 58 (.inr (12, [.ref 59, .ref 60, .ref 61, .ref 62, .int 0, .int 0, .int 0, .int 0, .int 0, .int 0, .int 0, .int 0, .int 0, .int 0, .ref 63, .ref 64, .ref 65, .ref 66, .ref 67, .ref 68, .ref 69, .ref 70, .ref 71, .ref 72, .ref 73, .ref 74, .ref 75, .int 0, .ref 76, .null, .null, .null, .null, .null, .int 0, .int 0, .int 0, .int 0, .null, .null, .null, .int 0, .int 0, .null, .null, .int 0, .null, .null, .null, .int 0]))
def ch_166 (L : Nat) (xs : Nat → Int32) : mq_H := mq_add (ch_165 L xs) (.inl (false, 24, fun _ => 0)) 24
def ch_167 (L : Nat) (xs : Nat → Int32) : mq_H := mq_put (ch_166 L xs) 58 (.inr (12, [.ref 59, .ref 60, .ref 61, .ref 62, .int 0, .int 0, .int 0, .int 0, .int 0, .int 0, .int 0, .int 0, .int 0, .int 0, .ref 63, .ref 64, .ref 65, .ref 66, .ref 67, .ref 68, .ref 69, .ref 70, .ref 71, .ref 72, .ref 73, .ref 74, .ref 75, .int 0, .ref 76, .ref 77, .null, .null, .null, .null, .int 0, .int 0, .int 0, .int 0, .null, .null, .null, .int 0, .int 0, .null, .null, .int 0, .null, .null, .null, .int 0]))
def ch_168 (L : Nat) (xs : Nat → Int32) : mq_H := mq_add (ch_167 L xs) (.inl (false, 24, fun _ => 0)) 24
def ch_169 (L : Nat) (xs : Nat → Int32) : mq_H := mq_put (ch_168 L xs) 58 (.inr (12, [.ref 59, .ref 60, .ref 61, .ref 62, .int 0, .int 0, .int 0, .int 0, .int 0, .int 0, .int 0, .int 0, .int 0, .int 0, .ref 63, .ref 64, .ref 65, .ref 66, .ref 67, .ref 68, .ref 69, .ref 70, .ref 71, .ref 72, .ref 73, .ref 74, .ref 75, .int 0, .ref 76, .ref 77, .ref 78, .null, .null, .null, .int 0, .int 0, .int 0, .int 0, .null, .null, .null, .int 0, .int 0, .null, .null, .int 0, .null, .null, .null, .int 0]))
def ch_170 (L : Nat) (xs : Nat → Int32) : mq_H := mq_add (ch_169 L xs) (.inl (false, 24, fun _ => 0)) 24
def ch_171 (L : Nat) (xs : Nat → Int32) : mq_H := mq_put (ch_170 L xs) 58 (.inr (12, [.ref 59, .ref 60, .ref 61, .ref 62, .int 0, .int 0, .int 0, .int 0, .int 0, .int 0, .int 0, .int 0, .int 0, .int 0, .ref 63, .ref 64, .ref 65, .ref 66, .ref 67, .ref 68, .ref 69, .ref 70, .ref 71, .ref 72, .ref 73, .ref 74, .ref 75, .int 0, .ref 76, .ref 77, .ref 78, .ref 79, .null, .null, .int 0, .int 0, .int 0, .int 0, .null, .null, .null, .int 0, .int 0, .null, .null, .int 0, .null, .null, .null, .int 0]))
def ch_172 (L : Nat) (xs : Nat → Int32) : mq_H := mq_add (ch_171 L xs) (.inl (false, 24, fun _ => 0)) 24
def ch_173 (L : Nat) (xs : Nat → Int32) : mq_H := mq_put (ch_172 L xs) 58 (.inr (12, [.ref 59, .ref 60, .ref 61, .ref 62, .int 0, .int 0, .int 0, .int 0, .int 0, .int 0, .int 0, .int 0, .int 0, .int 0, .ref 63, .ref 64, .ref 65, .ref 66, .ref 67, .ref 68, .ref 69, .ref 70, .ref 71, .ref 72, .ref 73, .ref 74, .ref 75, .int 0, .ref 76, .ref 77, .ref 78, .ref 79, .ref 80, .null, .int 0, .int 0, .int 0, .int 0, .null, .null, .null, .int 0, .int 0, .null, .null, .int 0, .null, .null, .null, .int 0]))
def ch_174 (L : Nat) (xs : Nat → Int32) : mq_H := mq_add (ch_173 L xs) (.inl (false, 24, fun _ => 0)) 24
def ch_175 (L : Nat) (xs : Nat → Int32) : mq_H := mq_put (ch_174 L xs) 58 (.inr (12, [.ref 59, .ref 60, .ref 61, .ref 62, .int 0, .int 0, .int 0, .int 0, .int 0, .int 0, .int 0, .int 0, .int 0, .int 0, .ref 63, .ref 64, .ref 65, .ref 66, .ref 67, .ref 68, .ref 69, .ref 70, .ref 71, .ref 72, .ref 73, .ref 74, .ref 75, .int 0, .ref 76, .ref 77, .ref 78, .ref 79, .ref 80, .ref 81, .int 0, .int 0, .int 0, .int 0, .null, .null, .null, .int 0, .int 0, .null, .null, .int 0, .null, .null, .null, .int 0]))
def ch_176 (L : Nat) (xs : Nat → Int32) : mq_H := mq_add (ch_175 L xs) (.inl (false, 7, fun _ => 0)) 7
def ch_177 (L : Nat) (xs : Nat → Int32) : mq_H := mq_put (ch_176 L xs) 58 (.inr (12, [.ref 59, .ref 60, .ref 61, .ref 62, .int 0, .int 0, .int 0, .int 0, .int 0, .int 0, .int 0, .int 0, .int 0, .int 0, .ref 63, .ref 64, .ref 65, .ref 66, .ref 67, .ref 68, .ref 69, .ref 70, .ref 71, .ref 72, .ref 73, .ref 74, .ref 75, .int 0, .ref 76, .ref 77, .ref 78, .ref 79, .ref 80, .ref 81, .int 0, .int 0, .int 0, .int 0, .ref 82, .null, .null, .int 0, .int 0, .null, .null, .int 0, .null, .null, .null, .int 0]))
def ch_178 (L : Nat) (xs : Nat → Int32) : mq_H := mq_add (ch_177 L xs) (.inl (false, 7, fun _ => 0)) 7
def ch_179 (L : Nat) (xs : Nat → Int32) : mq_H := mq_put (ch_178 L xs) 58 (.inr (12, [.ref 59, .ref 60, .ref 61, .ref 62, .int 0, .int 0, .int 0, .int 0, .int 0, .int 0, .int 0, .int 0, .int 0, .int 0, .ref 63, .ref 64, .ref 65, .ref 66, .ref 67, .ref 68, .ref 69, .ref 70, .ref 71, .ref 72, .ref 73, .ref 74, .ref 75, .int 0, .ref 76, .ref 77, .ref 78, .ref 79, .ref 80, .ref 81, .int 0, .int 0, .int 0, .int 0, .ref 82, .ref 83, .null, .int 0, .int 0, .null, .null, .int 0, .null, .null, .null, .int 0]))
def ch_180 (L : Nat) (xs : Nat → Int32) : mq_H := mq_add (ch_179 L xs) (.inl (false, 16, fun _ => 0)) 16
def ch_181 (L : Nat) (xs : Nat → Int32) : mq_H := mq_put (ch_180 L xs) 58 (.inr (12, [.ref 59, .ref 60, .ref 61, .ref 62, .int 0, .int 0, .int 0, .int 0, .int 0, .int 0, .int 0, .int 0, .int 0, .int 0, .ref 63, .ref 64, .ref 65, .ref 66, .ref 67, .ref 68, .ref 69, .ref 70, .ref 71, .ref 72, .ref 73, .ref 74, .ref 75, .int 0, .ref 76, .ref 77, .ref 78, .ref 79, .ref 80, .ref 81, .int 0, .int 0, .int 0, .int 0, .ref 82, .ref 83, .ref 84, .int 0, .int 0, .null, .null, .int 0, .null, .null, .null, .int 0]))
def ch_182 (L : Nat) (xs : Nat → Int32) : mq_H := mq_add (ch_181 L xs) (.inl (false, 10, fun _ => 0)) 10
def ch_183 (L : Nat) (xs : Nat → Int32) : mq_H := mq_put (ch_182 L xs) 58 (.inr (12, [.ref 59, .ref 60, .ref 61, .ref 62, .int 0, .int 0, .int 0, .int 0, .int 0, .int 0, .int 0, .int 0, .int 0, .int 0, .ref 63, .ref 64, .ref 65, .ref 66, .ref 67, .ref 68, .ref 69, .ref 70, .ref 71, .ref 72, .ref 73, .ref 74, .ref 75, .int 0, .ref 76, .ref 77, .ref 78, .ref 79, .ref 80, .ref 81, .int 0, .int 0, .int 0, .int 0, .ref 82, .ref 83, .ref 84, .int 0, .int 0, .ref 85, .null, .int 0, .null, .null, .null, .int 0]))
def ch_184 (L : Nat) (xs : Nat → Int32) : mq_H := mq_add (ch_183 L xs) (.inl (false, 1024, fun _ => 0)) 1024
def ch_185 (L : Nat) (xs : Nat → Int32) : mq_H := mq_put (ch_184 L xs) 58 (.inr (12, [.ref 59, .ref 60, .ref 61, .ref 62, .int 0, .int 0, .int 0, .int 0, .int 0, .int 0, .int 0, .int 0, .int 0, .int 0, .ref 63, .ref 64, .ref 65, .ref 66, .ref 67, .ref 68, .ref 69, .ref 70, .ref 71, .ref 72, .ref 73, .ref 74, .ref 75, .int 0, .ref 76, .ref 77, .ref 78, .ref 79, .ref 80, .ref 81, .int 0, .int 0, .int 0, .int 0, .ref 82, .ref 83, .ref 84, .int 0, .int 0, .ref 85, .ref 86, .int 0, .null, .null, .null, .int 0]))
def ch_186 (L : Nat) (xs : Nat → Int32) : mq_H := mq_add (ch_185 L xs) (.inl (false, 20, fun _ => 0)) 20
def ch_187 (L : Nat) (xs : Nat → Int32) : mq_H := mq_put (ch_186 L xs) 58 (.inr (12, [.ref 59, .ref 60, .ref 61, .ref 62, .int 0, .int 0, .int 0, .int 0, .int 0, .int 0, .int 0, .int 0, .int 0, .int 0, .ref 63, .ref 64, .ref 65, .ref 66, .ref 67, .ref 68, .ref 69, .ref 70, .ref 71, .ref 72, .ref 73, .ref 74, .ref 75, .int 0, .ref 76, .ref 77, .ref 78, .ref 79, .ref 80, .ref 81, .int 0, .int 0, .int 0, .int 0, .ref 82, .ref 83, .ref 84, .int 0, .int 0, .ref 85, .ref 86, .int 0, .ref 87, .null, .null, .int 0]))
def ch_188 (L : Nat) (xs : Nat → Int32) : mq_H := mq_add (ch_187 L xs) (.inl (false, 60, fun _ => 0)) 60
def ch_189 (L : Nat) (xs : Nat → Int32) : mq_H := mq_put (ch_188 L xs) 58 (.inr (12, [.ref 59, .ref 60, .ref 61, .ref 62, .int 0, .int 0, .int 0, .int 0, .int 0, .int 0, .int 0, .int 0, .int 0, .int 0, .ref 63, .ref 64, .ref 65, .ref 66, .ref 67, .ref 68, .ref 69, .ref 70, .ref 71, .ref 72, .ref 73, .ref 74, .ref 75, .int 0, .ref 76, .ref 77, .ref 78, .ref 79, .ref 80, .ref 81, .int 0, .int 0, .int 0, .int 0, .ref 82, .ref 83, .ref 84, .int 0, .int 0, .ref 85, .ref 86, .int 0, .ref 87, .ref 88, .null, .int 0]))
def ch_190 (L : Nat) (xs : Nat → Int32) : mq_H := mq_add (ch_189 L xs) (.inl (false, 60, fun _ => 0)) 60
def ch_191 (L : Nat) (xs : Nat → Int32) : mq_H := mq_put (ch_190 L xs) 58 (.inr (12, [.ref 59, .ref 60, .ref 61, .ref 62, .int 0, .int 0, .int 0, .int 0, .int 0, .int 0, .int 0, .int 0, .int 0, .int 0, .ref 63, .ref 64, .ref 65, .ref 66, .ref 67, .ref 68, .ref 69, .ref 70, .ref 71, .ref 72, .ref 73, .ref 74, .ref 75, .int 0, .ref 76, .ref 77, .ref 78, .ref 79, .ref 80, .ref 81, .int 0, .int 0, .int 0, .int 0, .ref 82, .ref 83, .ref 84, .int 0, .int 0, .ref 85, .ref 86, .int 0, .ref 87, .ref 88, .ref 89, .int 0]))
def ch_192 (L : Nat) (xs : Nat → Int32) : mq_H := mq_put (ch_191 L xs) 59 (.inl (false, 66, cf_59_1))
def ch_193 (L : Nat) (xs : Nat → Int32) : mq_H := mq_put (ch_192 L xs) 59 (.inl (false, 66, cf_59_2))
def ch_194 (L : Nat) (xs : Nat → Int32) : mq_H := mq_put (ch_193 L xs) 59 (.inl (false, 66, cf_59_3))
def ch_195 (L : Nat) (xs : Nat → Int32) : mq_H := mq_put (ch_194 L xs) 59 (.inl (false, 66, cf_59_4))
def ch_196 (L : Nat) (xs : Nat → Int32) : mq_H := mq_put (ch_195 L xs) 59 (.inl (false, 66, cf_59_5))
def ch_197 (L : Nat) (xs : Nat → Int32) : mq_H := mq_put (ch_196 L xs) 59 (.inl (false, 66, cf_59_6))
def ch_198 (L : Nat) (xs : Nat → Int32) : mq_H := mq_put (ch_197 L xs) 59 (.inl (false, 66, cf_59_7))
def ch_199 (L : Nat) (xs : Nat → Int32) : mq_H := mq_put (ch_198 L xs) 59 (.inl (false, 66, cf_59_8))
def ch_200 (L : Nat) (xs : Nat → Int32) : mq_H := mq_put (ch_199 L xs) 59 (.inl (false, 66, cf_59_9))
def ch_201 (L : Nat) (xs : Nat → Int32) : mq_H := mq_put (ch_200 L xs) 59 (.inl (false, 66, cf_59_10))
def ch_202 (L : Nat) (xs : Nat → Int32) : mq_H := mq_put (ch_201 L xs) 59 (.inl (false, 66, cf_59_11))
def ch_203 (L : Nat) (xs : Nat → Int32) : mq_H := mq_put (ch_202 L xs) 59 (.inl (false, 66, cf_59_12))
def ch_204 (L : Nat) (xs : Nat → Int32) : mq_H := mq_put (ch_203 L xs) 59 (.inl (false, 66, cf_59_13))
def ch_205 (L : Nat) (xs : Nat → Int32) : mq_H := mq_put (ch_204 L xs) 59 (.inl (false, 66, cf_59_14))
def ch_206 (L : Nat) (xs : Nat → Int32) : mq_H := mq_put (ch_205 L xs) 59 (.inl (false, 66, cf_59_15))
def ch_207 (L : Nat) (xs : Nat → Int32) : mq_H := mq_put (ch_206 L xs) 59 (.inl (false, 66, cf_59_16))
def ch_208 (L : Nat) (xs : Nat → Int32) : mq_H := mq_put (ch_207 L xs) 59 (.inl (false, 66, cf_59_17))
set_option maxRecDepth 20000 in
theorem ct_0 (L : Nat) (xs : Nat → Int32) : mq_Tm 58 78 0 (mq_ent 1 [.ref 1]) [] (ch_2 L xs) none (ch_5 L xs) := by
  show mq_Tm 58 78 0 [.ref 1] [] (ch_2 L xs) none (ch_5 L xs)
  refine mq_Tm_go 5 (pc' := 10) (ls' := [.ref 1]) (st' := [.ref 2, .ref 1]) (h1 := ch_3 L xs) rfl ?_
  refine mq_Tm_go 1 (pc' := 13) (ls' := [.ref 1]) (st' := []) (h1 := ch_4 L xs) rfl ?_
  refine mq_Tm_go 3 (pc' := 18) (ls' := [.ref 1]) (st' := []) (h1 := ch_5 L xs) rfl ?_
  exact mq_Tm_ret rfl rfl
set_option maxRecDepth 20000 in
theorem ct_1 (L : Nat) (xs : Nat → Int32) : mq_Tm 58 0 0 (mq_ent 2 [.ref 3, .ref 1]) [] (ch_7 L xs) none (ch_8 L xs) := by
  show mq_Tm 58 0 0 [.ref 3, .ref 1] [] (ch_7 L xs) none (ch_8 L xs)
  refine mq_Tm_go 5 (pc' := 9) (ls' := [.ref 3, .ref 1]) (st' := []) (h1 := ch_8 L xs) rfl ?_
  exact mq_Tm_ret rfl rfl
set_option maxRecDepth 20000 in
theorem ct_2 (L : Nat) (xs : Nat → Int32) : mq_Tm 58 58 0 (mq_ent 1 [.ref 4]) [] (ch_10 L xs) none (ch_10 L xs) := by
  show mq_Tm 58 58 0 [.ref 4] [] (ch_10 L xs) none (ch_10 L xs)
  refine mq_Tm_go 2 (pc' := 4) (ls' := [.ref 4]) (st' := []) (h1 := ch_10 L xs) rfl ?_
  exact mq_Tm_ret rfl rfl
set_option maxRecDepth 20000 in
theorem ct_3 (L : Nat) (xs : Nat → Int32) : mq_Tm 58 64 0 (mq_ent 1 [.ref 5]) [] (ch_12 L xs) none (ch_12 L xs) := by
  show mq_Tm 58 64 0 [.ref 5] [] (ch_12 L xs) none (ch_12 L xs)
  refine mq_Tm_go 2 (pc' := 4) (ls' := [.ref 5]) (st' := []) (h1 := ch_12 L xs) rfl ?_
  exact mq_Tm_ret rfl rfl
set_option maxRecDepth 20000 in
theorem ct_4 (L : Nat) (xs : Nat → Int32) : mq_Tm 58 7 0 (mq_ent 1 [.ref 6]) [] (ch_14 L xs) none (ch_26 L xs) := by
  show mq_Tm 58 7 0 [.ref 6] [] (ch_14 L xs) none (ch_26 L xs)
  refine mq_Tm_go 5 (pc' := 9) (ls' := [.ref 6]) (st' := [.ref 7, .ref 6]) (h1 := ch_15 L xs) rfl ?_
  refine mq_Tm_go 1 (pc' := 12) (ls' := [.ref 6]) (st' := []) (h1 := ch_16 L xs) rfl ?_
  refine mq_Tm_go 3 (pc' := 17) (ls' := [.ref 6]) (st' := [.ref 8, .ref 6]) (h1 := ch_17 L xs) rfl ?_
  refine mq_Tm_go 1 (pc' := 20) (ls' := [.ref 6]) (st' := []) (h1 := ch_18 L xs) rfl ?_
  refine mq_Tm_go 3 (pc' := 26) (ls' := [.ref 6]) (st' := [.ref 9, .ref 6]) (h1 := ch_19 L xs) rfl ?_
  refine mq_Tm_go 1 (pc' := 29) (ls' := [.ref 6]) (st' := []) (h1 := ch_20 L xs) rfl ?_
  refine mq_Tm_go 3 (pc' := 35) (ls' := [.ref 6]) (st' := [.ref 10, .ref 6]) (h1 := ch_21 L xs) rfl ?_
  refine mq_Tm_go 1 (pc' := 38) (ls' := [.ref 6]) (st' := []) (h1 := ch_22 L xs) rfl ?_
  refine mq_Tm_go 3 (pc' := 43) (ls' := [.ref 6]) (st' := [.ref 11, .ref 6]) (h1 := ch_23 L xs) rfl ?_
  refine mq_Tm_go 1 (pc' := 46) (ls' := [.ref 6]) (st' := []) (h1 := ch_24 L xs) rfl ?_
  refine mq_Tm_go 3 (pc' := 51) (ls' := [.ref 6]) (st' := [.ref 12, .ref 6]) (h1 := ch_25 L xs) rfl ?_
  refine mq_Tm_go 1 (pc' := 54) (ls' := [.ref 6]) (st' := []) (h1 := ch_26 L xs) rfl ?_
  exact mq_Tm_ret rfl rfl
set_option maxRecDepth 20000 in
theorem ct_5 (L : Nat) (xs : Nat → Int32) : mq_Tm 58 74 0 (mq_ent 1 [.ref 13]) [] (ch_28 L xs) none (ch_32 L xs) := by
  show mq_Tm 58 74 0 [.ref 13] [] (ch_28 L xs) none (ch_32 L xs)
  refine mq_Tm_go 5 (pc' := 9) (ls' := [.ref 13]) (st' := [.ref 14, .ref 13]) (h1 := ch_29 L xs) rfl ?_
  refine mq_Tm_go 1 (pc' := 12) (ls' := [.ref 13]) (st' := []) (h1 := ch_30 L xs) rfl ?_
  refine mq_Tm_go 3 (pc' := 17) (ls' := [.ref 13]) (st' := [.ref 15, .ref 13]) (h1 := ch_31 L xs) rfl ?_
  refine mq_Tm_go 1 (pc' := 20) (ls' := [.ref 13]) (st' := []) (h1 := ch_32 L xs) rfl ?_
  exact mq_Tm_ret rfl rfl
set_option maxRecDepth 20000 in
theorem ct_6 (L : Nat) (xs : Nat → Int32) : mq_Tm 58 98 0 (mq_ent 1 [.ref 16]) [] (ch_34 L xs) none (ch_45 L xs) := by
  show mq_Tm 58 98 0 [.ref 16] [] (ch_34 L xs) none (ch_45 L xs)
  refine mq_Tm_go 5 (pc' := 9) (ls' := [.ref 16]) (st' := [.ref 17, .ref 16]) (h1 := ch_35 L xs) rfl ?_
  refine mq_Tm_go 1 (pc' := 12) (ls' := [.ref 16]) (st' := []) (h1 := ch_36 L xs) rfl ?_
  refine mq_Tm_go 3 (pc' := 17) (ls' := [.ref 16]) (st' := [.ref 18, .ref 16]) (h1 := ch_37 L xs) rfl ?_
  refine mq_Tm_go 1 (pc' := 20) (ls' := [.ref 16]) (st' := []) (h1 := ch_38 L xs) rfl ?_
  refine mq_Tm_go 3 (pc' := 25) (ls' := [.ref 16]) (st' := [.ref 19, .ref 16]) (h1 := ch_39 L xs) rfl ?_
  refine mq_Tm_go 1 (pc' := 28) (ls' := [.ref 16]) (st' := []) (h1 := ch_40 L xs) rfl ?_
  refine mq_Tm_go 3 (pc' := 33) (ls' := [.ref 16]) (st' := [.ref 20, .ref 16]) (h1 := ch_41 L xs) rfl ?_
  refine mq_Tm_go 1 (pc' := 36) (ls' := [.ref 16]) (st' := []) (h1 := ch_42 L xs) rfl ?_
  refine mq_Tm_go 3 (pc' := 41) (ls' := [.ref 16]) (st' := []) (h1 := ch_43 L xs) rfl ?_
  refine mq_Tm_go 3 (pc' := 47) (ls' := [.ref 16]) (st' := [.int (-2), .ref 19]) (h1 := ch_43 L xs) rfl ?_
  refine mq_Tm_call (m' := 262) (ml := 4) (as := [.ref 19, .int (-2)]) (rest := []) (h1 := ch_44 L xs) (r1 := none) rfl rfl (by decide) (mq_Tm_fill (d := 57) (k := 19) (n := 16) (f := fun _ => 0) (h := ch_43 L xs) rfl (by decide)) ?_
  show mq_Tm 58 98 50 [.ref 16] [] (ch_44 L xs) _ _
  refine mq_Tm_go 3 (pc' := 56) (ls' := [.ref 16]) (st' := [.int (-2), .ref 20]) (h1 := ch_44 L xs) rfl ?_
  refine mq_Tm_call (m' := 262) (ml := 4) (as := [.ref 20, .int (-2)]) (rest := []) (h1 := ch_45 L xs) (r1 := none) rfl rfl (by decide) (mq_Tm_fill (d := 57) (k := 20) (n := 60) (f := fun _ => 0) (h := ch_44 L xs) rfl (by decide)) ?_
  show mq_Tm 58 98 59 [.ref 16] [] (ch_45 L xs) _ _
  exact mq_Tm_ret rfl rfl
set_option maxRecDepth 20000 in
theorem ct_7 (L : Nat) (xs : Nat → Int32) : mq_Tm 58 98 0 (mq_ent 1 [.ref 21]) [] (ch_47 L xs) none (ch_58 L xs) := by
  show mq_Tm 58 98 0 [.ref 21] [] (ch_47 L xs) none (ch_58 L xs)
  refine mq_Tm_go 5 (pc' := 9) (ls' := [.ref 21]) (st' := [.ref 22, .ref 21]) (h1 := ch_48 L xs) rfl ?_
  refine mq_Tm_go 1 (pc' := 12) (ls' := [.ref 21]) (st' := []) (h1 := ch_49 L xs) rfl ?_
  refine mq_Tm_go 3 (pc' := 17) (ls' := [.ref 21]) (st' := [.ref 23, .ref 21]) (h1 := ch_50 L xs) rfl ?_
  refine mq_Tm_go 1 (pc' := 20) (ls' := [.ref 21]) (st' := []) (h1 := ch_51 L xs) rfl ?_
  refine mq_Tm_go 3 (pc' := 25) (ls' := [.ref 21]) (st' := [.ref 24, .ref 21]) (h1 := ch_52 L xs) rfl ?_
  refine mq_Tm_go 1 (pc' := 28) (ls' := [.ref 21]) (st' := []) (h1 := ch_53 L xs) rfl ?_
  refine mq_Tm_go 3 (pc' := 33) (ls' := [.ref 21]) (st' := [.ref 25, .ref 21]) (h1 := ch_54 L xs) rfl ?_
  refine mq_Tm_go 1 (pc' := 36) (ls' := [.ref 21]) (st' := []) (h1 := ch_55 L xs) rfl ?_
  refine mq_Tm_go 3 (pc' := 41) (ls' := [.ref 21]) (st' := []) (h1 := ch_56 L xs) rfl ?_
  refine mq_Tm_go 3 (pc' := 47) (ls' := [.ref 21]) (st' := [.int (-2), .ref 24]) (h1 := ch_56 L xs) rfl ?_
  refine mq_Tm_call (m' := 262) (ml := 4) (as := [.ref 24, .int (-2)]) (rest := []) (h1 := ch_57 L xs) (r1 := none) rfl rfl (by decide) (mq_Tm_fill (d := 57) (k := 24) (n := 16) (f := fun _ => 0) (h := ch_56 L xs) rfl (by decide)) ?_
  show mq_Tm 58 98 50 [.ref 21] [] (ch_57 L xs) _ _
  refine mq_Tm_go 3 (pc' := 56) (ls' := [.ref 21]) (st' := [.int (-2), .ref 25]) (h1 := ch_57 L xs) rfl ?_
  refine mq_Tm_call (m' := 262) (ml := 4) (as := [.ref 25, .int (-2)]) (rest := []) (h1 := ch_58 L xs) (r1 := none) rfl rfl (by decide) (mq_Tm_fill (d := 57) (k := 25) (n := 60) (f := fun _ => 0) (h := ch_57 L xs) rfl (by decide)) ?_
  show mq_Tm 58 98 59 [.ref 21] [] (ch_58 L xs) _ _
  exact mq_Tm_ret rfl rfl
set_option maxRecDepth 20000 in
theorem ct_8 (L : Nat) (xs : Nat → Int32) : mq_Tm 58 98 0 (mq_ent 1 [.ref 26]) [] (ch_60 L xs) none (ch_71 L xs) := by
  show mq_Tm 58 98 0 [.ref 26] [] (ch_60 L xs) none (ch_71 L xs)
  refine mq_Tm_go 5 (pc' := 9) (ls' := [.ref 26]) (st' := [.ref 27, .ref 26]) (h1 := ch_61 L xs) rfl ?_
  refine mq_Tm_go 1 (pc' := 12) (ls' := [.ref 26]) (st' := []) (h1 := ch_62 L xs) rfl ?_
  refine mq_Tm_go 3 (pc' := 17) (ls' := [.ref 26]) (st' := [.ref 28, .ref 26]) (h1 := ch_63 L xs) rfl ?_
  refine mq_Tm_go 1 (pc' := 20) (ls' := [.ref 26]) (st' := []) (h1 := ch_64 L xs) rfl ?_
  refine mq_Tm_go 3 (pc' := 25) (ls' := [.ref 26]) (st' := [.ref 29, .ref 26]) (h1 := ch_65 L xs) rfl ?_
  refine mq_Tm_go 1 (pc' := 28) (ls' := [.ref 26]) (st' := []) (h1 := ch_66 L xs) rfl ?_
  refine mq_Tm_go 3 (pc' := 33) (ls' := [.ref 26]) (st' := [.ref 30, .ref 26]) (h1 := ch_67 L xs) rfl ?_
  refine mq_Tm_go 1 (pc' := 36) (ls' := [.ref 26]) (st' := []) (h1 := ch_68 L xs) rfl ?_
  refine mq_Tm_go 3 (pc' := 41) (ls' := [.ref 26]) (st' := []) (h1 := ch_69 L xs) rfl ?_
  refine mq_Tm_go 3 (pc' := 47) (ls' := [.ref 26]) (st' := [.int (-2), .ref 29]) (h1 := ch_69 L xs) rfl ?_
  refine mq_Tm_call (m' := 262) (ml := 4) (as := [.ref 29, .int (-2)]) (rest := []) (h1 := ch_70 L xs) (r1 := none) rfl rfl (by decide) (mq_Tm_fill (d := 57) (k := 29) (n := 16) (f := fun _ => 0) (h := ch_69 L xs) rfl (by decide)) ?_
  show mq_Tm 58 98 50 [.ref 26] [] (ch_70 L xs) _ _
  refine mq_Tm_go 3 (pc' := 56) (ls' := [.ref 26]) (st' := [.int (-2), .ref 30]) (h1 := ch_70 L xs) rfl ?_
  refine mq_Tm_call (m' := 262) (ml := 4) (as := [.ref 30, .int (-2)]) (rest := []) (h1 := ch_71 L xs) (r1 := none) rfl rfl (by decide) (mq_Tm_fill (d := 57) (k := 30) (n := 60) (f := fun _ => 0) (h := ch_70 L xs) rfl (by decide)) ?_
  show mq_Tm 58 98 59 [.ref 26] [] (ch_71 L xs) _ _
  exact mq_Tm_ret rfl rfl
set_option maxRecDepth 20000 in
theorem ct_9 (L : Nat) (xs : Nat → Int32) : mq_Tm 58 34 0 (mq_ent 1 [.ref 31]) [] (ch_73 L xs) none (ch_89 L xs) := by
  show mq_Tm 58 34 0 [.ref 31] [] (ch_73 L xs) none (ch_89 L xs)
  refine mq_Tm_go 5 (pc' := 10) (ls' := [.ref 31]) (st' := [.ref 32, .ref 31]) (h1 := ch_74 L xs) rfl ?_
  refine mq_Tm_go 1 (pc' := 13) (ls' := [.ref 31]) (st' := []) (h1 := ch_75 L xs) rfl ?_
  refine mq_Tm_go 3 (pc' := 19) (ls' := [.ref 31]) (st' := [.ref 33, .ref 31]) (h1 := ch_76 L xs) rfl ?_
  refine mq_Tm_go 1 (pc' := 22) (ls' := [.ref 31]) (st' := []) (h1 := ch_77 L xs) rfl ?_
  refine mq_Tm_go 3 (pc' := 27) (ls' := [.ref 31]) (st' := [.ref 34, .ref 31]) (h1 := ch_78 L xs) rfl ?_
  refine mq_Tm_go 1 (pc' := 30) (ls' := [.ref 31]) (st' := []) (h1 := ch_79 L xs) rfl ?_
  refine mq_Tm_go 3 (pc' := 35) (ls' := [.ref 31]) (st' := [.ref 35, .ref 31]) (h1 := ch_80 L xs) rfl ?_
  refine mq_Tm_go 1 (pc' := 38) (ls' := [.ref 31]) (st' := []) (h1 := ch_81 L xs) rfl ?_
  refine mq_Tm_go 3 (pc' := 43) (ls' := [.ref 31]) (st' := [.ref 36, .ref 31]) (h1 := ch_82 L xs) rfl ?_
  refine mq_Tm_go 1 (pc' := 46) (ls' := [.ref 31]) (st' := []) (h1 := ch_83 L xs) rfl ?_
  refine mq_Tm_go 3 (pc' := 51) (ls' := [.ref 31]) (st' := [.ref 37, .ref 31]) (h1 := ch_84 L xs) rfl ?_
  refine mq_Tm_go 1 (pc' := 54) (ls' := [.ref 31]) (st' := []) (h1 := ch_85 L xs) rfl ?_
  refine mq_Tm_go 3 (pc' := 59) (ls' := [.ref 31]) (st' := [.ref 38, .ref 31]) (h1 := ch_86 L xs) rfl ?_
  refine mq_Tm_go 1 (pc' := 62) (ls' := [.ref 31]) (st' := []) (h1 := ch_87 L xs) rfl ?_
  refine mq_Tm_go 3 (pc' := 67) (ls' := [.ref 31]) (st' := [.ref 39, .ref 31]) (h1 := ch_88 L xs) rfl ?_
  refine mq_Tm_go 1 (pc' := 70) (ls' := [.ref 31]) (st' := []) (h1 := ch_89 L xs) rfl ?_
  exact mq_Tm_ret rfl rfl
set_option maxRecDepth 20000 in
theorem ct_10 (L : Nat) (xs : Nat → Int32) : mq_Tm 58 34 0 (mq_ent 1 [.ref 40]) [] (ch_91 L xs) none (ch_107 L xs) := by
  show mq_Tm 58 34 0 [.ref 40] [] (ch_91 L xs) none (ch_107 L xs)
  refine mq_Tm_go 5 (pc' := 10) (ls' := [.ref 40]) (st' := [.ref 41, .ref 40]) (h1 := ch_92 L xs) rfl ?_
  refine mq_Tm_go 1 (pc' := 13) (ls' := [.ref 40]) (st' := []) (h1 := ch_93 L xs) rfl ?_
  refine mq_Tm_go 3 (pc' := 19) (ls' := [.ref 40]) (st' := [.ref 42, .ref 40]) (h1 := ch_94 L xs) rfl ?_
  refine mq_Tm_go 1 (pc' := 22) (ls' := [.ref 40]) (st' := []) (h1 := ch_95 L xs) rfl ?_
  refine mq_Tm_go 3 (pc' := 27) (ls' := [.ref 40]) (st' := [.ref 43, .ref 40]) (h1 := ch_96 L xs) rfl ?_
  refine mq_Tm_go 1 (pc' := 30) (ls' := [.ref 40]) (st' := []) (h1 := ch_97 L xs) rfl ?_
  refine mq_Tm_go 3 (pc' := 35) (ls' := [.ref 40]) (st' := [.ref 44, .ref 40]) (h1 := ch_98 L xs) rfl ?_
  refine mq_Tm_go 1 (pc' := 38) (ls' := [.ref 40]) (st' := []) (h1 := ch_99 L xs) rfl ?_
  refine mq_Tm_go 3 (pc' := 43) (ls' := [.ref 40]) (st' := [.ref 45, .ref 40]) (h1 := ch_100 L xs) rfl ?_
  refine mq_Tm_go 1 (pc' := 46) (ls' := [.ref 40]) (st' := []) (h1 := ch_101 L xs) rfl ?_
  refine mq_Tm_go 3 (pc' := 51) (ls' := [.ref 40]) (st' := [.ref 46, .ref 40]) (h1 := ch_102 L xs) rfl ?_
  refine mq_Tm_go 1 (pc' := 54) (ls' := [.ref 40]) (st' := []) (h1 := ch_103 L xs) rfl ?_
  refine mq_Tm_go 3 (pc' := 59) (ls' := [.ref 40]) (st' := [.ref 47, .ref 40]) (h1 := ch_104 L xs) rfl ?_
  refine mq_Tm_go 1 (pc' := 62) (ls' := [.ref 40]) (st' := []) (h1 := ch_105 L xs) rfl ?_
  refine mq_Tm_go 3 (pc' := 67) (ls' := [.ref 40]) (st' := [.ref 48, .ref 40]) (h1 := ch_106 L xs) rfl ?_
  refine mq_Tm_go 1 (pc' := 70) (ls' := [.ref 40]) (st' := []) (h1 := ch_107 L xs) rfl ?_
  exact mq_Tm_ret rfl rfl
set_option maxRecDepth 20000 in
theorem ct_11 (L : Nat) (xs : Nat → Int32) : mq_Tm 58 45 0 (mq_ent 3 [.ref 49, .ref 1, .ref 40]) [] (ch_109 L xs) none (ch_111 L xs) := by
  show mq_Tm 58 45 0 [.ref 49, .ref 1, .ref 40] [] (ch_109 L xs) none (ch_111 L xs)
  refine mq_Tm_go 5 (pc' := 9) (ls' := [.ref 49, .ref 1, .ref 40]) (st' := []) (h1 := ch_110 L xs) rfl ?_
  refine mq_Tm_go 3 (pc' := 14) (ls' := [.ref 49, .ref 1, .ref 40]) (st' := []) (h1 := ch_111 L xs) rfl ?_
  exact mq_Tm_ret rfl rfl
set_option maxRecDepth 20000 in
theorem ct_12 (L : Nat) (xs : Nat → Int32) : mq_Tm 58 90 0 (mq_ent 1 [.ref 50]) [] (ch_113 L xs) none (ch_119 L xs) := by
  show mq_Tm 58 90 0 [.ref 50] [] (ch_113 L xs) none (ch_119 L xs)
  refine mq_Tm_go 5 (pc' := 9) (ls' := [.ref 50]) (st' := [.ref 51, .ref 50]) (h1 := ch_114 L xs) rfl ?_
  refine mq_Tm_go 1 (pc' := 12) (ls' := [.ref 50]) (st' := []) (h1 := ch_115 L xs) rfl ?_
  refine mq_Tm_go 3 (pc' := 17) (ls' := [.ref 50]) (st' := [.ref 52, .ref 50]) (h1 := ch_116 L xs) rfl ?_
  refine mq_Tm_go 1 (pc' := 20) (ls' := [.ref 50]) (st' := []) (h1 := ch_117 L xs) rfl ?_
  refine mq_Tm_go 3 (pc' := 25) (ls' := [.ref 50]) (st' := [.ref 53, .ref 50]) (h1 := ch_118 L xs) rfl ?_
  refine mq_Tm_go 1 (pc' := 28) (ls' := [.ref 50]) (st' := []) (h1 := ch_119 L xs) rfl ?_
  exact mq_Tm_ret rfl rfl
set_option maxRecDepth 20000 in
theorem ct_13 (L : Nat) (xs : Nat → Int32) : mq_Tm 58 90 0 (mq_ent 1 [.ref 54]) [] (ch_121 L xs) none (ch_127 L xs) := by
  show mq_Tm 58 90 0 [.ref 54] [] (ch_121 L xs) none (ch_127 L xs)
  refine mq_Tm_go 5 (pc' := 9) (ls' := [.ref 54]) (st' := [.ref 55, .ref 54]) (h1 := ch_122 L xs) rfl ?_
  refine mq_Tm_go 1 (pc' := 12) (ls' := [.ref 54]) (st' := []) (h1 := ch_123 L xs) rfl ?_
  refine mq_Tm_go 3 (pc' := 17) (ls' := [.ref 54]) (st' := [.ref 56, .ref 54]) (h1 := ch_124 L xs) rfl ?_
  refine mq_Tm_go 1 (pc' := 20) (ls' := [.ref 54]) (st' := []) (h1 := ch_125 L xs) rfl ?_
  refine mq_Tm_go 3 (pc' := 25) (ls' := [.ref 54]) (st' := [.ref 57, .ref 54]) (h1 := ch_126 L xs) rfl ?_
  refine mq_Tm_go 1 (pc' := 28) (ls' := [.ref 54]) (st' := []) (h1 := ch_127 L xs) rfl ?_
  exact mq_Tm_ret rfl rfl
set_option maxRecDepth 20000 in
theorem ct_14 (L : Nat) (xs : Nat → Int32) : mq_Tm 59 121 0 (mq_ent 1 [.ref 0]) [] (ch_1 L xs) none (ch_128 L xs) := by
  show mq_Tm 59 121 0 [.ref 0] [] (ch_1 L xs) none (ch_128 L xs)
  refine mq_Tm_go 4 (pc' := 8) (ls' := [.ref 0]) (st' := [.ref 1, .ref 0]) (h1 := ch_2 L xs) rfl ?_
  refine mq_Tm_go 1 (pc' := 9) (ls' := [.ref 0]) (st' := [.ref 1, .ref 1, .ref 0]) (h1 := ch_2 L xs) rfl ?_
  refine mq_Tm_call (m' := 78) (ml := 1) (as := [.ref 1]) (rest := [.ref 1, .ref 0]) (h1 := ch_5 L xs) (r1 := none) rfl rfl (by decide) (ct_0 L xs) ?_
  show mq_Tm 59 121 12 [.ref 0] [.ref 1, .ref 0] (ch_5 L xs) _ _
  refine mq_Tm_go 1 (pc' := 15) (ls' := [.ref 0]) (st' := []) (h1 := ch_6 L xs) rfl ?_
  refine mq_Tm_go 2 (pc' := 19) (ls' := [.ref 0]) (st' := [.ref 3, .ref 0]) (h1 := ch_7 L xs) rfl ?_
  refine mq_Tm_go 3 (pc' := 24) (ls' := [.ref 0]) (st' := [.ref 1, .ref 3, .ref 3, .ref 0]) (h1 := ch_7 L xs) rfl ?_
  refine mq_Tm_call (m' := 0) (ml := 2) (as := [.ref 3, .ref 1]) (rest := [.ref 3, .ref 0]) (h1 := ch_8 L xs) (r1 := none) rfl rfl (by decide) (ct_1 L xs) ?_
  show mq_Tm 59 121 27 [.ref 0] [.ref 3, .ref 0] (ch_8 L xs) _ _
  refine mq_Tm_go 1 (pc' := 30) (ls' := [.ref 0]) (st' := []) (h1 := ch_9 L xs) rfl ?_
  refine mq_Tm_go 2 (pc' := 34) (ls' := [.ref 0]) (st' := [.ref 4, .ref 0]) (h1 := ch_10 L xs) rfl ?_
  refine mq_Tm_go 1 (pc' := 35) (ls' := [.ref 0]) (st' := [.ref 4, .ref 4, .ref 0]) (h1 := ch_10 L xs) rfl ?_
  refine mq_Tm_call (m' := 58) (ml := 1) (as := [.ref 4]) (rest := [.ref 4, .ref 0]) (h1 := ch_10 L xs) (r1 := none) rfl rfl (by decide) (ct_2 L xs) ?_
  show mq_Tm 59 121 38 [.ref 0] [.ref 4, .ref 0] (ch_10 L xs) _ _
  refine mq_Tm_go 1 (pc' := 41) (ls' := [.ref 0]) (st' := []) (h1 := ch_11 L xs) rfl ?_
  refine mq_Tm_go 2 (pc' := 45) (ls' := [.ref 0]) (st' := [.ref 5, .ref 0]) (h1 := ch_12 L xs) rfl ?_
  refine mq_Tm_go 1 (pc' := 46) (ls' := [.ref 0]) (st' := [.ref 5, .ref 5, .ref 0]) (h1 := ch_12 L xs) rfl ?_
  refine mq_Tm_call (m' := 64) (ml := 1) (as := [.ref 5]) (rest := [.ref 5, .ref 0]) (h1 := ch_12 L xs) (r1 := none) rfl rfl (by decide) (ct_3 L xs) ?_
  show mq_Tm 59 121 49 [.ref 0] [.ref 5, .ref 0] (ch_12 L xs) _ _
  refine mq_Tm_go 1 (pc' := 52) (ls' := [.ref 0]) (st' := []) (h1 := ch_13 L xs) rfl ?_
  refine mq_Tm_go 2 (pc' := 56) (ls' := [.ref 0]) (st' := [.ref 6, .ref 0]) (h1 := ch_14 L xs) rfl ?_
  refine mq_Tm_go 1 (pc' := 57) (ls' := [.ref 0]) (st' := [.ref 6, .ref 6, .ref 0]) (h1 := ch_14 L xs) rfl ?_
  refine mq_Tm_call (m' := 7) (ml := 1) (as := [.ref 6]) (rest := [.ref 6, .ref 0]) (h1 := ch_26 L xs) (r1 := none) rfl rfl (by decide) (ct_4 L xs) ?_
  show mq_Tm 59 121 60 [.ref 0] [.ref 6, .ref 0] (ch_26 L xs) _ _
  refine mq_Tm_go 1 (pc' := 63) (ls' := [.ref 0]) (st' := []) (h1 := ch_27 L xs) rfl ?_
  refine mq_Tm_go 2 (pc' := 67) (ls' := [.ref 0]) (st' := [.ref 13, .ref 0]) (h1 := ch_28 L xs) rfl ?_
  refine mq_Tm_go 1 (pc' := 68) (ls' := [.ref 0]) (st' := [.ref 13, .ref 13, .ref 0]) (h1 := ch_28 L xs) rfl ?_
  refine mq_Tm_call (m' := 74) (ml := 1) (as := [.ref 13]) (rest := [.ref 13, .ref 0]) (h1 := ch_32 L xs) (r1 := none) rfl rfl (by decide) (ct_5 L xs) ?_
  show mq_Tm 59 121 71 [.ref 0] [.ref 13, .ref 0] (ch_32 L xs) _ _
  refine mq_Tm_go 1 (pc' := 74) (ls' := [.ref 0]) (st' := []) (h1 := ch_33 L xs) rfl ?_
  refine mq_Tm_go 2 (pc' := 78) (ls' := [.ref 0]) (st' := [.ref 16, .ref 0]) (h1 := ch_34 L xs) rfl ?_
  refine mq_Tm_go 1 (pc' := 79) (ls' := [.ref 0]) (st' := [.ref 16, .ref 16, .ref 0]) (h1 := ch_34 L xs) rfl ?_
  refine mq_Tm_call (m' := 98) (ml := 1) (as := [.ref 16]) (rest := [.ref 16, .ref 0]) (h1 := ch_45 L xs) (r1 := none) rfl rfl (by decide) (ct_6 L xs) ?_
  show mq_Tm 59 121 82 [.ref 0] [.ref 16, .ref 0] (ch_45 L xs) _ _
  refine mq_Tm_go 1 (pc' := 85) (ls' := [.ref 0]) (st' := []) (h1 := ch_46 L xs) rfl ?_
  refine mq_Tm_go 2 (pc' := 89) (ls' := [.ref 0]) (st' := [.ref 21, .ref 0]) (h1 := ch_47 L xs) rfl ?_
  refine mq_Tm_go 1 (pc' := 90) (ls' := [.ref 0]) (st' := [.ref 21, .ref 21, .ref 0]) (h1 := ch_47 L xs) rfl ?_
  refine mq_Tm_call (m' := 98) (ml := 1) (as := [.ref 21]) (rest := [.ref 21, .ref 0]) (h1 := ch_58 L xs) (r1 := none) rfl rfl (by decide) (ct_7 L xs) ?_
  show mq_Tm 59 121 93 [.ref 0] [.ref 21, .ref 0] (ch_58 L xs) _ _
  refine mq_Tm_go 1 (pc' := 96) (ls' := [.ref 0]) (st' := []) (h1 := ch_59 L xs) rfl ?_
  refine mq_Tm_go 2 (pc' := 100) (ls' := [.ref 0]) (st' := [.ref 26, .ref 0]) (h1 := ch_60 L xs) rfl ?_
  refine mq_Tm_go 1 (pc' := 101) (ls' := [.ref 0]) (st' := [.ref 26, .ref 26, .ref 0]) (h1 := ch_60 L xs) rfl ?_
  refine mq_Tm_call (m' := 98) (ml := 1) (as := [.ref 26]) (rest := [.ref 26, .ref 0]) (h1 := ch_71 L xs) (r1 := none) rfl rfl (by decide) (ct_8 L xs) ?_
  show mq_Tm 59 121 104 [.ref 0] [.ref 26, .ref 0] (ch_71 L xs) _ _
  refine mq_Tm_go 1 (pc' := 107) (ls' := [.ref 0]) (st' := []) (h1 := ch_72 L xs) rfl ?_
  refine mq_Tm_go 2 (pc' := 111) (ls' := [.ref 0]) (st' := [.ref 31, .ref 0]) (h1 := ch_73 L xs) rfl ?_
  refine mq_Tm_go 1 (pc' := 112) (ls' := [.ref 0]) (st' := [.ref 31, .ref 31, .ref 0]) (h1 := ch_73 L xs) rfl ?_
  refine mq_Tm_call (m' := 34) (ml := 1) (as := [.ref 31]) (rest := [.ref 31, .ref 0]) (h1 := ch_89 L xs) (r1 := none) rfl rfl (by decide) (ct_9 L xs) ?_
  show mq_Tm 59 121 115 [.ref 0] [.ref 31, .ref 0] (ch_89 L xs) _ _
  refine mq_Tm_go 1 (pc' := 118) (ls' := [.ref 0]) (st' := []) (h1 := ch_90 L xs) rfl ?_
  refine mq_Tm_go 2 (pc' := 122) (ls' := [.ref 0]) (st' := [.ref 40, .ref 0]) (h1 := ch_91 L xs) rfl ?_
  refine mq_Tm_go 1 (pc' := 123) (ls' := [.ref 0]) (st' := [.ref 40, .ref 40, .ref 0]) (h1 := ch_91 L xs) rfl ?_
  refine mq_Tm_call (m' := 34) (ml := 1) (as := [.ref 40]) (rest := [.ref 40, .ref 0]) (h1 := ch_107 L xs) (r1 := none) rfl rfl (by decide) (ct_10 L xs) ?_
  show mq_Tm 59 121 126 [.ref 0] [.ref 40, .ref 0] (ch_107 L xs) _ _
  refine mq_Tm_go 1 (pc' := 129) (ls' := [.ref 0]) (st' := []) (h1 := ch_108 L xs) rfl ?_
  refine mq_Tm_go 2 (pc' := 133) (ls' := [.ref 0]) (st' := [.ref 49, .ref 0]) (h1 := ch_109 L xs) rfl ?_
  refine mq_Tm_go 5 (pc' := 142) (ls' := [.ref 0]) (st' := [.ref 40, .ref 1, .ref 49, .ref 49, .ref 0]) (h1 := ch_109 L xs) rfl ?_
  refine mq_Tm_call (m' := 45) (ml := 3) (as := [.ref 49, .ref 1, .ref 40]) (rest := [.ref 49, .ref 0]) (h1 := ch_111 L xs) (r1 := none) rfl rfl (by decide) (ct_11 L xs) ?_
  show mq_Tm 59 121 145 [.ref 0] [.ref 49, .ref 0] (ch_111 L xs) _ _
  refine mq_Tm_go 1 (pc' := 148) (ls' := [.ref 0]) (st' := []) (h1 := ch_112 L xs) rfl ?_
  refine mq_Tm_go 2 (pc' := 152) (ls' := [.ref 0]) (st' := [.ref 50, .ref 0]) (h1 := ch_113 L xs) rfl ?_
  refine mq_Tm_go 1 (pc' := 153) (ls' := [.ref 0]) (st' := [.ref 50, .ref 50, .ref 0]) (h1 := ch_113 L xs) rfl ?_
  refine mq_Tm_call (m' := 90) (ml := 1) (as := [.ref 50]) (rest := [.ref 50, .ref 0]) (h1 := ch_119 L xs) (r1 := none) rfl rfl (by decide) (ct_12 L xs) ?_
  show mq_Tm 59 121 156 [.ref 0] [.ref 50, .ref 0] (ch_119 L xs) _ _
  refine mq_Tm_go 1 (pc' := 159) (ls' := [.ref 0]) (st' := []) (h1 := ch_120 L xs) rfl ?_
  refine mq_Tm_go 2 (pc' := 163) (ls' := [.ref 0]) (st' := [.ref 54, .ref 0]) (h1 := ch_121 L xs) rfl ?_
  refine mq_Tm_go 1 (pc' := 164) (ls' := [.ref 0]) (st' := [.ref 54, .ref 54, .ref 0]) (h1 := ch_121 L xs) rfl ?_
  refine mq_Tm_call (m' := 90) (ml := 1) (as := [.ref 54]) (rest := [.ref 54, .ref 0]) (h1 := ch_127 L xs) (r1 := none) rfl rfl (by decide) (ct_13 L xs) ?_
  show mq_Tm 59 121 167 [.ref 0] [.ref 54, .ref 0] (ch_127 L xs) _ _
  refine mq_Tm_go 1 (pc' := 170) (ls' := [.ref 0]) (st' := []) (h1 := ch_128 L xs) rfl ?_
  exact mq_Tm_ret rfl rfl
set_option maxRecDepth 20000 in
theorem ct_15 (L : Nat) (xs : Nat → Int32) : mq_Tm 59 156 0 (mq_ent 2 [.ref 58]) [] (ch_129 L xs) none (ch_208 L xs) := by
  show mq_Tm 59 156 0 [.ref 58, mq_un] [] (ch_129 L xs) none (ch_208 L xs)
  refine mq_Tm_go 5 (pc' := 9) (ls' := [.ref 58, mq_un]) (st' := [.ref 59, .ref 58]) (h1 := ch_130 L xs) rfl ?_
  refine mq_Tm_go 1 (pc' := 12) (ls' := [.ref 58, mq_un]) (st' := []) (h1 := ch_131 L xs) rfl ?_
  refine mq_Tm_go 3 (pc' := 17) (ls' := [.ref 58, mq_un]) (st' := [.ref 60, .ref 58]) (h1 := ch_132 L xs) rfl ?_
  refine mq_Tm_go 1 (pc' := 20) (ls' := [.ref 58, mq_un]) (st' := []) (h1 := ch_133 L xs) rfl ?_
  refine mq_Tm_go 3 (pc' := 25) (ls' := [.ref 58, mq_un]) (st' := [.ref 61, .ref 58]) (h1 := ch_134 L xs) rfl ?_
  refine mq_Tm_go 1 (pc' := 28) (ls' := [.ref 58, mq_un]) (st' := []) (h1 := ch_135 L xs) rfl ?_
  refine mq_Tm_go 3 (pc' := 34) (ls' := [.ref 58, mq_un]) (st' := [.ref 62, .ref 58]) (h1 := ch_136 L xs) rfl ?_
  refine mq_Tm_go 1 (pc' := 37) (ls' := [.ref 58, mq_un]) (st' := []) (h1 := ch_137 L xs) rfl ?_
  refine mq_Tm_go 3 (pc' := 43) (ls' := [.ref 58, mq_un]) (st' := [.ref 63, .ref 58]) (h1 := ch_138 L xs) rfl ?_
  refine mq_Tm_go 1 (pc' := 46) (ls' := [.ref 58, mq_un]) (st' := []) (h1 := ch_139 L xs) rfl ?_
  refine mq_Tm_go 3 (pc' := 52) (ls' := [.ref 58, mq_un]) (st' := [.ref 64, .ref 58]) (h1 := ch_140 L xs) rfl ?_
  refine mq_Tm_go 1 (pc' := 55) (ls' := [.ref 58, mq_un]) (st' := []) (h1 := ch_141 L xs) rfl ?_
  refine mq_Tm_go 3 (pc' := 60) (ls' := [.ref 58, mq_un]) (st' := [.ref 65, .ref 58]) (h1 := ch_142 L xs) rfl ?_
  refine mq_Tm_go 1 (pc' := 63) (ls' := [.ref 58, mq_un]) (st' := []) (h1 := ch_143 L xs) rfl ?_
  refine mq_Tm_go 3 (pc' := 68) (ls' := [.ref 58, mq_un]) (st' := [.ref 66, .ref 58]) (h1 := ch_144 L xs) rfl ?_
  refine mq_Tm_go 1 (pc' := 71) (ls' := [.ref 58, mq_un]) (st' := []) (h1 := ch_145 L xs) rfl ?_
  refine mq_Tm_go 3 (pc' := 76) (ls' := [.ref 58, mq_un]) (st' := [.ref 67, .ref 58]) (h1 := ch_146 L xs) rfl ?_
  refine mq_Tm_go 1 (pc' := 79) (ls' := [.ref 58, mq_un]) (st' := []) (h1 := ch_147 L xs) rfl ?_
  refine mq_Tm_go 3 (pc' := 84) (ls' := [.ref 58, mq_un]) (st' := [.ref 68, .ref 58]) (h1 := ch_148 L xs) rfl ?_
  refine mq_Tm_go 1 (pc' := 87) (ls' := [.ref 58, mq_un]) (st' := []) (h1 := ch_149 L xs) rfl ?_
  refine mq_Tm_go 3 (pc' := 93) (ls' := [.ref 58, mq_un]) (st' := [.ref 69, .ref 58]) (h1 := ch_150 L xs) rfl ?_
  refine mq_Tm_go 1 (pc' := 96) (ls' := [.ref 58, mq_un]) (st' := []) (h1 := ch_151 L xs) rfl ?_
  refine mq_Tm_go 3 (pc' := 101) (ls' := [.ref 58, mq_un]) (st' := [.ref 70, .ref 58]) (h1 := ch_152 L xs) rfl ?_
  refine mq_Tm_go 1 (pc' := 104) (ls' := [.ref 58, mq_un]) (st' := []) (h1 := ch_153 L xs) rfl ?_
  refine mq_Tm_go 3 (pc' := 109) (ls' := [.ref 58, mq_un]) (st' := [.ref 71, .ref 58]) (h1 := ch_154 L xs) rfl ?_
  refine mq_Tm_go 1 (pc' := 112) (ls' := [.ref 58, mq_un]) (st' := []) (h1 := ch_155 L xs) rfl ?_
  refine mq_Tm_go 3 (pc' := 117) (ls' := [.ref 58, mq_un]) (st' := [.ref 72, .ref 58]) (h1 := ch_156 L xs) rfl ?_
  refine mq_Tm_go 1 (pc' := 120) (ls' := [.ref 58, mq_un]) (st' := []) (h1 := ch_157 L xs) rfl ?_
  refine mq_Tm_go 3 (pc' := 125) (ls' := [.ref 58, mq_un]) (st' := [.ref 73, .ref 58]) (h1 := ch_158 L xs) rfl ?_
  refine mq_Tm_go 1 (pc' := 128) (ls' := [.ref 58, mq_un]) (st' := []) (h1 := ch_159 L xs) rfl ?_
  refine mq_Tm_go 3 (pc' := 134) (ls' := [.ref 58, mq_un]) (st' := [.ref 74, .ref 58]) (h1 := ch_160 L xs) rfl ?_
  refine mq_Tm_go 1 (pc' := 137) (ls' := [.ref 58, mq_un]) (st' := []) (h1 := ch_161 L xs) rfl ?_
  refine mq_Tm_go 3 (pc' := 142) (ls' := [.ref 58, mq_un]) (st' := [.ref 75, .ref 58]) (h1 := ch_162 L xs) rfl ?_
  refine mq_Tm_go 1 (pc' := 145) (ls' := [.ref 58, mq_un]) (st' := []) (h1 := ch_163 L xs) rfl ?_
  refine mq_Tm_go 3 (pc' := 150) (ls' := [.ref 58, mq_un]) (st' := [.ref 76, .ref 58]) (h1 := ch_164 L xs) rfl ?_
  refine mq_Tm_go 1 (pc' := 153) (ls' := [.ref 58, mq_un]) (st' := []) (h1 := ch_165 L xs) rfl ?_
  refine mq_Tm_go 3 (pc' := 158) (ls' := [.ref 58, mq_un]) (st' := [.ref 77, .ref 58]) (h1 := ch_166 L xs) rfl ?_
  refine mq_Tm_go 1 (pc' := 161) (ls' := [.ref 58, mq_un]) (st' := []) (h1 := ch_167 L xs) rfl ?_
  refine mq_Tm_go 3 (pc' := 166) (ls' := [.ref 58, mq_un]) (st' := [.ref 78, .ref 58]) (h1 := ch_168 L xs) rfl ?_
  refine mq_Tm_go 1 (pc' := 169) (ls' := [.ref 58, mq_un]) (st' := []) (h1 := ch_169 L xs) rfl ?_
  refine mq_Tm_go 3 (pc' := 174) (ls' := [.ref 58, mq_un]) (st' := [.ref 79, .ref 58]) (h1 := ch_170 L xs) rfl ?_
  refine mq_Tm_go 1 (pc' := 177) (ls' := [.ref 58, mq_un]) (st' := []) (h1 := ch_171 L xs) rfl ?_
  refine mq_Tm_go 3 (pc' := 182) (ls' := [.ref 58, mq_un]) (st' := [.ref 80, .ref 58]) (h1 := ch_172 L xs) rfl ?_
  refine mq_Tm_go 1 (pc' := 185) (ls' := [.ref 58, mq_un]) (st' := []) (h1 := ch_173 L xs) rfl ?_
  refine mq_Tm_go 3 (pc' := 190) (ls' := [.ref 58, mq_un]) (st' := [.ref 81, .ref 58]) (h1 := ch_174 L xs) rfl ?_
  refine mq_Tm_go 1 (pc' := 193) (ls' := [.ref 58, mq_un]) (st' := []) (h1 := ch_175 L xs) rfl ?_
  refine mq_Tm_go 3 (pc' := 198) (ls' := [.ref 58, mq_un]) (st' := [.ref 82, .ref 58]) (h1 := ch_176 L xs) rfl ?_
  refine mq_Tm_go 1 (pc' := 201) (ls' := [.ref 58, mq_un]) (st' := []) (h1 := ch_177 L xs) rfl ?_
  refine mq_Tm_go 3 (pc' := 206) (ls' := [.ref 58, mq_un]) (st' := [.ref 83, .ref 58]) (h1 := ch_178 L xs) rfl ?_
  refine mq_Tm_go 1 (pc' := 209) (ls' := [.ref 58, mq_un]) (st' := []) (h1 := ch_179 L xs) rfl ?_
  refine mq_Tm_go 3 (pc' := 214) (ls' := [.ref 58, mq_un]) (st' := [.ref 84, .ref 58]) (h1 := ch_180 L xs) rfl ?_
  refine mq_Tm_go 1 (pc' := 217) (ls' := [.ref 58, mq_un]) (st' := []) (h1 := ch_181 L xs) rfl ?_
  refine mq_Tm_go 3 (pc' := 222) (ls' := [.ref 58, mq_un]) (st' := [.ref 85, .ref 58]) (h1 := ch_182 L xs) rfl ?_
  refine mq_Tm_go 1 (pc' := 225) (ls' := [.ref 58, mq_un]) (st' := []) (h1 := ch_183 L xs) rfl ?_
  refine mq_Tm_go 3 (pc' := 231) (ls' := [.ref 58, mq_un]) (st' := [.ref 86, .ref 58]) (h1 := ch_184 L xs) rfl ?_
  refine mq_Tm_go 1 (pc' := 234) (ls' := [.ref 58, mq_un]) (st' := []) (h1 := ch_185 L xs) rfl ?_
  refine mq_Tm_go 3 (pc' := 239) (ls' := [.ref 58, mq_un]) (st' := [.ref 87, .ref 58]) (h1 := ch_186 L xs) rfl ?_
  refine mq_Tm_go 1 (pc' := 242) (ls' := [.ref 58, mq_un]) (st' := []) (h1 := ch_187 L xs) rfl ?_
  refine mq_Tm_go 3 (pc' := 247) (ls' := [.ref 58, mq_un]) (st' := [.ref 88, .ref 58]) (h1 := ch_188 L xs) rfl ?_
  refine mq_Tm_go 1 (pc' := 250) (ls' := [.ref 58, mq_un]) (st' := []) (h1 := ch_189 L xs) rfl ?_
  refine mq_Tm_go 3 (pc' := 255) (ls' := [.ref 58, mq_un]) (st' := [.ref 89, .ref 58]) (h1 := ch_190 L xs) rfl ?_
  refine mq_Tm_go 1 (pc' := 258) (ls' := [.ref 58, mq_un]) (st' := []) (h1 := ch_191 L xs) rfl ?_
  refine mq_Tm_go 5 (pc' := 266) (ls' := [.ref 58, mq_un]) (st' := []) (h1 := ch_192 L xs) rfl ?_
  refine mq_Tm_go 12 (pc' := 285) (ls' := [.ref 58, .int 0]) (st' := []) (h1 := ch_193 L xs) rfl ?_
  refine mq_Tm_go 12 (pc' := 285) (ls' := [.ref 58, .int 1]) (st' := []) (h1 := ch_194 L xs) rfl ?_
  refine mq_Tm_go 12 (pc' := 285) (ls' := [.ref 58, .int 2]) (st' := []) (h1 := ch_195 L xs) rfl ?_
  refine mq_Tm_go 12 (pc' := 285) (ls' := [.ref 58, .int 3]) (st' := []) (h1 := ch_196 L xs) rfl ?_
  refine mq_Tm_go 12 (pc' := 285) (ls' := [.ref 58, .int 4]) (st' := []) (h1 := ch_197 L xs) rfl ?_
  refine mq_Tm_go 12 (pc' := 285) (ls' := [.ref 58, .int 5]) (st' := []) (h1 := ch_198 L xs) rfl ?_
  refine mq_Tm_go 12 (pc' := 285) (ls' := [.ref 58, .int 6]) (st' := []) (h1 := ch_199 L xs) rfl ?_
  refine mq_Tm_go 12 (pc' := 285) (ls' := [.ref 58, .int 7]) (st' := []) (h1 := ch_200 L xs) rfl ?_
  refine mq_Tm_go 12 (pc' := 285) (ls' := [.ref 58, .int 8]) (st' := []) (h1 := ch_201 L xs) rfl ?_
  refine mq_Tm_go 12 (pc' := 285) (ls' := [.ref 58, .int 9]) (st' := []) (h1 := ch_202 L xs) rfl ?_
  refine mq_Tm_go 12 (pc' := 285) (ls' := [.ref 58, .int 10]) (st' := []) (h1 := ch_203 L xs) rfl ?_
  refine mq_Tm_go 12 (pc' := 285) (ls' := [.ref 58, .int 11]) (st' := []) (h1 := ch_204 L xs) rfl ?_
  refine mq_Tm_go 12 (pc' := 285) (ls' := [.ref 58, .int 12]) (st' := []) (h1 := ch_205 L xs) rfl ?_
  refine mq_Tm_go 12 (pc' := 285) (ls' := [.ref 58, .int 13]) (st' := []) (h1 := ch_206 L xs) rfl ?_
  refine mq_Tm_go 12 (pc' := 285) (ls' := [.ref 58, .int 14]) (st' := []) (h1 := ch_207 L xs) rfl ?_
  refine mq_Tm_go 12 (pc' := 285) (ls' := [.ref 58, .int 15]) (st' := []) (h1 := ch_208 L xs) rfl ?_
  refine mq_Tm_go 5 (pc' := 291) (ls' := [.ref 58, .int 16]) (st' := []) (h1 := ch_208 L xs) rfl ?_
  exact mq_Tm_ret rfl rfl
set_option maxRecDepth 20000 in
theorem ct_law (L : Nat) (xs : Nat → Int32) {r : Option Value} {h' : mq_H} (k : mq_Tm 60 263 18 [.ref 1000000, .ref 0, .ref 58, .int 0] [] (ch_208 L xs) r h') : mq_Tm 60 263 0 (mq_ent 4 [.ref mq_SCR]) [] (mq_h0 L xs) r h' := by
  show mq_Tm 60 263 0 [.ref 1000000, mq_un, mq_un, mq_un] [] (ch_0 L xs) r h'
  refine mq_Tm_go 1 (pc' := 3) (ls' := [.ref 1000000, mq_un, mq_un, mq_un]) (st' := [.ref 0]) (h1 := ch_1 L xs) rfl ?_
  refine mq_Tm_go 1 (pc' := 4) (ls' := [.ref 1000000, mq_un, mq_un, mq_un]) (st' := [.ref 0, .ref 0]) (h1 := ch_1 L xs) rfl ?_
  refine mq_Tm_call (m' := 121) (ml := 1) (as := [.ref 0]) (rest := [.ref 0]) (h1 := ch_128 L xs) (r1 := none) rfl rfl (by decide) (ct_14 L xs) ?_
  show mq_Tm 60 263 7 [.ref 1000000, mq_un, mq_un, mq_un] [.ref 0] (ch_128 L xs) _ _
  refine mq_Tm_go 2 (pc' := 11) (ls' := [.ref 1000000, .ref 0, mq_un, mq_un]) (st' := [.ref 58]) (h1 := ch_129 L xs) rfl ?_
  refine mq_Tm_go 1 (pc' := 12) (ls' := [.ref 1000000, .ref 0, mq_un, mq_un]) (st' := [.ref 58, .ref 58]) (h1 := ch_129 L xs) rfl ?_
  refine mq_Tm_call (m' := 156) (ml := 2) (as := [.ref 58]) (rest := [.ref 58]) (h1 := ch_208 L xs) (r1 := none) rfl rfl (by decide) (ct_15 L xs) ?_
  show mq_Tm 60 263 15 [.ref 1000000, .ref 0, mq_un, mq_un] [.ref 58] (ch_208 L xs) _ _
  refine mq_Tm_go 3 (pc' := 18) (ls' := [.ref 1000000, .ref 0, .ref 58, .int 0]) (st' := []) (h1 := ch_208 L xs) rfl ?_
  exact k
