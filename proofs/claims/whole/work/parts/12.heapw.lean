/-! the steps that touch cells -/
section MQ2
variable {p : Program} {l : Launch} {e : Env} {R : Room} {s : State} {mm : MethodId} {args : Array Value} {below : List Frame} {meth : Method} {c : Code} {H : Heap} {locs : List Loc} {cells slots : Nat} {Q : State → Prop}
variable {D : va_G} {cI cB : ClassId} {base b L : Nat} {xs : Nat → Int32}
variable {m pc d : Nat} {npc t : Nat} {v : Value} {ls st ls' st' : List Value} {h h1 : mq_H} {pc' : Nat} {LS : Array Slot}
theorem mq_IV.put {k : Nat} {e2 : mq_E} {H1 : Heap} (hI : mq_IV D cI cB base b L xs h H) (hk : k < h.2.1) (hz : H1.size = H.size) (hP : va_P D mq_kl ((mq_wl cI cB base b h).set k (base + k, mq_ec cI cB base b e2)) H1) : mq_IV D cI cB base b L xs (mq_put h k e2) H1 := by
  obtain ⟨i1, i2, i3, i4⟩ := hI
  rw [mq_wl_set hk] at hP
  refine ⟨hz.trans i1, hP, i3, ?_⟩
  show mq_up h.1 k e2 mq_SCR = _
  unfold mq_up
  rw [if_neg (by omega)]
  exact i4
theorem mq_W_size {g : JFrame} (k : H.size ≤ s.heap.size + cells → W p l e R s mm args below meth c H locs cells slots Q g) : W p l e R s mm args below meth c H locs cells slots Q g := by
  intro T hT X
  refine k ?_ T hT X
  have := X.same.2.2.1
  rw [← hT]
  exact this
theorem mq_szEq {k : Nat} {x : Nat × va_E} {H1 : Heap} (hEq : s.heap.size + cells = base + h.2.1) (hI : mq_IV D cI cB base b L xs h H) (hk : k < h.2.1) (hx : x.1 = base + k) (hP1 : va_P D mq_kl ((mq_wl cI cB base b h).set k x) H1) (hsz : H1.size ≤ s.heap.size + cells) : H1.size = H.size := by
  have hlen : (mq_wl cI cB base b h).length = h.2.1 := by simp [mq_wl]
  have hlt : base + (h.2.1 - 1) < H1.size := by
    by_cases hj : k = h.2.1 - 1
    · have := (hP1 k x (List.getElem?_set_self (by rw [hlen]; exact hk))).lt
      rw [hx, hj] at this
      exact this
    · have := (hP1 (h.2.1 - 1) _ (by rw [List.getElem?_set_ne hj]; exact mq_wl_get (by omega))).lt
      exact this
  have := hI.1
  omega
theorem mq_hasF_inv {o x t : Nat} (h : mq_hasF o x t = true) : t / 64 < 13 ∧ t / 64 ≠ 2 ∧ t % 64 < mq_N (t / 64) ∧ Cond.fieldLink (mq_cn o) x (mq_T (t / 64) (t % 64)).1 (mq_T (t / 64) (t % 64)).2.1 (mq_T (t / 64) (t % 64)).2.2.1 ∈ mq_tb := by
  simp only [mq_hasF, Bool.and_eq_true, decide_eq_true_eq] at h
  obtain ⟨⟨⟨h1, h2⟩, h3⟩, h4⟩ := h
  obtain ⟨r, hr, hr2⟩ := List.any_eq_true.mp h4
  simp only [Bool.and_eq_true, beq_iff_eq] at hr2
  obtain ⟨⟨⟨e1, e2⟩, e3⟩, e4⟩ := hr2
  have hwd := mq_wd_tb (mq_FL_h r hr) rfl
  rw [e1, e2, e3, e4] at hwd
  exact ⟨h1, h2, h3, hwd⟩
theorem mq_fit_ok {ty : FieldType} {u : Value} {base b : Nat} (hfit : mq_fit (mq_fk ty) u = true) : narrow ty (mq_cv base b u) = mq_cv base b u ∧ fits ty (mq_cv base b u) = true := by
  cases ty <;> cases u <;> first
    | (simp [mq_fk, mq_fit] at hfit; done)
    | exact ⟨rfl, rfl⟩
    | (simp only [mq_cv]; split <;> exact ⟨rfl, rfl⟩)
    | (rename_i x; simp only [mq_cv]; rcases (by simpa [mq_fk, mq_fit] using hfit : x = 0 ∨ x = 1) with rfl | rfl <;> exact ⟨by decide, by decide⟩)
theorem mq_df_cv (base b t : Nat) : (mq_df t).map (mq_cv base b) = mq_df t := by
  unfold mq_df
  simp only [cond_eq_ite]
  repeat' split
  all_goals rfl
theorem mq_va_S_put {A : Nat → Prop} {H0 H H1 : Heap} {locs : List Loc} (h : va_S A H0 H locs) (hz : H.size ≤ H1.size) (ho : ∀ q : Nat, q < H0.size → ¬ A q → H1[q]? = H[q]?) : va_S A H0 H1 locs :=
  ⟨Nat.le_trans h.1 hz, fun q h1 h2 => (ho q h1 h2).trans (h.2.1 q h1 h2), h.2.2⟩
theorem mq_w_getfield {j : Nat} (C0 : mq_Cx p R s mm args meth c m d) (hok : mq_ce m pc (some (.getfield j, npc, t, v)) = true) (hs : mq_step d pc (.getfield j, npc, t, v) ls st h = some (.inl (pc', ls', st', h1)))
    (hT : mq_ST D cI cB base b L xs s) (hI : mq_IV D cI cB base b L xs h H) (hS : va_S (fun q : Nat => base ≤ q) s.heap H locs) (hL : mq_L base b LS (mq_ml m) ls) (hEq : s.heap.size + cells = base + h.2.1) (hcc : cells + (h1.2.1 - h.2.1) ≤ R.cells) (hcs : slots + (h1.2.2 - h.2.2) ≤ R.slots)
    (k : mq_K p l e R s mm args below meth c cells slots Q D cI cB base b L xs m pc' ls' st' h h1) : W p l e R s mm args below meth c H locs cells slots Q (F0 mm pc LS (st.map (mq_cv base b))) := by
  obtain ⟨hx, hb, hml, hown, hts, hin, hdf, hdl⟩ := C0
  obtain ⟨hdg, hle, hck0⟩ := mq_ok_inv hok
  obtain ⟨hnpc, hck⟩ := mq_len_inv (n := 3) (by decide) hck0 rfl
  subst hnpc
  rw [Nat.add_sub_cancel_left] at hdg
  obtain ⟨h13, h2, hN, hlk⟩ := mq_hasF_inv hck
  obtain ⟨a, r, rfl, hs⟩ := mq_r1_inv hs
  dsimp only [mq_step, mq_r1] at hs
  split at hs
  next ci fs ho =>
    obtain ⟨hci, hs⟩ := mq_ite_inv hs
    split at hs
    next u hu =>
      obtain ⟨rfl, rfl, rfl, rfl⟩ := mq_nx_inv hs
      obtain ⟨hk, hcell⟩ := mq_obj_inv ho
      have hg := mq_wl_get (cI := cI) (cB := cB) (base := base) (b := b) hk
      rw [hcell] at hg
      have k2 := mq_K.same k rfl hL hI hS
      rw [List.map_cons, mq_cv_ref (Nat.ne_of_lt (Nat.lt_trans hk hI.2.2.1))]
      rw [List.map_cons] at k2
      subst hci
      exact va_get (D := D) (cl := mq_kl) (ws := mq_wl cI cB base b h) (T := mq_T (t / 64)) (N := mq_N (t / 64)) (C := mq_cn (t / 64)) (ref := (mq_T (t / 64) (t % 64)).1) hx hb hts (mq_cl_ok _ h13 h2).2.2 hown hT.1 hI.2.1 a hg (mq_kl_at _ h13 h2) (t % 64) hN (hts _ hlk) (fun _ h9 => h9) (by show (List.map _ fs)[_]? = _; rw [List.getElem?_map, hu]; rfl) hdg k2
    next => cases hs
  next => cases hs
theorem mq_w_putfield {j : Nat} (C0 : mq_Cx p R s mm args meth c m d) (hok : mq_ce m pc (some (.putfield j, npc, t, v)) = true) (hs : mq_step d pc (.putfield j, npc, t, v) ls st h = some (.inl (pc', ls', st', h1)))
    (hT : mq_ST D cI cB base b L xs s) (hI : mq_IV D cI cB base b L xs h H) (hS : va_S (fun q : Nat => base ≤ q) s.heap H locs) (hL : mq_L base b LS (mq_ml m) ls) (hEq : s.heap.size + cells = base + h.2.1) (hcc : cells + (h1.2.1 - h.2.1) ≤ R.cells) (hcs : slots + (h1.2.2 - h.2.2) ≤ R.slots)
    (k : mq_K p l e R s mm args below meth c cells slots Q D cI cB base b L xs m pc' ls' st' h h1) : W p l e R s mm args below meth c H locs cells slots Q (F0 mm pc LS (st.map (mq_cv base b))) := by
  obtain ⟨hx, hb, hml, hown, hts, hin, hdf, hdl⟩ := C0
  obtain ⟨hdg, hle, hck0⟩ := mq_ok_inv hok
  obtain ⟨hnpc, hck⟩ := mq_len_inv (n := 3) (by decide) hck0 rfl
  subst hnpc
  rw [Nat.add_sub_cancel_left] at hdg
  simp only [Bool.and_eq_true, decide_eq_true_eq] at hck
  obtain ⟨⟨⟨hF, hv⟩, hfin⟩, hdecl⟩ := hck
  obtain ⟨h13, h2, hN, hlk⟩ := mq_hasF_inv hF
  obtain ⟨u, a, r, rfl, hs⟩ := mq_vr_inv hs
  dsimp only [mq_step, mq_vr] at hs
  split at hs
  next ci fs ho =>
    obtain ⟨⟨hci, hlen, hfit⟩, hs⟩ := mq_ite_inv hs
    obtain ⟨rfl, rfl, rfl, rfl⟩ := mq_nx_inv hs
    obtain ⟨hk, hcell⟩ := mq_obj_inv ho
    have hg := mq_wl_get (cI := cI) (cB := cB) (base := base) (b := b) hk
    rw [hcell] at hg
    rw [List.map_cons, List.map_cons, mq_cv_ref (Nat.ne_of_lt (Nat.lt_trans hk hI.2.2.1))]
    subst hci
    have hnf := mq_fit_ok (base := base) (b := b) (hv ▸ hfit)
    have kk : ∀ (H1 : Heap) (locs1 : List Loc), va_P D mq_kl ((mq_wl cI cB base b h).set a (base + a, .inr (t / 64, (fs.map (mq_cv base b)).set (t % 64) (mq_cv base b u)))) H1 → va_D (fun q : Nat => base ≤ q) ((mq_wl cI cB base b h).set a (base + a, .inr (t / 64, (fs.map (mq_cv base b)).set (t % 64) (mq_cv base b u)))) → va_S (fun q : Nat => base ≤ q) s.heap H1 locs1 →
        W p l e R s mm args below meth c H1 locs1 cells slots Q (F0 mm (pc + 3) LS (r.map (mq_cv base b))) := by
      intro H1 locs1 hP1 hD1 hS1
      refine mq_W_size fun hsz => mq_K.same k rfl hL (hI.put hk (mq_szEq hEq hI hk rfl hP1 hsz) ?_) hS1
      rw [← List.map_set] at hP1
      exact hP1
    by_cases hf : (mq_T (t / 64) (t % 64)).2.2.2 = true
    · simp only [hf, Bool.not_true, Bool.false_or, Bool.and_eq_true, decide_eq_true_eq] at hfin
      refine va_putF (D := D) (cl := mq_kl) (ws := mq_wl cI cB base b h) (T := mq_T (t / 64)) (N := mq_N (t / 64)) (C := mq_cn (t / 64)) (ref := (mq_T (t / 64) (t % 64)).1) hx hb hts (mq_cl_ok _ h13 h2).2.2 _ (mq_ty_ok _ h13) (mq_nm_ok _ h13) hown hT.1 hI.2.1 (mq_wl_D _ _ _ _ _) hS a hg (mq_kl_at _ h13 h2) (t % 64) hN (hts _ hlk) (fun _ h9 => h9) hf (hin hfin.1) (by rw [hdecl, hfin.2]) (mq_ty_ok _ h13 _ hN) hnf.1 hnf.2 (by simpa using hlen) hdg kk
    · refine va_put (D := D) (cl := mq_kl) (ws := mq_wl cI cB base b h) (T := mq_T (t / 64)) (N := mq_N (t / 64)) (C := mq_cn (t / 64)) (ref := (mq_T (t / 64) (t % 64)).1) hx hb hts (mq_cl_ok _ h13 h2).2.2 _ (mq_ty_ok _ h13) (mq_nm_ok _ h13) hown hT.1 hI.2.1 (mq_wl_D _ _ _ _ _) hS a hg (mq_kl_at _ h13 h2) (t % 64) hN (hts _ hlk) (fun _ h9 => h9) (by simpa using hf) (mq_ty_ok _ h13 _ hN) hnf.1 hnf.2 (by simpa using hlen) hdg kk
  next => cases hs
theorem mq_w_iaload (C0 : mq_Cx p R s mm args meth c m d) (hok : mq_ce m pc (some (.iaload, npc, t, v)) = true) (hs : mq_step d pc (.iaload, npc, t, v) ls st h = some (.inl (pc', ls', st', h1)))
    (hT : mq_ST D cI cB base b L xs s) (hI : mq_IV D cI cB base b L xs h H) (hS : va_S (fun q : Nat => base ≤ q) s.heap H locs) (hL : mq_L base b LS (mq_ml m) ls) (hEq : s.heap.size + cells = base + h.2.1) (hcc : cells + (h1.2.1 - h.2.1) ≤ R.cells) (hcs : slots + (h1.2.2 - h.2.2) ≤ R.slots)
    (k : mq_K p l e R s mm args below meth c cells slots Q D cI cB base b L xs m pc' ls' st' h h1) : W p l e R s mm args below meth c H locs cells slots Q (F0 mm pc LS (st.map (mq_cv base b))) := by
  obtain ⟨hx, hb, hml, hown, hts, hin, hdf, hdl⟩ := C0
  obtain ⟨hdg, hle, hck0⟩ := mq_ok_inv hok
  obtain ⟨hnpc, hck⟩ := mq_len_inv (n := 1) (by decide) hck0 rfl
  subst hnpc
  rw [Nat.add_sub_cancel_left] at hdg
  obtain ⟨i, a, r, rfl, hs⟩ := mq_ir_inv hs
  dsimp only [mq_step, mq_ir] at hs
  split at hs
  next b9 n f ho =>
    obtain ⟨⟨hb9, hi9⟩, hs⟩ := mq_ite_inv hs
    obtain ⟨rfl, rfl, rfl, rfl⟩ := mq_nx_inv hs
    subst hb9
    obtain ⟨hk, hcell⟩ := mq_arrR_inv ho
    have k2 := mq_K.same k rfl hL hI hS
    rw [List.map_cons] at k2
    by_cases hscr : a = mq_SCR
    · subst hscr
      rw [hI.2.2.2] at hcell
      cases hcell
      rw [List.map_cons, List.map_cons, show mq_cv base b (.ref mq_SCR) = .ref b by simp [mq_cv]]
      exact va_sld (A := fun q : Nat => base ≤ q) hx hb hT.2.2.1 (Nat.lt_of_lt_of_le hT.2.2.2.1 hT.2.2.2.2) (Nat.not_le.mpr hT.2.2.2.1) hS (mq_inb_in hi9) hdg k2
    · have hk := hk.resolve_right hscr
      have hg := mq_wl_get (cI := cI) (cB := cB) (base := base) (b := b) hk
      rw [hcell] at hg
      rw [List.map_cons, List.map_cons, mq_cv_ref hscr]
      exact va_iald (D := D) (cl := mq_kl) (ws := mq_wl cI cB base b h) hx hb hT.1 hI.2.1 a 0 hg rfl (mq_inb_in hi9) hdg k2
  next => cases hs
theorem mq_w_baload (C0 : mq_Cx p R s mm args meth c m d) (hok : mq_ce m pc (some (.baload, npc, t, v)) = true) (hs : mq_step d pc (.baload, npc, t, v) ls st h = some (.inl (pc', ls', st', h1)))
    (hT : mq_ST D cI cB base b L xs s) (hI : mq_IV D cI cB base b L xs h H) (hS : va_S (fun q : Nat => base ≤ q) s.heap H locs) (hL : mq_L base b LS (mq_ml m) ls) (hEq : s.heap.size + cells = base + h.2.1) (hcc : cells + (h1.2.1 - h.2.1) ≤ R.cells) (hcs : slots + (h1.2.2 - h.2.2) ≤ R.slots)
    (k : mq_K p l e R s mm args below meth c cells slots Q D cI cB base b L xs m pc' ls' st' h h1) : W p l e R s mm args below meth c H locs cells slots Q (F0 mm pc LS (st.map (mq_cv base b))) := by
  obtain ⟨hx, hb, hml, hown, hts, hin, hdf, hdl⟩ := C0
  obtain ⟨hdg, hle, hck0⟩ := mq_ok_inv hok
  obtain ⟨hnpc, hck⟩ := mq_len_inv (n := 1) (by decide) hck0 rfl
  subst hnpc
  rw [Nat.add_sub_cancel_left] at hdg
  obtain ⟨i, a, r, rfl, hs⟩ := mq_ir_inv hs
  dsimp only [mq_step, mq_ir] at hs
  split at hs
  next b9 n f ho =>
    obtain ⟨⟨hb9, hi9⟩, hs⟩ := mq_ite_inv hs
    obtain ⟨rfl, rfl, rfl, rfl⟩ := mq_nx_inv hs
    subst hb9
    obtain ⟨hk, hcell⟩ := mq_arr_inv ho
    have hg := mq_wl_get (cI := cI) (cB := cB) (base := base) (b := b) hk
    rw [hcell] at hg
    have k2 := mq_K.same k rfl hL hI hS
    rw [List.map_cons] at k2
    rw [List.map_cons, List.map_cons, mq_cv_ref (Nat.ne_of_lt (Nat.lt_trans hk hI.2.2.1))]
    exact va_bald (D := D) (cl := mq_kl) (ws := mq_wl cI cB base b h) hx hb hT.1 hI.2.1 a 1 hg rfl (mq_inb_in hi9) hdg k2
  next => cases hs
theorem mq_w_iastore (C0 : mq_Cx p R s mm args meth c m d) (hok : mq_ce m pc (some (.iastore, npc, t, v)) = true) (hs : mq_step d pc (.iastore, npc, t, v) ls st h = some (.inl (pc', ls', st', h1)))
    (hT : mq_ST D cI cB base b L xs s) (hI : mq_IV D cI cB base b L xs h H) (hS : va_S (fun q : Nat => base ≤ q) s.heap H locs) (hL : mq_L base b LS (mq_ml m) ls) (hEq : s.heap.size + cells = base + h.2.1) (hcc : cells + (h1.2.1 - h.2.1) ≤ R.cells) (hcs : slots + (h1.2.2 - h.2.2) ≤ R.slots)
    (k : mq_K p l e R s mm args below meth c cells slots Q D cI cB base b L xs m pc' ls' st' h h1) : W p l e R s mm args below meth c H locs cells slots Q (F0 mm pc LS (st.map (mq_cv base b))) := by
  obtain ⟨hx, hb, hml, hown, hts, hin, hdf, hdl⟩ := C0
  obtain ⟨hdg, hle, hck0⟩ := mq_ok_inv hok
  obtain ⟨hnpc, hck⟩ := mq_len_inv (n := 1) (by decide) hck0 rfl
  subst hnpc
  rw [Nat.add_sub_cancel_left] at hdg
  obtain ⟨x, i, a, r, rfl, hs⟩ := mq_iir_inv hs
  dsimp only [mq_step, mq_iir] at hs
  split at hs
  next b9 n f ho =>
    obtain ⟨⟨hb9, hi9⟩, hs⟩ := mq_ite_inv hs
    obtain ⟨rfl, rfl, rfl, rfl⟩ := mq_nx_inv hs
    subst hb9
    obtain ⟨hk, hcell⟩ := mq_arr_inv ho
    have hg := mq_wl_get (cI := cI) (cB := cB) (base := base) (b := b) hk
    rw [hcell] at hg
    rw [List.map_cons, List.map_cons, List.map_cons, mq_cv_ref (Nat.ne_of_lt (Nat.lt_trans hk hI.2.2.1))]
    exact va_iast (D := D) (cl := mq_kl) (ws := mq_wl cI cB base b h) hx hb hT.1 hI.2.1 (mq_wl_D _ _ _ _ _) hS a 0 hg rfl (mq_inb_in hi9) hdg (fun H1 locs1 hP1 hD1 hS1 => mq_W_size fun hsz => mq_K.same k rfl hL (hI.put hk (mq_szEq hEq hI hk rfl hP1 hsz) hP1) hS1)
  next => cases hs
theorem mq_w_bastore (C0 : mq_Cx p R s mm args meth c m d) (hok : mq_ce m pc (some (.bastore, npc, t, v)) = true) (hs : mq_step d pc (.bastore, npc, t, v) ls st h = some (.inl (pc', ls', st', h1)))
    (hT : mq_ST D cI cB base b L xs s) (hI : mq_IV D cI cB base b L xs h H) (hS : va_S (fun q : Nat => base ≤ q) s.heap H locs) (hL : mq_L base b LS (mq_ml m) ls) (hEq : s.heap.size + cells = base + h.2.1) (hcc : cells + (h1.2.1 - h.2.1) ≤ R.cells) (hcs : slots + (h1.2.2 - h.2.2) ≤ R.slots)
    (k : mq_K p l e R s mm args below meth c cells slots Q D cI cB base b L xs m pc' ls' st' h h1) : W p l e R s mm args below meth c H locs cells slots Q (F0 mm pc LS (st.map (mq_cv base b))) := by
  obtain ⟨hx, hb, hml, hown, hts, hin, hdf, hdl⟩ := C0
  obtain ⟨hdg, hle, hck0⟩ := mq_ok_inv hok
  obtain ⟨hnpc, hck⟩ := mq_len_inv (n := 1) (by decide) hck0 rfl
  subst hnpc
  rw [Nat.add_sub_cancel_left] at hdg
  obtain ⟨x, i, a, r, rfl, hs⟩ := mq_iir_inv hs
  dsimp only [mq_step, mq_iir] at hs
  split at hs
  next b9 n f ho =>
    obtain ⟨⟨hb9, hi9⟩, hs⟩ := mq_ite_inv hs
    obtain ⟨rfl, rfl, rfl, rfl⟩ := mq_nx_inv hs
    subst hb9
    obtain ⟨hk, hcell⟩ := mq_arr_inv ho
    have hg := mq_wl_get (cI := cI) (cB := cB) (base := base) (b := b) hk
    rw [hcell] at hg
    rw [List.map_cons, List.map_cons, List.map_cons, mq_cv_ref (Nat.ne_of_lt (Nat.lt_trans hk hI.2.2.1))]
    exact va_bast (D := D) (cl := mq_kl) (ws := mq_wl cI cB base b h) hx hb hT.1 hI.2.1 (mq_wl_D _ _ _ _ _) hS a 1 hg rfl (mq_inb_in hi9) hdg (fun H1 locs1 hP1 hD1 hS1 => mq_W_size fun hsz => mq_K.same k rfl hL (hI.put hk (mq_szEq hEq hI hk rfl hP1 hsz) hP1) hS1)
  next => cases hs
theorem mq_w_arraylength (C0 : mq_Cx p R s mm args meth c m d) (hok : mq_ce m pc (some (.arraylength, npc, t, v)) = true) (hs : mq_step d pc (.arraylength, npc, t, v) ls st h = some (.inl (pc', ls', st', h1)))
    (hT : mq_ST D cI cB base b L xs s) (hI : mq_IV D cI cB base b L xs h H) (hS : va_S (fun q : Nat => base ≤ q) s.heap H locs) (hL : mq_L base b LS (mq_ml m) ls) (hEq : s.heap.size + cells = base + h.2.1) (hcc : cells + (h1.2.1 - h.2.1) ≤ R.cells) (hcs : slots + (h1.2.2 - h.2.2) ≤ R.slots)
    (k : mq_K p l e R s mm args below meth c cells slots Q D cI cB base b L xs m pc' ls' st' h h1) : W p l e R s mm args below meth c H locs cells slots Q (F0 mm pc LS (st.map (mq_cv base b))) := by
  obtain ⟨hx, hb, hml, hown, hts, hin, hdf, hdl⟩ := C0
  obtain ⟨hdg, hle, hck0⟩ := mq_ok_inv hok
  obtain ⟨hnpc, hck⟩ := mq_len_inv (n := 1) (by decide) hck0 rfl
  subst hnpc
  rw [Nat.add_sub_cancel_left] at hdg
  obtain ⟨a, r, rfl, hs⟩ := mq_r1_inv hs
  dsimp only [mq_step, mq_r1] at hs
  split at hs
  next b9 n f ho =>
    obtain ⟨rfl, rfl, rfl, rfl⟩ := mq_nx_inv hs
    obtain ⟨hk, hcell⟩ := mq_arrR_inv ho
    have k2 := mq_K.same k rfl hL hI hS
    rw [List.map_cons] at k2
    by_cases hscr : a = mq_SCR
    · subst hscr
      rw [hI.2.2.2] at hcell
      cases hcell
      rw [List.map_cons, show mq_cv base b (.ref mq_SCR) = .ref b by simp [mq_cv]]
      exact va_slen (A := fun q : Nat => base ≤ q) hx hb hT.2.2.1 (Nat.lt_of_lt_of_le hT.2.2.2.1 hT.2.2.2.2) (Nat.not_le.mpr hT.2.2.2.1) hS hdg k2
    · have hk := hk.resolve_right hscr
      have hg := mq_wl_get (cI := cI) (cB := cB) (base := base) (b := b) hk
      rw [hcell] at hg
      rw [List.map_cons, mq_cv_ref hscr]
      cases b9
      · exact va_alen (D := D) (cl := mq_kl) (ws := mq_wl cI cB base b h) hx hb hT.1 hI.2.1 a 0 hg (ty := .int) rfl rfl hdg k2
      · exact va_alen (D := D) (cl := mq_kl) (ws := mq_wl cI cB base b h) hx hb hT.1 hI.2.1 a 1 hg (ty := .byte) rfl rfl hdg k2
  next => cases hs
theorem mq_IV.add {e2 : mq_E} {n : Nat} {H1 : Heap} (hI : mq_IV D cI cB base b L xs h H) (hb : h.2.1 + 1 < mq_SCR) (hz : H1.size = base + h.2.1 + 1) (ho : ∀ q : Nat, q < base + h.2.1 → H1[q]? = H[q]?) (he : va_at D mq_kl (base + h.2.1, mq_ec cI cB base b e2) H1) : mq_IV D cI cB base b L xs (mq_add h e2 n) H1 := by
  obtain ⟨i1, i2, i3, i4⟩ := hI
  refine ⟨by rw [hz]; rfl, ?_, hb, ?_⟩
  · rw [← mq_wl_push]
    refine va_P.app (i2.kept fun k q hk => ?_) (fun k q hk => ?_)
    · exact ho q.1 (by rw [← i1]; exact (i2 k q hk).lt)
    · have hk0 : k < 1 := (List.getElem?_eq_some_iff.mp hk).1
      have : k = 0 := by omega
      subst this
      cases hk
      exact he
  · show mq_up h.1 h.2.1 e2 mq_SCR = _
    unfold mq_up
    rw [if_neg (by omega)]
    exact i4
theorem mq_w_newarray {at9 : ArrayType} (C0 : mq_Cx p R s mm args meth c m d) (hok : mq_ce m pc (some (.newarray at9, npc, t, v)) = true) (hs : mq_step d pc (.newarray at9, npc, t, v) ls st h = some (.inl (pc', ls', st', h1)))
    (hT : mq_ST D cI cB base b L xs s) (hI : mq_IV D cI cB base b L xs h H) (hS : va_S (fun q : Nat => base ≤ q) s.heap H locs) (hL : mq_L base b LS (mq_ml m) ls) (hEq : s.heap.size + cells = base + h.2.1) (hcc : cells + (h1.2.1 - h.2.1) ≤ R.cells) (hcs : slots + (h1.2.2 - h.2.2) ≤ R.slots)
    (k : mq_K p l e R s mm args below meth c cells slots Q D cI cB base b L xs m pc' ls' st' h h1) : W p l e R s mm args below meth c H locs cells slots Q (F0 mm pc LS (st.map (mq_cv base b))) := by
  obtain ⟨hx, hb, hml, hown, hts, hin, hdf, hdl⟩ := C0
  obtain ⟨hdg, hle, hck0⟩ := mq_ok_inv hok
  obtain ⟨hnpc, hck⟩ := mq_len_inv (n := 2) (by decide) hck0 rfl
  subst hnpc
  rw [Nat.add_sub_cancel_left] at hdg
  simp only [Bool.and_eq_true, decide_eq_true_eq] at hck
  obtain ⟨ht1, hty⟩ := hck
  obtain ⟨x, r, rfl, hs⟩ := mq_i1_inv hs
  obtain ⟨⟨hn, hn2, hn3⟩, hs⟩ := mq_ite_inv hs
  obtain ⟨rfl, rfl, rfl, rfl⟩ := mq_nx_inv hs
  have e1 : (mq_add h (.inl (decide (t = 1), x.toNatClampNeg, fun _ => 0)) x.toNatClampNeg).2.1 - h.2.1 = 1 := by show h.2.1 + 1 - h.2.1 = 1; omega
  have e2 : (mq_add h (.inl (decide (t = 1), x.toNatClampNeg, fun _ => 0)) x.toNatClampNeg).2.2 - h.2.2 = x.toNatClampNeg := by show h.2.2 + x.toNatClampNeg - h.2.2 = _; omega
  rw [e1] at hcc
  rw [e2] at hcs
  have hbt : componentBytes (Op.newarray.typeOf at9) ≤ 4 := by rw [hty]; split <;> decide
  refine va_newaK (h := base + h.2.1) (N := x.toNatClampNeg) hx hb ?_ rfl hdg rfl hn rfl ?_ hcc hcs hI.1 (fun H1 cA a1 a2 a3 a4 a5 => ?_)
  · rw [hty]
    split
    · exact hts _ mq_oth_ok.2.2.2.2.2.1
    · exact hts _ mq_oth_ok.2.2.2.2.1
  · exact Nat.le_trans (Nat.mul_le_mul hn2 hbt) (by decide)
  · have k2 := k LS H1 locs hL (hI.add hn3 a2 a3 ?_) (mq_va_S_put hS (by have := hI.1; omega) (fun q _ hq => a3 q (by have := hT.2.2.2.2; have := hI.1; have z : ¬ base ≤ q := hq; omega)))
    · rw [e1, e2, List.map_cons, mq_cv_ref (show h.2.1 ≠ mq_SCR by omega)] at k2
      exact k2
    · have hcA : cA = if t = 1 then cB else cI := by
        rw [hty] at a5
        by_cases ht : t = 1
        · rw [if_pos ht] at a5 ⊢
          exact Option.some.inj (a5.symm.trans (hT.1.2 1 (cB, .byte) rfl).2)
        · rw [if_neg ht] at a5 ⊢
          exact Option.some.inj (a5.symm.trans (hT.1.2 0 (cI, .int) rfl).2)
      have hdv : (fun _ : Nat => defaultValue (Op.newarray.typeOf at9)) = fun _ => Value.int 0 := by rw [hty]; split <;> rfl
      rw [hdv, hcA] at a1
      show H1[base + h.2.1]? = some (vp_cell (if decide (t = 1) = true then cB else cI) (x.toNatClampNeg, .inl fun _ => 0))
      simp only [decide_eq_true_eq]
      exact a1
theorem mq_w_new {j : Nat} (C0 : mq_Cx p R s mm args meth c m d) (hok : mq_ce m pc (some (.new j, npc, t, v)) = true) (hs : mq_step d pc (.new j, npc, t, v) ls st h = some (.inl (pc', ls', st', h1)))
    (hT : mq_ST D cI cB base b L xs s) (hI : mq_IV D cI cB base b L xs h H) (hS : va_S (fun q : Nat => base ≤ q) s.heap H locs) (hL : mq_L base b LS (mq_ml m) ls) (hEq : s.heap.size + cells = base + h.2.1) (hcc : cells + (h1.2.1 - h.2.1) ≤ R.cells) (hcs : slots + (h1.2.2 - h.2.2) ≤ R.slots)
    (k : mq_K p l e R s mm args below meth c cells slots Q D cI cB base b L xs m pc' ls' st' h h1) : W p l e R s mm args below meth c H locs cells slots Q (F0 mm pc LS (st.map (mq_cv base b))) := by
  obtain ⟨hx, hb, hml, hown, hts, hin, hdf, hdl⟩ := C0
  obtain ⟨hdg, hle, hck0⟩ := mq_ok_inv hok
  obtain ⟨hnpc, hck⟩ := mq_len_inv (n := 3) (by decide) hck0 rfl
  subst hnpc
  rw [Nat.add_sub_cancel_left] at hdg
  simp only [Bool.and_eq_true, decide_eq_true_eq] at hck
  obtain ⟨⟨⟨h13, h2⟩, hv⟩, hC⟩ := hck
  subst hv
  obtain ⟨r9, hr, hr2⟩ := List.any_eq_true.mp hC
  simp only [Bool.and_eq_true, beq_iff_eq] at hr2
  obtain ⟨⟨q1, q2⟩, q3⟩ := hr2
  have hwd := mq_wd_tb (mq_CL_h r9 hr) rfl
  rw [q1, q2, q3] at hwd
  obtain ⟨hn3, hs⟩ := mq_ite_inv hs
  obtain ⟨rfl, rfl, rfl, rfl⟩ := mq_nx_inv hs
  have e1 : (mq_add h (.inr (t, mq_df t)) (mq_N t)).2.1 - h.2.1 = 1 := by show h.2.1 + 1 - h.2.1 = 1; omega
  have e2 : (mq_add h (.inr (t, mq_df t)) (mq_N t)).2.2 - h.2.2 = mq_N t := by show h.2.2 + mq_N t - h.2.2 = _; omega
  rw [e1] at hcc
  rw [e2] at hcs
  obtain ⟨w1, w2, w3⟩ := mq_cl_ok t h13 h2
  have hKn := hT.1.1 t _ (mq_kl_at t h13 h2)
  refine W.newcK (h := base + h.2.1) hx hb hown (hts _ hwd) (hts _ w1) (hts _ w2) rfl hdg hcc hcs hKn.2.1 hI.1 (fun H1 kC a0 a1 a2 a3 => ?_)
  have k2 := k LS H1 locs hL (hI.add hn3 a2 a3 ?_) (mq_va_S_put hS (by have := hI.1; omega) (fun q _ hq => a3 q (by have := hT.2.2.2.2; have := hI.1; have z : ¬ base ≤ q := hq; omega)))
  · rw [e1, e2, List.map_cons, mq_cv_ref (show h.2.1 ≠ mq_SCR by omega)] at k2
    exact k2
  · refine ⟨_, mq_kl_at t h13 h2, (u_born (mq_ty t) hts w3 hKn a0 a1 (mq_ty_ok t h13)).to (fun j9 hj9 => ?_)⟩
    rw [(mq_df_ok t h13).2 j9 hj9]
    show vp_V (mq_df t) j9 = vp_V ((mq_df t).map (mq_cv base b)) j9
    rw [mq_df_cv]
theorem mq_w_object {j : Nat} (ht : t = 1000) (C0 : mq_Cx p R s mm args meth c m d) (hok : mq_ce m pc (some (.invokespecial j, npc, t, v)) = true) (hs : mq_step d pc (.invokespecial j, npc, t, v) ls st h = some (.inl (pc', ls', st', h1)))
    (hT : mq_ST D cI cB base b L xs s) (hI : mq_IV D cI cB base b L xs h H) (hS : va_S (fun q : Nat => base ≤ q) s.heap H locs) (hL : mq_L base b LS (mq_ml m) ls) (hEq : s.heap.size + cells = base + h.2.1) (hcc : cells + (h1.2.1 - h.2.1) ≤ R.cells) (hcs : slots + (h1.2.2 - h.2.2) ≤ R.slots)
    (k : mq_K p l e R s mm args below meth c cells slots Q D cI cB base b L xs m pc' ls' st' h h1) : W p l e R s mm args below meth c H locs cells slots Q (F0 mm pc LS (st.map (mq_cv base b))) := by
  obtain ⟨hx, hb, hml, hown, hts, hin, hdf, hdl⟩ := C0
  obtain ⟨hdg, hle, hck0⟩ := mq_ok_inv hok
  obtain ⟨hnpc, hck⟩ := mq_len_inv (n := 3) (by decide) hck0 rfl
  subst hnpc
  rw [Nat.add_sub_cancel_left] at hdg
  subst ht
  have hck : mq_has2 mq_OL (mq_own m) j = true := hck
  obtain ⟨r9, hr, hr2⟩ := List.any_eq_true.mp hck
  simp only [Bool.and_eq_true, beq_iff_eq] at hr2
  obtain ⟨q1, q2⟩ := hr2
  have hwd := mq_wd_tb (mq_OL_h r9 hr) rfl
  rw [q1, q2] at hwd
  dsimp only [mq_step] at hs
  rw [if_pos rfl] at hs
  cases d with
  | zero => cases hs
  | succ d =>
    obtain ⟨a, r, rfl, hs⟩ := mq_r1_inv hs
    obtain ⟨hc8, hs⟩ := mq_ite_inv hs
    obtain ⟨rfl, rfl, rfl, rfl⟩ := mq_nx_inv hs
    have hr' : ∃ y, mq_cv base b (.ref a) = .ref y := by simp only [mq_cv]; split <;> exact ⟨_, rfl⟩
    obtain ⟨y, hy⟩ := hr'
    rw [List.map_cons, hy]
    refine W.objInit hx hb hown (hts _ hwd) (hts _ mq_oth_ok.1) (hts _ (mq_wd_tb mq_oc_h rfl)) rfl (by rw [hml]; exact hL.1) rfl hdg (by omega) ?_ (mq_K.same k rfl hL hI hS)
    show 2 * 0 + ((r.map (mq_cv base b)).map fun v => v.category).sum + 12 ≤ _
    rw [mq_cat_map]
    omega
theorem mq_w_max {j : Nat} (ht : t = 1002) (C0 : mq_Cx p R s mm args meth c m d) (hok : mq_ce m pc (some (.invokestatic j, npc, t, v)) = true) (hs : mq_step d pc (.invokestatic j, npc, t, v) ls st h = some (.inl (pc', ls', st', h1)))
    (hT : mq_ST D cI cB base b L xs s) (hI : mq_IV D cI cB base b L xs h H) (hS : va_S (fun q : Nat => base ≤ q) s.heap H locs) (hL : mq_L base b LS (mq_ml m) ls) (hEq : s.heap.size + cells = base + h.2.1) (hcc : cells + (h1.2.1 - h.2.1) ≤ R.cells) (hcs : slots + (h1.2.2 - h.2.2) ≤ R.slots)
    (k : mq_K p l e R s mm args below meth c cells slots Q D cI cB base b L xs m pc' ls' st' h h1) : W p l e R s mm args below meth c H locs cells slots Q (F0 mm pc LS (st.map (mq_cv base b))) := by
  obtain ⟨hx, hb, hml, hown, hts, hin, hdf, hdl⟩ := C0
  obtain ⟨hdg, hle, hck0⟩ := mq_ok_inv hok
  obtain ⟨hnpc, hck⟩ := mq_len_inv (n := 3) (by decide) hck0 rfl
  subst hnpc
  rw [Nat.add_sub_cancel_left] at hdg
  subst ht
  obtain ⟨r9, hr, hr2⟩ := List.any_eq_true.mp (show mq_has2 _ _ _ = true from hck)
  simp only [Bool.and_eq_true, beq_iff_eq] at hr2
  obtain ⟨q1, q2⟩ := hr2
  have hwd := mq_wd_tb (mq_XL_h r9 hr) rfl
  rw [q1, q2] at hwd
  cases d with
  | zero => cases hs
  | succ d =>
    obtain ⟨x, y, r, rfl, hs⟩ := mq_i2_inv hs
    obtain ⟨hc8, hs⟩ := mq_ite_inv hs
    obtain ⟨rfl, rfl, rfl, rfl⟩ := mq_nx_inv hs
    have k2 := mq_K.same k rfl hL hI hS
    refine va_mmax hx hb (by rw [hml]; exact hL.1.symm) hown (hts _ hwd) (hts _ mq_oth_ok.2.2.2.2.2.2.1) (hts _ mq_oth_ok.2.2.2.2.2.2.2.2) (hts _ (mq_wd_tb mq_xc_h rfl)) (by omega) ?_ (by omega) (by omega) hdg k2
    rw [mq_cat_map]
    omega
theorem mq_w_min {j : Nat} (ht : t = 1003) (C0 : mq_Cx p R s mm args meth c m d) (hok : mq_ce m pc (some (.invokestatic j, npc, t, v)) = true) (hs : mq_step d pc (.invokestatic j, npc, t, v) ls st h = some (.inl (pc', ls', st', h1)))
    (hT : mq_ST D cI cB base b L xs s) (hI : mq_IV D cI cB base b L xs h H) (hS : va_S (fun q : Nat => base ≤ q) s.heap H locs) (hL : mq_L base b LS (mq_ml m) ls) (hEq : s.heap.size + cells = base + h.2.1) (hcc : cells + (h1.2.1 - h.2.1) ≤ R.cells) (hcs : slots + (h1.2.2 - h.2.2) ≤ R.slots)
    (k : mq_K p l e R s mm args below meth c cells slots Q D cI cB base b L xs m pc' ls' st' h h1) : W p l e R s mm args below meth c H locs cells slots Q (F0 mm pc LS (st.map (mq_cv base b))) := by
  obtain ⟨hx, hb, hml, hown, hts, hin, hdf, hdl⟩ := C0
  obtain ⟨hdg, hle, hck0⟩ := mq_ok_inv hok
  obtain ⟨hnpc, hck⟩ := mq_len_inv (n := 3) (by decide) hck0 rfl
  subst hnpc
  rw [Nat.add_sub_cancel_left] at hdg
  subst ht
  obtain ⟨r9, hr, hr2⟩ := List.any_eq_true.mp (show mq_has2 _ _ _ = true from hck)
  simp only [Bool.and_eq_true, beq_iff_eq] at hr2
  obtain ⟨q1, q2⟩ := hr2
  have hwd := mq_wd_tb (mq_IL_h r9 hr) rfl
  rw [q1, q2] at hwd
  cases d with
  | zero => cases hs
  | succ d =>
    obtain ⟨x, y, r, rfl, hs⟩ := mq_i2_inv hs
    obtain ⟨hc8, hs⟩ := mq_ite_inv hs
    obtain ⟨rfl, rfl, rfl, rfl⟩ := mq_nx_inv hs
    have k2 := mq_K.same k rfl hL hI hS
    refine va_mmin hx hb (by rw [hml]; exact hL.1.symm) hown (hts _ hwd) (hts _ mq_oth_ok.2.2.2.2.2.2.2.1) (hts _ mq_oth_ok.2.2.2.2.2.2.2.2) (hts _ (mq_wd_tb mq_ic_h rfl)) (by omega) ?_ (by omega) (by omega) hdg k2
    rw [mq_cat_map]
    omega
theorem mq_w_copy {j : Nat} (ht : t = 1001) (C0 : mq_Cx p R s mm args meth c m d) (hok : mq_ce m pc (some (.invokestatic j, npc, t, v)) = true) (hs : mq_step d pc (.invokestatic j, npc, t, v) ls st h = some (.inl (pc', ls', st', h1)))
    (hT : mq_ST D cI cB base b L xs s) (hI : mq_IV D cI cB base b L xs h H) (hS : va_S (fun q : Nat => base ≤ q) s.heap H locs) (hL : mq_L base b LS (mq_ml m) ls) (hEq : s.heap.size + cells = base + h.2.1) (hcc : cells + (h1.2.1 - h.2.1) ≤ R.cells) (hcs : slots + (h1.2.2 - h.2.2) ≤ R.slots)
    (k : mq_K p l e R s mm args below meth c cells slots Q D cI cB base b L xs m pc' ls' st' h h1) : W p l e R s mm args below meth c H locs cells slots Q (F0 mm pc LS (st.map (mq_cv base b))) := by
  obtain ⟨hx, hb, hml, hown, hts, hin, hdf, hdl⟩ := C0
  obtain ⟨hdg, hle, hck0⟩ := mq_ok_inv hok
  obtain ⟨hnpc, hck⟩ := mq_len_inv (n := 3) (by decide) hck0 rfl
  subst hnpc
  rw [Nat.add_sub_cancel_left] at hdg
  subst ht
  obtain ⟨r9, hr, hr2⟩ := List.any_eq_true.mp (show mq_has2 _ _ _ = true from hck)
  simp only [Bool.and_eq_true, beq_iff_eq] at hr2
  obtain ⟨q1, q2⟩ := hr2
  have hwd := mq_wd_tb (mq_AL_h r9 hr) rfl
  rw [q1, q2] at hwd
  dsimp only [mq_step] at hs
  rw [if_pos rfl] at hs
  split at hs
  next d n dp kd sp ks r =>
    split at hs
    next b0 n0 f b1 n1 g ho0 ho1 =>
      obtain ⟨⟨hb0, hb1, z1, z2, z3, z4, z5, hc8⟩, hs⟩ := mq_ite_inv hs
      obtain ⟨rfl, rfl, rfl, rfl⟩ := mq_nx_inv hs
      subst hb0; subst hb1
      obtain ⟨hk0, hcell0⟩ := mq_arr_inv ho0
      obtain ⟨hk1, hcell1⟩ := mq_arr_inv ho1
      have hg0 := mq_wl_get (cI := cI) (cB := cB) (base := base) (b := b) hk0
      rw [hcell0] at hg0
      have hg1 := mq_wl_get (cI := cI) (cB := cB) (base := base) (b := b) hk1
      rw [hcell1] at hg1
      simp only [List.map_cons]
      rw [mq_cv_ref (Nat.ne_of_lt (Nat.lt_trans hk1 hI.2.2.1)), mq_cv_ref (Nat.ne_of_lt (Nat.lt_trans hk0 hI.2.2.1))]
      refine va_copyi (D := D) (cl := mq_kl) (ws := mq_wl cI cB base b h) hx hb (by rw [hml]; exact hL.1.symm) hown (hts _ hwd) (hts _ mq_oth_ok.2.1) (hts _ mq_oth_ok.2.2.1) (hts _ mq_oth_ok.2.2.2.1) hT.1 hI.2.1 (mq_wl_D _ _ _ _ _) hS ks kd 0 0 (ty := .int) hg0 hg1 rfl rfl rfl z1 z2 z3 z4 z5 (fun _ _ => rfl) (by omega) ?_ hdg (fun H1 locs1 hP1 hD1 hS1 => mq_W_size fun hsz => mq_K.same k rfl hL (hI.put hk1 (mq_szEq hEq hI hk1 rfl hP1 hsz) hP1) hS1)
      have h9 : nativeFrameWords "java/lang/System" "arraycopy" 5 + 11 ≤ 50 := by decide
      rw [mq_cat_map]
      omega
    next => cases hs
  next => cases hs
end MQ2
