/-! calls and returns; the contract of a method out of a run of it -/
set_option maxRecDepth 100000 in
theorem mq_sm_ok : ∀ m, m < 263 → mq_np m + 1 < 16 ∧ mq_ml m < 40 ∧ mq_own m < 100 ∧ (mq_kd m = 2 → mq_own m < 13 ∧ mq_own m ≠ 2) := by decide +kernel
theorem mq_cv0_dec {t k : Nat} (ht : t < 263) (hk : k ≤ 1) : (mq_np t + k + 16 * mq_ml t + 1024 * mq_own t) % 16 = mq_np t + k ∧ (mq_np t + k + 16 * mq_ml t + 1024 * mq_own t) / 16 % 64 = mq_ml t ∧ (mq_np t + k + 16 * mq_ml t + 1024 * mq_own t) / 1024 = mq_own t := by
  obtain ⟨h1, h2, -, -⟩ := mq_sm_ok t ht
  omega
def mq_ws (m : Nat) : List Cond := Cond.code (mq_y m) (mq_b m) (mq_ml m) (mq_rt m) :: mq_tb
theorem mq_ws_good (m : Nat) (hm : m < 263) : GoodIn mq_tb (mq_ws m) := by
  intro w hw
  rcases List.mem_cons.mp hw with rfl | hw
  · obtain ⟨h, e⟩ := mq_code_ok m hm
    exact mq_tb_good _ (mq_wd_tb e rfl)
  · exact mq_tb_good w hw
def mq_Pc (D : va_G) (cI cB : ClassId) (base b L : Nat) (xs : Nat → Int32) (avs : List Value) (h : mq_H) : Array Value → State → Prop := fun v U => v = (avs.map (mq_cv base b)).toArray ∧ mq_IV D cI cB base b L xs h U.heap ∧ mq_ST D cI cB base b L xs U
def mq_Qc (D : va_G) (cI cB : ClassId) (base b L : Nat) (xs : Nat → Int32) (r : Option Value) (h' : mq_H) : Array Value → State → Outcome → State → Prop := fun _ st o t => o = .returned (r.map (mq_cv base b)) ∧ mq_IV D cI cB base b L xs h' t.heap ∧ va_F (fun q : Nat => base ≤ q) st t
def mq_rm (d n k : Nat) : Room := { frames := d, cells := n, slots := k, locals := 64 * d }
/-- what may be returned, and by which instruction -/
def mq_ret (m : Nat) (i : Instr) (r : Option Value) : Prop := (i = .ireturn ∧ ∃ x, r = some (.int x) ∧ (mq_rt m = some .int ∨ (mq_rt m = some .boolean ∧ (x = 0 ∨ x = 1)))) ∨ (i = .lreturn ∧ ∃ x, r = some (.long x) ∧ mq_rt m = some .long) ∨ (i = .return_ ∧ r = none ∧ mq_rt m = none)
theorem mq_rk_inv {o : Option FieldType} : (mq_rk o = 0 → o = some .int) ∧ (mq_rk o = 1 → o = some .boolean) ∧ (mq_rk o = 2 → o = some .long) ∧ (mq_rk o = 3 → o = none) := by
  cases o with
  | none => simp [mq_rk]
  | some t => cases t <;> simp [mq_rk]
theorem mq_ret_inv {d m pc : Nat} {i : Instr} {npc t : Nat} {v : Value} {ls st : List Value} {h : mq_H} {r : Option Value} (hok : mq_ce m pc (some (i, npc, t, v)) = true) (hs : mq_step d pc (i, npc, t, v) ls st h = some (.inr (.inr r))) :
    st = r.toList ∧ decode (mq_b m) pc = .ok (i, 1) ∧ mq_ret m i r := by
  obtain ⟨hdg, hle, hck0⟩ := mq_ok_inv hok
  cases i <;> first
    | (exfalso; simp only [mq_step, mq_i1, mq_i2, mq_l1, mq_l2, mq_li, mq_r1, mq_ir, mq_iir, mq_vr, mq_nx, reduceCtorEq] at hs; done)
    | (exfalso; simp only [mq_step, mq_i1, mq_i2, mq_l1, mq_l2, mq_li, mq_r1, mq_ir, mq_iir, mq_vr, mq_nx] at hs; (repeat' split at hs) <;> cases hs; done)
    | skip
  case ireturn =>
    obtain ⟨hnpc, hck⟩ := mq_len_inv (n := 1) (by decide) hck0 rfl
    subst hnpc
    rw [Nat.add_sub_cancel_left] at hdg
    simp only [Bool.and_eq_true, decide_eq_true_eq] at hck
    dsimp only [mq_step] at hs
    split at hs
    next w =>
      split at hs
      next hr =>
        cases hs
        refine ⟨rfl, hdg, Or.inl ⟨rfl, ?_⟩⟩
        obtain ⟨h1, h2⟩ := hck
        match t, w, hr with
        | 0, .int x, _ => exact ⟨x, rfl, Or.inl (mq_rk_inv.1 h1.symm)⟩
        | 1, .int x, hr => exact ⟨x, rfl, Or.inr ⟨mq_rk_inv.2.1 h1.symm, by simpa [mq_rok] using hr⟩⟩
        | n + 2, _, _ => exact absurd h2 (by omega)
      next => cases hs
    next => cases hs
  case lreturn =>
    obtain ⟨hnpc, hck⟩ := mq_len_inv (n := 1) (by decide) hck0 rfl
    subst hnpc
    rw [Nat.add_sub_cancel_left] at hdg
    simp only [Bool.and_eq_true, decide_eq_true_eq] at hck
    obtain ⟨h1, rfl⟩ := hck
    dsimp only [mq_step] at hs
    split at hs
    next w =>
      split at hs
      next hr =>
        cases hs
        refine ⟨rfl, hdg, Or.inr (Or.inl ⟨rfl, ?_⟩)⟩
        match w, hr with
        | .long x, _ => exact ⟨x, rfl, mq_rk_inv.2.2.1 h1.symm⟩
      next => cases hs
    next => cases hs
  case return_ =>
    obtain ⟨hnpc, hck⟩ := mq_len_inv (n := 1) (by decide) hck0 rfl
    subst hnpc
    rw [Nat.add_sub_cancel_left] at hdg
    simp only [Bool.and_eq_true, decide_eq_true_eq] at hck
    obtain ⟨h1, rfl⟩ := hck
    dsimp only [mq_step] at hs
    split at hs
    next =>
      split at hs
      next hr =>
        cases hs
        exact ⟨rfl, hdg, Or.inr (Or.inr ⟨rfl, rfl, mq_rk_inv.2.2.2 h1.symm⟩)⟩
      next => cases hs
    next => cases hs
/-- a call that the small machine makes -/
theorem mq_call_inv {d m pc : Nat} {i : Instr} {npc t : Nat} {v : Value} {ls st : List Value} {h : mq_H} {m' ml : Nat} {as rest : List Value} (hok : mq_ce m pc (some (i, npc, t, v)) = true) (hs : mq_step d pc (i, npc, t, v) ls st h = some (.inr (.inl (m', as, rest, ml)))) :
    m' < 263 ∧ ml = mq_ml m' ∧ st = as.reverse ++ rest ∧ mq_cat rest ≤ 8 ∧ npc = pc + 3 ∧ (
      (∃ x, decode (mq_b m) pc = .ok (.invokestatic x, 3) ∧ mq_kd m' = 0 ∧ as.length = mq_np m' ∧ (mq_hasM (mq_own m) x m' = true ∨ mq_hasN (mq_own m) x m' = true)) ∨
      (∃ x k as', decode (mq_b m) pc = .ok (.invokespecial x, 3) ∧ mq_kd m' = 1 ∧ as = .ref k :: as' ∧ as'.length = mq_np m' ∧ (mq_hasM (mq_own m) x m' = true ∨ mq_hasN (mq_own m) x m' = true)) ∨
      (∃ x k as' fs, decode (mq_b m) pc = .ok (.invokevirtual x, 3) ∧ mq_kd m' = 2 ∧ as = .ref k :: as' ∧ as'.length = mq_np m' ∧ mq_hasM (mq_own m) x m' = true ∧ mq_obj h k = some (mq_own m', fs))) := by
  obtain ⟨hdg, hle, hck0⟩ := mq_ok_inv hok
  have htk : ∀ n, n ≤ st.length → st = ((st.take n).reverse).reverse ++ st.drop n := fun n _ => by rw [List.reverse_reverse, List.take_append_drop]
  have hln : ∀ n, n ≤ st.length → ((st.take n).reverse).length = n := fun n hn => by rw [List.length_reverse, List.length_take]; omega
  cases i <;> first
    | (exfalso; simp only [mq_step, mq_i1, mq_i2, mq_l1, mq_l2, mq_li, mq_r1, mq_ir, mq_iir, mq_vr, mq_nx, reduceCtorEq] at hs; done)
    | (exfalso; simp only [mq_step, mq_i1, mq_i2, mq_l1, mq_l2, mq_li, mq_r1, mq_ir, mq_iir, mq_vr, mq_nx] at hs; (repeat' split at hs) <;> cases hs; done)
    | skip
  case invokestatic x =>
    obtain ⟨hnpc, hck⟩ := mq_len_inv (n := 3) (by decide) hck0 rfl
    subst hnpc
    rw [Nat.add_sub_cancel_left] at hdg
    dsimp only [mq_step] at hs
    by_cases t1 : t = 1001
    · exfalso; rw [if_pos t1] at hs; simp only [mq_nx] at hs; (repeat' split at hs) <;> cases hs
    by_cases t2 : t = 1002
    · exfalso; rw [if_neg t1, if_pos t2] at hs; simp only [mq_i2, mq_nx] at hs; (repeat' split at hs) <;> cases hs
    by_cases t3 : t = 1003
    · exfalso; rw [if_neg t1, if_neg t2, if_pos t3] at hs; simp only [mq_i2, mq_nx] at hs; (repeat' split at hs) <;> cases hs
    rw [if_neg t1, if_neg t2, if_neg t3] at hs
    dsimp only at hck
    rw [if_neg t1, if_neg t2, if_neg t3] at hck
    simp only [Bool.and_eq_true, Bool.or_eq_true, decide_eq_true_eq] at hck
    obtain ⟨⟨⟨ht, hkd⟩, hv⟩, hl⟩ := hck
    obtain ⟨d1, d2, d3⟩ := mq_cv0_dec (k := 0) ht (by omega)
    subst hv
    dsimp only [mq_cv0] at hs
    rw [d1, d2] at hs
    split at hs
    next hc =>
      cases hs
      exact ⟨ht, rfl, htk _ hc.1, hc.2, rfl, Or.inl ⟨x, hdg, hkd, (hln _ hc.1).trans (Nat.add_zero _), hl⟩⟩
    next => cases hs
  case invokespecial x =>
    obtain ⟨hnpc, hck⟩ := mq_len_inv (n := 3) (by decide) hck0 rfl
    subst hnpc
    rw [Nat.add_sub_cancel_left] at hdg
    dsimp only [mq_step] at hs
    by_cases t1 : t = 1000
    · exfalso; rw [if_pos t1] at hs; simp only [mq_r1, mq_nx] at hs; (repeat' split at hs) <;> cases hs
    rw [if_neg t1] at hs
    dsimp only at hck
    rw [if_neg t1] at hck
    simp only [Bool.and_eq_true, Bool.or_eq_true, decide_eq_true_eq] at hck
    obtain ⟨⟨⟨ht, hkd⟩, hv⟩, hl⟩ := hck
    obtain ⟨d1, d2, d3⟩ := mq_cv0_dec (k := 1) ht (by omega)
    subst hv
    dsimp only [mq_cv0] at hs
    rw [d1, d2] at hs
    split at hs
    next hc =>
      have e1 := htk _ hc.1
      have e2 := hln _ hc.1
      split at hs
      next k as' he =>
        cases hs
        rw [he] at e1 e2
        exact ⟨ht, rfl, e1, hc.2, rfl, Or.inr (Or.inl ⟨x, k, as', hdg, hkd, rfl, by simpa using e2, hl⟩)⟩
      next => cases hs
    next => cases hs
  case invokevirtual x =>
    obtain ⟨hnpc, hck⟩ := mq_len_inv (n := 3) (by decide) hck0 rfl
    subst hnpc
    rw [Nat.add_sub_cancel_left] at hdg
    dsimp only [mq_step] at hs
    simp only [Bool.and_eq_true, decide_eq_true_eq] at hck
    obtain ⟨⟨⟨ht, hkd⟩, hv⟩, hl⟩ := hck
    obtain ⟨d1, d2, d3⟩ := mq_cv0_dec (k := 1) ht (by omega)
    subst hv
    dsimp only [mq_cv0] at hs
    rw [d1, d2, d3] at hs
    split at hs
    next hc =>
      have e1 := htk _ hc.1
      have e2 := hln _ hc.1
      split at hs
      next k as' he =>
        split at hs
        next ci fs ho =>
          split at hs
          next hci =>
            cases hs
            rw [he] at e1 e2
            exact ⟨ht, rfl, e1, hc.2, rfl, Or.inr (Or.inr ⟨x, k, as', fs, hdg, hkd, rfl, by simpa using e2, hl, by rw [← hci]; exact ho⟩)⟩
          next => cases hs
        next => cases hs
      next => cases hs
    next => cases hs
theorem mq_hasM_inv {o x t : Nat} (h : mq_hasM o x t = true) : Cond.methodLink (mq_cn o) x (mq_y t) ∈ mq_tb := by
  obtain ⟨r, hr, hr2⟩ := List.any_eq_true.mp h
  simp only [Bool.and_eq_true, beq_iff_eq] at hr2
  obtain ⟨⟨e1, e2⟩, e3⟩ := hr2
  have hwd := mq_wd_tb (mq_ML_h r hr) rfl
  rwa [e1, e2, e3] at hwd
theorem mq_hasN_inv {o x t : Nat} (h : mq_hasN o x t = true) : ∃ r ∈ mq_NL, r.1 = o ∧ r.2.1 = x ∧ r.2.2.1 = t := by
  obtain ⟨r, hr, hr2⟩ := List.any_eq_true.mp h
  simp only [Bool.and_eq_true, beq_iff_eq] at hr2
  exact ⟨r, hr, hr2.1.1, hr2.1.2, hr2.2⟩
/-- the claim of a run, at a fuel -/
def mq_CoreAt (f : Nat) : Prop := ∀ {d m pc : Nat} {ls st : List Value} {h h' : mq_H} {r : Option Value}, mq_run f d m pc ls st h = some (r, h') → m < 264 →
  ∀ {p : Program} {l : Launch} {e : Env} {R : Room} {s : State} {mm : MethodId} {args : Array Value} {below : List Frame} {meth : Method} {c : Code} {H : Heap} {locs : List Loc} {cells slots : Nat} {Q : State → Prop} {D : va_G} {cI cB : ClassId} {base b L : Nat} {xs : Nat → Int32} {LS : Array Slot},
  mq_Cx p R s mm args meth c m d → mq_ST D cI cB base b L xs s → mq_IV D cI cB base b L xs h H → va_S (fun q : Nat => base ≤ q) s.heap H locs → mq_L base b LS (mq_ml m) ls → s.heap.size + cells = base + h.2.1 → cells + (h'.2.1 - h.2.1) ≤ R.cells → slots + (h'.2.2 - h.2.2) ≤ R.slots →
  (∀ (pc : Nat) (LS : Array Slot) (H' : Heap) (locs' : List Loc) (i : Instr), decode (mq_b m) pc = .ok (i, 1) → mq_ret m i r → mq_IV D cI cB base b L xs h' H' → va_S (fun q : Nat => base ≤ q) s.heap H' locs' →
    W p l e R s mm args below meth c H' locs' (cells + (h'.2.1 - h.2.1)) (slots + (h'.2.2 - h.2.2)) Q (F0 mm pc LS (r.toList.map (mq_cv base b)))) →
  W p l e R s mm args below meth c H locs cells slots Q (F0 mm pc LS (st.map (mq_cv base b)))
theorem mq_met {f d m : Nat} {avs : List Value} {h h' : mq_H} {r : Option Value} (hC : mq_CoreAt f) (hr : mq_run f d m 0 (mq_ent (mq_ml m) avs) [] h = some (r, h')) (hm : m < 263) (hcat : mq_cat avs ≤ mq_ml m) (l : Launch) (D : va_G) (cI cB : ClassId) (base b L : Nat) (xs : Nat → Int32) :
    Met l (mq_y m) (mq_ws m) (mq_rm d (h'.2.1 - h.2.1) (h'.2.2 - h.2.2)) (mq_Pc D cI cB base b L xs avs h) (mq_Qc D cI cB base b L xs r h') (h'.2.1 - h.2.1) (h'.2.2 - h.2.2) (fun q : Nat => base ≤ q) := by
  refine Met.ofW (cc := mq_b m) (maxL := mq_ml m) (ret := mq_rt m) (mq_m_ok m hm).2.1 rfl ?_
  intro p e s mm args below meth c s₁ B hml hv
  obtain ⟨rfl, hI, hT⟩ := hv
  have hts := atoms_spec (ws := mq_ws m) B.pre
  have hown : s.vm.findClass (mq_y m).cls = some mm.cls := findClass_of_methodNamed B.named
  have hlocks := B.notSynchronized
  have hr9 := B.returns
  rw [lg_entry_eq]
  refine hC hr (by omega) (D := D) (cI := cI) (cB := cB) (base := base) (b := b) (L := L) (xs := xs) ⟨B.exec, B.bytes, hml, hown, fun w hw => hts w (List.mem_cons_of_mem _ hw), fun hk => ?_, Nat.le_refl _, Nat.le_refl _⟩ hT hI va_S.rf (mq_L.ent hcat) (by rw [Nat.add_zero]; exact hI.1) (by rw [Nat.zero_add]; exact Nat.le_refl _) (by rw [Nat.zero_add]; exact Nat.le_refl _) ?_
  · rw [(name_of_methodNamed B.named B.method).1]
    exact ((mq_ms_ok m hm).2.1 hk).1
  · intro pc LS H' locs' i hdg hret hI' hS'
    rw [Nat.zero_add, Nat.zero_add]
    rcases hret with ⟨rfl, x, rfl, hrt | ⟨hrt, hx⟩⟩ | ⟨rfl, x, rfl, hrt⟩ | ⟨rfl, rfl, hrt⟩
    · exact W.iret B.exec B.bytes (hr9.trans hrt) (fun t ht _ => ⟨rfl, by rw [ht]; exact hI', hS'.F ht⟩) hS'.2.2 hdg
    · exact W.zret B.exec B.bytes (hr9.trans hrt) (by rcases hx with rfl | rfl <;> decide) (fun t ht _ => ⟨rfl, by rw [ht]; exact hI', hS'.F ht⟩) hS'.2.2 hdg
    · exact W.lret B.exec B.bytes (hr9.trans hrt) (fun t ht _ => ⟨rfl, by rw [ht]; exact hI', hS'.F ht⟩) hS'.2.2 hdg
    · exact W.vret B.exec B.bytes (hr9.trans hrt) (fun t ht _ => ⟨rfl, by rw [ht]; exact hI', hS'.F ht⟩) hS'.2.2 hdg
