/-! THE CLAIM OUT OF ONE WALK OF THE LAW'S BODY. Your part is whole_start (and what it stands on); all else here is the same for every law, but numbers. -/
def R_law : String := "TalkingPlotsLaw"
def lw_P (b : Addr) (xs : List Int32) (args : Array Value) (s : State) : Prop := args = #[.ref b] ∧ s.IntsAt b xs ∧ xs.length ≤ 3072 ∧ (Jvm.Cond.and given_1 narrow_1).before args s = true
def lw_Q (_ : Array Value) (s : State) (o : Outcome) (t : State) : Prop := o = .returned (some (.int 1)) ∧ Framed s o t [] 600000 7302249
def lw_Z (below : List Frame) (a : Array Value) (s : State) : State → Prop := fun t => ∃ o, t.status = .running ∧ Ended t below o ∧ lw_Q a s o t
/-- the law's own end, with 1 on the stack, nothing written that was there before, its room as the claim has it -/
theorem lw_ret {p : Program} {l : Launch} {e : Env} {s : State} {m : MethodId} {below : List Frame} {meth : Method} {c : Code} {b : Nat} (hx : p.tables.exec = Jvm.exec) (hb : c.code = code) (hr : meth.sig.returnType = ret) (hlocks : meth.locks = false) {pc : Nat} {H : Heap} {ls : Array Slot} (hdg : decode code pc = .ok (.ireturn, 1)) : W p l e room_1 s m #[Value.ref b] below meth c H [] 600000 7302249 (lw_Z below #[Value.ref b] s) (F0 m pc ls [.int 1]) := by
  intro T hT X
  obtain ⟨fs, hret, hrun, hended, hW, hframe⟩ := X.leave (v := some (.int 1)) (hlocks := hlocks) (fun h => by rw [hr] at h; cases h)
  have hmeth' : T.vm.method? m = some meth := X.method'
  refine ⟨T.setFrames fs, ?_, .returned (some (.int 1)), hrun, hended, rfl, ⟨_, rfl⟩, hW, hframe⟩
  jvm_step X.here [X.here.top, hx, hb, hdg, hmeth', hr, ret, narrow_b1]
  (try refine ⟨rfl, ?_⟩); (try refine ⟨rfl, ?_⟩)
  first | (intro acts; rw [hret _ acts rfl rfl rfl]) | rw [hret _ _ rfl rfl rfl]
  exact Steps.refl _
/-- what holds at the law's entry: the machine, the code, the tables' words (any of lw_tbl by 'hts w (by decide +kernel)'), the script of L ints xs at the cell b, what the Statement gives of the start (any of its parts by flat_of_before) -/
def lw_At (p : Program) (s : State) (m : MethodId) (meth : Method) (c : Code) (b L : Nat) (xs : Nat → Int32) : Prop :=
  p.tables.exec = Jvm.exec ∧ c.code = code ∧ meth.sig.returnType = ret ∧ c.maxLocals = 4 ∧ s.vm.findClass R_law = some m.cls ∧ (∀ w ∈ lw_tbl, w.before #[Value.ref b] s = true) ∧ va_X b L xs s s.heap ∧ b < s.heap.size ∧ meth.locks = false ∧ (Jvm.Cond.and given_1 narrow_1).before #[Value.ref b] s = true
/-- the small machine's start: no cell, the script of L ints xs -/
def mq_h0 (L : Nat) (xs : Nat → Int32) : mq_H := (fun _ => .inl (false, L, xs), 0, 0)
/-- what is to be shown of the small machine -/
def mq_Law (L : Nat) (xs : Nat → Int32) : Prop := ∃ (f : Nat) (h' : mq_H), mq_run f 60 263 0 (mq_ent 4 [.ref mq_SCR]) [] (mq_h0 L xs) = some (some (.int 1), h') ∧ h'.2.1 ≤ 600000 ∧ h'.2.2 ≤ 7302249
theorem mq_arrK {s : State} {args : Array Value} {ty : FieldType} (h : (Cond.arrayClass ty).before args s = true) (ht : (∃ n, ty = .object n) → False) : ∃ cA, ArrOfT s cA ty ∧ va_RA s cA ty := by
  obtain ⟨cA, kA, comp, h1, h2, h3⟩ := Cond.arrayClass_spec h
  refine ⟨cA, fun n z => ⟨fun k h => (by cases h), kA, h2, comp, h3⟩, ?_⟩
  cases ty <;> first | exact h1 | exact absurd ⟨_, rfl⟩ ht
theorem mq_start {p : Program} {e : Env} {s : State} {m : MethodId} {below : List Frame} {meth : Method} {c : Code} (l : Launch) {b L : Nat} {xs : Nat → Int32} (hR : mq_Law L xs) (C0 : lw_At p s m meth c b L xs) : W p l e room_1 s m #[Value.ref b] below meth c s.heap [] 0 0 (lw_Z below #[Value.ref b] s) (entryFrame m ([Value.ref b] : List Value).toArray 4) := by
  obtain ⟨hx, hb, hr, hml, hown, hts, hX, hbl, hlocks, hgv⟩ := id C0
  have htb : ∀ w ∈ mq_tb, w.before #[Value.ref b] s = true := fun w hw => hts w (List.mem_filter.mp hw).1
  obtain ⟨c0, i0, hK0⟩ := u_known (C := mq_cn 0) (T := mq_T 0) (N := mq_N 0) (n := mq_N 0) htb (mq_cl_ok 0 (by decide) (by decide)).2.2 (htb _ (mq_cl_ok 0 (by decide) (by decide)).1)
  obtain ⟨c1, i1, hK1⟩ := u_known (C := mq_cn 1) (T := mq_T 1) (N := mq_N 1) (n := mq_N 1) htb (mq_cl_ok 1 (by decide) (by decide)).2.2 (htb _ (mq_cl_ok 1 (by decide) (by decide)).1)
  obtain ⟨c3, i3, hK3⟩ := u_known (C := mq_cn 3) (T := mq_T 3) (N := mq_N 3) (n := mq_N 3) htb (mq_cl_ok 3 (by decide) (by decide)).2.2 (htb _ (mq_cl_ok 3 (by decide) (by decide)).1)
  obtain ⟨c4, i4, hK4⟩ := u_known (C := mq_cn 4) (T := mq_T 4) (N := mq_N 4) (n := mq_N 4) htb (mq_cl_ok 4 (by decide) (by decide)).2.2 (htb _ (mq_cl_ok 4 (by decide) (by decide)).1)
  obtain ⟨c5, i5, hK5⟩ := u_known (C := mq_cn 5) (T := mq_T 5) (N := mq_N 5) (n := mq_N 5) htb (mq_cl_ok 5 (by decide) (by decide)).2.2 (htb _ (mq_cl_ok 5 (by decide) (by decide)).1)
  obtain ⟨c6, i6, hK6⟩ := u_known (C := mq_cn 6) (T := mq_T 6) (N := mq_N 6) (n := mq_N 6) htb (mq_cl_ok 6 (by decide) (by decide)).2.2 (htb _ (mq_cl_ok 6 (by decide) (by decide)).1)
  obtain ⟨c7, i7, hK7⟩ := u_known (C := mq_cn 7) (T := mq_T 7) (N := mq_N 7) (n := mq_N 7) htb (mq_cl_ok 7 (by decide) (by decide)).2.2 (htb _ (mq_cl_ok 7 (by decide) (by decide)).1)
  obtain ⟨c8, i8, hK8⟩ := u_known (C := mq_cn 8) (T := mq_T 8) (N := mq_N 8) (n := mq_N 8) htb (mq_cl_ok 8 (by decide) (by decide)).2.2 (htb _ (mq_cl_ok 8 (by decide) (by decide)).1)
  obtain ⟨c9, i9, hK9⟩ := u_known (C := mq_cn 9) (T := mq_T 9) (N := mq_N 9) (n := mq_N 9) htb (mq_cl_ok 9 (by decide) (by decide)).2.2 (htb _ (mq_cl_ok 9 (by decide) (by decide)).1)
  obtain ⟨c10, i10, hK10⟩ := u_known (C := mq_cn 10) (T := mq_T 10) (N := mq_N 10) (n := mq_N 10) htb (mq_cl_ok 10 (by decide) (by decide)).2.2 (htb _ (mq_cl_ok 10 (by decide) (by decide)).1)
  obtain ⟨c11, i11, hK11⟩ := u_known (C := mq_cn 11) (T := mq_T 11) (N := mq_N 11) (n := mq_N 11) htb (mq_cl_ok 11 (by decide) (by decide)).2.2 (htb _ (mq_cl_ok 11 (by decide) (by decide)).1)
  obtain ⟨c12, i12, hK12⟩ := u_known (C := mq_cn 12) (T := mq_T 12) (N := mq_N 12) (n := mq_N 12) htb (mq_cl_ok 12 (by decide) (by decide)).2.2 (htb _ (mq_cl_ok 12 (by decide) (by decide)).1)
  obtain ⟨cI, hI1, hI2⟩ := mq_arrK (htb _ mq_oth_ok.2.2.2.2.1) (fun z => by obtain ⟨_, z⟩ := z; cases z)
  obtain ⟨cB, hB1, hB2⟩ := mq_arrK (htb _ mq_oth_ok.2.2.2.2.2.1) (fun z => by obtain ⟨_, z⟩ := z; cases z)
  obtain ⟨D, hKc⟩ : ∃ D : va_G, ∀ (k : Nat) (q : vw_C), mq_kl[k]? = some q → u_Kn s q.1 q.2.1 q.2.2 (D.1 k) (D.2 k) := by
    refine ⟨(fun k => match k with
      | 0 => c0
      | 1 => c1
      | 2 => c0
      | 3 => c3
      | 4 => c4
      | 5 => c5
      | 6 => c6
      | 7 => c7
      | 8 => c8
      | 9 => c9
      | 10 => c10
      | 11 => c11
      | _ => c12
      , fun k => match k with
      | 0 => i0
      | 1 => i1
      | 2 => i0
      | 3 => i3
      | 4 => i4
      | 5 => i5
      | 6 => i6
      | 7 => i7
      | 8 => i8
      | 9 => i9
      | 10 => i10
      | 11 => i11
      | _ => i12
      ), ?_⟩
    intro k q hq
    match k, hq with
    | 0, hq => cases hq; exact hK0
    | 1, hq => cases hq; exact hK1
    | 2, hq => cases hq; exact hK0
    | 3, hq => cases hq; exact hK3
    | 4, hq => cases hq; exact hK4
    | 5, hq => cases hq; exact hK5
    | 6, hq => cases hq; exact hK6
    | 7, hq => cases hq; exact hK7
    | 8, hq => cases hq; exact hK8
    | 9, hq => cases hq; exact hK9
    | 10, hq => cases hq; exact hK10
    | 11, hq => cases hq; exact hK11
    | 12, hq => cases hq; exact hK12
    | k + 13, hq => simp [mq_kl] at hq
  obtain ⟨f, h', hrun, hn, hS9⟩ := hR
  have hST : mq_ST D cI cB s.heap.size b L xs s := by
    refine ⟨⟨hKc, fun k q hk => ?_⟩, fun r9 hr9 => va_Nw.of rfl (hts _ (mq_wd_in (mq_NL_h r9 hr9))), hX, hbl, Nat.le_refl _⟩
    match k, hk with
    | 0, hk => cases hk; exact ⟨hI1, hI2⟩
    | 1, hk => cases hk; exact ⟨hB1, hB2⟩
    | k + 2, hk => simp at hk
  have hIV : mq_IV D cI cB s.heap.size b L xs (mq_h0 L xs) s.heap := ⟨rfl, fun k q hk => by simp [mq_wl, mq_h0] at hk, (show 0 < mq_SCR by decide), rfl⟩
  have hcv : ([Value.ref mq_SCR]).map (mq_cv s.heap.size b) = [Value.ref b] := by simp [mq_cv]
  rw [lg_entry_eq]
  have hLe := mq_L.ent (base := s.heap.size) (b := b) (n := 4) (vs := [Value.ref mq_SCR]) (by decide)
  rw [hcv] at hLe
  refine mq_core f hrun (by decide) (m := 263) (Q := lw_Z below #[Value.ref b] s) (D := D) (cI := cI) (cB := cB) (base := s.heap.size) (b := b) (L := L) (xs := xs) (LS := _) ⟨hx, hb, hml, hown, htb, fun z => absurd z (by decide), by decide, by decide⟩ hST hIV va_S.rf hLe rfl (by show 0 + (h'.2.1 - 0) ≤ 600000; omega) (by show 0 + (h'.2.2 - 0) ≤ 7302249; omega) ?_
  intro pc LS H' locs' i hdg hret hI' hS'
  have hi : i = .ireturn := by
    rcases hret with ⟨h1, -⟩ | ⟨-, x, h2, -⟩ | ⟨-, h2, -⟩
    · exact h1
    · cases h2
    · cases h2
  subst hi
  refine va_forget (fun q hq => hS'.2.2 q hq) ?_
  refine W.widen (k := 600000) (n := 7302249) (by show 0 + (h'.2.1 - 0) ≤ 600000; omega) (by show 0 + (h'.2.2 - 0) ≤ 7302249; omega) ?_
  exact lw_ret hx hb hr hlocks hdg
