/-! the tape: feed, check -/
def bt (v : Int32) (s : Nat) : Nat := ((v >>> (nI s &&& 31)) &&& 255).toNatClampNeg
theorem bt_ok (v : Int32) (s : Nat) : (v >>> (nI s &&& 31)) &&& 255 = nI (bt v s) ∧ bt v s < 256 := by
  obtain ⟨j, hj, e⟩ := pk_andE (v >>> (nI s &&& 31)) (m := 255) 8 rfl
  have : bt v s = j := by unfold bt; rw [e, nI_clamp (by omega)]
  rw [this]; exact ⟨e, by omega⟩
theorem byte255 (x : Int32) : (vp_nar .byte x.toInt8.toInt32) &&& 255 = x &&& 255 := by
  rw [pk_vb]
  apply Int32.toBitVec_inj.mp
  show (x.toInt8.toInt32).toBitVec &&& (255 : Int32).toBitVec = x.toBitVec &&& (255 : Int32).toBitVec
  have e : (x.toInt8.toInt32).toBitVec = (x.toBitVec.signExtend 8).signExtend 32 := by simp
  have e2 : (255 : Int32).toBitVec = BitVec.ofNat 32 255 := rfl
  rw [e, e2]
  apply BitVec.eq_of_getLsbD_eq
  intro i hi
  rw [BitVec.getLsbD_and, BitVec.getLsbD_and, BitVec.getLsbD_ofNat, BitVec.getLsbD_signExtend, BitVec.getLsbD_signExtend]
  have t : Nat.testBit 255 i = decide (i < 8) := by
    have := Nat.testBit_two_pow_sub_one 8 i
    simpa using this
  rw [t]
  by_cases h8 : i < 8
  · simp [h8, hi]
  · simp [h8]
/-- the tape: n bytes tb -/
def CT (M : pu_M) (n : Nat) (tb : Nat → Nat) : Prop := n ≤ 260 ∧ M 1 1 = nI n ∧ ∀ i, i < n → M 2 i = nI (tb i) ∧ tb i < 256
def MT (M : pu_M) (n : Nat) (tb : Nat → Nat) : Prop := n ≤ 260 ∧ M 58 4 = nI n ∧ ∀ i, i < n → (M 62 i) &&& 255 = nI (tb i) ∧ tb i < 256
def w4 (tb : Nat → Nat) (n : Nat) (v : Int32) : Nat → Nat := fset (fset (fset (fset tb n (bt v 24)) (n + 1) (bt v 16)) (n + 2) (bt v 8)) (n + 3) (bt v 0)
section TP
variable {L d : Nat} {M : pu_M} {P : Pp} {y : Nat} {n : Nat} {tb : Nat → Nat}
theorem c_add1 {Q : pu_M → Prop} {v v2' : Int32} {s : Nat} (hs : s < 32) (hT : CT M n tb) (hn : n < 260) (hv : nI s + (-8) = v2') (H : ∀ M', CT M' (n + 1) (fset tb n (bt v s)) → only (fun k => k = 1 ∨ k = 2) M M' → (∀ j, j ≠ 1 → M' 1 j = M 1 j) → pu_R L (d + 1) 80 3 [.ref 1, .int v, .int v2'] [] M' (pu_qV Q)) : pu_R L (d + 1) 80 3 [.ref 1, .int v, .int (nI s)] [] M (pu_qV Q) := by
  refine r_Tape_add_3 ?_
  obtain ⟨h1, h2, h3⟩ := hT
  obtain ⟨e1, e2⟩ := bt_ok v s
  rw [if_neg (nI_pos (by omega)), h2, if_neg (by rw [n_260, nI_leI (by omega) (by omega)]; omega), e1, nI_clamp (by omega)]
  refine ⟨inb_nI hn (by decide), fun M2 hM2 => ?_⟩
  rw [pu_wr_ne (by decide), h2, nI_1] at hM2
  rw [hv]
  subst hM2
  refine H _ ⟨by omega, by rw [pu_wr_self, upd_s], fun i hi => ?_⟩ (((only.rf (fun k => k = 1 ∨ k = 2) M).wr (Or.inr rfl)).wr (Or.inl rfl)) (fun j hj => by rw [pu_wr_self, upd_n hj, pu_wr_ne (by decide)])
  rw [pu_wr_ne (by decide), pu_wr_self]
  by_cases x : i = n
  · subst x; rw [upd_s, fset_s]; exact ⟨rfl, e2⟩
  · rw [upd_n x, fset_n x]; exact h3 i (by omega)
theorem c_Tape_add {Q : pu_M → Prop} {v : Int32} (hT : CT M n tb) (hn : n + 4 ≤ 260) (H : ∀ M', CT M' (n + 4) (w4 tb n v) → only (fun k => k = 1 ∨ k = 2) M M' → (∀ j, j ≠ 1 → M' 1 j = M 1 j) → Q M') : pu_V L (d + 1) 80 [.ref 1, .int v] M Q := by
  refine r_Tape_add (c_add1 (s := 24) (v2' := nI 16) (by decide) hT (by omega) rfl (fun M1 t1 o1 j1 => ?_))
  refine c_add1 (s := 16) (v2' := nI 8) (by decide) t1 (by omega) rfl (fun M2 t2 o2 j2 => ?_)
  refine c_add1 (s := 8) (v2' := nI 0) (by decide) t2 (by omega) rfl (fun M3 t3 o3 j3 => ?_)
  refine c_add1 (s := 0) (v2' := -8) (by decide) t3 (by omega) rfl (fun M4 t4 o4 j4 => ?_)
  refine r_Tape_add_3 ?_
  rw [if_pos (by decide)]
  exact H M4 t4 (((o1.tr o2).tr o3).tr o4) (fun j hj => by rw [j4 j hj, j3 j hj, j2 j hj, j1 j hj])
theorem c_typ1 {Q : pu_M → Prop} {v v2 v2' : Int32} {s : Nat} (h0 : ¬ v2 < 0) (hs : 8 * v2 = nI s) (hT : MT M n tb) (hn : n < 260) (hv : v2 + (-1) = v2') (H : ∀ M', MT M' (n + 1) (fset tb n (bt v s)) → only (fun k => k = 58 ∨ k = 62) M M' → (∀ j, j ≠ 4 → M' 58 j = M 58 j) → pu_R L (d + 1) 175 2 [.ref 58, .int v, .int v2'] [] M' (pu_qV Q)) : pu_R L (d + 1) 175 2 [.ref 58, .int v, .int v2] [] M (pu_qV Q) := by
  refine r_m_types_2 ?_
  obtain ⟨h1, h2, h3⟩ := hT
  obtain ⟨e1, e2⟩ := bt_ok v s
  rw [if_neg h0, h2, hs, nI_clamp (by omega)]
  refine ⟨inb_nI hn (by decide), fun M2 hM2 => ?_⟩
  rw [pu_wr_ne (by decide), h2, nI_1] at hM2
  rw [hv]
  subst hM2
  refine H _ ⟨by omega, by rw [pu_wr_self, upd_s], fun i hi => ?_⟩ (((only.rf (fun k => k = 58 ∨ k = 62) M).wr (Or.inr rfl)).wr (Or.inl rfl)) (fun j hj => by rw [pu_wr_self, upd_n hj, pu_wr_ne (by decide)])
  rw [pu_wr_ne (by decide), pu_wr_self]
  by_cases x : i = n
  · subst x; rw [upd_s, fset_s, byte255]; exact ⟨e1, e2⟩
  · rw [upd_n x, fset_n x]; exact h3 i (by omega)
theorem c_m_types {Q : pu_M → Prop} {v : Int32} (hT : MT M n tb) (hn : n + 4 ≤ 260) (H : ∀ M', MT M' (n + 4) (w4 tb n v) → only (fun k => k = 58 ∨ k = 62) M M' → (∀ j, j ≠ 4 → M' 58 j = M 58 j) → Q M') : pu_V L (d + 1) 175 [.ref 58, .int v] M Q := by
  refine r_m_types (c_typ1 (v2' := 2) (s := 24) (by decide) rfl hT (by omega) rfl (fun M1 t1 o1 j1 => ?_))
  refine c_typ1 (v2' := 1) (s := 16) (by decide) rfl t1 (by omega) rfl (fun M2 t2 o2 j2 => ?_)
  refine c_typ1 (v2' := 0) (s := 8) (by decide) rfl t2 (by omega) rfl (fun M3 t3 o3 j3 => ?_)
  refine c_typ1 (v2' := -1) (s := 0) (by decide) rfl t3 (by omega) rfl (fun M4 t4 o4 j4 => ?_)
  refine r_m_types_2 ?_
  rw [if_pos (by decide)]
  exact H M4 t4 (((o1.tr o2).tr o3).tr o4) (fun j hj => by rw [j4 j hj, j3 j hj, j2 j hj, j1 j hj])
def w20 (tb : Nat → Nat) (n : Nat) (a b c e f : Int32) : Nat → Nat := w4 (w4 (w4 (w4 (w4 tb n a) (n + 4) b) (n + 4 + 4) c) (n + 4 + 4 + 4) e) (n + 4 + 4 + 4 + 4) f
theorem c_x_feed {Q : Int32 → pu_M → Prop} {a b c e f : Int32} (hT : CT M n tb) (H0 : ¬ n + 20 ≤ 260 → Q (-1) M) (H1 : n + 20 ≤ 260 → ∀ M', CT M' (n + 20) (w20 tb n a b c e f) → only (fun k => k = 1 ∨ k = 2) M M' → Q (nI (n + 20)) M') : pu_I L (d + 2) 123 [.ref 0, .int a, .int b, .int c, .int e, .int f] M Q := by
  refine r_x_feed (r_Tape_hasRoom ?_)
  have hn := hT.1
  have hc : (260 < M 1 1 + 20) ↔ ¬ n + 20 ≤ 260 := by rw [hT.2.1, n_20, nI_add, n_260, nI_ltI (by omega) (by omega)]; omega
  by_cases h : n + 20 ≤ 260
  · rw [if_neg (by rw [hc]; omega), if_neg (by decide)]
    refine c_Tape_add hT (by omega) (fun M1 t1 o1 _ => c_Tape_add t1 (by omega) (fun M2 t2 o2 _ => c_Tape_add t2 (by omega) (fun M3 t3 o3 _ => c_Tape_add t3 (by omega) (fun M4 t4 o4 _ => c_Tape_add t4 (by omega) (fun M5 t5 o5 _ => ?_)))))
    rw [t5.2.1]
    exact H1 h M5 t5 ((((o1.tr o2).tr o3).tr o4).tr o5)
  · rw [if_pos (hc.mpr h), if_pos rfl]; exact H0 h
theorem c_m_feed {Q : Int32 → pu_M → Prop} {a b c e f : Int32} (hT : MT M n tb) (H0 : ¬ n + 20 ≤ 260 → Q (-1) M) (H1 : n + 20 ≤ 260 → ∀ M', MT M' (n + 20) (w20 tb n a b c e f) → only (fun k => k = 58 ∨ k = 62) M M' → (∀ j, j ≠ 4 → M' 58 j = M 58 j) → Q (nI (n + 20)) M') : pu_I L (d + 2) 176 [.ref 58, .int a, .int b, .int c, .int e, .int f] M Q := by
  refine r_m_feed ?_
  have hn := hT.1
  have hc : (M 58 4 + 20 ≤ 260) ↔ n + 20 ≤ 260 := by rw [hT.2.1, n_20, nI_add, n_260, nI_leI (by omega) (by omega)]
  by_cases h : n + 20 ≤ 260
  · rw [if_pos (hc.mpr h)]
    refine c_m_types hT (by omega) (fun M1 t1 o1 j1 => c_m_types t1 (by omega) (fun M2 t2 o2 j2 => c_m_types t2 (by omega) (fun M3 t3 o3 j3 => c_m_types t3 (by omega) (fun M4 t4 o4 j4 => c_m_types t4 (by omega) (fun M5 t5 o5 j5 => ?_)))))
    rw [t5.2.1]
    exact H1 h M5 t5 ((((o1.tr o2).tr o3).tr o4).tr o5) (fun j hj => by rw [j5 j hj, j4 j hj, j3 j hj, j2 j hj, j1 j hj])
  · rw [if_neg (fun z => h (hc.mp z))]; exact H0 h
/-- the sign at place q of a text of e bytes -/
def sgn (M : pu_M) (f : Int32) (q e : Nat) : Int32 := if f = 0 ∧ q < e then M 2 q else -1
theorem c_Tape_step {Q : pu_M → Prop} {q e : Nat} (h3 : M 1 3 + 1 = nI q) (hq : q < 2 ^ 30) (h5 : M 1 5 = nI e) (he : e ≤ 260) (H : Q (pu_wr (pu_wr M 1 3 (nI q)) 1 2 (sgn M (M 1 4) q e))) : pu_V L (d + 1) 83 [.ref 1] M Q := by
  refine r_Tape_step ?_
  rw [h3]
  have e4 : pu_wr M 1 3 (nI q) 1 4 = M 1 4 := by rw [pu_wr_self, upd_n (by decide)]
  have e3 : pu_wr M 1 3 (nI q) 1 3 = nI q := by rw [pu_wr_self, upd_s]
  have e5 : pu_wr M 1 3 (nI q) 1 5 = nI e := by rw [pu_wr_self, upd_n (by decide), h5]
  rw [e4, e3, e5]
  unfold sgn at H
  by_cases hf : M 1 4 = 0
  · rw [if_pos hf, if_neg (nI_pos (by omega))]
    by_cases hqe : q < e
    · rw [if_neg (by rw [nI_leI (by omega) (by omega)]; omega), if_neg (by rw [n_260, nI_leI (by omega) (by omega)]; omega)]
      rw [if_pos ⟨hf, hqe⟩] at H
      refine r_Tape_step_50 ?_
      rw [if_neg (by decide), e3, nI_clamp (by omega), pu_wr_ne (by decide)]
      exact ⟨inb_nI (by omega) (by decide), H⟩
    · rw [if_neg (fun z => hqe z.2)] at H
      rw [if_pos (by rw [nI_leI (by omega) (by omega)]; omega)]
      refine r_Tape_step_50 ?_
      rw [if_pos rfl]; exact H
  · rw [if_neg (fun z => hf z.1)] at H
    rw [if_neg hf]
    refine r_Tape_step_50 ?_
    rw [if_pos rfl]; exact H
/-- a text of e bytes is begun: place 0, no fault, the tape is empty -/
def TB (M : pu_M) (e q : Nat) (f : Int32) : Prop := M 1 5 = nI e ∧ e ≤ 260 ∧ M 1 3 = nI q ∧ M 1 4 = f ∧ M 1 2 = sgn M f q e ∧ M 1 1 = 0
theorem c_Tape_open {Q : Int32 → pu_M → Prop} {v a b : Int32} {B : Nat} (hB : b.toInt = B) (ha : ¬ a < 0) (hT : CT M n tb) (H0 : (v < a ∨ b < v ∨ nI n < v) → Q 0 M) (H1 : ¬ (v < a ∨ b < v ∨ nI n < v) → ∀ e, v = nI e → e ≤ n → e ≤ B → ∀ M', TB M' e 0 0 → only (fun k => k = 1) M M' → Q 1 M') : pu_I L (d + 2) 81 [.ref 1, .int v, .int a, .int b] M Q := by
  refine r_Tape_open ?_
  by_cases c1 : v < a
  · rw [if_pos c1]; exact H0 (Or.inl c1)
  rw [if_neg c1]
  by_cases c2 : b < v
  · rw [if_pos c2]; exact H0 (Or.inr (Or.inl c2))
  rw [if_neg c2, hT.2.1]
  by_cases c3 : nI n < v
  · rw [if_neg (lt_not_le c3)]; exact H0 (Or.inr (Or.inr c3))
  rw [if_pos (Int32.not_lt.mp c3)]
  have hv0 : ¬ v < 0 := by
    intro z
    rw [Int32.lt_iff_toInt_lt] at z ha c1
    omega
  obtain ⟨e, he, rfl⟩ := nI_of2 (M := b) (n := B) hB hv0 (Int32.not_lt.mp c2)
  have hn := hT.1
  have hen : e ≤ n := by
    rcases Nat.lt_or_ge n e with h | h
    · exact absurd (nI_lt h (by have := Int32.toInt_lt b; rw [hB] at this; omega)) c3
    · exact h
  have H1 := H1 (fun z => by rcases z with z | z | z; exact c1 z; exact c2 z; exact c3 z) e rfl hen he
  refine c_Tape_step (q := 0) (e := e) ?_ (by decide) ?_ (by omega) ?_
  · rw [pu_wr_self, upd_s]; rfl
  · rw [pu_wr_self, upd_n (by decide), pu_wr_self, upd_n (by decide), pu_wr_self, upd_n (by decide), pu_wr_self, upd_s]
  · have f4 : pu_wr (pu_wr (pu_wr (pu_wr M 1 5 (nI e)) 1 1 0) 1 4 0) 1 3 (-1) 1 4 = 0 := by rw [pu_wr_self, upd_n (by decide), pu_wr_self, upd_s]
    rw [f4]
    refine H1 _ ⟨?_, by omega, ?_, ?_, ?_, ?_⟩ (((((((only.rf (fun k => k = 1) M).wr rfl).wr rfl).wr rfl).wr rfl).wr rfl).wr rfl)
    · simp [pu_wr]
    · simp [pu_wr]
    · simp [pu_wr]
    · rw [pu_wr_self, upd_s]; unfold sgn
      rw [pu_wr_ne (by decide), pu_wr_ne (by decide), pu_wr_ne (by decide), pu_wr_ne (by decide), pu_wr_ne (by decide), pu_wr_ne (by decide)]
      rw [pu_wr_ne (by decide), pu_wr_ne (by decide), pu_wr_ne (by decide), pu_wr_ne (by decide)]
    · simp [pu_wr]
end TP
