/-! THE LAW is asked: runs of steps -/
theorem kop_n : ∀ o, o < 11 → ¬ kop o = 3 ∧ ¬ kop o = 4 := by decide
theorem kop_m1 : ∀ o, o < 10 → 2 ≤ o → ¬ kop o = 0 ∧ ¬ kop o = 1 ∧ ¬ kop o = 2 ∧ ¬ kop o = 3 ∧ ¬ kop o = 4 := by decide
theorem kop_m (o : Nat) (h1 : 2 ≤ o) (h2 : o < 10) : ¬ kop o = 0 ∧ ¬ kop o = 1 ∧ ¬ kop o = 2 ∧ ¬ kop o = 3 ∧ ¬ kop o = 4 := kop_m1 o h2 h1
section RN
variable {L d : Nat} {f : Nat → Lin} {u : Nat → Int32} {a b c hE : Nat}
theorem c_L_run1 {y : Nat} {Q : Int32 → pu_M → Prop} (hy : pu_isL y) (hbc : b ≤ c) (hc : c ≤ 240) (hw : l_wt a noP (0, b, f, hE)) : ∀ {g p i : Nat} {S : Nat → Int32} {fl : Bool} {M : pu_M} {v5 v6 v7 : Value}, a ≤ p → p ≤ b → b ≤ p + g → i ≤ p → kCd M y f c → kVl M y u → kS M y S (l_ty (0, b, f, hE) p) fl → (match l_ex f u b g p S fl with
    | none => ∀ M', kE y M M' → Q 0 M'
    | some z => ∀ M', kS M' y z.1 hE z.2 → kE y M M' → Q 1 M') → pu_R L (d + 3) 41 15 [.ref y, .int (nI a), .int (nI b), .int (nI p), .int (nI i), v5, v6, v7] [] M (pu_qI Q) := by
  have hy' : 31 ≤ y ∧ y ≤ 40 := by unfold pu_isL at hy; omega
  intro g
  induction g with
  | zero =>
    intro p i S fl M v5 v6 v7 hap hpb hg hi hC hV hS H
    obtain rfl : p = b := by omega
    refine r_Law_run_15 hy ?_
    have et : l_ty (0, p, f, hE) p = hE := by
      show (if p < p then _ else hE) = hE
      rw [if_neg (by omega)]
    rw [et] at hS
    have H : Q 1 M := H M hS (kE.rf y M)
    by_cases z1 : 240 ≤ nI i
    · rw [if_pos z1]; exact H
    rw [if_neg z1]
    by_cases z2 : nI p < 0
    · rw [if_pos z2]; exact H
    rw [if_neg z2, if_pos (by rw [nI_leI (by omega) (by omega)]; omega)]; exact H
  | succ g ih =>
    intro p i S fl M v5 v6 v7 hap hpb hg hi hC hV hS H
    refine r_Law_run_15 hy ?_
    unfold l_ex at H
    by_cases hbp : b ≤ p
    · rw [if_pos hbp] at H
      obtain rfl : p = b := by omega
      have et : l_ty (0, p, f, hE) p = hE := by
        show (if p < p then _ else hE) = hE
        rw [if_neg (by omega)]
      rw [et] at hS
      have H : Q 1 M := H M hS (kE.rf y M)
      by_cases z1 : 240 ≤ nI i
      · rw [if_pos z1]; exact H
      rw [if_neg z1]
      by_cases z2 : nI p < 0
      · rw [if_pos z2]; exact H
      rw [if_neg z2, if_pos (by rw [nI_leI (by omega) (by omega)]; omega)]; exact H
    · rw [if_neg hbp] at H
      have et : l_ty (0, b, f, hE) p = (f p).2.2 := by
        show (if p < b then (f p).2.2 else hE) = _
        rw [if_pos (by omega)]
      rw [et] at hS
      obtain ⟨w1, w2, w3, w4⟩ := hw p hap (show p < b by omega)
      have w1 : (f p).1 ≤ 12 := w1
      have w2 : l_nh (f p).1 (f p).2.2 = l_ty (0, b, f, hE) (p + 1) := w2
      have w3 : l_ba (f p) := w3
      have w4 : 11 ≤ (f p).1 → noP p ∨ (p < (f p).2.1 ∧ (f p).2.1 ≤ b ∧ l_ty (0, b, f, hE) (f p).2.1 = 99) := w4
      obtain ⟨c1, c2⟩ := hC p (by omega)
      rw [if_neg (by rw [n_240, nI_leI (by omega) (by omega)]; omega), if_neg (nI_pos (by omega)), if_neg (by rw [nI_leI (by omega) (by omega)]; omega), if_neg (by rw [n_240, nI_leI (by omega) (by omega)]; omega), nI_clamp (by omega), c1, c2, hS.2.1]
      refine ⟨inb_nI (by omega) (by decide), inb_nI (by omega) (by decide), ?_⟩
      generalize f p = x at w1 w2 w3 w4 H hS ⊢
      obtain ⟨o, v, h⟩ := x
      dsimp only at w1 w2 w3 w4 H hS ⊢
      -- the next step, or a goal
      have nxt : ∀ (p' : Nat) (S' : Nat → Int32) (fl' : Bool) (M' : pu_M) (x y' : Value) (w7 : Value), p < p' → p' ≤ b → kS M' y S' (l_ty (0, b, f, hE) p') fl' → kE y M M' → (match l_ex f u b g p' S' fl' with
          | none => ∀ M', kE y M M' → Q 0 M'
          | some z => ∀ M', kS M' y z.1 hE z.2 → kE y M M' → Q 1 M') → pu_R L (d + 3) 41 15 [.ref y, .int (nI a), .int (nI b), .int (nI p'), .int (nI i + 1), x, y', w7] [] M' (pu_qI Q) := by
        intro p' S' fl' M' x y' w7 h1 h2 h3 f3 H
        rw [nI_1]
        refine ih (by omega) h2 (by omega) (by omega) (fun k hk => ?_) (fun k hk => ?_) h3 ?_
        · rw [f3.1 (y + 1) (by omega) (by omega), f3.1 (y + 2) (by omega) (by omega)]; exact hC k hk
        · rw [f3.1 (y + 7) (by omega) (by omega)]; exact hV k hk
        · cases hx : l_ex f u b g p' S' fl' with
          | none => rw [hx] at H; exact fun M'' k => H M'' (f3.tr k)
          | some z => rw [hx] at H; exact fun M'' k1 k => H M'' k1 (f3.tr k)
      have t1 : ∀ hh, l_nh o h = hh → l_ty (0, b, f, hE) (p + 1) = hh := fun hh e => by rw [← w2]; exact e
      -- a step that is taken without a skip
      have tk : o ≤ 10 → pu_I L (d + 2) 42 [.ref y, .int (kop o), .int (nI v)] M (fun x2 M1 => if x2 = 0 then Q 0 M1 else pu_R L (d + 3) 41 15 [.ref y, .int (nI a), .int (nI b), .int (nI p + 1), .int (nI i + 1), .int (kop o), .int (nI v), .int 0] [] M1 (pu_qI Q)) → (if kop o = 3 then (if bI fl = 0 then (if kop o = 4 then (if bI fl = 0 then pu_R L (d + 3) 41 86 [.ref y, .int (nI a), .int (nI b), .int (nI p), .int (nI i), .int (kop o), .int (nI v), v7] [.int 1] M (pu_qI Q) else pu_R L (d + 3) 41 86 [.ref y, .int (nI a), .int (nI b), .int (nI p), .int (nI i), .int (kop o), .int (nI v), v7] [.int 0] M (pu_qI Q)) else pu_R L (d + 3) 41 86 [.ref y, .int (nI a), .int (nI b), .int (nI p), .int (nI i), .int (kop o), .int (nI v), v7] [.int 0] M (pu_qI Q)) else pu_R L (d + 3) 41 86 [.ref y, .int (nI a), .int (nI b), .int (nI p), .int (nI i), .int (kop o), .int (nI v), v7] [.int 1] M (pu_qI Q)) else (if kop o = 4 then (if bI fl = 0 then pu_R L (d + 3) 41 86 [.ref y, .int (nI a), .int (nI b), .int (nI p), .int (nI i), .int (kop o), .int (nI v), v7] [.int 1] M (pu_qI Q) else pu_R L (d + 3) 41 86 [.ref y, .int (nI a), .int (nI b), .int (nI p), .int (nI i), .int (kop o), .int (nI v), v7] [.int 0] M (pu_qI Q)) else pu_R L (d + 3) 41 86 [.ref y, .int (nI a), .int (nI b), .int (nI p), .int (nI i), .int (kop o), .int (nI v), v7] [.int 0] M (pu_qI Q))) := by
        intro ho K
        have kn := kop_n o (by omega)
        rw [if_neg kn.1, if_neg kn.2]
        refine r_Law_run_86 hy ?_
        rw [if_pos rfl]; exact K
      have hcs : o = 0 ∨ o = 1 ∨ (2 ≤ o ∧ o ≤ 6) ∨ (7 ≤ o ∧ o ≤ 9) ∨ o = 10 ∨ o = 11 ∨ o = 12 := by omega
      rcases hcs with rfl | rfl | ⟨o1, o2⟩ | ⟨o1, o2⟩ | rfl | rfl | rfl
      · rw [if_pos rfl] at H
        have hb := w3.1 (show 0 < 2 by decide)
        refine tk (by decide) (r_Law_take hy ?_)
        rw [if_pos (show kop 0 = 0 from rfl)]
        refine c_L_push hy hb.1 hS (fun M1 s1 f1 => ⟨Or.inr rfl, ?_⟩)
        rw [if_neg (by decide), nI_1 p]
        exact nxt (p + 1) _ fl M1 _ _ _ (by omega) (by omega) (by rw [t1 (h + 1) rfl]; exact s1) f1 H
      · rw [if_neg (by decide), if_pos rfl] at H
        have hb := w3.1 (show 1 < 2 by decide)
        have hv8 : v < 8 := hb.2.2 rfl
        refine tk (by decide) (r_Law_take hy ?_)
        rw [if_neg (show ¬ kop 1 = 0 by decide), if_pos (show kop 1 = 1 from rfl), if_neg (nI_pos (by omega)), if_neg (show ¬ Int32.ofNat 8 ≤ nI v by show ¬ nI 8 ≤ nI v; rw [nI_leI (by omega) (by omega)]; omega), nI_clamp (by omega), hV v hv8]
        refine ⟨inb_nI hv8 (by decide), ?_⟩
        refine c_L_push hy hb.1 hS (fun M1 s1 f1 => ⟨Or.inr rfl, ?_⟩)
        rw [if_neg (by decide), nI_1 p]
        exact nxt (p + 1) _ fl M1 _ _ _ (by omega) (by omega) (by rw [t1 (h + 1) rfl]; exact s1) f1 H
      · rw [if_neg (by omega), if_neg (by omega), if_pos (by omega)] at H
        have hb := w3.2.1 o1 (show o < 7 by omega)
        have hb1 : 2 ≤ h := hb.1
        have hb2 : h ≤ 31 := hb.2
        have kn := kop_m o o1 (by omega)
        refine tk (by omega) (r_Law_take hy ?_)
        rw [if_neg kn.1, if_neg kn.2.1, if_neg kn.2.2.1, if_neg kn.2.2.2.1, if_neg kn.2.2.2.2]
        refine c_L_arith hy o1 o2 hb1 hb2 hS (fun z M1 f1 => ⟨Or.inl rfl, ?_⟩) (fun z M1 s1 f1 => ⟨Or.inr rfl, ?_⟩)
        · rw [if_pos z] at H
          rw [if_pos rfl]; exact H M1 f1
        · rw [if_neg z] at H
          rw [if_neg (by decide), nI_1 p]
          exact nxt (p + 1) _ fl M1 _ _ _ (by omega) (by omega) (by rw [t1 (h - 1) (l_nh_op o1 o2)]; exact s1) f1 H
      · rw [if_neg (by omega), if_neg (by omega), if_neg (by omega), if_pos (by omega)] at H
        have hb : h = 2 := w3.2.2.1 o1 (show o < 10 by omega)
        subst hb
        have kn := kop_m o (by omega) (by omega)
        refine tk (by omega) (r_Law_take hy ?_)
        rw [if_neg kn.1, if_neg kn.2.1, if_neg kn.2.2.1, if_neg kn.2.2.2.1, if_neg kn.2.2.2.2]
        refine c_L_comp hy o1 o2 hS (fun M1 s1 f1 => ⟨Or.inr rfl, ?_⟩)
        rw [if_neg (by decide), nI_1 p]
        exact nxt (p + 1) _ _ M1 _ _ _ (by omega) (by omega) (by rw [t1 99 (by unfold l_nh; rw [if_neg (by omega), if_neg (by omega), if_pos (by omega)])]; exact s1) f1 H
      · rw [if_neg (by decide), if_neg (by decide), if_neg (by decide), if_neg (by decide), if_pos rfl] at H
        have hb : h = 99 := w3.2.2.2 (show 10 ≤ 10 by decide)
        subst hb
        refine tk (by decide) (r_Law_take hy ?_)
        rw [if_neg (show ¬ kop 10 = 0 by decide), if_neg (show ¬ kop 10 = 1 by decide), if_pos (show kop 10 = 2 from rfl), hS.2.1]
        have fin : ∀ x : Int32, x = bI (!fl) → (if (1 : Int32) = 0 then Q 0 (pu_wr M y 11 x) else pu_R L (d + 3) 41 15 [.ref y, .int (nI a), .int (nI b), .int (nI p + 1), .int (nI i + 1), .int (kop 10), .int (nI v), .int 0] [] (pu_wr M y 11 x) (pu_qI Q)) := by
          intro x hx
          rw [if_neg (by decide), nI_1 p]
          refine nxt (p + 1) S (!fl) _ _ _ _ (by omega) (by omega) ?_ ((kE.rf y M).wy (Or.inr rfl)) H
          rw [t1 99 rfl]
          refine ⟨?_, ?_, fun i hi => absurd hi (by show ¬ i < 0; omega)⟩
          · rw [pu_wr_self, upd_n (by decide)]; exact hS.1
          · rw [pu_wr_self, upd_s, hx]
        cases fl with
        | true => rw [if_neg (show ¬ bI true = 0 by decide)]; exact fin 0 rfl
        | false => rw [if_pos (show bI false = 0 from rfl)]; exact fin 1 rfl
      · rw [if_neg (by decide), if_neg (by decide), if_neg (by decide), if_neg (by decide), if_neg (by decide), if_pos rfl] at H
        have hb : h = 99 := w3.2.2.2 (show 10 ≤ 11 by decide)
        subst hb
        obtain ⟨j1, j2, j3⟩ := (w4 (by decide)).resolve_left id
        rw [if_neg (show ¬ kop 11 = 3 by decide), if_pos (show kop 11 = 4 from rfl)]
        cases fl with
        | false =>
          rw [if_neg (by decide)] at H
          rw [if_pos (show bI false = 0 from rfl)]
          refine r_Law_run_86 hy ?_
          rw [if_neg (by decide)]
          refine r_Law_take hy ?_
          rw [if_neg (show ¬ kop 11 = 0 by decide), if_neg (show ¬ kop 11 = 1 by decide), if_neg (show ¬ kop 11 = 2 by decide), if_neg (show ¬ kop 11 = 3 by decide), if_pos (show kop 11 = 4 from rfl), if_neg (by decide)]
          exact nxt v S false M _ _ _ j1 j2 (by rw [j3]; exact hS) (kE.rf y M) H
        | true =>
          rw [if_pos rfl] at H
          rw [if_neg (show ¬ bI true = 0 by decide)]
          refine r_Law_run_86 hy ?_
          rw [if_pos rfl]
          refine r_Law_take hy ?_
          rw [if_neg (show ¬ kop 11 = 0 by decide), if_neg (show ¬ kop 11 = 1 by decide), if_neg (show ¬ kop 11 = 2 by decide), if_neg (show ¬ kop 11 = 3 by decide), if_pos (show kop 11 = 4 from rfl), if_neg (by decide), nI_1 p]
          refine nxt (p + 1) S true M _ _ _ (by omega) (by omega) ?_ (kE.rf y M) H
          rw [t1 0 rfl]; exact ⟨hS.1, hS.2.1, fun i hi => absurd hi (by show ¬ i < 0; omega)⟩
      · rw [if_neg (by decide), if_neg (by decide), if_neg (by decide), if_neg (by decide), if_neg (by decide), if_neg (by decide)] at H
        have hb : h = 99 := w3.2.2.2 (show 10 ≤ 12 by decide)
        subst hb
        obtain ⟨j1, j2, j3⟩ := (w4 (by decide)).resolve_left id
        rw [if_pos (show kop 12 = 3 from rfl)]
        cases fl with
        | true =>
          rw [if_pos rfl] at H
          rw [if_neg (show ¬ bI true = 0 by decide)]
          refine r_Law_run_86 hy ?_
          rw [if_neg (by decide)]
          refine r_Law_take hy ?_
          rw [if_neg (show ¬ kop 12 = 0 by decide), if_neg (show ¬ kop 12 = 1 by decide), if_neg (show ¬ kop 12 = 2 by decide), if_pos (show kop 12 = 3 from rfl), if_neg (by decide)]
          exact nxt v S true M _ _ _ j1 j2 (by rw [j3]; exact hS) (kE.rf y M) H
        | false =>
          rw [if_neg (by decide)] at H
          rw [if_pos (show bI false = 0 from rfl), if_neg (show ¬ kop 12 = 4 by decide)]
          refine r_Law_run_86 hy ?_
          rw [if_pos rfl]
          refine r_Law_take hy ?_
          rw [if_neg (show ¬ kop 12 = 0 by decide), if_neg (show ¬ kop 12 = 1 by decide), if_neg (show ¬ kop 12 = 2 by decide), if_pos (show kop 12 = 3 from rfl), if_neg (by decide), nI_1 p]
          refine nxt (p + 1) S false M _ _ _ (by omega) (by omega) ?_ (kE.rf y M) H
          rw [t1 0 rfl]; exact ⟨hS.1, hS.2.1, fun i hi => absurd hi (by show ¬ i < 0; omega)⟩
theorem c_L_run {y : Nat} {M : pu_M} {Q : Int32 → pu_M → Prop} (hy : pu_isL y) (hab : a ≤ b) (hbc : b ≤ c) (hc : c ≤ 240) (hw : l_wt a noP (0, b, f, hE)) (ht : l_ty (0, b, f, hE) a = 0) (hC : kCd M y f c) (hV : kVl M y u) (H : match l_ex f u b 240 a (fun _ => 0) false with
    | none => ∀ M', kE y M M' → Q 0 M'
    | some z => ∀ M', kS M' y z.1 hE z.2 → kE y M M' → Q 1 M') : pu_I L (d + 3) 41 [.ref y, .int (nI a), .int (nI b)] M Q := by
  have hy' : 31 ≤ y ∧ y ≤ 40 := by unfold pu_isL at hy; omega
  refine r_Law_run hy ?_
  have f1 : kE y M (pu_wr (pu_wr M y 10 0) y 11 0) := ((kE.rf y M).wy (Or.inl rfl)).wy (Or.inr rfl)
  refine c_L_run1 (u := u) (g := 240) (p := a) (i := 0) (S := fun _ => 0) (fl := false) hy hbc hc hw (Nat.le_refl _) hab (by omega) (Nat.zero_le _) (fun k hk => ?_) (fun k hk => ?_) ?_ ?_
  · rw [f1.1 (y + 1) (by omega) (by omega), f1.1 (y + 2) (by omega) (by omega)]; exact hC k hk
  · rw [f1.1 (y + 7) (by omega) (by omega)]; exact hV k hk
  · rw [ht]
    refine ⟨?_, ?_, fun i hi => absurd hi (by show ¬ i < 0; omega)⟩
    · rw [pu_wr_self, upd_n (by decide), pu_wr_self, upd_s]; rfl
    · rw [pu_wr_self, upd_s]; rfl
  · cases hx : l_ex f u b 240 a (fun _ => 0) false with
    | none => rw [hx] at H; exact fun M'' k => H M'' (f1.tr k)
    | some z => rw [hx] at H; exact fun M'' k1 k => H M'' k1 (f1.tr k)
/-! the model's -/
def mS (M : pu_M) (S : Nat → Int32) (h : Nat) (fl : Bool) : Prop := if h = 99 then M 74 0 = bI fl else ∀ i, i < h → M 74 i = S i
def l_mn (h : Nat) : Nat := if h = 99 then 1 else h
theorem mS_n {M : pu_M} {S : Nat → Int32} {h : Nat} {fl : Bool} (hh : ¬ h = 99) : mS M S h fl ↔ ∀ i, i < h → M 74 i = S i := by unfold mS; rw [if_neg hh]
theorem mS_99 {M : pu_M} {S : Nat → Int32} {fl : Bool} : mS M S 99 fl ↔ M 74 0 = bI fl := by unfold mS; rw [if_pos rfl]
theorem c_N_run1 {Q : Int32 → pu_M → Prop} (hbc : b ≤ c) (hc : c ≤ 240) (hw : l_wt a noP (0, b, f, hE)) : ∀ {g p : Nat} {S : Nat → Int32} {fl : Bool} {M : pu_M} {v6 v7 : Value}, a ≤ p → p ≤ b → b ≤ p + g → (∀ p, p < c → M 69 p = nI (1048576 * (f p).1 + (f p).2.1) ∧ (f p).2.1 < 1048576) → (∀ v, v < 8 → M 75 v = u v) → mS M S (l_ty (0, b, f, hE) p) fl → (match l_ex f u b g p S fl with
    | none => ∀ M', only (fun k => k = 74) M M' → Q 0 M'
    | some z => ∀ M', mS M' z.1 hE z.2 → only (fun k => k = 74) M M' → Q (M' 74 0) M') → pu_R L (d + 2) 201 16 [.ref 58, .int (nI a), .int (nI b), .int (nI (l_mn (l_ty (0, b, f, hE) p))), .int 0, .int (nI p), v6, v7] [] M (pu_qI Q) := by
  intro g
  induction g with
  | zero =>
    intro p S fl M v6 v7 hap hpb hg hC hV hS H
    obtain rfl : p = b := by omega
    refine r_m_comesTo_16 ?_
    have et : l_ty (0, p, f, hE) p = hE := by
      show (if p < p then _ else hE) = hE
      rw [if_neg (by omega)]
    rw [et] at hS
    rw [if_pos (by rw [nI_leI (by omega) (by omega)]; omega)]
    exact H M hS (only.rf _ _)
  | succ g ih =>
    intro p S fl M v6 v7 hap hpb hg hC hV hS H
    refine r_m_comesTo_16 ?_
    unfold l_ex at H
    by_cases hbp : b ≤ p
    · rw [if_pos hbp] at H
      obtain rfl : p = b := by omega
      have et : l_ty (0, p, f, hE) p = hE := by
        show (if p < p then _ else hE) = hE
        rw [if_neg (by omega)]
      rw [et] at hS
      rw [if_pos (by rw [nI_leI (by omega) (by omega)]; omega)]
      exact H M hS (only.rf _ _)
    · rw [if_neg hbp] at H
      have et : l_ty (0, b, f, hE) p = (f p).2.2 := by
        show (if p < b then (f p).2.2 else hE) = _
        rw [if_pos (by omega)]
      rw [et] at hS ⊢
      obtain ⟨w1, w2, w3, w4⟩ := hw p hap (show p < b by omega)
      have w1 : (f p).1 ≤ 12 := w1
      have w2 : l_nh (f p).1 (f p).2.2 = l_ty (0, b, f, hE) (p + 1) := w2
      have w3 : l_ba (f p) := w3
      have w4 : 11 ≤ (f p).1 → noP p ∨ (p < (f p).2.1 ∧ (f p).2.1 ≤ b ∧ l_ty (0, b, f, hE) (f p).2.1 = 99) := w4
      obtain ⟨c1, hv⟩ := hC p (by omega)
      -- the next step, or a goal
      have nxt : ∀ (p' n : Nat) (S' : Nat → Int32) (fl' : Bool) (M' : pu_M) (x y' : Value), p < p' → p' ≤ b → mS M' S' (l_ty (0, b, f, hE) p') fl' → n = l_mn (l_ty (0, b, f, hE) p') → only (fun k => k = 74) M M' → (match l_ex f u b g p' S' fl' with
          | none => ∀ M', only (fun k => k = 74) M M' → Q 0 M'
          | some z => ∀ M', mS M' z.1 hE z.2 → only (fun k => k = 74) M M' → Q (M' 74 0) M') → pu_R L (d + 2) 201 16 [.ref 58, .int (nI a), .int (nI b), .int (nI n), .int 0, .int (nI p'), x, y'] [] M' (pu_qI Q) := by
        intro p' n S' fl' M' x y' h1 h2 h3 hn f3 H
        subst hn
        refine ih (by omega) h2 (by omega) (fun k hk => ?_) (fun k hk => ?_) h3 ?_
        · rw [f3 69 (by decide)]; exact hC k hk
        · rw [f3 75 (by decide)]; exact hV k hk
        · cases hx : l_ex f u b g p' S' fl' with
          | none => rw [hx] at H; exact fun M'' k => H M'' (f3.tr k)
          | some z => rw [hx] at H; exact fun M'' k1 k => H M'' k1 (f3.tr k)
      rw [if_neg (by rw [nI_leI (by omega) (by omega)]; omega), nI_clamp (by omega), c1, nI_1 p]
      refine ⟨inb_nI (by omega) (by decide), inb_nI (by omega) (by decide), ?_⟩
      generalize f p = x at w1 w2 w3 w4 H hS hv ⊢
      obtain ⟨o, v, h⟩ := x
      dsimp only at w1 w2 w3 w4 H hS hv ⊢
      have eo : nI (1048576 * o + v) / 1048576 = nI o := u_div (by omega) hv
      have ev : nI (1048576 * o + v) % 1048576 = nI v := u_rem (by omega) hv
      rw [eo, ev]
      have t1 : ∀ hh, l_nh o h = hh → l_ty (0, b, f, hE) (p + 1) = hh := fun hh e => by rw [← w2]; exact e
      have ne : ∀ k : Nat, k < 2 ^ 31 → ¬ o = k → ¬ nI o = nI k := fun k hk h1 h2 => h1 ((nI_eq (by omega) hk).mp h2)
      have mn : ¬ h = 99 → l_mn h = h := fun z => by unfold l_mn; rw [if_neg z]
      have hcs : o = 0 ∨ o = 1 ∨ (2 ≤ o ∧ o ≤ 6) ∨ (7 ≤ o ∧ o ≤ 9) ∨ o = 10 ∨ o = 11 ∨ o = 12 := by omega
      have pushed : ∀ x : Int32, h ≤ 30 → mS M S h fl → mS (pu_wr M 74 h x) (upd S h x) (h + 1) fl := by
        intro x hh s0
        rw [mS_n (by omega)] at s0
        rw [mS_n (by omega)]
        intro i hi
        rw [pu_wr_self]
        by_cases z : i = h
        · subst z; rw [upd_s, upd_s]
        · rw [upd_n z, upd_n z]; exact s0 i (by omega)
      have ow : ∀ {i : Nat} {x : Int32}, only (fun k => k = 74) M (pu_wr M 74 i x) := fun {i x} => (only.rf (fun k => k = 74) M).wr rfl
      rcases hcs with rfl | rfl | ⟨o1, o2⟩ | ⟨o1, o2⟩ | rfl | rfl | rfl
      · rw [if_pos rfl] at H
        have hb : h ≤ 30 := (w3.1 (show 0 < 2 by decide)).1
        rw [if_pos (show nI 0 = 0 from rfl), mn (by omega)]
        refine r_m_comesTo_63 ?_
        rw [if_pos (show nI 0 = 0 from rfl), nI_clamp (by omega), nI_1]
        refine ⟨inb_nI (by omega) (by decide), ?_⟩
        have e1 := t1 (h + 1) rfl
        exact nxt (p + 1) (h + 1) _ fl _ _ _ (by omega) (by omega) (by rw [e1]; exact pushed _ hb hS) (by rw [e1]; unfold l_mn; rw [if_neg (by omega)]) ow H
      · rw [if_neg (by decide), if_pos rfl] at H
        have hb3 := w3.1 (show 1 < 2 by decide)
        have hb : h ≤ 30 := hb3.1
        have hv8 : v < 8 := hb3.2.2 rfl
        rw [if_neg (show ¬ nI 1 = 0 by decide), if_pos (show nI 1 = 1 from rfl), mn (by omega)]
        refine r_m_comesTo_63 ?_
        rw [if_neg (show ¬ nI 1 = 0 by decide), nI_clamp (show h < 2 ^ 31 by omega), nI_clamp (show v < 2 ^ 31 by omega), hV v hv8, nI_1]
        refine ⟨inb_nI hv8 (by decide), inb_nI (by omega) (by decide), ?_⟩
        have e1 := t1 (h + 1) rfl
        exact nxt (p + 1) (h + 1) _ fl _ _ _ (by omega) (by omega) (by rw [e1]; exact pushed _ hb hS) (by rw [e1]; unfold l_mn; rw [if_neg (by omega)]) ow H
      · rw [if_neg (by omega), if_neg (by omega), if_pos (by omega)] at H
        have hb := w3.2.1 o1 (show o < 7 by omega)
        have hb1 : 2 ≤ h := hb.1
        have hb2 : h ≤ 31 := hb.2
        rw [mS_n (by omega)] at hS
        rw [if_neg (show ¬ nI o = 0 from ne 0 (by decide) (by omega)), if_neg (show ¬ nI o = 1 from ne 1 (by decide) (by omega)), if_neg (show ¬ nI o = 10 from ne 10 (by decide) (by omega)), if_neg (show ¬ nI o = 11 from ne 11 (by decide) (by omega)), if_neg (show ¬ nI o = 12 from ne 12 (by decide) (by omega)), mn (by omega)]
        have em : nI h - 1 = nI (h - 1) := pk_sub (a := h) (b := 1) (by omega)
        have em2 : nI (h - 1) - 1 = nI (h - 2) := pk_sub (a := h - 1) (b := 1) (by omega)
        rw [em, nI_clamp (show h - 1 < 2 ^ 31 by omega), hS (h - 1) (by omega)]
        have fin : ¬ ((o = 5 ∨ o = 6) ∧ S (h - 1) = 0) → pu_R L (d + 2) 201 203 [.ref 58, .int (nI a), .int (nI b), .int (nI (h - 1)), .int 0, .int (nI (p + 1)), .int (nI o), .int (nI v)] [] M (pu_qI Q) := by
          intro hn
          rw [if_neg hn] at H
          refine r_m_comesTo_203 ?_
          rw [em2, nI_clamp (show h - 2 < 2 ^ 31 by omega), nI_clamp (show h - 1 < 2 ^ 31 by omega), hS (h - 1) (by omega), hS (h - 2) (by omega)]
          refine ⟨inb_nI (by omega) (by decide), inb_nI (by omega) (by decide), ?_⟩
          have e1 := t1 (h - 1) (l_nh_op o1 o2)
          have last : ∀ x : Int32, x = l_ar o (S (h - 2)) (S (h - 1)) → mq_inb (nI (h - 2)) 260 = true ∧ pu_R L (d + 2) 201 16 [.ref 58, .int (nI a), .int (nI b), .int (nI (h - 1)), .int 0, .int (nI (p + 1)), .int (nI o), .int (nI v)] [] (pu_wr M 74 (h - 2) x) (pu_qI Q) := by
            intro x hx
            subst hx
            refine ⟨inb_nI (by omega) (by decide), nxt (p + 1) (h - 1) _ fl _ _ _ (by omega) (by omega) ?_ (by rw [e1]; unfold l_mn; rw [if_neg (by omega)]) ow H⟩
            rw [e1, mS_n (by omega)]
            intro i hi
            rw [pu_wr_self]
            by_cases z : i = h - 2
            · subst z; rw [upd_s, upd_s]
            · rw [upd_n z, upd_n z]; exact hS i (by omega)
          refine r_m_reckon ?_
          have hc5 : o = 2 ∨ o = 3 ∨ o = 4 ∨ o = 5 ∨ o = 6 := by omega
          rcases hc5 with rfl | rfl | rfl | rfl | rfl
          · rw [if_pos (show nI 2 = 2 from rfl)]; exact last _ rfl
          · rw [if_neg (show ¬ nI 3 = 2 by decide), if_pos (show nI 3 = 3 from rfl)]; exact last _ rfl
          · rw [if_neg (show ¬ nI 4 = 2 by decide), if_neg (show ¬ nI 4 = 3 by decide), if_pos (show nI 4 = 4 from rfl)]; exact last _ rfl
          · rw [if_neg (show ¬ nI 5 = 2 by decide), if_neg (show ¬ nI 5 = 3 by decide), if_neg (show ¬ nI 5 = 4 by decide), if_pos (show nI 5 = 5 from rfl)]; exact ⟨fun z => hn ⟨Or.inl rfl, z⟩, last _ rfl⟩
          · rw [if_neg (show ¬ nI 6 = 2 by decide), if_neg (show ¬ nI 6 = 3 by decide), if_neg (show ¬ nI 6 = 4 by decide), if_neg (show ¬ nI 6 = 5 by decide), if_pos (show nI 6 = 6 from rfl)]; exact ⟨fun z => hn ⟨Or.inr rfl, z⟩, last _ rfl⟩
        by_cases h5 : o = 5
        · rw [if_pos (show nI o = 5 by rw [h5]; rfl)]
          refine ⟨inb_nI (by omega) (by decide), ?_⟩
          by_cases z : S (h - 1) = 0
          · rw [if_pos ⟨Or.inl h5, z⟩] at H
            rw [if_pos z]; exact H M (only.rf _ _)
          · rw [if_neg z]; exact fin (fun w => z w.2)
        · rw [if_neg (show ¬ nI o = 5 from ne 5 (by decide) h5)]
          by_cases h6 : o = 6
          · rw [if_pos (show nI o = 6 by rw [h6]; rfl)]
            refine ⟨inb_nI (by omega) (by decide), ?_⟩
            by_cases z : S (h - 1) = 0
            · rw [if_pos ⟨Or.inr h6, z⟩] at H
              rw [if_pos z]; exact H M (only.rf _ _)
            · rw [if_neg z]; exact fin (fun w => z w.2)
          · rw [if_neg (show ¬ nI o = 6 from ne 6 (by decide) h6)]
            exact fin (fun w => by omega)
      · rw [if_neg (by omega), if_neg (by omega), if_neg (by omega), if_pos (by omega)] at H
        have hb : h = 2 := w3.2.2.1 o1 (show o < 10 by omega)
        subst hb
        rw [mS_n (by decide)] at hS
        rw [if_neg (show ¬ nI o = 0 from ne 0 (by decide) (by omega)), if_neg (show ¬ nI o = 1 from ne 1 (by decide) (by omega)), if_neg (show ¬ nI o = 10 from ne 10 (by decide) (by omega)), if_neg (show ¬ nI o = 11 from ne 11 (by decide) (by omega)), if_neg (show ¬ nI o = 12 from ne 12 (by decide) (by omega)), if_neg (show ¬ nI o = 5 from ne 5 (by decide) (by omega)), if_neg (show ¬ nI o = 6 from ne 6 (by decide) (by omega))]
        refine r_m_comesTo_203 ?_
        have e1 := t1 99 (by unfold l_nh; rw [if_neg (by omega), if_neg (by omega), if_pos (by omega)])
        show mq_inb (nI 0) 260 = true ∧ mq_inb (nI 1) 260 = true ∧ pu_I L (d + 1) 200 [.int (nI o), .int (M 74 0), .int (M 74 1)] M (fun x4 M3 => mq_inb (nI 0) 260 = true ∧ pu_R L (d + 2) 201 16 [.ref 58, .int (nI a), .int (nI b), .int (nI 1), .int 0, .int (nI (p + 1)), .int (nI o), .int (nI v)] [] (pu_wr M3 74 0 x4) (pu_qI Q))
        rw [hS 0 (by decide), hS 1 (by decide)]
        refine ⟨by decide, by decide, r_m_reckon ?_⟩
        have last : ∀ q : Bool, q = l_cp o (S 0) (S 1) → mq_inb (nI 0) 260 = true ∧ pu_R L (d + 2) 201 16 [.ref 58, .int (nI a), .int (nI b), .int (nI 1), .int 0, .int (nI (p + 1)), .int (nI o), .int (nI v)] [] (pu_wr M 74 0 (bI q)) (pu_qI Q) := by
          intro q hq
          subst hq
          refine ⟨by decide, nxt (p + 1) 1 S _ _ _ _ (by omega) (by omega) ?_ (by rw [e1]; rfl) ow H⟩
          rw [e1, mS_99, pu_wr_self, upd_s]
        have hc3 : o = 7 ∨ o = 8 ∨ o = 9 := by omega
        rw [if_neg (show ¬ nI o = 2 from ne 2 (by decide) (by omega)), if_neg (show ¬ nI o = 3 from ne 3 (by decide) (by omega)), if_neg (show ¬ nI o = 4 from ne 4 (by decide) (by omega)), if_neg (show ¬ nI o = 5 from ne 5 (by decide) (by omega)), if_neg (show ¬ nI o = 6 from ne 6 (by decide) (by omega))]
        rcases hc3 with rfl | rfl | rfl
        · rw [if_pos (show nI 7 = 7 from rfl)]
          by_cases z : S 1 ≤ S 0
          · rw [if_pos z]; exact last false (by show false = decide (S 0 < S 1); rw [decide_eq_false (le_not_lt z)])
          · rw [if_neg z]; exact last true (by show true = decide (S 0 < S 1); rw [decide_eq_true (Int32.not_le.mp z)])
        · rw [if_neg (show ¬ nI 8 = 7 by decide), if_pos (show nI 8 = 8 from rfl)]
          by_cases z : S 0 ≤ S 1
          · rw [if_pos z]; exact last false (by show false = decide (S 1 < S 0); rw [decide_eq_false (le_not_lt z)])
          · rw [if_neg z]; exact last true (by show true = decide (S 1 < S 0); rw [decide_eq_true (Int32.not_le.mp z)])
        · rw [if_neg (show ¬ nI 9 = 7 by decide), if_neg (show ¬ nI 9 = 8 by decide)]
          by_cases z : S 0 = S 1
          · rw [if_pos z]; exact last true (by show true = decide (S 0 = S 1); rw [decide_eq_true z])
          · rw [if_neg z]; exact last false (by show false = decide (S 0 = S 1); rw [decide_eq_false z])
      · rw [if_neg (by decide), if_neg (by decide), if_neg (by decide), if_neg (by decide), if_pos rfl] at H
        have hb : h = 99 := w3.2.2.2 (show 10 ≤ 10 by decide)
        subst hb
        rw [mS_99] at hS
        rw [if_neg (show ¬ nI 10 = 0 by decide), if_neg (show ¬ nI 10 = 1 by decide), if_pos (show nI 10 = 10 from rfl)]
        show mq_inb (nI 0) 260 = true ∧ mq_inb (nI 0) 260 = true ∧ pu_R L (d + 2) 201 16 [.ref 58, .int (nI a), .int (nI b), .int (nI 1), .int 0, .int (nI (p + 1)), .int (nI 10), .int (nI v)] [] (pu_wr M 74 0 (1 - M 74 0)) (pu_qI Q)
        rw [hS]
        have e1 := t1 99 rfl
        refine ⟨by decide, by decide, nxt (p + 1) 1 S (!fl) _ _ _ (by omega) (by omega) ?_ (by rw [e1]; rfl) ow H⟩
        rw [e1, mS_99, pu_wr_self, upd_s]
        cases fl <;> rfl
      · rw [if_neg (by decide), if_neg (by decide), if_neg (by decide), if_neg (by decide), if_neg (by decide), if_pos rfl] at H
        have hb : h = 99 := w3.2.2.2 (show 10 ≤ 11 by decide)
        subst hb
        obtain ⟨j1, j2, j3⟩ := (w4 (by decide)).resolve_left id
        have hS0 := mS_99.mp hS
        rw [if_neg (show ¬ nI 11 = 0 by decide), if_neg (show ¬ nI 11 = 1 by decide), if_neg (show ¬ nI 11 = 10 by decide), if_pos (show nI 11 = 11 from rfl), if_neg (show ¬ nI 11 = 12 by decide)]
        show mq_inb (nI 0) 260 = true ∧ pu_R L (d + 2) 201 155 [.ref 58, .int (nI a), .int (nI b), .int (nI 1), .int 0, .int (nI (p + 1)), .int (nI 11), .int (nI v)] [.int 0, .int (M 74 0)] M (pu_qI Q)
        rw [hS0]
        refine ⟨by decide, r_m_comesTo_155 ?_⟩
        cases fl with
        | false =>
          rw [if_neg (by decide)] at H
          rw [if_pos (show bI false = 0 from rfl), n_0, nI_add, Nat.zero_add]
          exact nxt v 1 S false M _ _ j1 j2 (by rw [j3]; exact hS) (by rw [j3]; rfl) (only.rf _ _) H
        | true =>
          rw [if_pos rfl] at H
          rw [if_neg (show ¬ bI true = 0 by decide)]
          have e1 := t1 0 rfl
          exact nxt (p + 1) 0 S true M _ _ (by omega) (by omega) (by rw [e1, mS_n (by decide)]; exact fun i hi => absurd hi (by omega)) (by rw [e1]; rfl) (only.rf _ _) H
      · rw [if_neg (by decide), if_neg (by decide), if_neg (by decide), if_neg (by decide), if_neg (by decide), if_neg (by decide)] at H
        have hb : h = 99 := w3.2.2.2 (show 10 ≤ 12 by decide)
        subst hb
        obtain ⟨j1, j2, j3⟩ := (w4 (by decide)).resolve_left id
        have hS0 := mS_99.mp hS
        rw [if_neg (show ¬ nI 12 = 0 by decide), if_neg (show ¬ nI 12 = 1 by decide), if_neg (show ¬ nI 12 = 10 by decide), if_neg (show ¬ nI 12 = 11 by decide), if_pos (show nI 12 = 12 from rfl), if_pos (show nI 12 = 12 from rfl)]
        show mq_inb (nI 0) 260 = true ∧ pu_R L (d + 2) 201 155 [.ref 58, .int (nI a), .int (nI b), .int (nI 1), .int 0, .int (nI (p + 1)), .int (nI 12), .int (nI v)] [.int 1, .int (M 74 0)] M (pu_qI Q)
        rw [hS0]
        refine ⟨by decide, r_m_comesTo_155 ?_⟩
        cases fl with
        | true =>
          rw [if_pos rfl] at H
          rw [if_pos (show bI true = 1 from rfl), n_0, nI_add, Nat.zero_add]
          exact nxt v 1 S true M _ _ j1 j2 (by rw [j3]; exact hS) (by rw [j3]; rfl) (only.rf _ _) H
        | false =>
          rw [if_neg (by decide)] at H
          rw [if_neg (show ¬ bI false = 1 by decide)]
          have e1 := t1 0 rfl
          exact nxt (p + 1) 0 S false M _ _ (by omega) (by omega) (by rw [e1, mS_n (by decide)]; exact fun i hi => absurd hi (by omega)) (by rw [e1]; rfl) (only.rf _ _) H
theorem c_N_run {M : pu_M} {Q : Int32 → pu_M → Prop} (hab : a ≤ b) (hbc : b ≤ c) (hc : c ≤ 240) (hw : l_wt a noP (0, b, f, hE)) (ht : l_ty (0, b, f, hE) a = 0) (hC : ∀ p, p < c → M 69 p = nI (1048576 * (f p).1 + (f p).2.1) ∧ (f p).2.1 < 1048576) (hV : ∀ v, v < 8 → M 75 v = u v) (H : match l_ex f u b 240 a (fun _ => 0) false with
    | none => ∀ M', only (fun k => k = 74) M M' → Q 0 M'
    | some z => ∀ M', mS M' z.1 hE z.2 → only (fun k => k = 74) M M' → Q (M' 74 0) M') : pu_I L (d + 2) 201 [.ref 58, .int (nI a), .int (nI b)] M Q := by
  refine r_m_comesTo ?_
  have e0 : (260 : Int32) * (nI a / 260) = 0 := by
    rw [n_260, pk_div (by omega) (by decide) (by decide), show a / 260 = 0 by omega, pk_mul]; rfl
  rw [e0]
  have := c_N_run1 (L := L) (d := d) (u := u) (Q := Q) (g := 240) (p := a) (S := fun _ => 0) (fl := false) (M := M) (v6 := mq_un) (v7 := mq_un) hbc hc hw (Nat.le_refl _) hab (by omega) hC hV (by rw [ht, mS_n (by decide)]; exact fun i hi => absurd hi (by omega)) H
  rw [ht] at this
  exact this
end RN
