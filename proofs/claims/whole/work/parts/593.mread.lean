/-! the model reads THE LAW: conditions -/
def epc : Wl → Nat → Lst → Wl × Nat × Lst
  | [], o, s => ([], o, s)
  | x :: W, o, s => if x.1 = 10 then epc W (o - 1) (l_emt 10 0 s) else (x :: W, o, s)
def nnt : Wl → Nat
  | [] => 0
  | x :: W => if x.1 = 10 then nnt W + 1 else 0
def pd1 (a : Nat) : Option Nat → Wl
  | none => []
  | some p => [(a, p)]
section NC
variable {L d : Nat} {tb : Nat → Nat} {e : Nat} {Q : Int32 → pu_M → Prop}
theorem c_N_ep {Q : pu_M → Prop} : ∀ {W : Wl} {o : Nat} {M : pu_M} {s : Lst}, nnt W ≤ o → o ≤ 6 → lcn s + nnt W ≤ 250 → W.length ≤ 260 → mT tb e M W o s → (∀ M', mT tb e M' (epc W o s).1 (epc W o s).2.1 (epc W o s).2.2 → mF M M' → Q M') → pu_R L (d + 2) 192 0 [.ref 58] [] M (pu_qV Q) := by
  intro W
  induction W with
  | nil =>
    intro o M s h1 h2 h3 h4 h H
    refine r_m_endsPiece_0 (c_N_top (by decide) h ?_)
    rw [if_neg (show ¬ l_tp1 [] = 10 by decide)]
    exact H M h (mF.rf M)
  | cons x W ih =>
    intro o M s h1 h2 h3 h4 h H
    refine r_m_endsPiece_0 (c_N_top h4 h ?_)
    obtain ⟨w1, w2, w3, w4⟩ := h.2.2.1.2
    have eN : nnt (x :: W) = if x.1 = 10 then nnt W + 1 else 0 := rfl
    have eE : epc (x :: W) o s = if x.1 = 10 then epc W (o - 1) (l_emt 10 0 s) else (x :: W, o, s) := rfl
    rw [eN] at h1 h3
    rw [eE] at H
    show if nI x.1 = 10 then _ else _
    by_cases z : x.1 = 10
    · rw [if_pos z] at h1 h3 H
      rw [if_pos (by rw [z]; rfl)]
      refine c_N_notes (a := 10) (v := 0) (by decide) (by decide) (by omega) h (fun M1 t1 f1 => ?_)
      have t2 := mT_pop t1
      have e9 : pu_wr M1 58 11 (M1 58 11 - 1) 58 9 - 1 = nI (o - 1) := by rw [t2.2.2.2]; exact pk_sub (a := o) (b := 1) (by omega)
      rw [e9]
      have h4 : W.length + 1 ≤ 260 := h4
      exact ih (s := l_emt 10 0 s) (by omega) (by omega) (show lcn s + 1 + nnt W ≤ 250 by omega) (by omega) (mT_open t2) (fun M2 t3 f3 => H M2 t3 (((f1.w58 (by omega)).w58 (by omega)).tr f3))
    · rw [if_neg z] at H
      rw [if_neg (by rw [n_10, nI_eq (by omega) (by decide)]; exact z)]
      exact H M h (mF.rf M)
/-- a skip lands -/
theorem c_N_land {Q : pu_M → Prop} {a p : Nat} {W : Wl} {o : Nat} {M : pu_M} {s : Lst} {v1 : Int32} {v2 : Value} (hp : p < lcn s) (hc : lcn s ≤ 250) (hW : W.length < 260) (h : mT tb e M ((a, p) :: W) o s) (H : ∀ M' v, mT tb e M' W o (l_pat (some p) s) → mF M M' → pu_R L (d + 2) 193 0 [.ref 58, .int v1, v] [] M' (pu_qV Q)) : pu_R L (d + 2) 193 22 [.ref 58, .int v1, v2] [] M (pu_qV Q) := by
  refine r_m_lands_22 ?_
  obtain ⟨h1, h2, h3, h4⟩ := h
  obtain ⟨w1, w2, w3, w4⟩ := h3.2
  have el : M 58 11 - 1 = nI W.length := by rw [h3.1]; exact pk_sub (a := W.length + 1) (b := 1) (by omega)
  have w1 : M 64 W.length = nI (1048576 * a + p) := w1
  obtain ⟨c1, c2, c3⟩ := h2.2 p hp
  rw [el, nI_clamp (show W.length < 2 ^ 31 by omega), w1, u_rem w2 w3, nI_clamp (show p < 2 ^ 31 by omega), c1, u_div c2 c3, h2.1, n_1048576, pk_mul, nI_add]
  refine ⟨inb_nI hW (by decide), inb_nI (by omega) (by decide), inb_nI (by omega) (by decide), fun M4 e4 => ?_⟩
  have t4 : mT tb e M4 ((a, p) :: W) o (l_pat (some p) s) := by
    rw [e4]
    refine ⟨MSt_wr h1 (by decide) (Or.inl (by decide)), ⟨?_, fun k hk => ?_⟩, ⟨?_, ?_⟩, ?_⟩
    · rw [pu_wr_ne (by decide)]; exact h2.1
    · have hk : k < lcn s := hk
      rw [pu_wr_self]
      show _ = nI (1048576 * (fset (lfn s) p ((lfn s p).1, lcn s, (lfn s p).2.2) k).1 + (fset (lfn s) p ((lfn s p).1, lcn s, (lfn s p).2.2) k).2.1) ∧ (fset (lfn s) p ((lfn s p).1, lcn s, (lfn s p).2.2) k).1 ≤ 14 ∧ (fset (lfn s) p ((lfn s p).1, lcn s, (lfn s p).2.2) k).2.1 < 1048576
      by_cases z : k = p
      · subst z; rw [upd_s, fset_s]; exact ⟨rfl, c2, show lcn s < 1048576 by omega⟩
      · rw [upd_n z, fset_n z]; exact h2.2 k hk
    · rw [pu_wr_ne (by decide)]; exact h3.1
    · rw [pu_wr_ne (by decide)]; exact h3.2
    · rw [pu_wr_ne (by decide)]; exact h4
  have f4 : mF M M4 := by rw [e4]; exact (mF.rf M).w63
  exact H _ _ (mT_pop t4) (f4.w58 (by omega))
def l_no11 (W : Wl) (a : Nat) : Prop := ∀ x W', W = x :: W' → ¬ x.1 = 11 ∧ (a = 1 → ¬ x.1 = 12)
theorem c_N_landE {Q : pu_M → Prop} {a : Nat} {W : Wl} {o : Nat} {M : pu_M} {s : Lst} {v2 : Value} (ha : a ≤ 1) (hn : l_no11 W a) (hW : W.length ≤ 260) (h : mT tb e M W o s) (H : Q M) : pu_R L (d + 2) 193 0 [.ref 58, .int (nI a), v2] [] M (pu_qV Q) := by
  refine r_m_lands_0 (c_N_top hW h ?_)
  have hne : ∀ c : Nat, c = 11 ∨ (a = 1 ∧ c = 12) → ¬ l_tp1 W = nI c := by
    intro c hc
    cases W with
    | nil =>
      rcases hc with rfl | ⟨_, rfl⟩ <;> decide
    | cons x W =>
      obtain ⟨w1, w2, w3, w4⟩ := h.2.2.1.2
      show ¬ nI x.1 = nI c
      have := hn x W rfl
      rw [nI_eq (by omega) (by omega)]
      rcases hc with rfl | ⟨h1, rfl⟩
      · exact this.1
      · exact this.2 h1
  rw [if_neg (show ¬ l_tp1 W = 11 from hne 11 (Or.inl rfl))]
  by_cases z : nI a = 0
  · rw [if_pos z]; exact H
  · rw [if_neg z]
    have a1 : a = 1 := by
      rcases Nat.lt_or_ge a 1 with y | y
      · obtain rfl : a = 0 := by omega
        exact absurd rfl z
      · omega
    refine c_N_top hW h ?_
    rw [if_neg (show ¬ l_tp1 W = 12 from hne 12 (Or.inr ⟨a1, rfl⟩))]
    exact H
/-- skips of tests land -/
theorem c_N_lands0 {Q : pu_M → Prop} {ot : Option Nat} {W : Wl} {o : Nat} {M : pu_M} {s : Lst} (hp : ∀ p, ot = some p → p < lcn s) (hc : lcn s ≤ 250) (hn : l_no11 W 0) (hW : W.length < 260) (h : mT tb e M (pd1 11 ot ++ W) o s) (H : ∀ M', mT tb e M' W o (l_pat ot s) → mF M M' → Q M') : pu_V L (d + 2) 193 [.ref 58, .int 0] M Q := by
  refine r_m_lands ?_
  cases ot with
  | none => exact c_N_landE (a := 0) (by decide) hn (by omega) h (H M h (mF.rf M))
  | some p =>
    have hW2 : ((11, p) :: W).length ≤ 260 := hW
    refine r_m_lands_0 (c_N_top (W := (11, p) :: W) hW2 h ?_)
    rw [if_pos (show l_tp1 ((11, p) :: W) = 11 from rfl)]
    exact c_N_land (W := W) (a := 11) (hp p rfl) hc hW h (fun M1 v t1 f1 => c_N_landE (a := 0) (by decide) hn (by omega) t1 (H M1 t1 f1))
theorem c_N_lands1 {Q : pu_M → Prop} {ot op : Option Nat} {W : Wl} {o : Nat} {M : pu_M} {s : Lst} (hp : ∀ p, ot = some p → p < lcn s) (hp2 : ∀ p, op = some p → p < lcn s) (hc : lcn s ≤ 250) (hn : l_no11 W 1) (hW : W.length < 250) (h : mT tb e M (pd1 11 ot ++ (pd1 12 op ++ W)) o s) (H : ∀ M', mT tb e M' W o (l_pat op (l_pat ot s)) → mF M M' → Q M') : pu_V L (d + 2) 193 [.ref 58, .int 1] M Q := by
  refine r_m_lands ?_
  have two : ∀ (M1 : pu_M) (s1 : Lst) (v : Value), lcn s1 = lcn s → mT tb e M1 (pd1 12 op ++ W) o s1 → (∀ M', mT tb e M' W o (l_pat op s1) → mF M1 M' → Q M') → pu_R L (d + 2) 193 0 [.ref 58, .int 1, v] [] M1 (pu_qV Q) := by
    intro M1 s1 v e1 h1 H1
    cases op with
    | none => exact c_N_landE (a := 1) (by decide) hn (by omega) h1 (H1 M1 h1 (mF.rf M1))
    | some p =>
      have hW2 : ((12, p) :: W).length ≤ 260 := by show W.length + 1 ≤ 260; omega
      refine r_m_lands_0 (c_N_top (W := (12, p) :: W) hW2 h1 ?_)
      rw [if_neg (show ¬ l_tp1 ((12, p) :: W) = 11 by show ¬ nI 12 = 11; decide), if_neg (by decide)]
      refine c_N_top (W := (12, p) :: W) hW2 h1 ?_
      rw [if_pos (show l_tp1 ((12, p) :: W) = 12 from rfl)]
      exact c_N_land (W := W) (a := 12) (by rw [e1]; exact hp2 p rfl) (by omega) (by omega) h1 (fun M2 v t2 f2 => c_N_landE (a := 1) (by decide) hn (by omega) t2 (H1 M2 t2 f2))
  cases ot with
  | none => exact two M s _ rfl h H
  | some p =>
    have hl : (pd1 12 op ++ W).length ≤ 251 := by
      cases op with
      | none => show W.length ≤ 251; omega
      | some q => show W.length + 1 ≤ 251; omega
    have hW2 : ((11, p) :: (pd1 12 op ++ W)).length ≤ 260 := by show (pd1 12 op ++ W).length + 1 ≤ 260; omega
    refine r_m_lands_0 (c_N_top (W := (11, p) :: (pd1 12 op ++ W)) hW2 h ?_)
    rw [if_pos (show l_tp1 ((11, p) :: (pd1 12 op ++ W)) = 11 from rfl)]
    exact c_N_land (W := pd1 12 op ++ W) (a := 11) (hp p rfl) hc (by omega) h (fun M1 v t1 f1 => two M1 (l_pat (some p) s) v rfl t1 (fun M2 t2 f2 => H M2 t2 (f1.tr f2)))
theorem c_N_jumps {Q : pu_M → Prop} {a : Nat} {W : Wl} {o : Nat} {M : pu_M} {s : Lst} (ha : a ≤ 14) (hc : lcn s < 260) (hW : W.length < 260) (h : mT tb e M W o s) (H : ∀ M', mT tb e M' ((a, lcn s) :: W) o (l_adv (l_emt a 0 s)) → mF M M' → Q M') : pu_V L (d + 2) 194 [.ref 58, .int (nI a)] M Q := by
  refine r_m_jumps ?_
  have e11 : M 58 11 = nI W.length := h.2.2.1.1
  rw [e11, pu_wr_ne (show (58 : Nat) ≠ 64 by decide), e11, h.2.1.1, nI_clamp (by omega), n_1048576, pk_mul, nI_add, nI_1]
  refine ⟨inb_nI hW (by decide), fun M2 e2 => ?_⟩
  have t2 := mT_push (x := (a, lcn s)) h ha (show lcn s < 1048576 by omega)
  have t2 : mT tb e M2 ((a, lcn s) :: W) o s := by rw [e2]; exact t2
  have f2 : mF M M2 := by rw [e2]; exact ((mF.rf M).w64).w58 (by omega)
  refine c_N_notes (a := a) (v := 0) ha (by decide) hc t2 (fun M4 t4 f4 => ?_)
  have e5 : M4 58 5 = nI (lqn s) := t4.1.2.1
  rw [e5, nI_1]
  exact H _ (mT_adv t4) ((f2.tr f4).w58 (by omega))
theorem c_N_cmp {r : Nat} {W : Wl} {M : pu_M} {s : Lst} {Q : Int32 → pu_M → Prop} (hX : TX tb e) (hr : r ≤ 6) (hW0 : l_nop W 2) (h : mT tb e M W (6 - r) s) (hW : W.length ≤ lqn s) (hn : nnt W ≤ 6 - r) (hc : lcn s + nnt W ≤ lqn s) (hq : lqn s ≤ e) (H : l_po (fun f => ∀ M', M' 58 7 = f → mF M M' → Q 0 M') (fun s' => ∀ M', mT tb e M' (epc W (6 - r) s').1 (epc W (6 - r) s').2.1 (epc W (6 - r) s').2.2 → mF M M' → Q 1 M') (l_cmp tb e r s)) : pu_I L (d + 6) 195 [.ref 58] M Q := by
  have he := hX.1
  refine r_m_readsCompared ?_
  unfold l_cmp at H
  rw [l_po_bn] at H
  have ok := l_sum_ok (tb := tb) (r := r) he (s := s) hq
  refine c_N_sum (r := r) hX hr hW0 h hW (by omega) hq ?_
  refine l_po_mono (l_po_and ok H) (fun f hfx z M1 a1 f1 => ?_) (fun s1 hsx z M1 t1 f1 => ?_)
  · dsimp only
    rw [if_pos rfl]; exact z.2 M1 a1 f1
  · obtain ⟨⟨a1, a2, a3⟩, H1⟩ := z
    rw [if_neg (by decide)]
    unfold l_cmp2 at H1
    have good : ∀ k : Nat, l_co (ch tb e (lqn s1)) = some k → pu_R L (d + 6) 195 52 [.ref 58, mq_un] [.int (nI k)] M1 (pu_qI Q) := by
      intro k hk
      rw [hk] at H1
      obtain ⟨o1, o2, o3⟩ := l_co_lt hk
      dsimp only at H1
      rw [l_po_bn] at H1
      refine r_m_readsCompared_52 ?_
      rw [if_neg (fun z => (nI_m1 (show k < 2 ^ 31 by omega)).mp z), t1.1.2.1, nI_1]
      have t2 := mT_adv t1
      have f2 : mF M (pu_wr M1 58 5 (nI (lqn s1 + 1))) := f1.w58 (by omega)
      have hq2 : lqn (l_adv s1) = lqn s1 + 1 := rfl
      have hc2 : lcn (l_adv s1) = lcn s1 := rfl
      have ok2 := l_sum_ok (tb := tb) (r := r) he (s := l_adv s1) o1
      refine c_N_sum (r := r) (s := l_adv s1) hX hr hW0 t2 (by omega) (by omega) o1 ?_
      refine l_po_mono (l_po_and ok2 H1) (fun f hfx z M3 b1 f3 => ?_) (fun s2 hsx z M3 t3 f3 => ?_)
      · dsimp only
        rw [if_pos rfl]; exact z.2 M3 b1 (f2.tr f3)
      · obtain ⟨⟨b1, b2, b3⟩, H3⟩ := z
        rw [if_neg (by decide)]
        refine c_N_notes (a := k) (v := 0) (by omega) (by decide) (by omega) t3 (fun M4 t4 f4 => ?_)
        exact r_m_endsPiece (c_N_ep (s := l_emt k 0 s2) hn (by omega) (show lcn s2 + 1 + nnt W ≤ 250 by omega) (by omega) t4 (fun M5 t5 f5 => H3 M5 t5 (((f2.tr f3).tr f4).tr f5)))
    refine c_N_here hX (by omega) t1 ?_
    by_cases c1 : ch tb e (lqn s1) = 60
    · rw [if_pos c1]; exact good 7 (by unfold l_co; rw [if_pos c1])
    rw [if_neg c1]
    refine c_N_here hX (by omega) t1 ?_
    by_cases c2 : ch tb e (lqn s1) = 62
    · rw [if_pos c2]; exact good 8 (by unfold l_co; rw [if_neg c1, if_pos c2])
    rw [if_neg c2]
    refine c_N_here hX (by omega) t1 ?_
    by_cases c3 : ch tb e (lqn s1) = 61
    · rw [if_pos c3]; exact good 9 (by unfold l_co; rw [if_neg c1, if_neg c2, if_pos c3])
    rw [if_neg c3]
    have hno : l_co (ch tb e (lqn s1)) = none := by unfold l_co; rw [if_neg c1, if_neg c2, if_neg c3]
    rw [hno] at H1
    refine r_m_readsCompared_52 ?_
    rw [if_pos rfl]
    exact c_N_wrong t1 (fun M' a b => ⟨Or.inl rfl, H1 M' a (f1.tr b)⟩)
/-- behind a ) -/
def nG (L d : Nat) (Q : Int32 → pu_M → Prop) (M : pu_M) : Prop := if M 58 11 = 0 then Q 1 M else pu_V L (d + 6) 192 [.ref 58] M (fun M17 => pu_R L (d + 7) 196 92 [.ref 58] [] M17 (pu_qI Q))
def nTst (L d : Nat) (tb : Nat → Nat) (e : Nat) (Q : Int32 → pu_M → Prop) (r : Nat) : Prop := ∀ (W : Wl) (M : pu_M) (s : Lst), mT tb e M W (6 - r) s → 0 < W.length → W.length ≤ lqn s → l_nop W 2 → nnt W ≤ 6 - r → lcn s + nnt W ≤ lqn s → lqn s ≤ e → l_po (fun f => ∀ M', M' 58 7 = f → mF M M' → Q 0 M') (fun s' => ∀ M', mT tb e M' (epc W (6 - r) s').1 (epc W (6 - r) s').2.1 (epc W (6 - r) s').2.2 → mF M M' → pu_R L (d + 7) 196 92 [.ref 58] [] M' (pu_qI Q)) (l_tst tb e r s) → pu_R L (d + 7) 196 40 [.ref 58] [] M (pu_qI Q)
theorem pd1_len (a : Nat) (w : Option Nat) : (pd1 a w).length = l_ww w := by cases w <;> rfl
theorem c_N_conL {r : Nat} {W : Wl} (hX : TX tb e) (hr : r < 6) (htst : nTst L d tb e Q r) : ∀ {g : Nat} {ot op : Option Nat} {M : pu_M} {s : Lst}, (∀ p, ot = some p → p < lcn s) → (∀ p, op = some p → p < lcn s) → mT tb e M (pd1 11 ot ++ (pd1 12 op ++ (13, 0) :: W)) (6 - r) s → W.length + 1 + l_ww ot + l_ww op ≤ lqn s → lcn s ≤ lqn s → lqn s ≤ e → e < lqn s + g → nP tb e W (6 - (r + 1)) (Q 0) (nG L d Q) M (l_bn (l_conL tb e (l_tst tb e r) g ot op s) (l_end tb e 41)) → pu_R L (d + 7) 196 92 [.ref 58] [] M (pu_qI Q) := by
  have he := hX.1
  intro g
  induction g with
  | zero => intro ot op M s w1 w2 h hlen hc hq hg; omega
  | succ g ih =>
    intro ot op M s w1 w2 h hlen hc hq hg H
    have hol := l_ww_le ot
    have hpl := l_ww_le op
    have n13 : l_no11 ((13, 0) :: W) 1 := fun x W' z => by cases z; exact ⟨by decide, fun _ => by decide⟩
    have lenW : ((13, 0) :: W).length = W.length + 1 := rfl
    unfold l_conL at H
    refine r_m_readsCondition_92 (c_N_here hX (by omega) h ?_)
    by_cases h41 : ch tb e (lqn s) = 41
    · rw [if_pos h41]
      rw [if_neg (by rw [h41]; decide), if_neg (by rw [h41]; decide)] at H
      have H : nP tb e W (6 - (r + 1)) (Q 0) (nG L d Q) M (l_end tb e 41 (l_pat op (l_pat ot s))) := H
      unfold l_end at H
      have eq1 : lqn (l_pat op (l_pat ot s)) = lqn s := by rw [l_pat_q, l_pat_q]
      rw [eq1, if_pos h41] at H
      refine c_N_lands1 w1 w2 (by omega) n13 (by omega) h (fun M1 t1 f1 M15 e15 => ?_)
      have t2 := mT_pop t1
      have e9 : pu_wr M1 58 11 (M1 58 11 - 1) 58 9 - 1 = nI (6 - (r + 1)) := by
        rw [t2.2.2.2]; exact (pk_sub (a := 6 - r) (b := 1) (by omega)).trans (by rw [show 6 - r - 1 = 6 - (r + 1) by omega])
      rw [e9] at e15
      have t3 := mT_open (o' := 6 - (r + 1)) t2
      have e5 : (pu_wr (pu_wr M1 58 11 (M1 58 11 - 1)) 58 9 (nI (6 - (r + 1)))) 58 5 = nI (lqn s) := by have := t3.1.2.1; rwa [eq1] at this
      rw [e5, nI_1] at e15
      have t4 := mT_adv t3
      rw [eq1, ← e15] at t4
      have f4 : mF M M15 := by rw [e15]; exact ((f1.w58 (by omega)).w58 (by omega)).w58 (by omega)
      exact H M15 t4 f4
    · rw [if_neg h41]
      refine c_N_here hX (by omega) h ?_
      by_cases h38 : ch tb e (lqn s) = 38
      · rw [if_pos h38] at H ⊢
        have hl := ch_m1 h38 (by decide)
        refine c_N_here hX (by omega) h ?_
        rw [if_neg (by rw [h38]; decide)]
        have lo : (pd1 12 op ++ (13, 0) :: W).length = l_ww op + (W.length + 1) := by rw [List.length_append, pd1_len]; rfl
        refine r_m_readsCondition_195 (c_N_lands0 w1 (by omega) ?_ (by omega) h (fun M1 t1 f1 => ?_))
        · intro x W' z
          cases op with
          | none => cases z; exact ⟨by decide, fun z => absurd z (by decide)⟩
          | some p =>
            have z : (12, p) :: (13, 0) :: W = x :: W' := z
            cases z; exact ⟨by show ¬ 12 = 11; decide, fun z => absurd z (by decide)⟩
        · have hq1 : lqn (l_pat ot s) = lqn s := l_pat_q ot s
          have hc1 : lcn (l_pat ot s) = lcn s := l_pat_c ot s
          refine c_N_here hX (by omega) t1 ?_
          rw [hq1, if_pos h38]
          refine c_N_jumps (a := 11) (by decide) (by omega) (by omega) t1 (fun M2 t2 f2 => ?_)
          rw [hc1] at t2
          have hq2 : lqn (l_adv (l_emt 11 0 (l_pat ot s))) = lqn s + 1 := by show lqn (l_pat ot s) + 1 = _; rw [hq1]
          have hc2 : lcn (l_adv (l_emt 11 0 (l_pat ot s))) = lcn s + 1 := by show lcn (l_pat ot s) + 1 = _; rw [hc1]
          have H2 := nP_fr (f1.tr f2) H
          unfold nP at H2
          rw [l_po_bn, l_po_bn] at H2
          have ok := l_tst_ok (tb := tb) (r := r) he (s := l_adv (l_emt 11 0 (l_pat ot s))) (by omega)
          have mn := l_tst_mono (tb := tb) (r := r) (e := e) (s := l_adv (l_emt 11 0 (l_pat ot s)))
          have en : nnt ((11, lcn s) :: (pd1 12 op ++ (13, 0) :: W)) = 0 := rfl
          refine htst ((11, lcn s) :: (pd1 12 op ++ (13, 0) :: W)) M2 _ t2 (Nat.succ_pos _) (show (pd1 12 op ++ (13, 0) :: W).length + 1 ≤ _ by omega) (fun x W' z => by cases z; right; show 7 ≤ 11; decide) (by rw [en]; omega) (by rw [en]; omega) (by omega) ?_
          refine l_po_mono (l_po_and (l_po_and ok mn) H2) (fun f hfx z M3 a3 f3 => z.2 M3 a3 f3) (fun s1 hsx z M3 t3 f3 => ?_)
          obtain ⟨⟨⟨a1, a2, a3⟩, a4⟩, H3⟩ := z
          have H4 : nP tb e W (6 - (r + 1)) (Q 0) (nG L d Q) M2 (l_bn (l_conL tb e (l_tst tb e r) g (some (lcn s)) op s1) (l_end tb e 41)) := l_po_bn.mpr H3
          exact ih (ot := some (lcn s)) (op := op) (M := M3) (s := s1) (fun p z => by cases z; omega) (fun p z => by have := w2 p z; omega) t3 (show W.length + 1 + 1 + l_ww op ≤ lqn s1 by omega) (by omega) a2 (by omega) (nP_fr f3 H4)
      · rw [if_neg h38] at H ⊢
        refine c_N_here hX (by omega) h ?_
        by_cases h124 : ch tb e (lqn s) = 124
        · rw [if_pos h124] at H ⊢
          have hl := ch_m1 h124 (by decide)
          refine c_N_here hX (by omega) h ?_
          rw [if_pos h124]
          refine r_m_readsCondition_195 (c_N_lands1 w1 w2 (by omega) n13 (by omega) h (fun M1 t1 f1 => ?_))
          have hq1 : lqn (l_pat op (l_pat ot s)) = lqn s := by rw [l_pat_q, l_pat_q]
          have hc1 : lcn (l_pat op (l_pat ot s)) = lcn s := by rw [l_pat_c, l_pat_c]
          refine c_N_here hX (by omega) t1 ?_
          rw [hq1, if_neg h38]
          refine c_N_jumps (a := 12) (by decide) (by omega) (by omega) t1 (fun M2 t2 f2 => ?_)
          rw [hc1] at t2
          have hq2 : lqn (l_adv (l_emt 12 0 (l_pat op (l_pat ot s)))) = lqn s + 1 := by show lqn (l_pat op (l_pat ot s)) + 1 = _; rw [hq1]
          have hc2 : lcn (l_adv (l_emt 12 0 (l_pat op (l_pat ot s)))) = lcn s + 1 := by show lcn (l_pat op (l_pat ot s)) + 1 = _; rw [hc1]
          have H2 := nP_fr (f1.tr f2) H
          unfold nP at H2
          rw [l_po_bn, l_po_bn] at H2
          have ok := l_tst_ok (tb := tb) (r := r) he (s := l_adv (l_emt 12 0 (l_pat op (l_pat ot s)))) (by omega)
          have mn := l_tst_mono (tb := tb) (r := r) (e := e) (s := l_adv (l_emt 12 0 (l_pat op (l_pat ot s))))
          have en : nnt ((12, lcn s) :: (13, 0) :: W) = 0 := rfl
          refine htst ((12, lcn s) :: (13, 0) :: W) M2 _ t2 (Nat.succ_pos _) (show W.length + 1 + 1 ≤ _ by omega) (fun x W' z => by cases z; right; show 7 ≤ 12; decide) (by rw [en]; omega) (by rw [en]; omega) (by omega) ?_
          refine l_po_mono (l_po_and (l_po_and ok mn) H2) (fun f hfx z M3 a3 f3 => z.2 M3 a3 f3) (fun s1 hsx z M3 t3 f3 => ?_)
          obtain ⟨⟨⟨a1, a2, a3⟩, a4⟩, H3⟩ := z
          have H4 : nP tb e W (6 - (r + 1)) (Q 0) (nG L d Q) M2 (l_bn (l_conL tb e (l_tst tb e r) g none (some (lcn s)) s1) (l_end tb e 41)) := l_po_bn.mpr H3
          exact ih (ot := none) (op := some (lcn s)) (M := M3) (s := s1) (fun p z => by cases z) (fun p z => by cases z; omega) t3 (show W.length + 1 + 0 + 1 ≤ lqn s1 by omega) (by omega) a2 (by omega) (nP_fr f3 H4)
        · rw [if_neg h124] at H ⊢
          have H : nP tb e W (6 - (r + 1)) (Q 0) (nG L d Q) M (l_end tb e 41 (l_pat op (l_pat ot s))) := H
          unfold l_end at H
          have eq1 : lqn (l_pat op (l_pat ot s)) = lqn s := by rw [l_pat_q, l_pat_q]
          rw [eq1, if_neg h41] at H
          exact c_N_wrong h (fun M' a b => ⟨Or.inl rfl, H M' a b⟩)
end NC
