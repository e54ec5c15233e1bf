/-! good -/
theorem fo_first {α : Type} {f : Nat → α → α} {x z : α} (h : f 0 x = f 0 z) : ∀ n, fo f (n + 1) x = fo f (n + 1) z
  | 0 => h
  | n + 1 => by show f (n + 1) (fo f (n + 1) x) = f (n + 1) (fo f (n + 1) z); rw [fo_first h n]
def gsay (P : Pp) (w : Nat) : Int32 := match who P w with
  | some q => tas P q w 0
  | none => 0
def gst (P : Pp) (r a b : Nat) (s : Int32 × Int32 × Int32 × Int32) : Int32 × Int32 × Int32 × Int32 := (s.1 + gsay P (10 * r + b), off (nI a) (nI b) (s.1 + gsay P (10 * r + b)) s.2)
def gdo (P : Pp) (r a : Nat) (t : Int32 × Int32 × Int32) : Int32 × Int32 × Int32 := (fo (fun j s => gst P r a (a + j) s) (10 - a) (0, t)).2
def s_good (P : Pp) (v w : Int32) : Int32 := if (v < 0 ∨ 5 < v) ∨ (w < 0 ∨ 2 < w) then -1000 else tell3 w (fo (gdo P v.toNatClampNeg) 10 (-2, -2, -1000000))
theorem sm_gsay (P : Pp) (w : Nat) : sm (gsay P w) 1024 := by
  unfold gsay; split
  · exact sm_tas P _ _ _
  · exact sm_0 _
theorem gdo_first (P : Pp) (r : Nat) : fo (gdo P r) 10 (-2, -2, -1000000) = fo (gdo P r) 10 (0, 0, -1000000) := by
  refine fo_first (f := gdo P r) ?_ 9
  unfold gdo
  refine congrArg Prod.snd (fo_first (n := 9) ?_)
  show gst P r 0 (0 + 0) _ = gst P r 0 (0 + 0) _
  unfold gst off
  have hs : sm (0 + gsay P (10 * r + (0 + 0))) 20000 := sm_le (sm_add (sm_0 0) (sm_gsay P _) (by decide)).1 (by decide)
  rw [if_neg (far_lt hs), if_neg (far_lt hs)]
theorem v6 (v : Int32) : (∃ p, p < 6 ∧ v = nI p) ∨ (v < 0 ∨ 5 < v) := by
  by_cases h : v < 0
  · exact Or.inr (Or.inl h)
  · by_cases h2 : 5 < v
    · exact Or.inr (Or.inr h2)
    · obtain ⟨j, hj, e⟩ := nI_of2 (M := 5) (n := 5) rfl h (Int32.not_lt.mp h2)
      exact Or.inl ⟨j, by omega, e⟩
theorem in5 {p : Nat} (hp : p < 6) : ¬ (nI p < 0 ∨ 5 < nI p) := by
  intro h
  rcases h with h | h
  · exact nI_pos (by omega) h
  · rw [n_5, nI_ltI (by omega) (by omega)] at h; omega
section GC
variable {L d : Nat} {M : pu_M} {P : Pp} {y : Nat}
theorem c_x_good {Q : Int32 → pu_M → Prop} {v w : Int32} (h9 : M 0 9 = nI y) (hy : pu_isY y) (hC : CY P M y) (hI : PI P) (H : ∀ M', eqX M M' → Q (s_good P v w) M') : pu_I L (d + 5) 142 [.ref 0, .int v, .int w] M Q := by
  refine r_x_good ?_
  unfold s_good at H
  rcases v6 v with ⟨r, hr, rfl⟩ | hv
  · have hr5 := in5 hr
    rw [if_neg (fun z => hr5 (Or.inl z)), if_neg (fun z => hr5 (Or.inr z))]
    rw [nI_clamp (by omega)] at H
    rcases v02 (w := w) with hw | ⟨hw1, hw2⟩
    · rw [if_pos (Or.inr hw)] at H
      by_cases h0 : w < 0
      · rw [if_pos h0]; exact H M (eqX.rf M)
      · rw [if_neg h0, if_neg (lt_not_le (hw.resolve_left h0))]; exact H M (eqX.rf M)
    · rw [if_neg (fun z => z.elim hr5 (fun z => z.elim hw1 (le_not_lt hw2)))] at H
      rw [if_neg hw1, if_pos hw2]
      refine ⟨y, h9, hy, r_Plan_seekStretch hy (c_Plan_begin ?_)⟩
      have key := dn (R := fun k => ∀ M' (j4 j5 j6 j7 : Value), eqX M M' → PS M' (fo (gdo P r) k (-2, -2, -1000000)) → pu_R L (d + 4) 73 8 [.ref 5, .ref y, .int (nI r), .int (nI k), j4, j5, j6, j7] [] M' (pu_qV (fun M3 => pu_I L (d + 4) 65 [.ref 5, .int w] M3 (fun x5 M4 => Q x5 M4)))) 10 (fun M' j4 j5 j6 j7 e hS => by
          refine r_Plan_seekStretch_8 hy ?_
          rw [if_pos ge10]
          exact c_Plan_tells hS (H M' e)) (fun k hk ih M' j4 j5 j6 j7 e hS => by
        refine r_Plan_seekStretch_8 hy ?_
        rw [if_neg (lt10 hk)]
        have e1 : fo (gdo P r) (k + 1) (-2, -2, -1000000) = gdo P r k (fo (gdo P r) k (-2, -2, -1000000)) := rfl
        rw [e1] at ih
        generalize fo (gdo P r) k (-2, -2, -1000000) = t at ih hS
        unfold gdo at ih
        exact dn (R := fun j => ∀ M2 (j6 j7 : Value), eqX M M2 → PS M2 (fo (fun j s => gst P r k (k + j) s) j (0, t)).2 → pu_R L (d + 4) 73 20 [.ref 5, .ref y, .int (nI r), .int (nI k), .int (fo (fun j s => gst P r k (k + j) s) j (0, t)).1, .int (nI (k + j)), j6, j7] [] M2 (pu_qV (fun M3 => pu_I L (d + 4) 65 [.ref 5, .int w] M3 (fun x5 M4 => Q x5 M4)))) (10 - k) (fun M2 j6 j7 e2 hS2 => by
            refine r_Plan_seekStretch_20 hy ?_
            rw [show k + (10 - k) = 10 by omega, if_pos ge10, nI_1]
            exact ih M2 _ _ _ _ e2 hS2) (fun j hj ihj M2 j6 j7 e2 hS2 => by
          have hC2 := hC.eqX hy e2
          refine r_Plan_seekStretch_20 hy ?_
          have ew : nI r * 10 + nI (k + j) = nI (10 * r + (k + j)) := by rw [n_10, pk_mul, nI_add]; congr 1; omega
          have hw60 : 10 * r + (k + j) < 60 := by omega
          rw [if_neg (lt10 (by omega)), ew, if_neg (nI_pos (by omega)), if_neg (lt60 hw60)]
          refine ⟨inb_nI hw60 (by decide), ?_⟩
          rw [nI_clamp (by omega), hC2.2.1 _ hw60]
          refine r_Plan_seekStretch_60 hy ?_
          have ej : fo (fun j s => gst P r k (k + j) s) (j + 1) (0, t) = gst P r k (k + j) (fo (fun j s => gst P r k (k + j) s) j (0, t)) := rfl
          rw [ej] at ihj
          generalize fo (fun j s => gst P r k (k + j) s) j (0, t) = s at ihj hS2 ⊢
          unfold gst gsay at ihj
          cases eq : who P (10 * r + (k + j)) with
          | none =>
            simp only [eq] at ihj
            rw [if_pos (by decide)]
            refine c_Plan_offer hS2 (fun M3 e3 hS3 => ?_)
            rw [nI_1]
            exact ihj M3 _ _ (e2.tr e3) hS3
          | some q =>
            simp only [eq] at ihj
            have hq := (who_some eq).1
            rw [pI, if_neg (nI_pos (by omega))]
            refine c_Y_talkAt hy hC2 hI hq hw60 (by decide) (c_Plan_offer hS2 (fun M3 e3 hS3 => ?_))
            rw [nI_1]
            exact ihj M3 _ _ (e2.tr e3) hS3) M' j6 j7 e hS)
      exact fun M' e hS => key M' _ _ _ _ e hS
  · rw [if_pos (Or.inl hv)] at H
    have H := H M (eqX.rf M)
    by_cases h0 : v < 0
    · rw [if_pos h0]; exact H
    · rw [if_neg h0, if_pos (hv.resolve_left h0)]; exact H
theorem c_m_good {Q : Int32 → pu_M → Prop} {v w : Int32} (hM : PM P (M 59)) (hI : PI P) (H : Q (s_good P v w) M) : pu_I L (d + 5) 247 [.ref 58, .int v, .int w] M Q := by
  refine r_m_good (c_m_in ?_)
  unfold s_good at H
  by_cases hv : v < 0 ∨ 5 < v
  · rw [if_pos (Or.inl hv)] at H; rw [if_pos hv, if_pos rfl]; exact H
  · rw [if_neg hv, if_neg (by decide)]
    refine c_m_in ?_
    by_cases hw : w < 0 ∨ 2 < w
    · rw [if_pos (Or.inr hw)] at H; rw [if_pos hw, if_pos rfl]; exact H
    · rw [if_neg (fun z => z.elim hv hw)] at H
      rw [if_neg hw, if_neg (by decide)]
      obtain ⟨r, hr, rfl⟩ := (v6 v).resolve_right hv
      rw [nI_clamp (by omega), gdo_first] at H
      have key := dn (R := fun k => ∀ (j7 j8 j9 : Value), pu_R L (d + 5) 247 35 [.ref 58, .int (nI r), .int w, .int (fo (gdo P r) k (0, 0, -1000000)).1, .int (fo (gdo P r) k (0, 0, -1000000)).2.1, .int (fo (gdo P r) k (0, 0, -1000000)).2.2, .int (nI k), j7, j8, j9] [] M (pu_qI Q)) 10 (fun j7 j8 j9 => by
          refine r_m_good_35 ?_
          rw [if_pos ge10]
          unfold tell3 at H
          by_cases h0 : w = 0
          · rw [if_pos h0] at H ⊢; exact H
          · rw [if_neg h0] at H ⊢
            by_cases h1 : w = 1
            · rw [if_pos h1] at H ⊢; exact H
            · rw [if_neg h1] at H ⊢; exact H) (fun k hk ih j7 j8 j9 => by
        refine r_m_good_35 ?_
        rw [if_neg (lt10 hk)]
        have e1 : fo (gdo P r) (k + 1) (0, 0, -1000000) = gdo P r k (fo (gdo P r) k (0, 0, -1000000)) := rfl
        rw [e1] at ih
        generalize fo (gdo P r) k (0, 0, -1000000) = t at ih ⊢
        unfold gdo at ih
        exact dn (R := fun j => ∀ (j9 : Value), pu_R L (d + 5) 247 49 [.ref 58, .int (nI r), .int w, .int (fo (fun j s => gst P r k (k + j) s) j (0, t)).2.1, .int (fo (fun j s => gst P r k (k + j) s) j (0, t)).2.2.1, .int (fo (fun j s => gst P r k (k + j) s) j (0, t)).2.2.2, .int (nI k), .int (fo (fun j s => gst P r k (k + j) s) j (0, t)).1, .int (nI (k + j)), j9] [] M (pu_qI Q)) (10 - k) (fun j9 => by
            refine r_m_good_49 ?_
            rw [show k + (10 - k) = 10 by omega, if_pos ge10, nI_1]
            exact ih _ _ _) (fun j hj ihj j9 => by
          refine r_m_good_49 ?_
          have ew : 10 * nI r + nI (k + j) = nI (10 * r + (k + j)) := by rw [n_10, pk_mul, nI_add]
          have hw60 : 10 * r + (k + j) < 60 := by omega
          rw [if_neg (lt10 (by omega)), ew]
          refine c_m_whoLies hM hI hw60 ?_
          have ej : fo (fun j s => gst P r k (k + j) s) (j + 1) (0, t) = gst P r k (k + j) (fo (fun j s => gst P r k (k + j) s) j (0, t)) := rfl
          rw [ej] at ihj
          generalize fo (fun j s => gst P r k (k + j) s) j (0, t) = s at ihj ⊢
          have fin : ∀ (x : Int32) (x9 : Int32), x = gsay P (10 * r + (k + j)) → pu_R L (d + 5) 247 95 [.ref 58, .int (nI r), .int w, .int s.2.1, .int s.2.2.1, .int s.2.2.2, .int (nI k), .int s.1, .int (nI (k + j)), .int x9] [.int x, .int s.1] M (pu_qI Q) := by
            intro x x9 hx
            refine r_m_good_95 ?_
            subst hx
            unfold gst off at ihj
            by_cases hl : s.2.2.2 < s.1 + gsay P (10 * r + (k + j))
            · rw [if_pos hl, nI_1]
              simp only [lt_not_le hl, if_false] at ihj
              exact ihj _
            · rw [if_neg hl, nI_1]
              simp only [Int32.not_lt.mp hl, if_true] at ihj
              exact ihj _
          cases eq : who P (10 * r + (k + j)) with
          | none =>
            rw [if_pos (show pI none = -2 from rfl)]
            exact fin 0 _ (by unfold gsay; rw [eq])
          | some q =>
            have hq := (who_some eq).1
            rw [if_neg (show ¬ pI (some q) = -2 from fun z => (nI_m2 (who_lt eq)).mp z)]
            exact c_m_talkAt hM hI hq hw60 (fin _ _ (by unfold gsay; rw [eq]))) j9)
      exact key mq_un mq_un mq_un
end GC
