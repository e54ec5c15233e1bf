/-! thread, both sides -/
def okW (w : Int32) : Prop := (∃ k, k < 20 ∧ w = nI k) ∨ w = 100
def okT (n : Nat) (v w : Int32) : Prop := ∃ e, v = nI e ∧ 1 ≤ e ∧ e ≤ 20 ∧ 2 * e ≤ n ∧ okW w
theorem w100 {k : Nat} (hk : k < 20) : ¬ nI k = 100 := fun z => by
  rw [n_100] at z; have := (nI_eq (by omega) (by omega)).mp z; omega
theorem w19 (w : Int32) : (∃ k, k < 20 ∧ w = nI k) ∨ (w < 0 ∨ 19 < w) := by
  rcases vbig (N := 19) (B := 19) rfl w with ⟨k, hk, e⟩ | h
  · exact Or.inl ⟨k, by omega, e⟩
  · exact Or.inr h
theorem lt20_19 {w : Int32} : (w < 20) ↔ ¬ 19 < w := by
  rw [Int32.lt_iff_toInt_lt, Int32.lt_iff_toInt_lt]
  have e1 : (20 : Int32).toInt = 20 := rfl
  have e2 : (19 : Int32).toInt = 19 := rfl
  omega
section SZ
variable {L d : Nat} {M : pu_M} {n : Nat} {tb : Nat → Nat}
theorem c_m_sayingOf {Q : Int32 → pu_M → Prop} {k : Nat} (hn : n ≤ 20) (hk : k < n) (h2 : ∀ i, i < 2 * n → M 62 i &&& 255 = nI (tb i)) (H : Q (nI (sy tb k)) M) : pu_I L (d + 2) 245 [.ref 58, .int (nI k)] M Q := by
  refine r_m_sayingOf ?_
  have e1 : (2 : Int32) * nI k = nI (2 * k) := by rw [n_2, pk_mul]
  rw [e1, nI_1]
  refine r_m_octet ⟨inb_nI (by omega) (by decide), r_m_octet ⟨inb_nI (by omega) (by decide), ?_⟩⟩
  rw [nI_clamp (by omega), nI_clamp (by omega), h2 _ (by omega), h2 _ (by omega), n_256, pk_mul, nI_add]
  exact H
theorem c_m_max {Q : Int32 → pu_M → Prop} {a b : Nat} (ha : a < 2 ^ 31) (hb : b < 2 ^ 31) (H : Q (nI (if a < b then b else a)) M) : pu_I L (d + 1) 159 [.int (nI a), .int (nI b)] M Q := by
  refine r_m_max ?_
  by_cases h : a < b
  · rw [if_pos h] at H; rw [if_pos ((nI_leI ha hb).mpr (by omega))]; exact H
  · rw [if_neg h] at H
    by_cases h2 : a = b
    · subst h2; rw [if_pos ((nI_leI ha ha).mpr (by omega))]; exact H
    · rw [if_neg (fun z => by have := (nI_leI ha hb).mp z; omega)]; exact H
theorem mx_le {f : Nat → Nat} {B : Nat} (h : ∀ i, f i ≤ B) (n : Nat) : mx f n ≤ B := fo_inv (I := fun a => a ≤ B) (fun k a ha => by
    have := h k
    split <;> omega) (by omega) n
theorem c_m_thread {Q : Int32 → pu_M → Prop} {e : Nat} {w : Int32} (he : 1 ≤ e) (he2 : e ≤ 20) (hen : 2 * e ≤ n) (hw : okW w) (hT : MT M n tb) (H : ∀ M', M' 58 4 = 0 → (∀ j, j ≠ 4 → M' 58 j = M 58 j) → only (fun k => k = 58 ∨ k = 87) M M' → Q (s_thread (sy tb) e w) M') : pu_I L (d + 3) 246 [.ref 58, .int (nI e), .int w] M Q := by
  refine r_m_thread (c_m_in ?_)
  rw [if_neg (by rw [n_1, nI_ltI (by omega) (by omega), n_20, nI_ltI (by omega) (by omega)]; omega), if_neg (by decide)]
  obtain ⟨t1, t2, t3⟩ := hT
  have hb : ∀ i, i < 2 * e → tb i < 256 := fun i hi => (t3 i (by omega)).2
  have go : pu_R L (d + 3) 246 26 [.ref 58, .int (nI e), .int w, mq_un, mq_un, mq_un, mq_un] [] M (pu_qI Q) := by
    refine r_m_thread_26 ?_
    have e1 : (2 : Int32) * nI e = nI (2 * e) := by rw [n_2, pk_mul]
    rw [t2, e1, if_pos ((nI_leI (by omega) (by omega)).mpr hen)]
    have H' : ∀ M', M' 58 = pu_wr M 58 4 0 58 → only (fun k => k = 58 ∨ k = 87) M M' → Q (s_thread (sy tb) e w) M' := fun M' h o => H M' (by rw [h, pu_wr_self, upd_s]) (fun j hj => by rw [h, pu_wr_self, upd_n hj]) o
    have o1 : only (fun k => k = 58 ∨ k = 87) M (pu_wr M 58 4 0) := (only.rf _ M).wr (Or.inl rfl)
    have hml : ∀ k, mx (fun m => lf (sy tb) e (e - 1 - m)) k ≤ e := fun k => mx_le (fun i => lf_le) k
    have hmm := mx_lf_le (n := e) (tb := tb)
    have h58 : pu_wr M 58 4 0 58 = pu_wr M 58 4 0 58 := rfl
    generalize pu_wr M 58 4 0 = M1 at o1 h58 H' ⊢
    have key := dn (R := fun j => ∀ M' (v5 : Value), M' 58 = M1 58 → only (fun k => k = 58 ∨ k = 87) M M' → (∀ i, e ≤ i + j → i < e → M' 87 i = nI (lf (sy tb) e i)) → pu_R L (d + 3) 246 50 [.ref 58, .int (nI e), .int w, .int (nI (mx (fun m => lf (sy tb) e (e - 1 - m)) j)), .int (nI (e - j) - 1), v5, mq_un] [] M' (pu_qI Q)) e (fun M' v5 q o a3 => by
        refine r_m_thread_50 ?_
        have H := H' M' q o
        have a3 : ∀ i, i < e → M' 87 i = nI (lf (sy tb) e i) := fun i hi => a3 i (by omega) hi
        have o62 : M' 62 = M 62 := o 62 (by decide)
        have h2 : ∀ i, i < 2 * e → M' 62 i &&& 255 = nI (tb i) := fun i hi => by rw [o62]; exact (t3 i (by omega)).1
        rw [Nat.sub_self, if_pos (by decide), mx_rev (by omega)]
        unfold s_thread at H
        by_cases hw1 : w = 100
        · rw [if_pos hw1] at H ⊢; exact H
        rw [if_neg hw1] at H ⊢
        obtain ⟨k, hk, rfl⟩ := hw.resolve_right hw1
        rw [nI_clamp (by omega)] at H
        by_cases hkm : k < mx (lf (sy tb) e) e
        · rw [if_pos ((nI_ltI (by omega) (by omega)).mpr hkm)] at H ⊢
          -- the walk
          have walk : ∀ j p a (v6 : Value), p + j = k + 1 → 1 ≤ p → pth (sy tb) e (p - 1) = some a → a < e → pu_R L (d + 3) 246 183 [.ref 58, .int (nI e), .int (nI k), .int (nI (mx (lf (sy tb) e) e)), .int (nI a), .int (nI p), v6] [] M' (pu_qI Q) := by
            intro j
            induction j with
            | zero =>
              intro p a v6 hp h1 ha hae
              refine r_m_thread_183 ?_
              rw [if_pos ((nI_ltI (by omega) (by omega)).mpr (by omega))]
              rw [show k = p - 1 by omega, ha] at H
              exact H
            | succ j ih =>
              intro p a v6 hp h1 ha hae
              refine r_m_thread_183 ?_
              rw [if_neg (fun z => by have := (nI_ltI (by omega) (by omega)).mp z; omega), nI_1]
              obtain ⟨b, hb1, hb2, -⟩ := pth_is (S := sy tb) (n := e) (by omega) (show p < mx (lf (sy tb) e) e by omega)
              obtain ⟨p, rfl⟩ : ∃ p', p = p' + 1 := ⟨p - 1, by omega⟩
              rw [Nat.add_sub_cancel] at ha
              have hf : fnd (pcd (sy tb) e (p + 1) a) (e - (a + 1)) (a + 1) = some b := by
                have : pth (sy tb) e (p + 1) = (match pth (sy tb) e p with | some a => fnd (pcd (sy tb) e (p + 1) a) (e - (a + 1)) (a + 1) | none => none) := rfl
                rw [this, ha] at hb1
                exact hb1
              obtain ⟨f1, f2, f3, f4⟩ := fnd_some hf
              have step : ∀ m, a + 1 + m ≤ b → pu_R L (d + 3) 246 195 [.ref 58, .int (nI e), .int (nI k), .int (nI (mx (lf (sy tb) e) e)), .int (nI a), .int (nI (p + 1)), .int (nI (b - m))] [] M' (pu_qI Q) := by
                intro m
                have hl := lf_le (S := sy tb) (n := e) (i := b - m)
                obtain ⟨q1, q2⟩ := sy_and hb hae (show b - m < e by omega)
                induction m with
                | zero =>
                  intro hm
                  refine r_m_thread_195 ⟨inb_nI (by omega) (by decide), ?_⟩
                  simp only [pcd, Bool.and_eq_true, decide_eq_true_eq, Bool.or_eq_true] at f3
                  rw [Nat.sub_zero] at q1 q2 ⊢
                  rw [nI_clamp (by omega), a3 b hb2, pk_sub (by omega), if_pos (by rw [f3.1])]
                  refine c_m_sayingOf he2 hae h2 (c_m_sayingOf he2 hb2 h2 ?_)
                  rw [q1, if_neg (fun z => by have := q2.mp z; rcases f3.2 with y | y; omega; rw [this] at y; cases y), nI_1]
                  exact ih (p + 1 + 1) b _ (by omega) (by omega) hb1 hb2
                | succ m ihm =>
                  intro hm
                  have ihm := ihm (lf_le (S := sy tb) (n := e)) (sy_and hb hae (show b - m < e by omega)).1 (sy_and hb hae (show b - m < e by omega)).2 (by omega)
                  refine r_m_thread_195 ⟨inb_nI (by omega) (by decide), ?_⟩
                  have hno := f4 (b - (m + 1)) (by omega) (by omega)
                  rw [nI_clamp (by omega), a3 _ (by omega), pk_sub (by omega), nI_1, show b - (m + 1) + 1 = b - m by omega]
                  by_cases hx : lf (sy tb) e (b - (m + 1)) = mx (lf (sy tb) e) e - (p + 1)
                  · rw [if_pos (by rw [hx])]
                    refine c_m_sayingOf he2 hae h2 (c_m_sayingOf he2 (by omega) h2 ?_)
                    have : lkS (sy tb) a (b - (m + 1)) = false := by
                      simpa [pcd, hx] using hno
                    rw [q1, if_pos (q2.mpr this)]
                    exact ihm
                  · rw [if_neg (fun z => hx ((nI_eq (by omega) (by omega)).mp z))]
                    exact ihm
              have := step (b - (a + 1)) (by omega)
              rw [show b - (b - (a + 1)) = a + 1 by omega] at this
              exact this
          obtain ⟨b, hb1, hb2, -⟩ := pth_is (S := sy tb) (n := e) (by omega) (show 0 < mx (lf (sy tb) e) e by omega)
          obtain ⟨f1, f2, f3, f4⟩ := fnd_some (show fnd (pcd (sy tb) e 0 0) e 0 = some b from hb1)
          have step : ∀ m (v5 : Value), m ≤ b → pu_R L (d + 3) 246 160 [.ref 58, .int (nI e), .int (nI k), .int (nI (mx (lf (sy tb) e) e)), .int (nI (b - m)), v5, mq_un] [] M' (pu_qI Q) := by
            intro m
            induction m with
            | zero =>
              intro v5 hm
              refine r_m_thread_160 ⟨inb_nI (by omega) (by decide), ?_⟩
              rw [Nat.sub_zero, nI_clamp (by omega), a3 b hb2]
              simp [pcd] at f3
              rw [if_pos (by rw [f3])]
              exact walk k 1 b _ (by omega) (by omega) hb1 hb2
            | succ m ihm =>
              intro v5 hm
              have hl := lf_le (S := sy tb) (n := e) (i := b - (m + 1))
              have hno := f4 (b - (m + 1)) (by omega) (by omega)
              simp [pcd] at hno
              refine r_m_thread_160 ⟨inb_nI (by omega) (by decide), ?_⟩
              rw [nI_clamp (by omega), a3 _ (by omega), if_neg (fun z => hno ((nI_eq (by omega) (by omega)).mp z)), nI_1, show b - (m + 1) + 1 = b - m by omega]
              exact ihm _ (by omega)
          have := step b v5 (by omega)
          rw [Nat.sub_self] at this
          exact this
        · rw [if_neg (fun z => hkm ((nI_ltI (by omega) (by omega)).mp z))] at H ⊢; exact H) (fun j hj ih M' v5 q o a3 => by
      refine r_m_thread_50 ?_
      obtain ⟨i, hi⟩ : ∃ i, i + j + 1 = e := ⟨e - 1 - j, by omega⟩
      have ei : nI (e - j) - 1 = nI i := by rw [n_1, pk_sub (by omega)]; congr 1; omega
      have ei' : nI (e - (j + 1)) - 1 = nI i + (-1) := by rw [am1]; congr 2; omega
      rw [ei'] at ih
      rw [ei, if_neg (nI_pos (by omega)), nI_clamp (by omega), nI_1]
      refine ⟨inb_nI (by omega) (by decide), ?_⟩
      have hmj := hml j
      refine dn (R := fun m => ∀ M2, M2 58 = M1 58 → only (fun k => k = 58 ∨ k = 87) M M2 → (∀ i, e ≤ i + j → i < e → M2 87 i = nI (lf (sy tb) e i)) → M2 87 i = nI (lin (sy tb) (lf (sy tb) e) i m) → pu_R L (d + 3) 246 69 [.ref 58, .int (nI e), .int w, .int (nI (mx (fun m => lf (sy tb) e (e - 1 - m)) j)), .int (nI i), .int (nI (i + 1 + m)), mq_un] [] M2 (pu_qI Q)) j (fun M2 q2 o2 b3 b4 => by
          refine r_m_thread_69 ?_
          have hlf := lf_eq (S := sy tb) hi
          have hl := lf_le (S := sy tb) (n := e) (i := i)
          rw [if_pos (by rw [nI_leI (by omega) (by omega)]; omega), nI_clamp (by omega), b4, ← hlf]
          refine ⟨inb_nI (by omega) (by decide), c_m_max (by omega) (by omega) ?_⟩
          have es : mx (fun m => lf (sy tb) e (e - 1 - m)) (j + 1) = if mx (fun m => lf (sy tb) e (e - 1 - m)) j < lf (sy tb) e i then lf (sy tb) e i else mx (fun m => lf (sy tb) e (e - 1 - m)) j := by
            rw [mx_s, show e - 1 - j = i by omega]
          rw [← es]
          refine ih M2 _ q2 o2 (fun i' h1 h2 => ?_)
          by_cases x : i' = i
          · rw [x, b4, hlf]
          · exact b3 i' (by omega) h2) (fun m hm ihm M2 q2 o2 b3 b4 => by
        refine r_m_thread_69 ?_
        obtain ⟨s1, s2⟩ := sy_and hb (show i < e by omega) (show i + 1 + m < e by omega)
        have hl1 := lin_le (S := sy tb) (t := lf (sy tb) e) (i := i) (m := m) (n := e) (fun k => lf_le)
        have hl2 := lf_le (S := sy tb) (n := e) (i := i + 1 + m)
        have o62 : M2 62 = M 62 := o2 62 (by decide)
        have h2 : ∀ i, i < 2 * e → M2 62 i &&& 255 = nI (tb i) := fun i hi => by rw [o62]; exact (t3 i (by omega)).1
        rw [if_neg (by rw [nI_leI (by omega) (by omega)]; omega), nI_1]
        refine c_m_sayingOf he2 (by omega) h2 (c_m_sayingOf he2 (by omega) h2 ?_)
        rw [s1, nI_clamp (by omega), nI_clamp (by omega), b4, b3 _ (by omega) (by omega), nI_1]
        have es : lin (sy tb) (lf (sy tb) e) i (m + 1) = if lkS (sy tb) i (i + 1 + m) = true then (if lin (sy tb) (lf (sy tb) e) i m < 1 + lf (sy tb) e (i + 1 + m) then 1 + lf (sy tb) e (i + 1 + m) else lin (sy tb) (lf (sy tb) e) i m) else lin (sy tb) (lf (sy tb) e) i m := rfl
        rw [es] at ihm
        cases hk : lkS (sy tb) i (i + 1 + m) with
        | false =>
          rw [hk, if_neg (by decide)] at ihm
          rw [if_pos (s2.mpr hk)]
          exact ihm M2 q2 o2 b3 b4
        | true =>
          rw [hk, if_pos rfl] at ihm
          rw [if_neg (fun z => by rw [s2.mp z] at hk; cases hk)]
          refine ⟨inb_nI (by omega) (by decide), inb_nI (by omega) (by decide), c_m_max (by omega) (by omega) ⟨inb_nI (by omega) (by decide), ?_⟩⟩
          rw [Nat.add_comm (lf (sy tb) e (i + 1 + m)) 1]
          exact ihm _ (by rw [pu_wr_ne (by decide)]; exact q2) (o2.wr (Or.inr rfl)) (fun i' h1 h2 => by rw [pu_wr_self, upd_n (by omega)]; exact b3 i' h1 h2) (by rw [pu_wr_self, upd_s])) _ ?_ ?_ ?_ ?_
      · rw [pu_wr_ne (by decide)]; exact q
      · exact o.wr (Or.inr rfl)
      · intro i' h1 h2; rw [pu_wr_self, upd_n (by omega)]; exact a3 i' h1 h2
      · rw [pu_wr_self, upd_s]; rfl)
    exact key M1 _ h58 o1 (fun i h1 h2 => by omega)
  refine c_m_in ?_
  rcases w19 w with ⟨k, hk, rfl⟩ | hw2
  · rw [if_neg (by rw [n_19, nI_ltI (by omega) (by omega)]; rintro (z | z); exact nI_pos (by omega) z; omega), if_neg (by decide)]
    exact go
  · rw [if_pos hw2, if_pos rfl]
    by_cases h100 : w = 100
    · rw [if_pos h100]; exact go
    · exfalso
      rcases hw with ⟨k, hk, rfl⟩ | h
      · rw [n_19, nI_ltI (by omega) (by omega)] at hw2
        rcases hw2 with z | z
        · exact nI_pos (by omega) z
        · omega
      · exact h100 h
theorem c_m_threadN {Q : Int32 → pu_M → Prop} {v w : Int32} (hN : ¬ okT n v w) (hT : MT M n tb) (H : Q (-1) M) : pu_I L (d + 3) 246 [.ref 58, .int v, .int w] M Q := by
  refine r_m_thread (c_m_in ?_)
  by_cases h : v < 1 ∨ 20 < v
  · rw [if_pos h, if_pos rfl]; exact H
  rw [if_neg h, if_neg (by decide)]
  have hv0 : ¬ v < 0 := by
    intro z; apply h; left
    rw [Int32.lt_iff_toInt_lt] at z ⊢
    have e1 : (1 : Int32).toInt = 1 := rfl
    have e2 : (0 : Int32).toInt = 0 := rfl
    omega
  obtain ⟨e, he, rfl⟩ := nI_of2 (M := 20) (n := 20) rfl hv0 (Int32.not_lt.mp (fun z => h (Or.inr z)))
  have he1 : 1 ≤ e := by
    have : ¬ nI e < 1 := fun z => h (Or.inl z)
    rw [n_1, nI_ltI (by omega) (by omega)] at this; omega
  obtain ⟨t1, t2, t3⟩ := hT
  have e1 : (2 : Int32) * nI e = nI (2 * e) := by rw [n_2, pk_mul]
  have go : okW w → pu_R L (d + 3) 246 26 [.ref 58, .int (nI e), .int w, mq_un, mq_un, mq_un, mq_un] [] M (pu_qI Q) := fun hw => by
    refine r_m_thread_26 ?_
    rw [t2, e1, if_neg (fun z => hN ⟨e, rfl, he1, he, (nI_leI (by omega) (by omega)).mp z, hw⟩)]
    exact H
  refine c_m_in ?_
  rcases w19 w with ⟨k, hk, rfl⟩ | hw2
  · rw [if_neg (by rw [n_19, nI_ltI (by omega) (by omega)]; rintro (z | z); exact nI_pos (by omega) z; omega), if_neg (by decide)]
    exact go (Or.inl ⟨k, hk, rfl⟩)
  · rw [if_pos hw2, if_pos rfl]
    by_cases h100 : w = 100
    · rw [if_pos h100]; exact go (Or.inr h100)
    · rw [if_neg h100]; exact H
theorem x_th {Q : Int32 → pu_M → Prop} {v w : Int32} (H : ∀ s : Int32, ((okW w ∧ s = 1) ∨ (¬ okW w ∧ s = 0)) → pu_R L (d + 3) 141 21 [.ref 0, .int v, .int w, mq_un] [.int s] M (pu_qI Q)) : pu_I L (d + 3) 141 [.ref 0, .int v, .int w] M Q := by
  refine r_x_thread ?_
  rcases w19 w with ⟨k, hk, rfl⟩ | hw2
  · have H := H 1 (Or.inl ⟨Or.inl ⟨k, hk, rfl⟩, rfl⟩)
    rw [if_neg (nI_pos (by omega)), if_pos (by rw [n_20, nI_ltI (by omega) (by omega)]; omega)]; exact H
  · by_cases h100 : w = 100
    · have H := H 1 (Or.inl ⟨Or.inr h100, rfl⟩)
      rw [if_pos h100]
      subst h100
      rw [if_neg (by decide), if_neg (by decide)]; exact H
    · have hn : ¬ okW w := by
        rintro (⟨k, hk, rfl⟩ | z)
        · rw [n_19, nI_ltI (by omega) (by omega)] at hw2
          rcases hw2 with z | z
          · exact nI_pos (by omega) z
          · omega
        · exact h100 z
      have H := H 0 (Or.inr ⟨hn, rfl⟩)
      rw [if_neg h100]
      by_cases h0 : w < 0
      · rw [if_pos h0]; exact H
      · rw [if_neg h0, if_neg (fun z => (lt20_19.mp z) (hw2.resolve_left h0))]; exact H
theorem c_x_thread {Q : Int32 → pu_M → Prop} {e : Nat} {w : Int32} (he : 1 ≤ e) (he2 : e ≤ 20) (hen : 2 * e ≤ n) (hw : okW w) (hT : CT M n tb) (H : ∀ M', M' 1 1 = 0 → only (fun k => k = 1 ∨ hS k) M M' → Q (s_thread (sy tb) e w) M') : pu_I L (d + 3) 141 [.ref 0, .int (nI e), .int w] M Q := by
  refine x_th (fun s hs => r_x_thread_21 ?_)
  obtain rfl : s = 1 := by rcases hs with h | h; exact h.2; exact absurd hw h.1
  have e1 : (2 : Int32) * nI e = nI (2 * e) := by rw [n_2, pk_mul]
  have tn := hT.1
  rw [if_neg (by rw [n_1, nI_ltI (by omega) (by omega)]; omega), if_neg (by rw [n_20, nI_ltI (by omega) (by omega)]; omega), if_neg (by decide), e1]
  refine c_Tape_open (B := 40) rfl (by decide) hT (fun h => ?_) (fun h e' he' hn' hB' M' hB o => ?_)
  · exfalso
    rw [n_2, n_40, nI_ltI (by omega) (by omega), nI_ltI (by omega) (by omega), nI_ltI (by omega) (by omega)] at h
    omega
  · have : e' = 2 * e := ((nI_eq (by omega) (by omega)).mp he').symm
    subst this
    rw [if_neg (by decide)]
    have o2 : M' 2 = M 2 := o 2 (by decide)
    have hb : ∀ i, i < 2 * e → tb i < 256 := fun i hi => (hT.2.2 i (by omega)).2
    refine c_Sa_hear he2 hB.1 hb (fun i hi => by rw [o2]; exact (hT.2.2 i (by omega)).1) (fun M2 a1 a2 a3 o3 => ?_)
    have H := H M2 (by rw [o3 1 (by unfold hS; omega)]; exact hB.2.2.2.2.2) (fun k hk => by rw [o3 k (fun z => hk (Or.inr z)), o k (fun z => hk (Or.inl z))])
    unfold s_thread at H
    by_cases h100 : w = 100
    · rw [if_pos h100] at H ⊢; exact c_Sa_longest he2 a1 a3 H
    · rw [if_neg h100] at H ⊢
      obtain ⟨k, hk, rfl⟩ := hw.resolve_right h100
      rw [nI_clamp (by omega)] at H
      exact c_Sa_placeOf he2 (by omega) hk a1 hb a2 a3 H
theorem c_x_threadN {Q : Int32 → pu_M → Prop} {v w : Int32} (hN : ¬ okT n v w) (hT : CT M n tb) (H : Q (-1) M) : pu_I L (d + 3) 141 [.ref 0, .int v, .int w] M Q := by
  refine x_th (fun s hs => r_x_thread_21 ?_)
  by_cases h1 : v < 1
  · rw [if_pos h1]; exact H
  rw [if_neg h1]
  by_cases h2 : 20 < v
  · rw [if_pos h2]; exact H
  rw [if_neg h2]
  by_cases hw : okW w
  · obtain rfl : s = 1 := by rcases hs with h | h; exact h.2; exact absurd hw h.1
    rw [if_neg (by decide)]
    have hv0 : ¬ v < 0 := by
      intro z; apply h1
      rw [Int32.lt_iff_toInt_lt] at z ⊢
      have e1 : (1 : Int32).toInt = 1 := rfl
      have e2 : (0 : Int32).toInt = 0 := rfl
      omega
    obtain ⟨e, he, rfl⟩ := nI_of2 (M := 20) (n := 20) rfl hv0 (Int32.not_lt.mp h2)
    have he1 : 1 ≤ e := by
      rw [n_1, nI_ltI (by omega) (by omega)] at h1; omega
    have e1 : (2 : Int32) * nI e = nI (2 * e) := by rw [n_2, pk_mul]
    rw [e1]
    refine c_Tape_open (B := 40) rfl (by decide) hT (fun h => by rw [if_pos rfl]; exact H) (fun h e' he' hn' hB' M' hB o => ?_)
    have : e' = 2 * e := ((nI_eq (by omega) (by omega)).mp he').symm
    exact absurd ⟨e, rfl, he1, he, by omega, hw⟩ hN
  · obtain rfl : s = 0 := by rcases hs with h | h; exact absurd h.1 hw; exact h.2
    rw [if_pos rfl]; exact H
end SZ
