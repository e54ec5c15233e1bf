/-! reaching stands still behind 59 steps; blocks; the largest -/
theorem nbs_c {g h : Nat → Bool} (e : ∀ u, u < 60 → g u = h u) (w : Nat) : nbs g w = nbs h w := by
  rw [Bool.eq_iff_iff, nbs_iff, nbs_iff]
  constructor
  · rintro ⟨u, hu, h1, h2⟩; exact ⟨u, hu, by rw [← e u hu]; exact h1, h2⟩
  · rintro ⟨u, hu, h1, h2⟩; exact ⟨u, hu, by rw [e u hu]; exact h1, h2⟩
def StS (f s : Nat → Bool) (j : Nat) : Prop := ∀ w, w < 60 → rs f s (j + 1) w = rs f s j w
theorem StS_next {f s : Nat → Bool} {j : Nat} (h : StS f s j) : StS f s (j + 1) := by
  intro w hw
  show (rs f s (j + 1) w || (nbs (rs f s (j + 1)) w && f w)) = rs f s (j + 1) w
  have a : rs f s (j + 1) w = (rs f s j w || (nbs (rs f s j) w && f w)) := rfl
  rw [nbs_c h w, a]
  cases rs f s j w <;> cases nbs (rs f s j) w <;> cases f w <;> rfl
theorem StS_all {f s : Nat → Bool} {j : Nat} (h : StS f s j) : ∀ i, StS f s (j + i) ∧ ∀ w, w < 60 → rs f s (j + i) w = rs f s j w
  | 0 => ⟨h, fun _ _ => rfl⟩
  | i + 1 => by
    have ih := StS_all h i
    exact ⟨StS_next ih.1, fun w hw => by rw [← ih.2 w hw]; exact ih.1 w hw⟩
theorem rs_up {f s : Nat → Bool} {k w : Nat} (h : rs f s k w = true) : rs f s (k + 1) w = true := by
  show (rs f s k w || _) = true
  rw [h]; rfl
theorem rs_mono {f s : Nat → Bool} {k w : Nat} (h : rs f s k w = true) : ∀ j, rs f s (k + j) w = true
  | 0 => h
  | j + 1 => rs_up (rs_mono h j)
theorem rs_step {f s : Nat → Bool} {k u w : Nat} (hu : u < 60) (h : rs f s k u = true) (hn : nx u w = true) (hf : f w = true) : rs f s (k + 1) w = true := by
  show (rs f s k w || (nbs (rs f s k) w && f w)) = true
  rw [nbs_iff.mpr ⟨u, hu, h, hn⟩, hf]; simp
theorem rs_inv {f s : Nat → Bool} {k w : Nat} (h : rs f s (k + 1) w = true) : rs f s k w = true ∨ ∃ u, u < 60 ∧ rs f s k u = true ∧ nx u w = true ∧ f w = true := by
  have h' : (rs f s k w || (nbs (rs f s k) w && f w)) = true := h
  rw [Bool.or_eq_true, Bool.and_eq_true] at h'
  rcases h' with h' | ⟨h1, h2⟩
  · exact Or.inl h'
  · obtain ⟨u, hu, a, b⟩ := nbs_iff.mp h1
    exact Or.inr ⟨u, hu, a, b, h2⟩
theorem cnt_one {A : Nat → Bool} {n k : Nat} (hk : k < n) (h : A k = true) : 0 < cnt A n := by
  have := cnt_lt (A := fun _ => false) (B := A) (n := n) (fun _ _ z => absurd z (by decide)) ⟨k, hk, h, rfl⟩
  omega
theorem rs_59 (f s : Nat → Bool) : StS f s 59 := by
  have fin : ∀ j, j < 60 → StS f s j → StS f s 59 := by
    intro j hj h
    have := (StS_all h (59 - j)).1
    rwa [show j + (59 - j) = 59 by omega] at this
  by_cases h0 : ∃ w, w < 60 ∧ s w = true
  · obtain ⟨w0, hw0, hs0⟩ := h0
    have key : ∀ k, (∃ j, j < k ∧ StS f s j) ∨ k + 1 ≤ cnt (rs f s k) 60 := by
      intro k
      induction k with
      | zero => exact Or.inr (cnt_one hw0 hs0)
      | succ k ih =>
        rcases ih with ⟨j, hj, h⟩ | h
        · exact Or.inl ⟨j, by omega, h⟩
        · by_cases hs : StS f s k
          · exact Or.inl ⟨k, by omega, hs⟩
          · right
            have hex : ∃ w, w < 60 ∧ ¬ rs f s (k + 1) w = rs f s k w := by
              apply Classical.byContradiction
              intro z
              exact hs (fun w hw => Classical.byContradiction (fun y => z ⟨w, hw, y⟩))
            obtain ⟨w, hw, hne⟩ := hex
            have h1 : rs f s k w = false := by
              cases e : rs f s k w with
              | false => rfl
              | true => exact absurd ((rs_up e).trans e.symm) hne
            have h2 : rs f s (k + 1) w = true := by
              cases e : rs f s (k + 1) w with
              | true => rfl
              | false => exact absurd (e.trans h1.symm) hne
            have := cnt_lt (A := rs f s k) (B := rs f s (k + 1)) (n := 60) (fun _ _ z => rs_up z) ⟨w, hw, h2, h1⟩
            omega
    rcases key 60 with ⟨j, hj, h⟩ | h
    · exact fin j hj h
    · have := cnt_le (rs f s 60) 60
      omega
  · refine fin 0 (by decide) ?_
    intro w hw
    cases e : rs f s (0 + 1) w with
    | false =>
      cases e2 : rs f s 0 w with
      | false => rfl
      | true => exact absurd ⟨w, hw, e2⟩ h0
    | true =>
      rcases rs_inv e with h | ⟨u, hu, h, -, -⟩
      · exact absurd ⟨w, hw, h⟩ h0
      · exact absurd ⟨u, hu, h⟩ h0
theorem rs_60 {f s : Nat → Bool} {w : Nat} (hw : w < 60) : rs f s 60 w = rs f s 59 w := rs_59 f s w hw
theorem rs_cl {f s : Nat → Bool} {u w : Nat} (hu : u < 60) (hw : w < 60) (h : rs f s 60 u = true) (hn : nx u w = true) (hf : f w = true) : rs f s 60 w = true := by
  rw [rs_60 hu] at h
  exact rs_step hu h hn hf
theorem rs_f {f s : Nat → Bool} (hs : ∀ u, s u = true → f u = true) : ∀ {k w : Nat}, rs f s k w = true → f w = true
  | 0, w, h => hs w h
  | k + 1, w, h => by
    rcases rs_inv h with h | ⟨u, hu, h, h2, h3⟩
    · exact rs_f hs h
    · exact h3
theorem rs_e {f s : Nat → Bool} (hs : ∀ u, u < 60 → s u = false) : ∀ {k w : Nat}, w < 60 → rs f s k w = false
  | 0, w, hw => hs w hw
  | k + 1, w, hw => by
    cases e : rs f s (k + 1) w with
    | false => rfl
    | true =>
      rcases rs_inv e with h | ⟨u, hu, h, h2, h3⟩
      · rw [rs_e hs hw] at h; exact absurd h (by decide)
      · rw [rs_e hs hu] at h; exact absurd h (by decide)
/-- one plot, if it is free -/
def sf (f : Nat → Bool) (w : Nat) : Nat → Bool := fun u => decide (u = w) && f u
theorem sf_iff {f : Nat → Bool} {w u : Nat} : sf f w u = true ↔ u = w ∧ f w = true := by
  unfold sf
  rw [Bool.and_eq_true, decide_eq_true_eq]
  constructor
  · rintro ⟨rfl, h⟩; exact ⟨rfl, h⟩
  · rintro ⟨rfl, h⟩; exact ⟨rfl, h⟩
theorem sf_f {f : Nat → Bool} {w u : Nat} (h : sf f w u = true) : f u = true := by
  obtain ⟨rfl, h2⟩ := sf_iff.mp h; exact h2
theorem sf_0 {f : Nat → Bool} {w : Nat} (h : f w = false) (u : Nat) : sf f w u = false := by
  cases e : sf f w u with
  | false => rfl
  | true => rw [(sf_iff.mp e).2] at h; exact absurd h (by decide)
/-- how large one's block is -/
def sz (f : Nat → Bool) (w : Nat) : Nat := cnt (rs f (sf f w) 60) 60
theorem sz_0 {f : Nat → Bool} {w : Nat} (h : f w = false) : sz f w = 0 := cnt_z (fun _ hk => rs_e (fun u _ => sf_0 h u) hk)
theorem C_sub {f : Nat → Bool} {v w : Nat} (hw : w < 60) (h : rs f (sf f v) 60 w = true) : ∀ {k u : Nat}, u < 60 → rs f (sf f w) k u = true → rs f (sf f v) 60 u = true
  | 0, u, hu, hz => by obtain ⟨rfl, -⟩ := sf_iff.mp hz; exact h
  | k + 1, u, hu, hz => by
    rcases rs_inv hz with h1 | ⟨x, hx, h1, h2, h3⟩
    · exact C_sub hw h hu h1
    · exact rs_cl hx hu (C_sub hw h hx h1) h2 h3
theorem C_sym {f : Nat → Bool} {v : Nat} (hv : v < 60) : ∀ {k w : Nat}, w < 60 → rs f (sf f v) k w = true → rs f (sf f w) 60 v = true
  | 0, w, hw, hz => by
    obtain ⟨rfl, h2⟩ := sf_iff.mp hz
    have h0 : rs f (sf f w) 0 w = true := hz
    have := rs_mono h0 60
    rwa [Nat.zero_add] at this
  | k + 1, w, hw, hz => by
    rcases rs_inv hz with h1 | ⟨x, hx, h1, h2, h3⟩
    · exact C_sym hv hw h1
    · have ih := C_sym hv hx h1
      have fx : f x = true := rs_f (f := f) (s := sf f v) (fun u hz => sf_f (w := v) hz) h1
      have h4 : rs f (sf f w) (0 + 1) x = true := rs_step (u := w) hw (sf_iff.mpr ⟨rfl, h3⟩) (by rw [nx_sy]; exact h2) fx
      have h5 : rs f (sf f w) 60 x = true := rs_mono h4 59
      exact C_sub hx h5 hv ih
theorem C_eq {f : Nat → Bool} {v w : Nat} (hv : v < 60) (hw : w < 60) (h : rs f (sf f v) 60 w = true) : sz f w = sz f v := by
  refine cnt_eq (fun u hu => ?_)
  rw [Bool.eq_iff_iff]
  exact ⟨fun z => C_sub hw h hu z, fun z => C_sub hv (C_sym hv hw h) hu z⟩
theorem C_self {f : Nat → Bool} {w : Nat} (h : f w = true) (k : Nat) : rs f (sf f w) k w = true := by
  have h0 : rs f (sf f w) 0 w = true := sf_iff.mpr ⟨rfl, h⟩
  have := rs_mono h0 k
  rwa [Nat.zero_add] at this
theorem cnt_0 {A : Nat → Bool} {n : Nat} (h : cnt A n = 0) {k : Nat} (hk : k < n) : A k = false := by
  cases e : A k with
  | false => rfl
  | true => have := cnt_one hk e; omega
theorem c_G_largest {L d : Nat} {M : pu_M} {Q : Int32 → pu_M → Prop} {f : Nat → Bool} (H : Q (nI (mx (sz f) 60)) M) : pu_I L (d + 3) 33 [.long (lN (gs f))] M Q := by
  have szle : ∀ w, sz f w ≤ 60 := fun w => cnt_le _ 60
  have key : ∀ (j k a : Nat) (l : Nat → Bool) (v6 : Value), k + j = 60 → (∀ w, w < 60 → l w = true → f w = true) → (∀ w, w < 60 → f w = true → l w = false → sz f w ≤ a) → (a = 0 ∨ ∃ w, w < 60 ∧ a = sz f w) → cnt l 60 ≤ j → pu_R L (d + 3) 33 7 [.long (lN (gs f)), mq_un, .int (nI a), .long (lN (gs l)), mq_un, .int (nI k), v6, mq_un] [] M (pu_qI Q) := by
    intro j
    induction j with
    | zero =>
      intro k a l v6 hk h1 h2 h3 h4
      obtain rfl : k = 60 := by omega
      refine r_Grass_largestBlock_7 ?_
      rw [if_pos ge60]
      have he : a = mx (sz f) 60 := by
        apply Nat.le_antisymm
        · rcases h3 with rfl | ⟨w, hw, rfl⟩
          · exact Nat.zero_le _
          · exact mx_ge hw
        · obtain ⟨i, hi, e⟩ := mx_ex (f := sz f) (n := 60) (by decide)
          rw [e]
          cases hf : f i with
          | true => exact h2 i hi hf (cnt_0 (by omega) hi)
          | false => rw [sz_0 hf]; exact Nat.zero_le _
      rw [he]; exact H
    | succ j ih =>
      intro k a l v6 hk h1 h2 h3 h4
      refine r_Grass_largestBlock_7 ?_
      rw [if_neg (lt60 (by omega))]
      by_cases hl : ∀ w, w < 60 → l w = false
      · rw [if_pos (gs_ne.mpr hl)]
        have he : a = mx (sz f) 60 := by
          apply Nat.le_antisymm
          · rcases h3 with rfl | ⟨w, hw, rfl⟩
            · exact Nat.zero_le _
            · exact mx_ge hw
          · obtain ⟨i, hi, e⟩ := mx_ex (f := sz f) (n := 60) (by decide)
            rw [e]
            cases hf : f i with
            | true => exact h2 i hi hf (hl i hi)
            | false => rw [sz_0 hf]; exact Nat.zero_le _
        rw [he]; exact H
      · rw [if_neg (fun z => hl (gs_ne.mp z))]
        cases ht : fnd l 60 0 with
        | none => exact absurd (fun w hw => fnd_none ht w (by omega) (by omega)) hl
        | some t =>
          obtain ⟨-, t2, t3, -⟩ := fnd_some ht
          have t60 : t < 60 := by omega
          have ft := h1 t t60 t3
          have hsg : gs (sg t) = gs (sf f t) := gs_eq (fun u hu => by
            unfold sg sf
            by_cases e : u = t
            · subst e; rw [ft]; simp
            · simp [e])
          rw [lN_low ht, hsg]
          refine c_G_spread (c_L_bitCount ?_)
          rw [lN_andn, nI_1]
          have ha : a ≤ 60 := by
            rcases h3 with rfl | ⟨w, hw, rfl⟩
            · decide
            · exact szle w
          have hb : cnt (rs f (sf f t) 60) 60 = sz f t := rfl
          have hbl := szle t
          rw [hb]
          have hmax : (if nI a < nI (sz f t) then nI (sz f t) else nI a) = nI (if a < sz f t then sz f t else a) := by
            by_cases h : a < sz f t
            · rw [if_pos h, if_pos ((nI_ltI (by omega) (by omega)).mpr h)]
            · rw [if_neg h, if_neg (fun z => h ((nI_ltI (by omega) (by omega)).mp z))]
          rw [hmax]
          refine ih (k + 1) _ _ _ (by omega) ?_ ?_ ?_ ?_
          · intro w hw hz
            rw [Bool.and_eq_true] at hz
            exact h1 w hw hz.1
          · intro w hw hfw hz
            have hge : a ≤ (if a < sz f t then sz f t else a) ∧ sz f t ≤ (if a < sz f t then sz f t else a) := by split <;> omega
            cases hlw : l w with
            | false => exact Nat.le_trans (h2 w hw hfw hlw) hge.1
            | true =>
              rw [hlw] at hz
              have hbw : rs f (sf f t) 60 w = true := by simpa using hz
              rw [C_eq t60 hw hbw]
              exact hge.2
          · split
            · exact Or.inr ⟨t, t60, rfl⟩
            · exact h3
          · have : cnt (fun k => l k && !rs f (sf f t) 60 k) 60 < cnt l 60 := cnt_lt (fun w hw hz => by rw [Bool.and_eq_true] at hz; exact hz.1) ⟨t, t60, t3, by simp [C_self ft]⟩
            omega
  exact r_Grass_largestBlock (key 60 0 0 f mq_un rfl (fun _ _ h => h) (fun w hw hf hz => by rw [hf] at hz; exact absurd hz (by decide)) (Or.inl rfl) (cnt_le _ _))
