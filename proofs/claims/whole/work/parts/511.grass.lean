/-! the class's grass: how many, next plots, spreading, steps, the lowest, the largest block -/
theorem lN_127 (n : Nat) : (lN n).toInt32 &&& 127 = nI (n % 128) := by
  apply Int32.toBitVec_inj.mp
  apply BitVec.eq_of_toNat_eq
  rw [pk_tn (by omega)]
  show (((lN n).toBitVec.signExtend 32) &&& (127#32)).toNat = _
  rw [BitVec.toNat_and, BitVec.signExtend_eq_setWidth_of_le _ (by decide), BitVec.toNat_setWidth, wb_tb, BitVec.toNat_ofNat, show (127#32).toNat = 2 ^ 7 - 1 from rfl, Nat.and_two_pow_sub_one_eq_mod]
  omega
theorem cnt_z {A : Nat → Bool} : ∀ {n : Nat}, (∀ k, k < n → A k = false) → cnt A n = 0
  | 0, _ => rfl
  | n + 1, h => by simp only [cnt, h n (by omega)]; rw [cnt_z (fun k hk => h k (by omega))]; rfl
theorem gs_cnt (g : Nat → Bool) : cnt (fun k => (gs g).testBit k) 64 = cnt g 60 := by
  rw [show 64 = 60 + 4 from rfl, cnt_add, cnt_z (n := 4) (fun k hk => by rw [gs_bit]; simp [show ¬ 60 + k < 60 by omega]), Nat.add_zero]
  exact cnt_eq (fun k hk => by rw [gs_bit]; simp [hk])
theorem sby_8 (x : Nat) : ∃ c0 c1 c2 c3 c4 c5 c6 c7, c0 ≤ 8 ∧ c1 ≤ 8 ∧ c2 ≤ 8 ∧ c3 ≤ 8 ∧ c4 ≤ 8 ∧ c5 ≤ 8 ∧ c6 ≤ 8 ∧ c7 ≤ 8 ∧ byt 8 x = c0 + 256 * (c1 + 256 * (c2 + 256 * (c3 + 256 * (c4 + 256 * (c5 + 256 * (c6 + 256 * c7)))))) ∧ sby 8 x = c0 + c1 + c2 + c3 + c4 + c5 + c6 + c7 := by
  have h8 : ∀ y, pc8 (y % 256) ≤ 8 := fun y => (z_tab (y % 256) (Nat.mod_lt _ (by decide))).2
  refine ⟨_, _, _, _, _, _, _, _, h8 x, h8 (x / 256), h8 (x / 256 / 256), h8 (x / 256 / 256 / 256), h8 (x / 256 / 256 / 256 / 256), h8 (x / 256 / 256 / 256 / 256 / 256), h8 (x / 256 / 256 / 256 / 256 / 256 / 256), h8 (x / 256 / 256 / 256 / 256 / 256 / 256 / 256), ?_, ?_⟩
  · simp only [byt]; omega
  · simp only [sby]; omega
section GR
variable {L d : Nat} {M : pu_M} {P : Pp} {y : Nat}
theorem c_L_bitCount {Q : Int32 → pu_M → Prop} {g : Nat → Bool} (H : Q (nI (cnt g 60)) M) : pu_I L (d + 1) 261 [.long (lN (gs g))] M Q := by
  refine r_Long_bitCount ?_
  have hx := gs_lt g
  have h1 : ∀ n, n < 2 ^ 64 → ((lN n).toUInt64 >>> ((1 : Int32).toInt64.toUInt64 &&& Int64.toUInt64 63)).toInt64 = lN (n / 2) := fun n h => wb_shr (k := 1) h (by decide)
  have h2 : ∀ n, n < 2 ^ 64 → ((lN n).toUInt64 >>> ((2 : Int32).toInt64.toUInt64 &&& Int64.toUInt64 63)).toInt64 = lN (n / 4) := fun n h => wb_shr (k := 2) h (by decide)
  have h4 : ∀ n, n < 2 ^ 64 → ((lN n).toUInt64 >>> ((4 : Int32).toInt64.toUInt64 &&& Int64.toUInt64 63)).toInt64 = lN (n / 16) := fun n h => wb_shr (k := 4) h (by decide)
  have h8 : ∀ n, n < 2 ^ 64 → ((lN n).toUInt64 >>> ((8 : Int32).toInt64.toUInt64 &&& Int64.toUInt64 63)).toInt64 = lN (n / 256) := fun n h => wb_shr (k := 8) h (by decide)
  have h16 : ∀ n, n < 2 ^ 64 → ((lN n).toUInt64 >>> ((16 : Int32).toInt64.toUInt64 &&& Int64.toUInt64 63)).toInt64 = lN (n / 65536) := fun n h => wb_shr (k := 16) h (by decide)
  have h32 : ∀ n, n < 2 ^ 64 → ((lN n).toUInt64 >>> ((32 : Int32).toInt64.toUInt64 &&& Int64.toUInt64 63)).toInt64 = lN (n / 4294967296) := fun n h => wb_shr (k := 32) h (by decide)
  have v85 : rep 85 8 = 6148914691236517205 := by decide
  have v51 : rep 51 8 = 3689348814741910323 := by decide
  have v15 : rep 15 8 = 1085102592571150095 := by decide
  have r1 : (6148914691236517205 : Int64) = lN (rep 85 8) := by rw [v85]; rfl
  have r2 : (3689348814741910323 : Int64) = lN (rep 51 8) := by rw [v51]; rfl
  have r3 : (1085102592571150095 : Int64) = lN (rep 15 8) := by rw [v15]; rfl
  have hc : cnt g 60 = sby 8 (gs g) := by rw [sby_cnt, ← gs_cnt g]
  rw [hc] at H
  generalize gs g = x at *
  obtain ⟨c0, c1, c2, c3, c4, c5, c6, c7, a0, a1, a2, a3, a4, a5, a6, a7, hb, hs⟩ := sby_8 x
  have hz := z_byt 8 x (by omega)
  have e1 : lN x - (((lN x).toUInt64 >>> ((1 : Int32).toInt64.toUInt64 &&& Int64.toUInt64 63)).toInt64 &&& 6148914691236517205) = lN (z1 8 x) := by
    have l1 : x / 2 &&& rep 85 8 ≤ x / 2 := Nat.and_le_left
    rw [h1 x (by omega), r1, wb_and (by omega) (by omega), lN_sub (by omega)]
    rfl
  rw [e1]
  have f1 : z1 8 x < 2 ^ 64 := by unfold z1; omega
  generalize z1 8 x = x1 at *
  have e2 : (lN x1 &&& 3689348814741910323) + (((lN x1).toUInt64 >>> ((2 : Int32).toInt64.toUInt64 &&& Int64.toUInt64 63)).toInt64 &&& 3689348814741910323) = lN (z2 8 x1) := by
    rw [h2 x1 f1, r2, wb_and f1 (by omega), wb_and (by omega) (by omega), lN_add]
    rfl
  rw [e2]
  have f2 : z2 8 x1 ≤ 7378697629483820646 := by
    unfold z2
    have l1 : x1 &&& rep 51 8 ≤ rep 51 8 := Nat.and_le_right
    have l2 : x1 / 4 &&& rep 51 8 ≤ rep 51 8 := Nat.and_le_right
    omega
  generalize z2 8 x1 = x2 at *
  have e3 : (lN x2 + ((lN x2).toUInt64 >>> ((4 : Int32).toInt64.toUInt64 &&& Int64.toUInt64 63)).toInt64) &&& 1085102592571150095 = lN (byt 8 x) := by
    rw [h4 x2 (by omega), r3, lN_add, wb_and (by omega) (by omega), ← hz]
    rfl
  rw [e3]
  generalize byt 8 x = x3 at *
  have f3 : x3 < 2 ^ 60 := by omega
  have e4 : lN x3 + ((lN x3).toUInt64 >>> ((8 : Int32).toInt64.toUInt64 &&& Int64.toUInt64 63)).toInt64 = lN (x3 + x3 / 256) := by rw [h8 x3 (by omega), lN_add]
  rw [e4]
  have e5 : lN (x3 + x3 / 256) + ((lN (x3 + x3 / 256)).toUInt64 >>> ((16 : Int32).toInt64.toUInt64 &&& Int64.toUInt64 63)).toInt64 = lN ((x3 + x3 / 256) + (x3 + x3 / 256) / 65536) := by rw [h16 _ (by omega), lN_add]
  rw [e5]
  have e6 : lN ((x3 + x3 / 256) + (x3 + x3 / 256) / 65536) + ((lN ((x3 + x3 / 256) + (x3 + x3 / 256) / 65536)).toUInt64 >>> ((32 : Int32).toInt64.toUInt64 &&& Int64.toUInt64 63)).toInt64 = lN (((x3 + x3 / 256) + (x3 + x3 / 256) / 65536) + ((x3 + x3 / 256) + (x3 + x3 / 256) / 65536) / 4294967296) := by rw [h32 _ (by omega), lN_add]
  rw [e6, lN_127, z_end a0 a1 a2 a3 a4 a5 a6 a7 hb rfl rfl rfl, ← hs]
  exact H
theorem c_G_nextTo {Q : Int64 → pu_M → Prop} {g : Nat → Bool} (H : Q (lN (gs (nbs g))) M) : pu_J L (d + 1) 29 [.long (lN (gs g))] M Q := by
  refine r_Grass_nextTo ?_
  have hx := gs_lt g
  rw [← nxt_gs] at H
  generalize gs g = x at *
  have h1 : ∀ n, n < 2 ^ 64 → ((lN n).toUInt64 >>> ((1 : Int32).toInt64.toUInt64 &&& Int64.toUInt64 63)).toInt64 = lN (n / 2) := fun n h => wb_shr (k := 1) h (by decide)
  have h10 : ∀ n, n < 2 ^ 64 → ((lN n).toUInt64 >>> ((10 : Int32).toInt64.toUInt64 &&& Int64.toUInt64 63)).toInt64 = lN (n / 1024) := fun n h => wb_shr (k := 10) h (by decide)
  have l1 : ∀ n, lN n <<< ((1 : Int32).toInt64 &&& 63) = lN (n * 2) := fun n => wb_shl n (k := 1) (by decide)
  have l10 : ∀ n, lN n <<< ((10 : Int32).toInt64 &&& 63) = lN (n * 1024 % 2 ^ 64) := fun n => (wb_shl n (k := 10) (by decide)).trans (wb_mod _)
  have m1 : ((-1127000493261826) : Int64) = lN 18445617073216289790 := by decide
  have m2 : ((-577024252550054401) : Int64) = lN 17869719821159497215 := by decide
  have m3 : (1152921504606846975 : Int64) = lN 1152921504606846975 := rfl
  have b1 : x &&& 18445617073216289790 ≤ x := Nat.and_le_left
  have b2 : x &&& 17869719821159497215 ≤ x := Nat.and_le_left
  have w1 : lN x &&& lN 18445617073216289790 = lN (x &&& 18445617073216289790) := wb_and (by omega) (by decide)
  have w2 : lN x &&& lN 17869719821159497215 = lN (x &&& 17869719821159497215) := wb_and (by omega) (by decide)
  have o1 : (x &&& 18445617073216289790) / 2 ||| (x &&& 17869719821159497215) * 2 < 2 ^ 64 := Nat.or_lt_two_pow (by omega) (by omega)
  have o2 : ((x &&& 18445617073216289790) / 2 ||| (x &&& 17869719821159497215) * 2) ||| x / 1024 < 2 ^ 64 := Nat.or_lt_two_pow o1 (by omega)
  have o3 : (((x &&& 18445617073216289790) / 2 ||| (x &&& 17869719821159497215) * 2) ||| x / 1024) ||| x * 1024 % 2 ^ 64 < 2 ^ 64 := Nat.or_lt_two_pow o2 (Nat.mod_lt _ (by decide))
  rw [m1, m2, m3, w1, w2, h1 _ (by omega), h10 _ (by omega), l1, l10, wb_or (by omega) (by omega), wb_or o1 (by omega), wb_or o2 (Nat.mod_lt _ (by decide)), wb_and o3 (by decide)]
  exact H
def fg (P : Pp) (w : Nat) : Bool := (who P w).isNone
theorem lor0 (x : Int64) : x ||| 0 = x := by simp
theorem c_Y_freePlots {Q : Int64 → pu_M → Prop} (hy : pu_isY y) (hC : CY P M y) (H : Q (lN (gs (fg P))) M) : pu_J L (d + 1) 117 [.ref y] M Q := by
  refine r_Yard_freePlots hy (dn (R := fun k => pu_R L (d + 1) 117 4 [.ref y, .long (lN (bs (fg P) k)), mq_un, .int (nI k)] [] M (pu_qJ Q)) 60 ?_ ?_)
  · refine r_Yard_freePlots_4 hy ?_
    rw [if_pos ge60]; exact H
  · intro k hk ih
    refine r_Yard_freePlots_4 hy ?_
    rw [if_neg (lt60 hk)]
    refine ⟨inb_nI hk (by decide), ?_⟩
    rw [nI_clamp (by omega), hC.2.1 k hk]
    cases e : who P k with
    | none =>
      rw [if_neg (show ¬ (0 : Int32) ≤ pI none by decide)]
      have hb := bs_lt (fg P) k
      have hp : 2 ^ k < 2 ^ 60 := wb_lt2 hk
      have h1 : (1 : Int64) = lN 1 := rfl
      have hf : fg P k = true := by simp [fg, e]
      rw [h1, wb_shl 1 (by omega), Nat.one_mul, wb_or (by omega) (by omega), bs_or, nI_1]
      have : bs (fg P) k + 2 ^ k = bs (fg P) (k + 1) := by simp [bs, hf]
      rw [this]
      exact ih
    | some p =>
      obtain ⟨hp, -⟩ := who_some e
      rw [if_pos (show (0 : Int32) ≤ pI (some p) from nI_pos' (by omega)), nI_1, lor0, ← bs_skip (fg P) (by simp [fg, e])]
      exact ih
/-- what is reached in k steps -/
def rs (f s : Nat → Bool) : Nat → Nat → Bool
  | 0 => s
  | k + 1 => fun w => rs f s k w || (nbs (rs f s k) w && f w)
theorem c_G_spread {Q : Int64 → pu_M → Prop} {f s : Nat → Bool} (H : Q (lN (gs (rs f s 60))) M) : pu_J L (d + 2) 30 [.long (lN (gs s)), .long (lN (gs f))] M Q := by
  refine r_Grass_spread (dn (R := fun k => pu_R L (d + 2) 30 6 [.long (lN (gs s)), mq_un, .long (lN (gs f)), mq_un, .long (lN (gs (rs f s k))), mq_un, .int (nI k)] [] M (pu_qJ Q)) 60 ?_ ?_)
  · refine r_Grass_spread_6 ?_
    rw [if_pos ge60]; exact H
  · intro k hk ih
    refine r_Grass_spread_6 ?_
    rw [if_neg (lt60 hk)]
    refine c_G_nextTo ?_
    rw [lN_and, lN_or, nI_1]
    exact ih
def hit (f s g : Nat → Bool) (k : Nat) : Bool := (List.range 60).any (fun u => rs f s k u && g u)
theorem hit_iff {f s g : Nat → Bool} {k : Nat} : hit f s g k = true ↔ ∃ u, u < 60 ∧ rs f s k u = true ∧ g u = true := by
  unfold hit
  rw [List.any_eq_true]
  constructor
  · rintro ⟨u, hu, h⟩
    rw [Bool.and_eq_true] at h
    exact ⟨u, List.mem_range.mp hu, h.1, h.2⟩
  · rintro ⟨u, hu, h1, h2⟩
    exact ⟨u, List.mem_range.mpr hu, by rw [h1, h2]; rfl⟩
theorem hit_ne {f s g : Nat → Bool} {k : Nat} : (lg_cmp (lN (gs (rs f s k)) &&& lN (gs g)) 0 = 0) ↔ hit f s g k = false := by
  rw [lN_and, gs_ne]
  constructor
  · intro h
    cases e : hit f s g k with
    | false => rfl
    | true =>
      obtain ⟨u, hu, h1, h2⟩ := hit_iff.mp e
      have := h u hu
      rw [h1, h2] at this
      exact absurd this (by decide)
  · intro h u hu
    cases e : (rs f s k u && g u) with
    | false => rfl
    | true =>
      rw [Bool.and_eq_true] at e
      rw [hit_iff.mpr ⟨u, hu, e.1, e.2⟩] at h
      exact absurd h (by decide)
theorem c_G_steps {Q : Int32 → pu_M → Prop} {f s g : Nat → Bool} (H : Q (pI (fnd (hit f s g) 60 0)) M) : pu_I L (d + 2) 31 [.long (lN (gs s)), .long (lN (gs g)), .long (lN (gs f))] M Q := by
  have key : ∀ j k, k + j = 60 → Q (pI (fnd (hit f s g) j k)) M → pu_R L (d + 2) 31 6 [.long (lN (gs s)), mq_un, .long (lN (gs g)), mq_un, .long (lN (gs f)), mq_un, .long (lN (gs (rs f s k))), mq_un, .int (nI k)] [] M (pu_qI Q) := by
    intro j
    induction j with
    | zero =>
      intro k hk h
      obtain rfl : k = 60 := by omega
      refine r_Grass_steps_6 ?_
      rw [if_pos ge60]
      exact h
    | succ j ih =>
      intro k hk h
      refine r_Grass_steps_6 ?_
      rw [if_neg (lt60 (by omega))]
      cases e : hit f s g k with
      | true =>
        rw [fnd_t e] at h
        rw [if_neg (fun z => by rw [hit_ne.mp z] at e; exact absurd e (by decide))]
        exact h
      | false =>
        rw [fnd_f e] at h
        rw [if_pos (hit_ne.mpr e)]
        refine c_G_nextTo ?_
        rw [lN_and, lN_or, nI_1]
        exact ih (k + 1) (by omega) h
  exact r_Grass_steps (key 60 0 rfl H)
theorem c_G_lowest {Q : Int32 → pu_M → Prop} {g : Nat → Bool} (H : Q (pI (fnd g 60 0)) M) : pu_I L (d + 1) 32 [.long (lN (gs g))] M Q := by
  have key : ∀ j k, k + j = 60 → Q (pI (fnd g j k)) M → pu_R L (d + 1) 32 2 [.long (lN (gs g)), mq_un, .int (nI k)] [] M (pu_qI Q) := by
    intro j
    induction j with
    | zero =>
      intro k hk h
      obtain rfl : k = 60 := by omega
      refine r_Grass_lowest_2 ?_
      rw [if_pos ge60]
      exact h
    | succ j ih =>
      intro k hk h
      refine r_Grass_lowest_2 ?_
      have hx := gs_lt g
      have hk6 : k < 60 := by omega
      have hD : (((nI k).toInt64 &&& 63).toBitVec.smod 64).toNat = k := by
        rw [wb_c k (by omega), wb_tb, wb_sm k (by omega), BitVec.toNat_ofNat, Nat.mod_eq_of_lt (by omega)]
      have hb := gs_bit g k
      rw [Nat.testBit_eq_decide_div_mod_eq] at hb
      rw [if_neg (lt60 hk6), pf_shr hD (by omega), wb_a1 (Nat.lt_of_le_of_lt (Nat.div_le_self _ _) (by omega))]
      have e1 : (1 : Int64) = lN 1 := rfl
      rw [e1]
      have e2 : (lg_cmp (lN (gs g / 2 ^ k % 2)) (lN 1) = 0) ↔ g k = true := by
        rw [cmp0, pk_lEQ (by omega) (by omega)]
        simp only [hk6, decide_true, Bool.true_and] at hb
        rw [← hb, decide_eq_true_eq]
      cases e : g k with
      | true =>
        rw [fnd_t e] at h
        rw [if_pos (e2.mpr e)]
        exact h
      | false =>
        rw [fnd_f e] at h
        rw [if_neg (fun z => by rw [e2.mp z] at e; exact absurd e (by decide)), nI_1]
        exact ih (k + 1) (by omega) h
  exact r_Grass_lowest (key 60 0 rfl H)
end GR
/-! the lowest bit -/
theorem low_bits {x t n : Nat} (hx : x < 2 ^ n) (ht : x.testBit t = true) (hl : ∀ i, i < t → x.testBit i = false) : x &&& (2 ^ n - x) = 2 ^ t := by
  have h0 : x % 2 ^ t = 0 := by
    apply Nat.eq_of_testBit_eq
    intro i
    rw [Nat.testBit_mod_two_pow, Nat.zero_testBit]
    by_cases hi : i < t
    · simp [hl i hi]
    · simp [hi]
  have h1 : x / 2 ^ t % 2 = 1 := by
    rw [Nat.testBit_eq_decide_div_mod_eq] at ht
    exact of_decide_eq_true ht
  have hp : 0 < 2 ^ t := Nat.two_pow_pos t
  obtain ⟨m, hm⟩ : ∃ m, x / 2 ^ t = 2 * m + 1 := ⟨x / 2 ^ t / 2, by omega⟩
  have hxe : x = 2 ^ t * (2 * m + 1) := by
    have := Nat.div_add_mod x (2 ^ t)
    rw [h0, hm] at this
    omega
  have hx1 : x - 1 = 2 ^ t * (2 * m) + (2 ^ t - 1) := by
    rw [hxe, Nat.mul_add, Nat.mul_one]
    omega
  have hpos : 0 < x := by
    rw [hxe, Nat.mul_add, Nat.mul_one]; omega
  apply Nat.eq_of_testBit_eq
  intro i
  rw [Nat.testBit_and, show 2 ^ n - x = 2 ^ n - ((x - 1) + 1) by rw [Nat.sub_add_cancel hpos], Nat.testBit_two_pow_sub_succ (by omega), Nat.testBit_two_pow]
  have hxi : x.testBit i = if i < t then (0 : Nat).testBit i else (2 * m + 1).testBit (i - t) := by
    rw [hxe]
    have := Nat.testBit_two_pow_mul_add (2 * m + 1) (b := 0) (i := t) hp i
    rwa [Nat.add_zero] at this
  have hyi : (x - 1).testBit i = if i < t then (2 ^ t - 1).testBit i else (2 * m).testBit (i - t) := by
    rw [hx1]
    exact Nat.testBit_two_pow_mul_add (2 * m) (b := 2 ^ t - 1) (i := t) (by omega) i
  rw [hxi, hyi]
  rcases Nat.lt_trichotomy i t with h | h | h
  · simp [h, show ¬ t = i by omega]
  · subst h
    have hin : i < n := by
      apply Nat.lt_of_not_le
      intro z
      have : 2 ^ n ≤ 2 ^ i := Nat.pow_le_pow_right (by decide) z
      have : 2 ^ i * 1 ≤ 2 ^ i * (2 * m + 1) := Nat.mul_le_mul_left _ (by omega)
      omega
    simp [hin]
  · have e : i - t = (i - t - 1) + 1 := by omega
    rw [if_neg (by omega), if_neg (by omega), e, Nat.testBit_succ, Nat.testBit_succ]
    rw [show (2 * m + 1) / 2 = m by omega, show 2 * m / 2 = m by omega]
    have hti : decide (t = i) = false := decide_eq_false (by omega)
    rw [hti]
    cases m.testBit (i - t - 1) <;> simp
def sg (w : Nat) : Nat → Bool := fun u => decide (u = w)
theorem gs_sg {w : Nat} (hw : w < 60) : gs (sg w) = 2 ^ w := by
  refine (gs_of (fun i => ?_)).symm
  rw [Nat.testBit_two_pow]
  unfold sg
  by_cases h : w = i
  · subst h; simp [hw]
  · simp [h, show ¬ i = w by omega]
theorem lN_neg {x : Nat} (hx : x ≤ 2 ^ 64) : -(lN x) = lN (2 ^ 64 - x) := by
  have h : lN (2 ^ 64 - x) + lN x = 0 := by
    rw [lN_add, Nat.sub_add_cancel hx]; decide
  have h2 : -(lN x) = 0 - lN x := by simp
  rw [h2, ← h]
  first | exact Int64.add_sub_cancel _ _ | simp
theorem lN_low {g : Nat → Bool} {t : Nat} (h : fnd g 60 0 = some t) : lN (gs g) &&& (-(lN (gs g))) = lN (gs (sg t)) := by
  obtain ⟨-, h2, h3, h4⟩ := fnd_some h
  have hx := gs_lt g
  have hne : 0 < gs g := by
    apply Nat.pos_of_ne_zero
    intro z
    have := gs_zero.mp z t (by omega)
    rw [h3] at this
    exact absurd this (by decide)
  rw [lN_neg (by omega), wb_and (by omega) (by omega), gs_sg (by omega), low_bits (n := 64) (by omega) (by rw [gs_bit, h3]; simp; omega) (fun i hi => by rw [gs_bit, h4 i (by omega) hi]; simp)]
