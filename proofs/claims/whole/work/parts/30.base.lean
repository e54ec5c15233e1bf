/-! NUMBERS, SETS, LOOPS for the contracts -/
theorem n_0 : (0 : Int32) = nI 0 := rfl
theorem n_1 : (1 : Int32) = nI 1 := rfl
theorem n_2 : (2 : Int32) = nI 2 := rfl
theorem n_3 : (3 : Int32) = nI 3 := rfl
theorem n_4 : (4 : Int32) = nI 4 := rfl
theorem n_5 : (5 : Int32) = nI 5 := rfl
theorem n_6 : (6 : Int32) = nI 6 := rfl
theorem n_7 : (7 : Int32) = nI 7 := rfl
theorem n_8 : (8 : Int32) = nI 8 := rfl
theorem n_9 : (9 : Int32) = nI 9 := rfl
theorem n_10 : (10 : Int32) = nI 10 := rfl
theorem n_11 : (11 : Int32) = nI 11 := rfl
theorem n_12 : (12 : Int32) = nI 12 := rfl
theorem n_13 : (13 : Int32) = nI 13 := rfl
theorem n_14 : (14 : Int32) = nI 14 := rfl
theorem n_15 : (15 : Int32) = nI 15 := rfl
theorem n_16 : (16 : Int32) = nI 16 := rfl
theorem n_19 : (19 : Int32) = nI 19 := rfl
theorem n_20 : (20 : Int32) = nI 20 := rfl
theorem n_21 : (21 : Int32) = nI 21 := rfl
theorem n_24 : (24 : Int32) = nI 24 := rfl
theorem n_26 : (26 : Int32) = nI 26 := rfl
theorem n_29 : (29 : Int32) = nI 29 := rfl
theorem n_30 : (30 : Int32) = nI 30 := rfl
theorem n_31 : (31 : Int32) = nI 31 := rfl
theorem n_32 : (32 : Int32) = nI 32 := rfl
theorem n_33 : (33 : Int32) = nI 33 := rfl
theorem n_35 : (35 : Int32) = nI 35 := rfl
theorem n_36 : (36 : Int32) = nI 36 := rfl
theorem n_37 : (37 : Int32) = nI 37 := rfl
theorem n_38 : (38 : Int32) = nI 38 := rfl
theorem n_40 : (40 : Int32) = nI 40 := rfl
theorem n_41 : (41 : Int32) = nI 41 := rfl
theorem n_42 : (42 : Int32) = nI 42 := rfl
theorem n_43 : (43 : Int32) = nI 43 := rfl
theorem n_44 : (44 : Int32) = nI 44 := rfl
theorem n_45 : (45 : Int32) = nI 45 := rfl
theorem n_46 : (46 : Int32) = nI 46 := rfl
theorem n_47 : (47 : Int32) = nI 47 := rfl
theorem n_48 : (48 : Int32) = nI 48 := rfl
theorem n_57 : (57 : Int32) = nI 57 := rfl
theorem n_59 : (59 : Int32) = nI 59 := rfl
theorem n_60 : (60 : Int32) = nI 60 := rfl
theorem n_61 : (61 : Int32) = nI 61 := rfl
theorem n_62 : (62 : Int32) = nI 62 := rfl
theorem n_63 : (63 : Int32) = nI 63 := rfl
theorem n_64 : (64 : Int32) = nI 64 := rfl
theorem n_65 : (65 : Int32) = nI 65 := rfl
theorem n_66 : (66 : Int32) = nI 66 := rfl
theorem n_79 : (79 : Int32) = nI 79 := rfl
theorem n_80 : (80 : Int32) = nI 80 := rfl
theorem n_91 : (91 : Int32) = nI 91 := rfl
theorem n_93 : (93 : Int32) = nI 93 := rfl
theorem n_97 : (97 : Int32) = nI 97 := rfl
theorem n_98 : (98 : Int32) = nI 98 := rfl
theorem n_99 : (99 : Int32) = nI 99 := rfl
theorem n_100 : (100 : Int32) = nI 100 := rfl
theorem n_101 : (101 : Int32) = nI 101 := rfl
theorem n_103 : (103 : Int32) = nI 103 := rfl
theorem n_104 : (104 : Int32) = nI 104 := rfl
theorem n_107 : (107 : Int32) = nI 107 := rfl
theorem n_109 : (109 : Int32) = nI 109 := rfl
theorem n_110 : (110 : Int32) = nI 110 := rfl
theorem n_111 : (111 : Int32) = nI 111 := rfl
theorem n_112 : (112 : Int32) = nI 112 := rfl
theorem n_113 : (113 : Int32) = nI 113 := rfl
theorem n_115 : (115 : Int32) = nI 115 := rfl
theorem n_116 : (116 : Int32) = nI 116 := rfl
theorem n_117 : (117 : Int32) = nI 117 := rfl
theorem n_120 : (120 : Int32) = nI 120 := rfl
theorem n_124 : (124 : Int32) = nI 124 := rfl
theorem n_127 : (127 : Int32) = nI 127 := rfl
theorem n_240 : (240 : Int32) = nI 240 := rfl
theorem n_255 : (255 : Int32) = nI 255 := rfl
theorem n_256 : (256 : Int32) = nI 256 := rfl
theorem n_260 : (260 : Int32) = nI 260 := rfl
theorem n_896 : (896 : Int32) = nI 896 := rfl
theorem n_1000 : (1000 : Int32) = nI 1000 := rfl
theorem n_1024 : (1024 : Int32) = nI 1024 := rfl
theorem n_9999 : (9999 : Int32) = nI 9999 := rfl
theorem n_13849 : (13849 : Int32) = nI 13849 := rfl
theorem n_25173 : (25173 : Int32) = nI 25173 := rfl
theorem n_65535 : (65535 : Int32) = nI 65535 := rfl
theorem n_65536 : (65536 : Int32) = nI 65536 := rfl
theorem n_100000 : (100000 : Int32) = nI 100000 := rfl
theorem n_1048576 : (1048576 : Int32) = nI 1048576 := rfl
theorem inb_nI {n N : Nat} (h : n < N) (hN : N < 2 ^ 31) : mq_inb (nI n) N = true := by
  simp only [mq_inb, Bool.and_eq_true, Bool.not_eq_true', decide_eq_false_iff_not, decide_eq_true_eq]
  exact ⟨nI_pos (by omega), by rw [nI_clamp (by omega)]; exact h⟩
theorem nI_nonneg {n : Nat} (h : n < 2 ^ 31) : (nI n < 0) ↔ False := ⟨fun z => nI_pos h z, False.elim⟩
theorem nI_m1 {n : Nat} (h : n < 2 ^ 31) : (nI n = -1) ↔ False := by
  refine ⟨fun z => ?_, False.elim⟩
  have := congrArg Int32.toInt z
  rw [nI_toInt h] at this
  have e : ((-1 : Int32)).toInt = -1 := rfl
  omega
theorem nI_m2 {n : Nat} (h : n < 2 ^ 31) : (nI n = -2) ↔ False := by
  refine ⟨fun z => ?_, False.elim⟩
  have := congrArg Int32.toInt z
  rw [nI_toInt h] at this
  have e : ((-2 : Int32)).toInt = -2 := rfl
  omega
theorem m1_nI {n : Nat} (h : n < 2 ^ 31) : (-1 = nI n) ↔ False := by rw [eq_comm]; exact nI_m1 h
theorem m2_nI {n : Nat} (h : n < 2 ^ 31) : (-2 = nI n) ↔ False := by rw [eq_comm]; exact nI_m2 h
theorem m2_neg : ((-2 : Int32) < 0) ↔ True := by decide
theorem m1_neg : ((-1 : Int32) < 0) ↔ True := by decide
/-- a set of the first n numbers as a number -/
def bs (P : Nat → Bool) : Nat → Nat
  | 0 => 0
  | n + 1 => bs P n + (if P n then 2 ^ n else 0)
theorem bs_lt (P : Nat → Bool) : ∀ n, bs P n < 2 ^ n
  | 0 => by simp [bs]
  | n + 1 => by
    have := bs_lt P n
    simp only [bs, Nat.pow_succ]
    split <;> omega
theorem bs_bit (P : Nat → Bool) : ∀ (n k : Nat), (bs P n).testBit k = (decide (k < n) && P k)
  | 0, k => by simp [bs]
  | n + 1, k => by
    have hl := bs_lt P n
    have ih := bs_bit P n k
    simp only [bs]
    by_cases hp : P n = true
    · rw [if_pos hp, Nat.add_comm]
      rcases Nat.lt_trichotomy k n with h | h | h
      · rw [Nat.testBit_two_pow_add_gt h, ih]
        simp [h, Nat.lt_succ_of_lt h]
      · subst h
        rw [Nat.testBit_two_pow_add_eq, Nat.testBit_lt_two_pow hl]
        simp [hp]
      · rw [Nat.testBit_lt_two_pow]
        · simp; omega
        · have : 2 ^ n + 2 ^ n ≤ 2 ^ k := by
            have := Nat.pow_le_pow_right (show 0 < 2 by decide) (show n + 1 ≤ k by omega)
            rw [Nat.pow_succ] at this; omega
          omega
    · rw [if_neg hp, Nat.add_zero, ih]
      by_cases hk : k < n
      · simp [hk, Nat.lt_succ_of_lt hk]
      · by_cases e : k = n
        · subst e; simp [hp]
        · simp [hk, show ¬ k < n + 1 by omega]
theorem bs_or (P : Nat → Bool) (n : Nat) : bs P n ||| 2 ^ n = bs P n + 2 ^ n := by
  have := Nat.two_pow_add_eq_or_of_lt (bs_lt P n) 1
  rw [Nat.mul_one] at this
  rw [Nat.or_comm, ← this, Nat.add_comm]
theorem bs_eq {P R : Nat → Bool} : ∀ {n : Nat}, (∀ k, k < n → P k = R k) → bs P n = bs R n
  | 0, _ => rfl
  | n + 1, h => by simp only [bs]; rw [bs_eq (fun k hk => h k (by omega)), h n (by omega)]
theorem bs_of_bits {x n : Nat} (h : x < 2 ^ n) : bs (fun k => x.testBit k) n = x := by
  apply Nat.eq_of_testBit_eq
  intro i
  rw [bs_bit]
  by_cases hi : i < n
  · simp [hi]
  · have : x < 2 ^ i := Nat.lt_of_lt_of_le h (Nat.pow_le_pow_right (by decide) (by omega))
    simp [hi, Nat.testBit_lt_two_pow this]
theorem sm_31 : ∀ k, k < 32 → ((nI k &&& 31).toBitVec.smod 32).toNat = k := by decide +kernel
/-- bit k of a number below 2^31 -/
theorem nI_bit {x k : Nat} (hx : x < 2 ^ 31) (hk : k < 32) : (nI x >>> (nI k &&& 31)) &&& 1 = nI (if x.testBit k then 1 else 0) := by
  rw [pk_shrN hx _ k (sm_31 k hk), pk_andN (k := 1) (Nat.lt_of_le_of_lt (Nat.div_le_self _ _) (by omega)) rfl]
  congr 1
  rw [Nat.testBit_eq_decide_div_mod_eq]
  rcases Nat.mod_two_eq_zero_or_one (x / 2 ^ k) with h | h <;> simp [h]
theorem nI_pow {k : Nat} (hk : k < 31) : (1 : Int32) <<< (nI k &&& 31) = nI (2 ^ k) := by
  rw [n_1, pk_shlN _ k (sm_31 k (by omega)) (by rw [Nat.one_mul]; exact Nat.pow_lt_pow_right (by decide) (by omega)), Nat.one_mul]
theorem nI_or {a b : Nat} (ha : a < 2 ^ 31) (hb : b < 2 ^ 31) : nI a ||| nI b = nI (a ||| b) := by
  apply Int32.toBitVec_inj.mp
  apply BitVec.eq_of_toNat_eq
  have h : a ||| b < 2 ^ 31 := Nat.or_lt_two_pow ha hb
  show (nI a ||| nI b).toBitVec.toNat = (nI (a ||| b)).toBitVec.toNat
  rw [pk_tn (by omega)]
  show ((nI a).toBitVec ||| (nI b).toBitVec).toNat = _
  rw [BitVec.toNat_or, pk_tn (by omega), pk_tn (by omega)]
theorem nI_and {a b : Nat} (ha : a < 2 ^ 31) (hb : b < 2 ^ 31) : nI a &&& nI b = nI (a &&& b) := by
  apply Int32.toBitVec_inj.mp
  apply BitVec.eq_of_toNat_eq
  have h : a &&& b < 2 ^ 31 := Nat.lt_of_le_of_lt Nat.and_le_left ha
  show (nI a &&& nI b).toBitVec.toNat = (nI (a &&& b)).toBitVec.toNat
  rw [pk_tn (by omega)]
  show ((nI a).toBitVec &&& (nI b).toBitVec).toNat = _
  rw [BitVec.toNat_and, pk_tn (by omega), pk_tn (by omega)]
theorem nI_xor {a b : Nat} (ha : a < 2 ^ 31) (hb : b < 2 ^ 31) : nI a ^^^ nI b = nI (a ^^^ b) := by
  apply Int32.toBitVec_inj.mp
  apply BitVec.eq_of_toNat_eq
  have h : a ^^^ b < 2 ^ 31 := Nat.xor_lt_two_pow ha hb
  show (nI a ^^^ nI b).toBitVec.toNat = (nI (a ^^^ b)).toBitVec.toNat
  rw [pk_tn (by omega)]
  show ((nI a).toBitVec ^^^ (nI b).toBitVec).toNat = _
  rw [BitVec.toNat_xor, pk_tn (by omega), pk_tn (by omega)]
theorem bs_step (P : Nat → Bool) {k : Nat} (hk : k < 30) (h : P k = true) : nI (bs P k) ||| ((1 : Int32) <<< (nI k &&& 31)) = nI (bs P (k + 1)) := by
  have h2 : 2 ^ k < 2 ^ 31 := Nat.pow_lt_pow_right (by decide) (by omega)
  have h1 := bs_lt P k
  rw [nI_pow (by omega), nI_or (by omega) h2, bs_or]
  simp [bs, h]
theorem bs_skip (P : Nat → Bool) {k : Nat} (h : P k = false) : bs P (k + 1) = bs P k := by simp [bs, h]
/-- how many of the first n -/
def cnt (P : Nat → Bool) : Nat → Nat
  | 0 => 0
  | n + 1 => cnt P n + (if P n then 1 else 0)
theorem cnt_le (P : Nat → Bool) : ∀ n, cnt P n ≤ n
  | 0 => Nat.le_refl 0
  | n + 1 => by have := cnt_le P n; simp only [cnt]; split <;> omega
theorem cnt_eq {P R : Nat → Bool} : ∀ {n : Nat}, (∀ k, k < n → P k = R k) → cnt P n = cnt R n
  | 0, _ => rfl
  | n + 1, h => by simp only [cnt]; rw [cnt_eq (fun k hk => h k (by omega)), h n (by omega)]
/-- the ones among 16 bits -/
def pc (x : Nat) : Nat := cnt (fun k => x.testBit k) 16
def bI (b : Bool) : Int32 := if b then 1 else 0
theorem bI_eq1 {b : Bool} : (bI b = 1) ↔ b = true := by cases b <;> decide
theorem bI_eq0 {b : Bool} : (bI b = 0) ↔ b = false := by cases b <;> decide
theorem bI_nI {b : Bool} : bI b = nI (if b then 1 else 0) := by cases b <;> rfl
