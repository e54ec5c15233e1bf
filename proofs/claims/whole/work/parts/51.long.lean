/-! ===== lN n to 2^64: shifts, and, or, masks, one bit ===== -/
theorem wb_tb (n : Nat) : (lN n).toBitVec = BitVec.ofNat 64 n := rfl
theorem wb_inj {a b : Int64} (h : a.toBitVec = b.toBitVec) : a = b := Int64.toBitVec_inj.mp h
theorem wb_tn {n : Nat} (h : n < 2 ^ 64) : (lN n).toBitVec.toNat = n := by rw [wb_tb, BitVec.toNat_ofNat, Nat.mod_eq_of_lt h]
theorem wb_of (x : Int64) : ∃ n, n < 2 ^ 64 ∧ x = lN n := ⟨x.toBitVec.toNat, x.toBitVec.isLt, wb_inj (by rw [wb_tb]; simp)⟩
theorem wb_of32 (x : Int32) : ∃ n, n < 2 ^ 32 ∧ x = nI n := ⟨x.toBitVec.toNat, x.toBitVec.isLt, Int32.toBitVec_inj.mp (by show _ = BitVec.ofNat 32 _; simp)⟩
theorem wb_c : ∀ k, k < 64 → ((nI k).toInt64 &&& 63) = lN k := by decide +kernel
theorem wb_cu : ∀ k, k < 64 → ((nI k).toInt64.toUInt64 &&& Int64.toUInt64 63) = UInt64.ofNat k := by decide +kernel
theorem wb_sm : ∀ k, k < 64 → (BitVec.ofNat 64 k).smod 64 = BitVec.ofNat 64 k := by decide +kernel
theorem wb_pw {a b : Nat} (h : a ≤ b) : 2 ^ b = 2 ^ a * 2 ^ (b - a) := by rw [← Nat.pow_add]; congr 1; omega
theorem wb_lt2 {a b : Nat} (h : a < b) : 2 ^ a < 2 ^ b := Nat.pow_lt_pow_right (by decide) h
theorem wb_mod (n : Nat) : lN n = lN (n % 2 ^ 64) := wb_inj (by rw [wb_tb, wb_tb]; apply BitVec.eq_of_toNat_eq; rw [BitVec.toNat_ofNat, BitVec.toNat_ofNat, Nat.mod_mod])
theorem wb_shr {n k : Nat} (hn : n < 2 ^ 64) (hk : k < 64) : ((lN n).toUInt64 >>> ((nI k).toInt64.toUInt64 &&& Int64.toUInt64 63)).toInt64 = lN (n / 2 ^ k) := by
  rw [wb_cu k hk]
  apply wb_inj
  apply BitVec.eq_of_toNat_eq
  show ((lN n).toUInt64 >>> UInt64.ofNat k).toNat = (BitVec.ofNat 64 _).toNat
  have h1 : (UInt64.ofNat k).toNat = k := by
    show (BitVec.ofNat 64 k).toNat = k
    rw [BitVec.toNat_ofNat, Nat.mod_eq_of_lt (by omega)]
  have h2 : (lN n).toUInt64.toNat = n := wb_tn hn
  rw [UInt64.toNat_shiftRight, h1, h2, Nat.mod_eq_of_lt hk, Nat.shiftRight_eq_div_pow, BitVec.toNat_ofNat, Nat.mod_eq_of_lt (Nat.lt_of_le_of_lt (Nat.div_le_self _ _) hn)]
theorem wb_shl (n : Nat) {k : Nat} (hk : k < 64) : lN n <<< ((nI k).toInt64 &&& 63) = lN (n * 2 ^ k) := by
  rw [wb_c k hk]
  apply wb_inj
  rw [Int64.toBitVec_shiftLeft, wb_tb, wb_tb, wb_tb, wb_sm k hk]
  apply BitVec.eq_of_toNat_eq
  rw [BitVec.shiftLeft_eq', BitVec.toNat_shiftLeft, BitVec.toNat_ofNat, BitVec.toNat_ofNat, BitVec.toNat_ofNat, Nat.mod_eq_of_lt (show k < 2 ^ 64 by omega), Nat.shiftLeft_eq, Nat.mul_mod, Nat.mod_mod, ← Nat.mul_mod]
theorem wb_and {a b : Nat} (ha : a < 2 ^ 64) (hb : b < 2 ^ 64) : lN a &&& lN b = lN (a &&& b) := by
  apply wb_inj
  rw [Int64.toBitVec_and, wb_tb, wb_tb, wb_tb]
  apply BitVec.eq_of_toNat_eq
  rw [BitVec.toNat_and, BitVec.toNat_ofNat, BitVec.toNat_ofNat, BitVec.toNat_ofNat, Nat.mod_eq_of_lt ha, Nat.mod_eq_of_lt hb, Nat.mod_eq_of_lt (Nat.and_lt_two_pow _ hb)]
theorem wb_or {a b : Nat} (ha : a < 2 ^ 64) (hb : b < 2 ^ 64) : lN a ||| lN b = lN (a ||| b) := by
  apply wb_inj
  rw [Int64.toBitVec_or, wb_tb, wb_tb, wb_tb]
  apply BitVec.eq_of_toNat_eq
  rw [BitVec.toNat_or, BitVec.toNat_ofNat, BitVec.toNat_ofNat, BitVec.toNat_ofNat, Nat.mod_eq_of_lt ha, Nat.mod_eq_of_lt hb, Nat.mod_eq_of_lt (Nat.or_lt_two_pow ha hb)]
theorem wb_mask {n k : Nat} (hn : n < 2 ^ 64) (hk : k < 64) : lN n &&& lN (2 ^ k - 1) = lN (n % 2 ^ k) := by
  rw [wb_and hn (by have := wb_lt2 hk; omega), Nat.and_two_pow_sub_one_eq_mod]
theorem wb_a1 {n : Nat} (hn : n < 2 ^ 64) : lN n &&& 1 = lN (n % 2) := wb_mask (k := 1) hn (by decide)
theorem wb_bit {n k : Nat} (hn : n < 2 ^ 64) (hk : k < 64) : ((lN n).toUInt64 >>> ((nI k).toInt64.toUInt64 &&& Int64.toUInt64 63)).toInt64 &&& 1 = lN (n / 2 ^ k % 2) := by
  rw [wb_shr hn hk, wb_a1 (Nat.lt_of_le_of_lt (Nat.div_le_self _ _) hn)]
theorem wb_xor {q k : Nat} (hk : k < 63) (h : 2 ^ k ≤ q) (h2 : q < 2 ^ (k + 1)) : lN q ^^^ lN (2 ^ k) = lN (q - 2 ^ k) := by
  obtain ⟨r, rfl⟩ : ∃ r, q = 2 ^ k + r := ⟨q - 2 ^ k, by omega⟩
  have hr : r < 2 ^ k := by rw [Nat.pow_succ] at h2; omega
  have hx : (2 ^ k + r) ^^^ 2 ^ k = r := by
    apply Nat.eq_of_testBit_eq
    intro i
    rw [Nat.testBit_xor, Nat.testBit_two_pow]
    rcases Nat.lt_trichotomy i k with h | h | h
    · rw [Nat.testBit_two_pow_add_gt h]
      simp [show ¬ k = i by omega]
    · subst h
      rw [Nat.testBit_two_pow_add_eq]
      simp
    · have a1 : 2 ^ (k + 1) ≤ 2 ^ i := Nat.pow_le_pow_right (by decide) h
      rw [Nat.testBit_lt_two_pow (show 2 ^ k + r < 2 ^ i by omega), Nat.testBit_lt_two_pow (show r < 2 ^ i by omega)]
      simp [show ¬ k = i by omega]
  have b1 := wb_lt2 (show k + 1 < 64 by omega)
  have b2 := wb_lt2 (show k < 64 by omega)
  apply wb_inj
  rw [Int64.toBitVec_xor, wb_tb, wb_tb, wb_tb]
  apply BitVec.eq_of_toNat_eq
  rw [BitVec.toNat_xor, BitVec.toNat_ofNat, BitVec.toNat_ofNat, BitVec.toNat_ofNat, Nat.mod_eq_of_lt (by omega : 2 ^ k + r < 2 ^ 64), Nat.mod_eq_of_lt b2, hx, Nat.add_sub_cancel_left, Nat.mod_eq_of_lt (by omega)]
/-! ===== lN to 2^62 under >> and >>> ===== -/
theorem pf_lI {a : Nat} (h : a < 2 ^ 63) : (lN a).toInt = (a : Int) := lg_ofNat_toInt h
theorem pf_shr {a d : Nat} {D : Int64} (hD : (D.toBitVec.smod 64).toNat = d) (h : a < 2 ^ 62) : lN a >>> D = lN (a / 2 ^ d) := by
  have hd : a / 2 ^ d ≤ a := Nat.div_le_self _ _
  apply Int64.toInt_inj.mp
  have e : (lN a >>> D).toInt = (lN a).toInt >>> d := by
    rw [← hD]
    exact BitVec.toInt_sshiftRight ..
  rw [e, Int.shiftRight_eq_div_pow, pf_lI (by omega), pf_lI (by omega)]
  rfl
theorem pf_ushr {a d : Nat} {D : UInt64} (hD : D.toNat % 64 = d) (h : a < 2 ^ 62) : ((lN a).toUInt64 >>> D).toInt64 = lN (a / 2 ^ d) := by
  have hd : a / 2 ^ d ≤ a := Nat.div_le_self _ _
  have e : (lN a).toUInt64 >>> D = UInt64.ofNat (a / 2 ^ d) := UInt64.toNat_inj.mp (by
    rw [UInt64.toNat_shiftRight, hD, Nat.shiftRight_eq_div_pow, UInt64.toNat_ofNat']
    show (UInt64.ofNat a).toNat / 2 ^ d = _
    rw [UInt64.toNat_ofNat', Nat.mod_eq_of_lt (by omega), Nat.mod_eq_of_lt (by omega)])
  rw [e]
  rfl
theorem pf_andw (x : Int64) : ∃ m, m < 2 ^ 32 ∧ x &&& 4294967295 = lN m := ⟨x.toBitVec.toNat % 2 ^ 32, Nat.mod_lt _ (by decide), Int64.toBitVec_inj.mp (BitVec.eq_of_toNat_eq (by
  show (x.toBitVec &&& 4294967295#64).toNat = (BitVec.ofNat 64 (x.toBitVec.toNat % 2 ^ 32)).toNat
  rw [BitVec.toNat_and, show (4294967295#64).toNat = 2 ^ 32 - 1 from by decide, Nat.and_two_pow_sub_one_eq_mod, BitVec.toNat_ofNat]
  omega))⟩
/-! sets of plots as longs -/
def gs (g : Nat → Bool) : Nat := bs g 60
theorem gs_lt (g : Nat → Bool) : gs g < 2 ^ 60 := bs_lt g 60
theorem gs_bit (g : Nat → Bool) (k : Nat) : (gs g).testBit k = (decide (k < 60) && g k) := bs_bit g 60 k
theorem gs_eq {g h : Nat → Bool} (e : ∀ k, k < 60 → g k = h k) : gs g = gs h := bs_eq e
theorem gs_of {x : Nat} {g : Nat → Bool} (h : ∀ i, x.testBit i = (decide (i < 60) && g i)) : x = gs g := Nat.eq_of_testBit_eq (fun i => by rw [h, gs_bit])
theorem lN_and (g h : Nat → Bool) : lN (gs g) &&& lN (gs h) = lN (gs (fun k => g k && h k)) := by
  have h1 := gs_lt g
  have h2 := gs_lt h
  rw [wb_and (by omega) (by omega)]
  congr 1
  refine gs_of (fun i => ?_)
  rw [Nat.testBit_and, gs_bit, gs_bit]
  cases decide (i < 60) <;> simp
theorem lN_or (g h : Nat → Bool) : lN (gs g) ||| lN (gs h) = lN (gs (fun k => g k || h k)) := by
  have h1 := gs_lt g
  have h2 := gs_lt h
  rw [wb_or (by omega) (by omega)]
  congr 1
  refine gs_of (fun i => ?_)
  rw [Nat.testBit_or, gs_bit, gs_bit]
  cases decide (i < 60) <;> simp
theorem lN_andn (g h : Nat → Bool) : lN (gs g) &&& (lN (gs h) ^^^ (-1)) = lN (gs (fun k => g k && !h k)) := by
  have h1 := gs_lt g
  have h2 := gs_lt h
  have h3 := gs_lt (fun k => g k && !h k)
  apply wb_inj
  apply BitVec.eq_of_toNat_eq
  rw [wb_tn (by omega), Int64.toBitVec_and, Int64.toBitVec_xor, BitVec.toNat_and, BitVec.toNat_xor, wb_tn (by omega), wb_tn (by omega)]
  refine gs_of (fun i => ?_)
  rw [Nat.testBit_and, Nat.testBit_xor, gs_bit, gs_bit]
  have e : ((-1 : Int64).toBitVec.toNat) = 2 ^ 64 - 1 := by decide
  rw [e, Nat.testBit_two_pow_sub_one]
  by_cases hi : i < 60
  · simp [hi, show i < 64 by omega]
  · simp [hi]
def allG : Nat → Bool := fun _ => true
theorem gs_all : gs allG = 1152921504606846975 := by decide +kernel
theorem lN_andn2 (g h : Nat → Bool) : (1152921504606846975 : Int64) &&& (lN (gs h) ^^^ (-1)) = lN (gs (fun k => !h k)) := by
  have : (1152921504606846975 : Int64) = lN (gs allG) := by rw [gs_all]; rfl
  rw [this, lN_andn]
  congr 1
theorem gs_zero {g : Nat → Bool} : (gs g = 0) ↔ ∀ k, k < 60 → g k = false := bs_zero
theorem lN_zero {x : Nat} (h : x < 2 ^ 60) : (lN x = 0) ↔ x = 0 := by
  constructor
  · intro z
    have e : (lN x).toBitVec.toNat = (0 : Int64).toBitVec.toNat := by rw [z]
    rw [wb_tn (by omega)] at e
    exact e
  · intro z; rw [z]; rfl
theorem cmp0 {x y : Int64} : (lg_cmp x y = 0) ↔ x = y := by
  unfold lg_cmp
  by_cases h1 : x > y
  · rw [if_pos h1]
    constructor
    · intro z; exact absurd z (by decide)
    · intro z; rw [z] at h1; exact absurd (show y < y from h1) (by simp)
  · rw [if_neg h1]
    by_cases h2 : x = y
    · rw [if_pos h2]; simp [h2]
    · rw [if_neg h2]
      constructor
      · intro z; exact absurd z (by decide)
      · intro z; exact absurd z h2
theorem gs_ne {g : Nat → Bool} : (lg_cmp (lN (gs g)) 0 = 0) ↔ ∀ k, k < 60 → g k = false := by
  rw [cmp0, lN_zero (gs_lt g), gs_zero]
/-- a neighbour of w is in the set -/
def nbs (g : Nat → Bool) (w : Nat) : Bool := (List.range 60).any (fun u => g u && nx u w)
theorem nbs_iff {g : Nat → Bool} {w : Nat} : nbs g w = true ↔ ∃ u, u < 60 ∧ g u = true ∧ nx u w = true := by
  unfold nbs
  rw [List.any_eq_true]
  constructor
  · rintro ⟨u, h1, h2⟩
    rw [Bool.and_eq_true] at h2
    exact ⟨u, List.mem_range.mp h1, h2.1, h2.2⟩
  · rintro ⟨u, h1, h2, h3⟩
    exact ⟨u, List.mem_range.mpr h1, by rw [h2, h3]; rfl⟩
theorem nbs_form {g : Nat → Bool} {v : Nat} (hv : v < 60) : nbs g v = ((decide (v % 10 < 9) && g (v + 1)) || (decide (0 < v % 10) && g (v - 1)) || (decide (v + 10 < 60) && g (v + 10)) || (decide (10 ≤ v) && g (v - 10))) := by
  rw [Bool.eq_iff_iff, nbs_iff]
  simp only [Bool.or_eq_true, Bool.and_eq_true, decide_eq_true_eq]
  constructor
  · rintro ⟨u, hu, gu, hn⟩
    rw [nx_sy, nx_cases v hv u hu] at hn
    simp only [Bool.or_eq_true, Bool.and_eq_true, decide_eq_true_eq] at hn
    rcases hn with ((⟨h1, h2⟩ | ⟨h1, h2⟩) | h1) | h1
    · left; left; right; refine ⟨h1, ?_⟩; rw [show v - 1 = u by omega]; exact gu
    · left; left; left; refine ⟨h1, ?_⟩; rw [← h2]; exact gu
    · right; refine ⟨by omega, ?_⟩; rw [show v - 10 = u by omega]; exact gu
    · left; right; refine ⟨by omega, ?_⟩; rw [← h1]; exact gu
  · have key : ∀ u, u < 60 → g u = true → ((decide (0 < v % 10) && decide (u + 1 = v)) || (decide (v % 10 < 9) && decide (u = v + 1)) || decide (u + 10 = v) || decide (u = v + 10)) = true → ∃ u, u < 60 ∧ g u = true ∧ nx u v = true := by
      intro u hu gu hn
      exact ⟨u, hu, gu, by rw [nx_sy, nx_cases v hv u hu]; exact hn⟩
    rintro (((⟨h1, h2⟩ | ⟨h1, h2⟩) | ⟨h1, h2⟩) | ⟨h1, h2⟩)
    · exact key (v + 1) (by omega) h2 (by simp [h1])
    · exact key (v - 1) (by omega) h2 (by simp [h1]; omega)
    · exact key (v + 10) (by omega) h2 (by simp)
    · exact key (v - 10) (by omega) h2 (by simp; omega)
theorem mA : ∀ j, j < 64 → (18445617073216289790 : Nat).testBit j = !(decide (j % 10 = 0) && decide (j < 60)) := by decide +kernel
theorem mB : ∀ j, j < 64 → (17869719821159497215 : Nat).testBit j = !(decide (j % 10 = 9) && decide (j < 60)) := by decide +kernel
theorem mL : ∀ j, j < 64 → (1152921504606846975 : Nat).testBit j = decide (j < 60) := by decide +kernel
def nxt (x : Nat) : Nat := (((((x &&& 18445617073216289790) / 2) ||| ((x &&& 17869719821159497215) * 2)) ||| x / 1024) ||| (x * 1024 % 2 ^ 64)) &&& 1152921504606846975
theorem nxt_gs (g : Nat → Bool) : nxt (gs g) = gs (nbs g) := by
  refine gs_of (fun i => ?_)
  unfold nxt
  rw [Nat.testBit_and]
  by_cases hi : i < 60
  · have e1 : (gs g / 1024).testBit i = (decide (i + 10 < 60) && g (i + 10)) := by
      rw [show (1024 : Nat) = 2 ^ 10 from rfl, Nat.testBit_div_two_pow, gs_bit]
    have e2 : (gs g * 1024 % 2 ^ 64).testBit i = (decide (10 ≤ i) && g (i - 10)) := by
      rw [Nat.testBit_mod_two_pow, show gs g * 1024 = gs g <<< 10 by rw [Nat.shiftLeft_eq], Nat.testBit_shiftLeft, gs_bit]
      simp [show i < 64 by omega, show i - 10 < 60 by omega]
    have e3 : ((gs g &&& 18445617073216289790) / 2).testBit i = (decide (i % 10 < 9) && g (i + 1)) := by
      rw [Nat.testBit_div_two, Nat.testBit_and, gs_bit, mA (i + 1) (by omega)]
      by_cases h9 : i % 10 = 9
      · by_cases h59 : i + 1 < 60
        · simp [h9, h59]; intro _; omega
        · simp [h9, h59]
      · have : i + 1 < 60 := by omega
        simp [this, show i % 10 < 9 by omega]; intro _; omega
    have e4 : ((gs g &&& 17869719821159497215) * 2).testBit i = (decide (0 < i % 10) && g (i - 1)) := by
      rw [show (gs g &&& 17869719821159497215) * 2 = (gs g &&& 17869719821159497215) <<< 1 by rw [Nat.shiftLeft_eq], Nat.testBit_shiftLeft, Nat.testBit_and, gs_bit, mB (i - 1) (by omega)]
      have : i - 1 < 60 := by omega
      by_cases h0 : i % 10 = 0
      · by_cases hz : i = 0
        · simp [hz]
        · have h9 : (i - 1) % 10 = 9 := by omega
          simp [h0, h9, this]
      · have h9 : ¬ (i - 1) % 10 = 9 := by omega
        simp [h9, this, show 0 < i % 10 by omega, show 1 ≤ i by omega]
    rw [Nat.testBit_or, Nat.testBit_or, Nat.testBit_or, e1, e2, e3, e4, mL i (by omega), nbs_form hi]
    simp [hi]
  · have : (1152921504606846975 : Nat).testBit i = false := Nat.testBit_lt_two_pow (Nat.lt_of_lt_of_le (show 1152921504606846975 < 2 ^ 60 by decide) (Nat.pow_le_pow_right (by decide) (by omega)))
    rw [this]; simp [hi]
/-! Long.bitCount -/
def rep (m : Nat) : Nat → Nat
  | 0 => 0
  | n + 1 => m + 256 * rep m n
theorem and256 {u m v k : Nat} (hu : u < 256) (hm : m < 256) : (u + 256 * v) &&& (m + 256 * k) = (u &&& m) + 256 * (v &&& k) := by
  have hum : u &&& m < 2 ^ 8 := Nat.lt_of_le_of_lt Nat.and_le_left hu
  apply Nat.eq_of_testBit_eq
  intro i
  rw [Nat.testBit_and, Nat.add_comm u, Nat.add_comm m, Nat.add_comm (u &&& m), show (256 : Nat) = 2 ^ 8 from rfl, Nat.testBit_two_pow_mul_add _ hu, Nat.testBit_two_pow_mul_add _ hm, Nat.testBit_two_pow_mul_add _ hum]
  by_cases hi : i < 8
  · simp only [hi, if_true, Nat.testBit_and]
  · simp only [hi, if_false, Nat.testBit_and]
def z1 (n x : Nat) : Nat := x - (x / 2 &&& rep 85 n)
def z2 (n x : Nat) : Nat := (x &&& rep 51 n) + (x / 4 &&& rep 51 n)
def z3 (n x : Nat) : Nat := (x + x / 16) &&& rep 15 n
def pc8 (x : Nat) : Nat := cnt (fun k => x.testBit k) 8
theorem z_tab : ∀ a, a < 256 → (z2 1 (z1 1 a) + z2 1 (z1 1 a) / 16) % 16 = pc8 a ∧ pc8 a ≤ 8 := by decide +kernel
theorem z_and5 : ∀ r, r < 2 → ∀ a, a < 128 → (a + 128 * r) &&& 85 = a &&& 85 := by decide +kernel
theorem z_and3 : ∀ r, r < 4 → ∀ a, a < 64 → (a + 64 * r) &&& 51 = a &&& 51 := by decide +kernel
theorem and_mod16 (z n : Nat) : (z &&& rep 51 n) % 16 ≤ 3 := by
  cases n with
  | zero => simp [rep]
  | succ n =>
    have e : (z &&& rep 51 (n + 1)) % 2 ^ 4 = (z % 2 ^ 4) &&& (rep 51 (n + 1) % 2 ^ 4) := Nat.and_mod_two_pow
    have e2 : rep 51 (n + 1) % 2 ^ 4 = 3 := by simp only [rep]; omega
    rw [e2] at e
    have : (z % 2 ^ 4) &&& 3 ≤ 3 := Nat.and_le_right
    omega
def byt : Nat → Nat → Nat
  | 0, _ => 0
  | n + 1, x => pc8 (x % 256) + 256 * byt n (x / 256)
theorem z_byt : ∀ n x, x < 256 ^ n → z3 n (z2 n (z1 n x)) = byt n x
  | 0, x, h => by simp [z3, rep, byt]
  | n + 1, x, h => by
    obtain ⟨a, y, ha, rfl⟩ : ∃ a y, a < 256 ∧ x = a + 256 * y := ⟨x % 256, x / 256, Nat.mod_lt _ (by decide), (Nat.mod_add_div x 256).symm⟩
    have hy : y < 256 ^ n := by rw [Nat.pow_succ] at h; omega
    have ih := z_byt n y hy
    have ea : (a + 256 * y) % 256 = a := by omega
    have ey : (a + 256 * y) / 256 = y := by omega
    simp only [byt]
    rw [ea, ey, ← ih]
    have s1 : z1 (n + 1) (a + 256 * y) = z1 1 a + 256 * z1 n y := by
      unfold z1
      have d1 : (a + 256 * y) / 2 = (a / 2 + 128 * (y % 2)) + 256 * (y / 2) := by omega
      have r1 : rep 85 (n + 1) = 85 + 256 * rep 85 n := rfl
      have r2 : rep 85 1 = 85 := rfl
      rw [d1, r1, and256 (by omega) (by decide), z_and5 _ (Nat.mod_lt _ (by decide)) _ (by omega), r2]
      have l1 : a / 2 &&& 85 ≤ a / 2 := Nat.and_le_left
      have l2 : y / 2 &&& rep 85 n ≤ y / 2 := Nat.and_le_left
      omega
    have hz1 : z1 1 a < 256 := by unfold z1; omega
    have s2 : z2 (n + 1) (z1 1 a + 256 * z1 n y) = z2 1 (z1 1 a) + 256 * z2 n (z1 n y) := by
      generalize z1 1 a = b at hz1
      generalize z1 n y = w
      unfold z2
      have d1 : (b + 256 * w) / 4 = (b / 4 + 64 * (w % 4)) + 256 * (w / 4) := by omega
      have r1 : rep 51 (n + 1) = 51 + 256 * rep 51 n := rfl
      have r2 : rep 51 1 = 51 := rfl
      rw [d1, r1, and256 hz1 (by decide), and256 (by omega) (by decide), z_and3 _ (Nat.mod_lt _ (by decide)) _ (by omega), r2]
      omega
    rw [s1, s2]
    have hz2 : z2 1 (z1 1 a) ≤ 102 := by
      have r2 : rep 51 1 = 51 := rfl
      unfold z2
      rw [r2]
      have l1 : z1 1 a &&& 51 ≤ 51 := Nat.and_le_right
      have l2 : z1 1 a / 4 &&& 51 ≤ 51 := Nat.and_le_right
      omega
    have hm : z2 n (z1 n y) % 16 ≤ 6 := by
      have l1 := and_mod16 (z1 n y) n
      have l2 := and_mod16 (z1 n y / 4) n
      unfold z2
      omega
    obtain ⟨t1, t2⟩ := z_tab a ha
    generalize z2 1 (z1 1 a) = b at hz2 t1
    generalize z2 n (z1 n y) = w at hm
    unfold z3
    have d1 : (b + 256 * w) + (b + 256 * w) / 16 = (b + b / 16 + 16 * (w % 16)) + 256 * (w + w / 16) := by omega
    have r1 : rep 15 (n + 1) = 15 + 256 * rep 15 n := rfl
    rw [d1, r1, and256 (by omega) (by decide)]
    have e15 : (b + b / 16 + 16 * (w % 16)) &&& 15 = pc8 a := by
      have := Nat.and_two_pow_sub_one_eq_mod (b + b / 16 + 16 * (w % 16)) 4
      rw [show 2 ^ 4 - 1 = 15 from rfl] at this
      rw [this]; omega
    rw [e15]
theorem byt_le : ∀ n x, byt n x < 256 ^ n
  | 0, _ => by simp [byt]
  | n + 1, x => by
    have := byt_le n (x / 256)
    have h8 := (z_tab (x % 256) (Nat.mod_lt _ (by decide))).2
    simp only [byt]
    rw [Nat.pow_succ]
    omega
def sby : Nat → Nat → Nat
  | 0, _ => 0
  | n + 1, x => pc8 (x % 256) + sby n (x / 256)
theorem cnt_add (f : Nat → Bool) (a : Nat) : ∀ b, cnt f (a + b) = cnt f a + cnt (fun k => f (a + k)) b
  | 0 => rfl
  | b + 1 => by
    have e1 : cnt f (a + (b + 1)) = cnt f (a + b) + (if f (a + b) then 1 else 0) := rfl
    have e2 : cnt (fun k => f (a + k)) (b + 1) = cnt (fun k => f (a + k)) b + (if f (a + b) then 1 else 0) := rfl
    rw [e1, e2, cnt_add f a b]
    omega
theorem sby_cnt : ∀ n x, sby n x = cnt (fun k => x.testBit k) (8 * n)
  | 0, _ => rfl
  | n + 1, x => by
    simp only [sby]
    rw [sby_cnt n (x / 256), show 8 * (n + 1) = 8 + 8 * n by omega, cnt_add]
    congr 1
    · unfold pc8
      refine cnt_eq (fun k hk => ?_)
      rw [show (256 : Nat) = 2 ^ 8 from rfl, Nat.testBit_mod_two_pow]
      simp [hk]
    · refine cnt_eq (fun k hk => ?_)
      rw [show (256 : Nat) = 2 ^ 8 from rfl, Nat.testBit_div_two_pow, Nat.add_comm]
theorem dv1 {c Y : Nat} (h : c < 256) : (c + 256 * Y) / 256 = Y := by omega
theorem dv2 {a b Y : Nat} (ha : a < 256) (hb : b < 256) : (a + 256 * (b + 256 * Y)) / 65536 = Y := by omega
theorem dv4 {a b c e Y : Nat} (ha : a < 256) (hb : b < 256) (hc : c < 256) (he : e < 256) : (a + 256 * (b + 256 * (c + 256 * (e + 256 * Y)))) / 4294967296 = Y := by omega
theorem z_end {c0 c1 c2 c3 c4 c5 c6 c7 : Nat} (h0 : c0 ≤ 8) (h1 : c1 ≤ 8) (h2 : c2 ≤ 8) (h3 : c3 ≤ 8) (h4 : c4 ≤ 8) (h5 : c5 ≤ 8) (h6 : c6 ≤ 8) (h7 : c7 ≤ 8) {x x4 x5 x6 : Nat} (hx : x = c0 + 256 * (c1 + 256 * (c2 + 256 * (c3 + 256 * (c4 + 256 * (c5 + 256 * (c6 + 256 * c7))))))) (e4 : x4 = x + x / 256) (e5 : x5 = x4 + x4 / 65536) (e6 : x6 = x5 + x5 / 4294967296) : x6 % 128 = c0 + c1 + c2 + c3 + c4 + c5 + c6 + c7 := by
  have a4 : x4 = (c0 + c1) + 256 * ((c1 + c2) + 256 * ((c2 + c3) + 256 * ((c3 + c4) + 256 * ((c4 + c5) + 256 * ((c5 + c6) + 256 * ((c6 + c7) + 256 * c7)))))) := by
    rw [e4, hx, dv1 (by omega)]; omega
  have a5 : x5 = (c0 + c1 + c2 + c3) + 256 * ((c1 + c2 + c3 + c4) + 256 * ((c2 + c3 + c4 + c5) + 256 * ((c3 + c4 + c5 + c6) + 256 * ((c4 + c5 + c6 + c7) + 256 * ((c5 + c6 + c7) + 256 * ((c6 + c7) + 256 * c7)))))) := by
    rw [e5, a4, dv2 (by omega) (by omega)]; omega
  have a6 : ∃ R, x6 = (c0 + c1 + c2 + c3 + c4 + c5 + c6 + c7) + 256 * R := by
    rw [e6, a5, dv4 (by omega) (by omega) (by omega) (by omega)]
    generalize (c5 + c6 + c7) + 256 * ((c6 + c7) + 256 * c7) = Z
    exact ⟨(c1 + c2 + c3 + c4) + 256 * ((c2 + c3 + c4 + c5) + 256 * ((c3 + c4 + c5 + c6) + 256 * ((c4 + c5 + c6 + c7) + 256 * Z))) + Z, by omega⟩
  obtain ⟨R, hR⟩ := a6
  clear a4 a5 e4 e5 e6 hx
  omega
