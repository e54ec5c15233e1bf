/-! THE CELLS BEHIND THE TWO CONSTRUCTORS: their shape is fixed, what they hold is a table M of numbers by cell and place.
A field's code: 0 a number, 1 a reference that changes (its number stands in M), 10 + i the cell i places on, 100 + a the cell a. -/
abbrev pu_M : Type := Nat → Nat → Int32
def pu_sh (L k : Nat) : (Bool × Nat) ⊕ (Nat × List Nat) := (bif Nat.blt k 45 then (bif Nat.blt k 22 then (bif Nat.blt k 11 then (bif Nat.blt k 5 then (bif Nat.blt k 2 then (bif Nat.blt k 1 then (.inr (11, [101, 149, 103, 104, 105, 106, 113, 116, 0, 1, 1, 1, 1, 1, 1])) else (.inr (8, [102, 0, 0, 0, 0, 0]))) else (bif Nat.blt k 3 then (.inl (false, 260)) else (bif Nat.blt k 4 then (.inr (0, [101])) else (.inr (5, [0, 0]))))) else (bif Nat.blt k 8 then (bif Nat.blt k 6 then (.inr (6, [0, 0, 0])) else (bif Nat.blt k 7 then (.inr (1, [107, 108, 109, 110, 111, 112, 0, 0, 0])) else (.inl (false, 10)))) else (bif Nat.blt k 9 then (.inl (false, 100)) else (bif Nat.blt k 10 then (.inl (false, 1024)) else (.inl (false, 896)))))) else (bif Nat.blt k 16 then (bif Nat.blt k 13 then (bif Nat.blt k 12 then (.inl (false, 7)) else (.inl (false, 7))) else (bif Nat.blt k 14 then (.inr (7, [114, 115, 0])) else (bif Nat.blt k 15 then (.inl (false, 20)) else (.inl (false, 20))))) else (bif Nat.blt k 19 then (bif Nat.blt k 17 then (.inr (10, [11, 12, 13, 14, 0, 0, 0])) else (bif Nat.blt k 18 then (.inl (false, 16)) else (.inl (false, 16)))) else (bif Nat.blt k 20 then (.inl (false, 16)) else (bif Nat.blt k 21 then (.inl (false, 60)) else (.inr (10, [11, 12, 13, 14, 0, 0, 0]))))))) else (bif Nat.blt k 33 then (bif Nat.blt k 27 then (bif Nat.blt k 24 then (bif Nat.blt k 23 then (.inl (false, 16)) else (.inl (false, 16))) else (bif Nat.blt k 25 then (.inl (false, 16)) else (bif Nat.blt k 26 then (.inl (false, 60)) else (.inr (10, [11, 12, 13, 14, 0, 0, 0]))))) else (bif Nat.blt k 30 then (bif Nat.blt k 28 then (.inl (false, 16)) else (bif Nat.blt k 29 then (.inl (false, 16)) else (.inl (false, 16)))) else (bif Nat.blt k 31 then (.inl (false, 60)) else (bif Nat.blt k 32 then (.inr (3, [11, 12, 0, 13, 14, 15, 16, 0, 17, 18, 0, 0])) else (.inl (false, 240)))))) else (bif Nat.blt k 39 then (bif Nat.blt k 36 then (bif Nat.blt k 34 then (.inl (false, 240)) else (bif Nat.blt k 35 then (.inl (false, 16)) else (.inl (false, 16)))) else (bif Nat.blt k 37 then (.inl (false, 16)) else (bif Nat.blt k 38 then (.inl (false, 16)) else (.inl (false, 8))))) else (bif Nat.blt k 42 then (bif Nat.blt k 40 then (.inl (false, 32)) else (bif Nat.blt k 41 then (.inr (3, [11, 12, 0, 13, 14, 15, 16, 0, 17, 18, 0, 0])) else (.inl (false, 240)))) else (bif Nat.blt k 43 then (.inl (false, 240)) else (bif Nat.blt k 44 then (.inl (false, 16)) else (.inl (false, 16)))))))) else (bif Nat.blt k 68 then (bif Nat.blt k 56 then (bif Nat.blt k 50 then (bif Nat.blt k 47 then (bif Nat.blt k 46 then (.inl (false, 16)) else (.inl (false, 16))) else (bif Nat.blt k 48 then (.inl (false, 8)) else (bif Nat.blt k 49 then (.inl (false, 32)) else (.inr (4, [101, 1]))))) else (bif Nat.blt k 53 then (bif Nat.blt k 51 then (.inr (9, [11, 12, 13, 0])) else (bif Nat.blt k 52 then (.inl (false, 24)) else (.inl (false, 24)))) else (bif Nat.blt k 54 then (.inl (false, 24)) else (bif Nat.blt k 55 then (.inr (9, [11, 12, 13, 0])) else (.inl (false, 24)))))) else (bif Nat.blt k 62 then (bif Nat.blt k 59 then (bif Nat.blt k 57 then (.inl (false, 24)) else (bif Nat.blt k 58 then (.inl (false, 24)) else (.inr (12, [159, 160, 161, 162, 0, 0, 0, 0, 0, 0, 0, 0, 0, 0, 163, 164, 165, 166, 167, 168, 169, 170, 171, 172, 173, 174, 175, 0, 176, 177, 178, 179, 180, 181, 0, 0, 0, 0, 182, 183, 184, 0, 0, 185, 186, 0, 187, 188, 189, 0])))) else (bif Nat.blt k 60 then (.inl (false, 66)) else (bif Nat.blt k 61 then (.inl (false, 66)) else (.inl (false, 66))))) else (bif Nat.blt k 65 then (bif Nat.blt k 63 then (.inl (true, 260)) else (bif Nat.blt k 64 then (.inl (false, 260)) else (.inl (false, 260)))) else (bif Nat.blt k 66 then (.inl (false, 16)) else (bif Nat.blt k 67 then (.inl (false, 16)) else (.inl (false, 16))))))) else (bif Nat.blt k 79 then (bif Nat.blt k 73 then (bif Nat.blt k 70 then (bif Nat.blt k 69 then (.inl (false, 16)) else (.inl (false, 260))) else (bif Nat.blt k 71 then (.inl (false, 16)) else (bif Nat.blt k 72 then (.inl (false, 16)) else (.inl (false, 16))))) else (bif Nat.blt k 76 then (bif Nat.blt k 74 then (.inl (false, 16)) else (bif Nat.blt k 75 then (.inl (false, 260)) else (.inl (false, 8)))) else (bif Nat.blt k 77 then (.inl (false, 24)) else (bif Nat.blt k 78 then (.inl (false, 24)) else (.inl (false, 24)))))) else (bif Nat.blt k 85 then (bif Nat.blt k 82 then (bif Nat.blt k 80 then (.inl (false, 24)) else (bif Nat.blt k 81 then (.inl (false, 24)) else (.inl (false, 24)))) else (bif Nat.blt k 83 then (.inl (false, 7)) else (bif Nat.blt k 84 then (.inl (false, 7)) else (.inl (false, 16))))) else (bif Nat.blt k 88 then (bif Nat.blt k 86 then (.inl (false, 10)) else (bif Nat.blt k 87 then (.inl (false, 1024)) else (.inl (false, 20)))) else (bif Nat.blt k 89 then (.inl (false, 60)) else (bif Nat.blt k 90 then (.inl (false, 60)) else (.inl (false, L)))))))))
def pu_val (M : pu_M) (k j c : Nat) : Value := bif Nat.beq c 0 then .int (M k j) else bif Nat.beq c 1 then .ref (M k j).toNatClampNeg else bif Nat.blt c 100 then .ref (k + (c - 10)) else .ref (c - 100)
def pu_flds (M : pu_M) (k : Nat) : Nat → List Nat → List Value
  | _, [] => []
  | j, c :: cs => pu_val M k j c :: pu_flds M k (j + 1) cs
def pu_cell (L : Nat) (M : pu_M) (k : Nat) : mq_E := match pu_sh L k with
  | .inl a => .inl (a.1, a.2, M k)
  | .inr o => .inr (o.1, pu_flds M k 0 o.2)
def pu_hp (L : Nat) (M : pu_M) : mq_H := (pu_cell L M, 90, 7106)
def pu_wr (M : pu_M) (k i : Nat) (x : Int32) : pu_M := fun k' i' => if k' = k ∧ i' = i then x else M k' i'
def pu_wrA (M : pu_M) (k : Nat) (g : Nat → Int32) : pu_M := fun k' => if k' = k then g else M k'
theorem pu_wr_self (M : pu_M) (k i : Nat) (x : Int32) : pu_wr M k i x k = upd (M k) i x := by
  funext i'; simp [pu_wr, upd]
theorem pu_wr_ne {M : pu_M} {k i k' : Nat} {x : Int32} (h : k' ≠ k) : pu_wr M k i x k' = M k' := by
  funext i'; simp [pu_wr, h]
theorem pu_wrA_self (M : pu_M) (k : Nat) (g : Nat → Int32) : pu_wrA M k g k = g := by simp [pu_wrA]
theorem pu_wrA_ne {M : pu_M} {k k' : Nat} {g : Nat → Int32} (h : k' ≠ k) : pu_wrA M k g k' = M k' := by simp [pu_wrA, h]
theorem pu_arr {L k n : Nat} {bt : Bool} {M : pu_M} (h : pu_sh L k = .inl (bt, n)) (hk : k < 90) : mq_arr (pu_hp L M) k = some (bt, n, M k) := by
  simp [mq_arr, pu_hp, hk, pu_cell, h]
theorem pu_arrR {L k n : Nat} {bt : Bool} {M : pu_M} (h : pu_sh L k = .inl (bt, n)) (hk : k < 90 ∨ k = mq_SCR) : mq_arrR (pu_hp L M) k = some (bt, n, M k) := by
  unfold mq_arrR
  rw [if_pos (show k < (pu_hp L M).2.1 ∨ k = mq_SCR from hk)]
  simp [pu_hp, pu_cell, h]
theorem pu_obj {L k ci : Nat} {cs : List Nat} {M : pu_M} (h : pu_sh L k = .inr (ci, cs)) (hk : k < 90) : mq_obj (pu_hp L M) k = some (ci, pu_flds M k 0 cs) := by
  simp [mq_obj, pu_hp, hk, pu_cell, h]
theorem pu_flds_get (M : pu_M) (k : Nat) : ∀ (cs : List Nat) (i j c : Nat), cs[j]? = some c → (pu_flds M k i cs)[j]? = some (pu_val M k (i + j) c)
  | [], i, j, c, h => by simp at h
  | c0 :: cs, i, 0, c, h => by simp at h; subst h; rfl
  | c0 :: cs, i, j + 1, c, h => by
    have := pu_flds_get M k cs (i + 1) j c (by simpa using h)
    rw [show i + (j + 1) = i + 1 + j by omega]
    simpa [pu_flds] using this
theorem pu_flds_len (M : pu_M) (k : Nat) : ∀ (cs : List Nat) (i : Nat), (pu_flds M k i cs).length = cs.length
  | [], i => rfl
  | c :: cs, i => by simp [pu_flds, pu_flds_len M k cs (i + 1)]
theorem pu_flds_eq {M M' : pu_M} {k : Nat} : ∀ (cs : List Nat) (i : Nat), (∀ j, i ≤ j → M k j = M' k j) → pu_flds M k i cs = pu_flds M' k i cs
  | [], i, h => rfl
  | c :: cs, i, h => by
    simp only [pu_flds]
    rw [pu_flds_eq cs (i + 1) (fun j hj => h j (by omega)), show pu_val M k i c = pu_val M' k i c by simp only [pu_val, h i (Nat.le_refl i)]]
theorem pu_flds_set {M : pu_M} {k : Nat} {x : Int32} {v : Value} : ∀ (cs : List Nat) (i j c : Nat), cs[j]? = some c → pu_val (pu_wr M k (i + j) x) k (i + j) c = v → (pu_flds M k i cs).set j v = pu_flds (pu_wr M k (i + j) x) k i cs
  | [], i, j, c, h, _ => by simp at h
  | c0 :: cs, i, 0, c, h, hv => by
    simp at h; subst h
    simp only [pu_flds, List.set_cons_zero, Nat.add_zero] at hv ⊢
    rw [hv, pu_flds_eq (M := M) (M' := pu_wr M k i x) cs (i + 1) (fun j hj => by simp [pu_wr]; omega)]
  | c0 :: cs, i, j + 1, c, h, hv => by
    have hc : cs[j]? = some c := by simpa using h
    have e : i + (j + 1) = i + 1 + j := by omega
    rw [e] at hv ⊢
    simp only [pu_flds, List.set_cons_succ]
    rw [pu_flds_set cs (i + 1) j c hc hv]
    have : pu_val (pu_wr M k (i + 1 + j) x) k i c0 = pu_val M k i c0 := by
      have z : pu_wr M k (i + 1 + j) x k i = M k i := by simp [pu_wr]; omega
      simp only [pu_val, z]
    rw [this]
theorem pu_cell_ne {L : Nat} {M M' : pu_M} {k : Nat} (h : M k = M' k) : pu_cell L M k = pu_cell L M' k := by
  unfold pu_cell
  split
  · rw [h]
  · rw [pu_flds_eq _ 0 (fun j _ => by rw [h])]
theorem pu_putA {L k n i : Nat} {bt : Bool} {M : pu_M} {x : Int32} (h : pu_sh L k = .inl (bt, n)) : mq_put (pu_hp L M) k (.inl (bt, n, upd (M k) i x)) = pu_hp L (pu_wr M k i x) := by
  unfold mq_put pu_hp
  refine Prod.ext ?_ rfl
  funext k'
  show mq_up (pu_cell L M) k _ k' = _
  unfold mq_up
  by_cases hk : k' = k
  · subst hk
    rw [if_pos rfl]
    simp [pu_cell, h, pu_wr_self]
  · rw [if_neg hk]
    exact pu_cell_ne (pu_wr_ne hk).symm
theorem pu_putW {L k n : Nat} {bt : Bool} {M : pu_M} {g : Nat → Int32} (h : pu_sh L k = .inl (bt, n)) : mq_put (pu_hp L M) k (.inl (bt, n, g)) = pu_hp L (pu_wrA M k g) := by
  unfold mq_put pu_hp
  refine Prod.ext ?_ rfl
  funext k'
  show mq_up (pu_cell L M) k _ k' = _
  unfold mq_up
  by_cases hk : k' = k
  · subst hk
    rw [if_pos rfl]
    simp [pu_cell, h, pu_wrA_self]
  · rw [if_neg hk]
    exact pu_cell_ne (pu_wrA_ne hk).symm
theorem pu_putF {L k ci j c : Nat} {cs : List Nat} {M : pu_M} {x : Int32} {v : Value} (h : pu_sh L k = .inr (ci, cs)) (hc : cs[j]? = some c) (hv : pu_val (pu_wr M k j x) k j c = v) : mq_put (pu_hp L M) k (.inr (ci, (pu_flds M k 0 cs).set j v)) = pu_hp L (pu_wr M k j x) := by
  unfold mq_put pu_hp
  refine Prod.ext ?_ rfl
  funext k'
  show mq_up (pu_cell L M) k _ k' = _
  unfold mq_up
  by_cases hk : k' = k
  · subst hk
    rw [if_pos rfl]
    have := pu_flds_set (M := M) (k := k') (x := x) (v := v) cs 0 j c hc (by rw [Nat.zero_add]; exact hv)
    rw [Nat.zero_add] at this
    simp only [pu_cell, h, this]
  · rw [if_neg hk]
    exact pu_cell_ne (pu_wr_ne hk).symm
/-! cells of which there are several: the three yards, the two laws, the two lists of wishes -/
def pu_isY (y : Nat) : Prop := y = 16 ∨ y = 21 ∨ y = 26
def pu_isL (y : Nat) : Prop := y = 31 ∨ y = 40
def pu_isW (y : Nat) : Prop := y = 50 ∨ y = 54
theorem pu_Y_lt {y : Nat} (h : pu_isY y) : y < 82 := by unfold pu_isY at h; omega
theorem pu_Y_o {L y : Nat} (h : pu_isY y) : pu_sh L y = .inr (10, [11, 12, 13, 14, 0, 0, 0]) := by rcases h with rfl | rfl | rfl <;> rfl
theorem pu_Y_1 {L y : Nat} (h : pu_isY y) : pu_sh L (y + 1) = .inl (false, 16) := by rcases h with rfl | rfl | rfl <;> rfl
theorem pu_Y_l1 {y : Nat} (h : pu_isY y) : y + 1 < 90 := by unfold pu_isY at h; omega
theorem pu_Y_2 {L y : Nat} (h : pu_isY y) : pu_sh L (y + 2) = .inl (false, 16) := by rcases h with rfl | rfl | rfl <;> rfl
theorem pu_Y_l2 {y : Nat} (h : pu_isY y) : y + 2 < 90 := by unfold pu_isY at h; omega
theorem pu_Y_3 {L y : Nat} (h : pu_isY y) : pu_sh L (y + 3) = .inl (false, 16) := by rcases h with rfl | rfl | rfl <;> rfl
theorem pu_Y_l3 {y : Nat} (h : pu_isY y) : y + 3 < 90 := by unfold pu_isY at h; omega
theorem pu_Y_4 {L y : Nat} (h : pu_isY y) : pu_sh L (y + 4) = .inl (false, 60) := by rcases h with rfl | rfl | rfl <;> rfl
theorem pu_Y_l4 {y : Nat} (h : pu_isY y) : y + 4 < 90 := by unfold pu_isY at h; omega
theorem pu_L_lt {y : Nat} (h : pu_isL y) : y < 82 := by unfold pu_isL at h; omega
theorem pu_L_o {L y : Nat} (h : pu_isL y) : pu_sh L y = .inr (3, [11, 12, 0, 13, 14, 15, 16, 0, 17, 18, 0, 0]) := by rcases h with rfl | rfl <;> rfl
theorem pu_L_1 {L y : Nat} (h : pu_isL y) : pu_sh L (y + 1) = .inl (false, 240) := by rcases h with rfl | rfl <;> rfl
theorem pu_L_l1 {y : Nat} (h : pu_isL y) : y + 1 < 90 := by unfold pu_isL at h; omega
theorem pu_L_2 {L y : Nat} (h : pu_isL y) : pu_sh L (y + 2) = .inl (false, 240) := by rcases h with rfl | rfl <;> rfl
theorem pu_L_l2 {y : Nat} (h : pu_isL y) : y + 2 < 90 := by unfold pu_isL at h; omega
theorem pu_L_3 {L y : Nat} (h : pu_isL y) : pu_sh L (y + 3) = .inl (false, 16) := by rcases h with rfl | rfl <;> rfl
theorem pu_L_l3 {y : Nat} (h : pu_isL y) : y + 3 < 90 := by unfold pu_isL at h; omega
theorem pu_L_4 {L y : Nat} (h : pu_isL y) : pu_sh L (y + 4) = .inl (false, 16) := by rcases h with rfl | rfl <;> rfl
theorem pu_L_l4 {y : Nat} (h : pu_isL y) : y + 4 < 90 := by unfold pu_isL at h; omega
theorem pu_L_5 {L y : Nat} (h : pu_isL y) : pu_sh L (y + 5) = .inl (false, 16) := by rcases h with rfl | rfl <;> rfl
theorem pu_L_l5 {y : Nat} (h : pu_isL y) : y + 5 < 90 := by unfold pu_isL at h; omega
theorem pu_L_6 {L y : Nat} (h : pu_isL y) : pu_sh L (y + 6) = .inl (false, 16) := by rcases h with rfl | rfl <;> rfl
theorem pu_L_l6 {y : Nat} (h : pu_isL y) : y + 6 < 90 := by unfold pu_isL at h; omega
theorem pu_L_7 {L y : Nat} (h : pu_isL y) : pu_sh L (y + 7) = .inl (false, 8) := by rcases h with rfl | rfl <;> rfl
theorem pu_L_l7 {y : Nat} (h : pu_isL y) : y + 7 < 90 := by unfold pu_isL at h; omega
theorem pu_L_8 {L y : Nat} (h : pu_isL y) : pu_sh L (y + 8) = .inl (false, 32) := by rcases h with rfl | rfl <;> rfl
theorem pu_L_l8 {y : Nat} (h : pu_isL y) : y + 8 < 90 := by unfold pu_isL at h; omega
theorem pu_W_lt {y : Nat} (h : pu_isW y) : y < 82 := by unfold pu_isW at h; omega
theorem pu_W_o {L y : Nat} (h : pu_isW y) : pu_sh L y = .inr (9, [11, 12, 13, 0]) := by rcases h with rfl | rfl <;> rfl
theorem pu_W_1 {L y : Nat} (h : pu_isW y) : pu_sh L (y + 1) = .inl (false, 24) := by rcases h with rfl | rfl <;> rfl
theorem pu_W_l1 {y : Nat} (h : pu_isW y) : y + 1 < 90 := by unfold pu_isW at h; omega
theorem pu_W_2 {L y : Nat} (h : pu_isW y) : pu_sh L (y + 2) = .inl (false, 24) := by rcases h with rfl | rfl <;> rfl
theorem pu_W_l2 {y : Nat} (h : pu_isW y) : y + 2 < 90 := by unfold pu_isW at h; omega
theorem pu_W_3 {L y : Nat} (h : pu_isW y) : pu_sh L (y + 3) = .inl (false, 24) := by rcases h with rfl | rfl <;> rfl
theorem pu_W_l3 {y : Nat} (h : pu_isW y) : y + 3 < 90 := by unfold pu_isW at h; omega
