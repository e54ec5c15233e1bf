/-! ROWS: all orders of n, the least first -/
abbrev Ro : Type := List Nat
def xt (n : Nat) : Nat → Nat → List Ro
  | 0, _ => [[]]
  | f + 1, X => (List.range n).flatMap (fun i => if X.testBit i = true then [] else (xt n f (X ||| 2 ^ i)).map (fun l => i :: l))
/-! the next order, as the model finds it -/
def o_fi (l : Ro) : Nat → Option Nat
  | 0 => none
  | i + 1 => if l.getD i 0 ≤ l.getD (i + 1) 0 then some i else o_fi l i
def o_fj (l : Ro) (v : Nat) : Nat → Nat
  | 0 => 0
  | j + 1 => if v ≤ l.getD (j + 1) 0 then j + 1 else o_fj l v j
def o_sw (l : Ro) (a b : Nat) : Ro := (l.set a (l.getD b 0)).set b (l.getD a 0)
def o_rv : Nat → Ro → Nat → Nat → Ro
  | 0, l, _, _ => l
  | f + 1, l, a, b => if a < b then o_rv f (o_sw l a b) (a + 1) (b - 1) else l
def o_nx (n : Nat) (l : Ro) : Option Ro := match o_fi l (n - 1) with
  | none => none
  | some i => some (o_rv n (o_sw l i (o_fj l (l.getD i 0) (n - 1))) (i + 1) (n - 1))
def o_ch (n : Nat) : List Ro → Bool
  | [] => false
  | l :: xs => match xs with
    | [] => o_nx n l == none
    | l' :: _ => o_nx n l == some l' && o_ch n xs
def o_bd (n : Nat) (l : Ro) : Bool := l.length == n && l.all (fun i => Nat.blt i n)
theorem o_all2 : (xt 2 2 0).head? = some [0, 1] ∧ o_ch 2 (xt 2 2 0) = true ∧ (xt 2 2 0).all (o_bd 2) = true := by decide +kernel
theorem o_all3 : (xt 3 3 0).head? = some [0, 1, 2] ∧ o_ch 3 (xt 3 3 0) = true ∧ (xt 3 3 0).all (o_bd 3) = true := by decide +kernel
theorem o_all4 : (xt 4 4 0).head? = some [0, 1, 2, 3] ∧ o_ch 4 (xt 4 4 0) = true ∧ (xt 4 4 0).all (o_bd 4) = true := by decide +kernel
theorem o_all5 : (xt 5 5 0).head? = some [0, 1, 2, 3, 4] ∧ o_ch 5 (xt 5 5 0) = true ∧ (xt 5 5 0).all (o_bd 5) = true := by decide +kernel
theorem o_all6 : (xt 6 6 0).head? = some [0, 1, 2, 3, 4, 5] ∧ o_ch 6 (xt 6 6 0) = true ∧ (xt 6 6 0).all (o_bd 6) = true := by decide +kernel
theorem o_all7 : (xt 7 7 0).head? = some [0, 1, 2, 3, 4, 5, 6] ∧ o_ch 7 (xt 7 7 0) = true ∧ (xt 7 7 0).all (o_bd 7) = true := by decide +kernel
