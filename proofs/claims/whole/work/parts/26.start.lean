/-- what the cells hold behind the constructors -/
def pu_M0 (xs : Nat → Int32) (k : Nat) : Nat → Int32 := (bif Nat.blt k 45 then (bif Nat.blt k 22 then (bif Nat.blt k 11 then (bif Nat.blt k 5 then (bif Nat.blt k 2 then (bif Nat.blt k 1 then (fun j => bif Nat.beq j 14 then nI 54 else bif Nat.beq j 13 then nI 50 else bif Nat.beq j 12 then nI 40 else bif Nat.beq j 11 then nI 31 else bif Nat.beq j 10 then nI 26 else bif Nat.beq j 9 then nI 21 else 0) else (fun j => bif Nat.beq j 2 then (-1) else 0)) else (bif Nat.blt k 3 then (fun _ => 0) else (bif Nat.blt k 4 then (fun _ => 0) else (fun _ => 0)))) else (bif Nat.blt k 8 then (bif Nat.blt k 6 then (fun _ => 0) else (bif Nat.blt k 7 then (fun _ => 0) else (fun _ => 0))) else (bif Nat.blt k 9 then (fun _ => 0) else (bif Nat.blt k 10 then (fun _ => 0) else (fun _ => 0))))) else (bif Nat.blt k 16 then (bif Nat.blt k 13 then (bif Nat.blt k 12 then (fun _ => 0) else (fun _ => 0)) else (bif Nat.blt k 14 then (fun _ => 0) else (bif Nat.blt k 15 then (fun _ => 0) else (fun _ => 0)))) else (bif Nat.blt k 19 then (bif Nat.blt k 17 then (fun j => bif Nat.beq j 6 then (1) else 0) else (bif Nat.blt k 18 then (fun _ => 0) else (fun _ => 0))) else (bif Nat.blt k 20 then cf_19_f else (bif Nat.blt k 21 then cf_20_f else (fun j => bif Nat.beq j 6 then (1) else 0)))))) else (bif Nat.blt k 33 then (bif Nat.blt k 27 then (bif Nat.blt k 24 then (bif Nat.blt k 23 then (fun _ => 0) else (fun _ => 0)) else (bif Nat.blt k 25 then cf_24_f else (bif Nat.blt k 26 then cf_25_f else (fun j => bif Nat.beq j 6 then (1) else 0)))) else (bif Nat.blt k 30 then (bif Nat.blt k 28 then (fun _ => 0) else (bif Nat.blt k 29 then (fun _ => 0) else cf_29_f)) else (bif Nat.blt k 31 then cf_30_f else (bif Nat.blt k 32 then (fun _ => 0) else (fun _ => 0))))) else (bif Nat.blt k 39 then (bif Nat.blt k 36 then (bif Nat.blt k 34 then (fun _ => 0) else (bif Nat.blt k 35 then (fun _ => 0) else (fun _ => 0))) else (bif Nat.blt k 37 then (fun _ => 0) else (bif Nat.blt k 38 then (fun _ => 0) else (fun _ => 0)))) else (bif Nat.blt k 42 then (bif Nat.blt k 40 then (fun _ => 0) else (bif Nat.blt k 41 then (fun _ => 0) else (fun _ => 0))) else (bif Nat.blt k 43 then (fun _ => 0) else (bif Nat.blt k 44 then (fun _ => 0) else (fun _ => 0))))))) else (bif Nat.blt k 68 then (bif Nat.blt k 56 then (bif Nat.blt k 50 then (bif Nat.blt k 47 then (bif Nat.blt k 46 then (fun _ => 0) else (fun _ => 0)) else (bif Nat.blt k 48 then (fun _ => 0) else (bif Nat.blt k 49 then (fun _ => 0) else (fun j => bif Nat.beq j 1 then nI 40 else 0)))) else (bif Nat.blt k 53 then (bif Nat.blt k 51 then (fun _ => 0) else (bif Nat.blt k 52 then (fun _ => 0) else (fun _ => 0))) else (bif Nat.blt k 54 then (fun _ => 0) else (bif Nat.blt k 55 then (fun _ => 0) else (fun _ => 0))))) else (bif Nat.blt k 62 then (bif Nat.blt k 59 then (bif Nat.blt k 57 then (fun _ => 0) else (bif Nat.blt k 58 then (fun _ => 0) else (fun _ => 0))) else (bif Nat.blt k 60 then cf_59_17 else (bif Nat.blt k 61 then (fun _ => 0) else (fun _ => 0)))) else (bif Nat.blt k 65 then (bif Nat.blt k 63 then (fun _ => 0) else (bif Nat.blt k 64 then (fun _ => 0) else (fun _ => 0))) else (bif Nat.blt k 66 then (fun _ => 0) else (bif Nat.blt k 67 then (fun _ => 0) else (fun _ => 0)))))) else (bif Nat.blt k 79 then (bif Nat.blt k 73 then (bif Nat.blt k 70 then (bif Nat.blt k 69 then (fun _ => 0) else (fun _ => 0)) else (bif Nat.blt k 71 then (fun _ => 0) else (bif Nat.blt k 72 then (fun _ => 0) else (fun _ => 0)))) else (bif Nat.blt k 76 then (bif Nat.blt k 74 then (fun _ => 0) else (bif Nat.blt k 75 then (fun _ => 0) else (fun _ => 0))) else (bif Nat.blt k 77 then (fun _ => 0) else (bif Nat.blt k 78 then (fun _ => 0) else (fun _ => 0))))) else (bif Nat.blt k 85 then (bif Nat.blt k 82 then (bif Nat.blt k 80 then (fun _ => 0) else (bif Nat.blt k 81 then (fun _ => 0) else (fun _ => 0))) else (bif Nat.blt k 83 then (fun _ => 0) else (bif Nat.blt k 84 then (fun _ => 0) else (fun _ => 0)))) else (bif Nat.blt k 88 then (bif Nat.blt k 86 then (fun _ => 0) else (bif Nat.blt k 87 then (fun _ => 0) else (fun _ => 0))) else (bif Nat.blt k 89 then (fun _ => 0) else (bif Nat.blt k 90 then (fun _ => 0) else xs)))))))
theorem mq_out_put {h : mq_H} {c : Nat} {e e0 : mq_E} (hc : c < 90) (h0 : ∀ k, 90 ≤ k → h.1 k = e0) : ∀ k, 90 ≤ k → (mq_put h c e).1 k = e0 := fun k hk => by
  show mq_up h.1 c e k = e0
  unfold mq_up
  rw [if_neg (by omega)]
  exact h0 k hk
theorem mq_out_add {h : mq_H} {n : Nat} {e e0 : mq_E} (hc : h.2.1 < 90) (h0 : ∀ k, 90 ≤ k → h.1 k = e0) : ∀ k, 90 ≤ k → (mq_add h e n).1 k = e0 := fun k hk => by
  show mq_up h.1 h.2.1 e k = e0
  unfold mq_up
  rw [if_neg (by omega)]
  exact h0 k hk
theorem chO_0 (L : Nat) (xs : Nat → Int32) : ∀ k, 90 ≤ k → (ch_0 L xs).1 k = .inl (false, L, xs) := fun _ _ => rfl
theorem chO_1 (L : Nat) (xs : Nat → Int32) : ∀ k, 90 ≤ k → (ch_1 L xs).1 k = .inl (false, L, xs) := mq_out_add (show 0 < 90 by decide) (chO_0 L xs)
theorem chO_2 (L : Nat) (xs : Nat → Int32) : ∀ k, 90 ≤ k → (ch_2 L xs).1 k = .inl (false, L, xs) := mq_out_add (show 1 < 90 by decide) (chO_1 L xs)
theorem chO_3 (L : Nat) (xs : Nat → Int32) : ∀ k, 90 ≤ k → (ch_3 L xs).1 k = .inl (false, L, xs) := mq_out_add (show 2 < 90 by decide) (chO_2 L xs)
theorem chO_4 (L : Nat) (xs : Nat → Int32) : ∀ k, 90 ≤ k → (ch_4 L xs).1 k = .inl (false, L, xs) := mq_out_put (by decide) (chO_3 L xs)
theorem chO_5 (L : Nat) (xs : Nat → Int32) : ∀ k, 90 ≤ k → (ch_5 L xs).1 k = .inl (false, L, xs) := mq_out_put (by decide) (chO_4 L xs)
theorem chO_6 (L : Nat) (xs : Nat → Int32) : ∀ k, 90 ≤ k → (ch_6 L xs).1 k = .inl (false, L, xs) := mq_out_put (by decide) (chO_5 L xs)
theorem chO_7 (L : Nat) (xs : Nat → Int32) : ∀ k, 90 ≤ k → (ch_7 L xs).1 k = .inl (false, L, xs) := mq_out_add (show 3 < 90 by decide) (chO_6 L xs)
theorem chO_8 (L : Nat) (xs : Nat → Int32) : ∀ k, 90 ≤ k → (ch_8 L xs).1 k = .inl (false, L, xs) := mq_out_put (by decide) (chO_7 L xs)
theorem chO_9 (L : Nat) (xs : Nat → Int32) : ∀ k, 90 ≤ k → (ch_9 L xs).1 k = .inl (false, L, xs) := mq_out_put (by decide) (chO_8 L xs)
theorem chO_10 (L : Nat) (xs : Nat → Int32) : ∀ k, 90 ≤ k → (ch_10 L xs).1 k = .inl (false, L, xs) := mq_out_add (show 4 < 90 by decide) (chO_9 L xs)
theorem chO_11 (L : Nat) (xs : Nat → Int32) : ∀ k, 90 ≤ k → (ch_11 L xs).1 k = .inl (false, L, xs) := mq_out_put (by decide) (chO_10 L xs)
theorem chO_12 (L : Nat) (xs : Nat → Int32) : ∀ k, 90 ≤ k → (ch_12 L xs).1 k = .inl (false, L, xs) := mq_out_add (show 5 < 90 by decide) (chO_11 L xs)
theorem chO_13 (L : Nat) (xs : Nat → Int32) : ∀ k, 90 ≤ k → (ch_13 L xs).1 k = .inl (false, L, xs) := mq_out_put (by decide) (chO_12 L xs)
theorem chO_14 (L : Nat) (xs : Nat → Int32) : ∀ k, 90 ≤ k → (ch_14 L xs).1 k = .inl (false, L, xs) := mq_out_add (show 6 < 90 by decide) (chO_13 L xs)
theorem chO_15 (L : Nat) (xs : Nat → Int32) : ∀ k, 90 ≤ k → (ch_15 L xs).1 k = .inl (false, L, xs) := mq_out_add (show 7 < 90 by decide) (chO_14 L xs)
theorem chO_16 (L : Nat) (xs : Nat → Int32) : ∀ k, 90 ≤ k → (ch_16 L xs).1 k = .inl (false, L, xs) := mq_out_put (by decide) (chO_15 L xs)
theorem chO_17 (L : Nat) (xs : Nat → Int32) : ∀ k, 90 ≤ k → (ch_17 L xs).1 k = .inl (false, L, xs) := mq_out_add (show 8 < 90 by decide) (chO_16 L xs)
theorem chO_18 (L : Nat) (xs : Nat → Int32) : ∀ k, 90 ≤ k → (ch_18 L xs).1 k = .inl (false, L, xs) := mq_out_put (by decide) (chO_17 L xs)
theorem chO_19 (L : Nat) (xs : Nat → Int32) : ∀ k, 90 ≤ k → (ch_19 L xs).1 k = .inl (false, L, xs) := mq_out_add (show 9 < 90 by decide) (chO_18 L xs)
theorem chO_20 (L : Nat) (xs : Nat → Int32) : ∀ k, 90 ≤ k → (ch_20 L xs).1 k = .inl (false, L, xs) := mq_out_put (by decide) (chO_19 L xs)
theorem chO_21 (L : Nat) (xs : Nat → Int32) : ∀ k, 90 ≤ k → (ch_21 L xs).1 k = .inl (false, L, xs) := mq_out_add (show 10 < 90 by decide) (chO_20 L xs)
theorem chO_22 (L : Nat) (xs : Nat → Int32) : ∀ k, 90 ≤ k → (ch_22 L xs).1 k = .inl (false, L, xs) := mq_out_put (by decide) (chO_21 L xs)
theorem chO_23 (L : Nat) (xs : Nat → Int32) : ∀ k, 90 ≤ k → (ch_23 L xs).1 k = .inl (false, L, xs) := mq_out_add (show 11 < 90 by decide) (chO_22 L xs)
theorem chO_24 (L : Nat) (xs : Nat → Int32) : ∀ k, 90 ≤ k → (ch_24 L xs).1 k = .inl (false, L, xs) := mq_out_put (by decide) (chO_23 L xs)
theorem chO_25 (L : Nat) (xs : Nat → Int32) : ∀ k, 90 ≤ k → (ch_25 L xs).1 k = .inl (false, L, xs) := mq_out_add (show 12 < 90 by decide) (chO_24 L xs)
theorem chO_26 (L : Nat) (xs : Nat → Int32) : ∀ k, 90 ≤ k → (ch_26 L xs).1 k = .inl (false, L, xs) := mq_out_put (by decide) (chO_25 L xs)
theorem chO_27 (L : Nat) (xs : Nat → Int32) : ∀ k, 90 ≤ k → (ch_27 L xs).1 k = .inl (false, L, xs) := mq_out_put (by decide) (chO_26 L xs)
theorem chO_28 (L : Nat) (xs : Nat → Int32) : ∀ k, 90 ≤ k → (ch_28 L xs).1 k = .inl (false, L, xs) := mq_out_add (show 13 < 90 by decide) (chO_27 L xs)
theorem chO_29 (L : Nat) (xs : Nat → Int32) : ∀ k, 90 ≤ k → (ch_29 L xs).1 k = .inl (false, L, xs) := mq_out_add (show 14 < 90 by decide) (chO_28 L xs)
theorem chO_30 (L : Nat) (xs : Nat → Int32) : ∀ k, 90 ≤ k → (ch_30 L xs).1 k = .inl (false, L, xs) := mq_out_put (by decide) (chO_29 L xs)
theorem chO_31 (L : Nat) (xs : Nat → Int32) : ∀ k, 90 ≤ k → (ch_31 L xs).1 k = .inl (false, L, xs) := mq_out_add (show 15 < 90 by decide) (chO_30 L xs)
theorem chO_32 (L : Nat) (xs : Nat → Int32) : ∀ k, 90 ≤ k → (ch_32 L xs).1 k = .inl (false, L, xs) := mq_out_put (by decide) (chO_31 L xs)
theorem chO_33 (L : Nat) (xs : Nat → Int32) : ∀ k, 90 ≤ k → (ch_33 L xs).1 k = .inl (false, L, xs) := mq_out_put (by decide) (chO_32 L xs)
theorem chO_34 (L : Nat) (xs : Nat → Int32) : ∀ k, 90 ≤ k → (ch_34 L xs).1 k = .inl (false, L, xs) := mq_out_add (show 16 < 90 by decide) (chO_33 L xs)
theorem chO_35 (L : Nat) (xs : Nat → Int32) : ∀ k, 90 ≤ k → (ch_35 L xs).1 k = .inl (false, L, xs) := mq_out_add (show 17 < 90 by decide) (chO_34 L xs)
theorem chO_36 (L : Nat) (xs : Nat → Int32) : ∀ k, 90 ≤ k → (ch_36 L xs).1 k = .inl (false, L, xs) := mq_out_put (by decide) (chO_35 L xs)
theorem chO_37 (L : Nat) (xs : Nat → Int32) : ∀ k, 90 ≤ k → (ch_37 L xs).1 k = .inl (false, L, xs) := mq_out_add (show 18 < 90 by decide) (chO_36 L xs)
theorem chO_38 (L : Nat) (xs : Nat → Int32) : ∀ k, 90 ≤ k → (ch_38 L xs).1 k = .inl (false, L, xs) := mq_out_put (by decide) (chO_37 L xs)
theorem chO_39 (L : Nat) (xs : Nat → Int32) : ∀ k, 90 ≤ k → (ch_39 L xs).1 k = .inl (false, L, xs) := mq_out_add (show 19 < 90 by decide) (chO_38 L xs)
theorem chO_40 (L : Nat) (xs : Nat → Int32) : ∀ k, 90 ≤ k → (ch_40 L xs).1 k = .inl (false, L, xs) := mq_out_put (by decide) (chO_39 L xs)
theorem chO_41 (L : Nat) (xs : Nat → Int32) : ∀ k, 90 ≤ k → (ch_41 L xs).1 k = .inl (false, L, xs) := mq_out_add (show 20 < 90 by decide) (chO_40 L xs)
theorem chO_42 (L : Nat) (xs : Nat → Int32) : ∀ k, 90 ≤ k → (ch_42 L xs).1 k = .inl (false, L, xs) := mq_out_put (by decide) (chO_41 L xs)
theorem chO_43 (L : Nat) (xs : Nat → Int32) : ∀ k, 90 ≤ k → (ch_43 L xs).1 k = .inl (false, L, xs) := mq_out_put (by decide) (chO_42 L xs)
theorem chO_44 (L : Nat) (xs : Nat → Int32) : ∀ k, 90 ≤ k → (ch_44 L xs).1 k = .inl (false, L, xs) := mq_out_put (by decide) (chO_43 L xs)
theorem chO_45 (L : Nat) (xs : Nat → Int32) : ∀ k, 90 ≤ k → (ch_45 L xs).1 k = .inl (false, L, xs) := mq_out_put (by decide) (chO_44 L xs)
theorem chO_46 (L : Nat) (xs : Nat → Int32) : ∀ k, 90 ≤ k → (ch_46 L xs).1 k = .inl (false, L, xs) := mq_out_put (by decide) (chO_45 L xs)
theorem chO_47 (L : Nat) (xs : Nat → Int32) : ∀ k, 90 ≤ k → (ch_47 L xs).1 k = .inl (false, L, xs) := mq_out_add (show 21 < 90 by decide) (chO_46 L xs)
theorem chO_48 (L : Nat) (xs : Nat → Int32) : ∀ k, 90 ≤ k → (ch_48 L xs).1 k = .inl (false, L, xs) := mq_out_add (show 22 < 90 by decide) (chO_47 L xs)
theorem chO_49 (L : Nat) (xs : Nat → Int32) : ∀ k, 90 ≤ k → (ch_49 L xs).1 k = .inl (false, L, xs) := mq_out_put (by decide) (chO_48 L xs)
theorem chO_50 (L : Nat) (xs : Nat → Int32) : ∀ k, 90 ≤ k → (ch_50 L xs).1 k = .inl (false, L, xs) := mq_out_add (show 23 < 90 by decide) (chO_49 L xs)
theorem chO_51 (L : Nat) (xs : Nat → Int32) : ∀ k, 90 ≤ k → (ch_51 L xs).1 k = .inl (false, L, xs) := mq_out_put (by decide) (chO_50 L xs)
theorem chO_52 (L : Nat) (xs : Nat → Int32) : ∀ k, 90 ≤ k → (ch_52 L xs).1 k = .inl (false, L, xs) := mq_out_add (show 24 < 90 by decide) (chO_51 L xs)
theorem chO_53 (L : Nat) (xs : Nat → Int32) : ∀ k, 90 ≤ k → (ch_53 L xs).1 k = .inl (false, L, xs) := mq_out_put (by decide) (chO_52 L xs)
theorem chO_54 (L : Nat) (xs : Nat → Int32) : ∀ k, 90 ≤ k → (ch_54 L xs).1 k = .inl (false, L, xs) := mq_out_add (show 25 < 90 by decide) (chO_53 L xs)
theorem chO_55 (L : Nat) (xs : Nat → Int32) : ∀ k, 90 ≤ k → (ch_55 L xs).1 k = .inl (false, L, xs) := mq_out_put (by decide) (chO_54 L xs)
theorem chO_56 (L : Nat) (xs : Nat → Int32) : ∀ k, 90 ≤ k → (ch_56 L xs).1 k = .inl (false, L, xs) := mq_out_put (by decide) (chO_55 L xs)
theorem chO_57 (L : Nat) (xs : Nat → Int32) : ∀ k, 90 ≤ k → (ch_57 L xs).1 k = .inl (false, L, xs) := mq_out_put (by decide) (chO_56 L xs)
theorem chO_58 (L : Nat) (xs : Nat → Int32) : ∀ k, 90 ≤ k → (ch_58 L xs).1 k = .inl (false, L, xs) := mq_out_put (by decide) (chO_57 L xs)
theorem chO_59 (L : Nat) (xs : Nat → Int32) : ∀ k, 90 ≤ k → (ch_59 L xs).1 k = .inl (false, L, xs) := mq_out_put (by decide) (chO_58 L xs)
theorem chO_60 (L : Nat) (xs : Nat → Int32) : ∀ k, 90 ≤ k → (ch_60 L xs).1 k = .inl (false, L, xs) := mq_out_add (show 26 < 90 by decide) (chO_59 L xs)
theorem chO_61 (L : Nat) (xs : Nat → Int32) : ∀ k, 90 ≤ k → (ch_61 L xs).1 k = .inl (false, L, xs) := mq_out_add (show 27 < 90 by decide) (chO_60 L xs)
theorem chO_62 (L : Nat) (xs : Nat → Int32) : ∀ k, 90 ≤ k → (ch_62 L xs).1 k = .inl (false, L, xs) := mq_out_put (by decide) (chO_61 L xs)
theorem chO_63 (L : Nat) (xs : Nat → Int32) : ∀ k, 90 ≤ k → (ch_63 L xs).1 k = .inl (false, L, xs) := mq_out_add (show 28 < 90 by decide) (chO_62 L xs)
theorem chO_64 (L : Nat) (xs : Nat → Int32) : ∀ k, 90 ≤ k → (ch_64 L xs).1 k = .inl (false, L, xs) := mq_out_put (by decide) (chO_63 L xs)
theorem chO_65 (L : Nat) (xs : Nat → Int32) : ∀ k, 90 ≤ k → (ch_65 L xs).1 k = .inl (false, L, xs) := mq_out_add (show 29 < 90 by decide) (chO_64 L xs)
theorem chO_66 (L : Nat) (xs : Nat → Int32) : ∀ k, 90 ≤ k → (ch_66 L xs).1 k = .inl (false, L, xs) := mq_out_put (by decide) (chO_65 L xs)
theorem chO_67 (L : Nat) (xs : Nat → Int32) : ∀ k, 90 ≤ k → (ch_67 L xs).1 k = .inl (false, L, xs) := mq_out_add (show 30 < 90 by decide) (chO_66 L xs)
theorem chO_68 (L : Nat) (xs : Nat → Int32) : ∀ k, 90 ≤ k → (ch_68 L xs).1 k = .inl (false, L, xs) := mq_out_put (by decide) (chO_67 L xs)
theorem chO_69 (L : Nat) (xs : Nat → Int32) : ∀ k, 90 ≤ k → (ch_69 L xs).1 k = .inl (false, L, xs) := mq_out_put (by decide) (chO_68 L xs)
theorem chO_70 (L : Nat) (xs : Nat → Int32) : ∀ k, 90 ≤ k → (ch_70 L xs).1 k = .inl (false, L, xs) := mq_out_put (by decide) (chO_69 L xs)
theorem chO_71 (L : Nat) (xs : Nat → Int32) : ∀ k, 90 ≤ k → (ch_71 L xs).1 k = .inl (false, L, xs) := mq_out_put (by decide) (chO_70 L xs)
theorem chO_72 (L : Nat) (xs : Nat → Int32) : ∀ k, 90 ≤ k → (ch_72 L xs).1 k = .inl (false, L, xs) := mq_out_put (by decide) (chO_71 L xs)
theorem chO_73 (L : Nat) (xs : Nat → Int32) : ∀ k, 90 ≤ k → (ch_73 L xs).1 k = .inl (false, L, xs) := mq_out_add (show 31 < 90 by decide) (chO_72 L xs)
theorem chO_74 (L : Nat) (xs : Nat → Int32) : ∀ k, 90 ≤ k → (ch_74 L xs).1 k = .inl (false, L, xs) := mq_out_add (show 32 < 90 by decide) (chO_73 L xs)
theorem chO_75 (L : Nat) (xs : Nat → Int32) : ∀ k, 90 ≤ k → (ch_75 L xs).1 k = .inl (false, L, xs) := mq_out_put (by decide) (chO_74 L xs)
theorem chO_76 (L : Nat) (xs : Nat → Int32) : ∀ k, 90 ≤ k → (ch_76 L xs).1 k = .inl (false, L, xs) := mq_out_add (show 33 < 90 by decide) (chO_75 L xs)
theorem chO_77 (L : Nat) (xs : Nat → Int32) : ∀ k, 90 ≤ k → (ch_77 L xs).1 k = .inl (false, L, xs) := mq_out_put (by decide) (chO_76 L xs)
theorem chO_78 (L : Nat) (xs : Nat → Int32) : ∀ k, 90 ≤ k → (ch_78 L xs).1 k = .inl (false, L, xs) := mq_out_add (show 34 < 90 by decide) (chO_77 L xs)
theorem chO_79 (L : Nat) (xs : Nat → Int32) : ∀ k, 90 ≤ k → (ch_79 L xs).1 k = .inl (false, L, xs) := mq_out_put (by decide) (chO_78 L xs)
theorem chO_80 (L : Nat) (xs : Nat → Int32) : ∀ k, 90 ≤ k → (ch_80 L xs).1 k = .inl (false, L, xs) := mq_out_add (show 35 < 90 by decide) (chO_79 L xs)
theorem chO_81 (L : Nat) (xs : Nat → Int32) : ∀ k, 90 ≤ k → (ch_81 L xs).1 k = .inl (false, L, xs) := mq_out_put (by decide) (chO_80 L xs)
theorem chO_82 (L : Nat) (xs : Nat → Int32) : ∀ k, 90 ≤ k → (ch_82 L xs).1 k = .inl (false, L, xs) := mq_out_add (show 36 < 90 by decide) (chO_81 L xs)
theorem chO_83 (L : Nat) (xs : Nat → Int32) : ∀ k, 90 ≤ k → (ch_83 L xs).1 k = .inl (false, L, xs) := mq_out_put (by decide) (chO_82 L xs)
theorem chO_84 (L : Nat) (xs : Nat → Int32) : ∀ k, 90 ≤ k → (ch_84 L xs).1 k = .inl (false, L, xs) := mq_out_add (show 37 < 90 by decide) (chO_83 L xs)
theorem chO_85 (L : Nat) (xs : Nat → Int32) : ∀ k, 90 ≤ k → (ch_85 L xs).1 k = .inl (false, L, xs) := mq_out_put (by decide) (chO_84 L xs)
theorem chO_86 (L : Nat) (xs : Nat → Int32) : ∀ k, 90 ≤ k → (ch_86 L xs).1 k = .inl (false, L, xs) := mq_out_add (show 38 < 90 by decide) (chO_85 L xs)
theorem chO_87 (L : Nat) (xs : Nat → Int32) : ∀ k, 90 ≤ k → (ch_87 L xs).1 k = .inl (false, L, xs) := mq_out_put (by decide) (chO_86 L xs)
theorem chO_88 (L : Nat) (xs : Nat → Int32) : ∀ k, 90 ≤ k → (ch_88 L xs).1 k = .inl (false, L, xs) := mq_out_add (show 39 < 90 by decide) (chO_87 L xs)
theorem chO_89 (L : Nat) (xs : Nat → Int32) : ∀ k, 90 ≤ k → (ch_89 L xs).1 k = .inl (false, L, xs) := mq_out_put (by decide) (chO_88 L xs)
theorem chO_90 (L : Nat) (xs : Nat → Int32) : ∀ k, 90 ≤ k → (ch_90 L xs).1 k = .inl (false, L, xs) := mq_out_put (by decide) (chO_89 L xs)
theorem chO_91 (L : Nat) (xs : Nat → Int32) : ∀ k, 90 ≤ k → (ch_91 L xs).1 k = .inl (false, L, xs) := mq_out_add (show 40 < 90 by decide) (chO_90 L xs)
theorem chO_92 (L : Nat) (xs : Nat → Int32) : ∀ k, 90 ≤ k → (ch_92 L xs).1 k = .inl (false, L, xs) := mq_out_add (show 41 < 90 by decide) (chO_91 L xs)
theorem chO_93 (L : Nat) (xs : Nat → Int32) : ∀ k, 90 ≤ k → (ch_93 L xs).1 k = .inl (false, L, xs) := mq_out_put (by decide) (chO_92 L xs)
theorem chO_94 (L : Nat) (xs : Nat → Int32) : ∀ k, 90 ≤ k → (ch_94 L xs).1 k = .inl (false, L, xs) := mq_out_add (show 42 < 90 by decide) (chO_93 L xs)
theorem chO_95 (L : Nat) (xs : Nat → Int32) : ∀ k, 90 ≤ k → (ch_95 L xs).1 k = .inl (false, L, xs) := mq_out_put (by decide) (chO_94 L xs)
theorem chO_96 (L : Nat) (xs : Nat → Int32) : ∀ k, 90 ≤ k → (ch_96 L xs).1 k = .inl (false, L, xs) := mq_out_add (show 43 < 90 by decide) (chO_95 L xs)
theorem chO_97 (L : Nat) (xs : Nat → Int32) : ∀ k, 90 ≤ k → (ch_97 L xs).1 k = .inl (false, L, xs) := mq_out_put (by decide) (chO_96 L xs)
theorem chO_98 (L : Nat) (xs : Nat → Int32) : ∀ k, 90 ≤ k → (ch_98 L xs).1 k = .inl (false, L, xs) := mq_out_add (show 44 < 90 by decide) (chO_97 L xs)
theorem chO_99 (L : Nat) (xs : Nat → Int32) : ∀ k, 90 ≤ k → (ch_99 L xs).1 k = .inl (false, L, xs) := mq_out_put (by decide) (chO_98 L xs)
theorem chO_100 (L : Nat) (xs : Nat → Int32) : ∀ k, 90 ≤ k → (ch_100 L xs).1 k = .inl (false, L, xs) := mq_out_add (show 45 < 90 by decide) (chO_99 L xs)
theorem chO_101 (L : Nat) (xs : Nat → Int32) : ∀ k, 90 ≤ k → (ch_101 L xs).1 k = .inl (false, L, xs) := mq_out_put (by decide) (chO_100 L xs)
theorem chO_102 (L : Nat) (xs : Nat → Int32) : ∀ k, 90 ≤ k → (ch_102 L xs).1 k = .inl (false, L, xs) := mq_out_add (show 46 < 90 by decide) (chO_101 L xs)
theorem chO_103 (L : Nat) (xs : Nat → Int32) : ∀ k, 90 ≤ k → (ch_103 L xs).1 k = .inl (false, L, xs) := mq_out_put (by decide) (chO_102 L xs)
theorem chO_104 (L : Nat) (xs : Nat → Int32) : ∀ k, 90 ≤ k → (ch_104 L xs).1 k = .inl (false, L, xs) := mq_out_add (show 47 < 90 by decide) (chO_103 L xs)
theorem chO_105 (L : Nat) (xs : Nat → Int32) : ∀ k, 90 ≤ k → (ch_105 L xs).1 k = .inl (false, L, xs) := mq_out_put (by decide) (chO_104 L xs)
theorem chO_106 (L : Nat) (xs : Nat → Int32) : ∀ k, 90 ≤ k → (ch_106 L xs).1 k = .inl (false, L, xs) := mq_out_add (show 48 < 90 by decide) (chO_105 L xs)
theorem chO_107 (L : Nat) (xs : Nat → Int32) : ∀ k, 90 ≤ k → (ch_107 L xs).1 k = .inl (false, L, xs) := mq_out_put (by decide) (chO_106 L xs)
theorem chO_108 (L : Nat) (xs : Nat → Int32) : ∀ k, 90 ≤ k → (ch_108 L xs).1 k = .inl (false, L, xs) := mq_out_put (by decide) (chO_107 L xs)
theorem chO_109 (L : Nat) (xs : Nat → Int32) : ∀ k, 90 ≤ k → (ch_109 L xs).1 k = .inl (false, L, xs) := mq_out_add (show 49 < 90 by decide) (chO_108 L xs)
theorem chO_110 (L : Nat) (xs : Nat → Int32) : ∀ k, 90 ≤ k → (ch_110 L xs).1 k = .inl (false, L, xs) := mq_out_put (by decide) (chO_109 L xs)
theorem chO_111 (L : Nat) (xs : Nat → Int32) : ∀ k, 90 ≤ k → (ch_111 L xs).1 k = .inl (false, L, xs) := mq_out_put (by decide) (chO_110 L xs)
theorem chO_112 (L : Nat) (xs : Nat → Int32) : ∀ k, 90 ≤ k → (ch_112 L xs).1 k = .inl (false, L, xs) := mq_out_put (by decide) (chO_111 L xs)
theorem chO_113 (L : Nat) (xs : Nat → Int32) : ∀ k, 90 ≤ k → (ch_113 L xs).1 k = .inl (false, L, xs) := mq_out_add (show 50 < 90 by decide) (chO_112 L xs)
theorem chO_114 (L : Nat) (xs : Nat → Int32) : ∀ k, 90 ≤ k → (ch_114 L xs).1 k = .inl (false, L, xs) := mq_out_add (show 51 < 90 by decide) (chO_113 L xs)
theorem chO_115 (L : Nat) (xs : Nat → Int32) : ∀ k, 90 ≤ k → (ch_115 L xs).1 k = .inl (false, L, xs) := mq_out_put (by decide) (chO_114 L xs)
theorem chO_116 (L : Nat) (xs : Nat → Int32) : ∀ k, 90 ≤ k → (ch_116 L xs).1 k = .inl (false, L, xs) := mq_out_add (show 52 < 90 by decide) (chO_115 L xs)
theorem chO_117 (L : Nat) (xs : Nat → Int32) : ∀ k, 90 ≤ k → (ch_117 L xs).1 k = .inl (false, L, xs) := mq_out_put (by decide) (chO_116 L xs)
theorem chO_118 (L : Nat) (xs : Nat → Int32) : ∀ k, 90 ≤ k → (ch_118 L xs).1 k = .inl (false, L, xs) := mq_out_add (show 53 < 90 by decide) (chO_117 L xs)
theorem chO_119 (L : Nat) (xs : Nat → Int32) : ∀ k, 90 ≤ k → (ch_119 L xs).1 k = .inl (false, L, xs) := mq_out_put (by decide) (chO_118 L xs)
theorem chO_120 (L : Nat) (xs : Nat → Int32) : ∀ k, 90 ≤ k → (ch_120 L xs).1 k = .inl (false, L, xs) := mq_out_put (by decide) (chO_119 L xs)
theorem chO_121 (L : Nat) (xs : Nat → Int32) : ∀ k, 90 ≤ k → (ch_121 L xs).1 k = .inl (false, L, xs) := mq_out_add (show 54 < 90 by decide) (chO_120 L xs)
theorem chO_122 (L : Nat) (xs : Nat → Int32) : ∀ k, 90 ≤ k → (ch_122 L xs).1 k = .inl (false, L, xs) := mq_out_add (show 55 < 90 by decide) (chO_121 L xs)
theorem chO_123 (L : Nat) (xs : Nat → Int32) : ∀ k, 90 ≤ k → (ch_123 L xs).1 k = .inl (false, L, xs) := mq_out_put (by decide) (chO_122 L xs)
theorem chO_124 (L : Nat) (xs : Nat → Int32) : ∀ k, 90 ≤ k → (ch_124 L xs).1 k = .inl (false, L, xs) := mq_out_add (show 56 < 90 by decide) (chO_123 L xs)
theorem chO_125 (L : Nat) (xs : Nat → Int32) : ∀ k, 90 ≤ k → (ch_125 L xs).1 k = .inl (false, L, xs) := mq_out_put (by decide) (chO_124 L xs)
theorem chO_126 (L : Nat) (xs : Nat → Int32) : ∀ k, 90 ≤ k → (ch_126 L xs).1 k = .inl (false, L, xs) := mq_out_add (show 57 < 90 by decide) (chO_125 L xs)
theorem chO_127 (L : Nat) (xs : Nat → Int32) : ∀ k, 90 ≤ k → (ch_127 L xs).1 k = .inl (false, L, xs) := mq_out_put (by decide) (chO_126 L xs)
theorem chO_128 (L : Nat) (xs : Nat → Int32) : ∀ k, 90 ≤ k → (ch_128 L xs).1 k = .inl (false, L, xs) := mq_out_put (by decide) (chO_127 L xs)
theorem chO_129 (L : Nat) (xs : Nat → Int32) : ∀ k, 90 ≤ k → (ch_129 L xs).1 k = .inl (false, L, xs) := mq_out_add (show 58 < 90 by decide) (chO_128 L xs)
theorem chO_130 (L : Nat) (xs : Nat → Int32) : ∀ k, 90 ≤ k → (ch_130 L xs).1 k = .inl (false, L, xs) := mq_out_add (show 59 < 90 by decide) (chO_129 L xs)
theorem chO_131 (L : Nat) (xs : Nat → Int32) : ∀ k, 90 ≤ k → (ch_131 L xs).1 k = .inl (false, L, xs) := mq_out_put (by decide) (chO_130 L xs)
theorem chO_132 (L : Nat) (xs : Nat → Int32) : ∀ k, 90 ≤ k → (ch_132 L xs).1 k = .inl (false, L, xs) := mq_out_add (show 60 < 90 by decide) (chO_131 L xs)
theorem chO_133 (L : Nat) (xs : Nat → Int32) : ∀ k, 90 ≤ k → (ch_133 L xs).1 k = .inl (false, L, xs) := mq_out_put (by decide) (chO_132 L xs)
theorem chO_134 (L : Nat) (xs : Nat → Int32) : ∀ k, 90 ≤ k → (ch_134 L xs).1 k = .inl (false, L, xs) := mq_out_add (show 61 < 90 by decide) (chO_133 L xs)
theorem chO_135 (L : Nat) (xs : Nat → Int32) : ∀ k, 90 ≤ k → (ch_135 L xs).1 k = .inl (false, L, xs) := mq_out_put (by decide) (chO_134 L xs)
theorem chO_136 (L : Nat) (xs : Nat → Int32) : ∀ k, 90 ≤ k → (ch_136 L xs).1 k = .inl (false, L, xs) := mq_out_add (show 62 < 90 by decide) (chO_135 L xs)
theorem chO_137 (L : Nat) (xs : Nat → Int32) : ∀ k, 90 ≤ k → (ch_137 L xs).1 k = .inl (false, L, xs) := mq_out_put (by decide) (chO_136 L xs)
theorem chO_138 (L : Nat) (xs : Nat → Int32) : ∀ k, 90 ≤ k → (ch_138 L xs).1 k = .inl (false, L, xs) := mq_out_add (show 63 < 90 by decide) (chO_137 L xs)
theorem chO_139 (L : Nat) (xs : Nat → Int32) : ∀ k, 90 ≤ k → (ch_139 L xs).1 k = .inl (false, L, xs) := mq_out_put (by decide) (chO_138 L xs)
theorem chO_140 (L : Nat) (xs : Nat → Int32) : ∀ k, 90 ≤ k → (ch_140 L xs).1 k = .inl (false, L, xs) := mq_out_add (show 64 < 90 by decide) (chO_139 L xs)
theorem chO_141 (L : Nat) (xs : Nat → Int32) : ∀ k, 90 ≤ k → (ch_141 L xs).1 k = .inl (false, L, xs) := mq_out_put (by decide) (chO_140 L xs)
theorem chO_142 (L : Nat) (xs : Nat → Int32) : ∀ k, 90 ≤ k → (ch_142 L xs).1 k = .inl (false, L, xs) := mq_out_add (show 65 < 90 by decide) (chO_141 L xs)
theorem chO_143 (L : Nat) (xs : Nat → Int32) : ∀ k, 90 ≤ k → (ch_143 L xs).1 k = .inl (false, L, xs) := mq_out_put (by decide) (chO_142 L xs)
theorem chO_144 (L : Nat) (xs : Nat → Int32) : ∀ k, 90 ≤ k → (ch_144 L xs).1 k = .inl (false, L, xs) := mq_out_add (show 66 < 90 by decide) (chO_143 L xs)
theorem chO_145 (L : Nat) (xs : Nat → Int32) : ∀ k, 90 ≤ k → (ch_145 L xs).1 k = .inl (false, L, xs) := mq_out_put (by decide) (chO_144 L xs)
theorem chO_146 (L : Nat) (xs : Nat → Int32) : ∀ k, 90 ≤ k → (ch_146 L xs).1 k = .inl (false, L, xs) := mq_out_add (show 67 < 90 by decide) (chO_145 L xs)
theorem chO_147 (L : Nat) (xs : Nat → Int32) : ∀ k, 90 ≤ k → (ch_147 L xs).1 k = .inl (false, L, xs) := mq_out_put (by decide) (chO_146 L xs)
theorem chO_148 (L : Nat) (xs : Nat → Int32) : ∀ k, 90 ≤ k → (ch_148 L xs).1 k = .inl (false, L, xs) := mq_out_add (show 68 < 90 by decide) (chO_147 L xs)
theorem chO_149 (L : Nat) (xs : Nat → Int32) : ∀ k, 90 ≤ k → (ch_149 L xs).1 k = .inl (false, L, xs) := mq_out_put (by decide) (chO_148 L xs)
theorem chO_150 (L : Nat) (xs : Nat → Int32) : ∀ k, 90 ≤ k → (ch_150 L xs).1 k = .inl (false, L, xs) := mq_out_add (show 69 < 90 by decide) (chO_149 L xs)
theorem chO_151 (L : Nat) (xs : Nat → Int32) : ∀ k, 90 ≤ k → (ch_151 L xs).1 k = .inl (false, L, xs) := mq_out_put (by decide) (chO_150 L xs)
theorem chO_152 (L : Nat) (xs : Nat → Int32) : ∀ k, 90 ≤ k → (ch_152 L xs).1 k = .inl (false, L, xs) := mq_out_add (show 70 < 90 by decide) (chO_151 L xs)
theorem chO_153 (L : Nat) (xs : Nat → Int32) : ∀ k, 90 ≤ k → (ch_153 L xs).1 k = .inl (false, L, xs) := mq_out_put (by decide) (chO_152 L xs)
theorem chO_154 (L : Nat) (xs : Nat → Int32) : ∀ k, 90 ≤ k → (ch_154 L xs).1 k = .inl (false, L, xs) := mq_out_add (show 71 < 90 by decide) (chO_153 L xs)
theorem chO_155 (L : Nat) (xs : Nat → Int32) : ∀ k, 90 ≤ k → (ch_155 L xs).1 k = .inl (false, L, xs) := mq_out_put (by decide) (chO_154 L xs)
theorem chO_156 (L : Nat) (xs : Nat → Int32) : ∀ k, 90 ≤ k → (ch_156 L xs).1 k = .inl (false, L, xs) := mq_out_add (show 72 < 90 by decide) (chO_155 L xs)
theorem chO_157 (L : Nat) (xs : Nat → Int32) : ∀ k, 90 ≤ k → (ch_157 L xs).1 k = .inl (false, L, xs) := mq_out_put (by decide) (chO_156 L xs)
theorem chO_158 (L : Nat) (xs : Nat → Int32) : ∀ k, 90 ≤ k → (ch_158 L xs).1 k = .inl (false, L, xs) := mq_out_add (show 73 < 90 by decide) (chO_157 L xs)
theorem chO_159 (L : Nat) (xs : Nat → Int32) : ∀ k, 90 ≤ k → (ch_159 L xs).1 k = .inl (false, L, xs) := mq_out_put (by decide) (chO_158 L xs)
theorem chO_160 (L : Nat) (xs : Nat → Int32) : ∀ k, 90 ≤ k → (ch_160 L xs).1 k = .inl (false, L, xs) := mq_out_add (show 74 < 90 by decide) (chO_159 L xs)
theorem chO_161 (L : Nat) (xs : Nat → Int32) : ∀ k, 90 ≤ k → (ch_161 L xs).1 k = .inl (false, L, xs) := mq_out_put (by decide) (chO_160 L xs)
theorem chO_162 (L : Nat) (xs : Nat → Int32) : ∀ k, 90 ≤ k → (ch_162 L xs).1 k = .inl (false, L, xs) := mq_out_add (show 75 < 90 by decide) (chO_161 L xs)
theorem chO_163 (L : Nat) (xs : Nat → Int32) : ∀ k, 90 ≤ k → (ch_163 L xs).1 k = .inl (false, L, xs) := mq_out_put (by decide) (chO_162 L xs)
theorem chO_164 (L : Nat) (xs : Nat → Int32) : ∀ k, 90 ≤ k → (ch_164 L xs).1 k = .inl (false, L, xs) := mq_out_add (show 76 < 90 by decide) (chO_163 L xs)
theorem chO_165 (L : Nat) (xs : Nat → Int32) : ∀ k, 90 ≤ k → (ch_165 L xs).1 k = .inl (false, L, xs) := mq_out_put (by decide) (chO_164 L xs)
theorem chO_166 (L : Nat) (xs : Nat → Int32) : ∀ k, 90 ≤ k → (ch_166 L xs).1 k = .inl (false, L, xs) := mq_out_add (show 77 < 90 by decide) (chO_165 L xs)
theorem chO_167 (L : Nat) (xs : Nat → Int32) : ∀ k, 90 ≤ k → (ch_167 L xs).1 k = .inl (false, L, xs) := mq_out_put (by decide) (chO_166 L xs)
theorem chO_168 (L : Nat) (xs : Nat → Int32) : ∀ k, 90 ≤ k → (ch_168 L xs).1 k = .inl (false, L, xs) := mq_out_add (show 78 < 90 by decide) (chO_167 L xs)
theorem chO_169 (L : Nat) (xs : Nat → Int32) : ∀ k, 90 ≤ k → (ch_169 L xs).1 k = .inl (false, L, xs) := mq_out_put (by decide) (chO_168 L xs)
theorem chO_170 (L : Nat) (xs : Nat → Int32) : ∀ k, 90 ≤ k → (ch_170 L xs).1 k = .inl (false, L, xs) := mq_out_add (show 79 < 90 by decide) (chO_169 L xs)
theorem chO_171 (L : Nat) (xs : Nat → Int32) : ∀ k, 90 ≤ k → (ch_171 L xs).1 k = .inl (false, L, xs) := mq_out_put (by decide) (chO_170 L xs)
theorem chO_172 (L : Nat) (xs : Nat → Int32) : ∀ k, 90 ≤ k → (ch_172 L xs).1 k = .inl (false, L, xs) := mq_out_add (show 80 < 90 by decide) (chO_171 L xs)
theorem chO_173 (L : Nat) (xs : Nat → Int32) : ∀ k, 90 ≤ k → (ch_173 L xs).1 k = .inl (false, L, xs) := mq_out_put (by decide) (chO_172 L xs)
theorem chO_174 (L : Nat) (xs : Nat → Int32) : ∀ k, 90 ≤ k → (ch_174 L xs).1 k = .inl (false, L, xs) := mq_out_add (show 81 < 90 by decide) (chO_173 L xs)
theorem chO_175 (L : Nat) (xs : Nat → Int32) : ∀ k, 90 ≤ k → (ch_175 L xs).1 k = .inl (false, L, xs) := mq_out_put (by decide) (chO_174 L xs)
theorem chO_176 (L : Nat) (xs : Nat → Int32) : ∀ k, 90 ≤ k → (ch_176 L xs).1 k = .inl (false, L, xs) := mq_out_add (show 82 < 90 by decide) (chO_175 L xs)
theorem chO_177 (L : Nat) (xs : Nat → Int32) : ∀ k, 90 ≤ k → (ch_177 L xs).1 k = .inl (false, L, xs) := mq_out_put (by decide) (chO_176 L xs)
theorem chO_178 (L : Nat) (xs : Nat → Int32) : ∀ k, 90 ≤ k → (ch_178 L xs).1 k = .inl (false, L, xs) := mq_out_add (show 83 < 90 by decide) (chO_177 L xs)
theorem chO_179 (L : Nat) (xs : Nat → Int32) : ∀ k, 90 ≤ k → (ch_179 L xs).1 k = .inl (false, L, xs) := mq_out_put (by decide) (chO_178 L xs)
theorem chO_180 (L : Nat) (xs : Nat → Int32) : ∀ k, 90 ≤ k → (ch_180 L xs).1 k = .inl (false, L, xs) := mq_out_add (show 84 < 90 by decide) (chO_179 L xs)
theorem chO_181 (L : Nat) (xs : Nat → Int32) : ∀ k, 90 ≤ k → (ch_181 L xs).1 k = .inl (false, L, xs) := mq_out_put (by decide) (chO_180 L xs)
theorem chO_182 (L : Nat) (xs : Nat → Int32) : ∀ k, 90 ≤ k → (ch_182 L xs).1 k = .inl (false, L, xs) := mq_out_add (show 85 < 90 by decide) (chO_181 L xs)
theorem chO_183 (L : Nat) (xs : Nat → Int32) : ∀ k, 90 ≤ k → (ch_183 L xs).1 k = .inl (false, L, xs) := mq_out_put (by decide) (chO_182 L xs)
theorem chO_184 (L : Nat) (xs : Nat → Int32) : ∀ k, 90 ≤ k → (ch_184 L xs).1 k = .inl (false, L, xs) := mq_out_add (show 86 < 90 by decide) (chO_183 L xs)
theorem chO_185 (L : Nat) (xs : Nat → Int32) : ∀ k, 90 ≤ k → (ch_185 L xs).1 k = .inl (false, L, xs) := mq_out_put (by decide) (chO_184 L xs)
theorem chO_186 (L : Nat) (xs : Nat → Int32) : ∀ k, 90 ≤ k → (ch_186 L xs).1 k = .inl (false, L, xs) := mq_out_add (show 87 < 90 by decide) (chO_185 L xs)
theorem chO_187 (L : Nat) (xs : Nat → Int32) : ∀ k, 90 ≤ k → (ch_187 L xs).1 k = .inl (false, L, xs) := mq_out_put (by decide) (chO_186 L xs)
theorem chO_188 (L : Nat) (xs : Nat → Int32) : ∀ k, 90 ≤ k → (ch_188 L xs).1 k = .inl (false, L, xs) := mq_out_add (show 88 < 90 by decide) (chO_187 L xs)
theorem chO_189 (L : Nat) (xs : Nat → Int32) : ∀ k, 90 ≤ k → (ch_189 L xs).1 k = .inl (false, L, xs) := mq_out_put (by decide) (chO_188 L xs)
theorem chO_190 (L : Nat) (xs : Nat → Int32) : ∀ k, 90 ≤ k → (ch_190 L xs).1 k = .inl (false, L, xs) := mq_out_add (show 89 < 90 by decide) (chO_189 L xs)
theorem chO_191 (L : Nat) (xs : Nat → Int32) : ∀ k, 90 ≤ k → (ch_191 L xs).1 k = .inl (false, L, xs) := mq_out_put (by decide) (chO_190 L xs)
theorem chO_192 (L : Nat) (xs : Nat → Int32) : ∀ k, 90 ≤ k → (ch_192 L xs).1 k = .inl (false, L, xs) := mq_out_put (by decide) (chO_191 L xs)
theorem chO_193 (L : Nat) (xs : Nat → Int32) : ∀ k, 90 ≤ k → (ch_193 L xs).1 k = .inl (false, L, xs) := mq_out_put (by decide) (chO_192 L xs)
theorem chO_194 (L : Nat) (xs : Nat → Int32) : ∀ k, 90 ≤ k → (ch_194 L xs).1 k = .inl (false, L, xs) := mq_out_put (by decide) (chO_193 L xs)
theorem chO_195 (L : Nat) (xs : Nat → Int32) : ∀ k, 90 ≤ k → (ch_195 L xs).1 k = .inl (false, L, xs) := mq_out_put (by decide) (chO_194 L xs)
theorem chO_196 (L : Nat) (xs : Nat → Int32) : ∀ k, 90 ≤ k → (ch_196 L xs).1 k = .inl (false, L, xs) := mq_out_put (by decide) (chO_195 L xs)
theorem chO_197 (L : Nat) (xs : Nat → Int32) : ∀ k, 90 ≤ k → (ch_197 L xs).1 k = .inl (false, L, xs) := mq_out_put (by decide) (chO_196 L xs)
theorem chO_198 (L : Nat) (xs : Nat → Int32) : ∀ k, 90 ≤ k → (ch_198 L xs).1 k = .inl (false, L, xs) := mq_out_put (by decide) (chO_197 L xs)
theorem chO_199 (L : Nat) (xs : Nat → Int32) : ∀ k, 90 ≤ k → (ch_199 L xs).1 k = .inl (false, L, xs) := mq_out_put (by decide) (chO_198 L xs)
theorem chO_200 (L : Nat) (xs : Nat → Int32) : ∀ k, 90 ≤ k → (ch_200 L xs).1 k = .inl (false, L, xs) := mq_out_put (by decide) (chO_199 L xs)
theorem chO_201 (L : Nat) (xs : Nat → Int32) : ∀ k, 90 ≤ k → (ch_201 L xs).1 k = .inl (false, L, xs) := mq_out_put (by decide) (chO_200 L xs)
theorem chO_202 (L : Nat) (xs : Nat → Int32) : ∀ k, 90 ≤ k → (ch_202 L xs).1 k = .inl (false, L, xs) := mq_out_put (by decide) (chO_201 L xs)
theorem chO_203 (L : Nat) (xs : Nat → Int32) : ∀ k, 90 ≤ k → (ch_203 L xs).1 k = .inl (false, L, xs) := mq_out_put (by decide) (chO_202 L xs)
theorem chO_204 (L : Nat) (xs : Nat → Int32) : ∀ k, 90 ≤ k → (ch_204 L xs).1 k = .inl (false, L, xs) := mq_out_put (by decide) (chO_203 L xs)
theorem chO_205 (L : Nat) (xs : Nat → Int32) : ∀ k, 90 ≤ k → (ch_205 L xs).1 k = .inl (false, L, xs) := mq_out_put (by decide) (chO_204 L xs)
theorem chO_206 (L : Nat) (xs : Nat → Int32) : ∀ k, 90 ≤ k → (ch_206 L xs).1 k = .inl (false, L, xs) := mq_out_put (by decide) (chO_205 L xs)
theorem chO_207 (L : Nat) (xs : Nat → Int32) : ∀ k, 90 ≤ k → (ch_207 L xs).1 k = .inl (false, L, xs) := mq_out_put (by decide) (chO_206 L xs)
theorem chO_208 (L : Nat) (xs : Nat → Int32) : ∀ k, 90 ≤ k → (ch_208 L xs).1 k = .inl (false, L, xs) := mq_out_put (by decide) (chO_207 L xs)
set_option maxRecDepth 20000 in
theorem cz_0 (L : Nat) (xs : Nat → Int32) : (ch_208 L xs).1 0 = pu_cell L (pu_M0 xs) 0 := rfl
set_option maxRecDepth 20000 in
theorem cz_1 (L : Nat) (xs : Nat → Int32) : (ch_208 L xs).1 1 = pu_cell L (pu_M0 xs) 1 := rfl
set_option maxRecDepth 20000 in
theorem cz_2 (L : Nat) (xs : Nat → Int32) : (ch_208 L xs).1 2 = pu_cell L (pu_M0 xs) 2 := rfl
set_option maxRecDepth 20000 in
theorem cz_3 (L : Nat) (xs : Nat → Int32) : (ch_208 L xs).1 3 = pu_cell L (pu_M0 xs) 3 := rfl
set_option maxRecDepth 20000 in
theorem cz_4 (L : Nat) (xs : Nat → Int32) : (ch_208 L xs).1 4 = pu_cell L (pu_M0 xs) 4 := rfl
set_option maxRecDepth 20000 in
theorem cz_5 (L : Nat) (xs : Nat → Int32) : (ch_208 L xs).1 5 = pu_cell L (pu_M0 xs) 5 := rfl
set_option maxRecDepth 20000 in
theorem cz_6 (L : Nat) (xs : Nat → Int32) : (ch_208 L xs).1 6 = pu_cell L (pu_M0 xs) 6 := rfl
set_option maxRecDepth 20000 in
theorem cz_7 (L : Nat) (xs : Nat → Int32) : (ch_208 L xs).1 7 = pu_cell L (pu_M0 xs) 7 := rfl
set_option maxRecDepth 20000 in
theorem cz_8 (L : Nat) (xs : Nat → Int32) : (ch_208 L xs).1 8 = pu_cell L (pu_M0 xs) 8 := rfl
set_option maxRecDepth 20000 in
theorem cz_9 (L : Nat) (xs : Nat → Int32) : (ch_208 L xs).1 9 = pu_cell L (pu_M0 xs) 9 := rfl
set_option maxRecDepth 20000 in
theorem cz_10 (L : Nat) (xs : Nat → Int32) : (ch_208 L xs).1 10 = pu_cell L (pu_M0 xs) 10 := rfl
set_option maxRecDepth 20000 in
theorem cz_11 (L : Nat) (xs : Nat → Int32) : (ch_208 L xs).1 11 = pu_cell L (pu_M0 xs) 11 := rfl
set_option maxRecDepth 20000 in
theorem cz_12 (L : Nat) (xs : Nat → Int32) : (ch_208 L xs).1 12 = pu_cell L (pu_M0 xs) 12 := rfl
set_option maxRecDepth 20000 in
theorem cz_13 (L : Nat) (xs : Nat → Int32) : (ch_208 L xs).1 13 = pu_cell L (pu_M0 xs) 13 := rfl
set_option maxRecDepth 20000 in
theorem cz_14 (L : Nat) (xs : Nat → Int32) : (ch_208 L xs).1 14 = pu_cell L (pu_M0 xs) 14 := rfl
set_option maxRecDepth 20000 in
theorem cz_15 (L : Nat) (xs : Nat → Int32) : (ch_208 L xs).1 15 = pu_cell L (pu_M0 xs) 15 := rfl
set_option maxRecDepth 20000 in
theorem cz_16 (L : Nat) (xs : Nat → Int32) : (ch_208 L xs).1 16 = pu_cell L (pu_M0 xs) 16 := rfl
set_option maxRecDepth 20000 in
theorem cz_17 (L : Nat) (xs : Nat → Int32) : (ch_208 L xs).1 17 = pu_cell L (pu_M0 xs) 17 := rfl
set_option maxRecDepth 20000 in
theorem cz_18 (L : Nat) (xs : Nat → Int32) : (ch_208 L xs).1 18 = pu_cell L (pu_M0 xs) 18 := rfl
set_option maxRecDepth 20000 in
theorem cz_19 (L : Nat) (xs : Nat → Int32) : (ch_208 L xs).1 19 = pu_cell L (pu_M0 xs) 19 := rfl
set_option maxRecDepth 20000 in
theorem cz_20 (L : Nat) (xs : Nat → Int32) : (ch_208 L xs).1 20 = pu_cell L (pu_M0 xs) 20 := rfl
set_option maxRecDepth 20000 in
theorem cz_21 (L : Nat) (xs : Nat → Int32) : (ch_208 L xs).1 21 = pu_cell L (pu_M0 xs) 21 := rfl
set_option maxRecDepth 20000 in
theorem cz_22 (L : Nat) (xs : Nat → Int32) : (ch_208 L xs).1 22 = pu_cell L (pu_M0 xs) 22 := rfl
set_option maxRecDepth 20000 in
theorem cz_23 (L : Nat) (xs : Nat → Int32) : (ch_208 L xs).1 23 = pu_cell L (pu_M0 xs) 23 := rfl
set_option maxRecDepth 20000 in
theorem cz_24 (L : Nat) (xs : Nat → Int32) : (ch_208 L xs).1 24 = pu_cell L (pu_M0 xs) 24 := rfl
set_option maxRecDepth 20000 in
theorem cz_25 (L : Nat) (xs : Nat → Int32) : (ch_208 L xs).1 25 = pu_cell L (pu_M0 xs) 25 := rfl
set_option maxRecDepth 20000 in
theorem cz_26 (L : Nat) (xs : Nat → Int32) : (ch_208 L xs).1 26 = pu_cell L (pu_M0 xs) 26 := rfl
set_option maxRecDepth 20000 in
theorem cz_27 (L : Nat) (xs : Nat → Int32) : (ch_208 L xs).1 27 = pu_cell L (pu_M0 xs) 27 := rfl
set_option maxRecDepth 20000 in
theorem cz_28 (L : Nat) (xs : Nat → Int32) : (ch_208 L xs).1 28 = pu_cell L (pu_M0 xs) 28 := rfl
set_option maxRecDepth 20000 in
theorem cz_29 (L : Nat) (xs : Nat → Int32) : (ch_208 L xs).1 29 = pu_cell L (pu_M0 xs) 29 := rfl
set_option maxRecDepth 20000 in
theorem cz_30 (L : Nat) (xs : Nat → Int32) : (ch_208 L xs).1 30 = pu_cell L (pu_M0 xs) 30 := rfl
set_option maxRecDepth 20000 in
theorem cz_31 (L : Nat) (xs : Nat → Int32) : (ch_208 L xs).1 31 = pu_cell L (pu_M0 xs) 31 := rfl
set_option maxRecDepth 20000 in
theorem cz_32 (L : Nat) (xs : Nat → Int32) : (ch_208 L xs).1 32 = pu_cell L (pu_M0 xs) 32 := rfl
set_option maxRecDepth 20000 in
theorem cz_33 (L : Nat) (xs : Nat → Int32) : (ch_208 L xs).1 33 = pu_cell L (pu_M0 xs) 33 := rfl
set_option maxRecDepth 20000 in
theorem cz_34 (L : Nat) (xs : Nat → Int32) : (ch_208 L xs).1 34 = pu_cell L (pu_M0 xs) 34 := rfl
set_option maxRecDepth 20000 in
theorem cz_35 (L : Nat) (xs : Nat → Int32) : (ch_208 L xs).1 35 = pu_cell L (pu_M0 xs) 35 := rfl
set_option maxRecDepth 20000 in
theorem cz_36 (L : Nat) (xs : Nat → Int32) : (ch_208 L xs).1 36 = pu_cell L (pu_M0 xs) 36 := rfl
set_option maxRecDepth 20000 in
theorem cz_37 (L : Nat) (xs : Nat → Int32) : (ch_208 L xs).1 37 = pu_cell L (pu_M0 xs) 37 := rfl
set_option maxRecDepth 20000 in
theorem cz_38 (L : Nat) (xs : Nat → Int32) : (ch_208 L xs).1 38 = pu_cell L (pu_M0 xs) 38 := rfl
set_option maxRecDepth 20000 in
theorem cz_39 (L : Nat) (xs : Nat → Int32) : (ch_208 L xs).1 39 = pu_cell L (pu_M0 xs) 39 := rfl
set_option maxRecDepth 20000 in
theorem cz_40 (L : Nat) (xs : Nat → Int32) : (ch_208 L xs).1 40 = pu_cell L (pu_M0 xs) 40 := rfl
set_option maxRecDepth 20000 in
theorem cz_41 (L : Nat) (xs : Nat → Int32) : (ch_208 L xs).1 41 = pu_cell L (pu_M0 xs) 41 := rfl
set_option maxRecDepth 20000 in
theorem cz_42 (L : Nat) (xs : Nat → Int32) : (ch_208 L xs).1 42 = pu_cell L (pu_M0 xs) 42 := rfl
set_option maxRecDepth 20000 in
theorem cz_43 (L : Nat) (xs : Nat → Int32) : (ch_208 L xs).1 43 = pu_cell L (pu_M0 xs) 43 := rfl
set_option maxRecDepth 20000 in
theorem cz_44 (L : Nat) (xs : Nat → Int32) : (ch_208 L xs).1 44 = pu_cell L (pu_M0 xs) 44 := rfl
set_option maxRecDepth 20000 in
theorem cz_45 (L : Nat) (xs : Nat → Int32) : (ch_208 L xs).1 45 = pu_cell L (pu_M0 xs) 45 := rfl
set_option maxRecDepth 20000 in
theorem cz_46 (L : Nat) (xs : Nat → Int32) : (ch_208 L xs).1 46 = pu_cell L (pu_M0 xs) 46 := rfl
set_option maxRecDepth 20000 in
theorem cz_47 (L : Nat) (xs : Nat → Int32) : (ch_208 L xs).1 47 = pu_cell L (pu_M0 xs) 47 := rfl
set_option maxRecDepth 20000 in
theorem cz_48 (L : Nat) (xs : Nat → Int32) : (ch_208 L xs).1 48 = pu_cell L (pu_M0 xs) 48 := rfl
set_option maxRecDepth 20000 in
theorem cz_49 (L : Nat) (xs : Nat → Int32) : (ch_208 L xs).1 49 = pu_cell L (pu_M0 xs) 49 := rfl
set_option maxRecDepth 20000 in
theorem cz_50 (L : Nat) (xs : Nat → Int32) : (ch_208 L xs).1 50 = pu_cell L (pu_M0 xs) 50 := rfl
set_option maxRecDepth 20000 in
theorem cz_51 (L : Nat) (xs : Nat → Int32) : (ch_208 L xs).1 51 = pu_cell L (pu_M0 xs) 51 := rfl
set_option maxRecDepth 20000 in
theorem cz_52 (L : Nat) (xs : Nat → Int32) : (ch_208 L xs).1 52 = pu_cell L (pu_M0 xs) 52 := rfl
set_option maxRecDepth 20000 in
theorem cz_53 (L : Nat) (xs : Nat → Int32) : (ch_208 L xs).1 53 = pu_cell L (pu_M0 xs) 53 := rfl
set_option maxRecDepth 20000 in
theorem cz_54 (L : Nat) (xs : Nat → Int32) : (ch_208 L xs).1 54 = pu_cell L (pu_M0 xs) 54 := rfl
set_option maxRecDepth 20000 in
theorem cz_55 (L : Nat) (xs : Nat → Int32) : (ch_208 L xs).1 55 = pu_cell L (pu_M0 xs) 55 := rfl
set_option maxRecDepth 20000 in
theorem cz_56 (L : Nat) (xs : Nat → Int32) : (ch_208 L xs).1 56 = pu_cell L (pu_M0 xs) 56 := rfl
set_option maxRecDepth 20000 in
theorem cz_57 (L : Nat) (xs : Nat → Int32) : (ch_208 L xs).1 57 = pu_cell L (pu_M0 xs) 57 := rfl
set_option maxRecDepth 20000 in
theorem cz_58 (L : Nat) (xs : Nat → Int32) : (ch_208 L xs).1 58 = pu_cell L (pu_M0 xs) 58 := rfl
set_option maxRecDepth 20000 in
theorem cz_59 (L : Nat) (xs : Nat → Int32) : (ch_208 L xs).1 59 = pu_cell L (pu_M0 xs) 59 := rfl
set_option maxRecDepth 20000 in
theorem cz_60 (L : Nat) (xs : Nat → Int32) : (ch_208 L xs).1 60 = pu_cell L (pu_M0 xs) 60 := rfl
set_option maxRecDepth 20000 in
theorem cz_61 (L : Nat) (xs : Nat → Int32) : (ch_208 L xs).1 61 = pu_cell L (pu_M0 xs) 61 := rfl
set_option maxRecDepth 20000 in
theorem cz_62 (L : Nat) (xs : Nat → Int32) : (ch_208 L xs).1 62 = pu_cell L (pu_M0 xs) 62 := rfl
set_option maxRecDepth 20000 in
theorem cz_63 (L : Nat) (xs : Nat → Int32) : (ch_208 L xs).1 63 = pu_cell L (pu_M0 xs) 63 := rfl
set_option maxRecDepth 20000 in
theorem cz_64 (L : Nat) (xs : Nat → Int32) : (ch_208 L xs).1 64 = pu_cell L (pu_M0 xs) 64 := rfl
set_option maxRecDepth 20000 in
theorem cz_65 (L : Nat) (xs : Nat → Int32) : (ch_208 L xs).1 65 = pu_cell L (pu_M0 xs) 65 := rfl
set_option maxRecDepth 20000 in
theorem cz_66 (L : Nat) (xs : Nat → Int32) : (ch_208 L xs).1 66 = pu_cell L (pu_M0 xs) 66 := rfl
set_option maxRecDepth 20000 in
theorem cz_67 (L : Nat) (xs : Nat → Int32) : (ch_208 L xs).1 67 = pu_cell L (pu_M0 xs) 67 := rfl
set_option maxRecDepth 20000 in
theorem cz_68 (L : Nat) (xs : Nat → Int32) : (ch_208 L xs).1 68 = pu_cell L (pu_M0 xs) 68 := rfl
set_option maxRecDepth 20000 in
theorem cz_69 (L : Nat) (xs : Nat → Int32) : (ch_208 L xs).1 69 = pu_cell L (pu_M0 xs) 69 := rfl
set_option maxRecDepth 20000 in
theorem cz_70 (L : Nat) (xs : Nat → Int32) : (ch_208 L xs).1 70 = pu_cell L (pu_M0 xs) 70 := rfl
set_option maxRecDepth 20000 in
theorem cz_71 (L : Nat) (xs : Nat → Int32) : (ch_208 L xs).1 71 = pu_cell L (pu_M0 xs) 71 := rfl
set_option maxRecDepth 20000 in
theorem cz_72 (L : Nat) (xs : Nat → Int32) : (ch_208 L xs).1 72 = pu_cell L (pu_M0 xs) 72 := rfl
set_option maxRecDepth 20000 in
theorem cz_73 (L : Nat) (xs : Nat → Int32) : (ch_208 L xs).1 73 = pu_cell L (pu_M0 xs) 73 := rfl
set_option maxRecDepth 20000 in
theorem cz_74 (L : Nat) (xs : Nat → Int32) : (ch_208 L xs).1 74 = pu_cell L (pu_M0 xs) 74 := rfl
set_option maxRecDepth 20000 in
theorem cz_75 (L : Nat) (xs : Nat → Int32) : (ch_208 L xs).1 75 = pu_cell L (pu_M0 xs) 75 := rfl
set_option maxRecDepth 20000 in
theorem cz_76 (L : Nat) (xs : Nat → Int32) : (ch_208 L xs).1 76 = pu_cell L (pu_M0 xs) 76 := rfl
set_option maxRecDepth 20000 in
theorem cz_77 (L : Nat) (xs : Nat → Int32) : (ch_208 L xs).1 77 = pu_cell L (pu_M0 xs) 77 := rfl
set_option maxRecDepth 20000 in
theorem cz_78 (L : Nat) (xs : Nat → Int32) : (ch_208 L xs).1 78 = pu_cell L (pu_M0 xs) 78 := rfl
set_option maxRecDepth 20000 in
theorem cz_79 (L : Nat) (xs : Nat → Int32) : (ch_208 L xs).1 79 = pu_cell L (pu_M0 xs) 79 := rfl
set_option maxRecDepth 20000 in
theorem cz_80 (L : Nat) (xs : Nat → Int32) : (ch_208 L xs).1 80 = pu_cell L (pu_M0 xs) 80 := rfl
set_option maxRecDepth 20000 in
theorem cz_81 (L : Nat) (xs : Nat → Int32) : (ch_208 L xs).1 81 = pu_cell L (pu_M0 xs) 81 := rfl
set_option maxRecDepth 20000 in
theorem cz_82 (L : Nat) (xs : Nat → Int32) : (ch_208 L xs).1 82 = pu_cell L (pu_M0 xs) 82 := rfl
set_option maxRecDepth 20000 in
theorem cz_83 (L : Nat) (xs : Nat → Int32) : (ch_208 L xs).1 83 = pu_cell L (pu_M0 xs) 83 := rfl
set_option maxRecDepth 20000 in
theorem cz_84 (L : Nat) (xs : Nat → Int32) : (ch_208 L xs).1 84 = pu_cell L (pu_M0 xs) 84 := rfl
set_option maxRecDepth 20000 in
theorem cz_85 (L : Nat) (xs : Nat → Int32) : (ch_208 L xs).1 85 = pu_cell L (pu_M0 xs) 85 := rfl
set_option maxRecDepth 20000 in
theorem cz_86 (L : Nat) (xs : Nat → Int32) : (ch_208 L xs).1 86 = pu_cell L (pu_M0 xs) 86 := rfl
set_option maxRecDepth 20000 in
theorem cz_87 (L : Nat) (xs : Nat → Int32) : (ch_208 L xs).1 87 = pu_cell L (pu_M0 xs) 87 := rfl
set_option maxRecDepth 20000 in
theorem cz_88 (L : Nat) (xs : Nat → Int32) : (ch_208 L xs).1 88 = pu_cell L (pu_M0 xs) 88 := rfl
set_option maxRecDepth 20000 in
theorem cz_89 (L : Nat) (xs : Nat → Int32) : (ch_208 L xs).1 89 = pu_cell L (pu_M0 xs) 89 := rfl
theorem pu_blt {c k : Nat} (h : c ≤ k) : Nat.blt k c = false := by
  cases q : Nat.blt k c with
  | false => rfl
  | true => exact absurd (Nat.le_of_ble_eq_true q) (by omega)
theorem pu_M0_out {xs : Nat → Int32} {k : Nat} (hk : 90 ≤ k) : pu_M0 xs k = xs := by
  unfold pu_M0
  rw [pu_blt (show 45 ≤ k by omega), cond_false, pu_blt (show 68 ≤ k by omega), cond_false, pu_blt (show 79 ≤ k by omega), cond_false, pu_blt (show 85 ≤ k by omega), cond_false, pu_blt (show 88 ≤ k by omega), cond_false, pu_blt (show 89 ≤ k by omega), cond_false, pu_blt (show 90 ≤ k by omega), cond_false]
theorem pu_sh_out {L k : Nat} (hk : 90 ≤ k) : pu_sh L k = .inl (false, L) := by
  unfold pu_sh
  rw [pu_blt (show 45 ≤ k by omega), cond_false, pu_blt (show 68 ≤ k by omega), cond_false, pu_blt (show 79 ≤ k by omega), cond_false, pu_blt (show 85 ≤ k by omega), cond_false, pu_blt (show 88 ≤ k by omega), cond_false, pu_blt (show 89 ≤ k by omega), cond_false, pu_blt (show 90 ≤ k by omega), cond_false]
theorem ch_last (L : Nat) (xs : Nat → Int32) : ch_208 L xs = pu_hp L (pu_M0 xs) := by
  refine Prod.ext ?_ rfl
  funext k
  by_cases hk : k < 90
  · exact (if h45 : k < 45 then (if h22 : k < 22 then (if h11 : k < 11 then (if h5 : k < 5 then (if h2 : k < 2 then (if h1 : k < 1 then (mq_lf (P := fun k => (ch_208 L xs).1 k = pu_cell L (pu_M0 xs) k) (Nat.not_lt_zero k) h1 (cz_0 L xs)) else (mq_lf (P := fun k => (ch_208 L xs).1 k = pu_cell L (pu_M0 xs) k) h1 h2 (cz_1 L xs))) else (if h3 : k < 3 then (mq_lf (P := fun k => (ch_208 L xs).1 k = pu_cell L (pu_M0 xs) k) h2 h3 (cz_2 L xs)) else (if h4 : k < 4 then (mq_lf (P := fun k => (ch_208 L xs).1 k = pu_cell L (pu_M0 xs) k) h3 h4 (cz_3 L xs)) else (mq_lf (P := fun k => (ch_208 L xs).1 k = pu_cell L (pu_M0 xs) k) h4 h5 (cz_4 L xs))))) else (if h8 : k < 8 then (if h6 : k < 6 then (mq_lf (P := fun k => (ch_208 L xs).1 k = pu_cell L (pu_M0 xs) k) h5 h6 (cz_5 L xs)) else (if h7 : k < 7 then (mq_lf (P := fun k => (ch_208 L xs).1 k = pu_cell L (pu_M0 xs) k) h6 h7 (cz_6 L xs)) else (mq_lf (P := fun k => (ch_208 L xs).1 k = pu_cell L (pu_M0 xs) k) h7 h8 (cz_7 L xs)))) else (if h9 : k < 9 then (mq_lf (P := fun k => (ch_208 L xs).1 k = pu_cell L (pu_M0 xs) k) h8 h9 (cz_8 L xs)) else (if h10 : k < 10 then (mq_lf (P := fun k => (ch_208 L xs).1 k = pu_cell L (pu_M0 xs) k) h9 h10 (cz_9 L xs)) else (mq_lf (P := fun k => (ch_208 L xs).1 k = pu_cell L (pu_M0 xs) k) h10 h11 (cz_10 L xs)))))) else (if h16 : k < 16 then (if h13 : k < 13 then (if h12 : k < 12 then (mq_lf (P := fun k => (ch_208 L xs).1 k = pu_cell L (pu_M0 xs) k) h11 h12 (cz_11 L xs)) else (mq_lf (P := fun k => (ch_208 L xs).1 k = pu_cell L (pu_M0 xs) k) h12 h13 (cz_12 L xs))) else (if h14 : k < 14 then (mq_lf (P := fun k => (ch_208 L xs).1 k = pu_cell L (pu_M0 xs) k) h13 h14 (cz_13 L xs)) else (if h15 : k < 15 then (mq_lf (P := fun k => (ch_208 L xs).1 k = pu_cell L (pu_M0 xs) k) h14 h15 (cz_14 L xs)) else (mq_lf (P := fun k => (ch_208 L xs).1 k = pu_cell L (pu_M0 xs) k) h15 h16 (cz_15 L xs))))) else (if h19 : k < 19 then (if h17 : k < 17 then (mq_lf (P := fun k => (ch_208 L xs).1 k = pu_cell L (pu_M0 xs) k) h16 h17 (cz_16 L xs)) else (if h18 : k < 18 then (mq_lf (P := fun k => (ch_208 L xs).1 k = pu_cell L (pu_M0 xs) k) h17 h18 (cz_17 L xs)) else (mq_lf (P := fun k => (ch_208 L xs).1 k = pu_cell L (pu_M0 xs) k) h18 h19 (cz_18 L xs)))) else (if h20 : k < 20 then (mq_lf (P := fun k => (ch_208 L xs).1 k = pu_cell L (pu_M0 xs) k) h19 h20 (cz_19 L xs)) else (if h21 : k < 21 then (mq_lf (P := fun k => (ch_208 L xs).1 k = pu_cell L (pu_M0 xs) k) h20 h21 (cz_20 L xs)) else (mq_lf (P := fun k => (ch_208 L xs).1 k = pu_cell L (pu_M0 xs) k) h21 h22 (cz_21 L xs))))))) else (if h33 : k < 33 then (if h27 : k < 27 then (if h24 : k < 24 then (if h23 : k < 23 then (mq_lf (P := fun k => (ch_208 L xs).1 k = pu_cell L (pu_M0 xs) k) h22 h23 (cz_22 L xs)) else (mq_lf (P := fun k => (ch_208 L xs).1 k = pu_cell L (pu_M0 xs) k) h23 h24 (cz_23 L xs))) else (if h25 : k < 25 then (mq_lf (P := fun k => (ch_208 L xs).1 k = pu_cell L (pu_M0 xs) k) h24 h25 (cz_24 L xs)) else (if h26 : k < 26 then (mq_lf (P := fun k => (ch_208 L xs).1 k = pu_cell L (pu_M0 xs) k) h25 h26 (cz_25 L xs)) else (mq_lf (P := fun k => (ch_208 L xs).1 k = pu_cell L (pu_M0 xs) k) h26 h27 (cz_26 L xs))))) else (if h30 : k < 30 then (if h28 : k < 28 then (mq_lf (P := fun k => (ch_208 L xs).1 k = pu_cell L (pu_M0 xs) k) h27 h28 (cz_27 L xs)) else (if h29 : k < 29 then (mq_lf (P := fun k => (ch_208 L xs).1 k = pu_cell L (pu_M0 xs) k) h28 h29 (cz_28 L xs)) else (mq_lf (P := fun k => (ch_208 L xs).1 k = pu_cell L (pu_M0 xs) k) h29 h30 (cz_29 L xs)))) else (if h31 : k < 31 then (mq_lf (P := fun k => (ch_208 L xs).1 k = pu_cell L (pu_M0 xs) k) h30 h31 (cz_30 L xs)) else (if h32 : k < 32 then (mq_lf (P := fun k => (ch_208 L xs).1 k = pu_cell L (pu_M0 xs) k) h31 h32 (cz_31 L xs)) else (mq_lf (P := fun k => (ch_208 L xs).1 k = pu_cell L (pu_M0 xs) k) h32 h33 (cz_32 L xs)))))) else (if h39 : k < 39 then (if h36 : k < 36 then (if h34 : k < 34 then (mq_lf (P := fun k => (ch_208 L xs).1 k = pu_cell L (pu_M0 xs) k) h33 h34 (cz_33 L xs)) else (if h35 : k < 35 then (mq_lf (P := fun k => (ch_208 L xs).1 k = pu_cell L (pu_M0 xs) k) h34 h35 (cz_34 L xs)) else (mq_lf (P := fun k => (ch_208 L xs).1 k = pu_cell L (pu_M0 xs) k) h35 h36 (cz_35 L xs)))) else (if h37 : k < 37 then (mq_lf (P := fun k => (ch_208 L xs).1 k = pu_cell L (pu_M0 xs) k) h36 h37 (cz_36 L xs)) else (if h38 : k < 38 then (mq_lf (P := fun k => (ch_208 L xs).1 k = pu_cell L (pu_M0 xs) k) h37 h38 (cz_37 L xs)) else (mq_lf (P := fun k => (ch_208 L xs).1 k = pu_cell L (pu_M0 xs) k) h38 h39 (cz_38 L xs))))) else (if h42 : k < 42 then (if h40 : k < 40 then (mq_lf (P := fun k => (ch_208 L xs).1 k = pu_cell L (pu_M0 xs) k) h39 h40 (cz_39 L xs)) else (if h41 : k < 41 then (mq_lf (P := fun k => (ch_208 L xs).1 k = pu_cell L (pu_M0 xs) k) h40 h41 (cz_40 L xs)) else (mq_lf (P := fun k => (ch_208 L xs).1 k = pu_cell L (pu_M0 xs) k) h41 h42 (cz_41 L xs)))) else (if h43 : k < 43 then (mq_lf (P := fun k => (ch_208 L xs).1 k = pu_cell L (pu_M0 xs) k) h42 h43 (cz_42 L xs)) else (if h44 : k < 44 then (mq_lf (P := fun k => (ch_208 L xs).1 k = pu_cell L (pu_M0 xs) k) h43 h44 (cz_43 L xs)) else (mq_lf (P := fun k => (ch_208 L xs).1 k = pu_cell L (pu_M0 xs) k) h44 h45 (cz_44 L xs)))))))) else (if h67 : k < 67 then (if h56 : k < 56 then (if h50 : k < 50 then (if h47 : k < 47 then (if h46 : k < 46 then (mq_lf (P := fun k => (ch_208 L xs).1 k = pu_cell L (pu_M0 xs) k) h45 h46 (cz_45 L xs)) else (mq_lf (P := fun k => (ch_208 L xs).1 k = pu_cell L (pu_M0 xs) k) h46 h47 (cz_46 L xs))) else (if h48 : k < 48 then (mq_lf (P := fun k => (ch_208 L xs).1 k = pu_cell L (pu_M0 xs) k) h47 h48 (cz_47 L xs)) else (if h49 : k < 49 then (mq_lf (P := fun k => (ch_208 L xs).1 k = pu_cell L (pu_M0 xs) k) h48 h49 (cz_48 L xs)) else (mq_lf (P := fun k => (ch_208 L xs).1 k = pu_cell L (pu_M0 xs) k) h49 h50 (cz_49 L xs))))) else (if h53 : k < 53 then (if h51 : k < 51 then (mq_lf (P := fun k => (ch_208 L xs).1 k = pu_cell L (pu_M0 xs) k) h50 h51 (cz_50 L xs)) else (if h52 : k < 52 then (mq_lf (P := fun k => (ch_208 L xs).1 k = pu_cell L (pu_M0 xs) k) h51 h52 (cz_51 L xs)) else (mq_lf (P := fun k => (ch_208 L xs).1 k = pu_cell L (pu_M0 xs) k) h52 h53 (cz_52 L xs)))) else (if h54 : k < 54 then (mq_lf (P := fun k => (ch_208 L xs).1 k = pu_cell L (pu_M0 xs) k) h53 h54 (cz_53 L xs)) else (if h55 : k < 55 then (mq_lf (P := fun k => (ch_208 L xs).1 k = pu_cell L (pu_M0 xs) k) h54 h55 (cz_54 L xs)) else (mq_lf (P := fun k => (ch_208 L xs).1 k = pu_cell L (pu_M0 xs) k) h55 h56 (cz_55 L xs)))))) else (if h61 : k < 61 then (if h58 : k < 58 then (if h57 : k < 57 then (mq_lf (P := fun k => (ch_208 L xs).1 k = pu_cell L (pu_M0 xs) k) h56 h57 (cz_56 L xs)) else (mq_lf (P := fun k => (ch_208 L xs).1 k = pu_cell L (pu_M0 xs) k) h57 h58 (cz_57 L xs))) else (if h59 : k < 59 then (mq_lf (P := fun k => (ch_208 L xs).1 k = pu_cell L (pu_M0 xs) k) h58 h59 (cz_58 L xs)) else (if h60 : k < 60 then (mq_lf (P := fun k => (ch_208 L xs).1 k = pu_cell L (pu_M0 xs) k) h59 h60 (cz_59 L xs)) else (mq_lf (P := fun k => (ch_208 L xs).1 k = pu_cell L (pu_M0 xs) k) h60 h61 (cz_60 L xs))))) else (if h64 : k < 64 then (if h62 : k < 62 then (mq_lf (P := fun k => (ch_208 L xs).1 k = pu_cell L (pu_M0 xs) k) h61 h62 (cz_61 L xs)) else (if h63 : k < 63 then (mq_lf (P := fun k => (ch_208 L xs).1 k = pu_cell L (pu_M0 xs) k) h62 h63 (cz_62 L xs)) else (mq_lf (P := fun k => (ch_208 L xs).1 k = pu_cell L (pu_M0 xs) k) h63 h64 (cz_63 L xs)))) else (if h65 : k < 65 then (mq_lf (P := fun k => (ch_208 L xs).1 k = pu_cell L (pu_M0 xs) k) h64 h65 (cz_64 L xs)) else (if h66 : k < 66 then (mq_lf (P := fun k => (ch_208 L xs).1 k = pu_cell L (pu_M0 xs) k) h65 h66 (cz_65 L xs)) else (mq_lf (P := fun k => (ch_208 L xs).1 k = pu_cell L (pu_M0 xs) k) h66 h67 (cz_66 L xs))))))) else (if h78 : k < 78 then (if h72 : k < 72 then (if h69 : k < 69 then (if h68 : k < 68 then (mq_lf (P := fun k => (ch_208 L xs).1 k = pu_cell L (pu_M0 xs) k) h67 h68 (cz_67 L xs)) else (mq_lf (P := fun k => (ch_208 L xs).1 k = pu_cell L (pu_M0 xs) k) h68 h69 (cz_68 L xs))) else (if h70 : k < 70 then (mq_lf (P := fun k => (ch_208 L xs).1 k = pu_cell L (pu_M0 xs) k) h69 h70 (cz_69 L xs)) else (if h71 : k < 71 then (mq_lf (P := fun k => (ch_208 L xs).1 k = pu_cell L (pu_M0 xs) k) h70 h71 (cz_70 L xs)) else (mq_lf (P := fun k => (ch_208 L xs).1 k = pu_cell L (pu_M0 xs) k) h71 h72 (cz_71 L xs))))) else (if h75 : k < 75 then (if h73 : k < 73 then (mq_lf (P := fun k => (ch_208 L xs).1 k = pu_cell L (pu_M0 xs) k) h72 h73 (cz_72 L xs)) else (if h74 : k < 74 then (mq_lf (P := fun k => (ch_208 L xs).1 k = pu_cell L (pu_M0 xs) k) h73 h74 (cz_73 L xs)) else (mq_lf (P := fun k => (ch_208 L xs).1 k = pu_cell L (pu_M0 xs) k) h74 h75 (cz_74 L xs)))) else (if h76 : k < 76 then (mq_lf (P := fun k => (ch_208 L xs).1 k = pu_cell L (pu_M0 xs) k) h75 h76 (cz_75 L xs)) else (if h77 : k < 77 then (mq_lf (P := fun k => (ch_208 L xs).1 k = pu_cell L (pu_M0 xs) k) h76 h77 (cz_76 L xs)) else (mq_lf (P := fun k => (ch_208 L xs).1 k = pu_cell L (pu_M0 xs) k) h77 h78 (cz_77 L xs)))))) else (if h84 : k < 84 then (if h81 : k < 81 then (if h79 : k < 79 then (mq_lf (P := fun k => (ch_208 L xs).1 k = pu_cell L (pu_M0 xs) k) h78 h79 (cz_78 L xs)) else (if h80 : k < 80 then (mq_lf (P := fun k => (ch_208 L xs).1 k = pu_cell L (pu_M0 xs) k) h79 h80 (cz_79 L xs)) else (mq_lf (P := fun k => (ch_208 L xs).1 k = pu_cell L (pu_M0 xs) k) h80 h81 (cz_80 L xs)))) else (if h82 : k < 82 then (mq_lf (P := fun k => (ch_208 L xs).1 k = pu_cell L (pu_M0 xs) k) h81 h82 (cz_81 L xs)) else (if h83 : k < 83 then (mq_lf (P := fun k => (ch_208 L xs).1 k = pu_cell L (pu_M0 xs) k) h82 h83 (cz_82 L xs)) else (mq_lf (P := fun k => (ch_208 L xs).1 k = pu_cell L (pu_M0 xs) k) h83 h84 (cz_83 L xs))))) else (if h87 : k < 87 then (if h85 : k < 85 then (mq_lf (P := fun k => (ch_208 L xs).1 k = pu_cell L (pu_M0 xs) k) h84 h85 (cz_84 L xs)) else (if h86 : k < 86 then (mq_lf (P := fun k => (ch_208 L xs).1 k = pu_cell L (pu_M0 xs) k) h85 h86 (cz_85 L xs)) else (mq_lf (P := fun k => (ch_208 L xs).1 k = pu_cell L (pu_M0 xs) k) h86 h87 (cz_86 L xs)))) else (if h88 : k < 88 then (mq_lf (P := fun k => (ch_208 L xs).1 k = pu_cell L (pu_M0 xs) k) h87 h88 (cz_87 L xs)) else (if h89 : k < 89 then (mq_lf (P := fun k => (ch_208 L xs).1 k = pu_cell L (pu_M0 xs) k) h88 h89 (cz_88 L xs)) else (mq_lf (P := fun k => (ch_208 L xs).1 k = pu_cell L (pu_M0 xs) k) h89 hk (cz_89 L xs)))))))))
  · rw [chO_208 L xs k (by omega)]
    show _ = pu_cell L (pu_M0 xs) k
    unfold pu_cell
    rw [pu_sh_out (by omega), pu_M0_out (by omega)]
/-- the law, out of its loop -/
theorem mq_Law_of {L : Nat} {xs : Nat → Int32} (h : pu_R L 60 263 18 [.ref mq_SCR, .ref 0, .ref 58, .int 0] [] (pu_M0 xs) (pu_qI (fun x _ => x = 1))) : mq_Law L xs := by
  obtain ⟨f, r, M', e, x, rfl, rfl⟩ := h
  rw [← ch_last] at e
  obtain ⟨f2, e2⟩ := ct_law L xs ⟨f, e⟩
  exact ⟨f2, _, e2, (show 90 ≤ 600000 by decide), (show 7106 ≤ 7302249 by decide)⟩
