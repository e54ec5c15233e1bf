/-! Company_coupledWith (I)I -/
set_option maxRecDepth 20000 in
theorem r_Company_coupledWith_88 {L d : Nat} {M : pu_M} {Q : Int32 → pu_M → Prop} {v1 : Int32} {v2 : Int32} {v3 : Int32} {v4 : Int32} {v5 : Int32} {v6 : Int32} (H : (if v6 = ((-1)) then pu_R L (d + 3) 27 14 [.ref 6, .int v1, .int v2, .int ((v3 &&& (((1 : Int32) <<< (v5 &&& 31)) ^^^ ((-1)))) &&& (v3 &&& (((1 : Int32) <<< (v5 &&& 31)) ^^^ ((-1))))), .int (v4 + 1), .int v5, .int v6] [] M (pu_qI Q) else pu_R L (d + 3) 27 14 [.ref 6, .int v1, .int v2, .int ((v3 &&& (((1 : Int32) <<< (v5 &&& 31)) ^^^ ((-1)))) &&& (((1 : Int32) <<< (v6 &&& 31)) ^^^ ((-1)))), .int (v4 + 1), .int v5, .int v6] [] M (pu_qI Q))) : pu_R L (d + 3) 27 88 [.ref 6, .int v1, .int v2, .int v3, .int v4, .int v5, .int v6] [] M (pu_qI Q) := by
  refine pu_go 11 (pc' := 101) (ls' := [.ref 6, .int v1, .int v2, .int (v3 &&& (((1 : Int32) <<< (v5 &&& 31)) ^^^ ((-1)))), .int v4, .int v5, .int v6]) (st' := [.int ((-1)), .int v6, .int (v3 &&& (((1 : Int32) <<< (v5 &&& 31)) ^^^ ((-1))))]) (M' := M) rfl ?_
  refine pu_icmp_ne rfl (fun hc => ?_) (fun hc => ?_)
  · replace H := Eq.mp (if_neg hc) H
    refine pu_go 9 (pc' := 14) (ls' := [.ref 6, .int v1, .int v2, .int ((v3 &&& (((1 : Int32) <<< (v5 &&& 31)) ^^^ ((-1)))) &&& (((1 : Int32) <<< (v6 &&& 31)) ^^^ ((-1)))), .int (v4 + 1), .int v5, .int v6]) (st' := []) (M' := M) rfl ?_
    exact H
  · replace H := Eq.mp (if_pos hc) H
    refine pu_go 6 (pc' := 14) (ls' := [.ref 6, .int v1, .int v2, .int ((v3 &&& (((1 : Int32) <<< (v5 &&& 31)) ^^^ ((-1)))) &&& (v3 &&& (((1 : Int32) <<< (v5 &&& 31)) ^^^ ((-1))))), .int (v4 + 1), .int v5, .int v6]) (st' := []) (M' := M) rfl ?_
    exact H
set_option maxRecDepth 20000 in
theorem r_Company_coupledWith_14 {L d : Nat} {M : pu_M} {Q : Int32 → pu_M → Prop} {v1 : Int32} {v2 : Int32} {v3 : Int32} {v4 : Int32} {v5 : Value} {v6 : Value} (H : (if (M 6 8) ≤ v4 then Q ((-2)) M else (if v3 = 0 then Q ((-2)) M else pu_I L (d + 2) 23 [.ref 6, .int v3] M (fun x2 M1 => pu_I L (d + 2) 28 [.ref 6, .int v3, .int x2] M1 (fun x4 M3 => (if x2 = v2 then (if x4 = ((-1)) then Q ((-2)) M3 else (mq_inb x4 10 = true ∧ Q (M3 7 x4.toNatClampNeg) M3)) else (if x4 = ((-1)) then pu_R L (d + 3) 27 88 [.ref 6, .int v1, .int v2, .int v3, .int v4, .int x2, .int x4] [] M3 (pu_qI Q) else (if x4 = v2 then (mq_inb x2 10 = true ∧ Q (M3 7 x2.toNatClampNeg) M3) else pu_R L (d + 3) 27 88 [.ref 6, .int v1, .int v2, .int v3, .int v4, .int x2, .int x4] [] M3 (pu_qI Q))))))))) : pu_R L (d + 3) 27 14 [.ref 6, .int v1, .int v2, .int v3, .int v4, v5, v6] [] M (pu_qI Q) := by
  refine pu_go 3 (pc' := 20) (ls' := [.ref 6, .int v1, .int v2, .int v3, .int v4, v5, v6]) (st' := [.int (M 6 8), .int v4]) (M' := M) rfl ?_
  refine pu_icmp_ge rfl (fun hc => ?_) (fun hc => ?_)
  · replace H := Eq.mp (if_pos hc) H
    refine pu_go 1 (pc' := 124) (ls' := [.ref 6, .int v1, .int v2, .int v3, .int v4, v5, v6]) (st' := [.int ((-2))]) (M' := M) rfl ?_
    exact pu_ret rfl rfl ⟨_, rfl, H⟩
  · replace H := Eq.mp (if_neg hc) H
    refine pu_go 1 (pc' := 24) (ls' := [.ref 6, .int v1, .int v2, .int v3, .int v4, v5, v6]) (st' := [.int v3]) (M' := M) rfl ?_
    refine pu_if_eq rfl (fun hc => ?_) (fun hc => ?_)
    · replace H := Eq.mp (if_pos hc) H
      refine pu_go 1 (pc' := 124) (ls' := [.ref 6, .int v1, .int v2, .int v3, .int v4, v5, v6]) (st' := [.int ((-2))]) (M' := M) rfl ?_
      exact pu_ret rfl rfl ⟨_, rfl, H⟩
    · replace H := Eq.mp (if_neg hc) H
      refine pu_go 2 (pc' := 29) (ls' := [.ref 6, .int v1, .int v2, .int v3, .int v4, v5, v6]) (st' := [.int v3, .ref 6]) (M' := M) rfl ?_
      refine pu_callI (m' := 23) (ml := 3) (as := [.ref 6, .int v3]) (rest := []) rfl rfl rfl (Nat.le_of_ble_eq_true rfl) H (fun x2 M1 H => ?_)
      show pu_R L (d + 3) 27 32 [.ref 6, .int v1, .int v2, .int v3, .int v4, v5, v6] [.int x2] M1 _
      refine pu_go 4 (pc' := 38) (ls' := [.ref 6, .int v1, .int v2, .int v3, .int v4, .int x2, v6]) (st' := [.int x2, .int v3, .ref 6]) (M' := M1) rfl ?_
      refine pu_callI (m' := 28) (ml := 4) (as := [.ref 6, .int v3, .int x2]) (rest := []) rfl rfl rfl (Nat.le_of_ble_eq_true rfl) H (fun x4 M3 H => ?_)
      show pu_R L (d + 3) 27 41 [.ref 6, .int v1, .int v2, .int v3, .int v4, .int x2, v6] [.int x4] M3 _
      refine pu_go 3 (pc' := 46) (ls' := [.ref 6, .int v1, .int v2, .int v3, .int v4, .int x2, .int x4]) (st' := [.int v2, .int x2]) (M' := M3) rfl ?_
      refine pu_icmp_ne rfl (fun hc => ?_) (fun hc => ?_)
      · replace H := Eq.mp (if_neg hc) H
        refine pu_go 2 (pc' := 71) (ls' := [.ref 6, .int v1, .int v2, .int v3, .int v4, .int x2, .int x4]) (st' := [.int ((-1)), .int x4]) (M' := M3) rfl ?_
        refine pu_icmp_eq rfl (fun hc => ?_) (fun hc => ?_)
        · replace H := Eq.mp (if_pos hc) H
          exact H
        · replace H := Eq.mp (if_neg hc) H
          refine pu_go 2 (pc' := 77) (ls' := [.ref 6, .int v1, .int v2, .int v3, .int v4, .int x2, .int x4]) (st' := [.int v2, .int x4]) (M' := M3) rfl ?_
          refine pu_icmp_ne rfl (fun hc => ?_) (fun hc => ?_)
          · replace H := Eq.mp (if_neg hc) H
            exact H
          · replace H := Eq.mp (if_pos hc) H
            refine pu_go 3 (pc' := 86) (ls' := [.ref 6, .int v1, .int v2, .int v3, .int v4, .int x2, .int x4]) (st' := [.int x2, .ref 7]) (M' := M3) rfl ?_
            obtain ⟨hb5, H⟩ := H
            refine pu_iald rfl rfl (Or.inl (by decide)) hb5 ?_
            exact pu_ret rfl rfl ⟨_, rfl, H⟩
      · replace H := Eq.mp (if_pos hc) H
        refine pu_go 2 (pc' := 52) (ls' := [.ref 6, .int v1, .int v2, .int v3, .int v4, .int x2, .int x4]) (st' := [.int ((-1)), .int x4]) (M' := M3) rfl ?_
        refine pu_icmp_ne rfl (fun hc => ?_) (fun hc => ?_)
        · replace H := Eq.mp (if_neg hc) H
          refine pu_go 3 (pc' := 66) (ls' := [.ref 6, .int v1, .int v2, .int v3, .int v4, .int x2, .int x4]) (st' := [.int x4, .ref 7]) (M' := M3) rfl ?_
          obtain ⟨hb6, H⟩ := H
          refine pu_iald rfl rfl (Or.inl (by decide)) hb6 ?_
          exact pu_ret rfl rfl ⟨_, rfl, H⟩
        · replace H := Eq.mp (if_pos hc) H
          refine pu_go 2 (pc' := 67) (ls' := [.ref 6, .int v1, .int v2, .int v3, .int v4, .int x2, .int x4]) (st' := [.int ((-2))]) (M' := M3) rfl ?_
          exact pu_ret rfl rfl ⟨_, rfl, H⟩
set_option maxRecDepth 20000 in
theorem r_Company_coupledWith {L d : Nat} {M : pu_M} {Q : Int32 → pu_M → Prop} {v1 : Int32} (H : pu_I L (d + 2) 10 [.ref 6, .int v1] M (fun x2 M1 => pu_I L (d + 2) 9 [.ref 6] M1 (fun x4 M3 => pu_R L (d + 3) 27 14 [.ref 6, .int v1, .int x2, .int x4, .int 0, mq_un, mq_un] [] M3 (pu_qI Q)))) : pu_I L (d + 3) 27 [.ref 6, .int v1] M Q := by
  show pu_R L (d + 3) 27 0 [.ref 6, .int v1, mq_un, mq_un, mq_un, mq_un, mq_un] [] M (pu_qI Q)
  refine pu_go 2 (pc' := 2) (ls' := [.ref 6, .int v1, mq_un, mq_un, mq_un, mq_un, mq_un]) (st' := [.int v1, .ref 6]) (M' := M) rfl ?_
  refine pu_callI (m' := 10) (ml := 3) (as := [.ref 6, .int v1]) (rest := []) rfl rfl rfl (Nat.le_of_ble_eq_true rfl) H (fun x2 M1 H => ?_)
  show pu_R L (d + 3) 27 5 [.ref 6, .int v1, mq_un, mq_un, mq_un, mq_un, mq_un] [.int x2] M1 _
  refine pu_go 2 (pc' := 7) (ls' := [.ref 6, .int v1, .int x2, mq_un, mq_un, mq_un, mq_un]) (st' := [.ref 6]) (M' := M1) rfl ?_
  refine pu_callI (m' := 9) (ml := 1) (as := [.ref 6]) (rest := []) rfl rfl rfl (Nat.le_of_ble_eq_true rfl) H (fun x4 M3 H => ?_)
  show pu_R L (d + 3) 27 10 [.ref 6, .int v1, .int x2, mq_un, mq_un, mq_un, mq_un] [.int x4] M3 _
  refine pu_go 3 (pc' := 14) (ls' := [.ref 6, .int v1, .int x2, .int x4, .int 0, mq_un, mq_un]) (st' := []) (M' := M3) rfl ?_
  exact H
/-! Company_lowestOther (II)I -/
set_option maxRecDepth 20000 in
theorem r_Company_lowestOther_4 {L d : Nat} {M : pu_M} {Q : Int32 → pu_M → Prop} {v1 : Int32} {v2 : Int32} {v3 : Int32} (H : (if (M 6 8) ≤ v3 then Q ((-1)) M else pu_I L (d + 1) 24 [.ref 6, .int v1, .int v2, .int v3] M (fun x2 M1 => (if x2 = 0 then pu_R L (d + 2) 28 4 [.ref 6, .int v1, .int v2, .int (v3 + 1)] [] M1 (pu_qI Q) else pu_I L (d + 1) 25 [.ref 6, .int v1, .int v2, .int v3] M1 (fun x4 M3 => (mq_inb v1 1024 = true ∧ (if x4 = (M3 9 v1.toNatClampNeg) then Q v3 M3 else pu_R L (d + 2) 28 4 [.ref 6, .int v1, .int v2, .int (v3 + 1)] [] M3 (pu_qI Q)))))))) : pu_R L (d + 2) 28 4 [.ref 6, .int v1, .int v2, .int v3] [] M (pu_qI Q) := by
  refine pu_go 3 (pc' := 9) (ls' := [.ref 6, .int v1, .int v2, .int v3]) (st' := [.int (M 6 8), .int v3]) (M' := M) rfl ?_
  refine pu_icmp_ge rfl (fun hc => ?_) (fun hc => ?_)
  · replace H := Eq.mp (if_pos hc) H
    refine pu_go 1 (pc' := 47) (ls' := [.ref 6, .int v1, .int v2, .int v3]) (st' := [.int ((-1))]) (M' := M) rfl ?_
    exact pu_ret rfl rfl ⟨_, rfl, H⟩
  · replace H := Eq.mp (if_neg hc) H
    refine pu_go 4 (pc' := 16) (ls' := [.ref 6, .int v1, .int v2, .int v3]) (st' := [.int v3, .int v2, .int v1, .ref 6]) (M' := M) rfl ?_
    refine pu_callI (m' := 24) (ml := 4) (as := [.ref 6, .int v1, .int v2, .int v3]) (rest := []) rfl rfl rfl (Nat.le_of_ble_eq_true rfl) H (fun x2 M1 H => ?_)
    show pu_R L (d + 2) 28 19 [.ref 6, .int v1, .int v2, .int v3] [.int x2] M1 _
    refine pu_if_eq rfl (fun hc => ?_) (fun hc => ?_)
    · replace H := Eq.mp (if_pos hc) H
      refine pu_go 2 (pc' := 4) (ls' := [.ref 6, .int v1, .int v2, .int (v3 + 1)]) (st' := []) (M' := M1) rfl ?_
      exact H
    · replace H := Eq.mp (if_neg hc) H
      refine pu_go 4 (pc' := 26) (ls' := [.ref 6, .int v1, .int v2, .int v3]) (st' := [.int v3, .int v2, .int v1, .ref 6]) (M' := M1) rfl ?_
      refine pu_callI (m' := 25) (ml := 4) (as := [.ref 6, .int v1, .int v2, .int v3]) (rest := []) rfl rfl rfl (Nat.le_of_ble_eq_true rfl) H (fun x4 M3 H => ?_)
      show pu_R L (d + 2) 28 29 [.ref 6, .int v1, .int v2, .int v3] [.int x4] M3 _
      refine pu_go 3 (pc' := 34) (ls' := [.ref 6, .int v1, .int v2, .int v3]) (st' := [.int v1, .ref 9, .int x4]) (M' := M3) rfl ?_
      obtain ⟨hb5, H⟩ := H
      refine pu_iald rfl rfl (Or.inl (by decide)) hb5 ?_
      refine pu_icmp_ne rfl (fun hc => ?_) (fun hc => ?_)
      · replace H := Eq.mp (if_neg hc) H
        refine pu_go 2 (pc' := 4) (ls' := [.ref 6, .int v1, .int v2, .int (v3 + 1)]) (st' := []) (M' := M3) rfl ?_
        exact H
      · replace H := Eq.mp (if_pos hc) H
        refine pu_go 1 (pc' := 39) (ls' := [.ref 6, .int v1, .int v2, .int v3]) (st' := [.int v3]) (M' := M3) rfl ?_
        exact pu_ret rfl rfl ⟨_, rfl, H⟩
set_option maxRecDepth 20000 in
theorem r_Company_lowestOther {L d : Nat} {M : pu_M} {Q : Int32 → pu_M → Prop} {v1 : Int32} {v2 : Int32} (H : pu_R L (d + 2) 28 4 [.ref 6, .int v1, .int v2, .int (v2 + 1)] [] M (pu_qI Q)) : pu_I L (d + 2) 28 [.ref 6, .int v1, .int v2] M Q := by
  show pu_R L (d + 2) 28 0 [.ref 6, .int v1, .int v2, mq_un] [] M (pu_qI Q)
  refine pu_go 4 (pc' := 4) (ls' := [.ref 6, .int v1, .int v2, .int (v2 + 1)]) (st' := []) (M' := M) rfl ?_
  exact H
/-! Grass_nextTo (J)J -/
set_option maxRecDepth 20000 in
theorem r_Grass_nextTo {L d : Nat} {M : pu_M} {Q : Int64 → pu_M → Prop} {v0 : Int64} (H : Q ((((((((v0 &&& ((-1127000493261826))) : Int64).toUInt64 >>> ((1 : Int32).toInt64.toUInt64 &&& Int64.toUInt64 63)).toInt64) ||| ((v0 &&& ((-577024252550054401))) <<< ((1 : Int32).toInt64 &&& 63))) ||| (((v0 : Int64).toUInt64 >>> ((10 : Int32).toInt64.toUInt64 &&& Int64.toUInt64 63)).toInt64)) ||| (v0 <<< ((10 : Int32).toInt64 &&& 63))) &&& 1152921504606846975) M) : pu_J L (d + 1) 29 [.long v0] M Q := by
  show pu_R L (d + 1) 29 0 [.long v0, mq_un, mq_un, mq_un] [] M (pu_qJ Q)
  refine pu_go 23 (pc' := 31) (ls' := [.long v0, mq_un, .long (((((v0 &&& ((-1127000493261826))) : Int64).toUInt64 >>> ((1 : Int32).toInt64.toUInt64 &&& Int64.toUInt64 63)).toInt64) ||| ((v0 &&& ((-577024252550054401))) <<< ((1 : Int32).toInt64 &&& 63))), mq_un]) (st' := [.long ((((((((v0 &&& ((-1127000493261826))) : Int64).toUInt64 >>> ((1 : Int32).toInt64.toUInt64 &&& Int64.toUInt64 63)).toInt64) ||| ((v0 &&& ((-577024252550054401))) <<< ((1 : Int32).toInt64 &&& 63))) ||| (((v0 : Int64).toUInt64 >>> ((10 : Int32).toInt64.toUInt64 &&& Int64.toUInt64 63)).toInt64)) ||| (v0 <<< ((10 : Int32).toInt64 &&& 63))) &&& 1152921504606846975)]) (M' := M) rfl ?_
  exact pu_ret rfl rfl ⟨_, rfl, H⟩
/-! Grass_spread (JJ)J -/
set_option maxRecDepth 20000 in
theorem r_Grass_spread_6 {L d : Nat} {M : pu_M} {Q : Int64 → pu_M → Prop} {v0 : Int64} {v2 : Int64} {v4 : Int64} {v6 : Int32} (H : (if 60 ≤ v6 then Q v4 M else pu_J L (d + 1) 29 [.long v4] M (fun x2 M1 => pu_R L (d + 2) 30 6 [.long v0, mq_un, .long v2, mq_un, .long (v4 ||| (x2 &&& v2)), mq_un, .int (v6 + 1)] [] M1 (pu_qJ Q)))) : pu_R L (d + 2) 30 6 [.long v0, mq_un, .long v2, mq_un, .long v4, mq_un, .int v6] [] M (pu_qJ Q) := by
  refine pu_go 2 (pc' := 10) (ls' := [.long v0, mq_un, .long v2, mq_un, .long v4, mq_un, .int v6]) (st' := [.int 60, .int v6]) (M' := M) rfl ?_
  refine pu_icmp_ge rfl (fun hc => ?_) (fun hc => ?_)
  · replace H := Eq.mp (if_pos hc) H
    refine pu_go 1 (pc' := 33) (ls' := [.long v0, mq_un, .long v2, mq_un, .long v4, mq_un, .int v6]) (st' := [.long v4]) (M' := M) rfl ?_
    exact pu_ret rfl rfl ⟨_, rfl, H⟩
  · replace H := Eq.mp (if_neg hc) H
    refine pu_go 2 (pc' := 17) (ls' := [.long v0, mq_un, .long v2, mq_un, .long v4, mq_un, .int v6]) (st' := [.long v4, .long v4]) (M' := M) rfl ?_
    refine pu_callJ (m' := 29) (ml := 4) (as := [.long v4]) (rest := [.long v4]) rfl rfl rfl (Nat.le_of_ble_eq_true rfl) H (fun x2 M1 H => ?_)
    show pu_R L (d + 2) 30 20 [.long v0, mq_un, .long v2, mq_un, .long v4, mq_un, .int v6] [.long x2, .long v4] M1 _
    refine pu_go 6 (pc' := 6) (ls' := [.long v0, mq_un, .long v2, mq_un, .long (v4 ||| (x2 &&& v2)), mq_un, .int (v6 + 1)]) (st' := []) (M' := M1) rfl ?_
    exact H
set_option maxRecDepth 20000 in
theorem r_Grass_spread {L d : Nat} {M : pu_M} {Q : Int64 → pu_M → Prop} {v0 : Int64} {v2 : Int64} (H : pu_R L (d + 2) 30 6 [.long v0, mq_un, .long v2, mq_un, .long v0, mq_un, .int 0] [] M (pu_qJ Q)) : pu_J L (d + 2) 30 [.long v0, .long v2] M Q := by
  show pu_R L (d + 2) 30 0 [.long v0, mq_un, .long v2, mq_un, mq_un, mq_un, mq_un] [] M (pu_qJ Q)
  refine pu_go 4 (pc' := 6) (ls' := [.long v0, mq_un, .long v2, mq_un, .long v0, mq_un, .int 0]) (st' := []) (M' := M) rfl ?_
  exact H
/-! Grass_steps (JJJ)I -/
set_option maxRecDepth 20000 in
theorem r_Grass_steps_6 {L d : Nat} {M : pu_M} {Q : Int32 → pu_M → Prop} {v0 : Int64} {v2 : Int64} {v4 : Int64} {v6 : Int64} {v8 : Int32} (H : (if 60 ≤ v8 then Q ((-2)) M else (if (lg_cmp (v6 &&& v2) 0) = 0 then pu_J L (d + 1) 29 [.long v6] M (fun x2 M1 => pu_R L (d + 2) 31 6 [.long v0, mq_un, .long v2, mq_un, .long v4, mq_un, .long (v6 ||| (x2 &&& v4)), mq_un, .int (v8 + 1)] [] M1 (pu_qI Q)) else Q v8 M))) : pu_R L (d + 2) 31 6 [.long v0, mq_un, .long v2, mq_un, .long v4, mq_un, .long v6, mq_un, .int v8] [] M (pu_qI Q) := by
  refine pu_go 2 (pc' := 10) (ls' := [.long v0, mq_un, .long v2, mq_un, .long v4, mq_un, .long v6, mq_un, .int v8]) (st' := [.int 60, .int v8]) (M' := M) rfl ?_
  refine pu_icmp_ge rfl (fun hc => ?_) (fun hc => ?_)
  · replace H := Eq.mp (if_pos hc) H
    refine pu_go 1 (pc' := 46) (ls' := [.long v0, mq_un, .long v2, mq_un, .long v4, mq_un, .long v6, mq_un, .int v8]) (st' := [.int ((-2))]) (M' := M) rfl ?_
    exact pu_ret rfl rfl ⟨_, rfl, H⟩
  · replace H := Eq.mp (if_neg hc) H
    refine pu_go 5 (pc' := 19) (ls' := [.long v0, mq_un, .long v2, mq_un, .long v4, mq_un, .long v6, mq_un, .int v8]) (st' := [.int (lg_cmp (v6 &&& v2) 0)]) (M' := M) rfl ?_
    refine pu_if_eq rfl (fun hc => ?_) (fun hc => ?_)
    · replace H := Eq.mp (if_pos hc) H
      refine pu_go 2 (pc' := 29) (ls' := [.long v0, mq_un, .long v2, mq_un, .long v4, mq_un, .long v6, mq_un, .int v8]) (st' := [.long v6, .long v6]) (M' := M) rfl ?_
      refine pu_callJ (m' := 29) (ml := 4) (as := [.long v6]) (rest := [.long v6]) rfl rfl rfl (Nat.le_of_ble_eq_true rfl) H (fun x2 M1 H => ?_)
      show pu_R L (d + 2) 31 32 [.long v0, mq_un, .long v2, mq_un, .long v4, mq_un, .long v6, mq_un, .int v8] [.long x2, .long v6] M1 _
      refine pu_go 6 (pc' := 6) (ls' := [.long v0, mq_un, .long v2, mq_un, .long v4, mq_un, .long (v6 ||| (x2 &&& v4)), mq_un, .int (v8 + 1)]) (st' := []) (M' := M1) rfl ?_
      exact H
    · replace H := Eq.mp (if_neg hc) H
      refine pu_go 1 (pc' := 24) (ls' := [.long v0, mq_un, .long v2, mq_un, .long v4, mq_un, .long v6, mq_un, .int v8]) (st' := [.int v8]) (M' := M) rfl ?_
      exact pu_ret rfl rfl ⟨_, rfl, H⟩
set_option maxRecDepth 20000 in
theorem r_Grass_steps {L d : Nat} {M : pu_M} {Q : Int32 → pu_M → Prop} {v0 : Int64} {v2 : Int64} {v4 : Int64} (H : pu_R L (d + 2) 31 6 [.long v0, mq_un, .long v2, mq_un, .long v4, mq_un, .long v0, mq_un, .int 0] [] M (pu_qI Q)) : pu_I L (d + 2) 31 [.long v0, .long v2, .long v4] M Q := by
  show pu_R L (d + 2) 31 0 [.long v0, mq_un, .long v2, mq_un, .long v4, mq_un, mq_un, mq_un, mq_un] [] M (pu_qI Q)
  refine pu_go 4 (pc' := 6) (ls' := [.long v0, mq_un, .long v2, mq_un, .long v4, mq_un, .long v0, mq_un, .int 0]) (st' := []) (M' := M) rfl ?_
  exact H
/-! Grass_lowest (J)I -/
set_option maxRecDepth 20000 in
theorem r_Grass_lowest_2 {L d : Nat} {M : pu_M} {Q : Int32 → pu_M → Prop} {v0 : Int64} {v2 : Int32} (H : (if 60 ≤ v2 then Q ((-2)) M else (if (lg_cmp ((v0 >>> ((v2 : Int32).toInt64 &&& 63)) &&& 1) 1) = 0 then Q v2 M else pu_R L (d + 1) 32 2 [.long v0, mq_un, .int (v2 + 1)] [] M (pu_qI Q)))) : pu_R L (d + 1) 32 2 [.long v0, mq_un, .int v2] [] M (pu_qI Q) := by
  refine pu_go 2 (pc' := 5) (ls' := [.long v0, mq_un, .int v2]) (st' := [.int 60, .int v2]) (M' := M) rfl ?_
  refine pu_icmp_ge rfl (fun hc => ?_) (fun hc => ?_)
  · replace H := Eq.mp (if_pos hc) H
    refine pu_go 1 (pc' := 28) (ls' := [.long v0, mq_un, .int v2]) (st' := [.int ((-2))]) (M' := M) rfl ?_
    exact pu_ret rfl rfl ⟨_, rfl, H⟩
  · replace H := Eq.mp (if_neg hc) H
    refine pu_go 7 (pc' := 15) (ls' := [.long v0, mq_un, .int v2]) (st' := [.int (lg_cmp ((v0 >>> ((v2 : Int32).toInt64 &&& 63)) &&& 1) 1)]) (M' := M) rfl ?_
    refine pu_if_ne rfl (fun hc => ?_) (fun hc => ?_)
    · replace H := Eq.mp (if_neg hc) H
      refine pu_go 2 (pc' := 2) (ls' := [.long v0, mq_un, .int (v2 + 1)]) (st' := []) (M' := M) rfl ?_
      exact H
    · replace H := Eq.mp (if_pos hc) H
      refine pu_go 1 (pc' := 19) (ls' := [.long v0, mq_un, .int v2]) (st' := [.int v2]) (M' := M) rfl ?_
      exact pu_ret rfl rfl ⟨_, rfl, H⟩
set_option maxRecDepth 20000 in
theorem r_Grass_lowest {L d : Nat} {M : pu_M} {Q : Int32 → pu_M → Prop} {v0 : Int64} (H : pu_R L (d + 1) 32 2 [.long v0, mq_un, .int 0] [] M (pu_qI Q)) : pu_I L (d + 1) 32 [.long v0] M Q := by
  show pu_R L (d + 1) 32 0 [.long v0, mq_un, mq_un] [] M (pu_qI Q)
  refine pu_go 2 (pc' := 2) (ls' := [.long v0, mq_un, .int 0]) (st' := []) (M' := M) rfl ?_
  exact H
/-! Grass_largestBlock (J)I -/
set_option maxRecDepth 20000 in
theorem r_Grass_largestBlock_7 {L d : Nat} {M : pu_M} {Q : Int32 → pu_M → Prop} {v0 : Int64} {v2 : Int32} {v3 : Int64} {v5 : Int32} {v6 : Value} (H : (if 60 ≤ v5 then Q v2 M else (if (lg_cmp v3 0) = 0 then Q v2 M else pu_J L (d + 2) 30 [.long (v3 &&& (-v3)), .long v0] M (fun x2 M1 => pu_I L (d + 2) 261 [.long x2] M1 (fun x4 M3 => pu_R L (d + 3) 33 7 [.long v0, mq_un, .int (if v2 < x4 then x4 else v2), .long (v3 &&& (x2 ^^^ ((-1)))), mq_un, .int (v5 + 1), .long x2, mq_un] [] M3 (pu_qI Q)))))) : pu_R L (d + 3) 33 7 [.long v0, mq_un, .int v2, .long v3, mq_un, .int v5, v6, mq_un] [] M (pu_qI Q) := by
  refine pu_go 2 (pc' := 11) (ls' := [.long v0, mq_un, .int v2, .long v3, mq_un, .int v5, v6, mq_un]) (st' := [.int 60, .int v5]) (M' := M) rfl ?_
  refine pu_icmp_ge rfl (fun hc => ?_) (fun hc => ?_)
  · replace H := Eq.mp (if_pos hc) H
    refine pu_go 1 (pc' := 56) (ls' := [.long v0, mq_un, .int v2, .long v3, mq_un, .int v5, v6, mq_un]) (st' := [.int v2]) (M' := M) rfl ?_
    exact pu_ret rfl rfl ⟨_, rfl, H⟩
  · replace H := Eq.mp (if_neg hc) H
    refine pu_go 3 (pc' := 17) (ls' := [.long v0, mq_un, .int v2, .long v3, mq_un, .int v5, v6, mq_un]) (st' := [.int (lg_cmp v3 0)]) (M' := M) rfl ?_
    refine pu_if_eq rfl (fun hc => ?_) (fun hc => ?_)
    · replace H := Eq.mp (if_pos hc) H
      refine pu_go 1 (pc' := 56) (ls' := [.long v0, mq_un, .int v2, .long v3, mq_un, .int v5, v6, mq_un]) (st' := [.int v2]) (M' := M) rfl ?_
      exact pu_ret rfl rfl ⟨_, rfl, H⟩
    · replace H := Eq.mp (if_neg hc) H
      refine pu_go 5 (pc' := 25) (ls' := [.long v0, mq_un, .int v2, .long v3, mq_un, .int v5, v6, mq_un]) (st' := [.long v0, .long (v3 &&& (-v3))]) (M' := M) rfl ?_
      refine pu_callJ (m' := 30) (ml := 7) (as := [.long (v3 &&& (-v3)), .long v0]) (rest := []) rfl rfl rfl (Nat.le_of_ble_eq_true rfl) H (fun x2 M1 H => ?_)
      show pu_R L (d + 3) 33 28 [.long v0, mq_un, .int v2, .long v3, mq_un, .int v5, v6, mq_un] [.long x2] M1 _
      refine pu_go 3 (pc' := 33) (ls' := [.long v0, mq_un, .int v2, .long v3, mq_un, .int v5, .long x2, mq_un]) (st' := [.long x2, .int v2]) (M' := M1) rfl ?_
      refine pu_callI (m' := 261) (ml := 2) (as := [.long x2]) (rest := [.int v2]) rfl rfl rfl (Nat.le_of_ble_eq_true rfl) H (fun x4 M3 H => ?_)
      show pu_R L (d + 3) 33 36 [.long v0, mq_un, .int v2, .long v3, mq_un, .int v5, .long x2, mq_un] [.int x4, .int v2] M3 _
      refine pu_go 10 (pc' := 7) (ls' := [.long v0, mq_un, .int (if v2 < x4 then x4 else v2), .long (v3 &&& (x2 ^^^ ((-1)))), mq_un, .int (v5 + 1), .long x2, mq_un]) (st' := []) (M' := M3) rfl ?_
      exact H
set_option maxRecDepth 20000 in
theorem r_Grass_largestBlock {L d : Nat} {M : pu_M} {Q : Int32 → pu_M → Prop} {v0 : Int64} (H : pu_R L (d + 3) 33 7 [.long v0, mq_un, .int 0, .long v0, mq_un, .int 0, mq_un, mq_un] [] M (pu_qI Q)) : pu_I L (d + 3) 33 [.long v0] M Q := by
  show pu_R L (d + 3) 33 0 [.long v0, mq_un, mq_un, mq_un, mq_un, mq_un, mq_un, mq_un] [] M (pu_qI Q)
  refine pu_go 6 (pc' := 7) (ls' := [.long v0, mq_un, .int 0, .long v0, mq_un, .int 0, mq_un, mq_un]) (st' := []) (M' := M) rfl ?_
  exact H
/-! Law_clear ()V -/
set_option maxRecDepth 20000 in
theorem r_Law_clear {L d : Nat} {M : pu_M} {Q : pu_M → Prop} {v0 : Nat} (hv0 : pu_isL v0) (H : Q (pu_wr (pu_wr M v0 2 0) v0 7 0)) : pu_V L (d + 1) 35 [.ref v0] M Q := by
  show pu_R L (d + 1) 35 0 [.ref v0] [] M (pu_qV Q)
  refine pu_go 2 (pc' := 2) (ls' := [.ref v0]) (st' := [.int 0, .ref v0]) (M' := M) rfl ?_
  refine pu_putf (j := 2) (z := 0) rfl (pu_L_o hv0) (Nat.lt_trans (pu_L_lt hv0) (by decide)) rfl (by decide) rfl rfl pu_put_hw ?_
  refine pu_go 2 (pc' := 7) (ls' := [.ref v0]) (st' := [.int 0, .ref v0]) (M' := pu_wr M v0 2 0) rfl ?_
  refine pu_putf (j := 7) (z := 0) rfl (pu_L_o hv0) (Nat.lt_trans (pu_L_lt hv0) (by decide)) rfl (by decide) rfl rfl pu_put_hw ?_
  exact pu_ret rfl rfl ⟨rfl, H⟩
/-! Law_add (II)I -/
set_option maxRecDepth 20000 in
theorem r_Law_add {L d : Nat} {M : pu_M} {Q : Int32 → pu_M → Prop} {v0 : Nat} (hv0 : pu_isL v0) {v1 : Int32} {v2 : Int32} (H : (if (M v0 2) < 240 then (mq_inb (M v0 2) 240 = true ∧ (mq_inb ((pu_wr M (v0 + 1) (M v0 2 : Int32).toNatClampNeg v1) v0 2) 240 = true ∧ (∀ M3 : pu_M, M3 = pu_wr (pu_wr (pu_wr M (v0 + 1) (M v0 2 : Int32).toNatClampNeg v1) (v0 + 2) ((pu_wr M (v0 + 1) (M v0 2 : Int32).toNatClampNeg v1) v0 2 : Int32).toNatClampNeg v2) v0 2 (((pu_wr (pu_wr M (v0 + 1) (M v0 2 : Int32).toNatClampNeg v1) (v0 + 2) ((pu_wr M (v0 + 1) (M v0 2 : Int32).toNatClampNeg v1) v0 2 : Int32).toNatClampNeg v2) v0 2) + 1) → Q ((M3 v0 2) - 1) M3))) else Q ((-1)) M)) : pu_I L (d + 1) 36 [.ref v0, .int v1, .int v2] M Q := by
  show pu_R L (d + 1) 36 0 [.ref v0, .int v1, .int v2] [] M (pu_qI Q)
  refine pu_go 1 (pc' := 1) (ls' := [.ref v0, .int v1, .int v2]) (st' := [.ref v0]) (M' := M) rfl ?_
  refine pu_getf (j := 2) (w := .int (M v0 2)) rfl (pu_L_o hv0) (Nat.lt_trans (pu_L_lt hv0) (by decide)) rfl (by decide) rfl rfl ?_
  refine pu_go 1 (pc' := 7) (ls' := [.ref v0, .int v1, .int v2]) (st' := [.int 240, .int (M v0 2)]) (M' := M) rfl ?_
  refine pu_icmp_lt rfl (fun hc => ?_) (fun hc => ?_)
  · replace H := Eq.mp (if_pos hc) H
    refine pu_go 1 (pc' := 13) (ls' := [.ref v0, .int v1, .int v2]) (st' := [.ref v0]) (M' := M) rfl ?_
    refine pu_getf (j := 0) (w := .ref (v0 + 1)) rfl (pu_L_o hv0) (Nat.lt_trans (pu_L_lt hv0) (by decide)) rfl (by decide) rfl rfl ?_
    refine pu_go 1 (pc' := 17) (ls' := [.ref v0, .int v1, .int v2]) (st' := [.ref v0, .ref (v0 + 1)]) (M' := M) rfl ?_
    refine pu_getf (j := 2) (w := .int (M v0 2)) rfl (pu_L_o hv0) (Nat.lt_trans (pu_L_lt hv0) (by decide)) rfl (by decide) rfl rfl ?_
    refine pu_go 1 (pc' := 21) (ls' := [.ref v0, .int v1, .int v2]) (st' := [.int v1, .int (M v0 2), .ref (v0 + 1)]) (M' := M) rfl ?_
    obtain ⟨hb1, H⟩ := H
    refine pu_iast rfl (pu_L_1 hv0) (pu_L_l1 hv0) hb1 ?_
    refine pu_go 1 (pc' := 23) (ls' := [.ref v0, .int v1, .int v2]) (st' := [.ref v0]) (M' := pu_wr M (v0 + 1) (M v0 2 : Int32).toNatClampNeg v1) rfl ?_
    refine pu_getf (j := 1) (w := .ref (v0 + 2)) rfl (pu_L_o hv0) (Nat.lt_trans (pu_L_lt hv0) (by decide)) rfl (by decide) rfl rfl ?_
    refine pu_go 1 (pc' := 27) (ls' := [.ref v0, .int v1, .int v2]) (st' := [.ref v0, .ref (v0 + 2)]) (M' := pu_wr M (v0 + 1) (M v0 2 : Int32).toNatClampNeg v1) rfl ?_
    refine pu_getf (j := 2) (w := .int ((pu_wr M (v0 + 1) (M v0 2 : Int32).toNatClampNeg v1) v0 2)) rfl (pu_L_o hv0) (Nat.lt_trans (pu_L_lt hv0) (by decide)) rfl (by decide) rfl rfl ?_
    refine pu_go 1 (pc' := 31) (ls' := [.ref v0, .int v1, .int v2]) (st' := [.int v2, .int ((pu_wr M (v0 + 1) (M v0 2 : Int32).toNatClampNeg v1) v0 2), .ref (v0 + 2)]) (M' := pu_wr M (v0 + 1) (M v0 2 : Int32).toNatClampNeg v1) rfl ?_
    obtain ⟨hb2, H⟩ := H
    refine pu_iast rfl (pu_L_2 hv0) (pu_L_l2 hv0) hb2 ?_
    refine pu_go 2 (pc' := 34) (ls' := [.ref v0, .int v1, .int v2]) (st' := [.ref v0, .ref v0]) (M' := pu_wr (pu_wr M (v0 + 1) (M v0 2 : Int32).toNatClampNeg v1) (v0 + 2) ((pu_wr M (v0 + 1) (M v0 2 : Int32).toNatClampNeg v1) v0 2 : Int32).toNatClampNeg v2) rfl ?_
    refine pu_getf (j := 2) (w := .int ((pu_wr (pu_wr M (v0 + 1) (M v0 2 : Int32).toNatClampNeg v1) (v0 + 2) ((pu_wr M (v0 + 1) (M v0 2 : Int32).toNatClampNeg v1) v0 2 : Int32).toNatClampNeg v2) v0 2)) rfl (pu_L_o hv0) (Nat.lt_trans (pu_L_lt hv0) (by decide)) rfl (by decide) rfl rfl ?_
    refine pu_go 2 (pc' := 39) (ls' := [.ref v0, .int v1, .int v2]) (st' := [.int (((pu_wr (pu_wr M (v0 + 1) (M v0 2 : Int32).toNatClampNeg v1) (v0 + 2) ((pu_wr M (v0 + 1) (M v0 2 : Int32).toNatClampNeg v1) v0 2 : Int32).toNatClampNeg v2) v0 2) + 1), .ref v0]) (M' := pu_wr (pu_wr M (v0 + 1) (M v0 2 : Int32).toNatClampNeg v1) (v0 + 2) ((pu_wr M (v0 + 1) (M v0 2 : Int32).toNatClampNeg v1) v0 2 : Int32).toNatClampNeg v2) rfl ?_
    refine pu_putf (j := 2) (z := ((pu_wr (pu_wr M (v0 + 1) (M v0 2 : Int32).toNatClampNeg v1) (v0 + 2) ((pu_wr M (v0 + 1) (M v0 2 : Int32).toNatClampNeg v1) v0 2 : Int32).toNatClampNeg v2) v0 2) + 1) rfl (pu_L_o hv0) (Nat.lt_trans (pu_L_lt hv0) (by decide)) rfl (by decide) rfl rfl pu_put_hw ?_
    refine pu_named (fun M3 eM4 => ?_)
    replace H := H M3 eM4
    refine pu_go 1 (pc' := 43) (ls' := [.ref v0, .int v1, .int v2]) (st' := [.ref v0]) (M' := M3) rfl ?_
    refine pu_getf (j := 2) (w := .int (M3 v0 2)) rfl (pu_L_o hv0) (Nat.lt_trans (pu_L_lt hv0) (by decide)) rfl (by decide) rfl rfl ?_
    refine pu_go 2 (pc' := 48) (ls' := [.ref v0, .int v1, .int v2]) (st' := [.int ((M3 v0 2) - 1)]) (M' := M3) rfl ?_
    exact pu_ret rfl rfl ⟨_, rfl, H⟩
  · replace H := Eq.mp (if_neg hc) H
    refine pu_go 1 (pc' := 11) (ls' := [.ref v0, .int v1, .int v2]) (st' := [.int ((-1))]) (M' := M) rfl ?_
    exact pu_ret rfl rfl ⟨_, rfl, H⟩
/-! Law_endSkip (I)V -/
set_option maxRecDepth 20000 in
theorem r_Law_endSkip {L d : Nat} {M : pu_M} {Q : pu_M → Prop} {v0 : Nat} (hv0 : pu_isL v0) {v1 : Int32} (H : (if v1 < 0 then Q M else (if 240 ≤ v1 then Q M else (mq_inb v1 240 = true ∧ Q (pu_wr M (v0 + 2) v1.toNatClampNeg (M v0 2)))))) : pu_V L (d + 1) 37 [.ref v0, .int v1] M Q := by
  show pu_R L (d + 1) 37 0 [.ref v0, .int v1] [] M (pu_qV Q)
  refine pu_go 1 (pc' := 1) (ls' := [.ref v0, .int v1]) (st' := [.int v1]) (M' := M) rfl ?_
  refine pu_if_lt rfl (fun hc => ?_) (fun hc => ?_)
  · replace H := Eq.mp (if_pos hc) H
    exact pu_ret rfl rfl ⟨rfl, H⟩
  · replace H := Eq.mp (if_neg hc) H
    refine pu_go 2 (pc' := 8) (ls' := [.ref v0, .int v1]) (st' := [.int 240, .int v1]) (M' := M) rfl ?_
    refine pu_icmp_ge rfl (fun hc => ?_) (fun hc => ?_)
    · replace H := Eq.mp (if_pos hc) H
      exact pu_ret rfl rfl ⟨rfl, H⟩
    · replace H := Eq.mp (if_neg hc) H
      refine pu_go 1 (pc' := 12) (ls' := [.ref v0, .int v1]) (st' := [.ref v0]) (M' := M) rfl ?_
      refine pu_getf (j := 1) (w := .ref (v0 + 2)) rfl (pu_L_o hv0) (Nat.lt_trans (pu_L_lt hv0) (by decide)) rfl (by decide) rfl rfl ?_
      refine pu_go 2 (pc' := 17) (ls' := [.ref v0, .int v1]) (st' := [.ref v0, .int v1, .ref (v0 + 2)]) (M' := M) rfl ?_
      refine pu_getf (j := 2) (w := .int (M v0 2)) rfl (pu_L_o hv0) (Nat.lt_trans (pu_L_lt hv0) (by decide)) rfl (by decide) rfl rfl ?_
      obtain ⟨hb1, H⟩ := H
      refine pu_iast rfl (pu_L_2 hv0) (pu_L_l2 hv0) hb1 ?_
      exact pu_ret rfl rfl ⟨rfl, H⟩
/-! Law_addRule (III)V -/
set_option maxRecDepth 20000 in
theorem r_Law_addRule {L d : Nat} {M : pu_M} {Q : pu_M → Prop} {v0 : Nat} (hv0 : pu_isL v0) {v1 : Int32} {v2 : Int32} {v3 : Int32} (H : (if 16 ≤ (M v0 7) then Q M else (mq_inb (M v0 7) 16 = true ∧ (mq_inb ((pu_wr M (v0 + 3) (M v0 7 : Int32).toNatClampNeg v1) v0 7) 16 = true ∧ (mq_inb ((pu_wr (pu_wr M (v0 + 3) (M v0 7 : Int32).toNatClampNeg v1) (v0 + 4) ((pu_wr M (v0 + 3) (M v0 7 : Int32).toNatClampNeg v1) v0 7 : Int32).toNatClampNeg v2) v0 7) 16 = true ∧ (∀ M4 : pu_M, M4 = pu_wr (pu_wr (pu_wr M (v0 + 3) (M v0 7 : Int32).toNatClampNeg v1) (v0 + 4) ((pu_wr M (v0 + 3) (M v0 7 : Int32).toNatClampNeg v1) v0 7 : Int32).toNatClampNeg v2) (v0 + 5) ((pu_wr (pu_wr M (v0 + 3) (M v0 7 : Int32).toNatClampNeg v1) (v0 + 4) ((pu_wr M (v0 + 3) (M v0 7 : Int32).toNatClampNeg v1) v0 7 : Int32).toNatClampNeg v2) v0 7 : Int32).toNatClampNeg v3 → (mq_inb (M4 v0 7) 16 = true ∧ Q (pu_wr (pu_wr M4 (v0 + 6) (M4 v0 7 : Int32).toNatClampNeg (M4 v0 2)) v0 7 (((pu_wr M4 (v0 + 6) (M4 v0 7 : Int32).toNatClampNeg (M4 v0 2)) v0 7) + 1))))))))) : pu_V L (d + 1) 38 [.ref v0, .int v1, .int v2, .int v3] M Q := by
  show pu_R L (d + 1) 38 0 [.ref v0, .int v1, .int v2, .int v3] [] M (pu_qV Q)
  refine pu_go 1 (pc' := 1) (ls' := [.ref v0, .int v1, .int v2, .int v3]) (st' := [.ref v0]) (M' := M) rfl ?_
  refine pu_getf (j := 7) (w := .int (M v0 7)) rfl (pu_L_o hv0) (Nat.lt_trans (pu_L_lt hv0) (by decide)) rfl (by decide) rfl rfl ?_
  refine pu_go 1 (pc' := 6) (ls' := [.ref v0, .int v1, .int v2, .int v3]) (st' := [.int 16, .int (M v0 7)]) (M' := M) rfl ?_
  refine pu_icmp_ge rfl (fun hc => ?_) (fun hc => ?_)
  · replace H := Eq.mp (if_pos hc) H
    exact pu_ret rfl rfl ⟨rfl, H⟩
  · replace H := Eq.mp (if_neg hc) H
    refine pu_go 1 (pc' := 10) (ls' := [.ref v0, .int v1, .int v2, .int v3]) (st' := [.ref v0]) (M' := M) rfl ?_
    refine pu_getf (j := 3) (w := .ref (v0 + 3)) rfl (pu_L_o hv0) (Nat.lt_trans (pu_L_lt hv0) (by decide)) rfl (by decide) rfl rfl ?_
    refine pu_go 1 (pc' := 14) (ls' := [.ref v0, .int v1, .int v2, .int v3]) (st' := [.ref v0, .ref (v0 + 3)]) (M' := M) rfl ?_
    refine pu_getf (j := 7) (w := .int (M v0 7)) rfl (pu_L_o hv0) (Nat.lt_trans (pu_L_lt hv0) (by decide)) rfl (by decide) rfl rfl ?_
    refine pu_go 1 (pc' := 18) (ls' := [.ref v0, .int v1, .int v2, .int v3]) (st' := [.int v1, .int (M v0 7), .ref (v0 + 3)]) (M' := M) rfl ?_
    obtain ⟨hb1, H⟩ := H
    refine pu_iast rfl (pu_L_3 hv0) (pu_L_l3 hv0) hb1 ?_
    refine pu_go 1 (pc' := 20) (ls' := [.ref v0, .int v1, .int v2, .int v3]) (st' := [.ref v0]) (M' := pu_wr M (v0 + 3) (M v0 7 : Int32).toNatClampNeg v1) rfl ?_
    refine pu_getf (j := 4) (w := .ref (v0 + 4)) rfl (pu_L_o hv0) (Nat.lt_trans (pu_L_lt hv0) (by decide)) rfl (by decide) rfl rfl ?_
    refine pu_go 1 (pc' := 24) (ls' := [.ref v0, .int v1, .int v2, .int v3]) (st' := [.ref v0, .ref (v0 + 4)]) (M' := pu_wr M (v0 + 3) (M v0 7 : Int32).toNatClampNeg v1) rfl ?_
    refine pu_getf (j := 7) (w := .int ((pu_wr M (v0 + 3) (M v0 7 : Int32).toNatClampNeg v1) v0 7)) rfl (pu_L_o hv0) (Nat.lt_trans (pu_L_lt hv0) (by decide)) rfl (by decide) rfl rfl ?_
    refine pu_go 1 (pc' := 28) (ls' := [.ref v0, .int v1, .int v2, .int v3]) (st' := [.int v2, .int ((pu_wr M (v0 + 3) (M v0 7 : Int32).toNatClampNeg v1) v0 7), .ref (v0 + 4)]) (M' := pu_wr M (v0 + 3) (M v0 7 : Int32).toNatClampNeg v1) rfl ?_
    obtain ⟨hb2, H⟩ := H
    refine pu_iast rfl (pu_L_4 hv0) (pu_L_l4 hv0) hb2 ?_
    refine pu_go 1 (pc' := 30) (ls' := [.ref v0, .int v1, .int v2, .int v3]) (st' := [.ref v0]) (M' := pu_wr (pu_wr M (v0 + 3) (M v0 7 : Int32).toNatClampNeg v1) (v0 + 4) ((pu_wr M (v0 + 3) (M v0 7 : Int32).toNatClampNeg v1) v0 7 : Int32).toNatClampNeg v2) rfl ?_
    refine pu_getf (j := 5) (w := .ref (v0 + 5)) rfl (pu_L_o hv0) (Nat.lt_trans (pu_L_lt hv0) (by decide)) rfl (by decide) rfl rfl ?_
    refine pu_go 1 (pc' := 34) (ls' := [.ref v0, .int v1, .int v2, .int v3]) (st' := [.ref v0, .ref (v0 + 5)]) (M' := pu_wr (pu_wr M (v0 + 3) (M v0 7 : Int32).toNatClampNeg v1) (v0 + 4) ((pu_wr M (v0 + 3) (M v0 7 : Int32).toNatClampNeg v1) v0 7 : Int32).toNatClampNeg v2) rfl ?_
    refine pu_getf (j := 7) (w := .int ((pu_wr (pu_wr M (v0 + 3) (M v0 7 : Int32).toNatClampNeg v1) (v0 + 4) ((pu_wr M (v0 + 3) (M v0 7 : Int32).toNatClampNeg v1) v0 7 : Int32).toNatClampNeg v2) v0 7)) rfl (pu_L_o hv0) (Nat.lt_trans (pu_L_lt hv0) (by decide)) rfl (by decide) rfl rfl ?_
    refine pu_go 1 (pc' := 38) (ls' := [.ref v0, .int v1, .int v2, .int v3]) (st' := [.int v3, .int ((pu_wr (pu_wr M (v0 + 3) (M v0 7 : Int32).toNatClampNeg v1) (v0 + 4) ((pu_wr M (v0 + 3) (M v0 7 : Int32).toNatClampNeg v1) v0 7 : Int32).toNatClampNeg v2) v0 7), .ref (v0 + 5)]) (M' := pu_wr (pu_wr M (v0 + 3) (M v0 7 : Int32).toNatClampNeg v1) (v0 + 4) ((pu_wr M (v0 + 3) (M v0 7 : Int32).toNatClampNeg v1) v0 7 : Int32).toNatClampNeg v2) rfl ?_
    obtain ⟨hb3, H⟩ := H
    refine pu_iast rfl (pu_L_5 hv0) (pu_L_l5 hv0) hb3 ?_
    refine pu_named (fun M4 eM5 => ?_)
    replace H := H M4 eM5
    refine pu_go 1 (pc' := 40) (ls' := [.ref v0, .int v1, .int v2, .int v3]) (st' := [.ref v0]) (M' := M4) rfl ?_
    refine pu_getf (j := 6) (w := .ref (v0 + 6)) rfl (pu_L_o hv0) (Nat.lt_trans (pu_L_lt hv0) (by decide)) rfl (by decide) rfl rfl ?_
    refine pu_go 1 (pc' := 44) (ls' := [.ref v0, .int v1, .int v2, .int v3]) (st' := [.ref v0, .ref (v0 + 6)]) (M' := M4) rfl ?_
    refine pu_getf (j := 7) (w := .int (M4 v0 7)) rfl (pu_L_o hv0) (Nat.lt_trans (pu_L_lt hv0) (by decide)) rfl (by decide) rfl rfl ?_
    refine pu_go 1 (pc' := 48) (ls' := [.ref v0, .int v1, .int v2, .int v3]) (st' := [.ref v0, .int (M4 v0 7), .ref (v0 + 6)]) (M' := M4) rfl ?_
    refine pu_getf (j := 2) (w := .int (M4 v0 2)) rfl (pu_L_o hv0) (Nat.lt_trans (pu_L_lt hv0) (by decide)) rfl (by decide) rfl rfl ?_
    obtain ⟨hb6, H⟩ := H
    refine pu_iast rfl (pu_L_6 hv0) (pu_L_l6 hv0) hb6 ?_
    refine pu_go 2 (pc' := 54) (ls' := [.ref v0, .int v1, .int v2, .int v3]) (st' := [.ref v0, .ref v0]) (M' := pu_wr M4 (v0 + 6) (M4 v0 7 : Int32).toNatClampNeg (M4 v0 2)) rfl ?_
    refine pu_getf (j := 7) (w := .int ((pu_wr M4 (v0 + 6) (M4 v0 7 : Int32).toNatClampNeg (M4 v0 2)) v0 7)) rfl (pu_L_o hv0) (Nat.lt_trans (pu_L_lt hv0) (by decide)) rfl (by decide) rfl rfl ?_
    refine pu_go 2 (pc' := 59) (ls' := [.ref v0, .int v1, .int v2, .int v3]) (st' := [.int (((pu_wr M4 (v0 + 6) (M4 v0 7 : Int32).toNatClampNeg (M4 v0 2)) v0 7) + 1), .ref v0]) (M' := pu_wr M4 (v0 + 6) (M4 v0 7 : Int32).toNatClampNeg (M4 v0 2)) rfl ?_
    refine pu_putf (j := 7) (z := ((pu_wr M4 (v0 + 6) (M4 v0 7 : Int32).toNatClampNeg (M4 v0 2)) v0 7) + 1) rfl (pu_L_o hv0) (Nat.lt_trans (pu_L_lt hv0) (by decide)) rfl (by decide) rfl rfl pu_put_hw ?_
    exact pu_ret rfl rfl ⟨rfl, H⟩
/-! Law_ask (II)I -/
set_option maxRecDepth 20000 in
theorem r_Law_ask_77 {L d : Nat} {M : pu_M} {Q : Int32 → pu_M → Prop} {v0 : Nat} (hv0 : pu_isL v0) {v1 : Int32} {v2 : Int32} {v3 : Int32} (H : (if (0 : Int32) = 0 then Q 0 M else pu_I L (d + 3) 155 [.int (M (v0 + 8) (0 : Int32).toNatClampNeg), .int 0, .int v2] M (fun x2 M1 => Q x2 M1))) : pu_R L (d + 4) 39 77 [.ref v0, .int v1, .int v2, .int v3, mq_un] [] M (pu_qI Q) := by
  refine pu_go 3 (pc' := 82) (ls' := [.ref v0, .int v1, .int v2, .int v3, .int 0]) (st' := [.int 0]) (M' := M) rfl ?_
  refine pu_if_eq rfl (fun hc => ?_) (fun hc => ?_)
  · replace H := Eq.mp (if_pos hc) H
    refine pu_go 1 (pc' := 100) (ls' := [.ref v0, .int v1, .int v2, .int v3, .int 0]) (st' := [.int 0]) (M' := M) rfl ?_
    exact pu_ret rfl rfl ⟨_, rfl, H⟩
  · replace H := Eq.mp (if_neg hc) H
    refine pu_go 1 (pc' := 86) (ls' := [.ref v0, .int v1, .int v2, .int v3, .int 0]) (st' := [.ref v0]) (M' := M) rfl ?_
    refine pu_getf (j := 9) (w := .ref (v0 + 8)) rfl (pu_L_o hv0) (Nat.lt_trans (pu_L_lt hv0) (by decide)) rfl (by decide) rfl rfl ?_
    refine pu_go 1 (pc' := 90) (ls' := [.ref v0, .int v1, .int v2, .int v3, .int 0]) (st' := [.int 0, .ref (v0 + 8)]) (M' := M) rfl ?_
    refine pu_iald rfl (pu_L_8 hv0) (Or.inl (pu_L_l8 hv0)) rfl ?_
    refine pu_go 2 (pc' := 93) (ls' := [.ref v0, .int v1, .int v2, .int v3, .int 0]) (st' := [.int v2, .int 0, .int (M (v0 + 8) (0 : Int32).toNatClampNeg)]) (M' := M) rfl ?_
    refine pu_callI (m' := 155) (ml := 3) (as := [.int (M (v0 + 8) (0 : Int32).toNatClampNeg), .int 0, .int v2]) (rest := []) rfl rfl rfl (Nat.le_of_ble_eq_true rfl) H (fun x2 M1 H => ?_)
    show pu_R L (d + 4) 39 96 [.ref v0, .int v1, .int v2, .int v3, .int 0] [.int x2] M1 _
    refine pu_go 1 (pc' := 100) (ls' := [.ref v0, .int v1, .int v2, .int v3, .int 0]) (st' := [.int x2]) (M' := M1) rfl ?_
    exact pu_ret rfl rfl ⟨_, rfl, H⟩
set_option maxRecDepth 20000 in
theorem r_Law_ask_2 {L d : Nat} {M : pu_M} {Q : Int32 → pu_M → Prop} {v0 : Nat} (hv0 : pu_isL v0) {v1 : Int32} {v2 : Int32} {v3 : Int32} (H : (if (M v0 7) ≤ v3 then Q 0 M else (mq_inb v3 16 = true ∧ (if (M (v0 + 3) v3.toNatClampNeg) = v1 then (mq_inb v3 16 = true ∧ (mq_inb v3 16 = true ∧ pu_I L (d + 3) 41 [.ref v0, .int (M (v0 + 5) v3.toNatClampNeg), .int (M (v0 + 6) v3.toNatClampNeg)] M (fun x5 M4 => (if x5 = 0 then pu_R L (d + 4) 39 2 [.ref v0, .int v1, .int v2, .int (v3 + 1), mq_un] [] M4 (pu_qI Q) else (if (M4 v0 11) = 0 then pu_R L (d + 4) 39 2 [.ref v0, .int v1, .int v2, .int (v3 + 1), mq_un] [] M4 (pu_qI Q) else (mq_inb v3 16 = true ∧ (mq_inb v3 16 = true ∧ pu_I L (d + 3) 41 [.ref v0, .int (M4 (v0 + 4) v3.toNatClampNeg), .int (M4 (v0 + 5) v3.toNatClampNeg)] M4 (fun x9 M8 => (if x9 = 0 then pu_R L (d + 4) 39 77 [.ref v0, .int v1, .int v2, .int v3, mq_un] [] M8 (pu_qI Q) else (if (M8 v0 10) = 1 then (if (1 : Int32) = 0 then Q 0 M8 else pu_I L (d + 3) 155 [.int (M8 (v0 + 8) (0 : Int32).toNatClampNeg), .int 0, .int v2] M8 (fun x11 M10 => Q x11 M10)) else pu_R L (d + 4) 39 77 [.ref v0, .int v1, .int v2, .int v3, mq_un] [] M8 (pu_qI Q))))))))))) else pu_R L (d + 4) 39 2 [.ref v0, .int v1, .int v2, .int (v3 + 1), mq_un] [] M (pu_qI Q))))) : pu_R L (d + 4) 39 2 [.ref v0, .int v1, .int v2, .int v3, mq_un] [] M (pu_qI Q) := by
  refine pu_go 2 (pc' := 4) (ls' := [.ref v0, .int v1, .int v2, .int v3, mq_un]) (st' := [.ref v0, .int v3]) (M' := M) rfl ?_
  refine pu_getf (j := 7) (w := .int (M v0 7)) rfl (pu_L_o hv0) (Nat.lt_trans (pu_L_lt hv0) (by decide)) rfl (by decide) rfl rfl ?_
  refine pu_icmp_ge rfl (fun hc => ?_) (fun hc => ?_)
  · replace H := Eq.mp (if_pos hc) H
    refine pu_go 1 (pc' := 108) (ls' := [.ref v0, .int v1, .int v2, .int v3, mq_un]) (st' := [.int 0]) (M' := M) rfl ?_
    exact pu_ret rfl rfl ⟨_, rfl, H⟩
  · replace H := Eq.mp (if_neg hc) H
    refine pu_go 1 (pc' := 11) (ls' := [.ref v0, .int v1, .int v2, .int v3, mq_un]) (st' := [.ref v0]) (M' := M) rfl ?_
    refine pu_getf (j := 3) (w := .ref (v0 + 3)) rfl (pu_L_o hv0) (Nat.lt_trans (pu_L_lt hv0) (by decide)) rfl (by decide) rfl rfl ?_
    refine pu_go 1 (pc' := 15) (ls' := [.ref v0, .int v1, .int v2, .int v3, mq_un]) (st' := [.int v3, .ref (v0 + 3)]) (M' := M) rfl ?_
    obtain ⟨hb1, H⟩ := H
    refine pu_iald rfl (pu_L_3 hv0) (Or.inl (pu_L_l3 hv0)) hb1 ?_
    refine pu_go 1 (pc' := 17) (ls' := [.ref v0, .int v1, .int v2, .int v3, mq_un]) (st' := [.int v1, .int (M (v0 + 3) v3.toNatClampNeg)]) (M' := M) rfl ?_
    refine pu_icmp_ne rfl (fun hc => ?_) (fun hc => ?_)
    · replace H := Eq.mp (if_neg hc) H
      refine pu_go 2 (pc' := 2) (ls' := [.ref v0, .int v1, .int v2, .int (v3 + 1), mq_un]) (st' := []) (M' := M) rfl ?_
      exact H
    · replace H := Eq.mp (if_pos hc) H
      refine pu_go 2 (pc' := 22) (ls' := [.ref v0, .int v1, .int v2, .int v3, mq_un]) (st' := [.ref v0, .ref v0]) (M' := M) rfl ?_
      refine pu_getf (j := 5) (w := .ref (v0 + 5)) rfl (pu_L_o hv0) (Nat.lt_trans (pu_L_lt hv0) (by decide)) rfl (by decide) rfl rfl ?_
      refine pu_go 1 (pc' := 26) (ls' := [.ref v0, .int v1, .int v2, .int v3, mq_un]) (st' := [.int v3, .ref (v0 + 5), .ref v0]) (M' := M) rfl ?_
      obtain ⟨hb2, H⟩ := H
      refine pu_iald rfl (pu_L_5 hv0) (Or.inl (pu_L_l5 hv0)) hb2 ?_
      refine pu_go 1 (pc' := 28) (ls' := [.ref v0, .int v1, .int v2, .int v3, mq_un]) (st' := [.ref v0, .int (M (v0 + 5) v3.toNatClampNeg), .ref v0]) (M' := M) rfl ?_
      refine pu_getf (j := 6) (w := .ref (v0 + 6)) rfl (pu_L_o hv0) (Nat.lt_trans (pu_L_lt hv0) (by decide)) rfl (by decide) rfl rfl ?_
      refine pu_go 1 (pc' := 32) (ls' := [.ref v0, .int v1, .int v2, .int v3, mq_un]) (st' := [.int v3, .ref (v0 + 6), .int (M (v0 + 5) v3.toNatClampNeg), .ref v0]) (M' := M) rfl ?_
      obtain ⟨hb3, H⟩ := H
      refine pu_iald rfl (pu_L_6 hv0) (Or.inl (pu_L_l6 hv0)) hb3 ?_
      refine pu_callI (m' := 41) (ml := 8) (as := [.ref v0, .int (M (v0 + 5) v3.toNatClampNeg), .int (M (v0 + 6) v3.toNatClampNeg)]) (rest := []) rfl (pu_virt (pu_L_o hv0) (Nat.lt_trans (pu_L_lt hv0) (by decide)) ⟨Nat.le_of_ble_eq_true rfl, Nat.le_of_ble_eq_true rfl⟩ rfl rfl) rfl (Nat.le_of_ble_eq_true rfl) H (fun x5 M4 H => ?_)
      show pu_R L (d + 4) 39 36 [.ref v0, .int v1, .int v2, .int v3, mq_un] [.int x5] M4 _
      refine pu_if_eq rfl (fun hc => ?_) (fun hc => ?_)
      · replace H := Eq.mp (if_pos hc) H
        refine pu_go 2 (pc' := 2) (ls' := [.ref v0, .int v1, .int v2, .int (v3 + 1), mq_un]) (st' := []) (M' := M4) rfl ?_
        exact H
      · replace H := Eq.mp (if_neg hc) H
        refine pu_go 1 (pc' := 40) (ls' := [.ref v0, .int v1, .int v2, .int v3, mq_un]) (st' := [.ref v0]) (M' := M4) rfl ?_
        refine pu_getf (j := 11) (w := .int (M4 v0 11)) rfl (pu_L_o hv0) (Nat.lt_trans (pu_L_lt hv0) (by decide)) rfl (by decide) rfl rfl ?_
        refine pu_if_eq rfl (fun hc => ?_) (fun hc => ?_)
        · replace H := Eq.mp (if_pos hc) H
          refine pu_go 2 (pc' := 2) (ls' := [.ref v0, .int v1, .int v2, .int (v3 + 1), mq_un]) (st' := []) (M' := M4) rfl ?_
          exact H
        · replace H := Eq.mp (if_neg hc) H
          refine pu_go 2 (pc' := 48) (ls' := [.ref v0, .int v1, .int v2, .int v3, mq_un]) (st' := [.ref v0, .ref v0]) (M' := M4) rfl ?_
          refine pu_getf (j := 4) (w := .ref (v0 + 4)) rfl (pu_L_o hv0) (Nat.lt_trans (pu_L_lt hv0) (by decide)) rfl (by decide) rfl rfl ?_
          refine pu_go 1 (pc' := 52) (ls' := [.ref v0, .int v1, .int v2, .int v3, mq_un]) (st' := [.int v3, .ref (v0 + 4), .ref v0]) (M' := M4) rfl ?_
          obtain ⟨hb6, H⟩ := H
          refine pu_iald rfl (pu_L_4 hv0) (Or.inl (pu_L_l4 hv0)) hb6 ?_
          refine pu_go 1 (pc' := 54) (ls' := [.ref v0, .int v1, .int v2, .int v3, mq_un]) (st' := [.ref v0, .int (M4 (v0 + 4) v3.toNatClampNeg), .ref v0]) (M' := M4) rfl ?_
          refine pu_getf (j := 5) (w := .ref (v0 + 5)) rfl (pu_L_o hv0) (Nat.lt_trans (pu_L_lt hv0) (by decide)) rfl (by decide) rfl rfl ?_
          refine pu_go 1 (pc' := 58) (ls' := [.ref v0, .int v1, .int v2, .int v3, mq_un]) (st' := [.int v3, .ref (v0 + 5), .int (M4 (v0 + 4) v3.toNatClampNeg), .ref v0]) (M' := M4) rfl ?_
          obtain ⟨hb7, H⟩ := H
          refine pu_iald rfl (pu_L_5 hv0) (Or.inl (pu_L_l5 hv0)) hb7 ?_
          refine pu_callI (m' := 41) (ml := 8) (as := [.ref v0, .int (M4 (v0 + 4) v3.toNatClampNeg), .int (M4 (v0 + 5) v3.toNatClampNeg)]) (rest := []) rfl (pu_virt (pu_L_o hv0) (Nat.lt_trans (pu_L_lt hv0) (by decide)) ⟨Nat.le_of_ble_eq_true rfl, Nat.le_of_ble_eq_true rfl⟩ rfl rfl) rfl (Nat.le_of_ble_eq_true rfl) H (fun x9 M8 H => ?_)
          show pu_R L (d + 4) 39 62 [.ref v0, .int v1, .int v2, .int v3, mq_un] [.int x9] M8 _
          refine pu_if_eq rfl (fun hc => ?_) (fun hc => ?_)
          · replace H := Eq.mp (if_pos hc) H
            exact H
          · replace H := Eq.mp (if_neg hc) H
            refine pu_go 1 (pc' := 66) (ls' := [.ref v0, .int v1, .int v2, .int v3, mq_un]) (st' := [.ref v0]) (M' := M8) rfl ?_
            refine pu_getf (j := 10) (w := .int (M8 v0 10)) rfl (pu_L_o hv0) (Nat.lt_trans (pu_L_lt hv0) (by decide)) rfl (by decide) rfl rfl ?_
            refine pu_go 1 (pc' := 70) (ls' := [.ref v0, .int v1, .int v2, .int v3, mq_un]) (st' := [.int 1, .int (M8 v0 10)]) (M' := M8) rfl ?_
            refine pu_icmp_ne rfl (fun hc => ?_) (fun hc => ?_)
            · replace H := Eq.mp (if_neg hc) H
              exact H
            · replace H := Eq.mp (if_pos hc) H
              refine pu_go 4 (pc' := 82) (ls' := [.ref v0, .int v1, .int v2, .int v3, .int 1]) (st' := [.int 1]) (M' := M8) rfl ?_
              refine pu_if_eq rfl (fun hc => ?_) (fun hc => ?_)
              · replace H := Eq.mp (if_pos hc) H
                refine pu_go 1 (pc' := 100) (ls' := [.ref v0, .int v1, .int v2, .int v3, .int 1]) (st' := [.int 0]) (M' := M8) rfl ?_
                exact pu_ret rfl rfl ⟨_, rfl, H⟩
              · replace H := Eq.mp (if_neg hc) H
                refine pu_go 1 (pc' := 86) (ls' := [.ref v0, .int v1, .int v2, .int v3, .int 1]) (st' := [.ref v0]) (M' := M8) rfl ?_
                refine pu_getf (j := 9) (w := .ref (v0 + 8)) rfl (pu_L_o hv0) (Nat.lt_trans (pu_L_lt hv0) (by decide)) rfl (by decide) rfl rfl ?_
                refine pu_go 1 (pc' := 90) (ls' := [.ref v0, .int v1, .int v2, .int v3, .int 1]) (st' := [.int 0, .ref (v0 + 8)]) (M' := M8) rfl ?_
                refine pu_iald rfl (pu_L_8 hv0) (Or.inl (pu_L_l8 hv0)) rfl ?_
                refine pu_go 2 (pc' := 93) (ls' := [.ref v0, .int v1, .int v2, .int v3, .int 1]) (st' := [.int v2, .int 0, .int (M8 (v0 + 8) (0 : Int32).toNatClampNeg)]) (M' := M8) rfl ?_
                refine pu_callI (m' := 155) (ml := 3) (as := [.int (M8 (v0 + 8) (0 : Int32).toNatClampNeg), .int 0, .int v2]) (rest := []) rfl rfl rfl (Nat.le_of_ble_eq_true rfl) H (fun x11 M10 H => ?_)
                show pu_R L (d + 4) 39 96 [.ref v0, .int v1, .int v2, .int v3, .int 1] [.int x11] M10 _
                refine pu_go 1 (pc' := 100) (ls' := [.ref v0, .int v1, .int v2, .int v3, .int 1]) (st' := [.int x11]) (M' := M10) rfl ?_
                exact pu_ret rfl rfl ⟨_, rfl, H⟩
set_option maxRecDepth 20000 in
theorem r_Law_ask {L d : Nat} {M : pu_M} {Q : Int32 → pu_M → Prop} {v0 : Nat} (hv0 : pu_isL v0) {v1 : Int32} {v2 : Int32} (H : pu_R L (d + 4) 39 2 [.ref v0, .int v1, .int v2, .int 0, mq_un] [] M (pu_qI Q)) : pu_I L (d + 4) 39 [.ref v0, .int v1, .int v2] M Q := by
  show pu_R L (d + 4) 39 0 [.ref v0, .int v1, .int v2, mq_un, mq_un] [] M (pu_qI Q)
  refine pu_go 2 (pc' := 2) (ls' := [.ref v0, .int v1, .int v2, .int 0, mq_un]) (st' := []) (M' := M) rfl ?_
  exact H
/-! Law_keepsSilent ()Z -/
set_option maxRecDepth 20000 in
theorem r_Law_keepsSilent_2 {L d : Nat} {M : pu_M} {Q : Int32 → pu_M → Prop} {v0 : Nat} (hv0 : pu_isL v0) {v1 : Int32} (H : (if (M v0 7) ≤ v1 then Q 0 M else (mq_inb v1 16 = true ∧ (if (M (v0 + 3) v1.toNatClampNeg) = 113 then (mq_inb v1 16 = true ∧ (mq_inb v1 16 = true ∧ pu_I L (d + 3) 41 [.ref v0, .int (M (v0 + 5) v1.toNatClampNeg), .int (M (v0 + 6) v1.toNatClampNeg)] M (fun x5 M4 => (if x5 = 0 then pu_R L (d + 4) 40 2 [.ref v0, .int (v1 + 1)] [] M4 (pu_qI Q) else (if (M4 v0 11) = 0 then pu_R L (d + 4) 40 2 [.ref v0, .int (v1 + 1)] [] M4 (pu_qI Q) else Q 1 M4))))) else pu_R L (d + 4) 40 2 [.ref v0, .int (v1 + 1)] [] M (pu_qI Q))))) : pu_R L (d + 4) 40 2 [.ref v0, .int v1] [] M (pu_qI Q) := by
  refine pu_go 2 (pc' := 4) (ls' := [.ref v0, .int v1]) (st' := [.ref v0, .int v1]) (M' := M) rfl ?_
  refine pu_getf (j := 7) (w := .int (M v0 7)) rfl (pu_L_o hv0) (Nat.lt_trans (pu_L_lt hv0) (by decide)) rfl (by decide) rfl rfl ?_
  refine pu_icmp_ge rfl (fun hc => ?_) (fun hc => ?_)
  · replace H := Eq.mp (if_pos hc) H
    refine pu_go 1 (pc' := 56) (ls' := [.ref v0, .int v1]) (st' := [.int 0]) (M' := M) rfl ?_
    exact pu_ret rfl rfl ⟨_, rfl, H⟩
  · replace H := Eq.mp (if_neg hc) H
    refine pu_go 1 (pc' := 11) (ls' := [.ref v0, .int v1]) (st' := [.ref v0]) (M' := M) rfl ?_
    refine pu_getf (j := 3) (w := .ref (v0 + 3)) rfl (pu_L_o hv0) (Nat.lt_trans (pu_L_lt hv0) (by decide)) rfl (by decide) rfl rfl ?_
    refine pu_go 1 (pc' := 15) (ls' := [.ref v0, .int v1]) (st' := [.int v1, .ref (v0 + 3)]) (M' := M) rfl ?_
    obtain ⟨hb1, H⟩ := H
    refine pu_iald rfl (pu_L_3 hv0) (Or.inl (pu_L_l3 hv0)) hb1 ?_
    refine pu_go 1 (pc' := 18) (ls' := [.ref v0, .int v1]) (st' := [.int 113, .int (M (v0 + 3) v1.toNatClampNeg)]) (M' := M) rfl ?_
    refine pu_icmp_ne rfl (fun hc => ?_) (fun hc => ?_)
    · replace H := Eq.mp (if_neg hc) H
      refine pu_go 2 (pc' := 2) (ls' := [.ref v0, .int (v1 + 1)]) (st' := []) (M' := M) rfl ?_
      exact H
    · replace H := Eq.mp (if_pos hc) H
      refine pu_go 2 (pc' := 23) (ls' := [.ref v0, .int v1]) (st' := [.ref v0, .ref v0]) (M' := M) rfl ?_
      refine pu_getf (j := 5) (w := .ref (v0 + 5)) rfl (pu_L_o hv0) (Nat.lt_trans (pu_L_lt hv0) (by decide)) rfl (by decide) rfl rfl ?_
      refine pu_go 1 (pc' := 27) (ls' := [.ref v0, .int v1]) (st' := [.int v1, .ref (v0 + 5), .ref v0]) (M' := M) rfl ?_
      obtain ⟨hb2, H⟩ := H
      refine pu_iald rfl (pu_L_5 hv0) (Or.inl (pu_L_l5 hv0)) hb2 ?_
      refine pu_go 1 (pc' := 29) (ls' := [.ref v0, .int v1]) (st' := [.ref v0, .int (M (v0 + 5) v1.toNatClampNeg), .ref v0]) (M' := M) rfl ?_
      refine pu_getf (j := 6) (w := .ref (v0 + 6)) rfl (pu_L_o hv0) (Nat.lt_trans (pu_L_lt hv0) (by decide)) rfl (by decide) rfl rfl ?_
      refine pu_go 1 (pc' := 33) (ls' := [.ref v0, .int v1]) (st' := [.int v1, .ref (v0 + 6), .int (M (v0 + 5) v1.toNatClampNeg), .ref v0]) (M' := M) rfl ?_
      obtain ⟨hb3, H⟩ := H
      refine pu_iald rfl (pu_L_6 hv0) (Or.inl (pu_L_l6 hv0)) hb3 ?_
      refine pu_callI (m' := 41) (ml := 8) (as := [.ref v0, .int (M (v0 + 5) v1.toNatClampNeg), .int (M (v0 + 6) v1.toNatClampNeg)]) (rest := []) rfl (pu_virt (pu_L_o hv0) (Nat.lt_trans (pu_L_lt hv0) (by decide)) ⟨Nat.le_of_ble_eq_true rfl, Nat.le_of_ble_eq_true rfl⟩ rfl rfl) rfl (Nat.le_of_ble_eq_true rfl) H (fun x5 M4 H => ?_)
      show pu_R L (d + 4) 40 37 [.ref v0, .int v1] [.int x5] M4 _
      refine pu_if_eq rfl (fun hc => ?_) (fun hc => ?_)
      · replace H := Eq.mp (if_pos hc) H
        refine pu_go 2 (pc' := 2) (ls' := [.ref v0, .int (v1 + 1)]) (st' := []) (M' := M4) rfl ?_
        exact H
      · replace H := Eq.mp (if_neg hc) H
        refine pu_go 1 (pc' := 41) (ls' := [.ref v0, .int v1]) (st' := [.ref v0]) (M' := M4) rfl ?_
        refine pu_getf (j := 11) (w := .int (M4 v0 11)) rfl (pu_L_o hv0) (Nat.lt_trans (pu_L_lt hv0) (by decide)) rfl (by decide) rfl rfl ?_
        refine pu_if_eq rfl (fun hc => ?_) (fun hc => ?_)
        · replace H := Eq.mp (if_pos hc) H
          refine pu_go 2 (pc' := 2) (ls' := [.ref v0, .int (v1 + 1)]) (st' := []) (M' := M4) rfl ?_
          exact H
        · replace H := Eq.mp (if_neg hc) H
          refine pu_go 1 (pc' := 48) (ls' := [.ref v0, .int v1]) (st' := [.int 1]) (M' := M4) rfl ?_
          exact pu_ret rfl rfl ⟨_, rfl, H⟩
set_option maxRecDepth 20000 in
theorem r_Law_keepsSilent {L d : Nat} {M : pu_M} {Q : Int32 → pu_M → Prop} {v0 : Nat} (hv0 : pu_isL v0) (H : pu_R L (d + 4) 40 2 [.ref v0, .int 0] [] M (pu_qI Q)) : pu_I L (d + 4) 40 [.ref v0] M Q := by
  show pu_R L (d + 4) 40 0 [.ref v0, mq_un] [] M (pu_qI Q)
  refine pu_go 2 (pc' := 2) (ls' := [.ref v0, .int 0]) (st' := []) (M' := M) rfl ?_
  exact H
/-! Law_run (II)Z -/
set_option maxRecDepth 20000 in
theorem r_Law_run_86 {L d : Nat} {M : pu_M} {Q : Int32 → pu_M → Prop} {v0 : Nat} (hv0 : pu_isL v0) {v1 : Int32} {v2 : Int32} {v3 : Int32} {v4 : Int32} {v5 : Int32} {v6 : Int32} {v7 : Value} {s0 : Int32} (H : (if s0 = 0 then pu_I L (d + 2) 42 [.ref v0, .int v5, .int v6] M (fun x2 M1 => (if x2 = 0 then Q 0 M1 else pu_R L (d + 3) 41 15 [.ref v0, .int v1, .int v2, .int (v3 + 1), .int (v4 + 1), .int v5, .int v6, .int s0] [] M1 (pu_qI Q))) else pu_I L (d + 2) 42 [.ref v0, .int v5, .int v6] M (fun x4 M3 => (if x4 = 0 then Q 0 M3 else pu_R L (d + 3) 41 15 [.ref v0, .int v1, .int v2, .int v6, .int (v4 + 1), .int v5, .int v6, .int s0] [] M3 (pu_qI Q))))) : pu_R L (d + 3) 41 86 [.ref v0, .int v1, .int v2, .int v3, .int v4, .int v5, .int v6, v7] [.int s0] M (pu_qI Q) := by
  refine pu_go 2 (pc' := 90) (ls' := [.ref v0, .int v1, .int v2, .int v3, .int v4, .int v5, .int v6, .int s0]) (st' := [.int s0]) (M' := M) rfl ?_
  refine pu_if_eq rfl (fun hc => ?_) (fun hc => ?_)
  · replace H := Eq.mp (if_pos hc) H
    refine pu_go 7 (pc' := 107) (ls' := [.ref v0, .int v1, .int v2, .int (v3 + 1), .int v4, .int v5, .int v6, .int s0]) (st' := [.int v6, .int v5, .ref v0]) (M' := M) rfl ?_
    refine pu_callI (m' := 42) (ml := 3) (as := [.ref v0, .int v5, .int v6]) (rest := []) rfl (pu_virt (pu_L_o hv0) (Nat.lt_trans (pu_L_lt hv0) (by decide)) ⟨Nat.le_of_ble_eq_true rfl, Nat.le_of_ble_eq_true rfl⟩ rfl rfl) rfl (Nat.le_of_ble_eq_true rfl) H (fun x2 M1 H => ?_)
    show pu_R L (d + 3) 41 110 [.ref v0, .int v1, .int v2, .int (v3 + 1), .int v4, .int v5, .int v6, .int s0] [.int x2] M1 _
    refine pu_if_ne rfl (fun hc => ?_) (fun hc => ?_)
    · replace H := Eq.mp (if_neg hc) H
      refine pu_go 2 (pc' := 15) (ls' := [.ref v0, .int v1, .int v2, .int (v3 + 1), .int (v4 + 1), .int v5, .int v6, .int s0]) (st' := []) (M' := M1) rfl ?_
      exact H
    · replace H := Eq.mp (if_pos hc) H
      refine pu_go 1 (pc' := 114) (ls' := [.ref v0, .int v1, .int v2, .int (v3 + 1), .int v4, .int v5, .int v6, .int s0]) (st' := [.int 0]) (M' := M1) rfl ?_
      exact pu_ret rfl rfl ⟨_, rfl, H⟩
  · replace H := Eq.mp (if_neg hc) H
    refine pu_go 6 (pc' := 107) (ls' := [.ref v0, .int v1, .int v2, .int v6, .int v4, .int v5, .int v6, .int s0]) (st' := [.int v6, .int v5, .ref v0]) (M' := M) rfl ?_
    refine pu_callI (m' := 42) (ml := 3) (as := [.ref v0, .int v5, .int v6]) (rest := []) rfl (pu_virt (pu_L_o hv0) (Nat.lt_trans (pu_L_lt hv0) (by decide)) ⟨Nat.le_of_ble_eq_true rfl, Nat.le_of_ble_eq_true rfl⟩ rfl rfl) rfl (Nat.le_of_ble_eq_true rfl) H (fun x4 M3 H => ?_)
    show pu_R L (d + 3) 41 110 [.ref v0, .int v1, .int v2, .int v6, .int v4, .int v5, .int v6, .int s0] [.int x4] M3 _
    refine pu_if_ne rfl (fun hc => ?_) (fun hc => ?_)
    · replace H := Eq.mp (if_neg hc) H
      refine pu_go 2 (pc' := 15) (ls' := [.ref v0, .int v1, .int v2, .int v6, .int (v4 + 1), .int v5, .int v6, .int s0]) (st' := []) (M' := M3) rfl ?_
      exact H
    · replace H := Eq.mp (if_pos hc) H
      refine pu_go 1 (pc' := 114) (ls' := [.ref v0, .int v1, .int v2, .int v6, .int v4, .int v5, .int v6, .int s0]) (st' := [.int 0]) (M' := M3) rfl ?_
      exact pu_ret rfl rfl ⟨_, rfl, H⟩
set_option maxRecDepth 20000 in
theorem r_Law_run_15 {L d : Nat} {M : pu_M} {Q : Int32 → pu_M → Prop} {v0 : Nat} (hv0 : pu_isL v0) {v1 : Int32} {v2 : Int32} {v3 : Int32} {v4 : Int32} {v5 : Value} {v6 : Value} {v7 : Value} (H : (if 240 ≤ v4 then Q 1 M else (if v3 < 0 then Q 1 M else (if v2 ≤ v3 then Q 1 M else (if 240 ≤ v3 then Q 1 M else (mq_inb v3 240 = true ∧ (mq_inb v3 240 = true ∧ (if (M (v0 + 1) v3.toNatClampNeg) = 3 then (if (M v0 11) = 0 then (if (M (v0 + 1) v3.toNatClampNeg) = 4 then (if (M v0 11) = 0 then pu_R L (d + 3) 41 86 [.ref v0, .int v1, .int v2, .int v3, .int v4, .int (M (v0 + 1) v3.toNatClampNeg), .int (M (v0 + 2) v3.toNatClampNeg), v7] [.int 1] M (pu_qI Q) else pu_R L (d + 3) 41 86 [.ref v0, .int v1, .int v2, .int v3, .int v4, .int (M (v0 + 1) v3.toNatClampNeg), .int (M (v0 + 2) v3.toNatClampNeg), v7] [.int 0] M (pu_qI Q)) else pu_R L (d + 3) 41 86 [.ref v0, .int v1, .int v2, .int v3, .int v4, .int (M (v0 + 1) v3.toNatClampNeg), .int (M (v0 + 2) v3.toNatClampNeg), v7] [.int 0] M (pu_qI Q)) else pu_R L (d + 3) 41 86 [.ref v0, .int v1, .int v2, .int v3, .int v4, .int (M (v0 + 1) v3.toNatClampNeg), .int (M (v0 + 2) v3.toNatClampNeg), v7] [.int 1] M (pu_qI Q)) else (if (M (v0 + 1) v3.toNatClampNeg) = 4 then (if (M v0 11) = 0 then pu_R L (d + 3) 41 86 [.ref v0, .int v1, .int v2, .int v3, .int v4, .int (M (v0 + 1) v3.toNatClampNeg), .int (M (v0 + 2) v3.toNatClampNeg), v7] [.int 1] M (pu_qI Q) else pu_R L (d + 3) 41 86 [.ref v0, .int v1, .int v2, .int v3, .int v4, .int (M (v0 + 1) v3.toNatClampNeg), .int (M (v0 + 2) v3.toNatClampNeg), v7] [.int 0] M (pu_qI Q)) else pu_R L (d + 3) 41 86 [.ref v0, .int v1, .int v2, .int v3, .int v4, .int (M (v0 + 1) v3.toNatClampNeg), .int (M (v0 + 2) v3.toNatClampNeg), v7] [.int 0] M (pu_qI Q)))))))))) : pu_R L (d + 3) 41 15 [.ref v0, .int v1, .int v2, .int v3, .int v4, v5, v6, v7] [] M (pu_qI Q) := by
  refine pu_go 2 (pc' := 20) (ls' := [.ref v0, .int v1, .int v2, .int v3, .int v4, v5, v6, v7]) (st' := [.int 240, .int v4]) (M' := M) rfl ?_
  refine pu_icmp_ge rfl (fun hc => ?_) (fun hc => ?_)
  · replace H := Eq.mp (if_pos hc) H
    refine pu_go 1 (pc' := 122) (ls' := [.ref v0, .int v1, .int v2, .int v3, .int v4, v5, v6, v7]) (st' := [.int 1]) (M' := M) rfl ?_
    exact pu_ret rfl rfl ⟨_, rfl, H⟩
  · replace H := Eq.mp (if_neg hc) H
    refine pu_go 1 (pc' := 24) (ls' := [.ref v0, .int v1, .int v2, .int v3, .int v4, v5, v6, v7]) (st' := [.int v3]) (M' := M) rfl ?_
    refine pu_if_lt rfl (fun hc => ?_) (fun hc => ?_)
    · replace H := Eq.mp (if_pos hc) H
      refine pu_go 1 (pc' := 122) (ls' := [.ref v0, .int v1, .int v2, .int v3, .int v4, v5, v6, v7]) (st' := [.int 1]) (M' := M) rfl ?_
      exact pu_ret rfl rfl ⟨_, rfl, H⟩
    · replace H := Eq.mp (if_neg hc) H
      refine pu_go 2 (pc' := 29) (ls' := [.ref v0, .int v1, .int v2, .int v3, .int v4, v5, v6, v7]) (st' := [.int v2, .int v3]) (M' := M) rfl ?_
      refine pu_icmp_ge rfl (fun hc => ?_) (fun hc => ?_)
      · replace H := Eq.mp (if_pos hc) H
        refine pu_go 1 (pc' := 122) (ls' := [.ref v0, .int v1, .int v2, .int v3, .int v4, v5, v6, v7]) (st' := [.int 1]) (M' := M) rfl ?_
        exact pu_ret rfl rfl ⟨_, rfl, H⟩
      · replace H := Eq.mp (if_neg hc) H
        refine pu_go 2 (pc' := 36) (ls' := [.ref v0, .int v1, .int v2, .int v3, .int v4, v5, v6, v7]) (st' := [.int 240, .int v3]) (M' := M) rfl ?_
        refine pu_icmp_ge rfl (fun hc => ?_) (fun hc => ?_)
        · replace H := Eq.mp (if_pos hc) H
          refine pu_go 1 (pc' := 122) (ls' := [.ref v0, .int v1, .int v2, .int v3, .int v4, v5, v6, v7]) (st' := [.int 1]) (M' := M) rfl ?_
          exact pu_ret rfl rfl ⟨_, rfl, H⟩
        · replace H := Eq.mp (if_neg hc) H
          refine pu_go 1 (pc' := 40) (ls' := [.ref v0, .int v1, .int v2, .int v3, .int v4, v5, v6, v7]) (st' := [.ref v0]) (M' := M) rfl ?_
          refine pu_getf (j := 0) (w := .ref (v0 + 1)) rfl (pu_L_o hv0) (Nat.lt_trans (pu_L_lt hv0) (by decide)) rfl (by decide) rfl rfl ?_
          refine pu_go 1 (pc' := 44) (ls' := [.ref v0, .int v1, .int v2, .int v3, .int v4, v5, v6, v7]) (st' := [.int v3, .ref (v0 + 1)]) (M' := M) rfl ?_
          obtain ⟨hb1, H⟩ := H
          refine pu_iald rfl (pu_L_1 hv0) (Or.inl (pu_L_l1 hv0)) hb1 ?_
          refine pu_go 2 (pc' := 48) (ls' := [.ref v0, .int v1, .int v2, .int v3, .int v4, .int (M (v0 + 1) v3.toNatClampNeg), v6, v7]) (st' := [.ref v0]) (M' := M) rfl ?_
          refine pu_getf (j := 1) (w := .ref (v0 + 2)) rfl (pu_L_o hv0) (Nat.lt_trans (pu_L_lt hv0) (by decide)) rfl (by decide) rfl rfl ?_
          refine pu_go 1 (pc' := 52) (ls' := [.ref v0, .int v1, .int v2, .int v3, .int v4, .int (M (v0 + 1) v3.toNatClampNeg), v6, v7]) (st' := [.int v3, .ref (v0 + 2)]) (M' := M) rfl ?_
          obtain ⟨hb2, H⟩ := H
          refine pu_iald rfl (pu_L_2 hv0) (Or.inl (pu_L_l2 hv0)) hb2 ?_
          refine pu_go 3 (pc' := 58) (ls' := [.ref v0, .int v1, .int v2, .int v3, .int v4, .int (M (v0 + 1) v3.toNatClampNeg), .int (M (v0 + 2) v3.toNatClampNeg), v7]) (st' := [.int 3, .int (M (v0 + 1) v3.toNatClampNeg)]) (M' := M) rfl ?_
          refine pu_icmp_ne rfl (fun hc => ?_) (fun hc => ?_)
          · replace H := Eq.mp (if_neg hc) H
            refine pu_go 2 (pc' := 71) (ls' := [.ref v0, .int v1, .int v2, .int v3, .int v4, .int (M (v0 + 1) v3.toNatClampNeg), .int (M (v0 + 2) v3.toNatClampNeg), v7]) (st' := [.int 4, .int (M (v0 + 1) v3.toNatClampNeg)]) (M' := M) rfl ?_
            refine pu_icmp_ne rfl (fun hc => ?_) (fun hc => ?_)
            · replace H := Eq.mp (if_neg hc) H
              refine pu_go 1 (pc' := 86) (ls' := [.ref v0, .int v1, .int v2, .int v3, .int v4, .int (M (v0 + 1) v3.toNatClampNeg), .int (M (v0 + 2) v3.toNatClampNeg), v7]) (st' := [.int 0]) (M' := M) rfl ?_
              exact H
            · replace H := Eq.mp (if_pos hc) H
              refine pu_go 1 (pc' := 75) (ls' := [.ref v0, .int v1, .int v2, .int v3, .int v4, .int (M (v0 + 1) v3.toNatClampNeg), .int (M (v0 + 2) v3.toNatClampNeg), v7]) (st' := [.ref v0]) (M' := M) rfl ?_
              refine pu_getf (j := 11) (w := .int (M v0 11)) rfl (pu_L_o hv0) (Nat.lt_trans (pu_L_lt hv0) (by decide)) rfl (by decide) rfl rfl ?_
              refine pu_if_ne rfl (fun hc => ?_) (fun hc => ?_)
              · replace H := Eq.mp (if_neg hc) H
                refine pu_go 1 (pc' := 86) (ls' := [.ref v0, .int v1, .int v2, .int v3, .int v4, .int (M (v0 + 1) v3.toNatClampNeg), .int (M (v0 + 2) v3.toNatClampNeg), v7]) (st' := [.int 0]) (M' := M) rfl ?_
                exact H
              · replace H := Eq.mp (if_pos hc) H
                refine pu_go 2 (pc' := 86) (ls' := [.ref v0, .int v1, .int v2, .int v3, .int v4, .int (M (v0 + 1) v3.toNatClampNeg), .int (M (v0 + 2) v3.toNatClampNeg), v7]) (st' := [.int 1]) (M' := M) rfl ?_
                exact H
          · replace H := Eq.mp (if_pos hc) H
            refine pu_go 1 (pc' := 62) (ls' := [.ref v0, .int v1, .int v2, .int v3, .int v4, .int (M (v0 + 1) v3.toNatClampNeg), .int (M (v0 + 2) v3.toNatClampNeg), v7]) (st' := [.ref v0]) (M' := M) rfl ?_
            refine pu_getf (j := 11) (w := .int (M v0 11)) rfl (pu_L_o hv0) (Nat.lt_trans (pu_L_lt hv0) (by decide)) rfl (by decide) rfl rfl ?_
            refine pu_if_ne rfl (fun hc => ?_) (fun hc => ?_)
            · replace H := Eq.mp (if_neg hc) H
              refine pu_go 2 (pc' := 86) (ls' := [.ref v0, .int v1, .int v2, .int v3, .int v4, .int (M (v0 + 1) v3.toNatClampNeg), .int (M (v0 + 2) v3.toNatClampNeg), v7]) (st' := [.int 1]) (M' := M) rfl ?_
              exact H
            · replace H := Eq.mp (if_pos hc) H
              refine pu_go 2 (pc' := 71) (ls' := [.ref v0, .int v1, .int v2, .int v3, .int v4, .int (M (v0 + 1) v3.toNatClampNeg), .int (M (v0 + 2) v3.toNatClampNeg), v7]) (st' := [.int 4, .int (M (v0 + 1) v3.toNatClampNeg)]) (M' := M) rfl ?_
              refine pu_icmp_ne rfl (fun hc => ?_) (fun hc => ?_)
              · replace H := Eq.mp (if_neg hc) H
                refine pu_go 1 (pc' := 86) (ls' := [.ref v0, .int v1, .int v2, .int v3, .int v4, .int (M (v0 + 1) v3.toNatClampNeg), .int (M (v0 + 2) v3.toNatClampNeg), v7]) (st' := [.int 0]) (M' := M) rfl ?_
                exact H
              · replace H := Eq.mp (if_pos hc) H
                refine pu_go 1 (pc' := 75) (ls' := [.ref v0, .int v1, .int v2, .int v3, .int v4, .int (M (v0 + 1) v3.toNatClampNeg), .int (M (v0 + 2) v3.toNatClampNeg), v7]) (st' := [.ref v0]) (M' := M) rfl ?_
                refine pu_getf (j := 11) (w := .int (M v0 11)) rfl (pu_L_o hv0) (Nat.lt_trans (pu_L_lt hv0) (by decide)) rfl (by decide) rfl rfl ?_
                refine pu_if_ne rfl (fun hc => ?_) (fun hc => ?_)
                · replace H := Eq.mp (if_neg hc) H
                  refine pu_go 1 (pc' := 86) (ls' := [.ref v0, .int v1, .int v2, .int v3, .int v4, .int (M (v0 + 1) v3.toNatClampNeg), .int (M (v0 + 2) v3.toNatClampNeg), v7]) (st' := [.int 0]) (M' := M) rfl ?_
                  exact H
                · replace H := Eq.mp (if_pos hc) H
                  refine pu_go 2 (pc' := 86) (ls' := [.ref v0, .int v1, .int v2, .int v3, .int v4, .int (M (v0 + 1) v3.toNatClampNeg), .int (M (v0 + 2) v3.toNatClampNeg), v7]) (st' := [.int 1]) (M' := M) rfl ?_
                  exact H
set_option maxRecDepth 20000 in
theorem r_Law_run {L d : Nat} {M : pu_M} {Q : Int32 → pu_M → Prop} {v0 : Nat} (hv0 : pu_isL v0) {v1 : Int32} {v2 : Int32} (H : pu_R L (d + 3) 41 15 [.ref v0, .int v1, .int v2, .int v1, .int 0, mq_un, mq_un, mq_un] [] (pu_wr (pu_wr M v0 10 0) v0 11 0) (pu_qI Q)) : pu_I L (d + 3) 41 [.ref v0, .int v1, .int v2] M Q := by
  show pu_R L (d + 3) 41 0 [.ref v0, .int v1, .int v2, mq_un, mq_un, mq_un, mq_un, mq_un] [] M (pu_qI Q)
  refine pu_go 2 (pc' := 2) (ls' := [.ref v0, .int v1, .int v2, mq_un, mq_un, mq_un, mq_un, mq_un]) (st' := [.int 0, .ref v0]) (M' := M) rfl ?_
  refine pu_putf (j := 10) (z := 0) rfl (pu_L_o hv0) (Nat.lt_trans (pu_L_lt hv0) (by decide)) rfl (by decide) rfl rfl pu_put_hw ?_
  refine pu_go 2 (pc' := 7) (ls' := [.ref v0, .int v1, .int v2, mq_un, mq_un, mq_un, mq_un, mq_un]) (st' := [.int 0, .ref v0]) (M' := pu_wr M v0 10 0) rfl ?_
  refine pu_putf (j := 11) (z := 0) rfl (pu_L_o hv0) (Nat.lt_trans (pu_L_lt hv0) (by decide)) rfl (by decide) rfl rfl pu_put_hw ?_
  refine pu_go 4 (pc' := 15) (ls' := [.ref v0, .int v1, .int v2, .int v1, .int 0, mq_un, mq_un, mq_un]) (st' := []) (M' := pu_wr (pu_wr M v0 10 0) v0 11 0) rfl ?_
  exact H
/-! Law_take (II)Z -/
set_option maxRecDepth 20000 in
theorem r_Law_take {L d : Nat} {M : pu_M} {Q : Int32 → pu_M → Prop} {v0 : Nat} (hv0 : pu_isL v0) {v1 : Int32} {v2 : Int32} (H : (if v1 = 0 then pu_I L (d + 1) 43 [.ref v0, .int v2] M (fun x5 M4 => ((x5 = 0 ∨ x5 = 1) ∧ Q x5 M4)) else (if v1 = 1 then (if v2 < 0 then pu_I L (d + 1) 43 [.ref v0, .int 0] M (fun x8 M7 => ((x8 = 0 ∨ x8 = 1) ∧ Q x8 M7)) else (if (Int32.ofNat 8) ≤ v2 then pu_I L (d + 1) 43 [.ref v0, .int 0] M (fun x11 M10 => ((x11 = 0 ∨ x11 = 1) ∧ Q x11 M10)) else (mq_inb v2 8 = true ∧ pu_I L (d + 1) 43 [.ref v0, .int (M (v0 + 7) v2.toNatClampNeg)] M (fun x15 M14 => ((x15 = 0 ∨ x15 = 1) ∧ Q x15 M14))))) else (if v1 = 2 then (if (M v0 11) = 0 then Q 1 (pu_wr M v0 11 1) else Q 1 (pu_wr M v0 11 0)) else (if v1 = 3 then Q 1 M else (if v1 = 4 then Q 1 M else pu_I L (d + 1) 44 [.ref v0, .int v1] M (fun x2 M1 => ((x2 = 0 ∨ x2 = 1) ∧ Q x2 M1)))))))) : pu_I L (d + 2) 42 [.ref v0, .int v1, .int v2] M Q := by
  show pu_R L (d + 2) 42 0 [.ref v0, .int v1, .int v2] [] M (pu_qI Q)
  refine pu_go 1 (pc' := 1) (ls' := [.ref v0, .int v1, .int v2]) (st' := [.int v1]) (M' := M) rfl ?_
  skip
  by_cases hs1_0 : v1 = 0
  · replace H := Eq.mp (if_pos hs1_0) H
    refine pu_one (pc' := 36) (ls' := [.ref v0, .int v1, .int v2]) (st' := []) (M' := M) rfl (by rw [hs1_0]; rfl) ?_
    refine pu_go 2 (pc' := 38) (ls' := [.ref v0, .int v1, .int v2]) (st' := [.int v2, .ref v0]) (M' := M) rfl ?_
    refine pu_callI (m' := 43) (ml := 2) (as := [.ref v0, .int v2]) (rest := []) rfl (pu_virt (pu_L_o hv0) (Nat.lt_trans (pu_L_lt hv0) (by decide)) ⟨Nat.le_of_ble_eq_true rfl, Nat.le_of_ble_eq_true rfl⟩ rfl rfl) rfl (Nat.le_of_ble_eq_true rfl) H (fun x5 M4 H => ?_)
    show pu_R L (d + 2) 42 41 [.ref v0, .int v1, .int v2] [.int x5] M4 _
    obtain ⟨hb6, H⟩ := H
    exact pu_retZ rfl hb6 H
  replace H := Eq.mp (if_neg hs1_0) H
  by_cases hs1_1 : v1 = 1
  · replace H := Eq.mp (if_pos hs1_1) H
    refine pu_one (pc' := 42) (ls' := [.ref v0, .int v1, .int v2]) (st' := []) (M' := M) rfl (by rw [hs1_1]; rfl) ?_
    refine pu_go 2 (pc' := 44) (ls' := [.ref v0, .int v1, .int v2]) (st' := [.int v2, .ref v0]) (M' := M) rfl ?_
    refine pu_if_lt rfl (fun hc => ?_) (fun hc => ?_)
    · replace H := Eq.mp (if_pos hc) H
      refine pu_go 1 (pc' := 66) (ls' := [.ref v0, .int v1, .int v2]) (st' := [.int 0, .ref v0]) (M' := M) rfl ?_
      refine pu_callI (m' := 43) (ml := 2) (as := [.ref v0, .int 0]) (rest := []) rfl (pu_virt (pu_L_o hv0) (Nat.lt_trans (pu_L_lt hv0) (by decide)) ⟨Nat.le_of_ble_eq_true rfl, Nat.le_of_ble_eq_true rfl⟩ rfl rfl) rfl (Nat.le_of_ble_eq_true rfl) H (fun x8 M7 H => ?_)
      show pu_R L (d + 2) 42 69 [.ref v0, .int v1, .int v2] [.int x8] M7 _
      obtain ⟨hb9, H⟩ := H
      exact pu_retZ rfl hb9 H
    · replace H := Eq.mp (if_neg hc) H
      refine pu_go 2 (pc' := 49) (ls' := [.ref v0, .int v1, .int v2]) (st' := [.ref v0, .int v2, .ref v0]) (M' := M) rfl ?_
      refine pu_getf (j := 8) (w := .ref (v0 + 7)) rfl (pu_L_o hv0) (Nat.lt_trans (pu_L_lt hv0) (by decide)) rfl (by decide) rfl rfl ?_
      refine pu_alen rfl (pu_L_7 hv0) (Or.inl (pu_L_l7 hv0)) ?_
      refine pu_icmp_ge rfl (fun hc => ?_) (fun hc => ?_)
      · replace H := Eq.mp (if_pos hc) H
        refine pu_go 1 (pc' := 66) (ls' := [.ref v0, .int v1, .int v2]) (st' := [.int 0, .ref v0]) (M' := M) rfl ?_
        refine pu_callI (m' := 43) (ml := 2) (as := [.ref v0, .int 0]) (rest := []) rfl (pu_virt (pu_L_o hv0) (Nat.lt_trans (pu_L_lt hv0) (by decide)) ⟨Nat.le_of_ble_eq_true rfl, Nat.le_of_ble_eq_true rfl⟩ rfl rfl) rfl (Nat.le_of_ble_eq_true rfl) H (fun x11 M10 H => ?_)
        show pu_R L (d + 2) 42 69 [.ref v0, .int v1, .int v2] [.int x11] M10 _
        obtain ⟨hb12, H⟩ := H
        exact pu_retZ rfl hb12 H
      · replace H := Eq.mp (if_neg hc) H
        refine pu_go 1 (pc' := 57) (ls' := [.ref v0, .int v1, .int v2]) (st' := [.ref v0, .ref v0]) (M' := M) rfl ?_
        refine pu_getf (j := 8) (w := .ref (v0 + 7)) rfl (pu_L_o hv0) (Nat.lt_trans (pu_L_lt hv0) (by decide)) rfl (by decide) rfl rfl ?_
        refine pu_go 1 (pc' := 61) (ls' := [.ref v0, .int v1, .int v2]) (st' := [.int v2, .ref (v0 + 7), .ref v0]) (M' := M) rfl ?_
        obtain ⟨hb13, H⟩ := H
        refine pu_iald rfl (pu_L_7 hv0) (Or.inl (pu_L_l7 hv0)) hb13 ?_
        refine pu_go 1 (pc' := 66) (ls' := [.ref v0, .int v1, .int v2]) (st' := [.int (M (v0 + 7) v2.toNatClampNeg), .ref v0]) (M' := M) rfl ?_
        refine pu_callI (m' := 43) (ml := 2) (as := [.ref v0, .int (M (v0 + 7) v2.toNatClampNeg)]) (rest := []) rfl (pu_virt (pu_L_o hv0) (Nat.lt_trans (pu_L_lt hv0) (by decide)) ⟨Nat.le_of_ble_eq_true rfl, Nat.le_of_ble_eq_true rfl⟩ rfl rfl) rfl (Nat.le_of_ble_eq_true rfl) H (fun x15 M14 H => ?_)
        show pu_R L (d + 2) 42 69 [.ref v0, .int v1, .int v2] [.int x15] M14 _
        obtain ⟨hb16, H⟩ := H
        exact pu_retZ rfl hb16 H
  replace H := Eq.mp (if_neg hs1_1) H
  by_cases hs1_2 : v1 = 2
  · replace H := Eq.mp (if_pos hs1_2) H
    refine pu_one (pc' := 70) (ls' := [.ref v0, .int v1, .int v2]) (st' := []) (M' := M) rfl (by rw [hs1_2]; rfl) ?_
    refine pu_go 2 (pc' := 72) (ls' := [.ref v0, .int v1, .int v2]) (st' := [.ref v0, .ref v0]) (M' := M) rfl ?_
    refine pu_getf (j := 11) (w := .int (M v0 11)) rfl (pu_L_o hv0) (Nat.lt_trans (pu_L_lt hv0) (by decide)) rfl (by decide) rfl rfl ?_
    refine pu_if_ne rfl (fun hc => ?_) (fun hc => ?_)
    · replace H := Eq.mp (if_neg hc) H
      refine pu_go 1 (pc' := 83) (ls' := [.ref v0, .int v1, .int v2]) (st' := [.int 0, .ref v0]) (M' := M) rfl ?_
      refine pu_putf (j := 11) (z := 0) rfl (pu_L_o hv0) (Nat.lt_trans (pu_L_lt hv0) (by decide)) rfl (by decide) rfl rfl pu_put_hw ?_
      refine pu_go 1 (pc' := 87) (ls' := [.ref v0, .int v1, .int v2]) (st' := [.int 1]) (M' := pu_wr M v0 11 0) rfl ?_
      exact pu_ret rfl rfl ⟨_, rfl, H⟩
    · replace H := Eq.mp (if_pos hc) H
      refine pu_go 2 (pc' := 83) (ls' := [.ref v0, .int v1, .int v2]) (st' := [.int 1, .ref v0]) (M' := M) rfl ?_
      refine pu_putf (j := 11) (z := 1) rfl (pu_L_o hv0) (Nat.lt_trans (pu_L_lt hv0) (by decide)) rfl (by decide) rfl rfl pu_put_hw ?_
      refine pu_go 1 (pc' := 87) (ls' := [.ref v0, .int v1, .int v2]) (st' := [.int 1]) (M' := pu_wr M v0 11 1) rfl ?_
      exact pu_ret rfl rfl ⟨_, rfl, H⟩
  replace H := Eq.mp (if_neg hs1_2) H
  by_cases hs1_3 : v1 = 3
  · replace H := Eq.mp (if_pos hs1_3) H
    refine pu_one (pc' := 88) (ls' := [.ref v0, .int v1, .int v2]) (st' := []) (M' := M) rfl (by rw [hs1_3]; rfl) ?_
    refine pu_go 1 (pc' := 89) (ls' := [.ref v0, .int v1, .int v2]) (st' := [.int 1]) (M' := M) rfl ?_
    exact pu_ret rfl rfl ⟨_, rfl, H⟩
  replace H := Eq.mp (if_neg hs1_3) H
  by_cases hs1_4 : v1 = 4
  · replace H := Eq.mp (if_pos hs1_4) H
    refine pu_one (pc' := 88) (ls' := [.ref v0, .int v1, .int v2]) (st' := []) (M' := M) rfl (by rw [hs1_4]; rfl) ?_
    refine pu_go 1 (pc' := 89) (ls' := [.ref v0, .int v1, .int v2]) (st' := [.int 1]) (M' := M) rfl ?_
    exact pu_ret rfl rfl ⟨_, rfl, H⟩
  replace H := Eq.mp (if_neg hs1_4) H
  refine pu_one (pc' := 90) (ls' := [.ref v0, .int v1, .int v2]) (st' := []) (M' := M) rfl (congrArg (fun z => mq_nx z _ _ _) (pu_tabD [0, 1, 2, 3, 4] (by simp only [List.forall_mem_cons, List.not_mem_nil, false_implies, implies_true, and_true]; exact ⟨hs1_0, hs1_1, hs1_2, hs1_3, hs1_4⟩) (by decide))) ?_
  refine pu_go 2 (pc' := 92) (ls' := [.ref v0, .int v1, .int v2]) (st' := [.int v1, .ref v0]) (M' := M) rfl ?_
  refine pu_callI (m' := 44) (ml := 4) (as := [.ref v0, .int v1]) (rest := []) rfl (pu_virt (pu_L_o hv0) (Nat.lt_trans (pu_L_lt hv0) (by decide)) ⟨Nat.le_of_ble_eq_true rfl, Nat.le_of_ble_eq_true rfl⟩ rfl rfl) rfl (Nat.le_of_ble_eq_true rfl) H (fun x2 M1 H => ?_)
  show pu_R L (d + 2) 42 95 [.ref v0, .int v1, .int v2] [.int x2] M1 _
  obtain ⟨hb3, H⟩ := H
  exact pu_retZ rfl hb3 H
/-! Law_push (I)Z -/
set_option maxRecDepth 20000 in
theorem r_Law_push {L d : Nat} {M : pu_M} {Q : Int32 → pu_M → Prop} {v0 : Nat} (hv0 : pu_isL v0) {v1 : Int32} (H : (if (M v0 10) < 0 then Q 0 M else (if (M v0 10) < (Int32.ofNat 32) then (mq_inb (M v0 10) 32 = true ∧ Q 1 (pu_wr (pu_wr M (v0 + 8) (M v0 10 : Int32).toNatClampNeg v1) v0 10 (((pu_wr M (v0 + 8) (M v0 10 : Int32).toNatClampNeg v1) v0 10) + 1))) else Q 0 M))) : pu_I L (d + 1) 43 [.ref v0, .int v1] M Q := by
  show pu_R L (d + 1) 43 0 [.ref v0, .int v1] [] M (pu_qI Q)
  refine pu_go 1 (pc' := 1) (ls' := [.ref v0, .int v1]) (st' := [.ref v0]) (M' := M) rfl ?_
  refine pu_getf (j := 10) (w := .int (M v0 10)) rfl (pu_L_o hv0) (Nat.lt_trans (pu_L_lt hv0) (by decide)) rfl (by decide) rfl rfl ?_
  refine pu_if_lt rfl (fun hc => ?_) (fun hc => ?_)
  · replace H := Eq.mp (if_pos hc) H
    refine pu_go 1 (pc' := 20) (ls' := [.ref v0, .int v1]) (st' := [.int 0]) (M' := M) rfl ?_
    exact pu_ret rfl rfl ⟨_, rfl, H⟩
  · replace H := Eq.mp (if_neg hc) H
    refine pu_go 1 (pc' := 8) (ls' := [.ref v0, .int v1]) (st' := [.ref v0]) (M' := M) rfl ?_
    refine pu_getf (j := 10) (w := .int (M v0 10)) rfl (pu_L_o hv0) (Nat.lt_trans (pu_L_lt hv0) (by decide)) rfl (by decide) rfl rfl ?_
    refine pu_go 1 (pc' := 12) (ls' := [.ref v0, .int v1]) (st' := [.ref v0, .int (M v0 10)]) (M' := M) rfl ?_
    refine pu_getf (j := 9) (w := .ref (v0 + 8)) rfl (pu_L_o hv0) (Nat.lt_trans (pu_L_lt hv0) (by decide)) rfl (by decide) rfl rfl ?_
    refine pu_alen rfl (pu_L_8 hv0) (Or.inl (pu_L_l8 hv0)) ?_
    refine pu_icmp_lt rfl (fun hc => ?_) (fun hc => ?_)
    · replace H := Eq.mp (if_pos hc) H
      refine pu_go 1 (pc' := 22) (ls' := [.ref v0, .int v1]) (st' := [.ref v0]) (M' := M) rfl ?_
      refine pu_getf (j := 9) (w := .ref (v0 + 8)) rfl (pu_L_o hv0) (Nat.lt_trans (pu_L_lt hv0) (by decide)) rfl (by decide) rfl rfl ?_
      refine pu_go 1 (pc' := 26) (ls' := [.ref v0, .int v1]) (st' := [.ref v0, .ref (v0 + 8)]) (M' := M) rfl ?_
      refine pu_getf (j := 10) (w := .int (M v0 10)) rfl (pu_L_o hv0) (Nat.lt_trans (pu_L_lt hv0) (by decide)) rfl (by decide) rfl rfl ?_
      refine pu_go 1 (pc' := 30) (ls' := [.ref v0, .int v1]) (st' := [.int v1, .int (M v0 10), .ref (v0 + 8)]) (M' := M) rfl ?_
      obtain ⟨hb1, H⟩ := H
      refine pu_iast rfl (pu_L_8 hv0) (pu_L_l8 hv0) hb1 ?_
      refine pu_go 2 (pc' := 33) (ls' := [.ref v0, .int v1]) (st' := [.ref v0, .ref v0]) (M' := pu_wr M (v0 + 8) (M v0 10 : Int32).toNatClampNeg v1) rfl ?_
      refine pu_getf (j := 10) (w := .int ((pu_wr M (v0 + 8) (M v0 10 : Int32).toNatClampNeg v1) v0 10)) rfl (pu_L_o hv0) (Nat.lt_trans (pu_L_lt hv0) (by decide)) rfl (by decide) rfl rfl ?_
      refine pu_go 2 (pc' := 38) (ls' := [.ref v0, .int v1]) (st' := [.int (((pu_wr M (v0 + 8) (M v0 10 : Int32).toNatClampNeg v1) v0 10) + 1), .ref v0]) (M' := pu_wr M (v0 + 8) (M v0 10 : Int32).toNatClampNeg v1) rfl ?_
      refine pu_putf (j := 10) (z := ((pu_wr M (v0 + 8) (M v0 10 : Int32).toNatClampNeg v1) v0 10) + 1) rfl (pu_L_o hv0) (Nat.lt_trans (pu_L_lt hv0) (by decide)) rfl (by decide) rfl rfl pu_put_hw ?_
      refine pu_go 1 (pc' := 42) (ls' := [.ref v0, .int v1]) (st' := [.int 1]) (M' := pu_wr (pu_wr M (v0 + 8) (M v0 10 : Int32).toNatClampNeg v1) v0 10 (((pu_wr M (v0 + 8) (M v0 10 : Int32).toNatClampNeg v1) v0 10) + 1)) rfl ?_
      exact pu_ret rfl rfl ⟨_, rfl, H⟩
    · replace H := Eq.mp (if_neg hc) H
      refine pu_go 1 (pc' := 20) (ls' := [.ref v0, .int v1]) (st' := [.int 0]) (M' := M) rfl ?_
      exact pu_ret rfl rfl ⟨_, rfl, H⟩
/-! Law_reckon (I)Z -/
set_option maxRecDepth 20000 in
theorem r_Law_reckon_72 {L d : Nat} {M : pu_M} {Q : Int32 → pu_M → Prop} {v0 : Nat} (hv0 : pu_isL v0) {v1 : Int32} {v2 : Int32} {v3 : Int32} (H : (if v1 = 37 then (if v3 = 0 then (mq_inb ((M v0 10) - 1) 32 = true ∧ Q 1 (pu_wr M (v0 + 8) ((M v0 10) - 1 : Int32).toNatClampNeg 0)) else (v3 ≠ 0 ∧ (mq_inb ((M v0 10) - 1) 32 = true ∧ Q 1 (pu_wr M (v0 + 8) ((M v0 10) - 1 : Int32).toNatClampNeg (v2 % v3))))) else (if v1 = 42 then (mq_inb ((M v0 10) - 1) 32 = true ∧ Q 1 (pu_wr M (v0 + 8) ((M v0 10) - 1 : Int32).toNatClampNeg (v2 * v3))) else (if v1 = 43 then (mq_inb ((M v0 10) - 1) 32 = true ∧ Q 1 (pu_wr M (v0 + 8) ((M v0 10) - 1 : Int32).toNatClampNeg (v2 + v3))) else (if v1 = 45 then (mq_inb ((M v0 10) - 1) 32 = true ∧ Q 1 (pu_wr M (v0 + 8) ((M v0 10) - 1 : Int32).toNatClampNeg (v2 - v3))) else (if v1 = 47 then (if v3 = 0 then (mq_inb ((M v0 10) - 1) 32 = true ∧ Q 1 (pu_wr M (v0 + 8) ((M v0 10) - 1 : Int32).toNatClampNeg 0)) else (v3 ≠ 0 ∧ (mq_inb ((M v0 10) - 1) 32 = true ∧ Q 1 (pu_wr M (v0 + 8) ((M v0 10) - 1 : Int32).toNatClampNeg (v2 / v3))))) else (if v1 = 60 then (if v3 ≤ v2 then Q 1 (pu_wr (pu_wr M v0 10 ((M v0 10) - 1)) v0 11 0) else Q 1 (pu_wr (pu_wr M v0 10 ((M v0 10) - 1)) v0 11 1)) else (if v1 = 62 then (if v2 ≤ v3 then Q 1 (pu_wr (pu_wr M v0 10 ((M v0 10) - 1)) v0 11 0) else Q 1 (pu_wr (pu_wr M v0 10 ((M v0 10) - 1)) v0 11 1)) else (if v2 = v3 then Q 1 (pu_wr (pu_wr M v0 10 ((M v0 10) - 1)) v0 11 1) else Q 1 (pu_wr (pu_wr M v0 10 ((M v0 10) - 1)) v0 11 0)))))))))) : pu_R L (d + 1) 44 72 [.ref v0, .int v1, .int v2, .int v3] [] M (pu_qI Q) := by
  refine pu_go 1 (pc' := 73) (ls' := [.ref v0, .int v1, .int v2, .int v3]) (st' := [.int v1]) (M' := M) rfl ?_
  skip
  by_cases hs73_0 : v1 = 37
  · replace H := Eq.mp (if_pos hs73_0) H
    refine pu_one (pc' := 204) (ls' := [.ref v0, .int v1, .int v2, .int v3]) (st' := []) (M' := M) rfl (by rw [hs73_0]; rfl) ?_
    refine pu_go 1 (pc' := 205) (ls' := [.ref v0, .int v1, .int v2, .int v3]) (st' := [.ref v0]) (M' := M) rfl ?_
    refine pu_getf (j := 9) (w := .ref (v0 + 8)) rfl (pu_L_o hv0) (Nat.lt_trans (pu_L_lt hv0) (by decide)) rfl (by decide) rfl rfl ?_
    refine pu_go 1 (pc' := 209) (ls' := [.ref v0, .int v1, .int v2, .int v3]) (st' := [.ref v0, .ref (v0 + 8)]) (M' := M) rfl ?_
    refine pu_getf (j := 10) (w := .int (M v0 10)) rfl (pu_L_o hv0) (Nat.lt_trans (pu_L_lt hv0) (by decide)) rfl (by decide) rfl rfl ?_
    refine pu_go 3 (pc' := 215) (ls' := [.ref v0, .int v1, .int v2, .int v3]) (st' := [.int v3, .int ((M v0 10) - 1), .ref (v0 + 8)]) (M' := M) rfl ?_
    refine pu_if_ne rfl (fun hc => ?_) (fun hc => ?_)
    · replace H := Eq.mp (if_neg hc) H
      refine pu_go 2 (pc' := 224) (ls' := [.ref v0, .int v1, .int v2, .int v3]) (st' := [.int v3, .int v2, .int ((M v0 10) - 1), .ref (v0 + 8)]) (M' := M) rfl ?_
      obtain ⟨hz1, H⟩ := H
      refine pu_rem rfl hz1 ?_
      obtain ⟨hb2, H⟩ := H
      refine pu_iast rfl (pu_L_8 hv0) (pu_L_l8 hv0) hb2 ?_
      refine pu_go 1 (pc' := 227) (ls' := [.ref v0, .int v1, .int v2, .int v3]) (st' := [.int 1]) (M' := pu_wr M (v0 + 8) ((M v0 10) - 1 : Int32).toNatClampNeg (v2 % v3)) rfl ?_
      exact pu_ret rfl rfl ⟨_, rfl, H⟩
    · replace H := Eq.mp (if_pos hc) H
      refine pu_go 2 (pc' := 225) (ls' := [.ref v0, .int v1, .int v2, .int v3]) (st' := [.int 0, .int ((M v0 10) - 1), .ref (v0 + 8)]) (M' := M) rfl ?_
      obtain ⟨hb3, H⟩ := H
      refine pu_iast rfl (pu_L_8 hv0) (pu_L_l8 hv0) hb3 ?_
      refine pu_go 1 (pc' := 227) (ls' := [.ref v0, .int v1, .int v2, .int v3]) (st' := [.int 1]) (M' := pu_wr M (v0 + 8) ((M v0 10) - 1 : Int32).toNatClampNeg 0) rfl ?_
      exact pu_ret rfl rfl ⟨_, rfl, H⟩
  replace H := Eq.mp (if_neg hs73_0) H
  by_cases hs73_1 : v1 = 42
  · replace H := Eq.mp (if_pos hs73_1) H
    refine pu_one (pc' := 164) (ls' := [.ref v0, .int v1, .int v2, .int v3]) (st' := []) (M' := M) rfl (by rw [hs73_1]; rfl) ?_
    refine pu_go 1 (pc' := 165) (ls' := [.ref v0, .int v1, .int v2, .int v3]) (st' := [.ref v0]) (M' := M) rfl ?_
    refine pu_getf (j := 9) (w := .ref (v0 + 8)) rfl (pu_L_o hv0) (Nat.lt_trans (pu_L_lt hv0) (by decide)) rfl (by decide) rfl rfl ?_
    refine pu_go 1 (pc' := 169) (ls' := [.ref v0, .int v1, .int v2, .int v3]) (st' := [.ref v0, .ref (v0 + 8)]) (M' := M) rfl ?_
    refine pu_getf (j := 10) (w := .int (M v0 10)) rfl (pu_L_o hv0) (Nat.lt_trans (pu_L_lt hv0) (by decide)) rfl (by decide) rfl rfl ?_
    refine pu_go 5 (pc' := 177) (ls' := [.ref v0, .int v1, .int v2, .int v3]) (st' := [.int (v2 * v3), .int ((M v0 10) - 1), .ref (v0 + 8)]) (M' := M) rfl ?_
    obtain ⟨hb4, H⟩ := H
    refine pu_iast rfl (pu_L_8 hv0) (pu_L_l8 hv0) hb4 ?_
    refine pu_go 1 (pc' := 179) (ls' := [.ref v0, .int v1, .int v2, .int v3]) (st' := [.int 1]) (M' := pu_wr M (v0 + 8) ((M v0 10) - 1 : Int32).toNatClampNeg (v2 * v3)) rfl ?_
    exact pu_ret rfl rfl ⟨_, rfl, H⟩
  replace H := Eq.mp (if_neg hs73_1) H
  by_cases hs73_2 : v1 = 43
  · replace H := Eq.mp (if_pos hs73_2) H
    refine pu_one (pc' := 132) (ls' := [.ref v0, .int v1, .int v2, .int v3]) (st' := []) (M' := M) rfl (by rw [hs73_2]; rfl) ?_
    refine pu_go 1 (pc' := 133) (ls' := [.ref v0, .int v1, .int v2, .int v3]) (st' := [.ref v0]) (M' := M) rfl ?_
    refine pu_getf (j := 9) (w := .ref (v0 + 8)) rfl (pu_L_o hv0) (Nat.lt_trans (pu_L_lt hv0) (by decide)) rfl (by decide) rfl rfl ?_
    refine pu_go 1 (pc' := 137) (ls' := [.ref v0, .int v1, .int v2, .int v3]) (st' := [.ref v0, .ref (v0 + 8)]) (M' := M) rfl ?_
    refine pu_getf (j := 10) (w := .int (M v0 10)) rfl (pu_L_o hv0) (Nat.lt_trans (pu_L_lt hv0) (by decide)) rfl (by decide) rfl rfl ?_
    refine pu_go 5 (pc' := 145) (ls' := [.ref v0, .int v1, .int v2, .int v3]) (st' := [.int (v2 + v3), .int ((M v0 10) - 1), .ref (v0 + 8)]) (M' := M) rfl ?_
    obtain ⟨hb5, H⟩ := H
    refine pu_iast rfl (pu_L_8 hv0) (pu_L_l8 hv0) hb5 ?_
    refine pu_go 1 (pc' := 147) (ls' := [.ref v0, .int v1, .int v2, .int v3]) (st' := [.int 1]) (M' := pu_wr M (v0 + 8) ((M v0 10) - 1 : Int32).toNatClampNeg (v2 + v3)) rfl ?_
    exact pu_ret rfl rfl ⟨_, rfl, H⟩
  replace H := Eq.mp (if_neg hs73_2) H
  by_cases hs73_3 : v1 = 45
  · replace H := Eq.mp (if_pos hs73_3) H
    refine pu_one (pc' := 148) (ls' := [.ref v0, .int v1, .int v2, .int v3]) (st' := []) (M' := M) rfl (by rw [hs73_3]; rfl) ?_
    refine pu_go 1 (pc' := 149) (ls' := [.ref v0, .int v1, .int v2, .int v3]) (st' := [.ref v0]) (M' := M) rfl ?_
    refine pu_getf (j := 9) (w := .ref (v0 + 8)) rfl (pu_L_o hv0) (Nat.lt_trans (pu_L_lt hv0) (by decide)) rfl (by decide) rfl rfl ?_
    refine pu_go 1 (pc' := 153) (ls' := [.ref v0, .int v1, .int v2, .int v3]) (st' := [.ref v0, .ref (v0 + 8)]) (M' := M) rfl ?_
    refine pu_getf (j := 10) (w := .int (M v0 10)) rfl (pu_L_o hv0) (Nat.lt_trans (pu_L_lt hv0) (by decide)) rfl (by decide) rfl rfl ?_
    refine pu_go 5 (pc' := 161) (ls' := [.ref v0, .int v1, .int v2, .int v3]) (st' := [.int (v2 - v3), .int ((M v0 10) - 1), .ref (v0 + 8)]) (M' := M) rfl ?_
    obtain ⟨hb6, H⟩ := H
    refine pu_iast rfl (pu_L_8 hv0) (pu_L_l8 hv0) hb6 ?_
    refine pu_go 1 (pc' := 163) (ls' := [.ref v0, .int v1, .int v2, .int v3]) (st' := [.int 1]) (M' := pu_wr M (v0 + 8) ((M v0 10) - 1 : Int32).toNatClampNeg (v2 - v3)) rfl ?_
    exact pu_ret rfl rfl ⟨_, rfl, H⟩
  replace H := Eq.mp (if_neg hs73_3) H
  by_cases hs73_4 : v1 = 47
  · replace H := Eq.mp (if_pos hs73_4) H
    refine pu_one (pc' := 180) (ls' := [.ref v0, .int v1, .int v2, .int v3]) (st' := []) (M' := M) rfl (by rw [hs73_4]; rfl) ?_
    refine pu_go 1 (pc' := 181) (ls' := [.ref v0, .int v1, .int v2, .int v3]) (st' := [.ref v0]) (M' := M) rfl ?_
    refine pu_getf (j := 9) (w := .ref (v0 + 8)) rfl (pu_L_o hv0) (Nat.lt_trans (pu_L_lt hv0) (by decide)) rfl (by decide) rfl rfl ?_
    refine pu_go 1 (pc' := 185) (ls' := [.ref v0, .int v1, .int v2, .int v3]) (st' := [.ref v0, .ref (v0 + 8)]) (M' := M) rfl ?_
    refine pu_getf (j := 10) (w := .int (M v0 10)) rfl (pu_L_o hv0) (Nat.lt_trans (pu_L_lt hv0) (by decide)) rfl (by decide) rfl rfl ?_
    refine pu_go 3 (pc' := 191) (ls' := [.ref v0, .int v1, .int v2, .int v3]) (st' := [.int v3, .int ((M v0 10) - 1), .ref (v0 + 8)]) (M' := M) rfl ?_
    refine pu_if_ne rfl (fun hc => ?_) (fun hc => ?_)
    · replace H := Eq.mp (if_neg hc) H
      refine pu_go 2 (pc' := 200) (ls' := [.ref v0, .int v1, .int v2, .int v3]) (st' := [.int v3, .int v2, .int ((M v0 10) - 1), .ref (v0 + 8)]) (M' := M) rfl ?_
      obtain ⟨hz7, H⟩ := H
      refine pu_div rfl hz7 ?_
      obtain ⟨hb8, H⟩ := H
      refine pu_iast rfl (pu_L_8 hv0) (pu_L_l8 hv0) hb8 ?_
      refine pu_go 1 (pc' := 203) (ls' := [.ref v0, .int v1, .int v2, .int v3]) (st' := [.int 1]) (M' := pu_wr M (v0 + 8) ((M v0 10) - 1 : Int32).toNatClampNeg (v2 / v3)) rfl ?_
      exact pu_ret rfl rfl ⟨_, rfl, H⟩
    · replace H := Eq.mp (if_pos hc) H
      refine pu_go 2 (pc' := 201) (ls' := [.ref v0, .int v1, .int v2, .int v3]) (st' := [.int 0, .int ((M v0 10) - 1), .ref (v0 + 8)]) (M' := M) rfl ?_
      obtain ⟨hb9, H⟩ := H
      refine pu_iast rfl (pu_L_8 hv0) (pu_L_l8 hv0) hb9 ?_
      refine pu_go 1 (pc' := 203) (ls' := [.ref v0, .int v1, .int v2, .int v3]) (st' := [.int 1]) (M' := pu_wr M (v0 + 8) ((M v0 10) - 1 : Int32).toNatClampNeg 0) rfl ?_
      exact pu_ret rfl rfl ⟨_, rfl, H⟩
  replace H := Eq.mp (if_neg hs73_4) H
  refine pu_one (pc' := 228) (ls' := [.ref v0, .int v1, .int v2, .int v3]) (st' := []) (M' := M) rfl (congrArg (fun z => mq_nx z _ _ _) (pu_tabD [37, 42, 43, 45, 47] (by simp only [List.forall_mem_cons, List.not_mem_nil, false_implies, implies_true, and_true]; exact ⟨hs73_0, hs73_1, hs73_2, hs73_3, hs73_4⟩) (by decide))) ?_
  refine pu_go 2 (pc' := 230) (ls' := [.ref v0, .int v1, .int v2, .int v3]) (st' := [.ref v0, .ref v0]) (M' := M) rfl ?_
  refine pu_getf (j := 10) (w := .int (M v0 10)) rfl (pu_L_o hv0) (Nat.lt_trans (pu_L_lt hv0) (by decide)) rfl (by decide) rfl rfl ?_
  refine pu_go 2 (pc' := 235) (ls' := [.ref v0, .int v1, .int v2, .int v3]) (st' := [.int ((M v0 10) - 1), .ref v0]) (M' := M) rfl ?_
  refine pu_putf (j := 10) (z := (M v0 10) - 1) rfl (pu_L_o hv0) (Nat.lt_trans (pu_L_lt hv0) (by decide)) rfl (by decide) rfl rfl pu_put_hw ?_
  refine pu_go 3 (pc' := 242) (ls' := [.ref v0, .int v1, .int v2, .int v3]) (st' := [.int 60, .int v1, .ref v0]) (M' := pu_wr M v0 10 ((M v0 10) - 1)) rfl ?_
  refine pu_icmp_ne rfl (fun hc => ?_) (fun hc => ?_)
  · replace H := Eq.mp (if_neg hc) H
    refine pu_go 2 (pc' := 261) (ls' := [.ref v0, .int v1, .int v2, .int v3]) (st' := [.int 62, .int v1, .ref v0]) (M' := pu_wr M v0 10 ((M v0 10) - 1)) rfl ?_
    refine pu_icmp_ne rfl (fun hc => ?_) (fun hc => ?_)
    · replace H := Eq.mp (if_neg hc) H
      refine pu_go 2 (pc' := 279) (ls' := [.ref v0, .int v1, .int v2, .int v3]) (st' := [.int v3, .int v2, .ref v0]) (M' := pu_wr M v0 10 ((M v0 10) - 1)) rfl ?_
      refine pu_icmp_ne rfl (fun hc => ?_) (fun hc => ?_)
      · replace H := Eq.mp (if_neg hc) H
        refine pu_go 1 (pc' := 287) (ls' := [.ref v0, .int v1, .int v2, .int v3]) (st' := [.int 0, .ref v0]) (M' := pu_wr M v0 10 ((M v0 10) - 1)) rfl ?_
        refine pu_putf (j := 11) (z := 0) rfl (pu_L_o hv0) (Nat.lt_trans (pu_L_lt hv0) (by decide)) rfl (by decide) rfl rfl pu_put_hw ?_
        refine pu_go 1 (pc' := 291) (ls' := [.ref v0, .int v1, .int v2, .int v3]) (st' := [.int 1]) (M' := pu_wr (pu_wr M v0 10 ((M v0 10) - 1)) v0 11 0) rfl ?_
        exact pu_ret rfl rfl ⟨_, rfl, H⟩
      · replace H := Eq.mp (if_pos hc) H
        refine pu_go 2 (pc' := 287) (ls' := [.ref v0, .int v1, .int v2, .int v3]) (st' := [.int 1, .ref v0]) (M' := pu_wr M v0 10 ((M v0 10) - 1)) rfl ?_
        refine pu_putf (j := 11) (z := 1) rfl (pu_L_o hv0) (Nat.lt_trans (pu_L_lt hv0) (by decide)) rfl (by decide) rfl rfl pu_put_hw ?_
        refine pu_go 1 (pc' := 291) (ls' := [.ref v0, .int v1, .int v2, .int v3]) (st' := [.int 1]) (M' := pu_wr (pu_wr M v0 10 ((M v0 10) - 1)) v0 11 1) rfl ?_
        exact pu_ret rfl rfl ⟨_, rfl, H⟩
    · replace H := Eq.mp (if_pos hc) H
      refine pu_go 2 (pc' := 266) (ls' := [.ref v0, .int v1, .int v2, .int v3]) (st' := [.int v3, .int v2, .ref v0]) (M' := pu_wr M v0 10 ((M v0 10) - 1)) rfl ?_
      refine pu_icmp_le rfl (fun hc => ?_) (fun hc => ?_)
      · replace H := Eq.mp (if_pos hc) H
        refine pu_go 2 (pc' := 287) (ls' := [.ref v0, .int v1, .int v2, .int v3]) (st' := [.int 0, .ref v0]) (M' := pu_wr M v0 10 ((M v0 10) - 1)) rfl ?_
        refine pu_putf (j := 11) (z := 0) rfl (pu_L_o hv0) (Nat.lt_trans (pu_L_lt hv0) (by decide)) rfl (by decide) rfl rfl pu_put_hw ?_
        refine pu_go 1 (pc' := 291) (ls' := [.ref v0, .int v1, .int v2, .int v3]) (st' := [.int 1]) (M' := pu_wr (pu_wr M v0 10 ((M v0 10) - 1)) v0 11 0) rfl ?_
        exact pu_ret rfl rfl ⟨_, rfl, H⟩
      · replace H := Eq.mp (if_neg hc) H
        refine pu_go 2 (pc' := 287) (ls' := [.ref v0, .int v1, .int v2, .int v3]) (st' := [.int 1, .ref v0]) (M' := pu_wr M v0 10 ((M v0 10) - 1)) rfl ?_
        refine pu_putf (j := 11) (z := 1) rfl (pu_L_o hv0) (Nat.lt_trans (pu_L_lt hv0) (by decide)) rfl (by decide) rfl rfl pu_put_hw ?_
        refine pu_go 1 (pc' := 291) (ls' := [.ref v0, .int v1, .int v2, .int v3]) (st' := [.int 1]) (M' := pu_wr (pu_wr M v0 10 ((M v0 10) - 1)) v0 11 1) rfl ?_
        exact pu_ret rfl rfl ⟨_, rfl, H⟩
  · replace H := Eq.mp (if_pos hc) H
    refine pu_go 2 (pc' := 247) (ls' := [.ref v0, .int v1, .int v2, .int v3]) (st' := [.int v3, .int v2, .ref v0]) (M' := pu_wr M v0 10 ((M v0 10) - 1)) rfl ?_
    refine pu_icmp_ge rfl (fun hc => ?_) (fun hc => ?_)
    · replace H := Eq.mp (if_pos hc) H
      refine pu_go 2 (pc' := 287) (ls' := [.ref v0, .int v1, .int v2, .int v3]) (st' := [.int 0, .ref v0]) (M' := pu_wr M v0 10 ((M v0 10) - 1)) rfl ?_
      refine pu_putf (j := 11) (z := 0) rfl (pu_L_o hv0) (Nat.lt_trans (pu_L_lt hv0) (by decide)) rfl (by decide) rfl rfl pu_put_hw ?_
      refine pu_go 1 (pc' := 291) (ls' := [.ref v0, .int v1, .int v2, .int v3]) (st' := [.int 1]) (M' := pu_wr (pu_wr M v0 10 ((M v0 10) - 1)) v0 11 0) rfl ?_
      exact pu_ret rfl rfl ⟨_, rfl, H⟩
    · replace H := Eq.mp (if_neg hc) H
      refine pu_go 2 (pc' := 287) (ls' := [.ref v0, .int v1, .int v2, .int v3]) (st' := [.int 1, .ref v0]) (M' := pu_wr M v0 10 ((M v0 10) - 1)) rfl ?_
      refine pu_putf (j := 11) (z := 1) rfl (pu_L_o hv0) (Nat.lt_trans (pu_L_lt hv0) (by decide)) rfl (by decide) rfl rfl pu_put_hw ?_
      refine pu_go 1 (pc' := 291) (ls' := [.ref v0, .int v1, .int v2, .int v3]) (st' := [.int 1]) (M' := pu_wr (pu_wr M v0 10 ((M v0 10) - 1)) v0 11 1) rfl ?_
      exact pu_ret rfl rfl ⟨_, rfl, H⟩
set_option maxRecDepth 20000 in
theorem r_Law_reckon {L d : Nat} {M : pu_M} {Q : Int32 → pu_M → Prop} {v0 : Nat} (hv0 : pu_isL v0) {v1 : Int32} (H : (if (M v0 10) < 2 then Q 0 M else (if (M v0 10) ≤ (Int32.ofNat 32) then (mq_inb (((pu_wr M v0 10 ((M v0 10) - 1)) v0 10) - 1) 32 = true ∧ (mq_inb ((pu_wr M v0 10 ((M v0 10) - 1)) v0 10) 32 = true ∧ (if v1 = 47 then (if ((pu_wr M v0 10 ((M v0 10) - 1)) (v0 + 8) ((pu_wr M v0 10 ((M v0 10) - 1)) v0 10 : Int32).toNatClampNeg) = 0 then Q 0 (pu_wr M v0 10 ((M v0 10) - 1)) else pu_R L (d + 1) 44 72 [.ref v0, .int v1, .int ((pu_wr M v0 10 ((M v0 10) - 1)) (v0 + 8) (((pu_wr M v0 10 ((M v0 10) - 1)) v0 10) - 1 : Int32).toNatClampNeg), .int ((pu_wr M v0 10 ((M v0 10) - 1)) (v0 + 8) ((pu_wr M v0 10 ((M v0 10) - 1)) v0 10 : Int32).toNatClampNeg)] [] (pu_wr M v0 10 ((M v0 10) - 1)) (pu_qI Q)) else (if v1 = 37 then (if ((pu_wr M v0 10 ((M v0 10) - 1)) (v0 + 8) ((pu_wr M v0 10 ((M v0 10) - 1)) v0 10 : Int32).toNatClampNeg) = 0 then Q 0 (pu_wr M v0 10 ((M v0 10) - 1)) else pu_R L (d + 1) 44 72 [.ref v0, .int v1, .int ((pu_wr M v0 10 ((M v0 10) - 1)) (v0 + 8) (((pu_wr M v0 10 ((M v0 10) - 1)) v0 10) - 1 : Int32).toNatClampNeg), .int ((pu_wr M v0 10 ((M v0 10) - 1)) (v0 + 8) ((pu_wr M v0 10 ((M v0 10) - 1)) v0 10 : Int32).toNatClampNeg)] [] (pu_wr M v0 10 ((M v0 10) - 1)) (pu_qI Q)) else pu_R L (d + 1) 44 72 [.ref v0, .int v1, .int ((pu_wr M v0 10 ((M v0 10) - 1)) (v0 + 8) (((pu_wr M v0 10 ((M v0 10) - 1)) v0 10) - 1 : Int32).toNatClampNeg), .int ((pu_wr M v0 10 ((M v0 10) - 1)) (v0 + 8) ((pu_wr M v0 10 ((M v0 10) - 1)) v0 10 : Int32).toNatClampNeg)] [] (pu_wr M v0 10 ((M v0 10) - 1)) (pu_qI Q))))) else Q 0 M))) : pu_I L (d + 1) 44 [.ref v0, .int v1] M Q := by
  show pu_R L (d + 1) 44 0 [.ref v0, .int v1, mq_un, mq_un] [] M (pu_qI Q)
  refine pu_go 1 (pc' := 1) (ls' := [.ref v0, .int v1, mq_un, mq_un]) (st' := [.ref v0]) (M' := M) rfl ?_
  refine pu_getf (j := 10) (w := .int (M v0 10)) rfl (pu_L_o hv0) (Nat.lt_trans (pu_L_lt hv0) (by decide)) rfl (by decide) rfl rfl ?_
  refine pu_go 1 (pc' := 5) (ls' := [.ref v0, .int v1, mq_un, mq_un]) (st' := [.int 2, .int (M v0 10)]) (M' := M) rfl ?_
  refine pu_icmp_lt rfl (fun hc => ?_) (fun hc => ?_)
  · replace H := Eq.mp (if_pos hc) H
    refine pu_go 1 (pc' := 21) (ls' := [.ref v0, .int v1, mq_un, mq_un]) (st' := [.int 0]) (M' := M) rfl ?_
    exact pu_ret rfl rfl ⟨_, rfl, H⟩
  · replace H := Eq.mp (if_neg hc) H
    refine pu_go 1 (pc' := 9) (ls' := [.ref v0, .int v1, mq_un, mq_un]) (st' := [.ref v0]) (M' := M) rfl ?_
    refine pu_getf (j := 10) (w := .int (M v0 10)) rfl (pu_L_o hv0) (Nat.lt_trans (pu_L_lt hv0) (by decide)) rfl (by decide) rfl rfl ?_
    refine pu_go 1 (pc' := 13) (ls' := [.ref v0, .int v1, mq_un, mq_un]) (st' := [.ref v0, .int (M v0 10)]) (M' := M) rfl ?_
    refine pu_getf (j := 9) (w := .ref (v0 + 8)) rfl (pu_L_o hv0) (Nat.lt_trans (pu_L_lt hv0) (by decide)) rfl (by decide) rfl rfl ?_
    refine pu_alen rfl (pu_L_8 hv0) (Or.inl (pu_L_l8 hv0)) ?_
    refine pu_icmp_le rfl (fun hc => ?_) (fun hc => ?_)
    · replace H := Eq.mp (if_pos hc) H
      refine pu_go 2 (pc' := 24) (ls' := [.ref v0, .int v1, mq_un, mq_un]) (st' := [.ref v0, .ref v0]) (M' := M) rfl ?_
      refine pu_getf (j := 10) (w := .int (M v0 10)) rfl (pu_L_o hv0) (Nat.lt_trans (pu_L_lt hv0) (by decide)) rfl (by decide) rfl rfl ?_
      refine pu_go 2 (pc' := 29) (ls' := [.ref v0, .int v1, mq_un, mq_un]) (st' := [.int ((M v0 10) - 1), .ref v0]) (M' := M) rfl ?_
      refine pu_putf (j := 10) (z := (M v0 10) - 1) rfl (pu_L_o hv0) (Nat.lt_trans (pu_L_lt hv0) (by decide)) rfl (by decide) rfl rfl pu_put_hw ?_
      refine pu_go 1 (pc' := 33) (ls' := [.ref v0, .int v1, mq_un, mq_un]) (st' := [.ref v0]) (M' := pu_wr M v0 10 ((M v0 10) - 1)) rfl ?_
      refine pu_getf (j := 9) (w := .ref (v0 + 8)) rfl (pu_L_o hv0) (Nat.lt_trans (pu_L_lt hv0) (by decide)) rfl (by decide) rfl rfl ?_
      refine pu_go 1 (pc' := 37) (ls' := [.ref v0, .int v1, mq_un, mq_un]) (st' := [.ref v0, .ref (v0 + 8)]) (M' := pu_wr M v0 10 ((M v0 10) - 1)) rfl ?_
      refine pu_getf (j := 10) (w := .int ((pu_wr M v0 10 ((M v0 10) - 1)) v0 10)) rfl (pu_L_o hv0) (Nat.lt_trans (pu_L_lt hv0) (by decide)) rfl (by decide) rfl rfl ?_
      refine pu_go 2 (pc' := 42) (ls' := [.ref v0, .int v1, mq_un, mq_un]) (st' := [.int (((pu_wr M v0 10 ((M v0 10) - 1)) v0 10) - 1), .ref (v0 + 8)]) (M' := pu_wr M v0 10 ((M v0 10) - 1)) rfl ?_
      obtain ⟨hb1, H⟩ := H
      refine pu_iald rfl (pu_L_8 hv0) (Or.inl (pu_L_l8 hv0)) hb1 ?_
      refine pu_go 2 (pc' := 45) (ls' := [.ref v0, .int v1, .int ((pu_wr M v0 10 ((M v0 10) - 1)) (v0 + 8) (((pu_wr M v0 10 ((M v0 10) - 1)) v0 10) - 1 : Int32).toNatClampNeg), mq_un]) (st' := [.ref v0]) (M' := pu_wr M v0 10 ((M v0 10) - 1)) rfl ?_
      refine pu_getf (j := 9) (w := .ref (v0 + 8)) rfl (pu_L_o hv0) (Nat.lt_trans (pu_L_lt hv0) (by decide)) rfl (by decide) rfl rfl ?_
      refine pu_go 1 (pc' := 49) (ls' := [.ref v0, .int v1, .int ((pu_wr M v0 10 ((M v0 10) - 1)) (v0 + 8) (((pu_wr M v0 10 ((M v0 10) - 1)) v0 10) - 1 : Int32).toNatClampNeg), mq_un]) (st' := [.ref v0, .ref (v0 + 8)]) (M' := pu_wr M v0 10 ((M v0 10) - 1)) rfl ?_
      refine pu_getf (j := 10) (w := .int ((pu_wr M v0 10 ((M v0 10) - 1)) v0 10)) rfl (pu_L_o hv0) (Nat.lt_trans (pu_L_lt hv0) (by decide)) rfl (by decide) rfl rfl ?_
      obtain ⟨hb2, H⟩ := H
      refine pu_iald rfl (pu_L_8 hv0) (Or.inl (pu_L_l8 hv0)) hb2 ?_
      refine pu_go 3 (pc' := 57) (ls' := [.ref v0, .int v1, .int ((pu_wr M v0 10 ((M v0 10) - 1)) (v0 + 8) (((pu_wr M v0 10 ((M v0 10) - 1)) v0 10) - 1 : Int32).toNatClampNeg), .int ((pu_wr M v0 10 ((M v0 10) - 1)) (v0 + 8) ((pu_wr M v0 10 ((M v0 10) - 1)) v0 10 : Int32).toNatClampNeg)]) (st' := [.int 47, .int v1]) (M' := pu_wr M v0 10 ((M v0 10) - 1)) rfl ?_
      refine pu_icmp_eq rfl (fun hc => ?_) (fun hc => ?_)
      · replace H := Eq.mp (if_pos hc) H
        refine pu_go 1 (pc' := 67) (ls' := [.ref v0, .int v1, .int ((pu_wr M v0 10 ((M v0 10) - 1)) (v0 + 8) (((pu_wr M v0 10 ((M v0 10) - 1)) v0 10) - 1 : Int32).toNatClampNeg), .int ((pu_wr M v0 10 ((M v0 10) - 1)) (v0 + 8) ((pu_wr M v0 10 ((M v0 10) - 1)) v0 10 : Int32).toNatClampNeg)]) (st' := [.int ((pu_wr M v0 10 ((M v0 10) - 1)) (v0 + 8) ((pu_wr M v0 10 ((M v0 10) - 1)) v0 10 : Int32).toNatClampNeg)]) (M' := pu_wr M v0 10 ((M v0 10) - 1)) rfl ?_
        refine pu_if_ne rfl (fun hc => ?_) (fun hc => ?_)
        · replace H := Eq.mp (if_neg hc) H
          exact H
        · replace H := Eq.mp (if_pos hc) H
          refine pu_go 1 (pc' := 71) (ls' := [.ref v0, .int v1, .int ((pu_wr M v0 10 ((M v0 10) - 1)) (v0 + 8) (((pu_wr M v0 10 ((M v0 10) - 1)) v0 10) - 1 : Int32).toNatClampNeg), .int ((pu_wr M v0 10 ((M v0 10) - 1)) (v0 + 8) ((pu_wr M v0 10 ((M v0 10) - 1)) v0 10 : Int32).toNatClampNeg)]) (st' := [.int 0]) (M' := pu_wr M v0 10 ((M v0 10) - 1)) rfl ?_
          exact pu_ret rfl rfl ⟨_, rfl, H⟩
      · replace H := Eq.mp (if_neg hc) H
        refine pu_go 2 (pc' := 63) (ls' := [.ref v0, .int v1, .int ((pu_wr M v0 10 ((M v0 10) - 1)) (v0 + 8) (((pu_wr M v0 10 ((M v0 10) - 1)) v0 10) - 1 : Int32).toNatClampNeg), .int ((pu_wr M v0 10 ((M v0 10) - 1)) (v0 + 8) ((pu_wr M v0 10 ((M v0 10) - 1)) v0 10 : Int32).toNatClampNeg)]) (st' := [.int 37, .int v1]) (M' := pu_wr M v0 10 ((M v0 10) - 1)) rfl ?_
        refine pu_icmp_ne rfl (fun hc => ?_) (fun hc => ?_)
        · replace H := Eq.mp (if_neg hc) H
          exact H
        · replace H := Eq.mp (if_pos hc) H
          refine pu_go 1 (pc' := 67) (ls' := [.ref v0, .int v1, .int ((pu_wr M v0 10 ((M v0 10) - 1)) (v0 + 8) (((pu_wr M v0 10 ((M v0 10) - 1)) v0 10) - 1 : Int32).toNatClampNeg), .int ((pu_wr M v0 10 ((M v0 10) - 1)) (v0 + 8) ((pu_wr M v0 10 ((M v0 10) - 1)) v0 10 : Int32).toNatClampNeg)]) (st' := [.int ((pu_wr M v0 10 ((M v0 10) - 1)) (v0 + 8) ((pu_wr M v0 10 ((M v0 10) - 1)) v0 10 : Int32).toNatClampNeg)]) (M' := pu_wr M v0 10 ((M v0 10) - 1)) rfl ?_
          refine pu_if_ne rfl (fun hc => ?_) (fun hc => ?_)
          · replace H := Eq.mp (if_neg hc) H
            exact H
          · replace H := Eq.mp (if_pos hc) H
            refine pu_go 1 (pc' := 71) (ls' := [.ref v0, .int v1, .int ((pu_wr M v0 10 ((M v0 10) - 1)) (v0 + 8) (((pu_wr M v0 10 ((M v0 10) - 1)) v0 10) - 1 : Int32).toNatClampNeg), .int ((pu_wr M v0 10 ((M v0 10) - 1)) (v0 + 8) ((pu_wr M v0 10 ((M v0 10) - 1)) v0 10 : Int32).toNatClampNeg)]) (st' := [.int 0]) (M' := pu_wr M v0 10 ((M v0 10) - 1)) rfl ?_
            exact pu_ret rfl rfl ⟨_, rfl, H⟩
    · replace H := Eq.mp (if_neg hc) H
      refine pu_go 1 (pc' := 21) (ls' := [.ref v0, .int v1, mq_un, mq_un]) (st' := [.int 0]) (M' := M) rfl ?_
      exact pu_ret rfl rfl ⟨_, rfl, H⟩
/-! LawReader_read (LTalkingPlots$Law;)I -/
set_option maxRecDepth 20000 in
theorem r_LawReader_read_62 {L d : Nat} {M : pu_M} {Q : Int32 → pu_M → Prop} {v1 : Nat} (hv1 : pu_isL v1) {v2 : Int32} {v3 : Int32} {v4 : Int32} {v5 : Int32} {v6 : Value} (H : (∃ y1, M 49 1 = nI y1 ∧ pu_isL y1 ∧ pu_V L (d + 3) 85 [.ref 1, .int 40] M (fun M3 => pu_V L (d + 3) 48 [.ref 49, .int 1] M3 (fun M4 => pu_V L (d + 3) 85 [.ref 1, .int 41] M4 (fun M5 => (∃ y6, M5 49 1 = nI y6 ∧ pu_isL y6 ∧ pu_V L (d + 3) 38 [.ref y6, .int v4, .int v5, .int (M y1 2)] M5 (fun M8 => pu_I L (d + 3) 87 [.ref 1] M8 (fun x10 M9 => pu_R L (d + 4) 46 16 [.ref 49, .ref v1, .int x10, .int (v3 + 1), .int v4, .int v5, .int (M y1 2)] [] M9 (pu_qI Q))))))))) : pu_R L (d + 4) 46 62 [.ref 49, .ref v1, .int v2, .int v3, .int v4, .int v5, v6] [] M (pu_qI Q) := by
  refine pu_go 1 (pc' := 63) (ls' := [.ref 49, .ref v1, .int v2, .int v3, .int v4, .int v5, v6]) (st' := [.ref 49]) (M' := M) rfl ?_
  obtain ⟨y1, e2, hy1, H⟩ := H
  refine pu_getf (j := 1) rfl rfl (by decide) rfl (by decide) rfl (pu_val_d e2 (Nat.lt_trans (pu_L_lt hy1) (by decide))) ?_
  refine pu_getf (j := 2) (w := .int (M y1 2)) rfl (pu_L_o hy1) (Nat.lt_trans (pu_L_lt hy1) (by decide)) rfl (by decide) rfl rfl ?_
  refine pu_go 4 (pc' := 77) (ls' := [.ref 49, .ref v1, .int v2, .int v3, .int v4, .int v5, .int (M y1 2)]) (st' := [.int 40, .ref 1]) (M' := M) rfl ?_
  refine pu_callV (m' := 85) (ml := 2) (as := [.ref 1, .int 40]) (rest := []) rfl rfl rfl (Nat.le_of_ble_eq_true rfl) H (fun M3 H => ?_)
  show pu_R L (d + 4) 46 80 [.ref 49, .ref v1, .int v2, .int v3, .int v4, .int v5, .int (M y1 2)] [] M3 _
  refine pu_go 2 (pc' := 82) (ls' := [.ref 49, .ref v1, .int v2, .int v3, .int v4, .int v5, .int (M y1 2)]) (st' := [.int 1, .ref 49]) (M' := M3) rfl ?_
  refine pu_callV (m' := 48) (ml := 5) (as := [.ref 49, .int 1]) (rest := []) rfl rfl rfl (Nat.le_of_ble_eq_true rfl) H (fun M4 H => ?_)
  show pu_R L (d + 4) 46 85 [.ref 49, .ref v1, .int v2, .int v3, .int v4, .int v5, .int (M y1 2)] [] M4 _
  refine pu_go 3 (pc' := 91) (ls' := [.ref 49, .ref v1, .int v2, .int v3, .int v4, .int v5, .int (M y1 2)]) (st' := [.int 41, .ref 1]) (M' := M4) rfl ?_
  refine pu_callV (m' := 85) (ml := 2) (as := [.ref 1, .int 41]) (rest := []) rfl rfl rfl (Nat.le_of_ble_eq_true rfl) H (fun M5 H => ?_)
  show pu_R L (d + 4) 46 94 [.ref 49, .ref v1, .int v2, .int v3, .int v4, .int v5, .int (M y1 2)] [] M5 _
  refine pu_go 1 (pc' := 95) (ls' := [.ref 49, .ref v1, .int v2, .int v3, .int v4, .int v5, .int (M y1 2)]) (st' := [.ref 49]) (M' := M5) rfl ?_
  obtain ⟨y6, e7, hy6, H⟩ := H
  refine pu_getf (j := 1) rfl rfl (by decide) rfl (by decide) rfl (pu_val_d e7 (Nat.lt_trans (pu_L_lt hy6) (by decide))) ?_
  refine pu_go 3 (pc' := 104) (ls' := [.ref 49, .ref v1, .int v2, .int v3, .int v4, .int v5, .int (M y1 2)]) (st' := [.int (M y1 2), .int v5, .int v4, .ref y6]) (M' := M5) rfl ?_
  refine pu_callV (m' := 38) (ml := 4) (as := [.ref y6, .int v4, .int v5, .int (M y1 2)]) (rest := []) rfl (pu_virt (pu_L_o hy6) (Nat.lt_trans (pu_L_lt hy6) (by decide)) ⟨Nat.le_of_ble_eq_true rfl, Nat.le_of_ble_eq_true rfl⟩ rfl rfl) rfl (Nat.le_of_ble_eq_true rfl) H (fun M8 H => ?_)
  show pu_R L (d + 4) 46 107 [.ref 49, .ref v1, .int v2, .int v3, .int v4, .int v5, .int (M y1 2)] [] M8 _
  refine pu_go 2 (pc' := 111) (ls' := [.ref 49, .ref v1, .int v2, .int v3, .int v4, .int v5, .int (M y1 2)]) (st' := [.ref 1]) (M' := M8) rfl ?_
  refine pu_callI (m' := 87) (ml := 1) (as := [.ref 1]) (rest := []) rfl rfl rfl (Nat.le_of_ble_eq_true rfl) H (fun x10 M9 H => ?_)
  show pu_R L (d + 4) 46 114 [.ref 49, .ref v1, .int v2, .int v3, .int v4, .int v5, .int (M y1 2)] [.int x10] M9 _
  refine pu_go 3 (pc' := 16) (ls' := [.ref 49, .ref v1, .int x10, .int (v3 + 1), .int v4, .int v5, .int (M y1 2)]) (st' := []) (M' := M9) rfl ?_
  exact H
set_option maxRecDepth 20000 in
theorem r_LawReader_read_16 {L d : Nat} {M : pu_M} {Q : Int32 → pu_M → Prop} {v1 : Nat} (hv1 : pu_isL v1) {v2 : Int32} {v3 : Int32} {v4 : Value} {v5 : Value} {v6 : Value} (H : (if v2 = 0 then (∃ y1, M 49 1 = nI y1 ∧ pu_isL y1 ∧ pu_I L (d + 3) 89 [.ref 1, .int (M y1 7)] M (fun x4 M3 => Q x4 M3)) else (if 16 < v3 then (∃ y5, M 49 1 = nI y5 ∧ pu_isL y5 ∧ pu_I L (d + 3) 89 [.ref 1, .int (M y5 7)] M (fun x8 M7 => Q x8 M7)) else pu_V L (d + 3) 47 [.ref 49, .int (M 1 2)] M (fun M9 => (∃ y10, M9 49 1 = nI y10 ∧ pu_isL y10 ∧ (if (M 1 2) = 113 then pu_R L (d + 4) 46 62 [.ref 49, .ref v1, .int v2, .int v3, .int (M 1 2), .int (M9 y10 2), v6] [] M9 (pu_qI Q) else pu_V L (d + 3) 50 [.ref 49, .int 0] M9 (fun M12 => pu_R L (d + 4) 46 62 [.ref 49, .ref v1, .int v2, .int v3, .int (M 1 2), .int (M9 y10 2), v6] [] M12 (pu_qI Q)))))))) : pu_R L (d + 4) 46 16 [.ref 49, .ref v1, .int v2, .int v3, v4, v5, v6] [] M (pu_qI Q) := by
  refine pu_go 1 (pc' := 17) (ls' := [.ref 49, .ref v1, .int v2, .int v3, v4, v5, v6]) (st' := [.int v2]) (M' := M) rfl ?_
  refine pu_if_eq rfl (fun hc => ?_) (fun hc => ?_)
  · replace H := Eq.mp (if_pos hc) H
    refine pu_go 3 (pc' := 126) (ls' := [.ref 49, .ref v1, .int v2, .int v3, v4, v5, v6]) (st' := [.ref 49, .ref 1]) (M' := M) rfl ?_
    obtain ⟨y1, e2, hy1, H⟩ := H
    refine pu_getf (j := 1) rfl rfl (by decide) rfl (by decide) rfl (pu_val_d e2 (Nat.lt_trans (pu_L_lt hy1) (by decide))) ?_
    refine pu_getf (j := 7) (w := .int (M y1 7)) rfl (pu_L_o hy1) (Nat.lt_trans (pu_L_lt hy1) (by decide)) rfl (by decide) rfl rfl ?_
    refine pu_callI (m' := 89) (ml := 2) (as := [.ref 1, .int (M y1 7)]) (rest := []) rfl rfl rfl (Nat.le_of_ble_eq_true rfl) H (fun x4 M3 H => ?_)
    show pu_R L (d + 4) 46 135 [.ref 49, .ref v1, .int v2, .int v3, v4, v5, v6] [.int x4] M3 _
    exact pu_ret rfl rfl ⟨_, rfl, H⟩
  · replace H := Eq.mp (if_neg hc) H
    refine pu_go 2 (pc' := 23) (ls' := [.ref 49, .ref v1, .int v2, .int v3, v4, v5, v6]) (st' := [.int 16, .int v3]) (M' := M) rfl ?_
    refine pu_icmp_gt rfl (fun hc => ?_) (fun hc => ?_)
    · replace H := Eq.mp (if_pos hc) H
      refine pu_go 3 (pc' := 126) (ls' := [.ref 49, .ref v1, .int v2, .int v3, v4, v5, v6]) (st' := [.ref 49, .ref 1]) (M' := M) rfl ?_
      obtain ⟨y5, e6, hy5, H⟩ := H
      refine pu_getf (j := 1) rfl rfl (by decide) rfl (by decide) rfl (pu_val_d e6 (Nat.lt_trans (pu_L_lt hy5) (by decide))) ?_
      refine pu_getf (j := 7) (w := .int (M y5 7)) rfl (pu_L_o hy5) (Nat.lt_trans (pu_L_lt hy5) (by decide)) rfl (by decide) rfl rfl ?_
      refine pu_callI (m' := 89) (ml := 2) (as := [.ref 1, .int (M y5 7)]) (rest := []) rfl rfl rfl (Nat.le_of_ble_eq_true rfl) H (fun x8 M7 H => ?_)
      show pu_R L (d + 4) 46 135 [.ref 49, .ref v1, .int v2, .int v3, v4, v5, v6] [.int x8] M7 _
      exact pu_ret rfl rfl ⟨_, rfl, H⟩
    · replace H := Eq.mp (if_neg hc) H
      refine pu_go 6 (pc' := 38) (ls' := [.ref 49, .ref v1, .int v2, .int v3, .int (M 1 2), v5, v6]) (st' := [.int (M 1 2), .ref 49]) (M' := M) rfl ?_
      refine pu_callV (m' := 47) (ml := 3) (as := [.ref 49, .int (M 1 2)]) (rest := []) rfl rfl rfl (Nat.le_of_ble_eq_true rfl) H (fun M9 H => ?_)
      show pu_R L (d + 4) 46 41 [.ref 49, .ref v1, .int v2, .int v3, .int (M 1 2), v5, v6] [] M9 _
      refine pu_go 1 (pc' := 42) (ls' := [.ref 49, .ref v1, .int v2, .int v3, .int (M 1 2), v5, v6]) (st' := [.ref 49]) (M' := M9) rfl ?_
      obtain ⟨y10, e11, hy10, H⟩ := H
      refine pu_getf (j := 1) rfl rfl (by decide) rfl (by decide) rfl (pu_val_d e11 (Nat.lt_trans (pu_L_lt hy10) (by decide))) ?_
      refine pu_getf (j := 2) (w := .int (M9 y10 2)) rfl (pu_L_o hy10) (Nat.lt_trans (pu_L_lt hy10) (by decide)) rfl (by decide) rfl rfl ?_
      refine pu_go 3 (pc' := 54) (ls' := [.ref 49, .ref v1, .int v2, .int v3, .int (M 1 2), .int (M9 y10 2), v6]) (st' := [.int 113, .int (M 1 2)]) (M' := M9) rfl ?_
      refine pu_icmp_eq rfl (fun hc => ?_) (fun hc => ?_)
      · replace H := Eq.mp (if_pos hc) H
        exact H
      · replace H := Eq.mp (if_neg hc) H
        refine pu_go 2 (pc' := 59) (ls' := [.ref 49, .ref v1, .int v2, .int v3, .int (M 1 2), .int (M9 y10 2), v6]) (st' := [.int 0, .ref 49]) (M' := M9) rfl ?_
        refine pu_callV (m' := 50) (ml := 6) (as := [.ref 49, .int 0]) (rest := []) rfl rfl rfl (Nat.le_of_ble_eq_true rfl) H (fun M12 H => ?_)
        show pu_R L (d + 4) 46 62 [.ref 49, .ref v1, .int v2, .int v3, .int (M 1 2), .int (M9 y10 2), v6] [] M12 _
        exact H
set_option maxRecDepth 20000 in
theorem r_LawReader_read {L d : Nat} {M : pu_M} {Q : Int32 → pu_M → Prop} {v1 : Nat} (hv1 : pu_isL v1) (H : (∃ y1, (pu_wr M 49 1 (nI v1)) 49 1 = nI y1 ∧ pu_isL y1 ∧ pu_V L (d + 3) 35 [.ref y1] (pu_wr M 49 1 (nI v1)) (fun M3 => pu_R L (d + 4) 46 16 [.ref 49, .ref v1, .int 1, .int 0, mq_un, mq_un, mq_un] [] M3 (pu_qI Q)))) : pu_I L (d + 4) 46 [.ref 49, .ref v1] M Q := by
  show pu_R L (d + 4) 46 0 [.ref 49, .ref v1, mq_un, mq_un, mq_un, mq_un, mq_un] [] M (pu_qI Q)
  refine pu_go 2 (pc' := 2) (ls' := [.ref 49, .ref v1, mq_un, mq_un, mq_un, mq_un, mq_un]) (st' := [.ref v1, .ref 49]) (M' := M) rfl ?_
  refine pu_putf (j := 1) (z := nI v1) rfl rfl (by decide) rfl (by decide) rfl rfl (pu_put_hd (Nat.lt_trans (pu_L_lt hv1) (by decide))) ?_
  refine pu_go 1 (pc' := 6) (ls' := [.ref 49, .ref v1, mq_un, mq_un, mq_un, mq_un, mq_un]) (st' := [.ref 49]) (M' := pu_wr M 49 1 (nI v1)) rfl ?_
  obtain ⟨y1, e2, hy1, H⟩ := H
  refine pu_getf (j := 1) rfl rfl (by decide) rfl (by decide) rfl (pu_val_d e2 (Nat.lt_trans (pu_L_lt hy1) (by decide))) ?_
  refine pu_callV (m' := 35) (ml := 1) (as := [.ref y1]) (rest := []) rfl (pu_virt (pu_L_o hy1) (Nat.lt_trans (pu_L_lt hy1) (by decide)) ⟨Nat.le_of_ble_eq_true rfl, Nat.le_of_ble_eq_true rfl⟩ rfl rfl) rfl (Nat.le_of_ble_eq_true rfl) H (fun M3 H => ?_)
  show pu_R L (d + 4) 46 12 [.ref 49, .ref v1, mq_un, mq_un, mq_un, mq_un, mq_un] [] M3 _
  refine pu_go 4 (pc' := 16) (ls' := [.ref 49, .ref v1, .int 1, .int 0, mq_un, mq_un, mq_un]) (st' := []) (M' := M3) rfl ?_
  exact H
