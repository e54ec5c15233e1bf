/-! x_alike (II)I -/
set_option maxRecDepth 20000 in
theorem r_x_alike_32 {L d : Nat} {M : pu_M} {Q : Int32 → pu_M → Prop} {v1 : Int32} {v2 : Int32} {v3 : Int32} {v4 : Int32} {v5 : Int32} {v6 : Value} (H : (if 16 ≤ v5 then (if v2 = 0 then Q v3 M else Q v4 M) else (if v5 = v1 then pu_R L (d + 3) 146 32 [.ref 0, .int v1, .int v2, .int v3, .int v4, .int (v5 + 1), v6] [] M (pu_qI Q) else (∃ y1, M 0 9 = nI y1 ∧ pu_isY y1 ∧ pu_I L (d + 2) 100 [.ref y1, .int v5] M (fun x4 M3 => (if x4 = 0 then pu_R L (d + 3) 146 32 [.ref 0, .int v1, .int v2, .int v3, .int v4, .int (v5 + 1), v6] [] M3 (pu_qI Q) else (∃ y5, M3 0 9 = nI y5 ∧ pu_isY y5 ∧ (mq_inb v1 16 = true ∧ (∃ y8, M3 0 9 = nI y8 ∧ pu_isY y8 ∧ (mq_inb v5 16 = true ∧ pu_I L (d + 2) 260 [.int ((M3 (y5 + 1) v1.toNatClampNeg) ^^^ (M3 (y8 + 1) v5.toNatClampNeg))] M3 (fun x12 M11 => (if v3 = ((-2)) then pu_R L (d + 3) 146 32 [.ref 0, .int v1, .int v2, .int v5, .int x12, .int (v5 + 1), .int x12] [] M11 (pu_qI Q) else (if v4 ≤ x12 then pu_R L (d + 3) 146 32 [.ref 0, .int v1, .int v2, .int v3, .int v4, .int (v5 + 1), .int x12] [] M11 (pu_qI Q) else pu_R L (d + 3) 146 32 [.ref 0, .int v1, .int v2, .int v5, .int x12, .int (v5 + 1), .int x12] [] M11 (pu_qI Q)))))))))))))) : pu_R L (d + 3) 146 32 [.ref 0, .int v1, .int v2, .int v3, .int v4, .int v5, v6] [] M (pu_qI Q) := by
  refine pu_go 2 (pc' := 36) (ls' := [.ref 0, .int v1, .int v2, .int v3, .int v4, .int v5, v6]) (st' := [.int 16, .int v5]) (M' := M) rfl ?_
  refine pu_icmp_ge rfl (fun hc => ?_) (fun hc => ?_)
  · replace H := Eq.mp (if_pos hc) H
    refine pu_go 1 (pc' := 109) (ls' := [.ref 0, .int v1, .int v2, .int v3, .int v4, .int v5, v6]) (st' := [.int v2]) (M' := M) rfl ?_
    refine pu_if_ne rfl (fun hc => ?_) (fun hc => ?_)
    · replace H := Eq.mp (if_neg hc) H
      refine pu_go 1 (pc' := 118) (ls' := [.ref 0, .int v1, .int v2, .int v3, .int v4, .int v5, v6]) (st' := [.int v4]) (M' := M) rfl ?_
      exact pu_ret rfl rfl ⟨_, rfl, H⟩
    · replace H := Eq.mp (if_pos hc) H
      refine pu_go 2 (pc' := 118) (ls' := [.ref 0, .int v1, .int v2, .int v3, .int v4, .int v5, v6]) (st' := [.int v3]) (M' := M) rfl ?_
      exact pu_ret rfl rfl ⟨_, rfl, H⟩
  · replace H := Eq.mp (if_neg hc) H
    refine pu_go 2 (pc' := 42) (ls' := [.ref 0, .int v1, .int v2, .int v3, .int v4, .int v5, v6]) (st' := [.int v1, .int v5]) (M' := M) rfl ?_
    refine pu_icmp_eq rfl (fun hc => ?_) (fun hc => ?_)
    · replace H := Eq.mp (if_pos hc) H
      refine pu_go 2 (pc' := 32) (ls' := [.ref 0, .int v1, .int v2, .int v3, .int v4, .int (v5 + 1), v6]) (st' := []) (M' := M) rfl ?_
      exact H
    · replace H := Eq.mp (if_neg hc) H
      refine pu_go 1 (pc' := 46) (ls' := [.ref 0, .int v1, .int v2, .int v3, .int v4, .int v5, v6]) (st' := [.ref 0]) (M' := M) rfl ?_
      obtain ⟨y1, e2, hy1, H⟩ := H
      refine pu_getf (j := 9) rfl rfl (by decide) rfl (by decide) rfl (pu_val_d e2 (Nat.lt_trans (pu_Y_lt hy1) (by decide))) ?_
      refine pu_go 1 (pc' := 51) (ls' := [.ref 0, .int v1, .int v2, .int v3, .int v4, .int v5, v6]) (st' := [.int v5, .ref y1]) (M' := M) rfl ?_
      refine pu_callI (m' := 100) (ml := 2) (as := [.ref y1, .int v5]) (rest := []) rfl (pu_virt (pu_Y_o hy1) (Nat.lt_trans (pu_Y_lt hy1) (by decide)) ⟨Nat.le_of_ble_eq_true rfl, Nat.le_of_ble_eq_true rfl⟩ rfl rfl) rfl (Nat.le_of_ble_eq_true rfl) H (fun x4 M3 H => ?_)
      show pu_R L (d + 3) 146 54 [.ref 0, .int v1, .int v2, .int v3, .int v4, .int v5, v6] [.int x4] M3 _
      refine pu_if_eq rfl (fun hc => ?_) (fun hc => ?_)
      · replace H := Eq.mp (if_pos hc) H
        refine pu_go 2 (pc' := 32) (ls' := [.ref 0, .int v1, .int v2, .int v3, .int v4, .int (v5 + 1), v6]) (st' := []) (M' := M3) rfl ?_
        exact H
      · replace H := Eq.mp (if_neg hc) H
        refine pu_go 1 (pc' := 58) (ls' := [.ref 0, .int v1, .int v2, .int v3, .int v4, .int v5, v6]) (st' := [.ref 0]) (M' := M3) rfl ?_
        obtain ⟨y5, e6, hy5, H⟩ := H
        refine pu_getf (j := 9) rfl rfl (by decide) rfl (by decide) rfl (pu_val_d e6 (Nat.lt_trans (pu_Y_lt hy5) (by decide))) ?_
        refine pu_getf (j := 0) (w := .ref (y5 + 1)) rfl (pu_Y_o hy5) (Nat.lt_trans (pu_Y_lt hy5) (by decide)) rfl (by decide) rfl rfl ?_
        refine pu_go 1 (pc' := 65) (ls' := [.ref 0, .int v1, .int v2, .int v3, .int v4, .int v5, v6]) (st' := [.int v1, .ref (y5 + 1)]) (M' := M3) rfl ?_
        obtain ⟨hb7, H⟩ := H
        refine pu_iald rfl (pu_Y_1 hy5) (Or.inl (pu_Y_l1 hy5)) hb7 ?_
        refine pu_go 1 (pc' := 67) (ls' := [.ref 0, .int v1, .int v2, .int v3, .int v4, .int v5, v6]) (st' := [.ref 0, .int (M3 (y5 + 1) v1.toNatClampNeg)]) (M' := M3) rfl ?_
        obtain ⟨y8, e9, hy8, H⟩ := H
        refine pu_getf (j := 9) rfl rfl (by decide) rfl (by decide) rfl (pu_val_d e9 (Nat.lt_trans (pu_Y_lt hy8) (by decide))) ?_
        refine pu_getf (j := 0) (w := .ref (y8 + 1)) rfl (pu_Y_o hy8) (Nat.lt_trans (pu_Y_lt hy8) (by decide)) rfl (by decide) rfl rfl ?_
        refine pu_go 1 (pc' := 75) (ls' := [.ref 0, .int v1, .int v2, .int v3, .int v4, .int v5, v6]) (st' := [.int v5, .ref (y8 + 1), .int (M3 (y5 + 1) v1.toNatClampNeg)]) (M' := M3) rfl ?_
        obtain ⟨hb10, H⟩ := H
        refine pu_iald rfl (pu_Y_1 hy8) (Or.inl (pu_Y_l1 hy8)) hb10 ?_
        refine pu_go 1 (pc' := 77) (ls' := [.ref 0, .int v1, .int v2, .int v3, .int v4, .int v5, v6]) (st' := [.int ((M3 (y5 + 1) v1.toNatClampNeg) ^^^ (M3 (y8 + 1) v5.toNatClampNeg))]) (M' := M3) rfl ?_
        refine pu_callI (m' := 260) (ml := 1) (as := [.int ((M3 (y5 + 1) v1.toNatClampNeg) ^^^ (M3 (y8 + 1) v5.toNatClampNeg))]) (rest := []) rfl rfl rfl (Nat.le_of_ble_eq_true rfl) H (fun x12 M11 H => ?_)
        show pu_R L (d + 3) 146 80 [.ref 0, .int v1, .int v2, .int v3, .int v4, .int v5, v6] [.int x12] M11 _
        refine pu_go 3 (pc' := 85) (ls' := [.ref 0, .int v1, .int v2, .int v3, .int v4, .int v5, .int x12]) (st' := [.int ((-2)), .int v3]) (M' := M11) rfl ?_
        refine pu_icmp_eq rfl (fun hc => ?_) (fun hc => ?_)
        · replace H := Eq.mp (if_pos hc) H
          refine pu_go 6 (pc' := 32) (ls' := [.ref 0, .int v1, .int v2, .int v5, .int x12, .int (v5 + 1), .int x12]) (st' := []) (M' := M11) rfl ?_
          exact H
        · replace H := Eq.mp (if_neg hc) H
          refine pu_go 2 (pc' := 92) (ls' := [.ref 0, .int v1, .int v2, .int v3, .int v4, .int v5, .int x12]) (st' := [.int v4, .int x12]) (M' := M11) rfl ?_
          refine pu_icmp_ge rfl (fun hc => ?_) (fun hc => ?_)
          · replace H := Eq.mp (if_pos hc) H
            refine pu_go 2 (pc' := 32) (ls' := [.ref 0, .int v1, .int v2, .int v3, .int v4, .int (v5 + 1), .int x12]) (st' := []) (M' := M11) rfl ?_
            exact H
          · replace H := Eq.mp (if_neg hc) H
            refine pu_go 6 (pc' := 32) (ls' := [.ref 0, .int v1, .int v2, .int v5, .int x12, .int (v5 + 1), .int x12]) (st' := []) (M' := M11) rfl ?_
            exact H
set_option maxRecDepth 20000 in
theorem r_x_alike {L d : Nat} {M : pu_M} {Q : Int32 → pu_M → Prop} {v1 : Int32} {v2 : Int32} (H : (∃ y1, M 0 9 = nI y1 ∧ pu_isY y1 ∧ pu_I L (d + 2) 100 [.ref y1, .int v1] M (fun x4 M3 => (if x4 = 0 then Q ((-1)) M3 else (if v2 < 0 then Q ((-1)) M3 else (if v2 ≤ 1 then pu_R L (d + 3) 146 32 [.ref 0, .int v1, .int v2, .int ((-2)), .int ((-2)), .int 0, mq_un] [] M3 (pu_qI Q) else Q ((-1)) M3)))))) : pu_I L (d + 3) 146 [.ref 0, .int v1, .int v2] M Q := by
  show pu_R L (d + 3) 146 0 [.ref 0, .int v1, .int v2, mq_un, mq_un, mq_un, mq_un] [] M (pu_qI Q)
  refine pu_go 1 (pc' := 1) (ls' := [.ref 0, .int v1, .int v2, mq_un, mq_un, mq_un, mq_un]) (st' := [.ref 0]) (M' := M) rfl ?_
  obtain ⟨y1, e2, hy1, H⟩ := H
  refine pu_getf (j := 9) rfl rfl (by decide) rfl (by decide) rfl (pu_val_d e2 (Nat.lt_trans (pu_Y_lt hy1) (by decide))) ?_
  refine pu_go 1 (pc' := 5) (ls' := [.ref 0, .int v1, .int v2, mq_un, mq_un, mq_un, mq_un]) (st' := [.int v1, .ref y1]) (M' := M) rfl ?_
  refine pu_callI (m' := 100) (ml := 2) (as := [.ref y1, .int v1]) (rest := []) rfl (pu_virt (pu_Y_o hy1) (Nat.lt_trans (pu_Y_lt hy1) (by decide)) ⟨Nat.le_of_ble_eq_true rfl, Nat.le_of_ble_eq_true rfl⟩ rfl rfl) rfl (Nat.le_of_ble_eq_true rfl) H (fun x4 M3 H => ?_)
  show pu_R L (d + 3) 146 8 [.ref 0, .int v1, .int v2, mq_un, mq_un, mq_un, mq_un] [.int x4] M3 _
  refine pu_if_eq rfl (fun hc => ?_) (fun hc => ?_)
  · replace H := Eq.mp (if_pos hc) H
    refine pu_go 1 (pc' := 21) (ls' := [.ref 0, .int v1, .int v2, mq_un, mq_un, mq_un, mq_un]) (st' := [.int ((-1))]) (M' := M3) rfl ?_
    exact pu_ret rfl rfl ⟨_, rfl, H⟩
  · replace H := Eq.mp (if_neg hc) H
    refine pu_go 1 (pc' := 12) (ls' := [.ref 0, .int v1, .int v2, mq_un, mq_un, mq_un, mq_un]) (st' := [.int v2]) (M' := M3) rfl ?_
    refine pu_if_lt rfl (fun hc => ?_) (fun hc => ?_)
    · replace H := Eq.mp (if_pos hc) H
      refine pu_go 1 (pc' := 21) (ls' := [.ref 0, .int v1, .int v2, mq_un, mq_un, mq_un, mq_un]) (st' := [.int ((-1))]) (M' := M3) rfl ?_
      exact pu_ret rfl rfl ⟨_, rfl, H⟩
    · replace H := Eq.mp (if_neg hc) H
      refine pu_go 2 (pc' := 17) (ls' := [.ref 0, .int v1, .int v2, mq_un, mq_un, mq_un, mq_un]) (st' := [.int 1, .int v2]) (M' := M3) rfl ?_
      refine pu_icmp_le rfl (fun hc => ?_) (fun hc => ?_)
      · replace H := Eq.mp (if_pos hc) H
        refine pu_go 6 (pc' := 32) (ls' := [.ref 0, .int v1, .int v2, .int ((-2)), .int ((-2)), .int 0, mq_un]) (st' := []) (M' := M3) rfl ?_
        exact H
      · replace H := Eq.mp (if_neg hc) H
        refine pu_go 1 (pc' := 21) (ls' := [.ref 0, .int v1, .int v2, mq_un, mq_un, mq_un, mq_un]) (st' := [.int ((-1))]) (M' := M3) rfl ?_
        exact pu_ret rfl rfl ⟨_, rfl, H⟩
/-! x_seed (I)Z -/
set_option maxRecDepth 20000 in
theorem r_x_seed {L d : Nat} {M : pu_M} {Q : Int32 → pu_M → Prop} {v1 : Int32} (H : (if v1 < 0 then Q 0 M else (if v1 ≤ 65535 then (∃ y1, M 0 9 = nI y1 ∧ pu_isY y1 ∧ Q 1 (pu_wr M y1 6 v1)) else Q 0 M))) : pu_I L (d + 1) 147 [.ref 0, .int v1] M Q := by
  show pu_R L (d + 1) 147 0 [.ref 0, .int v1] [] M (pu_qI Q)
  refine pu_go 1 (pc' := 1) (ls' := [.ref 0, .int v1]) (st' := [.int v1]) (M' := M) rfl ?_
  refine pu_if_lt rfl (fun hc => ?_) (fun hc => ?_)
  · replace H := Eq.mp (if_pos hc) H
    refine pu_go 1 (pc' := 11) (ls' := [.ref 0, .int v1]) (st' := [.int 0]) (M' := M) rfl ?_
    exact pu_ret rfl rfl ⟨_, rfl, H⟩
  · replace H := Eq.mp (if_neg hc) H
    refine pu_go 2 (pc' := 7) (ls' := [.ref 0, .int v1]) (st' := [.int 65535, .int v1]) (M' := M) rfl ?_
    refine pu_icmp_le rfl (fun hc => ?_) (fun hc => ?_)
    · replace H := Eq.mp (if_pos hc) H
      refine pu_go 1 (pc' := 13) (ls' := [.ref 0, .int v1]) (st' := [.ref 0]) (M' := M) rfl ?_
      obtain ⟨y1, e2, hy1, H⟩ := H
      refine pu_getf (j := 9) rfl rfl (by decide) rfl (by decide) rfl (pu_val_d e2 (Nat.lt_trans (pu_Y_lt hy1) (by decide))) ?_
      refine pu_go 1 (pc' := 17) (ls' := [.ref 0, .int v1]) (st' := [.int v1, .ref y1]) (M' := M) rfl ?_
      refine pu_putf (j := 6) (z := v1) rfl (pu_Y_o hy1) (Nat.lt_trans (pu_Y_lt hy1) (by decide)) rfl (by decide) rfl rfl pu_put_hw ?_
      refine pu_go 1 (pc' := 21) (ls' := [.ref 0, .int v1]) (st' := [.int 1]) (M' := pu_wr M y1 6 v1) rfl ?_
      exact pu_ret rfl rfl ⟨_, rfl, H⟩
    · replace H := Eq.mp (if_neg hc) H
      refine pu_go 1 (pc' := 11) (ls' := [.ref 0, .int v1]) (st' := [.int 0]) (M' := M) rfl ?_
      exact pu_ret rfl rfl ⟨_, rfl, H⟩
/-! x_keep ()I -/
set_option maxRecDepth 20000 in
theorem r_x_keep {L d : Nat} {M : pu_M} {Q : Int32 → pu_M → Prop}  (H : (∃ y1, M 0 9 = nI y1 ∧ pu_isY y1 ∧ pu_V L (d + 1) 99 [.ref 16, .ref y1] M (fun M3 => (∃ y4, (pu_wr M3 0 8 1) 0 9 = nI y4 ∧ pu_isY y4 ∧ Q ((pu_wr M3 0 8 1) y4 5) (pu_wr M3 0 8 1))))) : pu_I L (d + 2) 148 [.ref 0] M Q := by
  show pu_R L (d + 2) 148 0 [.ref 0] [] M (pu_qI Q)
  refine pu_go 3 (pc' := 5) (ls' := [.ref 0]) (st' := [.ref 0, .ref 16]) (M' := M) rfl ?_
  obtain ⟨y1, e2, hy1, H⟩ := H
  refine pu_getf (j := 9) rfl rfl (by decide) rfl (by decide) rfl (pu_val_d e2 (Nat.lt_trans (pu_Y_lt hy1) (by decide))) ?_
  refine pu_callV (m' := 99) (ml := 2) (as := [.ref 16, .ref y1]) (rest := []) rfl rfl rfl (Nat.le_of_ble_eq_true rfl) H (fun M3 H => ?_)
  show pu_R L (d + 2) 148 11 [.ref 0] [] M3 _
  refine pu_go 2 (pc' := 13) (ls' := [.ref 0]) (st' := [.int 1, .ref 0]) (M' := M3) rfl ?_
  refine pu_putf (j := 8) (z := 1) rfl rfl (by decide) rfl (by decide) rfl rfl pu_put_hw ?_
  refine pu_go 1 (pc' := 17) (ls' := [.ref 0]) (st' := [.ref 0]) (M' := pu_wr M3 0 8 1) rfl ?_
  obtain ⟨y4, e5, hy4, H⟩ := H
  refine pu_getf (j := 9) rfl rfl (by decide) rfl (by decide) rfl (pu_val_d e5 (Nat.lt_trans (pu_Y_lt hy4) (by decide))) ?_
  refine pu_getf (j := 5) (w := .int ((pu_wr M3 0 8 1) y4 5)) rfl (pu_Y_o hy4) (Nat.lt_trans (pu_Y_lt hy4) (by decide)) rfl (by decide) rfl rfl ?_
  exact pu_ret rfl rfl ⟨_, rfl, H⟩
/-! x_undo ()Z -/
set_option maxRecDepth 20000 in
theorem r_x_undo {L d : Nat} {M : pu_M} {Q : Int32 → pu_M → Prop}  (H : (if (M 0 8) = 0 then Q 0 M else (∃ y1, M 0 9 = nI y1 ∧ pu_isY y1 ∧ pu_V L (d + 1) 99 [.ref y1, .ref 16] M (fun M3 => Q 1 M3)))) : pu_I L (d + 2) 149 [.ref 0] M Q := by
  show pu_R L (d + 2) 149 0 [.ref 0] [] M (pu_qI Q)
  refine pu_go 2 (pc' := 4) (ls' := [.ref 0]) (st' := [.int (M 0 8)]) (M' := M) rfl ?_
  refine pu_if_ne rfl (fun hc => ?_) (fun hc => ?_)
  · replace H := Eq.mp (if_neg hc) H
    refine pu_go 1 (pc' := 10) (ls' := [.ref 0]) (st' := [.ref 0]) (M' := M) rfl ?_
    obtain ⟨y1, e2, hy1, H⟩ := H
    refine pu_getf (j := 9) rfl rfl (by decide) rfl (by decide) rfl (pu_val_d e2 (Nat.lt_trans (pu_Y_lt hy1) (by decide))) ?_
    refine pu_go 2 (pc' := 17) (ls' := [.ref 0]) (st' := [.ref 16, .ref y1]) (M' := M) rfl ?_
    refine pu_callV (m' := 99) (ml := 2) (as := [.ref y1, .ref 16]) (rest := []) rfl (pu_virt (pu_Y_o hy1) (Nat.lt_trans (pu_Y_lt hy1) (by decide)) ⟨Nat.le_of_ble_eq_true rfl, Nat.le_of_ble_eq_true rfl⟩ rfl rfl) rfl (Nat.le_of_ble_eq_true rfl) H (fun M3 H => ?_)
    show pu_R L (d + 2) 149 20 [.ref 0] [] M3 _
    refine pu_go 1 (pc' := 21) (ls' := [.ref 0]) (st' := [.int 1]) (M' := M3) rfl ?_
    exact pu_ret rfl rfl ⟨_, rfl, H⟩
  · replace H := Eq.mp (if_pos hc) H
    refine pu_go 1 (pc' := 8) (ls' := [.ref 0]) (st' := [.int 0]) (M' := M) rfl ?_
    exact pu_ret rfl rfl ⟨_, rfl, H⟩
/-! x_check (I)I -/
set_option maxRecDepth 20000 in
theorem r_x_check_19 {L d : Nat} {M : pu_M} {Q : Int32 → pu_M → Prop} {v1 : Int32} {v2 : Int32} {v3 : Value} (H : (if v1 ≤ v2 then Q ((-1)) M else (if 16 ≤ v2 then Q ((-1)) M else (∃ y1, M 0 9 = nI y1 ∧ pu_isY y1 ∧ pu_I L (d + 2) 100 [.ref y1, .int v2] M (fun x4 M3 => (if x4 = 0 then pu_I L (d + 2) 82 [.ref 1, .int v2] M3 (fun x6 M5 => (if x6 = 0 then pu_R L (d + 3) 150 19 [.ref 0, .int v1, .int (v2 + 1), .int 0] [] M5 (pu_qI Q) else Q v2 M5)) else (∃ y7, M3 0 9 = nI y7 ∧ pu_isY y7 ∧ (mq_inb v2 16 = true ∧ pu_I L (d + 2) 82 [.ref 1, .int v2] M3 (fun x11 M10 => (if x11 = (M3 (y7 + 2) v2.toNatClampNeg) then pu_R L (d + 3) 150 19 [.ref 0, .int v1, .int (v2 + 1), .int (M3 (y7 + 2) v2.toNatClampNeg)] [] M10 (pu_qI Q) else Q v2 M10)))))))))) : pu_R L (d + 3) 150 19 [.ref 0, .int v1, .int v2, v3] [] M (pu_qI Q) := by
  refine pu_go 2 (pc' := 21) (ls' := [.ref 0, .int v1, .int v2, v3]) (st' := [.int v1, .int v2]) (M' := M) rfl ?_
  refine pu_icmp_ge rfl (fun hc => ?_) (fun hc => ?_)
  · replace H := Eq.mp (if_pos hc) H
    refine pu_go 1 (pc' := 76) (ls' := [.ref 0, .int v1, .int v2, v3]) (st' := [.int ((-1))]) (M' := M) rfl ?_
    exact pu_ret rfl rfl ⟨_, rfl, H⟩
  · replace H := Eq.mp (if_neg hc) H
    refine pu_go 2 (pc' := 27) (ls' := [.ref 0, .int v1, .int v2, v3]) (st' := [.int 16, .int v2]) (M' := M) rfl ?_
    refine pu_icmp_ge rfl (fun hc => ?_) (fun hc => ?_)
    · replace H := Eq.mp (if_pos hc) H
      refine pu_go 1 (pc' := 76) (ls' := [.ref 0, .int v1, .int v2, v3]) (st' := [.int ((-1))]) (M' := M) rfl ?_
      exact pu_ret rfl rfl ⟨_, rfl, H⟩
    · replace H := Eq.mp (if_neg hc) H
      refine pu_go 1 (pc' := 31) (ls' := [.ref 0, .int v1, .int v2, v3]) (st' := [.ref 0]) (M' := M) rfl ?_
      obtain ⟨y1, e2, hy1, H⟩ := H
      refine pu_getf (j := 9) rfl rfl (by decide) rfl (by decide) rfl (pu_val_d e2 (Nat.lt_trans (pu_Y_lt hy1) (by decide))) ?_
      refine pu_go 1 (pc' := 35) (ls' := [.ref 0, .int v1, .int v2, v3]) (st' := [.int v2, .ref y1]) (M' := M) rfl ?_
      refine pu_callI (m' := 100) (ml := 2) (as := [.ref y1, .int v2]) (rest := []) rfl (pu_virt (pu_Y_o hy1) (Nat.lt_trans (pu_Y_lt hy1) (by decide)) ⟨Nat.le_of_ble_eq_true rfl, Nat.le_of_ble_eq_true rfl⟩ rfl rfl) rfl (Nat.le_of_ble_eq_true rfl) H (fun x4 M3 H => ?_)
      show pu_R L (d + 3) 150 38 [.ref 0, .int v1, .int v2, v3] [.int x4] M3 _
      refine pu_if_eq rfl (fun hc => ?_) (fun hc => ?_)
      · replace H := Eq.mp (if_pos hc) H
        refine pu_go 5 (pc' := 60) (ls' := [.ref 0, .int v1, .int v2, .int 0]) (st' := [.int v2, .ref 1]) (M' := M3) rfl ?_
        refine pu_callI (m' := 82) (ml := 2) (as := [.ref 1, .int v2]) (rest := []) rfl rfl rfl (Nat.le_of_ble_eq_true rfl) H (fun x6 M5 H => ?_)
        show pu_R L (d + 3) 150 63 [.ref 0, .int v1, .int v2, .int 0] [.int x6] M5 _
        refine pu_go 1 (pc' := 64) (ls' := [.ref 0, .int v1, .int v2, .int 0]) (st' := [.int 0, .int x6]) (M' := M5) rfl ?_
        refine pu_icmp_eq rfl (fun hc => ?_) (fun hc => ?_)
        · replace H := Eq.mp (if_pos hc) H
          refine pu_go 2 (pc' := 19) (ls' := [.ref 0, .int v1, .int (v2 + 1), .int 0]) (st' := []) (M' := M5) rfl ?_
          exact H
        · replace H := Eq.mp (if_neg hc) H
          refine pu_go 1 (pc' := 68) (ls' := [.ref 0, .int v1, .int v2, .int 0]) (st' := [.int v2]) (M' := M5) rfl ?_
          exact pu_ret rfl rfl ⟨_, rfl, H⟩
      · replace H := Eq.mp (if_neg hc) H
        refine pu_go 1 (pc' := 42) (ls' := [.ref 0, .int v1, .int v2, v3]) (st' := [.ref 0]) (M' := M3) rfl ?_
        obtain ⟨y7, e8, hy7, H⟩ := H
        refine pu_getf (j := 9) rfl rfl (by decide) rfl (by decide) rfl (pu_val_d e8 (Nat.lt_trans (pu_Y_lt hy7) (by decide))) ?_
        refine pu_getf (j := 1) (w := .ref (y7 + 2)) rfl (pu_Y_o hy7) (Nat.lt_trans (pu_Y_lt hy7) (by decide)) rfl (by decide) rfl rfl ?_
        refine pu_go 1 (pc' := 49) (ls' := [.ref 0, .int v1, .int v2, v3]) (st' := [.int v2, .ref (y7 + 2)]) (M' := M3) rfl ?_
        obtain ⟨hb9, H⟩ := H
        refine pu_iald rfl (pu_Y_2 hy7) (Or.inl (pu_Y_l2 hy7)) hb9 ?_
        refine pu_go 5 (pc' := 60) (ls' := [.ref 0, .int v1, .int v2, .int (M3 (y7 + 2) v2.toNatClampNeg)]) (st' := [.int v2, .ref 1]) (M' := M3) rfl ?_
        refine pu_callI (m' := 82) (ml := 2) (as := [.ref 1, .int v2]) (rest := []) rfl rfl rfl (Nat.le_of_ble_eq_true rfl) H (fun x11 M10 H => ?_)
        show pu_R L (d + 3) 150 63 [.ref 0, .int v1, .int v2, .int (M3 (y7 + 2) v2.toNatClampNeg)] [.int x11] M10 _
        refine pu_go 1 (pc' := 64) (ls' := [.ref 0, .int v1, .int v2, .int (M3 (y7 + 2) v2.toNatClampNeg)]) (st' := [.int (M3 (y7 + 2) v2.toNatClampNeg), .int x11]) (M' := M10) rfl ?_
        refine pu_icmp_eq rfl (fun hc => ?_) (fun hc => ?_)
        · replace H := Eq.mp (if_pos hc) H
          refine pu_go 2 (pc' := 19) (ls' := [.ref 0, .int v1, .int (v2 + 1), .int (M3 (y7 + 2) v2.toNatClampNeg)]) (st' := []) (M' := M10) rfl ?_
          exact H
        · replace H := Eq.mp (if_neg hc) H
          refine pu_go 1 (pc' := 68) (ls' := [.ref 0, .int v1, .int v2, .int (M3 (y7 + 2) v2.toNatClampNeg)]) (st' := [.int v2]) (M' := M10) rfl ?_
          exact pu_ret rfl rfl ⟨_, rfl, H⟩
set_option maxRecDepth 20000 in
theorem r_x_check {L d : Nat} {M : pu_M} {Q : Int32 → pu_M → Prop} {v1 : Int32} (H : pu_I L (d + 2) 81 [.ref 1, .int v1, .int 0, .int 16] M (fun x2 M1 => (if x2 = 0 then Q ((-2)) M1 else pu_R L (d + 3) 150 19 [.ref 0, .int v1, .int 0, mq_un] [] M1 (pu_qI Q)))) : pu_I L (d + 3) 150 [.ref 0, .int v1] M Q := by
  show pu_R L (d + 3) 150 0 [.ref 0, .int v1, mq_un, mq_un] [] M (pu_qI Q)
  refine pu_go 5 (pc' := 8) (ls' := [.ref 0, .int v1, mq_un, mq_un]) (st' := [.int 16, .int 0, .int v1, .ref 1]) (M' := M) rfl ?_
  refine pu_callI (m' := 81) (ml := 4) (as := [.ref 1, .int v1, .int 0, .int 16]) (rest := []) rfl rfl rfl (Nat.le_of_ble_eq_true rfl) H (fun x2 M1 H => ?_)
  show pu_R L (d + 3) 150 11 [.ref 0, .int v1, mq_un, mq_un] [.int x2] M1 _
  refine pu_if_ne rfl (fun hc => ?_) (fun hc => ?_)
  · replace H := Eq.mp (if_neg hc) H
    refine pu_go 2 (pc' := 19) (ls' := [.ref 0, .int v1, .int 0, mq_un]) (st' := []) (M' := M1) rfl ?_
    exact H
  · replace H := Eq.mp (if_pos hc) H
    refine pu_go 1 (pc' := 16) (ls' := [.ref 0, .int v1, mq_un, mq_un]) (st' := [.int ((-2))]) (M' := M1) rfl ?_
    exact pu_ret rfl rfl ⟨_, rfl, H⟩
/-! x_count (I)I -/
set_option maxRecDepth 20000 in
theorem r_x_count {L d : Nat} {M : pu_M} {Q : Int32 → pu_M → Prop} {v1 : Int32} (H : (if v1 = 0 then (∃ y4, M 0 9 = nI y4 ∧ pu_isY y4 ∧ Q (M y4 5) M) else (if v1 = 1 then (∃ y6, M 0 9 = nI y6 ∧ pu_isY y6 ∧ Q (M y6 4) M) else (if v1 = 2 then (∃ y8, M 0 9 = nI y8 ∧ pu_isY y8 ∧ pu_I L (d + 3) 103 [.ref y8] M (fun x11 M10 => Q x11 M10)) else (if v1 = 3 then (∃ y12, M 0 13 = nI y12 ∧ pu_isW y12 ∧ Q (M y12 3) M) else (if v1 = 4 then (∃ y14, M 0 11 = nI y14 ∧ pu_isL y14 ∧ Q (M y14 7) M) else (if v1 = 5 then Q (M 1 1) M else (if v1 = 6 then (∃ y16, M 0 9 = nI y16 ∧ pu_isY y16 ∧ Q (M y16 6) M) else (if v1 = 7 then (∃ y18, M 0 9 = nI y18 ∧ pu_isY y18 ∧ pu_I L (d + 3) 104 [.ref y18] M (fun x21 M20 => Q x21 M20)) else (if v1 < 20 then Q ((-1)) M else (if 80 ≤ v1 then Q ((-1)) M else (∃ y1, M 0 9 = nI y1 ∧ pu_isY y1 ∧ (mq_inb (v1 - 20) 60 = true ∧ Q (M (y1 + 4) (v1 - 20 : Int32).toNatClampNeg) M))))))))))))) : pu_I L (d + 4) 151 [.ref 0, .int v1] M Q := by
  show pu_R L (d + 4) 151 0 [.ref 0, .int v1] [] M (pu_qI Q)
  refine pu_go 1 (pc' := 1) (ls' := [.ref 0, .int v1]) (st' := [.int v1]) (M' := M) rfl ?_
  skip
  by_cases hs1_0 : v1 = 0
  · replace H := Eq.mp (if_pos hs1_0) H
    refine pu_one (pc' := 48) (ls' := [.ref 0, .int v1]) (st' := []) (M' := M) rfl (by rw [hs1_0]; rfl) ?_
    refine pu_go 1 (pc' := 49) (ls' := [.ref 0, .int v1]) (st' := [.ref 0]) (M' := M) rfl ?_
    obtain ⟨y4, e5, hy4, H⟩ := H
    refine pu_getf (j := 9) rfl rfl (by decide) rfl (by decide) rfl (pu_val_d e5 (Nat.lt_trans (pu_Y_lt hy4) (by decide))) ?_
    refine pu_getf (j := 5) (w := .int (M y4 5)) rfl (pu_Y_o hy4) (Nat.lt_trans (pu_Y_lt hy4) (by decide)) rfl (by decide) rfl rfl ?_
    exact pu_ret rfl rfl ⟨_, rfl, H⟩
  replace H := Eq.mp (if_neg hs1_0) H
  by_cases hs1_1 : v1 = 1
  · replace H := Eq.mp (if_pos hs1_1) H
    refine pu_one (pc' := 56) (ls' := [.ref 0, .int v1]) (st' := []) (M' := M) rfl (by rw [hs1_1]; rfl) ?_
    refine pu_go 1 (pc' := 57) (ls' := [.ref 0, .int v1]) (st' := [.ref 0]) (M' := M) rfl ?_
    obtain ⟨y6, e7, hy6, H⟩ := H
    refine pu_getf (j := 9) rfl rfl (by decide) rfl (by decide) rfl (pu_val_d e7 (Nat.lt_trans (pu_Y_lt hy6) (by decide))) ?_
    refine pu_getf (j := 4) (w := .int (M y6 4)) rfl (pu_Y_o hy6) (Nat.lt_trans (pu_Y_lt hy6) (by decide)) rfl (by decide) rfl rfl ?_
    exact pu_ret rfl rfl ⟨_, rfl, H⟩
  replace H := Eq.mp (if_neg hs1_1) H
  by_cases hs1_2 : v1 = 2
  · replace H := Eq.mp (if_pos hs1_2) H
    refine pu_one (pc' := 64) (ls' := [.ref 0, .int v1]) (st' := []) (M' := M) rfl (by rw [hs1_2]; rfl) ?_
    refine pu_go 1 (pc' := 65) (ls' := [.ref 0, .int v1]) (st' := [.ref 0]) (M' := M) rfl ?_
    obtain ⟨y8, e9, hy8, H⟩ := H
    refine pu_getf (j := 9) rfl rfl (by decide) rfl (by decide) rfl (pu_val_d e9 (Nat.lt_trans (pu_Y_lt hy8) (by decide))) ?_
    refine pu_callI (m' := 103) (ml := 3) (as := [.ref y8]) (rest := []) rfl (pu_virt (pu_Y_o hy8) (Nat.lt_trans (pu_Y_lt hy8) (by decide)) ⟨Nat.le_of_ble_eq_true rfl, Nat.le_of_ble_eq_true rfl⟩ rfl rfl) rfl (Nat.le_of_ble_eq_true rfl) H (fun x11 M10 H => ?_)
    show pu_R L (d + 4) 151 71 [.ref 0, .int v1] [.int x11] M10 _
    exact pu_ret rfl rfl ⟨_, rfl, H⟩
  replace H := Eq.mp (if_neg hs1_2) H
  by_cases hs1_3 : v1 = 3
  · replace H := Eq.mp (if_pos hs1_3) H
    refine pu_one (pc' := 72) (ls' := [.ref 0, .int v1]) (st' := []) (M' := M) rfl (by rw [hs1_3]; rfl) ?_
    refine pu_go 1 (pc' := 73) (ls' := [.ref 0, .int v1]) (st' := [.ref 0]) (M' := M) rfl ?_
    obtain ⟨y12, e13, hy12, H⟩ := H
    refine pu_getf (j := 13) rfl rfl (by decide) rfl (by decide) rfl (pu_val_d e13 (Nat.lt_trans (pu_W_lt hy12) (by decide))) ?_
    refine pu_getf (j := 3) (w := .int (M y12 3)) rfl (pu_W_o hy12) (Nat.lt_trans (pu_W_lt hy12) (by decide)) rfl (by decide) rfl rfl ?_
    exact pu_ret rfl rfl ⟨_, rfl, H⟩
  replace H := Eq.mp (if_neg hs1_3) H
  by_cases hs1_4 : v1 = 4
  · replace H := Eq.mp (if_pos hs1_4) H
    refine pu_one (pc' := 80) (ls' := [.ref 0, .int v1]) (st' := []) (M' := M) rfl (by rw [hs1_4]; rfl) ?_
    refine pu_go 1 (pc' := 81) (ls' := [.ref 0, .int v1]) (st' := [.ref 0]) (M' := M) rfl ?_
    obtain ⟨y14, e15, hy14, H⟩ := H
    refine pu_getf (j := 11) rfl rfl (by decide) rfl (by decide) rfl (pu_val_d e15 (Nat.lt_trans (pu_L_lt hy14) (by decide))) ?_
    refine pu_getf (j := 7) (w := .int (M y14 7)) rfl (pu_L_o hy14) (Nat.lt_trans (pu_L_lt hy14) (by decide)) rfl (by decide) rfl rfl ?_
    exact pu_ret rfl rfl ⟨_, rfl, H⟩
  replace H := Eq.mp (if_neg hs1_4) H
  by_cases hs1_5 : v1 = 5
  · replace H := Eq.mp (if_pos hs1_5) H
    refine pu_one (pc' := 88) (ls' := [.ref 0, .int v1]) (st' := []) (M' := M) rfl (by rw [hs1_5]; rfl) ?_
    refine pu_go 3 (pc' := 95) (ls' := [.ref 0, .int v1]) (st' := [.int (M 1 1)]) (M' := M) rfl ?_
    exact pu_ret rfl rfl ⟨_, rfl, H⟩
  replace H := Eq.mp (if_neg hs1_5) H
  by_cases hs1_6 : v1 = 6
  · replace H := Eq.mp (if_pos hs1_6) H
    refine pu_one (pc' := 96) (ls' := [.ref 0, .int v1]) (st' := []) (M' := M) rfl (by rw [hs1_6]; rfl) ?_
    refine pu_go 1 (pc' := 97) (ls' := [.ref 0, .int v1]) (st' := [.ref 0]) (M' := M) rfl ?_
    obtain ⟨y16, e17, hy16, H⟩ := H
    refine pu_getf (j := 9) rfl rfl (by decide) rfl (by decide) rfl (pu_val_d e17 (Nat.lt_trans (pu_Y_lt hy16) (by decide))) ?_
    refine pu_getf (j := 6) (w := .int (M y16 6)) rfl (pu_Y_o hy16) (Nat.lt_trans (pu_Y_lt hy16) (by decide)) rfl (by decide) rfl rfl ?_
    exact pu_ret rfl rfl ⟨_, rfl, H⟩
  replace H := Eq.mp (if_neg hs1_6) H
  by_cases hs1_7 : v1 = 7
  · replace H := Eq.mp (if_pos hs1_7) H
    refine pu_one (pc' := 104) (ls' := [.ref 0, .int v1]) (st' := []) (M' := M) rfl (by rw [hs1_7]; rfl) ?_
    refine pu_go 1 (pc' := 105) (ls' := [.ref 0, .int v1]) (st' := [.ref 0]) (M' := M) rfl ?_
    obtain ⟨y18, e19, hy18, H⟩ := H
    refine pu_getf (j := 9) rfl rfl (by decide) rfl (by decide) rfl (pu_val_d e19 (Nat.lt_trans (pu_Y_lt hy18) (by decide))) ?_
    refine pu_callI (m' := 104) (ml := 3) (as := [.ref y18]) (rest := []) rfl (pu_virt (pu_Y_o hy18) (Nat.lt_trans (pu_Y_lt hy18) (by decide)) ⟨Nat.le_of_ble_eq_true rfl, Nat.le_of_ble_eq_true rfl⟩ rfl rfl) rfl (Nat.le_of_ble_eq_true rfl) H (fun x21 M20 H => ?_)
    show pu_R L (d + 4) 151 111 [.ref 0, .int v1] [.int x21] M20 _
    exact pu_ret rfl rfl ⟨_, rfl, H⟩
  replace H := Eq.mp (if_neg hs1_7) H
  refine pu_one (pc' := 112) (ls' := [.ref 0, .int v1]) (st' := []) (M' := M) rfl (congrArg (fun z => mq_nx z _ _ _) (pu_tabD [0, 1, 2, 3, 4, 5, 6, 7] (by simp only [List.forall_mem_cons, List.not_mem_nil, false_implies, implies_true, and_true]; exact ⟨hs1_0, hs1_1, hs1_2, hs1_3, hs1_4, hs1_5, hs1_6, hs1_7⟩) (by decide))) ?_
  refine pu_go 2 (pc' := 115) (ls' := [.ref 0, .int v1]) (st' := [.int 20, .int v1]) (M' := M) rfl ?_
  refine pu_icmp_lt rfl (fun hc => ?_) (fun hc => ?_)
  · replace H := Eq.mp (if_pos hc) H
    refine pu_go 1 (pc' := 140) (ls' := [.ref 0, .int v1]) (st' := [.int ((-1))]) (M' := M) rfl ?_
    exact pu_ret rfl rfl ⟨_, rfl, H⟩
  · replace H := Eq.mp (if_neg hc) H
    refine pu_go 2 (pc' := 121) (ls' := [.ref 0, .int v1]) (st' := [.int 80, .int v1]) (M' := M) rfl ?_
    refine pu_icmp_ge rfl (fun hc => ?_) (fun hc => ?_)
    · replace H := Eq.mp (if_pos hc) H
      refine pu_go 1 (pc' := 140) (ls' := [.ref 0, .int v1]) (st' := [.int ((-1))]) (M' := M) rfl ?_
      exact pu_ret rfl rfl ⟨_, rfl, H⟩
    · replace H := Eq.mp (if_neg hc) H
      refine pu_go 1 (pc' := 125) (ls' := [.ref 0, .int v1]) (st' := [.ref 0]) (M' := M) rfl ?_
      obtain ⟨y1, e2, hy1, H⟩ := H
      refine pu_getf (j := 9) rfl rfl (by decide) rfl (by decide) rfl (pu_val_d e2 (Nat.lt_trans (pu_Y_lt hy1) (by decide))) ?_
      refine pu_getf (j := 3) (w := .ref (y1 + 4)) rfl (pu_Y_o hy1) (Nat.lt_trans (pu_Y_lt hy1) (by decide)) rfl (by decide) rfl rfl ?_
      refine pu_go 3 (pc' := 135) (ls' := [.ref 0, .int v1]) (st' := [.int (v1 - 20), .ref (y1 + 4)]) (M' := M) rfl ?_
      obtain ⟨hb3, H⟩ := H
      refine pu_iald rfl (pu_Y_4 hy1) (Or.inl (pu_Y_l4 hy1)) hb3 ?_
      refine pu_go 1 (pc' := 140) (ls' := [.ref 0, .int v1]) (st' := [.int (M (y1 + 4) (v1 - 20 : Int32).toNatClampNeg)]) (M' := M) rfl ?_
      exact pu_ret rfl rfl ⟨_, rfl, H⟩
/-! x_circleCount ()I -/
set_option maxRecDepth 20000 in
theorem r_x_circleCount_6 {L d : Nat} {M : pu_M} {Q : Int32 → pu_M → Prop} {v1 : Int32} {v2 : Int32} {v3 : Int32} (H : (if 16 ≤ v3 then Q v2 M else (∃ y1, M 0 9 = nI y1 ∧ pu_isY y1 ∧ pu_I L (d + 5) 102 [.ref y1, .int v3] M (fun x4 M3 => (if x4 = 0 then pu_R L (d + 6) 152 6 [.ref 0, .int v1, .int v2, .int (v3 + 1)] [] M3 (pu_qI Q) else (if ((v1 >>> (v3 &&& 31)) &&& 1) = 0 then (∃ y5, M3 0 9 = nI y5 ∧ pu_isY y5 ∧ pu_I L (d + 5) 116 [.ref y5, .int v3] M3 (fun x8 M7 => pu_R L (d + 6) 152 6 [.ref 0, .int (v1 ||| x8), .int (v2 + 1), .int (v3 + 1)] [] M7 (pu_qI Q))) else pu_R L (d + 6) 152 6 [.ref 0, .int v1, .int v2, .int (v3 + 1)] [] M3 (pu_qI Q))))))) : pu_R L (d + 6) 152 6 [.ref 0, .int v1, .int v2, .int v3] [] M (pu_qI Q) := by
  refine pu_go 2 (pc' := 9) (ls' := [.ref 0, .int v1, .int v2, .int v3]) (st' := [.int 16, .int v3]) (M' := M) rfl ?_
  refine pu_icmp_ge rfl (fun hc => ?_) (fun hc => ?_)
  · replace H := Eq.mp (if_pos hc) H
    refine pu_go 1 (pc' := 52) (ls' := [.ref 0, .int v1, .int v2, .int v3]) (st' := [.int v2]) (M' := M) rfl ?_
    exact pu_ret rfl rfl ⟨_, rfl, H⟩
  · replace H := Eq.mp (if_neg hc) H
    refine pu_go 1 (pc' := 13) (ls' := [.ref 0, .int v1, .int v2, .int v3]) (st' := [.ref 0]) (M' := M) rfl ?_
    obtain ⟨y1, e2, hy1, H⟩ := H
    refine pu_getf (j := 9) rfl rfl (by decide) rfl (by decide) rfl (pu_val_d e2 (Nat.lt_trans (pu_Y_lt hy1) (by decide))) ?_
    refine pu_go 1 (pc' := 17) (ls' := [.ref 0, .int v1, .int v2, .int v3]) (st' := [.int v3, .ref y1]) (M' := M) rfl ?_
    refine pu_callI (m' := 102) (ml := 2) (as := [.ref y1, .int v3]) (rest := []) rfl (pu_virt (pu_Y_o hy1) (Nat.lt_trans (pu_Y_lt hy1) (by decide)) ⟨Nat.le_of_ble_eq_true rfl, Nat.le_of_ble_eq_true rfl⟩ rfl rfl) rfl (Nat.le_of_ble_eq_true rfl) H (fun x4 M3 H => ?_)
    show pu_R L (d + 6) 152 20 [.ref 0, .int v1, .int v2, .int v3] [.int x4] M3 _
    refine pu_if_eq rfl (fun hc => ?_) (fun hc => ?_)
    · replace H := Eq.mp (if_pos hc) H
      refine pu_go 2 (pc' := 6) (ls' := [.ref 0, .int v1, .int v2, .int (v3 + 1)]) (st' := []) (M' := M3) rfl ?_
      exact H
    · replace H := Eq.mp (if_neg hc) H
      refine pu_go 5 (pc' := 28) (ls' := [.ref 0, .int v1, .int v2, .int v3]) (st' := [.int ((v1 >>> (v3 &&& 31)) &&& 1)]) (M' := M3) rfl ?_
      refine pu_if_ne rfl (fun hc => ?_) (fun hc => ?_)
      · replace H := Eq.mp (if_neg hc) H
        refine pu_go 2 (pc' := 6) (ls' := [.ref 0, .int v1, .int v2, .int (v3 + 1)]) (st' := []) (M' := M3) rfl ?_
        exact H
      · replace H := Eq.mp (if_pos hc) H
        refine pu_go 2 (pc' := 33) (ls' := [.ref 0, .int v1, .int v2, .int v3]) (st' := [.ref 0, .int v1]) (M' := M3) rfl ?_
        obtain ⟨y5, e6, hy5, H⟩ := H
        refine pu_getf (j := 9) rfl rfl (by decide) rfl (by decide) rfl (pu_val_d e6 (Nat.lt_trans (pu_Y_lt hy5) (by decide))) ?_
        refine pu_go 1 (pc' := 37) (ls' := [.ref 0, .int v1, .int v2, .int v3]) (st' := [.int v3, .ref y5, .int v1]) (M' := M3) rfl ?_
        refine pu_callI (m' := 116) (ml := 4) (as := [.ref y5, .int v3]) (rest := [.int v1]) rfl (pu_virt (pu_Y_o hy5) (Nat.lt_trans (pu_Y_lt hy5) (by decide)) ⟨Nat.le_of_ble_eq_true rfl, Nat.le_of_ble_eq_true rfl⟩ rfl rfl) rfl (Nat.le_of_ble_eq_true rfl) H (fun x8 M7 H => ?_)
        show pu_R L (d + 6) 152 40 [.ref 0, .int v1, .int v2, .int v3] [.int x8, .int v1] M7 _
        refine pu_go 5 (pc' := 6) (ls' := [.ref 0, .int (v1 ||| x8), .int (v2 + 1), .int (v3 + 1)]) (st' := []) (M' := M7) rfl ?_
        exact H
set_option maxRecDepth 20000 in
theorem r_x_circleCount {L d : Nat} {M : pu_M} {Q : Int32 → pu_M → Prop}  (H : pu_R L (d + 6) 152 6 [.ref 0, .int 0, .int 0, .int 0] [] M (pu_qI Q)) : pu_I L (d + 6) 152 [.ref 0] M Q := by
  show pu_R L (d + 6) 152 0 [.ref 0, mq_un, mq_un, mq_un] [] M (pu_qI Q)
  refine pu_go 6 (pc' := 6) (ls' := [.ref 0, .int 0, .int 0, .int 0]) (st' := []) (M' := M) rfl ?_
  exact H
/-! x_isOne (I)Z -/
set_option maxRecDepth 20000 in
theorem r_x_isOne {L d : Nat} {M : pu_M} {Q : Int32 → pu_M → Prop} {v0 : Int32} (H : (if v0 < 0 then Q 0 M else (if 16 ≤ v0 then Q 0 M else Q 1 M))) : pu_I L (d + 1) 153 [.int v0] M Q := by
  show pu_R L (d + 1) 153 0 [.int v0] [] M (pu_qI Q)
  refine pu_go 1 (pc' := 1) (ls' := [.int v0]) (st' := [.int v0]) (M' := M) rfl ?_
  refine pu_if_lt rfl (fun hc => ?_) (fun hc => ?_)
  · replace H := Eq.mp (if_pos hc) H
    refine pu_go 1 (pc' := 15) (ls' := [.int v0]) (st' := [.int 0]) (M' := M) rfl ?_
    exact pu_ret rfl rfl ⟨_, rfl, H⟩
  · replace H := Eq.mp (if_neg hc) H
    refine pu_go 2 (pc' := 7) (ls' := [.int v0]) (st' := [.int 16, .int v0]) (M' := M) rfl ?_
    refine pu_icmp_ge rfl (fun hc => ?_) (fun hc => ?_)
    · replace H := Eq.mp (if_pos hc) H
      refine pu_go 1 (pc' := 15) (ls' := [.int v0]) (st' := [.int 0]) (M' := M) rfl ?_
      exact pu_ret rfl rfl ⟨_, rfl, H⟩
    · replace H := Eq.mp (if_neg hc) H
      refine pu_go 2 (pc' := 15) (ls' := [.int v0]) (st' := [.int 1]) (M' := M) rfl ?_
      exact pu_ret rfl rfl ⟨_, rfl, H⟩
/-! x_sizeOf (I)I -/
set_option maxRecDepth 20000 in
theorem r_x_sizeOf {L d : Nat} {M : pu_M} {Q : Int32 → pu_M → Prop} {v0 : Int32} (H : (if v0 < 0 then Q ((-1)) M else (if v0 ≤ 65535 then pu_I L (d + 1) 260 [.int v0] M (fun x2 M1 => Q x2 M1) else Q ((-1)) M))) : pu_I L (d + 2) 154 [.int v0] M Q := by
  show pu_R L (d + 2) 154 0 [.int v0] [] M (pu_qI Q)
  refine pu_go 1 (pc' := 1) (ls' := [.int v0]) (st' := [.int v0]) (M' := M) rfl ?_
  refine pu_if_lt rfl (fun hc => ?_) (fun hc => ?_)
  · replace H := Eq.mp (if_pos hc) H
    refine pu_go 2 (pc' := 18) (ls' := [.int v0]) (st' := [.int ((-1))]) (M' := M) rfl ?_
    exact pu_ret rfl rfl ⟨_, rfl, H⟩
  · replace H := Eq.mp (if_neg hc) H
    refine pu_go 2 (pc' := 7) (ls' := [.int v0]) (st' := [.int 65535, .int v0]) (M' := M) rfl ?_
    refine pu_icmp_le rfl (fun hc => ?_) (fun hc => ?_)
    · replace H := Eq.mp (if_pos hc) H
      refine pu_go 1 (pc' := 15) (ls' := [.int v0]) (st' := [.int v0]) (M' := M) rfl ?_
      refine pu_callI (m' := 260) (ml := 1) (as := [.int v0]) (rest := []) rfl rfl rfl (Nat.le_of_ble_eq_true rfl) H (fun x2 M1 H => ?_)
      show pu_R L (d + 2) 154 18 [.int v0] [.int x2] M1 _
      exact pu_ret rfl rfl ⟨_, rfl, H⟩
    · replace H := Eq.mp (if_neg hc) H
      refine pu_go 2 (pc' := 18) (ls' := [.int v0]) (st' := [.int ((-1))]) (M' := M) rfl ?_
      exact pu_ret rfl rfl ⟨_, rfl, H⟩
/-! x_within (III)I -/
set_option maxRecDepth 20000 in
theorem r_x_within {L d : Nat} {M : pu_M} {Q : Int32 → pu_M → Prop} {v0 : Int32} {v1 : Int32} {v2 : Int32} (H : Q (if v1 < (if v0 < v2 then v0 else v2) then if v0 < v2 then v0 else v2 else v1) M) : pu_I L (d + 1) 155 [.int v0, .int v1, .int v2] M Q := by
  show pu_R L (d + 1) 155 0 [.int v0, .int v1, .int v2] [] M (pu_qI Q)
  refine pu_go 5 (pc' := 9) (ls' := [.int v0, .int v1, .int v2]) (st' := [.int (if v1 < (if v0 < v2 then v0 else v2) then if v0 < v2 then v0 else v2 else v1)]) (M' := M) rfl ?_
  exact pu_ret rfl rfl ⟨_, rfl, H⟩
/-! m_in (III)Z -/
set_option maxRecDepth 20000 in
theorem r_m_in {L d : Nat} {M : pu_M} {Q : Int32 → pu_M → Prop} {v0 : Int32} {v1 : Int32} {v2 : Int32} (H : (if v0 < v1 then Q 0 M else (if v2 < v0 then Q 0 M else Q 1 M))) : pu_I L (d + 1) 157 [.int v0, .int v1, .int v2] M Q := by
  show pu_R L (d + 1) 157 0 [.int v0, .int v1, .int v2] [] M (pu_qI Q)
  refine pu_go 2 (pc' := 2) (ls' := [.int v0, .int v1, .int v2]) (st' := [.int v1, .int v0]) (M' := M) rfl ?_
  refine pu_icmp_lt rfl (fun hc => ?_) (fun hc => ?_)
  · replace H := Eq.mp (if_pos hc) H
    refine pu_go 1 (pc' := 15) (ls' := [.int v0, .int v1, .int v2]) (st' := [.int 0]) (M' := M) rfl ?_
    exact pu_ret rfl rfl ⟨_, rfl, H⟩
  · replace H := Eq.mp (if_neg hc) H
    refine pu_go 2 (pc' := 7) (ls' := [.int v0, .int v1, .int v2]) (st' := [.int v2, .int v0]) (M' := M) rfl ?_
    refine pu_icmp_gt rfl (fun hc => ?_) (fun hc => ?_)
    · replace H := Eq.mp (if_pos hc) H
      refine pu_go 1 (pc' := 15) (ls' := [.int v0, .int v1, .int v2]) (st' := [.int 0]) (M' := M) rfl ?_
      exact pu_ret rfl rfl ⟨_, rfl, H⟩
    · replace H := Eq.mp (if_neg hc) H
      refine pu_go 2 (pc' := 15) (ls' := [.int v0, .int v1, .int v2]) (st' := [.int 1]) (M' := M) rfl ?_
      exact pu_ret rfl rfl ⟨_, rfl, H⟩
/-! m_min (II)I -/
set_option maxRecDepth 20000 in
theorem r_m_min {L d : Nat} {M : pu_M} {Q : Int32 → pu_M → Prop} {v0 : Int32} {v1 : Int32} (H : (if v1 ≤ v0 then Q v1 M else Q v0 M)) : pu_I L (d + 1) 158 [.int v0, .int v1] M Q := by
  show pu_R L (d + 1) 158 0 [.int v0, .int v1] [] M (pu_qI Q)
  refine pu_go 2 (pc' := 2) (ls' := [.int v0, .int v1]) (st' := [.int v1, .int v0]) (M' := M) rfl ?_
  refine pu_icmp_ge rfl (fun hc => ?_) (fun hc => ?_)
  · replace H := Eq.mp (if_pos hc) H
    refine pu_go 1 (pc' := 10) (ls' := [.int v0, .int v1]) (st' := [.int v1]) (M' := M) rfl ?_
    exact pu_ret rfl rfl ⟨_, rfl, H⟩
  · replace H := Eq.mp (if_neg hc) H
    refine pu_go 2 (pc' := 10) (ls' := [.int v0, .int v1]) (st' := [.int v0]) (M' := M) rfl ?_
    exact pu_ret rfl rfl ⟨_, rfl, H⟩
/-! m_max (II)I -/
set_option maxRecDepth 20000 in
theorem r_m_max {L d : Nat} {M : pu_M} {Q : Int32 → pu_M → Prop} {v0 : Int32} {v1 : Int32} (H : (if v0 ≤ v1 then Q v1 M else Q v0 M)) : pu_I L (d + 1) 159 [.int v0, .int v1] M Q := by
  show pu_R L (d + 1) 159 0 [.int v0, .int v1] [] M (pu_qI Q)
  refine pu_go 2 (pc' := 2) (ls' := [.int v0, .int v1]) (st' := [.int v1, .int v0]) (M' := M) rfl ?_
  refine pu_icmp_le rfl (fun hc => ?_) (fun hc => ?_)
  · replace H := Eq.mp (if_pos hc) H
    refine pu_go 1 (pc' := 10) (ls' := [.int v0, .int v1]) (st' := [.int v1]) (M' := M) rfl ?_
    exact pu_ret rfl rfl ⟨_, rfl, H⟩
  · replace H := Eq.mp (if_neg hc) H
    refine pu_go 2 (pc' := 10) (ls' := [.int v0, .int v1]) (st' := [.int v0]) (M' := M) rfl ?_
    exact pu_ret rfl rfl ⟨_, rfl, H⟩
/-! m_size (I)I -/
set_option maxRecDepth 20000 in
theorem r_m_size {L d : Nat} {M : pu_M} {Q : Int32 → pu_M → Prop} {v0 : Int32} (H : (if 0 ≤ v0 then Q v0 M else Q (-v0) M)) : pu_I L (d + 1) 160 [.int v0] M Q := by
  show pu_R L (d + 1) 160 0 [.int v0] [] M (pu_qI Q)
  refine pu_go 1 (pc' := 1) (ls' := [.int v0]) (st' := [.int v0]) (M' := M) rfl ?_
  refine pu_if_ge rfl (fun hc => ?_) (fun hc => ?_)
  · replace H := Eq.mp (if_pos hc) H
    refine pu_go 1 (pc' := 10) (ls' := [.int v0]) (st' := [.int v0]) (M' := M) rfl ?_
    exact pu_ret rfl rfl ⟨_, rfl, H⟩
  · replace H := Eq.mp (if_neg hc) H
    refine pu_go 3 (pc' := 10) (ls' := [.int v0]) (st' := [.int (-v0)]) (M' := M) rfl ?_
    exact pu_ret rfl rfl ⟨_, rfl, H⟩
/-! m_has (II)Z -/
set_option maxRecDepth 20000 in
theorem r_m_has {L d : Nat} {M : pu_M} {Q : Int32 → pu_M → Prop} {v0 : Int32} {v1 : Int32} (H : (if ((v0 >>> (v1 &&& 31)) &&& 1) = 1 then Q 1 M else Q 0 M)) : pu_I L (d + 1) 161 [.int v0, .int v1] M Q := by
  show pu_R L (d + 1) 161 0 [.int v0, .int v1] [] M (pu_qI Q)
  refine pu_go 6 (pc' := 6) (ls' := [.int v0, .int v1]) (st' := [.int 1, .int ((v0 >>> (v1 &&& 31)) &&& 1)]) (M' := M) rfl ?_
  refine pu_icmp_ne rfl (fun hc => ?_) (fun hc => ?_)
  · replace H := Eq.mp (if_neg hc) H
    refine pu_go 1 (pc' := 14) (ls' := [.int v0, .int v1]) (st' := [.int 0]) (M' := M) rfl ?_
    exact pu_ret rfl rfl ⟨_, rfl, H⟩
  · replace H := Eq.mp (if_pos hc) H
    refine pu_go 2 (pc' := 14) (ls' := [.int v0, .int v1]) (st' := [.int 1]) (M' := M) rfl ?_
    exact pu_ret rfl rfl ⟨_, rfl, H⟩
/-! m_bits (I)I -/
set_option maxRecDepth 20000 in
theorem r_m_bits_4 {L d : Nat} {M : pu_M} {Q : Int32 → pu_M → Prop} {v0 : Int32} {v1 : Int32} {v2 : Int32} (H : (if 16 ≤ v2 then Q v1 M else pu_R L (d + 1) 162 4 [.int v0, .int (v1 + ((v0 >>> (v2 &&& 31)) &&& 1)), .int (v2 + 1)] [] M (pu_qI Q))) : pu_R L (d + 1) 162 4 [.int v0, .int v1, .int v2] [] M (pu_qI Q) := by
  refine pu_go 2 (pc' := 7) (ls' := [.int v0, .int v1, .int v2]) (st' := [.int 16, .int v2]) (M' := M) rfl ?_
  refine pu_icmp_ge rfl (fun hc => ?_) (fun hc => ?_)
  · replace H := Eq.mp (if_pos hc) H
    refine pu_go 1 (pc' := 25) (ls' := [.int v0, .int v1, .int v2]) (st' := [.int v1]) (M' := M) rfl ?_
    exact pu_ret rfl rfl ⟨_, rfl, H⟩
  · replace H := Eq.mp (if_neg hc) H
    refine pu_go 10 (pc' := 4) (ls' := [.int v0, .int (v1 + ((v0 >>> (v2 &&& 31)) &&& 1)), .int (v2 + 1)]) (st' := []) (M' := M) rfl ?_
    exact H
set_option maxRecDepth 20000 in
theorem r_m_bits {L d : Nat} {M : pu_M} {Q : Int32 → pu_M → Prop} {v0 : Int32} (H : pu_R L (d + 1) 162 4 [.int v0, .int 0, .int 0] [] M (pu_qI Q)) : pu_I L (d + 1) 162 [.int v0] M Q := by
  show pu_R L (d + 1) 162 0 [.int v0, mq_un, mq_un] [] M (pu_qI Q)
  refine pu_go 4 (pc' := 4) (ls' := [.int v0, .int 0, .int 0]) (st' := []) (M' := M) rfl ?_
  exact H
/-! m_copies ([I[I)V -/
set_option maxRecDepth 20000 in
theorem r_m_copies_2 {L d : Nat} {M : pu_M} {Q : pu_M → Prop} {v0 nv0 : Nat} (hv0 : pu_sh L v0 = .inl (false, nv0)) (kv0 : v0 < 90) {v1 nv1 : Nat} (hv1 : pu_sh L v1 = .inl (false, nv1)) (kv1 : v1 < 90) {v2 : Int32} (H : (if 66 ≤ v2 then Q M else (mq_inb v2 nv0 = true ∧ (mq_inb v2 nv1 = true ∧ pu_R L (d + 1) 163 2 [.ref v0, .ref v1, .int (v2 + 1)] [] (pu_wr M v1 v2.toNatClampNeg (M v0 v2.toNatClampNeg)) (pu_qV Q))))) : pu_R L (d + 1) 163 2 [.ref v0, .ref v1, .int v2] [] M (pu_qV Q) := by
  refine pu_go 2 (pc' := 5) (ls' := [.ref v0, .ref v1, .int v2]) (st' := [.int 66, .int v2]) (M' := M) rfl ?_
  refine pu_icmp_ge rfl (fun hc => ?_) (fun hc => ?_)
  · replace H := Eq.mp (if_pos hc) H
    exact pu_ret rfl rfl ⟨rfl, H⟩
  · replace H := Eq.mp (if_neg hc) H
    refine pu_go 4 (pc' := 12) (ls' := [.ref v0, .ref v1, .int v2]) (st' := [.int v2, .ref v0, .int v2, .ref v1]) (M' := M) rfl ?_
    obtain ⟨hb1, H⟩ := H
    refine pu_iald rfl hv0 (Or.inl kv0) hb1 ?_
    obtain ⟨hb2, H⟩ := H
    refine pu_iast rfl hv1 kv1 hb2 ?_
    refine pu_go 2 (pc' := 2) (ls' := [.ref v0, .ref v1, .int (v2 + 1)]) (st' := []) (M' := pu_wr M v1 v2.toNatClampNeg (M v0 v2.toNatClampNeg)) rfl ?_
    exact H
set_option maxRecDepth 20000 in
theorem r_m_copies {L d : Nat} {M : pu_M} {Q : pu_M → Prop} {v0 nv0 : Nat} (hv0 : pu_sh L v0 = .inl (false, nv0)) (kv0 : v0 < 90) {v1 nv1 : Nat} (hv1 : pu_sh L v1 = .inl (false, nv1)) (kv1 : v1 < 90) (H : pu_R L (d + 1) 163 2 [.ref v0, .ref v1, .int 0] [] M (pu_qV Q)) : pu_V L (d + 1) 163 [.ref v0, .ref v1] M Q := by
  show pu_R L (d + 1) 163 0 [.ref v0, .ref v1, mq_un] [] M (pu_qV Q)
  refine pu_go 2 (pc' := 2) (ls' := [.ref v0, .ref v1, .int 0]) (st' := []) (M' := M) rfl ?_
  exact H
/-! m_isTold (I)Z -/
set_option maxRecDepth 20000 in
theorem r_m_isTold {L d : Nat} {M : pu_M} {Q : Int32 → pu_M → Prop} {v1 : Int32} (H : pu_I L (d + 1) 157 [.int v1, .int 0, .int 15] M (fun x2 M1 => (if x2 = 0 then Q 0 M1 else (mq_inb (0 + v1) 66 = true ∧ (if (M1 59 (0 + v1 : Int32).toNatClampNeg) = 1 then Q 1 M1 else Q 0 M1))))) : pu_I L (d + 2) 164 [.ref 58, .int v1] M Q := by
  show pu_R L (d + 2) 164 0 [.ref 58, .int v1] [] M (pu_qI Q)
  refine pu_go 3 (pc' := 4) (ls' := [.ref 58, .int v1]) (st' := [.int 15, .int 0, .int v1]) (M' := M) rfl ?_
  refine pu_callI (m' := 157) (ml := 3) (as := [.int v1, .int 0, .int 15]) (rest := []) rfl rfl rfl (Nat.le_of_ble_eq_true rfl) H (fun x2 M1 H => ?_)
  show pu_R L (d + 2) 164 7 [.ref 58, .int v1] [.int x2] M1 _
  refine pu_if_eq rfl (fun hc => ?_) (fun hc => ?_)
  · replace H := Eq.mp (if_pos hc) H
    refine pu_go 1 (pc' := 27) (ls' := [.ref 58, .int v1]) (st' := [.int 0]) (M' := M1) rfl ?_
    exact pu_ret rfl rfl ⟨_, rfl, H⟩
  · replace H := Eq.mp (if_neg hc) H
    refine pu_go 5 (pc' := 17) (ls' := [.ref 58, .int v1]) (st' := [.int (0 + v1), .ref 59]) (M' := M1) rfl ?_
    obtain ⟨hb3, H⟩ := H
    refine pu_iald rfl rfl (Or.inl (by decide)) hb3 ?_
    refine pu_go 1 (pc' := 19) (ls' := [.ref 58, .int v1]) (st' := [.int 1, .int (M1 59 (0 + v1 : Int32).toNatClampNeg)]) (M' := M1) rfl ?_
    refine pu_icmp_ne rfl (fun hc => ?_) (fun hc => ?_)
    · replace H := Eq.mp (if_neg hc) H
      refine pu_go 1 (pc' := 27) (ls' := [.ref 58, .int v1]) (st' := [.int 0]) (M' := M1) rfl ?_
      exact pu_ret rfl rfl ⟨_, rfl, H⟩
    · replace H := Eq.mp (if_pos hc) H
      refine pu_go 2 (pc' := 27) (ls' := [.ref 58, .int v1]) (st' := [.int 1]) (M' := M1) rfl ?_
      exact pu_ret rfl rfl ⟨_, rfl, H⟩
/-! m_isLaid (I)Z -/
set_option maxRecDepth 20000 in
theorem r_m_isLaid {L d : Nat} {M : pu_M} {Q : Int32 → pu_M → Prop} {v1 : Int32} (H : (mq_inb (0 + v1) 66 = true ∧ (if (M 59 (0 + v1 : Int32).toNatClampNeg) = 1 then (mq_inb (48 + v1) 66 = true ∧ (if (M 59 (48 + v1 : Int32).toNatClampNeg) < 0 then Q 0 M else Q 1 M)) else Q 0 M))) : pu_I L (d + 1) 165 [.ref 58, .int v1] M Q := by
  show pu_R L (d + 1) 165 0 [.ref 58, .int v1] [] M (pu_qI Q)
  refine pu_go 5 (pc' := 7) (ls' := [.ref 58, .int v1]) (st' := [.int (0 + v1), .ref 59]) (M' := M) rfl ?_
  obtain ⟨hb1, H⟩ := H
  refine pu_iald rfl rfl (Or.inl (by decide)) hb1 ?_
  refine pu_go 1 (pc' := 9) (ls' := [.ref 58, .int v1]) (st' := [.int 1, .int (M 59 (0 + v1 : Int32).toNatClampNeg)]) (M' := M) rfl ?_
  refine pu_icmp_ne rfl (fun hc => ?_) (fun hc => ?_)
  · replace H := Eq.mp (if_neg hc) H
    refine pu_go 1 (pc' := 29) (ls' := [.ref 58, .int v1]) (st' := [.int 0]) (M' := M) rfl ?_
    exact pu_ret rfl rfl ⟨_, rfl, H⟩
  · replace H := Eq.mp (if_pos hc) H
    refine pu_go 5 (pc' := 20) (ls' := [.ref 58, .int v1]) (st' := [.int (48 + v1), .ref 59]) (M' := M) rfl ?_
    obtain ⟨hb2, H⟩ := H
    refine pu_iald rfl rfl (Or.inl (by decide)) hb2 ?_
    refine pu_if_lt rfl (fun hc => ?_) (fun hc => ?_)
    · replace H := Eq.mp (if_pos hc) H
      refine pu_go 1 (pc' := 29) (ls' := [.ref 58, .int v1]) (st' := [.int 0]) (M' := M) rfl ?_
      exact pu_ret rfl rfl ⟨_, rfl, H⟩
    · replace H := Eq.mp (if_neg hc) H
      refine pu_go 2 (pc' := 29) (ls' := [.ref 58, .int v1]) (st' := [.int 1]) (M' := M) rfl ?_
      exact pu_ret rfl rfl ⟨_, rfl, H⟩
/-! m_toldSet ()I -/
set_option maxRecDepth 20000 in
theorem r_m_toldSet_4 {L d : Nat} {M : pu_M} {Q : Int32 → pu_M → Prop} {v1 : Int32} {v2 : Int32} (H : (if 16 ≤ v2 then Q v1 M else pu_I L (d + 2) 164 [.ref 58, .int v2] M (fun x2 M1 => (if x2 = 0 then pu_R L (d + 3) 166 4 [.ref 58, .int v1, .int (v2 + 1)] [] M1 (pu_qI Q) else pu_R L (d + 3) 166 4 [.ref 58, .int (v1 ||| ((1 : Int32) <<< (v2 &&& 31))), .int (v2 + 1)] [] M1 (pu_qI Q))))) : pu_R L (d + 3) 166 4 [.ref 58, .int v1, .int v2] [] M (pu_qI Q) := by
  refine pu_go 2 (pc' := 7) (ls' := [.ref 58, .int v1, .int v2]) (st' := [.int 16, .int v2]) (M' := M) rfl ?_
  refine pu_icmp_ge rfl (fun hc => ?_) (fun hc => ?_)
  · replace H := Eq.mp (if_pos hc) H
    refine pu_go 1 (pc' := 31) (ls' := [.ref 58, .int v1, .int v2]) (st' := [.int v1]) (M' := M) rfl ?_
    exact pu_ret rfl rfl ⟨_, rfl, H⟩
  · replace H := Eq.mp (if_neg hc) H
    refine pu_go 2 (pc' := 12) (ls' := [.ref 58, .int v1, .int v2]) (st' := [.int v2, .ref 58]) (M' := M) rfl ?_
    refine pu_callI (m' := 164) (ml := 2) (as := [.ref 58, .int v2]) (rest := []) rfl rfl rfl (Nat.le_of_ble_eq_true rfl) H (fun x2 M1 H => ?_)
    show pu_R L (d + 3) 166 15 [.ref 58, .int v1, .int v2] [.int x2] M1 _
    refine pu_if_eq rfl (fun hc => ?_) (fun hc => ?_)
    · replace H := Eq.mp (if_pos hc) H
      refine pu_go 2 (pc' := 4) (ls' := [.ref 58, .int v1, .int (v2 + 1)]) (st' := []) (M' := M1) rfl ?_
      exact H
    · replace H := Eq.mp (if_neg hc) H
      refine pu_go 8 (pc' := 4) (ls' := [.ref 58, .int (v1 ||| ((1 : Int32) <<< (v2 &&& 31))), .int (v2 + 1)]) (st' := []) (M' := M1) rfl ?_
      exact H
set_option maxRecDepth 20000 in
theorem r_m_toldSet {L d : Nat} {M : pu_M} {Q : Int32 → pu_M → Prop}  (H : pu_R L (d + 3) 166 4 [.ref 58, .int 0, .int 0] [] M (pu_qI Q)) : pu_I L (d + 3) 166 [.ref 58] M Q := by
  show pu_R L (d + 3) 166 0 [.ref 58, mq_un, mq_un] [] M (pu_qI Q)
  refine pu_go 4 (pc' := 4) (ls' := [.ref 58, .int 0, .int 0]) (st' := []) (M' := M) rfl ?_
  exact H
/-! m_laidSet ()I -/
set_option maxRecDepth 20000 in
theorem r_m_laidSet_4 {L d : Nat} {M : pu_M} {Q : Int32 → pu_M → Prop} {v1 : Int32} {v2 : Int32} (H : (if 16 ≤ v2 then Q v1 M else pu_I L (d + 1) 165 [.ref 58, .int v2] M (fun x2 M1 => (if x2 = 0 then pu_R L (d + 2) 167 4 [.ref 58, .int v1, .int (v2 + 1)] [] M1 (pu_qI Q) else pu_R L (d + 2) 167 4 [.ref 58, .int (v1 ||| ((1 : Int32) <<< (v2 &&& 31))), .int (v2 + 1)] [] M1 (pu_qI Q))))) : pu_R L (d + 2) 167 4 [.ref 58, .int v1, .int v2] [] M (pu_qI Q) := by
  refine pu_go 2 (pc' := 7) (ls' := [.ref 58, .int v1, .int v2]) (st' := [.int 16, .int v2]) (M' := M) rfl ?_
  refine pu_icmp_ge rfl (fun hc => ?_) (fun hc => ?_)
  · replace H := Eq.mp (if_pos hc) H
    refine pu_go 1 (pc' := 31) (ls' := [.ref 58, .int v1, .int v2]) (st' := [.int v1]) (M' := M) rfl ?_
    exact pu_ret rfl rfl ⟨_, rfl, H⟩
  · replace H := Eq.mp (if_neg hc) H
    refine pu_go 2 (pc' := 12) (ls' := [.ref 58, .int v1, .int v2]) (st' := [.int v2, .ref 58]) (M' := M) rfl ?_
    refine pu_callI (m' := 165) (ml := 2) (as := [.ref 58, .int v2]) (rest := []) rfl rfl rfl (Nat.le_of_ble_eq_true rfl) H (fun x2 M1 H => ?_)
    show pu_R L (d + 2) 167 15 [.ref 58, .int v1, .int v2] [.int x2] M1 _
    refine pu_if_eq rfl (fun hc => ?_) (fun hc => ?_)
    · replace H := Eq.mp (if_pos hc) H
      refine pu_go 2 (pc' := 4) (ls' := [.ref 58, .int v1, .int (v2 + 1)]) (st' := []) (M' := M1) rfl ?_
      exact H
    · replace H := Eq.mp (if_neg hc) H
      refine pu_go 8 (pc' := 4) (ls' := [.ref 58, .int (v1 ||| ((1 : Int32) <<< (v2 &&& 31))), .int (v2 + 1)]) (st' := []) (M' := M1) rfl ?_
      exact H
set_option maxRecDepth 20000 in
theorem r_m_laidSet {L d : Nat} {M : pu_M} {Q : Int32 → pu_M → Prop}  (H : pu_R L (d + 2) 167 4 [.ref 58, .int 0, .int 0] [] M (pu_qI Q)) : pu_I L (d + 2) 167 [.ref 58] M Q := by
  show pu_R L (d + 2) 167 0 [.ref 58, mq_un, mq_un] [] M (pu_qI Q)
  refine pu_go 4 (pc' := 4) (ls' := [.ref 58, .int 0, .int 0]) (st' := []) (M' := M) rfl ?_
  exact H
/-! m_whoLies (I)I -/
set_option maxRecDepth 20000 in
theorem r_m_whoLies_2 {L d : Nat} {M : pu_M} {Q : Int32 → pu_M → Prop} {v1 : Int32} {v2 : Int32} (H : (if 16 ≤ v2 then Q ((-2)) M else pu_I L (d + 1) 165 [.ref 58, .int v2] M (fun x2 M1 => (if x2 = 0 then pu_R L (d + 2) 168 2 [.ref 58, .int v1, .int (v2 + 1)] [] M1 (pu_qI Q) else (mq_inb (48 + v2) 66 = true ∧ (if (M1 59 (48 + v2 : Int32).toNatClampNeg) = v1 then Q v2 M1 else pu_R L (d + 2) 168 2 [.ref 58, .int v1, .int (v2 + 1)] [] M1 (pu_qI Q))))))) : pu_R L (d + 2) 168 2 [.ref 58, .int v1, .int v2] [] M (pu_qI Q) := by
  refine pu_go 2 (pc' := 5) (ls' := [.ref 58, .int v1, .int v2]) (st' := [.int 16, .int v2]) (M' := M) rfl ?_
  refine pu_icmp_ge rfl (fun hc => ?_) (fun hc => ?_)
  · replace H := Eq.mp (if_pos hc) H
    refine pu_go 1 (pc' := 39) (ls' := [.ref 58, .int v1, .int v2]) (st' := [.int ((-2))]) (M' := M) rfl ?_
    exact pu_ret rfl rfl ⟨_, rfl, H⟩
  · replace H := Eq.mp (if_neg hc) H
    refine pu_go 2 (pc' := 10) (ls' := [.ref 58, .int v1, .int v2]) (st' := [.int v2, .ref 58]) (M' := M) rfl ?_
    refine pu_callI (m' := 165) (ml := 2) (as := [.ref 58, .int v2]) (rest := []) rfl rfl rfl (Nat.le_of_ble_eq_true rfl) H (fun x2 M1 H => ?_)
    show pu_R L (d + 2) 168 13 [.ref 58, .int v1, .int v2] [.int x2] M1 _
    refine pu_if_eq rfl (fun hc => ?_) (fun hc => ?_)
    · replace H := Eq.mp (if_pos hc) H
      refine pu_go 2 (pc' := 2) (ls' := [.ref 58, .int v1, .int (v2 + 1)]) (st' := []) (M' := M1) rfl ?_
      exact H
    · replace H := Eq.mp (if_neg hc) H
      refine pu_go 5 (pc' := 24) (ls' := [.ref 58, .int v1, .int v2]) (st' := [.int (48 + v2), .ref 59]) (M' := M1) rfl ?_
      obtain ⟨hb3, H⟩ := H
      refine pu_iald rfl rfl (Or.inl (by decide)) hb3 ?_
      refine pu_go 1 (pc' := 26) (ls' := [.ref 58, .int v1, .int v2]) (st' := [.int v1, .int (M1 59 (48 + v2 : Int32).toNatClampNeg)]) (M' := M1) rfl ?_
      refine pu_icmp_ne rfl (fun hc => ?_) (fun hc => ?_)
      · replace H := Eq.mp (if_neg hc) H
        refine pu_go 2 (pc' := 2) (ls' := [.ref 58, .int v1, .int (v2 + 1)]) (st' := []) (M' := M1) rfl ?_
        exact H
      · replace H := Eq.mp (if_pos hc) H
        refine pu_go 1 (pc' := 30) (ls' := [.ref 58, .int v1, .int v2]) (st' := [.int v2]) (M' := M1) rfl ?_
        exact pu_ret rfl rfl ⟨_, rfl, H⟩
set_option maxRecDepth 20000 in
theorem r_m_whoLies {L d : Nat} {M : pu_M} {Q : Int32 → pu_M → Prop} {v1 : Int32} (H : pu_R L (d + 2) 168 2 [.ref 58, .int v1, .int 0] [] M (pu_qI Q)) : pu_I L (d + 2) 168 [.ref 58, .int v1] M Q := by
  show pu_R L (d + 2) 168 0 [.ref 58, .int v1, mq_un] [] M (pu_qI Q)
  refine pu_go 2 (pc' := 2) (ls' := [.ref 58, .int v1, .int 0]) (st' := []) (M' := M) rfl ?_
  exact H
/-! m_areNext (II)Z -/
set_option maxRecDepth 20000 in
theorem r_m_areNext {L d : Nat} {M : pu_M} {Q : Int32 → pu_M → Prop} {v0 : Int32} {v1 : Int32} (H : pu_I L (d + 1) 160 [.int ((v0 % 10) - (v1 % 10))] M (fun x2 M1 => pu_I L (d + 1) 160 [.int ((v0 / 10) - (v1 / 10))] M1 (fun x4 M3 => (if (x2 + x4) = 1 then Q 1 M3 else Q 0 M3)))) : pu_I L (d + 2) 169 [.int v0, .int v1] M Q := by
  show pu_R L (d + 2) 169 0 [.int v0, .int v1] [] M (pu_qI Q)
  refine pu_go 2 (pc' := 3) (ls' := [.int v0, .int v1]) (st' := [.int 10, .int v0]) (M' := M) rfl ?_
  refine pu_rem rfl (by decide) ?_
  refine pu_go 2 (pc' := 7) (ls' := [.int v0, .int v1]) (st' := [.int 10, .int v1, .int (v0 % 10)]) (M' := M) rfl ?_
  refine pu_rem rfl (by decide) ?_
  refine pu_go 1 (pc' := 9) (ls' := [.int v0, .int v1]) (st' := [.int ((v0 % 10) - (v1 % 10))]) (M' := M) rfl ?_
  refine pu_callI (m' := 160) (ml := 1) (as := [.int ((v0 % 10) - (v1 % 10))]) (rest := []) rfl rfl rfl (Nat.le_of_ble_eq_true rfl) H (fun x2 M1 H => ?_)
  show pu_R L (d + 2) 169 12 [.int v0, .int v1] [.int x2] M1 _
  refine pu_go 2 (pc' := 15) (ls' := [.int v0, .int v1]) (st' := [.int 10, .int v0, .int x2]) (M' := M1) rfl ?_
  refine pu_div rfl (by decide) ?_
  refine pu_go 2 (pc' := 19) (ls' := [.int v0, .int v1]) (st' := [.int 10, .int v1, .int (v0 / 10), .int x2]) (M' := M1) rfl ?_
  refine pu_div rfl (by decide) ?_
  refine pu_go 1 (pc' := 21) (ls' := [.int v0, .int v1]) (st' := [.int ((v0 / 10) - (v1 / 10)), .int x2]) (M' := M1) rfl ?_
  refine pu_callI (m' := 160) (ml := 1) (as := [.int ((v0 / 10) - (v1 / 10))]) (rest := [.int x2]) rfl rfl rfl (Nat.le_of_ble_eq_true rfl) H (fun x4 M3 H => ?_)
  show pu_R L (d + 2) 169 24 [.int v0, .int v1] [.int x4, .int x2] M3 _
  refine pu_go 2 (pc' := 26) (ls' := [.int v0, .int v1]) (st' := [.int 1, .int (x2 + x4)]) (M' := M3) rfl ?_
  refine pu_icmp_ne rfl (fun hc => ?_) (fun hc => ?_)
  · replace H := Eq.mp (if_neg hc) H
    refine pu_go 1 (pc' := 34) (ls' := [.int v0, .int v1]) (st' := [.int 0]) (M' := M3) rfl ?_
    exact pu_ret rfl rfl ⟨_, rfl, H⟩
  · replace H := Eq.mp (if_pos hc) H
    refine pu_go 2 (pc' := 34) (ls' := [.int v0, .int v1]) (st' := [.int 1]) (M' := M3) rfl ?_
    exact pu_ret rfl rfl ⟨_, rfl, H⟩
/-! m_areBeside (II)Z -/
set_option maxRecDepth 20000 in
theorem r_m_areBeside {L d : Nat} {M : pu_M} {Q : Int32 → pu_M → Prop} {v1 : Int32} {v2 : Int32} (H : pu_I L (d + 2) 165 [.ref 58, .int v1] M (fun x2 M1 => (if x2 = 0 then Q 0 M1 else pu_I L (d + 2) 165 [.ref 58, .int v2] M1 (fun x4 M3 => (if x4 = 0 then Q 0 M3 else (mq_inb (48 + v1) 66 = true ∧ (mq_inb (48 + v2) 66 = true ∧ pu_I L (d + 2) 169 [.int (M3 59 (48 + v1 : Int32).toNatClampNeg), .int (M3 59 (48 + v2 : Int32).toNatClampNeg)] M3 (fun x8 M7 => (if x8 = 0 then Q 0 M7 else Q 1 M7))))))))) : pu_I L (d + 3) 170 [.ref 58, .int v1, .int v2] M Q := by
  show pu_R L (d + 3) 170 0 [.ref 58, .int v1, .int v2] [] M (pu_qI Q)
  refine pu_go 2 (pc' := 2) (ls' := [.ref 58, .int v1, .int v2]) (st' := [.int v1, .ref 58]) (M' := M) rfl ?_
  refine pu_callI (m' := 165) (ml := 2) (as := [.ref 58, .int v1]) (rest := []) rfl rfl rfl (Nat.le_of_ble_eq_true rfl) H (fun x2 M1 H => ?_)
  show pu_R L (d + 3) 170 5 [.ref 58, .int v1, .int v2] [.int x2] M1 _
  refine pu_if_eq rfl (fun hc => ?_) (fun hc => ?_)
  · replace H := Eq.mp (if_pos hc) H
    refine pu_go 1 (pc' := 45) (ls' := [.ref 58, .int v1, .int v2]) (st' := [.int 0]) (M' := M1) rfl ?_
    exact pu_ret rfl rfl ⟨_, rfl, H⟩
  · replace H := Eq.mp (if_neg hc) H
    refine pu_go 2 (pc' := 10) (ls' := [.ref 58, .int v1, .int v2]) (st' := [.int v2, .ref 58]) (M' := M1) rfl ?_
    refine pu_callI (m' := 165) (ml := 2) (as := [.ref 58, .int v2]) (rest := []) rfl rfl rfl (Nat.le_of_ble_eq_true rfl) H (fun x4 M3 H => ?_)
    show pu_R L (d + 3) 170 13 [.ref 58, .int v1, .int v2] [.int x4] M3 _
    refine pu_if_eq rfl (fun hc => ?_) (fun hc => ?_)
    · replace H := Eq.mp (if_pos hc) H
      refine pu_go 1 (pc' := 45) (ls' := [.ref 58, .int v1, .int v2]) (st' := [.int 0]) (M' := M3) rfl ?_
      exact pu_ret rfl rfl ⟨_, rfl, H⟩
    · replace H := Eq.mp (if_neg hc) H
      refine pu_go 5 (pc' := 24) (ls' := [.ref 58, .int v1, .int v2]) (st' := [.int (48 + v1), .ref 59]) (M' := M3) rfl ?_
      obtain ⟨hb5, H⟩ := H
      refine pu_iald rfl rfl (Or.inl (by decide)) hb5 ?_
      refine pu_go 5 (pc' := 33) (ls' := [.ref 58, .int v1, .int v2]) (st' := [.int (48 + v2), .ref 59, .int (M3 59 (48 + v1 : Int32).toNatClampNeg)]) (M' := M3) rfl ?_
      obtain ⟨hb6, H⟩ := H
      refine pu_iald rfl rfl (Or.inl (by decide)) hb6 ?_
      refine pu_callI (m' := 169) (ml := 2) (as := [.int (M3 59 (48 + v1 : Int32).toNatClampNeg), .int (M3 59 (48 + v2 : Int32).toNatClampNeg)]) (rest := []) rfl rfl rfl (Nat.le_of_ble_eq_true rfl) H (fun x8 M7 H => ?_)
      show pu_R L (d + 3) 170 37 [.ref 58, .int v1, .int v2] [.int x8] M7 _
      refine pu_if_eq rfl (fun hc => ?_) (fun hc => ?_)
      · replace H := Eq.mp (if_pos hc) H
        refine pu_go 1 (pc' := 45) (ls' := [.ref 58, .int v1, .int v2]) (st' := [.int 0]) (M' := M7) rfl ?_
        exact pu_ret rfl rfl ⟨_, rfl, H⟩
      · replace H := Eq.mp (if_neg hc) H
        refine pu_go 2 (pc' := 45) (ls' := [.ref 58, .int v1, .int v2]) (st' := [.int 1]) (M' := M7) rfl ?_
        exact pu_ret rfl rfl ⟨_, rfl, H⟩
/-! m_besideSet (I)I -/
set_option maxRecDepth 20000 in
theorem r_m_besideSet_4 {L d : Nat} {M : pu_M} {Q : Int32 → pu_M → Prop} {v1 : Int32} {v2 : Int32} {v3 : Int32} (H : (if 16 ≤ v3 then Q v2 M else pu_I L (d + 3) 170 [.ref 58, .int v1, .int v3] M (fun x2 M1 => (if x2 = 0 then pu_R L (d + 4) 171 4 [.ref 58, .int v1, .int v2, .int (v3 + 1)] [] M1 (pu_qI Q) else pu_R L (d + 4) 171 4 [.ref 58, .int v1, .int (v2 ||| ((1 : Int32) <<< (v3 &&& 31))), .int (v3 + 1)] [] M1 (pu_qI Q))))) : pu_R L (d + 4) 171 4 [.ref 58, .int v1, .int v2, .int v3] [] M (pu_qI Q) := by
  refine pu_go 2 (pc' := 7) (ls' := [.ref 58, .int v1, .int v2, .int v3]) (st' := [.int 16, .int v3]) (M' := M) rfl ?_
  refine pu_icmp_ge rfl (fun hc => ?_) (fun hc => ?_)
  · replace H := Eq.mp (if_pos hc) H
    refine pu_go 1 (pc' := 32) (ls' := [.ref 58, .int v1, .int v2, .int v3]) (st' := [.int v2]) (M' := M) rfl ?_
    exact pu_ret rfl rfl ⟨_, rfl, H⟩
  · replace H := Eq.mp (if_neg hc) H
    refine pu_go 3 (pc' := 13) (ls' := [.ref 58, .int v1, .int v2, .int v3]) (st' := [.int v3, .int v1, .ref 58]) (M' := M) rfl ?_
    refine pu_callI (m' := 170) (ml := 3) (as := [.ref 58, .int v1, .int v3]) (rest := []) rfl rfl rfl (Nat.le_of_ble_eq_true rfl) H (fun x2 M1 H => ?_)
    show pu_R L (d + 4) 171 16 [.ref 58, .int v1, .int v2, .int v3] [.int x2] M1 _
    refine pu_if_eq rfl (fun hc => ?_) (fun hc => ?_)
    · replace H := Eq.mp (if_pos hc) H
      refine pu_go 2 (pc' := 4) (ls' := [.ref 58, .int v1, .int v2, .int (v3 + 1)]) (st' := []) (M' := M1) rfl ?_
      exact H
    · replace H := Eq.mp (if_neg hc) H
      refine pu_go 8 (pc' := 4) (ls' := [.ref 58, .int v1, .int (v2 ||| ((1 : Int32) <<< (v3 &&& 31))), .int (v3 + 1)]) (st' := []) (M' := M1) rfl ?_
      exact H
set_option maxRecDepth 20000 in
theorem r_m_besideSet {L d : Nat} {M : pu_M} {Q : Int32 → pu_M → Prop} {v1 : Int32} (H : pu_R L (d + 4) 171 4 [.ref 58, .int v1, .int 0, .int 0] [] M (pu_qI Q)) : pu_I L (d + 4) 171 [.ref 58, .int v1] M Q := by
  show pu_R L (d + 4) 171 0 [.ref 58, .int v1, mq_un, mq_un] [] M (pu_qI Q)
  refine pu_go 4 (pc' := 4) (ls' := [.ref 58, .int v1, .int 0, .int 0]) (st' := []) (M' := M) rfl ?_
  exact H
/-! m_shared (II)I -/
set_option maxRecDepth 20000 in
theorem r_m_shared {L d : Nat} {M : pu_M} {Q : Int32 → pu_M → Prop} {v1 : Int32} {v2 : Int32} (H : (mq_inb (16 + v1) 66 = true ∧ (mq_inb (16 + v2) 66 = true ∧ pu_I L (d + 1) 162 [.int ((M 59 (16 + v1 : Int32).toNatClampNeg) &&& (M 59 (16 + v2 : Int32).toNatClampNeg))] M (fun x4 M3 => Q x4 M3)))) : pu_I L (d + 2) 172 [.ref 58, .int v1, .int v2] M Q := by
  show pu_R L (d + 2) 172 0 [.ref 58, .int v1, .int v2] [] M (pu_qI Q)
  refine pu_go 5 (pc' := 8) (ls' := [.ref 58, .int v1, .int v2]) (st' := [.int (16 + v1), .ref 59]) (M' := M) rfl ?_
  obtain ⟨hb1, H⟩ := H
  refine pu_iald rfl rfl (Or.inl (by decide)) hb1 ?_
  refine pu_go 5 (pc' := 17) (ls' := [.ref 58, .int v1, .int v2]) (st' := [.int (16 + v2), .ref 59, .int (M 59 (16 + v1 : Int32).toNatClampNeg)]) (M' := M) rfl ?_
  obtain ⟨hb2, H⟩ := H
  refine pu_iald rfl rfl (Or.inl (by decide)) hb2 ?_
  refine pu_go 1 (pc' := 19) (ls' := [.ref 58, .int v1, .int v2]) (st' := [.int ((M 59 (16 + v1 : Int32).toNatClampNeg) &&& (M 59 (16 + v2 : Int32).toNatClampNeg))]) (M' := M) rfl ?_
  refine pu_callI (m' := 162) (ml := 3) (as := [.int ((M 59 (16 + v1 : Int32).toNatClampNeg) &&& (M 59 (16 + v2 : Int32).toNatClampNeg))]) (rest := []) rfl rfl rfl (Nat.le_of_ble_eq_true rfl) H (fun x4 M3 H => ?_)
  show pu_R L (d + 2) 172 22 [.ref 58, .int v1, .int v2] [.int x4] M3 _
  exact pu_ret rfl rfl ⟨_, rfl, H⟩
/-! m_talkOf (II)I -/
set_option maxRecDepth 20000 in
theorem r_m_talkOf {L d : Nat} {M : pu_M} {Q : Int32 → pu_M → Prop} {v1 : Int32} {v2 : Int32} (H : pu_I L (d + 2) 172 [.ref 58, .int v1, .int v2] M (fun x2 M1 => (mq_inb (16 + v1) 66 = true ∧ (mq_inb (16 + v2) 66 = true ∧ pu_I L (d + 2) 162 [.int ((M1 59 (16 + v1 : Int32).toNatClampNeg) ^^^ (M1 59 (16 + v2 : Int32).toNatClampNeg))] M1 (fun x6 M5 => Q ((3 * x2) - x6) M5))))) : pu_I L (d + 3) 173 [.ref 58, .int v1, .int v2] M Q := by
  show pu_R L (d + 3) 173 0 [.ref 58, .int v1, .int v2] [] M (pu_qI Q)
  refine pu_go 4 (pc' := 4) (ls' := [.ref 58, .int v1, .int v2]) (st' := [.int v2, .int v1, .ref 58, .int 3]) (M' := M) rfl ?_
  refine pu_callI (m' := 172) (ml := 3) (as := [.ref 58, .int v1, .int v2]) (rest := [.int 3]) rfl rfl rfl (Nat.le_of_ble_eq_true rfl) H (fun x2 M1 H => ?_)
  show pu_R L (d + 3) 173 7 [.ref 58, .int v1, .int v2] [.int x2, .int 3] M1 _
  refine pu_go 6 (pc' := 16) (ls' := [.ref 58, .int v1, .int v2]) (st' := [.int (16 + v1), .ref 59, .int (3 * x2)]) (M' := M1) rfl ?_
  obtain ⟨hb3, H⟩ := H
  refine pu_iald rfl rfl (Or.inl (by decide)) hb3 ?_
  refine pu_go 5 (pc' := 25) (ls' := [.ref 58, .int v1, .int v2]) (st' := [.int (16 + v2), .ref 59, .int (M1 59 (16 + v1 : Int32).toNatClampNeg), .int (3 * x2)]) (M' := M1) rfl ?_
  obtain ⟨hb4, H⟩ := H
  refine pu_iald rfl rfl (Or.inl (by decide)) hb4 ?_
  refine pu_go 1 (pc' := 27) (ls' := [.ref 58, .int v1, .int v2]) (st' := [.int ((M1 59 (16 + v1 : Int32).toNatClampNeg) ^^^ (M1 59 (16 + v2 : Int32).toNatClampNeg)), .int (3 * x2)]) (M' := M1) rfl ?_
  refine pu_callI (m' := 162) (ml := 3) (as := [.int ((M1 59 (16 + v1 : Int32).toNatClampNeg) ^^^ (M1 59 (16 + v2 : Int32).toNatClampNeg))]) (rest := [.int (3 * x2)]) rfl rfl rfl (Nat.le_of_ble_eq_true rfl) H (fun x6 M5 H => ?_)
  show pu_R L (d + 3) 173 30 [.ref 58, .int v1, .int v2] [.int x6, .int (3 * x2)] M5 _
  refine pu_go 1 (pc' := 31) (ls' := [.ref 58, .int v1, .int v2]) (st' := [.int ((3 * x2) - x6)]) (M' := M5) rfl ?_
  exact pu_ret rfl rfl ⟨_, rfl, H⟩
/-! m_person (III)Z -/
set_option maxRecDepth 20000 in
theorem r_m_person {L d : Nat} {M : pu_M} {Q : Int32 → pu_M → Prop} {v1 : Int32} {v2 : Int32} {v3 : Int32} (H : pu_I L (d + 1) 157 [.int v1, .int 0, .int 15] M (fun x2 M1 => (if x2 = 0 then Q 0 M1 else pu_I L (d + 1) 157 [.int v2, .int 0, .int 65535] M1 (fun x4 M3 => (if x4 = 0 then Q 0 M3 else pu_I L (d + 1) 157 [.int v3, .int 0, .int 99] M3 (fun x6 M5 => (if x6 = 0 then Q 0 M5 else (mq_inb (0 + v1) 66 = true ∧ (mq_inb (16 + v1) 66 = true ∧ (mq_inb (32 + v1) 66 = true ∧ (mq_inb (48 + v1) 66 = true ∧ (∀ M11 : pu_M, M11 = pu_wr (pu_wr (pu_wr (pu_wr M5 59 (0 + v1 : Int32).toNatClampNeg 1) 59 (16 + v1 : Int32).toNatClampNeg v2) 59 (32 + v1 : Int32).toNatClampNeg v3) 59 (48 + v1 : Int32).toNatClampNeg ((-2)) → Q 1 M11)))))))))))) : pu_I L (d + 2) 174 [.ref 58, .int v1, .int v2, .int v3] M Q := by
  show pu_R L (d + 2) 174 0 [.ref 58, .int v1, .int v2, .int v3] [] M (pu_qI Q)
  refine pu_go 3 (pc' := 4) (ls' := [.ref 58, .int v1, .int v2, .int v3]) (st' := [.int 15, .int 0, .int v1]) (M' := M) rfl ?_
  refine pu_callI (m' := 157) (ml := 3) (as := [.int v1, .int 0, .int 15]) (rest := []) rfl rfl rfl (Nat.le_of_ble_eq_true rfl) H (fun x2 M1 H => ?_)
  show pu_R L (d + 2) 174 7 [.ref 58, .int v1, .int v2, .int v3] [.int x2] M1 _
  refine pu_if_eq rfl (fun hc => ?_) (fun hc => ?_)
  · replace H := Eq.mp (if_pos hc) H
    refine pu_go 1 (pc' := 31) (ls' := [.ref 58, .int v1, .int v2, .int v3]) (st' := [.int 0]) (M' := M1) rfl ?_
    exact pu_ret rfl rfl ⟨_, rfl, H⟩
  · replace H := Eq.mp (if_neg hc) H
    refine pu_go 3 (pc' := 14) (ls' := [.ref 58, .int v1, .int v2, .int v3]) (st' := [.int 65535, .int 0, .int v2]) (M' := M1) rfl ?_
    refine pu_callI (m' := 157) (ml := 3) (as := [.int v2, .int 0, .int 65535]) (rest := []) rfl rfl rfl (Nat.le_of_ble_eq_true rfl) H (fun x4 M3 H => ?_)
    show pu_R L (d + 2) 174 17 [.ref 58, .int v1, .int v2, .int v3] [.int x4] M3 _
    refine pu_if_eq rfl (fun hc => ?_) (fun hc => ?_)
    · replace H := Eq.mp (if_pos hc) H
      refine pu_go 1 (pc' := 31) (ls' := [.ref 58, .int v1, .int v2, .int v3]) (st' := [.int 0]) (M' := M3) rfl ?_
      exact pu_ret rfl rfl ⟨_, rfl, H⟩
    · replace H := Eq.mp (if_neg hc) H
      refine pu_go 3 (pc' := 24) (ls' := [.ref 58, .int v1, .int v2, .int v3]) (st' := [.int 99, .int 0, .int v3]) (M' := M3) rfl ?_
      refine pu_callI (m' := 157) (ml := 3) (as := [.int v3, .int 0, .int 99]) (rest := []) rfl rfl rfl (Nat.le_of_ble_eq_true rfl) H (fun x6 M5 H => ?_)
      show pu_R L (d + 2) 174 27 [.ref 58, .int v1, .int v2, .int v3] [.int x6] M5 _
      refine pu_if_ne rfl (fun hc => ?_) (fun hc => ?_)
      · replace H := Eq.mp (if_neg hc) H
        refine pu_go 6 (pc' := 40) (ls' := [.ref 58, .int v1, .int v2, .int v3]) (st' := [.int 1, .int (0 + v1), .ref 59]) (M' := M5) rfl ?_
        obtain ⟨hb7, H⟩ := H
        refine pu_iast rfl rfl (by decide) hb7 ?_
        refine pu_go 6 (pc' := 50) (ls' := [.ref 58, .int v1, .int v2, .int v3]) (st' := [.int v2, .int (16 + v1), .ref 59]) (M' := pu_wr M5 59 (0 + v1 : Int32).toNatClampNeg 1) rfl ?_
        obtain ⟨hb8, H⟩ := H
        refine pu_iast rfl rfl (by decide) hb8 ?_
        refine pu_go 6 (pc' := 60) (ls' := [.ref 58, .int v1, .int v2, .int v3]) (st' := [.int v3, .int (32 + v1), .ref 59]) (M' := pu_wr (pu_wr M5 59 (0 + v1 : Int32).toNatClampNeg 1) 59 (16 + v1 : Int32).toNatClampNeg v2) rfl ?_
        obtain ⟨hb9, H⟩ := H
        refine pu_iast rfl rfl (by decide) hb9 ?_
        refine pu_go 6 (pc' := 71) (ls' := [.ref 58, .int v1, .int v2, .int v3]) (st' := [.int ((-2)), .int (48 + v1), .ref 59]) (M' := pu_wr (pu_wr (pu_wr M5 59 (0 + v1 : Int32).toNatClampNeg 1) 59 (16 + v1 : Int32).toNatClampNeg v2) 59 (32 + v1 : Int32).toNatClampNeg v3) rfl ?_
        obtain ⟨hb10, H⟩ := H
        refine pu_iast rfl rfl (by decide) hb10 ?_
        refine pu_named (fun M11 eM12 => ?_)
        replace H := H M11 eM12
        refine pu_go 1 (pc' := 73) (ls' := [.ref 58, .int v1, .int v2, .int v3]) (st' := [.int 1]) (M' := M11) rfl ?_
        exact pu_ret rfl rfl ⟨_, rfl, H⟩
      · replace H := Eq.mp (if_pos hc) H
        refine pu_go 1 (pc' := 31) (ls' := [.ref 58, .int v1, .int v2, .int v3]) (st' := [.int 0]) (M' := M5) rfl ?_
        exact pu_ret rfl rfl ⟨_, rfl, H⟩
/-! m_types (I)V -/
set_option maxRecDepth 20000 in
theorem r_m_types_2 {L d : Nat} {M : pu_M} {Q : pu_M → Prop} {v1 : Int32} {v2 : Int32} (H : (if v2 < 0 then Q M else (mq_inb (M 58 4) 260 = true ∧ (∀ M2 : pu_M, M2 = pu_wr (pu_wr M 62 (M 58 4 : Int32).toNatClampNeg (vp_nar .byte ((v1 >>> ((8 * v2) &&& 31)).toInt8.toInt32))) 58 4 (((pu_wr M 62 (M 58 4 : Int32).toNatClampNeg (vp_nar .byte ((v1 >>> ((8 * v2) &&& 31)).toInt8.toInt32))) 58 4) + 1) → pu_R L (d + 1) 175 2 [.ref 58, .int v1, .int (v2 + (-1))] [] M2 (pu_qV Q))))) : pu_R L (d + 1) 175 2 [.ref 58, .int v1, .int v2] [] M (pu_qV Q) := by
  refine pu_go 1 (pc' := 3) (ls' := [.ref 58, .int v1, .int v2]) (st' := [.int v2]) (M' := M) rfl ?_
  refine pu_if_lt rfl (fun hc => ?_) (fun hc => ?_)
  · replace H := Eq.mp (if_pos hc) H
    exact pu_ret rfl rfl ⟨rfl, H⟩
  · replace H := Eq.mp (if_neg hc) H
    refine pu_go 10 (pc' := 21) (ls' := [.ref 58, .int v1, .int v2]) (st' := [.int ((v1 >>> ((8 * v2) &&& 31)).toInt8.toInt32), .int (M 58 4), .ref 62]) (M' := M) rfl ?_
    obtain ⟨hb1, H⟩ := H
    refine pu_bast rfl rfl (by decide) hb1 ?_
    refine pu_go 5 (pc' := 29) (ls' := [.ref 58, .int v1, .int v2]) (st' := [.int (((pu_wr M 62 (M 58 4 : Int32).toNatClampNeg (vp_nar .byte ((v1 >>> ((8 * v2) &&& 31)).toInt8.toInt32))) 58 4) + 1), .ref 58]) (M' := pu_wr M 62 (M 58 4 : Int32).toNatClampNeg (vp_nar .byte ((v1 >>> ((8 * v2) &&& 31)).toInt8.toInt32))) rfl ?_
    refine pu_putf (j := 4) (z := ((pu_wr M 62 (M 58 4 : Int32).toNatClampNeg (vp_nar .byte ((v1 >>> ((8 * v2) &&& 31)).toInt8.toInt32))) 58 4) + 1) rfl rfl (by decide) rfl (by decide) rfl rfl pu_put_hw ?_
    refine pu_named (fun M2 eM3 => ?_)
    replace H := H M2 eM3
    refine pu_go 2 (pc' := 2) (ls' := [.ref 58, .int v1, .int (v2 + (-1))]) (st' := []) (M' := M2) rfl ?_
    exact H
set_option maxRecDepth 20000 in
theorem r_m_types {L d : Nat} {M : pu_M} {Q : pu_M → Prop} {v1 : Int32} (H : pu_R L (d + 1) 175 2 [.ref 58, .int v1, .int 3] [] M (pu_qV Q)) : pu_V L (d + 1) 175 [.ref 58, .int v1] M Q := by
  show pu_R L (d + 1) 175 0 [.ref 58, .int v1, mq_un] [] M (pu_qV Q)
  refine pu_go 2 (pc' := 2) (ls' := [.ref 58, .int v1, .int 3]) (st' := []) (M' := M) rfl ?_
  exact H
/-! m_feed (IIIII)I -/
set_option maxRecDepth 20000 in
theorem r_m_feed {L d : Nat} {M : pu_M} {Q : Int32 → pu_M → Prop} {v1 : Int32} {v2 : Int32} {v3 : Int32} {v4 : Int32} {v5 : Int32} (H : (if ((M 58 4) + 20) ≤ 260 then pu_V L (d + 1) 175 [.ref 58, .int v1] M (fun M1 => pu_V L (d + 1) 175 [.ref 58, .int v2] M1 (fun M2 => pu_V L (d + 1) 175 [.ref 58, .int v3] M2 (fun M3 => pu_V L (d + 1) 175 [.ref 58, .int v4] M3 (fun M4 => pu_V L (d + 1) 175 [.ref 58, .int v5] M4 (fun M5 => Q (M5 58 4) M5))))) else Q ((-1)) M)) : pu_I L (d + 2) 176 [.ref 58, .int v1, .int v2, .int v3, .int v4, .int v5] M Q := by
  show pu_R L (d + 2) 176 0 [.ref 58, .int v1, .int v2, .int v3, .int v4, .int v5] [] M (pu_qI Q)
  refine pu_go 5 (pc' := 10) (ls' := [.ref 58, .int v1, .int v2, .int v3, .int v4, .int v5]) (st' := [.int 260, .int ((M 58 4) + 20)]) (M' := M) rfl ?_
  refine pu_icmp_le rfl (fun hc => ?_) (fun hc => ?_)
  · replace H := Eq.mp (if_pos hc) H
    refine pu_go 2 (pc' := 17) (ls' := [.ref 58, .int v1, .int v2, .int v3, .int v4, .int v5]) (st' := [.int v1, .ref 58]) (M' := M) rfl ?_
    refine pu_callV (m' := 175) (ml := 3) (as := [.ref 58, .int v1]) (rest := []) rfl rfl rfl (Nat.le_of_ble_eq_true rfl) H (fun M1 H => ?_)
    show pu_R L (d + 2) 176 20 [.ref 58, .int v1, .int v2, .int v3, .int v4, .int v5] [] M1 _
    refine pu_go 2 (pc' := 22) (ls' := [.ref 58, .int v1, .int v2, .int v3, .int v4, .int v5]) (st' := [.int v2, .ref 58]) (M' := M1) rfl ?_
    refine pu_callV (m' := 175) (ml := 3) (as := [.ref 58, .int v2]) (rest := []) rfl rfl rfl (Nat.le_of_ble_eq_true rfl) H (fun M2 H => ?_)
    show pu_R L (d + 2) 176 25 [.ref 58, .int v1, .int v2, .int v3, .int v4, .int v5] [] M2 _
    refine pu_go 2 (pc' := 27) (ls' := [.ref 58, .int v1, .int v2, .int v3, .int v4, .int v5]) (st' := [.int v3, .ref 58]) (M' := M2) rfl ?_
    refine pu_callV (m' := 175) (ml := 3) (as := [.ref 58, .int v3]) (rest := []) rfl rfl rfl (Nat.le_of_ble_eq_true rfl) H (fun M3 H => ?_)
    show pu_R L (d + 2) 176 30 [.ref 58, .int v1, .int v2, .int v3, .int v4, .int v5] [] M3 _
    refine pu_go 2 (pc' := 33) (ls' := [.ref 58, .int v1, .int v2, .int v3, .int v4, .int v5]) (st' := [.int v4, .ref 58]) (M' := M3) rfl ?_
    refine pu_callV (m' := 175) (ml := 3) (as := [.ref 58, .int v4]) (rest := []) rfl rfl rfl (Nat.le_of_ble_eq_true rfl) H (fun M4 H => ?_)
    show pu_R L (d + 2) 176 36 [.ref 58, .int v1, .int v2, .int v3, .int v4, .int v5] [] M4 _
    refine pu_go 2 (pc' := 39) (ls' := [.ref 58, .int v1, .int v2, .int v3, .int v4, .int v5]) (st' := [.int v5, .ref 58]) (M' := M4) rfl ?_
    refine pu_callV (m' := 175) (ml := 3) (as := [.ref 58, .int v5]) (rest := []) rfl rfl rfl (Nat.le_of_ble_eq_true rfl) H (fun M5 H => ?_)
    show pu_R L (d + 2) 176 42 [.ref 58, .int v1, .int v2, .int v3, .int v4, .int v5] [] M5 _
    refine pu_go 2 (pc' := 46) (ls' := [.ref 58, .int v1, .int v2, .int v3, .int v4, .int v5]) (st' := [.int (M5 58 4)]) (M' := M5) rfl ?_
    exact pu_ret rfl rfl ⟨_, rfl, H⟩
  · replace H := Eq.mp (if_neg hc) H
    refine pu_go 1 (pc' := 14) (ls' := [.ref 58, .int v1, .int v2, .int v3, .int v4, .int v5]) (st' := [.int ((-1))]) (M' := M) rfl ?_
    exact pu_ret rfl rfl ⟨_, rfl, H⟩
/-! m_octet (I)I -/
set_option maxRecDepth 20000 in
theorem r_m_octet {L d : Nat} {M : pu_M} {Q : Int32 → pu_M → Prop} {v1 : Int32} (H : (mq_inb v1 260 = true ∧ Q ((M 62 v1.toNatClampNeg) &&& 255) M)) : pu_I L (d + 1) 177 [.ref 58, .int v1] M Q := by
  show pu_R L (d + 1) 177 0 [.ref 58, .int v1] [] M (pu_qI Q)
  refine pu_go 3 (pc' := 5) (ls' := [.ref 58, .int v1]) (st' := [.int v1, .ref 62]) (M' := M) rfl ?_
  obtain ⟨hb1, H⟩ := H
  refine pu_bald rfl rfl (by decide) hb1 ?_
  refine pu_go 2 (pc' := 10) (ls' := [.ref 58, .int v1]) (st' := [.int ((M 62 v1.toNatClampNeg) &&& 255)]) (M' := M) rfl ?_
  exact pu_ret rfl rfl ⟨_, rfl, H⟩
/-! m_here ()I -/
set_option maxRecDepth 20000 in
theorem r_m_here {L d : Nat} {M : pu_M} {Q : Int32 → pu_M → Prop}  (H : (if (M 58 6) ≤ (M 58 5) then Q ((-1)) M else (mq_inb (M 58 5) 260 = true ∧ Q ((M 62 (M 58 5 : Int32).toNatClampNeg) &&& 255) M))) : pu_I L (d + 1) 178 [.ref 58] M Q := by
  show pu_R L (d + 1) 178 0 [.ref 58] [] M (pu_qI Q)
  refine pu_go 4 (pc' := 8) (ls' := [.ref 58]) (st' := [.int (M 58 6), .int (M 58 5)]) (M' := M) rfl ?_
  refine pu_icmp_ge rfl (fun hc => ?_) (fun hc => ?_)
  · replace H := Eq.mp (if_pos hc) H
    refine pu_go 1 (pc' := 28) (ls' := [.ref 58]) (st' := [.int ((-1))]) (M' := M) rfl ?_
    exact pu_ret rfl rfl ⟨_, rfl, H⟩
  · replace H := Eq.mp (if_neg hc) H
    refine pu_go 4 (pc' := 19) (ls' := [.ref 58]) (st' := [.int (M 58 5), .ref 62]) (M' := M) rfl ?_
    obtain ⟨hb1, H⟩ := H
    refine pu_bald rfl rfl (by decide) hb1 ?_
    refine pu_go 3 (pc' := 28) (ls' := [.ref 58]) (st' := [.int ((M 62 (M 58 5 : Int32).toNatClampNeg) &&& 255)]) (M' := M) rfl ?_
    exact pu_ret rfl rfl ⟨_, rfl, H⟩
/-! m_isDigit ()Z -/
set_option maxRecDepth 20000 in
theorem r_m_isDigit {L d : Nat} {M : pu_M} {Q : Int32 → pu_M → Prop}  (H : pu_I L (d + 1) 178 [.ref 58] M (fun x2 M1 => (if x2 < 48 then Q 0 M1 else pu_I L (d + 1) 178 [.ref 58] M1 (fun x4 M3 => (if 57 < x4 then Q 0 M3 else Q 1 M3))))) : pu_I L (d + 2) 179 [.ref 58] M Q := by
  show pu_R L (d + 2) 179 0 [.ref 58] [] M (pu_qI Q)
  refine pu_go 1 (pc' := 1) (ls' := [.ref 58]) (st' := [.ref 58]) (M' := M) rfl ?_
  refine pu_callI (m' := 178) (ml := 1) (as := [.ref 58]) (rest := []) rfl rfl rfl (Nat.le_of_ble_eq_true rfl) H (fun x2 M1 H => ?_)
  show pu_R L (d + 2) 179 4 [.ref 58] [.int x2] M1 _
  refine pu_go 1 (pc' := 6) (ls' := [.ref 58]) (st' := [.int 48, .int x2]) (M' := M1) rfl ?_
  refine pu_icmp_lt rfl (fun hc => ?_) (fun hc => ?_)
  · replace H := Eq.mp (if_pos hc) H
    refine pu_go 1 (pc' := 23) (ls' := [.ref 58]) (st' := [.int 0]) (M' := M1) rfl ?_
    exact pu_ret rfl rfl ⟨_, rfl, H⟩
  · replace H := Eq.mp (if_neg hc) H
    refine pu_go 1 (pc' := 10) (ls' := [.ref 58]) (st' := [.ref 58]) (M' := M1) rfl ?_
    refine pu_callI (m' := 178) (ml := 1) (as := [.ref 58]) (rest := []) rfl rfl rfl (Nat.le_of_ble_eq_true rfl) H (fun x4 M3 H => ?_)
    show pu_R L (d + 2) 179 13 [.ref 58] [.int x4] M3 _
    refine pu_go 1 (pc' := 15) (ls' := [.ref 58]) (st' := [.int 57, .int x4]) (M' := M3) rfl ?_
    refine pu_icmp_gt rfl (fun hc => ?_) (fun hc => ?_)
    · replace H := Eq.mp (if_pos hc) H
      refine pu_go 1 (pc' := 23) (ls' := [.ref 58]) (st' := [.int 0]) (M' := M3) rfl ?_
      exact pu_ret rfl rfl ⟨_, rfl, H⟩
    · replace H := Eq.mp (if_neg hc) H
      refine pu_go 2 (pc' := 23) (ls' := [.ref 58]) (st' := [.int 1]) (M' := M3) rfl ?_
      exact pu_ret rfl rfl ⟨_, rfl, H⟩
/-! m_wrongAt (II)Z -/
set_option maxRecDepth 20000 in
theorem r_m_wrongAt {L d : Nat} {M : pu_M} {Q : Int32 → pu_M → Prop} {v1 : Int32} {v2 : Int32} (H : Q 0 (pu_wr M 58 7 ((((-1000)) * v1) - v2))) : pu_I L (d + 1) 180 [.ref 58, .int v1, .int v2] M Q := by
  show pu_R L (d + 1) 180 0 [.ref 58, .int v1, .int v2] [] M (pu_qI Q)
  refine pu_go 6 (pc' := 8) (ls' := [.ref 58, .int v1, .int v2]) (st' := [.int ((((-1000)) * v1) - v2), .ref 58]) (M' := M) rfl ?_
  refine pu_putf (j := 7) (z := (((-1000)) * v1) - v2) rfl rfl (by decide) rfl (by decide) rfl rfl pu_put_hw ?_
  refine pu_go 1 (pc' := 12) (ls' := [.ref 58, .int v1, .int v2]) (st' := [.int 0]) (M' := pu_wr M 58 7 ((((-1000)) * v1) - v2)) rfl ?_
  exact pu_ret rfl rfl ⟨_, rfl, H⟩
/-! m_takes (I)Z -/
set_option maxRecDepth 20000 in
theorem r_m_takes {L d : Nat} {M : pu_M} {Q : Int32 → pu_M → Prop} {v1 : Int32} (H : pu_I L (d + 1) 178 [.ref 58] M (fun x2 M1 => (if x2 = v1 then Q 1 (pu_wr M1 58 5 ((M1 58 5) + 1)) else pu_I L (d + 1) 180 [.ref 58, .int 1, .int (M1 58 5)] M1 (fun x4 M3 => ((x4 = 0 ∨ x4 = 1) ∧ Q x4 M3))))) : pu_I L (d + 2) 181 [.ref 58, .int v1] M Q := by
  show pu_R L (d + 2) 181 0 [.ref 58, .int v1] [] M (pu_qI Q)
  refine pu_go 1 (pc' := 1) (ls' := [.ref 58, .int v1]) (st' := [.ref 58]) (M' := M) rfl ?_
  refine pu_callI (m' := 178) (ml := 1) (as := [.ref 58]) (rest := []) rfl rfl rfl (Nat.le_of_ble_eq_true rfl) H (fun x2 M1 H => ?_)
  show pu_R L (d + 2) 181 4 [.ref 58, .int v1] [.int x2] M1 _
  refine pu_go 1 (pc' := 5) (ls' := [.ref 58, .int v1]) (st' := [.int v1, .int x2]) (M' := M1) rfl ?_
  refine pu_icmp_eq rfl (fun hc => ?_) (fun hc => ?_)
  · replace H := Eq.mp (if_pos hc) H
    refine pu_go 5 (pc' := 25) (ls' := [.ref 58, .int v1]) (st' := [.int ((M1 58 5) + 1), .ref 58]) (M' := M1) rfl ?_
    refine pu_putf (j := 5) (z := (M1 58 5) + 1) rfl rfl (by decide) rfl (by decide) rfl rfl pu_put_hw ?_
    refine pu_go 1 (pc' := 29) (ls' := [.ref 58, .int v1]) (st' := [.int 1]) (M' := pu_wr M1 58 5 ((M1 58 5) + 1)) rfl ?_
    exact pu_ret rfl rfl ⟨_, rfl, H⟩
  · replace H := Eq.mp (if_neg hc) H
    refine pu_go 4 (pc' := 14) (ls' := [.ref 58, .int v1]) (st' := [.int (M1 58 5), .int 1, .ref 58]) (M' := M1) rfl ?_
    refine pu_callI (m' := 180) (ml := 3) (as := [.ref 58, .int 1, .int (M1 58 5)]) (rest := []) rfl rfl rfl (Nat.le_of_ble_eq_true rfl) H (fun x4 M3 H => ?_)
    show pu_R L (d + 2) 181 17 [.ref 58, .int v1] [.int x4] M3 _
    obtain ⟨hb5, H⟩ := H
    exact pu_retZ rfl hb5 H
/-! m_readsNumber ()Z -/
set_option maxRecDepth 20000 in
theorem r_m_readsNumber_10 {L d : Nat} {M : pu_M} {Q : Int32 → pu_M → Prop} {v1 : Int32} (H : pu_I L (d + 2) 179 [.ref 58] M (fun x2 M1 => (if x2 = 0 then Q 1 M1 else (if (M1 58 5) = (v1 + 5) then pu_I L (d + 2) 180 [.ref 58, .int 2, .int (M1 58 5)] M1 (fun x6 M5 => ((x6 = 0 ∨ x6 = 1) ∧ Q x6 M5)) else pu_I L (d + 2) 178 [.ref 58] M1 (fun x4 M3 => pu_R L (d + 3) 182 10 [.ref 58, .int v1] [] (pu_wr (pu_wr M3 58 8 (((10 * (M1 58 8)) + x4) - 48)) 58 5 (((pu_wr M3 58 8 (((10 * (M1 58 8)) + x4) - 48)) 58 5) + 1)) (pu_qI Q)))))) : pu_R L (d + 3) 182 10 [.ref 58, .int v1] [] M (pu_qI Q) := by
  refine pu_go 1 (pc' := 11) (ls' := [.ref 58, .int v1]) (st' := [.ref 58]) (M' := M) rfl ?_
  refine pu_callI (m' := 179) (ml := 1) (as := [.ref 58]) (rest := []) rfl rfl rfl (Nat.le_of_ble_eq_true rfl) H (fun x2 M1 H => ?_)
  show pu_R L (d + 3) 182 14 [.ref 58, .int v1] [.int x2] M1 _
  refine pu_if_eq rfl (fun hc => ?_) (fun hc => ?_)
  · replace H := Eq.mp (if_pos hc) H
    refine pu_go 1 (pc' := 70) (ls' := [.ref 58, .int v1]) (st' := [.int 1]) (M' := M1) rfl ?_
    exact pu_ret rfl rfl ⟨_, rfl, H⟩
  · replace H := Eq.mp (if_neg hc) H
    refine pu_go 5 (pc' := 24) (ls' := [.ref 58, .int v1]) (st' := [.int (v1 + 5), .int (M1 58 5)]) (M' := M1) rfl ?_
    refine pu_icmp_ne rfl (fun hc => ?_) (fun hc => ?_)
    · replace H := Eq.mp (if_neg hc) H
      refine pu_go 6 (pc' := 46) (ls' := [.ref 58, .int v1]) (st' := [.ref 58, .int (10 * (M1 58 8)), .ref 58]) (M' := M1) rfl ?_
      refine pu_callI (m' := 178) (ml := 1) (as := [.ref 58]) (rest := [.int (10 * (M1 58 8)), .ref 58]) rfl rfl rfl (Nat.le_of_ble_eq_true rfl) H (fun x4 M3 H => ?_)
      show pu_R L (d + 3) 182 49 [.ref 58, .int v1] [.int x4, .int (10 * (M1 58 8)), .ref 58] M3 _
      refine pu_go 3 (pc' := 53) (ls' := [.ref 58, .int v1]) (st' := [.int (((10 * (M1 58 8)) + x4) - 48), .ref 58]) (M' := M3) rfl ?_
      refine pu_putf (j := 8) (z := ((10 * (M1 58 8)) + x4) - 48) rfl rfl (by decide) rfl (by decide) rfl rfl pu_put_hw ?_
      refine pu_go 5 (pc' := 63) (ls' := [.ref 58, .int v1]) (st' := [.int (((pu_wr M3 58 8 (((10 * (M1 58 8)) + x4) - 48)) 58 5) + 1), .ref 58]) (M' := pu_wr M3 58 8 (((10 * (M1 58 8)) + x4) - 48)) rfl ?_
      refine pu_putf (j := 5) (z := ((pu_wr M3 58 8 (((10 * (M1 58 8)) + x4) - 48)) 58 5) + 1) rfl rfl (by decide) rfl (by decide) rfl rfl pu_put_hw ?_
      refine pu_go 1 (pc' := 10) (ls' := [.ref 58, .int v1]) (st' := []) (M' := pu_wr (pu_wr M3 58 8 (((10 * (M1 58 8)) + x4) - 48)) 58 5 (((pu_wr M3 58 8 (((10 * (M1 58 8)) + x4) - 48)) 58 5) + 1)) rfl ?_
      exact H
    · replace H := Eq.mp (if_pos hc) H
      refine pu_go 4 (pc' := 33) (ls' := [.ref 58, .int v1]) (st' := [.int (M1 58 5), .int 2, .ref 58]) (M' := M1) rfl ?_
      refine pu_callI (m' := 180) (ml := 3) (as := [.ref 58, .int 2, .int (M1 58 5)]) (rest := []) rfl rfl rfl (Nat.le_of_ble_eq_true rfl) H (fun x6 M5 H => ?_)
      show pu_R L (d + 3) 182 36 [.ref 58, .int v1] [.int x6] M5 _
      obtain ⟨hb7, H⟩ := H
      exact pu_retZ rfl hb7 H
set_option maxRecDepth 20000 in
theorem r_m_readsNumber {L d : Nat} {M : pu_M} {Q : Int32 → pu_M → Prop}  (H : pu_R L (d + 3) 182 10 [.ref 58, .int (M 58 5)] [] (pu_wr M 58 8 0) (pu_qI Q)) : pu_I L (d + 3) 182 [.ref 58] M Q := by
  show pu_R L (d + 3) 182 0 [.ref 58, mq_un] [] M (pu_qI Q)
  refine pu_go 5 (pc' := 7) (ls' := [.ref 58, .int (M 58 5)]) (st' := [.int 0, .ref 58]) (M' := M) rfl ?_
  refine pu_putf (j := 8) (z := 0) rfl rfl (by decide) rfl (by decide) rfl rfl pu_put_hw ?_
  exact H
/-! m_notes (II)V -/
set_option maxRecDepth 20000 in
theorem r_m_notes {L d : Nat} {M : pu_M} {Q : pu_M → Prop} {v1 : Int32} {v2 : Int32} (H : (mq_inb (M 58 10) 260 = true ∧ Q (pu_wr (pu_wr M 63 (M 58 10 : Int32).toNatClampNeg ((1048576 * v1) + v2)) 58 10 (((pu_wr M 63 (M 58 10 : Int32).toNatClampNeg ((1048576 * v1) + v2)) 58 10) + 1)))) : pu_V L (d + 1) 183 [.ref 58, .int v1, .int v2] M Q := by
  show pu_R L (d + 1) 183 0 [.ref 58, .int v1, .int v2] [] M (pu_qV Q)
  refine pu_go 9 (pc' := 14) (ls' := [.ref 58, .int v1, .int v2]) (st' := [.int ((1048576 * v1) + v2), .int (M 58 10), .ref 63]) (M' := M) rfl ?_
  obtain ⟨hb1, H⟩ := H
  refine pu_iast rfl rfl (by decide) hb1 ?_
  refine pu_go 5 (pc' := 22) (ls' := [.ref 58, .int v1, .int v2]) (st' := [.int (((pu_wr M 63 (M 58 10 : Int32).toNatClampNeg ((1048576 * v1) + v2)) 58 10) + 1), .ref 58]) (M' := pu_wr M 63 (M 58 10 : Int32).toNatClampNeg ((1048576 * v1) + v2)) rfl ?_
  refine pu_putf (j := 10) (z := ((pu_wr M 63 (M 58 10 : Int32).toNatClampNeg ((1048576 * v1) + v2)) 58 10) + 1) rfl rfl (by decide) rfl (by decide) rfl rfl pu_put_hw ?_
  exact pu_ret rfl rfl ⟨rfl, H⟩
/-! m_opens (I)Z -/
set_option maxRecDepth 20000 in
theorem r_m_opens {L d : Nat} {M : pu_M} {Q : Int32 → pu_M → Prop} {v1 : Int32} (H : (if (M 58 9) = 6 then pu_I L (d + 1) 180 [.ref 58, .int 5, .int (M 58 5)] M (fun x5 M4 => ((x5 = 0 ∨ x5 = 1) ∧ Q x5 M4)) else (mq_inb ((pu_wr M 58 9 ((M 58 9) + 1)) 58 11) 260 = true ∧ (∀ M2 : pu_M, M2 = pu_wr (pu_wr (pu_wr M 58 9 ((M 58 9) + 1)) 64 ((pu_wr M 58 9 ((M 58 9) + 1)) 58 11 : Int32).toNatClampNeg (1048576 * v1)) 58 11 (((pu_wr (pu_wr M 58 9 ((M 58 9) + 1)) 64 ((pu_wr M 58 9 ((M 58 9) + 1)) 58 11 : Int32).toNatClampNeg (1048576 * v1)) 58 11) + 1) → Q 1 (pu_wr M2 58 5 ((M2 58 5) + 1)))))) : pu_I L (d + 2) 184 [.ref 58, .int v1] M Q := by
  show pu_R L (d + 2) 184 0 [.ref 58, .int v1] [] M (pu_qI Q)
  refine pu_go 3 (pc' := 6) (ls' := [.ref 58, .int v1]) (st' := [.int 6, .int (M 58 9)]) (M' := M) rfl ?_
  refine pu_icmp_ne rfl (fun hc => ?_) (fun hc => ?_)
  · replace H := Eq.mp (if_neg hc) H
    refine pu_go 5 (pc' := 26) (ls' := [.ref 58, .int v1]) (st' := [.int ((M 58 9) + 1), .ref 58]) (M' := M) rfl ?_
    refine pu_putf (j := 9) (z := (M 58 9) + 1) rfl rfl (by decide) rfl (by decide) rfl rfl pu_put_hw ?_
    refine pu_go 7 (pc' := 41) (ls' := [.ref 58, .int v1]) (st' := [.int (1048576 * v1), .int ((pu_wr M 58 9 ((M 58 9) + 1)) 58 11), .ref 64]) (M' := pu_wr M 58 9 ((M 58 9) + 1)) rfl ?_
    obtain ⟨hb1, H⟩ := H
    refine pu_iast rfl rfl (by decide) hb1 ?_
    refine pu_go 5 (pc' := 49) (ls' := [.ref 58, .int v1]) (st' := [.int (((pu_wr (pu_wr M 58 9 ((M 58 9) + 1)) 64 ((pu_wr M 58 9 ((M 58 9) + 1)) 58 11 : Int32).toNatClampNeg (1048576 * v1)) 58 11) + 1), .ref 58]) (M' := pu_wr (pu_wr M 58 9 ((M 58 9) + 1)) 64 ((pu_wr M 58 9 ((M 58 9) + 1)) 58 11 : Int32).toNatClampNeg (1048576 * v1)) rfl ?_
    refine pu_putf (j := 11) (z := ((pu_wr (pu_wr M 58 9 ((M 58 9) + 1)) 64 ((pu_wr M 58 9 ((M 58 9) + 1)) 58 11 : Int32).toNatClampNeg (1048576 * v1)) 58 11) + 1) rfl rfl (by decide) rfl (by decide) rfl rfl pu_put_hw ?_
    refine pu_named (fun M2 eM3 => ?_)
    replace H := H M2 eM3
    refine pu_go 5 (pc' := 59) (ls' := [.ref 58, .int v1]) (st' := [.int ((M2 58 5) + 1), .ref 58]) (M' := M2) rfl ?_
    refine pu_putf (j := 5) (z := (M2 58 5) + 1) rfl rfl (by decide) rfl (by decide) rfl rfl pu_put_hw ?_
    refine pu_go 1 (pc' := 63) (ls' := [.ref 58, .int v1]) (st' := [.int 1]) (M' := pu_wr M2 58 5 ((M2 58 5) + 1)) rfl ?_
    exact pu_ret rfl rfl ⟨_, rfl, H⟩
  · replace H := Eq.mp (if_pos hc) H
    refine pu_go 4 (pc' := 15) (ls' := [.ref 58, .int v1]) (st' := [.int (M 58 5), .int 5, .ref 58]) (M' := M) rfl ?_
    refine pu_callI (m' := 180) (ml := 3) (as := [.ref 58, .int 5, .int (M 58 5)]) (rest := []) rfl rfl rfl (Nat.le_of_ble_eq_true rfl) H (fun x5 M4 H => ?_)
    show pu_R L (d + 2) 184 18 [.ref 58, .int v1] [.int x5] M4 _
    obtain ⟨hb6, H⟩ := H
    exact pu_retZ rfl hb6 H
/-! m_waitTop ()I -/
set_option maxRecDepth 20000 in
theorem r_m_waitTop {L d : Nat} {M : pu_M} {Q : Int32 → pu_M → Prop}  (H : (if (M 58 11) = 0 then Q ((-1)) M else (mq_inb ((M 58 11) - 1) 260 = true ∧ Q ((M 64 ((M 58 11) - 1 : Int32).toNatClampNeg) / 1048576) M))) : pu_I L (d + 1) 185 [.ref 58] M Q := by
  show pu_R L (d + 1) 185 0 [.ref 58] [] M (pu_qI Q)
  refine pu_go 2 (pc' := 4) (ls' := [.ref 58]) (st' := [.int (M 58 11)]) (M' := M) rfl ?_
  refine pu_if_ne rfl (fun hc => ?_) (fun hc => ?_)
  · replace H := Eq.mp (if_neg hc) H
    refine pu_go 6 (pc' := 21) (ls' := [.ref 58]) (st' := [.int ((M 58 11) - 1), .ref 64]) (M' := M) rfl ?_
    obtain ⟨hb1, H⟩ := H
    refine pu_iald rfl rfl (Or.inl (by decide)) hb1 ?_
    refine pu_go 1 (pc' := 24) (ls' := [.ref 58]) (st' := [.int 1048576, .int (M 64 ((M 58 11) - 1 : Int32).toNatClampNeg)]) (M' := M) rfl ?_
    refine pu_div rfl (by decide) ?_
    exact pu_ret rfl rfl ⟨_, rfl, H⟩
  · replace H := Eq.mp (if_pos hc) H
    refine pu_go 2 (pc' := 25) (ls' := [.ref 58]) (st' := [.int ((-1))]) (M' := M) rfl ?_
    exact pu_ret rfl rfl ⟨_, rfl, H⟩
/-! m_factOf (I)I -/
set_option maxRecDepth 20000 in
theorem r_m_factOf {L d : Nat} {M : pu_M} {Q : Int32 → pu_M → Prop} {v0 : Int32} (H : (if v0 = 107 then Q 1 M else (if v0 = 109 then Q 4 M else (if v0 = 110 then Q 6 M else (if v0 = 111 then Q 5 M else (if v0 = 112 then Q 0 M else (if v0 = 115 then Q 2 M else (if v0 = 116 then Q 7 M else (if v0 = 117 then Q 3 M else Q ((-1)) M))))))))) : pu_I L (d + 1) 186 [.int v0] M Q := by
  show pu_R L (d + 1) 186 0 [.int v0] [] M (pu_qI Q)
  refine pu_go 1 (pc' := 1) (ls' := [.int v0]) (st' := [.int v0]) (M' := M) rfl ?_
  skip
  by_cases hs1_0 : v0 = 107
  · replace H := Eq.mp (if_pos hs1_0) H
    refine pu_one (pc' := 62) (ls' := [.int v0]) (st' := []) (M' := M) rfl (by rw [hs1_0]; rfl) ?_
    refine pu_go 1 (pc' := 63) (ls' := [.int v0]) (st' := [.int 1]) (M' := M) rfl ?_
    exact pu_ret rfl rfl ⟨_, rfl, H⟩
  replace H := Eq.mp (if_neg hs1_0) H
  by_cases hs1_1 : v0 = 109
  · replace H := Eq.mp (if_pos hs1_1) H
    refine pu_one (pc' := 68) (ls' := [.int v0]) (st' := []) (M' := M) rfl (by rw [hs1_1]; rfl) ?_
    refine pu_go 1 (pc' := 69) (ls' := [.int v0]) (st' := [.int 4]) (M' := M) rfl ?_
    exact pu_ret rfl rfl ⟨_, rfl, H⟩
  replace H := Eq.mp (if_neg hs1_1) H
  by_cases hs1_2 : v0 = 110
  · replace H := Eq.mp (if_pos hs1_2) H
    refine pu_one (pc' := 72) (ls' := [.int v0]) (st' := []) (M' := M) rfl (by rw [hs1_2]; rfl) ?_
    refine pu_go 1 (pc' := 74) (ls' := [.int v0]) (st' := [.int 6]) (M' := M) rfl ?_
    exact pu_ret rfl rfl ⟨_, rfl, H⟩
  replace H := Eq.mp (if_neg hs1_2) H
  by_cases hs1_3 : v0 = 111
  · replace H := Eq.mp (if_pos hs1_3) H
    refine pu_one (pc' := 70) (ls' := [.int v0]) (st' := []) (M' := M) rfl (by rw [hs1_3]; rfl) ?_
    refine pu_go 1 (pc' := 71) (ls' := [.int v0]) (st' := [.int 5]) (M' := M) rfl ?_
    exact pu_ret rfl rfl ⟨_, rfl, H⟩
  replace H := Eq.mp (if_neg hs1_3) H
  by_cases hs1_4 : v0 = 112
  · replace H := Eq.mp (if_pos hs1_4) H
    refine pu_one (pc' := 60) (ls' := [.int v0]) (st' := []) (M' := M) rfl (by rw [hs1_4]; rfl) ?_
    refine pu_go 1 (pc' := 61) (ls' := [.int v0]) (st' := [.int 0]) (M' := M) rfl ?_
    exact pu_ret rfl rfl ⟨_, rfl, H⟩
  replace H := Eq.mp (if_neg hs1_4) H
  by_cases hs1_5 : v0 = 115
  · replace H := Eq.mp (if_pos hs1_5) H
    refine pu_one (pc' := 64) (ls' := [.int v0]) (st' := []) (M' := M) rfl (by rw [hs1_5]; rfl) ?_
    refine pu_go 1 (pc' := 65) (ls' := [.int v0]) (st' := [.int 2]) (M' := M) rfl ?_
    exact pu_ret rfl rfl ⟨_, rfl, H⟩
  replace H := Eq.mp (if_neg hs1_5) H
  by_cases hs1_6 : v0 = 116
  · replace H := Eq.mp (if_pos hs1_6) H
    refine pu_one (pc' := 75) (ls' := [.int v0]) (st' := []) (M' := M) rfl (by rw [hs1_6]; rfl) ?_
    refine pu_go 1 (pc' := 77) (ls' := [.int v0]) (st' := [.int 7]) (M' := M) rfl ?_
    exact pu_ret rfl rfl ⟨_, rfl, H⟩
  replace H := Eq.mp (if_neg hs1_6) H
  by_cases hs1_7 : v0 = 117
  · replace H := Eq.mp (if_pos hs1_7) H
    refine pu_one (pc' := 66) (ls' := [.int v0]) (st' := []) (M' := M) rfl (by rw [hs1_7]; rfl) ?_
    refine pu_go 1 (pc' := 67) (ls' := [.int v0]) (st' := [.int 3]) (M' := M) rfl ?_
    exact pu_ret rfl rfl ⟨_, rfl, H⟩
  replace H := Eq.mp (if_neg hs1_7) H
  refine pu_one (pc' := 78) (ls' := [.int v0]) (st' := []) (M' := M) rfl (congrArg (fun z => mq_nx z _ _ _) (pu_tabD [107, 109, 110, 111, 112, 115, 116, 117] (by simp only [List.forall_mem_cons, List.not_mem_nil, false_implies, implies_true, and_true]; exact ⟨hs1_0, hs1_1, hs1_2, hs1_3, hs1_4, hs1_5, hs1_6, hs1_7⟩) (by decide))) ?_
  refine pu_go 1 (pc' := 79) (ls' := [.int v0]) (st' := [.int ((-1))]) (M' := M) rfl ?_
  exact pu_ret rfl rfl ⟨_, rfl, H⟩
/-! m_sumSign (I)I -/
set_option maxRecDepth 20000 in
theorem r_m_sumSign {L d : Nat} {M : pu_M} {Q : Int32 → pu_M → Prop} {v0 : Int32} (H : (if v0 = 43 then Q 2 M else (if v0 = 45 then Q 3 M else (if v0 = 42 then Q 4 M else (if v0 = 47 then Q 5 M else (if v0 = 37 then Q 6 M else Q ((-1)) M)))))) : pu_I L (d + 1) 187 [.int v0] M Q := by
  show pu_R L (d + 1) 187 0 [.int v0] [] M (pu_qI Q)
  refine pu_go 2 (pc' := 3) (ls' := [.int v0]) (st' := [.int 43, .int v0]) (M' := M) rfl ?_
  refine pu_icmp_ne rfl (fun hc => ?_) (fun hc => ?_)
  · replace H := Eq.mp (if_neg hc) H
    refine pu_go 2 (pc' := 13) (ls' := [.int v0]) (st' := [.int 45, .int v0]) (M' := M) rfl ?_
    refine pu_icmp_ne rfl (fun hc => ?_) (fun hc => ?_)
    · replace H := Eq.mp (if_neg hc) H
      refine pu_go 2 (pc' := 23) (ls' := [.int v0]) (st' := [.int 42, .int v0]) (M' := M) rfl ?_
      refine pu_icmp_ne rfl (fun hc => ?_) (fun hc => ?_)
      · replace H := Eq.mp (if_neg hc) H
        refine pu_go 2 (pc' := 33) (ls' := [.int v0]) (st' := [.int 47, .int v0]) (M' := M) rfl ?_
        refine pu_icmp_ne rfl (fun hc => ?_) (fun hc => ?_)
        · replace H := Eq.mp (if_neg hc) H
          refine pu_go 2 (pc' := 43) (ls' := [.int v0]) (st' := [.int 37, .int v0]) (M' := M) rfl ?_
          refine pu_icmp_ne rfl (fun hc => ?_) (fun hc => ?_)
          · replace H := Eq.mp (if_neg hc) H
            refine pu_go 1 (pc' := 52) (ls' := [.int v0]) (st' := [.int ((-1))]) (M' := M) rfl ?_
            exact pu_ret rfl rfl ⟨_, rfl, H⟩
          · replace H := Eq.mp (if_pos hc) H
            refine pu_go 2 (pc' := 52) (ls' := [.int v0]) (st' := [.int 6]) (M' := M) rfl ?_
            exact pu_ret rfl rfl ⟨_, rfl, H⟩
        · replace H := Eq.mp (if_pos hc) H
          refine pu_go 2 (pc' := 52) (ls' := [.int v0]) (st' := [.int 5]) (M' := M) rfl ?_
          exact pu_ret rfl rfl ⟨_, rfl, H⟩
      · replace H := Eq.mp (if_pos hc) H
        refine pu_go 2 (pc' := 52) (ls' := [.int v0]) (st' := [.int 4]) (M' := M) rfl ?_
        exact pu_ret rfl rfl ⟨_, rfl, H⟩
    · replace H := Eq.mp (if_pos hc) H
      refine pu_go 2 (pc' := 52) (ls' := [.int v0]) (st' := [.int 3]) (M' := M) rfl ?_
      exact pu_ret rfl rfl ⟨_, rfl, H⟩
  · replace H := Eq.mp (if_pos hc) H
    refine pu_go 2 (pc' := 52) (ls' := [.int v0]) (st' := [.int 2]) (M' := M) rfl ?_
    exact pu_ret rfl rfl ⟨_, rfl, H⟩
/-! m_closesSums (Z)V -/
set_option maxRecDepth 20000 in
theorem r_m_closesSums_17 {L d : Nat} {M : pu_M} {Q : pu_M → Prop} {v1 : Int32} (H : (if v1 = 0 then Q M else pu_I L (d + 1) 185 [.ref 58] M (fun x2 M1 => (if x2 = 2 then pu_I L (d + 1) 185 [.ref 58] M1 (fun x4 M3 => pu_V L (d + 1) 183 [.ref 58, .int x4, .int 0] M3 (fun M5 => pu_R L (d + 2) 188 0 [.ref 58, .int v1] [] (pu_wr M5 58 11 ((M5 58 11) - 1)) (pu_qV Q))) else pu_I L (d + 1) 185 [.ref 58] M1 (fun x7 M6 => (if x7 = 3 then pu_I L (d + 1) 185 [.ref 58] M6 (fun x9 M8 => pu_V L (d + 1) 183 [.ref 58, .int x9, .int 0] M8 (fun M10 => pu_R L (d + 2) 188 0 [.ref 58, .int v1] [] (pu_wr M10 58 11 ((M10 58 11) - 1)) (pu_qV Q))) else Q M6)))))) : pu_R L (d + 2) 188 17 [.ref 58, .int v1] [] M (pu_qV Q) := by
  refine pu_go 1 (pc' := 18) (ls' := [.ref 58, .int v1]) (st' := [.int v1]) (M' := M) rfl ?_
  refine pu_if_eq rfl (fun hc => ?_) (fun hc => ?_)
  · replace H := Eq.mp (if_pos hc) H
    exact pu_ret rfl rfl ⟨rfl, H⟩
  · replace H := Eq.mp (if_neg hc) H
    refine pu_go 1 (pc' := 22) (ls' := [.ref 58, .int v1]) (st' := [.ref 58]) (M' := M) rfl ?_
    refine pu_callI (m' := 185) (ml := 1) (as := [.ref 58]) (rest := []) rfl rfl rfl (Nat.le_of_ble_eq_true rfl) H (fun x2 M1 H => ?_)
    show pu_R L (d + 2) 188 25 [.ref 58, .int v1] [.int x2] M1 _
    refine pu_go 1 (pc' := 26) (ls' := [.ref 58, .int v1]) (st' := [.int 2, .int x2]) (M' := M1) rfl ?_
    refine pu_icmp_eq rfl (fun hc => ?_) (fun hc => ?_)
    · replace H := Eq.mp (if_pos hc) H
      refine pu_go 2 (pc' := 39) (ls' := [.ref 58, .int v1]) (st' := [.ref 58, .ref 58]) (M' := M1) rfl ?_
      refine pu_callI (m' := 185) (ml := 1) (as := [.ref 58]) (rest := [.ref 58]) rfl rfl rfl (Nat.le_of_ble_eq_true rfl) H (fun x4 M3 H => ?_)
      show pu_R L (d + 2) 188 42 [.ref 58, .int v1] [.int x4, .ref 58] M3 _
      refine pu_go 1 (pc' := 43) (ls' := [.ref 58, .int v1]) (st' := [.int 0, .int x4, .ref 58]) (M' := M3) rfl ?_
      refine pu_callV (m' := 183) (ml := 3) (as := [.ref 58, .int x4, .int 0]) (rest := []) rfl rfl rfl (Nat.le_of_ble_eq_true rfl) H (fun M5 H => ?_)
      show pu_R L (d + 2) 188 46 [.ref 58, .int v1] [] M5 _
      refine pu_go 5 (pc' := 53) (ls' := [.ref 58, .int v1]) (st' := [.int ((M5 58 11) - 1), .ref 58]) (M' := M5) rfl ?_
      refine pu_putf (j := 11) (z := (M5 58 11) - 1) rfl rfl (by decide) rfl (by decide) rfl rfl pu_put_hw ?_
      refine pu_go 1 (pc' := 0) (ls' := [.ref 58, .int v1]) (st' := []) (M' := pu_wr M5 58 11 ((M5 58 11) - 1)) rfl ?_
      exact H
    · replace H := Eq.mp (if_neg hc) H
      refine pu_go 1 (pc' := 30) (ls' := [.ref 58, .int v1]) (st' := [.ref 58]) (M' := M1) rfl ?_
      refine pu_callI (m' := 185) (ml := 1) (as := [.ref 58]) (rest := []) rfl rfl rfl (Nat.le_of_ble_eq_true rfl) H (fun x7 M6 H => ?_)
      show pu_R L (d + 2) 188 33 [.ref 58, .int v1] [.int x7] M6 _
      refine pu_go 1 (pc' := 34) (ls' := [.ref 58, .int v1]) (st' := [.int 3, .int x7]) (M' := M6) rfl ?_
      refine pu_icmp_ne rfl (fun hc => ?_) (fun hc => ?_)
      · replace H := Eq.mp (if_neg hc) H
        exact pu_ret rfl rfl ⟨rfl, H⟩
      · replace H := Eq.mp (if_pos hc) H
        refine pu_go 2 (pc' := 39) (ls' := [.ref 58, .int v1]) (st' := [.ref 58, .ref 58]) (M' := M6) rfl ?_
        refine pu_callI (m' := 185) (ml := 1) (as := [.ref 58]) (rest := [.ref 58]) rfl rfl rfl (Nat.le_of_ble_eq_true rfl) H (fun x9 M8 H => ?_)
        show pu_R L (d + 2) 188 42 [.ref 58, .int v1] [.int x9, .ref 58] M8 _
        refine pu_go 1 (pc' := 43) (ls' := [.ref 58, .int v1]) (st' := [.int 0, .int x9, .ref 58]) (M' := M8) rfl ?_
        refine pu_callV (m' := 183) (ml := 3) (as := [.ref 58, .int x9, .int 0]) (rest := []) rfl rfl rfl (Nat.le_of_ble_eq_true rfl) H (fun M10 H => ?_)
        show pu_R L (d + 2) 188 46 [.ref 58, .int v1] [] M10 _
        refine pu_go 5 (pc' := 53) (ls' := [.ref 58, .int v1]) (st' := [.int ((M10 58 11) - 1), .ref 58]) (M' := M10) rfl ?_
        refine pu_putf (j := 11) (z := (M10 58 11) - 1) rfl rfl (by decide) rfl (by decide) rfl rfl pu_put_hw ?_
        refine pu_go 1 (pc' := 0) (ls' := [.ref 58, .int v1]) (st' := []) (M' := pu_wr M10 58 11 ((M10 58 11) - 1)) rfl ?_
        exact H
set_option maxRecDepth 20000 in
theorem r_m_closesSums_0 {L d : Nat} {M : pu_M} {Q : pu_M → Prop} {v1 : Int32} (H : pu_I L (d + 1) 185 [.ref 58] M (fun x2 M1 => (if x2 < 4 then pu_R L (d + 2) 188 17 [.ref 58, .int v1] [] M1 (pu_qV Q) else pu_I L (d + 1) 185 [.ref 58] M1 (fun x4 M3 => (if x4 ≤ 6 then pu_I L (d + 1) 185 [.ref 58] M3 (fun x6 M5 => pu_V L (d + 1) 183 [.ref 58, .int x6, .int 0] M5 (fun M7 => pu_R L (d + 2) 188 0 [.ref 58, .int v1] [] (pu_wr M7 58 11 ((M7 58 11) - 1)) (pu_qV Q))) else pu_R L (d + 2) 188 17 [.ref 58, .int v1] [] M3 (pu_qV Q)))))) : pu_R L (d + 2) 188 0 [.ref 58, .int v1] [] M (pu_qV Q) := by
  show pu_R L (d + 2) 188 0 [.ref 58, .int v1] [] M (pu_qV Q)
  refine pu_go 1 (pc' := 1) (ls' := [.ref 58, .int v1]) (st' := [.ref 58]) (M' := M) rfl ?_
  refine pu_callI (m' := 185) (ml := 1) (as := [.ref 58]) (rest := []) rfl rfl rfl (Nat.le_of_ble_eq_true rfl) H (fun x2 M1 H => ?_)
  show pu_R L (d + 2) 188 4 [.ref 58, .int v1] [.int x2] M1 _
  refine pu_go 1 (pc' := 5) (ls' := [.ref 58, .int v1]) (st' := [.int 4, .int x2]) (M' := M1) rfl ?_
  refine pu_icmp_lt rfl (fun hc => ?_) (fun hc => ?_)
  · replace H := Eq.mp (if_pos hc) H
    exact H
  · replace H := Eq.mp (if_neg hc) H
    refine pu_go 1 (pc' := 9) (ls' := [.ref 58, .int v1]) (st' := [.ref 58]) (M' := M1) rfl ?_
    refine pu_callI (m' := 185) (ml := 1) (as := [.ref 58]) (rest := []) rfl rfl rfl (Nat.le_of_ble_eq_true rfl) H (fun x4 M3 H => ?_)
    show pu_R L (d + 2) 188 12 [.ref 58, .int v1] [.int x4] M3 _
    refine pu_go 1 (pc' := 14) (ls' := [.ref 58, .int v1]) (st' := [.int 6, .int x4]) (M' := M3) rfl ?_
    refine pu_icmp_le rfl (fun hc => ?_) (fun hc => ?_)
    · replace H := Eq.mp (if_pos hc) H
      refine pu_go 2 (pc' := 39) (ls' := [.ref 58, .int v1]) (st' := [.ref 58, .ref 58]) (M' := M3) rfl ?_
      refine pu_callI (m' := 185) (ml := 1) (as := [.ref 58]) (rest := [.ref 58]) rfl rfl rfl (Nat.le_of_ble_eq_true rfl) H (fun x6 M5 H => ?_)
      show pu_R L (d + 2) 188 42 [.ref 58, .int v1] [.int x6, .ref 58] M5 _
      refine pu_go 1 (pc' := 43) (ls' := [.ref 58, .int v1]) (st' := [.int 0, .int x6, .ref 58]) (M' := M5) rfl ?_
      refine pu_callV (m' := 183) (ml := 3) (as := [.ref 58, .int x6, .int 0]) (rest := []) rfl rfl rfl (Nat.le_of_ble_eq_true rfl) H (fun M7 H => ?_)
      show pu_R L (d + 2) 188 46 [.ref 58, .int v1] [] M7 _
      refine pu_go 5 (pc' := 53) (ls' := [.ref 58, .int v1]) (st' := [.int ((M7 58 11) - 1), .ref 58]) (M' := M7) rfl ?_
      refine pu_putf (j := 11) (z := (M7 58 11) - 1) rfl rfl (by decide) rfl (by decide) rfl rfl pu_put_hw ?_
      refine pu_go 1 (pc' := 0) (ls' := [.ref 58, .int v1]) (st' := []) (M' := pu_wr M7 58 11 ((M7 58 11) - 1)) rfl ?_
      exact H
    · replace H := Eq.mp (if_neg hc) H
      exact H
set_option maxRecDepth 20000 in
theorem r_m_closesSums {L d : Nat} {M : pu_M} {Q : pu_M → Prop} {v1 : Int32} (H : pu_R L (d + 2) 188 0 [.ref 58, .int v1] [] M (pu_qV Q)) : pu_V L (d + 2) 188 [.ref 58, .int v1] M Q := H
/-! m_readsFactor ()Z -/
set_option maxRecDepth 20000 in
theorem r_m_readsFactor_0 {L d : Nat} {M : pu_M} {Q : Int32 → pu_M → Prop}  (H : pu_I L (d + 3) 178 [.ref 58] M (fun x2 M1 => (if x2 = 91 then pu_I L (d + 3) 184 [.ref 58, .int 14] M1 (fun x17 M16 => (if x17 = 0 then Q 0 M16 else pu_R L (d + 4) 189 0 [.ref 58, mq_un] [] M16 (pu_qI Q))) else pu_I L (d + 3) 179 [.ref 58] M1 (fun x4 M3 => (if x4 = 0 then pu_I L (d + 3) 178 [.ref 58] M3 (fun x6 M5 => pu_I L (d + 3) 186 [.int x6] M5 (fun x8 M7 => (if x8 = ((-1)) then pu_I L (d + 3) 180 [.ref 58, .int 1, .int (M7 58 5)] M7 (fun x11 M10 => ((x11 = 0 ∨ x11 = 1) ∧ Q x11 M10)) else pu_V L (d + 3) 183 [.ref 58, .int 1, .int x8] M7 (fun M9 => Q 1 (pu_wr M9 58 5 ((M9 58 5) + 1)))))) else pu_I L (d + 3) 182 [.ref 58] M3 (fun x14 M13 => (if x14 = 0 then Q 0 M13 else pu_V L (d + 3) 183 [.ref 58, .int 0, .int (M13 58 8)] M13 (fun M15 => Q 1 M15)))))))) : pu_R L (d + 4) 189 0 [.ref 58, mq_un] [] M (pu_qI Q) := by
  show pu_R L (d + 4) 189 0 [.ref 58, mq_un] [] M (pu_qI Q)
  refine pu_go 1 (pc' := 1) (ls' := [.ref 58, mq_un]) (st' := [.ref 58]) (M' := M) rfl ?_
  refine pu_callI (m' := 178) (ml := 1) (as := [.ref 58]) (rest := []) rfl rfl rfl (Nat.le_of_ble_eq_true rfl) H (fun x2 M1 H => ?_)
  show pu_R L (d + 4) 189 4 [.ref 58, mq_un] [.int x2] M1 _
  refine pu_go 1 (pc' := 6) (ls' := [.ref 58, mq_un]) (st' := [.int 91, .int x2]) (M' := M1) rfl ?_
  refine pu_icmp_ne rfl (fun hc => ?_) (fun hc => ?_)
  · replace H := Eq.mp (if_neg hc) H
    refine pu_go 1 (pc' := 21) (ls' := [.ref 58, mq_un]) (st' := [.ref 58]) (M' := M1) rfl ?_
    refine pu_callI (m' := 179) (ml := 1) (as := [.ref 58]) (rest := []) rfl rfl rfl (Nat.le_of_ble_eq_true rfl) H (fun x4 M3 H => ?_)
    show pu_R L (d + 4) 189 24 [.ref 58, mq_un] [.int x4] M3 _
    refine pu_if_eq rfl (fun hc => ?_) (fun hc => ?_)
    · replace H := Eq.mp (if_pos hc) H
      refine pu_go 1 (pc' := 48) (ls' := [.ref 58, mq_un]) (st' := [.ref 58]) (M' := M3) rfl ?_
      refine pu_callI (m' := 178) (ml := 1) (as := [.ref 58]) (rest := []) rfl rfl rfl (Nat.le_of_ble_eq_true rfl) H (fun x6 M5 H => ?_)
      show pu_R L (d + 4) 189 51 [.ref 58, mq_un] [.int x6] M5 _
      refine pu_callI (m' := 186) (ml := 1) (as := [.int x6]) (rest := []) rfl rfl rfl (Nat.le_of_ble_eq_true rfl) H (fun x8 M7 H => ?_)
      show pu_R L (d + 4) 189 54 [.ref 58, mq_un] [.int x8] M7 _
      refine pu_go 3 (pc' := 57) (ls' := [.ref 58, .int x8]) (st' := [.int ((-1)), .int x8]) (M' := M7) rfl ?_
      refine pu_icmp_ne rfl (fun hc => ?_) (fun hc => ?_)
      · replace H := Eq.mp (if_neg hc) H
        refine pu_go 3 (pc' := 73) (ls' := [.ref 58, .int x8]) (st' := [.int x8, .int 1, .ref 58]) (M' := M7) rfl ?_
        refine pu_callV (m' := 183) (ml := 3) (as := [.ref 58, .int 1, .int x8]) (rest := []) rfl rfl rfl (Nat.le_of_ble_eq_true rfl) H (fun M9 H => ?_)
        show pu_R L (d + 4) 189 76 [.ref 58, .int x8] [] M9 _
        refine pu_go 5 (pc' := 83) (ls' := [.ref 58, .int x8]) (st' := [.int ((M9 58 5) + 1), .ref 58]) (M' := M9) rfl ?_
        refine pu_putf (j := 5) (z := (M9 58 5) + 1) rfl rfl (by decide) rfl (by decide) rfl rfl pu_put_hw ?_
        refine pu_go 1 (pc' := 87) (ls' := [.ref 58, .int x8]) (st' := [.int 1]) (M' := pu_wr M9 58 5 ((M9 58 5) + 1)) rfl ?_
        exact pu_ret rfl rfl ⟨_, rfl, H⟩
      · replace H := Eq.mp (if_pos hc) H
        refine pu_go 4 (pc' := 66) (ls' := [.ref 58, .int x8]) (st' := [.int (M7 58 5), .int 1, .ref 58]) (M' := M7) rfl ?_
        refine pu_callI (m' := 180) (ml := 3) (as := [.ref 58, .int 1, .int (M7 58 5)]) (rest := []) rfl rfl rfl (Nat.le_of_ble_eq_true rfl) H (fun x11 M10 H => ?_)
        show pu_R L (d + 4) 189 69 [.ref 58, .int x8] [.int x11] M10 _
        obtain ⟨hb12, H⟩ := H
        exact pu_retZ rfl hb12 H
    · replace H := Eq.mp (if_neg hc) H
      refine pu_go 1 (pc' := 28) (ls' := [.ref 58, mq_un]) (st' := [.ref 58]) (M' := M3) rfl ?_
      refine pu_callI (m' := 182) (ml := 2) (as := [.ref 58]) (rest := []) rfl rfl rfl (Nat.le_of_ble_eq_true rfl) H (fun x14 M13 H => ?_)
      show pu_R L (d + 4) 189 31 [.ref 58, mq_un] [.int x14] M13 _
      refine pu_if_ne rfl (fun hc => ?_) (fun hc => ?_)
      · replace H := Eq.mp (if_neg hc) H
        refine pu_go 4 (pc' := 42) (ls' := [.ref 58, mq_un]) (st' := [.int (M13 58 8), .int 0, .ref 58]) (M' := M13) rfl ?_
        refine pu_callV (m' := 183) (ml := 3) (as := [.ref 58, .int 0, .int (M13 58 8)]) (rest := []) rfl rfl rfl (Nat.le_of_ble_eq_true rfl) H (fun M15 H => ?_)
        show pu_R L (d + 4) 189 45 [.ref 58, mq_un] [] M15 _
        refine pu_go 1 (pc' := 46) (ls' := [.ref 58, mq_un]) (st' := [.int 1]) (M' := M15) rfl ?_
        exact pu_ret rfl rfl ⟨_, rfl, H⟩
      · replace H := Eq.mp (if_pos hc) H
        refine pu_go 1 (pc' := 35) (ls' := [.ref 58, mq_un]) (st' := [.int 0]) (M' := M13) rfl ?_
        exact pu_ret rfl rfl ⟨_, rfl, H⟩
  · replace H := Eq.mp (if_pos hc) H
    refine pu_go 2 (pc' := 12) (ls' := [.ref 58, mq_un]) (st' := [.int 14, .ref 58]) (M' := M1) rfl ?_
    refine pu_callI (m' := 184) (ml := 2) (as := [.ref 58, .int 14]) (rest := []) rfl rfl rfl (Nat.le_of_ble_eq_true rfl) H (fun x17 M16 H => ?_)
    show pu_R L (d + 4) 189 15 [.ref 58, mq_un] [.int x17] M16 _
    refine pu_if_ne rfl (fun hc => ?_) (fun hc => ?_)
    · replace H := Eq.mp (if_neg hc) H
      exact H
    · replace H := Eq.mp (if_pos hc) H
      refine pu_go 1 (pc' := 19) (ls' := [.ref 58, mq_un]) (st' := [.int 0]) (M' := M16) rfl ?_
      exact pu_ret rfl rfl ⟨_, rfl, H⟩
set_option maxRecDepth 20000 in
theorem r_m_readsFactor {L d : Nat} {M : pu_M} {Q : Int32 → pu_M → Prop}  (H : pu_R L (d + 4) 189 0 [.ref 58, mq_un] [] M (pu_qI Q)) : pu_I L (d + 4) 189 [.ref 58] M Q := H
/-! m_hasOpenSum (I)Z -/
set_option maxRecDepth 20000 in
theorem r_m_hasOpenSum_2 {L d : Nat} {M : pu_M} {Q : Int32 → pu_M → Prop} {v1 : Int32} {v2 : Int32} (H : (if (M 58 11) ≤ v2 then Q 0 M else (mq_inb v2 260 = true ∧ (if ((M 64 v2.toNatClampNeg) / 1048576) = 14 then Q 1 M else pu_R L (d + 1) 190 2 [.ref 58, .int v1, .int (v2 + 1)] [] M (pu_qI Q))))) : pu_R L (d + 1) 190 2 [.ref 58, .int v1, .int v2] [] M (pu_qI Q) := by
  refine pu_go 3 (pc' := 7) (ls' := [.ref 58, .int v1, .int v2]) (st' := [.int (M 58 11), .int v2]) (M' := M) rfl ?_
  refine pu_icmp_ge rfl (fun hc => ?_) (fun hc => ?_)
  · replace H := Eq.mp (if_pos hc) H
    refine pu_go 1 (pc' := 33) (ls' := [.ref 58, .int v1, .int v2]) (st' := [.int 0]) (M' := M) rfl ?_
    exact pu_ret rfl rfl ⟨_, rfl, H⟩
  · replace H := Eq.mp (if_neg hc) H
    refine pu_go 3 (pc' := 15) (ls' := [.ref 58, .int v1, .int v2]) (st' := [.int v2, .ref 64]) (M' := M) rfl ?_
    obtain ⟨hb1, H⟩ := H
    refine pu_iald rfl rfl (Or.inl (by decide)) hb1 ?_
    refine pu_go 1 (pc' := 18) (ls' := [.ref 58, .int v1, .int v2]) (st' := [.int 1048576, .int (M 64 v2.toNatClampNeg)]) (M' := M) rfl ?_
    refine pu_div rfl (by decide) ?_
    refine pu_go 1 (pc' := 21) (ls' := [.ref 58, .int v1, .int v2]) (st' := [.int 14, .int ((M 64 v2.toNatClampNeg) / 1048576)]) (M' := M) rfl ?_
    refine pu_icmp_ne rfl (fun hc => ?_) (fun hc => ?_)
    · replace H := Eq.mp (if_neg hc) H
      refine pu_go 2 (pc' := 2) (ls' := [.ref 58, .int v1, .int (v2 + 1)]) (st' := []) (M' := M) rfl ?_
      exact H
    · replace H := Eq.mp (if_pos hc) H
      refine pu_go 1 (pc' := 25) (ls' := [.ref 58, .int v1, .int v2]) (st' := [.int 1]) (M' := M) rfl ?_
      exact pu_ret rfl rfl ⟨_, rfl, H⟩
set_option maxRecDepth 20000 in
theorem r_m_hasOpenSum {L d : Nat} {M : pu_M} {Q : Int32 → pu_M → Prop} {v1 : Int32} (H : pu_R L (d + 1) 190 2 [.ref 58, .int v1, .int v1] [] M (pu_qI Q)) : pu_I L (d + 1) 190 [.ref 58, .int v1] M Q := by
  show pu_R L (d + 1) 190 0 [.ref 58, .int v1, mq_un] [] M (pu_qI Q)
  refine pu_go 2 (pc' := 2) (ls' := [.ref 58, .int v1, .int v1]) (st' := []) (M' := M) rfl ?_
  exact H
