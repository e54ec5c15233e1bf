/-! LawReader_openRule (I)V -/
set_option maxRecDepth 20000 in
theorem r_LawReader_openRule_58 {L d : Nat} {M : pu_M} {Q : pu_M → Prop} {v1 : Int32} {v2 : Int32} (H : (∃ y1, M 49 1 = nI y1 ∧ pu_isL y1 ∧ (if (M y1 7) < 16 then pu_V L (d + 1) 83 [.ref 1] M (fun M3 => Q M3) else pu_V L (d + 1) 88 [.ref 1, .int 4, .int (M 1 3)] M (fun M4 => pu_V L (d + 1) 83 [.ref 1] M4 (fun M5 => Q M5))))) : pu_R L (d + 2) 47 58 [.ref 49, .int v1, .int v2] [] M (pu_qV Q) := by
  refine pu_go 1 (pc' := 59) (ls' := [.ref 49, .int v1, .int v2]) (st' := [.ref 49]) (M' := M) rfl ?_
  obtain ⟨y1, e2, hy1, H⟩ := H
  refine pu_getf (j := 1) rfl rfl (by decide) rfl (by decide) rfl (pu_val_d e2 (Nat.lt_trans (pu_L_lt hy1) (by decide))) ?_
  refine pu_getf (j := 7) (w := .int (M y1 7)) rfl (pu_L_o hy1) (Nat.lt_trans (pu_L_lt hy1) (by decide)) rfl (by decide) rfl rfl ?_
  refine pu_go 1 (pc' := 67) (ls' := [.ref 49, .int v1, .int v2]) (st' := [.int 16, .int (M y1 7)]) (M' := M) rfl ?_
  refine pu_icmp_lt rfl (fun hc => ?_) (fun hc => ?_)
  · replace H := Eq.mp (if_pos hc) H
    refine pu_go 2 (pc' := 89) (ls' := [.ref 49, .int v1, .int v2]) (st' := [.ref 1]) (M' := M) rfl ?_
    refine pu_callV (m' := 83) (ml := 2) (as := [.ref 1]) (rest := []) rfl rfl rfl (Nat.le_of_ble_eq_true rfl) H (fun M3 H => ?_)
    show pu_R L (d + 2) 47 92 [.ref 49, .int v1, .int v2] [] M3 _
    exact pu_ret rfl rfl ⟨rfl, H⟩
  · replace H := Eq.mp (if_neg hc) H
    refine pu_go 6 (pc' := 82) (ls' := [.ref 49, .int v1, .int v2]) (st' := [.int (M 1 3), .int 4, .ref 1]) (M' := M) rfl ?_
    refine pu_callV (m' := 88) (ml := 3) (as := [.ref 1, .int 4, .int (M 1 3)]) (rest := []) rfl rfl rfl (Nat.le_of_ble_eq_true rfl) H (fun M4 H => ?_)
    show pu_R L (d + 2) 47 85 [.ref 49, .int v1, .int v2] [] M4 _
    refine pu_go 2 (pc' := 89) (ls' := [.ref 49, .int v1, .int v2]) (st' := [.ref 1]) (M' := M4) rfl ?_
    refine pu_callV (m' := 83) (ml := 2) (as := [.ref 1]) (rest := []) rfl rfl rfl (Nat.le_of_ble_eq_true rfl) H (fun M5 H => ?_)
    show pu_R L (d + 2) 47 92 [.ref 49, .int v1, .int v2] [] M5 _
    exact pu_ret rfl rfl ⟨rfl, H⟩
set_option maxRecDepth 20000 in
theorem r_LawReader_openRule_29 {L d : Nat} {M : pu_M} {Q : pu_M → Prop} {v1 : Int32} {s0 : Int32} (H : (if s0 = 0 then (if v1 = 113 then pu_R L (d + 2) 47 58 [.ref 49, .int v1, .int s0] [] M (pu_qV Q) else pu_V L (d + 1) 88 [.ref 1, .int 1, .int (M 1 3)] M (fun M1 => pu_V L (d + 1) 83 [.ref 1] M1 (fun M2 => Q M2))) else pu_R L (d + 2) 47 58 [.ref 49, .int v1, .int s0] [] M (pu_qV Q))) : pu_R L (d + 2) 47 29 [.ref 49, .int v1, mq_un] [.int s0] M (pu_qV Q) := by
  refine pu_go 2 (pc' := 31) (ls' := [.ref 49, .int v1, .int s0]) (st' := [.int s0]) (M' := M) rfl ?_
  refine pu_if_ne rfl (fun hc => ?_) (fun hc => ?_)
  · replace H := Eq.mp (if_neg hc) H
    exact H
  · replace H := Eq.mp (if_pos hc) H
    refine pu_go 2 (pc' := 37) (ls' := [.ref 49, .int v1, .int s0]) (st' := [.int 113, .int v1]) (M' := M) rfl ?_
    refine pu_icmp_eq rfl (fun hc => ?_) (fun hc => ?_)
    · replace H := Eq.mp (if_pos hc) H
      exact H
    · replace H := Eq.mp (if_neg hc) H
      refine pu_go 6 (pc' := 52) (ls' := [.ref 49, .int v1, .int s0]) (st' := [.int (M 1 3), .int 1, .ref 1]) (M' := M) rfl ?_
      refine pu_callV (m' := 88) (ml := 3) (as := [.ref 1, .int 1, .int (M 1 3)]) (rest := []) rfl rfl rfl (Nat.le_of_ble_eq_true rfl) H (fun M1 H => ?_)
      show pu_R L (d + 2) 47 55 [.ref 49, .int v1, .int s0] [] M1 _
      refine pu_go 3 (pc' := 89) (ls' := [.ref 49, .int v1, .int s0]) (st' := [.ref 1]) (M' := M1) rfl ?_
      refine pu_callV (m' := 83) (ml := 2) (as := [.ref 1]) (rest := []) rfl rfl rfl (Nat.le_of_ble_eq_true rfl) H (fun M2 H => ?_)
      show pu_R L (d + 2) 47 92 [.ref 49, .int v1, .int s0] [] M2 _
      exact pu_ret rfl rfl ⟨rfl, H⟩
set_option maxRecDepth 20000 in
theorem r_LawReader_openRule {L d : Nat} {M : pu_M} {Q : pu_M → Prop} {v1 : Int32} (H : (if v1 = 101 then pu_R L (d + 2) 47 29 [.ref 49, .int v1, mq_un] [.int 1] M (pu_qV Q) else (if v1 = 104 then pu_R L (d + 2) 47 29 [.ref 49, .int v1, mq_un] [.int 1] M (pu_qV Q) else (if v1 = 103 then pu_R L (d + 2) 47 29 [.ref 49, .int v1, mq_un] [.int 1] M (pu_qV Q) else (if v1 = 98 then pu_R L (d + 2) 47 29 [.ref 49, .int v1, mq_un] [.int 1] M (pu_qV Q) else pu_R L (d + 2) 47 29 [.ref 49, .int v1, mq_un] [.int 0] M (pu_qV Q)))))) : pu_V L (d + 2) 47 [.ref 49, .int v1] M Q := by
  show pu_R L (d + 2) 47 0 [.ref 49, .int v1, mq_un] [] M (pu_qV Q)
  refine pu_go 2 (pc' := 3) (ls' := [.ref 49, .int v1, mq_un]) (st' := [.int 101, .int v1]) (M' := M) rfl ?_
  refine pu_icmp_eq rfl (fun hc => ?_) (fun hc => ?_)
  · replace H := Eq.mp (if_pos hc) H
    refine pu_go 2 (pc' := 29) (ls' := [.ref 49, .int v1, mq_un]) (st' := [.int 1]) (M' := M) rfl ?_
    exact H
  · replace H := Eq.mp (if_neg hc) H
    refine pu_go 2 (pc' := 9) (ls' := [.ref 49, .int v1, mq_un]) (st' := [.int 104, .int v1]) (M' := M) rfl ?_
    refine pu_icmp_eq rfl (fun hc => ?_) (fun hc => ?_)
    · replace H := Eq.mp (if_pos hc) H
      refine pu_go 2 (pc' := 29) (ls' := [.ref 49, .int v1, mq_un]) (st' := [.int 1]) (M' := M) rfl ?_
      exact H
    · replace H := Eq.mp (if_neg hc) H
      refine pu_go 2 (pc' := 15) (ls' := [.ref 49, .int v1, mq_un]) (st' := [.int 103, .int v1]) (M' := M) rfl ?_
      refine pu_icmp_eq rfl (fun hc => ?_) (fun hc => ?_)
      · replace H := Eq.mp (if_pos hc) H
        refine pu_go 2 (pc' := 29) (ls' := [.ref 49, .int v1, mq_un]) (st' := [.int 1]) (M' := M) rfl ?_
        exact H
      · replace H := Eq.mp (if_neg hc) H
        refine pu_go 2 (pc' := 21) (ls' := [.ref 49, .int v1, mq_un]) (st' := [.int 98, .int v1]) (M' := M) rfl ?_
        refine pu_icmp_ne rfl (fun hc => ?_) (fun hc => ?_)
        · replace H := Eq.mp (if_neg hc) H
          refine pu_go 1 (pc' := 29) (ls' := [.ref 49, .int v1, mq_un]) (st' := [.int 0]) (M' := M) rfl ?_
          exact H
        · replace H := Eq.mp (if_pos hc) H
          refine pu_go 2 (pc' := 29) (ls' := [.ref 49, .int v1, mq_un]) (st' := [.int 1]) (M' := M) rfl ?_
          exact H
/-! LawReader_readCondition (I)V -/
set_option maxRecDepth 20000 in
theorem r_LawReader_readCondition_44 {L d : Nat} {M : pu_M} {Q : pu_M → Prop} {v1 : Int32} {v2 : Int32} {v3 : Int32} {v4 : Int32} (H : (∃ y1, M 49 1 = nI y1 ∧ pu_isL y1 ∧ pu_V L (d + 1) 37 [.ref y1, .int v2] M (fun M3 => (if (M3 1 2) = 38 then (∃ y13, M3 49 1 = nI y13 ∧ pu_isL y13 ∧ pu_I L (d + 1) 36 [.ref y13, .int 4, .int 0] M3 (fun x16 M15 => pu_V L (d + 1) 83 [.ref 1] M15 (fun M17 => pu_V L (d + 1) 49 [.ref 49, .int v1] M17 (fun M18 => pu_R L (d + 2) 48 12 [.ref 49, .int v1, .int x16, .int v3, .int (v4 + 1)] [] M18 (pu_qV Q))))) else (∃ y4, M3 49 1 = nI y4 ∧ pu_isL y4 ∧ pu_V L (d + 1) 37 [.ref y4, .int v3] M3 (fun M6 => (∃ y7, M6 49 1 = nI y7 ∧ pu_isL y7 ∧ pu_I L (d + 1) 36 [.ref y7, .int 3, .int 0] M6 (fun x10 M9 => pu_V L (d + 1) 83 [.ref 1] M9 (fun M11 => pu_V L (d + 1) 49 [.ref 49, .int v1] M11 (fun M12 => pu_R L (d + 2) 48 12 [.ref 49, .int v1, .int ((-1)), .int x10, .int (v4 + 1)] [] M12 (pu_qV Q))))))))))) : pu_R L (d + 2) 48 44 [.ref 49, .int v1, .int v2, .int v3, .int v4] [] M (pu_qV Q) := by
  refine pu_go 1 (pc' := 45) (ls' := [.ref 49, .int v1, .int v2, .int v3, .int v4]) (st' := [.ref 49]) (M' := M) rfl ?_
  obtain ⟨y1, e2, hy1, H⟩ := H
  refine pu_getf (j := 1) rfl rfl (by decide) rfl (by decide) rfl (pu_val_d e2 (Nat.lt_trans (pu_L_lt hy1) (by decide))) ?_
  refine pu_go 1 (pc' := 49) (ls' := [.ref 49, .int v1, .int v2, .int v3, .int v4]) (st' := [.int v2, .ref y1]) (M' := M) rfl ?_
  refine pu_callV (m' := 37) (ml := 2) (as := [.ref y1, .int v2]) (rest := []) rfl (pu_virt (pu_L_o hy1) (Nat.lt_trans (pu_L_lt hy1) (by decide)) ⟨Nat.le_of_ble_eq_true rfl, Nat.le_of_ble_eq_true rfl⟩ rfl rfl) rfl (Nat.le_of_ble_eq_true rfl) H (fun M3 H => ?_)
  show pu_R L (d + 2) 48 52 [.ref 49, .int v1, .int v2, .int v3, .int v4] [] M3 _
  refine pu_go 4 (pc' := 61) (ls' := [.ref 49, .int v1, .int v2, .int v3, .int v4]) (st' := [.int 38, .int (M3 1 2)]) (M' := M3) rfl ?_
  refine pu_icmp_ne rfl (fun hc => ?_) (fun hc => ?_)
  · replace H := Eq.mp (if_neg hc) H
    refine pu_go 3 (pc' := 80) (ls' := [.ref 49, .int v1, .int ((-1)), .int v3, .int v4]) (st' := [.ref 49]) (M' := M3) rfl ?_
    obtain ⟨y4, e5, hy4, H⟩ := H
    refine pu_getf (j := 1) rfl rfl (by decide) rfl (by decide) rfl (pu_val_d e5 (Nat.lt_trans (pu_L_lt hy4) (by decide))) ?_
    refine pu_go 1 (pc' := 84) (ls' := [.ref 49, .int v1, .int ((-1)), .int v3, .int v4]) (st' := [.int v3, .ref y4]) (M' := M3) rfl ?_
    refine pu_callV (m' := 37) (ml := 2) (as := [.ref y4, .int v3]) (rest := []) rfl (pu_virt (pu_L_o hy4) (Nat.lt_trans (pu_L_lt hy4) (by decide)) ⟨Nat.le_of_ble_eq_true rfl, Nat.le_of_ble_eq_true rfl⟩ rfl rfl) rfl (Nat.le_of_ble_eq_true rfl) H (fun M6 H => ?_)
    show pu_R L (d + 2) 48 87 [.ref 49, .int v1, .int ((-1)), .int v3, .int v4] [] M6 _
    refine pu_go 1 (pc' := 88) (ls' := [.ref 49, .int v1, .int ((-1)), .int v3, .int v4]) (st' := [.ref 49]) (M' := M6) rfl ?_
    obtain ⟨y7, e8, hy7, H⟩ := H
    refine pu_getf (j := 1) rfl rfl (by decide) rfl (by decide) rfl (pu_val_d e8 (Nat.lt_trans (pu_L_lt hy7) (by decide))) ?_
    refine pu_go 2 (pc' := 93) (ls' := [.ref 49, .int v1, .int ((-1)), .int v3, .int v4]) (st' := [.int 0, .int 3, .ref y7]) (M' := M6) rfl ?_
    refine pu_callI (m' := 36) (ml := 3) (as := [.ref y7, .int 3, .int 0]) (rest := []) rfl (pu_virt (pu_L_o hy7) (Nat.lt_trans (pu_L_lt hy7) (by decide)) ⟨Nat.le_of_ble_eq_true rfl, Nat.le_of_ble_eq_true rfl⟩ rfl rfl) rfl (Nat.le_of_ble_eq_true rfl) H (fun x10 M9 H => ?_)
    show pu_R L (d + 2) 48 96 [.ref 49, .int v1, .int ((-1)), .int v3, .int v4] [.int x10] M9 _
    refine pu_go 3 (pc' := 101) (ls' := [.ref 49, .int v1, .int ((-1)), .int x10, .int v4]) (st' := [.ref 1]) (M' := M9) rfl ?_
    refine pu_callV (m' := 83) (ml := 2) (as := [.ref 1]) (rest := []) rfl rfl rfl (Nat.le_of_ble_eq_true rfl) H (fun M11 H => ?_)
    show pu_R L (d + 2) 48 104 [.ref 49, .int v1, .int ((-1)), .int x10, .int v4] [] M11 _
    refine pu_go 2 (pc' := 106) (ls' := [.ref 49, .int v1, .int ((-1)), .int x10, .int v4]) (st' := [.int v1, .ref 49]) (M' := M11) rfl ?_
    refine pu_callV (m' := 49) (ml := 3) (as := [.ref 49, .int v1]) (rest := []) rfl rfl rfl (Nat.le_of_ble_eq_true rfl) H (fun M12 H => ?_)
    show pu_R L (d + 2) 48 109 [.ref 49, .int v1, .int ((-1)), .int x10, .int v4] [] M12 _
    refine pu_go 2 (pc' := 12) (ls' := [.ref 49, .int v1, .int ((-1)), .int x10, .int (v4 + 1)]) (st' := []) (M' := M12) rfl ?_
    exact H
  · replace H := Eq.mp (if_pos hc) H
    refine pu_go 1 (pc' := 65) (ls' := [.ref 49, .int v1, .int v2, .int v3, .int v4]) (st' := [.ref 49]) (M' := M3) rfl ?_
    obtain ⟨y13, e14, hy13, H⟩ := H
    refine pu_getf (j := 1) rfl rfl (by decide) rfl (by decide) rfl (pu_val_d e14 (Nat.lt_trans (pu_L_lt hy13) (by decide))) ?_
    refine pu_go 2 (pc' := 70) (ls' := [.ref 49, .int v1, .int v2, .int v3, .int v4]) (st' := [.int 0, .int 4, .ref y13]) (M' := M3) rfl ?_
    refine pu_callI (m' := 36) (ml := 3) (as := [.ref y13, .int 4, .int 0]) (rest := []) rfl (pu_virt (pu_L_o hy13) (Nat.lt_trans (pu_L_lt hy13) (by decide)) ⟨Nat.le_of_ble_eq_true rfl, Nat.le_of_ble_eq_true rfl⟩ rfl rfl) rfl (Nat.le_of_ble_eq_true rfl) H (fun x16 M15 H => ?_)
    show pu_R L (d + 2) 48 73 [.ref 49, .int v1, .int v2, .int v3, .int v4] [.int x16] M15 _
    refine pu_go 4 (pc' := 101) (ls' := [.ref 49, .int v1, .int x16, .int v3, .int v4]) (st' := [.ref 1]) (M' := M15) rfl ?_
    refine pu_callV (m' := 83) (ml := 2) (as := [.ref 1]) (rest := []) rfl rfl rfl (Nat.le_of_ble_eq_true rfl) H (fun M17 H => ?_)
    show pu_R L (d + 2) 48 104 [.ref 49, .int v1, .int x16, .int v3, .int v4] [] M17 _
    refine pu_go 2 (pc' := 106) (ls' := [.ref 49, .int v1, .int x16, .int v3, .int v4]) (st' := [.int v1, .ref 49]) (M' := M17) rfl ?_
    refine pu_callV (m' := 49) (ml := 3) (as := [.ref 49, .int v1]) (rest := []) rfl rfl rfl (Nat.le_of_ble_eq_true rfl) H (fun M18 H => ?_)
    show pu_R L (d + 2) 48 109 [.ref 49, .int v1, .int x16, .int v3, .int v4] [] M18 _
    refine pu_go 2 (pc' := 12) (ls' := [.ref 49, .int v1, .int x16, .int v3, .int (v4 + 1)]) (st' := []) (M' := M18) rfl ?_
    exact H
set_option maxRecDepth 20000 in
theorem r_LawReader_readCondition_12 {L d : Nat} {M : pu_M} {Q : pu_M → Prop} {v1 : Int32} {v2 : Int32} {v3 : Int32} {v4 : Int32} (H : (if 240 ≤ v4 then (∃ y1, M 49 1 = nI y1 ∧ pu_isL y1 ∧ pu_V L (d + 1) 37 [.ref y1, .int v2] M (fun M3 => (∃ y4, M3 49 1 = nI y4 ∧ pu_isL y4 ∧ pu_V L (d + 1) 37 [.ref y4, .int v3] M3 (fun M6 => Q M6)))) else (if (M 1 2) = 38 then pu_R L (d + 2) 48 44 [.ref 49, .int v1, .int v2, .int v3, .int v4] [] M (pu_qV Q) else (if (M 1 2) = 124 then pu_R L (d + 2) 48 44 [.ref 49, .int v1, .int v2, .int v3, .int v4] [] M (pu_qV Q) else (∃ y7, M 49 1 = nI y7 ∧ pu_isL y7 ∧ pu_V L (d + 1) 37 [.ref y7, .int v2] M (fun M9 => (∃ y10, M9 49 1 = nI y10 ∧ pu_isL y10 ∧ pu_V L (d + 1) 37 [.ref y10, .int v3] M9 (fun M12 => Q M12)))))))) : pu_R L (d + 2) 48 12 [.ref 49, .int v1, .int v2, .int v3, .int v4] [] M (pu_qV Q) := by
  refine pu_go 2 (pc' := 17) (ls' := [.ref 49, .int v1, .int v2, .int v3, .int v4]) (st' := [.int 240, .int v4]) (M' := M) rfl ?_
  refine pu_icmp_ge rfl (fun hc => ?_) (fun hc => ?_)
  · replace H := Eq.mp (if_pos hc) H
    refine pu_go 1 (pc' := 116) (ls' := [.ref 49, .int v1, .int v2, .int v3, .int v4]) (st' := [.ref 49]) (M' := M) rfl ?_
    obtain ⟨y1, e2, hy1, H⟩ := H
    refine pu_getf (j := 1) rfl rfl (by decide) rfl (by decide) rfl (pu_val_d e2 (Nat.lt_trans (pu_L_lt hy1) (by decide))) ?_
    refine pu_go 1 (pc' := 120) (ls' := [.ref 49, .int v1, .int v2, .int v3, .int v4]) (st' := [.int v2, .ref y1]) (M' := M) rfl ?_
    refine pu_callV (m' := 37) (ml := 2) (as := [.ref y1, .int v2]) (rest := []) rfl (pu_virt (pu_L_o hy1) (Nat.lt_trans (pu_L_lt hy1) (by decide)) ⟨Nat.le_of_ble_eq_true rfl, Nat.le_of_ble_eq_true rfl⟩ rfl rfl) rfl (Nat.le_of_ble_eq_true rfl) H (fun M3 H => ?_)
    show pu_R L (d + 2) 48 123 [.ref 49, .int v1, .int v2, .int v3, .int v4] [] M3 _
    refine pu_go 1 (pc' := 124) (ls' := [.ref 49, .int v1, .int v2, .int v3, .int v4]) (st' := [.ref 49]) (M' := M3) rfl ?_
    obtain ⟨y4, e5, hy4, H⟩ := H
    refine pu_getf (j := 1) rfl rfl (by decide) rfl (by decide) rfl (pu_val_d e5 (Nat.lt_trans (pu_L_lt hy4) (by decide))) ?_
    refine pu_go 1 (pc' := 128) (ls' := [.ref 49, .int v1, .int v2, .int v3, .int v4]) (st' := [.int v3, .ref y4]) (M' := M3) rfl ?_
    refine pu_callV (m' := 37) (ml := 2) (as := [.ref y4, .int v3]) (rest := []) rfl (pu_virt (pu_L_o hy4) (Nat.lt_trans (pu_L_lt hy4) (by decide)) ⟨Nat.le_of_ble_eq_true rfl, Nat.le_of_ble_eq_true rfl⟩ rfl rfl) rfl (Nat.le_of_ble_eq_true rfl) H (fun M6 H => ?_)
    show pu_R L (d + 2) 48 131 [.ref 49, .int v1, .int v2, .int v3, .int v4] [] M6 _
    exact pu_ret rfl rfl ⟨rfl, H⟩
  · replace H := Eq.mp (if_neg hc) H
    refine pu_go 4 (pc' := 29) (ls' := [.ref 49, .int v1, .int v2, .int v3, .int v4]) (st' := [.int 38, .int (M 1 2)]) (M' := M) rfl ?_
    refine pu_icmp_eq rfl (fun hc => ?_) (fun hc => ?_)
    · replace H := Eq.mp (if_pos hc) H
      exact H
    · replace H := Eq.mp (if_neg hc) H
      refine pu_go 4 (pc' := 41) (ls' := [.ref 49, .int v1, .int v2, .int v3, .int v4]) (st' := [.int 124, .int (M 1 2)]) (M' := M) rfl ?_
      refine pu_icmp_ne rfl (fun hc => ?_) (fun hc => ?_)
      · replace H := Eq.mp (if_neg hc) H
        refine pu_go 1 (pc' := 116) (ls' := [.ref 49, .int v1, .int v2, .int v3, .int v4]) (st' := [.ref 49]) (M' := M) rfl ?_
        obtain ⟨y7, e8, hy7, H⟩ := H
        refine pu_getf (j := 1) rfl rfl (by decide) rfl (by decide) rfl (pu_val_d e8 (Nat.lt_trans (pu_L_lt hy7) (by decide))) ?_
        refine pu_go 1 (pc' := 120) (ls' := [.ref 49, .int v1, .int v2, .int v3, .int v4]) (st' := [.int v2, .ref y7]) (M' := M) rfl ?_
        refine pu_callV (m' := 37) (ml := 2) (as := [.ref y7, .int v2]) (rest := []) rfl (pu_virt (pu_L_o hy7) (Nat.lt_trans (pu_L_lt hy7) (by decide)) ⟨Nat.le_of_ble_eq_true rfl, Nat.le_of_ble_eq_true rfl⟩ rfl rfl) rfl (Nat.le_of_ble_eq_true rfl) H (fun M9 H => ?_)
        show pu_R L (d + 2) 48 123 [.ref 49, .int v1, .int v2, .int v3, .int v4] [] M9 _
        refine pu_go 1 (pc' := 124) (ls' := [.ref 49, .int v1, .int v2, .int v3, .int v4]) (st' := [.ref 49]) (M' := M9) rfl ?_
        obtain ⟨y10, e11, hy10, H⟩ := H
        refine pu_getf (j := 1) rfl rfl (by decide) rfl (by decide) rfl (pu_val_d e11 (Nat.lt_trans (pu_L_lt hy10) (by decide))) ?_
        refine pu_go 1 (pc' := 128) (ls' := [.ref 49, .int v1, .int v2, .int v3, .int v4]) (st' := [.int v3, .ref y10]) (M' := M9) rfl ?_
        refine pu_callV (m' := 37) (ml := 2) (as := [.ref y10, .int v3]) (rest := []) rfl (pu_virt (pu_L_o hy10) (Nat.lt_trans (pu_L_lt hy10) (by decide)) ⟨Nat.le_of_ble_eq_true rfl, Nat.le_of_ble_eq_true rfl⟩ rfl rfl) rfl (Nat.le_of_ble_eq_true rfl) H (fun M12 H => ?_)
        show pu_R L (d + 2) 48 131 [.ref 49, .int v1, .int v2, .int v3, .int v4] [] M12 _
        exact pu_ret rfl rfl ⟨rfl, H⟩
      · replace H := Eq.mp (if_pos hc) H
        exact H
set_option maxRecDepth 20000 in
theorem r_LawReader_readCondition {L d : Nat} {M : pu_M} {Q : pu_M → Prop} {v1 : Int32} (H : pu_V L (d + 1) 49 [.ref 49, .int v1] M (fun M1 => pu_R L (d + 2) 48 12 [.ref 49, .int v1, .int ((-1)), .int ((-1)), .int 0] [] M1 (pu_qV Q))) : pu_V L (d + 2) 48 [.ref 49, .int v1] M Q := by
  show pu_R L (d + 2) 48 0 [.ref 49, .int v1, mq_un, mq_un, mq_un] [] M (pu_qV Q)
  refine pu_go 6 (pc' := 6) (ls' := [.ref 49, .int v1, .int ((-1)), .int ((-1)), mq_un]) (st' := [.int v1, .ref 49]) (M' := M) rfl ?_
  refine pu_callV (m' := 49) (ml := 3) (as := [.ref 49, .int v1]) (rest := []) rfl rfl rfl (Nat.le_of_ble_eq_true rfl) H (fun M1 H => ?_)
  show pu_R L (d + 2) 48 9 [.ref 49, .int v1, .int ((-1)), .int ((-1)), mq_un] [] M1 _
  refine pu_go 2 (pc' := 12) (ls' := [.ref 49, .int v1, .int ((-1)), .int ((-1)), .int 0]) (st' := []) (M' := M1) rfl ?_
  exact H
/-! LawReader_readTest (I)V -/
set_option maxRecDepth 20000 in
theorem r_LawReader_readTest {L d : Nat} {M : pu_M} {Q : pu_M → Prop} {v1 : Int32} (H : (if (M 1 2) = 33 then pu_I L (d + 2) 54 [.ref 49, .int v1] M (fun x32 M31 => (if x32 = 0 then Q M31 else pu_V L (d + 2) 49 [.ref 49, .int (v1 + 1)] M31 (fun M33 => (∃ y34, M33 49 1 = nI y34 ∧ pu_isL y34 ∧ pu_I L (d + 2) 36 [.ref y34, .int 2, .int 0] M33 (fun x37 M36 => Q M36))))) else (if (M 1 2) = 40 then pu_I L (d + 2) 54 [.ref 49, .int v1] M (fun x28 M27 => (if x28 = 0 then Q M27 else pu_V L (d + 2) 48 [.ref 49, .int (v1 + 1)] M27 (fun M29 => pu_V L (d + 2) 85 [.ref 1, .int 41] M29 (fun M30 => Q M30)))) else pu_V L (d + 2) 50 [.ref 49, .int v1] M (fun M1 => (if (M1 1 2) = 60 then pu_V L (d + 2) 83 [.ref 1] M1 (fun M2 => pu_V L (d + 2) 50 [.ref 49, .int v1] M2 (fun M3 => (∃ y4, M3 49 1 = nI y4 ∧ pu_isL y4 ∧ pu_I L (d + 2) 36 [.ref y4, .int (M1 1 2), .int 0] M3 (fun x7 M6 => Q M6)))) else (if (M1 1 2) = 62 then pu_V L (d + 2) 83 [.ref 1] M1 (fun M8 => pu_V L (d + 2) 50 [.ref 49, .int v1] M8 (fun M9 => (∃ y10, M9 49 1 = nI y10 ∧ pu_isL y10 ∧ pu_I L (d + 2) 36 [.ref y10, .int (M1 1 2), .int 0] M9 (fun x13 M12 => Q M12)))) else (if (M1 1 2) = 61 then pu_V L (d + 2) 83 [.ref 1] M1 (fun M14 => pu_V L (d + 2) 50 [.ref 49, .int v1] M14 (fun M15 => (∃ y16, M15 49 1 = nI y16 ∧ pu_isL y16 ∧ pu_I L (d + 2) 36 [.ref y16, .int (M1 1 2), .int 0] M15 (fun x19 M18 => Q M18)))) else pu_V L (d + 2) 88 [.ref 1, .int 1, .int (M1 1 3)] M1 (fun M20 => pu_V L (d + 2) 83 [.ref 1] M20 (fun M21 => pu_V L (d + 2) 50 [.ref 49, .int v1] M21 (fun M22 => (∃ y23, M22 49 1 = nI y23 ∧ pu_isL y23 ∧ pu_I L (d + 2) 36 [.ref y23, .int (M1 1 2), .int 0] M22 (fun x26 M25 => Q M25)))))))))))) : pu_V L (d + 3) 49 [.ref 49, .int v1] M Q := by
  show pu_R L (d + 3) 49 0 [.ref 49, .int v1, mq_un] [] M (pu_qV Q)
  refine pu_go 4 (pc' := 9) (ls' := [.ref 49, .int v1, mq_un]) (st' := [.int 33, .int (M 1 2)]) (M' := M) rfl ?_
  refine pu_icmp_ne rfl (fun hc => ?_) (fun hc => ?_)
  · replace H := Eq.mp (if_neg hc) H
    refine pu_go 4 (pc' := 49) (ls' := [.ref 49, .int v1, mq_un]) (st' := [.int 40, .int (M 1 2)]) (M' := M) rfl ?_
    refine pu_icmp_ne rfl (fun hc => ?_) (fun hc => ?_)
    · replace H := Eq.mp (if_neg hc) H
      refine pu_go 2 (pc' := 81) (ls' := [.ref 49, .int v1, mq_un]) (st' := [.int v1, .ref 49]) (M' := M) rfl ?_
      refine pu_callV (m' := 50) (ml := 6) (as := [.ref 49, .int v1]) (rest := []) rfl rfl rfl (Nat.le_of_ble_eq_true rfl) H (fun M1 H => ?_)
      show pu_R L (d + 3) 49 84 [.ref 49, .int v1, mq_un] [] M1 _
      refine pu_go 6 (pc' := 95) (ls' := [.ref 49, .int v1, .int (M1 1 2)]) (st' := [.int 60, .int (M1 1 2)]) (M' := M1) rfl ?_
      refine pu_icmp_eq rfl (fun hc => ?_) (fun hc => ?_)
      · replace H := Eq.mp (if_pos hc) H
        refine pu_go 2 (pc' := 129) (ls' := [.ref 49, .int v1, .int (M1 1 2)]) (st' := [.ref 1]) (M' := M1) rfl ?_
        refine pu_callV (m' := 83) (ml := 2) (as := [.ref 1]) (rest := []) rfl rfl rfl (Nat.le_of_ble_eq_true rfl) H (fun M2 H => ?_)
        show pu_R L (d + 3) 49 132 [.ref 49, .int v1, .int (M1 1 2)] [] M2 _
        refine pu_go 2 (pc' := 134) (ls' := [.ref 49, .int v1, .int (M1 1 2)]) (st' := [.int v1, .ref 49]) (M' := M2) rfl ?_
        refine pu_callV (m' := 50) (ml := 6) (as := [.ref 49, .int v1]) (rest := []) rfl rfl rfl (Nat.le_of_ble_eq_true rfl) H (fun M3 H => ?_)
        show pu_R L (d + 3) 49 137 [.ref 49, .int v1, .int (M1 1 2)] [] M3 _
        refine pu_go 1 (pc' := 138) (ls' := [.ref 49, .int v1, .int (M1 1 2)]) (st' := [.ref 49]) (M' := M3) rfl ?_
        obtain ⟨y4, e5, hy4, H⟩ := H
        refine pu_getf (j := 1) rfl rfl (by decide) rfl (by decide) rfl (pu_val_d e5 (Nat.lt_trans (pu_L_lt hy4) (by decide))) ?_
        refine pu_go 2 (pc' := 143) (ls' := [.ref 49, .int v1, .int (M1 1 2)]) (st' := [.int 0, .int (M1 1 2), .ref y4]) (M' := M3) rfl ?_
        refine pu_callI (m' := 36) (ml := 3) (as := [.ref y4, .int (M1 1 2), .int 0]) (rest := []) rfl (pu_virt (pu_L_o hy4) (Nat.lt_trans (pu_L_lt hy4) (by decide)) ⟨Nat.le_of_ble_eq_true rfl, Nat.le_of_ble_eq_true rfl⟩ rfl rfl) rfl (Nat.le_of_ble_eq_true rfl) H (fun x7 M6 H => ?_)
        show pu_R L (d + 3) 49 146 [.ref 49, .int v1, .int (M1 1 2)] [.int x7] M6 _
        refine pu_go 1 (pc' := 147) (ls' := [.ref 49, .int v1, .int (M1 1 2)]) (st' := []) (M' := M6) rfl ?_
        exact pu_ret rfl rfl ⟨rfl, H⟩
      · replace H := Eq.mp (if_neg hc) H
        refine pu_go 2 (pc' := 101) (ls' := [.ref 49, .int v1, .int (M1 1 2)]) (st' := [.int 62, .int (M1 1 2)]) (M' := M1) rfl ?_
        refine pu_icmp_eq rfl (fun hc => ?_) (fun hc => ?_)
        · replace H := Eq.mp (if_pos hc) H
          refine pu_go 2 (pc' := 129) (ls' := [.ref 49, .int v1, .int (M1 1 2)]) (st' := [.ref 1]) (M' := M1) rfl ?_
          refine pu_callV (m' := 83) (ml := 2) (as := [.ref 1]) (rest := []) rfl rfl rfl (Nat.le_of_ble_eq_true rfl) H (fun M8 H => ?_)
          show pu_R L (d + 3) 49 132 [.ref 49, .int v1, .int (M1 1 2)] [] M8 _
          refine pu_go 2 (pc' := 134) (ls' := [.ref 49, .int v1, .int (M1 1 2)]) (st' := [.int v1, .ref 49]) (M' := M8) rfl ?_
          refine pu_callV (m' := 50) (ml := 6) (as := [.ref 49, .int v1]) (rest := []) rfl rfl rfl (Nat.le_of_ble_eq_true rfl) H (fun M9 H => ?_)
          show pu_R L (d + 3) 49 137 [.ref 49, .int v1, .int (M1 1 2)] [] M9 _
          refine pu_go 1 (pc' := 138) (ls' := [.ref 49, .int v1, .int (M1 1 2)]) (st' := [.ref 49]) (M' := M9) rfl ?_
          obtain ⟨y10, e11, hy10, H⟩ := H
          refine pu_getf (j := 1) rfl rfl (by decide) rfl (by decide) rfl (pu_val_d e11 (Nat.lt_trans (pu_L_lt hy10) (by decide))) ?_
          refine pu_go 2 (pc' := 143) (ls' := [.ref 49, .int v1, .int (M1 1 2)]) (st' := [.int 0, .int (M1 1 2), .ref y10]) (M' := M9) rfl ?_
          refine pu_callI (m' := 36) (ml := 3) (as := [.ref y10, .int (M1 1 2), .int 0]) (rest := []) rfl (pu_virt (pu_L_o hy10) (Nat.lt_trans (pu_L_lt hy10) (by decide)) ⟨Nat.le_of_ble_eq_true rfl, Nat.le_of_ble_eq_true rfl⟩ rfl rfl) rfl (Nat.le_of_ble_eq_true rfl) H (fun x13 M12 H => ?_)
          show pu_R L (d + 3) 49 146 [.ref 49, .int v1, .int (M1 1 2)] [.int x13] M12 _
          refine pu_go 1 (pc' := 147) (ls' := [.ref 49, .int v1, .int (M1 1 2)]) (st' := []) (M' := M12) rfl ?_
          exact pu_ret rfl rfl ⟨rfl, H⟩
        · replace H := Eq.mp (if_neg hc) H
          refine pu_go 2 (pc' := 107) (ls' := [.ref 49, .int v1, .int (M1 1 2)]) (st' := [.int 61, .int (M1 1 2)]) (M' := M1) rfl ?_
          refine pu_icmp_eq rfl (fun hc => ?_) (fun hc => ?_)
          · replace H := Eq.mp (if_pos hc) H
            refine pu_go 2 (pc' := 129) (ls' := [.ref 49, .int v1, .int (M1 1 2)]) (st' := [.ref 1]) (M' := M1) rfl ?_
            refine pu_callV (m' := 83) (ml := 2) (as := [.ref 1]) (rest := []) rfl rfl rfl (Nat.le_of_ble_eq_true rfl) H (fun M14 H => ?_)
            show pu_R L (d + 3) 49 132 [.ref 49, .int v1, .int (M1 1 2)] [] M14 _
            refine pu_go 2 (pc' := 134) (ls' := [.ref 49, .int v1, .int (M1 1 2)]) (st' := [.int v1, .ref 49]) (M' := M14) rfl ?_
            refine pu_callV (m' := 50) (ml := 6) (as := [.ref 49, .int v1]) (rest := []) rfl rfl rfl (Nat.le_of_ble_eq_true rfl) H (fun M15 H => ?_)
            show pu_R L (d + 3) 49 137 [.ref 49, .int v1, .int (M1 1 2)] [] M15 _
            refine pu_go 1 (pc' := 138) (ls' := [.ref 49, .int v1, .int (M1 1 2)]) (st' := [.ref 49]) (M' := M15) rfl ?_
            obtain ⟨y16, e17, hy16, H⟩ := H
            refine pu_getf (j := 1) rfl rfl (by decide) rfl (by decide) rfl (pu_val_d e17 (Nat.lt_trans (pu_L_lt hy16) (by decide))) ?_
            refine pu_go 2 (pc' := 143) (ls' := [.ref 49, .int v1, .int (M1 1 2)]) (st' := [.int 0, .int (M1 1 2), .ref y16]) (M' := M15) rfl ?_
            refine pu_callI (m' := 36) (ml := 3) (as := [.ref y16, .int (M1 1 2), .int 0]) (rest := []) rfl (pu_virt (pu_L_o hy16) (Nat.lt_trans (pu_L_lt hy16) (by decide)) ⟨Nat.le_of_ble_eq_true rfl, Nat.le_of_ble_eq_true rfl⟩ rfl rfl) rfl (Nat.le_of_ble_eq_true rfl) H (fun x19 M18 H => ?_)
            show pu_R L (d + 3) 49 146 [.ref 49, .int v1, .int (M1 1 2)] [.int x19] M18 _
            refine pu_go 1 (pc' := 147) (ls' := [.ref 49, .int v1, .int (M1 1 2)]) (st' := []) (M' := M18) rfl ?_
            exact pu_ret rfl rfl ⟨rfl, H⟩
          · replace H := Eq.mp (if_neg hc) H
            refine pu_go 6 (pc' := 122) (ls' := [.ref 49, .int v1, .int (M1 1 2)]) (st' := [.int (M1 1 3), .int 1, .ref 1]) (M' := M1) rfl ?_
            refine pu_callV (m' := 88) (ml := 3) (as := [.ref 1, .int 1, .int (M1 1 3)]) (rest := []) rfl rfl rfl (Nat.le_of_ble_eq_true rfl) H (fun M20 H => ?_)
            show pu_R L (d + 3) 49 125 [.ref 49, .int v1, .int (M1 1 2)] [] M20 _
            refine pu_go 2 (pc' := 129) (ls' := [.ref 49, .int v1, .int (M1 1 2)]) (st' := [.ref 1]) (M' := M20) rfl ?_
            refine pu_callV (m' := 83) (ml := 2) (as := [.ref 1]) (rest := []) rfl rfl rfl (Nat.le_of_ble_eq_true rfl) H (fun M21 H => ?_)
            show pu_R L (d + 3) 49 132 [.ref 49, .int v1, .int (M1 1 2)] [] M21 _
            refine pu_go 2 (pc' := 134) (ls' := [.ref 49, .int v1, .int (M1 1 2)]) (st' := [.int v1, .ref 49]) (M' := M21) rfl ?_
            refine pu_callV (m' := 50) (ml := 6) (as := [.ref 49, .int v1]) (rest := []) rfl rfl rfl (Nat.le_of_ble_eq_true rfl) H (fun M22 H => ?_)
            show pu_R L (d + 3) 49 137 [.ref 49, .int v1, .int (M1 1 2)] [] M22 _
            refine pu_go 1 (pc' := 138) (ls' := [.ref 49, .int v1, .int (M1 1 2)]) (st' := [.ref 49]) (M' := M22) rfl ?_
            obtain ⟨y23, e24, hy23, H⟩ := H
            refine pu_getf (j := 1) rfl rfl (by decide) rfl (by decide) rfl (pu_val_d e24 (Nat.lt_trans (pu_L_lt hy23) (by decide))) ?_
            refine pu_go 2 (pc' := 143) (ls' := [.ref 49, .int v1, .int (M1 1 2)]) (st' := [.int 0, .int (M1 1 2), .ref y23]) (M' := M22) rfl ?_
            refine pu_callI (m' := 36) (ml := 3) (as := [.ref y23, .int (M1 1 2), .int 0]) (rest := []) rfl (pu_virt (pu_L_o hy23) (Nat.lt_trans (pu_L_lt hy23) (by decide)) ⟨Nat.le_of_ble_eq_true rfl, Nat.le_of_ble_eq_true rfl⟩ rfl rfl) rfl (Nat.le_of_ble_eq_true rfl) H (fun x26 M25 H => ?_)
            show pu_R L (d + 3) 49 146 [.ref 49, .int v1, .int (M1 1 2)] [.int x26] M25 _
            refine pu_go 1 (pc' := 147) (ls' := [.ref 49, .int v1, .int (M1 1 2)]) (st' := []) (M' := M25) rfl ?_
            exact pu_ret rfl rfl ⟨rfl, H⟩
    · replace H := Eq.mp (if_pos hc) H
      refine pu_go 2 (pc' := 54) (ls' := [.ref 49, .int v1, mq_un]) (st' := [.int v1, .ref 49]) (M' := M) rfl ?_
      refine pu_callI (m' := 54) (ml := 2) (as := [.ref 49, .int v1]) (rest := []) rfl rfl rfl (Nat.le_of_ble_eq_true rfl) H (fun x28 M27 H => ?_)
      show pu_R L (d + 3) 49 57 [.ref 49, .int v1, mq_un] [.int x28] M27 _
      refine pu_if_eq rfl (fun hc => ?_) (fun hc => ?_)
      · replace H := Eq.mp (if_pos hc) H
        exact pu_ret rfl rfl ⟨rfl, H⟩
      · replace H := Eq.mp (if_neg hc) H
        refine pu_go 4 (pc' := 64) (ls' := [.ref 49, .int v1, mq_un]) (st' := [.int (v1 + 1), .ref 49]) (M' := M27) rfl ?_
        refine pu_callV (m' := 48) (ml := 5) (as := [.ref 49, .int (v1 + 1)]) (rest := []) rfl rfl rfl (Nat.le_of_ble_eq_true rfl) H (fun M29 H => ?_)
        show pu_R L (d + 3) 49 67 [.ref 49, .int v1, mq_un] [] M29 _
        refine pu_go 3 (pc' := 73) (ls' := [.ref 49, .int v1, mq_un]) (st' := [.int 41, .ref 1]) (M' := M29) rfl ?_
        refine pu_callV (m' := 85) (ml := 2) (as := [.ref 1, .int 41]) (rest := []) rfl rfl rfl (Nat.le_of_ble_eq_true rfl) H (fun M30 H => ?_)
        show pu_R L (d + 3) 49 76 [.ref 49, .int v1, mq_un] [] M30 _
        refine pu_go 1 (pc' := 147) (ls' := [.ref 49, .int v1, mq_un]) (st' := []) (M' := M30) rfl ?_
        exact pu_ret rfl rfl ⟨rfl, H⟩
  · replace H := Eq.mp (if_pos hc) H
    refine pu_go 2 (pc' := 14) (ls' := [.ref 49, .int v1, mq_un]) (st' := [.int v1, .ref 49]) (M' := M) rfl ?_
    refine pu_callI (m' := 54) (ml := 2) (as := [.ref 49, .int v1]) (rest := []) rfl rfl rfl (Nat.le_of_ble_eq_true rfl) H (fun x32 M31 H => ?_)
    show pu_R L (d + 3) 49 17 [.ref 49, .int v1, mq_un] [.int x32] M31 _
    refine pu_if_eq rfl (fun hc => ?_) (fun hc => ?_)
    · replace H := Eq.mp (if_pos hc) H
      exact pu_ret rfl rfl ⟨rfl, H⟩
    · replace H := Eq.mp (if_neg hc) H
      refine pu_go 4 (pc' := 24) (ls' := [.ref 49, .int v1, mq_un]) (st' := [.int (v1 + 1), .ref 49]) (M' := M31) rfl ?_
      refine pu_callV (m' := 49) (ml := 3) (as := [.ref 49, .int (v1 + 1)]) (rest := []) rfl rfl rfl (Nat.le_of_ble_eq_true rfl) H (fun M33 H => ?_)
      show pu_R L (d + 3) 49 27 [.ref 49, .int v1, mq_un] [] M33 _
      refine pu_go 1 (pc' := 28) (ls' := [.ref 49, .int v1, mq_un]) (st' := [.ref 49]) (M' := M33) rfl ?_
      obtain ⟨y34, e35, hy34, H⟩ := H
      refine pu_getf (j := 1) rfl rfl (by decide) rfl (by decide) rfl (pu_val_d e35 (Nat.lt_trans (pu_L_lt hy34) (by decide))) ?_
      refine pu_go 2 (pc' := 33) (ls' := [.ref 49, .int v1, mq_un]) (st' := [.int 0, .int 2, .ref y34]) (M' := M33) rfl ?_
      refine pu_callI (m' := 36) (ml := 3) (as := [.ref y34, .int 2, .int 0]) (rest := []) rfl (pu_virt (pu_L_o hy34) (Nat.lt_trans (pu_L_lt hy34) (by decide)) ⟨Nat.le_of_ble_eq_true rfl, Nat.le_of_ble_eq_true rfl⟩ rfl rfl) rfl (Nat.le_of_ble_eq_true rfl) H (fun x37 M36 H => ?_)
      show pu_R L (d + 3) 49 36 [.ref 49, .int v1, mq_un] [.int x37] M36 _
      refine pu_go 2 (pc' := 147) (ls' := [.ref 49, .int v1, mq_un]) (st' := []) (M' := M36) rfl ?_
      exact pu_ret rfl rfl ⟨rfl, H⟩
/-! LawReader_readSum (I)V -/
set_option maxRecDepth 20000 in
theorem r_LawReader_readSum_72 {L d : Nat} {M : pu_M} {Q : pu_M → Prop} {v1 : Int32} {v2 : Int32} {v3 : Int32} {v4 : Int32} {v5 : Int32} (H : pu_V L (d + 2) 83 [.ref 1] M (fun M1 => pu_V L (d + 2) 53 [.ref 49, .int v1] M1 (fun M2 => (if v5 = 0 then (∃ y3, M2 49 1 = nI y3 ∧ pu_isL y3 ∧ pu_I L (d + 2) 36 [.ref y3, .int v4, .int 0] M2 (fun x6 M5 => pu_R L (d + 3) 50 9 [.ref 49, .int v1, .int v2, .int (v3 + 1), .int v4, .int v5] [] M5 (pu_qV Q))) else pu_R L (d + 3) 50 9 [.ref 49, .int v1, .int v2, .int (v3 + 1), .int v4, .int v5] [] M2 (pu_qV Q))))) : pu_R L (d + 3) 50 72 [.ref 49, .int v1, .int v2, .int v3, .int v4, .int v5] [] M (pu_qV Q) := by
  refine pu_go 2 (pc' := 76) (ls' := [.ref 49, .int v1, .int v2, .int v3, .int v4, .int v5]) (st' := [.ref 1]) (M' := M) rfl ?_
  refine pu_callV (m' := 83) (ml := 2) (as := [.ref 1]) (rest := []) rfl rfl rfl (Nat.le_of_ble_eq_true rfl) H (fun M1 H => ?_)
  show pu_R L (d + 3) 50 79 [.ref 49, .int v1, .int v2, .int v3, .int v4, .int v5] [] M1 _
  refine pu_go 2 (pc' := 81) (ls' := [.ref 49, .int v1, .int v2, .int v3, .int v4, .int v5]) (st' := [.int v1, .ref 49]) (M' := M1) rfl ?_
  refine pu_callV (m' := 53) (ml := 2) (as := [.ref 49, .int v1]) (rest := []) rfl rfl rfl (Nat.le_of_ble_eq_true rfl) H (fun M2 H => ?_)
  show pu_R L (d + 3) 50 84 [.ref 49, .int v1, .int v2, .int v3, .int v4, .int v5] [] M2 _
  refine pu_go 1 (pc' := 86) (ls' := [.ref 49, .int v1, .int v2, .int v3, .int v4, .int v5]) (st' := [.int v5]) (M' := M2) rfl ?_
  refine pu_if_ne rfl (fun hc => ?_) (fun hc => ?_)
  · replace H := Eq.mp (if_neg hc) H
    refine pu_go 2 (pc' := 9) (ls' := [.ref 49, .int v1, .int v2, .int (v3 + 1), .int v4, .int v5]) (st' := []) (M' := M2) rfl ?_
    exact H
  · replace H := Eq.mp (if_pos hc) H
    refine pu_go 1 (pc' := 90) (ls' := [.ref 49, .int v1, .int v2, .int v3, .int v4, .int v5]) (st' := [.ref 49]) (M' := M2) rfl ?_
    obtain ⟨y3, e4, hy3, H⟩ := H
    refine pu_getf (j := 1) rfl rfl (by decide) rfl (by decide) rfl (pu_val_d e4 (Nat.lt_trans (pu_L_lt hy3) (by decide))) ?_
    refine pu_go 2 (pc' := 96) (ls' := [.ref 49, .int v1, .int v2, .int v3, .int v4, .int v5]) (st' := [.int 0, .int v4, .ref y3]) (M' := M2) rfl ?_
    refine pu_callI (m' := 36) (ml := 3) (as := [.ref y3, .int v4, .int 0]) (rest := []) rfl (pu_virt (pu_L_o hy3) (Nat.lt_trans (pu_L_lt hy3) (by decide)) ⟨Nat.le_of_ble_eq_true rfl, Nat.le_of_ble_eq_true rfl⟩ rfl rfl) rfl (Nat.le_of_ble_eq_true rfl) H (fun x6 M5 H => ?_)
    show pu_R L (d + 3) 50 99 [.ref 49, .int v1, .int v2, .int v3, .int v4, .int v5] [.int x6] M5 _
    refine pu_go 3 (pc' := 9) (ls' := [.ref 49, .int v1, .int v2, .int (v3 + 1), .int v4, .int v5]) (st' := []) (M' := M5) rfl ?_
    exact H
set_option maxRecDepth 20000 in
theorem r_LawReader_readSum_9 {L d : Nat} {M : pu_M} {Q : pu_M → Prop} {v1 : Int32} {v2 : Int32} {v3 : Int32} {v4 : Value} {v5 : Value} (H : (if 240 ≤ v3 then pu_V L (d + 2) 52 [.ref 49, .int v2] M (fun M1 => Q M1) else pu_I L (d + 2) 51 [.int (M 1 2)] M (fun x3 M2 => (if x3 = 0 then pu_V L (d + 2) 52 [.ref 49, .int v2] M2 (fun M4 => Q M4) else (if (M2 1 2) = 43 then (if (1 : Int32) = 0 then pu_R L (d + 3) 50 72 [.ref 49, .int v1, .int v2, .int v3, .int (M2 1 2), .int 1] [] M2 (pu_qV Q) else pu_V L (d + 2) 52 [.ref 49, .int v2] M2 (fun M5 => pu_R L (d + 3) 50 72 [.ref 49, .int v1, .int (M2 1 2), .int v3, .int (M2 1 2), .int 1] [] M5 (pu_qV Q))) else (if (M2 1 2) = 45 then (if (1 : Int32) = 0 then pu_R L (d + 3) 50 72 [.ref 49, .int v1, .int v2, .int v3, .int (M2 1 2), .int 1] [] M2 (pu_qV Q) else pu_V L (d + 2) 52 [.ref 49, .int v2] M2 (fun M7 => pu_R L (d + 3) 50 72 [.ref 49, .int v1, .int (M2 1 2), .int v3, .int (M2 1 2), .int 1] [] M7 (pu_qV Q))) else (if (0 : Int32) = 0 then pu_R L (d + 3) 50 72 [.ref 49, .int v1, .int v2, .int v3, .int (M2 1 2), .int 0] [] M2 (pu_qV Q) else pu_V L (d + 2) 52 [.ref 49, .int v2] M2 (fun M6 => pu_R L (d + 3) 50 72 [.ref 49, .int v1, .int (M2 1 2), .int v3, .int (M2 1 2), .int 0] [] M6 (pu_qV Q))))))))) : pu_R L (d + 3) 50 9 [.ref 49, .int v1, .int v2, .int v3, v4, v5] [] M (pu_qV Q) := by
  refine pu_go 2 (pc' := 13) (ls' := [.ref 49, .int v1, .int v2, .int v3, v4, v5]) (st' := [.int 240, .int v3]) (M' := M) rfl ?_
  refine pu_icmp_ge rfl (fun hc => ?_) (fun hc => ?_)
  · replace H := Eq.mp (if_pos hc) H
    refine pu_go 2 (pc' := 108) (ls' := [.ref 49, .int v1, .int v2, .int v3, v4, v5]) (st' := [.int v2, .ref 49]) (M' := M) rfl ?_
    refine pu_callV (m' := 52) (ml := 2) (as := [.ref 49, .int v2]) (rest := []) rfl rfl rfl (Nat.le_of_ble_eq_true rfl) H (fun M1 H => ?_)
    show pu_R L (d + 3) 50 111 [.ref 49, .int v1, .int v2, .int v3, v4, v5] [] M1 _
    exact pu_ret rfl rfl ⟨rfl, H⟩
  · replace H := Eq.mp (if_neg hc) H
    refine pu_go 3 (pc' := 23) (ls' := [.ref 49, .int v1, .int v2, .int v3, v4, v5]) (st' := [.int (M 1 2)]) (M' := M) rfl ?_
    refine pu_callI (m' := 51) (ml := 1) (as := [.int (M 1 2)]) (rest := []) rfl rfl rfl (Nat.le_of_ble_eq_true rfl) H (fun x3 M2 H => ?_)
    show pu_R L (d + 3) 50 26 [.ref 49, .int v1, .int v2, .int v3, v4, v5] [.int x3] M2 _
    refine pu_if_eq rfl (fun hc => ?_) (fun hc => ?_)
    · replace H := Eq.mp (if_pos hc) H
      refine pu_go 2 (pc' := 108) (ls' := [.ref 49, .int v1, .int v2, .int v3, v4, v5]) (st' := [.int v2, .ref 49]) (M' := M2) rfl ?_
      refine pu_callV (m' := 52) (ml := 2) (as := [.ref 49, .int v2]) (rest := []) rfl rfl rfl (Nat.le_of_ble_eq_true rfl) H (fun M4 H => ?_)
      show pu_R L (d + 3) 50 111 [.ref 49, .int v1, .int v2, .int v3, v4, v5] [] M4 _
      exact pu_ret rfl rfl ⟨rfl, H⟩
    · replace H := Eq.mp (if_neg hc) H
      refine pu_go 6 (pc' := 42) (ls' := [.ref 49, .int v1, .int v2, .int v3, .int (M2 1 2), v5]) (st' := [.int 43, .int (M2 1 2)]) (M' := M2) rfl ?_
      refine pu_icmp_eq rfl (fun hc => ?_) (fun hc => ?_)
      · replace H := Eq.mp (if_pos hc) H
        refine pu_go 4 (pc' := 61) (ls' := [.ref 49, .int v1, .int v2, .int v3, .int (M2 1 2), .int 1]) (st' := [.int 1]) (M' := M2) rfl ?_
        refine pu_if_eq rfl (fun hc => ?_) (fun hc => ?_)
        · replace H := Eq.mp (if_pos hc) H
          exact H
        · replace H := Eq.mp (if_neg hc) H
          refine pu_go 2 (pc' := 66) (ls' := [.ref 49, .int v1, .int v2, .int v3, .int (M2 1 2), .int 1]) (st' := [.int v2, .ref 49]) (M' := M2) rfl ?_
          refine pu_callV (m' := 52) (ml := 2) (as := [.ref 49, .int v2]) (rest := []) rfl rfl rfl (Nat.le_of_ble_eq_true rfl) H (fun M5 H => ?_)
          show pu_R L (d + 3) 50 69 [.ref 49, .int v1, .int v2, .int v3, .int (M2 1 2), .int 1] [] M5 _
          refine pu_go 2 (pc' := 72) (ls' := [.ref 49, .int v1, .int (M2 1 2), .int v3, .int (M2 1 2), .int 1]) (st' := []) (M' := M5) rfl ?_
          exact H
      · replace H := Eq.mp (if_neg hc) H
        refine pu_go 2 (pc' := 49) (ls' := [.ref 49, .int v1, .int v2, .int v3, .int (M2 1 2), v5]) (st' := [.int 45, .int (M2 1 2)]) (M' := M2) rfl ?_
        refine pu_icmp_ne rfl (fun hc => ?_) (fun hc => ?_)
        · replace H := Eq.mp (if_neg hc) H
          refine pu_go 3 (pc' := 61) (ls' := [.ref 49, .int v1, .int v2, .int v3, .int (M2 1 2), .int 0]) (st' := [.int 0]) (M' := M2) rfl ?_
          refine pu_if_eq rfl (fun hc => ?_) (fun hc => ?_)
          · replace H := Eq.mp (if_pos hc) H
            exact H
          · replace H := Eq.mp (if_neg hc) H
            refine pu_go 2 (pc' := 66) (ls' := [.ref 49, .int v1, .int v2, .int v3, .int (M2 1 2), .int 0]) (st' := [.int v2, .ref 49]) (M' := M2) rfl ?_
            refine pu_callV (m' := 52) (ml := 2) (as := [.ref 49, .int v2]) (rest := []) rfl rfl rfl (Nat.le_of_ble_eq_true rfl) H (fun M6 H => ?_)
            show pu_R L (d + 3) 50 69 [.ref 49, .int v1, .int v2, .int v3, .int (M2 1 2), .int 0] [] M6 _
            refine pu_go 2 (pc' := 72) (ls' := [.ref 49, .int v1, .int (M2 1 2), .int v3, .int (M2 1 2), .int 0]) (st' := []) (M' := M6) rfl ?_
            exact H
        · replace H := Eq.mp (if_pos hc) H
          refine pu_go 4 (pc' := 61) (ls' := [.ref 49, .int v1, .int v2, .int v3, .int (M2 1 2), .int 1]) (st' := [.int 1]) (M' := M2) rfl ?_
          refine pu_if_eq rfl (fun hc => ?_) (fun hc => ?_)
          · replace H := Eq.mp (if_pos hc) H
            exact H
          · replace H := Eq.mp (if_neg hc) H
            refine pu_go 2 (pc' := 66) (ls' := [.ref 49, .int v1, .int v2, .int v3, .int (M2 1 2), .int 1]) (st' := [.int v2, .ref 49]) (M' := M2) rfl ?_
            refine pu_callV (m' := 52) (ml := 2) (as := [.ref 49, .int v2]) (rest := []) rfl rfl rfl (Nat.le_of_ble_eq_true rfl) H (fun M7 H => ?_)
            show pu_R L (d + 3) 50 69 [.ref 49, .int v1, .int v2, .int v3, .int (M2 1 2), .int 1] [] M7 _
            refine pu_go 2 (pc' := 72) (ls' := [.ref 49, .int v1, .int (M2 1 2), .int v3, .int (M2 1 2), .int 1]) (st' := []) (M' := M7) rfl ?_
            exact H
set_option maxRecDepth 20000 in
theorem r_LawReader_readSum {L d : Nat} {M : pu_M} {Q : pu_M → Prop} {v1 : Int32} (H : pu_V L (d + 2) 53 [.ref 49, .int v1] M (fun M1 => pu_R L (d + 3) 50 9 [.ref 49, .int v1, .int ((-1)), .int 0, mq_un, mq_un] [] M1 (pu_qV Q))) : pu_V L (d + 3) 50 [.ref 49, .int v1] M Q := by
  show pu_R L (d + 3) 50 0 [.ref 49, .int v1, mq_un, mq_un, mq_un, mq_un] [] M (pu_qV Q)
  refine pu_go 4 (pc' := 4) (ls' := [.ref 49, .int v1, .int ((-1)), mq_un, mq_un, mq_un]) (st' := [.int v1, .ref 49]) (M' := M) rfl ?_
  refine pu_callV (m' := 53) (ml := 2) (as := [.ref 49, .int v1]) (rest := []) rfl rfl rfl (Nat.le_of_ble_eq_true rfl) H (fun M1 H => ?_)
  show pu_R L (d + 3) 50 7 [.ref 49, .int v1, .int ((-1)), mq_un, mq_un, mq_un] [] M1 _
  refine pu_go 2 (pc' := 9) (ls' := [.ref 49, .int v1, .int ((-1)), .int 0, mq_un, mq_un]) (st' := []) (M' := M1) rfl ?_
  exact H
/-! LawReader_isReckoned (I)Z -/
set_option maxRecDepth 20000 in
theorem r_LawReader_isReckoned {L d : Nat} {M : pu_M} {Q : Int32 → pu_M → Prop} {v0 : Int32} (H : (if v0 = 43 then Q 1 M else (if v0 = 45 then Q 1 M else (if v0 = 42 then Q 1 M else (if v0 = 47 then Q 1 M else (if v0 = 37 then Q 1 M else Q 0 M)))))) : pu_I L (d + 1) 51 [.int v0] M Q := by
  show pu_R L (d + 1) 51 0 [.int v0] [] M (pu_qI Q)
  refine pu_go 2 (pc' := 3) (ls' := [.int v0]) (st' := [.int 43, .int v0]) (M' := M) rfl ?_
  refine pu_icmp_eq rfl (fun hc => ?_) (fun hc => ?_)
  · replace H := Eq.mp (if_pos hc) H
    refine pu_go 2 (pc' := 35) (ls' := [.int v0]) (st' := [.int 1]) (M' := M) rfl ?_
    exact pu_ret rfl rfl ⟨_, rfl, H⟩
  · replace H := Eq.mp (if_neg hc) H
    refine pu_go 2 (pc' := 9) (ls' := [.int v0]) (st' := [.int 45, .int v0]) (M' := M) rfl ?_
    refine pu_icmp_eq rfl (fun hc => ?_) (fun hc => ?_)
    · replace H := Eq.mp (if_pos hc) H
      refine pu_go 2 (pc' := 35) (ls' := [.int v0]) (st' := [.int 1]) (M' := M) rfl ?_
      exact pu_ret rfl rfl ⟨_, rfl, H⟩
    · replace H := Eq.mp (if_neg hc) H
      refine pu_go 2 (pc' := 15) (ls' := [.int v0]) (st' := [.int 42, .int v0]) (M' := M) rfl ?_
      refine pu_icmp_eq rfl (fun hc => ?_) (fun hc => ?_)
      · replace H := Eq.mp (if_pos hc) H
        refine pu_go 2 (pc' := 35) (ls' := [.int v0]) (st' := [.int 1]) (M' := M) rfl ?_
        exact pu_ret rfl rfl ⟨_, rfl, H⟩
      · replace H := Eq.mp (if_neg hc) H
        refine pu_go 2 (pc' := 21) (ls' := [.int v0]) (st' := [.int 47, .int v0]) (M' := M) rfl ?_
        refine pu_icmp_eq rfl (fun hc => ?_) (fun hc => ?_)
        · replace H := Eq.mp (if_pos hc) H
          refine pu_go 2 (pc' := 35) (ls' := [.int v0]) (st' := [.int 1]) (M' := M) rfl ?_
          exact pu_ret rfl rfl ⟨_, rfl, H⟩
        · replace H := Eq.mp (if_neg hc) H
          refine pu_go 2 (pc' := 27) (ls' := [.int v0]) (st' := [.int 37, .int v0]) (M' := M) rfl ?_
          refine pu_icmp_ne rfl (fun hc => ?_) (fun hc => ?_)
          · replace H := Eq.mp (if_neg hc) H
            refine pu_go 1 (pc' := 35) (ls' := [.int v0]) (st' := [.int 0]) (M' := M) rfl ?_
            exact pu_ret rfl rfl ⟨_, rfl, H⟩
          · replace H := Eq.mp (if_pos hc) H
            refine pu_go 2 (pc' := 35) (ls' := [.int v0]) (st' := [.int 1]) (M' := M) rfl ?_
            exact pu_ret rfl rfl ⟨_, rfl, H⟩
/-! LawReader_addIfAny (I)V -/
set_option maxRecDepth 20000 in
theorem r_LawReader_addIfAny {L d : Nat} {M : pu_M} {Q : pu_M → Prop} {v1 : Int32} (H : (if v1 = ((-1)) then Q M else (∃ y1, M 49 1 = nI y1 ∧ pu_isL y1 ∧ pu_I L (d + 1) 36 [.ref y1, .int v1, .int 0] M (fun x4 M3 => Q M3)))) : pu_V L (d + 2) 52 [.ref 49, .int v1] M Q := by
  show pu_R L (d + 2) 52 0 [.ref 49, .int v1] [] M (pu_qV Q)
  refine pu_go 2 (pc' := 2) (ls' := [.ref 49, .int v1]) (st' := [.int ((-1)), .int v1]) (M' := M) rfl ?_
  refine pu_icmp_eq rfl (fun hc => ?_) (fun hc => ?_)
  · replace H := Eq.mp (if_pos hc) H
    exact pu_ret rfl rfl ⟨rfl, H⟩
  · replace H := Eq.mp (if_neg hc) H
    refine pu_go 1 (pc' := 6) (ls' := [.ref 49, .int v1]) (st' := [.ref 49]) (M' := M) rfl ?_
    obtain ⟨y1, e2, hy1, H⟩ := H
    refine pu_getf (j := 1) rfl rfl (by decide) rfl (by decide) rfl (pu_val_d e2 (Nat.lt_trans (pu_L_lt hy1) (by decide))) ?_
    refine pu_go 2 (pc' := 11) (ls' := [.ref 49, .int v1]) (st' := [.int 0, .int v1, .ref y1]) (M' := M) rfl ?_
    refine pu_callI (m' := 36) (ml := 3) (as := [.ref y1, .int v1, .int 0]) (rest := []) rfl (pu_virt (pu_L_o hy1) (Nat.lt_trans (pu_L_lt hy1) (by decide)) ⟨Nat.le_of_ble_eq_true rfl, Nat.le_of_ble_eq_true rfl⟩ rfl rfl) rfl (Nat.le_of_ble_eq_true rfl) H (fun x4 M3 H => ?_)
    show pu_R L (d + 2) 52 14 [.ref 49, .int v1] [.int x4] M3 _
    refine pu_go 1 (pc' := 15) (ls' := [.ref 49, .int v1]) (st' := []) (M' := M3) rfl ?_
    exact pu_ret rfl rfl ⟨rfl, H⟩
/-! LawReader_readFactor (I)V -/
set_option maxRecDepth 20000 in
theorem r_LawReader_readFactor {L d : Nat} {M : pu_M} {Q : pu_M → Prop} {v1 : Int32} (H : (if (M 1 2) = 91 then pu_I L (d + 2) 54 [.ref 49, .int v1] M (fun x6 M5 => (if x6 = 0 then Q M5 else pu_V L (d + 2) 50 [.ref 49, .int (v1 + 1)] M5 (fun M7 => pu_V L (d + 2) 85 [.ref 1, .int 93] M7 (fun M8 => Q M8)))) else pu_I L (d + 2) 86 [.ref 1, .int 48, .int 10] M (fun x2 M1 => (if x2 = ((-1)) then pu_V L (d + 2) 56 [.ref 49] M1 (fun M3 => Q M3) else pu_V L (d + 2) 55 [.ref 49] M1 (fun M4 => Q M4))))) : pu_V L (d + 3) 53 [.ref 49, .int v1] M Q := by
  show pu_R L (d + 3) 53 0 [.ref 49, .int v1] [] M (pu_qV Q)
  refine pu_go 4 (pc' := 9) (ls' := [.ref 49, .int v1]) (st' := [.int 91, .int (M 1 2)]) (M' := M) rfl ?_
  refine pu_icmp_ne rfl (fun hc => ?_) (fun hc => ?_)
  · replace H := Eq.mp (if_neg hc) H
    refine pu_go 4 (pc' := 47) (ls' := [.ref 49, .int v1]) (st' := [.int 10, .int 48, .ref 1]) (M' := M) rfl ?_
    refine pu_callI (m' := 86) (ml := 3) (as := [.ref 1, .int 48, .int 10]) (rest := []) rfl rfl rfl (Nat.le_of_ble_eq_true rfl) H (fun x2 M1 H => ?_)
    show pu_R L (d + 3) 53 50 [.ref 49, .int v1] [.int x2] M1 _
    refine pu_go 1 (pc' := 51) (ls' := [.ref 49, .int v1]) (st' := [.int ((-1)), .int x2]) (M' := M1) rfl ?_
    refine pu_icmp_eq rfl (fun hc => ?_) (fun hc => ?_)
    · replace H := Eq.mp (if_pos hc) H
      refine pu_go 1 (pc' := 62) (ls' := [.ref 49, .int v1]) (st' := [.ref 49]) (M' := M1) rfl ?_
      refine pu_callV (m' := 56) (ml := 2) (as := [.ref 49]) (rest := []) rfl rfl rfl (Nat.le_of_ble_eq_true rfl) H (fun M3 H => ?_)
      show pu_R L (d + 3) 53 65 [.ref 49, .int v1] [] M3 _
      exact pu_ret rfl rfl ⟨rfl, H⟩
    · replace H := Eq.mp (if_neg hc) H
      refine pu_go 1 (pc' := 55) (ls' := [.ref 49, .int v1]) (st' := [.ref 49]) (M' := M1) rfl ?_
      refine pu_callV (m' := 55) (ml := 3) (as := [.ref 49]) (rest := []) rfl rfl rfl (Nat.le_of_ble_eq_true rfl) H (fun M4 H => ?_)
      show pu_R L (d + 3) 53 58 [.ref 49, .int v1] [] M4 _
      refine pu_go 1 (pc' := 65) (ls' := [.ref 49, .int v1]) (st' := []) (M' := M4) rfl ?_
      exact pu_ret rfl rfl ⟨rfl, H⟩
  · replace H := Eq.mp (if_pos hc) H
    refine pu_go 2 (pc' := 14) (ls' := [.ref 49, .int v1]) (st' := [.int v1, .ref 49]) (M' := M) rfl ?_
    refine pu_callI (m' := 54) (ml := 2) (as := [.ref 49, .int v1]) (rest := []) rfl rfl rfl (Nat.le_of_ble_eq_true rfl) H (fun x6 M5 H => ?_)
    show pu_R L (d + 3) 53 17 [.ref 49, .int v1] [.int x6] M5 _
    refine pu_if_eq rfl (fun hc => ?_) (fun hc => ?_)
    · replace H := Eq.mp (if_pos hc) H
      exact pu_ret rfl rfl ⟨rfl, H⟩
    · replace H := Eq.mp (if_neg hc) H
      refine pu_go 4 (pc' := 24) (ls' := [.ref 49, .int v1]) (st' := [.int (v1 + 1), .ref 49]) (M' := M5) rfl ?_
      refine pu_callV (m' := 50) (ml := 6) (as := [.ref 49, .int (v1 + 1)]) (rest := []) rfl rfl rfl (Nat.le_of_ble_eq_true rfl) H (fun M7 H => ?_)
      show pu_R L (d + 3) 53 27 [.ref 49, .int v1] [] M7 _
      refine pu_go 3 (pc' := 33) (ls' := [.ref 49, .int v1]) (st' := [.int 93, .ref 1]) (M' := M7) rfl ?_
      refine pu_callV (m' := 85) (ml := 2) (as := [.ref 1, .int 93]) (rest := []) rfl rfl rfl (Nat.le_of_ble_eq_true rfl) H (fun M8 H => ?_)
      show pu_R L (d + 3) 53 36 [.ref 49, .int v1] [] M8 _
      refine pu_go 1 (pc' := 65) (ls' := [.ref 49, .int v1]) (st' := []) (M' := M8) rfl ?_
      exact pu_ret rfl rfl ⟨rfl, H⟩
/-! LawReader_opens (I)Z -/
set_option maxRecDepth 20000 in
theorem r_LawReader_opens {L d : Nat} {M : pu_M} {Q : Int32 → pu_M → Prop} {v1 : Int32} (H : (if v1 < 6 then pu_V L (d + 1) 83 [.ref 1] M (fun M1 => Q 1 M1) else pu_V L (d + 1) 88 [.ref 1, .int 5, .int (M 1 3)] M (fun M2 => Q 0 M2))) : pu_I L (d + 2) 54 [.ref 49, .int v1] M Q := by
  show pu_R L (d + 2) 54 0 [.ref 49, .int v1] [] M (pu_qI Q)
  refine pu_go 2 (pc' := 3) (ls' := [.ref 49, .int v1]) (st' := [.int 6, .int v1]) (M' := M) rfl ?_
  refine pu_icmp_lt rfl (fun hc => ?_) (fun hc => ?_)
  · replace H := Eq.mp (if_pos hc) H
    refine pu_go 2 (pc' := 27) (ls' := [.ref 49, .int v1]) (st' := [.ref 1]) (M' := M) rfl ?_
    refine pu_callV (m' := 83) (ml := 2) (as := [.ref 1]) (rest := []) rfl rfl rfl (Nat.le_of_ble_eq_true rfl) H (fun M1 H => ?_)
    show pu_R L (d + 2) 54 30 [.ref 49, .int v1] [] M1 _
    refine pu_go 1 (pc' := 31) (ls' := [.ref 49, .int v1]) (st' := [.int 1]) (M' := M1) rfl ?_
    exact pu_ret rfl rfl ⟨_, rfl, H⟩
  · replace H := Eq.mp (if_neg hc) H
    refine pu_go 6 (pc' := 18) (ls' := [.ref 49, .int v1]) (st' := [.int (M 1 3), .int 5, .ref 1]) (M' := M) rfl ?_
    refine pu_callV (m' := 88) (ml := 3) (as := [.ref 1, .int 5, .int (M 1 3)]) (rest := []) rfl rfl rfl (Nat.le_of_ble_eq_true rfl) H (fun M2 H => ?_)
    show pu_R L (d + 2) 54 21 [.ref 49, .int v1] [] M2 _
    refine pu_go 1 (pc' := 22) (ls' := [.ref 49, .int v1]) (st' := [.int 0]) (M' := M2) rfl ?_
    exact pu_ret rfl rfl ⟨_, rfl, H⟩
/-! LawReader_readNumber ()V -/
set_option maxRecDepth 20000 in
theorem r_LawReader_readNumber_54 {L d : Nat} {M : pu_M} {Q : pu_M → Prop} {v1 : Int32} {v2 : Int32} (H : pu_I L (d + 1) 86 [.ref 1, .int 48, .int 10] M (fun x2 M1 => (if x2 = ((-1)) then (∃ y3, M1 49 1 = nI y3 ∧ pu_isL y3 ∧ pu_I L (d + 1) 36 [.ref y3, .int 0, .int v1] M1 (fun x6 M5 => Q M5)) else pu_V L (d + 1) 88 [.ref 1, .int 2, .int (M1 1 3)] M1 (fun M7 => (∃ y8, M7 49 1 = nI y8 ∧ pu_isL y8 ∧ pu_I L (d + 1) 36 [.ref y8, .int 0, .int v1] M7 (fun x11 M10 => Q M10)))))) : pu_R L (d + 2) 55 54 [.ref 49, .int v1, .int v2] [] M (pu_qV Q) := by
  refine pu_go 4 (pc' := 62) (ls' := [.ref 49, .int v1, .int v2]) (st' := [.int 10, .int 48, .ref 1]) (M' := M) rfl ?_
  refine pu_callI (m' := 86) (ml := 3) (as := [.ref 1, .int 48, .int 10]) (rest := []) rfl rfl rfl (Nat.le_of_ble_eq_true rfl) H (fun x2 M1 H => ?_)
  show pu_R L (d + 2) 55 65 [.ref 49, .int v1, .int v2] [.int x2] M1 _
  refine pu_go 1 (pc' := 66) (ls' := [.ref 49, .int v1, .int v2]) (st' := [.int ((-1)), .int x2]) (M' := M1) rfl ?_
  refine pu_icmp_eq rfl (fun hc => ?_) (fun hc => ?_)
  · replace H := Eq.mp (if_pos hc) H
    refine pu_go 1 (pc' := 85) (ls' := [.ref 49, .int v1, .int v2]) (st' := [.ref 49]) (M' := M1) rfl ?_
    obtain ⟨y3, e4, hy3, H⟩ := H
    refine pu_getf (j := 1) rfl rfl (by decide) rfl (by decide) rfl (pu_val_d e4 (Nat.lt_trans (pu_L_lt hy3) (by decide))) ?_
    refine pu_go 2 (pc' := 90) (ls' := [.ref 49, .int v1, .int v2]) (st' := [.int v1, .int 0, .ref y3]) (M' := M1) rfl ?_
    refine pu_callI (m' := 36) (ml := 3) (as := [.ref y3, .int 0, .int v1]) (rest := []) rfl (pu_virt (pu_L_o hy3) (Nat.lt_trans (pu_L_lt hy3) (by decide)) ⟨Nat.le_of_ble_eq_true rfl, Nat.le_of_ble_eq_true rfl⟩ rfl rfl) rfl (Nat.le_of_ble_eq_true rfl) H (fun x6 M5 H => ?_)
    show pu_R L (d + 2) 55 93 [.ref 49, .int v1, .int v2] [.int x6] M5 _
    refine pu_go 1 (pc' := 94) (ls' := [.ref 49, .int v1, .int v2]) (st' := []) (M' := M5) rfl ?_
    exact pu_ret rfl rfl ⟨rfl, H⟩
  · replace H := Eq.mp (if_neg hc) H
    refine pu_go 6 (pc' := 81) (ls' := [.ref 49, .int v1, .int v2]) (st' := [.int (M1 1 3), .int 2, .ref 1]) (M' := M1) rfl ?_
    refine pu_callV (m' := 88) (ml := 3) (as := [.ref 1, .int 2, .int (M1 1 3)]) (rest := []) rfl rfl rfl (Nat.le_of_ble_eq_true rfl) H (fun M7 H => ?_)
    show pu_R L (d + 2) 55 84 [.ref 49, .int v1, .int v2] [] M7 _
    refine pu_go 1 (pc' := 85) (ls' := [.ref 49, .int v1, .int v2]) (st' := [.ref 49]) (M' := M7) rfl ?_
    obtain ⟨y8, e9, hy8, H⟩ := H
    refine pu_getf (j := 1) rfl rfl (by decide) rfl (by decide) rfl (pu_val_d e9 (Nat.lt_trans (pu_L_lt hy8) (by decide))) ?_
    refine pu_go 2 (pc' := 90) (ls' := [.ref 49, .int v1, .int v2]) (st' := [.int v1, .int 0, .ref y8]) (M' := M7) rfl ?_
    refine pu_callI (m' := 36) (ml := 3) (as := [.ref y8, .int 0, .int v1]) (rest := []) rfl (pu_virt (pu_L_o hy8) (Nat.lt_trans (pu_L_lt hy8) (by decide)) ⟨Nat.le_of_ble_eq_true rfl, Nat.le_of_ble_eq_true rfl⟩ rfl rfl) rfl (Nat.le_of_ble_eq_true rfl) H (fun x11 M10 H => ?_)
    show pu_R L (d + 2) 55 93 [.ref 49, .int v1, .int v2] [.int x11] M10 _
    refine pu_go 1 (pc' := 94) (ls' := [.ref 49, .int v1, .int v2]) (st' := []) (M' := M10) rfl ?_
    exact pu_ret rfl rfl ⟨rfl, H⟩
set_option maxRecDepth 20000 in
theorem r_LawReader_readNumber_4 {L d : Nat} {M : pu_M} {Q : pu_M → Prop} {v1 : Int32} {v2 : Int32} (H : (if 5 ≤ v2 then pu_R L (d + 2) 55 54 [.ref 49, .int v1, .int v2] [] M (pu_qV Q) else pu_I L (d + 1) 86 [.ref 1, .int 48, .int 10] M (fun x2 M1 => (if x2 = ((-1)) then pu_R L (d + 2) 55 54 [.ref 49, .int v1, .int v2] [] M1 (pu_qV Q) else pu_I L (d + 1) 86 [.ref 1, .int 48, .int 10] M1 (fun x4 M3 => pu_V L (d + 1) 83 [.ref 1] M3 (fun M5 => pu_R L (d + 2) 55 4 [.ref 49, .int ((10 * v1) + x4), .int (v2 + 1)] [] M5 (pu_qV Q))))))) : pu_R L (d + 2) 55 4 [.ref 49, .int v1, .int v2] [] M (pu_qV Q) := by
  refine pu_go 2 (pc' := 6) (ls' := [.ref 49, .int v1, .int v2]) (st' := [.int 5, .int v2]) (M' := M) rfl ?_
  refine pu_icmp_ge rfl (fun hc => ?_) (fun hc => ?_)
  · replace H := Eq.mp (if_pos hc) H
    exact H
  · replace H := Eq.mp (if_neg hc) H
    refine pu_go 4 (pc' := 17) (ls' := [.ref 49, .int v1, .int v2]) (st' := [.int 10, .int 48, .ref 1]) (M' := M) rfl ?_
    refine pu_callI (m' := 86) (ml := 3) (as := [.ref 1, .int 48, .int 10]) (rest := []) rfl rfl rfl (Nat.le_of_ble_eq_true rfl) H (fun x2 M1 H => ?_)
    show pu_R L (d + 2) 55 20 [.ref 49, .int v1, .int v2] [.int x2] M1 _
    refine pu_go 1 (pc' := 21) (ls' := [.ref 49, .int v1, .int v2]) (st' := [.int ((-1)), .int x2]) (M' := M1) rfl ?_
    refine pu_icmp_eq rfl (fun hc => ?_) (fun hc => ?_)
    · replace H := Eq.mp (if_pos hc) H
      exact H
    · replace H := Eq.mp (if_neg hc) H
      refine pu_go 7 (pc' := 36) (ls' := [.ref 49, .int v1, .int v2]) (st' := [.int 10, .int 48, .ref 1, .int (10 * v1)]) (M' := M1) rfl ?_
      refine pu_callI (m' := 86) (ml := 3) (as := [.ref 1, .int 48, .int 10]) (rest := [.int (10 * v1)]) rfl rfl rfl (Nat.le_of_ble_eq_true rfl) H (fun x4 M3 H => ?_)
      show pu_R L (d + 2) 55 39 [.ref 49, .int v1, .int v2] [.int x4, .int (10 * v1)] M3 _
      refine pu_go 4 (pc' := 45) (ls' := [.ref 49, .int ((10 * v1) + x4), .int v2]) (st' := [.ref 1]) (M' := M3) rfl ?_
      refine pu_callV (m' := 83) (ml := 2) (as := [.ref 1]) (rest := []) rfl rfl rfl (Nat.le_of_ble_eq_true rfl) H (fun M5 H => ?_)
      show pu_R L (d + 2) 55 48 [.ref 49, .int ((10 * v1) + x4), .int v2] [] M5 _
      refine pu_go 2 (pc' := 4) (ls' := [.ref 49, .int ((10 * v1) + x4), .int (v2 + 1)]) (st' := []) (M' := M5) rfl ?_
      exact H
set_option maxRecDepth 20000 in
theorem r_LawReader_readNumber {L d : Nat} {M : pu_M} {Q : pu_M → Prop}  (H : pu_R L (d + 2) 55 4 [.ref 49, .int 0, .int 0] [] M (pu_qV Q)) : pu_V L (d + 2) 55 [.ref 49] M Q := by
  show pu_R L (d + 2) 55 0 [.ref 49, mq_un, mq_un] [] M (pu_qV Q)
  refine pu_go 4 (pc' := 4) (ls' := [.ref 49, .int 0, .int 0]) (st' := []) (M' := M) rfl ?_
  exact H
/-! LawReader_readValue ()V -/
set_option maxRecDepth 20000 in
theorem r_LawReader_readValue {L d : Nat} {M : pu_M} {Q : pu_M → Prop}  (H : pu_I L (d + 1) 57 [.int (M 1 2)] M (fun x2 M1 => (if x2 = ((-1)) then pu_V L (d + 1) 88 [.ref 1, .int 1, .int (M1 1 3)] M1 (fun M8 => pu_V L (d + 1) 83 [.ref 1] M8 (fun M9 => (∃ y10, M9 49 1 = nI y10 ∧ pu_isL y10 ∧ pu_I L (d + 1) 36 [.ref y10, .int 1, .int x2] M9 (fun x13 M12 => Q M12)))) else pu_V L (d + 1) 83 [.ref 1] M1 (fun M3 => (∃ y4, M3 49 1 = nI y4 ∧ pu_isL y4 ∧ pu_I L (d + 1) 36 [.ref y4, .int 1, .int x2] M3 (fun x7 M6 => Q M6)))))) : pu_V L (d + 2) 56 [.ref 49] M Q := by
  show pu_R L (d + 2) 56 0 [.ref 49, mq_un] [] M (pu_qV Q)
  refine pu_go 3 (pc' := 7) (ls' := [.ref 49, mq_un]) (st' := [.int (M 1 2)]) (M' := M) rfl ?_
  refine pu_callI (m' := 57) (ml := 1) (as := [.int (M 1 2)]) (rest := []) rfl rfl rfl (Nat.le_of_ble_eq_true rfl) H (fun x2 M1 H => ?_)
  show pu_R L (d + 2) 56 10 [.ref 49, mq_un] [.int x2] M1 _
  refine pu_go 3 (pc' := 13) (ls' := [.ref 49, .int x2]) (st' := [.int ((-1)), .int x2]) (M' := M1) rfl ?_
  refine pu_icmp_ne rfl (fun hc => ?_) (fun hc => ?_)
  · replace H := Eq.mp (if_neg hc) H
    refine pu_go 2 (pc' := 35) (ls' := [.ref 49, .int x2]) (st' := [.ref 1]) (M' := M1) rfl ?_
    refine pu_callV (m' := 83) (ml := 2) (as := [.ref 1]) (rest := []) rfl rfl rfl (Nat.le_of_ble_eq_true rfl) H (fun M3 H => ?_)
    show pu_R L (d + 2) 56 38 [.ref 49, .int x2] [] M3 _
    refine pu_go 1 (pc' := 39) (ls' := [.ref 49, .int x2]) (st' := [.ref 49]) (M' := M3) rfl ?_
    obtain ⟨y4, e5, hy4, H⟩ := H
    refine pu_getf (j := 1) rfl rfl (by decide) rfl (by decide) rfl (pu_val_d e5 (Nat.lt_trans (pu_L_lt hy4) (by decide))) ?_
    refine pu_go 2 (pc' := 44) (ls' := [.ref 49, .int x2]) (st' := [.int x2, .int 1, .ref y4]) (M' := M3) rfl ?_
    refine pu_callI (m' := 36) (ml := 3) (as := [.ref y4, .int 1, .int x2]) (rest := []) rfl (pu_virt (pu_L_o hy4) (Nat.lt_trans (pu_L_lt hy4) (by decide)) ⟨Nat.le_of_ble_eq_true rfl, Nat.le_of_ble_eq_true rfl⟩ rfl rfl) rfl (Nat.le_of_ble_eq_true rfl) H (fun x7 M6 H => ?_)
    show pu_R L (d + 2) 56 47 [.ref 49, .int x2] [.int x7] M6 _
    refine pu_go 1 (pc' := 48) (ls' := [.ref 49, .int x2]) (st' := []) (M' := M6) rfl ?_
    exact pu_ret rfl rfl ⟨rfl, H⟩
  · replace H := Eq.mp (if_pos hc) H
    refine pu_go 6 (pc' := 28) (ls' := [.ref 49, .int x2]) (st' := [.int (M1 1 3), .int 1, .ref 1]) (M' := M1) rfl ?_
    refine pu_callV (m' := 88) (ml := 3) (as := [.ref 1, .int 1, .int (M1 1 3)]) (rest := []) rfl rfl rfl (Nat.le_of_ble_eq_true rfl) H (fun M8 H => ?_)
    show pu_R L (d + 2) 56 31 [.ref 49, .int x2] [] M8 _
    refine pu_go 2 (pc' := 35) (ls' := [.ref 49, .int x2]) (st' := [.ref 1]) (M' := M8) rfl ?_
    refine pu_callV (m' := 83) (ml := 2) (as := [.ref 1]) (rest := []) rfl rfl rfl (Nat.le_of_ble_eq_true rfl) H (fun M9 H => ?_)
    show pu_R L (d + 2) 56 38 [.ref 49, .int x2] [] M9 _
    refine pu_go 1 (pc' := 39) (ls' := [.ref 49, .int x2]) (st' := [.ref 49]) (M' := M9) rfl ?_
    obtain ⟨y10, e11, hy10, H⟩ := H
    refine pu_getf (j := 1) rfl rfl (by decide) rfl (by decide) rfl (pu_val_d e11 (Nat.lt_trans (pu_L_lt hy10) (by decide))) ?_
    refine pu_go 2 (pc' := 44) (ls' := [.ref 49, .int x2]) (st' := [.int x2, .int 1, .ref y10]) (M' := M9) rfl ?_
    refine pu_callI (m' := 36) (ml := 3) (as := [.ref y10, .int 1, .int x2]) (rest := []) rfl (pu_virt (pu_L_o hy10) (Nat.lt_trans (pu_L_lt hy10) (by decide)) ⟨Nat.le_of_ble_eq_true rfl, Nat.le_of_ble_eq_true rfl⟩ rfl rfl) rfl (Nat.le_of_ble_eq_true rfl) H (fun x13 M12 H => ?_)
    show pu_R L (d + 2) 56 47 [.ref 49, .int x2] [.int x13] M12 _
    refine pu_go 1 (pc' := 48) (ls' := [.ref 49, .int x2]) (st' := []) (M' := M12) rfl ?_
    exact pu_ret rfl rfl ⟨rfl, H⟩
/-! LawReader_valueOf (I)I -/
set_option maxRecDepth 20000 in
theorem r_LawReader_valueOf {L d : Nat} {M : pu_M} {Q : Int32 → pu_M → Prop} {v0 : Int32} (H : (if v0 = 107 then Q 1 M else (if v0 = 109 then Q 4 M else (if v0 = 110 then Q 6 M else (if v0 = 111 then Q 5 M else (if v0 = 112 then Q 0 M else (if v0 = 115 then Q 2 M else (if v0 = 116 then Q 7 M else (if v0 = 117 then Q 3 M else Q ((-1)) M))))))))) : pu_I L (d + 1) 57 [.int v0] M Q := by
  show pu_R L (d + 1) 57 0 [.int v0] [] M (pu_qI Q)
  refine pu_go 1 (pc' := 1) (ls' := [.int v0]) (st' := [.int v0]) (M' := M) rfl ?_
  skip
  by_cases hs1_0 : v0 = 107
  · replace H := Eq.mp (if_pos hs1_0) H
    refine pu_one (pc' := 62) (ls' := [.int v0]) (st' := []) (M' := M) rfl (by rw [hs1_0]; rfl) ?_
    refine pu_go 1 (pc' := 63) (ls' := [.int v0]) (st' := [.int 1]) (M' := M) rfl ?_
    exact pu_ret rfl rfl ⟨_, rfl, H⟩
  replace H := Eq.mp (if_neg hs1_0) H
  by_cases hs1_1 : v0 = 109
  · replace H := Eq.mp (if_pos hs1_1) H
    refine pu_one (pc' := 68) (ls' := [.int v0]) (st' := []) (M' := M) rfl (by rw [hs1_1]; rfl) ?_
    refine pu_go 1 (pc' := 69) (ls' := [.int v0]) (st' := [.int 4]) (M' := M) rfl ?_
    exact pu_ret rfl rfl ⟨_, rfl, H⟩
  replace H := Eq.mp (if_neg hs1_1) H
  by_cases hs1_2 : v0 = 110
  · replace H := Eq.mp (if_pos hs1_2) H
    refine pu_one (pc' := 72) (ls' := [.int v0]) (st' := []) (M' := M) rfl (by rw [hs1_2]; rfl) ?_
    refine pu_go 1 (pc' := 74) (ls' := [.int v0]) (st' := [.int 6]) (M' := M) rfl ?_
    exact pu_ret rfl rfl ⟨_, rfl, H⟩
  replace H := Eq.mp (if_neg hs1_2) H
  by_cases hs1_3 : v0 = 111
  · replace H := Eq.mp (if_pos hs1_3) H
    refine pu_one (pc' := 70) (ls' := [.int v0]) (st' := []) (M' := M) rfl (by rw [hs1_3]; rfl) ?_
    refine pu_go 1 (pc' := 71) (ls' := [.int v0]) (st' := [.int 5]) (M' := M) rfl ?_
    exact pu_ret rfl rfl ⟨_, rfl, H⟩
  replace H := Eq.mp (if_neg hs1_3) H
  by_cases hs1_4 : v0 = 112
  · replace H := Eq.mp (if_pos hs1_4) H
    refine pu_one (pc' := 60) (ls' := [.int v0]) (st' := []) (M' := M) rfl (by rw [hs1_4]; rfl) ?_
    refine pu_go 1 (pc' := 61) (ls' := [.int v0]) (st' := [.int 0]) (M' := M) rfl ?_
    exact pu_ret rfl rfl ⟨_, rfl, H⟩
  replace H := Eq.mp (if_neg hs1_4) H
  by_cases hs1_5 : v0 = 115
  · replace H := Eq.mp (if_pos hs1_5) H
    refine pu_one (pc' := 64) (ls' := [.int v0]) (st' := []) (M' := M) rfl (by rw [hs1_5]; rfl) ?_
    refine pu_go 1 (pc' := 65) (ls' := [.int v0]) (st' := [.int 2]) (M' := M) rfl ?_
    exact pu_ret rfl rfl ⟨_, rfl, H⟩
  replace H := Eq.mp (if_neg hs1_5) H
  by_cases hs1_6 : v0 = 116
  · replace H := Eq.mp (if_pos hs1_6) H
    refine pu_one (pc' := 75) (ls' := [.int v0]) (st' := []) (M' := M) rfl (by rw [hs1_6]; rfl) ?_
    refine pu_go 1 (pc' := 77) (ls' := [.int v0]) (st' := [.int 7]) (M' := M) rfl ?_
    exact pu_ret rfl rfl ⟨_, rfl, H⟩
  replace H := Eq.mp (if_neg hs1_6) H
  by_cases hs1_7 : v0 = 117
  · replace H := Eq.mp (if_pos hs1_7) H
    refine pu_one (pc' := 66) (ls' := [.int v0]) (st' := []) (M' := M) rfl (by rw [hs1_7]; rfl) ?_
    refine pu_go 1 (pc' := 67) (ls' := [.int v0]) (st' := [.int 3]) (M' := M) rfl ?_
    exact pu_ret rfl rfl ⟨_, rfl, H⟩
  replace H := Eq.mp (if_neg hs1_7) H
  refine pu_one (pc' := 78) (ls' := [.int v0]) (st' := []) (M' := M) rfl (congrArg (fun z => mq_nx z _ _ _) (pu_tabD [107, 109, 110, 111, 112, 115, 116, 117] (by simp only [List.forall_mem_cons, List.not_mem_nil, false_implies, implies_true, and_true]; exact ⟨hs1_0, hs1_1, hs1_2, hs1_3, hs1_4, hs1_5, hs1_6, hs1_7⟩) (by decide))) ?_
  refine pu_go 1 (pc' := 79) (ls' := [.int v0]) (st' := [.int ((-1))]) (M' := M) rfl ?_
  exact pu_ret rfl rfl ⟨_, rfl, H⟩
/-! Night_pass (LTalkingPlots$Yard;LTalkingPlots$Law;I)V -/
set_option maxRecDepth 20000 in
theorem r_Night_pass_32 {L d : Nat} {M : pu_M} {Q : pu_M → Prop} {v1 : Nat} (hv1 : pu_isY v1) {v2 : Nat} (hv2 : pu_isL v2) {v3 : Int32} {v4 : Int32} {v5 : Int32} (H : (if 16 ≤ v5 then pu_R L (d + 7) 59 13 [.ref 4, .ref v1, .ref v2, .int v3, .int (v4 + 1), .int v5] [] (pu_wr M v1 5 ((M v1 5) + 1)) (pu_qV Q) else pu_I L (d + 6) 102 [.ref v1, .int v5] M (fun x2 M1 => (if x2 = 0 then pu_R L (d + 7) 59 32 [.ref 4, .ref v1, .ref v2, .int v3, .int v4, .int (v5 + 1)] [] M1 (pu_qV Q) else (mq_inb v5 16 = true ∧ (if (M1 (v1 + 2) v5.toNatClampNeg) ≤ 0 then pu_R L (d + 7) 59 32 [.ref 4, .ref v1, .ref v2, .int v3, .int v4, .int (v5 + 1)] [] M1 (pu_qV Q) else pu_V L (d + 6) 60 [.ref 4, .ref v1, .ref v2, .int v5] M1 (fun M4 => pu_R L (d + 7) 59 32 [.ref 4, .ref v1, .ref v2, .int v3, .int v4, .int (v5 + 1)] [] M4 (pu_qV Q)))))))) : pu_R L (d + 7) 59 32 [.ref 4, .ref v1, .ref v2, .int v3, .int v4, .int v5] [] M (pu_qV Q) := by
  refine pu_go 2 (pc' := 36) (ls' := [.ref 4, .ref v1, .ref v2, .int v3, .int v4, .int v5]) (st' := [.int 16, .int v5]) (M' := M) rfl ?_
  refine pu_icmp_ge rfl (fun hc => ?_) (fun hc => ?_)
  · replace H := Eq.mp (if_pos hc) H
    refine pu_go 2 (pc' := 74) (ls' := [.ref 4, .ref v1, .ref v2, .int v3, .int v4, .int v5]) (st' := [.ref v1, .ref v1]) (M' := M) rfl ?_
    refine pu_getf (j := 5) (w := .int (M v1 5)) rfl (pu_Y_o hv1) (Nat.lt_trans (pu_Y_lt hv1) (by decide)) rfl (by decide) rfl rfl ?_
    refine pu_go 2 (pc' := 79) (ls' := [.ref 4, .ref v1, .ref v2, .int v3, .int v4, .int v5]) (st' := [.int ((M v1 5) + 1), .ref v1]) (M' := M) rfl ?_
    refine pu_putf (j := 5) (z := (M v1 5) + 1) rfl (pu_Y_o hv1) (Nat.lt_trans (pu_Y_lt hv1) (by decide)) rfl (by decide) rfl rfl pu_put_hw ?_
    refine pu_go 2 (pc' := 13) (ls' := [.ref 4, .ref v1, .ref v2, .int v3, .int (v4 + 1), .int v5]) (st' := []) (M' := pu_wr M v1 5 ((M v1 5) + 1)) rfl ?_
    exact H
  · replace H := Eq.mp (if_neg hc) H
    refine pu_go 2 (pc' := 42) (ls' := [.ref 4, .ref v1, .ref v2, .int v3, .int v4, .int v5]) (st' := [.int v5, .ref v1]) (M' := M) rfl ?_
    refine pu_callI (m' := 102) (ml := 2) (as := [.ref v1, .int v5]) (rest := []) rfl (pu_virt (pu_Y_o hv1) (Nat.lt_trans (pu_Y_lt hv1) (by decide)) ⟨Nat.le_of_ble_eq_true rfl, Nat.le_of_ble_eq_true rfl⟩ rfl rfl) rfl (Nat.le_of_ble_eq_true rfl) H (fun x2 M1 H => ?_)
    show pu_R L (d + 7) 59 45 [.ref 4, .ref v1, .ref v2, .int v3, .int v4, .int v5] [.int x2] M1 _
    refine pu_if_eq rfl (fun hc => ?_) (fun hc => ?_)
    · replace H := Eq.mp (if_pos hc) H
      refine pu_go 2 (pc' := 32) (ls' := [.ref 4, .ref v1, .ref v2, .int v3, .int v4, .int (v5 + 1)]) (st' := []) (M' := M1) rfl ?_
      exact H
    · replace H := Eq.mp (if_neg hc) H
      refine pu_go 1 (pc' := 49) (ls' := [.ref 4, .ref v1, .ref v2, .int v3, .int v4, .int v5]) (st' := [.ref v1]) (M' := M1) rfl ?_
      refine pu_getf (j := 1) (w := .ref (v1 + 2)) rfl (pu_Y_o hv1) (Nat.lt_trans (pu_Y_lt hv1) (by decide)) rfl (by decide) rfl rfl ?_
      refine pu_go 1 (pc' := 54) (ls' := [.ref 4, .ref v1, .ref v2, .int v3, .int v4, .int v5]) (st' := [.int v5, .ref (v1 + 2)]) (M' := M1) rfl ?_
      obtain ⟨hb3, H⟩ := H
      refine pu_iald rfl (pu_Y_2 hv1) (Or.inl (pu_Y_l2 hv1)) hb3 ?_
      refine pu_if_le rfl (fun hc => ?_) (fun hc => ?_)
      · replace H := Eq.mp (if_pos hc) H
        refine pu_go 2 (pc' := 32) (ls' := [.ref 4, .ref v1, .ref v2, .int v3, .int v4, .int (v5 + 1)]) (st' := []) (M' := M1) rfl ?_
        exact H
      · replace H := Eq.mp (if_neg hc) H
        refine pu_go 4 (pc' := 63) (ls' := [.ref 4, .ref v1, .ref v2, .int v3, .int v4, .int v5]) (st' := [.int v5, .ref v2, .ref v1, .ref 4]) (M' := M1) rfl ?_
        refine pu_callV (m' := 60) (ml := 9) (as := [.ref 4, .ref v1, .ref v2, .int v5]) (rest := []) rfl rfl rfl (Nat.le_of_ble_eq_true rfl) H (fun M4 H => ?_)
        show pu_R L (d + 7) 59 66 [.ref 4, .ref v1, .ref v2, .int v3, .int v4, .int v5] [] M4 _
        refine pu_go 2 (pc' := 32) (ls' := [.ref 4, .ref v1, .ref v2, .int v3, .int v4, .int (v5 + 1)]) (st' := []) (M' := M4) rfl ?_
        exact H
set_option maxRecDepth 20000 in
theorem r_Night_pass_13 {L d : Nat} {M : pu_M} {Q : pu_M → Prop} {v1 : Nat} (hv1 : pu_isY v1) {v2 : Nat} (hv2 : pu_isL v2) {v3 : Int32} {v4 : Int32} {v5 : Value} (H : (if v3 ≤ v4 then Q M else (if 9999 ≤ (M v1 5) then Q M else pu_R L (d + 7) 59 32 [.ref 4, .ref v1, .ref v2, .int v3, .int v4, .int 0] [] M (pu_qV Q)))) : pu_R L (d + 7) 59 13 [.ref 4, .ref v1, .ref v2, .int v3, .int v4, v5] [] M (pu_qV Q) := by
  refine pu_go 2 (pc' := 16) (ls' := [.ref 4, .ref v1, .ref v2, .int v3, .int v4, v5]) (st' := [.int v3, .int v4]) (M' := M) rfl ?_
  refine pu_icmp_ge rfl (fun hc => ?_) (fun hc => ?_)
  · replace H := Eq.mp (if_pos hc) H
    exact pu_ret rfl rfl ⟨rfl, H⟩
  · replace H := Eq.mp (if_neg hc) H
    refine pu_go 1 (pc' := 20) (ls' := [.ref 4, .ref v1, .ref v2, .int v3, .int v4, v5]) (st' := [.ref v1]) (M' := M) rfl ?_
    refine pu_getf (j := 5) (w := .int (M v1 5)) rfl (pu_Y_o hv1) (Nat.lt_trans (pu_Y_lt hv1) (by decide)) rfl (by decide) rfl rfl ?_
    refine pu_go 1 (pc' := 26) (ls' := [.ref 4, .ref v1, .ref v2, .int v3, .int v4, v5]) (st' := [.int 9999, .int (M v1 5)]) (M' := M) rfl ?_
    refine pu_icmp_ge rfl (fun hc => ?_) (fun hc => ?_)
    · replace H := Eq.mp (if_pos hc) H
      exact pu_ret rfl rfl ⟨rfl, H⟩
    · replace H := Eq.mp (if_neg hc) H
      refine pu_go 2 (pc' := 32) (ls' := [.ref 4, .ref v1, .ref v2, .int v3, .int v4, .int 0]) (st' := []) (M' := M) rfl ?_
      exact H
set_option maxRecDepth 20000 in
theorem r_Night_pass {L d : Nat} {M : pu_M} {Q : pu_M → Prop} {v1 : Nat} (hv1 : pu_isY v1) {v2 : Nat} (hv2 : pu_isL v2) {v3 : Int32} (H : pu_R L (d + 7) 59 13 [.ref 4, .ref v1, .ref v2, .int v3, .int 0, mq_un] [] (pu_wr (pu_wr M 4 0 0) 4 1 0) (pu_qV Q)) : pu_V L (d + 7) 59 [.ref 4, .ref v1, .ref v2, .int v3] M Q := by
  show pu_R L (d + 7) 59 0 [.ref 4, .ref v1, .ref v2, .int v3, mq_un, mq_un] [] M (pu_qV Q)
  refine pu_go 2 (pc' := 2) (ls' := [.ref 4, .ref v1, .ref v2, .int v3, mq_un, mq_un]) (st' := [.int 0, .ref 4]) (M' := M) rfl ?_
  refine pu_putf (j := 0) (z := 0) rfl rfl (by decide) rfl (by decide) rfl rfl pu_put_hw ?_
  refine pu_go 2 (pc' := 7) (ls' := [.ref 4, .ref v1, .ref v2, .int v3, mq_un, mq_un]) (st' := [.int 0, .ref 4]) (M' := pu_wr M 4 0 0) rfl ?_
  refine pu_putf (j := 1) (z := 0) rfl rfl (by decide) rfl (by decide) rfl rfl pu_put_hw ?_
  refine pu_go 2 (pc' := 13) (ls' := [.ref 4, .ref v1, .ref v2, .int v3, .int 0, mq_un]) (st' := []) (M' := pu_wr (pu_wr M 4 0 0) 4 1 0) rfl ?_
  exact H
/-! Night_wake (LTalkingPlots$Yard;LTalkingPlots$Law;I)V -/
set_option maxRecDepth 20000 in
theorem r_Night_wake_144 {L d : Nat} {M : pu_M} {Q : pu_M → Prop} {v1 : Nat} (hv1 : pu_isY v1) {v2 : Nat} (hv2 : pu_isL v2) {v3 : Int32} {v4 : Int32} {v5 : Int32} {v6 : Int32} {v7 : Int32} {v8 : Int32} (H : (mq_inb v3 16 = true ∧ pu_I L (d + 5) 155 [.int (((M (v1 + 2) v3.toNatClampNeg) + v7) - v8), .int 0, .int 99] M (fun x3 M2 => (mq_inb v3 16 = true ∧ Q (pu_wr M2 (v1 + 2) v3.toNatClampNeg x3))))) : pu_R L (d + 6) 60 144 [.ref 4, .ref v1, .ref v2, .int v3, .int v4, .int v5, .int v6, .int v7, .int v8] [] M (pu_qV Q) := by
  refine pu_go 1 (pc' := 145) (ls' := [.ref 4, .ref v1, .ref v2, .int v3, .int v4, .int v5, .int v6, .int v7, .int v8]) (st' := [.ref v1]) (M' := M) rfl ?_
  refine pu_getf (j := 1) (w := .ref (v1 + 2)) rfl (pu_Y_o hv1) (Nat.lt_trans (pu_Y_lt hv1) (by decide)) rfl (by decide) rfl rfl ?_
  refine pu_go 2 (pc' := 150) (ls' := [.ref 4, .ref v1, .ref v2, .int v3, .int v4, .int v5, .int v6, .int v7, .int v8]) (st' := [.ref v1, .int v3, .ref (v1 + 2)]) (M' := M) rfl ?_
  refine pu_getf (j := 1) (w := .ref (v1 + 2)) rfl (pu_Y_o hv1) (Nat.lt_trans (pu_Y_lt hv1) (by decide)) rfl (by decide) rfl rfl ?_
  refine pu_go 1 (pc' := 154) (ls' := [.ref 4, .ref v1, .ref v2, .int v3, .int v4, .int v5, .int v6, .int v7, .int v8]) (st' := [.int v3, .ref (v1 + 2), .int v3, .ref (v1 + 2)]) (M' := M) rfl ?_
  obtain ⟨hb1, H⟩ := H
  refine pu_iald rfl (pu_Y_2 hv1) (Or.inl (pu_Y_l2 hv1)) hb1 ?_
  refine pu_go 6 (pc' := 164) (ls' := [.ref 4, .ref v1, .ref v2, .int v3, .int v4, .int v5, .int v6, .int v7, .int v8]) (st' := [.int 99, .int 0, .int (((M (v1 + 2) v3.toNatClampNeg) + v7) - v8), .int v3, .ref (v1 + 2)]) (M' := M) rfl ?_
  refine pu_callI (m' := 155) (ml := 3) (as := [.int (((M (v1 + 2) v3.toNatClampNeg) + v7) - v8), .int 0, .int 99]) (rest := [.int v3, .ref (v1 + 2)]) rfl rfl rfl (Nat.le_of_ble_eq_true rfl) H (fun x3 M2 H => ?_)
  show pu_R L (d + 6) 60 167 [.ref 4, .ref v1, .ref v2, .int v3, .int v4, .int v5, .int v6, .int v7, .int v8] [.int x3, .int v3, .ref (v1 + 2)] M2 _
  obtain ⟨hb4, H⟩ := H
  refine pu_iast rfl (pu_Y_2 hv1) (pu_Y_l2 hv1) hb4 ?_
  exact pu_ret rfl rfl ⟨rfl, H⟩
set_option maxRecDepth 20000 in
theorem r_Night_wake {L d : Nat} {M : pu_M} {Q : pu_M → Prop} {v1 : Nat} (hv1 : pu_isY v1) {v2 : Nat} (hv2 : pu_isL v2) {v3 : Int32} (H : pu_I L (d + 5) 114 [.ref v1, .int v3] M (fun x2 M1 => (mq_inb v3 16 = true ∧ pu_I L (d + 5) 260 [.int x2] (pu_wr M1 (v2 + 7) (4 : Int32).toNatClampNeg (M1 (v1 + 2) v3.toNatClampNeg)) (fun x5 M4 => pu_V L (d + 5) 62 [.ref 4, .ref v1, .ref v2, .int v3, .int ((-1))] (pu_wr (pu_wr M4 (v2 + 7) (6 : Int32).toNatClampNeg x5) (v2 + 7) (7 : Int32).toNatClampNeg (((pu_wr M4 (v2 + 7) (6 : Int32).toNatClampNeg x5) v1 5) % 100)) (fun M6 => pu_I L (d + 5) 40 [.ref v2] M6 (fun x8 M7 => (if x8 = 0 then pu_I L (d + 5) 61 [.ref 4, .ref v1, .ref v2, .int v3, .int x2] M7 (fun x10 M9 => pu_V L (d + 5) 62 [.ref 4, .ref v1, .ref v2, .int v3, .int x10] M9 (fun M11 => pu_I L (d + 5) 39 [.ref v2, .int 104, .int 10] M11 (fun x13 M12 => pu_I L (d + 5) 39 [.ref v2, .int 103, .int 99] M12 (fun x15 M14 => pu_I L (d + 5) 39 [.ref v2, .int 98, .int 99] M14 (fun x17 M16 => (if x10 = ((-1)) then pu_R L (d + 6) 60 144 [.ref 4, .ref v1, .ref v2, .int v3, .int x2, .int x10, .int x13, .int x15, .int x17] [] M16 (pu_qV Q) else pu_I L (d + 5) 120 [.ref v1] (pu_wr M16 4 0 ((M16 4 0) + 1)) (fun x19 M18 => (if x13 ≤ x19 then pu_R L (d + 6) 60 144 [.ref 4, .ref v1, .ref v2, .int v3, .int x2, .int x10, .int x13, .int x15, .int x17] [] M18 (pu_qV Q) else pu_V L (d + 5) 63 [.ref 4, .ref v1, .int v3, .int x10] M18 (fun M20 => pu_R L (d + 6) 60 144 [.ref 4, .ref v1, .ref v2, .int v3, .int x2, .int x10, .int x13, .int x15, .int x17] [] M20 (pu_qV Q)))))))))) else Q M7))))))) : pu_V L (d + 6) 60 [.ref 4, .ref v1, .ref v2, .int v3] M Q := by
  show pu_R L (d + 6) 60 0 [.ref 4, .ref v1, .ref v2, .int v3, mq_un, mq_un, mq_un, mq_un, mq_un] [] M (pu_qV Q)
  refine pu_go 2 (pc' := 2) (ls' := [.ref 4, .ref v1, .ref v2, .int v3, mq_un, mq_un, mq_un, mq_un, mq_un]) (st' := [.int v3, .ref v1]) (M' := M) rfl ?_
  refine pu_callI (m' := 114) (ml := 2) (as := [.ref v1, .int v3]) (rest := []) rfl (pu_virt (pu_Y_o hv1) (Nat.lt_trans (pu_Y_lt hv1) (by decide)) ⟨Nat.le_of_ble_eq_true rfl, Nat.le_of_ble_eq_true rfl⟩ rfl rfl) rfl (Nat.le_of_ble_eq_true rfl) H (fun x2 M1 H => ?_)
  show pu_R L (d + 6) 60 5 [.ref 4, .ref v1, .ref v2, .int v3, mq_un, mq_un, mq_un, mq_un, mq_un] [.int x2] M1 _
  refine pu_go 2 (pc' := 8) (ls' := [.ref 4, .ref v1, .ref v2, .int v3, .int x2, mq_un, mq_un, mq_un, mq_un]) (st' := [.ref v2]) (M' := M1) rfl ?_
  refine pu_getf (j := 8) (w := .ref (v2 + 7)) rfl (pu_L_o hv2) (Nat.lt_trans (pu_L_lt hv2) (by decide)) rfl (by decide) rfl rfl ?_
  refine pu_go 2 (pc' := 13) (ls' := [.ref 4, .ref v1, .ref v2, .int v3, .int x2, mq_un, mq_un, mq_un, mq_un]) (st' := [.ref v1, .int 4, .ref (v2 + 7)]) (M' := M1) rfl ?_
  refine pu_getf (j := 1) (w := .ref (v1 + 2)) rfl (pu_Y_o hv1) (Nat.lt_trans (pu_Y_lt hv1) (by decide)) rfl (by decide) rfl rfl ?_
  refine pu_go 1 (pc' := 17) (ls' := [.ref 4, .ref v1, .ref v2, .int v3, .int x2, mq_un, mq_un, mq_un, mq_un]) (st' := [.int v3, .ref (v1 + 2), .int 4, .ref (v2 + 7)]) (M' := M1) rfl ?_
  obtain ⟨hb3, H⟩ := H
  refine pu_iald rfl (pu_Y_2 hv1) (Or.inl (pu_Y_l2 hv1)) hb3 ?_
  refine pu_iast rfl (pu_L_7 hv2) (pu_L_l7 hv2) rfl ?_
  refine pu_go 1 (pc' := 20) (ls' := [.ref 4, .ref v1, .ref v2, .int v3, .int x2, mq_un, mq_un, mq_un, mq_un]) (st' := [.ref v2]) (M' := pu_wr M1 (v2 + 7) (4 : Int32).toNatClampNeg (M1 (v1 + 2) v3.toNatClampNeg)) rfl ?_
  refine pu_getf (j := 8) (w := .ref (v2 + 7)) rfl (pu_L_o hv2) (Nat.lt_trans (pu_L_lt hv2) (by decide)) rfl (by decide) rfl rfl ?_
  refine pu_go 2 (pc' := 27) (ls' := [.ref 4, .ref v1, .ref v2, .int v3, .int x2, mq_un, mq_un, mq_un, mq_un]) (st' := [.int x2, .int 6, .ref (v2 + 7)]) (M' := pu_wr M1 (v2 + 7) (4 : Int32).toNatClampNeg (M1 (v1 + 2) v3.toNatClampNeg)) rfl ?_
  refine pu_callI (m' := 260) (ml := 1) (as := [.int x2]) (rest := [.int 6, .ref (v2 + 7)]) rfl rfl rfl (Nat.le_of_ble_eq_true rfl) H (fun x5 M4 H => ?_)
  show pu_R L (d + 6) 60 30 [.ref 4, .ref v1, .ref v2, .int v3, .int x2, mq_un, mq_un, mq_un, mq_un] [.int x5, .int 6, .ref (v2 + 7)] M4 _
  refine pu_iast rfl (pu_L_7 hv2) (pu_L_l7 hv2) rfl ?_
  refine pu_go 1 (pc' := 32) (ls' := [.ref 4, .ref v1, .ref v2, .int v3, .int x2, mq_un, mq_un, mq_un, mq_un]) (st' := [.ref v2]) (M' := pu_wr M4 (v2 + 7) (6 : Int32).toNatClampNeg x5) rfl ?_
  refine pu_getf (j := 8) (w := .ref (v2 + 7)) rfl (pu_L_o hv2) (Nat.lt_trans (pu_L_lt hv2) (by decide)) rfl (by decide) rfl rfl ?_
  refine pu_go 2 (pc' := 38) (ls' := [.ref 4, .ref v1, .ref v2, .int v3, .int x2, mq_un, mq_un, mq_un, mq_un]) (st' := [.ref v1, .int 7, .ref (v2 + 7)]) (M' := pu_wr M4 (v2 + 7) (6 : Int32).toNatClampNeg x5) rfl ?_
  refine pu_getf (j := 5) (w := .int ((pu_wr M4 (v2 + 7) (6 : Int32).toNatClampNeg x5) v1 5)) rfl (pu_Y_o hv1) (Nat.lt_trans (pu_Y_lt hv1) (by decide)) rfl (by decide) rfl rfl ?_
  refine pu_go 1 (pc' := 43) (ls' := [.ref 4, .ref v1, .ref v2, .int v3, .int x2, mq_un, mq_un, mq_un, mq_un]) (st' := [.int 100, .int ((pu_wr M4 (v2 + 7) (6 : Int32).toNatClampNeg x5) v1 5), .int 7, .ref (v2 + 7)]) (M' := pu_wr M4 (v2 + 7) (6 : Int32).toNatClampNeg x5) rfl ?_
  refine pu_rem rfl (by decide) ?_
  refine pu_iast rfl (pu_L_7 hv2) (pu_L_l7 hv2) rfl ?_
  refine pu_go 5 (pc' := 50) (ls' := [.ref 4, .ref v1, .ref v2, .int v3, .int x2, mq_un, mq_un, mq_un, mq_un]) (st' := [.int ((-1)), .int v3, .ref v2, .ref v1, .ref 4]) (M' := pu_wr (pu_wr M4 (v2 + 7) (6 : Int32).toNatClampNeg x5) (v2 + 7) (7 : Int32).toNatClampNeg (((pu_wr M4 (v2 + 7) (6 : Int32).toNatClampNeg x5) v1 5) % 100)) rfl ?_
  refine pu_callV (m' := 62) (ml := 8) (as := [.ref 4, .ref v1, .ref v2, .int v3, .int ((-1))]) (rest := []) rfl rfl rfl (Nat.le_of_ble_eq_true rfl) H (fun M6 H => ?_)
  show pu_R L (d + 6) 60 53 [.ref 4, .ref v1, .ref v2, .int v3, .int x2, mq_un, mq_un, mq_un, mq_un] [] M6 _
  refine pu_go 1 (pc' := 54) (ls' := [.ref 4, .ref v1, .ref v2, .int v3, .int x2, mq_un, mq_un, mq_un, mq_un]) (st' := [.ref v2]) (M' := M6) rfl ?_
  refine pu_callI (m' := 40) (ml := 2) (as := [.ref v2]) (rest := []) rfl (pu_virt (pu_L_o hv2) (Nat.lt_trans (pu_L_lt hv2) (by decide)) ⟨Nat.le_of_ble_eq_true rfl, Nat.le_of_ble_eq_true rfl⟩ rfl rfl) rfl (Nat.le_of_ble_eq_true rfl) H (fun x8 M7 H => ?_)
  show pu_R L (d + 6) 60 57 [.ref 4, .ref v1, .ref v2, .int v3, .int x2, mq_un, mq_un, mq_un, mq_un] [.int x8] M7 _
  refine pu_if_eq rfl (fun hc => ?_) (fun hc => ?_)
  · replace H := Eq.mp (if_pos hc) H
    refine pu_go 5 (pc' := 67) (ls' := [.ref 4, .ref v1, .ref v2, .int v3, .int x2, mq_un, mq_un, mq_un, mq_un]) (st' := [.int x2, .int v3, .ref v2, .ref v1, .ref 4]) (M' := M7) rfl ?_
    refine pu_callI (m' := 61) (ml := 9) (as := [.ref 4, .ref v1, .ref v2, .int v3, .int x2]) (rest := []) rfl rfl rfl (Nat.le_of_ble_eq_true rfl) H (fun x10 M9 H => ?_)
    show pu_R L (d + 6) 60 70 [.ref 4, .ref v1, .ref v2, .int v3, .int x2, mq_un, mq_un, mq_un, mq_un] [.int x10] M9 _
    refine pu_go 6 (pc' := 78) (ls' := [.ref 4, .ref v1, .ref v2, .int v3, .int x2, .int x10, mq_un, mq_un, mq_un]) (st' := [.int x10, .int v3, .ref v2, .ref v1, .ref 4]) (M' := M9) rfl ?_
    refine pu_callV (m' := 62) (ml := 8) (as := [.ref 4, .ref v1, .ref v2, .int v3, .int x10]) (rest := []) rfl rfl rfl (Nat.le_of_ble_eq_true rfl) H (fun M11 H => ?_)
    show pu_R L (d + 6) 60 81 [.ref 4, .ref v1, .ref v2, .int v3, .int x2, .int x10, mq_un, mq_un, mq_un] [] M11 _
    refine pu_go 3 (pc' := 86) (ls' := [.ref 4, .ref v1, .ref v2, .int v3, .int x2, .int x10, mq_un, mq_un, mq_un]) (st' := [.int 10, .int 104, .ref v2]) (M' := M11) rfl ?_
    refine pu_callI (m' := 39) (ml := 5) (as := [.ref v2, .int 104, .int 10]) (rest := []) rfl (pu_virt (pu_L_o hv2) (Nat.lt_trans (pu_L_lt hv2) (by decide)) ⟨Nat.le_of_ble_eq_true rfl, Nat.le_of_ble_eq_true rfl⟩ rfl rfl) rfl (Nat.le_of_ble_eq_true rfl) H (fun x13 M12 H => ?_)
    show pu_R L (d + 6) 60 89 [.ref 4, .ref v1, .ref v2, .int v3, .int x2, .int x10, mq_un, mq_un, mq_un] [.int x13] M12 _
    refine pu_go 4 (pc' := 96) (ls' := [.ref 4, .ref v1, .ref v2, .int v3, .int x2, .int x10, .int x13, mq_un, mq_un]) (st' := [.int 99, .int 103, .ref v2]) (M' := M12) rfl ?_
    refine pu_callI (m' := 39) (ml := 5) (as := [.ref v2, .int 103, .int 99]) (rest := []) rfl (pu_virt (pu_L_o hv2) (Nat.lt_trans (pu_L_lt hv2) (by decide)) ⟨Nat.le_of_ble_eq_true rfl, Nat.le_of_ble_eq_true rfl⟩ rfl rfl) rfl (Nat.le_of_ble_eq_true rfl) H (fun x15 M14 H => ?_)
    show pu_R L (d + 6) 60 99 [.ref 4, .ref v1, .ref v2, .int v3, .int x2, .int x10, .int x13, mq_un, mq_un] [.int x15] M14 _
    refine pu_go 4 (pc' := 106) (ls' := [.ref 4, .ref v1, .ref v2, .int v3, .int x2, .int x10, .int x13, .int x15, mq_un]) (st' := [.int 99, .int 98, .ref v2]) (M' := M14) rfl ?_
    refine pu_callI (m' := 39) (ml := 5) (as := [.ref v2, .int 98, .int 99]) (rest := []) rfl (pu_virt (pu_L_o hv2) (Nat.lt_trans (pu_L_lt hv2) (by decide)) ⟨Nat.le_of_ble_eq_true rfl, Nat.le_of_ble_eq_true rfl⟩ rfl rfl) rfl (Nat.le_of_ble_eq_true rfl) H (fun x17 M16 H => ?_)
    show pu_R L (d + 6) 60 109 [.ref 4, .ref v1, .ref v2, .int v3, .int x2, .int x10, .int x13, .int x15, mq_un] [.int x17] M16 _
    refine pu_go 3 (pc' := 114) (ls' := [.ref 4, .ref v1, .ref v2, .int v3, .int x2, .int x10, .int x13, .int x15, .int x17]) (st' := [.int ((-1)), .int x10]) (M' := M16) rfl ?_
    refine pu_icmp_eq rfl (fun hc => ?_) (fun hc => ?_)
    · replace H := Eq.mp (if_pos hc) H
      exact H
    · replace H := Eq.mp (if_neg hc) H
      refine pu_go 5 (pc' := 124) (ls' := [.ref 4, .ref v1, .ref v2, .int v3, .int x2, .int x10, .int x13, .int x15, .int x17]) (st' := [.int ((M16 4 0) + 1), .ref 4]) (M' := M16) rfl ?_
      refine pu_putf (j := 0) (z := (M16 4 0) + 1) rfl rfl (by decide) rfl (by decide) rfl rfl pu_put_hw ?_
      refine pu_go 1 (pc' := 128) (ls' := [.ref 4, .ref v1, .ref v2, .int v3, .int x2, .int x10, .int x13, .int x15, .int x17]) (st' := [.ref v1]) (M' := pu_wr M16 4 0 ((M16 4 0) + 1)) rfl ?_
      refine pu_callI (m' := 120) (ml := 1) (as := [.ref v1]) (rest := []) rfl (pu_virt (pu_Y_o hv1) (Nat.lt_trans (pu_Y_lt hv1) (by decide)) ⟨Nat.le_of_ble_eq_true rfl, Nat.le_of_ble_eq_true rfl⟩ rfl rfl) rfl (Nat.le_of_ble_eq_true rfl) H (fun x19 M18 H => ?_)
      show pu_R L (d + 6) 60 131 [.ref 4, .ref v1, .ref v2, .int v3, .int x2, .int x10, .int x13, .int x15, .int x17] [.int x19] M18 _
      refine pu_go 1 (pc' := 133) (ls' := [.ref 4, .ref v1, .ref v2, .int v3, .int x2, .int x10, .int x13, .int x15, .int x17]) (st' := [.int x13, .int x19]) (M' := M18) rfl ?_
      refine pu_icmp_ge rfl (fun hc => ?_) (fun hc => ?_)
      · replace H := Eq.mp (if_pos hc) H
        exact H
      · replace H := Eq.mp (if_neg hc) H
        refine pu_go 4 (pc' := 141) (ls' := [.ref 4, .ref v1, .ref v2, .int v3, .int x2, .int x10, .int x13, .int x15, .int x17]) (st' := [.int x10, .int v3, .ref v1, .ref 4]) (M' := M18) rfl ?_
        refine pu_callV (m' := 63) (ml := 5) (as := [.ref 4, .ref v1, .int v3, .int x10]) (rest := []) rfl rfl rfl (Nat.le_of_ble_eq_true rfl) H (fun M20 H => ?_)
        show pu_R L (d + 6) 60 144 [.ref 4, .ref v1, .ref v2, .int v3, .int x2, .int x10, .int x13, .int x15, .int x17] [] M20 _
        exact H
  · replace H := Eq.mp (if_neg hc) H
    exact pu_ret rfl rfl ⟨rfl, H⟩
/-! Night_favourite (LTalkingPlots$Yard;LTalkingPlots$Law;II)I -/
set_option maxRecDepth 20000 in
theorem r_Night_favourite_9 {L d : Nat} {M : pu_M} {Q : Int32 → pu_M → Prop} {v1 : Nat} (hv1 : pu_isY v1) {v2 : Nat} (hv2 : pu_isL v2) {v3 : Int32} {v4 : Int32} {v5 : Int32} {v6 : Int32} {v7 : Int32} {v8 : Value} (H : (if 16 ≤ v7 then Q v5 M else (if ((v4 >>> (v7 &&& 31)) &&& 1) = 1 then (mq_inb v7 16 = true ∧ (if (M (v1 + 2) v7.toNatClampNeg) ≤ 0 then pu_R L (d + 5) 61 9 [.ref 4, .ref v1, .ref v2, .int v3, .int v4, .int v5, .int v6, .int (v7 + 1), v8] [] M (pu_qI Q) else pu_V L (d + 4) 62 [.ref 4, .ref v1, .ref v2, .int v3, .int v7] M (fun M2 => pu_I L (d + 4) 39 [.ref v2, .int 101, .int 9999] M2 (fun x4 M3 => (if x4 ≤ v6 then pu_R L (d + 5) 61 9 [.ref 4, .ref v1, .ref v2, .int v3, .int v4, .int v5, .int v6, .int (v7 + 1), .int x4] [] M3 (pu_qI Q) else pu_R L (d + 5) 61 9 [.ref 4, .ref v1, .ref v2, .int v3, .int v4, .int v7, .int x4, .int (v7 + 1), .int x4] [] M3 (pu_qI Q)))))) else pu_R L (d + 5) 61 9 [.ref 4, .ref v1, .ref v2, .int v3, .int v4, .int v5, .int v6, .int (v7 + 1), v8] [] M (pu_qI Q)))) : pu_R L (d + 5) 61 9 [.ref 4, .ref v1, .ref v2, .int v3, .int v4, .int v5, .int v6, .int v7, v8] [] M (pu_qI Q) := by
  refine pu_go 2 (pc' := 13) (ls' := [.ref 4, .ref v1, .ref v2, .int v3, .int v4, .int v5, .int v6, .int v7, v8]) (st' := [.int 16, .int v7]) (M' := M) rfl ?_
  refine pu_icmp_ge rfl (fun hc => ?_) (fun hc => ?_)
  · replace H := Eq.mp (if_pos hc) H
    refine pu_go 1 (pc' := 80) (ls' := [.ref 4, .ref v1, .ref v2, .int v3, .int v4, .int v5, .int v6, .int v7, v8]) (st' := [.int v5]) (M' := M) rfl ?_
    exact pu_ret rfl rfl ⟨_, rfl, H⟩
  · replace H := Eq.mp (if_neg hc) H
    refine pu_go 6 (pc' := 24) (ls' := [.ref 4, .ref v1, .ref v2, .int v3, .int v4, .int v5, .int v6, .int v7, v8]) (st' := [.int 1, .int ((v4 >>> (v7 &&& 31)) &&& 1)]) (M' := M) rfl ?_
    refine pu_icmp_ne rfl (fun hc => ?_) (fun hc => ?_)
    · replace H := Eq.mp (if_neg hc) H
      refine pu_go 2 (pc' := 9) (ls' := [.ref 4, .ref v1, .ref v2, .int v3, .int v4, .int v5, .int v6, .int (v7 + 1), v8]) (st' := []) (M' := M) rfl ?_
      exact H
    · replace H := Eq.mp (if_pos hc) H
      refine pu_go 1 (pc' := 28) (ls' := [.ref 4, .ref v1, .ref v2, .int v3, .int v4, .int v5, .int v6, .int v7, v8]) (st' := [.ref v1]) (M' := M) rfl ?_
      refine pu_getf (j := 1) (w := .ref (v1 + 2)) rfl (pu_Y_o hv1) (Nat.lt_trans (pu_Y_lt hv1) (by decide)) rfl (by decide) rfl rfl ?_
      refine pu_go 1 (pc' := 33) (ls' := [.ref 4, .ref v1, .ref v2, .int v3, .int v4, .int v5, .int v6, .int v7, v8]) (st' := [.int v7, .ref (v1 + 2)]) (M' := M) rfl ?_
      obtain ⟨hb1, H⟩ := H
      refine pu_iald rfl (pu_Y_2 hv1) (Or.inl (pu_Y_l2 hv1)) hb1 ?_
      refine pu_if_le rfl (fun hc => ?_) (fun hc => ?_)
      · replace H := Eq.mp (if_pos hc) H
        refine pu_go 2 (pc' := 9) (ls' := [.ref 4, .ref v1, .ref v2, .int v3, .int v4, .int v5, .int v6, .int (v7 + 1), v8]) (st' := []) (M' := M) rfl ?_
        exact H
      · replace H := Eq.mp (if_neg hc) H
        refine pu_go 5 (pc' := 43) (ls' := [.ref 4, .ref v1, .ref v2, .int v3, .int v4, .int v5, .int v6, .int v7, v8]) (st' := [.int v7, .int v3, .ref v2, .ref v1, .ref 4]) (M' := M) rfl ?_
        refine pu_callV (m' := 62) (ml := 8) (as := [.ref 4, .ref v1, .ref v2, .int v3, .int v7]) (rest := []) rfl rfl rfl (Nat.le_of_ble_eq_true rfl) H (fun M2 H => ?_)
        show pu_R L (d + 5) 61 46 [.ref 4, .ref v1, .ref v2, .int v3, .int v4, .int v5, .int v6, .int v7, v8] [] M2 _
        refine pu_go 3 (pc' := 52) (ls' := [.ref 4, .ref v1, .ref v2, .int v3, .int v4, .int v5, .int v6, .int v7, v8]) (st' := [.int 9999, .int 101, .ref v2]) (M' := M2) rfl ?_
        refine pu_callI (m' := 39) (ml := 5) (as := [.ref v2, .int 101, .int 9999]) (rest := []) rfl (pu_virt (pu_L_o hv2) (Nat.lt_trans (pu_L_lt hv2) (by decide)) ⟨Nat.le_of_ble_eq_true rfl, Nat.le_of_ble_eq_true rfl⟩ rfl rfl) rfl (Nat.le_of_ble_eq_true rfl) H (fun x4 M3 H => ?_)
        show pu_R L (d + 5) 61 55 [.ref 4, .ref v1, .ref v2, .int v3, .int v4, .int v5, .int v6, .int v7, v8] [.int x4] M3 _
        refine pu_go 3 (pc' := 61) (ls' := [.ref 4, .ref v1, .ref v2, .int v3, .int v4, .int v5, .int v6, .int v7, .int x4]) (st' := [.int v6, .int x4]) (M' := M3) rfl ?_
        refine pu_icmp_le rfl (fun hc => ?_) (fun hc => ?_)
        · replace H := Eq.mp (if_pos hc) H
          refine pu_go 2 (pc' := 9) (ls' := [.ref 4, .ref v1, .ref v2, .int v3, .int v4, .int v5, .int v6, .int (v7 + 1), .int x4]) (st' := []) (M' := M3) rfl ?_
          exact H
        · replace H := Eq.mp (if_neg hc) H
          refine pu_go 6 (pc' := 9) (ls' := [.ref 4, .ref v1, .ref v2, .int v3, .int v4, .int v7, .int x4, .int (v7 + 1), .int x4]) (st' := []) (M' := M3) rfl ?_
          exact H
set_option maxRecDepth 20000 in
theorem r_Night_favourite {L d : Nat} {M : pu_M} {Q : Int32 → pu_M → Prop} {v1 : Nat} (hv1 : pu_isY v1) {v2 : Nat} (hv2 : pu_isL v2) {v3 : Int32} {v4 : Int32} (H : pu_R L (d + 5) 61 9 [.ref 4, .ref v1, .ref v2, .int v3, .int v4, .int ((-1)), .int 0, .int 0, mq_un] [] M (pu_qI Q)) : pu_I L (d + 5) 61 [.ref 4, .ref v1, .ref v2, .int v3, .int v4] M Q := by
  show pu_R L (d + 5) 61 0 [.ref 4, .ref v1, .ref v2, .int v3, .int v4, mq_un, mq_un, mq_un, mq_un] [] M (pu_qI Q)
  refine pu_go 6 (pc' := 9) (ls' := [.ref 4, .ref v1, .ref v2, .int v3, .int v4, .int ((-1)), .int 0, .int 0, mq_un]) (st' := []) (M' := M) rfl ?_
  exact H
/-! Night_tellLaw (LTalkingPlots$Yard;LTalkingPlots$Law;II)V -/
set_option maxRecDepth 20000 in
theorem r_Night_tellLaw_68 {L d : Nat} {M : pu_M} {Q : pu_M → Prop} {v1 : Nat} (hv1 : pu_isY v1) {v2 : Nat} (hv2 : pu_isL v2) {v3 : Int32} {v4 : Int32} {v5 : Int32} {v6 : Int32} {v7 : Int32} {s1 : Int32} {s2 : Int32} (H : (mq_inb s1 8 = true ∧ pu_I L (d + 1) 260 [.int (v6 &&& v7)] (pu_wr M (v2 + 7) s1.toNatClampNeg s2) (fun x3 M2 => pu_I L (d + 1) 260 [.int (v7 &&& (v6 ^^^ ((-1))))] (pu_wr M2 (v2 + 7) (2 : Int32).toNatClampNeg x3) (fun x5 M4 => (if v5 = 0 then (mq_inb v4 16 = true ∧ (∀ M7 : pu_M, M7 = pu_wr (pu_wr M4 (v2 + 7) (3 : Int32).toNatClampNeg x5) (v2 + 7) (5 : Int32).toNatClampNeg ((pu_wr M4 (v2 + 7) (3 : Int32).toNatClampNeg x5) (v1 + 2) v4.toNatClampNeg) → Q M7)) else Q (pu_wr (pu_wr M4 (v2 + 7) (3 : Int32).toNatClampNeg x5) (v2 + 7) (5 : Int32).toNatClampNeg 0)))))) : pu_R L (d + 2) 62 68 [.ref 4, .ref v1, .ref v2, .int v3, .int v4, .int v5, .int v6, .int v7] [.int s2, .int s1, .ref (v2 + 7)] M (pu_qV Q) := by
  obtain ⟨hb1, H⟩ := H
  refine pu_iast rfl (pu_L_7 hv2) (pu_L_l7 hv2) hb1 ?_
  refine pu_go 1 (pc' := 70) (ls' := [.ref 4, .ref v1, .ref v2, .int v3, .int v4, .int v5, .int v6, .int v7]) (st' := [.ref v2]) (M' := pu_wr M (v2 + 7) s1.toNatClampNeg s2) rfl ?_
  refine pu_getf (j := 8) (w := .ref (v2 + 7)) rfl (pu_L_o hv2) (Nat.lt_trans (pu_L_lt hv2) (by decide)) rfl (by decide) rfl rfl ?_
  refine pu_go 4 (pc' := 79) (ls' := [.ref 4, .ref v1, .ref v2, .int v3, .int v4, .int v5, .int v6, .int v7]) (st' := [.int (v6 &&& v7), .int 2, .ref (v2 + 7)]) (M' := pu_wr M (v2 + 7) s1.toNatClampNeg s2) rfl ?_
  refine pu_callI (m' := 260) (ml := 1) (as := [.int (v6 &&& v7)]) (rest := [.int 2, .ref (v2 + 7)]) rfl rfl rfl (Nat.le_of_ble_eq_true rfl) H (fun x3 M2 H => ?_)
  show pu_R L (d + 2) 62 82 [.ref 4, .ref v1, .ref v2, .int v3, .int v4, .int v5, .int v6, .int v7] [.int x3, .int 2, .ref (v2 + 7)] M2 _
  refine pu_iast rfl (pu_L_7 hv2) (pu_L_l7 hv2) rfl ?_
  refine pu_go 1 (pc' := 84) (ls' := [.ref 4, .ref v1, .ref v2, .int v3, .int v4, .int v5, .int v6, .int v7]) (st' := [.ref v2]) (M' := pu_wr M2 (v2 + 7) (2 : Int32).toNatClampNeg x3) rfl ?_
  refine pu_getf (j := 8) (w := .ref (v2 + 7)) rfl (pu_L_o hv2) (Nat.lt_trans (pu_L_lt hv2) (by decide)) rfl (by decide) rfl rfl ?_
  refine pu_go 6 (pc' := 95) (ls' := [.ref 4, .ref v1, .ref v2, .int v3, .int v4, .int v5, .int v6, .int v7]) (st' := [.int (v7 &&& (v6 ^^^ ((-1)))), .int 3, .ref (v2 + 7)]) (M' := pu_wr M2 (v2 + 7) (2 : Int32).toNatClampNeg x3) rfl ?_
  refine pu_callI (m' := 260) (ml := 1) (as := [.int (v7 &&& (v6 ^^^ ((-1))))]) (rest := [.int 3, .ref (v2 + 7)]) rfl rfl rfl (Nat.le_of_ble_eq_true rfl) H (fun x5 M4 H => ?_)
  show pu_R L (d + 2) 62 98 [.ref 4, .ref v1, .ref v2, .int v3, .int v4, .int v5, .int v6, .int v7] [.int x5, .int 3, .ref (v2 + 7)] M4 _
  refine pu_iast rfl (pu_L_7 hv2) (pu_L_l7 hv2) rfl ?_
  refine pu_go 1 (pc' := 100) (ls' := [.ref 4, .ref v1, .ref v2, .int v3, .int v4, .int v5, .int v6, .int v7]) (st' := [.ref v2]) (M' := pu_wr M4 (v2 + 7) (3 : Int32).toNatClampNeg x5) rfl ?_
  refine pu_getf (j := 8) (w := .ref (v2 + 7)) rfl (pu_L_o hv2) (Nat.lt_trans (pu_L_lt hv2) (by decide)) rfl (by decide) rfl rfl ?_
  refine pu_go 2 (pc' := 106) (ls' := [.ref 4, .ref v1, .ref v2, .int v3, .int v4, .int v5, .int v6, .int v7]) (st' := [.int v5, .int 5, .ref (v2 + 7)]) (M' := pu_wr M4 (v2 + 7) (3 : Int32).toNatClampNeg x5) rfl ?_
  refine pu_if_eq rfl (fun hc => ?_) (fun hc => ?_)
  · replace H := Eq.mp (if_pos hc) H
    refine pu_go 1 (pc' := 114) (ls' := [.ref 4, .ref v1, .ref v2, .int v3, .int v4, .int v5, .int v6, .int v7]) (st' := [.ref v1, .int 5, .ref (v2 + 7)]) (M' := pu_wr M4 (v2 + 7) (3 : Int32).toNatClampNeg x5) rfl ?_
    refine pu_getf (j := 1) (w := .ref (v1 + 2)) rfl (pu_Y_o hv1) (Nat.lt_trans (pu_Y_lt hv1) (by decide)) rfl (by decide) rfl rfl ?_
    refine pu_go 1 (pc' := 119) (ls' := [.ref 4, .ref v1, .ref v2, .int v3, .int v4, .int v5, .int v6, .int v7]) (st' := [.int v4, .ref (v1 + 2), .int 5, .ref (v2 + 7)]) (M' := pu_wr M4 (v2 + 7) (3 : Int32).toNatClampNeg x5) rfl ?_
    obtain ⟨hb6, H⟩ := H
    refine pu_iald rfl (pu_Y_2 hv1) (Or.inl (pu_Y_l2 hv1)) hb6 ?_
    refine pu_iast rfl (pu_L_7 hv2) (pu_L_l7 hv2) rfl ?_
    refine pu_named (fun M7 eM8 => ?_)
    replace H := H M7 eM8
    exact pu_ret rfl rfl ⟨rfl, H⟩
  · replace H := Eq.mp (if_neg hc) H
    refine pu_go 2 (pc' := 120) (ls' := [.ref 4, .ref v1, .ref v2, .int v3, .int v4, .int v5, .int v6, .int v7]) (st' := [.int 0, .int 5, .ref (v2 + 7)]) (M' := pu_wr M4 (v2 + 7) (3 : Int32).toNatClampNeg x5) rfl ?_
    refine pu_iast rfl (pu_L_7 hv2) (pu_L_l7 hv2) rfl ?_
    exact pu_ret rfl rfl ⟨rfl, H⟩
set_option maxRecDepth 20000 in
theorem r_Night_tellLaw_43 {L d : Nat} {M : pu_M} {Q : pu_M → Prop} {v1 : Nat} (hv1 : pu_isY v1) {v2 : Nat} (hv2 : pu_isL v2) {v3 : Int32} {v4 : Int32} {v5 : Int32} {v6 : Int32} {s0 : Int32} (H : (if v5 = 0 then pu_R L (d + 2) 62 68 [.ref 4, .ref v1, .ref v2, .int v3, .int v4, .int v5, .int v6, .int s0] [.int v4, .int 1, .ref (v2 + 7)] (pu_wr M (v2 + 7) (0 : Int32).toNatClampNeg v3) (pu_qV Q) else pu_R L (d + 2) 62 68 [.ref 4, .ref v1, .ref v2, .int v3, .int v4, .int v5, .int v6, .int s0] [.int 0, .int 1, .ref (v2 + 7)] (pu_wr M (v2 + 7) (0 : Int32).toNatClampNeg v3) (pu_qV Q))) : pu_R L (d + 2) 62 43 [.ref 4, .ref v1, .ref v2, .int v3, .int v4, .int v5, .int v6, mq_un] [.int s0] M (pu_qV Q) := by
  refine pu_go 2 (pc' := 46) (ls' := [.ref 4, .ref v1, .ref v2, .int v3, .int v4, .int v5, .int v6, .int s0]) (st' := [.ref v2]) (M' := M) rfl ?_
  refine pu_getf (j := 8) (w := .ref (v2 + 7)) rfl (pu_L_o hv2) (Nat.lt_trans (pu_L_lt hv2) (by decide)) rfl (by decide) rfl rfl ?_
  refine pu_go 2 (pc' := 51) (ls' := [.ref 4, .ref v1, .ref v2, .int v3, .int v4, .int v5, .int v6, .int s0]) (st' := [.int v3, .int 0, .ref (v2 + 7)]) (M' := M) rfl ?_
  refine pu_iast rfl (pu_L_7 hv2) (pu_L_l7 hv2) rfl ?_
  refine pu_go 1 (pc' := 53) (ls' := [.ref 4, .ref v1, .ref v2, .int v3, .int v4, .int v5, .int v6, .int s0]) (st' := [.ref v2]) (M' := pu_wr M (v2 + 7) (0 : Int32).toNatClampNeg v3) rfl ?_
  refine pu_getf (j := 8) (w := .ref (v2 + 7)) rfl (pu_L_o hv2) (Nat.lt_trans (pu_L_lt hv2) (by decide)) rfl (by decide) rfl rfl ?_
  refine pu_go 2 (pc' := 59) (ls' := [.ref 4, .ref v1, .ref v2, .int v3, .int v4, .int v5, .int v6, .int s0]) (st' := [.int v5, .int 1, .ref (v2 + 7)]) (M' := pu_wr M (v2 + 7) (0 : Int32).toNatClampNeg v3) rfl ?_
  refine pu_if_eq rfl (fun hc => ?_) (fun hc => ?_)
  · replace H := Eq.mp (if_pos hc) H
    refine pu_go 1 (pc' := 68) (ls' := [.ref 4, .ref v1, .ref v2, .int v3, .int v4, .int v5, .int v6, .int s0]) (st' := [.int v4, .int 1, .ref (v2 + 7)]) (M' := pu_wr M (v2 + 7) (0 : Int32).toNatClampNeg v3) rfl ?_
    exact H
  · replace H := Eq.mp (if_neg hc) H
    refine pu_go 2 (pc' := 68) (ls' := [.ref 4, .ref v1, .ref v2, .int v3, .int v4, .int v5, .int v6, .int s0]) (st' := [.int 0, .int 1, .ref (v2 + 7)]) (M' := pu_wr M (v2 + 7) (0 : Int32).toNatClampNeg v3) rfl ?_
    exact H
set_option maxRecDepth 20000 in
theorem r_Night_tellLaw_17 {L d : Nat} {M : pu_M} {Q : pu_M → Prop} {v1 : Nat} (hv1 : pu_isY v1) {v2 : Nat} (hv2 : pu_isL v2) {v3 : Int32} {v4 : Int32} {s0 : Int32} (H : (mq_inb v3 16 = true ∧ (if s0 = 0 then (mq_inb v4 16 = true ∧ pu_R L (d + 2) 62 43 [.ref 4, .ref v1, .ref v2, .int v3, .int v4, .int s0, .int (M (v1 + 1) v3.toNatClampNeg), mq_un] [.int (M (v1 + 1) v4.toNatClampNeg)] M (pu_qV Q)) else pu_R L (d + 2) 62 43 [.ref 4, .ref v1, .ref v2, .int v3, .int v4, .int s0, .int (M (v1 + 1) v3.toNatClampNeg), mq_un] [.int 0] M (pu_qV Q)))) : pu_R L (d + 2) 62 17 [.ref 4, .ref v1, .ref v2, .int v3, .int v4, mq_un, mq_un, mq_un] [.int s0] M (pu_qV Q) := by
  refine pu_go 2 (pc' := 20) (ls' := [.ref 4, .ref v1, .ref v2, .int v3, .int v4, .int s0, mq_un, mq_un]) (st' := [.ref v1]) (M' := M) rfl ?_
  refine pu_getf (j := 0) (w := .ref (v1 + 1)) rfl (pu_Y_o hv1) (Nat.lt_trans (pu_Y_lt hv1) (by decide)) rfl (by decide) rfl rfl ?_
  refine pu_go 1 (pc' := 24) (ls' := [.ref 4, .ref v1, .ref v2, .int v3, .int v4, .int s0, mq_un, mq_un]) (st' := [.int v3, .ref (v1 + 1)]) (M' := M) rfl ?_
  obtain ⟨hb1, H⟩ := H
  refine pu_iald rfl (pu_Y_1 hv1) (Or.inl (pu_Y_l1 hv1)) hb1 ?_
  refine pu_go 2 (pc' := 29) (ls' := [.ref 4, .ref v1, .ref v2, .int v3, .int v4, .int s0, .int (M (v1 + 1) v3.toNatClampNeg), mq_un]) (st' := [.int s0]) (M' := M) rfl ?_
  refine pu_if_eq rfl (fun hc => ?_) (fun hc => ?_)
  · replace H := Eq.mp (if_pos hc) H
    refine pu_go 1 (pc' := 37) (ls' := [.ref 4, .ref v1, .ref v2, .int v3, .int v4, .int s0, .int (M (v1 + 1) v3.toNatClampNeg), mq_un]) (st' := [.ref v1]) (M' := M) rfl ?_
    refine pu_getf (j := 0) (w := .ref (v1 + 1)) rfl (pu_Y_o hv1) (Nat.lt_trans (pu_Y_lt hv1) (by decide)) rfl (by decide) rfl rfl ?_
    refine pu_go 1 (pc' := 42) (ls' := [.ref 4, .ref v1, .ref v2, .int v3, .int v4, .int s0, .int (M (v1 + 1) v3.toNatClampNeg), mq_un]) (st' := [.int v4, .ref (v1 + 1)]) (M' := M) rfl ?_
    obtain ⟨hb2, H⟩ := H
    refine pu_iald rfl (pu_Y_1 hv1) (Or.inl (pu_Y_l1 hv1)) hb2 ?_
    exact H
  · replace H := Eq.mp (if_neg hc) H
    refine pu_go 2 (pc' := 43) (ls' := [.ref 4, .ref v1, .ref v2, .int v3, .int v4, .int s0, .int (M (v1 + 1) v3.toNatClampNeg), mq_un]) (st' := [.int 0]) (M' := M) rfl ?_
    exact H
set_option maxRecDepth 20000 in
theorem r_Night_tellLaw {L d : Nat} {M : pu_M} {Q : pu_M → Prop} {v1 : Nat} (hv1 : pu_isY v1) {v2 : Nat} (hv2 : pu_isL v2) {v3 : Int32} {v4 : Int32} (H : (if v4 < 0 then pu_R L (d + 2) 62 17 [.ref 4, .ref v1, .ref v2, .int v3, .int v4, mq_un, mq_un, mq_un] [.int 1] M (pu_qV Q) else (if v4 < 16 then pu_R L (d + 2) 62 17 [.ref 4, .ref v1, .ref v2, .int v3, .int v4, mq_un, mq_un, mq_un] [.int 0] M (pu_qV Q) else pu_R L (d + 2) 62 17 [.ref 4, .ref v1, .ref v2, .int v3, .int v4, mq_un, mq_un, mq_un] [.int 1] M (pu_qV Q)))) : pu_V L (d + 2) 62 [.ref 4, .ref v1, .ref v2, .int v3, .int v4] M Q := by
  show pu_R L (d + 2) 62 0 [.ref 4, .ref v1, .ref v2, .int v3, .int v4, mq_un, mq_un, mq_un] [] M (pu_qV Q)
  refine pu_go 1 (pc' := 2) (ls' := [.ref 4, .ref v1, .ref v2, .int v3, .int v4, mq_un, mq_un, mq_un]) (st' := [.int v4]) (M' := M) rfl ?_
  refine pu_if_lt rfl (fun hc => ?_) (fun hc => ?_)
  · replace H := Eq.mp (if_pos hc) H
    refine pu_go 2 (pc' := 17) (ls' := [.ref 4, .ref v1, .ref v2, .int v3, .int v4, mq_un, mq_un, mq_un]) (st' := [.int 1]) (M' := M) rfl ?_
    exact H
  · replace H := Eq.mp (if_neg hc) H
    refine pu_go 2 (pc' := 9) (ls' := [.ref 4, .ref v1, .ref v2, .int v3, .int v4, mq_un, mq_un, mq_un]) (st' := [.int 16, .int v4]) (M' := M) rfl ?_
    refine pu_icmp_lt rfl (fun hc => ?_) (fun hc => ?_)
    · replace H := Eq.mp (if_pos hc) H
      refine pu_go 1 (pc' := 17) (ls' := [.ref 4, .ref v1, .ref v2, .int v3, .int v4, mq_un, mq_un, mq_un]) (st' := [.int 0]) (M' := M) rfl ?_
      exact H
    · replace H := Eq.mp (if_neg hc) H
      refine pu_go 2 (pc' := 17) (ls' := [.ref 4, .ref v1, .ref v2, .int v3, .int v4, mq_un, mq_un, mq_un]) (st' := [.int 1]) (M' := M) rfl ?_
      exact H
/-! Night_learn (LTalkingPlots$Yard;II)V -/
set_option maxRecDepth 20000 in
theorem r_Night_learn {L d : Nat} {M : pu_M} {Q : pu_M → Prop} {v1 : Nat} (hv1 : pu_isY v1) {v2 : Int32} {v3 : Int32} (H : (mq_inb v3 16 = true ∧ (mq_inb v2 16 = true ∧ (if ((M (v1 + 1) v3.toNatClampNeg) &&& ((M (v1 + 1) v2.toNatClampNeg) ^^^ ((-1)))) = 0 then Q M else (mq_inb v2 16 = true ∧ (mq_inb v2 16 = true ∧ (∀ M5 : pu_M, M5 = pu_wr M (v1 + 1) v2.toNatClampNeg ((M (v1 + 1) v2.toNatClampNeg) ||| (((M (v1 + 1) v3.toNatClampNeg) &&& ((M (v1 + 1) v2.toNatClampNeg) ^^^ ((-1)))) &&& (-((M (v1 + 1) v3.toNatClampNeg) &&& ((M (v1 + 1) v2.toNatClampNeg) ^^^ ((-1))))))) → Q (pu_wr M5 4 1 ((M5 4 1) + 1))))))))) : pu_V L (d + 1) 63 [.ref 4, .ref v1, .int v2, .int v3] M Q := by
  show pu_R L (d + 1) 63 0 [.ref 4, .ref v1, .int v2, .int v3, mq_un] [] M (pu_qV Q)
  refine pu_go 1 (pc' := 1) (ls' := [.ref 4, .ref v1, .int v2, .int v3, mq_un]) (st' := [.ref v1]) (M' := M) rfl ?_
  refine pu_getf (j := 0) (w := .ref (v1 + 1)) rfl (pu_Y_o hv1) (Nat.lt_trans (pu_Y_lt hv1) (by decide)) rfl (by decide) rfl rfl ?_
  refine pu_go 1 (pc' := 5) (ls' := [.ref 4, .ref v1, .int v2, .int v3, mq_un]) (st' := [.int v3, .ref (v1 + 1)]) (M' := M) rfl ?_
  obtain ⟨hb1, H⟩ := H
  refine pu_iald rfl (pu_Y_1 hv1) (Or.inl (pu_Y_l1 hv1)) hb1 ?_
  refine pu_go 1 (pc' := 7) (ls' := [.ref 4, .ref v1, .int v2, .int v3, mq_un]) (st' := [.ref v1, .int (M (v1 + 1) v3.toNatClampNeg)]) (M' := M) rfl ?_
  refine pu_getf (j := 0) (w := .ref (v1 + 1)) rfl (pu_Y_o hv1) (Nat.lt_trans (pu_Y_lt hv1) (by decide)) rfl (by decide) rfl rfl ?_
  refine pu_go 1 (pc' := 11) (ls' := [.ref 4, .ref v1, .int v2, .int v3, mq_un]) (st' := [.int v2, .ref (v1 + 1), .int (M (v1 + 1) v3.toNatClampNeg)]) (M' := M) rfl ?_
  obtain ⟨hb2, H⟩ := H
  refine pu_iald rfl (pu_Y_1 hv1) (Or.inl (pu_Y_l1 hv1)) hb2 ?_
  refine pu_go 5 (pc' := 19) (ls' := [.ref 4, .ref v1, .int v2, .int v3, .int ((M (v1 + 1) v3.toNatClampNeg) &&& ((M (v1 + 1) v2.toNatClampNeg) ^^^ ((-1))))]) (st' := [.int ((M (v1 + 1) v3.toNatClampNeg) &&& ((M (v1 + 1) v2.toNatClampNeg) ^^^ ((-1))))]) (M' := M) rfl ?_
  refine pu_if_eq rfl (fun hc => ?_) (fun hc => ?_)
  · replace H := Eq.mp (if_pos hc) H
    exact pu_ret rfl rfl ⟨rfl, H⟩
  · replace H := Eq.mp (if_neg hc) H
    refine pu_go 1 (pc' := 23) (ls' := [.ref 4, .ref v1, .int v2, .int v3, .int ((M (v1 + 1) v3.toNatClampNeg) &&& ((M (v1 + 1) v2.toNatClampNeg) ^^^ ((-1))))]) (st' := [.ref v1]) (M' := M) rfl ?_
    refine pu_getf (j := 0) (w := .ref (v1 + 1)) rfl (pu_Y_o hv1) (Nat.lt_trans (pu_Y_lt hv1) (by decide)) rfl (by decide) rfl rfl ?_
    refine pu_go 2 (pc' := 28) (ls' := [.ref 4, .ref v1, .int v2, .int v3, .int ((M (v1 + 1) v3.toNatClampNeg) &&& ((M (v1 + 1) v2.toNatClampNeg) ^^^ ((-1))))]) (st' := [.int v2, .ref (v1 + 1), .int v2, .ref (v1 + 1)]) (M' := M) rfl ?_
    obtain ⟨hb3, H⟩ := H
    refine pu_iald rfl (pu_Y_1 hv1) (Or.inl (pu_Y_l1 hv1)) hb3 ?_
    refine pu_go 5 (pc' := 36) (ls' := [.ref 4, .ref v1, .int v2, .int v3, .int ((M (v1 + 1) v3.toNatClampNeg) &&& ((M (v1 + 1) v2.toNatClampNeg) ^^^ ((-1))))]) (st' := [.int ((M (v1 + 1) v2.toNatClampNeg) ||| (((M (v1 + 1) v3.toNatClampNeg) &&& ((M (v1 + 1) v2.toNatClampNeg) ^^^ ((-1)))) &&& (-((M (v1 + 1) v3.toNatClampNeg) &&& ((M (v1 + 1) v2.toNatClampNeg) ^^^ ((-1))))))), .int v2, .ref (v1 + 1)]) (M' := M) rfl ?_
    obtain ⟨hb4, H⟩ := H
    refine pu_iast rfl (pu_Y_1 hv1) (pu_Y_l1 hv1) hb4 ?_
    refine pu_named (fun M5 eM6 => ?_)
    replace H := H M5 eM6
    refine pu_go 5 (pc' := 44) (ls' := [.ref 4, .ref v1, .int v2, .int v3, .int ((M (v1 + 1) v3.toNatClampNeg) &&& ((M (v1 + 1) v2.toNatClampNeg) ^^^ ((-1))))]) (st' := [.int ((M5 4 1) + 1), .ref 4]) (M' := M5) rfl ?_
    refine pu_putf (j := 1) (z := (M5 4 1) + 1) rfl rfl (by decide) rfl (by decide) rfl rfl pu_put_hw ?_
    exact pu_ret rfl rfl ⟨rfl, H⟩
/-! Plan_tells (I)I -/
set_option maxRecDepth 20000 in
theorem r_Plan_tells {L d : Nat} {M : pu_M} {Q : Int32 → pu_M → Prop} {v1 : Int32} (H : (if v1 = 0 then Q (M 5 0) M else (if v1 = 1 then Q (M 5 1) M else Q (M 5 2) M))) : pu_I L (d + 1) 65 [.ref 5, .int v1] M Q := by
  show pu_R L (d + 1) 65 0 [.ref 5, .int v1] [] M (pu_qI Q)
  refine pu_go 1 (pc' := 1) (ls' := [.ref 5, .int v1]) (st' := [.int v1]) (M' := M) rfl ?_
  refine pu_if_ne rfl (fun hc => ?_) (fun hc => ?_)
  · replace H := Eq.mp (if_neg hc) H
    refine pu_go 2 (pc' := 13) (ls' := [.ref 5, .int v1]) (st' := [.int 1, .int v1]) (M' := M) rfl ?_
    refine pu_icmp_ne rfl (fun hc => ?_) (fun hc => ?_)
    · replace H := Eq.mp (if_neg hc) H
      refine pu_go 2 (pc' := 27) (ls' := [.ref 5, .int v1]) (st' := [.int (M 5 2)]) (M' := M) rfl ?_
      exact pu_ret rfl rfl ⟨_, rfl, H⟩
    · replace H := Eq.mp (if_pos hc) H
      refine pu_go 3 (pc' := 27) (ls' := [.ref 5, .int v1]) (st' := [.int (M 5 1)]) (M' := M) rfl ?_
      exact pu_ret rfl rfl ⟨_, rfl, H⟩
  · replace H := Eq.mp (if_pos hc) H
    refine pu_go 3 (pc' := 27) (ls' := [.ref 5, .int v1]) (st' := [.int (M 5 0)]) (M' := M) rfl ?_
    exact pu_ret rfl rfl ⟨_, rfl, H⟩
/-! Plan_begin (I)V -/
set_option maxRecDepth 20000 in
theorem r_Plan_begin {L d : Nat} {M : pu_M} {Q : pu_M → Prop} {v1 : Int32} (H : Q (pu_wr (pu_wr (pu_wr M 5 0 ((-2))) 5 1 ((-2))) 5 2 v1)) : pu_V L (d + 1) 66 [.ref 5, .int v1] M Q := by
  show pu_R L (d + 1) 66 0 [.ref 5, .int v1] [] M (pu_qV Q)
  refine pu_go 2 (pc' := 3) (ls' := [.ref 5, .int v1]) (st' := [.int ((-2)), .ref 5]) (M' := M) rfl ?_
  refine pu_putf (j := 0) (z := (-2)) rfl rfl (by decide) rfl (by decide) rfl rfl pu_put_hw ?_
  refine pu_go 2 (pc' := 9) (ls' := [.ref 5, .int v1]) (st' := [.int ((-2)), .ref 5]) (M' := pu_wr M 5 0 ((-2))) rfl ?_
  refine pu_putf (j := 1) (z := (-2)) rfl rfl (by decide) rfl (by decide) rfl rfl pu_put_hw ?_
  refine pu_go 2 (pc' := 14) (ls' := [.ref 5, .int v1]) (st' := [.int v1, .ref 5]) (M' := pu_wr (pu_wr M 5 0 ((-2))) 5 1 ((-2))) rfl ?_
  refine pu_putf (j := 2) (z := v1) rfl rfl (by decide) rfl (by decide) rfl rfl pu_put_hw ?_
  exact pu_ret rfl rfl ⟨rfl, H⟩
/-! Plan_offer (III)V -/
set_option maxRecDepth 20000 in
theorem r_Plan_offer {L d : Nat} {M : pu_M} {Q : pu_M → Prop} {v1 : Int32} {v2 : Int32} {v3 : Int32} (H : (if v3 ≤ (M 5 2) then Q M else Q (pu_wr (pu_wr (pu_wr M 5 0 v1) 5 1 v2) 5 2 v3))) : pu_V L (d + 1) 67 [.ref 5, .int v1, .int v2, .int v3] M Q := by
  show pu_R L (d + 1) 67 0 [.ref 5, .int v1, .int v2, .int v3] [] M (pu_qV Q)
  refine pu_go 3 (pc' := 5) (ls' := [.ref 5, .int v1, .int v2, .int v3]) (st' := [.int (M 5 2), .int v3]) (M' := M) rfl ?_
  refine pu_icmp_le rfl (fun hc => ?_) (fun hc => ?_)
  · replace H := Eq.mp (if_pos hc) H
    exact pu_ret rfl rfl ⟨rfl, H⟩
  · replace H := Eq.mp (if_neg hc) H
    refine pu_go 2 (pc' := 10) (ls' := [.ref 5, .int v1, .int v2, .int v3]) (st' := [.int v1, .ref 5]) (M' := M) rfl ?_
    refine pu_putf (j := 0) (z := v1) rfl rfl (by decide) rfl (by decide) rfl rfl pu_put_hw ?_
    refine pu_go 2 (pc' := 15) (ls' := [.ref 5, .int v1, .int v2, .int v3]) (st' := [.int v2, .ref 5]) (M' := pu_wr M 5 0 v1) rfl ?_
    refine pu_putf (j := 1) (z := v2) rfl rfl (by decide) rfl (by decide) rfl rfl pu_put_hw ?_
    refine pu_go 2 (pc' := 20) (ls' := [.ref 5, .int v1, .int v2, .int v3]) (st' := [.int v3, .ref 5]) (M' := pu_wr (pu_wr M 5 0 v1) 5 1 v2) rfl ?_
    refine pu_putf (j := 2) (z := v3) rfl rfl (by decide) rfl (by decide) rfl rfl pu_put_hw ?_
    exact pu_ret rfl rfl ⟨rfl, H⟩
/-! Plan_noneIfNoMore ()V -/
set_option maxRecDepth 20000 in
theorem r_Plan_noneIfNoMore {L d : Nat} {M : pu_M} {Q : pu_M → Prop}  (H : (if (M 5 0) = ((-2)) then Q (pu_wr M 5 2 ((-2))) else Q M)) : pu_V L (d + 1) 68 [.ref 5] M Q := by
  show pu_R L (d + 1) 68 0 [.ref 5] [] M (pu_qV Q)
  refine pu_go 3 (pc' := 6) (ls' := [.ref 5]) (st' := [.int ((-2)), .int (M 5 0)]) (M' := M) rfl ?_
  refine pu_icmp_ne rfl (fun hc => ?_) (fun hc => ?_)
  · replace H := Eq.mp (if_neg hc) H
    exact pu_ret rfl rfl ⟨rfl, H⟩
  · replace H := Eq.mp (if_pos hc) H
    refine pu_go 2 (pc' := 12) (ls' := [.ref 5]) (st' := [.int ((-2)), .ref 5]) (M' := M) rfl ?_
    refine pu_putf (j := 2) (z := (-2)) rfl rfl (by decide) rfl (by decide) rfl rfl pu_put_hw ?_
    exact pu_ret rfl rfl ⟨rfl, H⟩
