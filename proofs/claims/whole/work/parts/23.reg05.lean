/-! x_tried (II)I -/
set_option maxRecDepth 20000 in
theorem r_x_tried_76 {L d : Nat} {M : pu_M} {Q : Int32 → pu_M → Prop} {v1 : Int32} {v2 : Int32} {v3 : Int32} {v4 : Int32} {s0 : Int32} (H : (if v1 < 1 then Q ((-1)) M else (if 240 < v1 then Q ((-1)) M else (if s0 = 0 then Q ((-1)) M else (∃ y1, M 0 10 = nI y1 ∧ pu_isY y1 ∧ (∃ y3, M 0 9 = nI y3 ∧ pu_isY y3 ∧ pu_V L (d + 7) 99 [.ref y1, .ref y3] M (fun M5 => (∃ y6, M5 0 10 = nI y6 ∧ pu_isY y6 ∧ (∃ y8, M5 0 11 = nI y8 ∧ pu_isL y8 ∧ pu_V L (d + 7) 59 [.ref 4, .ref y6, .ref y8, .int v1] M5 (fun M10 => (if v3 = 0 then (if v4 = 0 then (if v2 = 2 then (∃ y11, M10 0 10 = nI y11 ∧ pu_isY y11 ∧ pu_I L (d + 7) 105 [.ref y11] M10 (fun x14 M13 => Q x14 M13)) else (if v2 = 0 then Q (M10 4 0) M10 else Q (M10 4 1) M10)) else (∃ y15, M10 0 10 = nI y15 ∧ pu_isY y15 ∧ (mq_inb (v2 - 30) 16 = true ∧ pu_I L (d + 7) 260 [.int (M10 (y15 + 1) (v2 - 30 : Int32).toNatClampNeg)] M10 (fun x19 M18 => Q x19 M18)))) else (∃ y20, M10 0 10 = nI y20 ∧ pu_isY y20 ∧ (mq_inb (v2 - 10) 16 = true ∧ Q (M10 (y20 + 2) (v2 - 10 : Int32).toNatClampNeg) M10))))))))))))) : pu_R L (d + 8) 128 76 [.ref 0, .int v1, .int v2, .int v3, .int v4, mq_un] [.int s0] M (pu_qI Q) := by
  refine pu_go 3 (pc' := 80) (ls' := [.ref 0, .int v1, .int v2, .int v3, .int v4, .int s0]) (st' := [.int 1, .int v1]) (M' := M) rfl ?_
  refine pu_icmp_lt rfl (fun hc => ?_) (fun hc => ?_)
  · replace H := Eq.mp (if_pos hc) H
    refine pu_go 1 (pc' := 96) (ls' := [.ref 0, .int v1, .int v2, .int v3, .int v4, .int s0]) (st' := [.int ((-1))]) (M' := M) rfl ?_
    exact pu_ret rfl rfl ⟨_, rfl, H⟩
  · replace H := Eq.mp (if_neg hc) H
    refine pu_go 2 (pc' := 87) (ls' := [.ref 0, .int v1, .int v2, .int v3, .int v4, .int s0]) (st' := [.int 240, .int v1]) (M' := M) rfl ?_
    refine pu_icmp_gt rfl (fun hc => ?_) (fun hc => ?_)
    · replace H := Eq.mp (if_pos hc) H
      refine pu_go 1 (pc' := 96) (ls' := [.ref 0, .int v1, .int v2, .int v3, .int v4, .int s0]) (st' := [.int ((-1))]) (M' := M) rfl ?_
      exact pu_ret rfl rfl ⟨_, rfl, H⟩
    · replace H := Eq.mp (if_neg hc) H
      refine pu_go 1 (pc' := 92) (ls' := [.ref 0, .int v1, .int v2, .int v3, .int v4, .int s0]) (st' := [.int s0]) (M' := M) rfl ?_
      refine pu_if_ne rfl (fun hc => ?_) (fun hc => ?_)
      · replace H := Eq.mp (if_neg hc) H
        refine pu_go 1 (pc' := 98) (ls' := [.ref 0, .int v1, .int v2, .int v3, .int v4, .int s0]) (st' := [.ref 0]) (M' := M) rfl ?_
        obtain ⟨y1, e2, hy1, H⟩ := H
        refine pu_getf (j := 10) rfl rfl (by decide) rfl (by decide) rfl (pu_val_d e2 (Nat.lt_trans (pu_Y_lt hy1) (by decide))) ?_
        refine pu_go 1 (pc' := 102) (ls' := [.ref 0, .int v1, .int v2, .int v3, .int v4, .int s0]) (st' := [.ref 0, .ref y1]) (M' := M) rfl ?_
        obtain ⟨y3, e4, hy3, H⟩ := H
        refine pu_getf (j := 9) rfl rfl (by decide) rfl (by decide) rfl (pu_val_d e4 (Nat.lt_trans (pu_Y_lt hy3) (by decide))) ?_
        refine pu_callV (m' := 99) (ml := 2) (as := [.ref y1, .ref y3]) (rest := []) rfl (pu_virt (pu_Y_o hy1) (Nat.lt_trans (pu_Y_lt hy1) (by decide)) ⟨Nat.le_of_ble_eq_true rfl, Nat.le_of_ble_eq_true rfl⟩ rfl rfl) rfl (Nat.le_of_ble_eq_true rfl) H (fun M5 H => ?_)
        show pu_R L (d + 8) 128 108 [.ref 0, .int v1, .int v2, .int v3, .int v4, .int s0] [] M5 _
        refine pu_go 3 (pc' := 113) (ls' := [.ref 0, .int v1, .int v2, .int v3, .int v4, .int s0]) (st' := [.ref 0, .ref 4]) (M' := M5) rfl ?_
        obtain ⟨y6, e7, hy6, H⟩ := H
        refine pu_getf (j := 10) rfl rfl (by decide) rfl (by decide) rfl (pu_val_d e7 (Nat.lt_trans (pu_Y_lt hy6) (by decide))) ?_
        refine pu_go 1 (pc' := 117) (ls' := [.ref 0, .int v1, .int v2, .int v3, .int v4, .int s0]) (st' := [.ref 0, .ref y6, .ref 4]) (M' := M5) rfl ?_
        obtain ⟨y8, e9, hy8, H⟩ := H
        refine pu_getf (j := 11) rfl rfl (by decide) rfl (by decide) rfl (pu_val_d e9 (Nat.lt_trans (pu_L_lt hy8) (by decide))) ?_
        refine pu_go 1 (pc' := 121) (ls' := [.ref 0, .int v1, .int v2, .int v3, .int v4, .int s0]) (st' := [.int v1, .ref y8, .ref y6, .ref 4]) (M' := M5) rfl ?_
        refine pu_callV (m' := 59) (ml := 6) (as := [.ref 4, .ref y6, .ref y8, .int v1]) (rest := []) rfl rfl rfl (Nat.le_of_ble_eq_true rfl) H (fun M10 H => ?_)
        show pu_R L (d + 8) 128 124 [.ref 0, .int v1, .int v2, .int v3, .int v4, .int s0] [] M10 _
        refine pu_go 1 (pc' := 125) (ls' := [.ref 0, .int v1, .int v2, .int v3, .int v4, .int s0]) (st' := [.int v3]) (M' := M10) rfl ?_
        refine pu_if_eq rfl (fun hc => ?_) (fun hc => ?_)
        · replace H := Eq.mp (if_pos hc) H
          refine pu_go 1 (pc' := 143) (ls' := [.ref 0, .int v1, .int v2, .int v3, .int v4, .int s0]) (st' := [.int v4]) (M' := M10) rfl ?_
          refine pu_if_eq rfl (fun hc => ?_) (fun hc => ?_)
          · replace H := Eq.mp (if_pos hc) H
            refine pu_go 2 (pc' := 164) (ls' := [.ref 0, .int v1, .int v2, .int v3, .int v4, .int s0]) (st' := [.int 2, .int v2]) (M' := M10) rfl ?_
            refine pu_icmp_ne rfl (fun hc => ?_) (fun hc => ?_)
            · replace H := Eq.mp (if_neg hc) H
              refine pu_go 1 (pc' := 176) (ls' := [.ref 0, .int v1, .int v2, .int v3, .int v4, .int s0]) (st' := [.int v2]) (M' := M10) rfl ?_
              refine pu_if_ne rfl (fun hc => ?_) (fun hc => ?_)
              · replace H := Eq.mp (if_neg hc) H
                refine pu_go 3 (pc' := 196) (ls' := [.ref 0, .int v1, .int v2, .int v3, .int v4, .int s0]) (st' := [.int (M10 4 1)]) (M' := M10) rfl ?_
                exact pu_ret rfl rfl ⟨_, rfl, H⟩
              · replace H := Eq.mp (if_pos hc) H
                refine pu_go 4 (pc' := 196) (ls' := [.ref 0, .int v1, .int v2, .int v3, .int v4, .int s0]) (st' := [.int (M10 4 0)]) (M' := M10) rfl ?_
                exact pu_ret rfl rfl ⟨_, rfl, H⟩
            · replace H := Eq.mp (if_pos hc) H
              refine pu_go 1 (pc' := 168) (ls' := [.ref 0, .int v1, .int v2, .int v3, .int v4, .int s0]) (st' := [.ref 0]) (M' := M10) rfl ?_
              obtain ⟨y11, e12, hy11, H⟩ := H
              refine pu_getf (j := 10) rfl rfl (by decide) rfl (by decide) rfl (pu_val_d e12 (Nat.lt_trans (pu_Y_lt hy11) (by decide))) ?_
              refine pu_callI (m' := 105) (ml := 3) (as := [.ref y11]) (rest := []) rfl (pu_virt (pu_Y_o hy11) (Nat.lt_trans (pu_Y_lt hy11) (by decide)) ⟨Nat.le_of_ble_eq_true rfl, Nat.le_of_ble_eq_true rfl⟩ rfl rfl) rfl (Nat.le_of_ble_eq_true rfl) H (fun x14 M13 H => ?_)
              show pu_R L (d + 8) 128 174 [.ref 0, .int v1, .int v2, .int v3, .int v4, .int s0] [.int x14] M13 _
              exact pu_ret rfl rfl ⟨_, rfl, H⟩
          · replace H := Eq.mp (if_neg hc) H
            refine pu_go 1 (pc' := 147) (ls' := [.ref 0, .int v1, .int v2, .int v3, .int v4, .int s0]) (st' := [.ref 0]) (M' := M10) rfl ?_
            obtain ⟨y15, e16, hy15, H⟩ := H
            refine pu_getf (j := 10) rfl rfl (by decide) rfl (by decide) rfl (pu_val_d e16 (Nat.lt_trans (pu_Y_lt hy15) (by decide))) ?_
            refine pu_getf (j := 0) (w := .ref (y15 + 1)) rfl (pu_Y_o hy15) (Nat.lt_trans (pu_Y_lt hy15) (by decide)) rfl (by decide) rfl rfl ?_
            refine pu_go 3 (pc' := 157) (ls' := [.ref 0, .int v1, .int v2, .int v3, .int v4, .int s0]) (st' := [.int (v2 - 30), .ref (y15 + 1)]) (M' := M10) rfl ?_
            obtain ⟨hb17, H⟩ := H
            refine pu_iald rfl (pu_Y_1 hy15) (Or.inl (pu_Y_l1 hy15)) hb17 ?_
            refine pu_callI (m' := 260) (ml := 1) (as := [.int (M10 (y15 + 1) (v2 - 30 : Int32).toNatClampNeg)]) (rest := []) rfl rfl rfl (Nat.le_of_ble_eq_true rfl) H (fun x19 M18 H => ?_)
            show pu_R L (d + 8) 128 161 [.ref 0, .int v1, .int v2, .int v3, .int v4, .int s0] [.int x19] M18 _
            exact pu_ret rfl rfl ⟨_, rfl, H⟩
        · replace H := Eq.mp (if_neg hc) H
          refine pu_go 1 (pc' := 129) (ls' := [.ref 0, .int v1, .int v2, .int v3, .int v4, .int s0]) (st' := [.ref 0]) (M' := M10) rfl ?_
          obtain ⟨y20, e21, hy20, H⟩ := H
          refine pu_getf (j := 10) rfl rfl (by decide) rfl (by decide) rfl (pu_val_d e21 (Nat.lt_trans (pu_Y_lt hy20) (by decide))) ?_
          refine pu_getf (j := 1) (w := .ref (y20 + 2)) rfl (pu_Y_o hy20) (Nat.lt_trans (pu_Y_lt hy20) (by decide)) rfl (by decide) rfl rfl ?_
          refine pu_go 3 (pc' := 139) (ls' := [.ref 0, .int v1, .int v2, .int v3, .int v4, .int s0]) (st' := [.int (v2 - 10), .ref (y20 + 2)]) (M' := M10) rfl ?_
          obtain ⟨hb22, H⟩ := H
          refine pu_iald rfl (pu_Y_2 hy20) (Or.inl (pu_Y_l2 hy20)) hb22 ?_
          exact pu_ret rfl rfl ⟨_, rfl, H⟩
      · replace H := Eq.mp (if_pos hc) H
        refine pu_go 1 (pc' := 96) (ls' := [.ref 0, .int v1, .int v2, .int v3, .int v4, .int s0]) (st' := [.int ((-1))]) (M' := M) rfl ?_
        exact pu_ret rfl rfl ⟨_, rfl, H⟩
set_option maxRecDepth 20000 in
theorem r_x_tried_51 {L d : Nat} {M : pu_M} {Q : Int32 → pu_M → Prop} {v1 : Int32} {v2 : Int32} {v3 : Int32} {s0 : Int32} (H : (if v2 < 0 then (if v3 = 0 then (if s0 = 0 then pu_R L (d + 8) 128 76 [.ref 0, .int v1, .int v2, .int v3, .int s0, mq_un] [.int 0] M (pu_qI Q) else pu_R L (d + 8) 128 76 [.ref 0, .int v1, .int v2, .int v3, .int s0, mq_un] [.int 1] M (pu_qI Q)) else pu_R L (d + 8) 128 76 [.ref 0, .int v1, .int v2, .int v3, .int s0, mq_un] [.int 1] M (pu_qI Q)) else (if v2 ≤ 2 then pu_R L (d + 8) 128 76 [.ref 0, .int v1, .int v2, .int v3, .int s0, mq_un] [.int 1] M (pu_qI Q) else (if v3 = 0 then (if s0 = 0 then pu_R L (d + 8) 128 76 [.ref 0, .int v1, .int v2, .int v3, .int s0, mq_un] [.int 0] M (pu_qI Q) else pu_R L (d + 8) 128 76 [.ref 0, .int v1, .int v2, .int v3, .int s0, mq_un] [.int 1] M (pu_qI Q)) else pu_R L (d + 8) 128 76 [.ref 0, .int v1, .int v2, .int v3, .int s0, mq_un] [.int 1] M (pu_qI Q))))) : pu_R L (d + 8) 128 51 [.ref 0, .int v1, .int v2, .int v3, mq_un, mq_un] [.int s0] M (pu_qI Q) := by
  refine pu_go 2 (pc' := 54) (ls' := [.ref 0, .int v1, .int v2, .int v3, .int s0, mq_un]) (st' := [.int v2]) (M' := M) rfl ?_
  refine pu_if_lt rfl (fun hc => ?_) (fun hc => ?_)
  · replace H := Eq.mp (if_pos hc) H
    refine pu_go 1 (pc' := 63) (ls' := [.ref 0, .int v1, .int v2, .int v3, .int s0, mq_un]) (st' := [.int v3]) (M' := M) rfl ?_
    refine pu_if_ne rfl (fun hc => ?_) (fun hc => ?_)
    · replace H := Eq.mp (if_neg hc) H
      refine pu_go 2 (pc' := 76) (ls' := [.ref 0, .int v1, .int v2, .int v3, .int s0, mq_un]) (st' := [.int 1]) (M' := M) rfl ?_
      exact H
    · replace H := Eq.mp (if_pos hc) H
      refine pu_go 1 (pc' := 68) (ls' := [.ref 0, .int v1, .int v2, .int v3, .int s0, mq_un]) (st' := [.int s0]) (M' := M) rfl ?_
      refine pu_if_eq rfl (fun hc => ?_) (fun hc => ?_)
      · replace H := Eq.mp (if_pos hc) H
        refine pu_go 1 (pc' := 76) (ls' := [.ref 0, .int v1, .int v2, .int v3, .int s0, mq_un]) (st' := [.int 0]) (M' := M) rfl ?_
        exact H
      · replace H := Eq.mp (if_neg hc) H
        refine pu_go 2 (pc' := 76) (ls' := [.ref 0, .int v1, .int v2, .int v3, .int s0, mq_un]) (st' := [.int 1]) (M' := M) rfl ?_
        exact H
  · replace H := Eq.mp (if_neg hc) H
    refine pu_go 2 (pc' := 59) (ls' := [.ref 0, .int v1, .int v2, .int v3, .int s0, mq_un]) (st' := [.int 2, .int v2]) (M' := M) rfl ?_
    refine pu_icmp_le rfl (fun hc => ?_) (fun hc => ?_)
    · replace H := Eq.mp (if_pos hc) H
      refine pu_go 2 (pc' := 76) (ls' := [.ref 0, .int v1, .int v2, .int v3, .int s0, mq_un]) (st' := [.int 1]) (M' := M) rfl ?_
      exact H
    · replace H := Eq.mp (if_neg hc) H
      refine pu_go 1 (pc' := 63) (ls' := [.ref 0, .int v1, .int v2, .int v3, .int s0, mq_un]) (st' := [.int v3]) (M' := M) rfl ?_
      refine pu_if_ne rfl (fun hc => ?_) (fun hc => ?_)
      · replace H := Eq.mp (if_neg hc) H
        refine pu_go 2 (pc' := 76) (ls' := [.ref 0, .int v1, .int v2, .int v3, .int s0, mq_un]) (st' := [.int 1]) (M' := M) rfl ?_
        exact H
      · replace H := Eq.mp (if_pos hc) H
        refine pu_go 1 (pc' := 68) (ls' := [.ref 0, .int v1, .int v2, .int v3, .int s0, mq_un]) (st' := [.int s0]) (M' := M) rfl ?_
        refine pu_if_eq rfl (fun hc => ?_) (fun hc => ?_)
        · replace H := Eq.mp (if_pos hc) H
          refine pu_go 1 (pc' := 76) (ls' := [.ref 0, .int v1, .int v2, .int v3, .int s0, mq_un]) (st' := [.int 0]) (M' := M) rfl ?_
          exact H
        · replace H := Eq.mp (if_neg hc) H
          refine pu_go 2 (pc' := 76) (ls' := [.ref 0, .int v1, .int v2, .int v3, .int s0, mq_un]) (st' := [.int 1]) (M' := M) rfl ?_
          exact H
set_option maxRecDepth 20000 in
theorem r_x_tried_25 {L d : Nat} {M : pu_M} {Q : Int32 → pu_M → Prop} {v1 : Int32} {v2 : Int32} {s0 : Int32} (H : (if v2 < 30 then pu_R L (d + 8) 128 51 [.ref 0, .int v1, .int v2, .int s0, mq_un, mq_un] [.int 0] M (pu_qI Q) else (∃ y1, M 0 9 = nI y1 ∧ pu_isY y1 ∧ pu_I L (d + 7) 100 [.ref y1, .int (v2 - 30)] M (fun x4 M3 => (if x4 = 0 then pu_R L (d + 8) 128 51 [.ref 0, .int v1, .int v2, .int s0, mq_un, mq_un] [.int 0] M3 (pu_qI Q) else pu_R L (d + 8) 128 51 [.ref 0, .int v1, .int v2, .int s0, mq_un, mq_un] [.int 1] M3 (pu_qI Q)))))) : pu_R L (d + 8) 128 25 [.ref 0, .int v1, .int v2, mq_un, mq_un, mq_un] [.int s0] M (pu_qI Q) := by
  refine pu_go 3 (pc' := 29) (ls' := [.ref 0, .int v1, .int v2, .int s0, mq_un, mq_un]) (st' := [.int 30, .int v2]) (M' := M) rfl ?_
  refine pu_icmp_lt rfl (fun hc => ?_) (fun hc => ?_)
  · replace H := Eq.mp (if_pos hc) H
    refine pu_go 1 (pc' := 51) (ls' := [.ref 0, .int v1, .int v2, .int s0, mq_un, mq_un]) (st' := [.int 0]) (M' := M) rfl ?_
    exact H
  · replace H := Eq.mp (if_neg hc) H
    refine pu_go 1 (pc' := 33) (ls' := [.ref 0, .int v1, .int v2, .int s0, mq_un, mq_un]) (st' := [.ref 0]) (M' := M) rfl ?_
    obtain ⟨y1, e2, hy1, H⟩ := H
    refine pu_getf (j := 9) rfl rfl (by decide) rfl (by decide) rfl (pu_val_d e2 (Nat.lt_trans (pu_Y_lt hy1) (by decide))) ?_
    refine pu_go 3 (pc' := 40) (ls' := [.ref 0, .int v1, .int v2, .int s0, mq_un, mq_un]) (st' := [.int (v2 - 30), .ref y1]) (M' := M) rfl ?_
    refine pu_callI (m' := 100) (ml := 2) (as := [.ref y1, .int (v2 - 30)]) (rest := []) rfl (pu_virt (pu_Y_o hy1) (Nat.lt_trans (pu_Y_lt hy1) (by decide)) ⟨Nat.le_of_ble_eq_true rfl, Nat.le_of_ble_eq_true rfl⟩ rfl rfl) rfl (Nat.le_of_ble_eq_true rfl) H (fun x4 M3 H => ?_)
    show pu_R L (d + 8) 128 43 [.ref 0, .int v1, .int v2, .int s0, mq_un, mq_un] [.int x4] M3 _
    refine pu_if_eq rfl (fun hc => ?_) (fun hc => ?_)
    · replace H := Eq.mp (if_pos hc) H
      refine pu_go 1 (pc' := 51) (ls' := [.ref 0, .int v1, .int v2, .int s0, mq_un, mq_un]) (st' := [.int 0]) (M' := M3) rfl ?_
      exact H
    · replace H := Eq.mp (if_neg hc) H
      refine pu_go 2 (pc' := 51) (ls' := [.ref 0, .int v1, .int v2, .int s0, mq_un, mq_un]) (st' := [.int 1]) (M' := M3) rfl ?_
      exact H
set_option maxRecDepth 20000 in
theorem r_x_tried {L d : Nat} {M : pu_M} {Q : Int32 → pu_M → Prop} {v1 : Int32} {v2 : Int32} (H : (if v2 < 10 then pu_R L (d + 8) 128 25 [.ref 0, .int v1, .int v2, mq_un, mq_un, mq_un] [.int 0] M (pu_qI Q) else (∃ y1, M 0 9 = nI y1 ∧ pu_isY y1 ∧ pu_I L (d + 7) 100 [.ref y1, .int (v2 - 10)] M (fun x4 M3 => (if x4 = 0 then pu_R L (d + 8) 128 25 [.ref 0, .int v1, .int v2, mq_un, mq_un, mq_un] [.int 0] M3 (pu_qI Q) else pu_R L (d + 8) 128 25 [.ref 0, .int v1, .int v2, mq_un, mq_un, mq_un] [.int 1] M3 (pu_qI Q)))))) : pu_I L (d + 8) 128 [.ref 0, .int v1, .int v2] M Q := by
  show pu_R L (d + 8) 128 0 [.ref 0, .int v1, .int v2, mq_un, mq_un, mq_un] [] M (pu_qI Q)
  refine pu_go 2 (pc' := 3) (ls' := [.ref 0, .int v1, .int v2, mq_un, mq_un, mq_un]) (st' := [.int 10, .int v2]) (M' := M) rfl ?_
  refine pu_icmp_lt rfl (fun hc => ?_) (fun hc => ?_)
  · replace H := Eq.mp (if_pos hc) H
    refine pu_go 1 (pc' := 25) (ls' := [.ref 0, .int v1, .int v2, mq_un, mq_un, mq_un]) (st' := [.int 0]) (M' := M) rfl ?_
    exact H
  · replace H := Eq.mp (if_neg hc) H
    refine pu_go 1 (pc' := 7) (ls' := [.ref 0, .int v1, .int v2, mq_un, mq_un, mq_un]) (st' := [.ref 0]) (M' := M) rfl ?_
    obtain ⟨y1, e2, hy1, H⟩ := H
    refine pu_getf (j := 9) rfl rfl (by decide) rfl (by decide) rfl (pu_val_d e2 (Nat.lt_trans (pu_Y_lt hy1) (by decide))) ?_
    refine pu_go 3 (pc' := 14) (ls' := [.ref 0, .int v1, .int v2, mq_un, mq_un, mq_un]) (st' := [.int (v2 - 10), .ref y1]) (M' := M) rfl ?_
    refine pu_callI (m' := 100) (ml := 2) (as := [.ref y1, .int (v2 - 10)]) (rest := []) rfl (pu_virt (pu_Y_o hy1) (Nat.lt_trans (pu_Y_lt hy1) (by decide)) ⟨Nat.le_of_ble_eq_true rfl, Nat.le_of_ble_eq_true rfl⟩ rfl rfl) rfl (Nat.le_of_ble_eq_true rfl) H (fun x4 M3 H => ?_)
    show pu_R L (d + 8) 128 17 [.ref 0, .int v1, .int v2, mq_un, mq_un, mq_un] [.int x4] M3 _
    refine pu_if_eq rfl (fun hc => ?_) (fun hc => ?_)
    · replace H := Eq.mp (if_pos hc) H
      refine pu_go 1 (pc' := 25) (ls' := [.ref 0, .int v1, .int v2, mq_un, mq_un, mq_un]) (st' := [.int 0]) (M' := M3) rfl ?_
      exact H
    · replace H := Eq.mp (if_neg hc) H
      refine pu_go 2 (pc' := 25) (ls' := [.ref 0, .int v1, .int v2, mq_un, mq_un, mq_un]) (st' := [.int 1]) (M' := M3) rfl ?_
      exact H
/-! x_personIs (II)I -/
set_option maxRecDepth 20000 in
theorem r_x_personIs {L d : Nat} {M : pu_M} {Q : Int32 → pu_M → Prop} {v1 : Int32} {v2 : Int32} (H : (∃ y1, M 0 9 = nI y1 ∧ pu_isY y1 ∧ pu_I L (d + 3) 100 [.ref y1, .int v1] M (fun x4 M3 => (if x4 = 0 then Q ((-1)) M3 else (if v2 = 0 then (∃ y5, M3 0 9 = nI y5 ∧ pu_isY y5 ∧ (mq_inb v1 16 = true ∧ Q (M3 (y5 + 1) v1.toNatClampNeg) M3)) else (if v2 = 1 then (∃ y8, M3 0 9 = nI y8 ∧ pu_isY y8 ∧ (mq_inb v1 16 = true ∧ Q (M3 (y8 + 2) v1.toNatClampNeg) M3)) else (if v2 = 2 then (∃ y11, M3 0 9 = nI y11 ∧ pu_isY y11 ∧ (mq_inb v1 16 = true ∧ Q (M3 (y11 + 3) v1.toNatClampNeg) M3)) else (if v2 = 3 then (∃ y14, M3 0 9 = nI y14 ∧ pu_isY y14 ∧ pu_I L (d + 3) 114 [.ref y14, .int v1] M3 (fun x17 M16 => Q x17 M16)) else (if v2 = 4 then (∃ y18, M3 0 9 = nI y18 ∧ pu_isY y18 ∧ pu_I L (d + 3) 107 [.ref y18, .int v1] M3 (fun x21 M20 => Q x21 M20)) else Q ((-1)) M3))))))))) : pu_I L (d + 4) 129 [.ref 0, .int v1, .int v2] M Q := by
  show pu_R L (d + 4) 129 0 [.ref 0, .int v1, .int v2] [] M (pu_qI Q)
  refine pu_go 1 (pc' := 1) (ls' := [.ref 0, .int v1, .int v2]) (st' := [.ref 0]) (M' := M) rfl ?_
  obtain ⟨y1, e2, hy1, H⟩ := H
  refine pu_getf (j := 9) rfl rfl (by decide) rfl (by decide) rfl (pu_val_d e2 (Nat.lt_trans (pu_Y_lt hy1) (by decide))) ?_
  refine pu_go 1 (pc' := 5) (ls' := [.ref 0, .int v1, .int v2]) (st' := [.int v1, .ref y1]) (M' := M) rfl ?_
  refine pu_callI (m' := 100) (ml := 2) (as := [.ref y1, .int v1]) (rest := []) rfl (pu_virt (pu_Y_o hy1) (Nat.lt_trans (pu_Y_lt hy1) (by decide)) ⟨Nat.le_of_ble_eq_true rfl, Nat.le_of_ble_eq_true rfl⟩ rfl rfl) rfl (Nat.le_of_ble_eq_true rfl) H (fun x4 M3 H => ?_)
  show pu_R L (d + 4) 129 8 [.ref 0, .int v1, .int v2] [.int x4] M3 _
  refine pu_if_ne rfl (fun hc => ?_) (fun hc => ?_)
  · replace H := Eq.mp (if_neg hc) H
    refine pu_go 1 (pc' := 14) (ls' := [.ref 0, .int v1, .int v2]) (st' := [.int v2]) (M' := M3) rfl ?_
    skip
    by_cases hs14_0 : v2 = 0
    · replace H := Eq.mp (if_pos hs14_0) H
      refine pu_one (pc' := 48) (ls' := [.ref 0, .int v1, .int v2]) (st' := []) (M' := M3) rfl (by rw [hs14_0]; rfl) ?_
      refine pu_go 1 (pc' := 49) (ls' := [.ref 0, .int v1, .int v2]) (st' := [.ref 0]) (M' := M3) rfl ?_
      obtain ⟨y5, e6, hy5, H⟩ := H
      refine pu_getf (j := 9) rfl rfl (by decide) rfl (by decide) rfl (pu_val_d e6 (Nat.lt_trans (pu_Y_lt hy5) (by decide))) ?_
      refine pu_getf (j := 0) (w := .ref (y5 + 1)) rfl (pu_Y_o hy5) (Nat.lt_trans (pu_Y_lt hy5) (by decide)) rfl (by decide) rfl rfl ?_
      refine pu_go 1 (pc' := 56) (ls' := [.ref 0, .int v1, .int v2]) (st' := [.int v1, .ref (y5 + 1)]) (M' := M3) rfl ?_
      obtain ⟨hb7, H⟩ := H
      refine pu_iald rfl (pu_Y_1 hy5) (Or.inl (pu_Y_l1 hy5)) hb7 ?_
      exact pu_ret rfl rfl ⟨_, rfl, H⟩
    replace H := Eq.mp (if_neg hs14_0) H
    by_cases hs14_1 : v2 = 1
    · replace H := Eq.mp (if_pos hs14_1) H
      refine pu_one (pc' := 58) (ls' := [.ref 0, .int v1, .int v2]) (st' := []) (M' := M3) rfl (by rw [hs14_1]; rfl) ?_
      refine pu_go 1 (pc' := 59) (ls' := [.ref 0, .int v1, .int v2]) (st' := [.ref 0]) (M' := M3) rfl ?_
      obtain ⟨y8, e9, hy8, H⟩ := H
      refine pu_getf (j := 9) rfl rfl (by decide) rfl (by decide) rfl (pu_val_d e9 (Nat.lt_trans (pu_Y_lt hy8) (by decide))) ?_
      refine pu_getf (j := 1) (w := .ref (y8 + 2)) rfl (pu_Y_o hy8) (Nat.lt_trans (pu_Y_lt hy8) (by decide)) rfl (by decide) rfl rfl ?_
      refine pu_go 1 (pc' := 66) (ls' := [.ref 0, .int v1, .int v2]) (st' := [.int v1, .ref (y8 + 2)]) (M' := M3) rfl ?_
      obtain ⟨hb10, H⟩ := H
      refine pu_iald rfl (pu_Y_2 hy8) (Or.inl (pu_Y_l2 hy8)) hb10 ?_
      exact pu_ret rfl rfl ⟨_, rfl, H⟩
    replace H := Eq.mp (if_neg hs14_1) H
    by_cases hs14_2 : v2 = 2
    · replace H := Eq.mp (if_pos hs14_2) H
      refine pu_one (pc' := 68) (ls' := [.ref 0, .int v1, .int v2]) (st' := []) (M' := M3) rfl (by rw [hs14_2]; rfl) ?_
      refine pu_go 1 (pc' := 69) (ls' := [.ref 0, .int v1, .int v2]) (st' := [.ref 0]) (M' := M3) rfl ?_
      obtain ⟨y11, e12, hy11, H⟩ := H
      refine pu_getf (j := 9) rfl rfl (by decide) rfl (by decide) rfl (pu_val_d e12 (Nat.lt_trans (pu_Y_lt hy11) (by decide))) ?_
      refine pu_getf (j := 2) (w := .ref (y11 + 3)) rfl (pu_Y_o hy11) (Nat.lt_trans (pu_Y_lt hy11) (by decide)) rfl (by decide) rfl rfl ?_
      refine pu_go 1 (pc' := 76) (ls' := [.ref 0, .int v1, .int v2]) (st' := [.int v1, .ref (y11 + 3)]) (M' := M3) rfl ?_
      obtain ⟨hb13, H⟩ := H
      refine pu_iald rfl (pu_Y_3 hy11) (Or.inl (pu_Y_l3 hy11)) hb13 ?_
      exact pu_ret rfl rfl ⟨_, rfl, H⟩
    replace H := Eq.mp (if_neg hs14_2) H
    by_cases hs14_3 : v2 = 3
    · replace H := Eq.mp (if_pos hs14_3) H
      refine pu_one (pc' := 78) (ls' := [.ref 0, .int v1, .int v2]) (st' := []) (M' := M3) rfl (by rw [hs14_3]; rfl) ?_
      refine pu_go 1 (pc' := 79) (ls' := [.ref 0, .int v1, .int v2]) (st' := [.ref 0]) (M' := M3) rfl ?_
      obtain ⟨y14, e15, hy14, H⟩ := H
      refine pu_getf (j := 9) rfl rfl (by decide) rfl (by decide) rfl (pu_val_d e15 (Nat.lt_trans (pu_Y_lt hy14) (by decide))) ?_
      refine pu_go 1 (pc' := 83) (ls' := [.ref 0, .int v1, .int v2]) (st' := [.int v1, .ref y14]) (M' := M3) rfl ?_
      refine pu_callI (m' := 114) (ml := 2) (as := [.ref y14, .int v1]) (rest := []) rfl (pu_virt (pu_Y_o hy14) (Nat.lt_trans (pu_Y_lt hy14) (by decide)) ⟨Nat.le_of_ble_eq_true rfl, Nat.le_of_ble_eq_true rfl⟩ rfl rfl) rfl (Nat.le_of_ble_eq_true rfl) H (fun x17 M16 H => ?_)
      show pu_R L (d + 4) 129 86 [.ref 0, .int v1, .int v2] [.int x17] M16 _
      exact pu_ret rfl rfl ⟨_, rfl, H⟩
    replace H := Eq.mp (if_neg hs14_3) H
    by_cases hs14_4 : v2 = 4
    · replace H := Eq.mp (if_pos hs14_4) H
      refine pu_one (pc' := 87) (ls' := [.ref 0, .int v1, .int v2]) (st' := []) (M' := M3) rfl (by rw [hs14_4]; rfl) ?_
      refine pu_go 1 (pc' := 88) (ls' := [.ref 0, .int v1, .int v2]) (st' := [.ref 0]) (M' := M3) rfl ?_
      obtain ⟨y18, e19, hy18, H⟩ := H
      refine pu_getf (j := 9) rfl rfl (by decide) rfl (by decide) rfl (pu_val_d e19 (Nat.lt_trans (pu_Y_lt hy18) (by decide))) ?_
      refine pu_go 1 (pc' := 92) (ls' := [.ref 0, .int v1, .int v2]) (st' := [.int v1, .ref y18]) (M' := M3) rfl ?_
      refine pu_callI (m' := 107) (ml := 5) (as := [.ref y18, .int v1]) (rest := []) rfl (pu_virt (pu_Y_o hy18) (Nat.lt_trans (pu_Y_lt hy18) (by decide)) ⟨Nat.le_of_ble_eq_true rfl, Nat.le_of_ble_eq_true rfl⟩ rfl rfl) rfl (Nat.le_of_ble_eq_true rfl) H (fun x21 M20 H => ?_)
      show pu_R L (d + 4) 129 95 [.ref 0, .int v1, .int v2] [.int x21] M20 _
      exact pu_ret rfl rfl ⟨_, rfl, H⟩
    replace H := Eq.mp (if_neg hs14_4) H
    refine pu_one (pc' := 96) (ls' := [.ref 0, .int v1, .int v2]) (st' := []) (M' := M3) rfl (congrArg (fun z => mq_nx z _ _ _) (pu_tabD [0, 1, 2, 3, 4] (by simp only [List.forall_mem_cons, List.not_mem_nil, false_implies, implies_true, and_true]; exact ⟨hs14_0, hs14_1, hs14_2, hs14_3, hs14_4⟩) (by decide))) ?_
    refine pu_go 1 (pc' := 97) (ls' := [.ref 0, .int v1, .int v2]) (st' := [.int ((-1))]) (M' := M3) rfl ?_
    exact pu_ret rfl rfl ⟨_, rfl, H⟩
  · replace H := Eq.mp (if_pos hc) H
    refine pu_go 1 (pc' := 12) (ls' := [.ref 0, .int v1, .int v2]) (st' := [.int ((-1))]) (M' := M3) rfl ?_
    exact pu_ret rfl rfl ⟨_, rfl, H⟩
/-! x_talk (II)I -/
set_option maxRecDepth 20000 in
theorem r_x_talk {L d : Nat} {M : pu_M} {Q : Int32 → pu_M → Prop} {v1 : Int32} {v2 : Int32} (H : (∃ y1, M 0 9 = nI y1 ∧ pu_isY y1 ∧ pu_I L (d + 2) 100 [.ref y1, .int v1] M (fun x4 M3 => (if x4 = 0 then Q ((-1000)) M3 else (∃ y5, M3 0 9 = nI y5 ∧ pu_isY y5 ∧ pu_I L (d + 2) 100 [.ref y5, .int v2] M3 (fun x8 M7 => (if x8 = 0 then Q ((-1000)) M7 else (if v1 = v2 then Q ((-1000)) M7 else (∃ y9, M7 0 9 = nI y9 ∧ pu_isY y9 ∧ pu_I L (d + 2) 118 [.ref y9, .int v1, .int v2] M7 (fun x12 M11 => Q x12 M11)))))))))) : pu_I L (d + 3) 130 [.ref 0, .int v1, .int v2] M Q := by
  show pu_R L (d + 3) 130 0 [.ref 0, .int v1, .int v2] [] M (pu_qI Q)
  refine pu_go 1 (pc' := 1) (ls' := [.ref 0, .int v1, .int v2]) (st' := [.ref 0]) (M' := M) rfl ?_
  obtain ⟨y1, e2, hy1, H⟩ := H
  refine pu_getf (j := 9) rfl rfl (by decide) rfl (by decide) rfl (pu_val_d e2 (Nat.lt_trans (pu_Y_lt hy1) (by decide))) ?_
  refine pu_go 1 (pc' := 5) (ls' := [.ref 0, .int v1, .int v2]) (st' := [.int v1, .ref y1]) (M' := M) rfl ?_
  refine pu_callI (m' := 100) (ml := 2) (as := [.ref y1, .int v1]) (rest := []) rfl (pu_virt (pu_Y_o hy1) (Nat.lt_trans (pu_Y_lt hy1) (by decide)) ⟨Nat.le_of_ble_eq_true rfl, Nat.le_of_ble_eq_true rfl⟩ rfl rfl) rfl (Nat.le_of_ble_eq_true rfl) H (fun x4 M3 H => ?_)
  show pu_R L (d + 3) 130 8 [.ref 0, .int v1, .int v2] [.int x4] M3 _
  refine pu_if_eq rfl (fun hc => ?_) (fun hc => ?_)
  · replace H := Eq.mp (if_pos hc) H
    refine pu_go 1 (pc' := 30) (ls' := [.ref 0, .int v1, .int v2]) (st' := [.int ((-1000))]) (M' := M3) rfl ?_
    exact pu_ret rfl rfl ⟨_, rfl, H⟩
  · replace H := Eq.mp (if_neg hc) H
    refine pu_go 1 (pc' := 12) (ls' := [.ref 0, .int v1, .int v2]) (st' := [.ref 0]) (M' := M3) rfl ?_
    obtain ⟨y5, e6, hy5, H⟩ := H
    refine pu_getf (j := 9) rfl rfl (by decide) rfl (by decide) rfl (pu_val_d e6 (Nat.lt_trans (pu_Y_lt hy5) (by decide))) ?_
    refine pu_go 1 (pc' := 16) (ls' := [.ref 0, .int v1, .int v2]) (st' := [.int v2, .ref y5]) (M' := M3) rfl ?_
    refine pu_callI (m' := 100) (ml := 2) (as := [.ref y5, .int v2]) (rest := []) rfl (pu_virt (pu_Y_o hy5) (Nat.lt_trans (pu_Y_lt hy5) (by decide)) ⟨Nat.le_of_ble_eq_true rfl, Nat.le_of_ble_eq_true rfl⟩ rfl rfl) rfl (Nat.le_of_ble_eq_true rfl) H (fun x8 M7 H => ?_)
    show pu_R L (d + 3) 130 19 [.ref 0, .int v1, .int v2] [.int x8] M7 _
    refine pu_if_eq rfl (fun hc => ?_) (fun hc => ?_)
    · replace H := Eq.mp (if_pos hc) H
      refine pu_go 1 (pc' := 30) (ls' := [.ref 0, .int v1, .int v2]) (st' := [.int ((-1000))]) (M' := M7) rfl ?_
      exact pu_ret rfl rfl ⟨_, rfl, H⟩
    · replace H := Eq.mp (if_neg hc) H
      refine pu_go 2 (pc' := 24) (ls' := [.ref 0, .int v1, .int v2]) (st' := [.int v2, .int v1]) (M' := M7) rfl ?_
      refine pu_icmp_ne rfl (fun hc => ?_) (fun hc => ?_)
      · replace H := Eq.mp (if_neg hc) H
        refine pu_go 1 (pc' := 32) (ls' := [.ref 0, .int v1, .int v2]) (st' := [.ref 0]) (M' := M7) rfl ?_
        obtain ⟨y9, e10, hy9, H⟩ := H
        refine pu_getf (j := 9) rfl rfl (by decide) rfl (by decide) rfl (pu_val_d e10 (Nat.lt_trans (pu_Y_lt hy9) (by decide))) ?_
        refine pu_go 2 (pc' := 37) (ls' := [.ref 0, .int v1, .int v2]) (st' := [.int v2, .int v1, .ref y9]) (M' := M7) rfl ?_
        refine pu_callI (m' := 118) (ml := 4) (as := [.ref y9, .int v1, .int v2]) (rest := []) rfl (pu_virt (pu_Y_o hy9) (Nat.lt_trans (pu_Y_lt hy9) (by decide)) ⟨Nat.le_of_ble_eq_true rfl, Nat.le_of_ble_eq_true rfl⟩ rfl rfl) rfl (Nat.le_of_ble_eq_true rfl) H (fun x12 M11 H => ?_)
        show pu_R L (d + 3) 130 40 [.ref 0, .int v1, .int v2] [.int x12] M11 _
        exact pu_ret rfl rfl ⟨_, rfl, H⟩
      · replace H := Eq.mp (if_pos hc) H
        refine pu_go 1 (pc' := 30) (ls' := [.ref 0, .int v1, .int v2]) (st' := [.int ((-1000))]) (M' := M7) rfl ?_
        exact pu_ret rfl rfl ⟨_, rfl, H⟩
/-! x_yardTalk ()I -/
set_option maxRecDepth 20000 in
theorem r_x_yardTalk_4 {L d : Nat} {M : pu_M} {Q : Int32 → pu_M → Prop} {v1 : Int32} {v2 : Int32} (H : (if 16 ≤ v2 then Q (v1 / 2) M else (∃ y1, M 0 9 = nI y1 ∧ pu_isY y1 ∧ pu_I L (d + 3) 102 [.ref y1, .int v2] M (fun x4 M3 => (if x4 = 0 then pu_R L (d + 4) 131 4 [.ref 0, .int v1, .int (v2 + 1)] [] M3 (pu_qI Q) else (∃ y5, M3 0 9 = nI y5 ∧ pu_isY y5 ∧ (∃ y7, M3 0 9 = nI y7 ∧ pu_isY y7 ∧ (mq_inb v2 16 = true ∧ pu_I L (d + 3) 119 [.ref y5, .int v2, .int (M3 (y7 + 3) v2.toNatClampNeg), .int 0] M3 (fun x11 M10 => pu_R L (d + 4) 131 4 [.ref 0, .int (v1 + x11), .int (v2 + 1)] [] M10 (pu_qI Q)))))))))) : pu_R L (d + 4) 131 4 [.ref 0, .int v1, .int v2] [] M (pu_qI Q) := by
  refine pu_go 2 (pc' := 7) (ls' := [.ref 0, .int v1, .int v2]) (st' := [.int 16, .int v2]) (M' := M) rfl ?_
  refine pu_icmp_ge rfl (fun hc => ?_) (fun hc => ?_)
  · replace H := Eq.mp (if_pos hc) H
    refine pu_go 2 (pc' := 50) (ls' := [.ref 0, .int v1, .int v2]) (st' := [.int 2, .int v1]) (M' := M) rfl ?_
    refine pu_div rfl (by decide) ?_
    exact pu_ret rfl rfl ⟨_, rfl, H⟩
  · replace H := Eq.mp (if_neg hc) H
    refine pu_go 1 (pc' := 11) (ls' := [.ref 0, .int v1, .int v2]) (st' := [.ref 0]) (M' := M) rfl ?_
    obtain ⟨y1, e2, hy1, H⟩ := H
    refine pu_getf (j := 9) rfl rfl (by decide) rfl (by decide) rfl (pu_val_d e2 (Nat.lt_trans (pu_Y_lt hy1) (by decide))) ?_
    refine pu_go 1 (pc' := 15) (ls' := [.ref 0, .int v1, .int v2]) (st' := [.int v2, .ref y1]) (M' := M) rfl ?_
    refine pu_callI (m' := 102) (ml := 2) (as := [.ref y1, .int v2]) (rest := []) rfl (pu_virt (pu_Y_o hy1) (Nat.lt_trans (pu_Y_lt hy1) (by decide)) ⟨Nat.le_of_ble_eq_true rfl, Nat.le_of_ble_eq_true rfl⟩ rfl rfl) rfl (Nat.le_of_ble_eq_true rfl) H (fun x4 M3 H => ?_)
    show pu_R L (d + 4) 131 18 [.ref 0, .int v1, .int v2] [.int x4] M3 _
    refine pu_if_eq rfl (fun hc => ?_) (fun hc => ?_)
    · replace H := Eq.mp (if_pos hc) H
      refine pu_go 2 (pc' := 4) (ls' := [.ref 0, .int v1, .int (v2 + 1)]) (st' := []) (M' := M3) rfl ?_
      exact H
    · replace H := Eq.mp (if_neg hc) H
      refine pu_go 2 (pc' := 23) (ls' := [.ref 0, .int v1, .int v2]) (st' := [.ref 0, .int v1]) (M' := M3) rfl ?_
      obtain ⟨y5, e6, hy5, H⟩ := H
      refine pu_getf (j := 9) rfl rfl (by decide) rfl (by decide) rfl (pu_val_d e6 (Nat.lt_trans (pu_Y_lt hy5) (by decide))) ?_
      refine pu_go 2 (pc' := 28) (ls' := [.ref 0, .int v1, .int v2]) (st' := [.ref 0, .int v2, .ref y5, .int v1]) (M' := M3) rfl ?_
      obtain ⟨y7, e8, hy7, H⟩ := H
      refine pu_getf (j := 9) rfl rfl (by decide) rfl (by decide) rfl (pu_val_d e8 (Nat.lt_trans (pu_Y_lt hy7) (by decide))) ?_
      refine pu_getf (j := 2) (w := .ref (y7 + 3)) rfl (pu_Y_o hy7) (Nat.lt_trans (pu_Y_lt hy7) (by decide)) rfl (by decide) rfl rfl ?_
      refine pu_go 1 (pc' := 35) (ls' := [.ref 0, .int v1, .int v2]) (st' := [.int v2, .ref (y7 + 3), .int v2, .ref y5, .int v1]) (M' := M3) rfl ?_
      obtain ⟨hb9, H⟩ := H
      refine pu_iald rfl (pu_Y_3 hy7) (Or.inl (pu_Y_l3 hy7)) hb9 ?_
      refine pu_go 1 (pc' := 37) (ls' := [.ref 0, .int v1, .int v2]) (st' := [.int 0, .int (M3 (y7 + 3) v2.toNatClampNeg), .int v2, .ref y5, .int v1]) (M' := M3) rfl ?_
      refine pu_callI (m' := 119) (ml := 7) (as := [.ref y5, .int v2, .int (M3 (y7 + 3) v2.toNatClampNeg), .int 0]) (rest := [.int v1]) rfl (pu_virt (pu_Y_o hy5) (Nat.lt_trans (pu_Y_lt hy5) (by decide)) ⟨Nat.le_of_ble_eq_true rfl, Nat.le_of_ble_eq_true rfl⟩ rfl rfl) rfl (Nat.le_of_ble_eq_true rfl) H (fun x11 M10 H => ?_)
      show pu_R L (d + 4) 131 40 [.ref 0, .int v1, .int v2] [.int x11, .int v1] M10 _
      refine pu_go 4 (pc' := 4) (ls' := [.ref 0, .int (v1 + x11), .int (v2 + 1)]) (st' := []) (M' := M10) rfl ?_
      exact H
set_option maxRecDepth 20000 in
theorem r_x_yardTalk {L d : Nat} {M : pu_M} {Q : Int32 → pu_M → Prop}  (H : pu_R L (d + 4) 131 4 [.ref 0, .int 0, .int 0] [] M (pu_qI Q)) : pu_I L (d + 4) 131 [.ref 0] M Q := by
  show pu_R L (d + 4) 131 0 [.ref 0, mq_un, mq_un] [] M (pu_qI Q)
  refine pu_go 4 (pc' := 4) (ls' := [.ref 0, .int 0, .int 0]) (st' := []) (M' := M) rfl ?_
  exact H
/-! x_best (II)I -/
set_option maxRecDepth 20000 in
theorem r_x_best {L d : Nat} {M : pu_M} {Q : Int32 → pu_M → Prop} {v1 : Int32} {v2 : Int32} (H : (∃ y1, M 0 9 = nI y1 ∧ pu_isY y1 ∧ pu_I L (d + 4) 100 [.ref y1, .int v1] M (fun x4 M3 => (if x4 = 0 then Q ((-1000)) M3 else (if v2 < 0 then Q ((-1000)) M3 else (if v2 ≤ 1 then (∃ y5, M3 0 9 = nI y5 ∧ pu_isY y5 ∧ pu_V L (d + 4) 69 [.ref 5, .ref y5, .int v1] M3 (fun M7 => (if v2 = 0 then Q (M7 5 1) M7 else Q (M7 5 2) M7))) else Q ((-1000)) M3)))))) : pu_I L (d + 5) 132 [.ref 0, .int v1, .int v2] M Q := by
  show pu_R L (d + 5) 132 0 [.ref 0, .int v1, .int v2] [] M (pu_qI Q)
  refine pu_go 1 (pc' := 1) (ls' := [.ref 0, .int v1, .int v2]) (st' := [.ref 0]) (M' := M) rfl ?_
  obtain ⟨y1, e2, hy1, H⟩ := H
  refine pu_getf (j := 9) rfl rfl (by decide) rfl (by decide) rfl (pu_val_d e2 (Nat.lt_trans (pu_Y_lt hy1) (by decide))) ?_
  refine pu_go 1 (pc' := 5) (ls' := [.ref 0, .int v1, .int v2]) (st' := [.int v1, .ref y1]) (M' := M) rfl ?_
  refine pu_callI (m' := 100) (ml := 2) (as := [.ref y1, .int v1]) (rest := []) rfl (pu_virt (pu_Y_o hy1) (Nat.lt_trans (pu_Y_lt hy1) (by decide)) ⟨Nat.le_of_ble_eq_true rfl, Nat.le_of_ble_eq_true rfl⟩ rfl rfl) rfl (Nat.le_of_ble_eq_true rfl) H (fun x4 M3 H => ?_)
  show pu_R L (d + 5) 132 8 [.ref 0, .int v1, .int v2] [.int x4] M3 _
  refine pu_if_eq rfl (fun hc => ?_) (fun hc => ?_)
  · replace H := Eq.mp (if_pos hc) H
    refine pu_go 1 (pc' := 23) (ls' := [.ref 0, .int v1, .int v2]) (st' := [.int ((-1000))]) (M' := M3) rfl ?_
    exact pu_ret rfl rfl ⟨_, rfl, H⟩
  · replace H := Eq.mp (if_neg hc) H
    refine pu_go 1 (pc' := 12) (ls' := [.ref 0, .int v1, .int v2]) (st' := [.int v2]) (M' := M3) rfl ?_
    refine pu_if_lt rfl (fun hc => ?_) (fun hc => ?_)
    · replace H := Eq.mp (if_pos hc) H
      refine pu_go 1 (pc' := 23) (ls' := [.ref 0, .int v1, .int v2]) (st' := [.int ((-1000))]) (M' := M3) rfl ?_
      exact pu_ret rfl rfl ⟨_, rfl, H⟩
    · replace H := Eq.mp (if_neg hc) H
      refine pu_go 2 (pc' := 17) (ls' := [.ref 0, .int v1, .int v2]) (st' := [.int 1, .int v2]) (M' := M3) rfl ?_
      refine pu_icmp_le rfl (fun hc => ?_) (fun hc => ?_)
      · replace H := Eq.mp (if_pos hc) H
        refine pu_go 3 (pc' := 29) (ls' := [.ref 0, .int v1, .int v2]) (st' := [.ref 0, .ref 5]) (M' := M3) rfl ?_
        obtain ⟨y5, e6, hy5, H⟩ := H
        refine pu_getf (j := 9) rfl rfl (by decide) rfl (by decide) rfl (pu_val_d e6 (Nat.lt_trans (pu_Y_lt hy5) (by decide))) ?_
        refine pu_go 1 (pc' := 33) (ls' := [.ref 0, .int v1, .int v2]) (st' := [.int v1, .ref y5, .ref 5]) (M' := M3) rfl ?_
        refine pu_callV (m' := 69) (ml := 4) (as := [.ref 5, .ref y5, .int v1]) (rest := []) rfl rfl rfl (Nat.le_of_ble_eq_true rfl) H (fun M7 H => ?_)
        show pu_R L (d + 5) 132 36 [.ref 0, .int v1, .int v2] [] M7 _
        refine pu_go 1 (pc' := 37) (ls' := [.ref 0, .int v1, .int v2]) (st' := [.int v2]) (M' := M7) rfl ?_
        refine pu_if_ne rfl (fun hc => ?_) (fun hc => ?_)
        · replace H := Eq.mp (if_neg hc) H
          refine pu_go 3 (pc' := 57) (ls' := [.ref 0, .int v1, .int v2]) (st' := [.int (M7 5 2)]) (M' := M7) rfl ?_
          exact pu_ret rfl rfl ⟨_, rfl, H⟩
        · replace H := Eq.mp (if_pos hc) H
          refine pu_go 4 (pc' := 57) (ls' := [.ref 0, .int v1, .int v2]) (st' := [.int (M7 5 1)]) (M' := M7) rfl ?_
          exact pu_ret rfl rfl ⟨_, rfl, H⟩
      · replace H := Eq.mp (if_neg hc) H
        refine pu_go 1 (pc' := 23) (ls' := [.ref 0, .int v1, .int v2]) (st' := [.int ((-1000))]) (M' := M3) rfl ?_
        exact pu_ret rfl rfl ⟨_, rfl, H⟩
/-! x_move (I)I -/
set_option maxRecDepth 20000 in
theorem r_x_move {L d : Nat} {M : pu_M} {Q : Int32 → pu_M → Prop} {v1 : Int32} (H : (if v1 < 0 then Q ((-1)) M else (if v1 ≤ 2 then (∃ y1, M 0 9 = nI y1 ∧ pu_isY y1 ∧ pu_V L (d + 4) 70 [.ref 5, .ref y1] M (fun M3 => pu_I L (d + 4) 65 [.ref 5, .int v1] M3 (fun x5 M4 => Q x5 M4))) else Q ((-1)) M))) : pu_I L (d + 5) 133 [.ref 0, .int v1] M Q := by
  show pu_R L (d + 5) 133 0 [.ref 0, .int v1] [] M (pu_qI Q)
  refine pu_go 1 (pc' := 1) (ls' := [.ref 0, .int v1]) (st' := [.int v1]) (M' := M) rfl ?_
  refine pu_if_lt rfl (fun hc => ?_) (fun hc => ?_)
  · replace H := Eq.mp (if_pos hc) H
    refine pu_go 1 (pc' := 10) (ls' := [.ref 0, .int v1]) (st' := [.int ((-1))]) (M' := M) rfl ?_
    exact pu_ret rfl rfl ⟨_, rfl, H⟩
  · replace H := Eq.mp (if_neg hc) H
    refine pu_go 2 (pc' := 6) (ls' := [.ref 0, .int v1]) (st' := [.int 2, .int v1]) (M' := M) rfl ?_
    refine pu_icmp_le rfl (fun hc => ?_) (fun hc => ?_)
    · replace H := Eq.mp (if_pos hc) H
      refine pu_go 3 (pc' := 16) (ls' := [.ref 0, .int v1]) (st' := [.ref 0, .ref 5]) (M' := M) rfl ?_
      obtain ⟨y1, e2, hy1, H⟩ := H
      refine pu_getf (j := 9) rfl rfl (by decide) rfl (by decide) rfl (pu_val_d e2 (Nat.lt_trans (pu_Y_lt hy1) (by decide))) ?_
      refine pu_callV (m' := 70) (ml := 5) (as := [.ref 5, .ref y1]) (rest := []) rfl rfl rfl (Nat.le_of_ble_eq_true rfl) H (fun M3 H => ?_)
      show pu_R L (d + 5) 133 22 [.ref 0, .int v1] [] M3 _
      refine pu_go 3 (pc' := 27) (ls' := [.ref 0, .int v1]) (st' := [.int v1, .ref 5]) (M' := M3) rfl ?_
      refine pu_callI (m' := 65) (ml := 2) (as := [.ref 5, .int v1]) (rest := []) rfl rfl rfl (Nat.le_of_ble_eq_true rfl) H (fun x5 M4 H => ?_)
      show pu_R L (d + 5) 133 30 [.ref 0, .int v1] [.int x5] M4 _
      exact pu_ret rfl rfl ⟨_, rfl, H⟩
    · replace H := Eq.mp (if_neg hc) H
      refine pu_go 1 (pc' := 10) (ls' := [.ref 0, .int v1]) (st' := [.int ((-1))]) (M' := M) rfl ?_
      exact pu_ret rfl rfl ⟨_, rfl, H⟩
/-! x_change (I)I -/
set_option maxRecDepth 20000 in
theorem r_x_change {L d : Nat} {M : pu_M} {Q : Int32 → pu_M → Prop} {v1 : Int32} (H : (if v1 < 0 then Q ((-1)) M else (if v1 ≤ 2 then (∃ y1, M 0 9 = nI y1 ∧ pu_isY y1 ∧ pu_V L (d + 5) 71 [.ref 5, .ref y1] M (fun M3 => pu_I L (d + 5) 65 [.ref 5, .int v1] M3 (fun x5 M4 => Q x5 M4))) else Q ((-1)) M))) : pu_I L (d + 6) 134 [.ref 0, .int v1] M Q := by
  show pu_R L (d + 6) 134 0 [.ref 0, .int v1] [] M (pu_qI Q)
  refine pu_go 1 (pc' := 1) (ls' := [.ref 0, .int v1]) (st' := [.int v1]) (M' := M) rfl ?_
  refine pu_if_lt rfl (fun hc => ?_) (fun hc => ?_)
  · replace H := Eq.mp (if_pos hc) H
    refine pu_go 1 (pc' := 10) (ls' := [.ref 0, .int v1]) (st' := [.int ((-1))]) (M' := M) rfl ?_
    exact pu_ret rfl rfl ⟨_, rfl, H⟩
  · replace H := Eq.mp (if_neg hc) H
    refine pu_go 2 (pc' := 6) (ls' := [.ref 0, .int v1]) (st' := [.int 2, .int v1]) (M' := M) rfl ?_
    refine pu_icmp_le rfl (fun hc => ?_) (fun hc => ?_)
    · replace H := Eq.mp (if_pos hc) H
      refine pu_go 3 (pc' := 16) (ls' := [.ref 0, .int v1]) (st' := [.ref 0, .ref 5]) (M' := M) rfl ?_
      obtain ⟨y1, e2, hy1, H⟩ := H
      refine pu_getf (j := 9) rfl rfl (by decide) rfl (by decide) rfl (pu_val_d e2 (Nat.lt_trans (pu_Y_lt hy1) (by decide))) ?_
      refine pu_callV (m' := 71) (ml := 4) (as := [.ref 5, .ref y1]) (rest := []) rfl rfl rfl (Nat.le_of_ble_eq_true rfl) H (fun M3 H => ?_)
      show pu_R L (d + 6) 134 22 [.ref 0, .int v1] [] M3 _
      refine pu_go 3 (pc' := 27) (ls' := [.ref 0, .int v1]) (st' := [.int v1, .ref 5]) (M' := M3) rfl ?_
      refine pu_callI (m' := 65) (ml := 2) (as := [.ref 5, .int v1]) (rest := []) rfl rfl rfl (Nat.le_of_ble_eq_true rfl) H (fun x5 M4 H => ?_)
      show pu_R L (d + 6) 134 30 [.ref 0, .int v1] [.int x5] M4 _
      exact pu_ret rfl rfl ⟨_, rfl, H⟩
    · replace H := Eq.mp (if_neg hc) H
      refine pu_go 1 (pc' := 10) (ls' := [.ref 0, .int v1]) (st' := [.int ((-1))]) (M' := M) rfl ?_
      exact pu_ret rfl rfl ⟨_, rfl, H⟩
/-! x_hold (I)I -/
set_option maxRecDepth 20000 in
theorem r_x_hold {L d : Nat} {M : pu_M} {Q : Int32 → pu_M → Prop} {v1 : Int32} (H : (if v1 < 0 then Q ((-1)) M else (if v1 ≤ 1 then (if v1 = 0 then (∃ y7, M 0 13 = nI y7 ∧ pu_isW y7 ∧ (∃ y9, M 0 9 = nI y9 ∧ pu_isY y9 ∧ pu_I L (d + 5) 94 [.ref y7, .ref y9] M (fun x12 M11 => Q x12 M11))) else (∃ y1, M 0 13 = nI y1 ∧ pu_isW y1 ∧ (∃ y3, M 0 9 = nI y3 ∧ pu_isY y3 ∧ pu_I L (d + 5) 95 [.ref y1, .ref y3] M (fun x6 M5 => Q x6 M5)))) else Q ((-1)) M))) : pu_I L (d + 6) 135 [.ref 0, .int v1] M Q := by
  show pu_R L (d + 6) 135 0 [.ref 0, .int v1] [] M (pu_qI Q)
  refine pu_go 1 (pc' := 1) (ls' := [.ref 0, .int v1]) (st' := [.int v1]) (M' := M) rfl ?_
  refine pu_if_lt rfl (fun hc => ?_) (fun hc => ?_)
  · replace H := Eq.mp (if_pos hc) H
    refine pu_go 1 (pc' := 10) (ls' := [.ref 0, .int v1]) (st' := [.int ((-1))]) (M' := M) rfl ?_
    exact pu_ret rfl rfl ⟨_, rfl, H⟩
  · replace H := Eq.mp (if_neg hc) H
    refine pu_go 2 (pc' := 6) (ls' := [.ref 0, .int v1]) (st' := [.int 1, .int v1]) (M' := M) rfl ?_
    refine pu_icmp_le rfl (fun hc => ?_) (fun hc => ?_)
    · replace H := Eq.mp (if_pos hc) H
      refine pu_go 1 (pc' := 12) (ls' := [.ref 0, .int v1]) (st' := [.int v1]) (M' := M) rfl ?_
      refine pu_if_ne rfl (fun hc => ?_) (fun hc => ?_)
      · replace H := Eq.mp (if_neg hc) H
        refine pu_go 1 (pc' := 30) (ls' := [.ref 0, .int v1]) (st' := [.ref 0]) (M' := M) rfl ?_
        obtain ⟨y1, e2, hy1, H⟩ := H
        refine pu_getf (j := 13) rfl rfl (by decide) rfl (by decide) rfl (pu_val_d e2 (Nat.lt_trans (pu_W_lt hy1) (by decide))) ?_
        refine pu_go 1 (pc' := 34) (ls' := [.ref 0, .int v1]) (st' := [.ref 0, .ref y1]) (M' := M) rfl ?_
        obtain ⟨y3, e4, hy3, H⟩ := H
        refine pu_getf (j := 9) rfl rfl (by decide) rfl (by decide) rfl (pu_val_d e4 (Nat.lt_trans (pu_Y_lt hy3) (by decide))) ?_
        refine pu_callI (m' := 95) (ml := 3) (as := [.ref y1, .ref y3]) (rest := []) rfl (pu_virt (pu_W_o hy1) (Nat.lt_trans (pu_W_lt hy1) (by decide)) ⟨Nat.le_of_ble_eq_true rfl, Nat.le_of_ble_eq_true rfl⟩ rfl rfl) rfl (Nat.le_of_ble_eq_true rfl) H (fun x6 M5 H => ?_)
        show pu_R L (d + 6) 135 40 [.ref 0, .int v1] [.int x6] M5 _
        exact pu_ret rfl rfl ⟨_, rfl, H⟩
      · replace H := Eq.mp (if_pos hc) H
        refine pu_go 1 (pc' := 16) (ls' := [.ref 0, .int v1]) (st' := [.ref 0]) (M' := M) rfl ?_
        obtain ⟨y7, e8, hy7, H⟩ := H
        refine pu_getf (j := 13) rfl rfl (by decide) rfl (by decide) rfl (pu_val_d e8 (Nat.lt_trans (pu_W_lt hy7) (by decide))) ?_
        refine pu_go 1 (pc' := 20) (ls' := [.ref 0, .int v1]) (st' := [.ref 0, .ref y7]) (M' := M) rfl ?_
        obtain ⟨y9, e10, hy9, H⟩ := H
        refine pu_getf (j := 9) rfl rfl (by decide) rfl (by decide) rfl (pu_val_d e10 (Nat.lt_trans (pu_Y_lt hy9) (by decide))) ?_
        refine pu_callI (m' := 94) (ml := 4) (as := [.ref y7, .ref y9]) (rest := []) rfl (pu_virt (pu_W_o hy7) (Nat.lt_trans (pu_W_lt hy7) (by decide)) ⟨Nat.le_of_ble_eq_true rfl, Nat.le_of_ble_eq_true rfl⟩ rfl rfl) rfl (Nat.le_of_ble_eq_true rfl) H (fun x12 M11 H => ?_)
        show pu_R L (d + 6) 135 26 [.ref 0, .int v1] [.int x12] M11 _
        refine pu_go 1 (pc' := 40) (ls' := [.ref 0, .int v1]) (st' := [.int x12]) (M' := M11) rfl ?_
        exact pu_ret rfl rfl ⟨_, rfl, H⟩
    · replace H := Eq.mp (if_neg hc) H
      refine pu_go 1 (pc' := 10) (ls' := [.ref 0, .int v1]) (st' := [.int ((-1))]) (M' := M) rfl ?_
      exact pu_ret rfl rfl ⟨_, rfl, H⟩
/-! x_row (II)I -/
set_option maxRecDepth 20000 in
theorem r_x_row_82 {L d : Nat} {M : pu_M} {Q : Int32 → pu_M → Prop} {v1 : Int32} {v2 : Int32} {v3 : Int32} {v4 : Int32} (H : (∃ y1, M 0 9 = nI y1 ∧ pu_isY y1 ∧ pu_V L (d + 3) 8 [.ref 6, .ref y1, .int v1] M (fun M3 => (if v2 = 101 then (∃ y9, M3 0 13 = nI y9 ∧ pu_isW y9 ∧ pu_I L (d + 3) 18 [.ref 6, .ref y9] M3 (fun x12 M11 => Q x12 M11)) else pu_V L (d + 3) 11 [.ref 6] M3 (fun M4 => (if v2 = 100 then pu_I L (d + 3) 14 [.ref 6] M4 (fun x8 M7 => Q x8 M7) else pu_I L (d + 3) 15 [.ref 6, .int v2] M4 (fun x6 M5 => Q x6 M5))))))) : pu_R L (d + 4) 136 82 [.ref 0, .int v1, .int v2, .int v3, .int v4] [] M (pu_qI Q) := by
  refine pu_go 3 (pc' := 87) (ls' := [.ref 0, .int v1, .int v2, .int v3, .int v4]) (st' := [.ref 0, .ref 6]) (M' := M) rfl ?_
  obtain ⟨y1, e2, hy1, H⟩ := H
  refine pu_getf (j := 9) rfl rfl (by decide) rfl (by decide) rfl (pu_val_d e2 (Nat.lt_trans (pu_Y_lt hy1) (by decide))) ?_
  refine pu_go 1 (pc' := 91) (ls' := [.ref 0, .int v1, .int v2, .int v3, .int v4]) (st' := [.int v1, .ref y1, .ref 6]) (M' := M) rfl ?_
  refine pu_callV (m' := 8) (ml := 5) (as := [.ref 6, .ref y1, .int v1]) (rest := []) rfl rfl rfl (Nat.le_of_ble_eq_true rfl) H (fun M3 H => ?_)
  show pu_R L (d + 4) 136 94 [.ref 0, .int v1, .int v2, .int v3, .int v4] [] M3 _
  refine pu_go 2 (pc' := 97) (ls' := [.ref 0, .int v1, .int v2, .int v3, .int v4]) (st' := [.int 101, .int v2]) (M' := M3) rfl ?_
  refine pu_icmp_ne rfl (fun hc => ?_) (fun hc => ?_)
  · replace H := Eq.mp (if_neg hc) H
    refine pu_go 2 (pc' := 116) (ls' := [.ref 0, .int v1, .int v2, .int v3, .int v4]) (st' := [.ref 6]) (M' := M3) rfl ?_
    refine pu_callV (m' := 11) (ml := 3) (as := [.ref 6]) (rest := []) rfl rfl rfl (Nat.le_of_ble_eq_true rfl) H (fun M4 H => ?_)
    show pu_R L (d + 4) 136 119 [.ref 0, .int v1, .int v2, .int v3, .int v4] [] M4 _
    refine pu_go 2 (pc' := 122) (ls' := [.ref 0, .int v1, .int v2, .int v3, .int v4]) (st' := [.int 100, .int v2]) (M' := M4) rfl ?_
    refine pu_icmp_ne rfl (fun hc => ?_) (fun hc => ?_)
    · replace H := Eq.mp (if_neg hc) H
      refine pu_go 3 (pc' := 140) (ls' := [.ref 0, .int v1, .int v2, .int v3, .int v4]) (st' := [.int v2, .ref 6]) (M' := M4) rfl ?_
      refine pu_callI (m' := 15) (ml := 5) (as := [.ref 6, .int v2]) (rest := []) rfl rfl rfl (Nat.le_of_ble_eq_true rfl) H (fun x6 M5 H => ?_)
      show pu_R L (d + 4) 136 143 [.ref 0, .int v1, .int v2, .int v3, .int v4] [.int x6] M5 _
      exact pu_ret rfl rfl ⟨_, rfl, H⟩
    · replace H := Eq.mp (if_pos hc) H
      refine pu_go 2 (pc' := 129) (ls' := [.ref 0, .int v1, .int v2, .int v3, .int v4]) (st' := [.ref 6]) (M' := M4) rfl ?_
      refine pu_callI (m' := 14) (ml := 3) (as := [.ref 6]) (rest := []) rfl rfl rfl (Nat.le_of_ble_eq_true rfl) H (fun x8 M7 H => ?_)
      show pu_R L (d + 4) 136 132 [.ref 0, .int v1, .int v2, .int v3, .int v4] [.int x8] M7 _
      refine pu_go 1 (pc' := 143) (ls' := [.ref 0, .int v1, .int v2, .int v3, .int v4]) (st' := [.int x8]) (M' := M7) rfl ?_
      exact pu_ret rfl rfl ⟨_, rfl, H⟩
  · replace H := Eq.mp (if_pos hc) H
    refine pu_go 3 (pc' := 105) (ls' := [.ref 0, .int v1, .int v2, .int v3, .int v4]) (st' := [.ref 0, .ref 6]) (M' := M3) rfl ?_
    obtain ⟨y9, e10, hy9, H⟩ := H
    refine pu_getf (j := 13) rfl rfl (by decide) rfl (by decide) rfl (pu_val_d e10 (Nat.lt_trans (pu_W_lt hy9) (by decide))) ?_
    refine pu_callI (m' := 18) (ml := 4) (as := [.ref 6, .ref y9]) (rest := []) rfl rfl rfl (Nat.le_of_ble_eq_true rfl) H (fun x12 M11 H => ?_)
    show pu_R L (d + 4) 136 111 [.ref 0, .int v1, .int v2, .int v3, .int v4] [.int x12] M11 _
    exact pu_ret rfl rfl ⟨_, rfl, H⟩
set_option maxRecDepth 20000 in
theorem r_x_row_32 {L d : Nat} {M : pu_M} {Q : Int32 → pu_M → Prop} {v1 : Int32} {v2 : Int32} {v3 : Int32} {s0 : Int32} (H : (if v3 < 2 then Q ((-1000)) M else (if 7 < v3 then Q ((-1000)) M else (if s0 = 0 then Q ((-1000)) M else (∃ y1, M 0 9 = nI y1 ∧ pu_isY y1 ∧ pu_I L (d + 3) 101 [.ref y1, .int v1] M (fun x4 M3 => (if x4 = 0 then Q ((-2)) M3 else (if 7 ≤ v2 then pu_R L (d + 4) 136 82 [.ref 0, .int v1, .int v2, .int v3, .int s0] [] M3 (pu_qI Q) else (if v2 < v3 then pu_R L (d + 4) 136 82 [.ref 0, .int v1, .int v2, .int v3, .int s0] [] M3 (pu_qI Q) else Q ((-4)) M3))))))))) : pu_R L (d + 4) 136 32 [.ref 0, .int v1, .int v2, .int v3, mq_un] [.int s0] M (pu_qI Q) := by
  refine pu_go 3 (pc' := 36) (ls' := [.ref 0, .int v1, .int v2, .int v3, .int s0]) (st' := [.int 2, .int v3]) (M' := M) rfl ?_
  refine pu_icmp_lt rfl (fun hc => ?_) (fun hc => ?_)
  · replace H := Eq.mp (if_pos hc) H
    refine pu_go 1 (pc' := 53) (ls' := [.ref 0, .int v1, .int v2, .int v3, .int s0]) (st' := [.int ((-1000))]) (M' := M) rfl ?_
    exact pu_ret rfl rfl ⟨_, rfl, H⟩
  · replace H := Eq.mp (if_neg hc) H
    refine pu_go 2 (pc' := 42) (ls' := [.ref 0, .int v1, .int v2, .int v3, .int s0]) (st' := [.int 7, .int v3]) (M' := M) rfl ?_
    refine pu_icmp_gt rfl (fun hc => ?_) (fun hc => ?_)
    · replace H := Eq.mp (if_pos hc) H
      refine pu_go 1 (pc' := 53) (ls' := [.ref 0, .int v1, .int v2, .int v3, .int s0]) (st' := [.int ((-1000))]) (M' := M) rfl ?_
      exact pu_ret rfl rfl ⟨_, rfl, H⟩
    · replace H := Eq.mp (if_neg hc) H
      refine pu_go 1 (pc' := 47) (ls' := [.ref 0, .int v1, .int v2, .int v3, .int s0]) (st' := [.int s0]) (M' := M) rfl ?_
      refine pu_if_ne rfl (fun hc => ?_) (fun hc => ?_)
      · replace H := Eq.mp (if_neg hc) H
        refine pu_go 1 (pc' := 55) (ls' := [.ref 0, .int v1, .int v2, .int v3, .int s0]) (st' := [.ref 0]) (M' := M) rfl ?_
        obtain ⟨y1, e2, hy1, H⟩ := H
        refine pu_getf (j := 9) rfl rfl (by decide) rfl (by decide) rfl (pu_val_d e2 (Nat.lt_trans (pu_Y_lt hy1) (by decide))) ?_
        refine pu_go 1 (pc' := 59) (ls' := [.ref 0, .int v1, .int v2, .int v3, .int s0]) (st' := [.int v1, .ref y1]) (M' := M) rfl ?_
        refine pu_callI (m' := 101) (ml := 2) (as := [.ref y1, .int v1]) (rest := []) rfl (pu_virt (pu_Y_o hy1) (Nat.lt_trans (pu_Y_lt hy1) (by decide)) ⟨Nat.le_of_ble_eq_true rfl, Nat.le_of_ble_eq_true rfl⟩ rfl rfl) rfl (Nat.le_of_ble_eq_true rfl) H (fun x4 M3 H => ?_)
        show pu_R L (d + 4) 136 62 [.ref 0, .int v1, .int v2, .int v3, .int s0] [.int x4] M3 _
        refine pu_if_ne rfl (fun hc => ?_) (fun hc => ?_)
        · replace H := Eq.mp (if_neg hc) H
          refine pu_go 2 (pc' := 71) (ls' := [.ref 0, .int v1, .int v2, .int v3, .int s0]) (st' := [.int 7, .int v2]) (M' := M3) rfl ?_
          refine pu_icmp_ge rfl (fun hc => ?_) (fun hc => ?_)
          · replace H := Eq.mp (if_pos hc) H
            exact H
          · replace H := Eq.mp (if_neg hc) H
            refine pu_go 2 (pc' := 76) (ls' := [.ref 0, .int v1, .int v2, .int v3, .int s0]) (st' := [.int v3, .int v2]) (M' := M3) rfl ?_
            refine pu_icmp_lt rfl (fun hc => ?_) (fun hc => ?_)
            · replace H := Eq.mp (if_pos hc) H
              exact H
            · replace H := Eq.mp (if_neg hc) H
              refine pu_go 1 (pc' := 81) (ls' := [.ref 0, .int v1, .int v2, .int v3, .int s0]) (st' := [.int ((-4))]) (M' := M3) rfl ?_
              exact pu_ret rfl rfl ⟨_, rfl, H⟩
        · replace H := Eq.mp (if_pos hc) H
          refine pu_go 1 (pc' := 67) (ls' := [.ref 0, .int v1, .int v2, .int v3, .int s0]) (st' := [.int ((-2))]) (M' := M3) rfl ?_
          exact pu_ret rfl rfl ⟨_, rfl, H⟩
      · replace H := Eq.mp (if_pos hc) H
        refine pu_go 1 (pc' := 53) (ls' := [.ref 0, .int v1, .int v2, .int v3, .int s0]) (st' := [.int ((-1000))]) (M' := M) rfl ?_
        exact pu_ret rfl rfl ⟨_, rfl, H⟩
set_option maxRecDepth 20000 in
theorem r_x_row {L d : Nat} {M : pu_M} {Q : Int32 → pu_M → Prop} {v1 : Int32} {v2 : Int32} (H : pu_I L (d + 3) 154 [.int v1] M (fun x2 M1 => (if v2 < 0 then (if v2 = 100 then pu_R L (d + 4) 136 32 [.ref 0, .int v1, .int v2, .int x2, mq_un] [.int 1] M1 (pu_qI Q) else (if v2 = 101 then pu_R L (d + 4) 136 32 [.ref 0, .int v1, .int v2, .int x2, mq_un] [.int 1] M1 (pu_qI Q) else pu_R L (d + 4) 136 32 [.ref 0, .int v1, .int v2, .int x2, mq_un] [.int 0] M1 (pu_qI Q))) else (if v2 < 7 then pu_R L (d + 4) 136 32 [.ref 0, .int v1, .int v2, .int x2, mq_un] [.int 1] M1 (pu_qI Q) else (if v2 = 100 then pu_R L (d + 4) 136 32 [.ref 0, .int v1, .int v2, .int x2, mq_un] [.int 1] M1 (pu_qI Q) else (if v2 = 101 then pu_R L (d + 4) 136 32 [.ref 0, .int v1, .int v2, .int x2, mq_un] [.int 1] M1 (pu_qI Q) else pu_R L (d + 4) 136 32 [.ref 0, .int v1, .int v2, .int x2, mq_un] [.int 0] M1 (pu_qI Q))))))) : pu_I L (d + 4) 136 [.ref 0, .int v1, .int v2] M Q := by
  show pu_R L (d + 4) 136 0 [.ref 0, .int v1, .int v2, mq_un, mq_un] [] M (pu_qI Q)
  refine pu_go 1 (pc' := 1) (ls' := [.ref 0, .int v1, .int v2, mq_un, mq_un]) (st' := [.int v1]) (M' := M) rfl ?_
  refine pu_callI (m' := 154) (ml := 1) (as := [.int v1]) (rest := []) rfl rfl rfl (Nat.le_of_ble_eq_true rfl) H (fun x2 M1 H => ?_)
  show pu_R L (d + 4) 136 4 [.ref 0, .int v1, .int v2, mq_un, mq_un] [.int x2] M1 _
  refine pu_go 2 (pc' := 6) (ls' := [.ref 0, .int v1, .int v2, .int x2, mq_un]) (st' := [.int v2]) (M' := M1) rfl ?_
  refine pu_if_lt rfl (fun hc => ?_) (fun hc => ?_)
  · replace H := Eq.mp (if_pos hc) H
    refine pu_go 2 (pc' := 18) (ls' := [.ref 0, .int v1, .int v2, .int x2, mq_un]) (st' := [.int 100, .int v2]) (M' := M1) rfl ?_
    refine pu_icmp_eq rfl (fun hc => ?_) (fun hc => ?_)
    · replace H := Eq.mp (if_pos hc) H
      refine pu_go 2 (pc' := 32) (ls' := [.ref 0, .int v1, .int v2, .int x2, mq_un]) (st' := [.int 1]) (M' := M1) rfl ?_
      exact H
    · replace H := Eq.mp (if_neg hc) H
      refine pu_go 2 (pc' := 24) (ls' := [.ref 0, .int v1, .int v2, .int x2, mq_un]) (st' := [.int 101, .int v2]) (M' := M1) rfl ?_
      refine pu_icmp_ne rfl (fun hc => ?_) (fun hc => ?_)
      · replace H := Eq.mp (if_neg hc) H
        refine pu_go 1 (pc' := 32) (ls' := [.ref 0, .int v1, .int v2, .int x2, mq_un]) (st' := [.int 0]) (M' := M1) rfl ?_
        exact H
      · replace H := Eq.mp (if_pos hc) H
        refine pu_go 2 (pc' := 32) (ls' := [.ref 0, .int v1, .int v2, .int x2, mq_un]) (st' := [.int 1]) (M' := M1) rfl ?_
        exact H
  · replace H := Eq.mp (if_neg hc) H
    refine pu_go 2 (pc' := 12) (ls' := [.ref 0, .int v1, .int v2, .int x2, mq_un]) (st' := [.int 7, .int v2]) (M' := M1) rfl ?_
    refine pu_icmp_lt rfl (fun hc => ?_) (fun hc => ?_)
    · replace H := Eq.mp (if_pos hc) H
      refine pu_go 2 (pc' := 32) (ls' := [.ref 0, .int v1, .int v2, .int x2, mq_un]) (st' := [.int 1]) (M' := M1) rfl ?_
      exact H
    · replace H := Eq.mp (if_neg hc) H
      refine pu_go 2 (pc' := 18) (ls' := [.ref 0, .int v1, .int v2, .int x2, mq_un]) (st' := [.int 100, .int v2]) (M' := M1) rfl ?_
      refine pu_icmp_eq rfl (fun hc => ?_) (fun hc => ?_)
      · replace H := Eq.mp (if_pos hc) H
        refine pu_go 2 (pc' := 32) (ls' := [.ref 0, .int v1, .int v2, .int x2, mq_un]) (st' := [.int 1]) (M' := M1) rfl ?_
        exact H
      · replace H := Eq.mp (if_neg hc) H
        refine pu_go 2 (pc' := 24) (ls' := [.ref 0, .int v1, .int v2, .int x2, mq_un]) (st' := [.int 101, .int v2]) (M' := M1) rfl ?_
        refine pu_icmp_ne rfl (fun hc => ?_) (fun hc => ?_)
        · replace H := Eq.mp (if_neg hc) H
          refine pu_go 1 (pc' := 32) (ls' := [.ref 0, .int v1, .int v2, .int x2, mq_un]) (st' := [.int 0]) (M' := M1) rfl ?_
          exact H
        · replace H := Eq.mp (if_pos hc) H
          refine pu_go 2 (pc' := 32) (ls' := [.ref 0, .int v1, .int v2, .int x2, mq_un]) (st' := [.int 1]) (M' := M1) rfl ?_
          exact H
/-! x_couples (II)I -/
set_option maxRecDepth 20000 in
theorem r_x_couples_64 {L d : Nat} {M : pu_M} {Q : Int32 → pu_M → Prop} {v1 : Int32} {v2 : Int32} {v3 : Int32} (H : (∃ y1, M 0 9 = nI y1 ∧ pu_isY y1 ∧ pu_V L (d + 3) 8 [.ref 6, .ref y1, .int v1] M (fun M3 => pu_V L (d + 3) 22 [.ref 6] M3 (fun M4 => (if v2 = 100 then pu_I L (d + 3) 26 [.ref 6] M4 (fun x8 M7 => Q x8 M7) else pu_I L (d + 3) 27 [.ref 6, .int v2] M4 (fun x6 M5 => Q x6 M5)))))) : pu_R L (d + 4) 137 64 [.ref 0, .int v1, .int v2, .int v3] [] M (pu_qI Q) := by
  refine pu_go 3 (pc' := 69) (ls' := [.ref 0, .int v1, .int v2, .int v3]) (st' := [.ref 0, .ref 6]) (M' := M) rfl ?_
  obtain ⟨y1, e2, hy1, H⟩ := H
  refine pu_getf (j := 9) rfl rfl (by decide) rfl (by decide) rfl (pu_val_d e2 (Nat.lt_trans (pu_Y_lt hy1) (by decide))) ?_
  refine pu_go 1 (pc' := 73) (ls' := [.ref 0, .int v1, .int v2, .int v3]) (st' := [.int v1, .ref y1, .ref 6]) (M' := M) rfl ?_
  refine pu_callV (m' := 8) (ml := 5) (as := [.ref 6, .ref y1, .int v1]) (rest := []) rfl rfl rfl (Nat.le_of_ble_eq_true rfl) H (fun M3 H => ?_)
  show pu_R L (d + 4) 137 76 [.ref 0, .int v1, .int v2, .int v3] [] M3 _
  refine pu_go 2 (pc' := 80) (ls' := [.ref 0, .int v1, .int v2, .int v3]) (st' := [.ref 6]) (M' := M3) rfl ?_
  refine pu_callV (m' := 22) (ml := 5) (as := [.ref 6]) (rest := []) rfl rfl rfl (Nat.le_of_ble_eq_true rfl) H (fun M4 H => ?_)
  show pu_R L (d + 4) 137 83 [.ref 0, .int v1, .int v2, .int v3] [] M4 _
  refine pu_go 2 (pc' := 86) (ls' := [.ref 0, .int v1, .int v2, .int v3]) (st' := [.int 100, .int v2]) (M' := M4) rfl ?_
  refine pu_icmp_ne rfl (fun hc => ?_) (fun hc => ?_)
  · replace H := Eq.mp (if_neg hc) H
    refine pu_go 3 (pc' := 104) (ls' := [.ref 0, .int v1, .int v2, .int v3]) (st' := [.int v2, .ref 6]) (M' := M4) rfl ?_
    refine pu_callI (m' := 27) (ml := 7) (as := [.ref 6, .int v2]) (rest := []) rfl rfl rfl (Nat.le_of_ble_eq_true rfl) H (fun x6 M5 H => ?_)
    show pu_R L (d + 4) 137 107 [.ref 0, .int v1, .int v2, .int v3] [.int x6] M5 _
    exact pu_ret rfl rfl ⟨_, rfl, H⟩
  · replace H := Eq.mp (if_pos hc) H
    refine pu_go 2 (pc' := 93) (ls' := [.ref 0, .int v1, .int v2, .int v3]) (st' := [.ref 6]) (M' := M4) rfl ?_
    refine pu_callI (m' := 26) (ml := 1) (as := [.ref 6]) (rest := []) rfl rfl rfl (Nat.le_of_ble_eq_true rfl) H (fun x8 M7 H => ?_)
    show pu_R L (d + 4) 137 96 [.ref 0, .int v1, .int v2, .int v3] [.int x8] M7 _
    refine pu_go 1 (pc' := 107) (ls' := [.ref 0, .int v1, .int v2, .int v3]) (st' := [.int x8]) (M' := M7) rfl ?_
    exact pu_ret rfl rfl ⟨_, rfl, H⟩
set_option maxRecDepth 20000 in
theorem r_x_couples_33 {L d : Nat} {M : pu_M} {Q : Int32 → pu_M → Prop} {v1 : Int32} {v2 : Int32} {v3 : Int32} (H : (∃ y1, M 0 9 = nI y1 ∧ pu_isY y1 ∧ pu_I L (d + 3) 101 [.ref y1, .int v1] M (fun x4 M3 => (if x4 = 0 then Q ((-3)) M3 else (if v2 = 100 then pu_R L (d + 4) 137 64 [.ref 0, .int v1, .int v2, .int v3] [] M3 (pu_qI Q) else (if ((v1 >>> (v2 &&& 31)) &&& 1) = 0 then Q ((-3)) M3 else pu_R L (d + 4) 137 64 [.ref 0, .int v1, .int v2, .int v3] [] M3 (pu_qI Q))))))) : pu_R L (d + 4) 137 33 [.ref 0, .int v1, .int v2, .int v3] [] M (pu_qI Q) := by
  refine pu_go 1 (pc' := 34) (ls' := [.ref 0, .int v1, .int v2, .int v3]) (st' := [.ref 0]) (M' := M) rfl ?_
  obtain ⟨y1, e2, hy1, H⟩ := H
  refine pu_getf (j := 9) rfl rfl (by decide) rfl (by decide) rfl (pu_val_d e2 (Nat.lt_trans (pu_Y_lt hy1) (by decide))) ?_
  refine pu_go 1 (pc' := 38) (ls' := [.ref 0, .int v1, .int v2, .int v3]) (st' := [.int v1, .ref y1]) (M' := M) rfl ?_
  refine pu_callI (m' := 101) (ml := 2) (as := [.ref y1, .int v1]) (rest := []) rfl (pu_virt (pu_Y_o hy1) (Nat.lt_trans (pu_Y_lt hy1) (by decide)) ⟨Nat.le_of_ble_eq_true rfl, Nat.le_of_ble_eq_true rfl⟩ rfl rfl) rfl (Nat.le_of_ble_eq_true rfl) H (fun x4 M3 H => ?_)
  show pu_R L (d + 4) 137 41 [.ref 0, .int v1, .int v2, .int v3] [.int x4] M3 _
  refine pu_if_ne rfl (fun hc => ?_) (fun hc => ?_)
  · replace H := Eq.mp (if_neg hc) H
    refine pu_go 2 (pc' := 50) (ls' := [.ref 0, .int v1, .int v2, .int v3]) (st' := [.int 100, .int v2]) (M' := M3) rfl ?_
    refine pu_icmp_eq rfl (fun hc => ?_) (fun hc => ?_)
    · replace H := Eq.mp (if_pos hc) H
      exact H
    · replace H := Eq.mp (if_neg hc) H
      refine pu_go 5 (pc' := 58) (ls' := [.ref 0, .int v1, .int v2, .int v3]) (st' := [.int ((v1 >>> (v2 &&& 31)) &&& 1)]) (M' := M3) rfl ?_
      refine pu_if_ne rfl (fun hc => ?_) (fun hc => ?_)
      · replace H := Eq.mp (if_neg hc) H
        exact H
      · replace H := Eq.mp (if_pos hc) H
        refine pu_go 1 (pc' := 63) (ls' := [.ref 0, .int v1, .int v2, .int v3]) (st' := [.int ((-3))]) (M' := M3) rfl ?_
        exact pu_ret rfl rfl ⟨_, rfl, H⟩
  · replace H := Eq.mp (if_pos hc) H
    refine pu_go 1 (pc' := 46) (ls' := [.ref 0, .int v1, .int v2, .int v3]) (st' := [.int ((-3))]) (M' := M3) rfl ?_
    exact pu_ret rfl rfl ⟨_, rfl, H⟩
set_option maxRecDepth 20000 in
theorem r_x_couples {L d : Nat} {M : pu_M} {Q : Int32 → pu_M → Prop} {v1 : Int32} {v2 : Int32} (H : pu_I L (d + 3) 154 [.int v1] M (fun x2 M1 => (if x2 < 2 then Q ((-1000)) M1 else (if 10 < x2 then Q ((-1000)) M1 else pu_I L (d + 3) 153 [.int v2] M1 (fun x4 M3 => (if x4 = 0 then (if v2 = 100 then pu_R L (d + 4) 137 33 [.ref 0, .int v1, .int v2, .int x2] [] M3 (pu_qI Q) else Q ((-1000)) M3) else pu_R L (d + 4) 137 33 [.ref 0, .int v1, .int v2, .int x2] [] M3 (pu_qI Q))))))) : pu_I L (d + 4) 137 [.ref 0, .int v1, .int v2] M Q := by
  show pu_R L (d + 4) 137 0 [.ref 0, .int v1, .int v2, mq_un] [] M (pu_qI Q)
  refine pu_go 1 (pc' := 1) (ls' := [.ref 0, .int v1, .int v2, mq_un]) (st' := [.int v1]) (M' := M) rfl ?_
  refine pu_callI (m' := 154) (ml := 1) (as := [.int v1]) (rest := []) rfl rfl rfl (Nat.le_of_ble_eq_true rfl) H (fun x2 M1 H => ?_)
  show pu_R L (d + 4) 137 4 [.ref 0, .int v1, .int v2, mq_un] [.int x2] M1 _
  refine pu_go 3 (pc' := 7) (ls' := [.ref 0, .int v1, .int v2, .int x2]) (st' := [.int 2, .int x2]) (M' := M1) rfl ?_
  refine pu_icmp_lt rfl (fun hc => ?_) (fun hc => ?_)
  · replace H := Eq.mp (if_pos hc) H
    refine pu_go 1 (pc' := 32) (ls' := [.ref 0, .int v1, .int v2, .int x2]) (st' := [.int ((-1000))]) (M' := M1) rfl ?_
    exact pu_ret rfl rfl ⟨_, rfl, H⟩
  · replace H := Eq.mp (if_neg hc) H
    refine pu_go 2 (pc' := 13) (ls' := [.ref 0, .int v1, .int v2, .int x2]) (st' := [.int 10, .int x2]) (M' := M1) rfl ?_
    refine pu_icmp_gt rfl (fun hc => ?_) (fun hc => ?_)
    · replace H := Eq.mp (if_pos hc) H
      refine pu_go 1 (pc' := 32) (ls' := [.ref 0, .int v1, .int v2, .int x2]) (st' := [.int ((-1000))]) (M' := M1) rfl ?_
      exact pu_ret rfl rfl ⟨_, rfl, H⟩
    · replace H := Eq.mp (if_neg hc) H
      refine pu_go 1 (pc' := 17) (ls' := [.ref 0, .int v1, .int v2, .int x2]) (st' := [.int v2]) (M' := M1) rfl ?_
      refine pu_callI (m' := 153) (ml := 1) (as := [.int v2]) (rest := []) rfl rfl rfl (Nat.le_of_ble_eq_true rfl) H (fun x4 M3 H => ?_)
      show pu_R L (d + 4) 137 20 [.ref 0, .int v1, .int v2, .int x2] [.int x4] M3 _
      refine pu_if_ne rfl (fun hc => ?_) (fun hc => ?_)
      · replace H := Eq.mp (if_neg hc) H
        exact H
      · replace H := Eq.mp (if_pos hc) H
        refine pu_go 2 (pc' := 26) (ls' := [.ref 0, .int v1, .int v2, .int x2]) (st' := [.int 100, .int v2]) (M' := M3) rfl ?_
        refine pu_icmp_eq rfl (fun hc => ?_) (fun hc => ?_)
        · replace H := Eq.mp (if_pos hc) H
          exact H
        · replace H := Eq.mp (if_neg hc) H
          refine pu_go 1 (pc' := 32) (ls' := [.ref 0, .int v1, .int v2, .int x2]) (st' := [.int ((-1000))]) (M' := M3) rfl ?_
          exact pu_ret rfl rfl ⟨_, rfl, H⟩
/-! x_heard (II)I -/
set_option maxRecDepth 20000 in
theorem r_x_heard_33 {L d : Nat} {M : pu_M} {Q : Int32 → pu_M → Prop} {v1 : Int32} {v2 : Int32} {v3 : Int32} {v4 : Int32} {v5 : Int32} {v6 : Value} (H : (if 16 ≤ v5 then (if v2 = 0 then Q v4 M else Q v3 M) else (∃ y1, M 0 9 = nI y1 ∧ pu_isY y1 ∧ pu_I L (d + 4) 115 [.ref y1, .int v3] M (fun x4 M3 => (if x4 = v3 then pu_R L (d + 5) 138 33 [.ref 0, .int v1, .int v2, .int v3, .int v4, .int (v5 + 1), .int x4] [] M3 (pu_qI Q) else pu_R L (d + 5) 138 33 [.ref 0, .int v1, .int v2, .int x4, .int (v4 + 1), .int (v5 + 1), .int x4] [] M3 (pu_qI Q)))))) : pu_R L (d + 5) 138 33 [.ref 0, .int v1, .int v2, .int v3, .int v4, .int v5, v6] [] M (pu_qI Q) := by
  refine pu_go 2 (pc' := 37) (ls' := [.ref 0, .int v1, .int v2, .int v3, .int v4, .int v5, v6]) (st' := [.int 16, .int v5]) (M' := M) rfl ?_
  refine pu_icmp_ge rfl (fun hc => ?_) (fun hc => ?_)
  · replace H := Eq.mp (if_pos hc) H
    refine pu_go 1 (pc' := 69) (ls' := [.ref 0, .int v1, .int v2, .int v3, .int v4, .int v5, v6]) (st' := [.int v2]) (M' := M) rfl ?_
    refine pu_if_ne rfl (fun hc => ?_) (fun hc => ?_)
    · replace H := Eq.mp (if_neg hc) H
      refine pu_go 1 (pc' := 78) (ls' := [.ref 0, .int v1, .int v2, .int v3, .int v4, .int v5, v6]) (st' := [.int v3]) (M' := M) rfl ?_
      exact pu_ret rfl rfl ⟨_, rfl, H⟩
    · replace H := Eq.mp (if_pos hc) H
      refine pu_go 2 (pc' := 78) (ls' := [.ref 0, .int v1, .int v2, .int v3, .int v4, .int v5, v6]) (st' := [.int v4]) (M' := M) rfl ?_
      exact pu_ret rfl rfl ⟨_, rfl, H⟩
  · replace H := Eq.mp (if_neg hc) H
    refine pu_go 1 (pc' := 41) (ls' := [.ref 0, .int v1, .int v2, .int v3, .int v4, .int v5, v6]) (st' := [.ref 0]) (M' := M) rfl ?_
    obtain ⟨y1, e2, hy1, H⟩ := H
    refine pu_getf (j := 9) rfl rfl (by decide) rfl (by decide) rfl (pu_val_d e2 (Nat.lt_trans (pu_Y_lt hy1) (by decide))) ?_
    refine pu_go 1 (pc' := 45) (ls' := [.ref 0, .int v1, .int v2, .int v3, .int v4, .int v5, v6]) (st' := [.int v3, .ref y1]) (M' := M) rfl ?_
    refine pu_callI (m' := 115) (ml := 4) (as := [.ref y1, .int v3]) (rest := []) rfl (pu_virt (pu_Y_o hy1) (Nat.lt_trans (pu_Y_lt hy1) (by decide)) ⟨Nat.le_of_ble_eq_true rfl, Nat.le_of_ble_eq_true rfl⟩ rfl rfl) rfl (Nat.le_of_ble_eq_true rfl) H (fun x4 M3 H => ?_)
    show pu_R L (d + 5) 138 48 [.ref 0, .int v1, .int v2, .int v3, .int v4, .int v5, v6] [.int x4] M3 _
    refine pu_go 3 (pc' := 53) (ls' := [.ref 0, .int v1, .int v2, .int v3, .int v4, .int v5, .int x4]) (st' := [.int v3, .int x4]) (M' := M3) rfl ?_
    refine pu_icmp_eq rfl (fun hc => ?_) (fun hc => ?_)
    · replace H := Eq.mp (if_pos hc) H
      refine pu_go 2 (pc' := 33) (ls' := [.ref 0, .int v1, .int v2, .int v3, .int v4, .int (v5 + 1), .int x4]) (st' := []) (M' := M3) rfl ?_
      exact H
    · replace H := Eq.mp (if_neg hc) H
      refine pu_go 5 (pc' := 33) (ls' := [.ref 0, .int v1, .int v2, .int x4, .int (v4 + 1), .int (v5 + 1), .int x4]) (st' := []) (M' := M3) rfl ?_
      exact H
set_option maxRecDepth 20000 in
theorem r_x_heard {L d : Nat} {M : pu_M} {Q : Int32 → pu_M → Prop} {v1 : Int32} {v2 : Int32} (H : pu_I L (d + 4) 153 [.int v1] M (fun x2 M1 => (if x2 = 0 then Q ((-1)) M1 else (if v2 < 0 then Q ((-1)) M1 else (if v2 ≤ 1 then (∃ y3, M1 0 9 = nI y3 ∧ pu_isY y3 ∧ pu_I L (d + 4) 106 [.ref y3, .int v1] M1 (fun x6 M5 => pu_R L (d + 5) 138 33 [.ref 0, .int v1, .int v2, .int x6, .int 0, .int 0, mq_un] [] M5 (pu_qI Q))) else Q ((-1)) M1))))) : pu_I L (d + 5) 138 [.ref 0, .int v1, .int v2] M Q := by
  show pu_R L (d + 5) 138 0 [.ref 0, .int v1, .int v2, mq_un, mq_un, mq_un, mq_un] [] M (pu_qI Q)
  refine pu_go 1 (pc' := 1) (ls' := [.ref 0, .int v1, .int v2, mq_un, mq_un, mq_un, mq_un]) (st' := [.int v1]) (M' := M) rfl ?_
  refine pu_callI (m' := 153) (ml := 1) (as := [.int v1]) (rest := []) rfl rfl rfl (Nat.le_of_ble_eq_true rfl) H (fun x2 M1 H => ?_)
  show pu_R L (d + 5) 138 4 [.ref 0, .int v1, .int v2, mq_un, mq_un, mq_un, mq_un] [.int x2] M1 _
  refine pu_if_eq rfl (fun hc => ?_) (fun hc => ?_)
  · replace H := Eq.mp (if_pos hc) H
    refine pu_go 1 (pc' := 17) (ls' := [.ref 0, .int v1, .int v2, mq_un, mq_un, mq_un, mq_un]) (st' := [.int ((-1))]) (M' := M1) rfl ?_
    exact pu_ret rfl rfl ⟨_, rfl, H⟩
  · replace H := Eq.mp (if_neg hc) H
    refine pu_go 1 (pc' := 8) (ls' := [.ref 0, .int v1, .int v2, mq_un, mq_un, mq_un, mq_un]) (st' := [.int v2]) (M' := M1) rfl ?_
    refine pu_if_lt rfl (fun hc => ?_) (fun hc => ?_)
    · replace H := Eq.mp (if_pos hc) H
      refine pu_go 1 (pc' := 17) (ls' := [.ref 0, .int v1, .int v2, mq_un, mq_un, mq_un, mq_un]) (st' := [.int ((-1))]) (M' := M1) rfl ?_
      exact pu_ret rfl rfl ⟨_, rfl, H⟩
    · replace H := Eq.mp (if_neg hc) H
      refine pu_go 2 (pc' := 13) (ls' := [.ref 0, .int v1, .int v2, mq_un, mq_un, mq_un, mq_un]) (st' := [.int 1, .int v2]) (M' := M1) rfl ?_
      refine pu_icmp_le rfl (fun hc => ?_) (fun hc => ?_)
      · replace H := Eq.mp (if_pos hc) H
        refine pu_go 1 (pc' := 19) (ls' := [.ref 0, .int v1, .int v2, mq_un, mq_un, mq_un, mq_un]) (st' := [.ref 0]) (M' := M1) rfl ?_
        obtain ⟨y3, e4, hy3, H⟩ := H
        refine pu_getf (j := 9) rfl rfl (by decide) rfl (by decide) rfl (pu_val_d e4 (Nat.lt_trans (pu_Y_lt hy3) (by decide))) ?_
        refine pu_go 1 (pc' := 23) (ls' := [.ref 0, .int v1, .int v2, mq_un, mq_un, mq_un, mq_un]) (st' := [.int v1, .ref y3]) (M' := M1) rfl ?_
        refine pu_callI (m' := 106) (ml := 4) (as := [.ref y3, .int v1]) (rest := []) rfl (pu_virt (pu_Y_o hy3) (Nat.lt_trans (pu_Y_lt hy3) (by decide)) ⟨Nat.le_of_ble_eq_true rfl, Nat.le_of_ble_eq_true rfl⟩ rfl rfl) rfl (Nat.le_of_ble_eq_true rfl) H (fun x6 M5 H => ?_)
        show pu_R L (d + 5) 138 26 [.ref 0, .int v1, .int v2, mq_un, mq_un, mq_un, mq_un] [.int x6] M5 _
        refine pu_go 5 (pc' := 33) (ls' := [.ref 0, .int v1, .int v2, .int x6, .int 0, .int 0, mq_un]) (st' := []) (M' := M5) rfl ?_
        exact H
      · replace H := Eq.mp (if_neg hc) H
        refine pu_go 1 (pc' := 17) (ls' := [.ref 0, .int v1, .int v2, mq_un, mq_un, mq_un, mq_un]) (st' := [.int ((-1))]) (M' := M1) rfl ?_
        exact pu_ret rfl rfl ⟨_, rfl, H⟩
/-! x_circles (I)I -/
set_option maxRecDepth 20000 in
theorem r_x_circles {L d : Nat} {M : pu_M} {Q : Int32 → pu_M → Prop} {v1 : Int32} (H : (if v1 = 100 then pu_I L (d + 6) 152 [.ref 0] M (fun x10 M9 => Q x10 M9) else (∃ y1, M 0 9 = nI y1 ∧ pu_isY y1 ∧ pu_I L (d + 6) 100 [.ref y1, .int v1] M (fun x4 M3 => (if x4 = 0 then Q ((-1)) M3 else (∃ y5, M3 0 9 = nI y5 ∧ pu_isY y5 ∧ pu_I L (d + 6) 116 [.ref y5, .int v1] M3 (fun x8 M7 => Q x8 M7))))))) : pu_I L (d + 7) 139 [.ref 0, .int v1] M Q := by
  show pu_R L (d + 7) 139 0 [.ref 0, .int v1] [] M (pu_qI Q)
  refine pu_go 2 (pc' := 3) (ls' := [.ref 0, .int v1]) (st' := [.int 100, .int v1]) (M' := M) rfl ?_
  refine pu_icmp_ne rfl (fun hc => ?_) (fun hc => ?_)
  · replace H := Eq.mp (if_neg hc) H
    refine pu_go 1 (pc' := 12) (ls' := [.ref 0, .int v1]) (st' := [.ref 0]) (M' := M) rfl ?_
    obtain ⟨y1, e2, hy1, H⟩ := H
    refine pu_getf (j := 9) rfl rfl (by decide) rfl (by decide) rfl (pu_val_d e2 (Nat.lt_trans (pu_Y_lt hy1) (by decide))) ?_
    refine pu_go 1 (pc' := 16) (ls' := [.ref 0, .int v1]) (st' := [.int v1, .ref y1]) (M' := M) rfl ?_
    refine pu_callI (m' := 100) (ml := 2) (as := [.ref y1, .int v1]) (rest := []) rfl (pu_virt (pu_Y_o hy1) (Nat.lt_trans (pu_Y_lt hy1) (by decide)) ⟨Nat.le_of_ble_eq_true rfl, Nat.le_of_ble_eq_true rfl⟩ rfl rfl) rfl (Nat.le_of_ble_eq_true rfl) H (fun x4 M3 H => ?_)
    show pu_R L (d + 7) 139 19 [.ref 0, .int v1] [.int x4] M3 _
    refine pu_if_eq rfl (fun hc => ?_) (fun hc => ?_)
    · replace H := Eq.mp (if_pos hc) H
      refine pu_go 1 (pc' := 34) (ls' := [.ref 0, .int v1]) (st' := [.int ((-1))]) (M' := M3) rfl ?_
      exact pu_ret rfl rfl ⟨_, rfl, H⟩
    · replace H := Eq.mp (if_neg hc) H
      refine pu_go 1 (pc' := 23) (ls' := [.ref 0, .int v1]) (st' := [.ref 0]) (M' := M3) rfl ?_
      obtain ⟨y5, e6, hy5, H⟩ := H
      refine pu_getf (j := 9) rfl rfl (by decide) rfl (by decide) rfl (pu_val_d e6 (Nat.lt_trans (pu_Y_lt hy5) (by decide))) ?_
      refine pu_go 1 (pc' := 27) (ls' := [.ref 0, .int v1]) (st' := [.int v1, .ref y5]) (M' := M3) rfl ?_
      refine pu_callI (m' := 116) (ml := 4) (as := [.ref y5, .int v1]) (rest := []) rfl (pu_virt (pu_Y_o hy5) (Nat.lt_trans (pu_Y_lt hy5) (by decide)) ⟨Nat.le_of_ble_eq_true rfl, Nat.le_of_ble_eq_true rfl⟩ rfl rfl) rfl (Nat.le_of_ble_eq_true rfl) H (fun x8 M7 H => ?_)
      show pu_R L (d + 7) 139 30 [.ref 0, .int v1] [.int x8] M7 _
      refine pu_go 1 (pc' := 34) (ls' := [.ref 0, .int v1]) (st' := [.int x8]) (M' := M7) rfl ?_
      exact pu_ret rfl rfl ⟨_, rfl, H⟩
  · replace H := Eq.mp (if_pos hc) H
    refine pu_go 1 (pc' := 7) (ls' := [.ref 0, .int v1]) (st' := [.ref 0]) (M' := M) rfl ?_
    refine pu_callI (m' := 152) (ml := 4) (as := [.ref 0]) (rest := []) rfl rfl rfl (Nat.le_of_ble_eq_true rfl) H (fun x10 M9 H => ?_)
    show pu_R L (d + 7) 139 10 [.ref 0, .int v1] [.int x10] M9 _
    exact pu_ret rfl rfl ⟨_, rfl, H⟩
/-! x_from (II)I -/
set_option maxRecDepth 20000 in
theorem r_x_from_56 {L d : Nat} {M : pu_M} {Q : Int32 → pu_M → Prop} {v1 : Int32} {v2 : Int32} {v3 : Int32} {v4 : Int32} (H : (if 16 ≤ v4 then Q ((-2)) M else (if ((v3 >>> (v2 &&& 31)) &&& 1) = 1 then Q v4 M else (∃ y1, M 0 9 = nI y1 ∧ pu_isY y1 ∧ pu_I L (d + 4) 115 [.ref y1, .int v3] M (fun x4 M3 => pu_R L (d + 5) 140 56 [.ref 0, .int v1, .int v2, .int x4, .int (v4 + 1)] [] M3 (pu_qI Q)))))) : pu_R L (d + 5) 140 56 [.ref 0, .int v1, .int v2, .int v3, .int v4] [] M (pu_qI Q) := by
  refine pu_go 2 (pc' := 60) (ls' := [.ref 0, .int v1, .int v2, .int v3, .int v4]) (st' := [.int 16, .int v4]) (M' := M) rfl ?_
  refine pu_icmp_ge rfl (fun hc => ?_) (fun hc => ?_)
  · replace H := Eq.mp (if_pos hc) H
    refine pu_go 1 (pc' := 92) (ls' := [.ref 0, .int v1, .int v2, .int v3, .int v4]) (st' := [.int ((-2))]) (M' := M) rfl ?_
    exact pu_ret rfl rfl ⟨_, rfl, H⟩
  · replace H := Eq.mp (if_neg hc) H
    refine pu_go 6 (pc' := 69) (ls' := [.ref 0, .int v1, .int v2, .int v3, .int v4]) (st' := [.int 1, .int ((v3 >>> (v2 &&& 31)) &&& 1)]) (M' := M) rfl ?_
    refine pu_icmp_ne rfl (fun hc => ?_) (fun hc => ?_)
    · replace H := Eq.mp (if_neg hc) H
      refine pu_go 1 (pc' := 76) (ls' := [.ref 0, .int v1, .int v2, .int v3, .int v4]) (st' := [.ref 0]) (M' := M) rfl ?_
      obtain ⟨y1, e2, hy1, H⟩ := H
      refine pu_getf (j := 9) rfl rfl (by decide) rfl (by decide) rfl (pu_val_d e2 (Nat.lt_trans (pu_Y_lt hy1) (by decide))) ?_
      refine pu_go 1 (pc' := 80) (ls' := [.ref 0, .int v1, .int v2, .int v3, .int v4]) (st' := [.int v3, .ref y1]) (M' := M) rfl ?_
      refine pu_callI (m' := 115) (ml := 4) (as := [.ref y1, .int v3]) (rest := []) rfl (pu_virt (pu_Y_o hy1) (Nat.lt_trans (pu_Y_lt hy1) (by decide)) ⟨Nat.le_of_ble_eq_true rfl, Nat.le_of_ble_eq_true rfl⟩ rfl rfl) rfl (Nat.le_of_ble_eq_true rfl) H (fun x4 M3 H => ?_)
      show pu_R L (d + 5) 140 83 [.ref 0, .int v1, .int v2, .int v3, .int v4] [.int x4] M3 _
      refine pu_go 3 (pc' := 56) (ls' := [.ref 0, .int v1, .int v2, .int x4, .int (v4 + 1)]) (st' := []) (M' := M3) rfl ?_
      exact H
    · replace H := Eq.mp (if_pos hc) H
      refine pu_go 1 (pc' := 74) (ls' := [.ref 0, .int v1, .int v2, .int v3, .int v4]) (st' := [.int v4]) (M' := M) rfl ?_
      exact pu_ret rfl rfl ⟨_, rfl, H⟩
set_option maxRecDepth 20000 in
theorem r_x_from {L d : Nat} {M : pu_M} {Q : Int32 → pu_M → Prop} {v1 : Int32} {v2 : Int32} (H : (∃ y1, M 0 9 = nI y1 ∧ pu_isY y1 ∧ pu_I L (d + 4) 100 [.ref y1, .int v1] M (fun x4 M3 => (if x4 = 0 then Q ((-1)) M3 else (∃ y5, M3 0 9 = nI y5 ∧ pu_isY y5 ∧ pu_I L (d + 4) 100 [.ref y5, .int v2] M3 (fun x8 M7 => (if x8 = 0 then Q ((-1)) M7 else (∃ y9, M7 0 9 = nI y9 ∧ pu_isY y9 ∧ pu_I L (d + 4) 102 [.ref y9, .int v1] M7 (fun x12 M11 => (if x12 = 0 then Q ((-2)) M11 else (∃ y13, M11 0 9 = nI y13 ∧ pu_isY y13 ∧ pu_I L (d + 4) 102 [.ref y13, .int v2] M11 (fun x16 M15 => (if x16 = 0 then Q ((-2)) M15 else pu_R L (d + 5) 140 56 [.ref 0, .int v1, .int v2, .int ((1 : Int32) <<< (v1 &&& 31)), .int 0] [] M15 (pu_qI Q)))))))))))))) : pu_I L (d + 5) 140 [.ref 0, .int v1, .int v2] M Q := by
  show pu_R L (d + 5) 140 0 [.ref 0, .int v1, .int v2, mq_un, mq_un] [] M (pu_qI Q)
  refine pu_go 1 (pc' := 1) (ls' := [.ref 0, .int v1, .int v2, mq_un, mq_un]) (st' := [.ref 0]) (M' := M) rfl ?_
  obtain ⟨y1, e2, hy1, H⟩ := H
  refine pu_getf (j := 9) rfl rfl (by decide) rfl (by decide) rfl (pu_val_d e2 (Nat.lt_trans (pu_Y_lt hy1) (by decide))) ?_
  refine pu_go 1 (pc' := 5) (ls' := [.ref 0, .int v1, .int v2, mq_un, mq_un]) (st' := [.int v1, .ref y1]) (M' := M) rfl ?_
  refine pu_callI (m' := 100) (ml := 2) (as := [.ref y1, .int v1]) (rest := []) rfl (pu_virt (pu_Y_o hy1) (Nat.lt_trans (pu_Y_lt hy1) (by decide)) ⟨Nat.le_of_ble_eq_true rfl, Nat.le_of_ble_eq_true rfl⟩ rfl rfl) rfl (Nat.le_of_ble_eq_true rfl) H (fun x4 M3 H => ?_)
  show pu_R L (d + 5) 140 8 [.ref 0, .int v1, .int v2, mq_un, mq_un] [.int x4] M3 _
  refine pu_if_eq rfl (fun hc => ?_) (fun hc => ?_)
  · replace H := Eq.mp (if_pos hc) H
    refine pu_go 1 (pc' := 23) (ls' := [.ref 0, .int v1, .int v2, mq_un, mq_un]) (st' := [.int ((-1))]) (M' := M3) rfl ?_
    exact pu_ret rfl rfl ⟨_, rfl, H⟩
  · replace H := Eq.mp (if_neg hc) H
    refine pu_go 1 (pc' := 12) (ls' := [.ref 0, .int v1, .int v2, mq_un, mq_un]) (st' := [.ref 0]) (M' := M3) rfl ?_
    obtain ⟨y5, e6, hy5, H⟩ := H
    refine pu_getf (j := 9) rfl rfl (by decide) rfl (by decide) rfl (pu_val_d e6 (Nat.lt_trans (pu_Y_lt hy5) (by decide))) ?_
    refine pu_go 1 (pc' := 16) (ls' := [.ref 0, .int v1, .int v2, mq_un, mq_un]) (st' := [.int v2, .ref y5]) (M' := M3) rfl ?_
    refine pu_callI (m' := 100) (ml := 2) (as := [.ref y5, .int v2]) (rest := []) rfl (pu_virt (pu_Y_o hy5) (Nat.lt_trans (pu_Y_lt hy5) (by decide)) ⟨Nat.le_of_ble_eq_true rfl, Nat.le_of_ble_eq_true rfl⟩ rfl rfl) rfl (Nat.le_of_ble_eq_true rfl) H (fun x8 M7 H => ?_)
    show pu_R L (d + 5) 140 19 [.ref 0, .int v1, .int v2, mq_un, mq_un] [.int x8] M7 _
    refine pu_if_ne rfl (fun hc => ?_) (fun hc => ?_)
    · replace H := Eq.mp (if_neg hc) H
      refine pu_go 1 (pc' := 25) (ls' := [.ref 0, .int v1, .int v2, mq_un, mq_un]) (st' := [.ref 0]) (M' := M7) rfl ?_
      obtain ⟨y9, e10, hy9, H⟩ := H
      refine pu_getf (j := 9) rfl rfl (by decide) rfl (by decide) rfl (pu_val_d e10 (Nat.lt_trans (pu_Y_lt hy9) (by decide))) ?_
      refine pu_go 1 (pc' := 29) (ls' := [.ref 0, .int v1, .int v2, mq_un, mq_un]) (st' := [.int v1, .ref y9]) (M' := M7) rfl ?_
      refine pu_callI (m' := 102) (ml := 2) (as := [.ref y9, .int v1]) (rest := []) rfl (pu_virt (pu_Y_o hy9) (Nat.lt_trans (pu_Y_lt hy9) (by decide)) ⟨Nat.le_of_ble_eq_true rfl, Nat.le_of_ble_eq_true rfl⟩ rfl rfl) rfl (Nat.le_of_ble_eq_true rfl) H (fun x12 M11 H => ?_)
      show pu_R L (d + 5) 140 32 [.ref 0, .int v1, .int v2, mq_un, mq_un] [.int x12] M11 _
      refine pu_if_eq rfl (fun hc => ?_) (fun hc => ?_)
      · replace H := Eq.mp (if_pos hc) H
        refine pu_go 1 (pc' := 48) (ls' := [.ref 0, .int v1, .int v2, mq_un, mq_un]) (st' := [.int ((-2))]) (M' := M11) rfl ?_
        exact pu_ret rfl rfl ⟨_, rfl, H⟩
      · replace H := Eq.mp (if_neg hc) H
        refine pu_go 1 (pc' := 36) (ls' := [.ref 0, .int v1, .int v2, mq_un, mq_un]) (st' := [.ref 0]) (M' := M11) rfl ?_
        obtain ⟨y13, e14, hy13, H⟩ := H
        refine pu_getf (j := 9) rfl rfl (by decide) rfl (by decide) rfl (pu_val_d e14 (Nat.lt_trans (pu_Y_lt hy13) (by decide))) ?_
        refine pu_go 1 (pc' := 40) (ls' := [.ref 0, .int v1, .int v2, mq_un, mq_un]) (st' := [.int v2, .ref y13]) (M' := M11) rfl ?_
        refine pu_callI (m' := 102) (ml := 2) (as := [.ref y13, .int v2]) (rest := []) rfl (pu_virt (pu_Y_o hy13) (Nat.lt_trans (pu_Y_lt hy13) (by decide)) ⟨Nat.le_of_ble_eq_true rfl, Nat.le_of_ble_eq_true rfl⟩ rfl rfl) rfl (Nat.le_of_ble_eq_true rfl) H (fun x16 M15 H => ?_)
        show pu_R L (d + 5) 140 43 [.ref 0, .int v1, .int v2, mq_un, mq_un] [.int x16] M15 _
        refine pu_if_ne rfl (fun hc => ?_) (fun hc => ?_)
        · replace H := Eq.mp (if_neg hc) H
          refine pu_go 6 (pc' := 56) (ls' := [.ref 0, .int v1, .int v2, .int ((1 : Int32) <<< (v1 &&& 31)), .int 0]) (st' := []) (M' := M15) rfl ?_
          exact H
        · replace H := Eq.mp (if_pos hc) H
          refine pu_go 1 (pc' := 48) (ls' := [.ref 0, .int v1, .int v2, mq_un, mq_un]) (st' := [.int ((-2))]) (M' := M15) rfl ?_
          exact pu_ret rfl rfl ⟨_, rfl, H⟩
    · replace H := Eq.mp (if_pos hc) H
      refine pu_go 1 (pc' := 23) (ls' := [.ref 0, .int v1, .int v2, mq_un, mq_un]) (st' := [.int ((-1))]) (M' := M7) rfl ?_
      exact pu_ret rfl rfl ⟨_, rfl, H⟩
/-! x_thread (II)I -/
set_option maxRecDepth 20000 in
theorem r_x_thread_21 {L d : Nat} {M : pu_M} {Q : Int32 → pu_M → Prop} {v1 : Int32} {v2 : Int32} {s0 : Int32} (H : (if v1 < 1 then Q ((-1)) M else (if 20 < v1 then Q ((-1)) M else (if s0 = 0 then Q ((-1)) M else pu_I L (d + 2) 81 [.ref 1, .int (2 * v1), .int 2, .int 40] M (fun x2 M1 => (if x2 = 0 then Q ((-1)) M1 else pu_V L (d + 2) 75 [.ref 13, .ref 1, .int v1] M1 (fun M3 => (if v2 = 100 then pu_I L (d + 2) 76 [.ref 13] M3 (fun x7 M6 => Q x7 M6) else pu_I L (d + 2) 77 [.ref 13, .int v2] M3 (fun x5 M4 => Q x5 M4))))))))) : pu_R L (d + 3) 141 21 [.ref 0, .int v1, .int v2, mq_un] [.int s0] M (pu_qI Q) := by
  refine pu_go 3 (pc' := 24) (ls' := [.ref 0, .int v1, .int v2, .int s0]) (st' := [.int 1, .int v1]) (M' := M) rfl ?_
  refine pu_icmp_lt rfl (fun hc => ?_) (fun hc => ?_)
  · replace H := Eq.mp (if_pos hc) H
    refine pu_go 1 (pc' := 54) (ls' := [.ref 0, .int v1, .int v2, .int s0]) (st' := [.int ((-1))]) (M' := M) rfl ?_
    exact pu_ret rfl rfl ⟨_, rfl, H⟩
  · replace H := Eq.mp (if_neg hc) H
    refine pu_go 2 (pc' := 30) (ls' := [.ref 0, .int v1, .int v2, .int s0]) (st' := [.int 20, .int v1]) (M' := M) rfl ?_
    refine pu_icmp_gt rfl (fun hc => ?_) (fun hc => ?_)
    · replace H := Eq.mp (if_pos hc) H
      refine pu_go 1 (pc' := 54) (ls' := [.ref 0, .int v1, .int v2, .int s0]) (st' := [.int ((-1))]) (M' := M) rfl ?_
      exact pu_ret rfl rfl ⟨_, rfl, H⟩
    · replace H := Eq.mp (if_neg hc) H
      refine pu_go 1 (pc' := 34) (ls' := [.ref 0, .int v1, .int v2, .int s0]) (st' := [.int s0]) (M' := M) rfl ?_
      refine pu_if_eq rfl (fun hc => ?_) (fun hc => ?_)
      · replace H := Eq.mp (if_pos hc) H
        refine pu_go 1 (pc' := 54) (ls' := [.ref 0, .int v1, .int v2, .int s0]) (st' := [.int ((-1))]) (M' := M) rfl ?_
        exact pu_ret rfl rfl ⟨_, rfl, H⟩
      · replace H := Eq.mp (if_neg hc) H
        refine pu_go 7 (pc' := 47) (ls' := [.ref 0, .int v1, .int v2, .int s0]) (st' := [.int 40, .int 2, .int (2 * v1), .ref 1]) (M' := M) rfl ?_
        refine pu_callI (m' := 81) (ml := 4) (as := [.ref 1, .int (2 * v1), .int 2, .int 40]) (rest := []) rfl rfl rfl (Nat.le_of_ble_eq_true rfl) H (fun x2 M1 H => ?_)
        show pu_R L (d + 3) 141 50 [.ref 0, .int v1, .int v2, .int s0] [.int x2] M1 _
        refine pu_if_ne rfl (fun hc => ?_) (fun hc => ?_)
        · replace H := Eq.mp (if_neg hc) H
          refine pu_go 5 (pc' := 64) (ls' := [.ref 0, .int v1, .int v2, .int s0]) (st' := [.int v1, .ref 1, .ref 13]) (M' := M1) rfl ?_
          refine pu_callV (m' := 75) (ml := 5) (as := [.ref 13, .ref 1, .int v1]) (rest := []) rfl rfl rfl (Nat.le_of_ble_eq_true rfl) H (fun M3 H => ?_)
          show pu_R L (d + 3) 141 67 [.ref 0, .int v1, .int v2, .int s0] [] M3 _
          refine pu_go 2 (pc' := 70) (ls' := [.ref 0, .int v1, .int v2, .int s0]) (st' := [.int 100, .int v2]) (M' := M3) rfl ?_
          refine pu_icmp_ne rfl (fun hc => ?_) (fun hc => ?_)
          · replace H := Eq.mp (if_neg hc) H
            refine pu_go 3 (pc' := 88) (ls' := [.ref 0, .int v1, .int v2, .int s0]) (st' := [.int v2, .ref 13]) (M' := M3) rfl ?_
            refine pu_callI (m' := 77) (ml := 7) (as := [.ref 13, .int v2]) (rest := []) rfl rfl rfl (Nat.le_of_ble_eq_true rfl) H (fun x5 M4 H => ?_)
            show pu_R L (d + 3) 141 91 [.ref 0, .int v1, .int v2, .int s0] [.int x5] M4 _
            exact pu_ret rfl rfl ⟨_, rfl, H⟩
          · replace H := Eq.mp (if_pos hc) H
            refine pu_go 2 (pc' := 77) (ls' := [.ref 0, .int v1, .int v2, .int s0]) (st' := [.ref 13]) (M' := M3) rfl ?_
            refine pu_callI (m' := 76) (ml := 3) (as := [.ref 13]) (rest := []) rfl rfl rfl (Nat.le_of_ble_eq_true rfl) H (fun x7 M6 H => ?_)
            show pu_R L (d + 3) 141 80 [.ref 0, .int v1, .int v2, .int s0] [.int x7] M6 _
            refine pu_go 1 (pc' := 91) (ls' := [.ref 0, .int v1, .int v2, .int s0]) (st' := [.int x7]) (M' := M6) rfl ?_
            exact pu_ret rfl rfl ⟨_, rfl, H⟩
        · replace H := Eq.mp (if_pos hc) H
          refine pu_go 1 (pc' := 54) (ls' := [.ref 0, .int v1, .int v2, .int s0]) (st' := [.int ((-1))]) (M' := M1) rfl ?_
          exact pu_ret rfl rfl ⟨_, rfl, H⟩
set_option maxRecDepth 20000 in
theorem r_x_thread {L d : Nat} {M : pu_M} {Q : Int32 → pu_M → Prop} {v1 : Int32} {v2 : Int32} (H : (if v2 < 0 then (if v2 = 100 then pu_R L (d + 3) 141 21 [.ref 0, .int v1, .int v2, mq_un] [.int 1] M (pu_qI Q) else pu_R L (d + 3) 141 21 [.ref 0, .int v1, .int v2, mq_un] [.int 0] M (pu_qI Q)) else (if v2 < 20 then pu_R L (d + 3) 141 21 [.ref 0, .int v1, .int v2, mq_un] [.int 1] M (pu_qI Q) else (if v2 = 100 then pu_R L (d + 3) 141 21 [.ref 0, .int v1, .int v2, mq_un] [.int 1] M (pu_qI Q) else pu_R L (d + 3) 141 21 [.ref 0, .int v1, .int v2, mq_un] [.int 0] M (pu_qI Q))))) : pu_I L (d + 3) 141 [.ref 0, .int v1, .int v2] M Q := by
  show pu_R L (d + 3) 141 0 [.ref 0, .int v1, .int v2, mq_un] [] M (pu_qI Q)
  refine pu_go 1 (pc' := 1) (ls' := [.ref 0, .int v1, .int v2, mq_un]) (st' := [.int v2]) (M' := M) rfl ?_
  refine pu_if_lt rfl (fun hc => ?_) (fun hc => ?_)
  · replace H := Eq.mp (if_pos hc) H
    refine pu_go 2 (pc' := 13) (ls' := [.ref 0, .int v1, .int v2, mq_un]) (st' := [.int 100, .int v2]) (M' := M) rfl ?_
    refine pu_icmp_ne rfl (fun hc => ?_) (fun hc => ?_)
    · replace H := Eq.mp (if_neg hc) H
      refine pu_go 1 (pc' := 21) (ls' := [.ref 0, .int v1, .int v2, mq_un]) (st' := [.int 0]) (M' := M) rfl ?_
      exact H
    · replace H := Eq.mp (if_pos hc) H
      refine pu_go 2 (pc' := 21) (ls' := [.ref 0, .int v1, .int v2, mq_un]) (st' := [.int 1]) (M' := M) rfl ?_
      exact H
  · replace H := Eq.mp (if_neg hc) H
    refine pu_go 2 (pc' := 7) (ls' := [.ref 0, .int v1, .int v2, mq_un]) (st' := [.int 20, .int v2]) (M' := M) rfl ?_
    refine pu_icmp_lt rfl (fun hc => ?_) (fun hc => ?_)
    · replace H := Eq.mp (if_pos hc) H
      refine pu_go 2 (pc' := 21) (ls' := [.ref 0, .int v1, .int v2, mq_un]) (st' := [.int 1]) (M' := M) rfl ?_
      exact H
    · replace H := Eq.mp (if_neg hc) H
      refine pu_go 2 (pc' := 13) (ls' := [.ref 0, .int v1, .int v2, mq_un]) (st' := [.int 100, .int v2]) (M' := M) rfl ?_
      refine pu_icmp_ne rfl (fun hc => ?_) (fun hc => ?_)
      · replace H := Eq.mp (if_neg hc) H
        refine pu_go 1 (pc' := 21) (ls' := [.ref 0, .int v1, .int v2, mq_un]) (st' := [.int 0]) (M' := M) rfl ?_
        exact H
      · replace H := Eq.mp (if_pos hc) H
        refine pu_go 2 (pc' := 21) (ls' := [.ref 0, .int v1, .int v2, mq_un]) (st' := [.int 1]) (M' := M) rfl ?_
        exact H
/-! x_good (II)I -/
set_option maxRecDepth 20000 in
theorem r_x_good {L d : Nat} {M : pu_M} {Q : Int32 → pu_M → Prop} {v1 : Int32} {v2 : Int32} (H : (if v1 < 0 then Q ((-1000)) M else (if 5 < v1 then Q ((-1000)) M else (if v2 < 0 then Q ((-1000)) M else (if v2 ≤ 2 then (∃ y1, M 0 9 = nI y1 ∧ pu_isY y1 ∧ pu_V L (d + 4) 73 [.ref 5, .ref y1, .int v1] M (fun M3 => pu_I L (d + 4) 65 [.ref 5, .int v2] M3 (fun x5 M4 => Q x5 M4))) else Q ((-1000)) M))))) : pu_I L (d + 5) 142 [.ref 0, .int v1, .int v2] M Q := by
  show pu_R L (d + 5) 142 0 [.ref 0, .int v1, .int v2] [] M (pu_qI Q)
  refine pu_go 1 (pc' := 1) (ls' := [.ref 0, .int v1, .int v2]) (st' := [.int v1]) (M' := M) rfl ?_
  refine pu_if_lt rfl (fun hc => ?_) (fun hc => ?_)
  · replace H := Eq.mp (if_pos hc) H
    refine pu_go 1 (pc' := 21) (ls' := [.ref 0, .int v1, .int v2]) (st' := [.int ((-1000))]) (M' := M) rfl ?_
    exact pu_ret rfl rfl ⟨_, rfl, H⟩
  · replace H := Eq.mp (if_neg hc) H
    refine pu_go 2 (pc' := 6) (ls' := [.ref 0, .int v1, .int v2]) (st' := [.int 5, .int v1]) (M' := M) rfl ?_
    refine pu_icmp_gt rfl (fun hc => ?_) (fun hc => ?_)
    · replace H := Eq.mp (if_pos hc) H
      refine pu_go 1 (pc' := 21) (ls' := [.ref 0, .int v1, .int v2]) (st' := [.int ((-1000))]) (M' := M) rfl ?_
      exact pu_ret rfl rfl ⟨_, rfl, H⟩
    · replace H := Eq.mp (if_neg hc) H
      refine pu_go 1 (pc' := 10) (ls' := [.ref 0, .int v1, .int v2]) (st' := [.int v2]) (M' := M) rfl ?_
      refine pu_if_lt rfl (fun hc => ?_) (fun hc => ?_)
      · replace H := Eq.mp (if_pos hc) H
        refine pu_go 1 (pc' := 21) (ls' := [.ref 0, .int v1, .int v2]) (st' := [.int ((-1000))]) (M' := M) rfl ?_
        exact pu_ret rfl rfl ⟨_, rfl, H⟩
      · replace H := Eq.mp (if_neg hc) H
        refine pu_go 2 (pc' := 15) (ls' := [.ref 0, .int v1, .int v2]) (st' := [.int 2, .int v2]) (M' := M) rfl ?_
        refine pu_icmp_le rfl (fun hc => ?_) (fun hc => ?_)
        · replace H := Eq.mp (if_pos hc) H
          refine pu_go 3 (pc' := 27) (ls' := [.ref 0, .int v1, .int v2]) (st' := [.ref 0, .ref 5]) (M' := M) rfl ?_
          obtain ⟨y1, e2, hy1, H⟩ := H
          refine pu_getf (j := 9) rfl rfl (by decide) rfl (by decide) rfl (pu_val_d e2 (Nat.lt_trans (pu_Y_lt hy1) (by decide))) ?_
          refine pu_go 1 (pc' := 31) (ls' := [.ref 0, .int v1, .int v2]) (st' := [.int v1, .ref y1, .ref 5]) (M' := M) rfl ?_
          refine pu_callV (m' := 73) (ml := 8) (as := [.ref 5, .ref y1, .int v1]) (rest := []) rfl rfl rfl (Nat.le_of_ble_eq_true rfl) H (fun M3 H => ?_)
          show pu_R L (d + 5) 142 34 [.ref 0, .int v1, .int v2] [] M3 _
          refine pu_go 3 (pc' := 39) (ls' := [.ref 0, .int v1, .int v2]) (st' := [.int v2, .ref 5]) (M' := M3) rfl ?_
          refine pu_callI (m' := 65) (ml := 2) (as := [.ref 5, .int v2]) (rest := []) rfl rfl rfl (Nat.le_of_ble_eq_true rfl) H (fun x5 M4 H => ?_)
          show pu_R L (d + 5) 142 42 [.ref 0, .int v1, .int v2] [.int x5] M4 _
          exact pu_ret rfl rfl ⟨_, rfl, H⟩
        · replace H := Eq.mp (if_neg hc) H
          refine pu_go 1 (pc' := 21) (ls' := [.ref 0, .int v1, .int v2]) (st' := [.int ((-1000))]) (M' := M) rfl ?_
          exact pu_ret rfl rfl ⟨_, rfl, H⟩
/-! x_silent (I)I -/
set_option maxRecDepth 20000 in
theorem r_x_silent {L d : Nat} {M : pu_M} {Q : Int32 → pu_M → Prop} {v1 : Int32} (H : (if v1 < 0 then Q ((-1)) M else (if v1 ≤ 2 then (∃ y1, M 0 9 = nI y1 ∧ pu_isY y1 ∧ pu_J L (d + 3) 117 [.ref y1] M (fun x4 M3 => (if v1 = 2 then pu_I L (d + 3) 33 [.long x4] M3 (fun x12 M11 => Q x12 M11) else pu_J L (d + 3) 29 [.long (1152921504606846975 &&& (x4 ^^^ ((-1))))] M3 (fun x6 M5 => (if v1 = 0 then pu_I L (d + 3) 261 [.long (x4 &&& (x6 ^^^ ((-1))))] M5 (fun x10 M9 => Q x10 M9) else pu_I L (d + 3) 32 [.long (x4 &&& (x6 ^^^ ((-1))))] M5 (fun x8 M7 => Q x8 M7)))))) else Q ((-1)) M))) : pu_I L (d + 4) 143 [.ref 0, .int v1] M Q := by
  show pu_R L (d + 4) 143 0 [.ref 0, .int v1, mq_un, mq_un, mq_un, mq_un] [] M (pu_qI Q)
  refine pu_go 1 (pc' := 1) (ls' := [.ref 0, .int v1, mq_un, mq_un, mq_un, mq_un]) (st' := [.int v1]) (M' := M) rfl ?_
  refine pu_if_lt rfl (fun hc => ?_) (fun hc => ?_)
  · replace H := Eq.mp (if_pos hc) H
    refine pu_go 1 (pc' := 10) (ls' := [.ref 0, .int v1, mq_un, mq_un, mq_un, mq_un]) (st' := [.int ((-1))]) (M' := M) rfl ?_
    exact pu_ret rfl rfl ⟨_, rfl, H⟩
  · replace H := Eq.mp (if_neg hc) H
    refine pu_go 2 (pc' := 6) (ls' := [.ref 0, .int v1, mq_un, mq_un, mq_un, mq_un]) (st' := [.int 2, .int v1]) (M' := M) rfl ?_
    refine pu_icmp_le rfl (fun hc => ?_) (fun hc => ?_)
    · replace H := Eq.mp (if_pos hc) H
      refine pu_go 1 (pc' := 12) (ls' := [.ref 0, .int v1, mq_un, mq_un, mq_un, mq_un]) (st' := [.ref 0]) (M' := M) rfl ?_
      obtain ⟨y1, e2, hy1, H⟩ := H
      refine pu_getf (j := 9) rfl rfl (by decide) rfl (by decide) rfl (pu_val_d e2 (Nat.lt_trans (pu_Y_lt hy1) (by decide))) ?_
      refine pu_callJ (m' := 117) (ml := 4) (as := [.ref y1]) (rest := []) rfl (pu_virt (pu_Y_o hy1) (Nat.lt_trans (pu_Y_lt hy1) (by decide)) ⟨Nat.le_of_ble_eq_true rfl, Nat.le_of_ble_eq_true rfl⟩ rfl rfl) rfl (Nat.le_of_ble_eq_true rfl) H (fun x4 M3 H => ?_)
      show pu_R L (d + 4) 143 18 [.ref 0, .int v1, mq_un, mq_un, mq_un, mq_un] [.long x4] M3 _
      refine pu_go 3 (pc' := 21) (ls' := [.ref 0, .int v1, .long x4, mq_un, mq_un, mq_un]) (st' := [.int 2, .int v1]) (M' := M3) rfl ?_
      refine pu_icmp_ne rfl (fun hc => ?_) (fun hc => ?_)
      · replace H := Eq.mp (if_neg hc) H
        refine pu_go 6 (pc' := 39) (ls' := [.ref 0, .int v1, .long x4, mq_un, mq_un, mq_un]) (st' := [.long (1152921504606846975 &&& (x4 ^^^ ((-1)))), .long x4]) (M' := M3) rfl ?_
        refine pu_callJ (m' := 29) (ml := 4) (as := [.long (1152921504606846975 &&& (x4 ^^^ ((-1))))]) (rest := [.long x4]) rfl rfl rfl (Nat.le_of_ble_eq_true rfl) H (fun x6 M5 H => ?_)
        show pu_R L (d + 4) 143 42 [.ref 0, .int v1, .long x4, mq_un, mq_un, mq_un] [.long x6, .long x4] M5 _
        refine pu_go 5 (pc' := 50) (ls' := [.ref 0, .int v1, .long x4, mq_un, .long (x4 &&& (x6 ^^^ ((-1)))), mq_un]) (st' := [.int v1]) (M' := M5) rfl ?_
        refine pu_if_ne rfl (fun hc => ?_) (fun hc => ?_)
        · replace H := Eq.mp (if_neg hc) H
          refine pu_go 1 (pc' := 63) (ls' := [.ref 0, .int v1, .long x4, mq_un, .long (x4 &&& (x6 ^^^ ((-1)))), mq_un]) (st' := [.long (x4 &&& (x6 ^^^ ((-1))))]) (M' := M5) rfl ?_
          refine pu_callI (m' := 32) (ml := 3) (as := [.long (x4 &&& (x6 ^^^ ((-1))))]) (rest := []) rfl rfl rfl (Nat.le_of_ble_eq_true rfl) H (fun x8 M7 H => ?_)
          show pu_R L (d + 4) 143 66 [.ref 0, .int v1, .long x4, mq_un, .long (x4 &&& (x6 ^^^ ((-1)))), mq_un] [.int x8] M7 _
          exact pu_ret rfl rfl ⟨_, rfl, H⟩
        · replace H := Eq.mp (if_pos hc) H
          refine pu_go 1 (pc' := 55) (ls' := [.ref 0, .int v1, .long x4, mq_un, .long (x4 &&& (x6 ^^^ ((-1)))), mq_un]) (st' := [.long (x4 &&& (x6 ^^^ ((-1))))]) (M' := M5) rfl ?_
          refine pu_callI (m' := 261) (ml := 2) (as := [.long (x4 &&& (x6 ^^^ ((-1))))]) (rest := []) rfl rfl rfl (Nat.le_of_ble_eq_true rfl) H (fun x10 M9 H => ?_)
          show pu_R L (d + 4) 143 58 [.ref 0, .int v1, .long x4, mq_un, .long (x4 &&& (x6 ^^^ ((-1)))), mq_un] [.int x10] M9 _
          refine pu_go 1 (pc' := 66) (ls' := [.ref 0, .int v1, .long x4, mq_un, .long (x4 &&& (x6 ^^^ ((-1)))), mq_un]) (st' := [.int x10]) (M' := M9) rfl ?_
          exact pu_ret rfl rfl ⟨_, rfl, H⟩
      · replace H := Eq.mp (if_pos hc) H
        refine pu_go 1 (pc' := 25) (ls' := [.ref 0, .int v1, .long x4, mq_un, mq_un, mq_un]) (st' := [.long x4]) (M' := M3) rfl ?_
        refine pu_callI (m' := 33) (ml := 8) (as := [.long x4]) (rest := []) rfl rfl rfl (Nat.le_of_ble_eq_true rfl) H (fun x12 M11 H => ?_)
        show pu_R L (d + 4) 143 28 [.ref 0, .int v1, .long x4, mq_un, mq_un, mq_un] [.int x12] M11 _
        exact pu_ret rfl rfl ⟨_, rfl, H⟩
    · replace H := Eq.mp (if_neg hc) H
      refine pu_go 1 (pc' := 10) (ls' := [.ref 0, .int v1, mq_un, mq_un, mq_un, mq_un]) (st' := [.int ((-1))]) (M' := M) rfl ?_
      exact pu_ret rfl rfl ⟨_, rfl, H⟩
/-! x_visit (I)I -/
set_option maxRecDepth 20000 in
theorem r_x_visit {L d : Nat} {M : pu_M} {Q : Int32 → pu_M → Prop} {v1 : Int32} (H : (∃ y1, M 0 9 = nI y1 ∧ pu_isY y1 ∧ pu_I L (d + 2) 100 [.ref y1, .int v1] M (fun x4 M3 => (if x4 = 0 then Q ((-1)) M3 else (∃ y5, M3 0 9 = nI y5 ∧ pu_isY y5 ∧ pu_I L (d + 2) 102 [.ref y5, .int v1] M3 (fun x8 M7 => (if x8 = 0 then Q ((-2)) M7 else (∃ y9, M7 0 9 = nI y9 ∧ pu_isY y9 ∧ pu_J L (d + 2) 117 [.ref y9] M7 (fun x12 M11 => (∃ y13, M11 0 9 = nI y13 ∧ pu_isY y13 ∧ (mq_inb v1 16 = true ∧ pu_J L (d + 2) 29 [.long ((1 : Int64) <<< (((M11 (y13 + 3) v1.toNatClampNeg) : Int32).toInt64 &&& 63))] M11 (fun x17 M16 => pu_I L (d + 2) 31 [.long (x12 &&& 1), .long x17, .long x12] M16 (fun x19 M18 => Q x19 M18))))))))))))) : pu_I L (d + 3) 144 [.ref 0, .int v1] M Q := by
  show pu_R L (d + 3) 144 0 [.ref 0, .int v1, mq_un, mq_un] [] M (pu_qI Q)
  refine pu_go 1 (pc' := 1) (ls' := [.ref 0, .int v1, mq_un, mq_un]) (st' := [.ref 0]) (M' := M) rfl ?_
  obtain ⟨y1, e2, hy1, H⟩ := H
  refine pu_getf (j := 9) rfl rfl (by decide) rfl (by decide) rfl (pu_val_d e2 (Nat.lt_trans (pu_Y_lt hy1) (by decide))) ?_
  refine pu_go 1 (pc' := 5) (ls' := [.ref 0, .int v1, mq_un, mq_un]) (st' := [.int v1, .ref y1]) (M' := M) rfl ?_
  refine pu_callI (m' := 100) (ml := 2) (as := [.ref y1, .int v1]) (rest := []) rfl (pu_virt (pu_Y_o hy1) (Nat.lt_trans (pu_Y_lt hy1) (by decide)) ⟨Nat.le_of_ble_eq_true rfl, Nat.le_of_ble_eq_true rfl⟩ rfl rfl) rfl (Nat.le_of_ble_eq_true rfl) H (fun x4 M3 H => ?_)
  show pu_R L (d + 3) 144 8 [.ref 0, .int v1, mq_un, mq_un] [.int x4] M3 _
  refine pu_if_ne rfl (fun hc => ?_) (fun hc => ?_)
  · replace H := Eq.mp (if_neg hc) H
    refine pu_go 1 (pc' := 14) (ls' := [.ref 0, .int v1, mq_un, mq_un]) (st' := [.ref 0]) (M' := M3) rfl ?_
    obtain ⟨y5, e6, hy5, H⟩ := H
    refine pu_getf (j := 9) rfl rfl (by decide) rfl (by decide) rfl (pu_val_d e6 (Nat.lt_trans (pu_Y_lt hy5) (by decide))) ?_
    refine pu_go 1 (pc' := 18) (ls' := [.ref 0, .int v1, mq_un, mq_un]) (st' := [.int v1, .ref y5]) (M' := M3) rfl ?_
    refine pu_callI (m' := 102) (ml := 2) (as := [.ref y5, .int v1]) (rest := []) rfl (pu_virt (pu_Y_o hy5) (Nat.lt_trans (pu_Y_lt hy5) (by decide)) ⟨Nat.le_of_ble_eq_true rfl, Nat.le_of_ble_eq_true rfl⟩ rfl rfl) rfl (Nat.le_of_ble_eq_true rfl) H (fun x8 M7 H => ?_)
    show pu_R L (d + 3) 144 21 [.ref 0, .int v1, mq_un, mq_un] [.int x8] M7 _
    refine pu_if_ne rfl (fun hc => ?_) (fun hc => ?_)
    · replace H := Eq.mp (if_neg hc) H
      refine pu_go 1 (pc' := 28) (ls' := [.ref 0, .int v1, mq_un, mq_un]) (st' := [.ref 0]) (M' := M7) rfl ?_
      obtain ⟨y9, e10, hy9, H⟩ := H
      refine pu_getf (j := 9) rfl rfl (by decide) rfl (by decide) rfl (pu_val_d e10 (Nat.lt_trans (pu_Y_lt hy9) (by decide))) ?_
      refine pu_callJ (m' := 117) (ml := 4) (as := [.ref y9]) (rest := []) rfl (pu_virt (pu_Y_o hy9) (Nat.lt_trans (pu_Y_lt hy9) (by decide)) ⟨Nat.le_of_ble_eq_true rfl, Nat.le_of_ble_eq_true rfl⟩ rfl rfl) rfl (Nat.le_of_ble_eq_true rfl) H (fun x12 M11 H => ?_)
      show pu_R L (d + 3) 144 34 [.ref 0, .int v1, mq_un, mq_un] [.long x12] M11 _
      refine pu_go 6 (pc' := 40) (ls' := [.ref 0, .int v1, .long x12, mq_un]) (st' := [.ref 0, .long 1, .long (x12 &&& 1)]) (M' := M11) rfl ?_
      obtain ⟨y13, e14, hy13, H⟩ := H
      refine pu_getf (j := 9) rfl rfl (by decide) rfl (by decide) rfl (pu_val_d e14 (Nat.lt_trans (pu_Y_lt hy13) (by decide))) ?_
      refine pu_getf (j := 2) (w := .ref (y13 + 3)) rfl (pu_Y_o hy13) (Nat.lt_trans (pu_Y_lt hy13) (by decide)) rfl (by decide) rfl rfl ?_
      refine pu_go 1 (pc' := 47) (ls' := [.ref 0, .int v1, .long x12, mq_un]) (st' := [.int v1, .ref (y13 + 3), .long 1, .long (x12 &&& 1)]) (M' := M11) rfl ?_
      obtain ⟨hb15, H⟩ := H
      refine pu_iald rfl (pu_Y_3 hy13) (Or.inl (pu_Y_l3 hy13)) hb15 ?_
      refine pu_go 1 (pc' := 49) (ls' := [.ref 0, .int v1, .long x12, mq_un]) (st' := [.long ((1 : Int64) <<< (((M11 (y13 + 3) v1.toNatClampNeg) : Int32).toInt64 &&& 63)), .long (x12 &&& 1)]) (M' := M11) rfl ?_
      refine pu_callJ (m' := 29) (ml := 4) (as := [.long ((1 : Int64) <<< (((M11 (y13 + 3) v1.toNatClampNeg) : Int32).toInt64 &&& 63))]) (rest := [.long (x12 &&& 1)]) rfl rfl rfl (Nat.le_of_ble_eq_true rfl) H (fun x17 M16 H => ?_)
      show pu_R L (d + 3) 144 52 [.ref 0, .int v1, .long x12, mq_un] [.long x17, .long (x12 &&& 1)] M16 _
      refine pu_go 1 (pc' := 53) (ls' := [.ref 0, .int v1, .long x12, mq_un]) (st' := [.long x12, .long x17, .long (x12 &&& 1)]) (M' := M16) rfl ?_
      refine pu_callI (m' := 31) (ml := 9) (as := [.long (x12 &&& 1), .long x17, .long x12]) (rest := []) rfl rfl rfl (Nat.le_of_ble_eq_true rfl) H (fun x19 M18 H => ?_)
      show pu_R L (d + 3) 144 56 [.ref 0, .int v1, .long x12, mq_un] [.int x19] M18 _
      exact pu_ret rfl rfl ⟨_, rfl, H⟩
    · replace H := Eq.mp (if_pos hc) H
      refine pu_go 1 (pc' := 26) (ls' := [.ref 0, .int v1, mq_un, mq_un]) (st' := [.int ((-2))]) (M' := M7) rfl ?_
      exact pu_ret rfl rfl ⟨_, rfl, H⟩
  · replace H := Eq.mp (if_pos hc) H
    refine pu_go 1 (pc' := 12) (ls' := [.ref 0, .int v1, mq_un, mq_un]) (st' := [.int ((-1))]) (M' := M3) rfl ?_
    exact pu_ret rfl rfl ⟨_, rfl, H⟩
/-! x_visited ()I -/
set_option maxRecDepth 20000 in
theorem r_x_visited_22 {L d : Nat} {M : pu_M} {Q : Int32 → pu_M → Prop} {v1 : Int64} {v3 : Int64} {v5 : Int32} {v6 : Int32} (H : (if 16 ≤ v6 then Q v5 M else (∃ y1, M 0 9 = nI y1 ∧ pu_isY y1 ∧ pu_I L (d + 2) 102 [.ref y1, .int v6] M (fun x4 M3 => (if x4 = 0 then pu_R L (d + 3) 145 22 [.ref 0, .long v1, mq_un, .long v3, mq_un, .int v5, .int (v6 + 1)] [] M3 (pu_qI Q) else (∃ y5, M3 0 9 = nI y5 ∧ pu_isY y5 ∧ (mq_inb v6 16 = true ∧ pu_J L (d + 2) 29 [.long ((1 : Int64) <<< (((M3 (y5 + 3) v6.toNatClampNeg) : Int32).toInt64 &&& 63))] M3 (fun x9 M8 => (if (lg_cmp (x9 &&& v3) 0) = 0 then pu_R L (d + 3) 145 22 [.ref 0, .long v1, mq_un, .long v3, mq_un, .int v5, .int (v6 + 1)] [] M8 (pu_qI Q) else pu_R L (d + 3) 145 22 [.ref 0, .long v1, mq_un, .long v3, mq_un, .int (v5 ||| ((1 : Int32) <<< (v6 &&& 31))), .int (v6 + 1)] [] M8 (pu_qI Q)))))))))) : pu_R L (d + 3) 145 22 [.ref 0, .long v1, mq_un, .long v3, mq_un, .int v5, .int v6] [] M (pu_qI Q) := by
  refine pu_go 2 (pc' := 26) (ls' := [.ref 0, .long v1, mq_un, .long v3, mq_un, .int v5, .int v6]) (st' := [.int 16, .int v6]) (M' := M) rfl ?_
  refine pu_icmp_ge rfl (fun hc => ?_) (fun hc => ?_)
  · replace H := Eq.mp (if_pos hc) H
    refine pu_go 1 (pc' := 80) (ls' := [.ref 0, .long v1, mq_un, .long v3, mq_un, .int v5, .int v6]) (st' := [.int v5]) (M' := M) rfl ?_
    exact pu_ret rfl rfl ⟨_, rfl, H⟩
  · replace H := Eq.mp (if_neg hc) H
    refine pu_go 1 (pc' := 30) (ls' := [.ref 0, .long v1, mq_un, .long v3, mq_un, .int v5, .int v6]) (st' := [.ref 0]) (M' := M) rfl ?_
    obtain ⟨y1, e2, hy1, H⟩ := H
    refine pu_getf (j := 9) rfl rfl (by decide) rfl (by decide) rfl (pu_val_d e2 (Nat.lt_trans (pu_Y_lt hy1) (by decide))) ?_
    refine pu_go 1 (pc' := 35) (ls' := [.ref 0, .long v1, mq_un, .long v3, mq_un, .int v5, .int v6]) (st' := [.int v6, .ref y1]) (M' := M) rfl ?_
    refine pu_callI (m' := 102) (ml := 2) (as := [.ref y1, .int v6]) (rest := []) rfl (pu_virt (pu_Y_o hy1) (Nat.lt_trans (pu_Y_lt hy1) (by decide)) ⟨Nat.le_of_ble_eq_true rfl, Nat.le_of_ble_eq_true rfl⟩ rfl rfl) rfl (Nat.le_of_ble_eq_true rfl) H (fun x4 M3 H => ?_)
    show pu_R L (d + 3) 145 38 [.ref 0, .long v1, mq_un, .long v3, mq_un, .int v5, .int v6] [.int x4] M3 _
    refine pu_if_eq rfl (fun hc => ?_) (fun hc => ?_)
    · replace H := Eq.mp (if_pos hc) H
      refine pu_go 2 (pc' := 22) (ls' := [.ref 0, .long v1, mq_un, .long v3, mq_un, .int v5, .int (v6 + 1)]) (st' := []) (M' := M3) rfl ?_
      exact H
    · replace H := Eq.mp (if_neg hc) H
      refine pu_go 2 (pc' := 43) (ls' := [.ref 0, .long v1, mq_un, .long v3, mq_un, .int v5, .int v6]) (st' := [.ref 0, .long 1]) (M' := M3) rfl ?_
      obtain ⟨y5, e6, hy5, H⟩ := H
      refine pu_getf (j := 9) rfl rfl (by decide) rfl (by decide) rfl (pu_val_d e6 (Nat.lt_trans (pu_Y_lt hy5) (by decide))) ?_
      refine pu_getf (j := 2) (w := .ref (y5 + 3)) rfl (pu_Y_o hy5) (Nat.lt_trans (pu_Y_lt hy5) (by decide)) rfl (by decide) rfl rfl ?_
      refine pu_go 1 (pc' := 51) (ls' := [.ref 0, .long v1, mq_un, .long v3, mq_un, .int v5, .int v6]) (st' := [.int v6, .ref (y5 + 3), .long 1]) (M' := M3) rfl ?_
      obtain ⟨hb7, H⟩ := H
      refine pu_iald rfl (pu_Y_3 hy5) (Or.inl (pu_Y_l3 hy5)) hb7 ?_
      refine pu_go 1 (pc' := 53) (ls' := [.ref 0, .long v1, mq_un, .long v3, mq_un, .int v5, .int v6]) (st' := [.long ((1 : Int64) <<< (((M3 (y5 + 3) v6.toNatClampNeg) : Int32).toInt64 &&& 63))]) (M' := M3) rfl ?_
      refine pu_callJ (m' := 29) (ml := 4) (as := [.long ((1 : Int64) <<< (((M3 (y5 + 3) v6.toNatClampNeg) : Int32).toInt64 &&& 63))]) (rest := []) rfl rfl rfl (Nat.le_of_ble_eq_true rfl) H (fun x9 M8 H => ?_)
      show pu_R L (d + 3) 145 56 [.ref 0, .long v1, mq_un, .long v3, mq_un, .int v5, .int v6] [.long x9] M8 _
      refine pu_go 4 (pc' := 60) (ls' := [.ref 0, .long v1, mq_un, .long v3, mq_un, .int v5, .int v6]) (st' := [.int (lg_cmp (x9 &&& v3) 0)]) (M' := M8) rfl ?_
      refine pu_if_eq rfl (fun hc => ?_) (fun hc => ?_)
      · replace H := Eq.mp (if_pos hc) H
        refine pu_go 2 (pc' := 22) (ls' := [.ref 0, .long v1, mq_un, .long v3, mq_un, .int v5, .int (v6 + 1)]) (st' := []) (M' := M8) rfl ?_
        exact H
      · replace H := Eq.mp (if_neg hc) H
        refine pu_go 8 (pc' := 22) (ls' := [.ref 0, .long v1, mq_un, .long v3, mq_un, .int (v5 ||| ((1 : Int32) <<< (v6 &&& 31))), .int (v6 + 1)]) (st' := []) (M' := M8) rfl ?_
        exact H
set_option maxRecDepth 20000 in
theorem r_x_visited {L d : Nat} {M : pu_M} {Q : Int32 → pu_M → Prop}  (H : (∃ y1, M 0 9 = nI y1 ∧ pu_isY y1 ∧ pu_J L (d + 2) 117 [.ref y1] M (fun x4 M3 => pu_J L (d + 2) 30 [.long (x4 &&& 1), .long x4] M3 (fun x6 M5 => pu_R L (d + 3) 145 22 [.ref 0, .long x4, mq_un, .long x6, mq_un, .int 0, .int 0] [] M5 (pu_qI Q))))) : pu_I L (d + 3) 145 [.ref 0] M Q := by
  show pu_R L (d + 3) 145 0 [.ref 0, mq_un, mq_un, mq_un, mq_un, mq_un, mq_un] [] M (pu_qI Q)
  refine pu_go 1 (pc' := 1) (ls' := [.ref 0, mq_un, mq_un, mq_un, mq_un, mq_un, mq_un]) (st' := [.ref 0]) (M' := M) rfl ?_
  obtain ⟨y1, e2, hy1, H⟩ := H
  refine pu_getf (j := 9) rfl rfl (by decide) rfl (by decide) rfl (pu_val_d e2 (Nat.lt_trans (pu_Y_lt hy1) (by decide))) ?_
  refine pu_callJ (m' := 117) (ml := 4) (as := [.ref y1]) (rest := []) rfl (pu_virt (pu_Y_o hy1) (Nat.lt_trans (pu_Y_lt hy1) (by decide)) ⟨Nat.le_of_ble_eq_true rfl, Nat.le_of_ble_eq_true rfl⟩ rfl rfl) rfl (Nat.le_of_ble_eq_true rfl) H (fun x4 M3 H => ?_)
  show pu_R L (d + 3) 145 7 [.ref 0, mq_un, mq_un, mq_un, mq_un, mq_un, mq_un] [.long x4] M3 _
  refine pu_go 5 (pc' := 12) (ls' := [.ref 0, .long x4, mq_un, mq_un, mq_un, mq_un, mq_un]) (st' := [.long x4, .long (x4 &&& 1)]) (M' := M3) rfl ?_
  refine pu_callJ (m' := 30) (ml := 7) (as := [.long (x4 &&& 1), .long x4]) (rest := []) rfl rfl rfl (Nat.le_of_ble_eq_true rfl) H (fun x6 M5 H => ?_)
  show pu_R L (d + 3) 145 15 [.ref 0, .long x4, mq_un, mq_un, mq_un, mq_un, mq_un] [.long x6] M5 _
  refine pu_go 5 (pc' := 22) (ls' := [.ref 0, .long x4, mq_un, .long x6, mq_un, .int 0, .int 0]) (st' := []) (M' := M5) rfl ?_
  exact H
