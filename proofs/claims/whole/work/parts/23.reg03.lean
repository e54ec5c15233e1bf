/-! Plan_seekPlot (LTalkingPlots$Yard;I)V -/
set_option maxRecDepth 20000 in
theorem r_Plan_seekPlot_8 {L d : Nat} {M : pu_M} {Q : pu_M → Prop} {v1 : Nat} (hv1 : pu_isY v1) {v2 : Int32} {v3 : Int32} (H : (if 60 ≤ v3 then Q M else pu_I L (d + 3) 112 [.ref v1, .int v3] M (fun x2 M1 => (if (x2 &&& (((1 : Int32) <<< (v2 &&& 31)) ^^^ ((-1)))) = 0 then pu_I L (d + 3) 119 [.ref v1, .int v2, .int v3, .int 0] M1 (fun x4 M3 => pu_V L (d + 3) 67 [.ref 5, .int v2, .int v3, .int x4] M3 (fun M5 => pu_R L (d + 4) 69 8 [.ref 5, .ref v1, .int v2, .int (v3 + 1)] [] M5 (pu_qV Q))) else pu_R L (d + 4) 69 8 [.ref 5, .ref v1, .int v2, .int (v3 + 1)] [] M1 (pu_qV Q))))) : pu_R L (d + 4) 69 8 [.ref 5, .ref v1, .int v2, .int v3] [] M (pu_qV Q) := by
  refine pu_go 2 (pc' := 11) (ls' := [.ref 5, .ref v1, .int v2, .int v3]) (st' := [.int 60, .int v3]) (M' := M) rfl ?_
  refine pu_icmp_ge rfl (fun hc => ?_) (fun hc => ?_)
  · replace H := Eq.mp (if_pos hc) H
    exact pu_ret rfl rfl ⟨rfl, H⟩
  · replace H := Eq.mp (if_neg hc) H
    refine pu_go 2 (pc' := 16) (ls' := [.ref 5, .ref v1, .int v2, .int v3]) (st' := [.int v3, .ref v1]) (M' := M) rfl ?_
    refine pu_callI (m' := 112) (ml := 3) (as := [.ref v1, .int v3]) (rest := []) rfl (pu_virt (pu_Y_o hv1) (Nat.lt_trans (pu_Y_lt hv1) (by decide)) ⟨Nat.le_of_ble_eq_true rfl, Nat.le_of_ble_eq_true rfl⟩ rfl rfl) rfl (Nat.le_of_ble_eq_true rfl) H (fun x2 M1 H => ?_)
    show pu_R L (d + 4) 69 19 [.ref 5, .ref v1, .int v2, .int v3] [.int x2] M1 _
    refine pu_go 6 (pc' := 25) (ls' := [.ref 5, .ref v1, .int v2, .int v3]) (st' := [.int (x2 &&& (((1 : Int32) <<< (v2 &&& 31)) ^^^ ((-1))))]) (M' := M1) rfl ?_
    refine pu_if_ne rfl (fun hc => ?_) (fun hc => ?_)
    · replace H := Eq.mp (if_neg hc) H
      refine pu_go 2 (pc' := 8) (ls' := [.ref 5, .ref v1, .int v2, .int (v3 + 1)]) (st' := []) (M' := M1) rfl ?_
      exact H
    · replace H := Eq.mp (if_pos hc) H
      refine pu_go 7 (pc' := 35) (ls' := [.ref 5, .ref v1, .int v2, .int v3]) (st' := [.int 0, .int v3, .int v2, .ref v1, .int v3, .int v2, .ref 5]) (M' := M1) rfl ?_
      refine pu_callI (m' := 119) (ml := 7) (as := [.ref v1, .int v2, .int v3, .int 0]) (rest := [.int v3, .int v2, .ref 5]) rfl (pu_virt (pu_Y_o hv1) (Nat.lt_trans (pu_Y_lt hv1) (by decide)) ⟨Nat.le_of_ble_eq_true rfl, Nat.le_of_ble_eq_true rfl⟩ rfl rfl) rfl (Nat.le_of_ble_eq_true rfl) H (fun x4 M3 H => ?_)
      show pu_R L (d + 4) 69 38 [.ref 5, .ref v1, .int v2, .int v3] [.int x4, .int v3, .int v2, .ref 5] M3 _
      refine pu_callV (m' := 67) (ml := 4) (as := [.ref 5, .int v2, .int v3, .int x4]) (rest := []) rfl rfl rfl (Nat.le_of_ble_eq_true rfl) H (fun M5 H => ?_)
      show pu_R L (d + 4) 69 41 [.ref 5, .ref v1, .int v2, .int v3] [] M5 _
      refine pu_go 2 (pc' := 8) (ls' := [.ref 5, .ref v1, .int v2, .int (v3 + 1)]) (st' := []) (M' := M5) rfl ?_
      exact H
set_option maxRecDepth 20000 in
theorem r_Plan_seekPlot {L d : Nat} {M : pu_M} {Q : pu_M → Prop} {v1 : Nat} (hv1 : pu_isY v1) {v2 : Int32} (H : pu_V L (d + 3) 66 [.ref 5, .int ((-1000000))] M (fun M1 => pu_R L (d + 4) 69 8 [.ref 5, .ref v1, .int v2, .int 0] [] M1 (pu_qV Q))) : pu_V L (d + 4) 69 [.ref 5, .ref v1, .int v2] M Q := by
  show pu_R L (d + 4) 69 0 [.ref 5, .ref v1, .int v2, mq_un] [] M (pu_qV Q)
  refine pu_go 2 (pc' := 3) (ls' := [.ref 5, .ref v1, .int v2, mq_un]) (st' := [.int ((-1000000)), .ref 5]) (M' := M) rfl ?_
  refine pu_callV (m' := 66) (ml := 2) (as := [.ref 5, .int ((-1000000))]) (rest := []) rfl rfl rfl (Nat.le_of_ble_eq_true rfl) H (fun M1 H => ?_)
  show pu_R L (d + 4) 69 6 [.ref 5, .ref v1, .int v2, mq_un] [] M1 _
  refine pu_go 2 (pc' := 8) (ls' := [.ref 5, .ref v1, .int v2, .int 0]) (st' := []) (M' := M1) rfl ?_
  exact H
/-! Plan_seekMove (LTalkingPlots$Yard;)V -/
set_option maxRecDepth 20000 in
theorem r_Plan_seekMove_41 {L d : Nat} {M : pu_M} {Q : pu_M → Prop} {v1 : Nat} (hv1 : pu_isY v1) {v2 : Int32} {v3 : Int32} {v4 : Int32} (H : (if 60 ≤ v4 then pu_R L (d + 4) 70 7 [.ref 5, .ref v1, .int (v2 + 1), .int v3, .int v4] [] M (pu_qV Q) else pu_I L (d + 3) 102 [.ref v1, .int v2] M (fun x2 M1 => (if x2 = 0 then pu_R L (d + 4) 70 7 [.ref 5, .ref v1, .int (v2 + 1), .int v3, .int v4] [] M1 (pu_qV Q) else pu_I L (d + 3) 112 [.ref v1, .int v4] M1 (fun x4 M3 => (if x4 = 0 then pu_I L (d + 3) 119 [.ref v1, .int v2, .int v4, .int 0] M3 (fun x6 M5 => pu_V L (d + 3) 67 [.ref 5, .int v2, .int v4, .int (x6 - v3)] M5 (fun M7 => pu_R L (d + 4) 70 41 [.ref 5, .ref v1, .int v2, .int v3, .int (v4 + 1)] [] M7 (pu_qV Q))) else pu_R L (d + 4) 70 41 [.ref 5, .ref v1, .int v2, .int v3, .int (v4 + 1)] [] M3 (pu_qV Q))))))) : pu_R L (d + 4) 70 41 [.ref 5, .ref v1, .int v2, .int v3, .int v4] [] M (pu_qV Q) := by
  refine pu_go 2 (pc' := 45) (ls' := [.ref 5, .ref v1, .int v2, .int v3, .int v4]) (st' := [.int 60, .int v4]) (M' := M) rfl ?_
  refine pu_icmp_ge rfl (fun hc => ?_) (fun hc => ?_)
  · replace H := Eq.mp (if_pos hc) H
    refine pu_go 2 (pc' := 7) (ls' := [.ref 5, .ref v1, .int (v2 + 1), .int v3, .int v4]) (st' := []) (M' := M) rfl ?_
    exact H
  · replace H := Eq.mp (if_neg hc) H
    refine pu_go 2 (pc' := 50) (ls' := [.ref 5, .ref v1, .int v2, .int v3, .int v4]) (st' := [.int v2, .ref v1]) (M' := M) rfl ?_
    refine pu_callI (m' := 102) (ml := 2) (as := [.ref v1, .int v2]) (rest := []) rfl (pu_virt (pu_Y_o hv1) (Nat.lt_trans (pu_Y_lt hv1) (by decide)) ⟨Nat.le_of_ble_eq_true rfl, Nat.le_of_ble_eq_true rfl⟩ rfl rfl) rfl (Nat.le_of_ble_eq_true rfl) H (fun x2 M1 H => ?_)
    show pu_R L (d + 4) 70 53 [.ref 5, .ref v1, .int v2, .int v3, .int v4] [.int x2] M1 _
    refine pu_if_eq rfl (fun hc => ?_) (fun hc => ?_)
    · replace H := Eq.mp (if_pos hc) H
      refine pu_go 2 (pc' := 7) (ls' := [.ref 5, .ref v1, .int (v2 + 1), .int v3, .int v4]) (st' := []) (M' := M1) rfl ?_
      exact H
    · replace H := Eq.mp (if_neg hc) H
      refine pu_go 2 (pc' := 59) (ls' := [.ref 5, .ref v1, .int v2, .int v3, .int v4]) (st' := [.int v4, .ref v1]) (M' := M1) rfl ?_
      refine pu_callI (m' := 112) (ml := 3) (as := [.ref v1, .int v4]) (rest := []) rfl (pu_virt (pu_Y_o hv1) (Nat.lt_trans (pu_Y_lt hv1) (by decide)) ⟨Nat.le_of_ble_eq_true rfl, Nat.le_of_ble_eq_true rfl⟩ rfl rfl) rfl (Nat.le_of_ble_eq_true rfl) H (fun x4 M3 H => ?_)
      show pu_R L (d + 4) 70 62 [.ref 5, .ref v1, .int v2, .int v3, .int v4] [.int x4] M3 _
      refine pu_if_ne rfl (fun hc => ?_) (fun hc => ?_)
      · replace H := Eq.mp (if_neg hc) H
        refine pu_go 2 (pc' := 41) (ls' := [.ref 5, .ref v1, .int v2, .int v3, .int (v4 + 1)]) (st' := []) (M' := M3) rfl ?_
        exact H
      · replace H := Eq.mp (if_pos hc) H
        refine pu_go 7 (pc' := 74) (ls' := [.ref 5, .ref v1, .int v2, .int v3, .int v4]) (st' := [.int 0, .int v4, .int v2, .ref v1, .int v4, .int v2, .ref 5]) (M' := M3) rfl ?_
        refine pu_callI (m' := 119) (ml := 7) (as := [.ref v1, .int v2, .int v4, .int 0]) (rest := [.int v4, .int v2, .ref 5]) rfl (pu_virt (pu_Y_o hv1) (Nat.lt_trans (pu_Y_lt hv1) (by decide)) ⟨Nat.le_of_ble_eq_true rfl, Nat.le_of_ble_eq_true rfl⟩ rfl rfl) rfl (Nat.le_of_ble_eq_true rfl) H (fun x6 M5 H => ?_)
        show pu_R L (d + 4) 70 77 [.ref 5, .ref v1, .int v2, .int v3, .int v4] [.int x6, .int v4, .int v2, .ref 5] M5 _
        refine pu_go 2 (pc' := 79) (ls' := [.ref 5, .ref v1, .int v2, .int v3, .int v4]) (st' := [.int (x6 - v3), .int v4, .int v2, .ref 5]) (M' := M5) rfl ?_
        refine pu_callV (m' := 67) (ml := 4) (as := [.ref 5, .int v2, .int v4, .int (x6 - v3)]) (rest := []) rfl rfl rfl (Nat.le_of_ble_eq_true rfl) H (fun M7 H => ?_)
        show pu_R L (d + 4) 70 82 [.ref 5, .ref v1, .int v2, .int v3, .int v4] [] M7 _
        refine pu_go 2 (pc' := 41) (ls' := [.ref 5, .ref v1, .int v2, .int v3, .int (v4 + 1)]) (st' := []) (M' := M7) rfl ?_
        exact H
set_option maxRecDepth 20000 in
theorem r_Plan_seekMove_7 {L d : Nat} {M : pu_M} {Q : pu_M → Prop} {v1 : Nat} (hv1 : pu_isY v1) {v2 : Int32} {v3 : Value} {v4 : Value} (H : (if 16 ≤ v2 then pu_V L (d + 3) 68 [.ref 5] M (fun M1 => Q M1) else pu_I L (d + 3) 102 [.ref v1, .int v2] M (fun x3 M2 => (if x3 = 0 then pu_R L (d + 4) 70 41 [.ref 5, .ref v1, .int v2, .int 0, .int 0] [] M2 (pu_qV Q) else (mq_inb v2 16 = true ∧ pu_I L (d + 3) 119 [.ref v1, .int v2, .int (M2 (v1 + 3) v2.toNatClampNeg), .int 0] M2 (fun x6 M5 => pu_R L (d + 4) 70 41 [.ref 5, .ref v1, .int v2, .int x6, .int 0] [] M5 (pu_qV Q))))))) : pu_R L (d + 4) 70 7 [.ref 5, .ref v1, .int v2, v3, v4] [] M (pu_qV Q) := by
  refine pu_go 2 (pc' := 10) (ls' := [.ref 5, .ref v1, .int v2, v3, v4]) (st' := [.int 16, .int v2]) (M' := M) rfl ?_
  refine pu_icmp_ge rfl (fun hc => ?_) (fun hc => ?_)
  · replace H := Eq.mp (if_pos hc) H
    refine pu_go 1 (pc' := 95) (ls' := [.ref 5, .ref v1, .int v2, v3, v4]) (st' := [.ref 5]) (M' := M) rfl ?_
    refine pu_callV (m' := 68) (ml := 1) (as := [.ref 5]) (rest := []) rfl rfl rfl (Nat.le_of_ble_eq_true rfl) H (fun M1 H => ?_)
    show pu_R L (d + 4) 70 98 [.ref 5, .ref v1, .int v2, v3, v4] [] M1 _
    exact pu_ret rfl rfl ⟨rfl, H⟩
  · replace H := Eq.mp (if_neg hc) H
    refine pu_go 2 (pc' := 15) (ls' := [.ref 5, .ref v1, .int v2, v3, v4]) (st' := [.int v2, .ref v1]) (M' := M) rfl ?_
    refine pu_callI (m' := 102) (ml := 2) (as := [.ref v1, .int v2]) (rest := []) rfl (pu_virt (pu_Y_o hv1) (Nat.lt_trans (pu_Y_lt hv1) (by decide)) ⟨Nat.le_of_ble_eq_true rfl, Nat.le_of_ble_eq_true rfl⟩ rfl rfl) rfl (Nat.le_of_ble_eq_true rfl) H (fun x3 M2 H => ?_)
    show pu_R L (d + 4) 70 18 [.ref 5, .ref v1, .int v2, v3, v4] [.int x3] M2 _
    refine pu_if_eq rfl (fun hc => ?_) (fun hc => ?_)
    · replace H := Eq.mp (if_pos hc) H
      refine pu_go 4 (pc' := 41) (ls' := [.ref 5, .ref v1, .int v2, .int 0, .int 0]) (st' := []) (M' := M2) rfl ?_
      exact H
    · replace H := Eq.mp (if_neg hc) H
      refine pu_go 3 (pc' := 24) (ls' := [.ref 5, .ref v1, .int v2, v3, v4]) (st' := [.ref v1, .int v2, .ref v1]) (M' := M2) rfl ?_
      refine pu_getf (j := 2) (w := .ref (v1 + 3)) rfl (pu_Y_o hv1) (Nat.lt_trans (pu_Y_lt hv1) (by decide)) rfl (by decide) rfl rfl ?_
      refine pu_go 1 (pc' := 28) (ls' := [.ref 5, .ref v1, .int v2, v3, v4]) (st' := [.int v2, .ref (v1 + 3), .int v2, .ref v1]) (M' := M2) rfl ?_
      obtain ⟨hb4, H⟩ := H
      refine pu_iald rfl (pu_Y_3 hv1) (Or.inl (pu_Y_l3 hv1)) hb4 ?_
      refine pu_go 1 (pc' := 30) (ls' := [.ref 5, .ref v1, .int v2, v3, v4]) (st' := [.int 0, .int (M2 (v1 + 3) v2.toNatClampNeg), .int v2, .ref v1]) (M' := M2) rfl ?_
      refine pu_callI (m' := 119) (ml := 7) (as := [.ref v1, .int v2, .int (M2 (v1 + 3) v2.toNatClampNeg), .int 0]) (rest := []) rfl (pu_virt (pu_Y_o hv1) (Nat.lt_trans (pu_Y_lt hv1) (by decide)) ⟨Nat.le_of_ble_eq_true rfl, Nat.le_of_ble_eq_true rfl⟩ rfl rfl) rfl (Nat.le_of_ble_eq_true rfl) H (fun x6 M5 H => ?_)
      show pu_R L (d + 4) 70 33 [.ref 5, .ref v1, .int v2, v3, v4] [.int x6] M5 _
      refine pu_go 4 (pc' := 41) (ls' := [.ref 5, .ref v1, .int v2, .int x6, .int 0]) (st' := []) (M' := M5) rfl ?_
      exact H
set_option maxRecDepth 20000 in
theorem r_Plan_seekMove {L d : Nat} {M : pu_M} {Q : pu_M → Prop} {v1 : Nat} (hv1 : pu_isY v1) (H : pu_V L (d + 3) 66 [.ref 5, .int 0] M (fun M1 => pu_R L (d + 4) 70 7 [.ref 5, .ref v1, .int 0, mq_un, mq_un] [] M1 (pu_qV Q))) : pu_V L (d + 4) 70 [.ref 5, .ref v1] M Q := by
  show pu_R L (d + 4) 70 0 [.ref 5, .ref v1, mq_un, mq_un, mq_un] [] M (pu_qV Q)
  refine pu_go 2 (pc' := 2) (ls' := [.ref 5, .ref v1, mq_un, mq_un, mq_un]) (st' := [.int 0, .ref 5]) (M' := M) rfl ?_
  refine pu_callV (m' := 66) (ml := 2) (as := [.ref 5, .int 0]) (rest := []) rfl rfl rfl (Nat.le_of_ble_eq_true rfl) H (fun M1 H => ?_)
  show pu_R L (d + 4) 70 5 [.ref 5, .ref v1, mq_un, mq_un, mq_un] [] M1 _
  refine pu_go 2 (pc' := 7) (ls' := [.ref 5, .ref v1, .int 0, mq_un, mq_un]) (st' := []) (M' := M1) rfl ?_
  exact H
/-! Plan_seekChange (LTalkingPlots$Yard;)V -/
set_option maxRecDepth 20000 in
theorem r_Plan_seekChange_17 {L d : Nat} {M : pu_M} {Q : pu_M → Prop} {v1 : Nat} (hv1 : pu_isY v1) {v2 : Int32} {v3 : Int32} (H : (if 16 ≤ v3 then pu_R L (d + 5) 71 7 [.ref 5, .ref v1, .int (v2 + 1), .int v3] [] M (pu_qV Q) else pu_I L (d + 4) 102 [.ref v1, .int v2] M (fun x2 M1 => (if x2 = 0 then pu_R L (d + 5) 71 17 [.ref 5, .ref v1, .int v2, .int (v3 + 1)] [] M1 (pu_qV Q) else pu_I L (d + 4) 102 [.ref v1, .int v3] M1 (fun x4 M3 => (if x4 = 0 then pu_R L (d + 5) 71 17 [.ref 5, .ref v1, .int v2, .int (v3 + 1)] [] M3 (pu_qV Q) else pu_I L (d + 4) 72 [.ref v1, .int v2, .int v3] M3 (fun x6 M5 => pu_V L (d + 4) 67 [.ref 5, .int v2, .int v3, .int x6] M5 (fun M7 => pu_R L (d + 5) 71 17 [.ref 5, .ref v1, .int v2, .int (v3 + 1)] [] M7 (pu_qV Q))))))))) : pu_R L (d + 5) 71 17 [.ref 5, .ref v1, .int v2, .int v3] [] M (pu_qV Q) := by
  refine pu_go 2 (pc' := 20) (ls' := [.ref 5, .ref v1, .int v2, .int v3]) (st' := [.int 16, .int v3]) (M' := M) rfl ?_
  refine pu_icmp_ge rfl (fun hc => ?_) (fun hc => ?_)
  · replace H := Eq.mp (if_pos hc) H
    refine pu_go 2 (pc' := 7) (ls' := [.ref 5, .ref v1, .int (v2 + 1), .int v3]) (st' := []) (M' := M) rfl ?_
    exact H
  · replace H := Eq.mp (if_neg hc) H
    refine pu_go 2 (pc' := 25) (ls' := [.ref 5, .ref v1, .int v2, .int v3]) (st' := [.int v2, .ref v1]) (M' := M) rfl ?_
    refine pu_callI (m' := 102) (ml := 2) (as := [.ref v1, .int v2]) (rest := []) rfl (pu_virt (pu_Y_o hv1) (Nat.lt_trans (pu_Y_lt hv1) (by decide)) ⟨Nat.le_of_ble_eq_true rfl, Nat.le_of_ble_eq_true rfl⟩ rfl rfl) rfl (Nat.le_of_ble_eq_true rfl) H (fun x2 M1 H => ?_)
    show pu_R L (d + 5) 71 28 [.ref 5, .ref v1, .int v2, .int v3] [.int x2] M1 _
    refine pu_if_eq rfl (fun hc => ?_) (fun hc => ?_)
    · replace H := Eq.mp (if_pos hc) H
      refine pu_go 2 (pc' := 17) (ls' := [.ref 5, .ref v1, .int v2, .int (v3 + 1)]) (st' := []) (M' := M1) rfl ?_
      exact H
    · replace H := Eq.mp (if_neg hc) H
      refine pu_go 2 (pc' := 33) (ls' := [.ref 5, .ref v1, .int v2, .int v3]) (st' := [.int v3, .ref v1]) (M' := M1) rfl ?_
      refine pu_callI (m' := 102) (ml := 2) (as := [.ref v1, .int v3]) (rest := []) rfl (pu_virt (pu_Y_o hv1) (Nat.lt_trans (pu_Y_lt hv1) (by decide)) ⟨Nat.le_of_ble_eq_true rfl, Nat.le_of_ble_eq_true rfl⟩ rfl rfl) rfl (Nat.le_of_ble_eq_true rfl) H (fun x4 M3 H => ?_)
      show pu_R L (d + 5) 71 36 [.ref 5, .ref v1, .int v2, .int v3] [.int x4] M3 _
      refine pu_if_eq rfl (fun hc => ?_) (fun hc => ?_)
      · replace H := Eq.mp (if_pos hc) H
        refine pu_go 2 (pc' := 17) (ls' := [.ref 5, .ref v1, .int v2, .int (v3 + 1)]) (st' := []) (M' := M3) rfl ?_
        exact H
      · replace H := Eq.mp (if_neg hc) H
        refine pu_go 6 (pc' := 45) (ls' := [.ref 5, .ref v1, .int v2, .int v3]) (st' := [.int v3, .int v2, .ref v1, .int v3, .int v2, .ref 5]) (M' := M3) rfl ?_
        refine pu_callI (m' := 72) (ml := 7) (as := [.ref v1, .int v2, .int v3]) (rest := [.int v3, .int v2, .ref 5]) rfl rfl rfl (Nat.le_of_ble_eq_true rfl) H (fun x6 M5 H => ?_)
        show pu_R L (d + 5) 71 48 [.ref 5, .ref v1, .int v2, .int v3] [.int x6, .int v3, .int v2, .ref 5] M5 _
        refine pu_callV (m' := 67) (ml := 4) (as := [.ref 5, .int v2, .int v3, .int x6]) (rest := []) rfl rfl rfl (Nat.le_of_ble_eq_true rfl) H (fun M7 H => ?_)
        show pu_R L (d + 5) 71 51 [.ref 5, .ref v1, .int v2, .int v3] [] M7 _
        refine pu_go 2 (pc' := 17) (ls' := [.ref 5, .ref v1, .int v2, .int (v3 + 1)]) (st' := []) (M' := M7) rfl ?_
        exact H
set_option maxRecDepth 20000 in
theorem r_Plan_seekChange_7 {L d : Nat} {M : pu_M} {Q : pu_M → Prop} {v1 : Nat} (hv1 : pu_isY v1) {v2 : Int32} {v3 : Value} (H : (if 16 ≤ v2 then pu_V L (d + 4) 68 [.ref 5] M (fun M1 => Q M1) else pu_R L (d + 5) 71 17 [.ref 5, .ref v1, .int v2, .int (v2 + 1)] [] M (pu_qV Q))) : pu_R L (d + 5) 71 7 [.ref 5, .ref v1, .int v2, v3] [] M (pu_qV Q) := by
  refine pu_go 2 (pc' := 10) (ls' := [.ref 5, .ref v1, .int v2, v3]) (st' := [.int 16, .int v2]) (M' := M) rfl ?_
  refine pu_icmp_ge rfl (fun hc => ?_) (fun hc => ?_)
  · replace H := Eq.mp (if_pos hc) H
    refine pu_go 1 (pc' := 64) (ls' := [.ref 5, .ref v1, .int v2, v3]) (st' := [.ref 5]) (M' := M) rfl ?_
    refine pu_callV (m' := 68) (ml := 1) (as := [.ref 5]) (rest := []) rfl rfl rfl (Nat.le_of_ble_eq_true rfl) H (fun M1 H => ?_)
    show pu_R L (d + 5) 71 67 [.ref 5, .ref v1, .int v2, v3] [] M1 _
    exact pu_ret rfl rfl ⟨rfl, H⟩
  · replace H := Eq.mp (if_neg hc) H
    refine pu_go 4 (pc' := 17) (ls' := [.ref 5, .ref v1, .int v2, .int (v2 + 1)]) (st' := []) (M' := M) rfl ?_
    exact H
set_option maxRecDepth 20000 in
theorem r_Plan_seekChange {L d : Nat} {M : pu_M} {Q : pu_M → Prop} {v1 : Nat} (hv1 : pu_isY v1) (H : pu_V L (d + 4) 66 [.ref 5, .int 0] M (fun M1 => pu_R L (d + 5) 71 7 [.ref 5, .ref v1, .int 0, mq_un] [] M1 (pu_qV Q))) : pu_V L (d + 5) 71 [.ref 5, .ref v1] M Q := by
  show pu_R L (d + 5) 71 0 [.ref 5, .ref v1, mq_un, mq_un] [] M (pu_qV Q)
  refine pu_go 2 (pc' := 2) (ls' := [.ref 5, .ref v1, mq_un, mq_un]) (st' := [.int 0, .ref 5]) (M' := M) rfl ?_
  refine pu_callV (m' := 66) (ml := 2) (as := [.ref 5, .int 0]) (rest := []) rfl rfl rfl (Nat.le_of_ble_eq_true rfl) H (fun M1 H => ?_)
  show pu_R L (d + 5) 71 5 [.ref 5, .ref v1, mq_un, mq_un] [] M1 _
  refine pu_go 2 (pc' := 7) (ls' := [.ref 5, .ref v1, .int 0, mq_un]) (st' := []) (M' := M1) rfl ?_
  exact H
/-! Plan_gainByChange (LTalkingPlots$Yard;II)I -/
set_option maxRecDepth 20000 in
theorem r_Plan_gainByChange {L d : Nat} {M : pu_M} {Q : Int32 → pu_M → Prop} {v0 : Nat} (hv0 : pu_isY v0) {v1 : Int32} {v2 : Int32} (H : (mq_inb v1 16 = true ∧ (mq_inb v2 16 = true ∧ pu_I L (d + 3) 119 [.ref v0, .int v1, .int (M (v0 + 3) v2.toNatClampNeg), .int ((1 : Int32) <<< (v2 &&& 31))] M (fun x4 M3 => pu_I L (d + 3) 119 [.ref v0, .int v2, .int (M (v0 + 3) v1.toNatClampNeg), .int ((1 : Int32) <<< (v1 &&& 31))] M3 (fun x6 M5 => pu_I L (d + 3) 119 [.ref v0, .int v1, .int (M (v0 + 3) v1.toNatClampNeg), .int ((1 : Int32) <<< (v2 &&& 31))] M5 (fun x8 M7 => pu_I L (d + 3) 119 [.ref v0, .int v2, .int (M (v0 + 3) v2.toNatClampNeg), .int ((1 : Int32) <<< (v1 &&& 31))] M7 (fun x10 M9 => Q ((x4 + x6) - (x8 + x10)) M9))))))) : pu_I L (d + 4) 72 [.ref v0, .int v1, .int v2] M Q := by
  show pu_R L (d + 4) 72 0 [.ref v0, .int v1, .int v2, mq_un, mq_un, mq_un, mq_un] [] M (pu_qI Q)
  refine pu_go 1 (pc' := 1) (ls' := [.ref v0, .int v1, .int v2, mq_un, mq_un, mq_un, mq_un]) (st' := [.ref v0]) (M' := M) rfl ?_
  refine pu_getf (j := 2) (w := .ref (v0 + 3)) rfl (pu_Y_o hv0) (Nat.lt_trans (pu_Y_lt hv0) (by decide)) rfl (by decide) rfl rfl ?_
  refine pu_go 1 (pc' := 5) (ls' := [.ref v0, .int v1, .int v2, mq_un, mq_un, mq_un, mq_un]) (st' := [.int v1, .ref (v0 + 3)]) (M' := M) rfl ?_
  obtain ⟨hb1, H⟩ := H
  refine pu_iald rfl (pu_Y_3 hv0) (Or.inl (pu_Y_l3 hv0)) hb1 ?_
  refine pu_go 2 (pc' := 8) (ls' := [.ref v0, .int v1, .int v2, .int (M (v0 + 3) v1.toNatClampNeg), mq_un, mq_un, mq_un]) (st' := [.ref v0]) (M' := M) rfl ?_
  refine pu_getf (j := 2) (w := .ref (v0 + 3)) rfl (pu_Y_o hv0) (Nat.lt_trans (pu_Y_lt hv0) (by decide)) rfl (by decide) rfl rfl ?_
  refine pu_go 1 (pc' := 12) (ls' := [.ref v0, .int v1, .int v2, .int (M (v0 + 3) v1.toNatClampNeg), mq_un, mq_un, mq_un]) (st' := [.int v2, .ref (v0 + 3)]) (M' := M) rfl ?_
  obtain ⟨hb2, H⟩ := H
  refine pu_iald rfl (pu_Y_3 hv0) (Or.inl (pu_Y_l3 hv0)) hb2 ?_
  refine pu_go 7 (pc' := 22) (ls' := [.ref v0, .int v1, .int v2, .int (M (v0 + 3) v1.toNatClampNeg), .int (M (v0 + 3) v2.toNatClampNeg), mq_un, mq_un]) (st' := [.int ((1 : Int32) <<< (v2 &&& 31)), .int (M (v0 + 3) v2.toNatClampNeg), .int v1, .ref v0]) (M' := M) rfl ?_
  refine pu_callI (m' := 119) (ml := 7) (as := [.ref v0, .int v1, .int (M (v0 + 3) v2.toNatClampNeg), .int ((1 : Int32) <<< (v2 &&& 31))]) (rest := []) rfl (pu_virt (pu_Y_o hv0) (Nat.lt_trans (pu_Y_lt hv0) (by decide)) ⟨Nat.le_of_ble_eq_true rfl, Nat.le_of_ble_eq_true rfl⟩ rfl rfl) rfl (Nat.le_of_ble_eq_true rfl) H (fun x4 M3 H => ?_)
  show pu_R L (d + 4) 72 25 [.ref v0, .int v1, .int v2, .int (M (v0 + 3) v1.toNatClampNeg), .int (M (v0 + 3) v2.toNatClampNeg), mq_un, mq_un] [.int x4] M3 _
  refine pu_go 6 (pc' := 31) (ls' := [.ref v0, .int v1, .int v2, .int (M (v0 + 3) v1.toNatClampNeg), .int (M (v0 + 3) v2.toNatClampNeg), mq_un, mq_un]) (st' := [.int ((1 : Int32) <<< (v1 &&& 31)), .int (M (v0 + 3) v1.toNatClampNeg), .int v2, .ref v0, .int x4]) (M' := M3) rfl ?_
  refine pu_callI (m' := 119) (ml := 7) (as := [.ref v0, .int v2, .int (M (v0 + 3) v1.toNatClampNeg), .int ((1 : Int32) <<< (v1 &&& 31))]) (rest := [.int x4]) rfl (pu_virt (pu_Y_o hv0) (Nat.lt_trans (pu_Y_lt hv0) (by decide)) ⟨Nat.le_of_ble_eq_true rfl, Nat.le_of_ble_eq_true rfl⟩ rfl rfl) rfl (Nat.le_of_ble_eq_true rfl) H (fun x6 M5 H => ?_)
  show pu_R L (d + 4) 72 34 [.ref v0, .int v1, .int v2, .int (M (v0 + 3) v1.toNatClampNeg), .int (M (v0 + 3) v2.toNatClampNeg), mq_un, mq_un] [.int x6, .int x4] M5 _
  refine pu_go 8 (pc' := 43) (ls' := [.ref v0, .int v1, .int v2, .int (M (v0 + 3) v1.toNatClampNeg), .int (M (v0 + 3) v2.toNatClampNeg), .int (x4 + x6), mq_un]) (st' := [.int ((1 : Int32) <<< (v2 &&& 31)), .int (M (v0 + 3) v1.toNatClampNeg), .int v1, .ref v0]) (M' := M5) rfl ?_
  refine pu_callI (m' := 119) (ml := 7) (as := [.ref v0, .int v1, .int (M (v0 + 3) v1.toNatClampNeg), .int ((1 : Int32) <<< (v2 &&& 31))]) (rest := []) rfl (pu_virt (pu_Y_o hv0) (Nat.lt_trans (pu_Y_lt hv0) (by decide)) ⟨Nat.le_of_ble_eq_true rfl, Nat.le_of_ble_eq_true rfl⟩ rfl rfl) rfl (Nat.le_of_ble_eq_true rfl) H (fun x8 M7 H => ?_)
  show pu_R L (d + 4) 72 46 [.ref v0, .int v1, .int v2, .int (M (v0 + 3) v1.toNatClampNeg), .int (M (v0 + 3) v2.toNatClampNeg), .int (x4 + x6), mq_un] [.int x8] M7 _
  refine pu_go 6 (pc' := 53) (ls' := [.ref v0, .int v1, .int v2, .int (M (v0 + 3) v1.toNatClampNeg), .int (M (v0 + 3) v2.toNatClampNeg), .int (x4 + x6), mq_un]) (st' := [.int ((1 : Int32) <<< (v1 &&& 31)), .int (M (v0 + 3) v2.toNatClampNeg), .int v2, .ref v0, .int x8]) (M' := M7) rfl ?_
  refine pu_callI (m' := 119) (ml := 7) (as := [.ref v0, .int v2, .int (M (v0 + 3) v2.toNatClampNeg), .int ((1 : Int32) <<< (v1 &&& 31))]) (rest := [.int x8]) rfl (pu_virt (pu_Y_o hv0) (Nat.lt_trans (pu_Y_lt hv0) (by decide)) ⟨Nat.le_of_ble_eq_true rfl, Nat.le_of_ble_eq_true rfl⟩ rfl rfl) rfl (Nat.le_of_ble_eq_true rfl) H (fun x10 M9 H => ?_)
  show pu_R L (d + 4) 72 56 [.ref v0, .int v1, .int v2, .int (M (v0 + 3) v1.toNatClampNeg), .int (M (v0 + 3) v2.toNatClampNeg), .int (x4 + x6), mq_un] [.int x10, .int x8] M9 _
  refine pu_go 5 (pc' := 64) (ls' := [.ref v0, .int v1, .int v2, .int (M (v0 + 3) v1.toNatClampNeg), .int (M (v0 + 3) v2.toNatClampNeg), .int (x4 + x6), .int (x8 + x10)]) (st' := [.int ((x4 + x6) - (x8 + x10))]) (M' := M9) rfl ?_
  exact pu_ret rfl rfl ⟨_, rfl, H⟩
/-! Plan_seekStretch (LTalkingPlots$Yard;I)V -/
set_option maxRecDepth 20000 in
theorem r_Plan_seekStretch_60 {L d : Nat} {M : pu_M} {Q : pu_M → Prop} {v1 : Nat} (hv1 : pu_isY v1) {v2 : Int32} {v3 : Int32} {v4 : Int32} {v5 : Int32} {v6 : Int32} {v7 : Value} {s0 : Int32} (H : (if s0 < 0 then pu_V L (d + 3) 67 [.ref 5, .int v3, .int v5, .int (v4 + 0)] M (fun M1 => pu_R L (d + 4) 73 20 [.ref 5, .ref v1, .int v2, .int v3, .int (v4 + 0), .int (v5 + 1), .int v6, .int s0] [] M1 (pu_qV Q)) else pu_I L (d + 3) 119 [.ref v1, .int s0, .int v6, .int 0] M (fun x3 M2 => pu_V L (d + 3) 67 [.ref 5, .int v3, .int v5, .int (v4 + x3)] M2 (fun M4 => pu_R L (d + 4) 73 20 [.ref 5, .ref v1, .int v2, .int v3, .int (v4 + x3), .int (v5 + 1), .int v6, .int s0] [] M4 (pu_qV Q))))) : pu_R L (d + 4) 73 60 [.ref 5, .ref v1, .int v2, .int v3, .int v4, .int v5, .int v6, v7] [.int s0] M (pu_qV Q) := by
  refine pu_go 3 (pc' := 66) (ls' := [.ref 5, .ref v1, .int v2, .int v3, .int v4, .int v5, .int v6, .int s0]) (st' := [.int s0, .int v4]) (M' := M) rfl ?_
  refine pu_if_lt rfl (fun hc => ?_) (fun hc => ?_)
  · replace H := Eq.mp (if_pos hc) H
    refine pu_go 7 (pc' := 91) (ls' := [.ref 5, .ref v1, .int v2, .int v3, .int (v4 + 0), .int v5, .int v6, .int s0]) (st' := [.int (v4 + 0), .int v5, .int v3, .ref 5]) (M' := M) rfl ?_
    refine pu_callV (m' := 67) (ml := 4) (as := [.ref 5, .int v3, .int v5, .int (v4 + 0)]) (rest := []) rfl rfl rfl (Nat.le_of_ble_eq_true rfl) H (fun M1 H => ?_)
    show pu_R L (d + 4) 73 94 [.ref 5, .ref v1, .int v2, .int v3, .int (v4 + 0), .int v5, .int v6, .int s0] [] M1 _
    refine pu_go 2 (pc' := 20) (ls' := [.ref 5, .ref v1, .int v2, .int v3, .int (v4 + 0), .int (v5 + 1), .int v6, .int s0]) (st' := []) (M' := M1) rfl ?_
    exact H
  · replace H := Eq.mp (if_neg hc) H
    refine pu_go 4 (pc' := 75) (ls' := [.ref 5, .ref v1, .int v2, .int v3, .int v4, .int v5, .int v6, .int s0]) (st' := [.int 0, .int v6, .int s0, .ref v1, .int v4]) (M' := M) rfl ?_
    refine pu_callI (m' := 119) (ml := 7) (as := [.ref v1, .int s0, .int v6, .int 0]) (rest := [.int v4]) rfl (pu_virt (pu_Y_o hv1) (Nat.lt_trans (pu_Y_lt hv1) (by decide)) ⟨Nat.le_of_ble_eq_true rfl, Nat.le_of_ble_eq_true rfl⟩ rfl rfl) rfl (Nat.le_of_ble_eq_true rfl) H (fun x3 M2 H => ?_)
    show pu_R L (d + 4) 73 78 [.ref 5, .ref v1, .int v2, .int v3, .int v4, .int v5, .int v6, .int s0] [.int x3, .int v4] M2 _
    refine pu_go 7 (pc' := 91) (ls' := [.ref 5, .ref v1, .int v2, .int v3, .int (v4 + x3), .int v5, .int v6, .int s0]) (st' := [.int (v4 + x3), .int v5, .int v3, .ref 5]) (M' := M2) rfl ?_
    refine pu_callV (m' := 67) (ml := 4) (as := [.ref 5, .int v3, .int v5, .int (v4 + x3)]) (rest := []) rfl rfl rfl (Nat.le_of_ble_eq_true rfl) H (fun M4 H => ?_)
    show pu_R L (d + 4) 73 94 [.ref 5, .ref v1, .int v2, .int v3, .int (v4 + x3), .int v5, .int v6, .int s0] [] M4 _
    refine pu_go 2 (pc' := 20) (ls' := [.ref 5, .ref v1, .int v2, .int v3, .int (v4 + x3), .int (v5 + 1), .int v6, .int s0]) (st' := []) (M' := M4) rfl ?_
    exact H
set_option maxRecDepth 20000 in
theorem r_Plan_seekStretch_20 {L d : Nat} {M : pu_M} {Q : pu_M → Prop} {v1 : Nat} (hv1 : pu_isY v1) {v2 : Int32} {v3 : Int32} {v4 : Int32} {v5 : Int32} {v6 : Value} {v7 : Value} (H : (if 10 ≤ v5 then pu_R L (d + 4) 73 8 [.ref 5, .ref v1, .int v2, .int (v3 + 1), .int v4, .int v5, v6, v7] [] M (pu_qV Q) else (if ((v2 * 10) + v5) < 0 then pu_R L (d + 4) 73 60 [.ref 5, .ref v1, .int v2, .int v3, .int v4, .int v5, .int ((v2 * 10) + v5), v7] [.int ((-2))] M (pu_qV Q) else (if 60 ≤ ((v2 * 10) + v5) then pu_R L (d + 4) 73 60 [.ref 5, .ref v1, .int v2, .int v3, .int v4, .int v5, .int ((v2 * 10) + v5), v7] [.int ((-2))] M (pu_qV Q) else (mq_inb ((v2 * 10) + v5) 60 = true ∧ pu_R L (d + 4) 73 60 [.ref 5, .ref v1, .int v2, .int v3, .int v4, .int v5, .int ((v2 * 10) + v5), v7] [.int (M (v1 + 4) ((v2 * 10) + v5 : Int32).toNatClampNeg)] M (pu_qV Q)))))) : pu_R L (d + 4) 73 20 [.ref 5, .ref v1, .int v2, .int v3, .int v4, .int v5, v6, v7] [] M (pu_qV Q) := by
  refine pu_go 2 (pc' := 24) (ls' := [.ref 5, .ref v1, .int v2, .int v3, .int v4, .int v5, v6, v7]) (st' := [.int 10, .int v5]) (M' := M) rfl ?_
  refine pu_icmp_ge rfl (fun hc => ?_) (fun hc => ?_)
  · replace H := Eq.mp (if_pos hc) H
    refine pu_go 2 (pc' := 8) (ls' := [.ref 5, .ref v1, .int v2, .int (v3 + 1), .int v4, .int v5, v6, v7]) (st' := []) (M' := M) rfl ?_
    exact H
  · replace H := Eq.mp (if_neg hc) H
    refine pu_go 7 (pc' := 38) (ls' := [.ref 5, .ref v1, .int v2, .int v3, .int v4, .int v5, .int ((v2 * 10) + v5), v7]) (st' := [.int ((v2 * 10) + v5)]) (M' := M) rfl ?_
    refine pu_if_lt rfl (fun hc => ?_) (fun hc => ?_)
    · replace H := Eq.mp (if_pos hc) H
      refine pu_go 1 (pc' := 60) (ls' := [.ref 5, .ref v1, .int v2, .int v3, .int v4, .int v5, .int ((v2 * 10) + v5), v7]) (st' := [.int ((-2))]) (M' := M) rfl ?_
      exact H
    · replace H := Eq.mp (if_neg hc) H
      refine pu_go 2 (pc' := 45) (ls' := [.ref 5, .ref v1, .int v2, .int v3, .int v4, .int v5, .int ((v2 * 10) + v5), v7]) (st' := [.int 60, .int ((v2 * 10) + v5)]) (M' := M) rfl ?_
      refine pu_icmp_ge rfl (fun hc => ?_) (fun hc => ?_)
      · replace H := Eq.mp (if_pos hc) H
        refine pu_go 1 (pc' := 60) (ls' := [.ref 5, .ref v1, .int v2, .int v3, .int v4, .int v5, .int ((v2 * 10) + v5), v7]) (st' := [.int ((-2))]) (M' := M) rfl ?_
        exact H
      · replace H := Eq.mp (if_neg hc) H
        refine pu_go 1 (pc' := 49) (ls' := [.ref 5, .ref v1, .int v2, .int v3, .int v4, .int v5, .int ((v2 * 10) + v5), v7]) (st' := [.ref v1]) (M' := M) rfl ?_
        refine pu_getf (j := 3) (w := .ref (v1 + 4)) rfl (pu_Y_o hv1) (Nat.lt_trans (pu_Y_lt hv1) (by decide)) rfl (by decide) rfl rfl ?_
        refine pu_go 1 (pc' := 54) (ls' := [.ref 5, .ref v1, .int v2, .int v3, .int v4, .int v5, .int ((v2 * 10) + v5), v7]) (st' := [.int ((v2 * 10) + v5), .ref (v1 + 4)]) (M' := M) rfl ?_
        obtain ⟨hb1, H⟩ := H
        refine pu_iald rfl (pu_Y_4 hv1) (Or.inl (pu_Y_l4 hv1)) hb1 ?_
        refine pu_go 1 (pc' := 60) (ls' := [.ref 5, .ref v1, .int v2, .int v3, .int v4, .int v5, .int ((v2 * 10) + v5), v7]) (st' := [.int (M (v1 + 4) ((v2 * 10) + v5 : Int32).toNatClampNeg)]) (M' := M) rfl ?_
        exact H
set_option maxRecDepth 20000 in
theorem r_Plan_seekStretch_8 {L d : Nat} {M : pu_M} {Q : pu_M → Prop} {v1 : Nat} (hv1 : pu_isY v1) {v2 : Int32} {v3 : Int32} {v4 : Value} {v5 : Value} {v6 : Value} {v7 : Value} (H : (if 10 ≤ v3 then Q M else pu_R L (d + 4) 73 20 [.ref 5, .ref v1, .int v2, .int v3, .int 0, .int v3, v6, v7] [] M (pu_qV Q))) : pu_R L (d + 4) 73 8 [.ref 5, .ref v1, .int v2, .int v3, v4, v5, v6, v7] [] M (pu_qV Q) := by
  refine pu_go 2 (pc' := 11) (ls' := [.ref 5, .ref v1, .int v2, .int v3, v4, v5, v6, v7]) (st' := [.int 10, .int v3]) (M' := M) rfl ?_
  refine pu_icmp_ge rfl (fun hc => ?_) (fun hc => ?_)
  · replace H := Eq.mp (if_pos hc) H
    exact pu_ret rfl rfl ⟨rfl, H⟩
  · replace H := Eq.mp (if_neg hc) H
    refine pu_go 4 (pc' := 20) (ls' := [.ref 5, .ref v1, .int v2, .int v3, .int 0, .int v3, v6, v7]) (st' := []) (M' := M) rfl ?_
    exact H
set_option maxRecDepth 20000 in
theorem r_Plan_seekStretch {L d : Nat} {M : pu_M} {Q : pu_M → Prop} {v1 : Nat} (hv1 : pu_isY v1) {v2 : Int32} (H : pu_V L (d + 3) 66 [.ref 5, .int ((-1000000))] M (fun M1 => pu_R L (d + 4) 73 8 [.ref 5, .ref v1, .int v2, .int 0, mq_un, mq_un, mq_un, mq_un] [] M1 (pu_qV Q))) : pu_V L (d + 4) 73 [.ref 5, .ref v1, .int v2] M Q := by
  show pu_R L (d + 4) 73 0 [.ref 5, .ref v1, .int v2, mq_un, mq_un, mq_un, mq_un, mq_un] [] M (pu_qV Q)
  refine pu_go 2 (pc' := 3) (ls' := [.ref 5, .ref v1, .int v2, mq_un, mq_un, mq_un, mq_un, mq_un]) (st' := [.int ((-1000000)), .ref 5]) (M' := M) rfl ?_
  refine pu_callV (m' := 66) (ml := 2) (as := [.ref 5, .int ((-1000000))]) (rest := []) rfl rfl rfl (Nat.le_of_ble_eq_true rfl) H (fun M1 H => ?_)
  show pu_R L (d + 4) 73 6 [.ref 5, .ref v1, .int v2, mq_un, mq_un, mq_un, mq_un, mq_un] [] M1 _
  refine pu_go 2 (pc' := 8) (ls' := [.ref 5, .ref v1, .int v2, .int 0, mq_un, mq_un, mq_un, mq_un]) (st' := []) (M' := M1) rfl ?_
  exact H
/-! Sayings_hear (LTalkingPlots$Tape;I)V -/
set_option maxRecDepth 20000 in
theorem r_Sayings_hear_75 {L d : Nat} {M : pu_M} {Q : pu_M → Prop} {v2 : Int32} {v3 : Int32} {v4 : Int32} (H : (if (M 13 2) ≤ v4 then pu_R L (d + 2) 75 59 [.ref 13, .ref 1, .int v2, .int (v3 + (-1)), .int v4] [] M (pu_qV Q) else (mq_inb v3 20 = true ∧ (mq_inb v4 20 = true ∧ (if ((M 14 v3.toNatClampNeg) &&& (M 14 v4.toNatClampNeg)) = 0 then pu_R L (d + 2) 75 75 [.ref 13, .ref 1, .int v2, .int v3, .int (v4 + 1)] [] M (pu_qV Q) else (mq_inb v3 20 = true ∧ (mq_inb v4 20 = true ∧ (mq_inb v3 20 = true ∧ pu_R L (d + 2) 75 75 [.ref 13, .ref 1, .int v2, .int v3, .int (v4 + 1)] [] (pu_wr M 15 v3.toNatClampNeg (if (M 15 v3.toNatClampNeg) < (1 + (M 15 v4.toNatClampNeg)) then 1 + (M 15 v4.toNatClampNeg) else M 15 v3.toNatClampNeg)) (pu_qV Q))))))))) : pu_R L (d + 2) 75 75 [.ref 13, .ref 1, .int v2, .int v3, .int v4] [] M (pu_qV Q) := by
  refine pu_go 3 (pc' := 81) (ls' := [.ref 13, .ref 1, .int v2, .int v3, .int v4]) (st' := [.int (M 13 2), .int v4]) (M' := M) rfl ?_
  refine pu_icmp_ge rfl (fun hc => ?_) (fun hc => ?_)
  · replace H := Eq.mp (if_pos hc) H
    refine pu_go 2 (pc' := 59) (ls' := [.ref 13, .ref 1, .int v2, .int (v3 + (-1)), .int v4]) (st' := []) (M' := M) rfl ?_
    exact H
  · replace H := Eq.mp (if_neg hc) H
    refine pu_go 3 (pc' := 89) (ls' := [.ref 13, .ref 1, .int v2, .int v3, .int v4]) (st' := [.int v3, .ref 14]) (M' := M) rfl ?_
    obtain ⟨hb1, H⟩ := H
    refine pu_iald rfl rfl (Or.inl (by decide)) hb1 ?_
    refine pu_go 3 (pc' := 96) (ls' := [.ref 13, .ref 1, .int v2, .int v3, .int v4]) (st' := [.int v4, .ref 14, .int (M 14 v3.toNatClampNeg)]) (M' := M) rfl ?_
    obtain ⟨hb2, H⟩ := H
    refine pu_iald rfl rfl (Or.inl (by decide)) hb2 ?_
    refine pu_go 1 (pc' := 98) (ls' := [.ref 13, .ref 1, .int v2, .int v3, .int v4]) (st' := [.int ((M 14 v3.toNatClampNeg) &&& (M 14 v4.toNatClampNeg))]) (M' := M) rfl ?_
    refine pu_if_eq rfl (fun hc => ?_) (fun hc => ?_)
    · replace H := Eq.mp (if_pos hc) H
      refine pu_go 2 (pc' := 75) (ls' := [.ref 13, .ref 1, .int v2, .int v3, .int (v4 + 1)]) (st' := []) (M' := M) rfl ?_
      exact H
    · replace H := Eq.mp (if_neg hc) H
      refine pu_go 6 (pc' := 111) (ls' := [.ref 13, .ref 1, .int v2, .int v3, .int v4]) (st' := [.int v3, .ref 15, .int v3, .ref 15]) (M' := M) rfl ?_
      obtain ⟨hb3, H⟩ := H
      refine pu_iald rfl rfl (Or.inl (by decide)) hb3 ?_
      refine pu_go 4 (pc' := 119) (ls' := [.ref 13, .ref 1, .int v2, .int v3, .int v4]) (st' := [.int v4, .ref 15, .int 1, .int (M 15 v3.toNatClampNeg), .int v3, .ref 15]) (M' := M) rfl ?_
      obtain ⟨hb4, H⟩ := H
      refine pu_iald rfl rfl (Or.inl (by decide)) hb4 ?_
      refine pu_go 2 (pc' := 124) (ls' := [.ref 13, .ref 1, .int v2, .int v3, .int v4]) (st' := [.int (if (M 15 v3.toNatClampNeg) < (1 + (M 15 v4.toNatClampNeg)) then 1 + (M 15 v4.toNatClampNeg) else M 15 v3.toNatClampNeg), .int v3, .ref 15]) (M' := M) rfl ?_
      obtain ⟨hb5, H⟩ := H
      refine pu_iast rfl rfl (by decide) hb5 ?_
      refine pu_go 2 (pc' := 75) (ls' := [.ref 13, .ref 1, .int v2, .int v3, .int (v4 + 1)]) (st' := []) (M' := pu_wr M 15 v3.toNatClampNeg (if (M 15 v3.toNatClampNeg) < (1 + (M 15 v4.toNatClampNeg)) then 1 + (M 15 v4.toNatClampNeg) else M 15 v3.toNatClampNeg)) rfl ?_
      exact H
set_option maxRecDepth 20000 in
theorem r_Sayings_hear_59 {L d : Nat} {M : pu_M} {Q : pu_M → Prop} {v2 : Int32} {v3 : Int32} {v4 : Value} (H : (if v3 < 0 then Q M else (mq_inb v3 20 = true ∧ pu_R L (d + 2) 75 75 [.ref 13, .ref 1, .int v2, .int v3, .int (v3 + 1)] [] (pu_wr M 15 v3.toNatClampNeg 1) (pu_qV Q)))) : pu_R L (d + 2) 75 59 [.ref 13, .ref 1, .int v2, .int v3, v4] [] M (pu_qV Q) := by
  refine pu_go 1 (pc' := 60) (ls' := [.ref 13, .ref 1, .int v2, .int v3, v4]) (st' := [.int v3]) (M' := M) rfl ?_
  refine pu_if_lt rfl (fun hc => ?_) (fun hc => ?_)
  · replace H := Eq.mp (if_pos hc) H
    exact pu_ret rfl rfl ⟨rfl, H⟩
  · replace H := Eq.mp (if_neg hc) H
    refine pu_go 4 (pc' := 69) (ls' := [.ref 13, .ref 1, .int v2, .int v3, v4]) (st' := [.int 1, .int v3, .ref 15]) (M' := M) rfl ?_
    obtain ⟨hb1, H⟩ := H
    refine pu_iast rfl rfl (by decide) hb1 ?_
    refine pu_go 4 (pc' := 75) (ls' := [.ref 13, .ref 1, .int v2, .int v3, .int (v3 + 1)]) (st' := []) (M' := pu_wr M 15 v3.toNatClampNeg 1) rfl ?_
    exact H
set_option maxRecDepth 20000 in
theorem r_Sayings_hear_12 {L d : Nat} {M : pu_M} {Q : pu_M → Prop} {v2 : Int32} {v3 : Int32} (H : (if (M 13 2) ≤ v3 then pu_R L (d + 2) 75 59 [.ref 13, .ref 1, .int v2, .int ((M 13 2) - 1), mq_un] [] M (pu_qV Q) else pu_I L (d + 1) 82 [.ref 1, .int (2 * v3)] M (fun x2 M1 => pu_I L (d + 1) 82 [.ref 1, .int ((2 * v3) + 1)] M1 (fun x4 M3 => (mq_inb v3 20 = true ∧ pu_R L (d + 2) 75 12 [.ref 13, .ref 1, .int v2, .int (v3 + 1), mq_un] [] (pu_wr M3 14 v3.toNatClampNeg ((x2 <<< ((8 : Int32) &&& 31)) ||| x4)) (pu_qV Q)))))) : pu_R L (d + 2) 75 12 [.ref 13, .ref 1, .int v2, .int v3, mq_un] [] M (pu_qV Q) := by
  refine pu_go 3 (pc' := 17) (ls' := [.ref 13, .ref 1, .int v2, .int v3, mq_un]) (st' := [.int (M 13 2), .int v3]) (M' := M) rfl ?_
  refine pu_icmp_ge rfl (fun hc => ?_) (fun hc => ?_)
  · replace H := Eq.mp (if_pos hc) H
    refine pu_go 5 (pc' := 59) (ls' := [.ref 13, .ref 1, .int v2, .int ((M 13 2) - 1), mq_un]) (st' := []) (M' := M) rfl ?_
    exact H
  · replace H := Eq.mp (if_neg hc) H
    refine pu_go 7 (pc' := 29) (ls' := [.ref 13, .ref 1, .int v2, .int v3, mq_un]) (st' := [.int (2 * v3), .ref 1, .int v3, .ref 14]) (M' := M) rfl ?_
    refine pu_callI (m' := 82) (ml := 2) (as := [.ref 1, .int (2 * v3)]) (rest := [.int v3, .ref 14]) rfl rfl rfl (Nat.le_of_ble_eq_true rfl) H (fun x2 M1 H => ?_)
    show pu_R L (d + 2) 75 32 [.ref 13, .ref 1, .int v2, .int v3, mq_un] [.int x2, .int v3, .ref 14] M1 _
    refine pu_go 8 (pc' := 41) (ls' := [.ref 13, .ref 1, .int v2, .int v3, mq_un]) (st' := [.int ((2 * v3) + 1), .ref 1, .int (x2 <<< ((8 : Int32) &&& 31)), .int v3, .ref 14]) (M' := M1) rfl ?_
    refine pu_callI (m' := 82) (ml := 2) (as := [.ref 1, .int ((2 * v3) + 1)]) (rest := [.int (x2 <<< ((8 : Int32) &&& 31)), .int v3, .ref 14]) rfl rfl rfl (Nat.le_of_ble_eq_true rfl) H (fun x4 M3 H => ?_)
    show pu_R L (d + 2) 75 44 [.ref 13, .ref 1, .int v2, .int v3, mq_un] [.int x4, .int (x2 <<< ((8 : Int32) &&& 31)), .int v3, .ref 14] M3 _
    refine pu_go 1 (pc' := 45) (ls' := [.ref 13, .ref 1, .int v2, .int v3, mq_un]) (st' := [.int ((x2 <<< ((8 : Int32) &&& 31)) ||| x4), .int v3, .ref 14]) (M' := M3) rfl ?_
    obtain ⟨hb5, H⟩ := H
    refine pu_iast rfl rfl (by decide) hb5 ?_
    refine pu_go 2 (pc' := 12) (ls' := [.ref 13, .ref 1, .int v2, .int (v3 + 1), mq_un]) (st' := []) (M' := pu_wr M3 14 v3.toNatClampNeg ((x2 <<< ((8 : Int32) &&& 31)) ||| x4)) rfl ?_
    exact H
set_option maxRecDepth 20000 in
theorem r_Sayings_hear {L d : Nat} {M : pu_M} {Q : pu_M → Prop} {v2 : Int32} (H : pu_R L (d + 2) 75 12 [.ref 13, .ref 1, .int v2, .int 0, mq_un] [] (pu_wr M 13 2 (if 20 < v2 then 20 else v2)) (pu_qV Q)) : pu_V L (d + 2) 75 [.ref 13, .ref 1, .int v2] M Q := by
  show pu_R L (d + 2) 75 0 [.ref 13, .ref 1, .int v2, mq_un, mq_un] [] M (pu_qV Q)
  refine pu_go 4 (pc' := 7) (ls' := [.ref 13, .ref 1, .int v2, mq_un, mq_un]) (st' := [.int (if 20 < v2 then 20 else v2), .ref 13]) (M' := M) rfl ?_
  refine pu_putf (j := 2) (z := if 20 < v2 then 20 else v2) rfl rfl (by decide) rfl (by decide) rfl rfl pu_put_hw ?_
  refine pu_go 2 (pc' := 12) (ls' := [.ref 13, .ref 1, .int v2, .int 0, mq_un]) (st' := []) (M' := pu_wr M 13 2 (if 20 < v2 then 20 else v2)) rfl ?_
  exact H
/-! Sayings_longest ()I -/
set_option maxRecDepth 20000 in
theorem r_Sayings_longest_4 {L d : Nat} {M : pu_M} {Q : Int32 → pu_M → Prop} {v1 : Int32} {v2 : Int32} (H : (if (M 13 2) ≤ v2 then Q v1 M else (mq_inb v2 20 = true ∧ pu_R L (d + 1) 76 4 [.ref 13, .int (if v1 < (M 15 v2.toNatClampNeg) then M 15 v2.toNatClampNeg else v1), .int (v2 + 1)] [] M (pu_qI Q)))) : pu_R L (d + 1) 76 4 [.ref 13, .int v1, .int v2] [] M (pu_qI Q) := by
  refine pu_go 3 (pc' := 9) (ls' := [.ref 13, .int v1, .int v2]) (st' := [.int (M 13 2), .int v2]) (M' := M) rfl ?_
  refine pu_icmp_ge rfl (fun hc => ?_) (fun hc => ?_)
  · replace H := Eq.mp (if_pos hc) H
    refine pu_go 1 (pc' := 30) (ls' := [.ref 13, .int v1, .int v2]) (st' := [.int v1]) (M' := M) rfl ?_
    exact pu_ret rfl rfl ⟨_, rfl, H⟩
  · replace H := Eq.mp (if_neg hc) H
    refine pu_go 4 (pc' := 18) (ls' := [.ref 13, .int v1, .int v2]) (st' := [.int v2, .ref 15, .int v1]) (M' := M) rfl ?_
    obtain ⟨hb1, H⟩ := H
    refine pu_iald rfl rfl (Or.inl (by decide)) hb1 ?_
    refine pu_go 4 (pc' := 4) (ls' := [.ref 13, .int (if v1 < (M 15 v2.toNatClampNeg) then M 15 v2.toNatClampNeg else v1), .int (v2 + 1)]) (st' := []) (M' := M) rfl ?_
    exact H
set_option maxRecDepth 20000 in
theorem r_Sayings_longest {L d : Nat} {M : pu_M} {Q : Int32 → pu_M → Prop}  (H : pu_R L (d + 1) 76 4 [.ref 13, .int 0, .int 0] [] M (pu_qI Q)) : pu_I L (d + 1) 76 [.ref 13] M Q := by
  show pu_R L (d + 1) 76 0 [.ref 13, mq_un, mq_un] [] M (pu_qI Q)
  refine pu_go 4 (pc' := 4) (ls' := [.ref 13, .int 0, .int 0]) (st' := []) (M' := M) rfl ?_
  exact H
/-! Sayings_placeOf (I)I -/
set_option maxRecDepth 20000 in
theorem r_Sayings_placeOf_58 {L d : Nat} {M : pu_M} {Q : Int32 → pu_M → Prop} {v1 : Int32} {v2 : Int32} {v3 : Int32} {v4 : Int32} {v5 : Int32} {v6 : Int32} (H : (if v5 = v1 then Q v6 M else (mq_inb v6 20 = true ∧ pu_R L (d + 2) 77 17 [.ref 13, .int v1, .int (v2 + (-1)), .int (M 14 v6.toNatClampNeg), .int 0, .int (v5 + 1), .int (v6 + 1)] [] M (pu_qI Q)))) : pu_R L (d + 2) 77 58 [.ref 13, .int v1, .int v2, .int v3, .int v4, .int v5, .int v6] [] M (pu_qI Q) := by
  refine pu_go 2 (pc' := 61) (ls' := [.ref 13, .int v1, .int v2, .int v3, .int v4, .int v5, .int v6]) (st' := [.int v1, .int v5]) (M' := M) rfl ?_
  refine pu_icmp_ne rfl (fun hc => ?_) (fun hc => ?_)
  · replace H := Eq.mp (if_neg hc) H
    refine pu_go 3 (pc' := 73) (ls' := [.ref 13, .int v1, .int v2, .int v3, .int v4, .int v5, .int v6]) (st' := [.int v6, .ref 14]) (M' := M) rfl ?_
    obtain ⟨hb1, H⟩ := H
    refine pu_iald rfl rfl (Or.inl (by decide)) hb1 ?_
    refine pu_go 7 (pc' := 17) (ls' := [.ref 13, .int v1, .int (v2 + (-1)), .int (M 14 v6.toNatClampNeg), .int 0, .int (v5 + 1), .int (v6 + 1)]) (st' := []) (M' := M) rfl ?_
    exact H
  · replace H := Eq.mp (if_pos hc) H
    refine pu_go 1 (pc' := 66) (ls' := [.ref 13, .int v1, .int v2, .int v3, .int v4, .int v5, .int v6]) (st' := [.int v6]) (M' := M) rfl ?_
    exact pu_ret rfl rfl ⟨_, rfl, H⟩
set_option maxRecDepth 20000 in
theorem r_Sayings_placeOf_17 {L d : Nat} {M : pu_M} {Q : Int32 → pu_M → Prop} {v1 : Int32} {v2 : Int32} {v3 : Int32} {v4 : Int32} {v5 : Int32} {v6 : Int32} (H : (if (M 13 2) ≤ v6 then Q ((-4)) M else (if v2 ≤ 0 then Q ((-4)) M else (mq_inb v6 20 = true ∧ (if (M 15 v6.toNatClampNeg) = v2 then (if v4 = 0 then (mq_inb v6 20 = true ∧ (if ((M 14 v6.toNatClampNeg) &&& v3) = 0 then pu_R L (d + 2) 77 17 [.ref 13, .int v1, .int v2, .int v3, .int v4, .int v5, .int (v6 + 1)] [] M (pu_qI Q) else pu_R L (d + 2) 77 58 [.ref 13, .int v1, .int v2, .int v3, .int v4, .int v5, .int v6] [] M (pu_qI Q))) else pu_R L (d + 2) 77 58 [.ref 13, .int v1, .int v2, .int v3, .int v4, .int v5, .int v6] [] M (pu_qI Q)) else pu_R L (d + 2) 77 17 [.ref 13, .int v1, .int v2, .int v3, .int v4, .int v5, .int (v6 + 1)] [] M (pu_qI Q)))))) : pu_R L (d + 2) 77 17 [.ref 13, .int v1, .int v2, .int v3, .int v4, .int v5, .int v6] [] M (pu_qI Q) := by
  refine pu_go 3 (pc' := 23) (ls' := [.ref 13, .int v1, .int v2, .int v3, .int v4, .int v5, .int v6]) (st' := [.int (M 13 2), .int v6]) (M' := M) rfl ?_
  refine pu_icmp_ge rfl (fun hc => ?_) (fun hc => ?_)
  · replace H := Eq.mp (if_pos hc) H
    refine pu_go 1 (pc' := 92) (ls' := [.ref 13, .int v1, .int v2, .int v3, .int v4, .int v5, .int v6]) (st' := [.int ((-4))]) (M' := M) rfl ?_
    exact pu_ret rfl rfl ⟨_, rfl, H⟩
  · replace H := Eq.mp (if_neg hc) H
    refine pu_go 1 (pc' := 27) (ls' := [.ref 13, .int v1, .int v2, .int v3, .int v4, .int v5, .int v6]) (st' := [.int v2]) (M' := M) rfl ?_
    refine pu_if_le rfl (fun hc => ?_) (fun hc => ?_)
    · replace H := Eq.mp (if_pos hc) H
      refine pu_go 1 (pc' := 92) (ls' := [.ref 13, .int v1, .int v2, .int v3, .int v4, .int v5, .int v6]) (st' := [.int ((-4))]) (M' := M) rfl ?_
      exact pu_ret rfl rfl ⟨_, rfl, H⟩
    · replace H := Eq.mp (if_neg hc) H
      refine pu_go 3 (pc' := 36) (ls' := [.ref 13, .int v1, .int v2, .int v3, .int v4, .int v5, .int v6]) (st' := [.int v6, .ref 15]) (M' := M) rfl ?_
      obtain ⟨hb1, H⟩ := H
      refine pu_iald rfl rfl (Or.inl (by decide)) hb1 ?_
      refine pu_go 1 (pc' := 38) (ls' := [.ref 13, .int v1, .int v2, .int v3, .int v4, .int v5, .int v6]) (st' := [.int v2, .int (M 15 v6.toNatClampNeg)]) (M' := M) rfl ?_
      refine pu_icmp_ne rfl (fun hc => ?_) (fun hc => ?_)
      · replace H := Eq.mp (if_neg hc) H
        refine pu_go 2 (pc' := 17) (ls' := [.ref 13, .int v1, .int v2, .int v3, .int v4, .int v5, .int (v6 + 1)]) (st' := []) (M' := M) rfl ?_
        exact H
      · replace H := Eq.mp (if_pos hc) H
        refine pu_go 1 (pc' := 43) (ls' := [.ref 13, .int v1, .int v2, .int v3, .int v4, .int v5, .int v6]) (st' := [.int v4]) (M' := M) rfl ?_
        refine pu_if_ne rfl (fun hc => ?_) (fun hc => ?_)
        · replace H := Eq.mp (if_neg hc) H
          exact H
        · replace H := Eq.mp (if_pos hc) H
          refine pu_go 3 (pc' := 52) (ls' := [.ref 13, .int v1, .int v2, .int v3, .int v4, .int v5, .int v6]) (st' := [.int v6, .ref 14]) (M' := M) rfl ?_
          obtain ⟨hb2, H⟩ := H
          refine pu_iald rfl rfl (Or.inl (by decide)) hb2 ?_
          refine pu_go 2 (pc' := 55) (ls' := [.ref 13, .int v1, .int v2, .int v3, .int v4, .int v5, .int v6]) (st' := [.int ((M 14 v6.toNatClampNeg) &&& v3)]) (M' := M) rfl ?_
          refine pu_if_eq rfl (fun hc => ?_) (fun hc => ?_)
          · replace H := Eq.mp (if_pos hc) H
            refine pu_go 2 (pc' := 17) (ls' := [.ref 13, .int v1, .int v2, .int v3, .int v4, .int v5, .int (v6 + 1)]) (st' := []) (M' := M) rfl ?_
            exact H
          · replace H := Eq.mp (if_neg hc) H
            exact H
set_option maxRecDepth 20000 in
theorem r_Sayings_placeOf {L d : Nat} {M : pu_M} {Q : Int32 → pu_M → Prop} {v1 : Int32} (H : pu_I L (d + 1) 76 [.ref 13] M (fun x2 M1 => pu_R L (d + 2) 77 17 [.ref 13, .int v1, .int x2, .int 65535, .int 1, .int 0, .int 0] [] M1 (pu_qI Q))) : pu_I L (d + 2) 77 [.ref 13, .int v1] M Q := by
  show pu_R L (d + 2) 77 0 [.ref 13, .int v1, mq_un, mq_un, mq_un, mq_un, mq_un] [] M (pu_qI Q)
  refine pu_go 1 (pc' := 1) (ls' := [.ref 13, .int v1, mq_un, mq_un, mq_un, mq_un, mq_un]) (st' := [.ref 13]) (M' := M) rfl ?_
  refine pu_callI (m' := 76) (ml := 3) (as := [.ref 13]) (rest := []) rfl rfl rfl (Nat.le_of_ble_eq_true rfl) H (fun x2 M1 H => ?_)
  show pu_R L (d + 2) 77 4 [.ref 13, .int v1, mq_un, mq_un, mq_un, mq_un, mq_un] [.int x2] M1 _
  refine pu_go 9 (pc' := 17) (ls' := [.ref 13, .int v1, .int x2, .int 65535, .int 1, .int 0, .int 0]) (st' := []) (M' := M1) rfl ?_
  exact H
/-! Tape_hasRoom (I)Z -/
set_option maxRecDepth 20000 in
theorem r_Tape_hasRoom {L d : Nat} {M : pu_M} {Q : Int32 → pu_M → Prop} {v1 : Int32} (H : (if 260 < ((M 1 1) + v1) then Q 0 M else Q 1 M)) : pu_I L (d + 1) 79 [.ref 1, .int v1] M Q := by
  show pu_R L (d + 1) 79 0 [.ref 1, .int v1] [] M (pu_qI Q)
  refine pu_go 5 (pc' := 9) (ls' := [.ref 1, .int v1]) (st' := [.int 260, .int ((M 1 1) + v1)]) (M' := M) rfl ?_
  refine pu_icmp_gt rfl (fun hc => ?_) (fun hc => ?_)
  · replace H := Eq.mp (if_pos hc) H
    refine pu_go 1 (pc' := 17) (ls' := [.ref 1, .int v1]) (st' := [.int 0]) (M' := M) rfl ?_
    exact pu_ret rfl rfl ⟨_, rfl, H⟩
  · replace H := Eq.mp (if_neg hc) H
    refine pu_go 2 (pc' := 17) (ls' := [.ref 1, .int v1]) (st' := [.int 1]) (M' := M) rfl ?_
    exact pu_ret rfl rfl ⟨_, rfl, H⟩
/-! Tape_add (I)V -/
set_option maxRecDepth 20000 in
theorem r_Tape_add_3 {L d : Nat} {M : pu_M} {Q : pu_M → Prop} {v1 : Int32} {v2 : Int32} (H : (if v2 < 0 then Q M else (if 260 ≤ (M 1 1) then Q M else (mq_inb (M 1 1) 260 = true ∧ (∀ M2 : pu_M, M2 = pu_wr (pu_wr M 2 (M 1 1 : Int32).toNatClampNeg ((v1 >>> (v2 &&& 31)) &&& 255)) 1 1 (((pu_wr M 2 (M 1 1 : Int32).toNatClampNeg ((v1 >>> (v2 &&& 31)) &&& 255)) 1 1) + 1) → pu_R L (d + 1) 80 3 [.ref 1, .int v1, .int (v2 + (-8))] [] M2 (pu_qV Q)))))) : pu_R L (d + 1) 80 3 [.ref 1, .int v1, .int v2] [] M (pu_qV Q) := by
  refine pu_go 1 (pc' := 4) (ls' := [.ref 1, .int v1, .int v2]) (st' := [.int v2]) (M' := M) rfl ?_
  refine pu_if_lt rfl (fun hc => ?_) (fun hc => ?_)
  · replace H := Eq.mp (if_pos hc) H
    exact pu_ret rfl rfl ⟨rfl, H⟩
  · replace H := Eq.mp (if_neg hc) H
    refine pu_go 3 (pc' := 14) (ls' := [.ref 1, .int v1, .int v2]) (st' := [.int 260, .int (M 1 1)]) (M' := M) rfl ?_
    refine pu_icmp_ge rfl (fun hc => ?_) (fun hc => ?_)
    · replace H := Eq.mp (if_pos hc) H
      exact pu_ret rfl rfl ⟨rfl, H⟩
    · replace H := Eq.mp (if_neg hc) H
      refine pu_go 9 (pc' := 32) (ls' := [.ref 1, .int v1, .int v2]) (st' := [.int ((v1 >>> (v2 &&& 31)) &&& 255), .int (M 1 1), .ref 2]) (M' := M) rfl ?_
      obtain ⟨hb1, H⟩ := H
      refine pu_iast rfl rfl (by decide) hb1 ?_
      refine pu_go 5 (pc' := 40) (ls' := [.ref 1, .int v1, .int v2]) (st' := [.int (((pu_wr M 2 (M 1 1 : Int32).toNatClampNeg ((v1 >>> (v2 &&& 31)) &&& 255)) 1 1) + 1), .ref 1]) (M' := pu_wr M 2 (M 1 1 : Int32).toNatClampNeg ((v1 >>> (v2 &&& 31)) &&& 255)) rfl ?_
      refine pu_putf (j := 1) (z := ((pu_wr M 2 (M 1 1 : Int32).toNatClampNeg ((v1 >>> (v2 &&& 31)) &&& 255)) 1 1) + 1) rfl rfl (by decide) rfl (by decide) rfl rfl pu_put_hw ?_
      refine pu_named (fun M2 eM3 => ?_)
      replace H := H M2 eM3
      refine pu_go 2 (pc' := 3) (ls' := [.ref 1, .int v1, .int (v2 + (-8))]) (st' := []) (M' := M2) rfl ?_
      exact H
set_option maxRecDepth 20000 in
theorem r_Tape_add {L d : Nat} {M : pu_M} {Q : pu_M → Prop} {v1 : Int32} (H : pu_R L (d + 1) 80 3 [.ref 1, .int v1, .int 24] [] M (pu_qV Q)) : pu_V L (d + 1) 80 [.ref 1, .int v1] M Q := by
  show pu_R L (d + 1) 80 0 [.ref 1, .int v1, mq_un] [] M (pu_qV Q)
  refine pu_go 2 (pc' := 3) (ls' := [.ref 1, .int v1, .int 24]) (st' := []) (M' := M) rfl ?_
  exact H
/-! Tape_open (III)Z -/
set_option maxRecDepth 20000 in
theorem r_Tape_open {L d : Nat} {M : pu_M} {Q : Int32 → pu_M → Prop} {v1 : Int32} {v2 : Int32} {v3 : Int32} (H : (if v1 < v2 then Q 0 M else (if v3 < v1 then Q 0 M else (if v1 ≤ (M 1 1) then pu_V L (d + 1) 83 [.ref 1] (pu_wr (pu_wr (pu_wr (pu_wr M 1 5 v1) 1 1 0) 1 4 0) 1 3 ((-1))) (fun M1 => Q 1 M1) else Q 0 M)))) : pu_I L (d + 2) 81 [.ref 1, .int v1, .int v2, .int v3] M Q := by
  show pu_R L (d + 2) 81 0 [.ref 1, .int v1, .int v2, .int v3] [] M (pu_qI Q)
  refine pu_go 2 (pc' := 2) (ls' := [.ref 1, .int v1, .int v2, .int v3]) (st' := [.int v2, .int v1]) (M' := M) rfl ?_
  refine pu_icmp_lt rfl (fun hc => ?_) (fun hc => ?_)
  · replace H := Eq.mp (if_pos hc) H
    refine pu_go 1 (pc' := 19) (ls' := [.ref 1, .int v1, .int v2, .int v3]) (st' := [.int 0]) (M' := M) rfl ?_
    exact pu_ret rfl rfl ⟨_, rfl, H⟩
  · replace H := Eq.mp (if_neg hc) H
    refine pu_go 2 (pc' := 7) (ls' := [.ref 1, .int v1, .int v2, .int v3]) (st' := [.int v3, .int v1]) (M' := M) rfl ?_
    refine pu_icmp_gt rfl (fun hc => ?_) (fun hc => ?_)
    · replace H := Eq.mp (if_pos hc) H
      refine pu_go 1 (pc' := 19) (ls' := [.ref 1, .int v1, .int v2, .int v3]) (st' := [.int 0]) (M' := M) rfl ?_
      exact pu_ret rfl rfl ⟨_, rfl, H⟩
    · replace H := Eq.mp (if_neg hc) H
      refine pu_go 3 (pc' := 15) (ls' := [.ref 1, .int v1, .int v2, .int v3]) (st' := [.int (M 1 1), .int v1]) (M' := M) rfl ?_
      refine pu_icmp_le rfl (fun hc => ?_) (fun hc => ?_)
      · replace H := Eq.mp (if_pos hc) H
        refine pu_go 2 (pc' := 22) (ls' := [.ref 1, .int v1, .int v2, .int v3]) (st' := [.int v1, .ref 1]) (M' := M) rfl ?_
        refine pu_putf (j := 5) (z := v1) rfl rfl (by decide) rfl (by decide) rfl rfl pu_put_hw ?_
        refine pu_go 2 (pc' := 27) (ls' := [.ref 1, .int v1, .int v2, .int v3]) (st' := [.int 0, .ref 1]) (M' := pu_wr M 1 5 v1) rfl ?_
        refine pu_putf (j := 1) (z := 0) rfl rfl (by decide) rfl (by decide) rfl rfl pu_put_hw ?_
        refine pu_go 2 (pc' := 32) (ls' := [.ref 1, .int v1, .int v2, .int v3]) (st' := [.int 0, .ref 1]) (M' := pu_wr (pu_wr M 1 5 v1) 1 1 0) rfl ?_
        refine pu_putf (j := 4) (z := 0) rfl rfl (by decide) rfl (by decide) rfl rfl pu_put_hw ?_
        refine pu_go 2 (pc' := 37) (ls' := [.ref 1, .int v1, .int v2, .int v3]) (st' := [.int ((-1)), .ref 1]) (M' := pu_wr (pu_wr (pu_wr M 1 5 v1) 1 1 0) 1 4 0) rfl ?_
        refine pu_putf (j := 3) (z := (-1)) rfl rfl (by decide) rfl (by decide) rfl rfl pu_put_hw ?_
        refine pu_go 1 (pc' := 41) (ls' := [.ref 1, .int v1, .int v2, .int v3]) (st' := [.ref 1]) (M' := pu_wr (pu_wr (pu_wr (pu_wr M 1 5 v1) 1 1 0) 1 4 0) 1 3 ((-1))) rfl ?_
        refine pu_callV (m' := 83) (ml := 2) (as := [.ref 1]) (rest := []) rfl rfl rfl (Nat.le_of_ble_eq_true rfl) H (fun M1 H => ?_)
        show pu_R L (d + 2) 81 44 [.ref 1, .int v1, .int v2, .int v3] [] M1 _
        refine pu_go 1 (pc' := 45) (ls' := [.ref 1, .int v1, .int v2, .int v3]) (st' := [.int 1]) (M' := M1) rfl ?_
        exact pu_ret rfl rfl ⟨_, rfl, H⟩
      · replace H := Eq.mp (if_neg hc) H
        refine pu_go 1 (pc' := 19) (ls' := [.ref 1, .int v1, .int v2, .int v3]) (st' := [.int 0]) (M' := M) rfl ?_
        exact pu_ret rfl rfl ⟨_, rfl, H⟩
/-! Tape_at (I)I -/
set_option maxRecDepth 20000 in
theorem r_Tape_at {L d : Nat} {M : pu_M} {Q : Int32 → pu_M → Prop} {v1 : Int32} (H : (if v1 < 0 then Q ((-1)) M else (if (M 1 5) ≤ v1 then Q ((-1)) M else (if 260 ≤ v1 then Q ((-1)) M else (mq_inb v1 260 = true ∧ Q (M 2 v1.toNatClampNeg) M))))) : pu_I L (d + 1) 82 [.ref 1, .int v1] M Q := by
  show pu_R L (d + 1) 82 0 [.ref 1, .int v1] [] M (pu_qI Q)
  refine pu_go 1 (pc' := 1) (ls' := [.ref 1, .int v1]) (st' := [.int v1]) (M' := M) rfl ?_
  refine pu_if_lt rfl (fun hc => ?_) (fun hc => ?_)
  · replace H := Eq.mp (if_pos hc) H
    refine pu_go 1 (pc' := 29) (ls' := [.ref 1, .int v1]) (st' := [.int ((-1))]) (M' := M) rfl ?_
    exact pu_ret rfl rfl ⟨_, rfl, H⟩
  · replace H := Eq.mp (if_neg hc) H
    refine pu_go 3 (pc' := 9) (ls' := [.ref 1, .int v1]) (st' := [.int (M 1 5), .int v1]) (M' := M) rfl ?_
    refine pu_icmp_ge rfl (fun hc => ?_) (fun hc => ?_)
    · replace H := Eq.mp (if_pos hc) H
      refine pu_go 1 (pc' := 29) (ls' := [.ref 1, .int v1]) (st' := [.int ((-1))]) (M' := M) rfl ?_
      exact pu_ret rfl rfl ⟨_, rfl, H⟩
    · replace H := Eq.mp (if_neg hc) H
      refine pu_go 2 (pc' := 16) (ls' := [.ref 1, .int v1]) (st' := [.int 260, .int v1]) (M' := M) rfl ?_
      refine pu_icmp_ge rfl (fun hc => ?_) (fun hc => ?_)
      · replace H := Eq.mp (if_pos hc) H
        refine pu_go 1 (pc' := 29) (ls' := [.ref 1, .int v1]) (st' := [.int ((-1))]) (M' := M) rfl ?_
        exact pu_ret rfl rfl ⟨_, rfl, H⟩
      · replace H := Eq.mp (if_neg hc) H
        refine pu_go 3 (pc' := 24) (ls' := [.ref 1, .int v1]) (st' := [.int v1, .ref 2]) (M' := M) rfl ?_
        obtain ⟨hb1, H⟩ := H
        refine pu_iald rfl rfl (Or.inl (by decide)) hb1 ?_
        refine pu_go 1 (pc' := 29) (ls' := [.ref 1, .int v1]) (st' := [.int (M 2 v1.toNatClampNeg)]) (M' := M) rfl ?_
        exact pu_ret rfl rfl ⟨_, rfl, H⟩
/-! Tape_step ()V -/
set_option maxRecDepth 20000 in
theorem r_Tape_step_50 {L d : Nat} {M : pu_M} {Q : pu_M → Prop} {s0 : Int32} (H : (if s0 = 0 then Q (pu_wr M 1 2 ((-1))) else (mq_inb (M 1 3) 260 = true ∧ Q (pu_wr M 1 2 (M 2 (M 1 3 : Int32).toNatClampNeg))))) : pu_R L (d + 1) 83 50 [.ref 1, mq_un] [.int s0] M (pu_qV Q) := by
  refine pu_go 3 (pc' := 53) (ls' := [.ref 1, .int s0]) (st' := [.int s0, .ref 1]) (M' := M) rfl ?_
  refine pu_if_eq rfl (fun hc => ?_) (fun hc => ?_)
  · replace H := Eq.mp (if_pos hc) H
    refine pu_go 1 (pc' := 69) (ls' := [.ref 1, .int s0]) (st' := [.int ((-1)), .ref 1]) (M' := M) rfl ?_
    refine pu_putf (j := 2) (z := (-1)) rfl rfl (by decide) rfl (by decide) rfl rfl pu_put_hw ?_
    exact pu_ret rfl rfl ⟨rfl, H⟩
  · replace H := Eq.mp (if_neg hc) H
    refine pu_go 4 (pc' := 64) (ls' := [.ref 1, .int s0]) (st' := [.int (M 1 3), .ref 2, .ref 1]) (M' := M) rfl ?_
    obtain ⟨hb1, H⟩ := H
    refine pu_iald rfl rfl (Or.inl (by decide)) hb1 ?_
    refine pu_go 1 (pc' := 69) (ls' := [.ref 1, .int s0]) (st' := [.int (M 2 (M 1 3 : Int32).toNatClampNeg), .ref 1]) (M' := M) rfl ?_
    refine pu_putf (j := 2) (z := M 2 (M 1 3 : Int32).toNatClampNeg) rfl rfl (by decide) rfl (by decide) rfl rfl pu_put_hw ?_
    exact pu_ret rfl rfl ⟨rfl, H⟩
set_option maxRecDepth 20000 in
theorem r_Tape_step {L d : Nat} {M : pu_M} {Q : pu_M → Prop}  (H : (if ((pu_wr M 1 3 ((M 1 3) + 1)) 1 4) = 0 then (if ((pu_wr M 1 3 ((M 1 3) + 1)) 1 3) < 0 then pu_R L (d + 1) 83 50 [.ref 1, mq_un] [.int 0] (pu_wr M 1 3 ((M 1 3) + 1)) (pu_qV Q) else (if ((pu_wr M 1 3 ((M 1 3) + 1)) 1 5) ≤ ((pu_wr M 1 3 ((M 1 3) + 1)) 1 3) then pu_R L (d + 1) 83 50 [.ref 1, mq_un] [.int 0] (pu_wr M 1 3 ((M 1 3) + 1)) (pu_qV Q) else (if 260 ≤ ((pu_wr M 1 3 ((M 1 3) + 1)) 1 3) then pu_R L (d + 1) 83 50 [.ref 1, mq_un] [.int 0] (pu_wr M 1 3 ((M 1 3) + 1)) (pu_qV Q) else pu_R L (d + 1) 83 50 [.ref 1, mq_un] [.int 1] (pu_wr M 1 3 ((M 1 3) + 1)) (pu_qV Q)))) else pu_R L (d + 1) 83 50 [.ref 1, mq_un] [.int 0] (pu_wr M 1 3 ((M 1 3) + 1)) (pu_qV Q))) : pu_V L (d + 1) 83 [.ref 1] M Q := by
  show pu_R L (d + 1) 83 0 [.ref 1, mq_un] [] M (pu_qV Q)
  refine pu_go 5 (pc' := 7) (ls' := [.ref 1, mq_un]) (st' := [.int ((M 1 3) + 1), .ref 1]) (M' := M) rfl ?_
  refine pu_putf (j := 3) (z := (M 1 3) + 1) rfl rfl (by decide) rfl (by decide) rfl rfl pu_put_hw ?_
  refine pu_go 2 (pc' := 14) (ls' := [.ref 1, mq_un]) (st' := [.int ((pu_wr M 1 3 ((M 1 3) + 1)) 1 4)]) (M' := pu_wr M 1 3 ((M 1 3) + 1)) rfl ?_
  refine pu_if_ne rfl (fun hc => ?_) (fun hc => ?_)
  · replace H := Eq.mp (if_neg hc) H
    refine pu_go 1 (pc' := 50) (ls' := [.ref 1, mq_un]) (st' := [.int 0]) (M' := pu_wr M 1 3 ((M 1 3) + 1)) rfl ?_
    exact H
  · replace H := Eq.mp (if_pos hc) H
    refine pu_go 2 (pc' := 21) (ls' := [.ref 1, mq_un]) (st' := [.int ((pu_wr M 1 3 ((M 1 3) + 1)) 1 3)]) (M' := pu_wr M 1 3 ((M 1 3) + 1)) rfl ?_
    refine pu_if_lt rfl (fun hc => ?_) (fun hc => ?_)
    · replace H := Eq.mp (if_pos hc) H
      refine pu_go 1 (pc' := 50) (ls' := [.ref 1, mq_un]) (st' := [.int 0]) (M' := pu_wr M 1 3 ((M 1 3) + 1)) rfl ?_
      exact H
    · replace H := Eq.mp (if_neg hc) H
      refine pu_go 4 (pc' := 32) (ls' := [.ref 1, mq_un]) (st' := [.int ((pu_wr M 1 3 ((M 1 3) + 1)) 1 5), .int ((pu_wr M 1 3 ((M 1 3) + 1)) 1 3)]) (M' := pu_wr M 1 3 ((M 1 3) + 1)) rfl ?_
      refine pu_icmp_ge rfl (fun hc => ?_) (fun hc => ?_)
      · replace H := Eq.mp (if_pos hc) H
        refine pu_go 1 (pc' := 50) (ls' := [.ref 1, mq_un]) (st' := [.int 0]) (M' := pu_wr M 1 3 ((M 1 3) + 1)) rfl ?_
        exact H
      · replace H := Eq.mp (if_neg hc) H
        refine pu_go 3 (pc' := 42) (ls' := [.ref 1, mq_un]) (st' := [.int 260, .int ((pu_wr M 1 3 ((M 1 3) + 1)) 1 3)]) (M' := pu_wr M 1 3 ((M 1 3) + 1)) rfl ?_
        refine pu_icmp_ge rfl (fun hc => ?_) (fun hc => ?_)
        · replace H := Eq.mp (if_pos hc) H
          refine pu_go 1 (pc' := 50) (ls' := [.ref 1, mq_un]) (st' := [.int 0]) (M' := pu_wr M 1 3 ((M 1 3) + 1)) rfl ?_
          exact H
        · replace H := Eq.mp (if_neg hc) H
          refine pu_go 2 (pc' := 50) (ls' := [.ref 1, mq_un]) (st' := [.int 1]) (M' := pu_wr M 1 3 ((M 1 3) + 1)) rfl ?_
          exact H
/-! Tape_takes (I)Z -/
set_option maxRecDepth 20000 in
theorem r_Tape_takes {L d : Nat} {M : pu_M} {Q : Int32 → pu_M → Prop} {v1 : Int32} (H : (if (M 1 2) = v1 then pu_V L (d + 1) 83 [.ref 1] M (fun M1 => Q 1 M1) else Q 0 M)) : pu_I L (d + 2) 84 [.ref 1, .int v1] M Q := by
  show pu_R L (d + 2) 84 0 [.ref 1, .int v1] [] M (pu_qI Q)
  refine pu_go 3 (pc' := 5) (ls' := [.ref 1, .int v1]) (st' := [.int v1, .int (M 1 2)]) (M' := M) rfl ?_
  refine pu_icmp_eq rfl (fun hc => ?_) (fun hc => ?_)
  · replace H := Eq.mp (if_pos hc) H
    refine pu_go 1 (pc' := 11) (ls' := [.ref 1, .int v1]) (st' := [.ref 1]) (M' := M) rfl ?_
    refine pu_callV (m' := 83) (ml := 2) (as := [.ref 1]) (rest := []) rfl rfl rfl (Nat.le_of_ble_eq_true rfl) H (fun M1 H => ?_)
    show pu_R L (d + 2) 84 14 [.ref 1, .int v1] [] M1 _
    refine pu_go 1 (pc' := 15) (ls' := [.ref 1, .int v1]) (st' := [.int 1]) (M' := M1) rfl ?_
    exact pu_ret rfl rfl ⟨_, rfl, H⟩
  · replace H := Eq.mp (if_neg hc) H
    refine pu_go 1 (pc' := 9) (ls' := [.ref 1, .int v1]) (st' := [.int 0]) (M' := M) rfl ?_
    exact pu_ret rfl rfl ⟨_, rfl, H⟩
/-! Tape_wants (I)V -/
set_option maxRecDepth 20000 in
theorem r_Tape_wants {L d : Nat} {M : pu_M} {Q : pu_M → Prop} {v1 : Int32} (H : (if (M 1 2) = v1 then pu_V L (d + 1) 83 [.ref 1] M (fun M2 => Q M2) else pu_V L (d + 1) 88 [.ref 1, .int 1, .int (M 1 3)] M (fun M1 => Q M1))) : pu_V L (d + 2) 85 [.ref 1, .int v1] M Q := by
  show pu_R L (d + 2) 85 0 [.ref 1, .int v1] [] M (pu_qV Q)
  refine pu_go 3 (pc' := 5) (ls' := [.ref 1, .int v1]) (st' := [.int v1, .int (M 1 2)]) (M' := M) rfl ?_
  refine pu_icmp_ne rfl (fun hc => ?_) (fun hc => ?_)
  · replace H := Eq.mp (if_neg hc) H
    refine pu_go 4 (pc' := 21) (ls' := [.ref 1, .int v1]) (st' := [.int (M 1 3), .int 1, .ref 1]) (M' := M) rfl ?_
    refine pu_callV (m' := 88) (ml := 3) (as := [.ref 1, .int 1, .int (M 1 3)]) (rest := []) rfl rfl rfl (Nat.le_of_ble_eq_true rfl) H (fun M1 H => ?_)
    show pu_R L (d + 2) 85 24 [.ref 1, .int v1] [] M1 _
    exact pu_ret rfl rfl ⟨rfl, H⟩
  · replace H := Eq.mp (if_pos hc) H
    refine pu_go 1 (pc' := 9) (ls' := [.ref 1, .int v1]) (st' := [.ref 1]) (M' := M) rfl ?_
    refine pu_callV (m' := 83) (ml := 2) (as := [.ref 1]) (rest := []) rfl rfl rfl (Nat.le_of_ble_eq_true rfl) H (fun M2 H => ?_)
    show pu_R L (d + 2) 85 12 [.ref 1, .int v1] [] M2 _
    refine pu_go 1 (pc' := 24) (ls' := [.ref 1, .int v1]) (st' := []) (M' := M2) rfl ?_
    exact pu_ret rfl rfl ⟨rfl, H⟩
/-! Tape_among (II)I -/
set_option maxRecDepth 20000 in
theorem r_Tape_among {L d : Nat} {M : pu_M} {Q : Int32 → pu_M → Prop} {v1 : Int32} {v2 : Int32} (H : (if (M 1 2) < v1 then Q ((-1)) M else (if (v1 + v2) ≤ (M 1 2) then Q ((-1)) M else Q ((M 1 2) - v1) M))) : pu_I L (d + 1) 86 [.ref 1, .int v1, .int v2] M Q := by
  show pu_R L (d + 1) 86 0 [.ref 1, .int v1, .int v2] [] M (pu_qI Q)
  refine pu_go 3 (pc' := 5) (ls' := [.ref 1, .int v1, .int v2]) (st' := [.int v1, .int (M 1 2)]) (M' := M) rfl ?_
  refine pu_icmp_lt rfl (fun hc => ?_) (fun hc => ?_)
  · replace H := Eq.mp (if_pos hc) H
    refine pu_go 1 (pc' := 28) (ls' := [.ref 1, .int v1, .int v2]) (st' := [.int ((-1))]) (M' := M) rfl ?_
    exact pu_ret rfl rfl ⟨_, rfl, H⟩
  · replace H := Eq.mp (if_neg hc) H
    refine pu_go 5 (pc' := 15) (ls' := [.ref 1, .int v1, .int v2]) (st' := [.int (v1 + v2), .int (M 1 2)]) (M' := M) rfl ?_
    refine pu_icmp_ge rfl (fun hc => ?_) (fun hc => ?_)
    · replace H := Eq.mp (if_pos hc) H
      refine pu_go 1 (pc' := 28) (ls' := [.ref 1, .int v1, .int v2]) (st' := [.int ((-1))]) (M' := M) rfl ?_
      exact pu_ret rfl rfl ⟨_, rfl, H⟩
    · replace H := Eq.mp (if_neg hc) H
      refine pu_go 5 (pc' := 28) (ls' := [.ref 1, .int v1, .int v2]) (st' := [.int ((M 1 2) - v1)]) (M' := M) rfl ?_
      exact pu_ret rfl rfl ⟨_, rfl, H⟩
/-! Tape_hasNextLine ()Z -/
set_option maxRecDepth 20000 in
theorem r_Tape_hasNextLine {L d : Nat} {M : pu_M} {Q : Int32 → pu_M → Prop}  (H : (if (M 1 4) = 0 then (if (M 1 3) < (M 1 5) then pu_V L (d + 2) 85 [.ref 1, .int 59] M (fun M1 => (if (M1 1 4) = 0 then Q 1 M1 else Q 0 M1)) else Q 0 M) else Q 0 M)) : pu_I L (d + 3) 87 [.ref 1] M Q := by
  show pu_R L (d + 3) 87 0 [.ref 1] [] M (pu_qI Q)
  refine pu_go 2 (pc' := 4) (ls' := [.ref 1]) (st' := [.int (M 1 4)]) (M' := M) rfl ?_
  refine pu_if_ne rfl (fun hc => ?_) (fun hc => ?_)
  · replace H := Eq.mp (if_neg hc) H
    refine pu_go 1 (pc' := 19) (ls' := [.ref 1]) (st' := [.int 0]) (M' := M) rfl ?_
    exact pu_ret rfl rfl ⟨_, rfl, H⟩
  · replace H := Eq.mp (if_pos hc) H
    refine pu_go 4 (pc' := 15) (ls' := [.ref 1]) (st' := [.int (M 1 5), .int (M 1 3)]) (M' := M) rfl ?_
    refine pu_icmp_lt rfl (fun hc => ?_) (fun hc => ?_)
    · replace H := Eq.mp (if_pos hc) H
      refine pu_go 2 (pc' := 23) (ls' := [.ref 1]) (st' := [.int 59, .ref 1]) (M' := M) rfl ?_
      refine pu_callV (m' := 85) (ml := 2) (as := [.ref 1, .int 59]) (rest := []) rfl rfl rfl (Nat.le_of_ble_eq_true rfl) H (fun M1 H => ?_)
      show pu_R L (d + 3) 87 26 [.ref 1] [] M1 _
      refine pu_go 2 (pc' := 30) (ls' := [.ref 1]) (st' := [.int (M1 1 4)]) (M' := M1) rfl ?_
      refine pu_if_ne rfl (fun hc => ?_) (fun hc => ?_)
      · replace H := Eq.mp (if_neg hc) H
        refine pu_go 1 (pc' := 38) (ls' := [.ref 1]) (st' := [.int 0]) (M' := M1) rfl ?_
        exact pu_ret rfl rfl ⟨_, rfl, H⟩
      · replace H := Eq.mp (if_pos hc) H
        refine pu_go 2 (pc' := 38) (ls' := [.ref 1]) (st' := [.int 1]) (M' := M1) rfl ?_
        exact pu_ret rfl rfl ⟨_, rfl, H⟩
    · replace H := Eq.mp (if_neg hc) H
      refine pu_go 1 (pc' := 19) (ls' := [.ref 1]) (st' := [.int 0]) (M' := M) rfl ?_
      exact pu_ret rfl rfl ⟨_, rfl, H⟩
/-! Tape_fail (II)V -/
set_option maxRecDepth 20000 in
theorem r_Tape_fail {L d : Nat} {M : pu_M} {Q : pu_M → Prop} {v1 : Int32} {v2 : Int32} (H : (if (M 1 4) = 0 then Q (pu_wr (pu_wr M 1 4 ((((-1000)) * v1) - v2)) 1 2 ((-1))) else Q M)) : pu_V L (d + 1) 88 [.ref 1, .int v1, .int v2] M Q := by
  show pu_R L (d + 1) 88 0 [.ref 1, .int v1, .int v2] [] M (pu_qV Q)
  refine pu_go 2 (pc' := 4) (ls' := [.ref 1, .int v1, .int v2]) (st' := [.int (M 1 4)]) (M' := M) rfl ?_
  refine pu_if_ne rfl (fun hc => ?_) (fun hc => ?_)
  · replace H := Eq.mp (if_neg hc) H
    exact pu_ret rfl rfl ⟨rfl, H⟩
  · replace H := Eq.mp (if_pos hc) H
    refine pu_go 6 (pc' := 15) (ls' := [.ref 1, .int v1, .int v2]) (st' := [.int ((((-1000)) * v1) - v2), .ref 1]) (M' := M) rfl ?_
    refine pu_putf (j := 4) (z := (((-1000)) * v1) - v2) rfl rfl (by decide) rfl (by decide) rfl rfl pu_put_hw ?_
    refine pu_go 2 (pc' := 20) (ls' := [.ref 1, .int v1, .int v2]) (st' := [.int ((-1)), .ref 1]) (M' := pu_wr M 1 4 ((((-1000)) * v1) - v2)) rfl ?_
    refine pu_putf (j := 2) (z := (-1)) rfl rfl (by decide) rfl (by decide) rfl rfl pu_put_hw ?_
    exact pu_ret rfl rfl ⟨rfl, H⟩
/-! Tape_answer (I)I -/
set_option maxRecDepth 20000 in
theorem r_Tape_answer {L d : Nat} {M : pu_M} {Q : Int32 → pu_M → Prop} {v1 : Int32} (H : (if (M 1 4) = 0 then Q v1 M else Q (M 1 4) M)) : pu_I L (d + 1) 89 [.ref 1, .int v1] M Q := by
  show pu_R L (d + 1) 89 0 [.ref 1, .int v1] [] M (pu_qI Q)
  refine pu_go 2 (pc' := 4) (ls' := [.ref 1, .int v1]) (st' := [.int (M 1 4)]) (M' := M) rfl ?_
  refine pu_if_eq rfl (fun hc => ?_) (fun hc => ?_)
  · replace H := Eq.mp (if_pos hc) H
    refine pu_go 1 (pc' := 15) (ls' := [.ref 1, .int v1]) (st' := [.int v1]) (M' := M) rfl ?_
    exact pu_ret rfl rfl ⟨_, rfl, H⟩
  · replace H := Eq.mp (if_neg hc) H
    refine pu_go 3 (pc' := 15) (ls' := [.ref 1, .int v1]) (st' := [.int (M 1 4)]) (M' := M) rfl ?_
    exact pu_ret rfl rfl ⟨_, rfl, H⟩
/-! Wishes_read (LTalkingPlots$Tape;)I -/
set_option maxRecDepth 20000 in
theorem r_Wishes_read_9 {L d : Nat} {M : pu_M} {Q : Int32 → pu_M → Prop} {v0 : Nat} (hv0 : pu_isW v0) {v2 : Int32} {v3 : Int32} (H : (if v2 = 0 then pu_I L (d + 3) 89 [.ref 1, .int (M v0 3)] M (fun x2 M1 => Q x2 M1) else (if 24 < v3 then pu_I L (d + 3) 89 [.ref 1, .int (M v0 3)] M (fun x4 M3 => Q x4 M3) else pu_V L (d + 3) 92 [.ref v0, .ref 1] M (fun M5 => pu_I L (d + 3) 87 [.ref 1] M5 (fun x7 M6 => pu_R L (d + 4) 91 9 [.ref v0, .ref 1, .int x7, .int (v3 + 1)] [] M6 (pu_qI Q)))))) : pu_R L (d + 4) 91 9 [.ref v0, .ref 1, .int v2, .int v3] [] M (pu_qI Q) := by
  refine pu_go 1 (pc' := 10) (ls' := [.ref v0, .ref 1, .int v2, .int v3]) (st' := [.int v2]) (M' := M) rfl ?_
  refine pu_if_eq rfl (fun hc => ?_) (fun hc => ?_)
  · replace H := Eq.mp (if_pos hc) H
    refine pu_go 2 (pc' := 37) (ls' := [.ref v0, .ref 1, .int v2, .int v3]) (st' := [.ref v0, .ref 1]) (M' := M) rfl ?_
    refine pu_getf (j := 3) (w := .int (M v0 3)) rfl (pu_W_o hv0) (Nat.lt_trans (pu_W_lt hv0) (by decide)) rfl (by decide) rfl rfl ?_
    refine pu_callI (m' := 89) (ml := 2) (as := [.ref 1, .int (M v0 3)]) (rest := []) rfl rfl rfl (Nat.le_of_ble_eq_true rfl) H (fun x2 M1 H => ?_)
    show pu_R L (d + 4) 91 43 [.ref v0, .ref 1, .int v2, .int v3] [.int x2] M1 _
    exact pu_ret rfl rfl ⟨_, rfl, H⟩
  · replace H := Eq.mp (if_neg hc) H
    refine pu_go 2 (pc' := 16) (ls' := [.ref v0, .ref 1, .int v2, .int v3]) (st' := [.int 24, .int v3]) (M' := M) rfl ?_
    refine pu_icmp_gt rfl (fun hc => ?_) (fun hc => ?_)
    · replace H := Eq.mp (if_pos hc) H
      refine pu_go 2 (pc' := 37) (ls' := [.ref v0, .ref 1, .int v2, .int v3]) (st' := [.ref v0, .ref 1]) (M' := M) rfl ?_
      refine pu_getf (j := 3) (w := .int (M v0 3)) rfl (pu_W_o hv0) (Nat.lt_trans (pu_W_lt hv0) (by decide)) rfl (by decide) rfl rfl ?_
      refine pu_callI (m' := 89) (ml := 2) (as := [.ref 1, .int (M v0 3)]) (rest := []) rfl rfl rfl (Nat.le_of_ble_eq_true rfl) H (fun x4 M3 H => ?_)
      show pu_R L (d + 4) 91 43 [.ref v0, .ref 1, .int v2, .int v3] [.int x4] M3 _
      exact pu_ret rfl rfl ⟨_, rfl, H⟩
    · replace H := Eq.mp (if_neg hc) H
      refine pu_go 2 (pc' := 21) (ls' := [.ref v0, .ref 1, .int v2, .int v3]) (st' := [.ref 1, .ref v0]) (M' := M) rfl ?_
      refine pu_callV (m' := 92) (ml := 5) (as := [.ref v0, .ref 1]) (rest := []) rfl (pu_virt (pu_W_o hv0) (Nat.lt_trans (pu_W_lt hv0) (by decide)) ⟨Nat.le_of_ble_eq_true rfl, Nat.le_of_ble_eq_true rfl⟩ rfl rfl) rfl (Nat.le_of_ble_eq_true rfl) H (fun M5 H => ?_)
      show pu_R L (d + 4) 91 24 [.ref v0, .ref 1, .int v2, .int v3] [] M5 _
      refine pu_go 1 (pc' := 25) (ls' := [.ref v0, .ref 1, .int v2, .int v3]) (st' := [.ref 1]) (M' := M5) rfl ?_
      refine pu_callI (m' := 87) (ml := 1) (as := [.ref 1]) (rest := []) rfl rfl rfl (Nat.le_of_ble_eq_true rfl) H (fun x7 M6 H => ?_)
      show pu_R L (d + 4) 91 28 [.ref v0, .ref 1, .int v2, .int v3] [.int x7] M6 _
      refine pu_go 3 (pc' := 9) (ls' := [.ref v0, .ref 1, .int x7, .int (v3 + 1)]) (st' := []) (M' := M6) rfl ?_
      exact H
set_option maxRecDepth 20000 in
theorem r_Wishes_read {L d : Nat} {M : pu_M} {Q : Int32 → pu_M → Prop} {v0 : Nat} (hv0 : pu_isW v0) (H : pu_R L (d + 4) 91 9 [.ref v0, .ref 1, .int 1, .int 0] [] (pu_wr M v0 3 0) (pu_qI Q)) : pu_I L (d + 4) 91 [.ref v0, .ref 1] M Q := by
  show pu_R L (d + 4) 91 0 [.ref v0, .ref 1, mq_un, mq_un] [] M (pu_qI Q)
  refine pu_go 2 (pc' := 2) (ls' := [.ref v0, .ref 1, mq_un, mq_un]) (st' := [.int 0, .ref v0]) (M' := M) rfl ?_
  refine pu_putf (j := 3) (z := 0) rfl (pu_W_o hv0) (Nat.lt_trans (pu_W_lt hv0) (by decide)) rfl (by decide) rfl rfl pu_put_hw ?_
  refine pu_go 4 (pc' := 9) (ls' := [.ref v0, .ref 1, .int 1, .int 0]) (st' := []) (M' := pu_wr M v0 3 0) rfl ?_
  exact H
/-! Wishes_readLine (LTalkingPlots$Tape;)V -/
set_option maxRecDepth 20000 in
theorem r_Wishes_readLine_68 {L d : Nat} {M : pu_M} {Q : pu_M → Prop} {v0 : Nat} (hv0 : pu_isW v0) {v2 : Int32} {v3 : Int32} {v4 : Int32} (H : pu_V L (d + 1) 83 [.ref 1] M (fun M1 => pu_I L (d + 1) 86 [.ref 1, .int 97, .int 16] M1 (fun x3 M2 => (if x3 = ((-1)) then pu_V L (d + 1) 88 [.ref 1, .int 1, .int (M2 1 3)] M2 (fun M9 => pu_V L (d + 1) 83 [.ref 1] M9 (fun M10 => pu_V L (d + 1) 93 [.ref v0, .int v3, .int v2, .int x3] M10 (fun M11 => Q M11))) else (if x3 = v2 then pu_V L (d + 1) 88 [.ref 1, .int 6, .int (M2 1 3)] M2 (fun M6 => pu_V L (d + 1) 83 [.ref 1] M6 (fun M7 => pu_V L (d + 1) 93 [.ref v0, .int v3, .int v2, .int x3] M7 (fun M8 => Q M8))) else pu_V L (d + 1) 83 [.ref 1] M2 (fun M4 => pu_V L (d + 1) 93 [.ref v0, .int v3, .int v2, .int x3] M4 (fun M5 => Q M5))))))) : pu_R L (d + 2) 92 68 [.ref v0, .ref 1, .int v2, .int v3, .int v4] [] M (pu_qV Q) := by
  refine pu_go 1 (pc' := 69) (ls' := [.ref v0, .ref 1, .int v2, .int v3, .int v4]) (st' := [.ref 1]) (M' := M) rfl ?_
  refine pu_callV (m' := 83) (ml := 2) (as := [.ref 1]) (rest := []) rfl rfl rfl (Nat.le_of_ble_eq_true rfl) H (fun M1 H => ?_)
  show pu_R L (d + 2) 92 72 [.ref v0, .ref 1, .int v2, .int v3, .int v4] [] M1 _
  refine pu_go 3 (pc' := 77) (ls' := [.ref v0, .ref 1, .int v2, .int v3, .int v4]) (st' := [.int 16, .int 97, .ref 1]) (M' := M1) rfl ?_
  refine pu_callI (m' := 86) (ml := 3) (as := [.ref 1, .int 97, .int 16]) (rest := []) rfl rfl rfl (Nat.le_of_ble_eq_true rfl) H (fun x3 M2 H => ?_)
  show pu_R L (d + 2) 92 80 [.ref v0, .ref 1, .int v2, .int v3, .int v4] [.int x3] M2 _
  refine pu_go 3 (pc' := 85) (ls' := [.ref v0, .ref 1, .int v2, .int v3, .int x3]) (st' := [.int ((-1)), .int x3]) (M' := M2) rfl ?_
  refine pu_icmp_ne rfl (fun hc => ?_) (fun hc => ?_)
  · replace H := Eq.mp (if_neg hc) H
    refine pu_go 2 (pc' := 103) (ls' := [.ref v0, .ref 1, .int v2, .int v3, .int x3]) (st' := [.int v2, .int x3]) (M' := M2) rfl ?_
    refine pu_icmp_ne rfl (fun hc => ?_) (fun hc => ?_)
    · replace H := Eq.mp (if_neg hc) H
      refine pu_go 1 (pc' := 141) (ls' := [.ref v0, .ref 1, .int v2, .int v3, .int x3]) (st' := [.ref 1]) (M' := M2) rfl ?_
      refine pu_callV (m' := 83) (ml := 2) (as := [.ref 1]) (rest := []) rfl rfl rfl (Nat.le_of_ble_eq_true rfl) H (fun M4 H => ?_)
      show pu_R L (d + 2) 92 144 [.ref v0, .ref 1, .int v2, .int v3, .int x3] [] M4 _
      refine pu_go 4 (pc' := 149) (ls' := [.ref v0, .ref 1, .int v2, .int v3, .int x3]) (st' := [.int x3, .int v2, .int v3, .ref v0]) (M' := M4) rfl ?_
      refine pu_callV (m' := 93) (ml := 4) (as := [.ref v0, .int v3, .int v2, .int x3]) (rest := []) rfl (pu_virt (pu_W_o hv0) (Nat.lt_trans (pu_W_lt hv0) (by decide)) ⟨Nat.le_of_ble_eq_true rfl, Nat.le_of_ble_eq_true rfl⟩ rfl rfl) rfl (Nat.le_of_ble_eq_true rfl) H (fun M5 H => ?_)
      show pu_R L (d + 2) 92 152 [.ref v0, .ref 1, .int v2, .int v3, .int x3] [] M5 _
      exact pu_ret rfl rfl ⟨rfl, H⟩
    · replace H := Eq.mp (if_pos hc) H
      refine pu_go 4 (pc' := 113) (ls' := [.ref v0, .ref 1, .int v2, .int v3, .int x3]) (st' := [.int (M2 1 3), .int 6, .ref 1]) (M' := M2) rfl ?_
      refine pu_callV (m' := 88) (ml := 3) (as := [.ref 1, .int 6, .int (M2 1 3)]) (rest := []) rfl rfl rfl (Nat.le_of_ble_eq_true rfl) H (fun M6 H => ?_)
      show pu_R L (d + 2) 92 116 [.ref v0, .ref 1, .int v2, .int v3, .int x3] [] M6 _
      refine pu_go 2 (pc' := 141) (ls' := [.ref v0, .ref 1, .int v2, .int v3, .int x3]) (st' := [.ref 1]) (M' := M6) rfl ?_
      refine pu_callV (m' := 83) (ml := 2) (as := [.ref 1]) (rest := []) rfl rfl rfl (Nat.le_of_ble_eq_true rfl) H (fun M7 H => ?_)
      show pu_R L (d + 2) 92 144 [.ref v0, .ref 1, .int v2, .int v3, .int x3] [] M7 _
      refine pu_go 4 (pc' := 149) (ls' := [.ref v0, .ref 1, .int v2, .int v3, .int x3]) (st' := [.int x3, .int v2, .int v3, .ref v0]) (M' := M7) rfl ?_
      refine pu_callV (m' := 93) (ml := 4) (as := [.ref v0, .int v3, .int v2, .int x3]) (rest := []) rfl (pu_virt (pu_W_o hv0) (Nat.lt_trans (pu_W_lt hv0) (by decide)) ⟨Nat.le_of_ble_eq_true rfl, Nat.le_of_ble_eq_true rfl⟩ rfl rfl) rfl (Nat.le_of_ble_eq_true rfl) H (fun M8 H => ?_)
      show pu_R L (d + 2) 92 152 [.ref v0, .ref 1, .int v2, .int v3, .int x3] [] M8 _
      exact pu_ret rfl rfl ⟨rfl, H⟩
  · replace H := Eq.mp (if_pos hc) H
    refine pu_go 4 (pc' := 94) (ls' := [.ref v0, .ref 1, .int v2, .int v3, .int x3]) (st' := [.int (M2 1 3), .int 1, .ref 1]) (M' := M2) rfl ?_
    refine pu_callV (m' := 88) (ml := 3) (as := [.ref 1, .int 1, .int (M2 1 3)]) (rest := []) rfl rfl rfl (Nat.le_of_ble_eq_true rfl) H (fun M9 H => ?_)
    show pu_R L (d + 2) 92 97 [.ref v0, .ref 1, .int v2, .int v3, .int x3] [] M9 _
    refine pu_go 2 (pc' := 141) (ls' := [.ref v0, .ref 1, .int v2, .int v3, .int x3]) (st' := [.ref 1]) (M' := M9) rfl ?_
    refine pu_callV (m' := 83) (ml := 2) (as := [.ref 1]) (rest := []) rfl rfl rfl (Nat.le_of_ble_eq_true rfl) H (fun M10 H => ?_)
    show pu_R L (d + 2) 92 144 [.ref v0, .ref 1, .int v2, .int v3, .int x3] [] M10 _
    refine pu_go 4 (pc' := 149) (ls' := [.ref v0, .ref 1, .int v2, .int v3, .int x3]) (st' := [.int x3, .int v2, .int v3, .ref v0]) (M' := M10) rfl ?_
    refine pu_callV (m' := 93) (ml := 4) (as := [.ref v0, .int v3, .int v2, .int x3]) (rest := []) rfl (pu_virt (pu_W_o hv0) (Nat.lt_trans (pu_W_lt hv0) (by decide)) ⟨Nat.le_of_ble_eq_true rfl, Nat.le_of_ble_eq_true rfl⟩ rfl rfl) rfl (Nat.le_of_ble_eq_true rfl) H (fun M11 H => ?_)
    show pu_R L (d + 2) 92 152 [.ref v0, .ref 1, .int v2, .int v3, .int x3] [] M11 _
    exact pu_ret rfl rfl ⟨rfl, H⟩
set_option maxRecDepth 20000 in
theorem r_Wishes_readLine_44 {L d : Nat} {M : pu_M} {Q : pu_M → Prop} {v0 : Nat} (hv0 : pu_isW v0) {v2 : Int32} (H : pu_V L (d + 1) 83 [.ref 1] M (fun M1 => (if (M1 1 2) = 43 then pu_R L (d + 2) 92 68 [.ref v0, .ref 1, .int v2, .int (M1 1 2), .int ((-1))] [] M1 (pu_qV Q) else (if (M1 1 2) = 45 then pu_R L (d + 2) 92 68 [.ref v0, .ref 1, .int v2, .int (M1 1 2), .int ((-1))] [] M1 (pu_qV Q) else (if (M1 1 2) = 35 then pu_V L (d + 1) 83 [.ref 1] M1 (fun M2 => pu_V L (d + 1) 93 [.ref v0, .int (M1 1 2), .int v2, .int ((-1))] M2 (fun M3 => Q M3)) else (if (M1 1 2) = 46 then pu_V L (d + 1) 83 [.ref 1] M1 (fun M4 => pu_V L (d + 1) 93 [.ref v0, .int (M1 1 2), .int v2, .int ((-1))] M4 (fun M5 => Q M5)) else pu_V L (d + 1) 88 [.ref 1, .int 1, .int (M1 1 3)] M1 (fun M6 => pu_V L (d + 1) 83 [.ref 1] M6 (fun M7 => pu_V L (d + 1) 93 [.ref v0, .int (M1 1 2), .int v2, .int ((-1))] M7 (fun M8 => Q M8))))))))) : pu_R L (d + 2) 92 44 [.ref v0, .ref 1, .int v2, mq_un, mq_un] [] M (pu_qV Q) := by
  refine pu_go 1 (pc' := 45) (ls' := [.ref v0, .ref 1, .int v2, mq_un, mq_un]) (st' := [.ref 1]) (M' := M) rfl ?_
  refine pu_callV (m' := 83) (ml := 2) (as := [.ref 1]) (rest := []) rfl rfl rfl (Nat.le_of_ble_eq_true rfl) H (fun M1 H => ?_)
  show pu_R L (d + 2) 92 48 [.ref v0, .ref 1, .int v2, mq_un, mq_un] [] M1 _
  refine pu_go 7 (pc' := 59) (ls' := [.ref v0, .ref 1, .int v2, .int (M1 1 2), .int ((-1))]) (st' := [.int 43, .int (M1 1 2)]) (M' := M1) rfl ?_
  refine pu_icmp_eq rfl (fun hc => ?_) (fun hc => ?_)
  · replace H := Eq.mp (if_pos hc) H
    exact H
  · replace H := Eq.mp (if_neg hc) H
    refine pu_go 2 (pc' := 65) (ls' := [.ref v0, .ref 1, .int v2, .int (M1 1 2), .int ((-1))]) (st' := [.int 45, .int (M1 1 2)]) (M' := M1) rfl ?_
    refine pu_icmp_ne rfl (fun hc => ?_) (fun hc => ?_)
    · replace H := Eq.mp (if_neg hc) H
      refine pu_go 2 (pc' := 122) (ls' := [.ref v0, .ref 1, .int v2, .int (M1 1 2), .int ((-1))]) (st' := [.int 35, .int (M1 1 2)]) (M' := M1) rfl ?_
      refine pu_icmp_eq rfl (fun hc => ?_) (fun hc => ?_)
      · replace H := Eq.mp (if_pos hc) H
        refine pu_go 1 (pc' := 141) (ls' := [.ref v0, .ref 1, .int v2, .int (M1 1 2), .int ((-1))]) (st' := [.ref 1]) (M' := M1) rfl ?_
        refine pu_callV (m' := 83) (ml := 2) (as := [.ref 1]) (rest := []) rfl rfl rfl (Nat.le_of_ble_eq_true rfl) H (fun M2 H => ?_)
        show pu_R L (d + 2) 92 144 [.ref v0, .ref 1, .int v2, .int (M1 1 2), .int ((-1))] [] M2 _
        refine pu_go 4 (pc' := 149) (ls' := [.ref v0, .ref 1, .int v2, .int (M1 1 2), .int ((-1))]) (st' := [.int ((-1)), .int v2, .int (M1 1 2), .ref v0]) (M' := M2) rfl ?_
        refine pu_callV (m' := 93) (ml := 4) (as := [.ref v0, .int (M1 1 2), .int v2, .int ((-1))]) (rest := []) rfl (pu_virt (pu_W_o hv0) (Nat.lt_trans (pu_W_lt hv0) (by decide)) ⟨Nat.le_of_ble_eq_true rfl, Nat.le_of_ble_eq_true rfl⟩ rfl rfl) rfl (Nat.le_of_ble_eq_true rfl) H (fun M3 H => ?_)
        show pu_R L (d + 2) 92 152 [.ref v0, .ref 1, .int v2, .int (M1 1 2), .int ((-1))] [] M3 _
        exact pu_ret rfl rfl ⟨rfl, H⟩
      · replace H := Eq.mp (if_neg hc) H
        refine pu_go 2 (pc' := 128) (ls' := [.ref v0, .ref 1, .int v2, .int (M1 1 2), .int ((-1))]) (st' := [.int 46, .int (M1 1 2)]) (M' := M1) rfl ?_
        refine pu_icmp_eq rfl (fun hc => ?_) (fun hc => ?_)
        · replace H := Eq.mp (if_pos hc) H
          refine pu_go 1 (pc' := 141) (ls' := [.ref v0, .ref 1, .int v2, .int (M1 1 2), .int ((-1))]) (st' := [.ref 1]) (M' := M1) rfl ?_
          refine pu_callV (m' := 83) (ml := 2) (as := [.ref 1]) (rest := []) rfl rfl rfl (Nat.le_of_ble_eq_true rfl) H (fun M4 H => ?_)
          show pu_R L (d + 2) 92 144 [.ref v0, .ref 1, .int v2, .int (M1 1 2), .int ((-1))] [] M4 _
          refine pu_go 4 (pc' := 149) (ls' := [.ref v0, .ref 1, .int v2, .int (M1 1 2), .int ((-1))]) (st' := [.int ((-1)), .int v2, .int (M1 1 2), .ref v0]) (M' := M4) rfl ?_
          refine pu_callV (m' := 93) (ml := 4) (as := [.ref v0, .int (M1 1 2), .int v2, .int ((-1))]) (rest := []) rfl (pu_virt (pu_W_o hv0) (Nat.lt_trans (pu_W_lt hv0) (by decide)) ⟨Nat.le_of_ble_eq_true rfl, Nat.le_of_ble_eq_true rfl⟩ rfl rfl) rfl (Nat.le_of_ble_eq_true rfl) H (fun M5 H => ?_)
          show pu_R L (d + 2) 92 152 [.ref v0, .ref 1, .int v2, .int (M1 1 2), .int ((-1))] [] M5 _
          exact pu_ret rfl rfl ⟨rfl, H⟩
        · replace H := Eq.mp (if_neg hc) H
          refine pu_go 4 (pc' := 137) (ls' := [.ref v0, .ref 1, .int v2, .int (M1 1 2), .int ((-1))]) (st' := [.int (M1 1 3), .int 1, .ref 1]) (M' := M1) rfl ?_
          refine pu_callV (m' := 88) (ml := 3) (as := [.ref 1, .int 1, .int (M1 1 3)]) (rest := []) rfl rfl rfl (Nat.le_of_ble_eq_true rfl) H (fun M6 H => ?_)
          show pu_R L (d + 2) 92 140 [.ref v0, .ref 1, .int v2, .int (M1 1 2), .int ((-1))] [] M6 _
          refine pu_go 1 (pc' := 141) (ls' := [.ref v0, .ref 1, .int v2, .int (M1 1 2), .int ((-1))]) (st' := [.ref 1]) (M' := M6) rfl ?_
          refine pu_callV (m' := 83) (ml := 2) (as := [.ref 1]) (rest := []) rfl rfl rfl (Nat.le_of_ble_eq_true rfl) H (fun M7 H => ?_)
          show pu_R L (d + 2) 92 144 [.ref v0, .ref 1, .int v2, .int (M1 1 2), .int ((-1))] [] M7 _
          refine pu_go 4 (pc' := 149) (ls' := [.ref v0, .ref 1, .int v2, .int (M1 1 2), .int ((-1))]) (st' := [.int ((-1)), .int v2, .int (M1 1 2), .ref v0]) (M' := M7) rfl ?_
          refine pu_callV (m' := 93) (ml := 4) (as := [.ref v0, .int (M1 1 2), .int v2, .int ((-1))]) (rest := []) rfl (pu_virt (pu_W_o hv0) (Nat.lt_trans (pu_W_lt hv0) (by decide)) ⟨Nat.le_of_ble_eq_true rfl, Nat.le_of_ble_eq_true rfl⟩ rfl rfl) rfl (Nat.le_of_ble_eq_true rfl) H (fun M8 H => ?_)
          show pu_R L (d + 2) 92 152 [.ref v0, .ref 1, .int v2, .int (M1 1 2), .int ((-1))] [] M8 _
          exact pu_ret rfl rfl ⟨rfl, H⟩
    · replace H := Eq.mp (if_pos hc) H
      exact H
set_option maxRecDepth 20000 in
theorem r_Wishes_readLine {L d : Nat} {M : pu_M} {Q : pu_M → Prop} {v0 : Nat} (hv0 : pu_isW v0) (H : pu_I L (d + 1) 86 [.ref 1, .int 97, .int 16] M (fun x2 M1 => (if x2 = ((-1)) then pu_V L (d + 1) 88 [.ref 1, .int 1, .int (M1 1 3)] M1 (fun M4 => pu_R L (d + 2) 92 44 [.ref v0, .ref 1, .int x2, mq_un, mq_un] [] M4 (pu_qV Q)) else (if (M1 v0 3) < 24 then pu_R L (d + 2) 92 44 [.ref v0, .ref 1, .int x2, mq_un, mq_un] [] M1 (pu_qV Q) else pu_V L (d + 1) 88 [.ref 1, .int 4, .int (M1 1 3)] M1 (fun M3 => pu_R L (d + 2) 92 44 [.ref v0, .ref 1, .int x2, mq_un, mq_un] [] M3 (pu_qV Q)))))) : pu_V L (d + 2) 92 [.ref v0, .ref 1] M Q := by
  show pu_R L (d + 2) 92 0 [.ref v0, .ref 1, mq_un, mq_un, mq_un] [] M (pu_qV Q)
  refine pu_go 3 (pc' := 5) (ls' := [.ref v0, .ref 1, mq_un, mq_un, mq_un]) (st' := [.int 16, .int 97, .ref 1]) (M' := M) rfl ?_
  refine pu_callI (m' := 86) (ml := 3) (as := [.ref 1, .int 97, .int 16]) (rest := []) rfl rfl rfl (Nat.le_of_ble_eq_true rfl) H (fun x2 M1 H => ?_)
  show pu_R L (d + 2) 92 8 [.ref v0, .ref 1, mq_un, mq_un, mq_un] [.int x2] M1 _
  refine pu_go 3 (pc' := 11) (ls' := [.ref v0, .ref 1, .int x2, mq_un, mq_un]) (st' := [.int ((-1)), .int x2]) (M' := M1) rfl ?_
  refine pu_icmp_ne rfl (fun hc => ?_) (fun hc => ?_)
  · replace H := Eq.mp (if_neg hc) H
    refine pu_go 1 (pc' := 27) (ls' := [.ref v0, .ref 1, .int x2, mq_un, mq_un]) (st' := [.ref v0]) (M' := M1) rfl ?_
    refine pu_getf (j := 3) (w := .int (M1 v0 3)) rfl (pu_W_o hv0) (Nat.lt_trans (pu_W_lt hv0) (by decide)) rfl (by decide) rfl rfl ?_
    refine pu_go 1 (pc' := 32) (ls' := [.ref v0, .ref 1, .int x2, mq_un, mq_un]) (st' := [.int 24, .int (M1 v0 3)]) (M' := M1) rfl ?_
    refine pu_icmp_lt rfl (fun hc => ?_) (fun hc => ?_)
    · replace H := Eq.mp (if_pos hc) H
      exact H
    · replace H := Eq.mp (if_neg hc) H
      refine pu_go 4 (pc' := 41) (ls' := [.ref v0, .ref 1, .int x2, mq_un, mq_un]) (st' := [.int (M1 1 3), .int 4, .ref 1]) (M' := M1) rfl ?_
      refine pu_callV (m' := 88) (ml := 3) (as := [.ref 1, .int 4, .int (M1 1 3)]) (rest := []) rfl rfl rfl (Nat.le_of_ble_eq_true rfl) H (fun M3 H => ?_)
      show pu_R L (d + 2) 92 44 [.ref v0, .ref 1, .int x2, mq_un, mq_un] [] M3 _
      exact H
  · replace H := Eq.mp (if_pos hc) H
    refine pu_go 4 (pc' := 20) (ls' := [.ref v0, .ref 1, .int x2, mq_un, mq_un]) (st' := [.int (M1 1 3), .int 1, .ref 1]) (M' := M1) rfl ?_
    refine pu_callV (m' := 88) (ml := 3) (as := [.ref 1, .int 1, .int (M1 1 3)]) (rest := []) rfl rfl rfl (Nat.le_of_ble_eq_true rfl) H (fun M4 H => ?_)
    show pu_R L (d + 2) 92 23 [.ref v0, .ref 1, .int x2, mq_un, mq_un] [] M4 _
    refine pu_go 1 (pc' := 44) (ls' := [.ref v0, .ref 1, .int x2, mq_un, mq_un]) (st' := []) (M' := M4) rfl ?_
    exact H
/-! Wishes_add (III)V -/
set_option maxRecDepth 20000 in
theorem r_Wishes_add {L d : Nat} {M : pu_M} {Q : pu_M → Prop} {v0 : Nat} (hv0 : pu_isW v0) {v1 : Int32} {v2 : Int32} {v3 : Int32} (H : (if 24 ≤ (M v0 3) then Q M else (mq_inb (M v0 3) 24 = true ∧ (mq_inb ((pu_wr M (v0 + 1) (M v0 3 : Int32).toNatClampNeg v1) v0 3) 24 = true ∧ (mq_inb ((pu_wr (pu_wr M (v0 + 1) (M v0 3 : Int32).toNatClampNeg v1) (v0 + 2) ((pu_wr M (v0 + 1) (M v0 3 : Int32).toNatClampNeg v1) v0 3 : Int32).toNatClampNeg v2) v0 3) 24 = true ∧ (∀ M4 : pu_M, M4 = pu_wr (pu_wr (pu_wr M (v0 + 1) (M v0 3 : Int32).toNatClampNeg v1) (v0 + 2) ((pu_wr M (v0 + 1) (M v0 3 : Int32).toNatClampNeg v1) v0 3 : Int32).toNatClampNeg v2) (v0 + 3) ((pu_wr (pu_wr M (v0 + 1) (M v0 3 : Int32).toNatClampNeg v1) (v0 + 2) ((pu_wr M (v0 + 1) (M v0 3 : Int32).toNatClampNeg v1) v0 3 : Int32).toNatClampNeg v2) v0 3 : Int32).toNatClampNeg v3 → Q (pu_wr M4 v0 3 ((M4 v0 3) + 1)))))))) : pu_V L (d + 1) 93 [.ref v0, .int v1, .int v2, .int v3] M Q := by
  show pu_R L (d + 1) 93 0 [.ref v0, .int v1, .int v2, .int v3] [] M (pu_qV Q)
  refine pu_go 1 (pc' := 1) (ls' := [.ref v0, .int v1, .int v2, .int v3]) (st' := [.ref v0]) (M' := M) rfl ?_
  refine pu_getf (j := 3) (w := .int (M v0 3)) rfl (pu_W_o hv0) (Nat.lt_trans (pu_W_lt hv0) (by decide)) rfl (by decide) rfl rfl ?_
  refine pu_go 1 (pc' := 6) (ls' := [.ref v0, .int v1, .int v2, .int v3]) (st' := [.int 24, .int (M v0 3)]) (M' := M) rfl ?_
  refine pu_icmp_ge rfl (fun hc => ?_) (fun hc => ?_)
  · replace H := Eq.mp (if_pos hc) H
    exact pu_ret rfl rfl ⟨rfl, H⟩
  · replace H := Eq.mp (if_neg hc) H
    refine pu_go 1 (pc' := 10) (ls' := [.ref v0, .int v1, .int v2, .int v3]) (st' := [.ref v0]) (M' := M) rfl ?_
    refine pu_getf (j := 0) (w := .ref (v0 + 1)) rfl (pu_W_o hv0) (Nat.lt_trans (pu_W_lt hv0) (by decide)) rfl (by decide) rfl rfl ?_
    refine pu_go 1 (pc' := 14) (ls' := [.ref v0, .int v1, .int v2, .int v3]) (st' := [.ref v0, .ref (v0 + 1)]) (M' := M) rfl ?_
    refine pu_getf (j := 3) (w := .int (M v0 3)) rfl (pu_W_o hv0) (Nat.lt_trans (pu_W_lt hv0) (by decide)) rfl (by decide) rfl rfl ?_
    refine pu_go 1 (pc' := 18) (ls' := [.ref v0, .int v1, .int v2, .int v3]) (st' := [.int v1, .int (M v0 3), .ref (v0 + 1)]) (M' := M) rfl ?_
    obtain ⟨hb1, H⟩ := H
    refine pu_iast rfl (pu_W_1 hv0) (pu_W_l1 hv0) hb1 ?_
    refine pu_go 1 (pc' := 20) (ls' := [.ref v0, .int v1, .int v2, .int v3]) (st' := [.ref v0]) (M' := pu_wr M (v0 + 1) (M v0 3 : Int32).toNatClampNeg v1) rfl ?_
    refine pu_getf (j := 1) (w := .ref (v0 + 2)) rfl (pu_W_o hv0) (Nat.lt_trans (pu_W_lt hv0) (by decide)) rfl (by decide) rfl rfl ?_
    refine pu_go 1 (pc' := 24) (ls' := [.ref v0, .int v1, .int v2, .int v3]) (st' := [.ref v0, .ref (v0 + 2)]) (M' := pu_wr M (v0 + 1) (M v0 3 : Int32).toNatClampNeg v1) rfl ?_
    refine pu_getf (j := 3) (w := .int ((pu_wr M (v0 + 1) (M v0 3 : Int32).toNatClampNeg v1) v0 3)) rfl (pu_W_o hv0) (Nat.lt_trans (pu_W_lt hv0) (by decide)) rfl (by decide) rfl rfl ?_
    refine pu_go 1 (pc' := 28) (ls' := [.ref v0, .int v1, .int v2, .int v3]) (st' := [.int v2, .int ((pu_wr M (v0 + 1) (M v0 3 : Int32).toNatClampNeg v1) v0 3), .ref (v0 + 2)]) (M' := pu_wr M (v0 + 1) (M v0 3 : Int32).toNatClampNeg v1) rfl ?_
    obtain ⟨hb2, H⟩ := H
    refine pu_iast rfl (pu_W_2 hv0) (pu_W_l2 hv0) hb2 ?_
    refine pu_go 1 (pc' := 30) (ls' := [.ref v0, .int v1, .int v2, .int v3]) (st' := [.ref v0]) (M' := pu_wr (pu_wr M (v0 + 1) (M v0 3 : Int32).toNatClampNeg v1) (v0 + 2) ((pu_wr M (v0 + 1) (M v0 3 : Int32).toNatClampNeg v1) v0 3 : Int32).toNatClampNeg v2) rfl ?_
    refine pu_getf (j := 2) (w := .ref (v0 + 3)) rfl (pu_W_o hv0) (Nat.lt_trans (pu_W_lt hv0) (by decide)) rfl (by decide) rfl rfl ?_
    refine pu_go 1 (pc' := 34) (ls' := [.ref v0, .int v1, .int v2, .int v3]) (st' := [.ref v0, .ref (v0 + 3)]) (M' := pu_wr (pu_wr M (v0 + 1) (M v0 3 : Int32).toNatClampNeg v1) (v0 + 2) ((pu_wr M (v0 + 1) (M v0 3 : Int32).toNatClampNeg v1) v0 3 : Int32).toNatClampNeg v2) rfl ?_
    refine pu_getf (j := 3) (w := .int ((pu_wr (pu_wr M (v0 + 1) (M v0 3 : Int32).toNatClampNeg v1) (v0 + 2) ((pu_wr M (v0 + 1) (M v0 3 : Int32).toNatClampNeg v1) v0 3 : Int32).toNatClampNeg v2) v0 3)) rfl (pu_W_o hv0) (Nat.lt_trans (pu_W_lt hv0) (by decide)) rfl (by decide) rfl rfl ?_
    refine pu_go 1 (pc' := 38) (ls' := [.ref v0, .int v1, .int v2, .int v3]) (st' := [.int v3, .int ((pu_wr (pu_wr M (v0 + 1) (M v0 3 : Int32).toNatClampNeg v1) (v0 + 2) ((pu_wr M (v0 + 1) (M v0 3 : Int32).toNatClampNeg v1) v0 3 : Int32).toNatClampNeg v2) v0 3), .ref (v0 + 3)]) (M' := pu_wr (pu_wr M (v0 + 1) (M v0 3 : Int32).toNatClampNeg v1) (v0 + 2) ((pu_wr M (v0 + 1) (M v0 3 : Int32).toNatClampNeg v1) v0 3 : Int32).toNatClampNeg v2) rfl ?_
    obtain ⟨hb3, H⟩ := H
    refine pu_iast rfl (pu_W_3 hv0) (pu_W_l3 hv0) hb3 ?_
    refine pu_named (fun M4 eM5 => ?_)
    replace H := H M4 eM5
    refine pu_go 2 (pc' := 41) (ls' := [.ref v0, .int v1, .int v2, .int v3]) (st' := [.ref v0, .ref v0]) (M' := M4) rfl ?_
    refine pu_getf (j := 3) (w := .int (M4 v0 3)) rfl (pu_W_o hv0) (Nat.lt_trans (pu_W_lt hv0) (by decide)) rfl (by decide) rfl rfl ?_
    refine pu_go 2 (pc' := 46) (ls' := [.ref v0, .int v1, .int v2, .int v3]) (st' := [.int ((M4 v0 3) + 1), .ref v0]) (M' := M4) rfl ?_
    refine pu_putf (j := 3) (z := (M4 v0 3) + 1) rfl (pu_W_o hv0) (Nat.lt_trans (pu_W_lt hv0) (by decide)) rfl (by decide) rfl rfl pu_put_hw ?_
    exact pu_ret rfl rfl ⟨rfl, H⟩
/-! Wishes_holding (LTalkingPlots$Yard;)I -/
set_option maxRecDepth 20000 in
theorem r_Wishes_holding_4 {L d : Nat} {M : pu_M} {Q : Int32 → pu_M → Prop} {v0 : Nat} (hv0 : pu_isW v0) {v1 : Nat} (hv1 : pu_isY v1) {v2 : Int32} {v3 : Int32} (H : (if (M v0 3) ≤ v3 then Q v2 M else pu_I L (d + 4) 96 [.ref v0, .int v3, .ref v1] M (fun x2 M1 => (if x2 = 0 then pu_R L (d + 5) 94 4 [.ref v0, .ref v1, .int (v2 + 0), .int (v3 + 1)] [] M1 (pu_qI Q) else pu_R L (d + 5) 94 4 [.ref v0, .ref v1, .int (v2 + 1), .int (v3 + 1)] [] M1 (pu_qI Q))))) : pu_R L (d + 5) 94 4 [.ref v0, .ref v1, .int v2, .int v3] [] M (pu_qI Q) := by
  refine pu_go 2 (pc' := 6) (ls' := [.ref v0, .ref v1, .int v2, .int v3]) (st' := [.ref v0, .int v3]) (M' := M) rfl ?_
  refine pu_getf (j := 3) (w := .int (M v0 3)) rfl (pu_W_o hv0) (Nat.lt_trans (pu_W_lt hv0) (by decide)) rfl (by decide) rfl rfl ?_
  refine pu_icmp_ge rfl (fun hc => ?_) (fun hc => ?_)
  · replace H := Eq.mp (if_pos hc) H
    refine pu_go 1 (pc' := 36) (ls' := [.ref v0, .ref v1, .int v2, .int v3]) (st' := [.int v2]) (M' := M) rfl ?_
    exact pu_ret rfl rfl ⟨_, rfl, H⟩
  · replace H := Eq.mp (if_neg hc) H
    refine pu_go 4 (pc' := 16) (ls' := [.ref v0, .ref v1, .int v2, .int v3]) (st' := [.ref v1, .int v3, .ref v0, .int v2]) (M' := M) rfl ?_
    refine pu_callI (m' := 96) (ml := 5) (as := [.ref v0, .int v3, .ref v1]) (rest := [.int v2]) rfl (pu_virt (pu_W_o hv0) (Nat.lt_trans (pu_W_lt hv0) (by decide)) ⟨Nat.le_of_ble_eq_true rfl, Nat.le_of_ble_eq_true rfl⟩ rfl rfl) rfl (Nat.le_of_ble_eq_true rfl) H (fun x2 M1 H => ?_)
    show pu_R L (d + 5) 94 19 [.ref v0, .ref v1, .int v2, .int v3] [.int x2, .int v2] M1 _
    refine pu_if_eq rfl (fun hc => ?_) (fun hc => ?_)
    · replace H := Eq.mp (if_pos hc) H
      refine pu_go 5 (pc' := 4) (ls' := [.ref v0, .ref v1, .int (v2 + 0), .int (v3 + 1)]) (st' := []) (M' := M1) rfl ?_
      exact H
    · replace H := Eq.mp (if_neg hc) H
      refine pu_go 6 (pc' := 4) (ls' := [.ref v0, .ref v1, .int (v2 + 1), .int (v3 + 1)]) (st' := []) (M' := M1) rfl ?_
      exact H
set_option maxRecDepth 20000 in
theorem r_Wishes_holding {L d : Nat} {M : pu_M} {Q : Int32 → pu_M → Prop} {v0 : Nat} (hv0 : pu_isW v0) {v1 : Nat} (hv1 : pu_isY v1) (H : pu_R L (d + 5) 94 4 [.ref v0, .ref v1, .int 0, .int 0] [] M (pu_qI Q)) : pu_I L (d + 5) 94 [.ref v0, .ref v1] M Q := by
  show pu_R L (d + 5) 94 0 [.ref v0, .ref v1, mq_un, mq_un] [] M (pu_qI Q)
  refine pu_go 4 (pc' := 4) (ls' := [.ref v0, .ref v1, .int 0, .int 0]) (st' := []) (M' := M) rfl ?_
  exact H
/-! Wishes_firstBroken (LTalkingPlots$Yard;)I -/
set_option maxRecDepth 20000 in
theorem r_Wishes_firstBroken_2 {L d : Nat} {M : pu_M} {Q : Int32 → pu_M → Prop} {v0 : Nat} (hv0 : pu_isW v0) {v1 : Nat} (hv1 : pu_isY v1) {v2 : Int32} (H : (if (M v0 3) ≤ v2 then Q ((-2)) M else pu_I L (d + 4) 96 [.ref v0, .int v2, .ref v1] M (fun x2 M1 => (if x2 = 0 then Q v2 M1 else pu_R L (d + 5) 95 2 [.ref v0, .ref v1, .int (v2 + 1)] [] M1 (pu_qI Q))))) : pu_R L (d + 5) 95 2 [.ref v0, .ref v1, .int v2] [] M (pu_qI Q) := by
  refine pu_go 2 (pc' := 4) (ls' := [.ref v0, .ref v1, .int v2]) (st' := [.ref v0, .int v2]) (M' := M) rfl ?_
  refine pu_getf (j := 3) (w := .int (M v0 3)) rfl (pu_W_o hv0) (Nat.lt_trans (pu_W_lt hv0) (by decide)) rfl (by decide) rfl rfl ?_
  refine pu_icmp_ge rfl (fun hc => ?_) (fun hc => ?_)
  · replace H := Eq.mp (if_pos hc) H
    refine pu_go 1 (pc' := 29) (ls' := [.ref v0, .ref v1, .int v2]) (st' := [.int ((-2))]) (M' := M) rfl ?_
    exact pu_ret rfl rfl ⟨_, rfl, H⟩
  · replace H := Eq.mp (if_neg hc) H
    refine pu_go 3 (pc' := 13) (ls' := [.ref v0, .ref v1, .int v2]) (st' := [.ref v1, .int v2, .ref v0]) (M' := M) rfl ?_
    refine pu_callI (m' := 96) (ml := 5) (as := [.ref v0, .int v2, .ref v1]) (rest := []) rfl (pu_virt (pu_W_o hv0) (Nat.lt_trans (pu_W_lt hv0) (by decide)) ⟨Nat.le_of_ble_eq_true rfl, Nat.le_of_ble_eq_true rfl⟩ rfl rfl) rfl (Nat.le_of_ble_eq_true rfl) H (fun x2 M1 H => ?_)
    show pu_R L (d + 5) 95 16 [.ref v0, .ref v1, .int v2] [.int x2] M1 _
    refine pu_if_ne rfl (fun hc => ?_) (fun hc => ?_)
    · replace H := Eq.mp (if_neg hc) H
      refine pu_go 2 (pc' := 2) (ls' := [.ref v0, .ref v1, .int (v2 + 1)]) (st' := []) (M' := M1) rfl ?_
      exact H
    · replace H := Eq.mp (if_pos hc) H
      refine pu_go 1 (pc' := 20) (ls' := [.ref v0, .ref v1, .int v2]) (st' := [.int v2]) (M' := M1) rfl ?_
      exact pu_ret rfl rfl ⟨_, rfl, H⟩
set_option maxRecDepth 20000 in
theorem r_Wishes_firstBroken {L d : Nat} {M : pu_M} {Q : Int32 → pu_M → Prop} {v0 : Nat} (hv0 : pu_isW v0) {v1 : Nat} (hv1 : pu_isY v1) (H : pu_R L (d + 5) 95 2 [.ref v0, .ref v1, .int 0] [] M (pu_qI Q)) : pu_I L (d + 5) 95 [.ref v0, .ref v1] M Q := by
  show pu_R L (d + 5) 95 0 [.ref v0, .ref v1, mq_un] [] M (pu_qI Q)
  refine pu_go 2 (pc' := 2) (ls' := [.ref v0, .ref v1, .int 0]) (st' := []) (M' := M) rfl ?_
  exact H
/-! Wishes_holds (ILTalkingPlots$Yard;)Z -/
set_option maxRecDepth 20000 in
theorem r_Wishes_holds_40 {L d : Nat} {M : pu_M} {Q : Int32 → pu_M → Prop} {v0 : Nat} (hv0 : pu_isW v0) {v1 : Int32} {v2 : Nat} (hv2 : pu_isY v2) {v3 : Int32} {s0 : Int32} (H : (mq_inb v1 24 = true ∧ (if (M (v0 + 1) v1.toNatClampNeg) = 35 then pu_I L (d + 3) 102 [.ref v2, .int v3] M (fun x7 M6 => (if x7 = 0 then Q 0 M6 else (mq_inb v3 16 = true ∧ pu_I L (d + 3) 97 [.int (M6 (v2 + 3) v3.toNatClampNeg)] M6 (fun x10 M9 => (if x10 = 0 then Q 0 M9 else Q 1 M9))))) else (if (M (v0 + 1) v1.toNatClampNeg) = 43 then ((s0 = 0 ∨ s0 = 1) ∧ Q s0 M) else (if (M (v0 + 1) v1.toNatClampNeg) = 45 then (if s0 = 0 then Q 1 M else Q 0 M) else pu_I L (d + 3) 102 [.ref v2, .int v3] M (fun x3 M2 => (if x3 = 0 then Q 0 M2 else pu_I L (d + 3) 114 [.ref v2, .int v3] M2 (fun x5 M4 => (if x5 = 0 then Q 1 M4 else Q 0 M4))))))))) : pu_R L (d + 4) 96 40 [.ref v0, .int v1, .ref v2, .int v3, mq_un] [.int s0] M (pu_qI Q) := by
  refine pu_go 2 (pc' := 43) (ls' := [.ref v0, .int v1, .ref v2, .int v3, .int s0]) (st' := [.ref v0]) (M' := M) rfl ?_
  refine pu_getf (j := 0) (w := .ref (v0 + 1)) rfl (pu_W_o hv0) (Nat.lt_trans (pu_W_lt hv0) (by decide)) rfl (by decide) rfl rfl ?_
  refine pu_go 1 (pc' := 47) (ls' := [.ref v0, .int v1, .ref v2, .int v3, .int s0]) (st' := [.int v1, .ref (v0 + 1)]) (M' := M) rfl ?_
  obtain ⟨hb1, H⟩ := H
  refine pu_iald rfl (pu_W_1 hv0) (Or.inl (pu_W_l1 hv0)) hb1 ?_
  skip
  by_cases hs48_0 : (M (v0 + 1) v1.toNatClampNeg) = 35
  · replace H := Eq.mp (if_pos hs48_0) H
    refine pu_one (pc' := 98) (ls' := [.ref v0, .int v1, .ref v2, .int v3, .int s0]) (st' := []) (M' := M) rfl (by rw [hs48_0]; rfl) ?_
    refine pu_go 2 (pc' := 100) (ls' := [.ref v0, .int v1, .ref v2, .int v3, .int s0]) (st' := [.int v3, .ref v2]) (M' := M) rfl ?_
    refine pu_callI (m' := 102) (ml := 2) (as := [.ref v2, .int v3]) (rest := []) rfl (pu_virt (pu_Y_o hv2) (Nat.lt_trans (pu_Y_lt hv2) (by decide)) ⟨Nat.le_of_ble_eq_true rfl, Nat.le_of_ble_eq_true rfl⟩ rfl rfl) rfl (Nat.le_of_ble_eq_true rfl) H (fun x7 M6 H => ?_)
    show pu_R L (d + 4) 96 103 [.ref v0, .int v1, .ref v2, .int v3, .int s0] [.int x7] M6 _
    refine pu_if_eq rfl (fun hc => ?_) (fun hc => ?_)
    · replace H := Eq.mp (if_pos hc) H
      refine pu_go 1 (pc' := 123) (ls' := [.ref v0, .int v1, .ref v2, .int v3, .int s0]) (st' := [.int 0]) (M' := M6) rfl ?_
      exact pu_ret rfl rfl ⟨_, rfl, H⟩
    · replace H := Eq.mp (if_neg hc) H
      refine pu_go 1 (pc' := 107) (ls' := [.ref v0, .int v1, .ref v2, .int v3, .int s0]) (st' := [.ref v2]) (M' := M6) rfl ?_
      refine pu_getf (j := 2) (w := .ref (v2 + 3)) rfl (pu_Y_o hv2) (Nat.lt_trans (pu_Y_lt hv2) (by decide)) rfl (by decide) rfl rfl ?_
      refine pu_go 1 (pc' := 111) (ls' := [.ref v0, .int v1, .ref v2, .int v3, .int s0]) (st' := [.int v3, .ref (v2 + 3)]) (M' := M6) rfl ?_
      obtain ⟨hb8, H⟩ := H
      refine pu_iald rfl (pu_Y_3 hv2) (Or.inl (pu_Y_l3 hv2)) hb8 ?_
      refine pu_callI (m' := 97) (ml := 2) (as := [.int (M6 (v2 + 3) v3.toNatClampNeg)]) (rest := []) rfl rfl rfl (Nat.le_of_ble_eq_true rfl) H (fun x10 M9 H => ?_)
      show pu_R L (d + 4) 96 115 [.ref v0, .int v1, .ref v2, .int v3, .int s0] [.int x10] M9 _
      refine pu_if_eq rfl (fun hc => ?_) (fun hc => ?_)
      · replace H := Eq.mp (if_pos hc) H
        refine pu_go 1 (pc' := 123) (ls' := [.ref v0, .int v1, .ref v2, .int v3, .int s0]) (st' := [.int 0]) (M' := M9) rfl ?_
        exact pu_ret rfl rfl ⟨_, rfl, H⟩
      · replace H := Eq.mp (if_neg hc) H
        refine pu_go 2 (pc' := 123) (ls' := [.ref v0, .int v1, .ref v2, .int v3, .int s0]) (st' := [.int 1]) (M' := M9) rfl ?_
        exact pu_ret rfl rfl ⟨_, rfl, H⟩
  replace H := Eq.mp (if_neg hs48_0) H
  by_cases hs48_1 : (M (v0 + 1) v1.toNatClampNeg) = 43
  · replace H := Eq.mp (if_pos hs48_1) H
    refine pu_one (pc' := 84) (ls' := [.ref v0, .int v1, .ref v2, .int v3, .int s0]) (st' := []) (M' := M) rfl (by rw [hs48_1]; rfl) ?_
    refine pu_go 1 (pc' := 86) (ls' := [.ref v0, .int v1, .ref v2, .int v3, .int s0]) (st' := [.int s0]) (M' := M) rfl ?_
    obtain ⟨hb11, H⟩ := H
    exact pu_retZ rfl hb11 H
  replace H := Eq.mp (if_neg hs48_1) H
  by_cases hs48_2 : (M (v0 + 1) v1.toNatClampNeg) = 45
  · replace H := Eq.mp (if_pos hs48_2) H
    refine pu_one (pc' := 87) (ls' := [.ref v0, .int v1, .ref v2, .int v3, .int s0]) (st' := []) (M' := M) rfl (by rw [hs48_2]; rfl) ?_
    refine pu_go 1 (pc' := 89) (ls' := [.ref v0, .int v1, .ref v2, .int v3, .int s0]) (st' := [.int s0]) (M' := M) rfl ?_
    refine pu_if_ne rfl (fun hc => ?_) (fun hc => ?_)
    · replace H := Eq.mp (if_neg hc) H
      refine pu_go 1 (pc' := 97) (ls' := [.ref v0, .int v1, .ref v2, .int v3, .int s0]) (st' := [.int 0]) (M' := M) rfl ?_
      exact pu_ret rfl rfl ⟨_, rfl, H⟩
    · replace H := Eq.mp (if_pos hc) H
      refine pu_go 2 (pc' := 97) (ls' := [.ref v0, .int v1, .ref v2, .int v3, .int s0]) (st' := [.int 1]) (M' := M) rfl ?_
      exact pu_ret rfl rfl ⟨_, rfl, H⟩
  replace H := Eq.mp (if_neg hs48_2) H
  refine pu_one (pc' := 124) (ls' := [.ref v0, .int v1, .ref v2, .int v3, .int s0]) (st' := []) (M' := M) rfl (congrArg (fun z => mq_nx z _ _ _) (pu_lkpD [35, 43, 45] (by simp only [List.forall_mem_cons, List.not_mem_nil, false_implies, implies_true, and_true]; exact ⟨hs48_0, hs48_1, hs48_2⟩) (by decide))) ?_
  refine pu_go 2 (pc' := 126) (ls' := [.ref v0, .int v1, .ref v2, .int v3, .int s0]) (st' := [.int v3, .ref v2]) (M' := M) rfl ?_
  refine pu_callI (m' := 102) (ml := 2) (as := [.ref v2, .int v3]) (rest := []) rfl (pu_virt (pu_Y_o hv2) (Nat.lt_trans (pu_Y_lt hv2) (by decide)) ⟨Nat.le_of_ble_eq_true rfl, Nat.le_of_ble_eq_true rfl⟩ rfl rfl) rfl (Nat.le_of_ble_eq_true rfl) H (fun x3 M2 H => ?_)
  show pu_R L (d + 4) 96 129 [.ref v0, .int v1, .ref v2, .int v3, .int s0] [.int x3] M2 _
  refine pu_if_eq rfl (fun hc => ?_) (fun hc => ?_)
  · replace H := Eq.mp (if_pos hc) H
    refine pu_go 1 (pc' := 145) (ls' := [.ref v0, .int v1, .ref v2, .int v3, .int s0]) (st' := [.int 0]) (M' := M2) rfl ?_
    exact pu_ret rfl rfl ⟨_, rfl, H⟩
  · replace H := Eq.mp (if_neg hc) H
    refine pu_go 2 (pc' := 134) (ls' := [.ref v0, .int v1, .ref v2, .int v3, .int s0]) (st' := [.int v3, .ref v2]) (M' := M2) rfl ?_
    refine pu_callI (m' := 114) (ml := 2) (as := [.ref v2, .int v3]) (rest := []) rfl (pu_virt (pu_Y_o hv2) (Nat.lt_trans (pu_Y_lt hv2) (by decide)) ⟨Nat.le_of_ble_eq_true rfl, Nat.le_of_ble_eq_true rfl⟩ rfl rfl) rfl (Nat.le_of_ble_eq_true rfl) H (fun x5 M4 H => ?_)
    show pu_R L (d + 4) 96 137 [.ref v0, .int v1, .ref v2, .int v3, .int s0] [.int x5] M4 _
    refine pu_if_ne rfl (fun hc => ?_) (fun hc => ?_)
    · replace H := Eq.mp (if_neg hc) H
      refine pu_go 1 (pc' := 145) (ls' := [.ref v0, .int v1, .ref v2, .int v3, .int s0]) (st' := [.int 0]) (M' := M4) rfl ?_
      exact pu_ret rfl rfl ⟨_, rfl, H⟩
    · replace H := Eq.mp (if_pos hc) H
      refine pu_go 2 (pc' := 145) (ls' := [.ref v0, .int v1, .ref v2, .int v3, .int s0]) (st' := [.int 1]) (M' := M4) rfl ?_
      exact pu_ret rfl rfl ⟨_, rfl, H⟩
set_option maxRecDepth 20000 in
theorem r_Wishes_holds {L d : Nat} {M : pu_M} {Q : Int32 → pu_M → Prop} {v0 : Nat} (hv0 : pu_isW v0) {v1 : Int32} {v2 : Nat} (hv2 : pu_isY v2) (H : (mq_inb v1 24 = true ∧ (mq_inb v1 24 = true ∧ (if (M (v0 + 3) v1.toNatClampNeg) = ((-1)) then pu_R L (d + 4) 96 40 [.ref v0, .int v1, .ref v2, .int (M (v0 + 2) v1.toNatClampNeg), mq_un] [.int 0] M (pu_qI Q) else pu_I L (d + 3) 114 [.ref v2, .int (M (v0 + 2) v1.toNatClampNeg)] M (fun x4 M3 => (mq_inb v1 24 = true ∧ (if ((x4 >>> ((M3 (v0 + 3) v1.toNatClampNeg) &&& 31)) &&& 1) = 1 then pu_R L (d + 4) 96 40 [.ref v0, .int v1, .ref v2, .int (M (v0 + 2) v1.toNatClampNeg), mq_un] [.int 1] M3 (pu_qI Q) else pu_R L (d + 4) 96 40 [.ref v0, .int v1, .ref v2, .int (M (v0 + 2) v1.toNatClampNeg), mq_un] [.int 0] M3 (pu_qI Q)))))))) : pu_I L (d + 4) 96 [.ref v0, .int v1, .ref v2] M Q := by
  show pu_R L (d + 4) 96 0 [.ref v0, .int v1, .ref v2, mq_un, mq_un] [] M (pu_qI Q)
  refine pu_go 1 (pc' := 1) (ls' := [.ref v0, .int v1, .ref v2, mq_un, mq_un]) (st' := [.ref v0]) (M' := M) rfl ?_
  refine pu_getf (j := 1) (w := .ref (v0 + 2)) rfl (pu_W_o hv0) (Nat.lt_trans (pu_W_lt hv0) (by decide)) rfl (by decide) rfl rfl ?_
  refine pu_go 1 (pc' := 5) (ls' := [.ref v0, .int v1, .ref v2, mq_un, mq_un]) (st' := [.int v1, .ref (v0 + 2)]) (M' := M) rfl ?_
  obtain ⟨hb1, H⟩ := H
  refine pu_iald rfl (pu_W_2 hv0) (Or.inl (pu_W_l2 hv0)) hb1 ?_
  refine pu_go 2 (pc' := 8) (ls' := [.ref v0, .int v1, .ref v2, .int (M (v0 + 2) v1.toNatClampNeg), mq_un]) (st' := [.ref v0]) (M' := M) rfl ?_
  refine pu_getf (j := 2) (w := .ref (v0 + 3)) rfl (pu_W_o hv0) (Nat.lt_trans (pu_W_lt hv0) (by decide)) rfl (by decide) rfl rfl ?_
  refine pu_go 1 (pc' := 12) (ls' := [.ref v0, .int v1, .ref v2, .int (M (v0 + 2) v1.toNatClampNeg), mq_un]) (st' := [.int v1, .ref (v0 + 3)]) (M' := M) rfl ?_
  obtain ⟨hb2, H⟩ := H
  refine pu_iald rfl (pu_W_3 hv0) (Or.inl (pu_W_l3 hv0)) hb2 ?_
  refine pu_go 1 (pc' := 14) (ls' := [.ref v0, .int v1, .ref v2, .int (M (v0 + 2) v1.toNatClampNeg), mq_un]) (st' := [.int ((-1)), .int (M (v0 + 3) v1.toNatClampNeg)]) (M' := M) rfl ?_
  refine pu_icmp_eq rfl (fun hc => ?_) (fun hc => ?_)
  · replace H := Eq.mp (if_pos hc) H
    refine pu_go 1 (pc' := 40) (ls' := [.ref v0, .int v1, .ref v2, .int (M (v0 + 2) v1.toNatClampNeg), mq_un]) (st' := [.int 0]) (M' := M) rfl ?_
    exact H
  · replace H := Eq.mp (if_neg hc) H
    refine pu_go 2 (pc' := 19) (ls' := [.ref v0, .int v1, .ref v2, .int (M (v0 + 2) v1.toNatClampNeg), mq_un]) (st' := [.int (M (v0 + 2) v1.toNatClampNeg), .ref v2]) (M' := M) rfl ?_
    refine pu_callI (m' := 114) (ml := 2) (as := [.ref v2, .int (M (v0 + 2) v1.toNatClampNeg)]) (rest := []) rfl (pu_virt (pu_Y_o hv2) (Nat.lt_trans (pu_Y_lt hv2) (by decide)) ⟨Nat.le_of_ble_eq_true rfl, Nat.le_of_ble_eq_true rfl⟩ rfl rfl) rfl (Nat.le_of_ble_eq_true rfl) H (fun x4 M3 H => ?_)
    show pu_R L (d + 4) 96 22 [.ref v0, .int v1, .ref v2, .int (M (v0 + 2) v1.toNatClampNeg), mq_un] [.int x4] M3 _
    refine pu_go 1 (pc' := 23) (ls' := [.ref v0, .int v1, .ref v2, .int (M (v0 + 2) v1.toNatClampNeg), mq_un]) (st' := [.ref v0, .int x4]) (M' := M3) rfl ?_
    refine pu_getf (j := 2) (w := .ref (v0 + 3)) rfl (pu_W_o hv0) (Nat.lt_trans (pu_W_lt hv0) (by decide)) rfl (by decide) rfl rfl ?_
    refine pu_go 1 (pc' := 27) (ls' := [.ref v0, .int v1, .ref v2, .int (M (v0 + 2) v1.toNatClampNeg), mq_un]) (st' := [.int v1, .ref (v0 + 3), .int x4]) (M' := M3) rfl ?_
    obtain ⟨hb5, H⟩ := H
    refine pu_iald rfl (pu_W_3 hv0) (Or.inl (pu_W_l3 hv0)) hb5 ?_
    refine pu_go 4 (pc' := 32) (ls' := [.ref v0, .int v1, .ref v2, .int (M (v0 + 2) v1.toNatClampNeg), mq_un]) (st' := [.int 1, .int ((x4 >>> ((M3 (v0 + 3) v1.toNatClampNeg) &&& 31)) &&& 1)]) (M' := M3) rfl ?_
    refine pu_icmp_ne rfl (fun hc => ?_) (fun hc => ?_)
    · replace H := Eq.mp (if_neg hc) H
      refine pu_go 1 (pc' := 40) (ls' := [.ref v0, .int v1, .ref v2, .int (M (v0 + 2) v1.toNatClampNeg), mq_un]) (st' := [.int 0]) (M' := M3) rfl ?_
      exact H
    · replace H := Eq.mp (if_pos hc) H
      refine pu_go 2 (pc' := 40) (ls' := [.ref v0, .int v1, .ref v2, .int (M (v0 + 2) v1.toNatClampNeg), mq_un]) (st' := [.int 1]) (M' := M3) rfl ?_
      exact H
/-! Wishes_isByWall (I)Z -/
set_option maxRecDepth 20000 in
theorem r_Wishes_isByWall {L d : Nat} {M : pu_M} {Q : Int32 → pu_M → Prop} {v0 : Int32} (H : (if (v0 % 10) = 0 then Q 1 M else (if (v0 % 10) = 9 then Q 1 M else (if v0 < 10 then Q 1 M else (if v0 < 50 then Q 0 M else Q 1 M))))) : pu_I L (d + 1) 97 [.int v0] M Q := by
  show pu_R L (d + 1) 97 0 [.int v0, mq_un] [] M (pu_qI Q)
  refine pu_go 2 (pc' := 3) (ls' := [.int v0, mq_un]) (st' := [.int 10, .int v0]) (M' := M) rfl ?_
  refine pu_rem rfl (by decide) ?_
  refine pu_go 2 (pc' := 6) (ls' := [.int v0, .int (v0 % 10)]) (st' := [.int (v0 % 10)]) (M' := M) rfl ?_
  refine pu_if_eq rfl (fun hc => ?_) (fun hc => ?_)
  · replace H := Eq.mp (if_pos hc) H
    refine pu_go 2 (pc' := 32) (ls' := [.int v0, .int (v0 % 10)]) (st' := [.int 1]) (M' := M) rfl ?_
    exact pu_ret rfl rfl ⟨_, rfl, H⟩
  · replace H := Eq.mp (if_neg hc) H
    refine pu_go 2 (pc' := 12) (ls' := [.int v0, .int (v0 % 10)]) (st' := [.int 9, .int (v0 % 10)]) (M' := M) rfl ?_
    refine pu_icmp_eq rfl (fun hc => ?_) (fun hc => ?_)
    · replace H := Eq.mp (if_pos hc) H
      refine pu_go 2 (pc' := 32) (ls' := [.int v0, .int (v0 % 10)]) (st' := [.int 1]) (M' := M) rfl ?_
      exact pu_ret rfl rfl ⟨_, rfl, H⟩
    · replace H := Eq.mp (if_neg hc) H
      refine pu_go 2 (pc' := 18) (ls' := [.int v0, .int (v0 % 10)]) (st' := [.int 10, .int v0]) (M' := M) rfl ?_
      refine pu_icmp_lt rfl (fun hc => ?_) (fun hc => ?_)
      · replace H := Eq.mp (if_pos hc) H
        refine pu_go 2 (pc' := 32) (ls' := [.int v0, .int (v0 % 10)]) (st' := [.int 1]) (M' := M) rfl ?_
        exact pu_ret rfl rfl ⟨_, rfl, H⟩
      · replace H := Eq.mp (if_neg hc) H
        refine pu_go 2 (pc' := 24) (ls' := [.int v0, .int (v0 % 10)]) (st' := [.int 50, .int v0]) (M' := M) rfl ?_
        refine pu_icmp_lt rfl (fun hc => ?_) (fun hc => ?_)
        · replace H := Eq.mp (if_pos hc) H
          refine pu_go 1 (pc' := 32) (ls' := [.int v0, .int (v0 % 10)]) (st' := [.int 0]) (M' := M) rfl ?_
          exact pu_ret rfl rfl ⟨_, rfl, H⟩
        · replace H := Eq.mp (if_neg hc) H
          refine pu_go 2 (pc' := 32) (ls' := [.int v0, .int (v0 % 10)]) (st' := [.int 1]) (M' := M) rfl ?_
          exact pu_ret rfl rfl ⟨_, rfl, H⟩
