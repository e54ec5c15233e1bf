/-! BurialReader_read (LTalkingPlots$Yard;)I -/
set_option maxRecDepth 20000 in
theorem r_BurialReader_read_4 {L d : Nat} {M : pu_M} {Q : Int32 → pu_M → Prop} {v1 : Nat} (hv1 : pu_isY v1) {v2 : Int32} {v3 : Int32} (H : (if v3 = 0 then pu_I L (d + 6) 89 [.ref 1, .int v2] M (fun x2 M1 => Q x2 M1) else (if 20 < v2 then pu_I L (d + 6) 89 [.ref 1, .int v2] M (fun x4 M3 => Q x4 M3) else pu_V L (d + 6) 2 [.ref 3, .ref v1, .int v2] M (fun M5 => pu_I L (d + 6) 87 [.ref 1] M5 (fun x7 M6 => pu_R L (d + 7) 1 4 [.ref 3, .ref v1, .int (v2 + 1), .int x7] [] M6 (pu_qI Q)))))) : pu_R L (d + 7) 1 4 [.ref 3, .ref v1, .int v2, .int v3] [] M (pu_qI Q) := by
  refine pu_go 1 (pc' := 5) (ls' := [.ref 3, .ref v1, .int v2, .int v3]) (st' := [.int v3]) (M' := M) rfl ?_
  refine pu_if_eq rfl (fun hc => ?_) (fun hc => ?_)
  · replace H := Eq.mp (if_pos hc) H
    refine pu_go 3 (pc' := 39) (ls' := [.ref 3, .ref v1, .int v2, .int v3]) (st' := [.int v2, .ref 1]) (M' := M) rfl ?_
    refine pu_callI (m' := 89) (ml := 2) (as := [.ref 1, .int v2]) (rest := []) rfl rfl rfl (Nat.le_of_ble_eq_true rfl) H (fun x2 M1 H => ?_)
    show pu_R L (d + 7) 1 42 [.ref 3, .ref v1, .int v2, .int v3] [.int x2] M1 _
    exact pu_ret rfl rfl ⟨_, rfl, H⟩
  · replace H := Eq.mp (if_neg hc) H
    refine pu_go 2 (pc' := 11) (ls' := [.ref 3, .ref v1, .int v2, .int v3]) (st' := [.int 20, .int v2]) (M' := M) rfl ?_
    refine pu_icmp_gt rfl (fun hc => ?_) (fun hc => ?_)
    · replace H := Eq.mp (if_pos hc) H
      refine pu_go 3 (pc' := 39) (ls' := [.ref 3, .ref v1, .int v2, .int v3]) (st' := [.int v2, .ref 1]) (M' := M) rfl ?_
      refine pu_callI (m' := 89) (ml := 2) (as := [.ref 1, .int v2]) (rest := []) rfl rfl rfl (Nat.le_of_ble_eq_true rfl) H (fun x4 M3 H => ?_)
      show pu_R L (d + 7) 1 42 [.ref 3, .ref v1, .int v2, .int v3] [.int x4] M3 _
      exact pu_ret rfl rfl ⟨_, rfl, H⟩
    · replace H := Eq.mp (if_neg hc) H
      refine pu_go 3 (pc' := 17) (ls' := [.ref 3, .ref v1, .int v2, .int v3]) (st' := [.int v2, .ref v1, .ref 3]) (M' := M) rfl ?_
      refine pu_callV (m' := 2) (ml := 5) (as := [.ref 3, .ref v1, .int v2]) (rest := []) rfl rfl rfl (Nat.le_of_ble_eq_true rfl) H (fun M5 H => ?_)
      show pu_R L (d + 7) 1 20 [.ref 3, .ref v1, .int v2, .int v3] [] M5 _
      refine pu_go 3 (pc' := 27) (ls' := [.ref 3, .ref v1, .int (v2 + 1), .int v3]) (st' := [.ref 1]) (M' := M5) rfl ?_
      refine pu_callI (m' := 87) (ml := 1) (as := [.ref 1]) (rest := []) rfl rfl rfl (Nat.le_of_ble_eq_true rfl) H (fun x7 M6 H => ?_)
      show pu_R L (d + 7) 1 30 [.ref 3, .ref v1, .int (v2 + 1), .int v3] [.int x7] M6 _
      refine pu_go 2 (pc' := 4) (ls' := [.ref 3, .ref v1, .int (v2 + 1), .int x7]) (st' := []) (M' := M6) rfl ?_
      exact H
set_option maxRecDepth 20000 in
theorem r_BurialReader_read {L d : Nat} {M : pu_M} {Q : Int32 → pu_M → Prop} {v1 : Nat} (hv1 : pu_isY v1) (H : pu_R L (d + 7) 1 4 [.ref 3, .ref v1, .int 0, .int 1] [] M (pu_qI Q)) : pu_I L (d + 7) 1 [.ref 3, .ref v1] M Q := by
  show pu_R L (d + 7) 1 0 [.ref 3, .ref v1, mq_un, mq_un] [] M (pu_qI Q)
  refine pu_go 4 (pc' := 4) (ls' := [.ref 3, .ref v1, .int 0, .int 1]) (st' := []) (M' := M) rfl ?_
  exact H
/-! BurialReader_readLine (LTalkingPlots$Yard;I)V -/
set_option maxRecDepth 20000 in
theorem r_BurialReader_readLine_36 {L d : Nat} {M : pu_M} {Q : pu_M → Prop} {v1 : Nat} (hv1 : pu_isY v1) {v2 : Int32} (H : pu_I L (d + 5) 3 [.ref 3, .ref v1] M (fun x2 M1 => (if x2 = ((-1)) then Q M1 else pu_I L (d + 5) 84 [.ref 1, .int 64] M1 (fun x4 M3 => (if x4 = 0 then pu_I L (d + 5) 84 [.ref 1, .int 33] M3 (fun x6 M5 => (if x6 = 0 then pu_I L (d + 5) 84 [.ref 1, .int 61] M5 (fun x8 M7 => (if x8 = 0 then pu_I L (d + 5) 84 [.ref 1, .int 43] M7 (fun x10 M9 => (if x10 = 0 then pu_I L (d + 5) 84 [.ref 1, .int 45] M9 (fun x12 M11 => (if x12 = 0 then pu_V L (d + 5) 88 [.ref 1, .int 1, .int (M11 1 3)] M11 (fun M13 => Q M13) else (mq_inb x2 16 = true ∧ pu_I L (d + 5) 4 [.ref 3] M11 (fun x16 M15 => (mq_inb x2 16 = true ∧ Q (pu_wr M15 (v1 + 1) x2.toNatClampNeg ((M11 (v1 + 1) x2.toNatClampNeg) &&& (x16 ^^^ ((-1)))))))))) else (mq_inb x2 16 = true ∧ pu_I L (d + 5) 4 [.ref 3] M9 (fun x20 M19 => (mq_inb x2 16 = true ∧ Q (pu_wr M19 (v1 + 1) x2.toNatClampNeg ((M9 (v1 + 1) x2.toNatClampNeg) ||| x20))))))) else pu_I L (d + 5) 3 [.ref 3, .ref v1] M7 (fun x23 M22 => (if x23 = ((-1)) then Q M22 else pu_V L (d + 5) 111 [.ref v1, .int x2, .int x23] M22 (fun M24 => Q M24))))) else pu_V L (d + 5) 109 [.ref v1, .int x2] M5 (fun M25 => Q M25))) else pu_V L (d + 5) 5 [.ref 3, .ref v1, .int x2] M3 (fun M26 => Q M26)))))) : pu_R L (d + 6) 2 36 [.ref 3, .ref v1, .int v2, mq_un, mq_un] [] M (pu_qV Q) := by
  refine pu_go 2 (pc' := 38) (ls' := [.ref 3, .ref v1, .int v2, mq_un, mq_un]) (st' := [.ref v1, .ref 3]) (M' := M) rfl ?_
  refine pu_callI (m' := 3) (ml := 3) (as := [.ref 3, .ref v1]) (rest := []) rfl rfl rfl (Nat.le_of_ble_eq_true rfl) H (fun x2 M1 H => ?_)
  show pu_R L (d + 6) 2 41 [.ref 3, .ref v1, .int v2, mq_un, mq_un] [.int x2] M1 _
  refine pu_go 3 (pc' := 44) (ls' := [.ref 3, .ref v1, .int v2, .int x2, mq_un]) (st' := [.int ((-1)), .int x2]) (M' := M1) rfl ?_
  refine pu_icmp_ne rfl (fun hc => ?_) (fun hc => ?_)
  · replace H := Eq.mp (if_neg hc) H
    refine pu_go 3 (pc' := 54) (ls' := [.ref 3, .ref v1, .int v2, .int x2, mq_un]) (st' := [.int 64, .ref 1]) (M' := M1) rfl ?_
    refine pu_callI (m' := 84) (ml := 2) (as := [.ref 1, .int 64]) (rest := []) rfl rfl rfl (Nat.le_of_ble_eq_true rfl) H (fun x4 M3 H => ?_)
    show pu_R L (d + 6) 2 57 [.ref 3, .ref v1, .int v2, .int x2, mq_un] [.int x4] M3 _
    refine pu_if_eq rfl (fun hc => ?_) (fun hc => ?_)
    · replace H := Eq.mp (if_pos hc) H
      refine pu_go 3 (pc' := 75) (ls' := [.ref 3, .ref v1, .int v2, .int x2, mq_un]) (st' := [.int 33, .ref 1]) (M' := M3) rfl ?_
      refine pu_callI (m' := 84) (ml := 2) (as := [.ref 1, .int 33]) (rest := []) rfl rfl rfl (Nat.le_of_ble_eq_true rfl) H (fun x6 M5 H => ?_)
      show pu_R L (d + 6) 2 78 [.ref 3, .ref v1, .int v2, .int x2, mq_un] [.int x6] M5 _
      refine pu_if_eq rfl (fun hc => ?_) (fun hc => ?_)
      · replace H := Eq.mp (if_pos hc) H
        refine pu_go 3 (pc' := 95) (ls' := [.ref 3, .ref v1, .int v2, .int x2, mq_un]) (st' := [.int 61, .ref 1]) (M' := M5) rfl ?_
        refine pu_callI (m' := 84) (ml := 2) (as := [.ref 1, .int 61]) (rest := []) rfl rfl rfl (Nat.le_of_ble_eq_true rfl) H (fun x8 M7 H => ?_)
        show pu_R L (d + 6) 2 98 [.ref 3, .ref v1, .int v2, .int x2, mq_un] [.int x8] M7 _
        refine pu_if_eq rfl (fun hc => ?_) (fun hc => ?_)
        · replace H := Eq.mp (if_pos hc) H
          refine pu_go 3 (pc' := 130) (ls' := [.ref 3, .ref v1, .int v2, .int x2, mq_un]) (st' := [.int 43, .ref 1]) (M' := M7) rfl ?_
          refine pu_callI (m' := 84) (ml := 2) (as := [.ref 1, .int 43]) (rest := []) rfl rfl rfl (Nat.le_of_ble_eq_true rfl) H (fun x10 M9 H => ?_)
          show pu_R L (d + 6) 2 133 [.ref 3, .ref v1, .int v2, .int x2, mq_un] [.int x10] M9 _
          refine pu_if_eq rfl (fun hc => ?_) (fun hc => ?_)
          · replace H := Eq.mp (if_pos hc) H
            refine pu_go 3 (pc' := 158) (ls' := [.ref 3, .ref v1, .int v2, .int x2, mq_un]) (st' := [.int 45, .ref 1]) (M' := M9) rfl ?_
            refine pu_callI (m' := 84) (ml := 2) (as := [.ref 1, .int 45]) (rest := []) rfl rfl rfl (Nat.le_of_ble_eq_true rfl) H (fun x12 M11 H => ?_)
            show pu_R L (d + 6) 2 161 [.ref 3, .ref v1, .int v2, .int x2, mq_un] [.int x12] M11 _
            refine pu_if_eq rfl (fun hc => ?_) (fun hc => ?_)
            · replace H := Eq.mp (if_pos hc) H
              refine pu_go 6 (pc' := 194) (ls' := [.ref 3, .ref v1, .int v2, .int x2, mq_un]) (st' := [.int (M11 1 3), .int 1, .ref 1]) (M' := M11) rfl ?_
              refine pu_callV (m' := 88) (ml := 3) (as := [.ref 1, .int 1, .int (M11 1 3)]) (rest := []) rfl rfl rfl (Nat.le_of_ble_eq_true rfl) H (fun M13 H => ?_)
              show pu_R L (d + 6) 2 197 [.ref 3, .ref v1, .int v2, .int x2, mq_un] [] M13 _
              exact pu_ret rfl rfl ⟨rfl, H⟩
            · replace H := Eq.mp (if_neg hc) H
              refine pu_go 1 (pc' := 165) (ls' := [.ref 3, .ref v1, .int v2, .int x2, mq_un]) (st' := [.ref v1]) (M' := M11) rfl ?_
              refine pu_getf (j := 0) (w := .ref (v1 + 1)) rfl (pu_Y_o hv1) (Nat.lt_trans (pu_Y_lt hv1) (by decide)) rfl (by decide) rfl rfl ?_
              refine pu_go 2 (pc' := 170) (ls' := [.ref 3, .ref v1, .int v2, .int x2, mq_un]) (st' := [.int x2, .ref (v1 + 1), .int x2, .ref (v1 + 1)]) (M' := M11) rfl ?_
              obtain ⟨hb14, H⟩ := H
              refine pu_iald rfl (pu_Y_1 hv1) (Or.inl (pu_Y_l1 hv1)) hb14 ?_
              refine pu_go 1 (pc' := 172) (ls' := [.ref 3, .ref v1, .int v2, .int x2, mq_un]) (st' := [.ref 3, .int (M11 (v1 + 1) x2.toNatClampNeg), .int x2, .ref (v1 + 1)]) (M' := M11) rfl ?_
              refine pu_callI (m' := 4) (ml := 2) (as := [.ref 3]) (rest := [.int (M11 (v1 + 1) x2.toNatClampNeg), .int x2, .ref (v1 + 1)]) rfl rfl rfl (Nat.le_of_ble_eq_true rfl) H (fun x16 M15 H => ?_)
              show pu_R L (d + 6) 2 175 [.ref 3, .ref v1, .int v2, .int x2, mq_un] [.int x16, .int (M11 (v1 + 1) x2.toNatClampNeg), .int x2, .ref (v1 + 1)] M15 _
              refine pu_go 3 (pc' := 178) (ls' := [.ref 3, .ref v1, .int v2, .int x2, mq_un]) (st' := [.int ((M11 (v1 + 1) x2.toNatClampNeg) &&& (x16 ^^^ ((-1)))), .int x2, .ref (v1 + 1)]) (M' := M15) rfl ?_
              obtain ⟨hb17, H⟩ := H
              refine pu_iast rfl (pu_Y_1 hv1) (pu_Y_l1 hv1) hb17 ?_
              refine pu_go 1 (pc' := 197) (ls' := [.ref 3, .ref v1, .int v2, .int x2, mq_un]) (st' := []) (M' := pu_wr M15 (v1 + 1) x2.toNatClampNeg ((M11 (v1 + 1) x2.toNatClampNeg) &&& (x16 ^^^ ((-1))))) rfl ?_
              exact pu_ret rfl rfl ⟨rfl, H⟩
          · replace H := Eq.mp (if_neg hc) H
            refine pu_go 1 (pc' := 137) (ls' := [.ref 3, .ref v1, .int v2, .int x2, mq_un]) (st' := [.ref v1]) (M' := M9) rfl ?_
            refine pu_getf (j := 0) (w := .ref (v1 + 1)) rfl (pu_Y_o hv1) (Nat.lt_trans (pu_Y_lt hv1) (by decide)) rfl (by decide) rfl rfl ?_
            refine pu_go 2 (pc' := 142) (ls' := [.ref 3, .ref v1, .int v2, .int x2, mq_un]) (st' := [.int x2, .ref (v1 + 1), .int x2, .ref (v1 + 1)]) (M' := M9) rfl ?_
            obtain ⟨hb18, H⟩ := H
            refine pu_iald rfl (pu_Y_1 hv1) (Or.inl (pu_Y_l1 hv1)) hb18 ?_
            refine pu_go 1 (pc' := 144) (ls' := [.ref 3, .ref v1, .int v2, .int x2, mq_un]) (st' := [.ref 3, .int (M9 (v1 + 1) x2.toNatClampNeg), .int x2, .ref (v1 + 1)]) (M' := M9) rfl ?_
            refine pu_callI (m' := 4) (ml := 2) (as := [.ref 3]) (rest := [.int (M9 (v1 + 1) x2.toNatClampNeg), .int x2, .ref (v1 + 1)]) rfl rfl rfl (Nat.le_of_ble_eq_true rfl) H (fun x20 M19 H => ?_)
            show pu_R L (d + 6) 2 147 [.ref 3, .ref v1, .int v2, .int x2, mq_un] [.int x20, .int (M9 (v1 + 1) x2.toNatClampNeg), .int x2, .ref (v1 + 1)] M19 _
            refine pu_go 1 (pc' := 148) (ls' := [.ref 3, .ref v1, .int v2, .int x2, mq_un]) (st' := [.int ((M9 (v1 + 1) x2.toNatClampNeg) ||| x20), .int x2, .ref (v1 + 1)]) (M' := M19) rfl ?_
            obtain ⟨hb21, H⟩ := H
            refine pu_iast rfl (pu_Y_1 hv1) (pu_Y_l1 hv1) hb21 ?_
            refine pu_go 1 (pc' := 197) (ls' := [.ref 3, .ref v1, .int v2, .int x2, mq_un]) (st' := []) (M' := pu_wr M19 (v1 + 1) x2.toNatClampNeg ((M9 (v1 + 1) x2.toNatClampNeg) ||| x20)) rfl ?_
            exact pu_ret rfl rfl ⟨rfl, H⟩
        · replace H := Eq.mp (if_neg hc) H
          refine pu_go 2 (pc' := 103) (ls' := [.ref 3, .ref v1, .int v2, .int x2, mq_un]) (st' := [.ref v1, .ref 3]) (M' := M7) rfl ?_
          refine pu_callI (m' := 3) (ml := 3) (as := [.ref 3, .ref v1]) (rest := []) rfl rfl rfl (Nat.le_of_ble_eq_true rfl) H (fun x23 M22 H => ?_)
          show pu_R L (d + 6) 2 106 [.ref 3, .ref v1, .int v2, .int x2, mq_un] [.int x23] M22 _
          refine pu_go 3 (pc' := 111) (ls' := [.ref 3, .ref v1, .int v2, .int x2, .int x23]) (st' := [.int ((-1)), .int x23]) (M' := M22) rfl ?_
          refine pu_icmp_eq rfl (fun hc => ?_) (fun hc => ?_)
          · replace H := Eq.mp (if_pos hc) H
            refine pu_go 1 (pc' := 197) (ls' := [.ref 3, .ref v1, .int v2, .int x2, .int x23]) (st' := []) (M' := M22) rfl ?_
            exact pu_ret rfl rfl ⟨rfl, H⟩
          · replace H := Eq.mp (if_neg hc) H
            refine pu_go 3 (pc' := 118) (ls' := [.ref 3, .ref v1, .int v2, .int x2, .int x23]) (st' := [.int x23, .int x2, .ref v1]) (M' := M22) rfl ?_
            refine pu_callV (m' := 111) (ml := 5) (as := [.ref v1, .int x2, .int x23]) (rest := []) rfl (pu_virt (pu_Y_o hv1) (Nat.lt_trans (pu_Y_lt hv1) (by decide)) ⟨Nat.le_of_ble_eq_true rfl, Nat.le_of_ble_eq_true rfl⟩ rfl rfl) rfl (Nat.le_of_ble_eq_true rfl) H (fun M24 H => ?_)
            show pu_R L (d + 6) 2 121 [.ref 3, .ref v1, .int v2, .int x2, .int x23] [] M24 _
            refine pu_go 1 (pc' := 197) (ls' := [.ref 3, .ref v1, .int v2, .int x2, .int x23]) (st' := []) (M' := M24) rfl ?_
            exact pu_ret rfl rfl ⟨rfl, H⟩
      · replace H := Eq.mp (if_neg hc) H
        refine pu_go 2 (pc' := 83) (ls' := [.ref 3, .ref v1, .int v2, .int x2, mq_un]) (st' := [.int x2, .ref v1]) (M' := M5) rfl ?_
        refine pu_callV (m' := 109) (ml := 2) (as := [.ref v1, .int x2]) (rest := []) rfl (pu_virt (pu_Y_o hv1) (Nat.lt_trans (pu_Y_lt hv1) (by decide)) ⟨Nat.le_of_ble_eq_true rfl, Nat.le_of_ble_eq_true rfl⟩ rfl rfl) rfl (Nat.le_of_ble_eq_true rfl) H (fun M25 H => ?_)
        show pu_R L (d + 6) 2 86 [.ref 3, .ref v1, .int v2, .int x2, mq_un] [] M25 _
        refine pu_go 1 (pc' := 197) (ls' := [.ref 3, .ref v1, .int v2, .int x2, mq_un]) (st' := []) (M' := M25) rfl ?_
        exact pu_ret rfl rfl ⟨rfl, H⟩
    · replace H := Eq.mp (if_neg hc) H
      refine pu_go 3 (pc' := 63) (ls' := [.ref 3, .ref v1, .int v2, .int x2, mq_un]) (st' := [.int x2, .ref v1, .ref 3]) (M' := M3) rfl ?_
      refine pu_callV (m' := 5) (ml := 7) (as := [.ref 3, .ref v1, .int x2]) (rest := []) rfl rfl rfl (Nat.le_of_ble_eq_true rfl) H (fun M26 H => ?_)
      show pu_R L (d + 6) 2 66 [.ref 3, .ref v1, .int v2, .int x2, mq_un] [] M26 _
      refine pu_go 1 (pc' := 197) (ls' := [.ref 3, .ref v1, .int v2, .int x2, mq_un]) (st' := []) (M' := M26) rfl ?_
      exact pu_ret rfl rfl ⟨rfl, H⟩
  · replace H := Eq.mp (if_pos hc) H
    exact pu_ret rfl rfl ⟨rfl, H⟩
set_option maxRecDepth 20000 in
theorem r_BurialReader_readLine {L d : Nat} {M : pu_M} {Q : pu_M → Prop} {v1 : Nat} (hv1 : pu_isY v1) {v2 : Int32} (H : pu_I L (d + 5) 86 [.ref 1, .int 97, .int 16] M (fun x2 M1 => (if x2 = ((-1)) then pu_R L (d + 6) 2 36 [.ref 3, .ref v1, .int v2, mq_un, mq_un] [] M1 (pu_qV Q) else (if v2 < 20 then pu_R L (d + 6) 2 36 [.ref 3, .ref v1, .int v2, mq_un, mq_un] [] M1 (pu_qV Q) else pu_V L (d + 5) 88 [.ref 1, .int 4, .int (M1 1 3)] M1 (fun M3 => pu_R L (d + 6) 2 36 [.ref 3, .ref v1, .int v2, mq_un, mq_un] [] M3 (pu_qV Q)))))) : pu_V L (d + 6) 2 [.ref 3, .ref v1, .int v2] M Q := by
  show pu_R L (d + 6) 2 0 [.ref 3, .ref v1, .int v2, mq_un, mq_un] [] M (pu_qV Q)
  refine pu_go 4 (pc' := 8) (ls' := [.ref 3, .ref v1, .int v2, mq_un, mq_un]) (st' := [.int 16, .int 97, .ref 1]) (M' := M) rfl ?_
  refine pu_callI (m' := 86) (ml := 3) (as := [.ref 1, .int 97, .int 16]) (rest := []) rfl rfl rfl (Nat.le_of_ble_eq_true rfl) H (fun x2 M1 H => ?_)
  show pu_R L (d + 6) 2 11 [.ref 3, .ref v1, .int v2, mq_un, mq_un] [.int x2] M1 _
  refine pu_go 1 (pc' := 12) (ls' := [.ref 3, .ref v1, .int v2, mq_un, mq_un]) (st' := [.int ((-1)), .int x2]) (M' := M1) rfl ?_
  refine pu_icmp_eq rfl (fun hc => ?_) (fun hc => ?_)
  · replace H := Eq.mp (if_pos hc) H
    exact H
  · replace H := Eq.mp (if_neg hc) H
    refine pu_go 2 (pc' := 18) (ls' := [.ref 3, .ref v1, .int v2, mq_un, mq_un]) (st' := [.int 20, .int v2]) (M' := M1) rfl ?_
    refine pu_icmp_lt rfl (fun hc => ?_) (fun hc => ?_)
    · replace H := Eq.mp (if_pos hc) H
      exact H
    · replace H := Eq.mp (if_neg hc) H
      refine pu_go 6 (pc' := 33) (ls' := [.ref 3, .ref v1, .int v2, mq_un, mq_un]) (st' := [.int (M1 1 3), .int 4, .ref 1]) (M' := M1) rfl ?_
      refine pu_callV (m' := 88) (ml := 3) (as := [.ref 1, .int 4, .int (M1 1 3)]) (rest := []) rfl rfl rfl (Nat.le_of_ble_eq_true rfl) H (fun M3 H => ?_)
      show pu_R L (d + 6) 2 36 [.ref 3, .ref v1, .int v2, mq_un, mq_un] [] M3 _
      exact H
/-! BurialReader_readOne (LTalkingPlots$Yard;)I -/
set_option maxRecDepth 20000 in
theorem r_BurialReader_readOne {L d : Nat} {M : pu_M} {Q : Int32 → pu_M → Prop} {v1 : Nat} (hv1 : pu_isY v1) (H : pu_I L (d + 2) 6 [.ref 3, .int 97, .int 16] M (fun x2 M1 => (if x2 = ((-1)) then Q x2 M1 else pu_I L (d + 2) 100 [.ref v1, .int x2] M1 (fun x4 M3 => (if x4 = 0 then pu_V L (d + 2) 88 [.ref 1, .int 7, .int ((M3 1 3) - 1)] M3 (fun M5 => Q ((-1)) M5) else Q x2 M3))))) : pu_I L (d + 3) 3 [.ref 3, .ref v1] M Q := by
  show pu_R L (d + 3) 3 0 [.ref 3, .ref v1, mq_un] [] M (pu_qI Q)
  refine pu_go 3 (pc' := 5) (ls' := [.ref 3, .ref v1, mq_un]) (st' := [.int 16, .int 97, .ref 3]) (M' := M) rfl ?_
  refine pu_callI (m' := 6) (ml := 4) (as := [.ref 3, .int 97, .int 16]) (rest := []) rfl rfl rfl (Nat.le_of_ble_eq_true rfl) H (fun x2 M1 H => ?_)
  show pu_R L (d + 3) 3 8 [.ref 3, .ref v1, mq_un] [.int x2] M1 _
  refine pu_go 3 (pc' := 11) (ls' := [.ref 3, .ref v1, .int x2]) (st' := [.int ((-1)), .int x2]) (M' := M1) rfl ?_
  refine pu_icmp_eq rfl (fun hc => ?_) (fun hc => ?_)
  · replace H := Eq.mp (if_pos hc) H
    refine pu_go 1 (pc' := 43) (ls' := [.ref 3, .ref v1, .int x2]) (st' := [.int x2]) (M' := M1) rfl ?_
    exact pu_ret rfl rfl ⟨_, rfl, H⟩
  · replace H := Eq.mp (if_neg hc) H
    refine pu_go 2 (pc' := 16) (ls' := [.ref 3, .ref v1, .int x2]) (st' := [.int x2, .ref v1]) (M' := M1) rfl ?_
    refine pu_callI (m' := 100) (ml := 2) (as := [.ref v1, .int x2]) (rest := []) rfl (pu_virt (pu_Y_o hv1) (Nat.lt_trans (pu_Y_lt hv1) (by decide)) ⟨Nat.le_of_ble_eq_true rfl, Nat.le_of_ble_eq_true rfl⟩ rfl rfl) rfl (Nat.le_of_ble_eq_true rfl) H (fun x4 M3 H => ?_)
    show pu_R L (d + 3) 3 19 [.ref 3, .ref v1, .int x2] [.int x4] M3 _
    refine pu_if_ne rfl (fun hc => ?_) (fun hc => ?_)
    · replace H := Eq.mp (if_neg hc) H
      refine pu_go 1 (pc' := 43) (ls' := [.ref 3, .ref v1, .int x2]) (st' := [.int x2]) (M' := M3) rfl ?_
      exact pu_ret rfl rfl ⟨_, rfl, H⟩
    · replace H := Eq.mp (if_pos hc) H
      refine pu_go 8 (pc' := 37) (ls' := [.ref 3, .ref v1, .int x2]) (st' := [.int ((M3 1 3) - 1), .int 7, .ref 1]) (M' := M3) rfl ?_
      refine pu_callV (m' := 88) (ml := 3) (as := [.ref 1, .int 7, .int ((M3 1 3) - 1)]) (rest := []) rfl rfl rfl (Nat.le_of_ble_eq_true rfl) H (fun M5 H => ?_)
      show pu_R L (d + 3) 3 40 [.ref 3, .ref v1, .int x2] [] M5 _
      refine pu_go 1 (pc' := 41) (ls' := [.ref 3, .ref v1, .int x2]) (st' := [.int ((-1))]) (M' := M5) rfl ?_
      exact pu_ret rfl rfl ⟨_, rfl, H⟩
/-! BurialReader_readTopic ()I -/
set_option maxRecDepth 20000 in
theorem r_BurialReader_readTopic {L d : Nat} {M : pu_M} {Q : Int32 → pu_M → Prop}  (H : pu_I L (d + 2) 6 [.ref 3, .int 65, .int 16] M (fun x2 M1 => (if x2 = ((-1)) then Q 0 M1 else Q ((1 : Int32) <<< (x2 &&& 31)) M1))) : pu_I L (d + 3) 4 [.ref 3] M Q := by
  show pu_R L (d + 3) 4 0 [.ref 3, mq_un] [] M (pu_qI Q)
  refine pu_go 3 (pc' := 5) (ls' := [.ref 3, mq_un]) (st' := [.int 16, .int 65, .ref 3]) (M' := M) rfl ?_
  refine pu_callI (m' := 6) (ml := 4) (as := [.ref 3, .int 65, .int 16]) (rest := []) rfl rfl rfl (Nat.le_of_ble_eq_true rfl) H (fun x2 M1 H => ?_)
  show pu_R L (d + 3) 4 8 [.ref 3, mq_un] [.int x2] M1 _
  refine pu_go 3 (pc' := 11) (ls' := [.ref 3, .int x2]) (st' := [.int ((-1)), .int x2]) (M' := M1) rfl ?_
  refine pu_icmp_ne rfl (fun hc => ?_) (fun hc => ?_)
  · replace H := Eq.mp (if_neg hc) H
    refine pu_go 3 (pc' := 21) (ls' := [.ref 3, .int x2]) (st' := [.int ((1 : Int32) <<< (x2 &&& 31))]) (M' := M1) rfl ?_
    exact pu_ret rfl rfl ⟨_, rfl, H⟩
  · replace H := Eq.mp (if_pos hc) H
    refine pu_go 2 (pc' := 21) (ls' := [.ref 3, .int x2]) (st' := [.int 0]) (M' := M1) rfl ?_
    exact pu_ret rfl rfl ⟨_, rfl, H⟩
/-! BurialReader_readPlot (LTalkingPlots$Yard;I)V -/
set_option maxRecDepth 20000 in
theorem r_BurialReader_readPlot_60 {L d : Nat} {M : pu_M} {Q : pu_M → Prop} {v1 : Nat} (hv1 : pu_isY v1) {v2 : Int32} {v3 : Int32} {v4 : Int32} {v5 : Int32} (H : (if (M 1 4) = 0 then pu_I L (d + 4) 112 [.ref v1, .int ((v5 * 10) + v4)] M (fun x2 M1 => (if (x2 &&& (((1 : Int32) <<< (v2 &&& 31)) ^^^ ((-1)))) = 0 then pu_V L (d + 4) 110 [.ref v1, .int v2, .int ((v5 * 10) + v4)] M1 (fun M3 => Q M3) else pu_V L (d + 4) 88 [.ref 1, .int 8, .int v3] M1 (fun M4 => Q M4))) else Q M)) : pu_R L (d + 5) 5 60 [.ref 3, .ref v1, .int v2, .int v3, .int v4, .int v5, mq_un] [] M (pu_qV Q) := by
  refine pu_go 3 (pc' := 67) (ls' := [.ref 3, .ref v1, .int v2, .int v3, .int v4, .int v5, mq_un]) (st' := [.int (M 1 4)]) (M' := M) rfl ?_
  refine pu_if_eq rfl (fun hc => ?_) (fun hc => ?_)
  · replace H := Eq.mp (if_pos hc) H
    refine pu_go 8 (pc' := 84) (ls' := [.ref 3, .ref v1, .int v2, .int v3, .int v4, .int v5, .int ((v5 * 10) + v4)]) (st' := [.int ((v5 * 10) + v4), .ref v1]) (M' := M) rfl ?_
    refine pu_callI (m' := 112) (ml := 3) (as := [.ref v1, .int ((v5 * 10) + v4)]) (rest := []) rfl (pu_virt (pu_Y_o hv1) (Nat.lt_trans (pu_Y_lt hv1) (by decide)) ⟨Nat.le_of_ble_eq_true rfl, Nat.le_of_ble_eq_true rfl⟩ rfl rfl) rfl (Nat.le_of_ble_eq_true rfl) H (fun x2 M1 H => ?_)
    show pu_R L (d + 5) 5 87 [.ref 3, .ref v1, .int v2, .int v3, .int v4, .int v5, .int ((v5 * 10) + v4)] [.int x2] M1 _
    refine pu_go 6 (pc' := 93) (ls' := [.ref 3, .ref v1, .int v2, .int v3, .int v4, .int v5, .int ((v5 * 10) + v4)]) (st' := [.int (x2 &&& (((1 : Int32) <<< (v2 &&& 31)) ^^^ ((-1))))]) (M' := M1) rfl ?_
    refine pu_if_eq rfl (fun hc => ?_) (fun hc => ?_)
    · replace H := Eq.mp (if_pos hc) H
      refine pu_go 3 (pc' := 111) (ls' := [.ref 3, .ref v1, .int v2, .int v3, .int v4, .int v5, .int ((v5 * 10) + v4)]) (st' := [.int ((v5 * 10) + v4), .int v2, .ref v1]) (M' := M1) rfl ?_
      refine pu_callV (m' := 110) (ml := 3) (as := [.ref v1, .int v2, .int ((v5 * 10) + v4)]) (rest := []) rfl (pu_virt (pu_Y_o hv1) (Nat.lt_trans (pu_Y_lt hv1) (by decide)) ⟨Nat.le_of_ble_eq_true rfl, Nat.le_of_ble_eq_true rfl⟩ rfl rfl) rfl (Nat.le_of_ble_eq_true rfl) H (fun M3 H => ?_)
      show pu_R L (d + 5) 5 114 [.ref 3, .ref v1, .int v2, .int v3, .int v4, .int v5, .int ((v5 * 10) + v4)] [] M3 _
      exact pu_ret rfl rfl ⟨rfl, H⟩
    · replace H := Eq.mp (if_neg hc) H
      refine pu_go 4 (pc' := 103) (ls' := [.ref 3, .ref v1, .int v2, .int v3, .int v4, .int v5, .int ((v5 * 10) + v4)]) (st' := [.int v3, .int 8, .ref 1]) (M' := M1) rfl ?_
      refine pu_callV (m' := 88) (ml := 3) (as := [.ref 1, .int 8, .int v3]) (rest := []) rfl rfl rfl (Nat.le_of_ble_eq_true rfl) H (fun M4 H => ?_)
      show pu_R L (d + 5) 5 106 [.ref 3, .ref v1, .int v2, .int v3, .int v4, .int v5, .int ((v5 * 10) + v4)] [] M4 _
      exact pu_ret rfl rfl ⟨rfl, H⟩
  · replace H := Eq.mp (if_neg hc) H
    exact pu_ret rfl rfl ⟨rfl, H⟩
set_option maxRecDepth 20000 in
theorem r_BurialReader_readPlot {L d : Nat} {M : pu_M} {Q : pu_M → Prop} {v1 : Nat} (hv1 : pu_isY v1) {v2 : Int32} (H : pu_I L (d + 4) 6 [.ref 3, .int 48, .int 10] M (fun x2 M1 => pu_V L (d + 4) 85 [.ref 1, .int 44] M1 (fun M3 => pu_I L (d + 4) 6 [.ref 3, .int 48, .int 10] M3 (fun x5 M4 => (if x5 ≤ 5 then pu_R L (d + 5) 5 60 [.ref 3, .ref v1, .int v2, .int (M 1 3), .int x2, .int x5, mq_un] [] M4 (pu_qV Q) else pu_V L (d + 4) 88 [.ref 1, .int 3, .int ((M4 1 3) - 1)] M4 (fun M6 => pu_R L (d + 5) 5 60 [.ref 3, .ref v1, .int v2, .int (M 1 3), .int x2, .int x5, mq_un] [] M6 (pu_qV Q))))))) : pu_V L (d + 5) 5 [.ref 3, .ref v1, .int v2] M Q := by
  show pu_R L (d + 5) 5 0 [.ref 3, .ref v1, .int v2, mq_un, mq_un, mq_un, mq_un] [] M (pu_qV Q)
  refine pu_go 7 (pc' := 13) (ls' := [.ref 3, .ref v1, .int v2, .int (M 1 3), mq_un, mq_un, mq_un]) (st' := [.int 10, .int 48, .ref 3]) (M' := M) rfl ?_
  refine pu_callI (m' := 6) (ml := 4) (as := [.ref 3, .int 48, .int 10]) (rest := []) rfl rfl rfl (Nat.le_of_ble_eq_true rfl) H (fun x2 M1 H => ?_)
  show pu_R L (d + 5) 5 16 [.ref 3, .ref v1, .int v2, .int (M 1 3), mq_un, mq_un, mq_un] [.int x2] M1 _
  refine pu_go 4 (pc' := 24) (ls' := [.ref 3, .ref v1, .int v2, .int (M 1 3), .int x2, mq_un, mq_un]) (st' := [.int 44, .ref 1]) (M' := M1) rfl ?_
  refine pu_callV (m' := 85) (ml := 2) (as := [.ref 1, .int 44]) (rest := []) rfl rfl rfl (Nat.le_of_ble_eq_true rfl) H (fun M3 H => ?_)
  show pu_R L (d + 5) 5 27 [.ref 3, .ref v1, .int v2, .int (M 1 3), .int x2, mq_un, mq_un] [] M3 _
  refine pu_go 3 (pc' := 32) (ls' := [.ref 3, .ref v1, .int v2, .int (M 1 3), .int x2, mq_un, mq_un]) (st' := [.int 10, .int 48, .ref 3]) (M' := M3) rfl ?_
  refine pu_callI (m' := 6) (ml := 4) (as := [.ref 3, .int 48, .int 10]) (rest := []) rfl rfl rfl (Nat.le_of_ble_eq_true rfl) H (fun x5 M4 H => ?_)
  show pu_R L (d + 5) 5 35 [.ref 3, .ref v1, .int v2, .int (M 1 3), .int x2, mq_un, mq_un] [.int x5] M4 _
  refine pu_go 3 (pc' := 40) (ls' := [.ref 3, .ref v1, .int v2, .int (M 1 3), .int x2, .int x5, mq_un]) (st' := [.int 5, .int x5]) (M' := M4) rfl ?_
  refine pu_icmp_le rfl (fun hc => ?_) (fun hc => ?_)
  · replace H := Eq.mp (if_pos hc) H
    exact H
  · replace H := Eq.mp (if_neg hc) H
    refine pu_go 8 (pc' := 57) (ls' := [.ref 3, .ref v1, .int v2, .int (M 1 3), .int x2, .int x5, mq_un]) (st' := [.int ((M4 1 3) - 1), .int 3, .ref 1]) (M' := M4) rfl ?_
    refine pu_callV (m' := 88) (ml := 3) (as := [.ref 1, .int 3, .int ((M4 1 3) - 1)]) (rest := []) rfl rfl rfl (Nat.le_of_ble_eq_true rfl) H (fun M6 H => ?_)
    show pu_R L (d + 5) 5 60 [.ref 3, .ref v1, .int v2, .int (M 1 3), .int x2, .int x5, mq_un] [] M6 _
    exact H
/-! BurialReader_readAmong (II)I -/
set_option maxRecDepth 20000 in
theorem r_BurialReader_readAmong {L d : Nat} {M : pu_M} {Q : Int32 → pu_M → Prop} {v1 : Int32} {v2 : Int32} (H : pu_I L (d + 1) 86 [.ref 1, .int v1, .int v2] M (fun x2 M1 => (if x2 = ((-1)) then pu_V L (d + 1) 88 [.ref 1, .int 1, .int (M1 1 3)] M1 (fun M4 => Q x2 M4) else pu_V L (d + 1) 83 [.ref 1] M1 (fun M3 => Q x2 M3)))) : pu_I L (d + 2) 6 [.ref 3, .int v1, .int v2] M Q := by
  show pu_R L (d + 2) 6 0 [.ref 3, .int v1, .int v2, mq_un] [] M (pu_qI Q)
  refine pu_go 4 (pc' := 6) (ls' := [.ref 3, .int v1, .int v2, mq_un]) (st' := [.int v2, .int v1, .ref 1]) (M' := M) rfl ?_
  refine pu_callI (m' := 86) (ml := 3) (as := [.ref 1, .int v1, .int v2]) (rest := []) rfl rfl rfl (Nat.le_of_ble_eq_true rfl) H (fun x2 M1 H => ?_)
  show pu_R L (d + 2) 6 9 [.ref 3, .int v1, .int v2, mq_un] [.int x2] M1 _
  refine pu_go 3 (pc' := 12) (ls' := [.ref 3, .int v1, .int v2, .int x2]) (st' := [.int ((-1)), .int x2]) (M' := M1) rfl ?_
  refine pu_icmp_ne rfl (fun hc => ?_) (fun hc => ?_)
  · replace H := Eq.mp (if_neg hc) H
    refine pu_go 2 (pc' := 37) (ls' := [.ref 3, .int v1, .int v2, .int x2]) (st' := [.ref 1]) (M' := M1) rfl ?_
    refine pu_callV (m' := 83) (ml := 2) (as := [.ref 1]) (rest := []) rfl rfl rfl (Nat.le_of_ble_eq_true rfl) H (fun M3 H => ?_)
    show pu_R L (d + 2) 6 40 [.ref 3, .int v1, .int v2, .int x2] [] M3 _
    refine pu_go 1 (pc' := 41) (ls' := [.ref 3, .int v1, .int v2, .int x2]) (st' := [.int x2]) (M' := M3) rfl ?_
    exact pu_ret rfl rfl ⟨_, rfl, H⟩
  · replace H := Eq.mp (if_pos hc) H
    refine pu_go 6 (pc' := 27) (ls' := [.ref 3, .int v1, .int v2, .int x2]) (st' := [.int (M1 1 3), .int 1, .ref 1]) (M' := M1) rfl ?_
    refine pu_callV (m' := 88) (ml := 3) (as := [.ref 1, .int 1, .int (M1 1 3)]) (rest := []) rfl rfl rfl (Nat.le_of_ble_eq_true rfl) H (fun M4 H => ?_)
    show pu_R L (d + 2) 6 30 [.ref 3, .int v1, .int v2, .int x2] [] M4 _
    refine pu_go 2 (pc' := 41) (ls' := [.ref 3, .int v1, .int v2, .int x2]) (st' := [.int x2]) (M' := M4) rfl ?_
    exact pu_ret rfl rfl ⟨_, rfl, H⟩
/-! Company_gather (LTalkingPlots$Yard;I)V -/
set_option maxRecDepth 20000 in
theorem r_Company_gather_70 {L d : Nat} {M : pu_M} {Q : pu_M → Prop} {v1 : Nat} (hv1 : pu_isY v1) {v2 : Int32} {v3 : Int32} {v4 : Int32} (H : (if (M 6 8) ≤ v4 then pu_R L (d + 3) 8 59 [.ref 6, .ref v1, .int v2, .int (v3 + 1), .int v4] [] M (pu_qV Q) else (mq_inb v3 10 = true ∧ (mq_inb v4 10 = true ∧ pu_I L (d + 2) 118 [.ref v1, .int (M 7 v3.toNatClampNeg), .int (M 7 v4.toNatClampNeg)] M (fun x4 M3 => (mq_inb ((v3 * 10) + v4) 100 = true ∧ pu_R L (d + 3) 8 70 [.ref 6, .ref v1, .int v2, .int v3, .int (v4 + 1)] [] (pu_wr M3 8 ((v3 * 10) + v4 : Int32).toNatClampNeg x4) (pu_qV Q))))))) : pu_R L (d + 3) 8 70 [.ref 6, .ref v1, .int v2, .int v3, .int v4] [] M (pu_qV Q) := by
  refine pu_go 3 (pc' := 76) (ls' := [.ref 6, .ref v1, .int v2, .int v3, .int v4]) (st' := [.int (M 6 8), .int v4]) (M' := M) rfl ?_
  refine pu_icmp_ge rfl (fun hc => ?_) (fun hc => ?_)
  · replace H := Eq.mp (if_pos hc) H
    refine pu_go 2 (pc' := 59) (ls' := [.ref 6, .ref v1, .int v2, .int (v3 + 1), .int v4]) (st' := []) (M' := M) rfl ?_
    exact H
  · replace H := Eq.mp (if_neg hc) H
    refine pu_go 11 (pc' := 96) (ls' := [.ref 6, .ref v1, .int v2, .int v3, .int v4]) (st' := [.int v3, .ref 7, .ref v1, .int ((v3 * 10) + v4), .ref 8]) (M' := M) rfl ?_
    obtain ⟨hb1, H⟩ := H
    refine pu_iald rfl rfl (Or.inl (by decide)) hb1 ?_
    refine pu_go 3 (pc' := 103) (ls' := [.ref 6, .ref v1, .int v2, .int v3, .int v4]) (st' := [.int v4, .ref 7, .int (M 7 v3.toNatClampNeg), .ref v1, .int ((v3 * 10) + v4), .ref 8]) (M' := M) rfl ?_
    obtain ⟨hb2, H⟩ := H
    refine pu_iald rfl rfl (Or.inl (by decide)) hb2 ?_
    refine pu_callI (m' := 118) (ml := 4) (as := [.ref v1, .int (M 7 v3.toNatClampNeg), .int (M 7 v4.toNatClampNeg)]) (rest := [.int ((v3 * 10) + v4), .ref 8]) rfl (pu_virt (pu_Y_o hv1) (Nat.lt_trans (pu_Y_lt hv1) (by decide)) ⟨Nat.le_of_ble_eq_true rfl, Nat.le_of_ble_eq_true rfl⟩ rfl rfl) rfl (Nat.le_of_ble_eq_true rfl) H (fun x4 M3 H => ?_)
    show pu_R L (d + 3) 8 107 [.ref 6, .ref v1, .int v2, .int v3, .int v4] [.int x4, .int ((v3 * 10) + v4), .ref 8] M3 _
    obtain ⟨hb5, H⟩ := H
    refine pu_iast rfl rfl (by decide) hb5 ?_
    refine pu_go 2 (pc' := 70) (ls' := [.ref 6, .ref v1, .int v2, .int v3, .int (v4 + 1)]) (st' := []) (M' := pu_wr M3 8 ((v3 * 10) + v4 : Int32).toNatClampNeg x4) rfl ?_
    exact H
set_option maxRecDepth 20000 in
theorem r_Company_gather_59 {L d : Nat} {M : pu_M} {Q : pu_M → Prop} {v1 : Nat} (hv1 : pu_isY v1) {v2 : Int32} {v3 : Int32} {v4 : Value} (H : (if (M 6 8) ≤ v3 then Q M else pu_R L (d + 3) 8 70 [.ref 6, .ref v1, .int v2, .int v3, .int 0] [] M (pu_qV Q))) : pu_R L (d + 3) 8 59 [.ref 6, .ref v1, .int v2, .int v3, v4] [] M (pu_qV Q) := by
  refine pu_go 3 (pc' := 64) (ls' := [.ref 6, .ref v1, .int v2, .int v3, v4]) (st' := [.int (M 6 8), .int v3]) (M' := M) rfl ?_
  refine pu_icmp_ge rfl (fun hc => ?_) (fun hc => ?_)
  · replace H := Eq.mp (if_pos hc) H
    exact pu_ret rfl rfl ⟨rfl, H⟩
  · replace H := Eq.mp (if_neg hc) H
    refine pu_go 2 (pc' := 70) (ls' := [.ref 6, .ref v1, .int v2, .int v3, .int 0]) (st' := []) (M' := M) rfl ?_
    exact H
set_option maxRecDepth 20000 in
theorem r_Company_gather_7 {L d : Nat} {M : pu_M} {Q : pu_M → Prop} {v1 : Nat} (hv1 : pu_isY v1) {v2 : Int32} {v3 : Int32} (H : (if 16 ≤ v3 then pu_R L (d + 3) 8 59 [.ref 6, .ref v1, .int v2, .int 0, mq_un] [] M (pu_qV Q) else (if ((v2 >>> (v3 &&& 31)) &&& 1) = 1 then (if 10 ≤ (M 6 8) then pu_R L (d + 3) 8 7 [.ref 6, .ref v1, .int v2, .int (v3 + 1), mq_un] [] M (pu_qV Q) else (mq_inb (M 6 8) 10 = true ∧ pu_R L (d + 3) 8 7 [.ref 6, .ref v1, .int v2, .int (v3 + 1), mq_un] [] (pu_wr (pu_wr M 7 (M 6 8 : Int32).toNatClampNeg v3) 6 8 (((pu_wr M 7 (M 6 8 : Int32).toNatClampNeg v3) 6 8) + 1)) (pu_qV Q))) else pu_R L (d + 3) 8 7 [.ref 6, .ref v1, .int v2, .int (v3 + 1), mq_un] [] M (pu_qV Q)))) : pu_R L (d + 3) 8 7 [.ref 6, .ref v1, .int v2, .int v3, mq_un] [] M (pu_qV Q) := by
  refine pu_go 2 (pc' := 10) (ls' := [.ref 6, .ref v1, .int v2, .int v3, mq_un]) (st' := [.int 16, .int v3]) (M' := M) rfl ?_
  refine pu_icmp_ge rfl (fun hc => ?_) (fun hc => ?_)
  · replace H := Eq.mp (if_pos hc) H
    refine pu_go 2 (pc' := 59) (ls' := [.ref 6, .ref v1, .int v2, .int 0, mq_un]) (st' := []) (M' := M) rfl ?_
    exact H
  · replace H := Eq.mp (if_neg hc) H
    refine pu_go 6 (pc' := 19) (ls' := [.ref 6, .ref v1, .int v2, .int v3, mq_un]) (st' := [.int 1, .int ((v2 >>> (v3 &&& 31)) &&& 1)]) (M' := M) rfl ?_
    refine pu_icmp_ne rfl (fun hc => ?_) (fun hc => ?_)
    · replace H := Eq.mp (if_neg hc) H
      refine pu_go 2 (pc' := 7) (ls' := [.ref 6, .ref v1, .int v2, .int (v3 + 1), mq_un]) (st' := []) (M' := M) rfl ?_
      exact H
    · replace H := Eq.mp (if_pos hc) H
      refine pu_go 3 (pc' := 28) (ls' := [.ref 6, .ref v1, .int v2, .int v3, mq_un]) (st' := [.int 10, .int (M 6 8)]) (M' := M) rfl ?_
      refine pu_icmp_ge rfl (fun hc => ?_) (fun hc => ?_)
      · replace H := Eq.mp (if_pos hc) H
        refine pu_go 2 (pc' := 7) (ls' := [.ref 6, .ref v1, .int v2, .int (v3 + 1), mq_un]) (st' := []) (M' := M) rfl ?_
        exact H
      · replace H := Eq.mp (if_neg hc) H
        refine pu_go 5 (pc' := 40) (ls' := [.ref 6, .ref v1, .int v2, .int v3, mq_un]) (st' := [.int v3, .int (M 6 8), .ref 7]) (M' := M) rfl ?_
        obtain ⟨hb1, H⟩ := H
        refine pu_iast rfl rfl (by decide) hb1 ?_
        refine pu_go 5 (pc' := 48) (ls' := [.ref 6, .ref v1, .int v2, .int v3, mq_un]) (st' := [.int (((pu_wr M 7 (M 6 8 : Int32).toNatClampNeg v3) 6 8) + 1), .ref 6]) (M' := pu_wr M 7 (M 6 8 : Int32).toNatClampNeg v3) rfl ?_
        refine pu_putf (j := 8) (z := ((pu_wr M 7 (M 6 8 : Int32).toNatClampNeg v3) 6 8) + 1) rfl rfl (by decide) rfl (by decide) rfl rfl pu_put_hw ?_
        refine pu_go 2 (pc' := 7) (ls' := [.ref 6, .ref v1, .int v2, .int (v3 + 1), mq_un]) (st' := []) (M' := pu_wr (pu_wr M 7 (M 6 8 : Int32).toNatClampNeg v3) 6 8 (((pu_wr M 7 (M 6 8 : Int32).toNatClampNeg v3) 6 8) + 1)) rfl ?_
        exact H
set_option maxRecDepth 20000 in
theorem r_Company_gather {L d : Nat} {M : pu_M} {Q : pu_M → Prop} {v1 : Nat} (hv1 : pu_isY v1) {v2 : Int32} (H : pu_R L (d + 3) 8 7 [.ref 6, .ref v1, .int v2, .int 0, mq_un] [] (pu_wr M 6 8 0) (pu_qV Q)) : pu_V L (d + 3) 8 [.ref 6, .ref v1, .int v2] M Q := by
  show pu_R L (d + 3) 8 0 [.ref 6, .ref v1, .int v2, mq_un, mq_un] [] M (pu_qV Q)
  refine pu_go 2 (pc' := 2) (ls' := [.ref 6, .ref v1, .int v2, mq_un, mq_un]) (st' := [.int 0, .ref 6]) (M' := M) rfl ?_
  refine pu_putf (j := 8) (z := 0) rfl rfl (by decide) rfl (by decide) rfl rfl pu_put_hw ?_
  refine pu_go 2 (pc' := 7) (ls' := [.ref 6, .ref v1, .int v2, .int 0, mq_un]) (st' := []) (M' := pu_wr M 6 8 0) rfl ?_
  exact H
/-! Company_all ()I -/
set_option maxRecDepth 20000 in
theorem r_Company_all {L d : Nat} {M : pu_M} {Q : Int32 → pu_M → Prop}  (H : Q (((1 : Int32) <<< ((M 6 8) &&& 31)) - 1) M) : pu_I L (d + 1) 9 [.ref 6] M Q := by
  show pu_R L (d + 1) 9 0 [.ref 6] [] M (pu_qI Q)
  refine pu_go 6 (pc' := 8) (ls' := [.ref 6]) (st' := [.int (((1 : Int32) <<< ((M 6 8) &&& 31)) - 1)]) (M' := M) rfl ?_
  exact pu_ret rfl rfl ⟨_, rfl, H⟩
/-! Company_numberOf (I)I -/
set_option maxRecDepth 20000 in
theorem r_Company_numberOf_2 {L d : Nat} {M : pu_M} {Q : Int32 → pu_M → Prop} {v1 : Int32} {v2 : Int32} (H : (if (M 6 8) ≤ v2 then Q ((-1)) M else (mq_inb v2 10 = true ∧ (if (M 7 v2.toNatClampNeg) = v1 then Q v2 M else pu_R L (d + 1) 10 2 [.ref 6, .int v1, .int (v2 + 1)] [] M (pu_qI Q))))) : pu_R L (d + 1) 10 2 [.ref 6, .int v1, .int v2] [] M (pu_qI Q) := by
  refine pu_go 3 (pc' := 7) (ls' := [.ref 6, .int v1, .int v2]) (st' := [.int (M 6 8), .int v2]) (M' := M) rfl ?_
  refine pu_icmp_ge rfl (fun hc => ?_) (fun hc => ?_)
  · replace H := Eq.mp (if_pos hc) H
    refine pu_go 1 (pc' := 29) (ls' := [.ref 6, .int v1, .int v2]) (st' := [.int ((-1))]) (M' := M) rfl ?_
    exact pu_ret rfl rfl ⟨_, rfl, H⟩
  · replace H := Eq.mp (if_neg hc) H
    refine pu_go 3 (pc' := 15) (ls' := [.ref 6, .int v1, .int v2]) (st' := [.int v2, .ref 7]) (M' := M) rfl ?_
    obtain ⟨hb1, H⟩ := H
    refine pu_iald rfl rfl (Or.inl (by decide)) hb1 ?_
    refine pu_go 1 (pc' := 17) (ls' := [.ref 6, .int v1, .int v2]) (st' := [.int v1, .int (M 7 v2.toNatClampNeg)]) (M' := M) rfl ?_
    refine pu_icmp_ne rfl (fun hc => ?_) (fun hc => ?_)
    · replace H := Eq.mp (if_neg hc) H
      refine pu_go 2 (pc' := 2) (ls' := [.ref 6, .int v1, .int (v2 + 1)]) (st' := []) (M' := M) rfl ?_
      exact H
    · replace H := Eq.mp (if_pos hc) H
      refine pu_go 1 (pc' := 21) (ls' := [.ref 6, .int v1, .int v2]) (st' := [.int v2]) (M' := M) rfl ?_
      exact pu_ret rfl rfl ⟨_, rfl, H⟩
set_option maxRecDepth 20000 in
theorem r_Company_numberOf {L d : Nat} {M : pu_M} {Q : Int32 → pu_M → Prop} {v1 : Int32} (H : pu_R L (d + 1) 10 2 [.ref 6, .int v1, .int 0] [] M (pu_qI Q)) : pu_I L (d + 1) 10 [.ref 6, .int v1] M Q := by
  show pu_R L (d + 1) 10 0 [.ref 6, .int v1, mq_un] [] M (pu_qI Q)
  refine pu_go 2 (pc' := 2) (ls' := [.ref 6, .int v1, .int 0]) (st' := []) (M' := M) rfl ?_
  exact H
/-! Company_weighRows ()V -/
set_option maxRecDepth 20000 in
theorem r_Company_weighRows_11 {L d : Nat} {M : pu_M} {Q : pu_M → Prop} {v1 : Int32} {v2 : Int32} (H : (if (M 6 8) ≤ v2 then pu_R L (d + 3) 11 5 [.ref 6, .int (v1 + (-1)), .int v2] [] M (pu_qV Q) else pu_I L (d + 2) 9 [.ref 6] M (fun x2 M1 => (if v1 = x2 then (mq_inb ((v1 * 7) + v2) 1024 = true ∧ pu_R L (d + 3) 11 11 [.ref 6, .int v1, .int (v2 + 1)] [] (pu_wr M1 9 ((v1 * 7) + v2 : Int32).toNatClampNeg 0) (pu_qV Q)) else pu_I L (d + 2) 12 [.ref 6, .int v1, .int v2] M1 (fun x4 M3 => (mq_inb ((v1 * 7) + v2) 1024 = true ∧ pu_R L (d + 3) 11 11 [.ref 6, .int v1, .int (v2 + 1)] [] (pu_wr M3 9 ((v1 * 7) + v2 : Int32).toNatClampNeg x4) (pu_qV Q))))))) : pu_R L (d + 3) 11 11 [.ref 6, .int v1, .int v2] [] M (pu_qV Q) := by
  refine pu_go 3 (pc' := 16) (ls' := [.ref 6, .int v1, .int v2]) (st' := [.int (M 6 8), .int v2]) (M' := M) rfl ?_
  refine pu_icmp_ge rfl (fun hc => ?_) (fun hc => ?_)
  · replace H := Eq.mp (if_pos hc) H
    refine pu_go 2 (pc' := 5) (ls' := [.ref 6, .int (v1 + (-1)), .int v2]) (st' := []) (M' := M) rfl ?_
    exact H
  · replace H := Eq.mp (if_neg hc) H
    refine pu_go 9 (pc' := 31) (ls' := [.ref 6, .int v1, .int v2]) (st' := [.ref 6, .int v1, .int ((v1 * 7) + v2), .ref 9]) (M' := M) rfl ?_
    refine pu_callI (m' := 9) (ml := 1) (as := [.ref 6]) (rest := [.int v1, .int ((v1 * 7) + v2), .ref 9]) rfl rfl rfl (Nat.le_of_ble_eq_true rfl) H (fun x2 M1 H => ?_)
    show pu_R L (d + 3) 11 34 [.ref 6, .int v1, .int v2] [.int x2, .int v1, .int ((v1 * 7) + v2), .ref 9] M1 _
    refine pu_icmp_ne rfl (fun hc => ?_) (fun hc => ?_)
    · replace H := Eq.mp (if_neg hc) H
      refine pu_go 3 (pc' := 44) (ls' := [.ref 6, .int v1, .int v2]) (st' := [.int v2, .int v1, .ref 6, .int ((v1 * 7) + v2), .ref 9]) (M' := M1) rfl ?_
      refine pu_callI (m' := 12) (ml := 5) (as := [.ref 6, .int v1, .int v2]) (rest := [.int ((v1 * 7) + v2), .ref 9]) rfl rfl rfl (Nat.le_of_ble_eq_true rfl) H (fun x4 M3 H => ?_)
      show pu_R L (d + 3) 11 47 [.ref 6, .int v1, .int v2] [.int x4, .int ((v1 * 7) + v2), .ref 9] M3 _
      obtain ⟨hb5, H⟩ := H
      refine pu_iast rfl rfl (by decide) hb5 ?_
      refine pu_go 2 (pc' := 11) (ls' := [.ref 6, .int v1, .int (v2 + 1)]) (st' := []) (M' := pu_wr M3 9 ((v1 * 7) + v2 : Int32).toNatClampNeg x4) rfl ?_
      exact H
    · replace H := Eq.mp (if_pos hc) H
      refine pu_go 2 (pc' := 47) (ls' := [.ref 6, .int v1, .int v2]) (st' := [.int 0, .int ((v1 * 7) + v2), .ref 9]) (M' := M1) rfl ?_
      obtain ⟨hb6, H⟩ := H
      refine pu_iast rfl rfl (by decide) hb6 ?_
      refine pu_go 2 (pc' := 11) (ls' := [.ref 6, .int v1, .int (v2 + 1)]) (st' := []) (M' := pu_wr M1 9 ((v1 * 7) + v2 : Int32).toNatClampNeg 0) rfl ?_
      exact H
set_option maxRecDepth 20000 in
theorem r_Company_weighRows_5 {L d : Nat} {M : pu_M} {Q : pu_M → Prop} {v1 : Int32} {v2 : Value} (H : (if v1 ≤ 0 then Q M else pu_R L (d + 3) 11 11 [.ref 6, .int v1, .int 0] [] M (pu_qV Q))) : pu_R L (d + 3) 11 5 [.ref 6, .int v1, v2] [] M (pu_qV Q) := by
  refine pu_go 1 (pc' := 6) (ls' := [.ref 6, .int v1, v2]) (st' := [.int v1]) (M' := M) rfl ?_
  refine pu_if_le rfl (fun hc => ?_) (fun hc => ?_)
  · replace H := Eq.mp (if_pos hc) H
    exact pu_ret rfl rfl ⟨rfl, H⟩
  · replace H := Eq.mp (if_neg hc) H
    refine pu_go 2 (pc' := 11) (ls' := [.ref 6, .int v1, .int 0]) (st' := []) (M' := M) rfl ?_
    exact H
set_option maxRecDepth 20000 in
theorem r_Company_weighRows {L d : Nat} {M : pu_M} {Q : pu_M → Prop}  (H : pu_I L (d + 2) 9 [.ref 6] M (fun x2 M1 => pu_R L (d + 3) 11 5 [.ref 6, .int x2, mq_un] [] M1 (pu_qV Q))) : pu_V L (d + 3) 11 [.ref 6] M Q := by
  show pu_R L (d + 3) 11 0 [.ref 6, mq_un, mq_un] [] M (pu_qV Q)
  refine pu_go 1 (pc' := 1) (ls' := [.ref 6, mq_un, mq_un]) (st' := [.ref 6]) (M' := M) rfl ?_
  refine pu_callI (m' := 9) (ml := 1) (as := [.ref 6]) (rest := []) rfl rfl rfl (Nat.le_of_ble_eq_true rfl) H (fun x2 M1 H => ?_)
  show pu_R L (d + 3) 11 4 [.ref 6, mq_un, mq_un] [.int x2] M1 _
  refine pu_go 1 (pc' := 5) (ls' := [.ref 6, .int x2, mq_un]) (st' := []) (M' := M1) rfl ?_
  exact H
/-! Company_mostBehind (II)I -/
set_option maxRecDepth 20000 in
theorem r_Company_mostBehind_6 {L d : Nat} {M : pu_M} {Q : Int32 → pu_M → Prop} {v1 : Int32} {v2 : Int32} {v3 : Int32} {v4 : Int32} (H : (if (M 6 8) ≤ v4 then Q v3 M else (if ((v1 >>> (v4 &&& 31)) &&& 1) = 0 then pu_I L (d + 1) 13 [.ref 6, .int v1, .int v2, .int v4] M (fun x2 M1 => pu_R L (d + 2) 12 6 [.ref 6, .int v1, .int v2, .int (if v3 < x2 then x2 else v3), .int (v4 + 1)] [] M1 (pu_qI Q)) else pu_R L (d + 2) 12 6 [.ref 6, .int v1, .int v2, .int v3, .int (v4 + 1)] [] M (pu_qI Q)))) : pu_R L (d + 2) 12 6 [.ref 6, .int v1, .int v2, .int v3, .int v4] [] M (pu_qI Q) := by
  refine pu_go 3 (pc' := 12) (ls' := [.ref 6, .int v1, .int v2, .int v3, .int v4]) (st' := [.int (M 6 8), .int v4]) (M' := M) rfl ?_
  refine pu_icmp_ge rfl (fun hc => ?_) (fun hc => ?_)
  · replace H := Eq.mp (if_pos hc) H
    refine pu_go 1 (pc' := 44) (ls' := [.ref 6, .int v1, .int v2, .int v3, .int v4]) (st' := [.int v3]) (M' := M) rfl ?_
    exact pu_ret rfl rfl ⟨_, rfl, H⟩
  · replace H := Eq.mp (if_neg hc) H
    refine pu_go 5 (pc' := 21) (ls' := [.ref 6, .int v1, .int v2, .int v3, .int v4]) (st' := [.int ((v1 >>> (v4 &&& 31)) &&& 1)]) (M' := M) rfl ?_
    refine pu_if_ne rfl (fun hc => ?_) (fun hc => ?_)
    · replace H := Eq.mp (if_neg hc) H
      refine pu_go 2 (pc' := 6) (ls' := [.ref 6, .int v1, .int v2, .int v3, .int (v4 + 1)]) (st' := []) (M' := M) rfl ?_
      exact H
    · replace H := Eq.mp (if_pos hc) H
      refine pu_go 5 (pc' := 30) (ls' := [.ref 6, .int v1, .int v2, .int v3, .int v4]) (st' := [.int v4, .int v2, .int v1, .ref 6, .int v3]) (M' := M) rfl ?_
      refine pu_callI (m' := 13) (ml := 4) (as := [.ref 6, .int v1, .int v2, .int v4]) (rest := [.int v3]) rfl rfl rfl (Nat.le_of_ble_eq_true rfl) H (fun x2 M1 H => ?_)
      show pu_R L (d + 2) 12 33 [.ref 6, .int v1, .int v2, .int v3, .int v4] [.int x2, .int v3] M1 _
      refine pu_go 4 (pc' := 6) (ls' := [.ref 6, .int v1, .int v2, .int (if v3 < x2 then x2 else v3), .int (v4 + 1)]) (st' := []) (M' := M1) rfl ?_
      exact H
set_option maxRecDepth 20000 in
theorem r_Company_mostBehind {L d : Nat} {M : pu_M} {Q : Int32 → pu_M → Prop} {v1 : Int32} {v2 : Int32} (H : pu_R L (d + 2) 12 6 [.ref 6, .int v1, .int v2, .int ((-1000000)), .int 0] [] M (pu_qI Q)) : pu_I L (d + 2) 12 [.ref 6, .int v1, .int v2] M Q := by
  show pu_R L (d + 2) 12 0 [.ref 6, .int v1, .int v2, mq_un, mq_un] [] M (pu_qI Q)
  refine pu_go 4 (pc' := 6) (ls' := [.ref 6, .int v1, .int v2, .int ((-1000000)), .int 0]) (st' := []) (M' := M) rfl ?_
  exact H
/-! Company_addedBy (III)I -/
set_option maxRecDepth 20000 in
theorem r_Company_addedBy {L d : Nat} {M : pu_M} {Q : Int32 → pu_M → Prop} {v1 : Int32} {v2 : Int32} {v3 : Int32} (H : (mq_inb ((v2 * 10) + v3) 100 = true ∧ (mq_inb (((v1 ||| ((1 : Int32) <<< (v3 &&& 31))) * 7) + v3) 1024 = true ∧ Q ((M 8 ((v2 * 10) + v3 : Int32).toNatClampNeg) + (M 9 (((v1 ||| ((1 : Int32) <<< (v3 &&& 31))) * 7) + v3 : Int32).toNatClampNeg)) M))) : pu_I L (d + 1) 13 [.ref 6, .int v1, .int v2, .int v3] M Q := by
  show pu_R L (d + 1) 13 0 [.ref 6, .int v1, .int v2, .int v3] [] M (pu_qI Q)
  refine pu_go 7 (pc' := 10) (ls' := [.ref 6, .int v1, .int v2, .int v3]) (st' := [.int ((v2 * 10) + v3), .ref 8]) (M' := M) rfl ?_
  obtain ⟨hb1, H⟩ := H
  refine pu_iald rfl rfl (Or.inl (by decide)) hb1 ?_
  refine pu_go 11 (pc' := 25) (ls' := [.ref 6, .int v1, .int v2, .int v3]) (st' := [.int (((v1 ||| ((1 : Int32) <<< (v3 &&& 31))) * 7) + v3), .ref 9, .int (M 8 ((v2 * 10) + v3 : Int32).toNatClampNeg)]) (M' := M) rfl ?_
  obtain ⟨hb2, H⟩ := H
  refine pu_iald rfl rfl (Or.inl (by decide)) hb2 ?_
  refine pu_go 1 (pc' := 27) (ls' := [.ref 6, .int v1, .int v2, .int v3]) (st' := [.int ((M 8 ((v2 * 10) + v3 : Int32).toNatClampNeg) + (M 9 (((v1 ||| ((1 : Int32) <<< (v3 &&& 31))) * 7) + v3 : Int32).toNatClampNeg))]) (M' := M) rfl ?_
  exact pu_ret rfl rfl ⟨_, rfl, H⟩
/-! Company_mostInRow ()I -/
set_option maxRecDepth 20000 in
theorem r_Company_mostInRow_5 {L d : Nat} {M : pu_M} {Q : Int32 → pu_M → Prop} {v1 : Int32} {v2 : Int32} (H : (if (M 6 8) ≤ v2 then Q v1 M else (mq_inb ((((1 : Int32) <<< (v2 &&& 31)) * 7) + v2) 1024 = true ∧ pu_R L (d + 1) 14 5 [.ref 6, .int (if v1 < (M 9 ((((1 : Int32) <<< (v2 &&& 31)) * 7) + v2 : Int32).toNatClampNeg) then M 9 ((((1 : Int32) <<< (v2 &&& 31)) * 7) + v2 : Int32).toNatClampNeg else v1), .int (v2 + 1)] [] M (pu_qI Q)))) : pu_R L (d + 1) 14 5 [.ref 6, .int v1, .int v2] [] M (pu_qI Q) := by
  refine pu_go 3 (pc' := 10) (ls' := [.ref 6, .int v1, .int v2]) (st' := [.int (M 6 8), .int v2]) (M' := M) rfl ?_
  refine pu_icmp_ge rfl (fun hc => ?_) (fun hc => ?_)
  · replace H := Eq.mp (if_pos hc) H
    refine pu_go 1 (pc' := 38) (ls' := [.ref 6, .int v1, .int v2]) (st' := [.int v1]) (M' := M) rfl ?_
    exact pu_ret rfl rfl ⟨_, rfl, H⟩
  · replace H := Eq.mp (if_neg hc) H
    refine pu_go 10 (pc' := 26) (ls' := [.ref 6, .int v1, .int v2]) (st' := [.int ((((1 : Int32) <<< (v2 &&& 31)) * 7) + v2), .ref 9, .int v1]) (M' := M) rfl ?_
    obtain ⟨hb1, H⟩ := H
    refine pu_iald rfl rfl (Or.inl (by decide)) hb1 ?_
    refine pu_go 4 (pc' := 5) (ls' := [.ref 6, .int (if v1 < (M 9 ((((1 : Int32) <<< (v2 &&& 31)) * 7) + v2 : Int32).toNatClampNeg) then M 9 ((((1 : Int32) <<< (v2 &&& 31)) * 7) + v2 : Int32).toNatClampNeg else v1), .int (v2 + 1)]) (st' := []) (M' := M) rfl ?_
    exact H
set_option maxRecDepth 20000 in
theorem r_Company_mostInRow {L d : Nat} {M : pu_M} {Q : Int32 → pu_M → Prop}  (H : pu_R L (d + 1) 14 5 [.ref 6, .int ((-1000000)), .int 0] [] M (pu_qI Q)) : pu_I L (d + 1) 14 [.ref 6] M Q := by
  show pu_R L (d + 1) 14 0 [.ref 6, mq_un, mq_un] [] M (pu_qI Q)
  refine pu_go 4 (pc' := 5) (ls' := [.ref 6, .int ((-1000000)), .int 0]) (st' := []) (M' := M) rfl ?_
  exact H
/-! Company_atPlace (I)I -/
set_option maxRecDepth 20000 in
theorem r_Company_atPlace_12 {L d : Nat} {M : pu_M} {Q : Int32 → pu_M → Prop} {v1 : Int32} {v2 : Int32} {v3 : Int32} {v4 : Int32} (H : (if v1 ≤ v4 then (mq_inb v2 10 = true ∧ Q (M 7 v2.toNatClampNeg) M) else (if 7 ≤ v4 then (mq_inb v2 10 = true ∧ Q (M 7 v2.toNatClampNeg) M) else pu_I L (d + 2) 17 [.ref 6, .int v3, .int v2] M (fun x4 M3 => pu_R L (d + 3) 15 12 [.ref 6, .int v1, .int x4, .int (v3 ||| ((1 : Int32) <<< (x4 &&& 31))), .int (v4 + 1)] [] M3 (pu_qI Q))))) : pu_R L (d + 3) 15 12 [.ref 6, .int v1, .int v2, .int v3, .int v4] [] M (pu_qI Q) := by
  refine pu_go 2 (pc' := 15) (ls' := [.ref 6, .int v1, .int v2, .int v3, .int v4]) (st' := [.int v1, .int v4]) (M' := M) rfl ?_
  refine pu_icmp_ge rfl (fun hc => ?_) (fun hc => ?_)
  · replace H := Eq.mp (if_pos hc) H
    refine pu_go 3 (pc' := 49) (ls' := [.ref 6, .int v1, .int v2, .int v3, .int v4]) (st' := [.int v2, .ref 7]) (M' := M) rfl ?_
    obtain ⟨hb1, H⟩ := H
    refine pu_iald rfl rfl (Or.inl (by decide)) hb1 ?_
    exact pu_ret rfl rfl ⟨_, rfl, H⟩
  · replace H := Eq.mp (if_neg hc) H
    refine pu_go 2 (pc' := 22) (ls' := [.ref 6, .int v1, .int v2, .int v3, .int v4]) (st' := [.int 7, .int v4]) (M' := M) rfl ?_
    refine pu_icmp_ge rfl (fun hc => ?_) (fun hc => ?_)
    · replace H := Eq.mp (if_pos hc) H
      refine pu_go 3 (pc' := 49) (ls' := [.ref 6, .int v1, .int v2, .int v3, .int v4]) (st' := [.int v2, .ref 7]) (M' := M) rfl ?_
      obtain ⟨hb2, H⟩ := H
      refine pu_iald rfl rfl (Or.inl (by decide)) hb2 ?_
      exact pu_ret rfl rfl ⟨_, rfl, H⟩
    · replace H := Eq.mp (if_neg hc) H
      refine pu_go 3 (pc' := 28) (ls' := [.ref 6, .int v1, .int v2, .int v3, .int v4]) (st' := [.int v2, .int v3, .ref 6]) (M' := M) rfl ?_
      refine pu_callI (m' := 17) (ml := 5) (as := [.ref 6, .int v3, .int v2]) (rest := []) rfl rfl rfl (Nat.le_of_ble_eq_true rfl) H (fun x4 M3 H => ?_)
      show pu_R L (d + 3) 15 31 [.ref 6, .int v1, .int v2, .int v3, .int v4] [.int x4] M3 _
      refine pu_go 9 (pc' := 12) (ls' := [.ref 6, .int v1, .int x4, .int (v3 ||| ((1 : Int32) <<< (x4 &&& 31))), .int (v4 + 1)]) (st' := []) (M' := M3) rfl ?_
      exact H
set_option maxRecDepth 20000 in
theorem r_Company_atPlace {L d : Nat} {M : pu_M} {Q : Int32 → pu_M → Prop} {v1 : Int32} (H : pu_I L (d + 2) 16 [.ref 6] M (fun x2 M1 => pu_R L (d + 3) 15 12 [.ref 6, .int v1, .int x2, .int ((1 : Int32) <<< (x2 &&& 31)), .int 0] [] M1 (pu_qI Q))) : pu_I L (d + 3) 15 [.ref 6, .int v1] M Q := by
  show pu_R L (d + 3) 15 0 [.ref 6, .int v1, mq_un, mq_un, mq_un] [] M (pu_qI Q)
  refine pu_go 1 (pc' := 1) (ls' := [.ref 6, .int v1, mq_un, mq_un, mq_un]) (st' := [.ref 6]) (M' := M) rfl ?_
  refine pu_callI (m' := 16) (ml := 3) (as := [.ref 6]) (rest := []) rfl rfl rfl (Nat.le_of_ble_eq_true rfl) H (fun x2 M1 H => ?_)
  show pu_R L (d + 3) 15 4 [.ref 6, .int v1, mq_un, mq_un, mq_un] [.int x2] M1 _
  refine pu_go 7 (pc' := 12) (ls' := [.ref 6, .int v1, .int x2, .int ((1 : Int32) <<< (x2 &&& 31)), .int 0]) (st' := []) (M' := M1) rfl ?_
  exact H
/-! Company_firstInRow ()I -/
set_option maxRecDepth 20000 in
theorem r_Company_firstInRow_7 {L d : Nat} {M : pu_M} {Q : Int32 → pu_M → Prop} {v1 : Int32} {v2 : Int32} (H : (if (M 6 8) ≤ v2 then Q 0 M else (mq_inb ((((1 : Int32) <<< (v2 &&& 31)) * 7) + v2) 1024 = true ∧ (if (M 9 ((((1 : Int32) <<< (v2 &&& 31)) * 7) + v2 : Int32).toNatClampNeg) = v1 then Q v2 M else pu_R L (d + 2) 16 7 [.ref 6, .int v1, .int (v2 + 1)] [] M (pu_qI Q))))) : pu_R L (d + 2) 16 7 [.ref 6, .int v1, .int v2] [] M (pu_qI Q) := by
  refine pu_go 3 (pc' := 12) (ls' := [.ref 6, .int v1, .int v2]) (st' := [.int (M 6 8), .int v2]) (M' := M) rfl ?_
  refine pu_icmp_ge rfl (fun hc => ?_) (fun hc => ?_)
  · replace H := Eq.mp (if_pos hc) H
    refine pu_go 1 (pc' := 41) (ls' := [.ref 6, .int v1, .int v2]) (st' := [.int 0]) (M' := M) rfl ?_
    exact pu_ret rfl rfl ⟨_, rfl, H⟩
  · replace H := Eq.mp (if_neg hc) H
    refine pu_go 9 (pc' := 27) (ls' := [.ref 6, .int v1, .int v2]) (st' := [.int ((((1 : Int32) <<< (v2 &&& 31)) * 7) + v2), .ref 9]) (M' := M) rfl ?_
    obtain ⟨hb1, H⟩ := H
    refine pu_iald rfl rfl (Or.inl (by decide)) hb1 ?_
    refine pu_go 1 (pc' := 29) (ls' := [.ref 6, .int v1, .int v2]) (st' := [.int v1, .int (M 9 ((((1 : Int32) <<< (v2 &&& 31)) * 7) + v2 : Int32).toNatClampNeg)]) (M' := M) rfl ?_
    refine pu_icmp_ne rfl (fun hc => ?_) (fun hc => ?_)
    · replace H := Eq.mp (if_neg hc) H
      refine pu_go 2 (pc' := 7) (ls' := [.ref 6, .int v1, .int (v2 + 1)]) (st' := []) (M' := M) rfl ?_
      exact H
    · replace H := Eq.mp (if_pos hc) H
      refine pu_go 1 (pc' := 33) (ls' := [.ref 6, .int v1, .int v2]) (st' := [.int v2]) (M' := M) rfl ?_
      exact pu_ret rfl rfl ⟨_, rfl, H⟩
set_option maxRecDepth 20000 in
theorem r_Company_firstInRow {L d : Nat} {M : pu_M} {Q : Int32 → pu_M → Prop}  (H : pu_I L (d + 1) 14 [.ref 6] M (fun x2 M1 => pu_R L (d + 2) 16 7 [.ref 6, .int x2, .int 0] [] M1 (pu_qI Q))) : pu_I L (d + 2) 16 [.ref 6] M Q := by
  show pu_R L (d + 2) 16 0 [.ref 6, mq_un, mq_un] [] M (pu_qI Q)
  refine pu_go 1 (pc' := 1) (ls' := [.ref 6, mq_un, mq_un]) (st' := [.ref 6]) (M' := M) rfl ?_
  refine pu_callI (m' := 14) (ml := 3) (as := [.ref 6]) (rest := []) rfl rfl rfl (Nat.le_of_ble_eq_true rfl) H (fun x2 M1 H => ?_)
  show pu_R L (d + 2) 16 4 [.ref 6, mq_un, mq_un] [.int x2] M1 _
  refine pu_go 3 (pc' := 7) (ls' := [.ref 6, .int x2, .int 0]) (st' := []) (M' := M1) rfl ?_
  exact H
/-! Company_lowestBehind (II)I -/
set_option maxRecDepth 20000 in
theorem r_Company_lowestBehind_15 {L d : Nat} {M : pu_M} {Q : Int32 → pu_M → Prop} {v1 : Int32} {v2 : Int32} {v3 : Int32} {v4 : Int32} (H : (if (M 6 8) ≤ v4 then Q 0 M else (if ((v1 >>> (v4 &&& 31)) &&& 1) = 0 then pu_I L (d + 1) 13 [.ref 6, .int v1, .int v2, .int v4] M (fun x2 M1 => (if x2 = v3 then Q v4 M1 else pu_R L (d + 2) 17 15 [.ref 6, .int v1, .int v2, .int v3, .int (v4 + 1)] [] M1 (pu_qI Q))) else pu_R L (d + 2) 17 15 [.ref 6, .int v1, .int v2, .int v3, .int (v4 + 1)] [] M (pu_qI Q)))) : pu_R L (d + 2) 17 15 [.ref 6, .int v1, .int v2, .int v3, .int v4] [] M (pu_qI Q) := by
  refine pu_go 3 (pc' := 21) (ls' := [.ref 6, .int v1, .int v2, .int v3, .int v4]) (st' := [.int (M 6 8), .int v4]) (M' := M) rfl ?_
  refine pu_icmp_ge rfl (fun hc => ?_) (fun hc => ?_)
  · replace H := Eq.mp (if_pos hc) H
    refine pu_go 1 (pc' := 55) (ls' := [.ref 6, .int v1, .int v2, .int v3, .int v4]) (st' := [.int 0]) (M' := M) rfl ?_
    exact pu_ret rfl rfl ⟨_, rfl, H⟩
  · replace H := Eq.mp (if_neg hc) H
    refine pu_go 5 (pc' := 30) (ls' := [.ref 6, .int v1, .int v2, .int v3, .int v4]) (st' := [.int ((v1 >>> (v4 &&& 31)) &&& 1)]) (M' := M) rfl ?_
    refine pu_if_ne rfl (fun hc => ?_) (fun hc => ?_)
    · replace H := Eq.mp (if_neg hc) H
      refine pu_go 2 (pc' := 15) (ls' := [.ref 6, .int v1, .int v2, .int v3, .int (v4 + 1)]) (st' := []) (M' := M) rfl ?_
      exact H
    · replace H := Eq.mp (if_pos hc) H
      refine pu_go 4 (pc' := 38) (ls' := [.ref 6, .int v1, .int v2, .int v3, .int v4]) (st' := [.int v4, .int v2, .int v1, .ref 6]) (M' := M) rfl ?_
      refine pu_callI (m' := 13) (ml := 4) (as := [.ref 6, .int v1, .int v2, .int v4]) (rest := []) rfl rfl rfl (Nat.le_of_ble_eq_true rfl) H (fun x2 M1 H => ?_)
      show pu_R L (d + 2) 17 41 [.ref 6, .int v1, .int v2, .int v3, .int v4] [.int x2] M1 _
      refine pu_go 1 (pc' := 42) (ls' := [.ref 6, .int v1, .int v2, .int v3, .int v4]) (st' := [.int v3, .int x2]) (M' := M1) rfl ?_
      refine pu_icmp_ne rfl (fun hc => ?_) (fun hc => ?_)
      · replace H := Eq.mp (if_neg hc) H
        refine pu_go 2 (pc' := 15) (ls' := [.ref 6, .int v1, .int v2, .int v3, .int (v4 + 1)]) (st' := []) (M' := M1) rfl ?_
        exact H
      · replace H := Eq.mp (if_pos hc) H
        refine pu_go 1 (pc' := 47) (ls' := [.ref 6, .int v1, .int v2, .int v3, .int v4]) (st' := [.int v4]) (M' := M1) rfl ?_
        exact pu_ret rfl rfl ⟨_, rfl, H⟩
set_option maxRecDepth 20000 in
theorem r_Company_lowestBehind {L d : Nat} {M : pu_M} {Q : Int32 → pu_M → Prop} {v1 : Int32} {v2 : Int32} (H : (mq_inb ((v1 * 7) + v2) 1024 = true ∧ pu_R L (d + 2) 17 15 [.ref 6, .int v1, .int v2, .int (M 9 ((v1 * 7) + v2 : Int32).toNatClampNeg), .int 0] [] M (pu_qI Q))) : pu_I L (d + 2) 17 [.ref 6, .int v1, .int v2] M Q := by
  show pu_R L (d + 2) 17 0 [.ref 6, .int v1, .int v2, mq_un, mq_un] [] M (pu_qI Q)
  refine pu_go 7 (pc' := 10) (ls' := [.ref 6, .int v1, .int v2, mq_un, mq_un]) (st' := [.int ((v1 * 7) + v2), .ref 9]) (M' := M) rfl ?_
  obtain ⟨hb1, H⟩ := H
  refine pu_iald rfl rfl (Or.inl (by decide)) hb1 ?_
  refine pu_go 3 (pc' := 15) (ls' := [.ref 6, .int v1, .int v2, .int (M 9 ((v1 * 7) + v2 : Int32).toNatClampNeg), .int 0]) (st' := []) (M' := M) rfl ?_
  exact H
/-! Company_rowsThatPlease (LTalkingPlots$Wishes;)I -/
set_option maxRecDepth 20000 in
theorem r_Company_rowsThatPlease_78 {L d : Nat} {M : pu_M} {Q : Int32 → pu_M → Prop} {v1 : Nat} (hv1 : pu_isW v1) {v2 : Int32} {v3 : Int32} (H : (if (M 6 8) ≤ v3 then Q v2 M else (mq_inb ((((1 : Int32) <<< (v3 &&& 31)) * 7) + v3) 896 = true ∧ pu_R L (d + 3) 18 78 [.ref 6, .ref v1, .int (v2 + (M 10 ((((1 : Int32) <<< (v3 &&& 31)) * 7) + v3 : Int32).toNatClampNeg)), .int (v3 + 1)] [] M (pu_qI Q)))) : pu_R L (d + 3) 18 78 [.ref 6, .ref v1, .int v2, .int v3] [] M (pu_qI Q) := by
  refine pu_go 3 (pc' := 83) (ls' := [.ref 6, .ref v1, .int v2, .int v3]) (st' := [.int (M 6 8), .int v3]) (M' := M) rfl ?_
  refine pu_icmp_ge rfl (fun hc => ?_) (fun hc => ?_)
  · replace H := Eq.mp (if_pos hc) H
    refine pu_go 1 (pc' := 109) (ls' := [.ref 6, .ref v1, .int v2, .int v3]) (st' := [.int v2]) (M' := M) rfl ?_
    exact pu_ret rfl rfl ⟨_, rfl, H⟩
  · replace H := Eq.mp (if_neg hc) H
    refine pu_go 10 (pc' := 99) (ls' := [.ref 6, .ref v1, .int v2, .int v3]) (st' := [.int ((((1 : Int32) <<< (v3 &&& 31)) * 7) + v3), .ref 10, .int v2]) (M' := M) rfl ?_
    obtain ⟨hb1, H⟩ := H
    refine pu_iald rfl rfl (Or.inl (by decide)) hb1 ?_
    refine pu_go 4 (pc' := 78) (ls' := [.ref 6, .ref v1, .int (v2 + (M 10 ((((1 : Int32) <<< (v3 &&& 31)) * 7) + v3 : Int32).toNatClampNeg)), .int (v3 + 1)]) (st' := []) (M' := M) rfl ?_
    exact H
set_option maxRecDepth 20000 in
theorem r_Company_rowsThatPlease_25 {L d : Nat} {M : pu_M} {Q : Int32 → pu_M → Prop} {v1 : Nat} (hv1 : pu_isW v1) {v2 : Int32} {v3 : Int32} (H : (if (M 6 8) ≤ v3 then pu_R L (d + 3) 18 19 [.ref 6, .ref v1, .int (v2 + (-1)), .int v3] [] M (pu_qI Q) else pu_I L (d + 2) 9 [.ref 6] M (fun x2 M1 => (if v2 = x2 then (mq_inb ((v2 * 7) + v3) 896 = true ∧ pu_R L (d + 3) 18 25 [.ref 6, .ref v1, .int v2, .int (v3 + 1)] [] (pu_wr M1 10 ((v2 * 7) + v3 : Int32).toNatClampNeg 1) (pu_qI Q)) else pu_I L (d + 2) 19 [.ref 6, .int v2, .int v3] M1 (fun x4 M3 => (mq_inb ((v2 * 7) + v3) 896 = true ∧ pu_R L (d + 3) 18 25 [.ref 6, .ref v1, .int v2, .int (v3 + 1)] [] (pu_wr M3 10 ((v2 * 7) + v3 : Int32).toNatClampNeg x4) (pu_qI Q))))))) : pu_R L (d + 3) 18 25 [.ref 6, .ref v1, .int v2, .int v3] [] M (pu_qI Q) := by
  refine pu_go 3 (pc' := 30) (ls' := [.ref 6, .ref v1, .int v2, .int v3]) (st' := [.int (M 6 8), .int v3]) (M' := M) rfl ?_
  refine pu_icmp_ge rfl (fun hc => ?_) (fun hc => ?_)
  · replace H := Eq.mp (if_pos hc) H
    refine pu_go 2 (pc' := 19) (ls' := [.ref 6, .ref v1, .int (v2 + (-1)), .int v3]) (st' := []) (M' := M) rfl ?_
    exact H
  · replace H := Eq.mp (if_neg hc) H
    refine pu_go 9 (pc' := 45) (ls' := [.ref 6, .ref v1, .int v2, .int v3]) (st' := [.ref 6, .int v2, .int ((v2 * 7) + v3), .ref 10]) (M' := M) rfl ?_
    refine pu_callI (m' := 9) (ml := 1) (as := [.ref 6]) (rest := [.int v2, .int ((v2 * 7) + v3), .ref 10]) rfl rfl rfl (Nat.le_of_ble_eq_true rfl) H (fun x2 M1 H => ?_)
    show pu_R L (d + 3) 18 48 [.ref 6, .ref v1, .int v2, .int v3] [.int x2, .int v2, .int ((v2 * 7) + v3), .ref 10] M1 _
    refine pu_icmp_ne rfl (fun hc => ?_) (fun hc => ?_)
    · replace H := Eq.mp (if_neg hc) H
      refine pu_go 3 (pc' := 58) (ls' := [.ref 6, .ref v1, .int v2, .int v3]) (st' := [.int v3, .int v2, .ref 6, .int ((v2 * 7) + v3), .ref 10]) (M' := M1) rfl ?_
      refine pu_callI (m' := 19) (ml := 10) (as := [.ref 6, .int v2, .int v3]) (rest := [.int ((v2 * 7) + v3), .ref 10]) rfl rfl rfl (Nat.le_of_ble_eq_true rfl) H (fun x4 M3 H => ?_)
      show pu_R L (d + 3) 18 61 [.ref 6, .ref v1, .int v2, .int v3] [.int x4, .int ((v2 * 7) + v3), .ref 10] M3 _
      obtain ⟨hb5, H⟩ := H
      refine pu_iast rfl rfl (by decide) hb5 ?_
      refine pu_go 2 (pc' := 25) (ls' := [.ref 6, .ref v1, .int v2, .int (v3 + 1)]) (st' := []) (M' := pu_wr M3 10 ((v2 * 7) + v3 : Int32).toNatClampNeg x4) rfl ?_
      exact H
    · replace H := Eq.mp (if_pos hc) H
      refine pu_go 2 (pc' := 61) (ls' := [.ref 6, .ref v1, .int v2, .int v3]) (st' := [.int 1, .int ((v2 * 7) + v3), .ref 10]) (M' := M1) rfl ?_
      obtain ⟨hb6, H⟩ := H
      refine pu_iast rfl rfl (by decide) hb6 ?_
      refine pu_go 2 (pc' := 25) (ls' := [.ref 6, .ref v1, .int v2, .int (v3 + 1)]) (st' := []) (M' := pu_wr M1 10 ((v2 * 7) + v3 : Int32).toNatClampNeg 1) rfl ?_
      exact H
set_option maxRecDepth 20000 in
theorem r_Company_rowsThatPlease_19 {L d : Nat} {M : pu_M} {Q : Int32 → pu_M → Prop} {v1 : Nat} (hv1 : pu_isW v1) {v2 : Int32} {v3 : Value} (H : (if v2 ≤ 0 then pu_R L (d + 3) 18 78 [.ref 6, .ref v1, .int 0, .int 0] [] M (pu_qI Q) else pu_R L (d + 3) 18 25 [.ref 6, .ref v1, .int v2, .int 0] [] M (pu_qI Q))) : pu_R L (d + 3) 18 19 [.ref 6, .ref v1, .int v2, v3] [] M (pu_qI Q) := by
  refine pu_go 1 (pc' := 20) (ls' := [.ref 6, .ref v1, .int v2, v3]) (st' := [.int v2]) (M' := M) rfl ?_
  refine pu_if_le rfl (fun hc => ?_) (fun hc => ?_)
  · replace H := Eq.mp (if_pos hc) H
    refine pu_go 4 (pc' := 78) (ls' := [.ref 6, .ref v1, .int 0, .int 0]) (st' := []) (M' := M) rfl ?_
    exact H
  · replace H := Eq.mp (if_neg hc) H
    refine pu_go 2 (pc' := 25) (ls' := [.ref 6, .ref v1, .int v2, .int 0]) (st' := []) (M' := M) rfl ?_
    exact H
set_option maxRecDepth 20000 in
theorem r_Company_rowsThatPlease {L d : Nat} {M : pu_M} {Q : Int32 → pu_M → Prop} {v1 : Nat} (hv1 : pu_isW v1) (H : pu_V L (d + 2) 20 [.ref 6, .ref v1] M (fun M1 => (if (M1 6 7) = 0 then pu_I L (d + 2) 9 [.ref 6] M1 (fun x3 M2 => pu_R L (d + 3) 18 19 [.ref 6, .ref v1, .int x3, mq_un] [] M2 (pu_qI Q)) else Q 0 M1))) : pu_I L (d + 3) 18 [.ref 6, .ref v1] M Q := by
  show pu_R L (d + 3) 18 0 [.ref 6, .ref v1, mq_un, mq_un] [] M (pu_qI Q)
  refine pu_go 2 (pc' := 2) (ls' := [.ref 6, .ref v1, mq_un, mq_un]) (st' := [.ref v1, .ref 6]) (M' := M) rfl ?_
  refine pu_callV (m' := 20) (ml := 6) (as := [.ref 6, .ref v1]) (rest := []) rfl rfl rfl (Nat.le_of_ble_eq_true rfl) H (fun M1 H => ?_)
  show pu_R L (d + 3) 18 5 [.ref 6, .ref v1, mq_un, mq_un] [] M1 _
  refine pu_go 2 (pc' := 9) (ls' := [.ref 6, .ref v1, mq_un, mq_un]) (st' := [.int (M1 6 7)]) (M' := M1) rfl ?_
  refine pu_if_eq rfl (fun hc => ?_) (fun hc => ?_)
  · replace H := Eq.mp (if_pos hc) H
    refine pu_go 1 (pc' := 15) (ls' := [.ref 6, .ref v1, mq_un, mq_un]) (st' := [.ref 6]) (M' := M1) rfl ?_
    refine pu_callI (m' := 9) (ml := 1) (as := [.ref 6]) (rest := []) rfl rfl rfl (Nat.le_of_ble_eq_true rfl) H (fun x3 M2 H => ?_)
    show pu_R L (d + 3) 18 18 [.ref 6, .ref v1, mq_un, mq_un] [.int x3] M2 _
    refine pu_go 1 (pc' := 19) (ls' := [.ref 6, .ref v1, .int x3, mq_un]) (st' := []) (M' := M2) rfl ?_
    exact H
  · replace H := Eq.mp (if_neg hc) H
    refine pu_go 1 (pc' := 13) (ls' := [.ref 6, .ref v1, mq_un, mq_un]) (st' := [.int 0]) (M' := M1) rfl ?_
    exact pu_ret rfl rfl ⟨_, rfl, H⟩
/-! Company_waysBehind (II)I -/
set_option maxRecDepth 20000 in
theorem r_Company_waysBehind_117 {L d : Nat} {M : pu_M} {Q : Int32 → pu_M → Prop} {v1 : Int32} {v2 : Int32} {v3 : Int32} {v4 : Int32} {v5 : Int32} {v6 : Int32} {v7 : Int32} {v8 : Int32} {v9 : Value} {s0 : Int32} (H : (if v6 = 0 then pu_R L (d + 2) 19 25 [.ref 6, .int v1, .int v2, .int v3, .int v4, .int (v5 + 1), .int v6, .int v7, .int v8, .int s0] [] M (pu_qI Q) else (if v7 = 0 then pu_R L (d + 2) 19 25 [.ref 6, .int v1, .int v2, .int v3, .int v4, .int (v5 + 1), .int v6, .int v7, .int v8, .int s0] [] M (pu_qI Q) else (if v8 = 0 then pu_R L (d + 2) 19 25 [.ref 6, .int v1, .int v2, .int v3, .int v4, .int (v5 + 1), .int v6, .int v7, .int v8, .int s0] [] M (pu_qI Q) else (if s0 = 0 then pu_R L (d + 2) 19 25 [.ref 6, .int v1, .int v2, .int v3, .int v4, .int (v5 + 1), .int v6, .int v7, .int v8, .int s0] [] M (pu_qI Q) else (mq_inb (((v1 ||| ((1 : Int32) <<< (v5 &&& 31))) * 7) + v5) 896 = true ∧ pu_R L (d + 2) 19 25 [.ref 6, .int v1, .int v2, .int v3, .int (v4 + (M 10 (((v1 ||| ((1 : Int32) <<< (v5 &&& 31))) * 7) + v5 : Int32).toNatClampNeg)), .int (v5 + 1), .int v6, .int v7, .int v8, .int s0] [] M (pu_qI Q))))))) : pu_R L (d + 2) 19 117 [.ref 6, .int v1, .int v2, .int v3, .int v4, .int v5, .int v6, .int v7, .int v8, v9] [.int s0] M (pu_qI Q) := by
  refine pu_go 2 (pc' := 121) (ls' := [.ref 6, .int v1, .int v2, .int v3, .int v4, .int v5, .int v6, .int v7, .int v8, .int s0]) (st' := [.int v6]) (M' := M) rfl ?_
  refine pu_if_eq rfl (fun hc => ?_) (fun hc => ?_)
  · replace H := Eq.mp (if_pos hc) H
    refine pu_go 2 (pc' := 25) (ls' := [.ref 6, .int v1, .int v2, .int v3, .int v4, .int (v5 + 1), .int v6, .int v7, .int v8, .int s0]) (st' := []) (M' := M) rfl ?_
    exact H
  · replace H := Eq.mp (if_neg hc) H
    refine pu_go 1 (pc' := 126) (ls' := [.ref 6, .int v1, .int v2, .int v3, .int v4, .int v5, .int v6, .int v7, .int v8, .int s0]) (st' := [.int v7]) (M' := M) rfl ?_
    refine pu_if_eq rfl (fun hc => ?_) (fun hc => ?_)
    · replace H := Eq.mp (if_pos hc) H
      refine pu_go 2 (pc' := 25) (ls' := [.ref 6, .int v1, .int v2, .int v3, .int v4, .int (v5 + 1), .int v6, .int v7, .int v8, .int s0]) (st' := []) (M' := M) rfl ?_
      exact H
    · replace H := Eq.mp (if_neg hc) H
      refine pu_go 1 (pc' := 131) (ls' := [.ref 6, .int v1, .int v2, .int v3, .int v4, .int v5, .int v6, .int v7, .int v8, .int s0]) (st' := [.int v8]) (M' := M) rfl ?_
      refine pu_if_eq rfl (fun hc => ?_) (fun hc => ?_)
      · replace H := Eq.mp (if_pos hc) H
        refine pu_go 2 (pc' := 25) (ls' := [.ref 6, .int v1, .int v2, .int v3, .int v4, .int (v5 + 1), .int v6, .int v7, .int v8, .int s0]) (st' := []) (M' := M) rfl ?_
        exact H
      · replace H := Eq.mp (if_neg hc) H
        refine pu_go 1 (pc' := 136) (ls' := [.ref 6, .int v1, .int v2, .int v3, .int v4, .int v5, .int v6, .int v7, .int v8, .int s0]) (st' := [.int s0]) (M' := M) rfl ?_
        refine pu_if_eq rfl (fun hc => ?_) (fun hc => ?_)
        · replace H := Eq.mp (if_pos hc) H
          refine pu_go 2 (pc' := 25) (ls' := [.ref 6, .int v1, .int v2, .int v3, .int v4, .int (v5 + 1), .int v6, .int v7, .int v8, .int s0]) (st' := []) (M' := M) rfl ?_
          exact H
        · replace H := Eq.mp (if_neg hc) H
          refine pu_go 12 (pc' := 157) (ls' := [.ref 6, .int v1, .int v2, .int v3, .int v4, .int v5, .int v6, .int v7, .int v8, .int s0]) (st' := [.int (((v1 ||| ((1 : Int32) <<< (v5 &&& 31))) * 7) + v5), .ref 10, .int v4]) (M' := M) rfl ?_
          obtain ⟨hb1, H⟩ := H
          refine pu_iald rfl rfl (Or.inl (by decide)) hb1 ?_
          refine pu_go 4 (pc' := 25) (ls' := [.ref 6, .int v1, .int v2, .int v3, .int (v4 + (M 10 (((v1 ||| ((1 : Int32) <<< (v5 &&& 31))) * 7) + v5 : Int32).toNatClampNeg)), .int (v5 + 1), .int v6, .int v7, .int v8, .int s0]) (st' := []) (M' := M) rfl ?_
          exact H
set_option maxRecDepth 20000 in
theorem r_Company_waysBehind_94 {L d : Nat} {M : pu_M} {Q : Int32 → pu_M → Prop} {v1 : Int32} {v2 : Int32} {v3 : Int32} {v4 : Int32} {v5 : Int32} {v6 : Int32} {v7 : Int32} {v8 : Value} {v9 : Value} {s0 : Int32} (H : (if (((M 6 6) >>> (v5 &&& 31)) &&& 1) = 0 then pu_R L (d + 2) 19 117 [.ref 6, .int v1, .int v2, .int v3, .int v4, .int v5, .int v6, .int v7, .int s0, v9] [.int 1] M (pu_qI Q) else (if v3 = 0 then pu_R L (d + 2) 19 117 [.ref 6, .int v1, .int v2, .int v3, .int v4, .int v5, .int v6, .int v7, .int s0, v9] [.int 0] M (pu_qI Q) else pu_R L (d + 2) 19 117 [.ref 6, .int v1, .int v2, .int v3, .int v4, .int v5, .int v6, .int v7, .int s0, v9] [.int 1] M (pu_qI Q)))) : pu_R L (d + 2) 19 94 [.ref 6, .int v1, .int v2, .int v3, .int v4, .int v5, .int v6, .int v7, v8, v9] [.int s0] M (pu_qI Q) := by
  refine pu_go 7 (pc' := 105) (ls' := [.ref 6, .int v1, .int v2, .int v3, .int v4, .int v5, .int v6, .int v7, .int s0, v9]) (st' := [.int (((M 6 6) >>> (v5 &&& 31)) &&& 1)]) (M' := M) rfl ?_
  refine pu_if_eq rfl (fun hc => ?_) (fun hc => ?_)
  · replace H := Eq.mp (if_pos hc) H
    refine pu_go 2 (pc' := 117) (ls' := [.ref 6, .int v1, .int v2, .int v3, .int v4, .int v5, .int v6, .int v7, .int s0, v9]) (st' := [.int 1]) (M' := M) rfl ?_
    exact H
  · replace H := Eq.mp (if_neg hc) H
    refine pu_go 1 (pc' := 109) (ls' := [.ref 6, .int v1, .int v2, .int v3, .int v4, .int v5, .int v6, .int v7, .int s0, v9]) (st' := [.int v3]) (M' := M) rfl ?_
    refine pu_if_eq rfl (fun hc => ?_) (fun hc => ?_)
    · replace H := Eq.mp (if_pos hc) H
      refine pu_go 1 (pc' := 117) (ls' := [.ref 6, .int v1, .int v2, .int v3, .int v4, .int v5, .int v6, .int v7, .int s0, v9]) (st' := [.int 0]) (M' := M) rfl ?_
      exact H
    · replace H := Eq.mp (if_neg hc) H
      refine pu_go 2 (pc' := 117) (ls' := [.ref 6, .int v1, .int v2, .int v3, .int v4, .int v5, .int v6, .int v7, .int s0, v9]) (st' := [.int 1]) (M' := M) rfl ?_
      exact H
set_option maxRecDepth 20000 in
theorem r_Company_waysBehind_73 {L d : Nat} {M : pu_M} {Q : Int32 → pu_M → Prop} {v1 : Int32} {v2 : Int32} {v3 : Int32} {v4 : Int32} {v5 : Int32} {v6 : Int32} {v7 : Value} {v8 : Value} {v9 : Value} {s0 : Int32} (H : (mq_inb v5 7 = true ∧ (if (((M 12 v5.toNatClampNeg) >>> (v2 &&& 31)) &&& 1) = 0 then pu_R L (d + 2) 19 94 [.ref 6, .int v1, .int v2, .int v3, .int v4, .int v5, .int v6, .int s0, v8, v9] [.int 1] M (pu_qI Q) else pu_R L (d + 2) 19 94 [.ref 6, .int v1, .int v2, .int v3, .int v4, .int v5, .int v6, .int s0, v8, v9] [.int 0] M (pu_qI Q)))) : pu_R L (d + 2) 19 73 [.ref 6, .int v1, .int v2, .int v3, .int v4, .int v5, .int v6, v7, v8, v9] [.int s0] M (pu_qI Q) := by
  refine pu_go 4 (pc' := 81) (ls' := [.ref 6, .int v1, .int v2, .int v3, .int v4, .int v5, .int v6, .int s0, v8, v9]) (st' := [.int v5, .ref 12]) (M' := M) rfl ?_
  obtain ⟨hb1, H⟩ := H
  refine pu_iald rfl rfl (Or.inl (by decide)) hb1 ?_
  refine pu_go 4 (pc' := 86) (ls' := [.ref 6, .int v1, .int v2, .int v3, .int v4, .int v5, .int v6, .int s0, v8, v9]) (st' := [.int (((M 12 v5.toNatClampNeg) >>> (v2 &&& 31)) &&& 1)]) (M' := M) rfl ?_
  refine pu_if_ne rfl (fun hc => ?_) (fun hc => ?_)
  · replace H := Eq.mp (if_neg hc) H
    refine pu_go 1 (pc' := 94) (ls' := [.ref 6, .int v1, .int v2, .int v3, .int v4, .int v5, .int v6, .int s0, v8, v9]) (st' := [.int 0]) (M' := M) rfl ?_
    exact H
  · replace H := Eq.mp (if_pos hc) H
    refine pu_go 2 (pc' := 94) (ls' := [.ref 6, .int v1, .int v2, .int v3, .int v4, .int v5, .int v6, .int s0, v8, v9]) (st' := [.int 1]) (M' := M) rfl ?_
    exact H
set_option maxRecDepth 20000 in
theorem r_Company_waysBehind_48 {L d : Nat} {M : pu_M} {Q : Int32 → pu_M → Prop} {v1 : Int32} {v2 : Int32} {v3 : Int32} {v4 : Int32} {v5 : Int32} {v6 : Value} {v7 : Value} {v8 : Value} {v9 : Value} {s0 : Int32} (H : (mq_inb v5 7 = true ∧ (if (((M 11 v5.toNatClampNeg) &&& v1) &&& (((1 : Int32) <<< (v2 &&& 31)) ^^^ ((-1)))) = 0 then pu_R L (d + 2) 19 73 [.ref 6, .int v1, .int v2, .int v3, .int v4, .int v5, .int s0, v7, v8, v9] [.int 1] M (pu_qI Q) else pu_R L (d + 2) 19 73 [.ref 6, .int v1, .int v2, .int v3, .int v4, .int v5, .int s0, v7, v8, v9] [.int 0] M (pu_qI Q)))) : pu_R L (d + 2) 19 48 [.ref 6, .int v1, .int v2, .int v3, .int v4, .int v5, v6, v7, v8, v9] [.int s0] M (pu_qI Q) := by
  refine pu_go 4 (pc' := 56) (ls' := [.ref 6, .int v1, .int v2, .int v3, .int v4, .int v5, .int s0, v7, v8, v9]) (st' := [.int v5, .ref 11]) (M' := M) rfl ?_
  obtain ⟨hb1, H⟩ := H
  refine pu_iald rfl rfl (Or.inl (by decide)) hb1 ?_
  refine pu_go 8 (pc' := 65) (ls' := [.ref 6, .int v1, .int v2, .int v3, .int v4, .int v5, .int s0, v7, v8, v9]) (st' := [.int (((M 11 v5.toNatClampNeg) &&& v1) &&& (((1 : Int32) <<< (v2 &&& 31)) ^^^ ((-1))))]) (M' := M) rfl ?_
  refine pu_if_ne rfl (fun hc => ?_) (fun hc => ?_)
  · replace H := Eq.mp (if_neg hc) H
    refine pu_go 1 (pc' := 73) (ls' := [.ref 6, .int v1, .int v2, .int v3, .int v4, .int v5, .int s0, v7, v8, v9]) (st' := [.int 0]) (M' := M) rfl ?_
    exact H
  · replace H := Eq.mp (if_pos hc) H
    refine pu_go 2 (pc' := 73) (ls' := [.ref 6, .int v1, .int v2, .int v3, .int v4, .int v5, .int s0, v7, v8, v9]) (st' := [.int 1]) (M' := M) rfl ?_
    exact H
set_option maxRecDepth 20000 in
theorem r_Company_waysBehind_25 {L d : Nat} {M : pu_M} {Q : Int32 → pu_M → Prop} {v1 : Int32} {v2 : Int32} {v3 : Int32} {v4 : Int32} {v5 : Int32} {v6 : Value} {v7 : Value} {v8 : Value} {v9 : Value} (H : (if (M 6 8) ≤ v5 then Q v4 M else (if ((v1 >>> (v5 &&& 31)) &&& 1) = 0 then pu_R L (d + 2) 19 48 [.ref 6, .int v1, .int v2, .int v3, .int v4, .int v5, v6, v7, v8, v9] [.int 1] M (pu_qI Q) else pu_R L (d + 2) 19 48 [.ref 6, .int v1, .int v2, .int v3, .int v4, .int v5, v6, v7, v8, v9] [.int 0] M (pu_qI Q)))) : pu_R L (d + 2) 19 25 [.ref 6, .int v1, .int v2, .int v3, .int v4, .int v5, v6, v7, v8, v9] [] M (pu_qI Q) := by
  refine pu_go 3 (pc' := 31) (ls' := [.ref 6, .int v1, .int v2, .int v3, .int v4, .int v5, v6, v7, v8, v9]) (st' := [.int (M 6 8), .int v5]) (M' := M) rfl ?_
  refine pu_icmp_ge rfl (fun hc => ?_) (fun hc => ?_)
  · replace H := Eq.mp (if_pos hc) H
    refine pu_go 1 (pc' := 169) (ls' := [.ref 6, .int v1, .int v2, .int v3, .int v4, .int v5, v6, v7, v8, v9]) (st' := [.int v4]) (M' := M) rfl ?_
    exact pu_ret rfl rfl ⟨_, rfl, H⟩
  · replace H := Eq.mp (if_neg hc) H
    refine pu_go 5 (pc' := 40) (ls' := [.ref 6, .int v1, .int v2, .int v3, .int v4, .int v5, v6, v7, v8, v9]) (st' := [.int ((v1 >>> (v5 &&& 31)) &&& 1)]) (M' := M) rfl ?_
    refine pu_if_ne rfl (fun hc => ?_) (fun hc => ?_)
    · replace H := Eq.mp (if_neg hc) H
      refine pu_go 1 (pc' := 48) (ls' := [.ref 6, .int v1, .int v2, .int v3, .int v4, .int v5, v6, v7, v8, v9]) (st' := [.int 0]) (M' := M) rfl ?_
      exact H
    · replace H := Eq.mp (if_pos hc) H
      refine pu_go 2 (pc' := 48) (ls' := [.ref 6, .int v1, .int v2, .int v3, .int v4, .int v5, v6, v7, v8, v9]) (st' := [.int 1]) (M' := M) rfl ?_
      exact H
set_option maxRecDepth 20000 in
theorem r_Company_waysBehind {L d : Nat} {M : pu_M} {Q : Int32 → pu_M → Prop} {v1 : Int32} {v2 : Int32} (H : pu_I L (d + 1) 260 [.int v1] M (fun x2 M1 => (if x2 = ((M1 6 8) - 1) then pu_R L (d + 2) 19 25 [.ref 6, .int v1, .int v2, .int 1, .int 0, .int 0, mq_un, mq_un, mq_un, mq_un] [] M1 (pu_qI Q) else pu_R L (d + 2) 19 25 [.ref 6, .int v1, .int v2, .int 0, .int 0, .int 0, mq_un, mq_un, mq_un, mq_un] [] M1 (pu_qI Q)))) : pu_I L (d + 2) 19 [.ref 6, .int v1, .int v2] M Q := by
  show pu_R L (d + 2) 19 0 [.ref 6, .int v1, .int v2, mq_un, mq_un, mq_un, mq_un, mq_un, mq_un, mq_un] [] M (pu_qI Q)
  refine pu_go 1 (pc' := 1) (ls' := [.ref 6, .int v1, .int v2, mq_un, mq_un, mq_un, mq_un, mq_un, mq_un, mq_un]) (st' := [.int v1]) (M' := M) rfl ?_
  refine pu_callI (m' := 260) (ml := 1) (as := [.int v1]) (rest := []) rfl rfl rfl (Nat.le_of_ble_eq_true rfl) H (fun x2 M1 H => ?_)
  show pu_R L (d + 2) 19 4 [.ref 6, .int v1, .int v2, mq_un, mq_un, mq_un, mq_un, mq_un, mq_un, mq_un] [.int x2] M1 _
  refine pu_go 4 (pc' := 10) (ls' := [.ref 6, .int v1, .int v2, mq_un, mq_un, mq_un, mq_un, mq_un, mq_un, mq_un]) (st' := [.int ((M1 6 8) - 1), .int x2]) (M' := M1) rfl ?_
  refine pu_icmp_ne rfl (fun hc => ?_) (fun hc => ?_)
  · replace H := Eq.mp (if_neg hc) H
    refine pu_go 6 (pc' := 25) (ls' := [.ref 6, .int v1, .int v2, .int 0, .int 0, .int 0, mq_un, mq_un, mq_un, mq_un]) (st' := []) (M' := M1) rfl ?_
    exact H
  · replace H := Eq.mp (if_pos hc) H
    refine pu_go 7 (pc' := 25) (ls' := [.ref 6, .int v1, .int v2, .int 1, .int 0, .int 0, mq_un, mq_un, mq_un, mq_un]) (st' := []) (M' := M1) rfl ?_
    exact H
/-! Company_takeWishes (LTalkingPlots$Wishes;)V -/
set_option maxRecDepth 20000 in
theorem r_Company_takeWishes_74 {L d : Nat} {M : pu_M} {Q : pu_M → Prop} {v1 : Nat} (hv1 : pu_isW v1) {v2 : Int32} {v3 : Int32} {v4 : Int32} {v5 : Value} {s0 : Int32} (H : (if v3 = ((-1)) then pu_R L (d + 2) 20 28 [.ref 6, .ref v1, .int (v2 + 1), .int v3, .int v4, .int s0] [] M (pu_qV Q) else (if 7 ≤ v3 then pu_R L (d + 2) 20 28 [.ref 6, .ref v1, .int (v2 + 1), .int v3, .int v4, .int s0] [] M (pu_qV Q) else (if s0 = 0 then (mq_inb v2 24 = true ∧ pu_V L (d + 1) 21 [.ref 6, .int (M (v1 + 1) v2.toNatClampNeg), .int v3, .int v4] M (fun M2 => pu_R L (d + 2) 20 28 [.ref 6, .ref v1, .int (v2 + 1), .int v3, .int v4, .int s0] [] M2 (pu_qV Q))) else (if v4 = ((-1)) then pu_R L (d + 2) 20 28 [.ref 6, .ref v1, .int (v2 + 1), .int v3, .int v4, .int s0] [] M (pu_qV Q) else (mq_inb v2 24 = true ∧ pu_V L (d + 1) 21 [.ref 6, .int (M (v1 + 1) v2.toNatClampNeg), .int v3, .int v4] M (fun M4 => pu_R L (d + 2) 20 28 [.ref 6, .ref v1, .int (v2 + 1), .int v3, .int v4, .int s0] [] M4 (pu_qV Q)))))))) : pu_R L (d + 2) 20 74 [.ref 6, .ref v1, .int v2, .int v3, .int v4, v5] [.int s0] M (pu_qV Q) := by
  refine pu_go 3 (pc' := 78) (ls' := [.ref 6, .ref v1, .int v2, .int v3, .int v4, .int s0]) (st' := [.int ((-1)), .int v3]) (M' := M) rfl ?_
  refine pu_icmp_eq rfl (fun hc => ?_) (fun hc => ?_)
  · replace H := Eq.mp (if_pos hc) H
    refine pu_go 2 (pc' := 28) (ls' := [.ref 6, .ref v1, .int (v2 + 1), .int v3, .int v4, .int s0]) (st' := []) (M' := M) rfl ?_
    exact H
  · replace H := Eq.mp (if_neg hc) H
    refine pu_go 2 (pc' := 84) (ls' := [.ref 6, .ref v1, .int v2, .int v3, .int v4, .int s0]) (st' := [.int 7, .int v3]) (M' := M) rfl ?_
    refine pu_icmp_ge rfl (fun hc => ?_) (fun hc => ?_)
    · replace H := Eq.mp (if_pos hc) H
      refine pu_go 2 (pc' := 28) (ls' := [.ref 6, .ref v1, .int (v2 + 1), .int v3, .int v4, .int s0]) (st' := []) (M' := M) rfl ?_
      exact H
    · replace H := Eq.mp (if_neg hc) H
      refine pu_go 1 (pc' := 89) (ls' := [.ref 6, .ref v1, .int v2, .int v3, .int v4, .int s0]) (st' := [.int s0]) (M' := M) rfl ?_
      refine pu_if_eq rfl (fun hc => ?_) (fun hc => ?_)
      · replace H := Eq.mp (if_pos hc) H
        refine pu_go 2 (pc' := 100) (ls' := [.ref 6, .ref v1, .int v2, .int v3, .int v4, .int s0]) (st' := [.ref v1, .ref 6]) (M' := M) rfl ?_
        refine pu_getf (j := 0) (w := .ref (v1 + 1)) rfl (pu_W_o hv1) (Nat.lt_trans (pu_W_lt hv1) (by decide)) rfl (by decide) rfl rfl ?_
        refine pu_go 1 (pc' := 104) (ls' := [.ref 6, .ref v1, .int v2, .int v3, .int v4, .int s0]) (st' := [.int v2, .ref (v1 + 1), .ref 6]) (M' := M) rfl ?_
        obtain ⟨hb1, H⟩ := H
        refine pu_iald rfl (pu_W_1 hv1) (Or.inl (pu_W_l1 hv1)) hb1 ?_
        refine pu_go 2 (pc' := 108) (ls' := [.ref 6, .ref v1, .int v2, .int v3, .int v4, .int s0]) (st' := [.int v4, .int v3, .int (M (v1 + 1) v2.toNatClampNeg), .ref 6]) (M' := M) rfl ?_
        refine pu_callV (m' := 21) (ml := 5) (as := [.ref 6, .int (M (v1 + 1) v2.toNatClampNeg), .int v3, .int v4]) (rest := []) rfl rfl rfl (Nat.le_of_ble_eq_true rfl) H (fun M2 H => ?_)
        show pu_R L (d + 2) 20 111 [.ref 6, .ref v1, .int v2, .int v3, .int v4, .int s0] [] M2 _
        refine pu_go 2 (pc' := 28) (ls' := [.ref 6, .ref v1, .int (v2 + 1), .int v3, .int v4, .int s0]) (st' := []) (M' := M2) rfl ?_
        exact H
      · replace H := Eq.mp (if_neg hc) H
        refine pu_go 2 (pc' := 95) (ls' := [.ref 6, .ref v1, .int v2, .int v3, .int v4, .int s0]) (st' := [.int ((-1)), .int v4]) (M' := M) rfl ?_
        refine pu_icmp_eq rfl (fun hc => ?_) (fun hc => ?_)
        · replace H := Eq.mp (if_pos hc) H
          refine pu_go 2 (pc' := 28) (ls' := [.ref 6, .ref v1, .int (v2 + 1), .int v3, .int v4, .int s0]) (st' := []) (M' := M) rfl ?_
          exact H
        · replace H := Eq.mp (if_neg hc) H
          refine pu_go 2 (pc' := 100) (ls' := [.ref 6, .ref v1, .int v2, .int v3, .int v4, .int s0]) (st' := [.ref v1, .ref 6]) (M' := M) rfl ?_
          refine pu_getf (j := 0) (w := .ref (v1 + 1)) rfl (pu_W_o hv1) (Nat.lt_trans (pu_W_lt hv1) (by decide)) rfl (by decide) rfl rfl ?_
          refine pu_go 1 (pc' := 104) (ls' := [.ref 6, .ref v1, .int v2, .int v3, .int v4, .int s0]) (st' := [.int v2, .ref (v1 + 1), .ref 6]) (M' := M) rfl ?_
          obtain ⟨hb3, H⟩ := H
          refine pu_iald rfl (pu_W_1 hv1) (Or.inl (pu_W_l1 hv1)) hb3 ?_
          refine pu_go 2 (pc' := 108) (ls' := [.ref 6, .ref v1, .int v2, .int v3, .int v4, .int s0]) (st' := [.int v4, .int v3, .int (M (v1 + 1) v2.toNatClampNeg), .ref 6]) (M' := M) rfl ?_
          refine pu_callV (m' := 21) (ml := 5) (as := [.ref 6, .int (M (v1 + 1) v2.toNatClampNeg), .int v3, .int v4]) (rest := []) rfl rfl rfl (Nat.le_of_ble_eq_true rfl) H (fun M4 H => ?_)
          show pu_R L (d + 2) 20 111 [.ref 6, .ref v1, .int v2, .int v3, .int v4, .int s0] [] M4 _
          refine pu_go 2 (pc' := 28) (ls' := [.ref 6, .ref v1, .int (v2 + 1), .int v3, .int v4, .int s0]) (st' := []) (M' := M4) rfl ?_
          exact H
set_option maxRecDepth 20000 in
theorem r_Company_takeWishes_28 {L d : Nat} {M : pu_M} {Q : pu_M → Prop} {v1 : Nat} (hv1 : pu_isW v1) {v2 : Int32} {v3 : Value} {v4 : Value} {v5 : Value} (H : (if (M v1 3) ≤ v2 then Q M else (mq_inb v2 24 = true ∧ pu_I L (d + 1) 10 [.ref 6, .int (M (v1 + 2) v2.toNatClampNeg)] M (fun x3 M2 => (mq_inb v2 24 = true ∧ pu_I L (d + 1) 10 [.ref 6, .int (M2 (v1 + 3) v2.toNatClampNeg)] M2 (fun x6 M5 => (mq_inb v2 24 = true ∧ (if (M5 (v1 + 3) v2.toNatClampNeg) = ((-1)) then pu_R L (d + 2) 20 74 [.ref 6, .ref v1, .int v2, .int x3, .int x6, v5] [.int 0] M5 (pu_qV Q) else pu_R L (d + 2) 20 74 [.ref 6, .ref v1, .int v2, .int x3, .int x6, v5] [.int 1] M5 (pu_qV Q))))))))) : pu_R L (d + 2) 20 28 [.ref 6, .ref v1, .int v2, v3, v4, v5] [] M (pu_qV Q) := by
  refine pu_go 2 (pc' := 30) (ls' := [.ref 6, .ref v1, .int v2, v3, v4, v5]) (st' := [.ref v1, .int v2]) (M' := M) rfl ?_
  refine pu_getf (j := 3) (w := .int (M v1 3)) rfl (pu_W_o hv1) (Nat.lt_trans (pu_W_lt hv1) (by decide)) rfl (by decide) rfl rfl ?_
  refine pu_icmp_ge rfl (fun hc => ?_) (fun hc => ?_)
  · replace H := Eq.mp (if_pos hc) H
    exact pu_ret rfl rfl ⟨rfl, H⟩
  · replace H := Eq.mp (if_neg hc) H
    refine pu_go 2 (pc' := 38) (ls' := [.ref 6, .ref v1, .int v2, v3, v4, v5]) (st' := [.ref v1, .ref 6]) (M' := M) rfl ?_
    refine pu_getf (j := 1) (w := .ref (v1 + 2)) rfl (pu_W_o hv1) (Nat.lt_trans (pu_W_lt hv1) (by decide)) rfl (by decide) rfl rfl ?_
    refine pu_go 1 (pc' := 42) (ls' := [.ref 6, .ref v1, .int v2, v3, v4, v5]) (st' := [.int v2, .ref (v1 + 2), .ref 6]) (M' := M) rfl ?_
    obtain ⟨hb1, H⟩ := H
    refine pu_iald rfl (pu_W_2 hv1) (Or.inl (pu_W_l2 hv1)) hb1 ?_
    refine pu_callI (m' := 10) (ml := 3) (as := [.ref 6, .int (M (v1 + 2) v2.toNatClampNeg)]) (rest := []) rfl rfl rfl (Nat.le_of_ble_eq_true rfl) H (fun x3 M2 H => ?_)
    show pu_R L (d + 2) 20 46 [.ref 6, .ref v1, .int v2, v3, v4, v5] [.int x3] M2 _
    refine pu_go 3 (pc' := 49) (ls' := [.ref 6, .ref v1, .int v2, .int x3, v4, v5]) (st' := [.ref v1, .ref 6]) (M' := M2) rfl ?_
    refine pu_getf (j := 2) (w := .ref (v1 + 3)) rfl (pu_W_o hv1) (Nat.lt_trans (pu_W_lt hv1) (by decide)) rfl (by decide) rfl rfl ?_
    refine pu_go 1 (pc' := 53) (ls' := [.ref 6, .ref v1, .int v2, .int x3, v4, v5]) (st' := [.int v2, .ref (v1 + 3), .ref 6]) (M' := M2) rfl ?_
    obtain ⟨hb4, H⟩ := H
    refine pu_iald rfl (pu_W_3 hv1) (Or.inl (pu_W_l3 hv1)) hb4 ?_
    refine pu_callI (m' := 10) (ml := 3) (as := [.ref 6, .int (M2 (v1 + 3) v2.toNatClampNeg)]) (rest := []) rfl rfl rfl (Nat.le_of_ble_eq_true rfl) H (fun x6 M5 H => ?_)
    show pu_R L (d + 2) 20 57 [.ref 6, .ref v1, .int v2, .int x3, v4, v5] [.int x6] M5 _
    refine pu_go 2 (pc' := 60) (ls' := [.ref 6, .ref v1, .int v2, .int x3, .int x6, v5]) (st' := [.ref v1]) (M' := M5) rfl ?_
    refine pu_getf (j := 2) (w := .ref (v1 + 3)) rfl (pu_W_o hv1) (Nat.lt_trans (pu_W_lt hv1) (by decide)) rfl (by decide) rfl rfl ?_
    refine pu_go 1 (pc' := 64) (ls' := [.ref 6, .ref v1, .int v2, .int x3, .int x6, v5]) (st' := [.int v2, .ref (v1 + 3)]) (M' := M5) rfl ?_
    obtain ⟨hb7, H⟩ := H
    refine pu_iald rfl (pu_W_3 hv1) (Or.inl (pu_W_l3 hv1)) hb7 ?_
    refine pu_go 1 (pc' := 66) (ls' := [.ref 6, .ref v1, .int v2, .int x3, .int x6, v5]) (st' := [.int ((-1)), .int (M5 (v1 + 3) v2.toNatClampNeg)]) (M' := M5) rfl ?_
    refine pu_icmp_eq rfl (fun hc => ?_) (fun hc => ?_)
    · replace H := Eq.mp (if_pos hc) H
      refine pu_go 1 (pc' := 74) (ls' := [.ref 6, .ref v1, .int v2, .int x3, .int x6, v5]) (st' := [.int 0]) (M' := M5) rfl ?_
      exact H
    · replace H := Eq.mp (if_neg hc) H
      refine pu_go 2 (pc' := 74) (ls' := [.ref 6, .ref v1, .int v2, .int x3, .int x6, v5]) (st' := [.int 1]) (M' := M5) rfl ?_
      exact H
set_option maxRecDepth 20000 in
theorem r_Company_takeWishes {L d : Nat} {M : pu_M} {Q : pu_M → Prop} {v1 : Nat} (hv1 : pu_isW v1) (H : pu_V L (d + 1) 262 [.ref 11, .int 0] M (fun M1 => pu_V L (d + 1) 262 [.ref 12, .int 0] M1 (fun M2 => pu_R L (d + 2) 20 28 [.ref 6, .ref v1, .int 0, mq_un, mq_un, mq_un] [] (pu_wr (pu_wr M2 6 6 0) 6 7 0) (pu_qV Q)))) : pu_V L (d + 2) 20 [.ref 6, .ref v1] M Q := by
  show pu_R L (d + 2) 20 0 [.ref 6, .ref v1, mq_un, mq_un, mq_un, mq_un] [] M (pu_qV Q)
  refine pu_go 3 (pc' := 5) (ls' := [.ref 6, .ref v1, mq_un, mq_un, mq_un, mq_un]) (st' := [.int 0, .ref 11]) (M' := M) rfl ?_
  refine pu_callV (m' := 262) (ml := 4) (as := [.ref 11, .int 0]) (rest := []) rfl rfl rfl (Nat.le_of_ble_eq_true rfl) H (fun M1 H => ?_)
  show pu_R L (d + 2) 20 8 [.ref 6, .ref v1, mq_un, mq_un, mq_un, mq_un] [] M1 _
  refine pu_go 3 (pc' := 13) (ls' := [.ref 6, .ref v1, mq_un, mq_un, mq_un, mq_un]) (st' := [.int 0, .ref 12]) (M' := M1) rfl ?_
  refine pu_callV (m' := 262) (ml := 4) (as := [.ref 12, .int 0]) (rest := []) rfl rfl rfl (Nat.le_of_ble_eq_true rfl) H (fun M2 H => ?_)
  show pu_R L (d + 2) 20 16 [.ref 6, .ref v1, mq_un, mq_un, mq_un, mq_un] [] M2 _
  refine pu_go 2 (pc' := 18) (ls' := [.ref 6, .ref v1, mq_un, mq_un, mq_un, mq_un]) (st' := [.int 0, .ref 6]) (M' := M2) rfl ?_
  refine pu_putf (j := 6) (z := 0) rfl rfl (by decide) rfl (by decide) rfl rfl pu_put_hw ?_
  refine pu_go 2 (pc' := 23) (ls' := [.ref 6, .ref v1, mq_un, mq_un, mq_un, mq_un]) (st' := [.int 0, .ref 6]) (M' := pu_wr M2 6 6 0) rfl ?_
  refine pu_putf (j := 7) (z := 0) rfl rfl (by decide) rfl (by decide) rfl rfl pu_put_hw ?_
  refine pu_go 2 (pc' := 28) (ls' := [.ref 6, .ref v1, .int 0, mq_un, mq_un, mq_un]) (st' := []) (M' := pu_wr (pu_wr M2 6 6 0) 6 7 0) rfl ?_
  exact H
/-! Company_takeWish (III)V -/
set_option maxRecDepth 20000 in
theorem r_Company_takeWish_90 {L d : Nat} {M : pu_M} {Q : pu_M → Prop} {v1 : Int32} {v2 : Int32} {v3 : Int32} {v4 : Int32} (H : (if v1 = 45 then (if v4 = 0 then Q M else (mq_inb v2 7 = true ∧ (mq_inb v2 7 = true ∧ (mq_inb v3 7 = true ∧ (mq_inb v3 7 = true ∧ (∀ M5 : pu_M, M5 = pu_wr (pu_wr M 12 v2.toNatClampNeg ((M 12 v2.toNatClampNeg) ||| ((1 : Int32) <<< (v3 &&& 31)))) 12 v3.toNatClampNeg (((pu_wr M 12 v2.toNatClampNeg ((M 12 v2.toNatClampNeg) ||| ((1 : Int32) <<< (v3 &&& 31)))) 12 v3.toNatClampNeg) ||| ((1 : Int32) <<< (v2 &&& 31))) → Q M5)))))) else Q M)) : pu_R L (d + 1) 21 90 [.ref 6, .int v1, .int v2, .int v3, .int v4] [] M (pu_qV Q) := by
  refine pu_go 2 (pc' := 93) (ls' := [.ref 6, .int v1, .int v2, .int v3, .int v4]) (st' := [.int 45, .int v1]) (M' := M) rfl ?_
  refine pu_icmp_ne rfl (fun hc => ?_) (fun hc => ?_)
  · replace H := Eq.mp (if_neg hc) H
    exact pu_ret rfl rfl ⟨rfl, H⟩
  · replace H := Eq.mp (if_pos hc) H
    refine pu_go 1 (pc' := 98) (ls' := [.ref 6, .int v1, .int v2, .int v3, .int v4]) (st' := [.int v4]) (M' := M) rfl ?_
    refine pu_if_eq rfl (fun hc => ?_) (fun hc => ?_)
    · replace H := Eq.mp (if_pos hc) H
      exact pu_ret rfl rfl ⟨rfl, H⟩
    · replace H := Eq.mp (if_neg hc) H
      refine pu_go 4 (pc' := 107) (ls' := [.ref 6, .int v1, .int v2, .int v3, .int v4]) (st' := [.int v2, .ref 12, .int v2, .ref 12]) (M' := M) rfl ?_
      obtain ⟨hb1, H⟩ := H
      refine pu_iald rfl rfl (Or.inl (by decide)) hb1 ?_
      refine pu_go 4 (pc' := 112) (ls' := [.ref 6, .int v1, .int v2, .int v3, .int v4]) (st' := [.int ((M 12 v2.toNatClampNeg) ||| ((1 : Int32) <<< (v3 &&& 31))), .int v2, .ref 12]) (M' := M) rfl ?_
      obtain ⟨hb2, H⟩ := H
      refine pu_iast rfl rfl (by decide) hb2 ?_
      refine pu_go 4 (pc' := 119) (ls' := [.ref 6, .int v1, .int v2, .int v3, .int v4]) (st' := [.int v3, .ref 12, .int v3, .ref 12]) (M' := pu_wr M 12 v2.toNatClampNeg ((M 12 v2.toNatClampNeg) ||| ((1 : Int32) <<< (v3 &&& 31)))) rfl ?_
      obtain ⟨hb3, H⟩ := H
      refine pu_iald rfl rfl (Or.inl (by decide)) hb3 ?_
      refine pu_go 4 (pc' := 124) (ls' := [.ref 6, .int v1, .int v2, .int v3, .int v4]) (st' := [.int (((pu_wr M 12 v2.toNatClampNeg ((M 12 v2.toNatClampNeg) ||| ((1 : Int32) <<< (v3 &&& 31)))) 12 v3.toNatClampNeg) ||| ((1 : Int32) <<< (v2 &&& 31))), .int v3, .ref 12]) (M' := pu_wr M 12 v2.toNatClampNeg ((M 12 v2.toNatClampNeg) ||| ((1 : Int32) <<< (v3 &&& 31)))) rfl ?_
      obtain ⟨hb4, H⟩ := H
      refine pu_iast rfl rfl (by decide) hb4 ?_
      refine pu_named (fun M5 eM6 => ?_)
      replace H := H M5 eM6
      exact pu_ret rfl rfl ⟨rfl, H⟩
set_option maxRecDepth 20000 in
theorem r_Company_takeWish_15 {L d : Nat} {M : pu_M} {Q : pu_M → Prop} {v1 : Int32} {v2 : Int32} {v3 : Int32} {s0 : Int32} (H : (if v1 = 35 then Q (pu_wr M 6 6 ((M 6 6) ||| ((1 : Int32) <<< (v2 &&& 31)))) else (if v1 = 46 then Q (pu_wr M 6 7 1) else (if v1 = 43 then (if s0 = 0 then pu_R L (d + 1) 21 90 [.ref 6, .int v1, .int v2, .int v3, .int s0] [] M (pu_qV Q) else (mq_inb v2 7 = true ∧ (mq_inb v2 7 = true ∧ (mq_inb v3 7 = true ∧ (mq_inb v3 7 = true ∧ (∀ M5 : pu_M, M5 = pu_wr (pu_wr M 11 v2.toNatClampNeg ((M 11 v2.toNatClampNeg) ||| ((1 : Int32) <<< (v3 &&& 31)))) 11 v3.toNatClampNeg (((pu_wr M 11 v2.toNatClampNeg ((M 11 v2.toNatClampNeg) ||| ((1 : Int32) <<< (v3 &&& 31)))) 11 v3.toNatClampNeg) ||| ((1 : Int32) <<< (v2 &&& 31))) → Q M5)))))) else pu_R L (d + 1) 21 90 [.ref 6, .int v1, .int v2, .int v3, .int s0] [] M (pu_qV Q))))) : pu_R L (d + 1) 21 15 [.ref 6, .int v1, .int v2, .int v3, mq_un] [.int s0] M (pu_qV Q) := by
  refine pu_go 3 (pc' := 20) (ls' := [.ref 6, .int v1, .int v2, .int v3, .int s0]) (st' := [.int 35, .int v1]) (M' := M) rfl ?_
  refine pu_icmp_ne rfl (fun hc => ?_) (fun hc => ?_)
  · replace H := Eq.mp (if_neg hc) H
    refine pu_go 2 (pc' := 41) (ls' := [.ref 6, .int v1, .int v2, .int v3, .int s0]) (st' := [.int 46, .int v1]) (M' := M) rfl ?_
    refine pu_icmp_ne rfl (fun hc => ?_) (fun hc => ?_)
    · replace H := Eq.mp (if_neg hc) H
      refine pu_go 2 (pc' := 55) (ls' := [.ref 6, .int v1, .int v2, .int v3, .int s0]) (st' := [.int 43, .int v1]) (M' := M) rfl ?_
      refine pu_icmp_ne rfl (fun hc => ?_) (fun hc => ?_)
      · replace H := Eq.mp (if_neg hc) H
        exact H
      · replace H := Eq.mp (if_pos hc) H
        refine pu_go 1 (pc' := 60) (ls' := [.ref 6, .int v1, .int v2, .int v3, .int s0]) (st' := [.int s0]) (M' := M) rfl ?_
        refine pu_if_eq rfl (fun hc => ?_) (fun hc => ?_)
        · replace H := Eq.mp (if_pos hc) H
          exact H
        · replace H := Eq.mp (if_neg hc) H
          refine pu_go 4 (pc' := 69) (ls' := [.ref 6, .int v1, .int v2, .int v3, .int s0]) (st' := [.int v2, .ref 11, .int v2, .ref 11]) (M' := M) rfl ?_
          obtain ⟨hb1, H⟩ := H
          refine pu_iald rfl rfl (Or.inl (by decide)) hb1 ?_
          refine pu_go 4 (pc' := 74) (ls' := [.ref 6, .int v1, .int v2, .int v3, .int s0]) (st' := [.int ((M 11 v2.toNatClampNeg) ||| ((1 : Int32) <<< (v3 &&& 31))), .int v2, .ref 11]) (M' := M) rfl ?_
          obtain ⟨hb2, H⟩ := H
          refine pu_iast rfl rfl (by decide) hb2 ?_
          refine pu_go 4 (pc' := 81) (ls' := [.ref 6, .int v1, .int v2, .int v3, .int s0]) (st' := [.int v3, .ref 11, .int v3, .ref 11]) (M' := pu_wr M 11 v2.toNatClampNeg ((M 11 v2.toNatClampNeg) ||| ((1 : Int32) <<< (v3 &&& 31)))) rfl ?_
          obtain ⟨hb3, H⟩ := H
          refine pu_iald rfl rfl (Or.inl (by decide)) hb3 ?_
          refine pu_go 4 (pc' := 86) (ls' := [.ref 6, .int v1, .int v2, .int v3, .int s0]) (st' := [.int (((pu_wr M 11 v2.toNatClampNeg ((M 11 v2.toNatClampNeg) ||| ((1 : Int32) <<< (v3 &&& 31)))) 11 v3.toNatClampNeg) ||| ((1 : Int32) <<< (v2 &&& 31))), .int v3, .ref 11]) (M' := pu_wr M 11 v2.toNatClampNeg ((M 11 v2.toNatClampNeg) ||| ((1 : Int32) <<< (v3 &&& 31)))) rfl ?_
          obtain ⟨hb4, H⟩ := H
          refine pu_iast rfl rfl (by decide) hb4 ?_
          refine pu_named (fun M5 eM6 => ?_)
          replace H := H M5 eM6
          refine pu_go 1 (pc' := 125) (ls' := [.ref 6, .int v1, .int v2, .int v3, .int s0]) (st' := []) (M' := M5) rfl ?_
          exact pu_ret rfl rfl ⟨rfl, H⟩
    · replace H := Eq.mp (if_pos hc) H
      refine pu_go 2 (pc' := 46) (ls' := [.ref 6, .int v1, .int v2, .int v3, .int s0]) (st' := [.int 1, .ref 6]) (M' := M) rfl ?_
      refine pu_putf (j := 7) (z := 1) rfl rfl (by decide) rfl (by decide) rfl rfl pu_put_hw ?_
      refine pu_go 1 (pc' := 125) (ls' := [.ref 6, .int v1, .int v2, .int v3, .int s0]) (st' := []) (M' := pu_wr M 6 7 1) rfl ?_
      exact pu_ret rfl rfl ⟨rfl, H⟩
  · replace H := Eq.mp (if_pos hc) H
    refine pu_go 7 (pc' := 32) (ls' := [.ref 6, .int v1, .int v2, .int v3, .int s0]) (st' := [.int ((M 6 6) ||| ((1 : Int32) <<< (v2 &&& 31))), .ref 6]) (M' := M) rfl ?_
    refine pu_putf (j := 6) (z := (M 6 6) ||| ((1 : Int32) <<< (v2 &&& 31))) rfl rfl (by decide) rfl (by decide) rfl rfl pu_put_hw ?_
    refine pu_go 1 (pc' := 125) (ls' := [.ref 6, .int v1, .int v2, .int v3, .int s0]) (st' := []) (M' := pu_wr M 6 6 ((M 6 6) ||| ((1 : Int32) <<< (v2 &&& 31)))) rfl ?_
    exact pu_ret rfl rfl ⟨rfl, H⟩
set_option maxRecDepth 20000 in
theorem r_Company_takeWish {L d : Nat} {M : pu_M} {Q : pu_M → Prop} {v1 : Int32} {v2 : Int32} {v3 : Int32} (H : (if v3 < 0 then pu_R L (d + 1) 21 15 [.ref 6, .int v1, .int v2, .int v3, mq_un] [.int 0] M (pu_qV Q) else (if 7 ≤ v3 then pu_R L (d + 1) 21 15 [.ref 6, .int v1, .int v2, .int v3, mq_un] [.int 0] M (pu_qV Q) else pu_R L (d + 1) 21 15 [.ref 6, .int v1, .int v2, .int v3, mq_un] [.int 1] M (pu_qV Q)))) : pu_V L (d + 1) 21 [.ref 6, .int v1, .int v2, .int v3] M Q := by
  show pu_R L (d + 1) 21 0 [.ref 6, .int v1, .int v2, .int v3, mq_un] [] M (pu_qV Q)
  refine pu_go 1 (pc' := 1) (ls' := [.ref 6, .int v1, .int v2, .int v3, mq_un]) (st' := [.int v3]) (M' := M) rfl ?_
  refine pu_if_lt rfl (fun hc => ?_) (fun hc => ?_)
  · replace H := Eq.mp (if_pos hc) H
    refine pu_go 1 (pc' := 15) (ls' := [.ref 6, .int v1, .int v2, .int v3, mq_un]) (st' := [.int 0]) (M' := M) rfl ?_
    exact H
  · replace H := Eq.mp (if_neg hc) H
    refine pu_go 2 (pc' := 7) (ls' := [.ref 6, .int v1, .int v2, .int v3, mq_un]) (st' := [.int 7, .int v3]) (M' := M) rfl ?_
    refine pu_icmp_ge rfl (fun hc => ?_) (fun hc => ?_)
    · replace H := Eq.mp (if_pos hc) H
      refine pu_go 1 (pc' := 15) (ls' := [.ref 6, .int v1, .int v2, .int v3, mq_un]) (st' := [.int 0]) (M' := M) rfl ?_
      exact H
    · replace H := Eq.mp (if_neg hc) H
      refine pu_go 2 (pc' := 15) (ls' := [.ref 6, .int v1, .int v2, .int v3, mq_un]) (st' := [.int 1]) (M' := M) rfl ?_
      exact H
/-! Company_weighCouples ()V -/
set_option maxRecDepth 20000 in
theorem r_Company_weighCouples_41 {L d : Nat} {M : pu_M} {Q : pu_M → Prop} {v1 : Int32} {v2 : Int32} {v3 : Int32} {v4 : Int32} (H : (if (M 6 8) ≤ v4 then (mq_inb v1 1024 = true ∧ pu_R L (d + 2) 22 9 [.ref 6, .int (v1 + 1), .int v2, .int v3, .int v4] [] (pu_wr M 9 v1.toNatClampNeg v3) (pu_qV Q)) else pu_I L (d + 1) 24 [.ref 6, .int v1, .int v2, .int v4] M (fun x3 M2 => (if x3 = 0 then pu_R L (d + 2) 22 41 [.ref 6, .int v1, .int v2, .int v3, .int (v4 + 1)] [] M2 (pu_qV Q) else pu_I L (d + 1) 25 [.ref 6, .int v1, .int v2, .int v4] M2 (fun x5 M4 => pu_R L (d + 2) 22 41 [.ref 6, .int v1, .int v2, .int (if v3 < x5 then x5 else v3), .int (v4 + 1)] [] M4 (pu_qV Q)))))) : pu_R L (d + 2) 22 41 [.ref 6, .int v1, .int v2, .int v3, .int v4] [] M (pu_qV Q) := by
  refine pu_go 3 (pc' := 47) (ls' := [.ref 6, .int v1, .int v2, .int v3, .int v4]) (st' := [.int (M 6 8), .int v4]) (M' := M) rfl ?_
  refine pu_icmp_ge rfl (fun hc => ?_) (fun hc => ?_)
  · replace H := Eq.mp (if_pos hc) H
    refine pu_go 4 (pc' := 86) (ls' := [.ref 6, .int v1, .int v2, .int v3, .int v4]) (st' := [.int v3, .int v1, .ref 9]) (M' := M) rfl ?_
    obtain ⟨hb1, H⟩ := H
    refine pu_iast rfl rfl (by decide) hb1 ?_
    refine pu_go 2 (pc' := 9) (ls' := [.ref 6, .int (v1 + 1), .int v2, .int v3, .int v4]) (st' := []) (M' := pu_wr M 9 v1.toNatClampNeg v3) rfl ?_
    exact H
  · replace H := Eq.mp (if_neg hc) H
    refine pu_go 4 (pc' := 55) (ls' := [.ref 6, .int v1, .int v2, .int v3, .int v4]) (st' := [.int v4, .int v2, .int v1, .ref 6]) (M' := M) rfl ?_
    refine pu_callI (m' := 24) (ml := 4) (as := [.ref 6, .int v1, .int v2, .int v4]) (rest := []) rfl rfl rfl (Nat.le_of_ble_eq_true rfl) H (fun x3 M2 H => ?_)
    show pu_R L (d + 2) 22 58 [.ref 6, .int v1, .int v2, .int v3, .int v4] [.int x3] M2 _
    refine pu_if_eq rfl (fun hc => ?_) (fun hc => ?_)
    · replace H := Eq.mp (if_pos hc) H
      refine pu_go 2 (pc' := 41) (ls' := [.ref 6, .int v1, .int v2, .int v3, .int (v4 + 1)]) (st' := []) (M' := M2) rfl ?_
      exact H
    · replace H := Eq.mp (if_neg hc) H
      refine pu_go 5 (pc' := 67) (ls' := [.ref 6, .int v1, .int v2, .int v3, .int v4]) (st' := [.int v4, .int v2, .int v1, .ref 6, .int v3]) (M' := M2) rfl ?_
      refine pu_callI (m' := 25) (ml := 4) (as := [.ref 6, .int v1, .int v2, .int v4]) (rest := [.int v3]) rfl rfl rfl (Nat.le_of_ble_eq_true rfl) H (fun x5 M4 H => ?_)
      show pu_R L (d + 2) 22 70 [.ref 6, .int v1, .int v2, .int v3, .int v4] [.int x5, .int v3] M4 _
      refine pu_go 4 (pc' := 41) (ls' := [.ref 6, .int v1, .int v2, .int (if v3 < x5 then x5 else v3), .int (v4 + 1)]) (st' := []) (M' := M4) rfl ?_
      exact H
set_option maxRecDepth 20000 in
theorem r_Company_weighCouples_9 {L d : Nat} {M : pu_M} {Q : pu_M → Prop} {v1 : Int32} {v2 : Value} {v3 : Value} {v4 : Value} (H : pu_I L (d + 1) 9 [.ref 6] M (fun x2 M1 => (if x2 < v1 then Q M1 else pu_I L (d + 1) 23 [.ref 6, .int v1] M1 (fun x4 M3 => (mq_inb (v1 &&& (((1 : Int32) <<< (x4 &&& 31)) ^^^ ((-1)))) 1024 = true ∧ pu_R L (d + 2) 22 41 [.ref 6, .int v1, .int x4, .int (M3 9 (v1 &&& (((1 : Int32) <<< (x4 &&& 31)) ^^^ ((-1))) : Int32).toNatClampNeg), .int (x4 + 1)] [] M3 (pu_qV Q)))))) : pu_R L (d + 2) 22 9 [.ref 6, .int v1, v2, v3, v4] [] M (pu_qV Q) := by
  refine pu_go 2 (pc' := 11) (ls' := [.ref 6, .int v1, v2, v3, v4]) (st' := [.ref 6, .int v1]) (M' := M) rfl ?_
  refine pu_callI (m' := 9) (ml := 1) (as := [.ref 6]) (rest := [.int v1]) rfl rfl rfl (Nat.le_of_ble_eq_true rfl) H (fun x2 M1 H => ?_)
  show pu_R L (d + 2) 22 14 [.ref 6, .int v1, v2, v3, v4] [.int x2, .int v1] M1 _
  refine pu_icmp_gt rfl (fun hc => ?_) (fun hc => ?_)
  · replace H := Eq.mp (if_pos hc) H
    exact pu_ret rfl rfl ⟨rfl, H⟩
  · replace H := Eq.mp (if_neg hc) H
    refine pu_go 2 (pc' := 19) (ls' := [.ref 6, .int v1, v2, v3, v4]) (st' := [.int v1, .ref 6]) (M' := M1) rfl ?_
    refine pu_callI (m' := 23) (ml := 3) (as := [.ref 6, .int v1]) (rest := []) rfl rfl rfl (Nat.le_of_ble_eq_true rfl) H (fun x4 M3 H => ?_)
    show pu_R L (d + 2) 22 22 [.ref 6, .int v1, v2, v3, v4] [.int x4] M3 _
    refine pu_go 10 (pc' := 34) (ls' := [.ref 6, .int v1, .int x4, v3, v4]) (st' := [.int (v1 &&& (((1 : Int32) <<< (x4 &&& 31)) ^^^ ((-1)))), .ref 9]) (M' := M3) rfl ?_
    obtain ⟨hb5, H⟩ := H
    refine pu_iald rfl rfl (Or.inl (by decide)) hb5 ?_
    refine pu_go 5 (pc' := 41) (ls' := [.ref 6, .int v1, .int x4, .int (M3 9 (v1 &&& (((1 : Int32) <<< (x4 &&& 31)) ^^^ ((-1))) : Int32).toNatClampNeg), .int (x4 + 1)]) (st' := []) (M' := M3) rfl ?_
    exact H
set_option maxRecDepth 20000 in
theorem r_Company_weighCouples {L d : Nat} {M : pu_M} {Q : pu_M → Prop}  (H : pu_R L (d + 2) 22 9 [.ref 6, .int 1, mq_un, mq_un, mq_un] [] (pu_wr M 9 (0 : Int32).toNatClampNeg 0) (pu_qV Q)) : pu_V L (d + 2) 22 [.ref 6] M Q := by
  show pu_R L (d + 2) 22 0 [.ref 6, mq_un, mq_un, mq_un, mq_un] [] M (pu_qV Q)
  refine pu_go 4 (pc' := 6) (ls' := [.ref 6, mq_un, mq_un, mq_un, mq_un]) (st' := [.int 0, .int 0, .ref 9]) (M' := M) rfl ?_
  refine pu_iast rfl rfl (by decide) rfl ?_
  refine pu_go 2 (pc' := 9) (ls' := [.ref 6, .int 1, mq_un, mq_un, mq_un]) (st' := []) (M' := pu_wr M 9 (0 : Int32).toNatClampNeg 0) rfl ?_
  exact H
/-! Company_lowestOf (I)I -/
set_option maxRecDepth 20000 in
theorem r_Company_lowestOf_2 {L d : Nat} {M : pu_M} {Q : Int32 → pu_M → Prop} {v1 : Int32} {v2 : Int32} (H : (if (M 6 8) ≤ v2 then Q 0 M else (if ((v1 >>> (v2 &&& 31)) &&& 1) = 1 then Q v2 M else pu_R L (d + 1) 23 2 [.ref 6, .int v1, .int (v2 + 1)] [] M (pu_qI Q)))) : pu_R L (d + 1) 23 2 [.ref 6, .int v1, .int v2] [] M (pu_qI Q) := by
  refine pu_go 3 (pc' := 7) (ls' := [.ref 6, .int v1, .int v2]) (st' := [.int (M 6 8), .int v2]) (M' := M) rfl ?_
  refine pu_icmp_ge rfl (fun hc => ?_) (fun hc => ?_)
  · replace H := Eq.mp (if_pos hc) H
    refine pu_go 1 (pc' := 28) (ls' := [.ref 6, .int v1, .int v2]) (st' := [.int 0]) (M' := M) rfl ?_
    exact pu_ret rfl rfl ⟨_, rfl, H⟩
  · replace H := Eq.mp (if_neg hc) H
    refine pu_go 6 (pc' := 16) (ls' := [.ref 6, .int v1, .int v2]) (st' := [.int 1, .int ((v1 >>> (v2 &&& 31)) &&& 1)]) (M' := M) rfl ?_
    refine pu_icmp_ne rfl (fun hc => ?_) (fun hc => ?_)
    · replace H := Eq.mp (if_neg hc) H
      refine pu_go 2 (pc' := 2) (ls' := [.ref 6, .int v1, .int (v2 + 1)]) (st' := []) (M' := M) rfl ?_
      exact H
    · replace H := Eq.mp (if_pos hc) H
      refine pu_go 1 (pc' := 20) (ls' := [.ref 6, .int v1, .int v2]) (st' := [.int v2]) (M' := M) rfl ?_
      exact pu_ret rfl rfl ⟨_, rfl, H⟩
set_option maxRecDepth 20000 in
theorem r_Company_lowestOf {L d : Nat} {M : pu_M} {Q : Int32 → pu_M → Prop} {v1 : Int32} (H : pu_R L (d + 1) 23 2 [.ref 6, .int v1, .int 0] [] M (pu_qI Q)) : pu_I L (d + 1) 23 [.ref 6, .int v1] M Q := by
  show pu_R L (d + 1) 23 0 [.ref 6, .int v1, mq_un] [] M (pu_qI Q)
  refine pu_go 2 (pc' := 2) (ls' := [.ref 6, .int v1, .int 0]) (st' := []) (M' := M) rfl ?_
  exact H
/-! Company_canCouple (III)Z -/
set_option maxRecDepth 20000 in
theorem r_Company_canCouple {L d : Nat} {M : pu_M} {Q : Int32 → pu_M → Prop} {v1 : Int32} {v2 : Int32} {v3 : Int32} (H : (if ((v1 >>> (v3 &&& 31)) &&& 1) = 1 then (mq_inb ((v2 * 10) + v3) 100 = true ∧ (if (M 8 ((v2 * 10) + v3 : Int32).toNatClampNeg) ≤ 0 then Q 0 M else Q 1 M)) else Q 0 M)) : pu_I L (d + 1) 24 [.ref 6, .int v1, .int v2, .int v3] M Q := by
  show pu_R L (d + 1) 24 0 [.ref 6, .int v1, .int v2, .int v3] [] M (pu_qI Q)
  refine pu_go 6 (pc' := 6) (ls' := [.ref 6, .int v1, .int v2, .int v3]) (st' := [.int 1, .int ((v1 >>> (v3 &&& 31)) &&& 1)]) (M' := M) rfl ?_
  refine pu_icmp_ne rfl (fun hc => ?_) (fun hc => ?_)
  · replace H := Eq.mp (if_neg hc) H
    refine pu_go 1 (pc' := 28) (ls' := [.ref 6, .int v1, .int v2, .int v3]) (st' := [.int 0]) (M' := M) rfl ?_
    exact pu_ret rfl rfl ⟨_, rfl, H⟩
  · replace H := Eq.mp (if_pos hc) H
    refine pu_go 7 (pc' := 19) (ls' := [.ref 6, .int v1, .int v2, .int v3]) (st' := [.int ((v2 * 10) + v3), .ref 8]) (M' := M) rfl ?_
    obtain ⟨hb1, H⟩ := H
    refine pu_iald rfl rfl (Or.inl (by decide)) hb1 ?_
    refine pu_if_le rfl (fun hc => ?_) (fun hc => ?_)
    · replace H := Eq.mp (if_pos hc) H
      refine pu_go 1 (pc' := 28) (ls' := [.ref 6, .int v1, .int v2, .int v3]) (st' := [.int 0]) (M' := M) rfl ?_
      exact pu_ret rfl rfl ⟨_, rfl, H⟩
    · replace H := Eq.mp (if_neg hc) H
      refine pu_go 2 (pc' := 28) (ls' := [.ref 6, .int v1, .int v2, .int v3]) (st' := [.int 1]) (M' := M) rfl ?_
      exact pu_ret rfl rfl ⟨_, rfl, H⟩
/-! Company_withCouple (III)I -/
set_option maxRecDepth 20000 in
theorem r_Company_withCouple {L d : Nat} {M : pu_M} {Q : Int32 → pu_M → Prop} {v1 : Int32} {v2 : Int32} {v3 : Int32} (H : (mq_inb ((v2 * 10) + v3) 100 = true ∧ (mq_inb ((v1 &&& (((1 : Int32) <<< (v2 &&& 31)) ^^^ ((-1)))) &&& (((1 : Int32) <<< (v3 &&& 31)) ^^^ ((-1)))) 1024 = true ∧ Q ((M 8 ((v2 * 10) + v3 : Int32).toNatClampNeg) + (M 9 ((v1 &&& (((1 : Int32) <<< (v2 &&& 31)) ^^^ ((-1)))) &&& (((1 : Int32) <<< (v3 &&& 31)) ^^^ ((-1))) : Int32).toNatClampNeg)) M))) : pu_I L (d + 1) 25 [.ref 6, .int v1, .int v2, .int v3] M Q := by
  show pu_R L (d + 1) 25 0 [.ref 6, .int v1, .int v2, .int v3] [] M (pu_qI Q)
  refine pu_go 7 (pc' := 10) (ls' := [.ref 6, .int v1, .int v2, .int v3]) (st' := [.int ((v2 * 10) + v3), .ref 8]) (M' := M) rfl ?_
  obtain ⟨hb1, H⟩ := H
  refine pu_iald rfl rfl (Or.inl (by decide)) hb1 ?_
  refine pu_go 15 (pc' := 28) (ls' := [.ref 6, .int v1, .int v2, .int v3]) (st' := [.int ((v1 &&& (((1 : Int32) <<< (v2 &&& 31)) ^^^ ((-1)))) &&& (((1 : Int32) <<< (v3 &&& 31)) ^^^ ((-1)))), .ref 9, .int (M 8 ((v2 * 10) + v3 : Int32).toNatClampNeg)]) (M' := M) rfl ?_
  obtain ⟨hb2, H⟩ := H
  refine pu_iald rfl rfl (Or.inl (by decide)) hb2 ?_
  refine pu_go 1 (pc' := 30) (ls' := [.ref 6, .int v1, .int v2, .int v3]) (st' := [.int ((M 8 ((v2 * 10) + v3 : Int32).toNatClampNeg) + (M 9 ((v1 &&& (((1 : Int32) <<< (v2 &&& 31)) ^^^ ((-1)))) &&& (((1 : Int32) <<< (v3 &&& 31)) ^^^ ((-1))) : Int32).toNatClampNeg))]) (M' := M) rfl ?_
  exact pu_ret rfl rfl ⟨_, rfl, H⟩
/-! Company_mostInCouples ()I -/
set_option maxRecDepth 20000 in
theorem r_Company_mostInCouples {L d : Nat} {M : pu_M} {Q : Int32 → pu_M → Prop}  (H : pu_I L (d + 1) 9 [.ref 6] M (fun x2 M1 => (mq_inb x2 1024 = true ∧ Q (M1 9 x2.toNatClampNeg) M1))) : pu_I L (d + 2) 26 [.ref 6] M Q := by
  show pu_R L (d + 2) 26 0 [.ref 6] [] M (pu_qI Q)
  refine pu_go 3 (pc' := 5) (ls' := [.ref 6]) (st' := [.ref 6, .ref 9]) (M' := M) rfl ?_
  refine pu_callI (m' := 9) (ml := 1) (as := [.ref 6]) (rest := [.ref 9]) rfl rfl rfl (Nat.le_of_ble_eq_true rfl) H (fun x2 M1 H => ?_)
  show pu_R L (d + 2) 26 8 [.ref 6] [.int x2, .ref 9] M1 _
  obtain ⟨hb3, H⟩ := H
  refine pu_iald rfl rfl (Or.inl (by decide)) hb3 ?_
  exact pu_ret rfl rfl ⟨_, rfl, H⟩
