/-! Yard_copyFrom (LTalkingPlots$Yard;)V -/
set_option maxRecDepth 20000 in
theorem r_Yard_copyFrom {L d : Nat} {M : pu_M} {Q : pu_M → Prop} {v0 : Nat} (hv0 : pu_isY v0) {v1 : Nat} (hv1 : pu_isY v1) (H : (∀ M1 : pu_M, M1 = pu_wrA (pu_wrA M (v0 + 1) (va_cpy (M (v1 + 1)) (M (v0 + 1)) (0 : Int32).toNatClampNeg (0 : Int32).toNatClampNeg (16 : Int32).toNatClampNeg)) (v0 + 2) (va_cpy ((pu_wrA M (v0 + 1) (va_cpy (M (v1 + 1)) (M (v0 + 1)) (0 : Int32).toNatClampNeg (0 : Int32).toNatClampNeg (16 : Int32).toNatClampNeg)) (v1 + 2)) ((pu_wrA M (v0 + 1) (va_cpy (M (v1 + 1)) (M (v0 + 1)) (0 : Int32).toNatClampNeg (0 : Int32).toNatClampNeg (16 : Int32).toNatClampNeg)) (v0 + 2)) (0 : Int32).toNatClampNeg (0 : Int32).toNatClampNeg (16 : Int32).toNatClampNeg) → (∀ M3 : pu_M, M3 = pu_wrA (pu_wrA M1 (v0 + 3) (va_cpy (M1 (v1 + 3)) (M1 (v0 + 3)) (0 : Int32).toNatClampNeg (0 : Int32).toNatClampNeg (16 : Int32).toNatClampNeg)) (v0 + 4) (va_cpy ((pu_wrA M1 (v0 + 3) (va_cpy (M1 (v1 + 3)) (M1 (v0 + 3)) (0 : Int32).toNatClampNeg (0 : Int32).toNatClampNeg (16 : Int32).toNatClampNeg)) (v1 + 4)) ((pu_wrA M1 (v0 + 3) (va_cpy (M1 (v1 + 3)) (M1 (v0 + 3)) (0 : Int32).toNatClampNeg (0 : Int32).toNatClampNeg (16 : Int32).toNatClampNeg)) (v0 + 4)) (0 : Int32).toNatClampNeg (0 : Int32).toNatClampNeg (60 : Int32).toNatClampNeg) → (∀ M5 : pu_M, M5 = pu_wr (pu_wr (pu_wr M3 v0 4 (M3 v1 4)) v0 5 ((pu_wr M3 v0 4 (M3 v1 4)) v1 5)) v0 6 ((pu_wr (pu_wr M3 v0 4 (M3 v1 4)) v0 5 ((pu_wr M3 v0 4 (M3 v1 4)) v1 5)) v1 6) → Q M5)))) : pu_V L (d + 1) 99 [.ref v0, .ref v1] M Q := by
  show pu_R L (d + 1) 99 0 [.ref v0, .ref v1] [] M (pu_qV Q)
  refine pu_go 1 (pc' := 1) (ls' := [.ref v0, .ref v1]) (st' := [.ref v1]) (M' := M) rfl ?_
  refine pu_getf (j := 0) (w := .ref (v1 + 1)) rfl (pu_Y_o hv1) (Nat.lt_trans (pu_Y_lt hv1) (by decide)) rfl (by decide) rfl rfl ?_
  refine pu_go 2 (pc' := 6) (ls' := [.ref v0, .ref v1]) (st' := [.ref v0, .int 0, .ref (v1 + 1)]) (M' := M) rfl ?_
  refine pu_getf (j := 0) (w := .ref (v0 + 1)) rfl (pu_Y_o hv0) (Nat.lt_trans (pu_Y_lt hv0) (by decide)) rfl (by decide) rfl rfl ?_
  refine pu_go 2 (pc' := 12) (ls' := [.ref v0, .ref v1]) (st' := [.int 16, .int 0, .ref (v0 + 1), .int 0, .ref (v1 + 1)]) (M' := M) rfl ?_
  refine pu_copy rfl (pu_Y_1 hv1) (pu_Y_l1 hv1) (pu_Y_1 hv0) (pu_Y_l1 hv0) (by decide) (by decide) (by decide) (by decide) (by decide) (by decide) ?_
  refine pu_go 1 (pc' := 16) (ls' := [.ref v0, .ref v1]) (st' := [.ref v1]) (M' := pu_wrA M (v0 + 1) (va_cpy (M (v1 + 1)) (M (v0 + 1)) (0 : Int32).toNatClampNeg (0 : Int32).toNatClampNeg (16 : Int32).toNatClampNeg)) rfl ?_
  refine pu_getf (j := 1) (w := .ref (v1 + 2)) rfl (pu_Y_o hv1) (Nat.lt_trans (pu_Y_lt hv1) (by decide)) rfl (by decide) rfl rfl ?_
  refine pu_go 2 (pc' := 21) (ls' := [.ref v0, .ref v1]) (st' := [.ref v0, .int 0, .ref (v1 + 2)]) (M' := pu_wrA M (v0 + 1) (va_cpy (M (v1 + 1)) (M (v0 + 1)) (0 : Int32).toNatClampNeg (0 : Int32).toNatClampNeg (16 : Int32).toNatClampNeg)) rfl ?_
  refine pu_getf (j := 1) (w := .ref (v0 + 2)) rfl (pu_Y_o hv0) (Nat.lt_trans (pu_Y_lt hv0) (by decide)) rfl (by decide) rfl rfl ?_
  refine pu_go 2 (pc' := 27) (ls' := [.ref v0, .ref v1]) (st' := [.int 16, .int 0, .ref (v0 + 2), .int 0, .ref (v1 + 2)]) (M' := pu_wrA M (v0 + 1) (va_cpy (M (v1 + 1)) (M (v0 + 1)) (0 : Int32).toNatClampNeg (0 : Int32).toNatClampNeg (16 : Int32).toNatClampNeg)) rfl ?_
  refine pu_copy rfl (pu_Y_2 hv1) (pu_Y_l2 hv1) (pu_Y_2 hv0) (pu_Y_l2 hv0) (by decide) (by decide) (by decide) (by decide) (by decide) (by decide) ?_
  refine pu_named (fun M1 eM2 => ?_)
  replace H := H M1 eM2
  refine pu_go 1 (pc' := 31) (ls' := [.ref v0, .ref v1]) (st' := [.ref v1]) (M' := M1) rfl ?_
  refine pu_getf (j := 2) (w := .ref (v1 + 3)) rfl (pu_Y_o hv1) (Nat.lt_trans (pu_Y_lt hv1) (by decide)) rfl (by decide) rfl rfl ?_
  refine pu_go 2 (pc' := 36) (ls' := [.ref v0, .ref v1]) (st' := [.ref v0, .int 0, .ref (v1 + 3)]) (M' := M1) rfl ?_
  refine pu_getf (j := 2) (w := .ref (v0 + 3)) rfl (pu_Y_o hv0) (Nat.lt_trans (pu_Y_lt hv0) (by decide)) rfl (by decide) rfl rfl ?_
  refine pu_go 2 (pc' := 42) (ls' := [.ref v0, .ref v1]) (st' := [.int 16, .int 0, .ref (v0 + 3), .int 0, .ref (v1 + 3)]) (M' := M1) rfl ?_
  refine pu_copy rfl (pu_Y_3 hv1) (pu_Y_l3 hv1) (pu_Y_3 hv0) (pu_Y_l3 hv0) (by decide) (by decide) (by decide) (by decide) (by decide) (by decide) ?_
  refine pu_go 1 (pc' := 46) (ls' := [.ref v0, .ref v1]) (st' := [.ref v1]) (M' := pu_wrA M1 (v0 + 3) (va_cpy (M1 (v1 + 3)) (M1 (v0 + 3)) (0 : Int32).toNatClampNeg (0 : Int32).toNatClampNeg (16 : Int32).toNatClampNeg)) rfl ?_
  refine pu_getf (j := 3) (w := .ref (v1 + 4)) rfl (pu_Y_o hv1) (Nat.lt_trans (pu_Y_lt hv1) (by decide)) rfl (by decide) rfl rfl ?_
  refine pu_go 2 (pc' := 51) (ls' := [.ref v0, .ref v1]) (st' := [.ref v0, .int 0, .ref (v1 + 4)]) (M' := pu_wrA M1 (v0 + 3) (va_cpy (M1 (v1 + 3)) (M1 (v0 + 3)) (0 : Int32).toNatClampNeg (0 : Int32).toNatClampNeg (16 : Int32).toNatClampNeg)) rfl ?_
  refine pu_getf (j := 3) (w := .ref (v0 + 4)) rfl (pu_Y_o hv0) (Nat.lt_trans (pu_Y_lt hv0) (by decide)) rfl (by decide) rfl rfl ?_
  refine pu_go 2 (pc' := 57) (ls' := [.ref v0, .ref v1]) (st' := [.int 60, .int 0, .ref (v0 + 4), .int 0, .ref (v1 + 4)]) (M' := pu_wrA M1 (v0 + 3) (va_cpy (M1 (v1 + 3)) (M1 (v0 + 3)) (0 : Int32).toNatClampNeg (0 : Int32).toNatClampNeg (16 : Int32).toNatClampNeg)) rfl ?_
  refine pu_copy rfl (pu_Y_4 hv1) (pu_Y_l4 hv1) (pu_Y_4 hv0) (pu_Y_l4 hv0) (by decide) (by decide) (by decide) (by decide) (by decide) (by decide) ?_
  refine pu_named (fun M3 eM4 => ?_)
  replace H := H M3 eM4
  refine pu_go 2 (pc' := 62) (ls' := [.ref v0, .ref v1]) (st' := [.ref v1, .ref v0]) (M' := M3) rfl ?_
  refine pu_getf (j := 4) (w := .int (M3 v1 4)) rfl (pu_Y_o hv1) (Nat.lt_trans (pu_Y_lt hv1) (by decide)) rfl (by decide) rfl rfl ?_
  refine pu_putf (j := 4) (z := M3 v1 4) rfl (pu_Y_o hv0) (Nat.lt_trans (pu_Y_lt hv0) (by decide)) rfl (by decide) rfl rfl pu_put_hw ?_
  refine pu_go 2 (pc' := 70) (ls' := [.ref v0, .ref v1]) (st' := [.ref v1, .ref v0]) (M' := pu_wr M3 v0 4 (M3 v1 4)) rfl ?_
  refine pu_getf (j := 5) (w := .int ((pu_wr M3 v0 4 (M3 v1 4)) v1 5)) rfl (pu_Y_o hv1) (Nat.lt_trans (pu_Y_lt hv1) (by decide)) rfl (by decide) rfl rfl ?_
  refine pu_putf (j := 5) (z := (pu_wr M3 v0 4 (M3 v1 4)) v1 5) rfl (pu_Y_o hv0) (Nat.lt_trans (pu_Y_lt hv0) (by decide)) rfl (by decide) rfl rfl pu_put_hw ?_
  refine pu_go 2 (pc' := 78) (ls' := [.ref v0, .ref v1]) (st' := [.ref v1, .ref v0]) (M' := pu_wr (pu_wr M3 v0 4 (M3 v1 4)) v0 5 ((pu_wr M3 v0 4 (M3 v1 4)) v1 5)) rfl ?_
  refine pu_getf (j := 6) (w := .int ((pu_wr (pu_wr M3 v0 4 (M3 v1 4)) v0 5 ((pu_wr M3 v0 4 (M3 v1 4)) v1 5)) v1 6)) rfl (pu_Y_o hv1) (Nat.lt_trans (pu_Y_lt hv1) (by decide)) rfl (by decide) rfl rfl ?_
  refine pu_putf (j := 6) (z := (pu_wr (pu_wr M3 v0 4 (M3 v1 4)) v0 5 ((pu_wr M3 v0 4 (M3 v1 4)) v1 5)) v1 6) rfl (pu_Y_o hv0) (Nat.lt_trans (pu_Y_lt hv0) (by decide)) rfl (by decide) rfl rfl pu_put_hw ?_
  refine pu_named (fun M5 eM6 => ?_)
  replace H := H M5 eM6
  exact pu_ret rfl rfl ⟨rfl, H⟩
/-! Yard_isTold (I)Z -/
set_option maxRecDepth 20000 in
theorem r_Yard_isTold {L d : Nat} {M : pu_M} {Q : Int32 → pu_M → Prop} {v0 : Nat} (hv0 : pu_isY v0) {v1 : Int32} (H : pu_I L (d + 1) 153 [.int v1] M (fun x2 M1 => (if x2 = 0 then Q 0 M1 else (if (((M1 v0 4) >>> (v1 &&& 31)) &&& 1) = 1 then Q 1 M1 else Q 0 M1)))) : pu_I L (d + 2) 100 [.ref v0, .int v1] M Q := by
  show pu_R L (d + 2) 100 0 [.ref v0, .int v1] [] M (pu_qI Q)
  refine pu_go 1 (pc' := 1) (ls' := [.ref v0, .int v1]) (st' := [.int v1]) (M' := M) rfl ?_
  refine pu_callI (m' := 153) (ml := 1) (as := [.int v1]) (rest := []) rfl rfl rfl (Nat.le_of_ble_eq_true rfl) H (fun x2 M1 H => ?_)
  show pu_R L (d + 2) 100 4 [.ref v0, .int v1] [.int x2] M1 _
  refine pu_if_eq rfl (fun hc => ?_) (fun hc => ?_)
  · replace H := Eq.mp (if_pos hc) H
    refine pu_go 1 (pc' := 24) (ls' := [.ref v0, .int v1]) (st' := [.int 0]) (M' := M1) rfl ?_
    exact pu_ret rfl rfl ⟨_, rfl, H⟩
  · replace H := Eq.mp (if_neg hc) H
    refine pu_go 1 (pc' := 8) (ls' := [.ref v0, .int v1]) (st' := [.ref v0]) (M' := M1) rfl ?_
    refine pu_getf (j := 4) (w := .int (M1 v0 4)) rfl (pu_Y_o hv0) (Nat.lt_trans (pu_Y_lt hv0) (by decide)) rfl (by decide) rfl rfl ?_
    refine pu_go 5 (pc' := 16) (ls' := [.ref v0, .int v1]) (st' := [.int 1, .int (((M1 v0 4) >>> (v1 &&& 31)) &&& 1)]) (M' := M1) rfl ?_
    refine pu_icmp_ne rfl (fun hc => ?_) (fun hc => ?_)
    · replace H := Eq.mp (if_neg hc) H
      refine pu_go 1 (pc' := 24) (ls' := [.ref v0, .int v1]) (st' := [.int 0]) (M' := M1) rfl ?_
      exact pu_ret rfl rfl ⟨_, rfl, H⟩
    · replace H := Eq.mp (if_pos hc) H
      refine pu_go 2 (pc' := 24) (ls' := [.ref v0, .int v1]) (st' := [.int 1]) (M' := M1) rfl ?_
      exact pu_ret rfl rfl ⟨_, rfl, H⟩
/-! Yard_allTold (I)Z -/
set_option maxRecDepth 20000 in
theorem r_Yard_allTold {L d : Nat} {M : pu_M} {Q : Int32 → pu_M → Prop} {v0 : Nat} (hv0 : pu_isY v0) {v1 : Int32} (H : (if (v1 &&& ((M v0 4) ^^^ ((-1)))) = 0 then Q 1 M else Q 0 M)) : pu_I L (d + 1) 101 [.ref v0, .int v1] M Q := by
  show pu_R L (d + 1) 101 0 [.ref v0, .int v1] [] M (pu_qI Q)
  refine pu_go 2 (pc' := 2) (ls' := [.ref v0, .int v1]) (st' := [.ref v0, .int v1]) (M' := M) rfl ?_
  refine pu_getf (j := 4) (w := .int (M v0 4)) rfl (pu_Y_o hv0) (Nat.lt_trans (pu_Y_lt hv0) (by decide)) rfl (by decide) rfl rfl ?_
  refine pu_go 3 (pc' := 8) (ls' := [.ref v0, .int v1]) (st' := [.int (v1 &&& ((M v0 4) ^^^ ((-1))))]) (M' := M) rfl ?_
  refine pu_if_ne rfl (fun hc => ?_) (fun hc => ?_)
  · replace H := Eq.mp (if_neg hc) H
    refine pu_go 1 (pc' := 16) (ls' := [.ref v0, .int v1]) (st' := [.int 0]) (M' := M) rfl ?_
    exact pu_ret rfl rfl ⟨_, rfl, H⟩
  · replace H := Eq.mp (if_pos hc) H
    refine pu_go 2 (pc' := 16) (ls' := [.ref v0, .int v1]) (st' := [.int 1]) (M' := M) rfl ?_
    exact pu_ret rfl rfl ⟨_, rfl, H⟩
/-! Yard_isLaid (I)Z -/
set_option maxRecDepth 20000 in
theorem r_Yard_isLaid {L d : Nat} {M : pu_M} {Q : Int32 → pu_M → Prop} {v0 : Nat} (hv0 : pu_isY v0) {v1 : Int32} (H : pu_I L (d + 1) 153 [.int v1] M (fun x2 M1 => (if x2 = 0 then Q 0 M1 else (mq_inb v1 16 = true ∧ (if (M1 (v0 + 3) v1.toNatClampNeg) < 0 then Q 0 M1 else (mq_inb v1 16 = true ∧ (if 60 ≤ (M1 (v0 + 3) v1.toNatClampNeg) then Q 0 M1 else Q 1 M1))))))) : pu_I L (d + 2) 102 [.ref v0, .int v1] M Q := by
  show pu_R L (d + 2) 102 0 [.ref v0, .int v1] [] M (pu_qI Q)
  refine pu_go 1 (pc' := 1) (ls' := [.ref v0, .int v1]) (st' := [.int v1]) (M' := M) rfl ?_
  refine pu_callI (m' := 153) (ml := 1) (as := [.int v1]) (rest := []) rfl rfl rfl (Nat.le_of_ble_eq_true rfl) H (fun x2 M1 H => ?_)
  show pu_R L (d + 2) 102 4 [.ref v0, .int v1] [.int x2] M1 _
  refine pu_if_eq rfl (fun hc => ?_) (fun hc => ?_)
  · replace H := Eq.mp (if_pos hc) H
    refine pu_go 1 (pc' := 32) (ls' := [.ref v0, .int v1]) (st' := [.int 0]) (M' := M1) rfl ?_
    exact pu_ret rfl rfl ⟨_, rfl, H⟩
  · replace H := Eq.mp (if_neg hc) H
    refine pu_go 1 (pc' := 8) (ls' := [.ref v0, .int v1]) (st' := [.ref v0]) (M' := M1) rfl ?_
    refine pu_getf (j := 2) (w := .ref (v0 + 3)) rfl (pu_Y_o hv0) (Nat.lt_trans (pu_Y_lt hv0) (by decide)) rfl (by decide) rfl rfl ?_
    refine pu_go 1 (pc' := 12) (ls' := [.ref v0, .int v1]) (st' := [.int v1, .ref (v0 + 3)]) (M' := M1) rfl ?_
    obtain ⟨hb3, H⟩ := H
    refine pu_iald rfl (pu_Y_3 hv0) (Or.inl (pu_Y_l3 hv0)) hb3 ?_
    refine pu_if_lt rfl (fun hc => ?_) (fun hc => ?_)
    · replace H := Eq.mp (if_pos hc) H
      refine pu_go 1 (pc' := 32) (ls' := [.ref v0, .int v1]) (st' := [.int 0]) (M' := M1) rfl ?_
      exact pu_ret rfl rfl ⟨_, rfl, H⟩
    · replace H := Eq.mp (if_neg hc) H
      refine pu_go 1 (pc' := 17) (ls' := [.ref v0, .int v1]) (st' := [.ref v0]) (M' := M1) rfl ?_
      refine pu_getf (j := 2) (w := .ref (v0 + 3)) rfl (pu_Y_o hv0) (Nat.lt_trans (pu_Y_lt hv0) (by decide)) rfl (by decide) rfl rfl ?_
      refine pu_go 1 (pc' := 21) (ls' := [.ref v0, .int v1]) (st' := [.int v1, .ref (v0 + 3)]) (M' := M1) rfl ?_
      obtain ⟨hb4, H⟩ := H
      refine pu_iald rfl (pu_Y_3 hv0) (Or.inl (pu_Y_l3 hv0)) hb4 ?_
      refine pu_go 1 (pc' := 24) (ls' := [.ref v0, .int v1]) (st' := [.int 60, .int (M1 (v0 + 3) v1.toNatClampNeg)]) (M' := M1) rfl ?_
      refine pu_icmp_ge rfl (fun hc => ?_) (fun hc => ?_)
      · replace H := Eq.mp (if_pos hc) H
        refine pu_go 1 (pc' := 32) (ls' := [.ref v0, .int v1]) (st' := [.int 0]) (M' := M1) rfl ?_
        exact pu_ret rfl rfl ⟨_, rfl, H⟩
      · replace H := Eq.mp (if_neg hc) H
        refine pu_go 2 (pc' := 32) (ls' := [.ref v0, .int v1]) (st' := [.int 1]) (M' := M1) rfl ?_
        exact pu_ret rfl rfl ⟨_, rfl, H⟩
/-! Yard_laidOnes ()I -/
set_option maxRecDepth 20000 in
theorem r_Yard_laidOnes_4 {L d : Nat} {M : pu_M} {Q : Int32 → pu_M → Prop} {v0 : Nat} (hv0 : pu_isY v0) {v1 : Int32} {v2 : Int32} (H : (if 16 ≤ v2 then Q v1 M else pu_I L (d + 2) 102 [.ref v0, .int v2] M (fun x2 M1 => (if x2 = 0 then pu_R L (d + 3) 103 4 [.ref v0, .int (v1 ||| 0), .int (v2 + 1)] [] M1 (pu_qI Q) else pu_R L (d + 3) 103 4 [.ref v0, .int (v1 ||| ((1 : Int32) <<< (v2 &&& 31))), .int (v2 + 1)] [] M1 (pu_qI Q))))) : pu_R L (d + 3) 103 4 [.ref v0, .int v1, .int v2] [] M (pu_qI Q) := by
  refine pu_go 2 (pc' := 7) (ls' := [.ref v0, .int v1, .int v2]) (st' := [.int 16, .int v2]) (M' := M) rfl ?_
  refine pu_icmp_ge rfl (fun hc => ?_) (fun hc => ?_)
  · replace H := Eq.mp (if_pos hc) H
    refine pu_go 1 (pc' := 35) (ls' := [.ref v0, .int v1, .int v2]) (st' := [.int v1]) (M' := M) rfl ?_
    exact pu_ret rfl rfl ⟨_, rfl, H⟩
  · replace H := Eq.mp (if_neg hc) H
    refine pu_go 3 (pc' := 13) (ls' := [.ref v0, .int v1, .int v2]) (st' := [.int v2, .ref v0, .int v1]) (M' := M) rfl ?_
    refine pu_callI (m' := 102) (ml := 2) (as := [.ref v0, .int v2]) (rest := [.int v1]) rfl (pu_virt (pu_Y_o hv0) (Nat.lt_trans (pu_Y_lt hv0) (by decide)) ⟨Nat.le_of_ble_eq_true rfl, Nat.le_of_ble_eq_true rfl⟩ rfl rfl) rfl (Nat.le_of_ble_eq_true rfl) H (fun x2 M1 H => ?_)
    show pu_R L (d + 3) 103 16 [.ref v0, .int v1, .int v2] [.int x2, .int v1] M1 _
    refine pu_if_eq rfl (fun hc => ?_) (fun hc => ?_)
    · replace H := Eq.mp (if_pos hc) H
      refine pu_go 5 (pc' := 4) (ls' := [.ref v0, .int (v1 ||| 0), .int (v2 + 1)]) (st' := []) (M' := M1) rfl ?_
      exact H
    · replace H := Eq.mp (if_neg hc) H
      refine pu_go 8 (pc' := 4) (ls' := [.ref v0, .int (v1 ||| ((1 : Int32) <<< (v2 &&& 31))), .int (v2 + 1)]) (st' := []) (M' := M1) rfl ?_
      exact H
set_option maxRecDepth 20000 in
theorem r_Yard_laidOnes {L d : Nat} {M : pu_M} {Q : Int32 → pu_M → Prop} {v0 : Nat} (hv0 : pu_isY v0) (H : pu_R L (d + 3) 103 4 [.ref v0, .int 0, .int 0] [] M (pu_qI Q)) : pu_I L (d + 3) 103 [.ref v0] M Q := by
  show pu_R L (d + 3) 103 0 [.ref v0, mq_un, mq_un] [] M (pu_qI Q)
  refine pu_go 4 (pc' := 4) (ls' := [.ref v0, .int 0, .int 0]) (st' := []) (M' := M) rfl ?_
  exact H
/-! Yard_moodOfAll ()I -/
set_option maxRecDepth 20000 in
theorem r_Yard_moodOfAll_4 {L d : Nat} {M : pu_M} {Q : Int32 → pu_M → Prop} {v0 : Nat} (hv0 : pu_isY v0) {v1 : Int32} {v2 : Int32} (H : (if 16 ≤ v2 then Q v1 M else pu_I L (d + 2) 100 [.ref v0, .int v2] M (fun x2 M1 => (if x2 = 0 then pu_R L (d + 3) 104 4 [.ref v0, .int (v1 + 0), .int (v2 + 1)] [] M1 (pu_qI Q) else (mq_inb v2 16 = true ∧ pu_R L (d + 3) 104 4 [.ref v0, .int (v1 + (M1 (v0 + 2) v2.toNatClampNeg)), .int (v2 + 1)] [] M1 (pu_qI Q)))))) : pu_R L (d + 3) 104 4 [.ref v0, .int v1, .int v2] [] M (pu_qI Q) := by
  refine pu_go 2 (pc' := 7) (ls' := [.ref v0, .int v1, .int v2]) (st' := [.int 16, .int v2]) (M' := M) rfl ?_
  refine pu_icmp_ge rfl (fun hc => ?_) (fun hc => ?_)
  · replace H := Eq.mp (if_pos hc) H
    refine pu_go 1 (pc' := 38) (ls' := [.ref v0, .int v1, .int v2]) (st' := [.int v1]) (M' := M) rfl ?_
    exact pu_ret rfl rfl ⟨_, rfl, H⟩
  · replace H := Eq.mp (if_neg hc) H
    refine pu_go 3 (pc' := 13) (ls' := [.ref v0, .int v1, .int v2]) (st' := [.int v2, .ref v0, .int v1]) (M' := M) rfl ?_
    refine pu_callI (m' := 100) (ml := 2) (as := [.ref v0, .int v2]) (rest := [.int v1]) rfl (pu_virt (pu_Y_o hv0) (Nat.lt_trans (pu_Y_lt hv0) (by decide)) ⟨Nat.le_of_ble_eq_true rfl, Nat.le_of_ble_eq_true rfl⟩ rfl rfl) rfl (Nat.le_of_ble_eq_true rfl) H (fun x2 M1 H => ?_)
    show pu_R L (d + 3) 104 16 [.ref v0, .int v1, .int v2] [.int x2, .int v1] M1 _
    refine pu_if_eq rfl (fun hc => ?_) (fun hc => ?_)
    · replace H := Eq.mp (if_pos hc) H
      refine pu_go 5 (pc' := 4) (ls' := [.ref v0, .int (v1 + 0), .int (v2 + 1)]) (st' := []) (M' := M1) rfl ?_
      exact H
    · replace H := Eq.mp (if_neg hc) H
      refine pu_go 1 (pc' := 20) (ls' := [.ref v0, .int v1, .int v2]) (st' := [.ref v0, .int v1]) (M' := M1) rfl ?_
      refine pu_getf (j := 1) (w := .ref (v0 + 2)) rfl (pu_Y_o hv0) (Nat.lt_trans (pu_Y_lt hv0) (by decide)) rfl (by decide) rfl rfl ?_
      refine pu_go 1 (pc' := 24) (ls' := [.ref v0, .int v1, .int v2]) (st' := [.int v2, .ref (v0 + 2), .int v1]) (M' := M1) rfl ?_
      obtain ⟨hb3, H⟩ := H
      refine pu_iald rfl (pu_Y_2 hv0) (Or.inl (pu_Y_l2 hv0)) hb3 ?_
      refine pu_go 5 (pc' := 4) (ls' := [.ref v0, .int (v1 + (M1 (v0 + 2) v2.toNatClampNeg)), .int (v2 + 1)]) (st' := []) (M' := M1) rfl ?_
      exact H
set_option maxRecDepth 20000 in
theorem r_Yard_moodOfAll {L d : Nat} {M : pu_M} {Q : Int32 → pu_M → Prop} {v0 : Nat} (hv0 : pu_isY v0) (H : pu_R L (d + 3) 104 4 [.ref v0, .int 0, .int 0] [] M (pu_qI Q)) : pu_I L (d + 3) 104 [.ref v0] M Q := by
  show pu_R L (d + 3) 104 0 [.ref v0, mq_un, mq_un] [] M (pu_qI Q)
  refine pu_go 4 (pc' := 4) (ls' := [.ref v0, .int 0, .int 0]) (st' := []) (M' := M) rfl ?_
  exact H
/-! Yard_silenced ()I -/
set_option maxRecDepth 20000 in
theorem r_Yard_silenced_4 {L d : Nat} {M : pu_M} {Q : Int32 → pu_M → Prop} {v0 : Nat} (hv0 : pu_isY v0) {v1 : Int32} {v2 : Int32} (H : (if 16 ≤ v2 then Q v1 M else pu_I L (d + 2) 102 [.ref v0, .int v2] M (fun x2 M1 => (if x2 = 0 then pu_R L (d + 3) 105 4 [.ref v0, .int (v1 + 0), .int (v2 + 1)] [] M1 (pu_qI Q) else (mq_inb v2 16 = true ∧ (if (M1 (v0 + 2) v2.toNatClampNeg) = 0 then pu_R L (d + 3) 105 4 [.ref v0, .int (v1 + 1), .int (v2 + 1)] [] M1 (pu_qI Q) else pu_R L (d + 3) 105 4 [.ref v0, .int (v1 + 0), .int (v2 + 1)] [] M1 (pu_qI Q))))))) : pu_R L (d + 3) 105 4 [.ref v0, .int v1, .int v2] [] M (pu_qI Q) := by
  refine pu_go 2 (pc' := 7) (ls' := [.ref v0, .int v1, .int v2]) (st' := [.int 16, .int v2]) (M' := M) rfl ?_
  refine pu_icmp_ge rfl (fun hc => ?_) (fun hc => ?_)
  · replace H := Eq.mp (if_pos hc) H
    refine pu_go 1 (pc' := 42) (ls' := [.ref v0, .int v1, .int v2]) (st' := [.int v1]) (M' := M) rfl ?_
    exact pu_ret rfl rfl ⟨_, rfl, H⟩
  · replace H := Eq.mp (if_neg hc) H
    refine pu_go 3 (pc' := 13) (ls' := [.ref v0, .int v1, .int v2]) (st' := [.int v2, .ref v0, .int v1]) (M' := M) rfl ?_
    refine pu_callI (m' := 102) (ml := 2) (as := [.ref v0, .int v2]) (rest := [.int v1]) rfl (pu_virt (pu_Y_o hv0) (Nat.lt_trans (pu_Y_lt hv0) (by decide)) ⟨Nat.le_of_ble_eq_true rfl, Nat.le_of_ble_eq_true rfl⟩ rfl rfl) rfl (Nat.le_of_ble_eq_true rfl) H (fun x2 M1 H => ?_)
    show pu_R L (d + 3) 105 16 [.ref v0, .int v1, .int v2] [.int x2, .int v1] M1 _
    refine pu_if_eq rfl (fun hc => ?_) (fun hc => ?_)
    · replace H := Eq.mp (if_pos hc) H
      refine pu_go 5 (pc' := 4) (ls' := [.ref v0, .int (v1 + 0), .int (v2 + 1)]) (st' := []) (M' := M1) rfl ?_
      exact H
    · replace H := Eq.mp (if_neg hc) H
      refine pu_go 1 (pc' := 20) (ls' := [.ref v0, .int v1, .int v2]) (st' := [.ref v0, .int v1]) (M' := M1) rfl ?_
      refine pu_getf (j := 1) (w := .ref (v0 + 2)) rfl (pu_Y_o hv0) (Nat.lt_trans (pu_Y_lt hv0) (by decide)) rfl (by decide) rfl rfl ?_
      refine pu_go 1 (pc' := 24) (ls' := [.ref v0, .int v1, .int v2]) (st' := [.int v2, .ref (v0 + 2), .int v1]) (M' := M1) rfl ?_
      obtain ⟨hb3, H⟩ := H
      refine pu_iald rfl (pu_Y_2 hv0) (Or.inl (pu_Y_l2 hv0)) hb3 ?_
      refine pu_if_ne rfl (fun hc => ?_) (fun hc => ?_)
      · replace H := Eq.mp (if_neg hc) H
        refine pu_go 5 (pc' := 4) (ls' := [.ref v0, .int (v1 + 0), .int (v2 + 1)]) (st' := []) (M' := M1) rfl ?_
        exact H
      · replace H := Eq.mp (if_pos hc) H
        refine pu_go 6 (pc' := 4) (ls' := [.ref v0, .int (v1 + 1), .int (v2 + 1)]) (st' := []) (M' := M1) rfl ?_
        exact H
set_option maxRecDepth 20000 in
theorem r_Yard_silenced {L d : Nat} {M : pu_M} {Q : Int32 → pu_M → Prop} {v0 : Nat} (hv0 : pu_isY v0) (H : pu_R L (d + 3) 105 4 [.ref v0, .int 0, .int 0] [] M (pu_qI Q)) : pu_I L (d + 3) 105 [.ref v0] M Q := by
  show pu_R L (d + 3) 105 0 [.ref v0, mq_un, mq_un] [] M (pu_qI Q)
  refine pu_go 4 (pc' := 4) (ls' := [.ref v0, .int 0, .int 0]) (st' := []) (M' := M) rfl ?_
  exact H
/-! Yard_having (I)I -/
set_option maxRecDepth 20000 in
theorem r_Yard_having_4 {L d : Nat} {M : pu_M} {Q : Int32 → pu_M → Prop} {v0 : Nat} (hv0 : pu_isY v0) {v1 : Int32} {v2 : Int32} {v3 : Int32} (H : (if 16 ≤ v3 then Q v2 M else pu_I L (d + 2) 100 [.ref v0, .int v3] M (fun x2 M1 => (if x2 = 0 then pu_R L (d + 3) 106 4 [.ref v0, .int v1, .int (v2 ||| 0), .int (v3 + 1)] [] M1 (pu_qI Q) else (mq_inb v3 16 = true ∧ (if (((M1 (v0 + 1) v3.toNatClampNeg) >>> (v1 &&& 31)) &&& 1) = 1 then pu_R L (d + 3) 106 4 [.ref v0, .int v1, .int (v2 ||| ((1 : Int32) <<< (v3 &&& 31))), .int (v3 + 1)] [] M1 (pu_qI Q) else pu_R L (d + 3) 106 4 [.ref v0, .int v1, .int (v2 ||| 0), .int (v3 + 1)] [] M1 (pu_qI Q))))))) : pu_R L (d + 3) 106 4 [.ref v0, .int v1, .int v2, .int v3] [] M (pu_qI Q) := by
  refine pu_go 2 (pc' := 7) (ls' := [.ref v0, .int v1, .int v2, .int v3]) (st' := [.int 16, .int v3]) (M' := M) rfl ?_
  refine pu_icmp_ge rfl (fun hc => ?_) (fun hc => ?_)
  · replace H := Eq.mp (if_pos hc) H
    refine pu_go 1 (pc' := 49) (ls' := [.ref v0, .int v1, .int v2, .int v3]) (st' := [.int v2]) (M' := M) rfl ?_
    exact pu_ret rfl rfl ⟨_, rfl, H⟩
  · replace H := Eq.mp (if_neg hc) H
    refine pu_go 3 (pc' := 13) (ls' := [.ref v0, .int v1, .int v2, .int v3]) (st' := [.int v3, .ref v0, .int v2]) (M' := M) rfl ?_
    refine pu_callI (m' := 100) (ml := 2) (as := [.ref v0, .int v3]) (rest := [.int v2]) rfl (pu_virt (pu_Y_o hv0) (Nat.lt_trans (pu_Y_lt hv0) (by decide)) ⟨Nat.le_of_ble_eq_true rfl, Nat.le_of_ble_eq_true rfl⟩ rfl rfl) rfl (Nat.le_of_ble_eq_true rfl) H (fun x2 M1 H => ?_)
    show pu_R L (d + 3) 106 16 [.ref v0, .int v1, .int v2, .int v3] [.int x2, .int v2] M1 _
    refine pu_if_eq rfl (fun hc => ?_) (fun hc => ?_)
    · replace H := Eq.mp (if_pos hc) H
      refine pu_go 5 (pc' := 4) (ls' := [.ref v0, .int v1, .int (v2 ||| 0), .int (v3 + 1)]) (st' := []) (M' := M1) rfl ?_
      exact H
    · replace H := Eq.mp (if_neg hc) H
      refine pu_go 1 (pc' := 20) (ls' := [.ref v0, .int v1, .int v2, .int v3]) (st' := [.ref v0, .int v2]) (M' := M1) rfl ?_
      refine pu_getf (j := 0) (w := .ref (v0 + 1)) rfl (pu_Y_o hv0) (Nat.lt_trans (pu_Y_lt hv0) (by decide)) rfl (by decide) rfl rfl ?_
      refine pu_go 1 (pc' := 24) (ls' := [.ref v0, .int v1, .int v2, .int v3]) (st' := [.int v3, .ref (v0 + 1), .int v2]) (M' := M1) rfl ?_
      obtain ⟨hb3, H⟩ := H
      refine pu_iald rfl (pu_Y_1 hv0) (Or.inl (pu_Y_l1 hv0)) hb3 ?_
      refine pu_go 5 (pc' := 30) (ls' := [.ref v0, .int v1, .int v2, .int v3]) (st' := [.int 1, .int (((M1 (v0 + 1) v3.toNatClampNeg) >>> (v1 &&& 31)) &&& 1), .int v2]) (M' := M1) rfl ?_
      refine pu_icmp_ne rfl (fun hc => ?_) (fun hc => ?_)
      · replace H := Eq.mp (if_neg hc) H
        refine pu_go 5 (pc' := 4) (ls' := [.ref v0, .int v1, .int (v2 ||| 0), .int (v3 + 1)]) (st' := []) (M' := M1) rfl ?_
        exact H
      · replace H := Eq.mp (if_pos hc) H
        refine pu_go 8 (pc' := 4) (ls' := [.ref v0, .int v1, .int (v2 ||| ((1 : Int32) <<< (v3 &&& 31))), .int (v3 + 1)]) (st' := []) (M' := M1) rfl ?_
        exact H
set_option maxRecDepth 20000 in
theorem r_Yard_having {L d : Nat} {M : pu_M} {Q : Int32 → pu_M → Prop} {v0 : Nat} (hv0 : pu_isY v0) {v1 : Int32} (H : pu_R L (d + 3) 106 4 [.ref v0, .int v1, .int 0, .int 0] [] M (pu_qI Q)) : pu_I L (d + 3) 106 [.ref v0, .int v1] M Q := by
  show pu_R L (d + 3) 106 0 [.ref v0, .int v1, mq_un, mq_un] [] M (pu_qI Q)
  refine pu_go 4 (pc' := 4) (ls' := [.ref v0, .int v1, .int 0, .int 0]) (st' := []) (M' := M) rfl ?_
  exact H
/-! Yard_rank (I)I -/
set_option maxRecDepth 20000 in
theorem r_Yard_rank_50 {L d : Nat} {M : pu_M} {Q : Int32 → pu_M → Prop} {v0 : Nat} (hv0 : pu_isY v0) {v1 : Int32} {v2 : Int32} {v3 : Int32} {v4 : Value} {s0 : Int32} (H : pu_I L (d + 2) 100 [.ref v0, .int v3] M (fun x2 M1 => (if x2 = 0 then pu_R L (d + 3) 107 4 [.ref v0, .int v1, .int (v2 + 0), .int (v3 + 1), .int s0] [] M1 (pu_qI Q) else (if s0 = 0 then pu_R L (d + 3) 107 4 [.ref v0, .int v1, .int (v2 + 0), .int (v3 + 1), .int s0] [] M1 (pu_qI Q) else pu_R L (d + 3) 107 4 [.ref v0, .int v1, .int (v2 + 1), .int (v3 + 1), .int s0] [] M1 (pu_qI Q))))) : pu_R L (d + 3) 107 50 [.ref v0, .int v1, .int v2, .int v3, v4] [.int s0] M (pu_qI Q) := by
  refine pu_go 4 (pc' := 55) (ls' := [.ref v0, .int v1, .int v2, .int v3, .int s0]) (st' := [.int v3, .ref v0, .int v2]) (M' := M) rfl ?_
  refine pu_callI (m' := 100) (ml := 2) (as := [.ref v0, .int v3]) (rest := [.int v2]) rfl (pu_virt (pu_Y_o hv0) (Nat.lt_trans (pu_Y_lt hv0) (by decide)) ⟨Nat.le_of_ble_eq_true rfl, Nat.le_of_ble_eq_true rfl⟩ rfl rfl) rfl (Nat.le_of_ble_eq_true rfl) H (fun x2 M1 H => ?_)
  show pu_R L (d + 3) 107 58 [.ref v0, .int v1, .int v2, .int v3, .int s0] [.int x2, .int v2] M1 _
  refine pu_if_eq rfl (fun hc => ?_) (fun hc => ?_)
  · replace H := Eq.mp (if_pos hc) H
    refine pu_go 5 (pc' := 4) (ls' := [.ref v0, .int v1, .int (v2 + 0), .int (v3 + 1), .int s0]) (st' := []) (M' := M1) rfl ?_
    exact H
  · replace H := Eq.mp (if_neg hc) H
    refine pu_go 1 (pc' := 63) (ls' := [.ref v0, .int v1, .int v2, .int v3, .int s0]) (st' := [.int s0, .int v2]) (M' := M1) rfl ?_
    refine pu_if_eq rfl (fun hc => ?_) (fun hc => ?_)
    · replace H := Eq.mp (if_pos hc) H
      refine pu_go 5 (pc' := 4) (ls' := [.ref v0, .int v1, .int (v2 + 0), .int (v3 + 1), .int s0]) (st' := []) (M' := M1) rfl ?_
      exact H
    · replace H := Eq.mp (if_neg hc) H
      refine pu_go 6 (pc' := 4) (ls' := [.ref v0, .int v1, .int (v2 + 1), .int (v3 + 1), .int s0]) (st' := []) (M' := M1) rfl ?_
      exact H
set_option maxRecDepth 20000 in
theorem r_Yard_rank_4 {L d : Nat} {M : pu_M} {Q : Int32 → pu_M → Prop} {v0 : Nat} (hv0 : pu_isY v0) {v1 : Int32} {v2 : Int32} {v3 : Int32} {v4 : Value} (H : (if 16 ≤ v3 then Q v2 M else (mq_inb v3 16 = true ∧ (mq_inb v1 16 = true ∧ (if (M (v0 + 2) v1.toNatClampNeg) < (M (v0 + 2) v3.toNatClampNeg) then pu_R L (d + 3) 107 50 [.ref v0, .int v1, .int v2, .int v3, v4] [.int 1] M (pu_qI Q) else (mq_inb v3 16 = true ∧ (mq_inb v1 16 = true ∧ (if (M (v0 + 2) v3.toNatClampNeg) = (M (v0 + 2) v1.toNatClampNeg) then (if v1 ≤ v3 then pu_R L (d + 3) 107 50 [.ref v0, .int v1, .int v2, .int v3, v4] [.int 0] M (pu_qI Q) else pu_R L (d + 3) 107 50 [.ref v0, .int v1, .int v2, .int v3, v4] [.int 1] M (pu_qI Q)) else pu_R L (d + 3) 107 50 [.ref v0, .int v1, .int v2, .int v3, v4] [.int 0] M (pu_qI Q))))))))) : pu_R L (d + 3) 107 4 [.ref v0, .int v1, .int v2, .int v3, v4] [] M (pu_qI Q) := by
  refine pu_go 2 (pc' := 7) (ls' := [.ref v0, .int v1, .int v2, .int v3, v4]) (st' := [.int 16, .int v3]) (M' := M) rfl ?_
  refine pu_icmp_ge rfl (fun hc => ?_) (fun hc => ?_)
  · replace H := Eq.mp (if_pos hc) H
    refine pu_go 1 (pc' := 80) (ls' := [.ref v0, .int v1, .int v2, .int v3, v4]) (st' := [.int v2]) (M' := M) rfl ?_
    exact pu_ret rfl rfl ⟨_, rfl, H⟩
  · replace H := Eq.mp (if_neg hc) H
    refine pu_go 1 (pc' := 11) (ls' := [.ref v0, .int v1, .int v2, .int v3, v4]) (st' := [.ref v0]) (M' := M) rfl ?_
    refine pu_getf (j := 1) (w := .ref (v0 + 2)) rfl (pu_Y_o hv0) (Nat.lt_trans (pu_Y_lt hv0) (by decide)) rfl (by decide) rfl rfl ?_
    refine pu_go 1 (pc' := 15) (ls' := [.ref v0, .int v1, .int v2, .int v3, v4]) (st' := [.int v3, .ref (v0 + 2)]) (M' := M) rfl ?_
    obtain ⟨hb1, H⟩ := H
    refine pu_iald rfl (pu_Y_2 hv0) (Or.inl (pu_Y_l2 hv0)) hb1 ?_
    refine pu_go 1 (pc' := 17) (ls' := [.ref v0, .int v1, .int v2, .int v3, v4]) (st' := [.ref v0, .int (M (v0 + 2) v3.toNatClampNeg)]) (M' := M) rfl ?_
    refine pu_getf (j := 1) (w := .ref (v0 + 2)) rfl (pu_Y_o hv0) (Nat.lt_trans (pu_Y_lt hv0) (by decide)) rfl (by decide) rfl rfl ?_
    refine pu_go 1 (pc' := 21) (ls' := [.ref v0, .int v1, .int v2, .int v3, v4]) (st' := [.int v1, .ref (v0 + 2), .int (M (v0 + 2) v3.toNatClampNeg)]) (M' := M) rfl ?_
    obtain ⟨hb2, H⟩ := H
    refine pu_iald rfl (pu_Y_2 hv0) (Or.inl (pu_Y_l2 hv0)) hb2 ?_
    refine pu_icmp_gt rfl (fun hc => ?_) (fun hc => ?_)
    · replace H := Eq.mp (if_pos hc) H
      refine pu_go 2 (pc' := 50) (ls' := [.ref v0, .int v1, .int v2, .int v3, v4]) (st' := [.int 1]) (M' := M) rfl ?_
      exact H
    · replace H := Eq.mp (if_neg hc) H
      refine pu_go 1 (pc' := 26) (ls' := [.ref v0, .int v1, .int v2, .int v3, v4]) (st' := [.ref v0]) (M' := M) rfl ?_
      refine pu_getf (j := 1) (w := .ref (v0 + 2)) rfl (pu_Y_o hv0) (Nat.lt_trans (pu_Y_lt hv0) (by decide)) rfl (by decide) rfl rfl ?_
      refine pu_go 1 (pc' := 30) (ls' := [.ref v0, .int v1, .int v2, .int v3, v4]) (st' := [.int v3, .ref (v0 + 2)]) (M' := M) rfl ?_
      obtain ⟨hb3, H⟩ := H
      refine pu_iald rfl (pu_Y_2 hv0) (Or.inl (pu_Y_l2 hv0)) hb3 ?_
      refine pu_go 1 (pc' := 32) (ls' := [.ref v0, .int v1, .int v2, .int v3, v4]) (st' := [.ref v0, .int (M (v0 + 2) v3.toNatClampNeg)]) (M' := M) rfl ?_
      refine pu_getf (j := 1) (w := .ref (v0 + 2)) rfl (pu_Y_o hv0) (Nat.lt_trans (pu_Y_lt hv0) (by decide)) rfl (by decide) rfl rfl ?_
      refine pu_go 1 (pc' := 36) (ls' := [.ref v0, .int v1, .int v2, .int v3, v4]) (st' := [.int v1, .ref (v0 + 2), .int (M (v0 + 2) v3.toNatClampNeg)]) (M' := M) rfl ?_
      obtain ⟨hb4, H⟩ := H
      refine pu_iald rfl (pu_Y_2 hv0) (Or.inl (pu_Y_l2 hv0)) hb4 ?_
      refine pu_icmp_ne rfl (fun hc => ?_) (fun hc => ?_)
      · replace H := Eq.mp (if_neg hc) H
        refine pu_go 1 (pc' := 50) (ls' := [.ref v0, .int v1, .int v2, .int v3, v4]) (st' := [.int 0]) (M' := M) rfl ?_
        exact H
      · replace H := Eq.mp (if_pos hc) H
        refine pu_go 2 (pc' := 42) (ls' := [.ref v0, .int v1, .int v2, .int v3, v4]) (st' := [.int v1, .int v3]) (M' := M) rfl ?_
        refine pu_icmp_ge rfl (fun hc => ?_) (fun hc => ?_)
        · replace H := Eq.mp (if_pos hc) H
          refine pu_go 1 (pc' := 50) (ls' := [.ref v0, .int v1, .int v2, .int v3, v4]) (st' := [.int 0]) (M' := M) rfl ?_
          exact H
        · replace H := Eq.mp (if_neg hc) H
          refine pu_go 2 (pc' := 50) (ls' := [.ref v0, .int v1, .int v2, .int v3, v4]) (st' := [.int 1]) (M' := M) rfl ?_
          exact H
set_option maxRecDepth 20000 in
theorem r_Yard_rank {L d : Nat} {M : pu_M} {Q : Int32 → pu_M → Prop} {v0 : Nat} (hv0 : pu_isY v0) {v1 : Int32} (H : pu_R L (d + 3) 107 4 [.ref v0, .int v1, .int 0, .int 0, mq_un] [] M (pu_qI Q)) : pu_I L (d + 3) 107 [.ref v0, .int v1] M Q := by
  show pu_R L (d + 3) 107 0 [.ref v0, .int v1, mq_un, mq_un, mq_un] [] M (pu_qI Q)
  refine pu_go 4 (pc' := 4) (ls' := [.ref v0, .int v1, .int 0, .int 0, mq_un]) (st' := []) (M' := M) rfl ?_
  exact H
/-! Yard_tell (III)V -/
set_option maxRecDepth 20000 in
theorem r_Yard_tell {L d : Nat} {M : pu_M} {Q : pu_M → Prop} {v0 : Nat} (hv0 : pu_isY v0) {v1 : Int32} {v2 : Int32} {v3 : Int32} (H : pu_V L (d + 3) 109 [.ref v0, .int v1] M (fun M1 => (mq_inb v1 16 = true ∧ (mq_inb v1 16 = true ∧ (∀ M4 : pu_M, M4 = pu_wr (pu_wr (pu_wr M1 (v0 + 1) v1.toNatClampNeg v2) (v0 + 2) v1.toNatClampNeg v3) v0 4 (((pu_wr (pu_wr M1 (v0 + 1) v1.toNatClampNeg v2) (v0 + 2) v1.toNatClampNeg v3) v0 4) ||| ((1 : Int32) <<< (v1 &&& 31))) → Q M4))))) : pu_V L (d + 4) 108 [.ref v0, .int v1, .int v2, .int v3] M Q := by
  show pu_R L (d + 4) 108 0 [.ref v0, .int v1, .int v2, .int v3] [] M (pu_qV Q)
  refine pu_go 2 (pc' := 2) (ls' := [.ref v0, .int v1, .int v2, .int v3]) (st' := [.int v1, .ref v0]) (M' := M) rfl ?_
  refine pu_callV (m' := 109) (ml := 2) (as := [.ref v0, .int v1]) (rest := []) rfl (pu_virt (pu_Y_o hv0) (Nat.lt_trans (pu_Y_lt hv0) (by decide)) ⟨Nat.le_of_ble_eq_true rfl, Nat.le_of_ble_eq_true rfl⟩ rfl rfl) rfl (Nat.le_of_ble_eq_true rfl) H (fun M1 H => ?_)
  show pu_R L (d + 4) 108 5 [.ref v0, .int v1, .int v2, .int v3] [] M1 _
  refine pu_go 1 (pc' := 6) (ls' := [.ref v0, .int v1, .int v2, .int v3]) (st' := [.ref v0]) (M' := M1) rfl ?_
  refine pu_getf (j := 0) (w := .ref (v0 + 1)) rfl (pu_Y_o hv0) (Nat.lt_trans (pu_Y_lt hv0) (by decide)) rfl (by decide) rfl rfl ?_
  refine pu_go 2 (pc' := 11) (ls' := [.ref v0, .int v1, .int v2, .int v3]) (st' := [.int v2, .int v1, .ref (v0 + 1)]) (M' := M1) rfl ?_
  obtain ⟨hb2, H⟩ := H
  refine pu_iast rfl (pu_Y_1 hv0) (pu_Y_l1 hv0) hb2 ?_
  refine pu_go 1 (pc' := 13) (ls' := [.ref v0, .int v1, .int v2, .int v3]) (st' := [.ref v0]) (M' := pu_wr M1 (v0 + 1) v1.toNatClampNeg v2) rfl ?_
  refine pu_getf (j := 1) (w := .ref (v0 + 2)) rfl (pu_Y_o hv0) (Nat.lt_trans (pu_Y_lt hv0) (by decide)) rfl (by decide) rfl rfl ?_
  refine pu_go 2 (pc' := 18) (ls' := [.ref v0, .int v1, .int v2, .int v3]) (st' := [.int v3, .int v1, .ref (v0 + 2)]) (M' := pu_wr M1 (v0 + 1) v1.toNatClampNeg v2) rfl ?_
  obtain ⟨hb3, H⟩ := H
  refine pu_iast rfl (pu_Y_2 hv0) (pu_Y_l2 hv0) hb3 ?_
  refine pu_go 2 (pc' := 21) (ls' := [.ref v0, .int v1, .int v2, .int v3]) (st' := [.ref v0, .ref v0]) (M' := pu_wr (pu_wr M1 (v0 + 1) v1.toNatClampNeg v2) (v0 + 2) v1.toNatClampNeg v3) rfl ?_
  refine pu_getf (j := 4) (w := .int ((pu_wr (pu_wr M1 (v0 + 1) v1.toNatClampNeg v2) (v0 + 2) v1.toNatClampNeg v3) v0 4)) rfl (pu_Y_o hv0) (Nat.lt_trans (pu_Y_lt hv0) (by decide)) rfl (by decide) rfl rfl ?_
  refine pu_go 4 (pc' := 28) (ls' := [.ref v0, .int v1, .int v2, .int v3]) (st' := [.int (((pu_wr (pu_wr M1 (v0 + 1) v1.toNatClampNeg v2) (v0 + 2) v1.toNatClampNeg v3) v0 4) ||| ((1 : Int32) <<< (v1 &&& 31))), .ref v0]) (M' := pu_wr (pu_wr M1 (v0 + 1) v1.toNatClampNeg v2) (v0 + 2) v1.toNatClampNeg v3) rfl ?_
  refine pu_putf (j := 4) (z := ((pu_wr (pu_wr M1 (v0 + 1) v1.toNatClampNeg v2) (v0 + 2) v1.toNatClampNeg v3) v0 4) ||| ((1 : Int32) <<< (v1 &&& 31))) rfl (pu_Y_o hv0) (Nat.lt_trans (pu_Y_lt hv0) (by decide)) rfl (by decide) rfl rfl pu_put_hw ?_
  refine pu_named (fun M4 eM5 => ?_)
  replace H := H M4 eM5
  exact pu_ret rfl rfl ⟨rfl, H⟩
/-! Yard_takeUp (I)V -/
set_option maxRecDepth 20000 in
theorem r_Yard_takeUp {L d : Nat} {M : pu_M} {Q : pu_M → Prop} {v0 : Nat} (hv0 : pu_isY v0) {v1 : Int32} (H : pu_I L (d + 2) 102 [.ref v0, .int v1] M (fun x2 M1 => (if x2 = 0 then Q M1 else (mq_inb v1 16 = true ∧ (mq_inb (M1 (v0 + 3) v1.toNatClampNeg) 60 = true ∧ (mq_inb v1 16 = true ∧ Q (pu_wr (pu_wr M1 (v0 + 4) (M1 (v0 + 3) v1.toNatClampNeg : Int32).toNatClampNeg ((-2))) (v0 + 3) v1.toNatClampNeg ((-2))))))))) : pu_V L (d + 3) 109 [.ref v0, .int v1] M Q := by
  show pu_R L (d + 3) 109 0 [.ref v0, .int v1] [] M (pu_qV Q)
  refine pu_go 2 (pc' := 2) (ls' := [.ref v0, .int v1]) (st' := [.int v1, .ref v0]) (M' := M) rfl ?_
  refine pu_callI (m' := 102) (ml := 2) (as := [.ref v0, .int v1]) (rest := []) rfl (pu_virt (pu_Y_o hv0) (Nat.lt_trans (pu_Y_lt hv0) (by decide)) ⟨Nat.le_of_ble_eq_true rfl, Nat.le_of_ble_eq_true rfl⟩ rfl rfl) rfl (Nat.le_of_ble_eq_true rfl) H (fun x2 M1 H => ?_)
  show pu_R L (d + 3) 109 5 [.ref v0, .int v1] [.int x2] M1 _
  refine pu_if_eq rfl (fun hc => ?_) (fun hc => ?_)
  · replace H := Eq.mp (if_pos hc) H
    exact pu_ret rfl rfl ⟨rfl, H⟩
  · replace H := Eq.mp (if_neg hc) H
    refine pu_go 1 (pc' := 9) (ls' := [.ref v0, .int v1]) (st' := [.ref v0]) (M' := M1) rfl ?_
    refine pu_getf (j := 3) (w := .ref (v0 + 4)) rfl (pu_Y_o hv0) (Nat.lt_trans (pu_Y_lt hv0) (by decide)) rfl (by decide) rfl rfl ?_
    refine pu_go 1 (pc' := 13) (ls' := [.ref v0, .int v1]) (st' := [.ref v0, .ref (v0 + 4)]) (M' := M1) rfl ?_
    refine pu_getf (j := 2) (w := .ref (v0 + 3)) rfl (pu_Y_o hv0) (Nat.lt_trans (pu_Y_lt hv0) (by decide)) rfl (by decide) rfl rfl ?_
    refine pu_go 1 (pc' := 17) (ls' := [.ref v0, .int v1]) (st' := [.int v1, .ref (v0 + 3), .ref (v0 + 4)]) (M' := M1) rfl ?_
    obtain ⟨hb3, H⟩ := H
    refine pu_iald rfl (pu_Y_3 hv0) (Or.inl (pu_Y_l3 hv0)) hb3 ?_
    refine pu_go 1 (pc' := 20) (ls' := [.ref v0, .int v1]) (st' := [.int ((-2)), .int (M1 (v0 + 3) v1.toNatClampNeg), .ref (v0 + 4)]) (M' := M1) rfl ?_
    obtain ⟨hb4, H⟩ := H
    refine pu_iast rfl (pu_Y_4 hv0) (pu_Y_l4 hv0) hb4 ?_
    refine pu_go 1 (pc' := 22) (ls' := [.ref v0, .int v1]) (st' := [.ref v0]) (M' := pu_wr M1 (v0 + 4) (M1 (v0 + 3) v1.toNatClampNeg : Int32).toNatClampNeg ((-2))) rfl ?_
    refine pu_getf (j := 2) (w := .ref (v0 + 3)) rfl (pu_Y_o hv0) (Nat.lt_trans (pu_Y_lt hv0) (by decide)) rfl (by decide) rfl rfl ?_
    refine pu_go 2 (pc' := 28) (ls' := [.ref v0, .int v1]) (st' := [.int ((-2)), .int v1, .ref (v0 + 3)]) (M' := pu_wr M1 (v0 + 4) (M1 (v0 + 3) v1.toNatClampNeg : Int32).toNatClampNeg ((-2))) rfl ?_
    obtain ⟨hb5, H⟩ := H
    refine pu_iast rfl (pu_Y_3 hv0) (pu_Y_l3 hv0) hb5 ?_
    exact pu_ret rfl rfl ⟨rfl, H⟩
/-! Yard_lay (II)V -/
set_option maxRecDepth 20000 in
theorem r_Yard_lay {L d : Nat} {M : pu_M} {Q : pu_M → Prop} {v0 : Nat} (hv0 : pu_isY v0) {v1 : Int32} {v2 : Int32} (H : pu_V L (d + 3) 109 [.ref v0, .int v1] M (fun M1 => (if v2 < 0 then Q M1 else (if 60 ≤ v2 then Q M1 else (mq_inb v1 16 = true ∧ (mq_inb v2 60 = true ∧ Q (pu_wr (pu_wr M1 (v0 + 3) v1.toNatClampNeg v2) (v0 + 4) v2.toNatClampNeg v1))))))) : pu_V L (d + 4) 110 [.ref v0, .int v1, .int v2] M Q := by
  show pu_R L (d + 4) 110 0 [.ref v0, .int v1, .int v2] [] M (pu_qV Q)
  refine pu_go 2 (pc' := 2) (ls' := [.ref v0, .int v1, .int v2]) (st' := [.int v1, .ref v0]) (M' := M) rfl ?_
  refine pu_callV (m' := 109) (ml := 2) (as := [.ref v0, .int v1]) (rest := []) rfl (pu_virt (pu_Y_o hv0) (Nat.lt_trans (pu_Y_lt hv0) (by decide)) ⟨Nat.le_of_ble_eq_true rfl, Nat.le_of_ble_eq_true rfl⟩ rfl rfl) rfl (Nat.le_of_ble_eq_true rfl) H (fun M1 H => ?_)
  show pu_R L (d + 4) 110 5 [.ref v0, .int v1, .int v2] [] M1 _
  refine pu_go 1 (pc' := 6) (ls' := [.ref v0, .int v1, .int v2]) (st' := [.int v2]) (M' := M1) rfl ?_
  refine pu_if_lt rfl (fun hc => ?_) (fun hc => ?_)
  · replace H := Eq.mp (if_pos hc) H
    exact pu_ret rfl rfl ⟨rfl, H⟩
  · replace H := Eq.mp (if_neg hc) H
    refine pu_go 2 (pc' := 12) (ls' := [.ref v0, .int v1, .int v2]) (st' := [.int 60, .int v2]) (M' := M1) rfl ?_
    refine pu_icmp_ge rfl (fun hc => ?_) (fun hc => ?_)
    · replace H := Eq.mp (if_pos hc) H
      exact pu_ret rfl rfl ⟨rfl, H⟩
    · replace H := Eq.mp (if_neg hc) H
      refine pu_go 1 (pc' := 16) (ls' := [.ref v0, .int v1, .int v2]) (st' := [.ref v0]) (M' := M1) rfl ?_
      refine pu_getf (j := 2) (w := .ref (v0 + 3)) rfl (pu_Y_o hv0) (Nat.lt_trans (pu_Y_lt hv0) (by decide)) rfl (by decide) rfl rfl ?_
      refine pu_go 2 (pc' := 21) (ls' := [.ref v0, .int v1, .int v2]) (st' := [.int v2, .int v1, .ref (v0 + 3)]) (M' := M1) rfl ?_
      obtain ⟨hb2, H⟩ := H
      refine pu_iast rfl (pu_Y_3 hv0) (pu_Y_l3 hv0) hb2 ?_
      refine pu_go 1 (pc' := 23) (ls' := [.ref v0, .int v1, .int v2]) (st' := [.ref v0]) (M' := pu_wr M1 (v0 + 3) v1.toNatClampNeg v2) rfl ?_
      refine pu_getf (j := 3) (w := .ref (v0 + 4)) rfl (pu_Y_o hv0) (Nat.lt_trans (pu_Y_lt hv0) (by decide)) rfl (by decide) rfl rfl ?_
      refine pu_go 2 (pc' := 28) (ls' := [.ref v0, .int v1, .int v2]) (st' := [.int v1, .int v2, .ref (v0 + 4)]) (M' := pu_wr M1 (v0 + 3) v1.toNatClampNeg v2) rfl ?_
      obtain ⟨hb3, H⟩ := H
      refine pu_iast rfl (pu_Y_4 hv0) (pu_Y_l4 hv0) hb3 ?_
      exact pu_ret rfl rfl ⟨rfl, H⟩
/-! Yard_exchange (II)V -/
set_option maxRecDepth 20000 in
theorem r_Yard_exchange {L d : Nat} {M : pu_M} {Q : pu_M → Prop} {v0 : Nat} (hv0 : pu_isY v0) {v1 : Int32} {v2 : Int32} (H : (mq_inb v1 16 = true ∧ (mq_inb v2 16 = true ∧ pu_V L (d + 4) 109 [.ref v0, .int v1] M (fun M3 => pu_V L (d + 4) 109 [.ref v0, .int v2] M3 (fun M4 => pu_V L (d + 4) 110 [.ref v0, .int v1, .int (M (v0 + 3) v2.toNatClampNeg)] M4 (fun M5 => pu_V L (d + 4) 110 [.ref v0, .int v2, .int (M (v0 + 3) v1.toNatClampNeg)] M5 (fun M6 => Q M6))))))) : pu_V L (d + 5) 111 [.ref v0, .int v1, .int v2] M Q := by
  show pu_R L (d + 5) 111 0 [.ref v0, .int v1, .int v2, mq_un, mq_un] [] M (pu_qV Q)
  refine pu_go 1 (pc' := 1) (ls' := [.ref v0, .int v1, .int v2, mq_un, mq_un]) (st' := [.ref v0]) (M' := M) rfl ?_
  refine pu_getf (j := 2) (w := .ref (v0 + 3)) rfl (pu_Y_o hv0) (Nat.lt_trans (pu_Y_lt hv0) (by decide)) rfl (by decide) rfl rfl ?_
  refine pu_go 1 (pc' := 5) (ls' := [.ref v0, .int v1, .int v2, mq_un, mq_un]) (st' := [.int v1, .ref (v0 + 3)]) (M' := M) rfl ?_
  obtain ⟨hb1, H⟩ := H
  refine pu_iald rfl (pu_Y_3 hv0) (Or.inl (pu_Y_l3 hv0)) hb1 ?_
  refine pu_go 2 (pc' := 8) (ls' := [.ref v0, .int v1, .int v2, .int (M (v0 + 3) v1.toNatClampNeg), mq_un]) (st' := [.ref v0]) (M' := M) rfl ?_
  refine pu_getf (j := 2) (w := .ref (v0 + 3)) rfl (pu_Y_o hv0) (Nat.lt_trans (pu_Y_lt hv0) (by decide)) rfl (by decide) rfl rfl ?_
  refine pu_go 1 (pc' := 12) (ls' := [.ref v0, .int v1, .int v2, .int (M (v0 + 3) v1.toNatClampNeg), mq_un]) (st' := [.int v2, .ref (v0 + 3)]) (M' := M) rfl ?_
  obtain ⟨hb2, H⟩ := H
  refine pu_iald rfl (pu_Y_3 hv0) (Or.inl (pu_Y_l3 hv0)) hb2 ?_
  refine pu_go 3 (pc' := 17) (ls' := [.ref v0, .int v1, .int v2, .int (M (v0 + 3) v1.toNatClampNeg), .int (M (v0 + 3) v2.toNatClampNeg)]) (st' := [.int v1, .ref v0]) (M' := M) rfl ?_
  refine pu_callV (m' := 109) (ml := 2) (as := [.ref v0, .int v1]) (rest := []) rfl (pu_virt (pu_Y_o hv0) (Nat.lt_trans (pu_Y_lt hv0) (by decide)) ⟨Nat.le_of_ble_eq_true rfl, Nat.le_of_ble_eq_true rfl⟩ rfl rfl) rfl (Nat.le_of_ble_eq_true rfl) H (fun M3 H => ?_)
  show pu_R L (d + 5) 111 20 [.ref v0, .int v1, .int v2, .int (M (v0 + 3) v1.toNatClampNeg), .int (M (v0 + 3) v2.toNatClampNeg)] [] M3 _
  refine pu_go 2 (pc' := 22) (ls' := [.ref v0, .int v1, .int v2, .int (M (v0 + 3) v1.toNatClampNeg), .int (M (v0 + 3) v2.toNatClampNeg)]) (st' := [.int v2, .ref v0]) (M' := M3) rfl ?_
  refine pu_callV (m' := 109) (ml := 2) (as := [.ref v0, .int v2]) (rest := []) rfl (pu_virt (pu_Y_o hv0) (Nat.lt_trans (pu_Y_lt hv0) (by decide)) ⟨Nat.le_of_ble_eq_true rfl, Nat.le_of_ble_eq_true rfl⟩ rfl rfl) rfl (Nat.le_of_ble_eq_true rfl) H (fun M4 H => ?_)
  show pu_R L (d + 5) 111 25 [.ref v0, .int v1, .int v2, .int (M (v0 + 3) v1.toNatClampNeg), .int (M (v0 + 3) v2.toNatClampNeg)] [] M4 _
  refine pu_go 3 (pc' := 29) (ls' := [.ref v0, .int v1, .int v2, .int (M (v0 + 3) v1.toNatClampNeg), .int (M (v0 + 3) v2.toNatClampNeg)]) (st' := [.int (M (v0 + 3) v2.toNatClampNeg), .int v1, .ref v0]) (M' := M4) rfl ?_
  refine pu_callV (m' := 110) (ml := 3) (as := [.ref v0, .int v1, .int (M (v0 + 3) v2.toNatClampNeg)]) (rest := []) rfl (pu_virt (pu_Y_o hv0) (Nat.lt_trans (pu_Y_lt hv0) (by decide)) ⟨Nat.le_of_ble_eq_true rfl, Nat.le_of_ble_eq_true rfl⟩ rfl rfl) rfl (Nat.le_of_ble_eq_true rfl) H (fun M5 H => ?_)
  show pu_R L (d + 5) 111 32 [.ref v0, .int v1, .int v2, .int (M (v0 + 3) v1.toNatClampNeg), .int (M (v0 + 3) v2.toNatClampNeg)] [] M5 _
  refine pu_go 3 (pc' := 35) (ls' := [.ref v0, .int v1, .int v2, .int (M (v0 + 3) v1.toNatClampNeg), .int (M (v0 + 3) v2.toNatClampNeg)]) (st' := [.int (M (v0 + 3) v1.toNatClampNeg), .int v2, .ref v0]) (M' := M5) rfl ?_
  refine pu_callV (m' := 110) (ml := 3) (as := [.ref v0, .int v2, .int (M (v0 + 3) v1.toNatClampNeg)]) (rest := []) rfl (pu_virt (pu_Y_o hv0) (Nat.lt_trans (pu_Y_lt hv0) (by decide)) ⟨Nat.le_of_ble_eq_true rfl, Nat.le_of_ble_eq_true rfl⟩ rfl rfl) rfl (Nat.le_of_ble_eq_true rfl) H (fun M6 H => ?_)
  show pu_R L (d + 5) 111 38 [.ref v0, .int v1, .int v2, .int (M (v0 + 3) v1.toNatClampNeg), .int (M (v0 + 3) v2.toNatClampNeg)] [] M6 _
  exact pu_ret rfl rfl ⟨rfl, H⟩
/-! Yard_bitOn (I)I -/
set_option maxRecDepth 20000 in
theorem r_Yard_bitOn {L d : Nat} {M : pu_M} {Q : Int32 → pu_M → Prop} {v0 : Nat} (hv0 : pu_isY v0) {v1 : Int32} (H : (if v1 < 0 then (if (0 : Int32) = 0 then Q 0 M else (mq_inb v1 60 = true ∧ Q ((1 : Int32) <<< ((M (v0 + 4) v1.toNatClampNeg) &&& 31)) M)) else (if 60 ≤ v1 then (if (0 : Int32) = 0 then Q 0 M else (mq_inb v1 60 = true ∧ Q ((1 : Int32) <<< ((M (v0 + 4) v1.toNatClampNeg) &&& 31)) M)) else (mq_inb v1 60 = true ∧ (if (M (v0 + 4) v1.toNatClampNeg) < 0 then (if (0 : Int32) = 0 then Q 0 M else (mq_inb v1 60 = true ∧ Q ((1 : Int32) <<< ((M (v0 + 4) v1.toNatClampNeg) &&& 31)) M)) else (if (1 : Int32) = 0 then Q 0 M else (mq_inb v1 60 = true ∧ Q ((1 : Int32) <<< ((M (v0 + 4) v1.toNatClampNeg) &&& 31)) M))))))) : pu_I L (d + 1) 112 [.ref v0, .int v1] M Q := by
  show pu_R L (d + 1) 112 0 [.ref v0, .int v1, mq_un] [] M (pu_qI Q)
  refine pu_go 1 (pc' := 1) (ls' := [.ref v0, .int v1, mq_un]) (st' := [.int v1]) (M' := M) rfl ?_
  refine pu_if_lt rfl (fun hc => ?_) (fun hc => ?_)
  · replace H := Eq.mp (if_pos hc) H
    refine pu_go 3 (pc' := 26) (ls' := [.ref v0, .int v1, .int 0]) (st' := [.int 0]) (M' := M) rfl ?_
    refine pu_if_eq rfl (fun hc => ?_) (fun hc => ?_)
    · replace H := Eq.mp (if_pos hc) H
      refine pu_go 1 (pc' := 41) (ls' := [.ref v0, .int v1, .int 0]) (st' := [.int 0]) (M' := M) rfl ?_
      exact pu_ret rfl rfl ⟨_, rfl, H⟩
    · replace H := Eq.mp (if_neg hc) H
      refine pu_go 2 (pc' := 31) (ls' := [.ref v0, .int v1, .int 0]) (st' := [.ref v0, .int 1]) (M' := M) rfl ?_
      refine pu_getf (j := 3) (w := .ref (v0 + 4)) rfl (pu_Y_o hv0) (Nat.lt_trans (pu_Y_lt hv0) (by decide)) rfl (by decide) rfl rfl ?_
      refine pu_go 1 (pc' := 35) (ls' := [.ref v0, .int v1, .int 0]) (st' := [.int v1, .ref (v0 + 4), .int 1]) (M' := M) rfl ?_
      obtain ⟨hb1, H⟩ := H
      refine pu_iald rfl (pu_Y_4 hv0) (Or.inl (pu_Y_l4 hv0)) hb1 ?_
      refine pu_go 2 (pc' := 41) (ls' := [.ref v0, .int v1, .int 0]) (st' := [.int ((1 : Int32) <<< ((M (v0 + 4) v1.toNatClampNeg) &&& 31))]) (M' := M) rfl ?_
      exact pu_ret rfl rfl ⟨_, rfl, H⟩
  · replace H := Eq.mp (if_neg hc) H
    refine pu_go 2 (pc' := 7) (ls' := [.ref v0, .int v1, mq_un]) (st' := [.int 60, .int v1]) (M' := M) rfl ?_
    refine pu_icmp_ge rfl (fun hc => ?_) (fun hc => ?_)
    · replace H := Eq.mp (if_pos hc) H
      refine pu_go 3 (pc' := 26) (ls' := [.ref v0, .int v1, .int 0]) (st' := [.int 0]) (M' := M) rfl ?_
      refine pu_if_eq rfl (fun hc => ?_) (fun hc => ?_)
      · replace H := Eq.mp (if_pos hc) H
        refine pu_go 1 (pc' := 41) (ls' := [.ref v0, .int v1, .int 0]) (st' := [.int 0]) (M' := M) rfl ?_
        exact pu_ret rfl rfl ⟨_, rfl, H⟩
      · replace H := Eq.mp (if_neg hc) H
        refine pu_go 2 (pc' := 31) (ls' := [.ref v0, .int v1, .int 0]) (st' := [.ref v0, .int 1]) (M' := M) rfl ?_
        refine pu_getf (j := 3) (w := .ref (v0 + 4)) rfl (pu_Y_o hv0) (Nat.lt_trans (pu_Y_lt hv0) (by decide)) rfl (by decide) rfl rfl ?_
        refine pu_go 1 (pc' := 35) (ls' := [.ref v0, .int v1, .int 0]) (st' := [.int v1, .ref (v0 + 4), .int 1]) (M' := M) rfl ?_
        obtain ⟨hb2, H⟩ := H
        refine pu_iald rfl (pu_Y_4 hv0) (Or.inl (pu_Y_l4 hv0)) hb2 ?_
        refine pu_go 2 (pc' := 41) (ls' := [.ref v0, .int v1, .int 0]) (st' := [.int ((1 : Int32) <<< ((M (v0 + 4) v1.toNatClampNeg) &&& 31))]) (M' := M) rfl ?_
        exact pu_ret rfl rfl ⟨_, rfl, H⟩
    · replace H := Eq.mp (if_neg hc) H
      refine pu_go 1 (pc' := 11) (ls' := [.ref v0, .int v1, mq_un]) (st' := [.ref v0]) (M' := M) rfl ?_
      refine pu_getf (j := 3) (w := .ref (v0 + 4)) rfl (pu_Y_o hv0) (Nat.lt_trans (pu_Y_lt hv0) (by decide)) rfl (by decide) rfl rfl ?_
      refine pu_go 1 (pc' := 15) (ls' := [.ref v0, .int v1, mq_un]) (st' := [.int v1, .ref (v0 + 4)]) (M' := M) rfl ?_
      obtain ⟨hb3, H⟩ := H
      refine pu_iald rfl (pu_Y_4 hv0) (Or.inl (pu_Y_l4 hv0)) hb3 ?_
      refine pu_if_lt rfl (fun hc => ?_) (fun hc => ?_)
      · replace H := Eq.mp (if_pos hc) H
        refine pu_go 3 (pc' := 26) (ls' := [.ref v0, .int v1, .int 0]) (st' := [.int 0]) (M' := M) rfl ?_
        refine pu_if_eq rfl (fun hc => ?_) (fun hc => ?_)
        · replace H := Eq.mp (if_pos hc) H
          refine pu_go 1 (pc' := 41) (ls' := [.ref v0, .int v1, .int 0]) (st' := [.int 0]) (M' := M) rfl ?_
          exact pu_ret rfl rfl ⟨_, rfl, H⟩
        · replace H := Eq.mp (if_neg hc) H
          refine pu_go 2 (pc' := 31) (ls' := [.ref v0, .int v1, .int 0]) (st' := [.ref v0, .int 1]) (M' := M) rfl ?_
          refine pu_getf (j := 3) (w := .ref (v0 + 4)) rfl (pu_Y_o hv0) (Nat.lt_trans (pu_Y_lt hv0) (by decide)) rfl (by decide) rfl rfl ?_
          refine pu_go 1 (pc' := 35) (ls' := [.ref v0, .int v1, .int 0]) (st' := [.int v1, .ref (v0 + 4), .int 1]) (M' := M) rfl ?_
          obtain ⟨hb4, H⟩ := H
          refine pu_iald rfl (pu_Y_4 hv0) (Or.inl (pu_Y_l4 hv0)) hb4 ?_
          refine pu_go 2 (pc' := 41) (ls' := [.ref v0, .int v1, .int 0]) (st' := [.int ((1 : Int32) <<< ((M (v0 + 4) v1.toNatClampNeg) &&& 31))]) (M' := M) rfl ?_
          exact pu_ret rfl rfl ⟨_, rfl, H⟩
      · replace H := Eq.mp (if_neg hc) H
        refine pu_go 4 (pc' := 26) (ls' := [.ref v0, .int v1, .int 1]) (st' := [.int 1]) (M' := M) rfl ?_
        refine pu_if_eq rfl (fun hc => ?_) (fun hc => ?_)
        · replace H := Eq.mp (if_pos hc) H
          refine pu_go 1 (pc' := 41) (ls' := [.ref v0, .int v1, .int 1]) (st' := [.int 0]) (M' := M) rfl ?_
          exact pu_ret rfl rfl ⟨_, rfl, H⟩
        · replace H := Eq.mp (if_neg hc) H
          refine pu_go 2 (pc' := 31) (ls' := [.ref v0, .int v1, .int 1]) (st' := [.ref v0, .int 1]) (M' := M) rfl ?_
          refine pu_getf (j := 3) (w := .ref (v0 + 4)) rfl (pu_Y_o hv0) (Nat.lt_trans (pu_Y_lt hv0) (by decide)) rfl (by decide) rfl rfl ?_
          refine pu_go 1 (pc' := 35) (ls' := [.ref v0, .int v1, .int 1]) (st' := [.int v1, .ref (v0 + 4), .int 1]) (M' := M) rfl ?_
          obtain ⟨hb5, H⟩ := H
          refine pu_iald rfl (pu_Y_4 hv0) (Or.inl (pu_Y_l4 hv0)) hb5 ?_
          refine pu_go 2 (pc' := 41) (ls' := [.ref v0, .int v1, .int 1]) (st' := [.int ((1 : Int32) <<< ((M (v0 + 4) v1.toNatClampNeg) &&& 31))]) (M' := M) rfl ?_
          exact pu_ret rfl rfl ⟨_, rfl, H⟩
/-! Yard_besidePlot (I)I -/
set_option maxRecDepth 20000 in
theorem r_Yard_besidePlot_38 {L d : Nat} {M : pu_M} {Q : Int32 → pu_M → Prop} {v0 : Nat} (hv0 : pu_isY v0) {v1 : Int32} {v2 : Int32} {v3 : Int32} {s0 : Int32} (H : pu_I L (d + 1) 112 [.ref v0, .int (v1 - 10)] M (fun x2 M1 => pu_I L (d + 1) 112 [.ref v0, .int (v1 + 10)] M1 (fun x4 M3 => Q (((v3 ||| s0) ||| x2) ||| x4) M3))) : pu_R L (d + 2) 113 38 [.ref v0, .int v1, .int v2, .int v3, mq_un] [.int s0] M (pu_qI Q) := by
  refine pu_go 8 (pc' := 49) (ls' := [.ref v0, .int v1, .int v2, .int v3, .int s0]) (st' := [.int (v1 - 10), .ref v0, .int (v3 ||| s0)]) (M' := M) rfl ?_
  refine pu_callI (m' := 112) (ml := 3) (as := [.ref v0, .int (v1 - 10)]) (rest := [.int (v3 ||| s0)]) rfl (pu_virt (pu_Y_o hv0) (Nat.lt_trans (pu_Y_lt hv0) (by decide)) ⟨Nat.le_of_ble_eq_true rfl, Nat.le_of_ble_eq_true rfl⟩ rfl rfl) rfl (Nat.le_of_ble_eq_true rfl) H (fun x2 M1 H => ?_)
  show pu_R L (d + 2) 113 52 [.ref v0, .int v1, .int v2, .int v3, .int s0] [.int x2, .int (v3 ||| s0)] M1 _
  refine pu_go 5 (pc' := 58) (ls' := [.ref v0, .int v1, .int v2, .int v3, .int s0]) (st' := [.int (v1 + 10), .ref v0, .int ((v3 ||| s0) ||| x2)]) (M' := M1) rfl ?_
  refine pu_callI (m' := 112) (ml := 3) (as := [.ref v0, .int (v1 + 10)]) (rest := [.int ((v3 ||| s0) ||| x2)]) rfl (pu_virt (pu_Y_o hv0) (Nat.lt_trans (pu_Y_lt hv0) (by decide)) ⟨Nat.le_of_ble_eq_true rfl, Nat.le_of_ble_eq_true rfl⟩ rfl rfl) rfl (Nat.le_of_ble_eq_true rfl) H (fun x4 M3 H => ?_)
  show pu_R L (d + 2) 113 61 [.ref v0, .int v1, .int v2, .int v3, .int s0] [.int x4, .int ((v3 ||| s0) ||| x2)] M3 _
  refine pu_go 1 (pc' := 62) (ls' := [.ref v0, .int v1, .int v2, .int v3, .int s0]) (st' := [.int (((v3 ||| s0) ||| x2) ||| x4)]) (M' := M3) rfl ?_
  exact pu_ret rfl rfl ⟨_, rfl, H⟩
set_option maxRecDepth 20000 in
theorem r_Yard_besidePlot {L d : Nat} {M : pu_M} {Q : Int32 → pu_M → Prop} {v0 : Nat} (hv0 : pu_isY v0) {v1 : Int32} (H : (if (v1 % 10) ≤ 0 then (if 9 ≤ (v1 % 10) then pu_R L (d + 2) 113 38 [.ref v0, .int v1, .int (v1 % 10), .int 0, mq_un] [.int 0] M (pu_qI Q) else pu_I L (d + 1) 112 [.ref v0, .int (v1 + 1)] M (fun x2 M1 => pu_R L (d + 2) 113 38 [.ref v0, .int v1, .int (v1 % 10), .int 0, mq_un] [.int x2] M1 (pu_qI Q))) else pu_I L (d + 1) 112 [.ref v0, .int (v1 - 1)] M (fun x4 M3 => (if 9 ≤ (v1 % 10) then pu_R L (d + 2) 113 38 [.ref v0, .int v1, .int (v1 % 10), .int x4, mq_un] [.int 0] M3 (pu_qI Q) else pu_I L (d + 1) 112 [.ref v0, .int (v1 + 1)] M3 (fun x6 M5 => pu_R L (d + 2) 113 38 [.ref v0, .int v1, .int (v1 % 10), .int x4, mq_un] [.int x6] M5 (pu_qI Q)))))) : pu_I L (d + 2) 113 [.ref v0, .int v1] M Q := by
  show pu_R L (d + 2) 113 0 [.ref v0, .int v1, mq_un, mq_un, mq_un] [] M (pu_qI Q)
  refine pu_go 2 (pc' := 3) (ls' := [.ref v0, .int v1, mq_un, mq_un, mq_un]) (st' := [.int 10, .int v1]) (M' := M) rfl ?_
  refine pu_rem rfl (by decide) ?_
  refine pu_go 2 (pc' := 6) (ls' := [.ref v0, .int v1, .int (v1 % 10), mq_un, mq_un]) (st' := [.int (v1 % 10)]) (M' := M) rfl ?_
  refine pu_if_le rfl (fun hc => ?_) (fun hc => ?_)
  · replace H := Eq.mp (if_pos hc) H
    refine pu_go 4 (pc' := 24) (ls' := [.ref v0, .int v1, .int (v1 % 10), .int 0, mq_un]) (st' := [.int 9, .int (v1 % 10)]) (M' := M) rfl ?_
    refine pu_icmp_ge rfl (fun hc => ?_) (fun hc => ?_)
    · replace H := Eq.mp (if_pos hc) H
      refine pu_go 1 (pc' := 38) (ls' := [.ref v0, .int v1, .int (v1 % 10), .int 0, mq_un]) (st' := [.int 0]) (M' := M) rfl ?_
      exact H
    · replace H := Eq.mp (if_neg hc) H
      refine pu_go 4 (pc' := 31) (ls' := [.ref v0, .int v1, .int (v1 % 10), .int 0, mq_un]) (st' := [.int (v1 + 1), .ref v0]) (M' := M) rfl ?_
      refine pu_callI (m' := 112) (ml := 3) (as := [.ref v0, .int (v1 + 1)]) (rest := []) rfl (pu_virt (pu_Y_o hv0) (Nat.lt_trans (pu_Y_lt hv0) (by decide)) ⟨Nat.le_of_ble_eq_true rfl, Nat.le_of_ble_eq_true rfl⟩ rfl rfl) rfl (Nat.le_of_ble_eq_true rfl) H (fun x2 M1 H => ?_)
      show pu_R L (d + 2) 113 34 [.ref v0, .int v1, .int (v1 % 10), .int 0, mq_un] [.int x2] M1 _
      refine pu_go 1 (pc' := 38) (ls' := [.ref v0, .int v1, .int (v1 % 10), .int 0, mq_un]) (st' := [.int x2]) (M' := M1) rfl ?_
      exact H
  · replace H := Eq.mp (if_neg hc) H
    refine pu_go 4 (pc' := 13) (ls' := [.ref v0, .int v1, .int (v1 % 10), mq_un, mq_un]) (st' := [.int (v1 - 1), .ref v0]) (M' := M) rfl ?_
    refine pu_callI (m' := 112) (ml := 3) (as := [.ref v0, .int (v1 - 1)]) (rest := []) rfl (pu_virt (pu_Y_o hv0) (Nat.lt_trans (pu_Y_lt hv0) (by decide)) ⟨Nat.le_of_ble_eq_true rfl, Nat.le_of_ble_eq_true rfl⟩ rfl rfl) rfl (Nat.le_of_ble_eq_true rfl) H (fun x4 M3 H => ?_)
    show pu_R L (d + 2) 113 16 [.ref v0, .int v1, .int (v1 % 10), mq_un, mq_un] [.int x4] M3 _
    refine pu_go 4 (pc' := 24) (ls' := [.ref v0, .int v1, .int (v1 % 10), .int x4, mq_un]) (st' := [.int 9, .int (v1 % 10)]) (M' := M3) rfl ?_
    refine pu_icmp_ge rfl (fun hc => ?_) (fun hc => ?_)
    · replace H := Eq.mp (if_pos hc) H
      refine pu_go 1 (pc' := 38) (ls' := [.ref v0, .int v1, .int (v1 % 10), .int x4, mq_un]) (st' := [.int 0]) (M' := M3) rfl ?_
      exact H
    · replace H := Eq.mp (if_neg hc) H
      refine pu_go 4 (pc' := 31) (ls' := [.ref v0, .int v1, .int (v1 % 10), .int x4, mq_un]) (st' := [.int (v1 + 1), .ref v0]) (M' := M3) rfl ?_
      refine pu_callI (m' := 112) (ml := 3) (as := [.ref v0, .int (v1 + 1)]) (rest := []) rfl (pu_virt (pu_Y_o hv0) (Nat.lt_trans (pu_Y_lt hv0) (by decide)) ⟨Nat.le_of_ble_eq_true rfl, Nat.le_of_ble_eq_true rfl⟩ rfl rfl) rfl (Nat.le_of_ble_eq_true rfl) H (fun x6 M5 H => ?_)
      show pu_R L (d + 2) 113 34 [.ref v0, .int v1, .int (v1 % 10), .int x4, mq_un] [.int x6] M5 _
      refine pu_go 1 (pc' := 38) (ls' := [.ref v0, .int v1, .int (v1 % 10), .int x4, mq_un]) (st' := [.int x6]) (M' := M5) rfl ?_
      exact H
/-! Yard_beside (I)I -/
set_option maxRecDepth 20000 in
theorem r_Yard_beside {L d : Nat} {M : pu_M} {Q : Int32 → pu_M → Prop} {v0 : Nat} (hv0 : pu_isY v0) {v1 : Int32} (H : pu_I L (d + 2) 102 [.ref v0, .int v1] M (fun x2 M1 => (if x2 = 0 then Q 0 M1 else (mq_inb v1 16 = true ∧ pu_I L (d + 2) 113 [.ref v0, .int (M1 (v0 + 3) v1.toNatClampNeg)] M1 (fun x5 M4 => Q x5 M4))))) : pu_I L (d + 3) 114 [.ref v0, .int v1] M Q := by
  show pu_R L (d + 3) 114 0 [.ref v0, .int v1] [] M (pu_qI Q)
  refine pu_go 2 (pc' := 2) (ls' := [.ref v0, .int v1]) (st' := [.int v1, .ref v0]) (M' := M) rfl ?_
  refine pu_callI (m' := 102) (ml := 2) (as := [.ref v0, .int v1]) (rest := []) rfl (pu_virt (pu_Y_o hv0) (Nat.lt_trans (pu_Y_lt hv0) (by decide)) ⟨Nat.le_of_ble_eq_true rfl, Nat.le_of_ble_eq_true rfl⟩ rfl rfl) rfl (Nat.le_of_ble_eq_true rfl) H (fun x2 M1 H => ?_)
  show pu_R L (d + 3) 114 5 [.ref v0, .int v1] [.int x2] M1 _
  refine pu_if_eq rfl (fun hc => ?_) (fun hc => ?_)
  · replace H := Eq.mp (if_pos hc) H
    refine pu_go 1 (pc' := 22) (ls' := [.ref v0, .int v1]) (st' := [.int 0]) (M' := M1) rfl ?_
    exact pu_ret rfl rfl ⟨_, rfl, H⟩
  · replace H := Eq.mp (if_neg hc) H
    refine pu_go 2 (pc' := 10) (ls' := [.ref v0, .int v1]) (st' := [.ref v0, .ref v0]) (M' := M1) rfl ?_
    refine pu_getf (j := 2) (w := .ref (v0 + 3)) rfl (pu_Y_o hv0) (Nat.lt_trans (pu_Y_lt hv0) (by decide)) rfl (by decide) rfl rfl ?_
    refine pu_go 1 (pc' := 14) (ls' := [.ref v0, .int v1]) (st' := [.int v1, .ref (v0 + 3), .ref v0]) (M' := M1) rfl ?_
    obtain ⟨hb3, H⟩ := H
    refine pu_iald rfl (pu_Y_3 hv0) (Or.inl (pu_Y_l3 hv0)) hb3 ?_
    refine pu_callI (m' := 113) (ml := 5) (as := [.ref v0, .int (M1 (v0 + 3) v1.toNatClampNeg)]) (rest := []) rfl (pu_virt (pu_Y_o hv0) (Nat.lt_trans (pu_Y_lt hv0) (by decide)) ⟨Nat.le_of_ble_eq_true rfl, Nat.le_of_ble_eq_true rfl⟩ rfl rfl) rfl (Nat.le_of_ble_eq_true rfl) H (fun x5 M4 H => ?_)
    show pu_R L (d + 3) 114 18 [.ref v0, .int v1] [.int x5] M4 _
    refine pu_go 1 (pc' := 22) (ls' := [.ref v0, .int v1]) (st' := [.int x5]) (M' := M4) rfl ?_
    exact pu_ret rfl rfl ⟨_, rfl, H⟩
/-! Yard_withBeside (I)I -/
set_option maxRecDepth 20000 in
theorem r_Yard_withBeside_4 {L d : Nat} {M : pu_M} {Q : Int32 → pu_M → Prop} {v0 : Nat} (hv0 : pu_isY v0) {v1 : Int32} {v2 : Int32} {v3 : Int32} (H : (if 16 ≤ v3 then Q v2 M else (if ((v1 >>> (v3 &&& 31)) &&& 1) = 1 then pu_I L (d + 3) 114 [.ref v0, .int v3] M (fun x2 M1 => pu_R L (d + 4) 115 4 [.ref v0, .int v1, .int (v2 ||| x2), .int (v3 + 1)] [] M1 (pu_qI Q)) else pu_R L (d + 4) 115 4 [.ref v0, .int v1, .int (v2 ||| 0), .int (v3 + 1)] [] M (pu_qI Q)))) : pu_R L (d + 4) 115 4 [.ref v0, .int v1, .int v2, .int v3] [] M (pu_qI Q) := by
  refine pu_go 2 (pc' := 7) (ls' := [.ref v0, .int v1, .int v2, .int v3]) (st' := [.int 16, .int v3]) (M' := M) rfl ?_
  refine pu_icmp_ge rfl (fun hc => ?_) (fun hc => ?_)
  · replace H := Eq.mp (if_pos hc) H
    refine pu_go 1 (pc' := 38) (ls' := [.ref v0, .int v1, .int v2, .int v3]) (st' := [.int v2]) (M' := M) rfl ?_
    exact pu_ret rfl rfl ⟨_, rfl, H⟩
  · replace H := Eq.mp (if_neg hc) H
    refine pu_go 7 (pc' := 17) (ls' := [.ref v0, .int v1, .int v2, .int v3]) (st' := [.int 1, .int ((v1 >>> (v3 &&& 31)) &&& 1), .int v2]) (M' := M) rfl ?_
    refine pu_icmp_ne rfl (fun hc => ?_) (fun hc => ?_)
    · replace H := Eq.mp (if_neg hc) H
      refine pu_go 5 (pc' := 4) (ls' := [.ref v0, .int v1, .int (v2 ||| 0), .int (v3 + 1)]) (st' := []) (M' := M) rfl ?_
      exact H
    · replace H := Eq.mp (if_pos hc) H
      refine pu_go 2 (pc' := 22) (ls' := [.ref v0, .int v1, .int v2, .int v3]) (st' := [.int v3, .ref v0, .int v2]) (M' := M) rfl ?_
      refine pu_callI (m' := 114) (ml := 2) (as := [.ref v0, .int v3]) (rest := [.int v2]) rfl (pu_virt (pu_Y_o hv0) (Nat.lt_trans (pu_Y_lt hv0) (by decide)) ⟨Nat.le_of_ble_eq_true rfl, Nat.le_of_ble_eq_true rfl⟩ rfl rfl) rfl (Nat.le_of_ble_eq_true rfl) H (fun x2 M1 H => ?_)
      show pu_R L (d + 4) 115 25 [.ref v0, .int v1, .int v2, .int v3] [.int x2, .int v2] M1 _
      refine pu_go 5 (pc' := 4) (ls' := [.ref v0, .int v1, .int (v2 ||| x2), .int (v3 + 1)]) (st' := []) (M' := M1) rfl ?_
      exact H
set_option maxRecDepth 20000 in
theorem r_Yard_withBeside {L d : Nat} {M : pu_M} {Q : Int32 → pu_M → Prop} {v0 : Nat} (hv0 : pu_isY v0) {v1 : Int32} (H : pu_R L (d + 4) 115 4 [.ref v0, .int v1, .int v1, .int 0] [] M (pu_qI Q)) : pu_I L (d + 4) 115 [.ref v0, .int v1] M Q := by
  show pu_R L (d + 4) 115 0 [.ref v0, .int v1, mq_un, mq_un] [] M (pu_qI Q)
  refine pu_go 4 (pc' := 4) (ls' := [.ref v0, .int v1, .int v1, .int 0]) (st' := []) (M' := M) rfl ?_
  exact H
/-! Yard_circleOf (I)I -/
set_option maxRecDepth 20000 in
theorem r_Yard_circleOf_18 {L d : Nat} {M : pu_M} {Q : Int32 → pu_M → Prop} {v0 : Nat} (hv0 : pu_isY v0) {v1 : Int32} {v2 : Int32} {v3 : Int32} (H : (if 16 ≤ v3 then Q v2 M else pu_I L (d + 4) 115 [.ref v0, .int v2] M (fun x2 M1 => pu_R L (d + 5) 116 18 [.ref v0, .int v1, .int x2, .int (v3 + 1)] [] M1 (pu_qI Q)))) : pu_R L (d + 5) 116 18 [.ref v0, .int v1, .int v2, .int v3] [] M (pu_qI Q) := by
  refine pu_go 2 (pc' := 21) (ls' := [.ref v0, .int v1, .int v2, .int v3]) (st' := [.int 16, .int v3]) (M' := M) rfl ?_
  refine pu_icmp_ge rfl (fun hc => ?_) (fun hc => ?_)
  · replace H := Eq.mp (if_pos hc) H
    refine pu_go 1 (pc' := 37) (ls' := [.ref v0, .int v1, .int v2, .int v3]) (st' := [.int v2]) (M' := M) rfl ?_
    exact pu_ret rfl rfl ⟨_, rfl, H⟩
  · replace H := Eq.mp (if_neg hc) H
    refine pu_go 2 (pc' := 26) (ls' := [.ref v0, .int v1, .int v2, .int v3]) (st' := [.int v2, .ref v0]) (M' := M) rfl ?_
    refine pu_callI (m' := 115) (ml := 4) (as := [.ref v0, .int v2]) (rest := []) rfl (pu_virt (pu_Y_o hv0) (Nat.lt_trans (pu_Y_lt hv0) (by decide)) ⟨Nat.le_of_ble_eq_true rfl, Nat.le_of_ble_eq_true rfl⟩ rfl rfl) rfl (Nat.le_of_ble_eq_true rfl) H (fun x2 M1 H => ?_)
    show pu_R L (d + 5) 116 29 [.ref v0, .int v1, .int v2, .int v3] [.int x2] M1 _
    refine pu_go 3 (pc' := 18) (ls' := [.ref v0, .int v1, .int x2, .int (v3 + 1)]) (st' := []) (M' := M1) rfl ?_
    exact H
set_option maxRecDepth 20000 in
theorem r_Yard_circleOf {L d : Nat} {M : pu_M} {Q : Int32 → pu_M → Prop} {v0 : Nat} (hv0 : pu_isY v0) {v1 : Int32} (H : pu_I L (d + 4) 102 [.ref v0, .int v1] M (fun x2 M1 => (if x2 = 0 then pu_R L (d + 5) 116 18 [.ref v0, .int v1, .int 0, .int 0] [] M1 (pu_qI Q) else pu_R L (d + 5) 116 18 [.ref v0, .int v1, .int ((1 : Int32) <<< (v1 &&& 31)), .int 0] [] M1 (pu_qI Q)))) : pu_I L (d + 5) 116 [.ref v0, .int v1] M Q := by
  show pu_R L (d + 5) 116 0 [.ref v0, .int v1, mq_un, mq_un] [] M (pu_qI Q)
  refine pu_go 2 (pc' := 2) (ls' := [.ref v0, .int v1, mq_un, mq_un]) (st' := [.int v1, .ref v0]) (M' := M) rfl ?_
  refine pu_callI (m' := 102) (ml := 2) (as := [.ref v0, .int v1]) (rest := []) rfl (pu_virt (pu_Y_o hv0) (Nat.lt_trans (pu_Y_lt hv0) (by decide)) ⟨Nat.le_of_ble_eq_true rfl, Nat.le_of_ble_eq_true rfl⟩ rfl rfl) rfl (Nat.le_of_ble_eq_true rfl) H (fun x2 M1 H => ?_)
  show pu_R L (d + 5) 116 5 [.ref v0, .int v1, mq_un, mq_un] [.int x2] M1 _
  refine pu_if_eq rfl (fun hc => ?_) (fun hc => ?_)
  · replace H := Eq.mp (if_pos hc) H
    refine pu_go 4 (pc' := 18) (ls' := [.ref v0, .int v1, .int 0, .int 0]) (st' := []) (M' := M1) rfl ?_
    exact H
  · replace H := Eq.mp (if_neg hc) H
    refine pu_go 7 (pc' := 18) (ls' := [.ref v0, .int v1, .int ((1 : Int32) <<< (v1 &&& 31)), .int 0]) (st' := []) (M' := M1) rfl ?_
    exact H
/-! Yard_freePlots ()J -/
set_option maxRecDepth 20000 in
theorem r_Yard_freePlots_4 {L d : Nat} {M : pu_M} {Q : Int64 → pu_M → Prop} {v0 : Nat} (hv0 : pu_isY v0) {v1 : Int64} {v3 : Int32} (H : (if 60 ≤ v3 then Q v1 M else (mq_inb v3 60 = true ∧ (if 0 ≤ (M (v0 + 4) v3.toNatClampNeg) then pu_R L (d + 1) 117 4 [.ref v0, .long (v1 ||| 0), mq_un, .int (v3 + 1)] [] M (pu_qJ Q) else pu_R L (d + 1) 117 4 [.ref v0, .long (v1 ||| ((1 : Int64) <<< ((v3 : Int32).toInt64 &&& 63))), mq_un, .int (v3 + 1)] [] M (pu_qJ Q))))) : pu_R L (d + 1) 117 4 [.ref v0, .long v1, mq_un, .int v3] [] M (pu_qJ Q) := by
  refine pu_go 2 (pc' := 7) (ls' := [.ref v0, .long v1, mq_un, .int v3]) (st' := [.int 60, .int v3]) (M' := M) rfl ?_
  refine pu_icmp_ge rfl (fun hc => ?_) (fun hc => ?_)
  · replace H := Eq.mp (if_pos hc) H
    refine pu_go 1 (pc' := 36) (ls' := [.ref v0, .long v1, mq_un, .int v3]) (st' := [.long v1]) (M' := M) rfl ?_
    exact pu_ret rfl rfl ⟨_, rfl, H⟩
  · replace H := Eq.mp (if_neg hc) H
    refine pu_go 2 (pc' := 12) (ls' := [.ref v0, .long v1, mq_un, .int v3]) (st' := [.ref v0, .long v1]) (M' := M) rfl ?_
    refine pu_getf (j := 3) (w := .ref (v0 + 4)) rfl (pu_Y_o hv0) (Nat.lt_trans (pu_Y_lt hv0) (by decide)) rfl (by decide) rfl rfl ?_
    refine pu_go 1 (pc' := 16) (ls' := [.ref v0, .long v1, mq_un, .int v3]) (st' := [.int v3, .ref (v0 + 4), .long v1]) (M' := M) rfl ?_
    obtain ⟨hb1, H⟩ := H
    refine pu_iald rfl (pu_Y_4 hv0) (Or.inl (pu_Y_l4 hv0)) hb1 ?_
    refine pu_if_ge rfl (fun hc => ?_) (fun hc => ?_)
    · replace H := Eq.mp (if_pos hc) H
      refine pu_go 5 (pc' := 4) (ls' := [.ref v0, .long (v1 ||| 0), mq_un, .int (v3 + 1)]) (st' := []) (M' := M) rfl ?_
      exact H
    · replace H := Eq.mp (if_neg hc) H
      refine pu_go 8 (pc' := 4) (ls' := [.ref v0, .long (v1 ||| ((1 : Int64) <<< ((v3 : Int32).toInt64 &&& 63))), mq_un, .int (v3 + 1)]) (st' := []) (M' := M) rfl ?_
      exact H
set_option maxRecDepth 20000 in
theorem r_Yard_freePlots {L d : Nat} {M : pu_M} {Q : Int64 → pu_M → Prop} {v0 : Nat} (hv0 : pu_isY v0) (H : pu_R L (d + 1) 117 4 [.ref v0, .long 0, mq_un, .int 0] [] M (pu_qJ Q)) : pu_J L (d + 1) 117 [.ref v0] M Q := by
  show pu_R L (d + 1) 117 0 [.ref v0, mq_un, mq_un, mq_un] [] M (pu_qJ Q)
  refine pu_go 4 (pc' := 4) (ls' := [.ref v0, .long 0, mq_un, .int 0]) (st' := []) (M' := M) rfl ?_
  exact H
/-! Yard_talkOf (II)I -/
set_option maxRecDepth 20000 in
theorem r_Yard_talkOf {L d : Nat} {M : pu_M} {Q : Int32 → pu_M → Prop} {v0 : Nat} (hv0 : pu_isY v0) {v1 : Int32} {v2 : Int32} (H : (mq_inb v1 16 = true ∧ (mq_inb v2 16 = true ∧ pu_I L (d + 1) 260 [.int ((M (v0 + 1) v1.toNatClampNeg) &&& (M (v0 + 1) v2.toNatClampNeg))] M (fun x4 M3 => (mq_inb v1 16 = true ∧ (mq_inb v2 16 = true ∧ pu_I L (d + 1) 260 [.int ((M3 (v0 + 1) v1.toNatClampNeg) ^^^ (M3 (v0 + 1) v2.toNatClampNeg))] M3 (fun x8 M7 => Q ((3 * x4) - x8) M7))))))) : pu_I L (d + 2) 118 [.ref v0, .int v1, .int v2] M Q := by
  show pu_R L (d + 2) 118 0 [.ref v0, .int v1, .int v2, mq_un] [] M (pu_qI Q)
  refine pu_go 1 (pc' := 1) (ls' := [.ref v0, .int v1, .int v2, mq_un]) (st' := [.ref v0]) (M' := M) rfl ?_
  refine pu_getf (j := 0) (w := .ref (v0 + 1)) rfl (pu_Y_o hv0) (Nat.lt_trans (pu_Y_lt hv0) (by decide)) rfl (by decide) rfl rfl ?_
  refine pu_go 1 (pc' := 5) (ls' := [.ref v0, .int v1, .int v2, mq_un]) (st' := [.int v1, .ref (v0 + 1)]) (M' := M) rfl ?_
  obtain ⟨hb1, H⟩ := H
  refine pu_iald rfl (pu_Y_1 hv0) (Or.inl (pu_Y_l1 hv0)) hb1 ?_
  refine pu_go 1 (pc' := 7) (ls' := [.ref v0, .int v1, .int v2, mq_un]) (st' := [.ref v0, .int (M (v0 + 1) v1.toNatClampNeg)]) (M' := M) rfl ?_
  refine pu_getf (j := 0) (w := .ref (v0 + 1)) rfl (pu_Y_o hv0) (Nat.lt_trans (pu_Y_lt hv0) (by decide)) rfl (by decide) rfl rfl ?_
  refine pu_go 1 (pc' := 11) (ls' := [.ref v0, .int v1, .int v2, mq_un]) (st' := [.int v2, .ref (v0 + 1), .int (M (v0 + 1) v1.toNatClampNeg)]) (M' := M) rfl ?_
  obtain ⟨hb2, H⟩ := H
  refine pu_iald rfl (pu_Y_1 hv0) (Or.inl (pu_Y_l1 hv0)) hb2 ?_
  refine pu_go 1 (pc' := 13) (ls' := [.ref v0, .int v1, .int v2, mq_un]) (st' := [.int ((M (v0 + 1) v1.toNatClampNeg) &&& (M (v0 + 1) v2.toNatClampNeg))]) (M' := M) rfl ?_
  refine pu_callI (m' := 260) (ml := 1) (as := [.int ((M (v0 + 1) v1.toNatClampNeg) &&& (M (v0 + 1) v2.toNatClampNeg))]) (rest := []) rfl rfl rfl (Nat.le_of_ble_eq_true rfl) H (fun x4 M3 H => ?_)
  show pu_R L (d + 2) 118 16 [.ref v0, .int v1, .int v2, mq_un] [.int x4] M3 _
  refine pu_go 5 (pc' := 21) (ls' := [.ref v0, .int v1, .int v2, .int x4]) (st' := [.ref v0, .int (3 * x4)]) (M' := M3) rfl ?_
  refine pu_getf (j := 0) (w := .ref (v0 + 1)) rfl (pu_Y_o hv0) (Nat.lt_trans (pu_Y_lt hv0) (by decide)) rfl (by decide) rfl rfl ?_
  refine pu_go 1 (pc' := 25) (ls' := [.ref v0, .int v1, .int v2, .int x4]) (st' := [.int v1, .ref (v0 + 1), .int (3 * x4)]) (M' := M3) rfl ?_
  obtain ⟨hb5, H⟩ := H
  refine pu_iald rfl (pu_Y_1 hv0) (Or.inl (pu_Y_l1 hv0)) hb5 ?_
  refine pu_go 1 (pc' := 27) (ls' := [.ref v0, .int v1, .int v2, .int x4]) (st' := [.ref v0, .int (M3 (v0 + 1) v1.toNatClampNeg), .int (3 * x4)]) (M' := M3) rfl ?_
  refine pu_getf (j := 0) (w := .ref (v0 + 1)) rfl (pu_Y_o hv0) (Nat.lt_trans (pu_Y_lt hv0) (by decide)) rfl (by decide) rfl rfl ?_
  refine pu_go 1 (pc' := 31) (ls' := [.ref v0, .int v1, .int v2, .int x4]) (st' := [.int v2, .ref (v0 + 1), .int (M3 (v0 + 1) v1.toNatClampNeg), .int (3 * x4)]) (M' := M3) rfl ?_
  obtain ⟨hb6, H⟩ := H
  refine pu_iald rfl (pu_Y_1 hv0) (Or.inl (pu_Y_l1 hv0)) hb6 ?_
  refine pu_go 1 (pc' := 33) (ls' := [.ref v0, .int v1, .int v2, .int x4]) (st' := [.int ((M3 (v0 + 1) v1.toNatClampNeg) ^^^ (M3 (v0 + 1) v2.toNatClampNeg)), .int (3 * x4)]) (M' := M3) rfl ?_
  refine pu_callI (m' := 260) (ml := 1) (as := [.int ((M3 (v0 + 1) v1.toNatClampNeg) ^^^ (M3 (v0 + 1) v2.toNatClampNeg))]) (rest := [.int (3 * x4)]) rfl rfl rfl (Nat.le_of_ble_eq_true rfl) H (fun x8 M7 H => ?_)
  show pu_R L (d + 2) 118 36 [.ref v0, .int v1, .int v2, .int x4] [.int x8, .int (3 * x4)] M7 _
  refine pu_go 1 (pc' := 37) (ls' := [.ref v0, .int v1, .int v2, .int x4]) (st' := [.int ((3 * x4) - x8)]) (M' := M7) rfl ?_
  exact pu_ret rfl rfl ⟨_, rfl, H⟩
/-! Yard_talkAt (III)I -/
set_option maxRecDepth 20000 in
theorem r_Yard_talkAt_23 {L d : Nat} {M : pu_M} {Q : Int32 → pu_M → Prop} {v0 : Nat} (hv0 : pu_isY v0) {v1 : Int32} {v2 : Int32} {v3 : Int32} {v4 : Int32} {v5 : Int32} {v6 : Int32} (H : (if 16 ≤ v6 then Q v5 M else (if ((v4 >>> (v6 &&& 31)) &&& 1) = 1 then pu_I L (d + 2) 118 [.ref v0, .int v1, .int v6] M (fun x2 M1 => pu_R L (d + 3) 119 23 [.ref v0, .int v1, .int v2, .int v3, .int v4, .int (v5 + x2), .int (v6 + 1)] [] M1 (pu_qI Q)) else pu_R L (d + 3) 119 23 [.ref v0, .int v1, .int v2, .int v3, .int v4, .int (v5 + 0), .int (v6 + 1)] [] M (pu_qI Q)))) : pu_R L (d + 3) 119 23 [.ref v0, .int v1, .int v2, .int v3, .int v4, .int v5, .int v6] [] M (pu_qI Q) := by
  refine pu_go 2 (pc' := 27) (ls' := [.ref v0, .int v1, .int v2, .int v3, .int v4, .int v5, .int v6]) (st' := [.int 16, .int v6]) (M' := M) rfl ?_
  refine pu_icmp_ge rfl (fun hc => ?_) (fun hc => ?_)
  · replace H := Eq.mp (if_pos hc) H
    refine pu_go 1 (pc' := 65) (ls' := [.ref v0, .int v1, .int v2, .int v3, .int v4, .int v5, .int v6]) (st' := [.int v5]) (M' := M) rfl ?_
    exact pu_ret rfl rfl ⟨_, rfl, H⟩
  · replace H := Eq.mp (if_neg hc) H
    refine pu_go 7 (pc' := 40) (ls' := [.ref v0, .int v1, .int v2, .int v3, .int v4, .int v5, .int v6]) (st' := [.int 1, .int ((v4 >>> (v6 &&& 31)) &&& 1), .int v5]) (M' := M) rfl ?_
    refine pu_icmp_ne rfl (fun hc => ?_) (fun hc => ?_)
    · replace H := Eq.mp (if_neg hc) H
      refine pu_go 5 (pc' := 23) (ls' := [.ref v0, .int v1, .int v2, .int v3, .int v4, .int (v5 + 0), .int (v6 + 1)]) (st' := []) (M' := M) rfl ?_
      exact H
    · replace H := Eq.mp (if_pos hc) H
      refine pu_go 3 (pc' := 47) (ls' := [.ref v0, .int v1, .int v2, .int v3, .int v4, .int v5, .int v6]) (st' := [.int v6, .int v1, .ref v0, .int v5]) (M' := M) rfl ?_
      refine pu_callI (m' := 118) (ml := 4) (as := [.ref v0, .int v1, .int v6]) (rest := [.int v5]) rfl (pu_virt (pu_Y_o hv0) (Nat.lt_trans (pu_Y_lt hv0) (by decide)) ⟨Nat.le_of_ble_eq_true rfl, Nat.le_of_ble_eq_true rfl⟩ rfl rfl) rfl (Nat.le_of_ble_eq_true rfl) H (fun x2 M1 H => ?_)
      show pu_R L (d + 3) 119 50 [.ref v0, .int v1, .int v2, .int v3, .int v4, .int v5, .int v6] [.int x2, .int v5] M1 _
      refine pu_go 5 (pc' := 23) (ls' := [.ref v0, .int v1, .int v2, .int v3, .int v4, .int (v5 + x2), .int (v6 + 1)]) (st' := []) (M' := M1) rfl ?_
      exact H
set_option maxRecDepth 20000 in
theorem r_Yard_talkAt {L d : Nat} {M : pu_M} {Q : Int32 → pu_M → Prop} {v0 : Nat} (hv0 : pu_isY v0) {v1 : Int32} {v2 : Int32} {v3 : Int32} (H : pu_I L (d + 2) 113 [.ref v0, .int v2] M (fun x2 M1 => pu_R L (d + 3) 119 23 [.ref v0, .int v1, .int v2, .int v3, .int ((x2 &&& (((1 : Int32) <<< (v1 &&& 31)) ^^^ ((-1)))) &&& (v3 ^^^ ((-1)))), .int 0, .int 0] [] M1 (pu_qI Q))) : pu_I L (d + 3) 119 [.ref v0, .int v1, .int v2, .int v3] M Q := by
  show pu_R L (d + 3) 119 0 [.ref v0, .int v1, .int v2, .int v3, mq_un, mq_un, mq_un] [] M (pu_qI Q)
  refine pu_go 2 (pc' := 2) (ls' := [.ref v0, .int v1, .int v2, .int v3, mq_un, mq_un, mq_un]) (st' := [.int v2, .ref v0]) (M' := M) rfl ?_
  refine pu_callI (m' := 113) (ml := 5) (as := [.ref v0, .int v2]) (rest := []) rfl (pu_virt (pu_Y_o hv0) (Nat.lt_trans (pu_Y_lt hv0) (by decide)) ⟨Nat.le_of_ble_eq_true rfl, Nat.le_of_ble_eq_true rfl⟩ rfl rfl) rfl (Nat.le_of_ble_eq_true rfl) H (fun x2 M1 H => ?_)
  show pu_R L (d + 3) 119 5 [.ref v0, .int v1, .int v2, .int v3, mq_un, mq_un, mq_un] [.int x2] M1 _
  refine pu_go 15 (pc' := 23) (ls' := [.ref v0, .int v1, .int v2, .int v3, .int ((x2 &&& (((1 : Int32) <<< (v1 &&& 31)) ^^^ ((-1)))) &&& (v3 ^^^ ((-1)))), .int 0, .int 0]) (st' := []) (M' := M1) rfl ?_
  exact H
/-! Yard_drawNext ()I -/
set_option maxRecDepth 20000 in
theorem r_Yard_drawNext {L d : Nat} {M : pu_M} {Q : Int32 → pu_M → Prop} {v0 : Nat} (hv0 : pu_isY v0) (H : Q (((pu_wr M v0 6 (((25173 * (M v0 6)) + 13849) &&& 65535)) v0 6) % 10) (pu_wr M v0 6 (((25173 * (M v0 6)) + 13849) &&& 65535))) : pu_I L (d + 1) 120 [.ref v0] M Q := by
  show pu_R L (d + 1) 120 0 [.ref v0] [] M (pu_qI Q)
  refine pu_go 3 (pc' := 5) (ls' := [.ref v0]) (st' := [.ref v0, .int 25173, .ref v0]) (M' := M) rfl ?_
  refine pu_getf (j := 6) (w := .int (M v0 6)) rfl (pu_Y_o hv0) (Nat.lt_trans (pu_Y_lt hv0) (by decide)) rfl (by decide) rfl rfl ?_
  refine pu_go 5 (pc' := 16) (ls' := [.ref v0]) (st' := [.int (((25173 * (M v0 6)) + 13849) &&& 65535), .ref v0]) (M' := M) rfl ?_
  refine pu_putf (j := 6) (z := ((25173 * (M v0 6)) + 13849) &&& 65535) rfl (pu_Y_o hv0) (Nat.lt_trans (pu_Y_lt hv0) (by decide)) rfl (by decide) rfl rfl pu_put_hw ?_
  refine pu_go 1 (pc' := 20) (ls' := [.ref v0]) (st' := [.ref v0]) (M' := pu_wr M v0 6 (((25173 * (M v0 6)) + 13849) &&& 65535)) rfl ?_
  refine pu_getf (j := 6) (w := .int ((pu_wr M v0 6 (((25173 * (M v0 6)) + 13849) &&& 65535)) v0 6)) rfl (pu_Y_o hv0) (Nat.lt_trans (pu_Y_lt hv0) (by decide)) rfl (by decide) rfl rfl ?_
  refine pu_go 1 (pc' := 25) (ls' := [.ref v0]) (st' := [.int 10, .int ((pu_wr M v0 6 (((25173 * (M v0 6)) + 13849) &&& 65535)) v0 6)]) (M' := pu_wr M v0 6 (((25173 * (M v0 6)) + 13849) &&& 65535)) rfl ?_
  refine pu_rem rfl (by decide) ?_
  exact pu_ret rfl rfl ⟨_, rfl, H⟩
/-! x_person (III)Z -/
set_option maxRecDepth 20000 in
theorem r_x_person {L d : Nat} {M : pu_M} {Q : Int32 → pu_M → Prop} {v1 : Int32} {v2 : Int32} {v3 : Int32} (H : pu_I L (d + 4) 153 [.int v1] M (fun x2 M1 => (if x2 = 0 then Q 0 M1 else (if v2 < 0 then Q 0 M1 else (if 65535 < v2 then Q 0 M1 else (if v3 < 0 then Q 0 M1 else (if v3 ≤ 99 then (∃ y3, M1 0 9 = nI y3 ∧ pu_isY y3 ∧ pu_V L (d + 4) 108 [.ref y3, .int v1, .int v2, .int v3] M1 (fun M5 => Q 1 M5)) else Q 0 M1))))))) : pu_I L (d + 5) 122 [.ref 0, .int v1, .int v2, .int v3] M Q := by
  show pu_R L (d + 5) 122 0 [.ref 0, .int v1, .int v2, .int v3] [] M (pu_qI Q)
  refine pu_go 1 (pc' := 1) (ls' := [.ref 0, .int v1, .int v2, .int v3]) (st' := [.int v1]) (M' := M) rfl ?_
  refine pu_callI (m' := 153) (ml := 1) (as := [.int v1]) (rest := []) rfl rfl rfl (Nat.le_of_ble_eq_true rfl) H (fun x2 M1 H => ?_)
  show pu_R L (d + 5) 122 4 [.ref 0, .int v1, .int v2, .int v3] [.int x2] M1 _
  refine pu_if_eq rfl (fun hc => ?_) (fun hc => ?_)
  · replace H := Eq.mp (if_pos hc) H
    refine pu_go 1 (pc' := 28) (ls' := [.ref 0, .int v1, .int v2, .int v3]) (st' := [.int 0]) (M' := M1) rfl ?_
    exact pu_ret rfl rfl ⟨_, rfl, H⟩
  · replace H := Eq.mp (if_neg hc) H
    refine pu_go 1 (pc' := 8) (ls' := [.ref 0, .int v1, .int v2, .int v3]) (st' := [.int v2]) (M' := M1) rfl ?_
    refine pu_if_lt rfl (fun hc => ?_) (fun hc => ?_)
    · replace H := Eq.mp (if_pos hc) H
      refine pu_go 1 (pc' := 28) (ls' := [.ref 0, .int v1, .int v2, .int v3]) (st' := [.int 0]) (M' := M1) rfl ?_
      exact pu_ret rfl rfl ⟨_, rfl, H⟩
    · replace H := Eq.mp (if_neg hc) H
      refine pu_go 2 (pc' := 14) (ls' := [.ref 0, .int v1, .int v2, .int v3]) (st' := [.int 65535, .int v2]) (M' := M1) rfl ?_
      refine pu_icmp_gt rfl (fun hc => ?_) (fun hc => ?_)
      · replace H := Eq.mp (if_pos hc) H
        refine pu_go 1 (pc' := 28) (ls' := [.ref 0, .int v1, .int v2, .int v3]) (st' := [.int 0]) (M' := M1) rfl ?_
        exact pu_ret rfl rfl ⟨_, rfl, H⟩
      · replace H := Eq.mp (if_neg hc) H
        refine pu_go 1 (pc' := 18) (ls' := [.ref 0, .int v1, .int v2, .int v3]) (st' := [.int v3]) (M' := M1) rfl ?_
        refine pu_if_lt rfl (fun hc => ?_) (fun hc => ?_)
        · replace H := Eq.mp (if_pos hc) H
          refine pu_go 1 (pc' := 28) (ls' := [.ref 0, .int v1, .int v2, .int v3]) (st' := [.int 0]) (M' := M1) rfl ?_
          exact pu_ret rfl rfl ⟨_, rfl, H⟩
        · replace H := Eq.mp (if_neg hc) H
          refine pu_go 2 (pc' := 24) (ls' := [.ref 0, .int v1, .int v2, .int v3]) (st' := [.int 99, .int v3]) (M' := M1) rfl ?_
          refine pu_icmp_le rfl (fun hc => ?_) (fun hc => ?_)
          · replace H := Eq.mp (if_pos hc) H
            refine pu_go 1 (pc' := 30) (ls' := [.ref 0, .int v1, .int v2, .int v3]) (st' := [.ref 0]) (M' := M1) rfl ?_
            obtain ⟨y3, e4, hy3, H⟩ := H
            refine pu_getf (j := 9) rfl rfl (by decide) rfl (by decide) rfl (pu_val_d e4 (Nat.lt_trans (pu_Y_lt hy3) (by decide))) ?_
            refine pu_go 3 (pc' := 36) (ls' := [.ref 0, .int v1, .int v2, .int v3]) (st' := [.int v3, .int v2, .int v1, .ref y3]) (M' := M1) rfl ?_
            refine pu_callV (m' := 108) (ml := 4) (as := [.ref y3, .int v1, .int v2, .int v3]) (rest := []) rfl (pu_virt (pu_Y_o hy3) (Nat.lt_trans (pu_Y_lt hy3) (by decide)) ⟨Nat.le_of_ble_eq_true rfl, Nat.le_of_ble_eq_true rfl⟩ rfl rfl) rfl (Nat.le_of_ble_eq_true rfl) H (fun M5 H => ?_)
            show pu_R L (d + 5) 122 39 [.ref 0, .int v1, .int v2, .int v3] [] M5 _
            refine pu_go 1 (pc' := 40) (ls' := [.ref 0, .int v1, .int v2, .int v3]) (st' := [.int 1]) (M' := M5) rfl ?_
            exact pu_ret rfl rfl ⟨_, rfl, H⟩
          · replace H := Eq.mp (if_neg hc) H
            refine pu_go 1 (pc' := 28) (ls' := [.ref 0, .int v1, .int v2, .int v3]) (st' := [.int 0]) (M' := M1) rfl ?_
            exact pu_ret rfl rfl ⟨_, rfl, H⟩
/-! x_feed (IIIII)I -/
set_option maxRecDepth 20000 in
theorem r_x_feed {L d : Nat} {M : pu_M} {Q : Int32 → pu_M → Prop} {v1 : Int32} {v2 : Int32} {v3 : Int32} {v4 : Int32} {v5 : Int32} (H : pu_I L (d + 1) 79 [.ref 1, .int 20] M (fun x2 M1 => (if x2 = 0 then Q ((-1)) M1 else pu_V L (d + 1) 80 [.ref 1, .int v1] M1 (fun M3 => pu_V L (d + 1) 80 [.ref 1, .int v2] M3 (fun M4 => pu_V L (d + 1) 80 [.ref 1, .int v3] M4 (fun M5 => pu_V L (d + 1) 80 [.ref 1, .int v4] M5 (fun M6 => pu_V L (d + 1) 80 [.ref 1, .int v5] M6 (fun M7 => Q (M7 1 1) M7)))))))) : pu_I L (d + 2) 123 [.ref 0, .int v1, .int v2, .int v3, .int v4, .int v5] M Q := by
  show pu_R L (d + 2) 123 0 [.ref 0, .int v1, .int v2, .int v3, .int v4, .int v5] [] M (pu_qI Q)
  refine pu_go 3 (pc' := 6) (ls' := [.ref 0, .int v1, .int v2, .int v3, .int v4, .int v5]) (st' := [.int 20, .ref 1]) (M' := M) rfl ?_
  refine pu_callI (m' := 79) (ml := 2) (as := [.ref 1, .int 20]) (rest := []) rfl rfl rfl (Nat.le_of_ble_eq_true rfl) H (fun x2 M1 H => ?_)
  show pu_R L (d + 2) 123 9 [.ref 0, .int v1, .int v2, .int v3, .int v4, .int v5] [.int x2] M1 _
  refine pu_if_ne rfl (fun hc => ?_) (fun hc => ?_)
  · replace H := Eq.mp (if_neg hc) H
    refine pu_go 3 (pc' := 19) (ls' := [.ref 0, .int v1, .int v2, .int v3, .int v4, .int v5]) (st' := [.int v1, .ref 1]) (M' := M1) rfl ?_
    refine pu_callV (m' := 80) (ml := 3) (as := [.ref 1, .int v1]) (rest := []) rfl rfl rfl (Nat.le_of_ble_eq_true rfl) H (fun M3 H => ?_)
    show pu_R L (d + 2) 123 22 [.ref 0, .int v1, .int v2, .int v3, .int v4, .int v5] [] M3 _
    refine pu_go 3 (pc' := 27) (ls' := [.ref 0, .int v1, .int v2, .int v3, .int v4, .int v5]) (st' := [.int v2, .ref 1]) (M' := M3) rfl ?_
    refine pu_callV (m' := 80) (ml := 3) (as := [.ref 1, .int v2]) (rest := []) rfl rfl rfl (Nat.le_of_ble_eq_true rfl) H (fun M4 H => ?_)
    show pu_R L (d + 2) 123 30 [.ref 0, .int v1, .int v2, .int v3, .int v4, .int v5] [] M4 _
    refine pu_go 3 (pc' := 35) (ls' := [.ref 0, .int v1, .int v2, .int v3, .int v4, .int v5]) (st' := [.int v3, .ref 1]) (M' := M4) rfl ?_
    refine pu_callV (m' := 80) (ml := 3) (as := [.ref 1, .int v3]) (rest := []) rfl rfl rfl (Nat.le_of_ble_eq_true rfl) H (fun M5 H => ?_)
    show pu_R L (d + 2) 123 38 [.ref 0, .int v1, .int v2, .int v3, .int v4, .int v5] [] M5 _
    refine pu_go 3 (pc' := 44) (ls' := [.ref 0, .int v1, .int v2, .int v3, .int v4, .int v5]) (st' := [.int v4, .ref 1]) (M' := M5) rfl ?_
    refine pu_callV (m' := 80) (ml := 3) (as := [.ref 1, .int v4]) (rest := []) rfl rfl rfl (Nat.le_of_ble_eq_true rfl) H (fun M6 H => ?_)
    show pu_R L (d + 2) 123 47 [.ref 0, .int v1, .int v2, .int v3, .int v4, .int v5] [] M6 _
    refine pu_go 3 (pc' := 53) (ls' := [.ref 0, .int v1, .int v2, .int v3, .int v4, .int v5]) (st' := [.int v5, .ref 1]) (M' := M6) rfl ?_
    refine pu_callV (m' := 80) (ml := 3) (as := [.ref 1, .int v5]) (rest := []) rfl rfl rfl (Nat.le_of_ble_eq_true rfl) H (fun M7 H => ?_)
    show pu_R L (d + 2) 123 56 [.ref 0, .int v1, .int v2, .int v3, .int v4, .int v5] [] M7 _
    refine pu_go 3 (pc' := 63) (ls' := [.ref 0, .int v1, .int v2, .int v3, .int v4, .int v5]) (st' := [.int (M7 1 1)]) (M' := M7) rfl ?_
    exact pu_ret rfl rfl ⟨_, rfl, H⟩
  · replace H := Eq.mp (if_pos hc) H
    refine pu_go 1 (pc' := 13) (ls' := [.ref 0, .int v1, .int v2, .int v3, .int v4, .int v5]) (st' := [.int ((-1))]) (M' := M1) rfl ?_
    exact pu_ret rfl rfl ⟨_, rfl, H⟩
/-! x_law (I)I -/
set_option maxRecDepth 20000 in
theorem r_x_law {L d : Nat} {M : pu_M} {Q : Int32 → pu_M → Prop} {v1 : Int32} (H : pu_I L (d + 4) 81 [.ref 1, .int v1, .int 1, .int 240] M (fun x2 M1 => (if x2 = 0 then Q ((-1)) M1 else (∃ y3, M1 0 12 = nI y3 ∧ pu_isL y3 ∧ pu_I L (d + 4) 46 [.ref 49, .ref y3] M1 (fun x6 M5 => (if x6 < 0 then Q x6 M5 else (∃ y7, M5 0 11 = nI y7 ∧ pu_isL y7 ∧ (∃ y9, M5 0 12 = nI y9 ∧ pu_isL y9 ∧ Q x6 (pu_wr (pu_wr M5 0 11 (nI y9)) 0 12 (nI y7)))))))))) : pu_I L (d + 5) 124 [.ref 0, .int v1] M Q := by
  show pu_R L (d + 5) 124 0 [.ref 0, .int v1, mq_un, mq_un] [] M (pu_qI Q)
  refine pu_go 5 (pc' := 9) (ls' := [.ref 0, .int v1, mq_un, mq_un]) (st' := [.int 240, .int 1, .int v1, .ref 1]) (M' := M) rfl ?_
  refine pu_callI (m' := 81) (ml := 4) (as := [.ref 1, .int v1, .int 1, .int 240]) (rest := []) rfl rfl rfl (Nat.le_of_ble_eq_true rfl) H (fun x2 M1 H => ?_)
  show pu_R L (d + 5) 124 12 [.ref 0, .int v1, mq_un, mq_un] [.int x2] M1 _
  refine pu_if_ne rfl (fun hc => ?_) (fun hc => ?_)
  · replace H := Eq.mp (if_neg hc) H
    refine pu_go 3 (pc' := 22) (ls' := [.ref 0, .int v1, mq_un, mq_un]) (st' := [.ref 0, .ref 49]) (M' := M1) rfl ?_
    obtain ⟨y3, e4, hy3, H⟩ := H
    refine pu_getf (j := 12) rfl rfl (by decide) rfl (by decide) rfl (pu_val_d e4 (Nat.lt_trans (pu_L_lt hy3) (by decide))) ?_
    refine pu_callI (m' := 46) (ml := 7) (as := [.ref 49, .ref y3]) (rest := []) rfl rfl rfl (Nat.le_of_ble_eq_true rfl) H (fun x6 M5 H => ?_)
    show pu_R L (d + 5) 124 28 [.ref 0, .int v1, mq_un, mq_un] [.int x6] M5 _
    refine pu_go 2 (pc' := 30) (ls' := [.ref 0, .int v1, .int x6, mq_un]) (st' := [.int x6]) (M' := M5) rfl ?_
    refine pu_if_lt rfl (fun hc => ?_) (fun hc => ?_)
    · replace H := Eq.mp (if_pos hc) H
      refine pu_go 1 (pc' := 52) (ls' := [.ref 0, .int v1, .int x6, mq_un]) (st' := [.int x6]) (M' := M5) rfl ?_
      exact pu_ret rfl rfl ⟨_, rfl, H⟩
    · replace H := Eq.mp (if_neg hc) H
      refine pu_go 1 (pc' := 34) (ls' := [.ref 0, .int v1, .int x6, mq_un]) (st' := [.ref 0]) (M' := M5) rfl ?_
      obtain ⟨y7, e8, hy7, H⟩ := H
      refine pu_getf (j := 11) rfl rfl (by decide) rfl (by decide) rfl (pu_val_d e8 (Nat.lt_trans (pu_L_lt hy7) (by decide))) ?_
      refine pu_go 3 (pc' := 40) (ls' := [.ref 0, .int v1, .int x6, .ref y7]) (st' := [.ref 0, .ref 0]) (M' := M5) rfl ?_
      obtain ⟨y9, e10, hy9, H⟩ := H
      refine pu_getf (j := 12) rfl rfl (by decide) rfl (by decide) rfl (pu_val_d e10 (Nat.lt_trans (pu_L_lt hy9) (by decide))) ?_
      refine pu_putf (j := 11) (z := nI y9) rfl rfl (by decide) rfl (by decide) rfl rfl (pu_put_hd (Nat.lt_trans (pu_L_lt hy9) (by decide))) ?_
      refine pu_go 2 (pc' := 48) (ls' := [.ref 0, .int v1, .int x6, .ref y7]) (st' := [.ref y7, .ref 0]) (M' := pu_wr M5 0 11 (nI y9)) rfl ?_
      refine pu_putf (j := 12) (z := nI y7) rfl rfl (by decide) rfl (by decide) rfl rfl (pu_put_hd (Nat.lt_trans (pu_L_lt hy7) (by decide))) ?_
      refine pu_go 1 (pc' := 52) (ls' := [.ref 0, .int v1, .int x6, .ref y7]) (st' := [.int x6]) (M' := pu_wr (pu_wr M5 0 11 (nI y9)) 0 12 (nI y7)) rfl ?_
      exact pu_ret rfl rfl ⟨_, rfl, H⟩
  · replace H := Eq.mp (if_pos hc) H
    refine pu_go 1 (pc' := 16) (ls' := [.ref 0, .int v1, mq_un, mq_un]) (st' := [.int ((-1))]) (M' := M1) rfl ?_
    exact pu_ret rfl rfl ⟨_, rfl, H⟩
/-! x_burials (I)I -/
set_option maxRecDepth 20000 in
theorem r_x_burials {L d : Nat} {M : pu_M} {Q : Int32 → pu_M → Prop} {v1 : Int32} (H : pu_I L (d + 7) 81 [.ref 1, .int v1, .int 1, .int 120] M (fun x2 M1 => (if x2 = 0 then Q ((-1)) M1 else (∃ y3, M1 0 10 = nI y3 ∧ pu_isY y3 ∧ (∃ y5, M1 0 9 = nI y5 ∧ pu_isY y5 ∧ pu_V L (d + 7) 99 [.ref y3, .ref y5] M1 (fun M7 => (∃ y8, M7 0 10 = nI y8 ∧ pu_isY y8 ∧ pu_I L (d + 7) 1 [.ref 3, .ref y8] M7 (fun x11 M10 => (if x11 < 0 then Q x11 M10 else (∃ y12, M10 0 9 = nI y12 ∧ pu_isY y12 ∧ (∃ y14, M10 0 10 = nI y14 ∧ pu_isY y14 ∧ Q x11 (pu_wr (pu_wr M10 0 9 (nI y14)) 0 10 (nI y12))))))))))))) : pu_I L (d + 8) 125 [.ref 0, .int v1] M Q := by
  show pu_R L (d + 8) 125 0 [.ref 0, .int v1, mq_un, mq_un] [] M (pu_qI Q)
  refine pu_go 5 (pc' := 8) (ls' := [.ref 0, .int v1, mq_un, mq_un]) (st' := [.int 120, .int 1, .int v1, .ref 1]) (M' := M) rfl ?_
  refine pu_callI (m' := 81) (ml := 4) (as := [.ref 1, .int v1, .int 1, .int 120]) (rest := []) rfl rfl rfl (Nat.le_of_ble_eq_true rfl) H (fun x2 M1 H => ?_)
  show pu_R L (d + 8) 125 11 [.ref 0, .int v1, mq_un, mq_un] [.int x2] M1 _
  refine pu_if_ne rfl (fun hc => ?_) (fun hc => ?_)
  · replace H := Eq.mp (if_neg hc) H
    refine pu_go 1 (pc' := 17) (ls' := [.ref 0, .int v1, mq_un, mq_un]) (st' := [.ref 0]) (M' := M1) rfl ?_
    obtain ⟨y3, e4, hy3, H⟩ := H
    refine pu_getf (j := 10) rfl rfl (by decide) rfl (by decide) rfl (pu_val_d e4 (Nat.lt_trans (pu_Y_lt hy3) (by decide))) ?_
    refine pu_go 1 (pc' := 21) (ls' := [.ref 0, .int v1, mq_un, mq_un]) (st' := [.ref 0, .ref y3]) (M' := M1) rfl ?_
    obtain ⟨y5, e6, hy5, H⟩ := H
    refine pu_getf (j := 9) rfl rfl (by decide) rfl (by decide) rfl (pu_val_d e6 (Nat.lt_trans (pu_Y_lt hy5) (by decide))) ?_
    refine pu_callV (m' := 99) (ml := 2) (as := [.ref y3, .ref y5]) (rest := []) rfl (pu_virt (pu_Y_o hy3) (Nat.lt_trans (pu_Y_lt hy3) (by decide)) ⟨Nat.le_of_ble_eq_true rfl, Nat.le_of_ble_eq_true rfl⟩ rfl rfl) rfl (Nat.le_of_ble_eq_true rfl) H (fun M7 H => ?_)
    show pu_R L (d + 8) 125 27 [.ref 0, .int v1, mq_un, mq_un] [] M7 _
    refine pu_go 3 (pc' := 32) (ls' := [.ref 0, .int v1, mq_un, mq_un]) (st' := [.ref 0, .ref 3]) (M' := M7) rfl ?_
    obtain ⟨y8, e9, hy8, H⟩ := H
    refine pu_getf (j := 10) rfl rfl (by decide) rfl (by decide) rfl (pu_val_d e9 (Nat.lt_trans (pu_Y_lt hy8) (by decide))) ?_
    refine pu_callI (m' := 1) (ml := 4) (as := [.ref 3, .ref y8]) (rest := []) rfl rfl rfl (Nat.le_of_ble_eq_true rfl) H (fun x11 M10 H => ?_)
    show pu_R L (d + 8) 125 38 [.ref 0, .int v1, mq_un, mq_un] [.int x11] M10 _
    refine pu_go 2 (pc' := 40) (ls' := [.ref 0, .int v1, .int x11, mq_un]) (st' := [.int x11]) (M' := M10) rfl ?_
    refine pu_if_lt rfl (fun hc => ?_) (fun hc => ?_)
    · replace H := Eq.mp (if_pos hc) H
      refine pu_go 1 (pc' := 62) (ls' := [.ref 0, .int v1, .int x11, mq_un]) (st' := [.int x11]) (M' := M10) rfl ?_
      exact pu_ret rfl rfl ⟨_, rfl, H⟩
    · replace H := Eq.mp (if_neg hc) H
      refine pu_go 1 (pc' := 44) (ls' := [.ref 0, .int v1, .int x11, mq_un]) (st' := [.ref 0]) (M' := M10) rfl ?_
      obtain ⟨y12, e13, hy12, H⟩ := H
      refine pu_getf (j := 9) rfl rfl (by decide) rfl (by decide) rfl (pu_val_d e13 (Nat.lt_trans (pu_Y_lt hy12) (by decide))) ?_
      refine pu_go 3 (pc' := 50) (ls' := [.ref 0, .int v1, .int x11, .ref y12]) (st' := [.ref 0, .ref 0]) (M' := M10) rfl ?_
      obtain ⟨y14, e15, hy14, H⟩ := H
      refine pu_getf (j := 10) rfl rfl (by decide) rfl (by decide) rfl (pu_val_d e15 (Nat.lt_trans (pu_Y_lt hy14) (by decide))) ?_
      refine pu_putf (j := 9) (z := nI y14) rfl rfl (by decide) rfl (by decide) rfl rfl (pu_put_hd (Nat.lt_trans (pu_Y_lt hy14) (by decide))) ?_
      refine pu_go 2 (pc' := 58) (ls' := [.ref 0, .int v1, .int x11, .ref y12]) (st' := [.ref y12, .ref 0]) (M' := pu_wr M10 0 9 (nI y14)) rfl ?_
      refine pu_putf (j := 10) (z := nI y12) rfl rfl (by decide) rfl (by decide) rfl rfl (pu_put_hd (Nat.lt_trans (pu_Y_lt hy12) (by decide))) ?_
      refine pu_go 1 (pc' := 62) (ls' := [.ref 0, .int v1, .int x11, .ref y12]) (st' := [.int x11]) (M' := pu_wr (pu_wr M10 0 9 (nI y14)) 0 10 (nI y12)) rfl ?_
      exact pu_ret rfl rfl ⟨_, rfl, H⟩
  · replace H := Eq.mp (if_pos hc) H
    refine pu_go 1 (pc' := 15) (ls' := [.ref 0, .int v1, mq_un, mq_un]) (st' := [.int ((-1))]) (M' := M1) rfl ?_
    exact pu_ret rfl rfl ⟨_, rfl, H⟩
/-! x_wishes (I)I -/
set_option maxRecDepth 20000 in
theorem r_x_wishes {L d : Nat} {M : pu_M} {Q : Int32 → pu_M → Prop} {v1 : Int32} (H : pu_I L (d + 4) 81 [.ref 1, .int v1, .int 1, .int 120] M (fun x2 M1 => (if x2 = 0 then Q ((-1)) M1 else (∃ y3, M1 0 14 = nI y3 ∧ pu_isW y3 ∧ pu_I L (d + 4) 91 [.ref y3, .ref 1] M1 (fun x6 M5 => (if x6 < 0 then Q x6 M5 else (∃ y7, M5 0 13 = nI y7 ∧ pu_isW y7 ∧ (∃ y9, M5 0 14 = nI y9 ∧ pu_isW y9 ∧ Q x6 (pu_wr (pu_wr M5 0 13 (nI y9)) 0 14 (nI y7)))))))))) : pu_I L (d + 5) 126 [.ref 0, .int v1] M Q := by
  show pu_R L (d + 5) 126 0 [.ref 0, .int v1, mq_un, mq_un] [] M (pu_qI Q)
  refine pu_go 5 (pc' := 8) (ls' := [.ref 0, .int v1, mq_un, mq_un]) (st' := [.int 120, .int 1, .int v1, .ref 1]) (M' := M) rfl ?_
  refine pu_callI (m' := 81) (ml := 4) (as := [.ref 1, .int v1, .int 1, .int 120]) (rest := []) rfl rfl rfl (Nat.le_of_ble_eq_true rfl) H (fun x2 M1 H => ?_)
  show pu_R L (d + 5) 126 11 [.ref 0, .int v1, mq_un, mq_un] [.int x2] M1 _
  refine pu_if_ne rfl (fun hc => ?_) (fun hc => ?_)
  · replace H := Eq.mp (if_neg hc) H
    refine pu_go 1 (pc' := 17) (ls' := [.ref 0, .int v1, mq_un, mq_un]) (st' := [.ref 0]) (M' := M1) rfl ?_
    obtain ⟨y3, e4, hy3, H⟩ := H
    refine pu_getf (j := 14) rfl rfl (by decide) rfl (by decide) rfl (pu_val_d e4 (Nat.lt_trans (pu_W_lt hy3) (by decide))) ?_
    refine pu_go 2 (pc' := 24) (ls' := [.ref 0, .int v1, mq_un, mq_un]) (st' := [.ref 1, .ref y3]) (M' := M1) rfl ?_
    refine pu_callI (m' := 91) (ml := 4) (as := [.ref y3, .ref 1]) (rest := []) rfl (pu_virt (pu_W_o hy3) (Nat.lt_trans (pu_W_lt hy3) (by decide)) ⟨Nat.le_of_ble_eq_true rfl, Nat.le_of_ble_eq_true rfl⟩ rfl rfl) rfl (Nat.le_of_ble_eq_true rfl) H (fun x6 M5 H => ?_)
    show pu_R L (d + 5) 126 27 [.ref 0, .int v1, mq_un, mq_un] [.int x6] M5 _
    refine pu_go 2 (pc' := 29) (ls' := [.ref 0, .int v1, .int x6, mq_un]) (st' := [.int x6]) (M' := M5) rfl ?_
    refine pu_if_lt rfl (fun hc => ?_) (fun hc => ?_)
    · replace H := Eq.mp (if_pos hc) H
      refine pu_go 1 (pc' := 51) (ls' := [.ref 0, .int v1, .int x6, mq_un]) (st' := [.int x6]) (M' := M5) rfl ?_
      exact pu_ret rfl rfl ⟨_, rfl, H⟩
    · replace H := Eq.mp (if_neg hc) H
      refine pu_go 1 (pc' := 33) (ls' := [.ref 0, .int v1, .int x6, mq_un]) (st' := [.ref 0]) (M' := M5) rfl ?_
      obtain ⟨y7, e8, hy7, H⟩ := H
      refine pu_getf (j := 13) rfl rfl (by decide) rfl (by decide) rfl (pu_val_d e8 (Nat.lt_trans (pu_W_lt hy7) (by decide))) ?_
      refine pu_go 3 (pc' := 39) (ls' := [.ref 0, .int v1, .int x6, .ref y7]) (st' := [.ref 0, .ref 0]) (M' := M5) rfl ?_
      obtain ⟨y9, e10, hy9, H⟩ := H
      refine pu_getf (j := 14) rfl rfl (by decide) rfl (by decide) rfl (pu_val_d e10 (Nat.lt_trans (pu_W_lt hy9) (by decide))) ?_
      refine pu_putf (j := 13) (z := nI y9) rfl rfl (by decide) rfl (by decide) rfl rfl (pu_put_hd (Nat.lt_trans (pu_W_lt hy9) (by decide))) ?_
      refine pu_go 2 (pc' := 47) (ls' := [.ref 0, .int v1, .int x6, .ref y7]) (st' := [.ref y7, .ref 0]) (M' := pu_wr M5 0 13 (nI y9)) rfl ?_
      refine pu_putf (j := 14) (z := nI y7) rfl rfl (by decide) rfl (by decide) rfl rfl (pu_put_hd (Nat.lt_trans (pu_W_lt hy7) (by decide))) ?_
      refine pu_go 1 (pc' := 51) (ls' := [.ref 0, .int v1, .int x6, .ref y7]) (st' := [.int x6]) (M' := pu_wr (pu_wr M5 0 13 (nI y9)) 0 14 (nI y7)) rfl ?_
      exact pu_ret rfl rfl ⟨_, rfl, H⟩
  · replace H := Eq.mp (if_pos hc) H
    refine pu_go 1 (pc' := 15) (ls' := [.ref 0, .int v1, mq_un, mq_un]) (st' := [.int ((-1))]) (M' := M1) rfl ?_
    exact pu_ret rfl rfl ⟨_, rfl, H⟩
/-! x_nights (I)I -/
set_option maxRecDepth 20000 in
theorem r_x_nights {L d : Nat} {M : pu_M} {Q : Int32 → pu_M → Prop} {v1 : Int32} (H : (if v1 < 1 then Q ((-1)) M else (if v1 ≤ 240 then (∃ y1, M 0 9 = nI y1 ∧ pu_isY y1 ∧ (∃ y3, M 0 11 = nI y3 ∧ pu_isL y3 ∧ pu_V L (d + 7) 59 [.ref 4, .ref y1, .ref y3, .int v1] M (fun M5 => Q (M5 4 0) M5))) else Q ((-1)) M))) : pu_I L (d + 8) 127 [.ref 0, .int v1] M Q := by
  show pu_R L (d + 8) 127 0 [.ref 0, .int v1] [] M (pu_qI Q)
  refine pu_go 2 (pc' := 2) (ls' := [.ref 0, .int v1]) (st' := [.int 1, .int v1]) (M' := M) rfl ?_
  refine pu_icmp_lt rfl (fun hc => ?_) (fun hc => ?_)
  · replace H := Eq.mp (if_pos hc) H
    refine pu_go 1 (pc' := 13) (ls' := [.ref 0, .int v1]) (st' := [.int ((-1))]) (M' := M) rfl ?_
    exact pu_ret rfl rfl ⟨_, rfl, H⟩
  · replace H := Eq.mp (if_neg hc) H
    refine pu_go 2 (pc' := 9) (ls' := [.ref 0, .int v1]) (st' := [.int 240, .int v1]) (M' := M) rfl ?_
    refine pu_icmp_le rfl (fun hc => ?_) (fun hc => ?_)
    · replace H := Eq.mp (if_pos hc) H
      refine pu_go 3 (pc' := 19) (ls' := [.ref 0, .int v1]) (st' := [.ref 0, .ref 4]) (M' := M) rfl ?_
      obtain ⟨y1, e2, hy1, H⟩ := H
      refine pu_getf (j := 9) rfl rfl (by decide) rfl (by decide) rfl (pu_val_d e2 (Nat.lt_trans (pu_Y_lt hy1) (by decide))) ?_
      refine pu_go 1 (pc' := 23) (ls' := [.ref 0, .int v1]) (st' := [.ref 0, .ref y1, .ref 4]) (M' := M) rfl ?_
      obtain ⟨y3, e4, hy3, H⟩ := H
      refine pu_getf (j := 11) rfl rfl (by decide) rfl (by decide) rfl (pu_val_d e4 (Nat.lt_trans (pu_L_lt hy3) (by decide))) ?_
      refine pu_go 1 (pc' := 27) (ls' := [.ref 0, .int v1]) (st' := [.int v1, .ref y3, .ref y1, .ref 4]) (M' := M) rfl ?_
      refine pu_callV (m' := 59) (ml := 6) (as := [.ref 4, .ref y1, .ref y3, .int v1]) (rest := []) rfl rfl rfl (Nat.le_of_ble_eq_true rfl) H (fun M5 H => ?_)
      show pu_R L (d + 8) 127 30 [.ref 0, .int v1] [] M5 _
      refine pu_go 3 (pc' := 37) (ls' := [.ref 0, .int v1]) (st' := [.int (M5 4 0)]) (M' := M5) rfl ?_
      exact pu_ret rfl rfl ⟨_, rfl, H⟩
    · replace H := Eq.mp (if_neg hc) H
      refine pu_go 1 (pc' := 13) (ls' := [.ref 0, .int v1]) (st' := [.int ((-1))]) (M' := M) rfl ?_
      exact pu_ret rfl rfl ⟨_, rfl, H⟩
