/-! m_isLetter ()Z -/
set_option maxRecDepth 20000 in
theorem r_m_isLetter {L d : Nat} {M : pu_M} {Q : Int32 → pu_M → Prop}  (H : pu_I L (d + 1) 178 [.ref 58] M (fun x2 M1 => pu_I L (d + 1) 157 [.int (x2 - 97), .int 0, .int 15] M1 (fun x4 M3 => ((x4 = 0 ∨ x4 = 1) ∧ Q x4 M3)))) : pu_I L (d + 2) 205 [.ref 58] M Q := by
  show pu_R L (d + 2) 205 0 [.ref 58] [] M (pu_qI Q)
  refine pu_go 1 (pc' := 1) (ls' := [.ref 58]) (st' := [.ref 58]) (M' := M) rfl ?_
  refine pu_callI (m' := 178) (ml := 1) (as := [.ref 58]) (rest := []) rfl rfl rfl (Nat.le_of_ble_eq_true rfl) H (fun x2 M1 H => ?_)
  show pu_R L (d + 2) 205 4 [.ref 58] [.int x2] M1 _
  refine pu_go 4 (pc' := 10) (ls' := [.ref 58]) (st' := [.int 15, .int 0, .int (x2 - 97)]) (M' := M1) rfl ?_
  refine pu_callI (m' := 157) (ml := 3) (as := [.int (x2 - 97), .int 0, .int 15]) (rest := []) rfl rfl rfl (Nat.le_of_ble_eq_true rfl) H (fun x4 M3 H => ?_)
  show pu_R L (d + 2) 205 13 [.ref 58] [.int x4] M3 _
  obtain ⟨hb5, H⟩ := H
  exact pu_retZ rfl hb5 H
/-! m_readsPlot (I)Z -/
set_option maxRecDepth 20000 in
theorem r_m_readsPlot {L d : Nat} {M : pu_M} {Q : Int32 → pu_M → Prop} {v1 : Int32} (H : pu_I L (d + 2) 179 [.ref 58] M (fun x2 M1 => (if x2 = 0 then pu_I L (d + 2) 180 [.ref 58, .int 1, .int (M1 58 5)] M1 (fun x25 M24 => ((x25 = 0 ∨ x25 = 1) ∧ Q x25 M24)) else pu_I L (d + 2) 178 [.ref 58] M1 (fun x4 M3 => pu_I L (d + 2) 181 [.ref 58, .int 44] (pu_wr M3 58 5 ((M3 58 5) + 1)) (fun x6 M5 => (if x6 = 0 then Q 0 M5 else pu_I L (d + 2) 179 [.ref 58] M5 (fun x8 M7 => (if x8 = 0 then pu_I L (d + 2) 180 [.ref 58, .int 1, .int (M7 58 5)] M7 (fun x22 M21 => ((x22 = 0 ∨ x22 = 1) ∧ Q x22 M21)) else pu_I L (d + 2) 178 [.ref 58] M7 (fun x10 M9 => (if (x10 - 48) < 6 then pu_I L (d + 2) 168 [.ref 58, .int ((10 * (x10 - 48)) + (x4 - 48))] (pu_wr M9 58 5 ((M9 58 5) + 1)) (fun x12 M11 => (if x12 = ((-2)) then (mq_inb (48 + v1) 66 = true ∧ Q 1 (pu_wr M11 59 (48 + v1 : Int32).toNatClampNeg ((10 * (x10 - 48)) + (x4 - 48)))) else (if x12 = v1 then (mq_inb (48 + v1) 66 = true ∧ Q 1 (pu_wr M11 59 (48 + v1 : Int32).toNatClampNeg ((10 * (x10 - 48)) + (x4 - 48)))) else pu_I L (d + 2) 180 [.ref 58, .int 8, .int (M 58 5)] M11 (fun x16 M15 => ((x16 = 0 ∨ x16 = 1) ∧ Q x16 M15))))) else pu_I L (d + 2) 180 [.ref 58, .int 3, .int (M9 58 5)] M9 (fun x19 M18 => ((x19 = 0 ∨ x19 = 1) ∧ Q x19 M18)))))))))))) : pu_I L (d + 3) 206 [.ref 58, .int v1] M Q := by
  show pu_R L (d + 3) 206 0 [.ref 58, .int v1, mq_un, mq_un, mq_un, mq_un] [] M (pu_qI Q)
  refine pu_go 4 (pc' := 6) (ls' := [.ref 58, .int v1, .int (M 58 5), mq_un, mq_un, mq_un]) (st' := [.ref 58]) (M' := M) rfl ?_
  refine pu_callI (m' := 179) (ml := 1) (as := [.ref 58]) (rest := []) rfl rfl rfl (Nat.le_of_ble_eq_true rfl) H (fun x2 M1 H => ?_)
  show pu_R L (d + 3) 206 9 [.ref 58, .int v1, .int (M 58 5), mq_un, mq_un, mq_un] [.int x2] M1 _
  refine pu_if_ne rfl (fun hc => ?_) (fun hc => ?_)
  · replace H := Eq.mp (if_neg hc) H
    refine pu_go 1 (pc' := 23) (ls' := [.ref 58, .int v1, .int (M 58 5), mq_un, mq_un, mq_un]) (st' := [.ref 58]) (M' := M1) rfl ?_
    refine pu_callI (m' := 178) (ml := 1) (as := [.ref 58]) (rest := []) rfl rfl rfl (Nat.le_of_ble_eq_true rfl) H (fun x4 M3 H => ?_)
    show pu_R L (d + 3) 206 26 [.ref 58, .int v1, .int (M 58 5), mq_un, mq_un, mq_un] [.int x4] M3 _
    refine pu_go 8 (pc' := 37) (ls' := [.ref 58, .int v1, .int (M 58 5), .int (x4 - 48), mq_un, mq_un]) (st' := [.int ((M3 58 5) + 1), .ref 58]) (M' := M3) rfl ?_
    refine pu_putf (j := 5) (z := (M3 58 5) + 1) rfl rfl (by decide) rfl (by decide) rfl rfl pu_put_hw ?_
    refine pu_go 2 (pc' := 43) (ls' := [.ref 58, .int v1, .int (M 58 5), .int (x4 - 48), mq_un, mq_un]) (st' := [.int 44, .ref 58]) (M' := pu_wr M3 58 5 ((M3 58 5) + 1)) rfl ?_
    refine pu_callI (m' := 181) (ml := 2) (as := [.ref 58, .int 44]) (rest := []) rfl rfl rfl (Nat.le_of_ble_eq_true rfl) H (fun x6 M5 H => ?_)
    show pu_R L (d + 3) 206 46 [.ref 58, .int v1, .int (M 58 5), .int (x4 - 48), mq_un, mq_un] [.int x6] M5 _
    refine pu_if_ne rfl (fun hc => ?_) (fun hc => ?_)
    · replace H := Eq.mp (if_neg hc) H
      refine pu_go 1 (pc' := 52) (ls' := [.ref 58, .int v1, .int (M 58 5), .int (x4 - 48), mq_un, mq_un]) (st' := [.ref 58]) (M' := M5) rfl ?_
      refine pu_callI (m' := 179) (ml := 1) (as := [.ref 58]) (rest := []) rfl rfl rfl (Nat.le_of_ble_eq_true rfl) H (fun x8 M7 H => ?_)
      show pu_R L (d + 3) 206 55 [.ref 58, .int v1, .int (M 58 5), .int (x4 - 48), mq_un, mq_un] [.int x8] M7 _
      refine pu_if_ne rfl (fun hc => ?_) (fun hc => ?_)
      · replace H := Eq.mp (if_neg hc) H
        refine pu_go 1 (pc' := 69) (ls' := [.ref 58, .int v1, .int (M 58 5), .int (x4 - 48), mq_un, mq_un]) (st' := [.ref 58]) (M' := M7) rfl ?_
        refine pu_callI (m' := 178) (ml := 1) (as := [.ref 58]) (rest := []) rfl rfl rfl (Nat.le_of_ble_eq_true rfl) H (fun x10 M9 H => ?_)
        show pu_R L (d + 3) 206 72 [.ref 58, .int v1, .int (M 58 5), .int (x4 - 48), mq_un, mq_un] [.int x10] M9 _
        refine pu_go 5 (pc' := 81) (ls' := [.ref 58, .int v1, .int (M 58 5), .int (x4 - 48), .int (x10 - 48), mq_un]) (st' := [.int 6, .int (x10 - 48)]) (M' := M9) rfl ?_
        refine pu_icmp_lt rfl (fun hc => ?_) (fun hc => ?_)
        · replace H := Eq.mp (if_pos hc) H
          refine pu_go 5 (pc' := 101) (ls' := [.ref 58, .int v1, .int (M 58 5), .int (x4 - 48), .int (x10 - 48), mq_un]) (st' := [.int ((M9 58 5) + 1), .ref 58]) (M' := M9) rfl ?_
          refine pu_putf (j := 5) (z := (M9 58 5) + 1) rfl rfl (by decide) rfl (by decide) rfl rfl pu_put_hw ?_
          refine pu_go 6 (pc' := 112) (ls' := [.ref 58, .int v1, .int (M 58 5), .int (x4 - 48), .int (x10 - 48), mq_un]) (st' := [.int ((10 * (x10 - 48)) + (x4 - 48)), .ref 58]) (M' := pu_wr M9 58 5 ((M9 58 5) + 1)) rfl ?_
          refine pu_callI (m' := 168) (ml := 3) (as := [.ref 58, .int ((10 * (x10 - 48)) + (x4 - 48))]) (rest := []) rfl rfl rfl (Nat.le_of_ble_eq_true rfl) H (fun x12 M11 H => ?_)
          show pu_R L (d + 3) 206 115 [.ref 58, .int v1, .int (M 58 5), .int (x4 - 48), .int (x10 - 48), mq_un] [.int x12] M11 _
          refine pu_go 3 (pc' := 121) (ls' := [.ref 58, .int v1, .int (M 58 5), .int (x4 - 48), .int (x10 - 48), .int x12]) (st' := [.int ((-2)), .int x12]) (M' := M11) rfl ?_
          refine pu_icmp_eq rfl (fun hc => ?_) (fun hc => ?_)
          · replace H := Eq.mp (if_pos hc) H
            refine pu_go 10 (pc' := 153) (ls' := [.ref 58, .int v1, .int (M 58 5), .int (x4 - 48), .int (x10 - 48), .int x12]) (st' := [.int ((10 * (x10 - 48)) + (x4 - 48)), .int (48 + v1), .ref 59]) (M' := M11) rfl ?_
            obtain ⟨hb13, H⟩ := H
            refine pu_iast rfl rfl (by decide) hb13 ?_
            refine pu_go 1 (pc' := 155) (ls' := [.ref 58, .int v1, .int (M 58 5), .int (x4 - 48), .int (x10 - 48), .int x12]) (st' := [.int 1]) (M' := pu_wr M11 59 (48 + v1 : Int32).toNatClampNeg ((10 * (x10 - 48)) + (x4 - 48))) rfl ?_
            exact pu_ret rfl rfl ⟨_, rfl, H⟩
          · replace H := Eq.mp (if_neg hc) H
            refine pu_go 2 (pc' := 127) (ls' := [.ref 58, .int v1, .int (M 58 5), .int (x4 - 48), .int (x10 - 48), .int x12]) (st' := [.int v1, .int x12]) (M' := M11) rfl ?_
            refine pu_icmp_eq rfl (fun hc => ?_) (fun hc => ?_)
            · replace H := Eq.mp (if_pos hc) H
              refine pu_go 10 (pc' := 153) (ls' := [.ref 58, .int v1, .int (M 58 5), .int (x4 - 48), .int (x10 - 48), .int x12]) (st' := [.int ((10 * (x10 - 48)) + (x4 - 48)), .int (48 + v1), .ref 59]) (M' := M11) rfl ?_
              obtain ⟨hb14, H⟩ := H
              refine pu_iast rfl rfl (by decide) hb14 ?_
              refine pu_go 1 (pc' := 155) (ls' := [.ref 58, .int v1, .int (M 58 5), .int (x4 - 48), .int (x10 - 48), .int x12]) (st' := [.int 1]) (M' := pu_wr M11 59 (48 + v1 : Int32).toNatClampNeg ((10 * (x10 - 48)) + (x4 - 48))) rfl ?_
              exact pu_ret rfl rfl ⟨_, rfl, H⟩
            · replace H := Eq.mp (if_neg hc) H
              refine pu_go 3 (pc' := 134) (ls' := [.ref 58, .int v1, .int (M 58 5), .int (x4 - 48), .int (x10 - 48), .int x12]) (st' := [.int (M 58 5), .int 8, .ref 58]) (M' := M11) rfl ?_
              refine pu_callI (m' := 180) (ml := 3) (as := [.ref 58, .int 8, .int (M 58 5)]) (rest := []) rfl rfl rfl (Nat.le_of_ble_eq_true rfl) H (fun x16 M15 H => ?_)
              show pu_R L (d + 3) 206 137 [.ref 58, .int v1, .int (M 58 5), .int (x4 - 48), .int (x10 - 48), .int x12] [.int x16] M15 _
              obtain ⟨hb17, H⟩ := H
              exact pu_retZ rfl hb17 H
        · replace H := Eq.mp (if_neg hc) H
          refine pu_go 4 (pc' := 90) (ls' := [.ref 58, .int v1, .int (M 58 5), .int (x4 - 48), .int (x10 - 48), mq_un]) (st' := [.int (M9 58 5), .int 3, .ref 58]) (M' := M9) rfl ?_
          refine pu_callI (m' := 180) (ml := 3) (as := [.ref 58, .int 3, .int (M9 58 5)]) (rest := []) rfl rfl rfl (Nat.le_of_ble_eq_true rfl) H (fun x19 M18 H => ?_)
          show pu_R L (d + 3) 206 93 [.ref 58, .int v1, .int (M 58 5), .int (x4 - 48), .int (x10 - 48), mq_un] [.int x19] M18 _
          obtain ⟨hb20, H⟩ := H
          exact pu_retZ rfl hb20 H
      · replace H := Eq.mp (if_pos hc) H
        refine pu_go 4 (pc' := 64) (ls' := [.ref 58, .int v1, .int (M 58 5), .int (x4 - 48), mq_un, mq_un]) (st' := [.int (M7 58 5), .int 1, .ref 58]) (M' := M7) rfl ?_
        refine pu_callI (m' := 180) (ml := 3) (as := [.ref 58, .int 1, .int (M7 58 5)]) (rest := []) rfl rfl rfl (Nat.le_of_ble_eq_true rfl) H (fun x22 M21 H => ?_)
        show pu_R L (d + 3) 206 67 [.ref 58, .int v1, .int (M 58 5), .int (x4 - 48), mq_un, mq_un] [.int x22] M21 _
        obtain ⟨hb23, H⟩ := H
        exact pu_retZ rfl hb23 H
    · replace H := Eq.mp (if_pos hc) H
      refine pu_go 1 (pc' := 50) (ls' := [.ref 58, .int v1, .int (M 58 5), .int (x4 - 48), mq_un, mq_un]) (st' := [.int 0]) (M' := M5) rfl ?_
      exact pu_ret rfl rfl ⟨_, rfl, H⟩
  · replace H := Eq.mp (if_pos hc) H
    refine pu_go 4 (pc' := 18) (ls' := [.ref 58, .int v1, .int (M 58 5), mq_un, mq_un, mq_un]) (st' := [.int (M1 58 5), .int 1, .ref 58]) (M' := M1) rfl ?_
    refine pu_callI (m' := 180) (ml := 3) (as := [.ref 58, .int 1, .int (M1 58 5)]) (rest := []) rfl rfl rfl (Nat.le_of_ble_eq_true rfl) H (fun x25 M24 H => ?_)
    show pu_R L (d + 3) 206 21 [.ref 58, .int v1, .int (M 58 5), mq_un, mq_un, mq_un] [.int x25] M24 _
    obtain ⟨hb26, H⟩ := H
    exact pu_retZ rfl hb26 H
/-! m_readsOther (I)Z -/
set_option maxRecDepth 20000 in
theorem r_m_readsOther {L d : Nat} {M : pu_M} {Q : Int32 → pu_M → Prop} {v1 : Int32} (H : pu_I L (d + 2) 205 [.ref 58] M (fun x2 M1 => (if x2 = 0 then pu_I L (d + 2) 180 [.ref 58, .int 1, .int (M1 58 5)] M1 (fun x17 M16 => ((x17 = 0 ∨ x17 = 1) ∧ Q x17 M16)) else pu_I L (d + 2) 178 [.ref 58] M1 (fun x4 M3 => pu_I L (d + 2) 164 [.ref 58, .int (x4 - 97)] M3 (fun x6 M5 => (if x6 = 0 then pu_I L (d + 2) 180 [.ref 58, .int 7, .int (M5 58 5)] M5 (fun x14 M13 => ((x14 = 0 ∨ x14 = 1) ∧ Q x14 M13)) else (mq_inb (48 + v1) 66 = true ∧ (mq_inb (48 + (x4 - 97)) 66 = true ∧ (mq_inb (48 + v1) 66 = true ∧ (mq_inb (48 + (x4 - 97)) 66 = true ∧ (∀ M11 : pu_M, M11 = pu_wr (pu_wr (pu_wr M5 58 5 ((M5 58 5) + 1)) 59 (48 + v1 : Int32).toNatClampNeg ((pu_wr M5 58 5 ((M5 58 5) + 1)) 59 (48 + (x4 - 97) : Int32).toNatClampNeg)) 59 (48 + (x4 - 97) : Int32).toNatClampNeg ((pu_wr M5 58 5 ((M5 58 5) + 1)) 59 (48 + v1 : Int32).toNatClampNeg) → Q 1 M11))))))))))) : pu_I L (d + 3) 207 [.ref 58, .int v1] M Q := by
  show pu_R L (d + 3) 207 0 [.ref 58, .int v1, mq_un, mq_un] [] M (pu_qI Q)
  refine pu_go 1 (pc' := 1) (ls' := [.ref 58, .int v1, mq_un, mq_un]) (st' := [.ref 58]) (M' := M) rfl ?_
  refine pu_callI (m' := 205) (ml := 1) (as := [.ref 58]) (rest := []) rfl rfl rfl (Nat.le_of_ble_eq_true rfl) H (fun x2 M1 H => ?_)
  show pu_R L (d + 3) 207 4 [.ref 58, .int v1, mq_un, mq_un] [.int x2] M1 _
  refine pu_if_ne rfl (fun hc => ?_) (fun hc => ?_)
  · replace H := Eq.mp (if_neg hc) H
    refine pu_go 1 (pc' := 18) (ls' := [.ref 58, .int v1, mq_un, mq_un]) (st' := [.ref 58]) (M' := M1) rfl ?_
    refine pu_callI (m' := 178) (ml := 1) (as := [.ref 58]) (rest := []) rfl rfl rfl (Nat.le_of_ble_eq_true rfl) H (fun x4 M3 H => ?_)
    show pu_R L (d + 3) 207 21 [.ref 58, .int v1, mq_un, mq_un] [.int x4] M3 _
    refine pu_go 5 (pc' := 27) (ls' := [.ref 58, .int v1, .int (x4 - 97), mq_un]) (st' := [.int (x4 - 97), .ref 58]) (M' := M3) rfl ?_
    refine pu_callI (m' := 164) (ml := 2) (as := [.ref 58, .int (x4 - 97)]) (rest := []) rfl rfl rfl (Nat.le_of_ble_eq_true rfl) H (fun x6 M5 H => ?_)
    show pu_R L (d + 3) 207 30 [.ref 58, .int v1, .int (x4 - 97), mq_un] [.int x6] M5 _
    refine pu_if_ne rfl (fun hc => ?_) (fun hc => ?_)
    · replace H := Eq.mp (if_neg hc) H
      refine pu_go 5 (pc' := 51) (ls' := [.ref 58, .int v1, .int (x4 - 97), mq_un]) (st' := [.int ((M5 58 5) + 1), .ref 58]) (M' := M5) rfl ?_
      refine pu_putf (j := 5) (z := (M5 58 5) + 1) rfl rfl (by decide) rfl (by decide) rfl rfl pu_put_hw ?_
      refine pu_go 5 (pc' := 62) (ls' := [.ref 58, .int v1, .int (x4 - 97), mq_un]) (st' := [.int (48 + v1), .ref 59]) (M' := pu_wr M5 58 5 ((M5 58 5) + 1)) rfl ?_
      obtain ⟨hb7, H⟩ := H
      refine pu_iald rfl rfl (Or.inl (by decide)) hb7 ?_
      refine pu_go 11 (pc' := 80) (ls' := [.ref 58, .int v1, .int (x4 - 97), .int ((pu_wr M5 58 5 ((M5 58 5) + 1)) 59 (48 + v1 : Int32).toNatClampNeg)]) (st' := [.int (48 + (x4 - 97)), .ref 59, .int (48 + v1), .ref 59]) (M' := pu_wr M5 58 5 ((M5 58 5) + 1)) rfl ?_
      obtain ⟨hb8, H⟩ := H
      refine pu_iald rfl rfl (Or.inl (by decide)) hb8 ?_
      obtain ⟨hb9, H⟩ := H
      refine pu_iast rfl rfl (by decide) hb9 ?_
      refine pu_go 6 (pc' := 91) (ls' := [.ref 58, .int v1, .int (x4 - 97), .int ((pu_wr M5 58 5 ((M5 58 5) + 1)) 59 (48 + v1 : Int32).toNatClampNeg)]) (st' := [.int ((pu_wr M5 58 5 ((M5 58 5) + 1)) 59 (48 + v1 : Int32).toNatClampNeg), .int (48 + (x4 - 97)), .ref 59]) (M' := pu_wr (pu_wr M5 58 5 ((M5 58 5) + 1)) 59 (48 + v1 : Int32).toNatClampNeg ((pu_wr M5 58 5 ((M5 58 5) + 1)) 59 (48 + (x4 - 97) : Int32).toNatClampNeg)) rfl ?_
      obtain ⟨hb10, H⟩ := H
      refine pu_iast rfl rfl (by decide) hb10 ?_
      refine pu_named (fun M11 eM12 => ?_)
      replace H := H M11 eM12
      refine pu_go 1 (pc' := 93) (ls' := [.ref 58, .int v1, .int (x4 - 97), .int ((pu_wr M5 58 5 ((M5 58 5) + 1)) 59 (48 + v1 : Int32).toNatClampNeg)]) (st' := [.int 1]) (M' := M11) rfl ?_
      exact pu_ret rfl rfl ⟨_, rfl, H⟩
    · replace H := Eq.mp (if_pos hc) H
      refine pu_go 4 (pc' := 40) (ls' := [.ref 58, .int v1, .int (x4 - 97), mq_un]) (st' := [.int (M5 58 5), .int 7, .ref 58]) (M' := M5) rfl ?_
      refine pu_callI (m' := 180) (ml := 3) (as := [.ref 58, .int 7, .int (M5 58 5)]) (rest := []) rfl rfl rfl (Nat.le_of_ble_eq_true rfl) H (fun x14 M13 H => ?_)
      show pu_R L (d + 3) 207 43 [.ref 58, .int v1, .int (x4 - 97), mq_un] [.int x14] M13 _
      obtain ⟨hb15, H⟩ := H
      exact pu_retZ rfl hb15 H
  · replace H := Eq.mp (if_pos hc) H
    refine pu_go 4 (pc' := 13) (ls' := [.ref 58, .int v1, mq_un, mq_un]) (st' := [.int (M1 58 5), .int 1, .ref 58]) (M' := M1) rfl ?_
    refine pu_callI (m' := 180) (ml := 3) (as := [.ref 58, .int 1, .int (M1 58 5)]) (rest := []) rfl rfl rfl (Nat.le_of_ble_eq_true rfl) H (fun x17 M16 H => ?_)
    show pu_R L (d + 3) 207 16 [.ref 58, .int v1, mq_un, mq_un] [.int x17] M16 _
    obtain ⟨hb18, H⟩ := H
    exact pu_retZ rfl hb18 H
/-! m_readsTopic (IZ)Z -/
set_option maxRecDepth 20000 in
theorem r_m_readsTopic {L d : Nat} {M : pu_M} {Q : Int32 → pu_M → Prop} {v1 : Int32} {v2 : Int32} (H : pu_I L (d + 1) 178 [.ref 58] M (fun x2 M1 => pu_I L (d + 1) 157 [.int (x2 - 65), .int 0, .int 15] M1 (fun x4 M3 => (if x4 = 0 then pu_I L (d + 1) 180 [.ref 58, .int 1, .int (M3 58 5)] M3 (fun x14 M13 => ((x14 = 0 ∨ x14 = 1) ∧ Q x14 M13)) else (if v2 = 0 then (mq_inb (16 + v1) 66 = true ∧ (mq_inb (16 + v1) 66 = true ∧ (∀ M7 : pu_M, M7 = pu_wr (pu_wr M3 58 5 ((M3 58 5) + 1)) 59 (16 + v1 : Int32).toNatClampNeg (((pu_wr M3 58 5 ((M3 58 5) + 1)) 59 (16 + v1 : Int32).toNatClampNeg) &&& (((1 : Int32) <<< ((x2 - 65) &&& 31)) ^^^ ((-1)))) → Q 1 M7))) else (mq_inb (16 + v1) 66 = true ∧ (mq_inb (16 + v1) 66 = true ∧ (∀ M11 : pu_M, M11 = pu_wr (pu_wr M3 58 5 ((M3 58 5) + 1)) 59 (16 + v1 : Int32).toNatClampNeg (((pu_wr M3 58 5 ((M3 58 5) + 1)) 59 (16 + v1 : Int32).toNatClampNeg) ||| ((1 : Int32) <<< ((x2 - 65) &&& 31))) → Q 1 M11)))))))) : pu_I L (d + 2) 208 [.ref 58, .int v1, .int v2] M Q := by
  show pu_R L (d + 2) 208 0 [.ref 58, .int v1, .int v2, mq_un] [] M (pu_qI Q)
  refine pu_go 1 (pc' := 1) (ls' := [.ref 58, .int v1, .int v2, mq_un]) (st' := [.ref 58]) (M' := M) rfl ?_
  refine pu_callI (m' := 178) (ml := 1) (as := [.ref 58]) (rest := []) rfl rfl rfl (Nat.le_of_ble_eq_true rfl) H (fun x2 M1 H => ?_)
  show pu_R L (d + 2) 208 4 [.ref 58, .int v1, .int v2, mq_un] [.int x2] M1 _
  refine pu_go 6 (pc' := 12) (ls' := [.ref 58, .int v1, .int v2, .int (x2 - 65)]) (st' := [.int 15, .int 0, .int (x2 - 65)]) (M' := M1) rfl ?_
  refine pu_callI (m' := 157) (ml := 3) (as := [.int (x2 - 65), .int 0, .int 15]) (rest := []) rfl rfl rfl (Nat.le_of_ble_eq_true rfl) H (fun x4 M3 H => ?_)
  show pu_R L (d + 2) 208 15 [.ref 58, .int v1, .int v2, .int (x2 - 65)] [.int x4] M3 _
  refine pu_if_ne rfl (fun hc => ?_) (fun hc => ?_)
  · replace H := Eq.mp (if_neg hc) H
    refine pu_go 5 (pc' := 35) (ls' := [.ref 58, .int v1, .int v2, .int (x2 - 65)]) (st' := [.int ((M3 58 5) + 1), .ref 58]) (M' := M3) rfl ?_
    refine pu_putf (j := 5) (z := (M3 58 5) + 1) rfl rfl (by decide) rfl (by decide) rfl rfl pu_put_hw ?_
    refine pu_go 6 (pc' := 47) (ls' := [.ref 58, .int v1, .int v2, .int (x2 - 65)]) (st' := [.int v2, .int (16 + v1), .ref 59]) (M' := pu_wr M3 58 5 ((M3 58 5) + 1)) rfl ?_
    refine pu_if_eq rfl (fun hc => ?_) (fun hc => ?_)
    · replace H := Eq.mp (if_pos hc) H
      refine pu_go 5 (pc' := 74) (ls' := [.ref 58, .int v1, .int v2, .int (x2 - 65)]) (st' := [.int (16 + v1), .ref 59, .int (16 + v1), .ref 59]) (M' := pu_wr M3 58 5 ((M3 58 5) + 1)) rfl ?_
      obtain ⟨hb5, H⟩ := H
      refine pu_iald rfl rfl (Or.inl (by decide)) hb5 ?_
      refine pu_go 6 (pc' := 81) (ls' := [.ref 58, .int v1, .int v2, .int (x2 - 65)]) (st' := [.int (((pu_wr M3 58 5 ((M3 58 5) + 1)) 59 (16 + v1 : Int32).toNatClampNeg) &&& (((1 : Int32) <<< ((x2 - 65) &&& 31)) ^^^ ((-1)))), .int (16 + v1), .ref 59]) (M' := pu_wr M3 58 5 ((M3 58 5) + 1)) rfl ?_
      obtain ⟨hb6, H⟩ := H
      refine pu_iast rfl rfl (by decide) hb6 ?_
      refine pu_named (fun M7 eM8 => ?_)
      replace H := H M7 eM8
      refine pu_go 1 (pc' := 83) (ls' := [.ref 58, .int v1, .int v2, .int (x2 - 65)]) (st' := [.int 1]) (M' := M7) rfl ?_
      exact pu_ret rfl rfl ⟨_, rfl, H⟩
    · replace H := Eq.mp (if_neg hc) H
      refine pu_go 5 (pc' := 58) (ls' := [.ref 58, .int v1, .int v2, .int (x2 - 65)]) (st' := [.int (16 + v1), .ref 59, .int (16 + v1), .ref 59]) (M' := pu_wr M3 58 5 ((M3 58 5) + 1)) rfl ?_
      obtain ⟨hb9, H⟩ := H
      refine pu_iald rfl rfl (Or.inl (by decide)) hb9 ?_
      refine pu_go 5 (pc' := 81) (ls' := [.ref 58, .int v1, .int v2, .int (x2 - 65)]) (st' := [.int (((pu_wr M3 58 5 ((M3 58 5) + 1)) 59 (16 + v1 : Int32).toNatClampNeg) ||| ((1 : Int32) <<< ((x2 - 65) &&& 31))), .int (16 + v1), .ref 59]) (M' := pu_wr M3 58 5 ((M3 58 5) + 1)) rfl ?_
      obtain ⟨hb10, H⟩ := H
      refine pu_iast rfl rfl (by decide) hb10 ?_
      refine pu_named (fun M11 eM12 => ?_)
      replace H := H M11 eM12
      refine pu_go 1 (pc' := 83) (ls' := [.ref 58, .int v1, .int v2, .int (x2 - 65)]) (st' := [.int 1]) (M' := M11) rfl ?_
      exact pu_ret rfl rfl ⟨_, rfl, H⟩
  · replace H := Eq.mp (if_pos hc) H
    refine pu_go 4 (pc' := 24) (ls' := [.ref 58, .int v1, .int v2, .int (x2 - 65)]) (st' := [.int (M3 58 5), .int 1, .ref 58]) (M' := M3) rfl ?_
    refine pu_callI (m' := 180) (ml := 3) (as := [.ref 58, .int 1, .int (M3 58 5)]) (rest := []) rfl rfl rfl (Nat.le_of_ble_eq_true rfl) H (fun x14 M13 H => ?_)
    show pu_R L (d + 2) 208 27 [.ref 58, .int v1, .int v2, .int (x2 - 65)] [.int x14] M13 _
    obtain ⟨hb15, H⟩ := H
    exact pu_retZ rfl hb15 H
/-! m_readsLine ()Z -/
set_option maxRecDepth 20000 in
theorem r_m_readsLine_128 {L d : Nat} {M : pu_M} {Q : Int32 → pu_M → Prop} {v1 : Int32} {v2 : Int32} (H : (if v2 = 64 then pu_I L (d + 3) 206 [.ref 58, .int v1] (pu_wr M 58 5 ((M 58 5) + 1)) (fun x12 M11 => ((x12 = 0 ∨ x12 = 1) ∧ Q x12 M11)) else (if v2 = 61 then pu_I L (d + 3) 207 [.ref 58, .int v1] (pu_wr M 58 5 ((M 58 5) + 1)) (fun x9 M8 => ((x9 = 0 ∨ x9 = 1) ∧ Q x9 M8)) else (if v2 = 33 then (mq_inb (48 + v1) 66 = true ∧ Q 1 (pu_wr (pu_wr M 58 5 ((M 58 5) + 1)) 59 (48 + v1 : Int32).toNatClampNeg ((-2)))) else (if v2 = 43 then pu_I L (d + 3) 208 [.ref 58, .int v1, .int 1] (pu_wr M 58 5 ((M 58 5) + 1)) (fun x6 M5 => ((x6 = 0 ∨ x6 = 1) ∧ Q x6 M5)) else pu_I L (d + 3) 208 [.ref 58, .int v1, .int 0] (pu_wr M 58 5 ((M 58 5) + 1)) (fun x3 M2 => ((x3 = 0 ∨ x3 = 1) ∧ Q x3 M2))))))) : pu_R L (d + 4) 209 128 [.ref 58, .int v1, .int v2] [] M (pu_qI Q) := by
  refine pu_go 5 (pc' := 135) (ls' := [.ref 58, .int v1, .int v2]) (st' := [.int ((M 58 5) + 1), .ref 58]) (M' := M) rfl ?_
  refine pu_putf (j := 5) (z := (M 58 5) + 1) rfl rfl (by decide) rfl (by decide) rfl rfl pu_put_hw ?_
  refine pu_go 2 (pc' := 141) (ls' := [.ref 58, .int v1, .int v2]) (st' := [.int 64, .int v2]) (M' := pu_wr M 58 5 ((M 58 5) + 1)) rfl ?_
  refine pu_icmp_ne rfl (fun hc => ?_) (fun hc => ?_)
  · replace H := Eq.mp (if_neg hc) H
    refine pu_go 2 (pc' := 153) (ls' := [.ref 58, .int v1, .int v2]) (st' := [.int 61, .int v2]) (M' := pu_wr M 58 5 ((M 58 5) + 1)) rfl ?_
    refine pu_icmp_ne rfl (fun hc => ?_) (fun hc => ?_)
    · replace H := Eq.mp (if_neg hc) H
      refine pu_go 2 (pc' := 165) (ls' := [.ref 58, .int v1, .int v2]) (st' := [.int 33, .int v2]) (M' := pu_wr M 58 5 ((M 58 5) + 1)) rfl ?_
      refine pu_icmp_eq rfl (fun hc => ?_) (fun hc => ?_)
      · replace H := Eq.mp (if_pos hc) H
        refine pu_go 6 (pc' := 195) (ls' := [.ref 58, .int v1, .int v2]) (st' := [.int ((-2)), .int (48 + v1), .ref 59]) (M' := pu_wr M 58 5 ((M 58 5) + 1)) rfl ?_
        obtain ⟨hb1, H⟩ := H
        refine pu_iast rfl rfl (by decide) hb1 ?_
        refine pu_go 1 (pc' := 197) (ls' := [.ref 58, .int v1, .int v2]) (st' := [.int 1]) (M' := pu_wr (pu_wr M 58 5 ((M 58 5) + 1)) 59 (48 + v1 : Int32).toNatClampNeg ((-2))) rfl ?_
        exact pu_ret rfl rfl ⟨_, rfl, H⟩
      · replace H := Eq.mp (if_neg hc) H
        refine pu_go 4 (pc' := 173) (ls' := [.ref 58, .int v1, .int v2]) (st' := [.int 43, .int v2, .int v1, .ref 58]) (M' := pu_wr M 58 5 ((M 58 5) + 1)) rfl ?_
        refine pu_icmp_ne rfl (fun hc => ?_) (fun hc => ?_)
        · replace H := Eq.mp (if_neg hc) H
          refine pu_go 1 (pc' := 181) (ls' := [.ref 58, .int v1, .int v2]) (st' := [.int 0, .int v1, .ref 58]) (M' := pu_wr M 58 5 ((M 58 5) + 1)) rfl ?_
          refine pu_callI (m' := 208) (ml := 4) (as := [.ref 58, .int v1, .int 0]) (rest := []) rfl rfl rfl (Nat.le_of_ble_eq_true rfl) H (fun x3 M2 H => ?_)
          show pu_R L (d + 4) 209 184 [.ref 58, .int v1, .int v2] [.int x3] M2 _
          obtain ⟨hb4, H⟩ := H
          exact pu_retZ rfl hb4 H
        · replace H := Eq.mp (if_pos hc) H
          refine pu_go 2 (pc' := 181) (ls' := [.ref 58, .int v1, .int v2]) (st' := [.int 1, .int v1, .ref 58]) (M' := pu_wr M 58 5 ((M 58 5) + 1)) rfl ?_
          refine pu_callI (m' := 208) (ml := 4) (as := [.ref 58, .int v1, .int 1]) (rest := []) rfl rfl rfl (Nat.le_of_ble_eq_true rfl) H (fun x6 M5 H => ?_)
          show pu_R L (d + 4) 209 184 [.ref 58, .int v1, .int v2] [.int x6] M5 _
          obtain ⟨hb7, H⟩ := H
          exact pu_retZ rfl hb7 H
    · replace H := Eq.mp (if_pos hc) H
      refine pu_go 2 (pc' := 158) (ls' := [.ref 58, .int v1, .int v2]) (st' := [.int v1, .ref 58]) (M' := pu_wr M 58 5 ((M 58 5) + 1)) rfl ?_
      refine pu_callI (m' := 207) (ml := 4) (as := [.ref 58, .int v1]) (rest := []) rfl rfl rfl (Nat.le_of_ble_eq_true rfl) H (fun x9 M8 H => ?_)
      show pu_R L (d + 4) 209 161 [.ref 58, .int v1, .int v2] [.int x9] M8 _
      obtain ⟨hb10, H⟩ := H
      exact pu_retZ rfl hb10 H
  · replace H := Eq.mp (if_pos hc) H
    refine pu_go 2 (pc' := 146) (ls' := [.ref 58, .int v1, .int v2]) (st' := [.int v1, .ref 58]) (M' := pu_wr M 58 5 ((M 58 5) + 1)) rfl ?_
    refine pu_callI (m' := 206) (ml := 6) (as := [.ref 58, .int v1]) (rest := []) rfl rfl rfl (Nat.le_of_ble_eq_true rfl) H (fun x12 M11 H => ?_)
    show pu_R L (d + 4) 209 149 [.ref 58, .int v1, .int v2] [.int x12] M11 _
    obtain ⟨hb13, H⟩ := H
    exact pu_retZ rfl hb13 H
set_option maxRecDepth 20000 in
theorem r_m_readsLine {L d : Nat} {M : pu_M} {Q : Int32 → pu_M → Prop}  (H : pu_I L (d + 3) 205 [.ref 58] M (fun x2 M1 => (if x2 = 0 then pu_I L (d + 3) 180 [.ref 58, .int 1, .int (M1 58 5)] M1 (fun x19 M18 => ((x19 = 0 ∨ x19 = 1) ∧ Q x19 M18)) else (if (M1 58 27) = 20 then pu_I L (d + 3) 180 [.ref 58, .int 4, .int (M1 58 5)] M1 (fun x16 M15 => ((x16 = 0 ∨ x16 = 1) ∧ Q x16 M15)) else pu_I L (d + 3) 178 [.ref 58] (pu_wr M1 58 27 ((M1 58 27) + 1)) (fun x4 M3 => pu_I L (d + 3) 164 [.ref 58, .int (x4 - 97)] M3 (fun x6 M5 => (if x6 = 0 then pu_I L (d + 3) 180 [.ref 58, .int 7, .int (M5 58 5)] M5 (fun x13 M12 => ((x13 = 0 ∨ x13 = 1) ∧ Q x13 M12)) else pu_I L (d + 3) 178 [.ref 58] (pu_wr M5 58 5 ((M5 58 5) + 1)) (fun x8 M7 => (if x8 = 64 then pu_R L (d + 4) 209 128 [.ref 58, .int (x4 - 97), .int x8] [] M7 (pu_qI Q) else (if x8 = 33 then pu_R L (d + 4) 209 128 [.ref 58, .int (x4 - 97), .int x8] [] M7 (pu_qI Q) else (if x8 = 61 then pu_R L (d + 4) 209 128 [.ref 58, .int (x4 - 97), .int x8] [] M7 (pu_qI Q) else (if x8 = 43 then pu_R L (d + 4) 209 128 [.ref 58, .int (x4 - 97), .int x8] [] M7 (pu_qI Q) else (if x8 = 45 then pu_R L (d + 4) 209 128 [.ref 58, .int (x4 - 97), .int x8] [] M7 (pu_qI Q) else pu_I L (d + 3) 180 [.ref 58, .int 1, .int (M7 58 5)] M7 (fun x10 M9 => ((x10 = 0 ∨ x10 = 1) ∧ Q x10 M9))))))))))))))) : pu_I L (d + 4) 209 [.ref 58] M Q := by
  show pu_R L (d + 4) 209 0 [.ref 58, mq_un, mq_un] [] M (pu_qI Q)
  refine pu_go 1 (pc' := 1) (ls' := [.ref 58, mq_un, mq_un]) (st' := [.ref 58]) (M' := M) rfl ?_
  refine pu_callI (m' := 205) (ml := 1) (as := [.ref 58]) (rest := []) rfl rfl rfl (Nat.le_of_ble_eq_true rfl) H (fun x2 M1 H => ?_)
  show pu_R L (d + 4) 209 4 [.ref 58, mq_un, mq_un] [.int x2] M1 _
  refine pu_if_ne rfl (fun hc => ?_) (fun hc => ?_)
  · replace H := Eq.mp (if_neg hc) H
    refine pu_go 3 (pc' := 23) (ls' := [.ref 58, mq_un, mq_un]) (st' := [.int 20, .int (M1 58 27)]) (M' := M1) rfl ?_
    refine pu_icmp_ne rfl (fun hc => ?_) (fun hc => ?_)
    · replace H := Eq.mp (if_neg hc) H
      refine pu_go 5 (pc' := 43) (ls' := [.ref 58, mq_un, mq_un]) (st' := [.int ((M1 58 27) + 1), .ref 58]) (M' := M1) rfl ?_
      refine pu_putf (j := 27) (z := (M1 58 27) + 1) rfl rfl (by decide) rfl (by decide) rfl rfl pu_put_hw ?_
      refine pu_go 1 (pc' := 47) (ls' := [.ref 58, mq_un, mq_un]) (st' := [.ref 58]) (M' := pu_wr M1 58 27 ((M1 58 27) + 1)) rfl ?_
      refine pu_callI (m' := 178) (ml := 1) (as := [.ref 58]) (rest := []) rfl rfl rfl (Nat.le_of_ble_eq_true rfl) H (fun x4 M3 H => ?_)
      show pu_R L (d + 4) 209 50 [.ref 58, mq_un, mq_un] [.int x4] M3 _
      refine pu_go 5 (pc' := 56) (ls' := [.ref 58, .int (x4 - 97), mq_un]) (st' := [.int (x4 - 97), .ref 58]) (M' := M3) rfl ?_
      refine pu_callI (m' := 164) (ml := 2) (as := [.ref 58, .int (x4 - 97)]) (rest := []) rfl rfl rfl (Nat.le_of_ble_eq_true rfl) H (fun x6 M5 H => ?_)
      show pu_R L (d + 4) 209 59 [.ref 58, .int (x4 - 97), mq_un] [.int x6] M5 _
      refine pu_if_ne rfl (fun hc => ?_) (fun hc => ?_)
      · replace H := Eq.mp (if_neg hc) H
        refine pu_go 5 (pc' := 80) (ls' := [.ref 58, .int (x4 - 97), mq_un]) (st' := [.int ((M5 58 5) + 1), .ref 58]) (M' := M5) rfl ?_
        refine pu_putf (j := 5) (z := (M5 58 5) + 1) rfl rfl (by decide) rfl (by decide) rfl rfl pu_put_hw ?_
        refine pu_go 1 (pc' := 84) (ls' := [.ref 58, .int (x4 - 97), mq_un]) (st' := [.ref 58]) (M' := pu_wr M5 58 5 ((M5 58 5) + 1)) rfl ?_
        refine pu_callI (m' := 178) (ml := 1) (as := [.ref 58]) (rest := []) rfl rfl rfl (Nat.le_of_ble_eq_true rfl) H (fun x8 M7 H => ?_)
        show pu_R L (d + 4) 209 87 [.ref 58, .int (x4 - 97), mq_un] [.int x8] M7 _
        refine pu_go 3 (pc' := 91) (ls' := [.ref 58, .int (x4 - 97), .int x8]) (st' := [.int 64, .int x8]) (M' := M7) rfl ?_
        refine pu_icmp_eq rfl (fun hc => ?_) (fun hc => ?_)
        · replace H := Eq.mp (if_pos hc) H
          exact H
        · replace H := Eq.mp (if_neg hc) H
          refine pu_go 2 (pc' := 97) (ls' := [.ref 58, .int (x4 - 97), .int x8]) (st' := [.int 33, .int x8]) (M' := M7) rfl ?_
          refine pu_icmp_eq rfl (fun hc => ?_) (fun hc => ?_)
          · replace H := Eq.mp (if_pos hc) H
            exact H
          · replace H := Eq.mp (if_neg hc) H
            refine pu_go 2 (pc' := 103) (ls' := [.ref 58, .int (x4 - 97), .int x8]) (st' := [.int 61, .int x8]) (M' := M7) rfl ?_
            refine pu_icmp_eq rfl (fun hc => ?_) (fun hc => ?_)
            · replace H := Eq.mp (if_pos hc) H
              exact H
            · replace H := Eq.mp (if_neg hc) H
              refine pu_go 2 (pc' := 109) (ls' := [.ref 58, .int (x4 - 97), .int x8]) (st' := [.int 43, .int x8]) (M' := M7) rfl ?_
              refine pu_icmp_eq rfl (fun hc => ?_) (fun hc => ?_)
              · replace H := Eq.mp (if_pos hc) H
                exact H
              · replace H := Eq.mp (if_neg hc) H
                refine pu_go 2 (pc' := 115) (ls' := [.ref 58, .int (x4 - 97), .int x8]) (st' := [.int 45, .int x8]) (M' := M7) rfl ?_
                refine pu_icmp_eq rfl (fun hc => ?_) (fun hc => ?_)
                · replace H := Eq.mp (if_pos hc) H
                  exact H
                · replace H := Eq.mp (if_neg hc) H
                  refine pu_go 4 (pc' := 124) (ls' := [.ref 58, .int (x4 - 97), .int x8]) (st' := [.int (M7 58 5), .int 1, .ref 58]) (M' := M7) rfl ?_
                  refine pu_callI (m' := 180) (ml := 3) (as := [.ref 58, .int 1, .int (M7 58 5)]) (rest := []) rfl rfl rfl (Nat.le_of_ble_eq_true rfl) H (fun x10 M9 H => ?_)
                  show pu_R L (d + 4) 209 127 [.ref 58, .int (x4 - 97), .int x8] [.int x10] M9 _
                  obtain ⟨hb11, H⟩ := H
                  exact pu_retZ rfl hb11 H
      · replace H := Eq.mp (if_pos hc) H
        refine pu_go 4 (pc' := 69) (ls' := [.ref 58, .int (x4 - 97), mq_un]) (st' := [.int (M5 58 5), .int 7, .ref 58]) (M' := M5) rfl ?_
        refine pu_callI (m' := 180) (ml := 3) (as := [.ref 58, .int 7, .int (M5 58 5)]) (rest := []) rfl rfl rfl (Nat.le_of_ble_eq_true rfl) H (fun x13 M12 H => ?_)
        show pu_R L (d + 4) 209 72 [.ref 58, .int (x4 - 97), mq_un] [.int x13] M12 _
        obtain ⟨hb14, H⟩ := H
        exact pu_retZ rfl hb14 H
    · replace H := Eq.mp (if_pos hc) H
      refine pu_go 4 (pc' := 32) (ls' := [.ref 58, mq_un, mq_un]) (st' := [.int (M1 58 5), .int 4, .ref 58]) (M' := M1) rfl ?_
      refine pu_callI (m' := 180) (ml := 3) (as := [.ref 58, .int 4, .int (M1 58 5)]) (rest := []) rfl rfl rfl (Nat.le_of_ble_eq_true rfl) H (fun x16 M15 H => ?_)
      show pu_R L (d + 4) 209 35 [.ref 58, mq_un, mq_un] [.int x16] M15 _
      obtain ⟨hb17, H⟩ := H
      exact pu_retZ rfl hb17 H
  · replace H := Eq.mp (if_pos hc) H
    refine pu_go 4 (pc' := 13) (ls' := [.ref 58, mq_un, mq_un]) (st' := [.int (M1 58 5), .int 1, .ref 58]) (M' := M1) rfl ?_
    refine pu_callI (m' := 180) (ml := 3) (as := [.ref 58, .int 1, .int (M1 58 5)]) (rest := []) rfl rfl rfl (Nat.le_of_ble_eq_true rfl) H (fun x19 M18 H => ?_)
    show pu_R L (d + 4) 209 16 [.ref 58, mq_un, mq_un] [.int x19] M18 _
    obtain ⟨hb20, H⟩ := H
    exact pu_retZ rfl hb20 H
/-! m_burials (I)I -/
set_option maxRecDepth 20000 in
theorem r_m_burials_86 {L d : Nat} {M : pu_M} {Q : Int32 → pu_M → Prop} {v1 : Int32} {v2 : Int32} (H : (if v2 = 0 then pu_V L (d + 4) 163 [.ref 60, .ref 59] (pu_wr M 58 4 0) (fun M1 => Q (M1 58 7) M1) else Q ((pu_wr M 58 4 0) 58 27) (pu_wr M 58 4 0))) : pu_R L (d + 5) 210 86 [.ref 58, .int v1, .int v2] [] M (pu_qI Q) := by
  refine pu_go 2 (pc' := 88) (ls' := [.ref 58, .int v1, .int v2]) (st' := [.int 0, .ref 58]) (M' := M) rfl ?_
  refine pu_putf (j := 4) (z := 0) rfl rfl (by decide) rfl (by decide) rfl rfl pu_put_hw ?_
  refine pu_go 1 (pc' := 92) (ls' := [.ref 58, .int v1, .int v2]) (st' := [.int v2]) (M' := pu_wr M 58 4 0) rfl ?_
  refine pu_if_eq rfl (fun hc => ?_) (fun hc => ?_)
  · replace H := Eq.mp (if_pos hc) H
    refine pu_go 4 (pc' := 108) (ls' := [.ref 58, .int v1, .int v2]) (st' := [.ref 59, .ref 60]) (M' := pu_wr M 58 4 0) rfl ?_
    refine pu_callV (m' := 163) (ml := 3) (as := [.ref 60, .ref 59]) (rest := []) rfl rfl rfl (Nat.le_of_ble_eq_true rfl) H (fun M1 H => ?_)
    show pu_R L (d + 5) 210 111 [.ref 58, .int v1, .int v2] [] M1 _
    refine pu_go 2 (pc' := 115) (ls' := [.ref 58, .int v1, .int v2]) (st' := [.int (M1 58 7)]) (M' := M1) rfl ?_
    exact pu_ret rfl rfl ⟨_, rfl, H⟩
  · replace H := Eq.mp (if_neg hc) H
    refine pu_go 2 (pc' := 99) (ls' := [.ref 58, .int v1, .int v2]) (st' := [.int ((pu_wr M 58 4 0) 58 27)]) (M' := pu_wr M 58 4 0) rfl ?_
    exact pu_ret rfl rfl ⟨_, rfl, H⟩
set_option maxRecDepth 20000 in
theorem r_m_burials_46 {L d : Nat} {M : pu_M} {Q : Int32 → pu_M → Prop} {v1 : Int32} {v2 : Int32} (H : (if v2 = 0 then pu_R L (d + 5) 210 86 [.ref 58, .int v1, .int v2] [] M (pu_qI Q) else (if (M 58 6) ≤ (M 58 5) then pu_R L (d + 5) 210 86 [.ref 58, .int v1, .int v2] [] M (pu_qI Q) else pu_I L (d + 4) 181 [.ref 58, .int 59] M (fun x2 M1 => (if x2 = 0 then pu_R L (d + 5) 210 46 [.ref 58, .int v1, .int 0] [] M1 (pu_qI Q) else pu_I L (d + 4) 209 [.ref 58] M1 (fun x4 M3 => (if x4 = 0 then pu_R L (d + 5) 210 46 [.ref 58, .int v1, .int 0] [] M3 (pu_qI Q) else pu_R L (d + 5) 210 46 [.ref 58, .int v1, .int 1] [] M3 (pu_qI Q)))))))) : pu_R L (d + 5) 210 46 [.ref 58, .int v1, .int v2] [] M (pu_qI Q) := by
  refine pu_go 1 (pc' := 47) (ls' := [.ref 58, .int v1, .int v2]) (st' := [.int v2]) (M' := M) rfl ?_
  refine pu_if_eq rfl (fun hc => ?_) (fun hc => ?_)
  · replace H := Eq.mp (if_pos hc) H
    exact H
  · replace H := Eq.mp (if_neg hc) H
    refine pu_go 4 (pc' := 58) (ls' := [.ref 58, .int v1, .int v2]) (st' := [.int (M 58 6), .int (M 58 5)]) (M' := M) rfl ?_
    refine pu_icmp_ge rfl (fun hc => ?_) (fun hc => ?_)
    · replace H := Eq.mp (if_pos hc) H
      exact H
    · replace H := Eq.mp (if_neg hc) H
      refine pu_go 2 (pc' := 64) (ls' := [.ref 58, .int v1, .int v2]) (st' := [.int 59, .ref 58]) (M' := M) rfl ?_
      refine pu_callI (m' := 181) (ml := 2) (as := [.ref 58, .int 59]) (rest := []) rfl rfl rfl (Nat.le_of_ble_eq_true rfl) H (fun x2 M1 H => ?_)
      show pu_R L (d + 5) 210 67 [.ref 58, .int v1, .int v2] [.int x2] M1 _
      refine pu_if_eq rfl (fun hc => ?_) (fun hc => ?_)
      · replace H := Eq.mp (if_pos hc) H
        refine pu_go 3 (pc' := 46) (ls' := [.ref 58, .int v1, .int 0]) (st' := []) (M' := M1) rfl ?_
        exact H
      · replace H := Eq.mp (if_neg hc) H
        refine pu_go 1 (pc' := 71) (ls' := [.ref 58, .int v1, .int v2]) (st' := [.ref 58]) (M' := M1) rfl ?_
        refine pu_callI (m' := 209) (ml := 3) (as := [.ref 58]) (rest := []) rfl rfl rfl (Nat.le_of_ble_eq_true rfl) H (fun x4 M3 H => ?_)
        show pu_R L (d + 5) 210 74 [.ref 58, .int v1, .int v2] [.int x4] M3 _
        refine pu_if_eq rfl (fun hc => ?_) (fun hc => ?_)
        · replace H := Eq.mp (if_pos hc) H
          refine pu_go 3 (pc' := 46) (ls' := [.ref 58, .int v1, .int 0]) (st' := []) (M' := M3) rfl ?_
          exact H
        · replace H := Eq.mp (if_neg hc) H
          refine pu_go 4 (pc' := 46) (ls' := [.ref 58, .int v1, .int 1]) (st' := []) (M' := M3) rfl ?_
          exact H
set_option maxRecDepth 20000 in
theorem r_m_burials {L d : Nat} {M : pu_M} {Q : Int32 → pu_M → Prop} {v1 : Int32} (H : pu_I L (d + 4) 157 [.int v1, .int 1, .int 120] M (fun x2 M1 => (if x2 = 0 then Q ((-1)) M1 else (if v1 ≤ (M1 58 4) then pu_V L (d + 4) 198 [.ref 58, .int v1] M1 (fun M3 => pu_V L (d + 4) 163 [.ref 59, .ref 60] (pu_wr M3 58 27 0) (fun M4 => pu_I L (d + 4) 209 [.ref 58] M4 (fun x6 M5 => pu_R L (d + 5) 210 46 [.ref 58, .int v1, .int x6] [] M5 (pu_qI Q)))) else Q ((-1)) M1)))) : pu_I L (d + 5) 210 [.ref 58, .int v1] M Q := by
  show pu_R L (d + 5) 210 0 [.ref 58, .int v1, mq_un] [] M (pu_qI Q)
  refine pu_go 3 (pc' := 4) (ls' := [.ref 58, .int v1, mq_un]) (st' := [.int 120, .int 1, .int v1]) (M' := M) rfl ?_
  refine pu_callI (m' := 157) (ml := 3) (as := [.int v1, .int 1, .int 120]) (rest := []) rfl rfl rfl (Nat.le_of_ble_eq_true rfl) H (fun x2 M1 H => ?_)
  show pu_R L (d + 5) 210 7 [.ref 58, .int v1, mq_un] [.int x2] M1 _
  refine pu_if_eq rfl (fun hc => ?_) (fun hc => ?_)
  · replace H := Eq.mp (if_pos hc) H
    refine pu_go 1 (pc' := 19) (ls' := [.ref 58, .int v1, mq_un]) (st' := [.int ((-1))]) (M' := M1) rfl ?_
    exact pu_ret rfl rfl ⟨_, rfl, H⟩
  · replace H := Eq.mp (if_neg hc) H
    refine pu_go 3 (pc' := 15) (ls' := [.ref 58, .int v1, mq_un]) (st' := [.int (M1 58 4), .int v1]) (M' := M1) rfl ?_
    refine pu_icmp_le rfl (fun hc => ?_) (fun hc => ?_)
    · replace H := Eq.mp (if_pos hc) H
      refine pu_go 2 (pc' := 22) (ls' := [.ref 58, .int v1, mq_un]) (st' := [.int v1, .ref 58]) (M' := M1) rfl ?_
      refine pu_callV (m' := 198) (ml := 2) (as := [.ref 58, .int v1]) (rest := []) rfl rfl rfl (Nat.le_of_ble_eq_true rfl) H (fun M3 H => ?_)
      show pu_R L (d + 5) 210 25 [.ref 58, .int v1, mq_un] [] M3 _
      refine pu_go 2 (pc' := 27) (ls' := [.ref 58, .int v1, mq_un]) (st' := [.int 0, .ref 58]) (M' := M3) rfl ?_
      refine pu_putf (j := 27) (z := 0) rfl rfl (by decide) rfl (by decide) rfl rfl pu_put_hw ?_
      refine pu_go 4 (pc' := 38) (ls' := [.ref 58, .int v1, mq_un]) (st' := [.ref 60, .ref 59]) (M' := pu_wr M3 58 27 0) rfl ?_
      refine pu_callV (m' := 163) (ml := 3) (as := [.ref 59, .ref 60]) (rest := []) rfl rfl rfl (Nat.le_of_ble_eq_true rfl) H (fun M4 H => ?_)
      show pu_R L (d + 5) 210 41 [.ref 58, .int v1, mq_un] [] M4 _
      refine pu_go 1 (pc' := 42) (ls' := [.ref 58, .int v1, mq_un]) (st' := [.ref 58]) (M' := M4) rfl ?_
      refine pu_callI (m' := 209) (ml := 3) (as := [.ref 58]) (rest := []) rfl rfl rfl (Nat.le_of_ble_eq_true rfl) H (fun x6 M5 H => ?_)
      show pu_R L (d + 5) 210 45 [.ref 58, .int v1, mq_un] [.int x6] M5 _
      refine pu_go 1 (pc' := 46) (ls' := [.ref 58, .int v1, .int x6]) (st' := []) (M' := M5) rfl ?_
      exact H
    · replace H := Eq.mp (if_neg hc) H
      refine pu_go 1 (pc' := 19) (ls' := [.ref 58, .int v1, mq_un]) (st' := [.int ((-1))]) (M' := M1) rfl ?_
      exact pu_ret rfl rfl ⟨_, rfl, H⟩
/-! m_readsWish ()Z -/
set_option maxRecDepth 20000 in
theorem r_m_readsWish_168 {L d : Nat} {M : pu_M} {Q : Int32 → pu_M → Prop} {v1 : Int32} {v2 : Int32} {v3 : Int32} (H : (mq_inb (M 58 35) 24 = true ∧ (mq_inb ((pu_wr M 79 (M 58 35 : Int32).toNatClampNeg v1) 58 35) 24 = true ∧ (mq_inb ((pu_wr (pu_wr M 79 (M 58 35 : Int32).toNatClampNeg v1) 80 ((pu_wr M 79 (M 58 35 : Int32).toNatClampNeg v1) 58 35 : Int32).toNatClampNeg v3) 58 35) 24 = true ∧ (∀ M4 : pu_M, M4 = pu_wr (pu_wr (pu_wr M 79 (M 58 35 : Int32).toNatClampNeg v1) 80 ((pu_wr M 79 (M 58 35 : Int32).toNatClampNeg v1) 58 35 : Int32).toNatClampNeg v3) 81 ((pu_wr (pu_wr M 79 (M 58 35 : Int32).toNatClampNeg v1) 80 ((pu_wr M 79 (M 58 35 : Int32).toNatClampNeg v1) 58 35 : Int32).toNatClampNeg v3) 58 35 : Int32).toNatClampNeg v2 → Q 1 (pu_wr M4 58 35 ((M4 58 35) + 1))))))) : pu_R L (d + 3) 211 168 [.ref 58, .int v1, .int v2, .int v3] [] M (pu_qI Q) := by
  refine pu_go 5 (pc' := 177) (ls' := [.ref 58, .int v1, .int v2, .int v3]) (st' := [.int v1, .int (M 58 35), .ref 79]) (M' := M) rfl ?_
  obtain ⟨hb1, H⟩ := H
  refine pu_iast rfl rfl (by decide) hb1 ?_
  refine pu_go 5 (pc' := 187) (ls' := [.ref 58, .int v1, .int v2, .int v3]) (st' := [.int v3, .int ((pu_wr M 79 (M 58 35 : Int32).toNatClampNeg v1) 58 35), .ref 80]) (M' := pu_wr M 79 (M 58 35 : Int32).toNatClampNeg v1) rfl ?_
  obtain ⟨hb2, H⟩ := H
  refine pu_iast rfl rfl (by decide) hb2 ?_
  refine pu_go 5 (pc' := 197) (ls' := [.ref 58, .int v1, .int v2, .int v3]) (st' := [.int v2, .int ((pu_wr (pu_wr M 79 (M 58 35 : Int32).toNatClampNeg v1) 80 ((pu_wr M 79 (M 58 35 : Int32).toNatClampNeg v1) 58 35 : Int32).toNatClampNeg v3) 58 35), .ref 81]) (M' := pu_wr (pu_wr M 79 (M 58 35 : Int32).toNatClampNeg v1) 80 ((pu_wr M 79 (M 58 35 : Int32).toNatClampNeg v1) 58 35 : Int32).toNatClampNeg v3) rfl ?_
  obtain ⟨hb3, H⟩ := H
  refine pu_iast rfl rfl (by decide) hb3 ?_
  refine pu_named (fun M4 eM5 => ?_)
  replace H := H M4 eM5
  refine pu_go 5 (pc' := 205) (ls' := [.ref 58, .int v1, .int v2, .int v3]) (st' := [.int ((M4 58 35) + 1), .ref 58]) (M' := M4) rfl ?_
  refine pu_putf (j := 35) (z := (M4 58 35) + 1) rfl rfl (by decide) rfl (by decide) rfl rfl pu_put_hw ?_
  refine pu_go 1 (pc' := 209) (ls' := [.ref 58, .int v1, .int v2, .int v3]) (st' := [.int 1]) (M' := pu_wr M4 58 35 ((M4 58 35) + 1)) rfl ?_
  exact pu_ret rfl rfl ⟨_, rfl, H⟩
set_option maxRecDepth 20000 in
theorem r_m_readsWish_117 {L d : Nat} {M : pu_M} {Q : Int32 → pu_M → Prop} {v1 : Int32} {v2 : Int32} {v3 : Int32} (H : pu_I L (d + 2) 205 [.ref 58] M (fun x2 M1 => (if x2 = 0 then pu_I L (d + 2) 180 [.ref 58, .int 1, .int (M1 58 5)] M1 (fun x9 M8 => ((x9 = 0 ∨ x9 = 1) ∧ Q x9 M8)) else pu_I L (d + 2) 178 [.ref 58] M1 (fun x4 M3 => (if (x4 - 97) = v1 then pu_I L (d + 2) 180 [.ref 58, .int 6, .int (M3 58 5)] M3 (fun x6 M5 => ((x6 = 0 ∨ x6 = 1) ∧ Q x6 M5)) else pu_R L (d + 3) 211 168 [.ref 58, .int v1, .int (x4 - 97), .int v3] [] (pu_wr M3 58 5 ((M3 58 5) + 1)) (pu_qI Q)))))) : pu_R L (d + 3) 211 117 [.ref 58, .int v1, .int v2, .int v3] [] M (pu_qI Q) := by
  refine pu_go 1 (pc' := 118) (ls' := [.ref 58, .int v1, .int v2, .int v3]) (st' := [.ref 58]) (M' := M) rfl ?_
  refine pu_callI (m' := 205) (ml := 1) (as := [.ref 58]) (rest := []) rfl rfl rfl (Nat.le_of_ble_eq_true rfl) H (fun x2 M1 H => ?_)
  show pu_R L (d + 3) 211 121 [.ref 58, .int v1, .int v2, .int v3] [.int x2] M1 _
  refine pu_if_ne rfl (fun hc => ?_) (fun hc => ?_)
  · replace H := Eq.mp (if_neg hc) H
    refine pu_go 1 (pc' := 135) (ls' := [.ref 58, .int v1, .int v2, .int v3]) (st' := [.ref 58]) (M' := M1) rfl ?_
    refine pu_callI (m' := 178) (ml := 1) (as := [.ref 58]) (rest := []) rfl rfl rfl (Nat.le_of_ble_eq_true rfl) H (fun x4 M3 H => ?_)
    show pu_R L (d + 3) 211 138 [.ref 58, .int v1, .int v2, .int v3] [.int x4] M3 _
    refine pu_go 5 (pc' := 144) (ls' := [.ref 58, .int v1, .int (x4 - 97), .int v3]) (st' := [.int v1, .int (x4 - 97)]) (M' := M3) rfl ?_
    refine pu_icmp_ne rfl (fun hc => ?_) (fun hc => ?_)
    · replace H := Eq.mp (if_neg hc) H
      refine pu_go 5 (pc' := 165) (ls' := [.ref 58, .int v1, .int (x4 - 97), .int v3]) (st' := [.int ((M3 58 5) + 1), .ref 58]) (M' := M3) rfl ?_
      refine pu_putf (j := 5) (z := (M3 58 5) + 1) rfl rfl (by decide) rfl (by decide) rfl rfl pu_put_hw ?_
      exact H
    · replace H := Eq.mp (if_pos hc) H
      refine pu_go 4 (pc' := 154) (ls' := [.ref 58, .int v1, .int (x4 - 97), .int v3]) (st' := [.int (M3 58 5), .int 6, .ref 58]) (M' := M3) rfl ?_
      refine pu_callI (m' := 180) (ml := 3) (as := [.ref 58, .int 6, .int (M3 58 5)]) (rest := []) rfl rfl rfl (Nat.le_of_ble_eq_true rfl) H (fun x6 M5 H => ?_)
      show pu_R L (d + 3) 211 157 [.ref 58, .int v1, .int (x4 - 97), .int v3] [.int x6] M5 _
      obtain ⟨hb7, H⟩ := H
      exact pu_retZ rfl hb7 H
  · replace H := Eq.mp (if_pos hc) H
    refine pu_go 4 (pc' := 130) (ls' := [.ref 58, .int v1, .int v2, .int v3]) (st' := [.int (M1 58 5), .int 1, .ref 58]) (M' := M1) rfl ?_
    refine pu_callI (m' := 180) (ml := 3) (as := [.ref 58, .int 1, .int (M1 58 5)]) (rest := []) rfl rfl rfl (Nat.le_of_ble_eq_true rfl) H (fun x9 M8 H => ?_)
    show pu_R L (d + 3) 211 133 [.ref 58, .int v1, .int v2, .int v3] [.int x9] M8 _
    obtain ⟨hb10, H⟩ := H
    exact pu_retZ rfl hb10 H
set_option maxRecDepth 20000 in
theorem r_m_readsWish_95 {L d : Nat} {M : pu_M} {Q : Int32 → pu_M → Prop} {v1 : Int32} {v2 : Int32} {v3 : Int32} (H : (if v3 = 43 then pu_R L (d + 3) 211 117 [.ref 58, .int v1, .int v2, .int v3] [] (pu_wr M 58 5 ((M 58 5) + 1)) (pu_qI Q) else (if v3 = 45 then pu_R L (d + 3) 211 117 [.ref 58, .int v1, .int v2, .int v3] [] (pu_wr M 58 5 ((M 58 5) + 1)) (pu_qI Q) else pu_R L (d + 3) 211 168 [.ref 58, .int v1, .int v2, .int v3] [] (pu_wr M 58 5 ((M 58 5) + 1)) (pu_qI Q)))) : pu_R L (d + 3) 211 95 [.ref 58, .int v1, .int v2, .int v3] [] M (pu_qI Q) := by
  refine pu_go 5 (pc' := 102) (ls' := [.ref 58, .int v1, .int v2, .int v3]) (st' := [.int ((M 58 5) + 1), .ref 58]) (M' := M) rfl ?_
  refine pu_putf (j := 5) (z := (M 58 5) + 1) rfl rfl (by decide) rfl (by decide) rfl rfl pu_put_hw ?_
  refine pu_go 2 (pc' := 108) (ls' := [.ref 58, .int v1, .int v2, .int v3]) (st' := [.int 43, .int v3]) (M' := pu_wr M 58 5 ((M 58 5) + 1)) rfl ?_
  refine pu_icmp_eq rfl (fun hc => ?_) (fun hc => ?_)
  · replace H := Eq.mp (if_pos hc) H
    exact H
  · replace H := Eq.mp (if_neg hc) H
    refine pu_go 2 (pc' := 114) (ls' := [.ref 58, .int v1, .int v2, .int v3]) (st' := [.int 45, .int v3]) (M' := pu_wr M 58 5 ((M 58 5) + 1)) rfl ?_
    refine pu_icmp_ne rfl (fun hc => ?_) (fun hc => ?_)
    · replace H := Eq.mp (if_neg hc) H
      exact H
    · replace H := Eq.mp (if_pos hc) H
      exact H
set_option maxRecDepth 20000 in
theorem r_m_readsWish {L d : Nat} {M : pu_M} {Q : Int32 → pu_M → Prop}  (H : pu_I L (d + 2) 205 [.ref 58] M (fun x2 M1 => (if x2 = 0 then pu_I L (d + 2) 180 [.ref 58, .int 1, .int (M1 58 5)] M1 (fun x14 M13 => ((x14 = 0 ∨ x14 = 1) ∧ Q x14 M13)) else (if (M1 58 35) = 24 then pu_I L (d + 2) 180 [.ref 58, .int 4, .int (M1 58 5)] M1 (fun x11 M10 => ((x11 = 0 ∨ x11 = 1) ∧ Q x11 M10)) else pu_I L (d + 2) 178 [.ref 58] M1 (fun x4 M3 => pu_I L (d + 2) 178 [.ref 58] (pu_wr M3 58 5 ((M3 58 5) + 1)) (fun x6 M5 => (if x6 = 43 then pu_R L (d + 3) 211 95 [.ref 58, .int (x4 - 97), .int ((-1)), .int x6] [] M5 (pu_qI Q) else (if x6 = 45 then pu_R L (d + 3) 211 95 [.ref 58, .int (x4 - 97), .int ((-1)), .int x6] [] M5 (pu_qI Q) else (if x6 = 35 then pu_R L (d + 3) 211 95 [.ref 58, .int (x4 - 97), .int ((-1)), .int x6] [] M5 (pu_qI Q) else (if x6 = 46 then pu_R L (d + 3) 211 95 [.ref 58, .int (x4 - 97), .int ((-1)), .int x6] [] M5 (pu_qI Q) else pu_I L (d + 2) 180 [.ref 58, .int 1, .int (M5 58 5)] M5 (fun x8 M7 => ((x8 = 0 ∨ x8 = 1) ∧ Q x8 M7)))))))))))) : pu_I L (d + 3) 211 [.ref 58] M Q := by
  show pu_R L (d + 3) 211 0 [.ref 58, mq_un, mq_un, mq_un] [] M (pu_qI Q)
  refine pu_go 1 (pc' := 1) (ls' := [.ref 58, mq_un, mq_un, mq_un]) (st' := [.ref 58]) (M' := M) rfl ?_
  refine pu_callI (m' := 205) (ml := 1) (as := [.ref 58]) (rest := []) rfl rfl rfl (Nat.le_of_ble_eq_true rfl) H (fun x2 M1 H => ?_)
  show pu_R L (d + 3) 211 4 [.ref 58, mq_un, mq_un, mq_un] [.int x2] M1 _
  refine pu_if_ne rfl (fun hc => ?_) (fun hc => ?_)
  · replace H := Eq.mp (if_neg hc) H
    refine pu_go 3 (pc' := 23) (ls' := [.ref 58, mq_un, mq_un, mq_un]) (st' := [.int 24, .int (M1 58 35)]) (M' := M1) rfl ?_
    refine pu_icmp_ne rfl (fun hc => ?_) (fun hc => ?_)
    · replace H := Eq.mp (if_neg hc) H
      refine pu_go 1 (pc' := 37) (ls' := [.ref 58, mq_un, mq_un, mq_un]) (st' := [.ref 58]) (M' := M1) rfl ?_
      refine pu_callI (m' := 178) (ml := 1) (as := [.ref 58]) (rest := []) rfl rfl rfl (Nat.le_of_ble_eq_true rfl) H (fun x4 M3 H => ?_)
      show pu_R L (d + 3) 211 40 [.ref 58, mq_un, mq_un, mq_un] [.int x4] M3 _
      refine pu_go 10 (pc' := 53) (ls' := [.ref 58, .int (x4 - 97), .int ((-1)), mq_un]) (st' := [.int ((M3 58 5) + 1), .ref 58]) (M' := M3) rfl ?_
      refine pu_putf (j := 5) (z := (M3 58 5) + 1) rfl rfl (by decide) rfl (by decide) rfl rfl pu_put_hw ?_
      refine pu_go 1 (pc' := 57) (ls' := [.ref 58, .int (x4 - 97), .int ((-1)), mq_un]) (st' := [.ref 58]) (M' := pu_wr M3 58 5 ((M3 58 5) + 1)) rfl ?_
      refine pu_callI (m' := 178) (ml := 1) (as := [.ref 58]) (rest := []) rfl rfl rfl (Nat.le_of_ble_eq_true rfl) H (fun x6 M5 H => ?_)
      show pu_R L (d + 3) 211 60 [.ref 58, .int (x4 - 97), .int ((-1)), mq_un] [.int x6] M5 _
      refine pu_go 3 (pc' := 64) (ls' := [.ref 58, .int (x4 - 97), .int ((-1)), .int x6]) (st' := [.int 43, .int x6]) (M' := M5) rfl ?_
      refine pu_icmp_eq rfl (fun hc => ?_) (fun hc => ?_)
      · replace H := Eq.mp (if_pos hc) H
        exact H
      · replace H := Eq.mp (if_neg hc) H
        refine pu_go 2 (pc' := 70) (ls' := [.ref 58, .int (x4 - 97), .int ((-1)), .int x6]) (st' := [.int 45, .int x6]) (M' := M5) rfl ?_
        refine pu_icmp_eq rfl (fun hc => ?_) (fun hc => ?_)
        · replace H := Eq.mp (if_pos hc) H
          exact H
        · replace H := Eq.mp (if_neg hc) H
          refine pu_go 2 (pc' := 76) (ls' := [.ref 58, .int (x4 - 97), .int ((-1)), .int x6]) (st' := [.int 35, .int x6]) (M' := M5) rfl ?_
          refine pu_icmp_eq rfl (fun hc => ?_) (fun hc => ?_)
          · replace H := Eq.mp (if_pos hc) H
            exact H
          · replace H := Eq.mp (if_neg hc) H
            refine pu_go 2 (pc' := 82) (ls' := [.ref 58, .int (x4 - 97), .int ((-1)), .int x6]) (st' := [.int 46, .int x6]) (M' := M5) rfl ?_
            refine pu_icmp_eq rfl (fun hc => ?_) (fun hc => ?_)
            · replace H := Eq.mp (if_pos hc) H
              exact H
            · replace H := Eq.mp (if_neg hc) H
              refine pu_go 4 (pc' := 91) (ls' := [.ref 58, .int (x4 - 97), .int ((-1)), .int x6]) (st' := [.int (M5 58 5), .int 1, .ref 58]) (M' := M5) rfl ?_
              refine pu_callI (m' := 180) (ml := 3) (as := [.ref 58, .int 1, .int (M5 58 5)]) (rest := []) rfl rfl rfl (Nat.le_of_ble_eq_true rfl) H (fun x8 M7 H => ?_)
              show pu_R L (d + 3) 211 94 [.ref 58, .int (x4 - 97), .int ((-1)), .int x6] [.int x8] M7 _
              obtain ⟨hb9, H⟩ := H
              exact pu_retZ rfl hb9 H
    · replace H := Eq.mp (if_pos hc) H
      refine pu_go 4 (pc' := 32) (ls' := [.ref 58, mq_un, mq_un, mq_un]) (st' := [.int (M1 58 5), .int 4, .ref 58]) (M' := M1) rfl ?_
      refine pu_callI (m' := 180) (ml := 3) (as := [.ref 58, .int 4, .int (M1 58 5)]) (rest := []) rfl rfl rfl (Nat.le_of_ble_eq_true rfl) H (fun x11 M10 H => ?_)
      show pu_R L (d + 3) 211 35 [.ref 58, mq_un, mq_un, mq_un] [.int x11] M10 _
      obtain ⟨hb12, H⟩ := H
      exact pu_retZ rfl hb12 H
  · replace H := Eq.mp (if_pos hc) H
    refine pu_go 4 (pc' := 13) (ls' := [.ref 58, mq_un, mq_un, mq_un]) (st' := [.int (M1 58 5), .int 1, .ref 58]) (M' := M1) rfl ?_
    refine pu_callI (m' := 180) (ml := 3) (as := [.ref 58, .int 1, .int (M1 58 5)]) (rest := []) rfl rfl rfl (Nat.le_of_ble_eq_true rfl) H (fun x14 M13 H => ?_)
    show pu_R L (d + 3) 211 16 [.ref 58, mq_un, mq_un, mq_un] [.int x14] M13 _
    obtain ⟨hb15, H⟩ := H
    exact pu_retZ rfl hb15 H
/-! m_wishes (I)I -/
set_option maxRecDepth 20000 in
theorem r_m_wishes_99 {L d : Nat} {M : pu_M} {Q : Int32 → pu_M → Prop} {v1 : Int32} {v2 : Int32} {v3 : Int32} (H : (if (M 58 35) ≤ v3 then Q (M 58 35) M else (mq_inb v3 24 = true ∧ (mq_inb v3 24 = true ∧ (mq_inb v3 24 = true ∧ (mq_inb v3 24 = true ∧ (mq_inb v3 24 = true ∧ (mq_inb v3 24 = true ∧ (∀ M7 : pu_M, M7 = pu_wr (pu_wr (pu_wr M 76 v3.toNatClampNeg (M 79 v3.toNatClampNeg)) 77 v3.toNatClampNeg ((pu_wr M 76 v3.toNatClampNeg (M 79 v3.toNatClampNeg)) 80 v3.toNatClampNeg)) 78 v3.toNatClampNeg ((pu_wr (pu_wr M 76 v3.toNatClampNeg (M 79 v3.toNatClampNeg)) 77 v3.toNatClampNeg ((pu_wr M 76 v3.toNatClampNeg (M 79 v3.toNatClampNeg)) 80 v3.toNatClampNeg)) 81 v3.toNatClampNeg) → pu_R L (d + 4) 212 99 [.ref 58, .int v1, .int v2, .int (v3 + 1)] [] M7 (pu_qI Q)))))))))) : pu_R L (d + 4) 212 99 [.ref 58, .int v1, .int v2, .int v3] [] M (pu_qI Q) := by
  refine pu_go 3 (pc' := 104) (ls' := [.ref 58, .int v1, .int v2, .int v3]) (st' := [.int (M 58 35), .int v3]) (M' := M) rfl ?_
  refine pu_icmp_ge rfl (fun hc => ?_) (fun hc => ?_)
  · replace H := Eq.mp (if_pos hc) H
    refine pu_go 2 (pc' := 153) (ls' := [.ref 58, .int v1, .int v2, .int v3]) (st' := [.int (M 58 35)]) (M' := M) rfl ?_
    exact pu_ret rfl rfl ⟨_, rfl, H⟩
  · replace H := Eq.mp (if_neg hc) H
    refine pu_go 6 (pc' := 117) (ls' := [.ref 58, .int v1, .int v2, .int v3]) (st' := [.int v3, .ref 79, .int v3, .ref 76]) (M' := M) rfl ?_
    obtain ⟨hb1, H⟩ := H
    refine pu_iald rfl rfl (Or.inl (by decide)) hb1 ?_
    obtain ⟨hb2, H⟩ := H
    refine pu_iast rfl rfl (by decide) hb2 ?_
    refine pu_go 6 (pc' := 129) (ls' := [.ref 58, .int v1, .int v2, .int v3]) (st' := [.int v3, .ref 80, .int v3, .ref 77]) (M' := pu_wr M 76 v3.toNatClampNeg (M 79 v3.toNatClampNeg)) rfl ?_
    obtain ⟨hb3, H⟩ := H
    refine pu_iald rfl rfl (Or.inl (by decide)) hb3 ?_
    obtain ⟨hb4, H⟩ := H
    refine pu_iast rfl rfl (by decide) hb4 ?_
    refine pu_go 6 (pc' := 141) (ls' := [.ref 58, .int v1, .int v2, .int v3]) (st' := [.int v3, .ref 81, .int v3, .ref 78]) (M' := pu_wr (pu_wr M 76 v3.toNatClampNeg (M 79 v3.toNatClampNeg)) 77 v3.toNatClampNeg ((pu_wr M 76 v3.toNatClampNeg (M 79 v3.toNatClampNeg)) 80 v3.toNatClampNeg)) rfl ?_
    obtain ⟨hb5, H⟩ := H
    refine pu_iald rfl rfl (Or.inl (by decide)) hb5 ?_
    obtain ⟨hb6, H⟩ := H
    refine pu_iast rfl rfl (by decide) hb6 ?_
    refine pu_named (fun M7 eM8 => ?_)
    replace H := H M7 eM8
    refine pu_go 2 (pc' := 99) (ls' := [.ref 58, .int v1, .int v2, .int (v3 + 1)]) (st' := []) (M' := M7) rfl ?_
    exact H
set_option maxRecDepth 20000 in
theorem r_m_wishes_75 {L d : Nat} {M : pu_M} {Q : Int32 → pu_M → Prop} {v1 : Int32} {v2 : Int32} (H : (if v2 = 0 then Q ((pu_wr M 58 4 0) 58 7) (pu_wr M 58 4 0) else pu_R L (d + 4) 212 99 [.ref 58, .int v1, .int v2, .int 0] [] (pu_wr (pu_wr M 58 4 0) 58 34 ((pu_wr M 58 4 0) 58 35)) (pu_qI Q))) : pu_R L (d + 4) 212 75 [.ref 58, .int v1, .int v2, mq_un] [] M (pu_qI Q) := by
  refine pu_go 2 (pc' := 77) (ls' := [.ref 58, .int v1, .int v2, mq_un]) (st' := [.int 0, .ref 58]) (M' := M) rfl ?_
  refine pu_putf (j := 4) (z := 0) rfl rfl (by decide) rfl (by decide) rfl rfl pu_put_hw ?_
  refine pu_go 1 (pc' := 81) (ls' := [.ref 58, .int v1, .int v2, mq_un]) (st' := [.int v2]) (M' := pu_wr M 58 4 0) rfl ?_
  refine pu_if_ne rfl (fun hc => ?_) (fun hc => ?_)
  · replace H := Eq.mp (if_neg hc) H
    refine pu_go 3 (pc' := 94) (ls' := [.ref 58, .int v1, .int v2, mq_un]) (st' := [.int ((pu_wr M 58 4 0) 58 35), .ref 58]) (M' := pu_wr M 58 4 0) rfl ?_
    refine pu_putf (j := 34) (z := (pu_wr M 58 4 0) 58 35) rfl rfl (by decide) rfl (by decide) rfl rfl pu_put_hw ?_
    refine pu_go 2 (pc' := 99) (ls' := [.ref 58, .int v1, .int v2, .int 0]) (st' := []) (M' := pu_wr (pu_wr M 58 4 0) 58 34 ((pu_wr M 58 4 0) 58 35)) rfl ?_
    exact H
  · replace H := Eq.mp (if_pos hc) H
    refine pu_go 2 (pc' := 88) (ls' := [.ref 58, .int v1, .int v2, mq_un]) (st' := [.int ((pu_wr M 58 4 0) 58 7)]) (M' := pu_wr M 58 4 0) rfl ?_
    exact pu_ret rfl rfl ⟨_, rfl, H⟩
set_option maxRecDepth 20000 in
theorem r_m_wishes_35 {L d : Nat} {M : pu_M} {Q : Int32 → pu_M → Prop} {v1 : Int32} {v2 : Int32} (H : (if v2 = 0 then pu_R L (d + 4) 212 75 [.ref 58, .int v1, .int v2, mq_un] [] M (pu_qI Q) else (if (M 58 6) ≤ (M 58 5) then pu_R L (d + 4) 212 75 [.ref 58, .int v1, .int v2, mq_un] [] M (pu_qI Q) else pu_I L (d + 3) 181 [.ref 58, .int 59] M (fun x2 M1 => (if x2 = 0 then pu_R L (d + 4) 212 35 [.ref 58, .int v1, .int 0, mq_un] [] M1 (pu_qI Q) else pu_I L (d + 3) 211 [.ref 58] M1 (fun x4 M3 => (if x4 = 0 then pu_R L (d + 4) 212 35 [.ref 58, .int v1, .int 0, mq_un] [] M3 (pu_qI Q) else pu_R L (d + 4) 212 35 [.ref 58, .int v1, .int 1, mq_un] [] M3 (pu_qI Q)))))))) : pu_R L (d + 4) 212 35 [.ref 58, .int v1, .int v2, mq_un] [] M (pu_qI Q) := by
  refine pu_go 1 (pc' := 36) (ls' := [.ref 58, .int v1, .int v2, mq_un]) (st' := [.int v2]) (M' := M) rfl ?_
  refine pu_if_eq rfl (fun hc => ?_) (fun hc => ?_)
  · replace H := Eq.mp (if_pos hc) H
    exact H
  · replace H := Eq.mp (if_neg hc) H
    refine pu_go 4 (pc' := 47) (ls' := [.ref 58, .int v1, .int v2, mq_un]) (st' := [.int (M 58 6), .int (M 58 5)]) (M' := M) rfl ?_
    refine pu_icmp_ge rfl (fun hc => ?_) (fun hc => ?_)
    · replace H := Eq.mp (if_pos hc) H
      exact H
    · replace H := Eq.mp (if_neg hc) H
      refine pu_go 2 (pc' := 53) (ls' := [.ref 58, .int v1, .int v2, mq_un]) (st' := [.int 59, .ref 58]) (M' := M) rfl ?_
      refine pu_callI (m' := 181) (ml := 2) (as := [.ref 58, .int 59]) (rest := []) rfl rfl rfl (Nat.le_of_ble_eq_true rfl) H (fun x2 M1 H => ?_)
      show pu_R L (d + 4) 212 56 [.ref 58, .int v1, .int v2, mq_un] [.int x2] M1 _
      refine pu_if_eq rfl (fun hc => ?_) (fun hc => ?_)
      · replace H := Eq.mp (if_pos hc) H
        refine pu_go 3 (pc' := 35) (ls' := [.ref 58, .int v1, .int 0, mq_un]) (st' := []) (M' := M1) rfl ?_
        exact H
      · replace H := Eq.mp (if_neg hc) H
        refine pu_go 1 (pc' := 60) (ls' := [.ref 58, .int v1, .int v2, mq_un]) (st' := [.ref 58]) (M' := M1) rfl ?_
        refine pu_callI (m' := 211) (ml := 4) (as := [.ref 58]) (rest := []) rfl rfl rfl (Nat.le_of_ble_eq_true rfl) H (fun x4 M3 H => ?_)
        show pu_R L (d + 4) 212 63 [.ref 58, .int v1, .int v2, mq_un] [.int x4] M3 _
        refine pu_if_eq rfl (fun hc => ?_) (fun hc => ?_)
        · replace H := Eq.mp (if_pos hc) H
          refine pu_go 3 (pc' := 35) (ls' := [.ref 58, .int v1, .int 0, mq_un]) (st' := []) (M' := M3) rfl ?_
          exact H
        · replace H := Eq.mp (if_neg hc) H
          refine pu_go 4 (pc' := 35) (ls' := [.ref 58, .int v1, .int 1, mq_un]) (st' := []) (M' := M3) rfl ?_
          exact H
set_option maxRecDepth 20000 in
theorem r_m_wishes {L d : Nat} {M : pu_M} {Q : Int32 → pu_M → Prop} {v1 : Int32} (H : pu_I L (d + 3) 157 [.int v1, .int 1, .int 120] M (fun x2 M1 => (if x2 = 0 then Q ((-1)) M1 else (if v1 ≤ (M1 58 4) then pu_V L (d + 3) 198 [.ref 58, .int v1] M1 (fun M3 => pu_I L (d + 3) 211 [.ref 58] (pu_wr M3 58 35 0) (fun x5 M4 => pu_R L (d + 4) 212 35 [.ref 58, .int v1, .int x5, mq_un] [] M4 (pu_qI Q))) else Q ((-1)) M1)))) : pu_I L (d + 4) 212 [.ref 58, .int v1] M Q := by
  show pu_R L (d + 4) 212 0 [.ref 58, .int v1, mq_un, mq_un] [] M (pu_qI Q)
  refine pu_go 3 (pc' := 4) (ls' := [.ref 58, .int v1, mq_un, mq_un]) (st' := [.int 120, .int 1, .int v1]) (M' := M) rfl ?_
  refine pu_callI (m' := 157) (ml := 3) (as := [.int v1, .int 1, .int 120]) (rest := []) rfl rfl rfl (Nat.le_of_ble_eq_true rfl) H (fun x2 M1 H => ?_)
  show pu_R L (d + 4) 212 7 [.ref 58, .int v1, mq_un, mq_un] [.int x2] M1 _
  refine pu_if_eq rfl (fun hc => ?_) (fun hc => ?_)
  · replace H := Eq.mp (if_pos hc) H
    refine pu_go 1 (pc' := 19) (ls' := [.ref 58, .int v1, mq_un, mq_un]) (st' := [.int ((-1))]) (M' := M1) rfl ?_
    exact pu_ret rfl rfl ⟨_, rfl, H⟩
  · replace H := Eq.mp (if_neg hc) H
    refine pu_go 3 (pc' := 15) (ls' := [.ref 58, .int v1, mq_un, mq_un]) (st' := [.int (M1 58 4), .int v1]) (M' := M1) rfl ?_
    refine pu_icmp_le rfl (fun hc => ?_) (fun hc => ?_)
    · replace H := Eq.mp (if_pos hc) H
      refine pu_go 2 (pc' := 22) (ls' := [.ref 58, .int v1, mq_un, mq_un]) (st' := [.int v1, .ref 58]) (M' := M1) rfl ?_
      refine pu_callV (m' := 198) (ml := 2) (as := [.ref 58, .int v1]) (rest := []) rfl rfl rfl (Nat.le_of_ble_eq_true rfl) H (fun M3 H => ?_)
      show pu_R L (d + 4) 212 25 [.ref 58, .int v1, mq_un, mq_un] [] M3 _
      refine pu_go 2 (pc' := 27) (ls' := [.ref 58, .int v1, mq_un, mq_un]) (st' := [.int 0, .ref 58]) (M' := M3) rfl ?_
      refine pu_putf (j := 35) (z := 0) rfl rfl (by decide) rfl (by decide) rfl rfl pu_put_hw ?_
      refine pu_go 1 (pc' := 31) (ls' := [.ref 58, .int v1, mq_un, mq_un]) (st' := [.ref 58]) (M' := pu_wr M3 58 35 0) rfl ?_
      refine pu_callI (m' := 211) (ml := 4) (as := [.ref 58]) (rest := []) rfl rfl rfl (Nat.le_of_ble_eq_true rfl) H (fun x5 M4 H => ?_)
      show pu_R L (d + 4) 212 34 [.ref 58, .int v1, mq_un, mq_un] [.int x5] M4 _
      refine pu_go 1 (pc' := 35) (ls' := [.ref 58, .int v1, .int x5, mq_un]) (st' := []) (M' := M4) rfl ?_
      exact H
    · replace H := Eq.mp (if_neg hc) H
      refine pu_go 1 (pc' := 19) (ls' := [.ref 58, .int v1, mq_un, mq_un]) (st' := [.int ((-1))]) (M' := M1) rfl ?_
      exact pu_ret rfl rfl ⟨_, rfl, H⟩
/-! m_likesMost (I)I -/
set_option maxRecDepth 20000 in
theorem r_m_likesMost_7 {L d : Nat} {M : pu_M} {Q : Int32 → pu_M → Prop} {v1 : Int32} {v2 : Int32} {v3 : Int32} {v4 : Int32} {v5 : Value} (H : (if 16 ≤ v4 then Q v2 M else pu_I L (d + 5) 170 [.ref 58, .int v1, .int v4] M (fun x2 M1 => (if x2 = 0 then pu_R L (d + 6) 213 7 [.ref 58, .int v1, .int v2, .int v3, .int (v4 + 1), v5] [] M1 (pu_qI Q) else (mq_inb (32 + v4) 66 = true ∧ (if (M1 59 (32 + v4 : Int32).toNatClampNeg) = 0 then pu_R L (d + 6) 213 7 [.ref 58, .int v1, .int v2, .int v3, .int (v4 + 1), v5] [] M1 (pu_qI Q) else pu_V L (d + 5) 204 [.ref 58, .int v1, .int v4] M1 (fun M4 => pu_I L (d + 5) 202 [.ref 58, .int 101, .int 9999] M4 (fun x6 M5 => (if v3 < x6 then pu_R L (d + 6) 213 7 [.ref 58, .int v1, .int v4, .int x6, .int (v4 + 1), .int x6] [] M5 (pu_qI Q) else pu_R L (d + 6) 213 7 [.ref 58, .int v1, .int v2, .int v3, .int (v4 + 1), .int x6] [] M5 (pu_qI Q)))))))))) : pu_R L (d + 6) 213 7 [.ref 58, .int v1, .int v2, .int v3, .int v4, v5] [] M (pu_qI Q) := by
  refine pu_go 2 (pc' := 11) (ls' := [.ref 58, .int v1, .int v2, .int v3, .int v4, v5]) (st' := [.int 16, .int v4]) (M' := M) rfl ?_
  refine pu_icmp_ge rfl (fun hc => ?_) (fun hc => ?_)
  · replace H := Eq.mp (if_pos hc) H
    refine pu_go 1 (pc' := 80) (ls' := [.ref 58, .int v1, .int v2, .int v3, .int v4, v5]) (st' := [.int v2]) (M' := M) rfl ?_
    exact pu_ret rfl rfl ⟨_, rfl, H⟩
  · replace H := Eq.mp (if_neg hc) H
    refine pu_go 3 (pc' := 18) (ls' := [.ref 58, .int v1, .int v2, .int v3, .int v4, v5]) (st' := [.int v4, .int v1, .ref 58]) (M' := M) rfl ?_
    refine pu_callI (m' := 170) (ml := 3) (as := [.ref 58, .int v1, .int v4]) (rest := []) rfl rfl rfl (Nat.le_of_ble_eq_true rfl) H (fun x2 M1 H => ?_)
    show pu_R L (d + 6) 213 21 [.ref 58, .int v1, .int v2, .int v3, .int v4, v5] [.int x2] M1 _
    refine pu_if_eq rfl (fun hc => ?_) (fun hc => ?_)
    · replace H := Eq.mp (if_pos hc) H
      refine pu_go 2 (pc' := 7) (ls' := [.ref 58, .int v1, .int v2, .int v3, .int (v4 + 1), v5]) (st' := []) (M' := M1) rfl ?_
      exact H
    · replace H := Eq.mp (if_neg hc) H
      refine pu_go 5 (pc' := 33) (ls' := [.ref 58, .int v1, .int v2, .int v3, .int v4, v5]) (st' := [.int (32 + v4), .ref 59]) (M' := M1) rfl ?_
      obtain ⟨hb3, H⟩ := H
      refine pu_iald rfl rfl (Or.inl (by decide)) hb3 ?_
      refine pu_if_ne rfl (fun hc => ?_) (fun hc => ?_)
      · replace H := Eq.mp (if_neg hc) H
        refine pu_go 3 (pc' := 44) (ls' := [.ref 58, .int v1, .int v2, .int v3, .int v4, v5]) (st' := [.int v4, .int v1, .ref 58]) (M' := M1) rfl ?_
        refine pu_callV (m' := 204) (ml := 4) (as := [.ref 58, .int v1, .int v4]) (rest := []) rfl rfl rfl (Nat.le_of_ble_eq_true rfl) H (fun M4 H => ?_)
        show pu_R L (d + 6) 213 47 [.ref 58, .int v1, .int v2, .int v3, .int v4, v5] [] M4 _
        refine pu_go 3 (pc' := 53) (ls' := [.ref 58, .int v1, .int v2, .int v3, .int v4, v5]) (st' := [.int 9999, .int 101, .ref 58]) (M' := M4) rfl ?_
        refine pu_callI (m' := 202) (ml := 5) (as := [.ref 58, .int 101, .int 9999]) (rest := []) rfl rfl rfl (Nat.le_of_ble_eq_true rfl) H (fun x6 M5 H => ?_)
        show pu_R L (d + 6) 213 56 [.ref 58, .int v1, .int v2, .int v3, .int v4, v5] [.int x6] M5 _
        refine pu_go 3 (pc' := 61) (ls' := [.ref 58, .int v1, .int v2, .int v3, .int v4, .int x6]) (st' := [.int v3, .int x6]) (M' := M5) rfl ?_
        refine pu_icmp_gt rfl (fun hc => ?_) (fun hc => ?_)
        · replace H := Eq.mp (if_pos hc) H
          refine pu_go 6 (pc' := 7) (ls' := [.ref 58, .int v1, .int v4, .int x6, .int (v4 + 1), .int x6]) (st' := []) (M' := M5) rfl ?_
          exact H
        · replace H := Eq.mp (if_neg hc) H
          refine pu_go 3 (pc' := 7) (ls' := [.ref 58, .int v1, .int v2, .int v3, .int (v4 + 1), .int x6]) (st' := []) (M' := M5) rfl ?_
          exact H
      · replace H := Eq.mp (if_pos hc) H
        refine pu_go 3 (pc' := 7) (ls' := [.ref 58, .int v1, .int v2, .int v3, .int (v4 + 1), v5]) (st' := []) (M' := M1) rfl ?_
        exact H
set_option maxRecDepth 20000 in
theorem r_m_likesMost {L d : Nat} {M : pu_M} {Q : Int32 → pu_M → Prop} {v1 : Int32} (H : pu_R L (d + 6) 213 7 [.ref 58, .int v1, .int ((-1)), .int 0, .int 0, mq_un] [] M (pu_qI Q)) : pu_I L (d + 6) 213 [.ref 58, .int v1] M Q := by
  show pu_R L (d + 6) 213 0 [.ref 58, .int v1, mq_un, mq_un, mq_un, mq_un] [] M (pu_qI Q)
  refine pu_go 6 (pc' := 7) (ls' := [.ref 58, .int v1, .int ((-1)), .int 0, .int 0, mq_un]) (st' := []) (M' := M) rfl ?_
  exact H
/-! m_learns (II)V -/
set_option maxRecDepth 20000 in
theorem r_m_learns_2 {L d : Nat} {M : pu_M} {Q : pu_M → Prop} {v1 : Int32} {v2 : Int32} {v3 : Int32} (H : (if 16 ≤ v3 then Q M else (mq_inb (16 + v2) 66 = true ∧ pu_I L (d + 1) 161 [.int (M 59 (16 + v2 : Int32).toNatClampNeg), .int v3] M (fun x3 M2 => (if x3 = 0 then pu_R L (d + 2) 214 2 [.ref 58, .int v1, .int v2, .int (v3 + 1)] [] M2 (pu_qV Q) else (mq_inb (16 + v1) 66 = true ∧ pu_I L (d + 1) 161 [.int (M2 59 (16 + v1 : Int32).toNatClampNeg), .int v3] M2 (fun x6 M5 => (if x6 = 0 then (mq_inb (16 + v1) 66 = true ∧ (mq_inb (16 + v1) 66 = true ∧ (∀ M9 : pu_M, M9 = pu_wr (pu_wr M5 59 (16 + v1 : Int32).toNatClampNeg ((M5 59 (16 + v1 : Int32).toNatClampNeg) ||| ((1 : Int32) <<< (v3 &&& 31)))) 58 37 (((pu_wr M5 59 (16 + v1 : Int32).toNatClampNeg ((M5 59 (16 + v1 : Int32).toNatClampNeg) ||| ((1 : Int32) <<< (v3 &&& 31)))) 58 37) + 1) → Q M9))) else pu_R L (d + 2) 214 2 [.ref 58, .int v1, .int v2, .int (v3 + 1)] [] M5 (pu_qV Q))))))))) : pu_R L (d + 2) 214 2 [.ref 58, .int v1, .int v2, .int v3] [] M (pu_qV Q) := by
  refine pu_go 2 (pc' := 5) (ls' := [.ref 58, .int v1, .int v2, .int v3]) (st' := [.int 16, .int v3]) (M' := M) rfl ?_
  refine pu_icmp_ge rfl (fun hc => ?_) (fun hc => ?_)
  · replace H := Eq.mp (if_pos hc) H
    exact pu_ret rfl rfl ⟨rfl, H⟩
  · replace H := Eq.mp (if_neg hc) H
    refine pu_go 5 (pc' := 16) (ls' := [.ref 58, .int v1, .int v2, .int v3]) (st' := [.int (16 + v2), .ref 59]) (M' := M) rfl ?_
    obtain ⟨hb1, H⟩ := H
    refine pu_iald rfl rfl (Or.inl (by decide)) hb1 ?_
    refine pu_go 1 (pc' := 18) (ls' := [.ref 58, .int v1, .int v2, .int v3]) (st' := [.int v3, .int (M 59 (16 + v2 : Int32).toNatClampNeg)]) (M' := M) rfl ?_
    refine pu_callI (m' := 161) (ml := 2) (as := [.int (M 59 (16 + v2 : Int32).toNatClampNeg), .int v3]) (rest := []) rfl rfl rfl (Nat.le_of_ble_eq_true rfl) H (fun x3 M2 H => ?_)
    show pu_R L (d + 2) 214 21 [.ref 58, .int v1, .int v2, .int v3] [.int x3] M2 _
    refine pu_if_eq rfl (fun hc => ?_) (fun hc => ?_)
    · replace H := Eq.mp (if_pos hc) H
      refine pu_go 2 (pc' := 2) (ls' := [.ref 58, .int v1, .int v2, .int (v3 + 1)]) (st' := []) (M' := M2) rfl ?_
      exact H
    · replace H := Eq.mp (if_neg hc) H
      refine pu_go 5 (pc' := 32) (ls' := [.ref 58, .int v1, .int v2, .int v3]) (st' := [.int (16 + v1), .ref 59]) (M' := M2) rfl ?_
      obtain ⟨hb4, H⟩ := H
      refine pu_iald rfl rfl (Or.inl (by decide)) hb4 ?_
      refine pu_go 1 (pc' := 34) (ls' := [.ref 58, .int v1, .int v2, .int v3]) (st' := [.int v3, .int (M2 59 (16 + v1 : Int32).toNatClampNeg)]) (M' := M2) rfl ?_
      refine pu_callI (m' := 161) (ml := 2) (as := [.int (M2 59 (16 + v1 : Int32).toNatClampNeg), .int v3]) (rest := []) rfl rfl rfl (Nat.le_of_ble_eq_true rfl) H (fun x6 M5 H => ?_)
      show pu_R L (d + 2) 214 37 [.ref 58, .int v1, .int v2, .int v3] [.int x6] M5 _
      refine pu_if_eq rfl (fun hc => ?_) (fun hc => ?_)
      · replace H := Eq.mp (if_pos hc) H
        refine pu_go 10 (pc' := 59) (ls' := [.ref 58, .int v1, .int v2, .int v3]) (st' := [.int (16 + v1), .ref 59, .int (16 + v1), .ref 59]) (M' := M5) rfl ?_
        obtain ⟨hb7, H⟩ := H
        refine pu_iald rfl rfl (Or.inl (by decide)) hb7 ?_
        refine pu_go 4 (pc' := 64) (ls' := [.ref 58, .int v1, .int v2, .int v3]) (st' := [.int ((M5 59 (16 + v1 : Int32).toNatClampNeg) ||| ((1 : Int32) <<< (v3 &&& 31))), .int (16 + v1), .ref 59]) (M' := M5) rfl ?_
        obtain ⟨hb8, H⟩ := H
        refine pu_iast rfl rfl (by decide) hb8 ?_
        refine pu_go 5 (pc' := 72) (ls' := [.ref 58, .int v1, .int v2, .int v3]) (st' := [.int (((pu_wr M5 59 (16 + v1 : Int32).toNatClampNeg ((M5 59 (16 + v1 : Int32).toNatClampNeg) ||| ((1 : Int32) <<< (v3 &&& 31)))) 58 37) + 1), .ref 58]) (M' := pu_wr M5 59 (16 + v1 : Int32).toNatClampNeg ((M5 59 (16 + v1 : Int32).toNatClampNeg) ||| ((1 : Int32) <<< (v3 &&& 31)))) rfl ?_
        refine pu_putf (j := 37) (z := ((pu_wr M5 59 (16 + v1 : Int32).toNatClampNeg ((M5 59 (16 + v1 : Int32).toNatClampNeg) ||| ((1 : Int32) <<< (v3 &&& 31)))) 58 37) + 1) rfl rfl (by decide) rfl (by decide) rfl rfl pu_put_hw ?_
        refine pu_named (fun M9 eM10 => ?_)
        replace H := H M9 eM10
        exact pu_ret rfl rfl ⟨rfl, H⟩
      · replace H := Eq.mp (if_neg hc) H
        refine pu_go 3 (pc' := 2) (ls' := [.ref 58, .int v1, .int v2, .int (v3 + 1)]) (st' := []) (M' := M5) rfl ?_
        exact H
set_option maxRecDepth 20000 in
theorem r_m_learns {L d : Nat} {M : pu_M} {Q : pu_M → Prop} {v1 : Int32} {v2 : Int32} (H : pu_R L (d + 2) 214 2 [.ref 58, .int v1, .int v2, .int 0] [] M (pu_qV Q)) : pu_V L (d + 2) 214 [.ref 58, .int v1, .int v2] M Q := by
  show pu_R L (d + 2) 214 0 [.ref 58, .int v1, .int v2, mq_un] [] M (pu_qV Q)
  refine pu_go 2 (pc' := 2) (ls' := [.ref 58, .int v1, .int v2, .int 0]) (st' := []) (M' := M) rfl ?_
  exact H
/-! m_turnOf (I)V -/
set_option maxRecDepth 20000 in
theorem r_m_turnOf_118 {L d : Nat} {M : pu_M} {Q : pu_M → Prop} {v1 : Int32} {v2 : Int32} {v3 : Int32} {v4 : Int32} {v5 : Int32} (H : (mq_inb (32 + v1) 66 = true ∧ pu_I L (d + 6) 158 [.int 99, .int (((M 59 (32 + v1 : Int32).toNatClampNeg) + v4) - v5)] M (fun x3 M2 => pu_I L (d + 6) 159 [.int 0, .int x3] M2 (fun x5 M4 => (mq_inb (32 + v1) 66 = true ∧ Q (pu_wr M4 59 (32 + v1 : Int32).toNatClampNeg x5)))))) : pu_R L (d + 7) 215 118 [.ref 58, .int v1, .int v2, .int v3, .int v4, .int v5] [] M (pu_qV Q) := by
  refine pu_go 12 (pc' := 137) (ls' := [.ref 58, .int v1, .int v2, .int v3, .int v4, .int v5]) (st' := [.int (32 + v1), .ref 59, .int 99, .int 0, .int (32 + v1), .ref 59]) (M' := M) rfl ?_
  obtain ⟨hb1, H⟩ := H
  refine pu_iald rfl rfl (Or.inl (by decide)) hb1 ?_
  refine pu_go 4 (pc' := 144) (ls' := [.ref 58, .int v1, .int v2, .int v3, .int v4, .int v5]) (st' := [.int (((M 59 (32 + v1 : Int32).toNatClampNeg) + v4) - v5), .int 99, .int 0, .int (32 + v1), .ref 59]) (M' := M) rfl ?_
  refine pu_callI (m' := 158) (ml := 2) (as := [.int 99, .int (((M 59 (32 + v1 : Int32).toNatClampNeg) + v4) - v5)]) (rest := [.int 0, .int (32 + v1), .ref 59]) rfl rfl rfl (Nat.le_of_ble_eq_true rfl) H (fun x3 M2 H => ?_)
  show pu_R L (d + 7) 215 147 [.ref 58, .int v1, .int v2, .int v3, .int v4, .int v5] [.int x3, .int 0, .int (32 + v1), .ref 59] M2 _
  refine pu_callI (m' := 159) (ml := 2) (as := [.int 0, .int x3]) (rest := [.int (32 + v1), .ref 59]) rfl rfl rfl (Nat.le_of_ble_eq_true rfl) H (fun x5 M4 H => ?_)
  show pu_R L (d + 7) 215 150 [.ref 58, .int v1, .int v2, .int v3, .int v4, .int v5] [.int x5, .int (32 + v1), .ref 59] M4 _
  obtain ⟨hb6, H⟩ := H
  refine pu_iast rfl rfl (by decide) hb6 ?_
  exact pu_ret rfl rfl ⟨rfl, H⟩
set_option maxRecDepth 20000 in
theorem r_m_turnOf {L d : Nat} {M : pu_M} {Q : pu_M → Prop} {v1 : Int32} (H : pu_V L (d + 6) 204 [.ref 58, .int v1, .int ((-1))] M (fun M1 => pu_I L (d + 6) 203 [.ref 58, .int 113] M1 (fun x3 M2 => (if x3 = 0 then pu_I L (d + 6) 213 [.ref 58, .int v1] M2 (fun x5 M4 => pu_V L (d + 6) 204 [.ref 58, .int v1, .int x5] M4 (fun M6 => pu_I L (d + 6) 202 [.ref 58, .int 104, .int 10] M6 (fun x8 M7 => pu_I L (d + 6) 202 [.ref 58, .int 103, .int 99] M7 (fun x10 M9 => pu_I L (d + 6) 202 [.ref 58, .int 98, .int 99] M9 (fun x12 M11 => (if x5 = ((-1)) then pu_R L (d + 7) 215 118 [.ref 58, .int v1, .int x5, .int x8, .int x10, .int x12] [] M11 (pu_qV Q) else (∀ M13 : pu_M, M13 = pu_wr (pu_wr M11 58 36 ((M11 58 36) + 1)) 59 (65 : Int32).toNatClampNeg (((25173 * ((pu_wr M11 58 36 ((M11 58 36) + 1)) 59 (65 : Int32).toNatClampNeg)) + 13849) % 65536) → (if x8 ≤ ((M13 59 (65 : Int32).toNatClampNeg) % 10) then pu_R L (d + 7) 215 118 [.ref 58, .int v1, .int x5, .int x8, .int x10, .int x12] [] M13 (pu_qV Q) else pu_V L (d + 6) 214 [.ref 58, .int v1, .int x5] M13 (fun M15 => pu_R L (d + 7) 215 118 [.ref 58, .int v1, .int x5, .int x8, .int x10, .int x12] [] M15 (pu_qV Q)))))))))) else Q M2)))) : pu_V L (d + 7) 215 [.ref 58, .int v1] M Q := by
  show pu_R L (d + 7) 215 0 [.ref 58, .int v1, mq_un, mq_un, mq_un, mq_un] [] M (pu_qV Q)
  refine pu_go 3 (pc' := 3) (ls' := [.ref 58, .int v1, mq_un, mq_un, mq_un, mq_un]) (st' := [.int ((-1)), .int v1, .ref 58]) (M' := M) rfl ?_
  refine pu_callV (m' := 204) (ml := 4) (as := [.ref 58, .int v1, .int ((-1))]) (rest := []) rfl rfl rfl (Nat.le_of_ble_eq_true rfl) H (fun M1 H => ?_)
  show pu_R L (d + 7) 215 6 [.ref 58, .int v1, mq_un, mq_un, mq_un, mq_un] [] M1 _
  refine pu_go 2 (pc' := 9) (ls' := [.ref 58, .int v1, mq_un, mq_un, mq_un, mq_un]) (st' := [.int 113, .ref 58]) (M' := M1) rfl ?_
  refine pu_callI (m' := 203) (ml := 3) (as := [.ref 58, .int 113]) (rest := []) rfl rfl rfl (Nat.le_of_ble_eq_true rfl) H (fun x3 M2 H => ?_)
  show pu_R L (d + 7) 215 12 [.ref 58, .int v1, mq_un, mq_un, mq_un, mq_un] [.int x3] M2 _
  refine pu_if_eq rfl (fun hc => ?_) (fun hc => ?_)
  · replace H := Eq.mp (if_pos hc) H
    refine pu_go 2 (pc' := 18) (ls' := [.ref 58, .int v1, mq_un, mq_un, mq_un, mq_un]) (st' := [.int v1, .ref 58]) (M' := M2) rfl ?_
    refine pu_callI (m' := 213) (ml := 6) (as := [.ref 58, .int v1]) (rest := []) rfl rfl rfl (Nat.le_of_ble_eq_true rfl) H (fun x5 M4 H => ?_)
    show pu_R L (d + 7) 215 21 [.ref 58, .int v1, mq_un, mq_un, mq_un, mq_un] [.int x5] M4 _
    refine pu_go 4 (pc' := 25) (ls' := [.ref 58, .int v1, .int x5, mq_un, mq_un, mq_un]) (st' := [.int x5, .int v1, .ref 58]) (M' := M4) rfl ?_
    refine pu_callV (m' := 204) (ml := 4) (as := [.ref 58, .int v1, .int x5]) (rest := []) rfl rfl rfl (Nat.le_of_ble_eq_true rfl) H (fun M6 H => ?_)
    show pu_R L (d + 7) 215 28 [.ref 58, .int v1, .int x5, mq_un, mq_un, mq_un] [] M6 _
    refine pu_go 3 (pc' := 33) (ls' := [.ref 58, .int v1, .int x5, mq_un, mq_un, mq_un]) (st' := [.int 10, .int 104, .ref 58]) (M' := M6) rfl ?_
    refine pu_callI (m' := 202) (ml := 5) (as := [.ref 58, .int 104, .int 10]) (rest := []) rfl rfl rfl (Nat.le_of_ble_eq_true rfl) H (fun x8 M7 H => ?_)
    show pu_R L (d + 7) 215 36 [.ref 58, .int v1, .int x5, mq_un, mq_un, mq_un] [.int x8] M7 _
    refine pu_go 4 (pc' := 42) (ls' := [.ref 58, .int v1, .int x5, .int x8, mq_un, mq_un]) (st' := [.int 99, .int 103, .ref 58]) (M' := M7) rfl ?_
    refine pu_callI (m' := 202) (ml := 5) (as := [.ref 58, .int 103, .int 99]) (rest := []) rfl rfl rfl (Nat.le_of_ble_eq_true rfl) H (fun x10 M9 H => ?_)
    show pu_R L (d + 7) 215 45 [.ref 58, .int v1, .int x5, .int x8, mq_un, mq_un] [.int x10] M9 _
    refine pu_go 4 (pc' := 52) (ls' := [.ref 58, .int v1, .int x5, .int x8, .int x10, mq_un]) (st' := [.int 99, .int 98, .ref 58]) (M' := M9) rfl ?_
    refine pu_callI (m' := 202) (ml := 5) (as := [.ref 58, .int 98, .int 99]) (rest := []) rfl rfl rfl (Nat.le_of_ble_eq_true rfl) H (fun x12 M11 H => ?_)
    show pu_R L (d + 7) 215 55 [.ref 58, .int v1, .int x5, .int x8, .int x10, mq_un] [.int x12] M11 _
    refine pu_go 3 (pc' := 59) (ls' := [.ref 58, .int v1, .int x5, .int x8, .int x10, .int x12]) (st' := [.int ((-1)), .int x5]) (M' := M11) rfl ?_
    refine pu_icmp_eq rfl (fun hc => ?_) (fun hc => ?_)
    · replace H := Eq.mp (if_pos hc) H
      exact H
    · replace H := Eq.mp (if_neg hc) H
      refine pu_go 5 (pc' := 69) (ls' := [.ref 58, .int v1, .int x5, .int x8, .int x10, .int x12]) (st' := [.int ((M11 58 36) + 1), .ref 58]) (M' := M11) rfl ?_
      refine pu_putf (j := 36) (z := (M11 58 36) + 1) rfl rfl (by decide) rfl (by decide) rfl rfl pu_put_hw ?_
      refine pu_go 7 (pc' := 87) (ls' := [.ref 58, .int v1, .int x5, .int x8, .int x10, .int x12]) (st' := [.int 65, .ref 59, .int 25173, .int 65, .ref 59]) (M' := pu_wr M11 58 36 ((M11 58 36) + 1)) rfl ?_
      refine pu_iald rfl rfl (Or.inl (by decide)) rfl ?_
      refine pu_go 4 (pc' := 96) (ls' := [.ref 58, .int v1, .int x5, .int x8, .int x10, .int x12]) (st' := [.int 65536, .int ((25173 * ((pu_wr M11 58 36 ((M11 58 36) + 1)) 59 (65 : Int32).toNatClampNeg)) + 13849), .int 65, .ref 59]) (M' := pu_wr M11 58 36 ((M11 58 36) + 1)) rfl ?_
      refine pu_rem rfl (by decide) ?_
      refine pu_iast rfl rfl (by decide) rfl ?_
      refine pu_named (fun M13 eM14 => ?_)
      replace H := H M13 eM14
      refine pu_go 3 (pc' := 104) (ls' := [.ref 58, .int v1, .int x5, .int x8, .int x10, .int x12]) (st' := [.int 65, .ref 59]) (M' := M13) rfl ?_
      refine pu_iald rfl rfl (Or.inl (by decide)) rfl ?_
      refine pu_go 1 (pc' := 107) (ls' := [.ref 58, .int v1, .int x5, .int x8, .int x10, .int x12]) (st' := [.int 10, .int (M13 59 (65 : Int32).toNatClampNeg)]) (M' := M13) rfl ?_
      refine pu_rem rfl (by decide) ?_
      refine pu_go 1 (pc' := 109) (ls' := [.ref 58, .int v1, .int x5, .int x8, .int x10, .int x12]) (st' := [.int x8, .int ((M13 59 (65 : Int32).toNatClampNeg) % 10)]) (M' := M13) rfl ?_
      refine pu_icmp_ge rfl (fun hc => ?_) (fun hc => ?_)
      · replace H := Eq.mp (if_pos hc) H
        exact H
      · replace H := Eq.mp (if_neg hc) H
        refine pu_go 3 (pc' := 115) (ls' := [.ref 58, .int v1, .int x5, .int x8, .int x10, .int x12]) (st' := [.int x5, .int v1, .ref 58]) (M' := M13) rfl ?_
        refine pu_callV (m' := 214) (ml := 4) (as := [.ref 58, .int v1, .int x5]) (rest := []) rfl rfl rfl (Nat.le_of_ble_eq_true rfl) H (fun M15 H => ?_)
        show pu_R L (d + 7) 215 118 [.ref 58, .int v1, .int x5, .int x8, .int x10, .int x12] [] M15 _
        exact H
  · replace H := Eq.mp (if_neg hc) H
    exact pu_ret rfl rfl ⟨rfl, H⟩
/-! m_nightsGo (I)V -/
set_option maxRecDepth 20000 in
theorem r_m_nightsGo_32 {L d : Nat} {M : pu_M} {Q : pu_M → Prop} {v1 : Int32} {v2 : Int32} {v3 : Int32} (H : (if 16 ≤ v3 then pu_R L (d + 8) 216 12 [.ref 58, .int v1, .int (v2 + 1), .int v3] [] (pu_wr M 59 (64 : Int32).toNatClampNeg ((M 59 (64 : Int32).toNatClampNeg) + 1)) (pu_qV Q) else pu_I L (d + 7) 165 [.ref 58, .int v3] M (fun x2 M1 => (if x2 = 0 then pu_R L (d + 8) 216 32 [.ref 58, .int v1, .int v2, .int (v3 + 1)] [] M1 (pu_qV Q) else (mq_inb (32 + v3) 66 = true ∧ (if (M1 59 (32 + v3 : Int32).toNatClampNeg) ≤ 0 then pu_R L (d + 8) 216 32 [.ref 58, .int v1, .int v2, .int (v3 + 1)] [] M1 (pu_qV Q) else pu_V L (d + 7) 215 [.ref 58, .int v3] M1 (fun M4 => pu_R L (d + 8) 216 32 [.ref 58, .int v1, .int v2, .int (v3 + 1)] [] M4 (pu_qV Q)))))))) : pu_R L (d + 8) 216 32 [.ref 58, .int v1, .int v2, .int v3] [] M (pu_qV Q) := by
  refine pu_go 2 (pc' := 35) (ls' := [.ref 58, .int v1, .int v2, .int v3]) (st' := [.int 16, .int v3]) (M' := M) rfl ?_
  refine pu_icmp_ge rfl (fun hc => ?_) (fun hc => ?_)
  · replace H := Eq.mp (if_pos hc) H
    refine pu_go 6 (pc' := 81) (ls' := [.ref 58, .int v1, .int v2, .int v3]) (st' := [.int 64, .ref 59, .int 64, .ref 59]) (M' := M) rfl ?_
    refine pu_iald rfl rfl (Or.inl (by decide)) rfl ?_
    refine pu_go 2 (pc' := 84) (ls' := [.ref 58, .int v1, .int v2, .int v3]) (st' := [.int ((M 59 (64 : Int32).toNatClampNeg) + 1), .int 64, .ref 59]) (M' := M) rfl ?_
    refine pu_iast rfl rfl (by decide) rfl ?_
    refine pu_go 2 (pc' := 12) (ls' := [.ref 58, .int v1, .int (v2 + 1), .int v3]) (st' := []) (M' := pu_wr M 59 (64 : Int32).toNatClampNeg ((M 59 (64 : Int32).toNatClampNeg) + 1)) rfl ?_
    exact H
  · replace H := Eq.mp (if_neg hc) H
    refine pu_go 2 (pc' := 40) (ls' := [.ref 58, .int v1, .int v2, .int v3]) (st' := [.int v3, .ref 58]) (M' := M) rfl ?_
    refine pu_callI (m' := 165) (ml := 2) (as := [.ref 58, .int v3]) (rest := []) rfl rfl rfl (Nat.le_of_ble_eq_true rfl) H (fun x2 M1 H => ?_)
    show pu_R L (d + 8) 216 43 [.ref 58, .int v1, .int v2, .int v3] [.int x2] M1 _
    refine pu_if_eq rfl (fun hc => ?_) (fun hc => ?_)
    · replace H := Eq.mp (if_pos hc) H
      refine pu_go 2 (pc' := 32) (ls' := [.ref 58, .int v1, .int v2, .int (v3 + 1)]) (st' := []) (M' := M1) rfl ?_
      exact H
    · replace H := Eq.mp (if_neg hc) H
      refine pu_go 5 (pc' := 54) (ls' := [.ref 58, .int v1, .int v2, .int v3]) (st' := [.int (32 + v3), .ref 59]) (M' := M1) rfl ?_
      obtain ⟨hb3, H⟩ := H
      refine pu_iald rfl rfl (Or.inl (by decide)) hb3 ?_
      refine pu_if_le rfl (fun hc => ?_) (fun hc => ?_)
      · replace H := Eq.mp (if_pos hc) H
        refine pu_go 2 (pc' := 32) (ls' := [.ref 58, .int v1, .int v2, .int (v3 + 1)]) (st' := []) (M' := M1) rfl ?_
        exact H
      · replace H := Eq.mp (if_neg hc) H
        refine pu_go 2 (pc' := 60) (ls' := [.ref 58, .int v1, .int v2, .int v3]) (st' := [.int v3, .ref 58]) (M' := M1) rfl ?_
        refine pu_callV (m' := 215) (ml := 6) (as := [.ref 58, .int v3]) (rest := []) rfl rfl rfl (Nat.le_of_ble_eq_true rfl) H (fun M4 H => ?_)
        show pu_R L (d + 8) 216 63 [.ref 58, .int v1, .int v2, .int v3] [] M4 _
        refine pu_go 2 (pc' := 32) (ls' := [.ref 58, .int v1, .int v2, .int (v3 + 1)]) (st' := []) (M' := M4) rfl ?_
        exact H
set_option maxRecDepth 20000 in
theorem r_m_nightsGo_12 {L d : Nat} {M : pu_M} {Q : pu_M → Prop} {v1 : Int32} {v2 : Int32} {v3 : Value} (H : (if v1 ≤ v2 then Q M else (if 9999 ≤ (M 59 (64 : Int32).toNatClampNeg) then Q M else pu_R L (d + 8) 216 32 [.ref 58, .int v1, .int v2, .int 0] [] M (pu_qV Q)))) : pu_R L (d + 8) 216 12 [.ref 58, .int v1, .int v2, v3] [] M (pu_qV Q) := by
  refine pu_go 2 (pc' := 14) (ls' := [.ref 58, .int v1, .int v2, v3]) (st' := [.int v1, .int v2]) (M' := M) rfl ?_
  refine pu_icmp_ge rfl (fun hc => ?_) (fun hc => ?_)
  · replace H := Eq.mp (if_pos hc) H
    exact pu_ret rfl rfl ⟨rfl, H⟩
  · replace H := Eq.mp (if_neg hc) H
    refine pu_go 3 (pc' := 23) (ls' := [.ref 58, .int v1, .int v2, v3]) (st' := [.int 64, .ref 59]) (M' := M) rfl ?_
    refine pu_iald rfl rfl (Or.inl (by decide)) rfl ?_
    refine pu_go 1 (pc' := 27) (ls' := [.ref 58, .int v1, .int v2, v3]) (st' := [.int 9999, .int (M 59 (64 : Int32).toNatClampNeg)]) (M' := M) rfl ?_
    refine pu_icmp_ge rfl (fun hc => ?_) (fun hc => ?_)
    · replace H := Eq.mp (if_pos hc) H
      exact pu_ret rfl rfl ⟨rfl, H⟩
    · replace H := Eq.mp (if_neg hc) H
      refine pu_go 2 (pc' := 32) (ls' := [.ref 58, .int v1, .int v2, .int 0]) (st' := []) (M' := M) rfl ?_
      exact H
set_option maxRecDepth 20000 in
theorem r_m_nightsGo {L d : Nat} {M : pu_M} {Q : pu_M → Prop} {v1 : Int32} (H : pu_R L (d + 8) 216 12 [.ref 58, .int v1, .int 0, mq_un] [] (pu_wr (pu_wr M 58 36 0) 58 37 0) (pu_qV Q)) : pu_V L (d + 8) 216 [.ref 58, .int v1] M Q := by
  show pu_R L (d + 8) 216 0 [.ref 58, .int v1, mq_un, mq_un] [] M (pu_qV Q)
  refine pu_go 2 (pc' := 2) (ls' := [.ref 58, .int v1, mq_un, mq_un]) (st' := [.int 0, .ref 58]) (M' := M) rfl ?_
  refine pu_putf (j := 36) (z := 0) rfl rfl (by decide) rfl (by decide) rfl rfl pu_put_hw ?_
  refine pu_go 2 (pc' := 7) (ls' := [.ref 58, .int v1, mq_un, mq_un]) (st' := [.int 0, .ref 58]) (M' := pu_wr M 58 36 0) rfl ?_
  refine pu_putf (j := 37) (z := 0) rfl rfl (by decide) rfl (by decide) rfl rfl pu_put_hw ?_
  refine pu_go 2 (pc' := 12) (ls' := [.ref 58, .int v1, .int 0, mq_un]) (st' := []) (M' := pu_wr (pu_wr M 58 36 0) 58 37 0) rfl ?_
  exact H
/-! m_nights (I)I -/
set_option maxRecDepth 20000 in
theorem r_m_nights {L d : Nat} {M : pu_M} {Q : Int32 → pu_M → Prop} {v1 : Int32} (H : pu_I L (d + 8) 157 [.int v1, .int 1, .int 240] M (fun x2 M1 => (if x2 = 0 then Q ((-1)) M1 else pu_V L (d + 8) 216 [.ref 58, .int v1] M1 (fun M3 => Q (M3 58 36) M3)))) : pu_I L (d + 9) 217 [.ref 58, .int v1] M Q := by
  show pu_R L (d + 9) 217 0 [.ref 58, .int v1] [] M (pu_qI Q)
  refine pu_go 3 (pc' := 5) (ls' := [.ref 58, .int v1]) (st' := [.int 240, .int 1, .int v1]) (M' := M) rfl ?_
  refine pu_callI (m' := 157) (ml := 3) (as := [.int v1, .int 1, .int 240]) (rest := []) rfl rfl rfl (Nat.le_of_ble_eq_true rfl) H (fun x2 M1 H => ?_)
  show pu_R L (d + 9) 217 8 [.ref 58, .int v1] [.int x2] M1 _
  refine pu_if_ne rfl (fun hc => ?_) (fun hc => ?_)
  · replace H := Eq.mp (if_neg hc) H
    refine pu_go 2 (pc' := 15) (ls' := [.ref 58, .int v1]) (st' := [.int v1, .ref 58]) (M' := M1) rfl ?_
    refine pu_callV (m' := 216) (ml := 4) (as := [.ref 58, .int v1]) (rest := []) rfl rfl rfl (Nat.le_of_ble_eq_true rfl) H (fun M3 H => ?_)
    show pu_R L (d + 9) 217 18 [.ref 58, .int v1] [] M3 _
    refine pu_go 2 (pc' := 22) (ls' := [.ref 58, .int v1]) (st' := [.int (M3 58 36)]) (M' := M3) rfl ?_
    exact pu_ret rfl rfl ⟨_, rfl, H⟩
  · replace H := Eq.mp (if_pos hc) H
    refine pu_go 1 (pc' := 12) (ls' := [.ref 58, .int v1]) (st' := [.int ((-1))]) (M' := M1) rfl ?_
    exact pu_ret rfl rfl ⟨_, rfl, H⟩
/-! m_moodless ()I -/
set_option maxRecDepth 20000 in
theorem r_m_moodless_4 {L d : Nat} {M : pu_M} {Q : Int32 → pu_M → Prop} {v1 : Int32} {v2 : Int32} (H : (if 16 ≤ v2 then Q v1 M else pu_I L (d + 1) 165 [.ref 58, .int v2] M (fun x2 M1 => (if x2 = 0 then pu_R L (d + 2) 218 4 [.ref 58, .int v1, .int (v2 + 1)] [] M1 (pu_qI Q) else (mq_inb (32 + v2) 66 = true ∧ (if (M1 59 (32 + v2 : Int32).toNatClampNeg) = 0 then pu_R L (d + 2) 218 4 [.ref 58, .int (v1 + 1), .int (v2 + 1)] [] M1 (pu_qI Q) else pu_R L (d + 2) 218 4 [.ref 58, .int v1, .int (v2 + 1)] [] M1 (pu_qI Q))))))) : pu_R L (d + 2) 218 4 [.ref 58, .int v1, .int v2] [] M (pu_qI Q) := by
  refine pu_go 2 (pc' := 7) (ls' := [.ref 58, .int v1, .int v2]) (st' := [.int 16, .int v2]) (M' := M) rfl ?_
  refine pu_icmp_ge rfl (fun hc => ?_) (fun hc => ?_)
  · replace H := Eq.mp (if_pos hc) H
    refine pu_go 1 (pc' := 41) (ls' := [.ref 58, .int v1, .int v2]) (st' := [.int v1]) (M' := M) rfl ?_
    exact pu_ret rfl rfl ⟨_, rfl, H⟩
  · replace H := Eq.mp (if_neg hc) H
    refine pu_go 2 (pc' := 12) (ls' := [.ref 58, .int v1, .int v2]) (st' := [.int v2, .ref 58]) (M' := M) rfl ?_
    refine pu_callI (m' := 165) (ml := 2) (as := [.ref 58, .int v2]) (rest := []) rfl rfl rfl (Nat.le_of_ble_eq_true rfl) H (fun x2 M1 H => ?_)
    show pu_R L (d + 2) 218 15 [.ref 58, .int v1, .int v2] [.int x2] M1 _
    refine pu_if_eq rfl (fun hc => ?_) (fun hc => ?_)
    · replace H := Eq.mp (if_pos hc) H
      refine pu_go 2 (pc' := 4) (ls' := [.ref 58, .int v1, .int (v2 + 1)]) (st' := []) (M' := M1) rfl ?_
      exact H
    · replace H := Eq.mp (if_neg hc) H
      refine pu_go 5 (pc' := 26) (ls' := [.ref 58, .int v1, .int v2]) (st' := [.int (32 + v2), .ref 59]) (M' := M1) rfl ?_
      obtain ⟨hb3, H⟩ := H
      refine pu_iald rfl rfl (Or.inl (by decide)) hb3 ?_
      refine pu_if_ne rfl (fun hc => ?_) (fun hc => ?_)
      · replace H := Eq.mp (if_neg hc) H
        refine pu_go 2 (pc' := 4) (ls' := [.ref 58, .int v1, .int (v2 + 1)]) (st' := []) (M' := M1) rfl ?_
        exact H
      · replace H := Eq.mp (if_pos hc) H
        refine pu_go 6 (pc' := 4) (ls' := [.ref 58, .int (v1 + 1), .int (v2 + 1)]) (st' := []) (M' := M1) rfl ?_
        exact H
set_option maxRecDepth 20000 in
theorem r_m_moodless {L d : Nat} {M : pu_M} {Q : Int32 → pu_M → Prop}  (H : pu_R L (d + 2) 218 4 [.ref 58, .int 0, .int 0] [] M (pu_qI Q)) : pu_I L (d + 2) 218 [.ref 58] M Q := by
  show pu_R L (d + 2) 218 0 [.ref 58, mq_un, mq_un] [] M (pu_qI Q)
  refine pu_go 4 (pc' := 4) (ls' := [.ref 58, .int 0, .int 0]) (st' := []) (M' := M) rfl ?_
  exact H
/-! m_tried (II)I -/
set_option maxRecDepth 20000 in
theorem r_m_tried_44 {L d : Nat} {M : pu_M} {Q : Int32 → pu_M → Prop} {v1 : Int32} {v2 : Int32} (H : pu_V L (d + 8) 163 [.ref 59, .ref 60] M (fun M1 => pu_V L (d + 8) 216 [.ref 58, .int v1] M1 (fun M2 => (if v2 = 0 then pu_V L (d + 8) 163 [.ref 60, .ref 59] M2 (fun M9 => Q (M2 58 36) M9) else (if v2 = 1 then pu_V L (d + 8) 163 [.ref 60, .ref 59] M2 (fun M10 => Q (M2 58 37) M10) else (if v2 = 2 then pu_I L (d + 8) 218 [.ref 58] M2 (fun x12 M11 => pu_V L (d + 8) 163 [.ref 60, .ref 59] M11 (fun M13 => Q x12 M13)) else (if 30 ≤ v2 then (mq_inb ((16 + v2) - 30) 66 = true ∧ pu_I L (d + 8) 162 [.int (M2 59 ((16 + v2) - 30 : Int32).toNatClampNeg)] M2 (fun x5 M4 => pu_V L (d + 8) 163 [.ref 60, .ref 59] M4 (fun M6 => Q x5 M6))) else (mq_inb ((32 + v2) - 10) 66 = true ∧ pu_V L (d + 8) 163 [.ref 60, .ref 59] M2 (fun M8 => Q (M2 59 ((32 + v2) - 10 : Int32).toNatClampNeg) M8))))))))) : pu_R L (d + 9) 219 44 [.ref 58, .int v1, .int v2, mq_un] [] M (pu_qI Q) := by
  refine pu_go 4 (pc' := 52) (ls' := [.ref 58, .int v1, .int v2, mq_un]) (st' := [.ref 60, .ref 59]) (M' := M) rfl ?_
  refine pu_callV (m' := 163) (ml := 3) (as := [.ref 59, .ref 60]) (rest := []) rfl rfl rfl (Nat.le_of_ble_eq_true rfl) H (fun M1 H => ?_)
  show pu_R L (d + 9) 219 55 [.ref 58, .int v1, .int v2, mq_un] [] M1 _
  refine pu_go 2 (pc' := 57) (ls' := [.ref 58, .int v1, .int v2, mq_un]) (st' := [.int v1, .ref 58]) (M' := M1) rfl ?_
  refine pu_callV (m' := 216) (ml := 4) (as := [.ref 58, .int v1]) (rest := []) rfl rfl rfl (Nat.le_of_ble_eq_true rfl) H (fun M2 H => ?_)
  show pu_R L (d + 9) 219 60 [.ref 58, .int v1, .int v2, mq_un] [] M2 _
  refine pu_go 1 (pc' := 61) (ls' := [.ref 58, .int v1, .int v2, mq_un]) (st' := [.int v2]) (M' := M2) rfl ?_
  skip
  by_cases hs61_0 : v2 = 0
  · replace H := Eq.mp (if_pos hs61_0) H
    refine pu_one (pc' := 88) (ls' := [.ref 58, .int v1, .int v2, mq_un]) (st' := []) (M' := M2) rfl (by rw [hs61_0]; rfl) ?_
    refine pu_go 8 (pc' := 157) (ls' := [.ref 58, .int v1, .int v2, .int (M2 58 36)]) (st' := [.ref 59, .ref 60]) (M' := M2) rfl ?_
    refine pu_callV (m' := 163) (ml := 3) (as := [.ref 60, .ref 59]) (rest := []) rfl rfl rfl (Nat.le_of_ble_eq_true rfl) H (fun M9 H => ?_)
    show pu_R L (d + 9) 219 160 [.ref 58, .int v1, .int v2, .int (M2 58 36)] [] M9 _
    refine pu_go 1 (pc' := 161) (ls' := [.ref 58, .int v1, .int v2, .int (M2 58 36)]) (st' := [.int (M2 58 36)]) (M' := M9) rfl ?_
    exact pu_ret rfl rfl ⟨_, rfl, H⟩
  replace H := Eq.mp (if_neg hs61_0) H
  by_cases hs61_1 : v2 = 1
  · replace H := Eq.mp (if_pos hs61_1) H
    refine pu_one (pc' := 96) (ls' := [.ref 58, .int v1, .int v2, mq_un]) (st' := []) (M' := M2) rfl (by rw [hs61_1]; rfl) ?_
    refine pu_go 8 (pc' := 157) (ls' := [.ref 58, .int v1, .int v2, .int (M2 58 37)]) (st' := [.ref 59, .ref 60]) (M' := M2) rfl ?_
    refine pu_callV (m' := 163) (ml := 3) (as := [.ref 60, .ref 59]) (rest := []) rfl rfl rfl (Nat.le_of_ble_eq_true rfl) H (fun M10 H => ?_)
    show pu_R L (d + 9) 219 160 [.ref 58, .int v1, .int v2, .int (M2 58 37)] [] M10 _
    refine pu_go 1 (pc' := 161) (ls' := [.ref 58, .int v1, .int v2, .int (M2 58 37)]) (st' := [.int (M2 58 37)]) (M' := M10) rfl ?_
    exact pu_ret rfl rfl ⟨_, rfl, H⟩
  replace H := Eq.mp (if_neg hs61_1) H
  by_cases hs61_2 : v2 = 2
  · replace H := Eq.mp (if_pos hs61_2) H
    refine pu_one (pc' := 104) (ls' := [.ref 58, .int v1, .int v2, mq_un]) (st' := []) (M' := M2) rfl (by rw [hs61_2]; rfl) ?_
    refine pu_go 1 (pc' := 105) (ls' := [.ref 58, .int v1, .int v2, mq_un]) (st' := [.ref 58]) (M' := M2) rfl ?_
    refine pu_callI (m' := 218) (ml := 3) (as := [.ref 58]) (rest := []) rfl rfl rfl (Nat.le_of_ble_eq_true rfl) H (fun x12 M11 H => ?_)
    show pu_R L (d + 9) 219 108 [.ref 58, .int v1, .int v2, mq_un] [.int x12] M11 _
    refine pu_go 6 (pc' := 157) (ls' := [.ref 58, .int v1, .int v2, .int x12]) (st' := [.ref 59, .ref 60]) (M' := M11) rfl ?_
    refine pu_callV (m' := 163) (ml := 3) (as := [.ref 60, .ref 59]) (rest := []) rfl rfl rfl (Nat.le_of_ble_eq_true rfl) H (fun M13 H => ?_)
    show pu_R L (d + 9) 219 160 [.ref 58, .int v1, .int v2, .int x12] [] M13 _
    refine pu_go 1 (pc' := 161) (ls' := [.ref 58, .int v1, .int v2, .int x12]) (st' := [.int x12]) (M' := M13) rfl ?_
    exact pu_ret rfl rfl ⟨_, rfl, H⟩
  replace H := Eq.mp (if_neg hs61_2) H
  refine pu_one (pc' := 112) (ls' := [.ref 58, .int v1, .int v2, mq_un]) (st' := []) (M' := M2) rfl (congrArg (fun z => mq_nx z _ _ _) (pu_tabD [0, 1, 2] (by simp only [List.forall_mem_cons, List.not_mem_nil, false_implies, implies_true, and_true]; exact ⟨hs61_0, hs61_1, hs61_2⟩) (by decide))) ?_
  refine pu_go 2 (pc' := 115) (ls' := [.ref 58, .int v1, .int v2, mq_un]) (st' := [.int 30, .int v2]) (M' := M2) rfl ?_
  refine pu_icmp_ge rfl (fun hc => ?_) (fun hc => ?_)
  · replace H := Eq.mp (if_pos hc) H
    refine pu_go 7 (pc' := 144) (ls' := [.ref 58, .int v1, .int v2, mq_un]) (st' := [.int ((16 + v2) - 30), .ref 59]) (M' := M2) rfl ?_
    obtain ⟨hb3, H⟩ := H
    refine pu_iald rfl rfl (Or.inl (by decide)) hb3 ?_
    refine pu_callI (m' := 162) (ml := 3) (as := [.int (M2 59 ((16 + v2) - 30 : Int32).toNatClampNeg)]) (rest := []) rfl rfl rfl (Nat.le_of_ble_eq_true rfl) H (fun x5 M4 H => ?_)
    show pu_R L (d + 9) 219 148 [.ref 58, .int v1, .int v2, mq_un] [.int x5] M4 _
    refine pu_go 5 (pc' := 157) (ls' := [.ref 58, .int v1, .int v2, .int x5]) (st' := [.ref 59, .ref 60]) (M' := M4) rfl ?_
    refine pu_callV (m' := 163) (ml := 3) (as := [.ref 60, .ref 59]) (rest := []) rfl rfl rfl (Nat.le_of_ble_eq_true rfl) H (fun M6 H => ?_)
    show pu_R L (d + 9) 219 160 [.ref 58, .int v1, .int v2, .int x5] [] M6 _
    refine pu_go 1 (pc' := 161) (ls' := [.ref 58, .int v1, .int v2, .int x5]) (st' := [.int x5]) (M' := M6) rfl ?_
    exact pu_ret rfl rfl ⟨_, rfl, H⟩
  · replace H := Eq.mp (if_neg hc) H
    refine pu_go 7 (pc' := 129) (ls' := [.ref 58, .int v1, .int v2, mq_un]) (st' := [.int ((32 + v2) - 10), .ref 59]) (M' := M2) rfl ?_
    obtain ⟨hb7, H⟩ := H
    refine pu_iald rfl rfl (Or.inl (by decide)) hb7 ?_
    refine pu_go 6 (pc' := 157) (ls' := [.ref 58, .int v1, .int v2, .int (M2 59 ((32 + v2) - 10 : Int32).toNatClampNeg)]) (st' := [.ref 59, .ref 60]) (M' := M2) rfl ?_
    refine pu_callV (m' := 163) (ml := 3) (as := [.ref 60, .ref 59]) (rest := []) rfl rfl rfl (Nat.le_of_ble_eq_true rfl) H (fun M8 H => ?_)
    show pu_R L (d + 9) 219 160 [.ref 58, .int v1, .int v2, .int (M2 59 ((32 + v2) - 10 : Int32).toNatClampNeg)] [] M8 _
    refine pu_go 1 (pc' := 161) (ls' := [.ref 58, .int v1, .int v2, .int (M2 59 ((32 + v2) - 10 : Int32).toNatClampNeg)]) (st' := [.int (M2 59 ((32 + v2) - 10 : Int32).toNatClampNeg)]) (M' := M8) rfl ?_
    exact pu_ret rfl rfl ⟨_, rfl, H⟩
set_option maxRecDepth 20000 in
theorem r_m_tried {L d : Nat} {M : pu_M} {Q : Int32 → pu_M → Prop} {v1 : Int32} {v2 : Int32} (H : pu_I L (d + 8) 157 [.int v1, .int 1, .int 240] M (fun x2 M1 => (if x2 = 0 then Q ((-1)) M1 else pu_I L (d + 8) 157 [.int v2, .int 0, .int 2] M1 (fun x4 M3 => (if x4 = 0 then pu_I L (d + 8) 164 [.ref 58, .int (v2 - 10)] M3 (fun x6 M5 => (if x6 = 0 then pu_I L (d + 8) 164 [.ref 58, .int (v2 - 30)] M5 (fun x8 M7 => (if x8 = 0 then Q ((-1)) M7 else pu_R L (d + 9) 219 44 [.ref 58, .int v1, .int v2, mq_un] [] M7 (pu_qI Q))) else pu_R L (d + 9) 219 44 [.ref 58, .int v1, .int v2, mq_un] [] M5 (pu_qI Q))) else pu_R L (d + 9) 219 44 [.ref 58, .int v1, .int v2, mq_un] [] M3 (pu_qI Q)))))) : pu_I L (d + 9) 219 [.ref 58, .int v1, .int v2] M Q := by
  show pu_R L (d + 9) 219 0 [.ref 58, .int v1, .int v2, mq_un] [] M (pu_qI Q)
  refine pu_go 3 (pc' := 5) (ls' := [.ref 58, .int v1, .int v2, mq_un]) (st' := [.int 240, .int 1, .int v1]) (M' := M) rfl ?_
  refine pu_callI (m' := 157) (ml := 3) (as := [.int v1, .int 1, .int 240]) (rest := []) rfl rfl rfl (Nat.le_of_ble_eq_true rfl) H (fun x2 M1 H => ?_)
  show pu_R L (d + 9) 219 8 [.ref 58, .int v1, .int v2, mq_un] [.int x2] M1 _
  refine pu_if_eq rfl (fun hc => ?_) (fun hc => ?_)
  · replace H := Eq.mp (if_pos hc) H
    refine pu_go 1 (pc' := 43) (ls' := [.ref 58, .int v1, .int v2, mq_un]) (st' := [.int ((-1))]) (M' := M1) rfl ?_
    exact pu_ret rfl rfl ⟨_, rfl, H⟩
  · replace H := Eq.mp (if_neg hc) H
    refine pu_go 3 (pc' := 14) (ls' := [.ref 58, .int v1, .int v2, mq_un]) (st' := [.int 2, .int 0, .int v2]) (M' := M1) rfl ?_
    refine pu_callI (m' := 157) (ml := 3) (as := [.int v2, .int 0, .int 2]) (rest := []) rfl rfl rfl (Nat.le_of_ble_eq_true rfl) H (fun x4 M3 H => ?_)
    show pu_R L (d + 9) 219 17 [.ref 58, .int v1, .int v2, mq_un] [.int x4] M3 _
    refine pu_if_ne rfl (fun hc => ?_) (fun hc => ?_)
    · replace H := Eq.mp (if_neg hc) H
      exact H
    · replace H := Eq.mp (if_pos hc) H
      refine pu_go 4 (pc' := 25) (ls' := [.ref 58, .int v1, .int v2, mq_un]) (st' := [.int (v2 - 10), .ref 58]) (M' := M3) rfl ?_
      refine pu_callI (m' := 164) (ml := 2) (as := [.ref 58, .int (v2 - 10)]) (rest := []) rfl rfl rfl (Nat.le_of_ble_eq_true rfl) H (fun x6 M5 H => ?_)
      show pu_R L (d + 9) 219 28 [.ref 58, .int v1, .int v2, mq_un] [.int x6] M5 _
      refine pu_if_ne rfl (fun hc => ?_) (fun hc => ?_)
      · replace H := Eq.mp (if_neg hc) H
        exact H
      · replace H := Eq.mp (if_pos hc) H
        refine pu_go 4 (pc' := 36) (ls' := [.ref 58, .int v1, .int v2, mq_un]) (st' := [.int (v2 - 30), .ref 58]) (M' := M5) rfl ?_
        refine pu_callI (m' := 164) (ml := 2) (as := [.ref 58, .int (v2 - 30)]) (rest := []) rfl rfl rfl (Nat.le_of_ble_eq_true rfl) H (fun x8 M7 H => ?_)
        show pu_R L (d + 9) 219 39 [.ref 58, .int v1, .int v2, mq_un] [.int x8] M7 _
        refine pu_if_ne rfl (fun hc => ?_) (fun hc => ?_)
        · replace H := Eq.mp (if_neg hc) H
          exact H
        · replace H := Eq.mp (if_pos hc) H
          refine pu_go 1 (pc' := 43) (ls' := [.ref 58, .int v1, .int v2, mq_un]) (st' := [.int ((-1))]) (M' := M7) rfl ?_
          exact pu_ret rfl rfl ⟨_, rfl, H⟩
/-! m_rankOf (I)I -/
set_option maxRecDepth 20000 in
theorem r_m_rankOf_4 {L d : Nat} {M : pu_M} {Q : Int32 → pu_M → Prop} {v1 : Int32} {v2 : Int32} {v3 : Int32} (H : (if 16 ≤ v3 then Q v2 M else pu_I L (d + 2) 164 [.ref 58, .int v3] M (fun x2 M1 => (if x2 = 0 then pu_R L (d + 3) 220 4 [.ref 58, .int v1, .int v2, .int (v3 + 1)] [] M1 (pu_qI Q) else (mq_inb (32 + v3) 66 = true ∧ (mq_inb (32 + v1) 66 = true ∧ (if (M1 59 (32 + v1 : Int32).toNatClampNeg) < (M1 59 (32 + v3 : Int32).toNatClampNeg) then pu_R L (d + 3) 220 4 [.ref 58, .int v1, .int (v2 + 1), .int (v3 + 1)] [] M1 (pu_qI Q) else (mq_inb (32 + v3) 66 = true ∧ (mq_inb (32 + v1) 66 = true ∧ (if (M1 59 (32 + v3 : Int32).toNatClampNeg) = (M1 59 (32 + v1 : Int32).toNatClampNeg) then (if v1 ≤ v3 then pu_R L (d + 3) 220 4 [.ref 58, .int v1, .int v2, .int (v3 + 1)] [] M1 (pu_qI Q) else pu_R L (d + 3) 220 4 [.ref 58, .int v1, .int (v2 + 1), .int (v3 + 1)] [] M1 (pu_qI Q)) else pu_R L (d + 3) 220 4 [.ref 58, .int v1, .int v2, .int (v3 + 1)] [] M1 (pu_qI Q))))))))))) : pu_R L (d + 3) 220 4 [.ref 58, .int v1, .int v2, .int v3] [] M (pu_qI Q) := by
  refine pu_go 2 (pc' := 7) (ls' := [.ref 58, .int v1, .int v2, .int v3]) (st' := [.int 16, .int v3]) (M' := M) rfl ?_
  refine pu_icmp_ge rfl (fun hc => ?_) (fun hc => ?_)
  · replace H := Eq.mp (if_pos hc) H
    refine pu_go 1 (pc' := 76) (ls' := [.ref 58, .int v1, .int v2, .int v3]) (st' := [.int v2]) (M' := M) rfl ?_
    exact pu_ret rfl rfl ⟨_, rfl, H⟩
  · replace H := Eq.mp (if_neg hc) H
    refine pu_go 2 (pc' := 12) (ls' := [.ref 58, .int v1, .int v2, .int v3]) (st' := [.int v3, .ref 58]) (M' := M) rfl ?_
    refine pu_callI (m' := 164) (ml := 2) (as := [.ref 58, .int v3]) (rest := []) rfl rfl rfl (Nat.le_of_ble_eq_true rfl) H (fun x2 M1 H => ?_)
    show pu_R L (d + 3) 220 15 [.ref 58, .int v1, .int v2, .int v3] [.int x2] M1 _
    refine pu_if_eq rfl (fun hc => ?_) (fun hc => ?_)
    · replace H := Eq.mp (if_pos hc) H
      refine pu_go 2 (pc' := 4) (ls' := [.ref 58, .int v1, .int v2, .int (v3 + 1)]) (st' := []) (M' := M1) rfl ?_
      exact H
    · replace H := Eq.mp (if_neg hc) H
      refine pu_go 5 (pc' := 26) (ls' := [.ref 58, .int v1, .int v2, .int v3]) (st' := [.int (32 + v3), .ref 59]) (M' := M1) rfl ?_
      obtain ⟨hb3, H⟩ := H
      refine pu_iald rfl rfl (Or.inl (by decide)) hb3 ?_
      refine pu_go 5 (pc' := 35) (ls' := [.ref 58, .int v1, .int v2, .int v3]) (st' := [.int (32 + v1), .ref 59, .int (M1 59 (32 + v3 : Int32).toNatClampNeg)]) (M' := M1) rfl ?_
      obtain ⟨hb4, H⟩ := H
      refine pu_iald rfl rfl (Or.inl (by decide)) hb4 ?_
      refine pu_icmp_gt rfl (fun hc => ?_) (fun hc => ?_)
      · replace H := Eq.mp (if_pos hc) H
        refine pu_go 6 (pc' := 4) (ls' := [.ref 58, .int v1, .int (v2 + 1), .int (v3 + 1)]) (st' := []) (M' := M1) rfl ?_
        exact H
      · replace H := Eq.mp (if_neg hc) H
        refine pu_go 5 (pc' := 47) (ls' := [.ref 58, .int v1, .int v2, .int v3]) (st' := [.int (32 + v3), .ref 59]) (M' := M1) rfl ?_
        obtain ⟨hb5, H⟩ := H
        refine pu_iald rfl rfl (Or.inl (by decide)) hb5 ?_
        refine pu_go 5 (pc' := 56) (ls' := [.ref 58, .int v1, .int v2, .int v3]) (st' := [.int (32 + v1), .ref 59, .int (M1 59 (32 + v3 : Int32).toNatClampNeg)]) (M' := M1) rfl ?_
        obtain ⟨hb6, H⟩ := H
        refine pu_iald rfl rfl (Or.inl (by decide)) hb6 ?_
        refine pu_icmp_ne rfl (fun hc => ?_) (fun hc => ?_)
        · replace H := Eq.mp (if_neg hc) H
          refine pu_go 2 (pc' := 4) (ls' := [.ref 58, .int v1, .int v2, .int (v3 + 1)]) (st' := []) (M' := M1) rfl ?_
          exact H
        · replace H := Eq.mp (if_pos hc) H
          refine pu_go 2 (pc' := 62) (ls' := [.ref 58, .int v1, .int v2, .int v3]) (st' := [.int v1, .int v3]) (M' := M1) rfl ?_
          refine pu_icmp_ge rfl (fun hc => ?_) (fun hc => ?_)
          · replace H := Eq.mp (if_pos hc) H
            refine pu_go 2 (pc' := 4) (ls' := [.ref 58, .int v1, .int v2, .int (v3 + 1)]) (st' := []) (M' := M1) rfl ?_
            exact H
          · replace H := Eq.mp (if_neg hc) H
            refine pu_go 6 (pc' := 4) (ls' := [.ref 58, .int v1, .int (v2 + 1), .int (v3 + 1)]) (st' := []) (M' := M1) rfl ?_
            exact H
set_option maxRecDepth 20000 in
theorem r_m_rankOf {L d : Nat} {M : pu_M} {Q : Int32 → pu_M → Prop} {v1 : Int32} (H : pu_R L (d + 3) 220 4 [.ref 58, .int v1, .int 0, .int 0] [] M (pu_qI Q)) : pu_I L (d + 3) 220 [.ref 58, .int v1] M Q := by
  show pu_R L (d + 3) 220 0 [.ref 58, .int v1, mq_un, mq_un] [] M (pu_qI Q)
  refine pu_go 4 (pc' := 4) (ls' := [.ref 58, .int v1, .int 0, .int 0]) (st' := []) (M' := M) rfl ?_
  exact H
/-! m_personIs (II)I -/
set_option maxRecDepth 20000 in
theorem r_m_personIs {L d : Nat} {M : pu_M} {Q : Int32 → pu_M → Prop} {v1 : Int32} {v2 : Int32} (H : pu_I L (d + 4) 164 [.ref 58, .int v1] M (fun x2 M1 => (if x2 = 0 then Q ((-1)) M1 else (if v2 = 0 then (mq_inb (16 + v1) 66 = true ∧ Q (M1 59 (16 + v1 : Int32).toNatClampNeg) M1) else (if v2 = 1 then (mq_inb (32 + v1) 66 = true ∧ Q (M1 59 (32 + v1 : Int32).toNatClampNeg) M1) else (if v2 = 2 then (mq_inb (48 + v1) 66 = true ∧ Q (M1 59 (48 + v1 : Int32).toNatClampNeg) M1) else (if v2 = 3 then pu_I L (d + 4) 171 [.ref 58, .int v1] M1 (fun x7 M6 => Q x7 M6) else (if v2 = 4 then pu_I L (d + 4) 220 [.ref 58, .int v1] M1 (fun x9 M8 => Q x9 M8) else Q ((-1)) M1)))))))) : pu_I L (d + 5) 221 [.ref 58, .int v1, .int v2] M Q := by
  show pu_R L (d + 5) 221 0 [.ref 58, .int v1, .int v2] [] M (pu_qI Q)
  refine pu_go 2 (pc' := 2) (ls' := [.ref 58, .int v1, .int v2]) (st' := [.int v1, .ref 58]) (M' := M) rfl ?_
  refine pu_callI (m' := 164) (ml := 2) (as := [.ref 58, .int v1]) (rest := []) rfl rfl rfl (Nat.le_of_ble_eq_true rfl) H (fun x2 M1 H => ?_)
  show pu_R L (d + 5) 221 5 [.ref 58, .int v1, .int v2] [.int x2] M1 _
  refine pu_if_ne rfl (fun hc => ?_) (fun hc => ?_)
  · replace H := Eq.mp (if_neg hc) H
    refine pu_go 1 (pc' := 11) (ls' := [.ref 58, .int v1, .int v2]) (st' := [.int v2]) (M' := M1) rfl ?_
    skip
    by_cases hs11_0 : v2 = 0
    · replace H := Eq.mp (if_pos hs11_0) H
      refine pu_one (pc' := 44) (ls' := [.ref 58, .int v1, .int v2]) (st' := []) (M' := M1) rfl (by rw [hs11_0]; rfl) ?_
      refine pu_go 5 (pc' := 52) (ls' := [.ref 58, .int v1, .int v2]) (st' := [.int (16 + v1), .ref 59]) (M' := M1) rfl ?_
      obtain ⟨hb3, H⟩ := H
      refine pu_iald rfl rfl (Or.inl (by decide)) hb3 ?_
      exact pu_ret rfl rfl ⟨_, rfl, H⟩
    replace H := Eq.mp (if_neg hs11_0) H
    by_cases hs11_1 : v2 = 1
    · replace H := Eq.mp (if_pos hs11_1) H
      refine pu_one (pc' := 54) (ls' := [.ref 58, .int v1, .int v2]) (st' := []) (M' := M1) rfl (by rw [hs11_1]; rfl) ?_
      refine pu_go 5 (pc' := 62) (ls' := [.ref 58, .int v1, .int v2]) (st' := [.int (32 + v1), .ref 59]) (M' := M1) rfl ?_
      obtain ⟨hb4, H⟩ := H
      refine pu_iald rfl rfl (Or.inl (by decide)) hb4 ?_
      exact pu_ret rfl rfl ⟨_, rfl, H⟩
    replace H := Eq.mp (if_neg hs11_1) H
    by_cases hs11_2 : v2 = 2
    · replace H := Eq.mp (if_pos hs11_2) H
      refine pu_one (pc' := 64) (ls' := [.ref 58, .int v1, .int v2]) (st' := []) (M' := M1) rfl (by rw [hs11_2]; rfl) ?_
      refine pu_go 5 (pc' := 72) (ls' := [.ref 58, .int v1, .int v2]) (st' := [.int (48 + v1), .ref 59]) (M' := M1) rfl ?_
      obtain ⟨hb5, H⟩ := H
      refine pu_iald rfl rfl (Or.inl (by decide)) hb5 ?_
      exact pu_ret rfl rfl ⟨_, rfl, H⟩
    replace H := Eq.mp (if_neg hs11_2) H
    by_cases hs11_3 : v2 = 3
    · replace H := Eq.mp (if_pos hs11_3) H
      refine pu_one (pc' := 74) (ls' := [.ref 58, .int v1, .int v2]) (st' := []) (M' := M1) rfl (by rw [hs11_3]; rfl) ?_
      refine pu_go 2 (pc' := 76) (ls' := [.ref 58, .int v1, .int v2]) (st' := [.int v1, .ref 58]) (M' := M1) rfl ?_
      refine pu_callI (m' := 171) (ml := 4) (as := [.ref 58, .int v1]) (rest := []) rfl rfl rfl (Nat.le_of_ble_eq_true rfl) H (fun x7 M6 H => ?_)
      show pu_R L (d + 5) 221 79 [.ref 58, .int v1, .int v2] [.int x7] M6 _
      exact pu_ret rfl rfl ⟨_, rfl, H⟩
    replace H := Eq.mp (if_neg hs11_3) H
    by_cases hs11_4 : v2 = 4
    · replace H := Eq.mp (if_pos hs11_4) H
      refine pu_one (pc' := 80) (ls' := [.ref 58, .int v1, .int v2]) (st' := []) (M' := M1) rfl (by rw [hs11_4]; rfl) ?_
      refine pu_go 2 (pc' := 82) (ls' := [.ref 58, .int v1, .int v2]) (st' := [.int v1, .ref 58]) (M' := M1) rfl ?_
      refine pu_callI (m' := 220) (ml := 4) (as := [.ref 58, .int v1]) (rest := []) rfl rfl rfl (Nat.le_of_ble_eq_true rfl) H (fun x9 M8 H => ?_)
      show pu_R L (d + 5) 221 85 [.ref 58, .int v1, .int v2] [.int x9] M8 _
      exact pu_ret rfl rfl ⟨_, rfl, H⟩
    replace H := Eq.mp (if_neg hs11_4) H
    refine pu_one (pc' := 86) (ls' := [.ref 58, .int v1, .int v2]) (st' := []) (M' := M1) rfl (congrArg (fun z => mq_nx z _ _ _) (pu_tabD [0, 1, 2, 3, 4] (by simp only [List.forall_mem_cons, List.not_mem_nil, false_implies, implies_true, and_true]; exact ⟨hs11_0, hs11_1, hs11_2, hs11_3, hs11_4⟩) (by decide))) ?_
    refine pu_go 1 (pc' := 87) (ls' := [.ref 58, .int v1, .int v2]) (st' := [.int ((-1))]) (M' := M1) rfl ?_
    exact pu_ret rfl rfl ⟨_, rfl, H⟩
  · replace H := Eq.mp (if_pos hc) H
    refine pu_go 1 (pc' := 9) (ls' := [.ref 58, .int v1, .int v2]) (st' := [.int ((-1))]) (M' := M1) rfl ?_
    exact pu_ret rfl rfl ⟨_, rfl, H⟩
/-! m_talk (II)I -/
set_option maxRecDepth 20000 in
theorem r_m_talk {L d : Nat} {M : pu_M} {Q : Int32 → pu_M → Prop} {v1 : Int32} {v2 : Int32} (H : pu_I L (d + 3) 164 [.ref 58, .int v1] M (fun x2 M1 => (if x2 = 0 then Q ((-1000)) M1 else pu_I L (d + 3) 164 [.ref 58, .int v2] M1 (fun x4 M3 => (if x4 = 0 then Q ((-1000)) M3 else (if v1 = v2 then Q ((-1000)) M3 else pu_I L (d + 3) 173 [.ref 58, .int v1, .int v2] M3 (fun x6 M5 => Q x6 M5))))))) : pu_I L (d + 4) 222 [.ref 58, .int v1, .int v2] M Q := by
  show pu_R L (d + 4) 222 0 [.ref 58, .int v1, .int v2] [] M (pu_qI Q)
  refine pu_go 2 (pc' := 2) (ls' := [.ref 58, .int v1, .int v2]) (st' := [.int v1, .ref 58]) (M' := M) rfl ?_
  refine pu_callI (m' := 164) (ml := 2) (as := [.ref 58, .int v1]) (rest := []) rfl rfl rfl (Nat.le_of_ble_eq_true rfl) H (fun x2 M1 H => ?_)
  show pu_R L (d + 4) 222 5 [.ref 58, .int v1, .int v2] [.int x2] M1 _
  refine pu_if_eq rfl (fun hc => ?_) (fun hc => ?_)
  · replace H := Eq.mp (if_pos hc) H
    refine pu_go 1 (pc' := 33) (ls' := [.ref 58, .int v1, .int v2]) (st' := [.int ((-1000))]) (M' := M1) rfl ?_
    exact pu_ret rfl rfl ⟨_, rfl, H⟩
  · replace H := Eq.mp (if_neg hc) H
    refine pu_go 2 (pc' := 10) (ls' := [.ref 58, .int v1, .int v2]) (st' := [.int v2, .ref 58]) (M' := M1) rfl ?_
    refine pu_callI (m' := 164) (ml := 2) (as := [.ref 58, .int v2]) (rest := []) rfl rfl rfl (Nat.le_of_ble_eq_true rfl) H (fun x4 M3 H => ?_)
    show pu_R L (d + 4) 222 13 [.ref 58, .int v1, .int v2] [.int x4] M3 _
    refine pu_if_eq rfl (fun hc => ?_) (fun hc => ?_)
    · replace H := Eq.mp (if_pos hc) H
      refine pu_go 1 (pc' := 33) (ls' := [.ref 58, .int v1, .int v2]) (st' := [.int ((-1000))]) (M' := M3) rfl ?_
      exact pu_ret rfl rfl ⟨_, rfl, H⟩
    · replace H := Eq.mp (if_neg hc) H
      refine pu_go 2 (pc' := 18) (ls' := [.ref 58, .int v1, .int v2]) (st' := [.int v2, .int v1]) (M' := M3) rfl ?_
      refine pu_icmp_eq rfl (fun hc => ?_) (fun hc => ?_)
      · replace H := Eq.mp (if_pos hc) H
        refine pu_go 1 (pc' := 33) (ls' := [.ref 58, .int v1, .int v2]) (st' := [.int ((-1000))]) (M' := M3) rfl ?_
        exact pu_ret rfl rfl ⟨_, rfl, H⟩
      · replace H := Eq.mp (if_neg hc) H
        refine pu_go 3 (pc' := 24) (ls' := [.ref 58, .int v1, .int v2]) (st' := [.int v2, .int v1, .ref 58]) (M' := M3) rfl ?_
        refine pu_callI (m' := 173) (ml := 3) (as := [.ref 58, .int v1, .int v2]) (rest := []) rfl rfl rfl (Nat.le_of_ble_eq_true rfl) H (fun x6 M5 H => ?_)
        show pu_R L (d + 4) 222 27 [.ref 58, .int v1, .int v2] [.int x6] M5 _
        refine pu_go 1 (pc' := 33) (ls' := [.ref 58, .int v1, .int v2]) (st' := [.int x6]) (M' := M5) rfl ?_
        exact pu_ret rfl rfl ⟨_, rfl, H⟩
