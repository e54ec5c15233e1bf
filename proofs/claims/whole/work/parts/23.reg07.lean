/-! m_readsSum ()Z -/
set_option maxRecDepth 20000 in
theorem r_m_readsSum_138 {L d : Nat} {M : pu_M} {Q : Int32 → pu_M → Prop} {v1 : Int32} {v2 : Int32} (H : pu_I L (d + 4) 190 [.ref 58, .int v1] M (fun x2 M1 => (if x2 = 0 then pu_V L (d + 4) 188 [.ref 58, .int 1] M1 (fun M3 => Q 1 M3) else pu_I L (d + 4) 180 [.ref 58, .int 1, .int (M1 58 5)] M1 (fun x5 M4 => ((x5 = 0 ∨ x5 = 1) ∧ Q x5 M4))))) : pu_R L (d + 5) 191 138 [.ref 58, .int v1, .int v2] [] M (pu_qI Q) := by
  refine pu_go 2 (pc' := 140) (ls' := [.ref 58, .int v1, .int v2]) (st' := [.int v1, .ref 58]) (M' := M) rfl ?_
  refine pu_callI (m' := 190) (ml := 3) (as := [.ref 58, .int v1]) (rest := []) rfl rfl rfl (Nat.le_of_ble_eq_true rfl) H (fun x2 M1 H => ?_)
  show pu_R L (d + 5) 191 143 [.ref 58, .int v1, .int v2] [.int x2] M1 _
  refine pu_if_eq rfl (fun hc => ?_) (fun hc => ?_)
  · replace H := Eq.mp (if_pos hc) H
    refine pu_go 2 (pc' := 158) (ls' := [.ref 58, .int v1, .int v2]) (st' := [.int 1, .ref 58]) (M' := M1) rfl ?_
    refine pu_callV (m' := 188) (ml := 2) (as := [.ref 58, .int 1]) (rest := []) rfl rfl rfl (Nat.le_of_ble_eq_true rfl) H (fun M3 H => ?_)
    show pu_R L (d + 5) 191 161 [.ref 58, .int v1, .int v2] [] M3 _
    refine pu_go 1 (pc' := 162) (ls' := [.ref 58, .int v1, .int v2]) (st' := [.int 1]) (M' := M3) rfl ?_
    exact pu_ret rfl rfl ⟨_, rfl, H⟩
  · replace H := Eq.mp (if_neg hc) H
    refine pu_go 4 (pc' := 152) (ls' := [.ref 58, .int v1, .int v2]) (st' := [.int (M1 58 5), .int 1, .ref 58]) (M' := M1) rfl ?_
    refine pu_callI (m' := 180) (ml := 3) (as := [.ref 58, .int 1, .int (M1 58 5)]) (rest := []) rfl rfl rfl (Nat.le_of_ble_eq_true rfl) H (fun x5 M4 H => ?_)
    show pu_R L (d + 5) 191 155 [.ref 58, .int v1, .int v2] [.int x5] M4 _
    obtain ⟨hb6, H⟩ := H
    exact pu_retZ rfl hb6 H
set_option maxRecDepth 20000 in
theorem r_m_readsSum_38 {L d : Nat} {M : pu_M} {Q : Int32 → pu_M → Prop} {v1 : Int32} {v2 : Int32} {s1 : Int32} (H : pu_V L (d + 4) 188 [.ref 58, .int s1] M (fun M1 => (mq_inb (M1 58 11) 260 = true ∧ (∀ M3 : pu_M, M3 = pu_wr (pu_wr (pu_wr M1 64 (M1 58 11 : Int32).toNatClampNeg (1048576 * v2)) 58 11 (((pu_wr M1 64 (M1 58 11 : Int32).toNatClampNeg (1048576 * v2)) 58 11) + 1)) 58 5 (((pu_wr (pu_wr M1 64 (M1 58 11 : Int32).toNatClampNeg (1048576 * v2)) 58 11 (((pu_wr M1 64 (M1 58 11 : Int32).toNatClampNeg (1048576 * v2)) 58 11) + 1)) 58 5) + 1) → pu_I L (d + 4) 189 [.ref 58] M3 (fun x6 M5 => (if x6 = 0 then Q 0 M5 else pu_R L (d + 5) 191 14 [.ref 58, .int v1, .int v2] [] M5 (pu_qI Q))))))) : pu_R L (d + 5) 191 38 [.ref 58, .int v1, .int v2] [.int s1, .ref 58] M (pu_qI Q) := by
  refine pu_callV (m' := 188) (ml := 2) (as := [.ref 58, .int s1]) (rest := []) rfl rfl rfl (Nat.le_of_ble_eq_true rfl) H (fun M1 H => ?_)
  show pu_R L (d + 5) 191 41 [.ref 58, .int v1, .int v2] [] M1 _
  refine pu_go 7 (pc' := 53) (ls' := [.ref 58, .int v1, .int v2]) (st' := [.int (1048576 * v2), .int (M1 58 11), .ref 64]) (M' := M1) rfl ?_
  obtain ⟨hb2, H⟩ := H
  refine pu_iast rfl rfl (by decide) hb2 ?_
  refine pu_go 5 (pc' := 61) (ls' := [.ref 58, .int v1, .int v2]) (st' := [.int (((pu_wr M1 64 (M1 58 11 : Int32).toNatClampNeg (1048576 * v2)) 58 11) + 1), .ref 58]) (M' := pu_wr M1 64 (M1 58 11 : Int32).toNatClampNeg (1048576 * v2)) rfl ?_
  refine pu_putf (j := 11) (z := ((pu_wr M1 64 (M1 58 11 : Int32).toNatClampNeg (1048576 * v2)) 58 11) + 1) rfl rfl (by decide) rfl (by decide) rfl rfl pu_put_hw ?_
  refine pu_go 5 (pc' := 71) (ls' := [.ref 58, .int v1, .int v2]) (st' := [.int (((pu_wr (pu_wr M1 64 (M1 58 11 : Int32).toNatClampNeg (1048576 * v2)) 58 11 (((pu_wr M1 64 (M1 58 11 : Int32).toNatClampNeg (1048576 * v2)) 58 11) + 1)) 58 5) + 1), .ref 58]) (M' := pu_wr (pu_wr M1 64 (M1 58 11 : Int32).toNatClampNeg (1048576 * v2)) 58 11 (((pu_wr M1 64 (M1 58 11 : Int32).toNatClampNeg (1048576 * v2)) 58 11) + 1)) rfl ?_
  refine pu_putf (j := 5) (z := ((pu_wr (pu_wr M1 64 (M1 58 11 : Int32).toNatClampNeg (1048576 * v2)) 58 11 (((pu_wr M1 64 (M1 58 11 : Int32).toNatClampNeg (1048576 * v2)) 58 11) + 1)) 58 5) + 1) rfl rfl (by decide) rfl (by decide) rfl rfl pu_put_hw ?_
  refine pu_named (fun M3 eM4 => ?_)
  replace H := H M3 eM4
  refine pu_go 1 (pc' := 75) (ls' := [.ref 58, .int v1, .int v2]) (st' := [.ref 58]) (M' := M3) rfl ?_
  refine pu_callI (m' := 189) (ml := 2) (as := [.ref 58]) (rest := []) rfl rfl rfl (Nat.le_of_ble_eq_true rfl) H (fun x6 M5 H => ?_)
  show pu_R L (d + 5) 191 78 [.ref 58, .int v1, .int v2] [.int x6] M5 _
  refine pu_if_ne rfl (fun hc => ?_) (fun hc => ?_)
  · replace H := Eq.mp (if_neg hc) H
    refine pu_go 1 (pc' := 14) (ls' := [.ref 58, .int v1, .int v2]) (st' := []) (M' := M5) rfl ?_
    exact H
  · replace H := Eq.mp (if_pos hc) H
    refine pu_go 1 (pc' := 82) (ls' := [.ref 58, .int v1, .int v2]) (st' := [.int 0]) (M' := M5) rfl ?_
    exact pu_ret rfl rfl ⟨_, rfl, H⟩
set_option maxRecDepth 20000 in
theorem r_m_readsSum_14 {L d : Nat} {M : pu_M} {Q : Int32 → pu_M → Prop} {v1 : Int32} {v2 : Value} (H : pu_I L (d + 4) 178 [.ref 58] M (fun x2 M1 => pu_I L (d + 4) 187 [.int x2] M1 (fun x4 M3 => (if x4 = ((-1)) then pu_I L (d + 4) 178 [.ref 58] M3 (fun x6 M5 => (if x6 = 93 then pu_I L (d + 4) 190 [.ref 58, .int v1] M5 (fun x8 M7 => (if x8 = 0 then pu_R L (d + 5) 191 138 [.ref 58, .int v1, .int x4] [] M7 (pu_qI Q) else pu_V L (d + 4) 188 [.ref 58, .int 1] M7 (fun M9 => (∀ M10 : pu_M, M10 = pu_wr (pu_wr (pu_wr M9 58 11 ((M9 58 11) - 1)) 58 9 (((pu_wr M9 58 11 ((M9 58 11) - 1)) 58 9) - 1)) 58 5 (((pu_wr (pu_wr M9 58 11 ((M9 58 11) - 1)) 58 9 (((pu_wr M9 58 11 ((M9 58 11) - 1)) 58 9) - 1)) 58 5) + 1) → pu_R L (d + 5) 191 14 [.ref 58, .int v1, .int x4] [] M10 (pu_qI Q))))) else pu_R L (d + 5) 191 138 [.ref 58, .int v1, .int x4] [] M5 (pu_qI Q))) else (if 4 ≤ x4 then pu_R L (d + 5) 191 38 [.ref 58, .int v1, .int x4] [.int 0, .ref 58] M3 (pu_qI Q) else pu_R L (d + 5) 191 38 [.ref 58, .int v1, .int x4] [.int 1, .ref 58] M3 (pu_qI Q)))))) : pu_R L (d + 5) 191 14 [.ref 58, .int v1, v2] [] M (pu_qI Q) := by
  refine pu_go 1 (pc' := 15) (ls' := [.ref 58, .int v1, v2]) (st' := [.ref 58]) (M' := M) rfl ?_
  refine pu_callI (m' := 178) (ml := 1) (as := [.ref 58]) (rest := []) rfl rfl rfl (Nat.le_of_ble_eq_true rfl) H (fun x2 M1 H => ?_)
  show pu_R L (d + 5) 191 18 [.ref 58, .int v1, v2] [.int x2] M1 _
  refine pu_callI (m' := 187) (ml := 1) (as := [.int x2]) (rest := []) rfl rfl rfl (Nat.le_of_ble_eq_true rfl) H (fun x4 M3 H => ?_)
  show pu_R L (d + 5) 191 21 [.ref 58, .int v1, v2] [.int x4] M3 _
  refine pu_go 3 (pc' := 24) (ls' := [.ref 58, .int v1, .int x4]) (st' := [.int ((-1)), .int x4]) (M' := M3) rfl ?_
  refine pu_icmp_eq rfl (fun hc => ?_) (fun hc => ?_)
  · replace H := Eq.mp (if_pos hc) H
    refine pu_go 1 (pc' := 84) (ls' := [.ref 58, .int v1, .int x4]) (st' := [.ref 58]) (M' := M3) rfl ?_
    refine pu_callI (m' := 178) (ml := 1) (as := [.ref 58]) (rest := []) rfl rfl rfl (Nat.le_of_ble_eq_true rfl) H (fun x6 M5 H => ?_)
    show pu_R L (d + 5) 191 87 [.ref 58, .int v1, .int x4] [.int x6] M5 _
    refine pu_go 1 (pc' := 89) (ls' := [.ref 58, .int v1, .int x4]) (st' := [.int 93, .int x6]) (M' := M5) rfl ?_
    refine pu_icmp_ne rfl (fun hc => ?_) (fun hc => ?_)
    · replace H := Eq.mp (if_neg hc) H
      exact H
    · replace H := Eq.mp (if_pos hc) H
      refine pu_go 2 (pc' := 94) (ls' := [.ref 58, .int v1, .int x4]) (st' := [.int v1, .ref 58]) (M' := M5) rfl ?_
      refine pu_callI (m' := 190) (ml := 3) (as := [.ref 58, .int v1]) (rest := []) rfl rfl rfl (Nat.le_of_ble_eq_true rfl) H (fun x8 M7 H => ?_)
      show pu_R L (d + 5) 191 97 [.ref 58, .int v1, .int x4] [.int x8] M7 _
      refine pu_if_eq rfl (fun hc => ?_) (fun hc => ?_)
      · replace H := Eq.mp (if_pos hc) H
        exact H
      · replace H := Eq.mp (if_neg hc) H
        refine pu_go 2 (pc' := 102) (ls' := [.ref 58, .int v1, .int x4]) (st' := [.int 1, .ref 58]) (M' := M7) rfl ?_
        refine pu_callV (m' := 188) (ml := 2) (as := [.ref 58, .int 1]) (rest := []) rfl rfl rfl (Nat.le_of_ble_eq_true rfl) H (fun M9 H => ?_)
        show pu_R L (d + 5) 191 105 [.ref 58, .int v1, .int x4] [] M9 _
        refine pu_go 5 (pc' := 112) (ls' := [.ref 58, .int v1, .int x4]) (st' := [.int ((M9 58 11) - 1), .ref 58]) (M' := M9) rfl ?_
        refine pu_putf (j := 11) (z := (M9 58 11) - 1) rfl rfl (by decide) rfl (by decide) rfl rfl pu_put_hw ?_
        refine pu_go 5 (pc' := 122) (ls' := [.ref 58, .int v1, .int x4]) (st' := [.int (((pu_wr M9 58 11 ((M9 58 11) - 1)) 58 9) - 1), .ref 58]) (M' := pu_wr M9 58 11 ((M9 58 11) - 1)) rfl ?_
        refine pu_putf (j := 9) (z := ((pu_wr M9 58 11 ((M9 58 11) - 1)) 58 9) - 1) rfl rfl (by decide) rfl (by decide) rfl rfl pu_put_hw ?_
        refine pu_go 5 (pc' := 132) (ls' := [.ref 58, .int v1, .int x4]) (st' := [.int (((pu_wr (pu_wr M9 58 11 ((M9 58 11) - 1)) 58 9 (((pu_wr M9 58 11 ((M9 58 11) - 1)) 58 9) - 1)) 58 5) + 1), .ref 58]) (M' := pu_wr (pu_wr M9 58 11 ((M9 58 11) - 1)) 58 9 (((pu_wr M9 58 11 ((M9 58 11) - 1)) 58 9) - 1)) rfl ?_
        refine pu_putf (j := 5) (z := ((pu_wr (pu_wr M9 58 11 ((M9 58 11) - 1)) 58 9 (((pu_wr M9 58 11 ((M9 58 11) - 1)) 58 9) - 1)) 58 5) + 1) rfl rfl (by decide) rfl (by decide) rfl rfl pu_put_hw ?_
        refine pu_named (fun M10 eM11 => ?_)
        replace H := H M10 eM11
        refine pu_go 2 (pc' := 14) (ls' := [.ref 58, .int v1, .int x4]) (st' := []) (M' := M10) rfl ?_
        exact H
  · replace H := Eq.mp (if_neg hc) H
    refine pu_go 3 (pc' := 30) (ls' := [.ref 58, .int v1, .int x4]) (st' := [.int 4, .int x4, .ref 58]) (M' := M3) rfl ?_
    refine pu_icmp_ge rfl (fun hc => ?_) (fun hc => ?_)
    · replace H := Eq.mp (if_pos hc) H
      refine pu_go 1 (pc' := 38) (ls' := [.ref 58, .int v1, .int x4]) (st' := [.int 0, .ref 58]) (M' := M3) rfl ?_
      exact H
    · replace H := Eq.mp (if_neg hc) H
      refine pu_go 2 (pc' := 38) (ls' := [.ref 58, .int v1, .int x4]) (st' := [.int 1, .ref 58]) (M' := M3) rfl ?_
      exact H
set_option maxRecDepth 20000 in
theorem r_m_readsSum {L d : Nat} {M : pu_M} {Q : Int32 → pu_M → Prop}  (H : pu_I L (d + 4) 189 [.ref 58] M (fun x2 M1 => (if x2 = 0 then Q 0 M1 else pu_R L (d + 5) 191 14 [.ref 58, .int (M 58 11), mq_un] [] M1 (pu_qI Q)))) : pu_I L (d + 5) 191 [.ref 58] M Q := by
  show pu_R L (d + 5) 191 0 [.ref 58, mq_un, mq_un] [] M (pu_qI Q)
  refine pu_go 4 (pc' := 6) (ls' := [.ref 58, .int (M 58 11), mq_un]) (st' := [.ref 58]) (M' := M) rfl ?_
  refine pu_callI (m' := 189) (ml := 2) (as := [.ref 58]) (rest := []) rfl rfl rfl (Nat.le_of_ble_eq_true rfl) H (fun x2 M1 H => ?_)
  show pu_R L (d + 5) 191 9 [.ref 58, .int (M 58 11), mq_un] [.int x2] M1 _
  refine pu_if_ne rfl (fun hc => ?_) (fun hc => ?_)
  · replace H := Eq.mp (if_neg hc) H
    exact H
  · replace H := Eq.mp (if_pos hc) H
    refine pu_go 1 (pc' := 13) (ls' := [.ref 58, .int (M 58 11), mq_un]) (st' := [.int 0]) (M' := M1) rfl ?_
    exact pu_ret rfl rfl ⟨_, rfl, H⟩
/-! m_endsPiece ()V -/
set_option maxRecDepth 20000 in
theorem r_m_endsPiece_0 {L d : Nat} {M : pu_M} {Q : pu_M → Prop}  (H : pu_I L (d + 1) 185 [.ref 58] M (fun x2 M1 => (if x2 = 10 then pu_V L (d + 1) 183 [.ref 58, .int 10, .int 0] M1 (fun M3 => pu_R L (d + 2) 192 0 [.ref 58] [] (pu_wr (pu_wr M3 58 11 ((M3 58 11) - 1)) 58 9 (((pu_wr M3 58 11 ((M3 58 11) - 1)) 58 9) - 1)) (pu_qV Q)) else Q M1))) : pu_R L (d + 2) 192 0 [.ref 58] [] M (pu_qV Q) := by
  show pu_R L (d + 2) 192 0 [.ref 58] [] M (pu_qV Q)
  refine pu_go 1 (pc' := 1) (ls' := [.ref 58]) (st' := [.ref 58]) (M' := M) rfl ?_
  refine pu_callI (m' := 185) (ml := 1) (as := [.ref 58]) (rest := []) rfl rfl rfl (Nat.le_of_ble_eq_true rfl) H (fun x2 M1 H => ?_)
  show pu_R L (d + 2) 192 4 [.ref 58] [.int x2] M1 _
  refine pu_go 1 (pc' := 6) (ls' := [.ref 58]) (st' := [.int 10, .int x2]) (M' := M1) rfl ?_
  refine pu_icmp_ne rfl (fun hc => ?_) (fun hc => ?_)
  · replace H := Eq.mp (if_neg hc) H
    exact pu_ret rfl rfl ⟨rfl, H⟩
  · replace H := Eq.mp (if_pos hc) H
    refine pu_go 3 (pc' := 13) (ls' := [.ref 58]) (st' := [.int 0, .int 10, .ref 58]) (M' := M1) rfl ?_
    refine pu_callV (m' := 183) (ml := 3) (as := [.ref 58, .int 10, .int 0]) (rest := []) rfl rfl rfl (Nat.le_of_ble_eq_true rfl) H (fun M3 H => ?_)
    show pu_R L (d + 2) 192 16 [.ref 58] [] M3 _
    refine pu_go 5 (pc' := 23) (ls' := [.ref 58]) (st' := [.int ((M3 58 11) - 1), .ref 58]) (M' := M3) rfl ?_
    refine pu_putf (j := 11) (z := (M3 58 11) - 1) rfl rfl (by decide) rfl (by decide) rfl rfl pu_put_hw ?_
    refine pu_go 5 (pc' := 33) (ls' := [.ref 58]) (st' := [.int (((pu_wr M3 58 11 ((M3 58 11) - 1)) 58 9) - 1), .ref 58]) (M' := pu_wr M3 58 11 ((M3 58 11) - 1)) rfl ?_
    refine pu_putf (j := 9) (z := ((pu_wr M3 58 11 ((M3 58 11) - 1)) 58 9) - 1) rfl rfl (by decide) rfl (by decide) rfl rfl pu_put_hw ?_
    refine pu_go 1 (pc' := 0) (ls' := [.ref 58]) (st' := []) (M' := pu_wr (pu_wr M3 58 11 ((M3 58 11) - 1)) 58 9 (((pu_wr M3 58 11 ((M3 58 11) - 1)) 58 9) - 1)) rfl ?_
    exact H
set_option maxRecDepth 20000 in
theorem r_m_endsPiece {L d : Nat} {M : pu_M} {Q : pu_M → Prop}  (H : pu_R L (d + 2) 192 0 [.ref 58] [] M (pu_qV Q)) : pu_V L (d + 2) 192 [.ref 58] M Q := H
/-! m_lands (Z)V -/
set_option maxRecDepth 20000 in
theorem r_m_lands_22 {L d : Nat} {M : pu_M} {Q : pu_M → Prop} {v1 : Int32} {v2 : Value} (H : (mq_inb ((M 58 11) - 1) 260 = true ∧ (mq_inb ((M 64 ((M 58 11) - 1 : Int32).toNatClampNeg) % 1048576) 260 = true ∧ (mq_inb ((M 64 ((M 58 11) - 1 : Int32).toNatClampNeg) % 1048576) 260 = true ∧ (∀ M4 : pu_M, M4 = pu_wr M 63 ((M 64 ((M 58 11) - 1 : Int32).toNatClampNeg) % 1048576 : Int32).toNatClampNeg ((1048576 * ((M 63 ((M 64 ((M 58 11) - 1 : Int32).toNatClampNeg) % 1048576 : Int32).toNatClampNeg) / 1048576)) + (M 58 10)) → pu_R L (d + 2) 193 0 [.ref 58, .int v1, .int ((M 64 ((M 58 11) - 1 : Int32).toNatClampNeg) % 1048576)] [] (pu_wr M4 58 11 ((M4 58 11) - 1)) (pu_qV Q)))))) : pu_R L (d + 2) 193 22 [.ref 58, .int v1, v2] [] M (pu_qV Q) := by
  refine pu_go 6 (pc' := 32) (ls' := [.ref 58, .int v1, v2]) (st' := [.int ((M 58 11) - 1), .ref 64]) (M' := M) rfl ?_
  obtain ⟨hb1, H⟩ := H
  refine pu_iald rfl rfl (Or.inl (by decide)) hb1 ?_
  refine pu_go 1 (pc' := 35) (ls' := [.ref 58, .int v1, v2]) (st' := [.int 1048576, .int (M 64 ((M 58 11) - 1 : Int32).toNatClampNeg)]) (M' := M) rfl ?_
  refine pu_rem rfl (by decide) ?_
  refine pu_go 8 (pc' := 49) (ls' := [.ref 58, .int v1, .int ((M 64 ((M 58 11) - 1 : Int32).toNatClampNeg) % 1048576)]) (st' := [.int ((M 64 ((M 58 11) - 1 : Int32).toNatClampNeg) % 1048576), .ref 63, .int 1048576, .int ((M 64 ((M 58 11) - 1 : Int32).toNatClampNeg) % 1048576), .ref 63]) (M' := M) rfl ?_
  obtain ⟨hb2, H⟩ := H
  refine pu_iald rfl rfl (Or.inl (by decide)) hb2 ?_
  refine pu_go 1 (pc' := 52) (ls' := [.ref 58, .int v1, .int ((M 64 ((M 58 11) - 1 : Int32).toNatClampNeg) % 1048576)]) (st' := [.int 1048576, .int (M 63 ((M 64 ((M 58 11) - 1 : Int32).toNatClampNeg) % 1048576 : Int32).toNatClampNeg), .int 1048576, .int ((M 64 ((M 58 11) - 1 : Int32).toNatClampNeg) % 1048576), .ref 63]) (M' := M) rfl ?_
  refine pu_div rfl (by decide) ?_
  refine pu_go 4 (pc' := 59) (ls' := [.ref 58, .int v1, .int ((M 64 ((M 58 11) - 1 : Int32).toNatClampNeg) % 1048576)]) (st' := [.int ((1048576 * ((M 63 ((M 64 ((M 58 11) - 1 : Int32).toNatClampNeg) % 1048576 : Int32).toNatClampNeg) / 1048576)) + (M 58 10)), .int ((M 64 ((M 58 11) - 1 : Int32).toNatClampNeg) % 1048576), .ref 63]) (M' := M) rfl ?_
  obtain ⟨hb3, H⟩ := H
  refine pu_iast rfl rfl (by decide) hb3 ?_
  refine pu_named (fun M4 eM5 => ?_)
  replace H := H M4 eM5
  refine pu_go 5 (pc' := 67) (ls' := [.ref 58, .int v1, .int ((M 64 ((M 58 11) - 1 : Int32).toNatClampNeg) % 1048576)]) (st' := [.int ((M4 58 11) - 1), .ref 58]) (M' := M4) rfl ?_
  refine pu_putf (j := 11) (z := (M4 58 11) - 1) rfl rfl (by decide) rfl (by decide) rfl rfl pu_put_hw ?_
  refine pu_go 1 (pc' := 0) (ls' := [.ref 58, .int v1, .int ((M 64 ((M 58 11) - 1 : Int32).toNatClampNeg) % 1048576)]) (st' := []) (M' := pu_wr M4 58 11 ((M4 58 11) - 1)) rfl ?_
  exact H
set_option maxRecDepth 20000 in
theorem r_m_lands_0 {L d : Nat} {M : pu_M} {Q : pu_M → Prop} {v1 : Int32} {v2 : Value} (H : pu_I L (d + 1) 185 [.ref 58] M (fun x2 M1 => (if x2 = 11 then pu_R L (d + 2) 193 22 [.ref 58, .int v1, v2] [] M1 (pu_qV Q) else (if v1 = 0 then Q M1 else pu_I L (d + 1) 185 [.ref 58] M1 (fun x4 M3 => (if x4 = 12 then pu_R L (d + 2) 193 22 [.ref 58, .int v1, v2] [] M3 (pu_qV Q) else Q M3)))))) : pu_R L (d + 2) 193 0 [.ref 58, .int v1, v2] [] M (pu_qV Q) := by
  show pu_R L (d + 2) 193 0 [.ref 58, .int v1, v2] [] M (pu_qV Q)
  refine pu_go 1 (pc' := 1) (ls' := [.ref 58, .int v1, v2]) (st' := [.ref 58]) (M' := M) rfl ?_
  refine pu_callI (m' := 185) (ml := 1) (as := [.ref 58]) (rest := []) rfl rfl rfl (Nat.le_of_ble_eq_true rfl) H (fun x2 M1 H => ?_)
  show pu_R L (d + 2) 193 4 [.ref 58, .int v1, v2] [.int x2] M1 _
  refine pu_go 1 (pc' := 6) (ls' := [.ref 58, .int v1, v2]) (st' := [.int 11, .int x2]) (M' := M1) rfl ?_
  refine pu_icmp_eq rfl (fun hc => ?_) (fun hc => ?_)
  · replace H := Eq.mp (if_pos hc) H
    exact H
  · replace H := Eq.mp (if_neg hc) H
    refine pu_go 1 (pc' := 10) (ls' := [.ref 58, .int v1, v2]) (st' := [.int v1]) (M' := M1) rfl ?_
    refine pu_if_eq rfl (fun hc => ?_) (fun hc => ?_)
    · replace H := Eq.mp (if_pos hc) H
      exact pu_ret rfl rfl ⟨rfl, H⟩
    · replace H := Eq.mp (if_neg hc) H
      refine pu_go 1 (pc' := 14) (ls' := [.ref 58, .int v1, v2]) (st' := [.ref 58]) (M' := M1) rfl ?_
      refine pu_callI (m' := 185) (ml := 1) (as := [.ref 58]) (rest := []) rfl rfl rfl (Nat.le_of_ble_eq_true rfl) H (fun x4 M3 H => ?_)
      show pu_R L (d + 2) 193 17 [.ref 58, .int v1, v2] [.int x4] M3 _
      refine pu_go 1 (pc' := 19) (ls' := [.ref 58, .int v1, v2]) (st' := [.int 12, .int x4]) (M' := M3) rfl ?_
      refine pu_icmp_ne rfl (fun hc => ?_) (fun hc => ?_)
      · replace H := Eq.mp (if_neg hc) H
        exact pu_ret rfl rfl ⟨rfl, H⟩
      · replace H := Eq.mp (if_pos hc) H
        exact H
set_option maxRecDepth 20000 in
theorem r_m_lands {L d : Nat} {M : pu_M} {Q : pu_M → Prop} {v1 : Int32} (H : pu_R L (d + 2) 193 0 [.ref 58, .int v1, mq_un] [] M (pu_qV Q)) : pu_V L (d + 2) 193 [.ref 58, .int v1] M Q := H
/-! m_jumps (I)V -/
set_option maxRecDepth 20000 in
theorem r_m_jumps {L d : Nat} {M : pu_M} {Q : pu_M → Prop} {v1 : Int32} (H : (mq_inb (M 58 11) 260 = true ∧ (∀ M2 : pu_M, M2 = pu_wr (pu_wr M 64 (M 58 11 : Int32).toNatClampNeg ((1048576 * v1) + (M 58 10))) 58 11 (((pu_wr M 64 (M 58 11 : Int32).toNatClampNeg ((1048576 * v1) + (M 58 10))) 58 11) + 1) → pu_V L (d + 1) 183 [.ref 58, .int v1, .int 0] M2 (fun M4 => Q (pu_wr M4 58 5 ((M4 58 5) + 1)))))) : pu_V L (d + 2) 194 [.ref 58, .int v1] M Q := by
  show pu_R L (d + 2) 194 0 [.ref 58, .int v1] [] M (pu_qV Q)
  refine pu_go 10 (pc' := 17) (ls' := [.ref 58, .int v1]) (st' := [.int ((1048576 * v1) + (M 58 10)), .int (M 58 11), .ref 64]) (M' := M) rfl ?_
  obtain ⟨hb1, H⟩ := H
  refine pu_iast rfl rfl (by decide) hb1 ?_
  refine pu_go 5 (pc' := 25) (ls' := [.ref 58, .int v1]) (st' := [.int (((pu_wr M 64 (M 58 11 : Int32).toNatClampNeg ((1048576 * v1) + (M 58 10))) 58 11) + 1), .ref 58]) (M' := pu_wr M 64 (M 58 11 : Int32).toNatClampNeg ((1048576 * v1) + (M 58 10))) rfl ?_
  refine pu_putf (j := 11) (z := ((pu_wr M 64 (M 58 11 : Int32).toNatClampNeg ((1048576 * v1) + (M 58 10))) 58 11) + 1) rfl rfl (by decide) rfl (by decide) rfl rfl pu_put_hw ?_
  refine pu_named (fun M2 eM3 => ?_)
  replace H := H M2 eM3
  refine pu_go 3 (pc' := 31) (ls' := [.ref 58, .int v1]) (st' := [.int 0, .int v1, .ref 58]) (M' := M2) rfl ?_
  refine pu_callV (m' := 183) (ml := 3) (as := [.ref 58, .int v1, .int 0]) (rest := []) rfl rfl rfl (Nat.le_of_ble_eq_true rfl) H (fun M4 H => ?_)
  show pu_R L (d + 2) 194 34 [.ref 58, .int v1] [] M4 _
  refine pu_go 5 (pc' := 41) (ls' := [.ref 58, .int v1]) (st' := [.int ((M4 58 5) + 1), .ref 58]) (M' := M4) rfl ?_
  refine pu_putf (j := 5) (z := (M4 58 5) + 1) rfl rfl (by decide) rfl (by decide) rfl rfl pu_put_hw ?_
  exact pu_ret rfl rfl ⟨rfl, H⟩
/-! m_readsCompared ()Z -/
set_option maxRecDepth 20000 in
theorem r_m_readsCompared_52 {L d : Nat} {M : pu_M} {Q : Int32 → pu_M → Prop} {s0 : Int32} (H : (if s0 = ((-1)) then pu_I L (d + 5) 180 [.ref 58, .int 1, .int (M 58 5)] M (fun x6 M5 => ((x6 = 0 ∨ x6 = 1) ∧ Q x6 M5)) else pu_I L (d + 5) 191 [.ref 58] (pu_wr M 58 5 ((M 58 5) + 1)) (fun x2 M1 => (if x2 = 0 then Q 0 M1 else pu_V L (d + 5) 183 [.ref 58, .int s0, .int 0] M1 (fun M3 => pu_V L (d + 5) 192 [.ref 58] M3 (fun M4 => Q 1 M4)))))) : pu_R L (d + 6) 195 52 [.ref 58, mq_un] [.int s0] M (pu_qI Q) := by
  refine pu_go 3 (pc' := 55) (ls' := [.ref 58, .int s0]) (st' := [.int ((-1)), .int s0]) (M' := M) rfl ?_
  refine pu_icmp_ne rfl (fun hc => ?_) (fun hc => ?_)
  · replace H := Eq.mp (if_neg hc) H
    refine pu_go 5 (pc' := 75) (ls' := [.ref 58, .int s0]) (st' := [.int ((M 58 5) + 1), .ref 58]) (M' := M) rfl ?_
    refine pu_putf (j := 5) (z := (M 58 5) + 1) rfl rfl (by decide) rfl (by decide) rfl rfl pu_put_hw ?_
    refine pu_go 1 (pc' := 79) (ls' := [.ref 58, .int s0]) (st' := [.ref 58]) (M' := pu_wr M 58 5 ((M 58 5) + 1)) rfl ?_
    refine pu_callI (m' := 191) (ml := 3) (as := [.ref 58]) (rest := []) rfl rfl rfl (Nat.le_of_ble_eq_true rfl) H (fun x2 M1 H => ?_)
    show pu_R L (d + 6) 195 82 [.ref 58, .int s0] [.int x2] M1 _
    refine pu_if_ne rfl (fun hc => ?_) (fun hc => ?_)
    · replace H := Eq.mp (if_neg hc) H
      refine pu_go 3 (pc' := 90) (ls' := [.ref 58, .int s0]) (st' := [.int 0, .int s0, .ref 58]) (M' := M1) rfl ?_
      refine pu_callV (m' := 183) (ml := 3) (as := [.ref 58, .int s0, .int 0]) (rest := []) rfl rfl rfl (Nat.le_of_ble_eq_true rfl) H (fun M3 H => ?_)
      show pu_R L (d + 6) 195 93 [.ref 58, .int s0] [] M3 _
      refine pu_go 1 (pc' := 94) (ls' := [.ref 58, .int s0]) (st' := [.ref 58]) (M' := M3) rfl ?_
      refine pu_callV (m' := 192) (ml := 1) (as := [.ref 58]) (rest := []) rfl rfl rfl (Nat.le_of_ble_eq_true rfl) H (fun M4 H => ?_)
      show pu_R L (d + 6) 195 97 [.ref 58, .int s0] [] M4 _
      refine pu_go 1 (pc' := 98) (ls' := [.ref 58, .int s0]) (st' := [.int 1]) (M' := M4) rfl ?_
      exact pu_ret rfl rfl ⟨_, rfl, H⟩
    · replace H := Eq.mp (if_pos hc) H
      refine pu_go 1 (pc' := 86) (ls' := [.ref 58, .int s0]) (st' := [.int 0]) (M' := M1) rfl ?_
      exact pu_ret rfl rfl ⟨_, rfl, H⟩
  · replace H := Eq.mp (if_pos hc) H
    refine pu_go 4 (pc' := 64) (ls' := [.ref 58, .int s0]) (st' := [.int (M 58 5), .int 1, .ref 58]) (M' := M) rfl ?_
    refine pu_callI (m' := 180) (ml := 3) (as := [.ref 58, .int 1, .int (M 58 5)]) (rest := []) rfl rfl rfl (Nat.le_of_ble_eq_true rfl) H (fun x6 M5 H => ?_)
    show pu_R L (d + 6) 195 67 [.ref 58, .int s0] [.int x6] M5 _
    obtain ⟨hb7, H⟩ := H
    exact pu_retZ rfl hb7 H
set_option maxRecDepth 20000 in
theorem r_m_readsCompared {L d : Nat} {M : pu_M} {Q : Int32 → pu_M → Prop}  (H : pu_I L (d + 5) 191 [.ref 58] M (fun x2 M1 => (if x2 = 0 then Q 0 M1 else pu_I L (d + 5) 178 [.ref 58] M1 (fun x4 M3 => (if x4 = 60 then pu_R L (d + 6) 195 52 [.ref 58, mq_un] [.int 7] M3 (pu_qI Q) else pu_I L (d + 5) 178 [.ref 58] M3 (fun x6 M5 => (if x6 = 62 then pu_R L (d + 6) 195 52 [.ref 58, mq_un] [.int 8] M5 (pu_qI Q) else pu_I L (d + 5) 178 [.ref 58] M5 (fun x8 M7 => (if x8 = 61 then pu_R L (d + 6) 195 52 [.ref 58, mq_un] [.int 9] M7 (pu_qI Q) else pu_R L (d + 6) 195 52 [.ref 58, mq_un] [.int ((-1))] M7 (pu_qI Q)))))))))) : pu_I L (d + 6) 195 [.ref 58] M Q := by
  show pu_R L (d + 6) 195 0 [.ref 58, mq_un] [] M (pu_qI Q)
  refine pu_go 1 (pc' := 1) (ls' := [.ref 58, mq_un]) (st' := [.ref 58]) (M' := M) rfl ?_
  refine pu_callI (m' := 191) (ml := 3) (as := [.ref 58]) (rest := []) rfl rfl rfl (Nat.le_of_ble_eq_true rfl) H (fun x2 M1 H => ?_)
  show pu_R L (d + 6) 195 4 [.ref 58, mq_un] [.int x2] M1 _
  refine pu_if_ne rfl (fun hc => ?_) (fun hc => ?_)
  · replace H := Eq.mp (if_neg hc) H
    refine pu_go 1 (pc' := 10) (ls' := [.ref 58, mq_un]) (st' := [.ref 58]) (M' := M1) rfl ?_
    refine pu_callI (m' := 178) (ml := 1) (as := [.ref 58]) (rest := []) rfl rfl rfl (Nat.le_of_ble_eq_true rfl) H (fun x4 M3 H => ?_)
    show pu_R L (d + 6) 195 13 [.ref 58, mq_un] [.int x4] M3 _
    refine pu_go 1 (pc' := 15) (ls' := [.ref 58, mq_un]) (st' := [.int 60, .int x4]) (M' := M3) rfl ?_
    refine pu_icmp_ne rfl (fun hc => ?_) (fun hc => ?_)
    · replace H := Eq.mp (if_neg hc) H
      refine pu_go 1 (pc' := 24) (ls' := [.ref 58, mq_un]) (st' := [.ref 58]) (M' := M3) rfl ?_
      refine pu_callI (m' := 178) (ml := 1) (as := [.ref 58]) (rest := []) rfl rfl rfl (Nat.le_of_ble_eq_true rfl) H (fun x6 M5 H => ?_)
      show pu_R L (d + 6) 195 27 [.ref 58, mq_un] [.int x6] M5 _
      refine pu_go 1 (pc' := 29) (ls' := [.ref 58, mq_un]) (st' := [.int 62, .int x6]) (M' := M5) rfl ?_
      refine pu_icmp_ne rfl (fun hc => ?_) (fun hc => ?_)
      · replace H := Eq.mp (if_neg hc) H
        refine pu_go 1 (pc' := 38) (ls' := [.ref 58, mq_un]) (st' := [.ref 58]) (M' := M5) rfl ?_
        refine pu_callI (m' := 178) (ml := 1) (as := [.ref 58]) (rest := []) rfl rfl rfl (Nat.le_of_ble_eq_true rfl) H (fun x8 M7 H => ?_)
        show pu_R L (d + 6) 195 41 [.ref 58, mq_un] [.int x8] M7 _
        refine pu_go 1 (pc' := 43) (ls' := [.ref 58, mq_un]) (st' := [.int 61, .int x8]) (M' := M7) rfl ?_
        refine pu_icmp_ne rfl (fun hc => ?_) (fun hc => ?_)
        · replace H := Eq.mp (if_neg hc) H
          refine pu_go 1 (pc' := 52) (ls' := [.ref 58, mq_un]) (st' := [.int ((-1))]) (M' := M7) rfl ?_
          exact H
        · replace H := Eq.mp (if_pos hc) H
          refine pu_go 2 (pc' := 52) (ls' := [.ref 58, mq_un]) (st' := [.int 9]) (M' := M7) rfl ?_
          exact H
      · replace H := Eq.mp (if_pos hc) H
        refine pu_go 2 (pc' := 52) (ls' := [.ref 58, mq_un]) (st' := [.int 8]) (M' := M5) rfl ?_
        exact H
    · replace H := Eq.mp (if_pos hc) H
      refine pu_go 2 (pc' := 52) (ls' := [.ref 58, mq_un]) (st' := [.int 7]) (M' := M3) rfl ?_
      exact H
  · replace H := Eq.mp (if_pos hc) H
    refine pu_go 1 (pc' := 8) (ls' := [.ref 58, mq_un]) (st' := [.int 0]) (M' := M1) rfl ?_
    exact pu_ret rfl rfl ⟨_, rfl, H⟩
/-! m_readsCondition ()Z -/
set_option maxRecDepth 20000 in
theorem r_m_readsCondition_195 {L d : Nat} {M : pu_M} {Q : Int32 → pu_M → Prop} {s1 : Int32} (H : pu_V L (d + 6) 193 [.ref 58, .int s1] M (fun M1 => pu_I L (d + 6) 178 [.ref 58] M1 (fun x3 M2 => (if x3 = 38 then pu_V L (d + 6) 194 [.ref 58, .int 11] M2 (fun M5 => pu_R L (d + 7) 196 40 [.ref 58] [] M5 (pu_qI Q)) else pu_V L (d + 6) 194 [.ref 58, .int 12] M2 (fun M4 => pu_R L (d + 7) 196 40 [.ref 58] [] M4 (pu_qI Q)))))) : pu_R L (d + 7) 196 195 [.ref 58] [.int s1, .ref 58] M (pu_qI Q) := by
  refine pu_callV (m' := 193) (ml := 3) (as := [.ref 58, .int s1]) (rest := []) rfl rfl rfl (Nat.le_of_ble_eq_true rfl) H (fun M1 H => ?_)
  show pu_R L (d + 7) 196 198 [.ref 58] [] M1 _
  refine pu_go 2 (pc' := 200) (ls' := [.ref 58]) (st' := [.ref 58, .ref 58]) (M' := M1) rfl ?_
  refine pu_callI (m' := 178) (ml := 1) (as := [.ref 58]) (rest := [.ref 58]) rfl rfl rfl (Nat.le_of_ble_eq_true rfl) H (fun x3 M2 H => ?_)
  show pu_R L (d + 7) 196 203 [.ref 58] [.int x3, .ref 58] M2 _
  refine pu_go 1 (pc' := 205) (ls' := [.ref 58]) (st' := [.int 38, .int x3, .ref 58]) (M' := M2) rfl ?_
  refine pu_icmp_ne rfl (fun hc => ?_) (fun hc => ?_)
  · replace H := Eq.mp (if_neg hc) H
    refine pu_go 1 (pc' := 215) (ls' := [.ref 58]) (st' := [.int 12, .ref 58]) (M' := M2) rfl ?_
    refine pu_callV (m' := 194) (ml := 2) (as := [.ref 58, .int 12]) (rest := []) rfl rfl rfl (Nat.le_of_ble_eq_true rfl) H (fun M4 H => ?_)
    show pu_R L (d + 7) 196 218 [.ref 58] [] M4 _
    refine pu_go 1 (pc' := 40) (ls' := [.ref 58]) (st' := []) (M' := M4) rfl ?_
    exact H
  · replace H := Eq.mp (if_pos hc) H
    refine pu_go 2 (pc' := 215) (ls' := [.ref 58]) (st' := [.int 11, .ref 58]) (M' := M2) rfl ?_
    refine pu_callV (m' := 194) (ml := 2) (as := [.ref 58, .int 11]) (rest := []) rfl rfl rfl (Nat.le_of_ble_eq_true rfl) H (fun M5 H => ?_)
    show pu_R L (d + 7) 196 218 [.ref 58] [] M5 _
    refine pu_go 1 (pc' := 40) (ls' := [.ref 58]) (st' := []) (M' := M5) rfl ?_
    exact H
set_option maxRecDepth 20000 in
theorem r_m_readsCondition_92 {L d : Nat} {M : pu_M} {Q : Int32 → pu_M → Prop}  (H : pu_I L (d + 6) 178 [.ref 58] M (fun x2 M1 => (if x2 = 41 then pu_V L (d + 6) 193 [.ref 58, .int 1] M1 (fun M14 => (∀ M15 : pu_M, M15 = pu_wr (pu_wr (pu_wr M14 58 11 ((M14 58 11) - 1)) 58 9 (((pu_wr M14 58 11 ((M14 58 11) - 1)) 58 9) - 1)) 58 5 (((pu_wr (pu_wr M14 58 11 ((M14 58 11) - 1)) 58 9 (((pu_wr M14 58 11 ((M14 58 11) - 1)) 58 9) - 1)) 58 5) + 1) → (if (M15 58 11) = 0 then Q 1 M15 else pu_V L (d + 6) 192 [.ref 58] M15 (fun M17 => pu_R L (d + 7) 196 92 [.ref 58] [] M17 (pu_qI Q))))) else pu_I L (d + 6) 178 [.ref 58] M1 (fun x4 M3 => (if x4 = 38 then pu_I L (d + 6) 178 [.ref 58] M3 (fun x6 M5 => (if x6 = 124 then pu_R L (d + 7) 196 195 [.ref 58] [.int 1, .ref 58] M5 (pu_qI Q) else pu_R L (d + 7) 196 195 [.ref 58] [.int 0, .ref 58] M5 (pu_qI Q))) else pu_I L (d + 6) 178 [.ref 58] M3 (fun x8 M7 => (if x8 = 124 then pu_I L (d + 6) 178 [.ref 58] M7 (fun x10 M9 => (if x10 = 124 then pu_R L (d + 7) 196 195 [.ref 58] [.int 1, .ref 58] M9 (pu_qI Q) else pu_R L (d + 7) 196 195 [.ref 58] [.int 0, .ref 58] M9 (pu_qI Q))) else pu_I L (d + 6) 180 [.ref 58, .int 1, .int (M7 58 5)] M7 (fun x12 M11 => ((x12 = 0 ∨ x12 = 1) ∧ Q x12 M11))))))))) : pu_R L (d + 7) 196 92 [.ref 58] [] M (pu_qI Q) := by
  refine pu_go 1 (pc' := 93) (ls' := [.ref 58]) (st' := [.ref 58]) (M' := M) rfl ?_
  refine pu_callI (m' := 178) (ml := 1) (as := [.ref 58]) (rest := []) rfl rfl rfl (Nat.le_of_ble_eq_true rfl) H (fun x2 M1 H => ?_)
  show pu_R L (d + 7) 196 96 [.ref 58] [.int x2] M1 _
  refine pu_go 1 (pc' := 98) (ls' := [.ref 58]) (st' := [.int 41, .int x2]) (M' := M1) rfl ?_
  refine pu_icmp_ne rfl (fun hc => ?_) (fun hc => ?_)
  · replace H := Eq.mp (if_neg hc) H
    refine pu_go 1 (pc' := 153) (ls' := [.ref 58]) (st' := [.ref 58]) (M' := M1) rfl ?_
    refine pu_callI (m' := 178) (ml := 1) (as := [.ref 58]) (rest := []) rfl rfl rfl (Nat.le_of_ble_eq_true rfl) H (fun x4 M3 H => ?_)
    show pu_R L (d + 7) 196 156 [.ref 58] [.int x4] M3 _
    refine pu_go 1 (pc' := 158) (ls' := [.ref 58]) (st' := [.int 38, .int x4]) (M' := M3) rfl ?_
    refine pu_icmp_eq rfl (fun hc => ?_) (fun hc => ?_)
    · replace H := Eq.mp (if_pos hc) H
      refine pu_go 2 (pc' := 182) (ls' := [.ref 58]) (st' := [.ref 58, .ref 58]) (M' := M3) rfl ?_
      refine pu_callI (m' := 178) (ml := 1) (as := [.ref 58]) (rest := [.ref 58]) rfl rfl rfl (Nat.le_of_ble_eq_true rfl) H (fun x6 M5 H => ?_)
      show pu_R L (d + 7) 196 185 [.ref 58] [.int x6, .ref 58] M5 _
      refine pu_go 1 (pc' := 187) (ls' := [.ref 58]) (st' := [.int 124, .int x6, .ref 58]) (M' := M5) rfl ?_
      refine pu_icmp_ne rfl (fun hc => ?_) (fun hc => ?_)
      · replace H := Eq.mp (if_neg hc) H
        refine pu_go 1 (pc' := 195) (ls' := [.ref 58]) (st' := [.int 0, .ref 58]) (M' := M5) rfl ?_
        exact H
      · replace H := Eq.mp (if_pos hc) H
        refine pu_go 2 (pc' := 195) (ls' := [.ref 58]) (st' := [.int 1, .ref 58]) (M' := M5) rfl ?_
        exact H
    · replace H := Eq.mp (if_neg hc) H
      refine pu_go 1 (pc' := 162) (ls' := [.ref 58]) (st' := [.ref 58]) (M' := M3) rfl ?_
      refine pu_callI (m' := 178) (ml := 1) (as := [.ref 58]) (rest := []) rfl rfl rfl (Nat.le_of_ble_eq_true rfl) H (fun x8 M7 H => ?_)
      show pu_R L (d + 7) 196 165 [.ref 58] [.int x8] M7 _
      refine pu_go 1 (pc' := 167) (ls' := [.ref 58]) (st' := [.int 124, .int x8]) (M' := M7) rfl ?_
      refine pu_icmp_eq rfl (fun hc => ?_) (fun hc => ?_)
      · replace H := Eq.mp (if_pos hc) H
        refine pu_go 2 (pc' := 182) (ls' := [.ref 58]) (st' := [.ref 58, .ref 58]) (M' := M7) rfl ?_
        refine pu_callI (m' := 178) (ml := 1) (as := [.ref 58]) (rest := [.ref 58]) rfl rfl rfl (Nat.le_of_ble_eq_true rfl) H (fun x10 M9 H => ?_)
        show pu_R L (d + 7) 196 185 [.ref 58] [.int x10, .ref 58] M9 _
        refine pu_go 1 (pc' := 187) (ls' := [.ref 58]) (st' := [.int 124, .int x10, .ref 58]) (M' := M9) rfl ?_
        refine pu_icmp_ne rfl (fun hc => ?_) (fun hc => ?_)
        · replace H := Eq.mp (if_neg hc) H
          refine pu_go 1 (pc' := 195) (ls' := [.ref 58]) (st' := [.int 0, .ref 58]) (M' := M9) rfl ?_
          exact H
        · replace H := Eq.mp (if_pos hc) H
          refine pu_go 2 (pc' := 195) (ls' := [.ref 58]) (st' := [.int 1, .ref 58]) (M' := M9) rfl ?_
          exact H
      · replace H := Eq.mp (if_neg hc) H
        refine pu_go 4 (pc' := 176) (ls' := [.ref 58]) (st' := [.int (M7 58 5), .int 1, .ref 58]) (M' := M7) rfl ?_
        refine pu_callI (m' := 180) (ml := 3) (as := [.ref 58, .int 1, .int (M7 58 5)]) (rest := []) rfl rfl rfl (Nat.le_of_ble_eq_true rfl) H (fun x12 M11 H => ?_)
        show pu_R L (d + 7) 196 179 [.ref 58] [.int x12] M11 _
        obtain ⟨hb13, H⟩ := H
        exact pu_retZ rfl hb13 H
  · replace H := Eq.mp (if_pos hc) H
    refine pu_go 2 (pc' := 103) (ls' := [.ref 58]) (st' := [.int 1, .ref 58]) (M' := M1) rfl ?_
    refine pu_callV (m' := 193) (ml := 3) (as := [.ref 58, .int 1]) (rest := []) rfl rfl rfl (Nat.le_of_ble_eq_true rfl) H (fun M14 H => ?_)
    show pu_R L (d + 7) 196 106 [.ref 58] [] M14 _
    refine pu_go 5 (pc' := 113) (ls' := [.ref 58]) (st' := [.int ((M14 58 11) - 1), .ref 58]) (M' := M14) rfl ?_
    refine pu_putf (j := 11) (z := (M14 58 11) - 1) rfl rfl (by decide) rfl (by decide) rfl rfl pu_put_hw ?_
    refine pu_go 5 (pc' := 123) (ls' := [.ref 58]) (st' := [.int (((pu_wr M14 58 11 ((M14 58 11) - 1)) 58 9) - 1), .ref 58]) (M' := pu_wr M14 58 11 ((M14 58 11) - 1)) rfl ?_
    refine pu_putf (j := 9) (z := ((pu_wr M14 58 11 ((M14 58 11) - 1)) 58 9) - 1) rfl rfl (by decide) rfl (by decide) rfl rfl pu_put_hw ?_
    refine pu_go 5 (pc' := 133) (ls' := [.ref 58]) (st' := [.int (((pu_wr (pu_wr M14 58 11 ((M14 58 11) - 1)) 58 9 (((pu_wr M14 58 11 ((M14 58 11) - 1)) 58 9) - 1)) 58 5) + 1), .ref 58]) (M' := pu_wr (pu_wr M14 58 11 ((M14 58 11) - 1)) 58 9 (((pu_wr M14 58 11 ((M14 58 11) - 1)) 58 9) - 1)) rfl ?_
    refine pu_putf (j := 5) (z := ((pu_wr (pu_wr M14 58 11 ((M14 58 11) - 1)) 58 9 (((pu_wr M14 58 11 ((M14 58 11) - 1)) 58 9) - 1)) 58 5) + 1) rfl rfl (by decide) rfl (by decide) rfl rfl pu_put_hw ?_
    refine pu_named (fun M15 eM16 => ?_)
    replace H := H M15 eM16
    refine pu_go 2 (pc' := 140) (ls' := [.ref 58]) (st' := [.int (M15 58 11)]) (M' := M15) rfl ?_
    refine pu_if_ne rfl (fun hc => ?_) (fun hc => ?_)
    · replace H := Eq.mp (if_neg hc) H
      refine pu_go 1 (pc' := 146) (ls' := [.ref 58]) (st' := [.ref 58]) (M' := M15) rfl ?_
      refine pu_callV (m' := 192) (ml := 1) (as := [.ref 58]) (rest := []) rfl rfl rfl (Nat.le_of_ble_eq_true rfl) H (fun M17 H => ?_)
      show pu_R L (d + 7) 196 149 [.ref 58] [] M17 _
      refine pu_go 1 (pc' := 92) (ls' := [.ref 58]) (st' := []) (M' := M17) rfl ?_
      exact H
    · replace H := Eq.mp (if_pos hc) H
      refine pu_go 1 (pc' := 144) (ls' := [.ref 58]) (st' := [.int 1]) (M' := M15) rfl ?_
      exact pu_ret rfl rfl ⟨_, rfl, H⟩
set_option maxRecDepth 20000 in
theorem r_m_readsCondition_58 {L d : Nat} {M : pu_M} {Q : Int32 → pu_M → Prop}  (H : pu_I L (d + 6) 178 [.ref 58] M (fun x2 M1 => (if x2 = 33 then pu_I L (d + 6) 184 [.ref 58, .int 10] M1 (fun x6 M5 => (if x6 = 0 then Q 0 M5 else pu_R L (d + 7) 196 40 [.ref 58] [] M5 (pu_qI Q))) else pu_I L (d + 6) 184 [.ref 58, .int 13] M1 (fun x4 M3 => (if x4 = 0 then Q 0 M3 else pu_R L (d + 7) 196 40 [.ref 58] [] M3 (pu_qI Q)))))) : pu_R L (d + 7) 196 58 [.ref 58] [] M (pu_qI Q) := by
  refine pu_go 2 (pc' := 60) (ls' := [.ref 58]) (st' := [.ref 58, .ref 58]) (M' := M) rfl ?_
  refine pu_callI (m' := 178) (ml := 1) (as := [.ref 58]) (rest := [.ref 58]) rfl rfl rfl (Nat.le_of_ble_eq_true rfl) H (fun x2 M1 H => ?_)
  show pu_R L (d + 7) 196 63 [.ref 58] [.int x2, .ref 58] M1 _
  refine pu_go 1 (pc' := 65) (ls' := [.ref 58]) (st' := [.int 33, .int x2, .ref 58]) (M' := M1) rfl ?_
  refine pu_icmp_ne rfl (fun hc => ?_) (fun hc => ?_)
  · replace H := Eq.mp (if_neg hc) H
    refine pu_go 1 (pc' := 75) (ls' := [.ref 58]) (st' := [.int 13, .ref 58]) (M' := M1) rfl ?_
    refine pu_callI (m' := 184) (ml := 2) (as := [.ref 58, .int 13]) (rest := []) rfl rfl rfl (Nat.le_of_ble_eq_true rfl) H (fun x4 M3 H => ?_)
    show pu_R L (d + 7) 196 78 [.ref 58] [.int x4] M3 _
    refine pu_if_ne rfl (fun hc => ?_) (fun hc => ?_)
    · replace H := Eq.mp (if_neg hc) H
      exact H
    · replace H := Eq.mp (if_pos hc) H
      refine pu_go 1 (pc' := 82) (ls' := [.ref 58]) (st' := [.int 0]) (M' := M3) rfl ?_
      exact pu_ret rfl rfl ⟨_, rfl, H⟩
  · replace H := Eq.mp (if_pos hc) H
    refine pu_go 2 (pc' := 75) (ls' := [.ref 58]) (st' := [.int 10, .ref 58]) (M' := M1) rfl ?_
    refine pu_callI (m' := 184) (ml := 2) (as := [.ref 58, .int 10]) (rest := []) rfl rfl rfl (Nat.le_of_ble_eq_true rfl) H (fun x6 M5 H => ?_)
    show pu_R L (d + 7) 196 78 [.ref 58] [.int x6] M5 _
    refine pu_if_ne rfl (fun hc => ?_) (fun hc => ?_)
    · replace H := Eq.mp (if_neg hc) H
      exact H
    · replace H := Eq.mp (if_pos hc) H
      refine pu_go 1 (pc' := 82) (ls' := [.ref 58]) (st' := [.int 0]) (M' := M5) rfl ?_
      exact pu_ret rfl rfl ⟨_, rfl, H⟩
set_option maxRecDepth 20000 in
theorem r_m_readsCondition_40 {L d : Nat} {M : pu_M} {Q : Int32 → pu_M → Prop}  (H : pu_I L (d + 6) 178 [.ref 58] M (fun x2 M1 => (if x2 = 33 then pu_R L (d + 7) 196 58 [.ref 58] [] M1 (pu_qI Q) else pu_I L (d + 6) 178 [.ref 58] M1 (fun x4 M3 => (if x4 = 40 then pu_R L (d + 7) 196 58 [.ref 58] [] M3 (pu_qI Q) else pu_I L (d + 6) 195 [.ref 58] M3 (fun x6 M5 => (if x6 = 0 then Q 0 M5 else pu_R L (d + 7) 196 92 [.ref 58] [] M5 (pu_qI Q)))))))) : pu_R L (d + 7) 196 40 [.ref 58] [] M (pu_qI Q) := by
  refine pu_go 1 (pc' := 41) (ls' := [.ref 58]) (st' := [.ref 58]) (M' := M) rfl ?_
  refine pu_callI (m' := 178) (ml := 1) (as := [.ref 58]) (rest := []) rfl rfl rfl (Nat.le_of_ble_eq_true rfl) H (fun x2 M1 H => ?_)
  show pu_R L (d + 7) 196 44 [.ref 58] [.int x2] M1 _
  refine pu_go 1 (pc' := 46) (ls' := [.ref 58]) (st' := [.int 33, .int x2]) (M' := M1) rfl ?_
  refine pu_icmp_eq rfl (fun hc => ?_) (fun hc => ?_)
  · replace H := Eq.mp (if_pos hc) H
    exact H
  · replace H := Eq.mp (if_neg hc) H
    refine pu_go 1 (pc' := 50) (ls' := [.ref 58]) (st' := [.ref 58]) (M' := M1) rfl ?_
    refine pu_callI (m' := 178) (ml := 1) (as := [.ref 58]) (rest := []) rfl rfl rfl (Nat.le_of_ble_eq_true rfl) H (fun x4 M3 H => ?_)
    show pu_R L (d + 7) 196 53 [.ref 58] [.int x4] M3 _
    refine pu_go 1 (pc' := 55) (ls' := [.ref 58]) (st' := [.int 40, .int x4]) (M' := M3) rfl ?_
    refine pu_icmp_ne rfl (fun hc => ?_) (fun hc => ?_)
    · replace H := Eq.mp (if_neg hc) H
      refine pu_go 1 (pc' := 84) (ls' := [.ref 58]) (st' := [.ref 58]) (M' := M3) rfl ?_
      refine pu_callI (m' := 195) (ml := 2) (as := [.ref 58]) (rest := []) rfl rfl rfl (Nat.le_of_ble_eq_true rfl) H (fun x6 M5 H => ?_)
      show pu_R L (d + 7) 196 87 [.ref 58] [.int x6] M5 _
      refine pu_if_ne rfl (fun hc => ?_) (fun hc => ?_)
      · replace H := Eq.mp (if_neg hc) H
        exact H
      · replace H := Eq.mp (if_pos hc) H
        refine pu_go 1 (pc' := 91) (ls' := [.ref 58]) (st' := [.int 0]) (M' := M5) rfl ?_
        exact pu_ret rfl rfl ⟨_, rfl, H⟩
    · replace H := Eq.mp (if_pos hc) H
      exact H
set_option maxRecDepth 20000 in
theorem r_m_readsCondition {L d : Nat} {M : pu_M} {Q : Int32 → pu_M → Prop}  (H : pu_I L (d + 6) 178 [.ref 58] M (fun x2 M1 => (if x2 = 40 then pu_I L (d + 6) 184 [.ref 58, .int 13] (pu_wr (pu_wr M1 58 9 0) 58 11 0) (fun x4 M3 => (if x4 = 0 then Q 0 M3 else pu_R L (d + 7) 196 40 [.ref 58] [] M3 (pu_qI Q))) else pu_I L (d + 6) 180 [.ref 58, .int 1, .int (M1 58 5)] M1 (fun x6 M5 => ((x6 = 0 ∨ x6 = 1) ∧ Q x6 M5))))) : pu_I L (d + 7) 196 [.ref 58] M Q := by
  show pu_R L (d + 7) 196 0 [.ref 58] [] M (pu_qI Q)
  refine pu_go 1 (pc' := 1) (ls' := [.ref 58]) (st' := [.ref 58]) (M' := M) rfl ?_
  refine pu_callI (m' := 178) (ml := 1) (as := [.ref 58]) (rest := []) rfl rfl rfl (Nat.le_of_ble_eq_true rfl) H (fun x2 M1 H => ?_)
  show pu_R L (d + 7) 196 4 [.ref 58] [.int x2] M1 _
  refine pu_go 1 (pc' := 6) (ls' := [.ref 58]) (st' := [.int 40, .int x2]) (M' := M1) rfl ?_
  refine pu_icmp_eq rfl (fun hc => ?_) (fun hc => ?_)
  · replace H := Eq.mp (if_pos hc) H
    refine pu_go 2 (pc' := 21) (ls' := [.ref 58]) (st' := [.int 0, .ref 58]) (M' := M1) rfl ?_
    refine pu_putf (j := 9) (z := 0) rfl rfl (by decide) rfl (by decide) rfl rfl pu_put_hw ?_
    refine pu_go 2 (pc' := 26) (ls' := [.ref 58]) (st' := [.int 0, .ref 58]) (M' := pu_wr M1 58 9 0) rfl ?_
    refine pu_putf (j := 11) (z := 0) rfl rfl (by decide) rfl (by decide) rfl rfl pu_put_hw ?_
    refine pu_go 2 (pc' := 32) (ls' := [.ref 58]) (st' := [.int 13, .ref 58]) (M' := pu_wr (pu_wr M1 58 9 0) 58 11 0) rfl ?_
    refine pu_callI (m' := 184) (ml := 2) (as := [.ref 58, .int 13]) (rest := []) rfl rfl rfl (Nat.le_of_ble_eq_true rfl) H (fun x4 M3 H => ?_)
    show pu_R L (d + 7) 196 35 [.ref 58] [.int x4] M3 _
    refine pu_if_ne rfl (fun hc => ?_) (fun hc => ?_)
    · replace H := Eq.mp (if_neg hc) H
      exact H
    · replace H := Eq.mp (if_pos hc) H
      refine pu_go 1 (pc' := 39) (ls' := [.ref 58]) (st' := [.int 0]) (M' := M3) rfl ?_
      exact pu_ret rfl rfl ⟨_, rfl, H⟩
  · replace H := Eq.mp (if_neg hc) H
    refine pu_go 4 (pc' := 15) (ls' := [.ref 58]) (st' := [.int (M1 58 5), .int 1, .ref 58]) (M' := M1) rfl ?_
    refine pu_callI (m' := 180) (ml := 3) (as := [.ref 58, .int 1, .int (M1 58 5)]) (rest := []) rfl rfl rfl (Nat.le_of_ble_eq_true rfl) H (fun x6 M5 H => ?_)
    show pu_R L (d + 7) 196 18 [.ref 58] [.int x6] M5 _
    obtain ⟨hb7, H⟩ := H
    exact pu_retZ rfl hb7 H
/-! m_readsRule ()Z -/
set_option maxRecDepth 20000 in
theorem r_m_readsRule_122 {L d : Nat} {M : pu_M} {Q : Int32 → pu_M → Prop} {v1 : Int32} (H : (mq_inb (M 58 12) 16 = true ∧ pu_I L (d + 7) 196 [.ref 58] (pu_wr M 67 (M 58 12 : Int32).toNatClampNeg (M 58 10)) (fun x3 M2 => (if x3 = 0 then Q 0 M2 else (mq_inb (M2 58 12) 16 = true ∧ Q 1 (pu_wr (pu_wr M2 68 (M2 58 12 : Int32).toNatClampNeg (M2 58 10)) 58 12 (((pu_wr M2 68 (M2 58 12 : Int32).toNatClampNeg (M2 58 10)) 58 12) + 1))))))) : pu_R L (d + 8) 197 122 [.ref 58, .int v1] [] M (pu_qI Q) := by
  refine pu_go 6 (pc' := 134) (ls' := [.ref 58, .int v1]) (st' := [.int (M 58 10), .int (M 58 12), .ref 67]) (M' := M) rfl ?_
  obtain ⟨hb1, H⟩ := H
  refine pu_iast rfl rfl (by decide) hb1 ?_
  refine pu_go 1 (pc' := 136) (ls' := [.ref 58, .int v1]) (st' := [.ref 58]) (M' := pu_wr M 67 (M 58 12 : Int32).toNatClampNeg (M 58 10)) rfl ?_
  refine pu_callI (m' := 196) (ml := 1) (as := [.ref 58]) (rest := []) rfl rfl rfl (Nat.le_of_ble_eq_true rfl) H (fun x3 M2 H => ?_)
  show pu_R L (d + 8) 197 139 [.ref 58, .int v1] [.int x3] M2 _
  refine pu_if_ne rfl (fun hc => ?_) (fun hc => ?_)
  · replace H := Eq.mp (if_neg hc) H
    refine pu_go 6 (pc' := 156) (ls' := [.ref 58, .int v1]) (st' := [.int (M2 58 10), .int (M2 58 12), .ref 68]) (M' := M2) rfl ?_
    obtain ⟨hb4, H⟩ := H
    refine pu_iast rfl rfl (by decide) hb4 ?_
    refine pu_go 5 (pc' := 164) (ls' := [.ref 58, .int v1]) (st' := [.int (((pu_wr M2 68 (M2 58 12 : Int32).toNatClampNeg (M2 58 10)) 58 12) + 1), .ref 58]) (M' := pu_wr M2 68 (M2 58 12 : Int32).toNatClampNeg (M2 58 10)) rfl ?_
    refine pu_putf (j := 12) (z := ((pu_wr M2 68 (M2 58 12 : Int32).toNatClampNeg (M2 58 10)) 58 12) + 1) rfl rfl (by decide) rfl (by decide) rfl rfl pu_put_hw ?_
    refine pu_go 1 (pc' := 168) (ls' := [.ref 58, .int v1]) (st' := [.int 1]) (M' := pu_wr (pu_wr M2 68 (M2 58 12 : Int32).toNatClampNeg (M2 58 10)) 58 12 (((pu_wr M2 68 (M2 58 12 : Int32).toNatClampNeg (M2 58 10)) 58 12) + 1)) rfl ?_
    exact pu_ret rfl rfl ⟨_, rfl, H⟩
  · replace H := Eq.mp (if_pos hc) H
    refine pu_go 1 (pc' := 143) (ls' := [.ref 58, .int v1]) (st' := [.int 0]) (M' := M2) rfl ?_
    exact pu_ret rfl rfl ⟨_, rfl, H⟩
set_option maxRecDepth 20000 in
theorem r_m_readsRule_45 {L d : Nat} {M : pu_M} {Q : Int32 → pu_M → Prop} {v1 : Int32} (H : (if (M 58 12) = 16 then pu_I L (d + 7) 180 [.ref 58, .int 4, .int (M 58 5)] M (fun x8 M7 => ((x8 = 0 ∨ x8 = 1) ∧ Q x8 M7)) else (mq_inb (M 58 12) 16 = true ∧ (mq_inb ((pu_wr (pu_wr M 65 (M 58 12 : Int32).toNatClampNeg v1) 58 5 (((pu_wr M 65 (M 58 12 : Int32).toNatClampNeg v1) 58 5) + 1)) 58 12) 16 = true ∧ (∀ M3 : pu_M, M3 = pu_wr (pu_wr (pu_wr M 65 (M 58 12 : Int32).toNatClampNeg v1) 58 5 (((pu_wr M 65 (M 58 12 : Int32).toNatClampNeg v1) 58 5) + 1)) 66 ((pu_wr (pu_wr M 65 (M 58 12 : Int32).toNatClampNeg v1) 58 5 (((pu_wr M 65 (M 58 12 : Int32).toNatClampNeg v1) 58 5) + 1)) 58 12 : Int32).toNatClampNeg ((pu_wr (pu_wr M 65 (M 58 12 : Int32).toNatClampNeg v1) 58 5 (((pu_wr M 65 (M 58 12 : Int32).toNatClampNeg v1) 58 5) + 1)) 58 10) → (if v1 = 113 then pu_R L (d + 8) 197 122 [.ref 58, .int v1] [] (pu_wr (pu_wr M3 58 9 0) 58 11 0) (pu_qI Q) else pu_I L (d + 7) 191 [.ref 58] (pu_wr (pu_wr M3 58 9 0) 58 11 0) (fun x6 M5 => (if x6 = 0 then Q 0 M5 else pu_R L (d + 8) 197 122 [.ref 58, .int v1] [] M5 (pu_qI Q))))))))) : pu_R L (d + 8) 197 45 [.ref 58, .int v1] [] M (pu_qI Q) := by
  refine pu_go 3 (pc' := 51) (ls' := [.ref 58, .int v1]) (st' := [.int 16, .int (M 58 12)]) (M' := M) rfl ?_
  refine pu_icmp_ne rfl (fun hc => ?_) (fun hc => ?_)
  · replace H := Eq.mp (if_neg hc) H
    refine pu_go 5 (pc' := 73) (ls' := [.ref 58, .int v1]) (st' := [.int v1, .int (M 58 12), .ref 65]) (M' := M) rfl ?_
    obtain ⟨hb1, H⟩ := H
    refine pu_iast rfl rfl (by decide) hb1 ?_
    refine pu_go 5 (pc' := 81) (ls' := [.ref 58, .int v1]) (st' := [.int (((pu_wr M 65 (M 58 12 : Int32).toNatClampNeg v1) 58 5) + 1), .ref 58]) (M' := pu_wr M 65 (M 58 12 : Int32).toNatClampNeg v1) rfl ?_
    refine pu_putf (j := 5) (z := ((pu_wr M 65 (M 58 12 : Int32).toNatClampNeg v1) 58 5) + 1) rfl rfl (by decide) rfl (by decide) rfl rfl pu_put_hw ?_
    refine pu_go 6 (pc' := 96) (ls' := [.ref 58, .int v1]) (st' := [.int ((pu_wr (pu_wr M 65 (M 58 12 : Int32).toNatClampNeg v1) 58 5 (((pu_wr M 65 (M 58 12 : Int32).toNatClampNeg v1) 58 5) + 1)) 58 10), .int ((pu_wr (pu_wr M 65 (M 58 12 : Int32).toNatClampNeg v1) 58 5 (((pu_wr M 65 (M 58 12 : Int32).toNatClampNeg v1) 58 5) + 1)) 58 12), .ref 66]) (M' := pu_wr (pu_wr M 65 (M 58 12 : Int32).toNatClampNeg v1) 58 5 (((pu_wr M 65 (M 58 12 : Int32).toNatClampNeg v1) 58 5) + 1)) rfl ?_
    obtain ⟨hb2, H⟩ := H
    refine pu_iast rfl rfl (by decide) hb2 ?_
    refine pu_named (fun M3 eM4 => ?_)
    replace H := H M3 eM4
    refine pu_go 2 (pc' := 99) (ls' := [.ref 58, .int v1]) (st' := [.int 0, .ref 58]) (M' := M3) rfl ?_
    refine pu_putf (j := 9) (z := 0) rfl rfl (by decide) rfl (by decide) rfl rfl pu_put_hw ?_
    refine pu_go 2 (pc' := 104) (ls' := [.ref 58, .int v1]) (st' := [.int 0, .ref 58]) (M' := pu_wr M3 58 9 0) rfl ?_
    refine pu_putf (j := 11) (z := 0) rfl rfl (by decide) rfl (by decide) rfl rfl pu_put_hw ?_
    refine pu_go 2 (pc' := 110) (ls' := [.ref 58, .int v1]) (st' := [.int 113, .int v1]) (M' := pu_wr (pu_wr M3 58 9 0) 58 11 0) rfl ?_
    refine pu_icmp_eq rfl (fun hc => ?_) (fun hc => ?_)
    · replace H := Eq.mp (if_pos hc) H
      exact H
    · replace H := Eq.mp (if_neg hc) H
      refine pu_go 1 (pc' := 114) (ls' := [.ref 58, .int v1]) (st' := [.ref 58]) (M' := pu_wr (pu_wr M3 58 9 0) 58 11 0) rfl ?_
      refine pu_callI (m' := 191) (ml := 3) (as := [.ref 58]) (rest := []) rfl rfl rfl (Nat.le_of_ble_eq_true rfl) H (fun x6 M5 H => ?_)
      show pu_R L (d + 8) 197 117 [.ref 58, .int v1] [.int x6] M5 _
      refine pu_if_ne rfl (fun hc => ?_) (fun hc => ?_)
      · replace H := Eq.mp (if_neg hc) H
        exact H
      · replace H := Eq.mp (if_pos hc) H
        refine pu_go 1 (pc' := 121) (ls' := [.ref 58, .int v1]) (st' := [.int 0]) (M' := M5) rfl ?_
        exact pu_ret rfl rfl ⟨_, rfl, H⟩
  · replace H := Eq.mp (if_pos hc) H
    refine pu_go 4 (pc' := 60) (ls' := [.ref 58, .int v1]) (st' := [.int (M 58 5), .int 4, .ref 58]) (M' := M) rfl ?_
    refine pu_callI (m' := 180) (ml := 3) (as := [.ref 58, .int 4, .int (M 58 5)]) (rest := []) rfl rfl rfl (Nat.le_of_ble_eq_true rfl) H (fun x8 M7 H => ?_)
    show pu_R L (d + 8) 197 63 [.ref 58, .int v1] [.int x8] M7 _
    obtain ⟨hb9, H⟩ := H
    exact pu_retZ rfl hb9 H
set_option maxRecDepth 20000 in
theorem r_m_readsRule {L d : Nat} {M : pu_M} {Q : Int32 → pu_M → Prop}  (H : pu_I L (d + 7) 178 [.ref 58] M (fun x2 M1 => (if x2 = 101 then pu_R L (d + 8) 197 45 [.ref 58, .int x2] [] M1 (pu_qI Q) else (if x2 = 104 then pu_R L (d + 8) 197 45 [.ref 58, .int x2] [] M1 (pu_qI Q) else (if x2 = 103 then pu_R L (d + 8) 197 45 [.ref 58, .int x2] [] M1 (pu_qI Q) else (if x2 = 98 then pu_R L (d + 8) 197 45 [.ref 58, .int x2] [] M1 (pu_qI Q) else (if x2 = 113 then pu_R L (d + 8) 197 45 [.ref 58, .int x2] [] M1 (pu_qI Q) else pu_I L (d + 7) 180 [.ref 58, .int 1, .int (M1 58 5)] M1 (fun x4 M3 => ((x4 = 0 ∨ x4 = 1) ∧ Q x4 M3))))))))) : pu_I L (d + 8) 197 [.ref 58] M Q := by
  show pu_R L (d + 8) 197 0 [.ref 58, mq_un] [] M (pu_qI Q)
  refine pu_go 1 (pc' := 1) (ls' := [.ref 58, mq_un]) (st' := [.ref 58]) (M' := M) rfl ?_
  refine pu_callI (m' := 178) (ml := 1) (as := [.ref 58]) (rest := []) rfl rfl rfl (Nat.le_of_ble_eq_true rfl) H (fun x2 M1 H => ?_)
  show pu_R L (d + 8) 197 4 [.ref 58, mq_un] [.int x2] M1 _
  refine pu_go 3 (pc' := 8) (ls' := [.ref 58, .int x2]) (st' := [.int 101, .int x2]) (M' := M1) rfl ?_
  refine pu_icmp_eq rfl (fun hc => ?_) (fun hc => ?_)
  · replace H := Eq.mp (if_pos hc) H
    exact H
  · replace H := Eq.mp (if_neg hc) H
    refine pu_go 2 (pc' := 14) (ls' := [.ref 58, .int x2]) (st' := [.int 104, .int x2]) (M' := M1) rfl ?_
    refine pu_icmp_eq rfl (fun hc => ?_) (fun hc => ?_)
    · replace H := Eq.mp (if_pos hc) H
      exact H
    · replace H := Eq.mp (if_neg hc) H
      refine pu_go 2 (pc' := 20) (ls' := [.ref 58, .int x2]) (st' := [.int 103, .int x2]) (M' := M1) rfl ?_
      refine pu_icmp_eq rfl (fun hc => ?_) (fun hc => ?_)
      · replace H := Eq.mp (if_pos hc) H
        exact H
      · replace H := Eq.mp (if_neg hc) H
        refine pu_go 2 (pc' := 26) (ls' := [.ref 58, .int x2]) (st' := [.int 98, .int x2]) (M' := M1) rfl ?_
        refine pu_icmp_eq rfl (fun hc => ?_) (fun hc => ?_)
        · replace H := Eq.mp (if_pos hc) H
          exact H
        · replace H := Eq.mp (if_neg hc) H
          refine pu_go 2 (pc' := 32) (ls' := [.ref 58, .int x2]) (st' := [.int 113, .int x2]) (M' := M1) rfl ?_
          refine pu_icmp_eq rfl (fun hc => ?_) (fun hc => ?_)
          · replace H := Eq.mp (if_pos hc) H
            exact H
          · replace H := Eq.mp (if_neg hc) H
            refine pu_go 4 (pc' := 41) (ls' := [.ref 58, .int x2]) (st' := [.int (M1 58 5), .int 1, .ref 58]) (M' := M1) rfl ?_
            refine pu_callI (m' := 180) (ml := 3) (as := [.ref 58, .int 1, .int (M1 58 5)]) (rest := []) rfl rfl rfl (Nat.le_of_ble_eq_true rfl) H (fun x4 M3 H => ?_)
            show pu_R L (d + 8) 197 44 [.ref 58, .int x2] [.int x4] M3 _
            obtain ⟨hb5, H⟩ := H
            exact pu_retZ rfl hb5 H
/-! m_beginsText (I)V -/
set_option maxRecDepth 20000 in
theorem r_m_beginsText {L d : Nat} {M : pu_M} {Q : pu_M → Prop} {v1 : Int32} (H : Q (pu_wr (pu_wr (pu_wr (pu_wr M 58 5 0) 58 6 v1) 58 10 0) 58 12 0)) : pu_V L (d + 1) 198 [.ref 58, .int v1] M Q := by
  show pu_R L (d + 1) 198 0 [.ref 58, .int v1] [] M (pu_qV Q)
  refine pu_go 2 (pc' := 2) (ls' := [.ref 58, .int v1]) (st' := [.int 0, .ref 58]) (M' := M) rfl ?_
  refine pu_putf (j := 5) (z := 0) rfl rfl (by decide) rfl (by decide) rfl rfl pu_put_hw ?_
  refine pu_go 2 (pc' := 7) (ls' := [.ref 58, .int v1]) (st' := [.int v1, .ref 58]) (M' := pu_wr M 58 5 0) rfl ?_
  refine pu_putf (j := 6) (z := v1) rfl rfl (by decide) rfl (by decide) rfl rfl pu_put_hw ?_
  refine pu_go 2 (pc' := 12) (ls' := [.ref 58, .int v1]) (st' := [.int 0, .ref 58]) (M' := pu_wr (pu_wr M 58 5 0) 58 6 v1) rfl ?_
  refine pu_putf (j := 10) (z := 0) rfl rfl (by decide) rfl (by decide) rfl rfl pu_put_hw ?_
  refine pu_go 2 (pc' := 17) (ls' := [.ref 58, .int v1]) (st' := [.int 0, .ref 58]) (M' := pu_wr (pu_wr (pu_wr M 58 5 0) 58 6 v1) 58 10 0) rfl ?_
  refine pu_putf (j := 12) (z := 0) rfl rfl (by decide) rfl (by decide) rfl rfl pu_put_hw ?_
  exact pu_ret rfl rfl ⟨rfl, H⟩
/-! m_law (I)I -/
set_option maxRecDepth 20000 in
theorem r_m_law_123 {L d : Nat} {M : pu_M} {Q : Int32 → pu_M → Prop} {v1 : Int32} {v2 : Int32} {v3 : Int32} (H : (if (M 58 12) ≤ v3 then Q (M 58 12) M else (mq_inb v3 16 = true ∧ (mq_inb v3 16 = true ∧ (mq_inb v3 16 = true ∧ (mq_inb v3 16 = true ∧ (mq_inb v3 16 = true ∧ (mq_inb v3 16 = true ∧ (∀ M7 : pu_M, M7 = pu_wr (pu_wr (pu_wr M 70 v3.toNatClampNeg (M 65 v3.toNatClampNeg)) 71 v3.toNatClampNeg ((pu_wr M 70 v3.toNatClampNeg (M 65 v3.toNatClampNeg)) 66 v3.toNatClampNeg)) 72 v3.toNatClampNeg ((pu_wr (pu_wr M 70 v3.toNatClampNeg (M 65 v3.toNatClampNeg)) 71 v3.toNatClampNeg ((pu_wr M 70 v3.toNatClampNeg (M 65 v3.toNatClampNeg)) 66 v3.toNatClampNeg)) 67 v3.toNatClampNeg) → (mq_inb v3 16 = true ∧ (mq_inb v3 16 = true ∧ pu_R L (d + 9) 199 123 [.ref 58, .int v1, .int v2, .int (v3 + 1)] [] (pu_wr M7 73 v3.toNatClampNeg (M7 68 v3.toNatClampNeg)) (pu_qI Q)))))))))))) : pu_R L (d + 9) 199 123 [.ref 58, .int v1, .int v2, .int v3] [] M (pu_qI Q) := by
  refine pu_go 3 (pc' := 128) (ls' := [.ref 58, .int v1, .int v2, .int v3]) (st' := [.int (M 58 12), .int v3]) (M' := M) rfl ?_
  refine pu_icmp_ge rfl (fun hc => ?_) (fun hc => ?_)
  · replace H := Eq.mp (if_pos hc) H
    refine pu_go 2 (pc' := 189) (ls' := [.ref 58, .int v1, .int v2, .int v3]) (st' := [.int (M 58 12)]) (M' := M) rfl ?_
    exact pu_ret rfl rfl ⟨_, rfl, H⟩
  · replace H := Eq.mp (if_neg hc) H
    refine pu_go 6 (pc' := 141) (ls' := [.ref 58, .int v1, .int v2, .int v3]) (st' := [.int v3, .ref 65, .int v3, .ref 70]) (M' := M) rfl ?_
    obtain ⟨hb1, H⟩ := H
    refine pu_iald rfl rfl (Or.inl (by decide)) hb1 ?_
    obtain ⟨hb2, H⟩ := H
    refine pu_iast rfl rfl (by decide) hb2 ?_
    refine pu_go 6 (pc' := 153) (ls' := [.ref 58, .int v1, .int v2, .int v3]) (st' := [.int v3, .ref 66, .int v3, .ref 71]) (M' := pu_wr M 70 v3.toNatClampNeg (M 65 v3.toNatClampNeg)) rfl ?_
    obtain ⟨hb3, H⟩ := H
    refine pu_iald rfl rfl (Or.inl (by decide)) hb3 ?_
    obtain ⟨hb4, H⟩ := H
    refine pu_iast rfl rfl (by decide) hb4 ?_
    refine pu_go 6 (pc' := 165) (ls' := [.ref 58, .int v1, .int v2, .int v3]) (st' := [.int v3, .ref 67, .int v3, .ref 72]) (M' := pu_wr (pu_wr M 70 v3.toNatClampNeg (M 65 v3.toNatClampNeg)) 71 v3.toNatClampNeg ((pu_wr M 70 v3.toNatClampNeg (M 65 v3.toNatClampNeg)) 66 v3.toNatClampNeg)) rfl ?_
    obtain ⟨hb5, H⟩ := H
    refine pu_iald rfl rfl (Or.inl (by decide)) hb5 ?_
    obtain ⟨hb6, H⟩ := H
    refine pu_iast rfl rfl (by decide) hb6 ?_
    refine pu_named (fun M7 eM8 => ?_)
    replace H := H M7 eM8
    refine pu_go 6 (pc' := 177) (ls' := [.ref 58, .int v1, .int v2, .int v3]) (st' := [.int v3, .ref 68, .int v3, .ref 73]) (M' := M7) rfl ?_
    obtain ⟨hb9, H⟩ := H
    refine pu_iald rfl rfl (Or.inl (by decide)) hb9 ?_
    obtain ⟨hb10, H⟩ := H
    refine pu_iast rfl rfl (by decide) hb10 ?_
    refine pu_go 2 (pc' := 123) (ls' := [.ref 58, .int v1, .int v2, .int (v3 + 1)]) (st' := []) (M' := pu_wr M7 73 v3.toNatClampNeg (M7 68 v3.toNatClampNeg)) rfl ?_
    exact H
set_option maxRecDepth 20000 in
theorem r_m_law_95 {L d : Nat} {M : pu_M} {Q : Int32 → pu_M → Prop} {v1 : Int32} {v2 : Int32} {v3 : Int32} (H : (if (M 58 10) ≤ v3 then pu_R L (d + 9) 199 123 [.ref 58, .int v1, .int v2, .int 0] [] M (pu_qI Q) else (mq_inb v3 260 = true ∧ (mq_inb v3 260 = true ∧ pu_R L (d + 9) 199 95 [.ref 58, .int v1, .int v2, .int (v3 + 1)] [] (pu_wr M 69 v3.toNatClampNeg (M 63 v3.toNatClampNeg)) (pu_qI Q))))) : pu_R L (d + 9) 199 95 [.ref 58, .int v1, .int v2, .int v3] [] M (pu_qI Q) := by
  refine pu_go 3 (pc' := 100) (ls' := [.ref 58, .int v1, .int v2, .int v3]) (st' := [.int (M 58 10), .int v3]) (M' := M) rfl ?_
  refine pu_icmp_ge rfl (fun hc => ?_) (fun hc => ?_)
  · replace H := Eq.mp (if_pos hc) H
    refine pu_go 2 (pc' := 123) (ls' := [.ref 58, .int v1, .int v2, .int 0]) (st' := []) (M' := M) rfl ?_
    exact H
  · replace H := Eq.mp (if_neg hc) H
    refine pu_go 6 (pc' := 113) (ls' := [.ref 58, .int v1, .int v2, .int v3]) (st' := [.int v3, .ref 63, .int v3, .ref 69]) (M' := M) rfl ?_
    obtain ⟨hb1, H⟩ := H
    refine pu_iald rfl rfl (Or.inl (by decide)) hb1 ?_
    obtain ⟨hb2, H⟩ := H
    refine pu_iast rfl rfl (by decide) hb2 ?_
    refine pu_go 2 (pc' := 95) (ls' := [.ref 58, .int v1, .int v2, .int (v3 + 1)]) (st' := []) (M' := pu_wr M 69 v3.toNatClampNeg (M 63 v3.toNatClampNeg)) rfl ?_
    exact H
set_option maxRecDepth 20000 in
theorem r_m_law_71 {L d : Nat} {M : pu_M} {Q : Int32 → pu_M → Prop} {v1 : Int32} {v2 : Int32} (H : (if v2 = 0 then Q ((pu_wr M 58 4 0) 58 7) (pu_wr M 58 4 0) else pu_R L (d + 9) 199 95 [.ref 58, .int v1, .int v2, .int 0] [] (pu_wr (pu_wr M 58 4 0) 58 13 ((pu_wr M 58 4 0) 58 12)) (pu_qI Q))) : pu_R L (d + 9) 199 71 [.ref 58, .int v1, .int v2, mq_un] [] M (pu_qI Q) := by
  refine pu_go 2 (pc' := 73) (ls' := [.ref 58, .int v1, .int v2, mq_un]) (st' := [.int 0, .ref 58]) (M' := M) rfl ?_
  refine pu_putf (j := 4) (z := 0) rfl rfl (by decide) rfl (by decide) rfl rfl pu_put_hw ?_
  refine pu_go 1 (pc' := 77) (ls' := [.ref 58, .int v1, .int v2, mq_un]) (st' := [.int v2]) (M' := pu_wr M 58 4 0) rfl ?_
  refine pu_if_ne rfl (fun hc => ?_) (fun hc => ?_)
  · replace H := Eq.mp (if_neg hc) H
    refine pu_go 3 (pc' := 90) (ls' := [.ref 58, .int v1, .int v2, mq_un]) (st' := [.int ((pu_wr M 58 4 0) 58 12), .ref 58]) (M' := pu_wr M 58 4 0) rfl ?_
    refine pu_putf (j := 13) (z := (pu_wr M 58 4 0) 58 12) rfl rfl (by decide) rfl (by decide) rfl rfl pu_put_hw ?_
    refine pu_go 2 (pc' := 95) (ls' := [.ref 58, .int v1, .int v2, .int 0]) (st' := []) (M' := pu_wr (pu_wr M 58 4 0) 58 13 ((pu_wr M 58 4 0) 58 12)) rfl ?_
    exact H
  · replace H := Eq.mp (if_pos hc) H
    refine pu_go 2 (pc' := 84) (ls' := [.ref 58, .int v1, .int v2, mq_un]) (st' := [.int ((pu_wr M 58 4 0) 58 7)]) (M' := pu_wr M 58 4 0) rfl ?_
    exact pu_ret rfl rfl ⟨_, rfl, H⟩
set_option maxRecDepth 20000 in
theorem r_m_law_31 {L d : Nat} {M : pu_M} {Q : Int32 → pu_M → Prop} {v1 : Int32} {v2 : Int32} (H : (if v2 = 0 then pu_R L (d + 9) 199 71 [.ref 58, .int v1, .int v2, mq_un] [] M (pu_qI Q) else (if (M 58 6) ≤ (M 58 5) then pu_R L (d + 9) 199 71 [.ref 58, .int v1, .int v2, mq_un] [] M (pu_qI Q) else pu_I L (d + 8) 181 [.ref 58, .int 59] M (fun x2 M1 => (if x2 = 0 then pu_R L (d + 9) 199 31 [.ref 58, .int v1, .int 0, mq_un] [] M1 (pu_qI Q) else pu_I L (d + 8) 197 [.ref 58] M1 (fun x4 M3 => (if x4 = 0 then pu_R L (d + 9) 199 31 [.ref 58, .int v1, .int 0, mq_un] [] M3 (pu_qI Q) else pu_R L (d + 9) 199 31 [.ref 58, .int v1, .int 1, mq_un] [] M3 (pu_qI Q)))))))) : pu_R L (d + 9) 199 31 [.ref 58, .int v1, .int v2, mq_un] [] M (pu_qI Q) := by
  refine pu_go 1 (pc' := 32) (ls' := [.ref 58, .int v1, .int v2, mq_un]) (st' := [.int v2]) (M' := M) rfl ?_
  refine pu_if_eq rfl (fun hc => ?_) (fun hc => ?_)
  · replace H := Eq.mp (if_pos hc) H
    exact H
  · replace H := Eq.mp (if_neg hc) H
    refine pu_go 4 (pc' := 43) (ls' := [.ref 58, .int v1, .int v2, mq_un]) (st' := [.int (M 58 6), .int (M 58 5)]) (M' := M) rfl ?_
    refine pu_icmp_ge rfl (fun hc => ?_) (fun hc => ?_)
    · replace H := Eq.mp (if_pos hc) H
      exact H
    · replace H := Eq.mp (if_neg hc) H
      refine pu_go 2 (pc' := 49) (ls' := [.ref 58, .int v1, .int v2, mq_un]) (st' := [.int 59, .ref 58]) (M' := M) rfl ?_
      refine pu_callI (m' := 181) (ml := 2) (as := [.ref 58, .int 59]) (rest := []) rfl rfl rfl (Nat.le_of_ble_eq_true rfl) H (fun x2 M1 H => ?_)
      show pu_R L (d + 9) 199 52 [.ref 58, .int v1, .int v2, mq_un] [.int x2] M1 _
      refine pu_if_eq rfl (fun hc => ?_) (fun hc => ?_)
      · replace H := Eq.mp (if_pos hc) H
        refine pu_go 3 (pc' := 31) (ls' := [.ref 58, .int v1, .int 0, mq_un]) (st' := []) (M' := M1) rfl ?_
        exact H
      · replace H := Eq.mp (if_neg hc) H
        refine pu_go 1 (pc' := 56) (ls' := [.ref 58, .int v1, .int v2, mq_un]) (st' := [.ref 58]) (M' := M1) rfl ?_
        refine pu_callI (m' := 197) (ml := 2) (as := [.ref 58]) (rest := []) rfl rfl rfl (Nat.le_of_ble_eq_true rfl) H (fun x4 M3 H => ?_)
        show pu_R L (d + 9) 199 59 [.ref 58, .int v1, .int v2, mq_un] [.int x4] M3 _
        refine pu_if_eq rfl (fun hc => ?_) (fun hc => ?_)
        · replace H := Eq.mp (if_pos hc) H
          refine pu_go 3 (pc' := 31) (ls' := [.ref 58, .int v1, .int 0, mq_un]) (st' := []) (M' := M3) rfl ?_
          exact H
        · replace H := Eq.mp (if_neg hc) H
          refine pu_go 4 (pc' := 31) (ls' := [.ref 58, .int v1, .int 1, mq_un]) (st' := []) (M' := M3) rfl ?_
          exact H
set_option maxRecDepth 20000 in
theorem r_m_law {L d : Nat} {M : pu_M} {Q : Int32 → pu_M → Prop} {v1 : Int32} (H : pu_I L (d + 8) 157 [.int v1, .int 1, .int 240] M (fun x2 M1 => (if x2 = 0 then Q ((-1)) M1 else (if v1 ≤ (M1 58 4) then pu_V L (d + 8) 198 [.ref 58, .int v1] M1 (fun M3 => pu_I L (d + 8) 197 [.ref 58] M3 (fun x5 M4 => pu_R L (d + 9) 199 31 [.ref 58, .int v1, .int x5, mq_un] [] M4 (pu_qI Q))) else Q ((-1)) M1)))) : pu_I L (d + 9) 199 [.ref 58, .int v1] M Q := by
  show pu_R L (d + 9) 199 0 [.ref 58, .int v1, mq_un, mq_un] [] M (pu_qI Q)
  refine pu_go 3 (pc' := 5) (ls' := [.ref 58, .int v1, mq_un, mq_un]) (st' := [.int 240, .int 1, .int v1]) (M' := M) rfl ?_
  refine pu_callI (m' := 157) (ml := 3) (as := [.int v1, .int 1, .int 240]) (rest := []) rfl rfl rfl (Nat.le_of_ble_eq_true rfl) H (fun x2 M1 H => ?_)
  show pu_R L (d + 9) 199 8 [.ref 58, .int v1, mq_un, mq_un] [.int x2] M1 _
  refine pu_if_eq rfl (fun hc => ?_) (fun hc => ?_)
  · replace H := Eq.mp (if_pos hc) H
    refine pu_go 1 (pc' := 20) (ls' := [.ref 58, .int v1, mq_un, mq_un]) (st' := [.int ((-1))]) (M' := M1) rfl ?_
    exact pu_ret rfl rfl ⟨_, rfl, H⟩
  · replace H := Eq.mp (if_neg hc) H
    refine pu_go 3 (pc' := 16) (ls' := [.ref 58, .int v1, mq_un, mq_un]) (st' := [.int (M1 58 4), .int v1]) (M' := M1) rfl ?_
    refine pu_icmp_le rfl (fun hc => ?_) (fun hc => ?_)
    · replace H := Eq.mp (if_pos hc) H
      refine pu_go 2 (pc' := 23) (ls' := [.ref 58, .int v1, mq_un, mq_un]) (st' := [.int v1, .ref 58]) (M' := M1) rfl ?_
      refine pu_callV (m' := 198) (ml := 2) (as := [.ref 58, .int v1]) (rest := []) rfl rfl rfl (Nat.le_of_ble_eq_true rfl) H (fun M3 H => ?_)
      show pu_R L (d + 9) 199 26 [.ref 58, .int v1, mq_un, mq_un] [] M3 _
      refine pu_go 1 (pc' := 27) (ls' := [.ref 58, .int v1, mq_un, mq_un]) (st' := [.ref 58]) (M' := M3) rfl ?_
      refine pu_callI (m' := 197) (ml := 2) (as := [.ref 58]) (rest := []) rfl rfl rfl (Nat.le_of_ble_eq_true rfl) H (fun x5 M4 H => ?_)
      show pu_R L (d + 9) 199 30 [.ref 58, .int v1, mq_un, mq_un] [.int x5] M4 _
      refine pu_go 1 (pc' := 31) (ls' := [.ref 58, .int v1, .int x5, mq_un]) (st' := []) (M' := M4) rfl ?_
      exact H
    · replace H := Eq.mp (if_neg hc) H
      refine pu_go 1 (pc' := 20) (ls' := [.ref 58, .int v1, mq_un, mq_un]) (st' := [.int ((-1))]) (M' := M1) rfl ?_
      exact pu_ret rfl rfl ⟨_, rfl, H⟩
/-! m_reckon (III)I -/
set_option maxRecDepth 20000 in
theorem r_m_reckon {L d : Nat} {M : pu_M} {Q : Int32 → pu_M → Prop} {v0 : Int32} {v1 : Int32} {v2 : Int32} (H : (if v0 = 2 then Q (v1 + v2) M else (if v0 = 3 then Q (v1 - v2) M else (if v0 = 4 then Q (v1 * v2) M else (if v0 = 5 then (v2 ≠ 0 ∧ Q (v1 / v2) M) else (if v0 = 6 then (v2 ≠ 0 ∧ Q (v1 % v2) M) else (if v0 = 7 then (if v2 ≤ v1 then Q 0 M else Q 1 M) else (if v0 = 8 then (if v1 ≤ v2 then Q 0 M else Q 1 M) else (if v1 = v2 then Q 1 M else Q 0 M))))))))) : pu_I L (d + 1) 200 [.int v0, .int v1, .int v2] M Q := by
  show pu_R L (d + 1) 200 0 [.int v0, .int v1, .int v2] [] M (pu_qI Q)
  refine pu_go 1 (pc' := 1) (ls' := [.int v0, .int v1, .int v2]) (st' := [.int v0]) (M' := M) rfl ?_
  skip
  by_cases hs1_0 : v0 = 2
  · replace H := Eq.mp (if_pos hs1_0) H
    refine pu_one (pc' := 44) (ls' := [.int v0, .int v1, .int v2]) (st' := []) (M' := M) rfl (by rw [hs1_0]; rfl) ?_
    refine pu_go 3 (pc' := 47) (ls' := [.int v0, .int v1, .int v2]) (st' := [.int (v1 + v2)]) (M' := M) rfl ?_
    exact pu_ret rfl rfl ⟨_, rfl, H⟩
  replace H := Eq.mp (if_neg hs1_0) H
  by_cases hs1_1 : v0 = 3
  · replace H := Eq.mp (if_pos hs1_1) H
    refine pu_one (pc' := 48) (ls' := [.int v0, .int v1, .int v2]) (st' := []) (M' := M) rfl (by rw [hs1_1]; rfl) ?_
    refine pu_go 3 (pc' := 51) (ls' := [.int v0, .int v1, .int v2]) (st' := [.int (v1 - v2)]) (M' := M) rfl ?_
    exact pu_ret rfl rfl ⟨_, rfl, H⟩
  replace H := Eq.mp (if_neg hs1_1) H
  by_cases hs1_2 : v0 = 4
  · replace H := Eq.mp (if_pos hs1_2) H
    refine pu_one (pc' := 52) (ls' := [.int v0, .int v1, .int v2]) (st' := []) (M' := M) rfl (by rw [hs1_2]; rfl) ?_
    refine pu_go 3 (pc' := 55) (ls' := [.int v0, .int v1, .int v2]) (st' := [.int (v1 * v2)]) (M' := M) rfl ?_
    exact pu_ret rfl rfl ⟨_, rfl, H⟩
  replace H := Eq.mp (if_neg hs1_2) H
  by_cases hs1_3 : v0 = 5
  · replace H := Eq.mp (if_pos hs1_3) H
    refine pu_one (pc' := 56) (ls' := [.int v0, .int v1, .int v2]) (st' := []) (M' := M) rfl (by rw [hs1_3]; rfl) ?_
    refine pu_go 2 (pc' := 58) (ls' := [.int v0, .int v1, .int v2]) (st' := [.int v2, .int v1]) (M' := M) rfl ?_
    obtain ⟨hz1, H⟩ := H
    refine pu_div rfl hz1 ?_
    exact pu_ret rfl rfl ⟨_, rfl, H⟩
  replace H := Eq.mp (if_neg hs1_3) H
  by_cases hs1_4 : v0 = 6
  · replace H := Eq.mp (if_pos hs1_4) H
    refine pu_one (pc' := 60) (ls' := [.int v0, .int v1, .int v2]) (st' := []) (M' := M) rfl (by rw [hs1_4]; rfl) ?_
    refine pu_go 2 (pc' := 62) (ls' := [.int v0, .int v1, .int v2]) (st' := [.int v2, .int v1]) (M' := M) rfl ?_
    obtain ⟨hz2, H⟩ := H
    refine pu_rem rfl hz2 ?_
    exact pu_ret rfl rfl ⟨_, rfl, H⟩
  replace H := Eq.mp (if_neg hs1_4) H
  by_cases hs1_5 : v0 = 7
  · replace H := Eq.mp (if_pos hs1_5) H
    refine pu_one (pc' := 64) (ls' := [.int v0, .int v1, .int v2]) (st' := []) (M' := M) rfl (by rw [hs1_5]; rfl) ?_
    refine pu_go 2 (pc' := 66) (ls' := [.int v0, .int v1, .int v2]) (st' := [.int v2, .int v1]) (M' := M) rfl ?_
    refine pu_icmp_ge rfl (fun hc => ?_) (fun hc => ?_)
    · replace H := Eq.mp (if_pos hc) H
      refine pu_go 1 (pc' := 74) (ls' := [.int v0, .int v1, .int v2]) (st' := [.int 0]) (M' := M) rfl ?_
      exact pu_ret rfl rfl ⟨_, rfl, H⟩
    · replace H := Eq.mp (if_neg hc) H
      refine pu_go 2 (pc' := 74) (ls' := [.int v0, .int v1, .int v2]) (st' := [.int 1]) (M' := M) rfl ?_
      exact pu_ret rfl rfl ⟨_, rfl, H⟩
  replace H := Eq.mp (if_neg hs1_5) H
  by_cases hs1_6 : v0 = 8
  · replace H := Eq.mp (if_pos hs1_6) H
    refine pu_one (pc' := 75) (ls' := [.int v0, .int v1, .int v2]) (st' := []) (M' := M) rfl (by rw [hs1_6]; rfl) ?_
    refine pu_go 2 (pc' := 77) (ls' := [.int v0, .int v1, .int v2]) (st' := [.int v2, .int v1]) (M' := M) rfl ?_
    refine pu_icmp_le rfl (fun hc => ?_) (fun hc => ?_)
    · replace H := Eq.mp (if_pos hc) H
      refine pu_go 1 (pc' := 85) (ls' := [.int v0, .int v1, .int v2]) (st' := [.int 0]) (M' := M) rfl ?_
      exact pu_ret rfl rfl ⟨_, rfl, H⟩
    · replace H := Eq.mp (if_neg hc) H
      refine pu_go 2 (pc' := 85) (ls' := [.int v0, .int v1, .int v2]) (st' := [.int 1]) (M' := M) rfl ?_
      exact pu_ret rfl rfl ⟨_, rfl, H⟩
  replace H := Eq.mp (if_neg hs1_6) H
  refine pu_one (pc' := 86) (ls' := [.int v0, .int v1, .int v2]) (st' := []) (M' := M) rfl (congrArg (fun z => mq_nx z _ _ _) (pu_tabD [2, 3, 4, 5, 6, 7, 8] (by simp only [List.forall_mem_cons, List.not_mem_nil, false_implies, implies_true, and_true]; exact ⟨hs1_0, hs1_1, hs1_2, hs1_3, hs1_4, hs1_5, hs1_6⟩) (by decide))) ?_
  refine pu_go 2 (pc' := 88) (ls' := [.int v0, .int v1, .int v2]) (st' := [.int v2, .int v1]) (M' := M) rfl ?_
  refine pu_icmp_ne rfl (fun hc => ?_) (fun hc => ?_)
  · replace H := Eq.mp (if_neg hc) H
    refine pu_go 1 (pc' := 96) (ls' := [.int v0, .int v1, .int v2]) (st' := [.int 0]) (M' := M) rfl ?_
    exact pu_ret rfl rfl ⟨_, rfl, H⟩
  · replace H := Eq.mp (if_pos hc) H
    refine pu_go 2 (pc' := 96) (ls' := [.int v0, .int v1, .int v2]) (st' := [.int 1]) (M' := M) rfl ?_
    exact pu_ret rfl rfl ⟨_, rfl, H⟩
/-! m_comesTo (II)I -/
set_option maxRecDepth 20000 in
theorem r_m_comesTo_203 {L d : Nat} {M : pu_M} {Q : Int32 → pu_M → Prop} {v1 : Int32} {v2 : Int32} {v3 : Int32} {v4 : Int32} {v5 : Int32} {v6 : Int32} {v7 : Int32} (H : (mq_inb (v3 - 1) 260 = true ∧ (mq_inb v3 260 = true ∧ pu_I L (d + 1) 200 [.int v6, .int (M 74 (v3 - 1 : Int32).toNatClampNeg), .int (M 74 v3.toNatClampNeg)] M (fun x4 M3 => (mq_inb (v3 - 1) 260 = true ∧ pu_R L (d + 2) 201 16 [.ref 58, .int v1, .int v2, .int v3, .int v4, .int v5, .int v6, .int v7] [] (pu_wr M3 74 (v3 - 1 : Int32).toNatClampNeg x4) (pu_qI Q)))))) : pu_R L (d + 2) 201 203 [.ref 58, .int v1, .int v2, .int v3, .int v4, .int v5, .int v6, .int v7] [] M (pu_qI Q) := by
  refine pu_go 11 (pc' := 219) (ls' := [.ref 58, .int v1, .int v2, .int v3, .int v4, .int v5, .int v6, .int v7]) (st' := [.int (v3 - 1), .ref 74, .int v6, .int (v3 - 1), .ref 74]) (M' := M) rfl ?_
  obtain ⟨hb1, H⟩ := H
  refine pu_iald rfl rfl (Or.inl (by decide)) hb1 ?_
  refine pu_go 3 (pc' := 225) (ls' := [.ref 58, .int v1, .int v2, .int v3, .int v4, .int v5, .int v6, .int v7]) (st' := [.int v3, .ref 74, .int (M 74 (v3 - 1 : Int32).toNatClampNeg), .int v6, .int (v3 - 1), .ref 74]) (M' := M) rfl ?_
  obtain ⟨hb2, H⟩ := H
  refine pu_iald rfl rfl (Or.inl (by decide)) hb2 ?_
  refine pu_callI (m' := 200) (ml := 3) (as := [.int v6, .int (M 74 (v3 - 1 : Int32).toNatClampNeg), .int (M 74 v3.toNatClampNeg)]) (rest := [.int (v3 - 1), .ref 74]) rfl rfl rfl (Nat.le_of_ble_eq_true rfl) H (fun x4 M3 H => ?_)
  show pu_R L (d + 2) 201 229 [.ref 58, .int v1, .int v2, .int v3, .int v4, .int v5, .int v6, .int v7] [.int x4, .int (v3 - 1), .ref 74] M3 _
  obtain ⟨hb5, H⟩ := H
  refine pu_iast rfl rfl (by decide) hb5 ?_
  refine pu_go 1 (pc' := 16) (ls' := [.ref 58, .int v1, .int v2, .int v3, .int v4, .int v5, .int v6, .int v7]) (st' := []) (M' := pu_wr M3 74 (v3 - 1 : Int32).toNatClampNeg x4) rfl ?_
  exact H
set_option maxRecDepth 20000 in
theorem r_m_comesTo_155 {L d : Nat} {M : pu_M} {Q : Int32 → pu_M → Prop} {v1 : Int32} {v2 : Int32} {v3 : Int32} {v4 : Int32} {v5 : Int32} {v6 : Int32} {v7 : Int32} {s0 : Int32} {s1 : Int32} (H : (if s0 = s1 then pu_R L (d + 2) 201 16 [.ref 58, .int v1, .int v2, .int v3, .int v4, .int (v4 + v7), .int v6, .int v7] [] M (pu_qI Q) else pu_R L (d + 2) 201 16 [.ref 58, .int v1, .int v2, .int (v3 - 1), .int v4, .int v5, .int v6, .int v7] [] M (pu_qI Q))) : pu_R L (d + 2) 201 155 [.ref 58, .int v1, .int v2, .int v3, .int v4, .int v5, .int v6, .int v7] [.int s1, .int s0] M (pu_qI Q) := by
  refine pu_icmp_ne rfl (fun hc => ?_) (fun hc => ?_)
  · replace H := Eq.mp (if_neg hc) H
    refine pu_go 6 (pc' := 16) (ls' := [.ref 58, .int v1, .int v2, .int (v3 - 1), .int v4, .int v5, .int v6, .int v7]) (st' := []) (M' := M) rfl ?_
    exact H
  · replace H := Eq.mp (if_pos hc) H
    refine pu_go 6 (pc' := 16) (ls' := [.ref 58, .int v1, .int v2, .int v3, .int v4, .int (v4 + v7), .int v6, .int v7]) (st' := []) (M' := M) rfl ?_
    exact H
set_option maxRecDepth 20000 in
theorem r_m_comesTo_63 {L d : Nat} {M : pu_M} {Q : Int32 → pu_M → Prop} {v1 : Int32} {v2 : Int32} {v3 : Int32} {v4 : Int32} {v5 : Int32} {v6 : Int32} {v7 : Int32} (H : (if v6 = 0 then (mq_inb v3 260 = true ∧ pu_R L (d + 2) 201 16 [.ref 58, .int v1, .int v2, .int (v3 + 1), .int v4, .int v5, .int v6, .int v7] [] (pu_wr M 74 v3.toNatClampNeg v7) (pu_qI Q)) else (mq_inb v7 8 = true ∧ (mq_inb v3 260 = true ∧ pu_R L (d + 2) 201 16 [.ref 58, .int v1, .int v2, .int (v3 + 1), .int v4, .int v5, .int v6, .int v7] [] (pu_wr M 74 v3.toNatClampNeg (M 75 v7.toNatClampNeg)) (pu_qI Q))))) : pu_R L (d + 2) 201 63 [.ref 58, .int v1, .int v2, .int v3, .int v4, .int v5, .int v6, .int v7] [] M (pu_qI Q) := by
  refine pu_go 4 (pc' := 70) (ls' := [.ref 58, .int v1, .int v2, .int v3, .int v4, .int v5, .int v6, .int v7]) (st' := [.int v6, .int v3, .ref 74]) (M' := M) rfl ?_
  refine pu_if_ne rfl (fun hc => ?_) (fun hc => ?_)
  · replace H := Eq.mp (if_neg hc) H
    refine pu_go 3 (pc' := 84) (ls' := [.ref 58, .int v1, .int v2, .int v3, .int v4, .int v5, .int v6, .int v7]) (st' := [.int v7, .ref 75, .int v3, .ref 74]) (M' := M) rfl ?_
    obtain ⟨hb1, H⟩ := H
    refine pu_iald rfl rfl (Or.inl (by decide)) hb1 ?_
    obtain ⟨hb2, H⟩ := H
    refine pu_iast rfl rfl (by decide) hb2 ?_
    refine pu_go 6 (pc' := 16) (ls' := [.ref 58, .int v1, .int v2, .int (v3 + 1), .int v4, .int v5, .int v6, .int v7]) (st' := []) (M' := pu_wr M 74 v3.toNatClampNeg (M 75 v7.toNatClampNeg)) rfl ?_
    exact H
  · replace H := Eq.mp (if_pos hc) H
    refine pu_go 2 (pc' := 85) (ls' := [.ref 58, .int v1, .int v2, .int v3, .int v4, .int v5, .int v6, .int v7]) (st' := [.int v7, .int v3, .ref 74]) (M' := M) rfl ?_
    obtain ⟨hb3, H⟩ := H
    refine pu_iast rfl rfl (by decide) hb3 ?_
    refine pu_go 6 (pc' := 16) (ls' := [.ref 58, .int v1, .int v2, .int (v3 + 1), .int v4, .int v5, .int v6, .int v7]) (st' := []) (M' := pu_wr M 74 v3.toNatClampNeg v7) rfl ?_
    exact H
set_option maxRecDepth 20000 in
theorem r_m_comesTo_16 {L d : Nat} {M : pu_M} {Q : Int32 → pu_M → Prop} {v1 : Int32} {v2 : Int32} {v3 : Int32} {v4 : Int32} {v5 : Int32} {v6 : Value} {v7 : Value} (H : (if v2 ≤ v5 then Q (M 74 (0 : Int32).toNatClampNeg) M else (mq_inb v5 260 = true ∧ (mq_inb v5 260 = true ∧ (if ((M 69 v5.toNatClampNeg) / 1048576) = 0 then pu_R L (d + 2) 201 63 [.ref 58, .int v1, .int v2, .int v3, .int v4, .int (v5 + 1), .int ((M 69 v5.toNatClampNeg) / 1048576), .int ((M 69 v5.toNatClampNeg) % 1048576)] [] M (pu_qI Q) else (if ((M 69 v5.toNatClampNeg) / 1048576) = 1 then pu_R L (d + 2) 201 63 [.ref 58, .int v1, .int v2, .int v3, .int v4, .int (v5 + 1), .int ((M 69 v5.toNatClampNeg) / 1048576), .int ((M 69 v5.toNatClampNeg) % 1048576)] [] M (pu_qI Q) else (if ((M 69 v5.toNatClampNeg) / 1048576) = 10 then (mq_inb (v3 - 1) 260 = true ∧ (mq_inb (v3 - 1) 260 = true ∧ pu_R L (d + 2) 201 16 [.ref 58, .int v1, .int v2, .int v3, .int v4, .int (v5 + 1), .int ((M 69 v5.toNatClampNeg) / 1048576), .int ((M 69 v5.toNatClampNeg) % 1048576)] [] (pu_wr M 74 (v3 - 1 : Int32).toNatClampNeg (1 - (M 74 (v3 - 1 : Int32).toNatClampNeg))) (pu_qI Q))) else (if ((M 69 v5.toNatClampNeg) / 1048576) = 11 then (mq_inb (v3 - 1) 260 = true ∧ (if ((M 69 v5.toNatClampNeg) / 1048576) = 12 then pu_R L (d + 2) 201 155 [.ref 58, .int v1, .int v2, .int v3, .int v4, .int (v5 + 1), .int ((M 69 v5.toNatClampNeg) / 1048576), .int ((M 69 v5.toNatClampNeg) % 1048576)] [.int 1, .int (M 74 (v3 - 1 : Int32).toNatClampNeg)] M (pu_qI Q) else pu_R L (d + 2) 201 155 [.ref 58, .int v1, .int v2, .int v3, .int v4, .int (v5 + 1), .int ((M 69 v5.toNatClampNeg) / 1048576), .int ((M 69 v5.toNatClampNeg) % 1048576)] [.int 0, .int (M 74 (v3 - 1 : Int32).toNatClampNeg)] M (pu_qI Q))) else (if ((M 69 v5.toNatClampNeg) / 1048576) = 12 then (mq_inb (v3 - 1) 260 = true ∧ (if ((M 69 v5.toNatClampNeg) / 1048576) = 12 then pu_R L (d + 2) 201 155 [.ref 58, .int v1, .int v2, .int v3, .int v4, .int (v5 + 1), .int ((M 69 v5.toNatClampNeg) / 1048576), .int ((M 69 v5.toNatClampNeg) % 1048576)] [.int 1, .int (M 74 (v3 - 1 : Int32).toNatClampNeg)] M (pu_qI Q) else pu_R L (d + 2) 201 155 [.ref 58, .int v1, .int v2, .int v3, .int v4, .int (v5 + 1), .int ((M 69 v5.toNatClampNeg) / 1048576), .int ((M 69 v5.toNatClampNeg) % 1048576)] [.int 0, .int (M 74 (v3 - 1 : Int32).toNatClampNeg)] M (pu_qI Q))) else (if ((M 69 v5.toNatClampNeg) / 1048576) = 5 then (mq_inb (v3 - 1) 260 = true ∧ (if (M 74 (v3 - 1 : Int32).toNatClampNeg) = 0 then Q 0 M else pu_R L (d + 2) 201 203 [.ref 58, .int v1, .int v2, .int (v3 - 1), .int v4, .int (v5 + 1), .int ((M 69 v5.toNatClampNeg) / 1048576), .int ((M 69 v5.toNatClampNeg) % 1048576)] [] M (pu_qI Q))) else (if ((M 69 v5.toNatClampNeg) / 1048576) = 6 then (mq_inb (v3 - 1) 260 = true ∧ (if (M 74 (v3 - 1 : Int32).toNatClampNeg) = 0 then Q 0 M else pu_R L (d + 2) 201 203 [.ref 58, .int v1, .int v2, .int (v3 - 1), .int v4, .int (v5 + 1), .int ((M 69 v5.toNatClampNeg) / 1048576), .int ((M 69 v5.toNatClampNeg) % 1048576)] [] M (pu_qI Q))) else pu_R L (d + 2) 201 203 [.ref 58, .int v1, .int v2, .int (v3 - 1), .int v4, .int (v5 + 1), .int ((M 69 v5.toNatClampNeg) / 1048576), .int ((M 69 v5.toNatClampNeg) % 1048576)] [] M (pu_qI Q)))))))))))) : pu_R L (d + 2) 201 16 [.ref 58, .int v1, .int v2, .int v3, .int v4, .int v5, v6, v7] [] M (pu_qI Q) := by
  refine pu_go 2 (pc' := 19) (ls' := [.ref 58, .int v1, .int v2, .int v3, .int v4, .int v5, v6, v7]) (st' := [.int v2, .int v5]) (M' := M) rfl ?_
  refine pu_icmp_ge rfl (fun hc => ?_) (fun hc => ?_)
  · replace H := Eq.mp (if_pos hc) H
    refine pu_go 3 (pc' := 238) (ls' := [.ref 58, .int v1, .int v2, .int v3, .int v4, .int v5, v6, v7]) (st' := [.int 0, .ref 74]) (M' := M) rfl ?_
    refine pu_iald rfl rfl (Or.inl (by decide)) rfl ?_
    exact pu_ret rfl rfl ⟨_, rfl, H⟩
  · replace H := Eq.mp (if_neg hc) H
    refine pu_go 3 (pc' := 28) (ls' := [.ref 58, .int v1, .int v2, .int v3, .int v4, .int v5, v6, v7]) (st' := [.int v5, .ref 69]) (M' := M) rfl ?_
    obtain ⟨hb1, H⟩ := H
    refine pu_iald rfl rfl (Or.inl (by decide)) hb1 ?_
    refine pu_go 1 (pc' := 31) (ls' := [.ref 58, .int v1, .int v2, .int v3, .int v4, .int v5, v6, v7]) (st' := [.int 1048576, .int (M 69 v5.toNatClampNeg)]) (M' := M) rfl ?_
    refine pu_div rfl (by decide) ?_
    refine pu_go 4 (pc' := 40) (ls' := [.ref 58, .int v1, .int v2, .int v3, .int v4, .int v5, .int ((M 69 v5.toNatClampNeg) / 1048576), v7]) (st' := [.int v5, .ref 69]) (M' := M) rfl ?_
    obtain ⟨hb2, H⟩ := H
    refine pu_iald rfl rfl (Or.inl (by decide)) hb2 ?_
    refine pu_go 1 (pc' := 43) (ls' := [.ref 58, .int v1, .int v2, .int v3, .int v4, .int v5, .int ((M 69 v5.toNatClampNeg) / 1048576), v7]) (st' := [.int 1048576, .int (M 69 v5.toNatClampNeg)]) (M' := M) rfl ?_
    refine pu_rem rfl (by decide) ?_
    refine pu_go 6 (pc' := 54) (ls' := [.ref 58, .int v1, .int v2, .int v3, .int v4, .int (v5 + 1), .int ((M 69 v5.toNatClampNeg) / 1048576), .int ((M 69 v5.toNatClampNeg) % 1048576)]) (st' := [.int ((M 69 v5.toNatClampNeg) / 1048576)]) (M' := M) rfl ?_
    refine pu_if_eq rfl (fun hc => ?_) (fun hc => ?_)
    · replace H := Eq.mp (if_pos hc) H
      exact H
    · replace H := Eq.mp (if_neg hc) H
      refine pu_go 2 (pc' := 60) (ls' := [.ref 58, .int v1, .int v2, .int v3, .int v4, .int (v5 + 1), .int ((M 69 v5.toNatClampNeg) / 1048576), .int ((M 69 v5.toNatClampNeg) % 1048576)]) (st' := [.int 1, .int ((M 69 v5.toNatClampNeg) / 1048576)]) (M' := M) rfl ?_
      refine pu_icmp_ne rfl (fun hc => ?_) (fun hc => ?_)
      · replace H := Eq.mp (if_neg hc) H
        refine pu_go 2 (pc' := 97) (ls' := [.ref 58, .int v1, .int v2, .int v3, .int v4, .int (v5 + 1), .int ((M 69 v5.toNatClampNeg) / 1048576), .int ((M 69 v5.toNatClampNeg) % 1048576)]) (st' := [.int 10, .int ((M 69 v5.toNatClampNeg) / 1048576)]) (M' := M) rfl ?_
        refine pu_icmp_ne rfl (fun hc => ?_) (fun hc => ?_)
        · replace H := Eq.mp (if_neg hc) H
          refine pu_go 2 (pc' := 125) (ls' := [.ref 58, .int v1, .int v2, .int v3, .int v4, .int (v5 + 1), .int ((M 69 v5.toNatClampNeg) / 1048576), .int ((M 69 v5.toNatClampNeg) % 1048576)]) (st' := [.int 11, .int ((M 69 v5.toNatClampNeg) / 1048576)]) (M' := M) rfl ?_
          refine pu_icmp_eq rfl (fun hc => ?_) (fun hc => ?_)
          · replace H := Eq.mp (if_pos hc) H
            refine pu_go 5 (pc' := 142) (ls' := [.ref 58, .int v1, .int v2, .int v3, .int v4, .int (v5 + 1), .int ((M 69 v5.toNatClampNeg) / 1048576), .int ((M 69 v5.toNatClampNeg) % 1048576)]) (st' := [.int (v3 - 1), .ref 74]) (M' := M) rfl ?_
            obtain ⟨hb3, H⟩ := H
            refine pu_iald rfl rfl (Or.inl (by decide)) hb3 ?_
            refine pu_go 2 (pc' := 147) (ls' := [.ref 58, .int v1, .int v2, .int v3, .int v4, .int (v5 + 1), .int ((M 69 v5.toNatClampNeg) / 1048576), .int ((M 69 v5.toNatClampNeg) % 1048576)]) (st' := [.int 12, .int ((M 69 v5.toNatClampNeg) / 1048576), .int (M 74 (v3 - 1 : Int32).toNatClampNeg)]) (M' := M) rfl ?_
            refine pu_icmp_ne rfl (fun hc => ?_) (fun hc => ?_)
            · replace H := Eq.mp (if_neg hc) H
              refine pu_go 1 (pc' := 155) (ls' := [.ref 58, .int v1, .int v2, .int v3, .int v4, .int (v5 + 1), .int ((M 69 v5.toNatClampNeg) / 1048576), .int ((M 69 v5.toNatClampNeg) % 1048576)]) (st' := [.int 0, .int (M 74 (v3 - 1 : Int32).toNatClampNeg)]) (M' := M) rfl ?_
              exact H
            · replace H := Eq.mp (if_pos hc) H
              refine pu_go 2 (pc' := 155) (ls' := [.ref 58, .int v1, .int v2, .int v3, .int v4, .int (v5 + 1), .int ((M 69 v5.toNatClampNeg) / 1048576), .int ((M 69 v5.toNatClampNeg) % 1048576)]) (st' := [.int 1, .int (M 74 (v3 - 1 : Int32).toNatClampNeg)]) (M' := M) rfl ?_
              exact H
          · replace H := Eq.mp (if_neg hc) H
            refine pu_go 2 (pc' := 132) (ls' := [.ref 58, .int v1, .int v2, .int v3, .int v4, .int (v5 + 1), .int ((M 69 v5.toNatClampNeg) / 1048576), .int ((M 69 v5.toNatClampNeg) % 1048576)]) (st' := [.int 12, .int ((M 69 v5.toNatClampNeg) / 1048576)]) (M' := M) rfl ?_
            refine pu_icmp_ne rfl (fun hc => ?_) (fun hc => ?_)
            · replace H := Eq.mp (if_neg hc) H
              refine pu_go 6 (pc' := 182) (ls' := [.ref 58, .int v1, .int v2, .int (v3 - 1), .int v4, .int (v5 + 1), .int ((M 69 v5.toNatClampNeg) / 1048576), .int ((M 69 v5.toNatClampNeg) % 1048576)]) (st' := [.int 5, .int ((M 69 v5.toNatClampNeg) / 1048576)]) (M' := M) rfl ?_
              refine pu_icmp_eq rfl (fun hc => ?_) (fun hc => ?_)
              · replace H := Eq.mp (if_pos hc) H
                refine pu_go 3 (pc' := 197) (ls' := [.ref 58, .int v1, .int v2, .int (v3 - 1), .int v4, .int (v5 + 1), .int ((M 69 v5.toNatClampNeg) / 1048576), .int ((M 69 v5.toNatClampNeg) % 1048576)]) (st' := [.int (v3 - 1), .ref 74]) (M' := M) rfl ?_
                obtain ⟨hb4, H⟩ := H
                refine pu_iald rfl rfl (Or.inl (by decide)) hb4 ?_
                refine pu_if_ne rfl (fun hc => ?_) (fun hc => ?_)
                · replace H := Eq.mp (if_neg hc) H
                  exact H
                · replace H := Eq.mp (if_pos hc) H
                  refine pu_go 1 (pc' := 202) (ls' := [.ref 58, .int v1, .int v2, .int (v3 - 1), .int v4, .int (v5 + 1), .int ((M 69 v5.toNatClampNeg) / 1048576), .int ((M 69 v5.toNatClampNeg) % 1048576)]) (st' := [.int 0]) (M' := M) rfl ?_
                  exact pu_ret rfl rfl ⟨_, rfl, H⟩
              · replace H := Eq.mp (if_neg hc) H
                refine pu_go 2 (pc' := 189) (ls' := [.ref 58, .int v1, .int v2, .int (v3 - 1), .int v4, .int (v5 + 1), .int ((M 69 v5.toNatClampNeg) / 1048576), .int ((M 69 v5.toNatClampNeg) % 1048576)]) (st' := [.int 6, .int ((M 69 v5.toNatClampNeg) / 1048576)]) (M' := M) rfl ?_
                refine pu_icmp_ne rfl (fun hc => ?_) (fun hc => ?_)
                · replace H := Eq.mp (if_neg hc) H
                  exact H
                · replace H := Eq.mp (if_pos hc) H
                  refine pu_go 3 (pc' := 197) (ls' := [.ref 58, .int v1, .int v2, .int (v3 - 1), .int v4, .int (v5 + 1), .int ((M 69 v5.toNatClampNeg) / 1048576), .int ((M 69 v5.toNatClampNeg) % 1048576)]) (st' := [.int (v3 - 1), .ref 74]) (M' := M) rfl ?_
                  obtain ⟨hb5, H⟩ := H
                  refine pu_iald rfl rfl (Or.inl (by decide)) hb5 ?_
                  refine pu_if_ne rfl (fun hc => ?_) (fun hc => ?_)
                  · replace H := Eq.mp (if_neg hc) H
                    exact H
                  · replace H := Eq.mp (if_pos hc) H
                    refine pu_go 1 (pc' := 202) (ls' := [.ref 58, .int v1, .int v2, .int (v3 - 1), .int v4, .int (v5 + 1), .int ((M 69 v5.toNatClampNeg) / 1048576), .int ((M 69 v5.toNatClampNeg) % 1048576)]) (st' := [.int 0]) (M' := M) rfl ?_
                    exact pu_ret rfl rfl ⟨_, rfl, H⟩
            · replace H := Eq.mp (if_pos hc) H
              refine pu_go 5 (pc' := 142) (ls' := [.ref 58, .int v1, .int v2, .int v3, .int v4, .int (v5 + 1), .int ((M 69 v5.toNatClampNeg) / 1048576), .int ((M 69 v5.toNatClampNeg) % 1048576)]) (st' := [.int (v3 - 1), .ref 74]) (M' := M) rfl ?_
              obtain ⟨hb6, H⟩ := H
              refine pu_iald rfl rfl (Or.inl (by decide)) hb6 ?_
              refine pu_go 2 (pc' := 147) (ls' := [.ref 58, .int v1, .int v2, .int v3, .int v4, .int (v5 + 1), .int ((M 69 v5.toNatClampNeg) / 1048576), .int ((M 69 v5.toNatClampNeg) % 1048576)]) (st' := [.int 12, .int ((M 69 v5.toNatClampNeg) / 1048576), .int (M 74 (v3 - 1 : Int32).toNatClampNeg)]) (M' := M) rfl ?_
              refine pu_icmp_ne rfl (fun hc => ?_) (fun hc => ?_)
              · replace H := Eq.mp (if_neg hc) H
                refine pu_go 1 (pc' := 155) (ls' := [.ref 58, .int v1, .int v2, .int v3, .int v4, .int (v5 + 1), .int ((M 69 v5.toNatClampNeg) / 1048576), .int ((M 69 v5.toNatClampNeg) % 1048576)]) (st' := [.int 0, .int (M 74 (v3 - 1 : Int32).toNatClampNeg)]) (M' := M) rfl ?_
                exact H
              · replace H := Eq.mp (if_pos hc) H
                refine pu_go 2 (pc' := 155) (ls' := [.ref 58, .int v1, .int v2, .int v3, .int v4, .int (v5 + 1), .int ((M 69 v5.toNatClampNeg) / 1048576), .int ((M 69 v5.toNatClampNeg) % 1048576)]) (st' := [.int 1, .int (M 74 (v3 - 1 : Int32).toNatClampNeg)]) (M' := M) rfl ?_
                exact H
        · replace H := Eq.mp (if_pos hc) H
          refine pu_go 11 (pc' := 115) (ls' := [.ref 58, .int v1, .int v2, .int v3, .int v4, .int (v5 + 1), .int ((M 69 v5.toNatClampNeg) / 1048576), .int ((M 69 v5.toNatClampNeg) % 1048576)]) (st' := [.int (v3 - 1), .ref 74, .int 1, .int (v3 - 1), .ref 74]) (M' := M) rfl ?_
          obtain ⟨hb7, H⟩ := H
          refine pu_iald rfl rfl (Or.inl (by decide)) hb7 ?_
          refine pu_go 1 (pc' := 117) (ls' := [.ref 58, .int v1, .int v2, .int v3, .int v4, .int (v5 + 1), .int ((M 69 v5.toNatClampNeg) / 1048576), .int ((M 69 v5.toNatClampNeg) % 1048576)]) (st' := [.int (1 - (M 74 (v3 - 1 : Int32).toNatClampNeg)), .int (v3 - 1), .ref 74]) (M' := M) rfl ?_
          obtain ⟨hb8, H⟩ := H
          refine pu_iast rfl rfl (by decide) hb8 ?_
          refine pu_go 2 (pc' := 16) (ls' := [.ref 58, .int v1, .int v2, .int v3, .int v4, .int (v5 + 1), .int ((M 69 v5.toNatClampNeg) / 1048576), .int ((M 69 v5.toNatClampNeg) % 1048576)]) (st' := []) (M' := pu_wr M 74 (v3 - 1 : Int32).toNatClampNeg (1 - (M 74 (v3 - 1 : Int32).toNatClampNeg))) rfl ?_
          exact H
      · replace H := Eq.mp (if_pos hc) H
        exact H
set_option maxRecDepth 20000 in
theorem r_m_comesTo {L d : Nat} {M : pu_M} {Q : Int32 → pu_M → Prop} {v1 : Int32} {v2 : Int32} (H : pu_R L (d + 2) 201 16 [.ref 58, .int v1, .int v2, .int 0, .int (260 * (v1 / 260)), .int v1, mq_un, mq_un] [] M (pu_qI Q)) : pu_I L (d + 2) 201 [.ref 58, .int v1, .int v2] M Q := by
  show pu_R L (d + 2) 201 0 [.ref 58, .int v1, .int v2, mq_un, mq_un, mq_un, mq_un, mq_un] [] M (pu_qI Q)
  refine pu_go 5 (pc' := 9) (ls' := [.ref 58, .int v1, .int v2, .int 0, mq_un, mq_un, mq_un, mq_un]) (st' := [.int 260, .int v1, .int 260]) (M' := M) rfl ?_
  refine pu_div rfl (by decide) ?_
  refine pu_go 4 (pc' := 16) (ls' := [.ref 58, .int v1, .int v2, .int 0, .int (260 * (v1 / 260)), .int v1, mq_un, mq_un]) (st' := []) (M' := M) rfl ?_
  exact H
/-! m_byLaw (II)I -/
set_option maxRecDepth 20000 in
theorem r_m_byLaw_2 {L d : Nat} {M : pu_M} {Q : Int32 → pu_M → Prop} {v1 : Int32} {v2 : Int32} {v3 : Int32} (H : (if (M 58 13) ≤ v3 then Q 0 M else (mq_inb v3 16 = true ∧ (if (M 70 v3.toNatClampNeg) = v1 then (mq_inb v3 16 = true ∧ (mq_inb v3 16 = true ∧ pu_I L (d + 2) 201 [.ref 58, .int (M 72 v3.toNatClampNeg), .int (M 73 v3.toNatClampNeg)] M (fun x5 M4 => (if x5 = 1 then (mq_inb v3 16 = true ∧ (mq_inb v3 16 = true ∧ pu_I L (d + 2) 201 [.ref 58, .int (M4 71 v3.toNatClampNeg), .int (M4 72 v3.toNatClampNeg)] M4 (fun x9 M8 => (if 0 ≤ x9 then (if x9 ≤ v2 then Q x9 M8 else Q v2 M8) else Q 0 M8)))) else pu_R L (d + 3) 202 2 [.ref 58, .int v1, .int v2, .int (v3 + 1), mq_un] [] M4 (pu_qI Q))))) else pu_R L (d + 3) 202 2 [.ref 58, .int v1, .int v2, .int (v3 + 1), mq_un] [] M (pu_qI Q))))) : pu_R L (d + 3) 202 2 [.ref 58, .int v1, .int v2, .int v3, mq_un] [] M (pu_qI Q) := by
  refine pu_go 3 (pc' := 7) (ls' := [.ref 58, .int v1, .int v2, .int v3, mq_un]) (st' := [.int (M 58 13), .int v3]) (M' := M) rfl ?_
  refine pu_icmp_ge rfl (fun hc => ?_) (fun hc => ?_)
  · replace H := Eq.mp (if_pos hc) H
    refine pu_go 1 (pc' := 90) (ls' := [.ref 58, .int v1, .int v2, .int v3, mq_un]) (st' := [.int 0]) (M' := M) rfl ?_
    exact pu_ret rfl rfl ⟨_, rfl, H⟩
  · replace H := Eq.mp (if_neg hc) H
    refine pu_go 3 (pc' := 15) (ls' := [.ref 58, .int v1, .int v2, .int v3, mq_un]) (st' := [.int v3, .ref 70]) (M' := M) rfl ?_
    obtain ⟨hb1, H⟩ := H
    refine pu_iald rfl rfl (Or.inl (by decide)) hb1 ?_
    refine pu_go 1 (pc' := 17) (ls' := [.ref 58, .int v1, .int v2, .int v3, mq_un]) (st' := [.int v1, .int (M 70 v3.toNatClampNeg)]) (M' := M) rfl ?_
    refine pu_icmp_ne rfl (fun hc => ?_) (fun hc => ?_)
    · replace H := Eq.mp (if_neg hc) H
      refine pu_go 2 (pc' := 2) (ls' := [.ref 58, .int v1, .int v2, .int (v3 + 1), mq_un]) (st' := []) (M' := M) rfl ?_
      exact H
    · replace H := Eq.mp (if_pos hc) H
      refine pu_go 4 (pc' := 26) (ls' := [.ref 58, .int v1, .int v2, .int v3, mq_un]) (st' := [.int v3, .ref 72, .ref 58]) (M' := M) rfl ?_
      obtain ⟨hb2, H⟩ := H
      refine pu_iald rfl rfl (Or.inl (by decide)) hb2 ?_
      refine pu_go 3 (pc' := 32) (ls' := [.ref 58, .int v1, .int v2, .int v3, mq_un]) (st' := [.int v3, .ref 73, .int (M 72 v3.toNatClampNeg), .ref 58]) (M' := M) rfl ?_
      obtain ⟨hb3, H⟩ := H
      refine pu_iald rfl rfl (Or.inl (by decide)) hb3 ?_
      refine pu_callI (m' := 201) (ml := 8) (as := [.ref 58, .int (M 72 v3.toNatClampNeg), .int (M 73 v3.toNatClampNeg)]) (rest := []) rfl rfl rfl (Nat.le_of_ble_eq_true rfl) H (fun x5 M4 H => ?_)
      show pu_R L (d + 3) 202 36 [.ref 58, .int v1, .int v2, .int v3, mq_un] [.int x5] M4 _
      refine pu_go 1 (pc' := 37) (ls' := [.ref 58, .int v1, .int v2, .int v3, mq_un]) (st' := [.int 1, .int x5]) (M' := M4) rfl ?_
      refine pu_icmp_eq rfl (fun hc => ?_) (fun hc => ?_)
      · replace H := Eq.mp (if_pos hc) H
        refine pu_go 4 (pc' := 49) (ls' := [.ref 58, .int v1, .int v2, .int v3, mq_un]) (st' := [.int v3, .ref 71, .ref 58]) (M' := M4) rfl ?_
        obtain ⟨hb6, H⟩ := H
        refine pu_iald rfl rfl (Or.inl (by decide)) hb6 ?_
        refine pu_go 3 (pc' := 55) (ls' := [.ref 58, .int v1, .int v2, .int v3, mq_un]) (st' := [.int v3, .ref 72, .int (M4 71 v3.toNatClampNeg), .ref 58]) (M' := M4) rfl ?_
        obtain ⟨hb7, H⟩ := H
        refine pu_iald rfl rfl (Or.inl (by decide)) hb7 ?_
        refine pu_callI (m' := 201) (ml := 8) (as := [.ref 58, .int (M4 71 v3.toNatClampNeg), .int (M4 72 v3.toNatClampNeg)]) (rest := []) rfl rfl rfl (Nat.le_of_ble_eq_true rfl) H (fun x9 M8 H => ?_)
        show pu_R L (d + 3) 202 59 [.ref 58, .int v1, .int v2, .int v3, mq_un] [.int x9] M8 _
        refine pu_go 2 (pc' := 63) (ls' := [.ref 58, .int v1, .int v2, .int v3, .int x9]) (st' := [.int x9]) (M' := M8) rfl ?_
        refine pu_if_ge rfl (fun hc => ?_) (fun hc => ?_)
        · replace H := Eq.mp (if_pos hc) H
          refine pu_go 2 (pc' := 73) (ls' := [.ref 58, .int v1, .int v2, .int v3, .int x9]) (st' := [.int v2, .int x9]) (M' := M8) rfl ?_
          refine pu_icmp_le rfl (fun hc => ?_) (fun hc => ?_)
          · replace H := Eq.mp (if_pos hc) H
            refine pu_go 1 (pc' := 82) (ls' := [.ref 58, .int v1, .int v2, .int v3, .int x9]) (st' := [.int x9]) (M' := M8) rfl ?_
            exact pu_ret rfl rfl ⟨_, rfl, H⟩
          · replace H := Eq.mp (if_neg hc) H
            refine pu_go 2 (pc' := 82) (ls' := [.ref 58, .int v1, .int v2, .int v3, .int x9]) (st' := [.int v2]) (M' := M8) rfl ?_
            exact pu_ret rfl rfl ⟨_, rfl, H⟩
        · replace H := Eq.mp (if_neg hc) H
          refine pu_go 2 (pc' := 82) (ls' := [.ref 58, .int v1, .int v2, .int v3, .int x9]) (st' := [.int 0]) (M' := M8) rfl ?_
          exact pu_ret rfl rfl ⟨_, rfl, H⟩
      · replace H := Eq.mp (if_neg hc) H
        refine pu_go 3 (pc' := 2) (ls' := [.ref 58, .int v1, .int v2, .int (v3 + 1), mq_un]) (st' := []) (M' := M4) rfl ?_
        exact H
set_option maxRecDepth 20000 in
theorem r_m_byLaw {L d : Nat} {M : pu_M} {Q : Int32 → pu_M → Prop} {v1 : Int32} {v2 : Int32} (H : pu_R L (d + 3) 202 2 [.ref 58, .int v1, .int v2, .int 0, mq_un] [] M (pu_qI Q)) : pu_I L (d + 3) 202 [.ref 58, .int v1, .int v2] M Q := by
  show pu_R L (d + 3) 202 0 [.ref 58, .int v1, .int v2, mq_un, mq_un] [] M (pu_qI Q)
  refine pu_go 2 (pc' := 2) (ls' := [.ref 58, .int v1, .int v2, .int 0, mq_un]) (st' := []) (M' := M) rfl ?_
  exact H
/-! m_holdsAny (I)Z -/
set_option maxRecDepth 20000 in
theorem r_m_holdsAny_2 {L d : Nat} {M : pu_M} {Q : Int32 → pu_M → Prop} {v1 : Int32} {v2 : Int32} (H : (if (M 58 13) ≤ v2 then Q 0 M else (mq_inb v2 16 = true ∧ (if (M 70 v2.toNatClampNeg) = v1 then (mq_inb v2 16 = true ∧ (mq_inb v2 16 = true ∧ pu_I L (d + 2) 201 [.ref 58, .int (M 72 v2.toNatClampNeg), .int (M 73 v2.toNatClampNeg)] M (fun x5 M4 => (if x5 = 1 then Q 1 M4 else pu_R L (d + 3) 203 2 [.ref 58, .int v1, .int (v2 + 1)] [] M4 (pu_qI Q))))) else pu_R L (d + 3) 203 2 [.ref 58, .int v1, .int (v2 + 1)] [] M (pu_qI Q))))) : pu_R L (d + 3) 203 2 [.ref 58, .int v1, .int v2] [] M (pu_qI Q) := by
  refine pu_go 3 (pc' := 7) (ls' := [.ref 58, .int v1, .int v2]) (st' := [.int (M 58 13), .int v2]) (M' := M) rfl ?_
  refine pu_icmp_ge rfl (fun hc => ?_) (fun hc => ?_)
  · replace H := Eq.mp (if_pos hc) H
    refine pu_go 1 (pc' := 49) (ls' := [.ref 58, .int v1, .int v2]) (st' := [.int 0]) (M' := M) rfl ?_
    exact pu_ret rfl rfl ⟨_, rfl, H⟩
  · replace H := Eq.mp (if_neg hc) H
    refine pu_go 3 (pc' := 15) (ls' := [.ref 58, .int v1, .int v2]) (st' := [.int v2, .ref 70]) (M' := M) rfl ?_
    obtain ⟨hb1, H⟩ := H
    refine pu_iald rfl rfl (Or.inl (by decide)) hb1 ?_
    refine pu_go 1 (pc' := 17) (ls' := [.ref 58, .int v1, .int v2]) (st' := [.int v1, .int (M 70 v2.toNatClampNeg)]) (M' := M) rfl ?_
    refine pu_icmp_ne rfl (fun hc => ?_) (fun hc => ?_)
    · replace H := Eq.mp (if_neg hc) H
      refine pu_go 2 (pc' := 2) (ls' := [.ref 58, .int v1, .int (v2 + 1)]) (st' := []) (M' := M) rfl ?_
      exact H
    · replace H := Eq.mp (if_pos hc) H
      refine pu_go 4 (pc' := 26) (ls' := [.ref 58, .int v1, .int v2]) (st' := [.int v2, .ref 72, .ref 58]) (M' := M) rfl ?_
      obtain ⟨hb2, H⟩ := H
      refine pu_iald rfl rfl (Or.inl (by decide)) hb2 ?_
      refine pu_go 3 (pc' := 32) (ls' := [.ref 58, .int v1, .int v2]) (st' := [.int v2, .ref 73, .int (M 72 v2.toNatClampNeg), .ref 58]) (M' := M) rfl ?_
      obtain ⟨hb3, H⟩ := H
      refine pu_iald rfl rfl (Or.inl (by decide)) hb3 ?_
      refine pu_callI (m' := 201) (ml := 8) (as := [.ref 58, .int (M 72 v2.toNatClampNeg), .int (M 73 v2.toNatClampNeg)]) (rest := []) rfl rfl rfl (Nat.le_of_ble_eq_true rfl) H (fun x5 M4 H => ?_)
      show pu_R L (d + 3) 203 36 [.ref 58, .int v1, .int v2] [.int x5] M4 _
      refine pu_go 1 (pc' := 37) (ls' := [.ref 58, .int v1, .int v2]) (st' := [.int 1, .int x5]) (M' := M4) rfl ?_
      refine pu_icmp_ne rfl (fun hc => ?_) (fun hc => ?_)
      · replace H := Eq.mp (if_neg hc) H
        refine pu_go 2 (pc' := 2) (ls' := [.ref 58, .int v1, .int (v2 + 1)]) (st' := []) (M' := M4) rfl ?_
        exact H
      · replace H := Eq.mp (if_pos hc) H
        refine pu_go 1 (pc' := 41) (ls' := [.ref 58, .int v1, .int v2]) (st' := [.int 1]) (M' := M4) rfl ?_
        exact pu_ret rfl rfl ⟨_, rfl, H⟩
set_option maxRecDepth 20000 in
theorem r_m_holdsAny {L d : Nat} {M : pu_M} {Q : Int32 → pu_M → Prop} {v1 : Int32} (H : pu_R L (d + 3) 203 2 [.ref 58, .int v1, .int 0] [] M (pu_qI Q)) : pu_I L (d + 3) 203 [.ref 58, .int v1] M Q := by
  show pu_R L (d + 3) 203 0 [.ref 58, .int v1, mq_un] [] M (pu_qI Q)
  refine pu_go 2 (pc' := 2) (ls' := [.ref 58, .int v1, .int 0]) (st' := []) (M' := M) rfl ?_
  exact H
/-! m_feels (II)V -/
set_option maxRecDepth 20000 in
theorem r_m_feels_128 {L d : Nat} {M : pu_M} {Q : pu_M → Prop} {v1 : Int32} {v2 : Int32} {v3 : Int32} {s1 : Int32} {s2 : Int32} (H : (mq_inb s1 8 = true ∧ pu_I L (d + 4) 171 [.ref 58, .int v1] (pu_wr M 75 s1.toNatClampNeg s2) (fun x3 M2 => pu_I L (d + 4) 162 [.int x3] M2 (fun x5 M4 => Q (pu_wr (pu_wr M4 75 (6 : Int32).toNatClampNeg x5) 75 (7 : Int32).toNatClampNeg (((pu_wr M4 75 (6 : Int32).toNatClampNeg x5) 59 (64 : Int32).toNatClampNeg) % 100)))))) : pu_R L (d + 5) 204 128 [.ref 58, .int v1, .int v2, .int v3] [.int s2, .int s1, .ref 75] M (pu_qV Q) := by
  obtain ⟨hb1, H⟩ := H
  refine pu_iast rfl rfl (by decide) hb1 ?_
  refine pu_go 5 (pc' := 137) (ls' := [.ref 58, .int v1, .int v2, .int v3]) (st' := [.int v1, .ref 58, .int 6, .ref 75]) (M' := pu_wr M 75 s1.toNatClampNeg s2) rfl ?_
  refine pu_callI (m' := 171) (ml := 4) (as := [.ref 58, .int v1]) (rest := [.int 6, .ref 75]) rfl rfl rfl (Nat.le_of_ble_eq_true rfl) H (fun x3 M2 H => ?_)
  show pu_R L (d + 5) 204 140 [.ref 58, .int v1, .int v2, .int v3] [.int x3, .int 6, .ref 75] M2 _
  refine pu_callI (m' := 162) (ml := 3) (as := [.int x3]) (rest := [.int 6, .ref 75]) rfl rfl rfl (Nat.le_of_ble_eq_true rfl) H (fun x5 M4 H => ?_)
  show pu_R L (d + 5) 204 143 [.ref 58, .int v1, .int v2, .int v3] [.int x5, .int 6, .ref 75] M4 _
  refine pu_iast rfl rfl (by decide) rfl ?_
  refine pu_go 6 (pc' := 156) (ls' := [.ref 58, .int v1, .int v2, .int v3]) (st' := [.int 64, .ref 59, .int 7, .ref 75]) (M' := pu_wr M4 75 (6 : Int32).toNatClampNeg x5) rfl ?_
  refine pu_iald rfl rfl (Or.inl (by decide)) rfl ?_
  refine pu_go 1 (pc' := 159) (ls' := [.ref 58, .int v1, .int v2, .int v3]) (st' := [.int 100, .int ((pu_wr M4 75 (6 : Int32).toNatClampNeg x5) 59 (64 : Int32).toNatClampNeg), .int 7, .ref 75]) (M' := pu_wr M4 75 (6 : Int32).toNatClampNeg x5) rfl ?_
  refine pu_rem rfl (by decide) ?_
  refine pu_iast rfl rfl (by decide) rfl ?_
  exact pu_ret rfl rfl ⟨rfl, H⟩
set_option maxRecDepth 20000 in
theorem r_m_feels_90 {L d : Nat} {M : pu_M} {Q : pu_M → Prop} {v1 : Int32} {v2 : Int32} {v3 : Int32} {s1 : Int32} {s2 : Int32} (H : (mq_inb s1 8 = true ∧ (mq_inb (32 + v1) 66 = true ∧ (if v3 = 0 then pu_R L (d + 5) 204 128 [.ref 58, .int v1, .int v2, .int v3] [.int 0, .int 5, .ref 75] (pu_wr (pu_wr M 75 s1.toNatClampNeg s2) 75 (4 : Int32).toNatClampNeg ((pu_wr M 75 s1.toNatClampNeg s2) 59 (32 + v1 : Int32).toNatClampNeg)) (pu_qV Q) else (mq_inb (32 + v2) 66 = true ∧ pu_R L (d + 5) 204 128 [.ref 58, .int v1, .int v2, .int v3] [.int ((pu_wr (pu_wr M 75 s1.toNatClampNeg s2) 75 (4 : Int32).toNatClampNeg ((pu_wr M 75 s1.toNatClampNeg s2) 59 (32 + v1 : Int32).toNatClampNeg)) 59 (32 + v2 : Int32).toNatClampNeg), .int 5, .ref 75] (pu_wr (pu_wr M 75 s1.toNatClampNeg s2) 75 (4 : Int32).toNatClampNeg ((pu_wr M 75 s1.toNatClampNeg s2) 59 (32 + v1 : Int32).toNatClampNeg)) (pu_qV Q)))))) : pu_R L (d + 5) 204 90 [.ref 58, .int v1, .int v2, .int v3] [.int s2, .int s1, .ref 75] M (pu_qV Q) := by
  obtain ⟨hb1, H⟩ := H
  refine pu_iast rfl rfl (by decide) hb1 ?_
  refine pu_go 8 (pc' := 104) (ls' := [.ref 58, .int v1, .int v2, .int v3]) (st' := [.int (32 + v1), .ref 59, .int 4, .ref 75]) (M' := pu_wr M 75 s1.toNatClampNeg s2) rfl ?_
  obtain ⟨hb2, H⟩ := H
  refine pu_iald rfl rfl (Or.inl (by decide)) hb2 ?_
  refine pu_iast rfl rfl (by decide) rfl ?_
  refine pu_go 4 (pc' := 112) (ls' := [.ref 58, .int v1, .int v2, .int v3]) (st' := [.int v3, .int 5, .ref 75]) (M' := pu_wr (pu_wr M 75 s1.toNatClampNeg s2) 75 (4 : Int32).toNatClampNeg ((pu_wr M 75 s1.toNatClampNeg s2) 59 (32 + v1 : Int32).toNatClampNeg)) rfl ?_
  refine pu_if_eq rfl (fun hc => ?_) (fun hc => ?_)
  · replace H := Eq.mp (if_pos hc) H
    refine pu_go 1 (pc' := 128) (ls' := [.ref 58, .int v1, .int v2, .int v3]) (st' := [.int 0, .int 5, .ref 75]) (M' := pu_wr (pu_wr M 75 s1.toNatClampNeg s2) 75 (4 : Int32).toNatClampNeg ((pu_wr M 75 s1.toNatClampNeg s2) 59 (32 + v1 : Int32).toNatClampNeg)) rfl ?_
    exact H
  · replace H := Eq.mp (if_neg hc) H
    refine pu_go 5 (pc' := 123) (ls' := [.ref 58, .int v1, .int v2, .int v3]) (st' := [.int (32 + v2), .ref 59, .int 5, .ref 75]) (M' := pu_wr (pu_wr M 75 s1.toNatClampNeg s2) 75 (4 : Int32).toNatClampNeg ((pu_wr M 75 s1.toNatClampNeg s2) 59 (32 + v1 : Int32).toNatClampNeg)) rfl ?_
    obtain ⟨hb3, H⟩ := H
    refine pu_iald rfl rfl (Or.inl (by decide)) hb3 ?_
    refine pu_go 1 (pc' := 128) (ls' := [.ref 58, .int v1, .int v2, .int v3]) (st' := [.int ((pu_wr (pu_wr M 75 s1.toNatClampNeg s2) 75 (4 : Int32).toNatClampNeg ((pu_wr M 75 s1.toNatClampNeg s2) 59 (32 + v1 : Int32).toNatClampNeg)) 59 (32 + v2 : Int32).toNatClampNeg), .int 5, .ref 75]) (M' := pu_wr (pu_wr M 75 s1.toNatClampNeg s2) 75 (4 : Int32).toNatClampNeg ((pu_wr M 75 s1.toNatClampNeg s2) 59 (32 + v1 : Int32).toNatClampNeg)) rfl ?_
    exact H
set_option maxRecDepth 20000 in
theorem r_m_feels_52 {L d : Nat} {M : pu_M} {Q : pu_M → Prop} {v1 : Int32} {v2 : Int32} {v3 : Int32} {s1 : Int32} {s2 : Int32} (H : (mq_inb s1 8 = true ∧ (if v3 = 0 then pu_R L (d + 5) 204 90 [.ref 58, .int v1, .int v2, .int v3] [.int 0, .int 3, .ref 75] (pu_wr M 75 s1.toNatClampNeg s2) (pu_qV Q) else (mq_inb (16 + v2) 66 = true ∧ (mq_inb (16 + v1) 66 = true ∧ pu_I L (d + 4) 162 [.int (((pu_wr M 75 s1.toNatClampNeg s2) 59 (16 + v2 : Int32).toNatClampNeg) &&& (((pu_wr M 75 s1.toNatClampNeg s2) 59 (16 + v1 : Int32).toNatClampNeg) ^^^ ((-1))))] (pu_wr M 75 s1.toNatClampNeg s2) (fun x5 M4 => pu_R L (d + 5) 204 90 [.ref 58, .int v1, .int v2, .int v3] [.int x5, .int 3, .ref 75] M4 (pu_qV Q))))))) : pu_R L (d + 5) 204 52 [.ref 58, .int v1, .int v2, .int v3] [.int s2, .int s1, .ref 75] M (pu_qV Q) := by
  obtain ⟨hb1, H⟩ := H
  refine pu_iast rfl rfl (by decide) hb1 ?_
  refine pu_go 4 (pc' := 59) (ls' := [.ref 58, .int v1, .int v2, .int v3]) (st' := [.int v3, .int 3, .ref 75]) (M' := pu_wr M 75 s1.toNatClampNeg s2) rfl ?_
  refine pu_if_eq rfl (fun hc => ?_) (fun hc => ?_)
  · replace H := Eq.mp (if_pos hc) H
    refine pu_go 1 (pc' := 90) (ls' := [.ref 58, .int v1, .int v2, .int v3]) (st' := [.int 0, .int 3, .ref 75]) (M' := pu_wr M 75 s1.toNatClampNeg s2) rfl ?_
    exact H
  · replace H := Eq.mp (if_neg hc) H
    refine pu_go 5 (pc' := 70) (ls' := [.ref 58, .int v1, .int v2, .int v3]) (st' := [.int (16 + v2), .ref 59, .int 3, .ref 75]) (M' := pu_wr M 75 s1.toNatClampNeg s2) rfl ?_
    obtain ⟨hb2, H⟩ := H
    refine pu_iald rfl rfl (Or.inl (by decide)) hb2 ?_
    refine pu_go 5 (pc' := 79) (ls' := [.ref 58, .int v1, .int v2, .int v3]) (st' := [.int (16 + v1), .ref 59, .int ((pu_wr M 75 s1.toNatClampNeg s2) 59 (16 + v2 : Int32).toNatClampNeg), .int 3, .ref 75]) (M' := pu_wr M 75 s1.toNatClampNeg s2) rfl ?_
    obtain ⟨hb3, H⟩ := H
    refine pu_iald rfl rfl (Or.inl (by decide)) hb3 ?_
    refine pu_go 3 (pc' := 83) (ls' := [.ref 58, .int v1, .int v2, .int v3]) (st' := [.int (((pu_wr M 75 s1.toNatClampNeg s2) 59 (16 + v2 : Int32).toNatClampNeg) &&& (((pu_wr M 75 s1.toNatClampNeg s2) 59 (16 + v1 : Int32).toNatClampNeg) ^^^ ((-1)))), .int 3, .ref 75]) (M' := pu_wr M 75 s1.toNatClampNeg s2) rfl ?_
    refine pu_callI (m' := 162) (ml := 3) (as := [.int (((pu_wr M 75 s1.toNatClampNeg s2) 59 (16 + v2 : Int32).toNatClampNeg) &&& (((pu_wr M 75 s1.toNatClampNeg s2) 59 (16 + v1 : Int32).toNatClampNeg) ^^^ ((-1))))]) (rest := [.int 3, .ref 75]) rfl rfl rfl (Nat.le_of_ble_eq_true rfl) H (fun x5 M4 H => ?_)
    show pu_R L (d + 5) 204 86 [.ref 58, .int v1, .int v2, .int v3] [.int x5, .int 3, .ref 75] M4 _
    refine pu_go 1 (pc' := 90) (ls' := [.ref 58, .int v1, .int v2, .int v3]) (st' := [.int x5, .int 3, .ref 75]) (M' := M4) rfl ?_
    exact H
set_option maxRecDepth 20000 in
theorem r_m_feels_10 {L d : Nat} {M : pu_M} {Q : pu_M → Prop} {v1 : Int32} {v2 : Int32} {s0 : Int32} (H : (if s0 = 0 then (if s0 = 0 then pu_R L (d + 5) 204 52 [.ref 58, .int v1, .int v2, .int s0] [.int 0, .int 2, .ref 75] (pu_wr (pu_wr M 75 (0 : Int32).toNatClampNeg v1) 75 (1 : Int32).toNatClampNeg 0) (pu_qV Q) else pu_I L (d + 4) 172 [.ref 58, .int v1, .int v2] (pu_wr (pu_wr M 75 (0 : Int32).toNatClampNeg v1) 75 (1 : Int32).toNatClampNeg 0) (fun x2 M1 => pu_R L (d + 5) 204 52 [.ref 58, .int v1, .int v2, .int s0] [.int x2, .int 2, .ref 75] M1 (pu_qV Q))) else (if s0 = 0 then pu_R L (d + 5) 204 52 [.ref 58, .int v1, .int v2, .int s0] [.int 0, .int 2, .ref 75] (pu_wr (pu_wr M 75 (0 : Int32).toNatClampNeg v1) 75 (1 : Int32).toNatClampNeg v2) (pu_qV Q) else pu_I L (d + 4) 172 [.ref 58, .int v1, .int v2] (pu_wr (pu_wr M 75 (0 : Int32).toNatClampNeg v1) 75 (1 : Int32).toNatClampNeg v2) (fun x4 M3 => pu_R L (d + 5) 204 52 [.ref 58, .int v1, .int v2, .int s0] [.int x4, .int 2, .ref 75] M3 (pu_qV Q))))) : pu_R L (d + 5) 204 10 [.ref 58, .int v1, .int v2, mq_un] [.int s0] M (pu_qV Q) := by
  refine pu_go 5 (pc' := 17) (ls' := [.ref 58, .int v1, .int v2, .int s0]) (st' := [.int v1, .int 0, .ref 75]) (M' := M) rfl ?_
  refine pu_iast rfl rfl (by decide) rfl ?_
  refine pu_go 4 (pc' := 24) (ls' := [.ref 58, .int v1, .int v2, .int s0]) (st' := [.int s0, .int 1, .ref 75]) (M' := pu_wr M 75 (0 : Int32).toNatClampNeg v1) rfl ?_
  refine pu_if_eq rfl (fun hc => ?_) (fun hc => ?_)
  · replace H := Eq.mp (if_pos hc) H
    refine pu_go 1 (pc' := 32) (ls' := [.ref 58, .int v1, .int v2, .int s0]) (st' := [.int 0, .int 1, .ref 75]) (M' := pu_wr M 75 (0 : Int32).toNatClampNeg v1) rfl ?_
    refine pu_iast rfl rfl (by decide) rfl ?_
    refine pu_go 4 (pc' := 39) (ls' := [.ref 58, .int v1, .int v2, .int s0]) (st' := [.int s0, .int 2, .ref 75]) (M' := pu_wr (pu_wr M 75 (0 : Int32).toNatClampNeg v1) 75 (1 : Int32).toNatClampNeg 0) rfl ?_
    refine pu_if_eq rfl (fun hc => ?_) (fun hc => ?_)
    · replace H := Eq.mp (if_pos hc) H
      refine pu_go 1 (pc' := 52) (ls' := [.ref 58, .int v1, .int v2, .int s0]) (st' := [.int 0, .int 2, .ref 75]) (M' := pu_wr (pu_wr M 75 (0 : Int32).toNatClampNeg v1) 75 (1 : Int32).toNatClampNeg 0) rfl ?_
      exact H
    · replace H := Eq.mp (if_neg hc) H
      refine pu_go 3 (pc' := 45) (ls' := [.ref 58, .int v1, .int v2, .int s0]) (st' := [.int v2, .int v1, .ref 58, .int 2, .ref 75]) (M' := pu_wr (pu_wr M 75 (0 : Int32).toNatClampNeg v1) 75 (1 : Int32).toNatClampNeg 0) rfl ?_
      refine pu_callI (m' := 172) (ml := 3) (as := [.ref 58, .int v1, .int v2]) (rest := [.int 2, .ref 75]) rfl rfl rfl (Nat.le_of_ble_eq_true rfl) H (fun x2 M1 H => ?_)
      show pu_R L (d + 5) 204 48 [.ref 58, .int v1, .int v2, .int s0] [.int x2, .int 2, .ref 75] M1 _
      refine pu_go 1 (pc' := 52) (ls' := [.ref 58, .int v1, .int v2, .int s0]) (st' := [.int x2, .int 2, .ref 75]) (M' := M1) rfl ?_
      exact H
  · replace H := Eq.mp (if_neg hc) H
    refine pu_go 2 (pc' := 32) (ls' := [.ref 58, .int v1, .int v2, .int s0]) (st' := [.int v2, .int 1, .ref 75]) (M' := pu_wr M 75 (0 : Int32).toNatClampNeg v1) rfl ?_
    refine pu_iast rfl rfl (by decide) rfl ?_
    refine pu_go 4 (pc' := 39) (ls' := [.ref 58, .int v1, .int v2, .int s0]) (st' := [.int s0, .int 2, .ref 75]) (M' := pu_wr (pu_wr M 75 (0 : Int32).toNatClampNeg v1) 75 (1 : Int32).toNatClampNeg v2) rfl ?_
    refine pu_if_eq rfl (fun hc => ?_) (fun hc => ?_)
    · replace H := Eq.mp (if_pos hc) H
      refine pu_go 1 (pc' := 52) (ls' := [.ref 58, .int v1, .int v2, .int s0]) (st' := [.int 0, .int 2, .ref 75]) (M' := pu_wr (pu_wr M 75 (0 : Int32).toNatClampNeg v1) 75 (1 : Int32).toNatClampNeg v2) rfl ?_
      exact H
    · replace H := Eq.mp (if_neg hc) H
      refine pu_go 3 (pc' := 45) (ls' := [.ref 58, .int v1, .int v2, .int s0]) (st' := [.int v2, .int v1, .ref 58, .int 2, .ref 75]) (M' := pu_wr (pu_wr M 75 (0 : Int32).toNatClampNeg v1) 75 (1 : Int32).toNatClampNeg v2) rfl ?_
      refine pu_callI (m' := 172) (ml := 3) (as := [.ref 58, .int v1, .int v2]) (rest := [.int 2, .ref 75]) rfl rfl rfl (Nat.le_of_ble_eq_true rfl) H (fun x4 M3 H => ?_)
      show pu_R L (d + 5) 204 48 [.ref 58, .int v1, .int v2, .int s0] [.int x4, .int 2, .ref 75] M3 _
      refine pu_go 1 (pc' := 52) (ls' := [.ref 58, .int v1, .int v2, .int s0]) (st' := [.int x4, .int 2, .ref 75]) (M' := M3) rfl ?_
      exact H
set_option maxRecDepth 20000 in
theorem r_m_feels {L d : Nat} {M : pu_M} {Q : pu_M → Prop} {v1 : Int32} {v2 : Int32} (H : (if v2 = ((-1)) then pu_R L (d + 5) 204 10 [.ref 58, .int v1, .int v2, mq_un] [.int 0] M (pu_qV Q) else pu_R L (d + 5) 204 10 [.ref 58, .int v1, .int v2, mq_un] [.int 1] M (pu_qV Q))) : pu_V L (d + 5) 204 [.ref 58, .int v1, .int v2] M Q := by
  show pu_R L (d + 5) 204 0 [.ref 58, .int v1, .int v2, mq_un] [] M (pu_qV Q)
  refine pu_go 2 (pc' := 2) (ls' := [.ref 58, .int v1, .int v2, mq_un]) (st' := [.int ((-1)), .int v2]) (M' := M) rfl ?_
  refine pu_icmp_eq rfl (fun hc => ?_) (fun hc => ?_)
  · replace H := Eq.mp (if_pos hc) H
    refine pu_go 1 (pc' := 10) (ls' := [.ref 58, .int v1, .int v2, mq_un]) (st' := [.int 0]) (M' := M) rfl ?_
    exact H
  · replace H := Eq.mp (if_neg hc) H
    refine pu_go 2 (pc' := 10) (ls' := [.ref 58, .int v1, .int v2, mq_un]) (st' := [.int 1]) (M' := M) rfl ?_
    exact H
