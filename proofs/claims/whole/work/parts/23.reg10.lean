/-! m_couples (II)I -/
set_option maxRecDepth 20000 in
theorem r_m_couples_78 {L d : Nat} {M : pu_M} {Q : Int32 → pu_M → Prop} {v1 : Int32} {v2 : Int32} {v3 : Int32} (H : (if 16 ≤ v3 then pu_V L (d + 4) 237 [.ref 58] M (fun M1 => (if v2 = 100 then (mq_inb (((1 : Int32) <<< ((M1 58 45) &&& 31)) - 1) 1024 = true ∧ Q (M1 86 (((1 : Int32) <<< ((M1 58 45) &&& 31)) - 1 : Int32).toNatClampNeg) M1) else pu_I L (d + 4) 238 [.ref 58, .int v2] M1 (fun x3 M2 => Q x3 M2))) else pu_I L (d + 4) 161 [.int v1, .int v3] M (fun x6 M5 => (if x6 = 0 then pu_R L (d + 5) 239 78 [.ref 58, .int v1, .int v2, .int (v3 + 1)] [] M5 (pu_qI Q) else (mq_inb (M5 58 45) 10 = true ∧ pu_R L (d + 5) 239 78 [.ref 58, .int v1, .int v2, .int (v3 + 1)] [] (pu_wr (pu_wr M5 85 (M5 58 45 : Int32).toNatClampNeg v3) 58 45 (((pu_wr M5 85 (M5 58 45 : Int32).toNatClampNeg v3) 58 45) + 1)) (pu_qI Q)))))) : pu_R L (d + 5) 239 78 [.ref 58, .int v1, .int v2, .int v3] [] M (pu_qI Q) := by
  refine pu_go 2 (pc' := 81) (ls' := [.ref 58, .int v1, .int v2, .int v3]) (st' := [.int 16, .int v3]) (M' := M) rfl ?_
  refine pu_icmp_ge rfl (fun hc => ?_) (fun hc => ?_)
  · replace H := Eq.mp (if_pos hc) H
    refine pu_go 1 (pc' := 122) (ls' := [.ref 58, .int v1, .int v2, .int v3]) (st' := [.ref 58]) (M' := M) rfl ?_
    refine pu_callV (m' := 237) (ml := 4) (as := [.ref 58]) (rest := []) rfl rfl rfl (Nat.le_of_ble_eq_true rfl) H (fun M1 H => ?_)
    show pu_R L (d + 5) 239 125 [.ref 58, .int v1, .int v2, .int v3] [] M1 _
    refine pu_go 2 (pc' := 128) (ls' := [.ref 58, .int v1, .int v2, .int v3]) (st' := [.int 100, .int v2]) (M' := M1) rfl ?_
    refine pu_icmp_ne rfl (fun hc => ?_) (fun hc => ?_)
    · replace H := Eq.mp (if_neg hc) H
      refine pu_go 2 (pc' := 149) (ls' := [.ref 58, .int v1, .int v2, .int v3]) (st' := [.int v2, .ref 58]) (M' := M1) rfl ?_
      refine pu_callI (m' := 238) (ml := 6) (as := [.ref 58, .int v2]) (rest := []) rfl rfl rfl (Nat.le_of_ble_eq_true rfl) H (fun x3 M2 H => ?_)
      show pu_R L (d + 5) 239 152 [.ref 58, .int v1, .int v2, .int v3] [.int x3] M2 _
      exact pu_ret rfl rfl ⟨_, rfl, H⟩
    · replace H := Eq.mp (if_pos hc) H
      refine pu_go 8 (pc' := 143) (ls' := [.ref 58, .int v1, .int v2, .int v3]) (st' := [.int (((1 : Int32) <<< ((M1 58 45) &&& 31)) - 1), .ref 86]) (M' := M1) rfl ?_
      obtain ⟨hb4, H⟩ := H
      refine pu_iald rfl rfl (Or.inl (by decide)) hb4 ?_
      refine pu_go 1 (pc' := 152) (ls' := [.ref 58, .int v1, .int v2, .int v3]) (st' := [.int (M1 86 (((1 : Int32) <<< ((M1 58 45) &&& 31)) - 1 : Int32).toNatClampNeg)]) (M' := M1) rfl ?_
      exact pu_ret rfl rfl ⟨_, rfl, H⟩
  · replace H := Eq.mp (if_neg hc) H
    refine pu_go 2 (pc' := 86) (ls' := [.ref 58, .int v1, .int v2, .int v3]) (st' := [.int v3, .int v1]) (M' := M) rfl ?_
    refine pu_callI (m' := 161) (ml := 2) (as := [.int v1, .int v3]) (rest := []) rfl rfl rfl (Nat.le_of_ble_eq_true rfl) H (fun x6 M5 H => ?_)
    show pu_R L (d + 5) 239 89 [.ref 58, .int v1, .int v2, .int v3] [.int x6] M5 _
    refine pu_if_ne rfl (fun hc => ?_) (fun hc => ?_)
    · replace H := Eq.mp (if_neg hc) H
      refine pu_go 5 (pc' := 104) (ls' := [.ref 58, .int v1, .int v2, .int v3]) (st' := [.int v3, .int (M5 58 45), .ref 85]) (M' := M5) rfl ?_
      obtain ⟨hb7, H⟩ := H
      refine pu_iast rfl rfl (by decide) hb7 ?_
      refine pu_go 5 (pc' := 112) (ls' := [.ref 58, .int v1, .int v2, .int v3]) (st' := [.int (((pu_wr M5 85 (M5 58 45 : Int32).toNatClampNeg v3) 58 45) + 1), .ref 58]) (M' := pu_wr M5 85 (M5 58 45 : Int32).toNatClampNeg v3) rfl ?_
      refine pu_putf (j := 45) (z := ((pu_wr M5 85 (M5 58 45 : Int32).toNatClampNeg v3) 58 45) + 1) rfl rfl (by decide) rfl (by decide) rfl rfl pu_put_hw ?_
      refine pu_go 2 (pc' := 78) (ls' := [.ref 58, .int v1, .int v2, .int (v3 + 1)]) (st' := []) (M' := pu_wr (pu_wr M5 85 (M5 58 45 : Int32).toNatClampNeg v3) 58 45 (((pu_wr M5 85 (M5 58 45 : Int32).toNatClampNeg v3) 58 45) + 1)) rfl ?_
      exact H
    · replace H := Eq.mp (if_pos hc) H
      refine pu_go 3 (pc' := 78) (ls' := [.ref 58, .int v1, .int v2, .int (v3 + 1)]) (st' := []) (M' := M5) rfl ?_
      exact H
set_option maxRecDepth 20000 in
theorem r_m_couples_43 {L d : Nat} {M : pu_M} {Q : Int32 → pu_M → Prop} {v1 : Int32} {v2 : Int32} (H : pu_I L (d + 4) 166 [.ref 58] M (fun x2 M1 => (if (v1 &&& (x2 ^^^ ((-1)))) = 0 then (if v2 = 100 then pu_R L (d + 5) 239 78 [.ref 58, .int v1, .int v2, .int 0] [] (pu_wr M1 58 45 0) (pu_qI Q) else pu_I L (d + 4) 161 [.int v1, .int v2] M1 (fun x4 M3 => (if x4 = 0 then Q ((-3)) M3 else pu_R L (d + 5) 239 78 [.ref 58, .int v1, .int v2, .int 0] [] (pu_wr M3 58 45 0) (pu_qI Q)))) else Q ((-3)) M1))) : pu_R L (d + 5) 239 43 [.ref 58, .int v1, .int v2, mq_un] [] M (pu_qI Q) := by
  refine pu_go 2 (pc' := 45) (ls' := [.ref 58, .int v1, .int v2, mq_un]) (st' := [.ref 58, .int v1]) (M' := M) rfl ?_
  refine pu_callI (m' := 166) (ml := 3) (as := [.ref 58]) (rest := [.int v1]) rfl rfl rfl (Nat.le_of_ble_eq_true rfl) H (fun x2 M1 H => ?_)
  show pu_R L (d + 5) 239 48 [.ref 58, .int v1, .int v2, mq_un] [.int x2, .int v1] M1 _
  refine pu_go 3 (pc' := 51) (ls' := [.ref 58, .int v1, .int v2, mq_un]) (st' := [.int (v1 &&& (x2 ^^^ ((-1))))]) (M' := M1) rfl ?_
  refine pu_if_ne rfl (fun hc => ?_) (fun hc => ?_)
  · replace H := Eq.mp (if_neg hc) H
    refine pu_go 1 (pc' := 70) (ls' := [.ref 58, .int v1, .int v2, mq_un]) (st' := [.int ((-3))]) (M' := M1) rfl ?_
    exact pu_ret rfl rfl ⟨_, rfl, H⟩
  · replace H := Eq.mp (if_pos hc) H
    refine pu_go 2 (pc' := 57) (ls' := [.ref 58, .int v1, .int v2, mq_un]) (st' := [.int 100, .int v2]) (M' := M1) rfl ?_
    refine pu_icmp_eq rfl (fun hc => ?_) (fun hc => ?_)
    · replace H := Eq.mp (if_pos hc) H
      refine pu_go 2 (pc' := 73) (ls' := [.ref 58, .int v1, .int v2, mq_un]) (st' := [.int 0, .ref 58]) (M' := M1) rfl ?_
      refine pu_putf (j := 45) (z := 0) rfl rfl (by decide) rfl (by decide) rfl rfl pu_put_hw ?_
      refine pu_go 2 (pc' := 78) (ls' := [.ref 58, .int v1, .int v2, .int 0]) (st' := []) (M' := pu_wr M1 58 45 0) rfl ?_
      exact H
    · replace H := Eq.mp (if_neg hc) H
      refine pu_go 2 (pc' := 62) (ls' := [.ref 58, .int v1, .int v2, mq_un]) (st' := [.int v2, .int v1]) (M' := M1) rfl ?_
      refine pu_callI (m' := 161) (ml := 2) (as := [.int v1, .int v2]) (rest := []) rfl rfl rfl (Nat.le_of_ble_eq_true rfl) H (fun x4 M3 H => ?_)
      show pu_R L (d + 5) 239 65 [.ref 58, .int v1, .int v2, mq_un] [.int x4] M3 _
      refine pu_if_ne rfl (fun hc => ?_) (fun hc => ?_)
      · replace H := Eq.mp (if_neg hc) H
        refine pu_go 2 (pc' := 73) (ls' := [.ref 58, .int v1, .int v2, mq_un]) (st' := [.int 0, .ref 58]) (M' := M3) rfl ?_
        refine pu_putf (j := 45) (z := 0) rfl rfl (by decide) rfl (by decide) rfl rfl pu_put_hw ?_
        refine pu_go 2 (pc' := 78) (ls' := [.ref 58, .int v1, .int v2, .int 0]) (st' := []) (M' := pu_wr M3 58 45 0) rfl ?_
        exact H
      · replace H := Eq.mp (if_pos hc) H
        refine pu_go 1 (pc' := 70) (ls' := [.ref 58, .int v1, .int v2, mq_un]) (st' := [.int ((-3))]) (M' := M3) rfl ?_
        exact pu_ret rfl rfl ⟨_, rfl, H⟩
set_option maxRecDepth 20000 in
theorem r_m_couples {L d : Nat} {M : pu_M} {Q : Int32 → pu_M → Prop} {v1 : Int32} {v2 : Int32} (H : pu_I L (d + 4) 157 [.int v1, .int 0, .int 65535] M (fun x2 M1 => (if x2 = 0 then Q ((-1000)) M1 else pu_I L (d + 4) 162 [.int v1] M1 (fun x4 M3 => pu_I L (d + 4) 157 [.int x4, .int 2, .int 10] M3 (fun x6 M5 => (if x6 = 0 then Q ((-1000)) M5 else pu_I L (d + 4) 157 [.int v2, .int 0, .int 15] M5 (fun x8 M7 => (if x8 = 0 then (if v2 = 100 then pu_R L (d + 5) 239 43 [.ref 58, .int v1, .int v2, mq_un] [] M7 (pu_qI Q) else Q ((-1000)) M7) else pu_R L (d + 5) 239 43 [.ref 58, .int v1, .int v2, mq_un] [] M7 (pu_qI Q))))))))) : pu_I L (d + 5) 239 [.ref 58, .int v1, .int v2] M Q := by
  show pu_R L (d + 5) 239 0 [.ref 58, .int v1, .int v2, mq_un] [] M (pu_qI Q)
  refine pu_go 3 (pc' := 4) (ls' := [.ref 58, .int v1, .int v2, mq_un]) (st' := [.int 65535, .int 0, .int v1]) (M' := M) rfl ?_
  refine pu_callI (m' := 157) (ml := 3) (as := [.int v1, .int 0, .int 65535]) (rest := []) rfl rfl rfl (Nat.le_of_ble_eq_true rfl) H (fun x2 M1 H => ?_)
  show pu_R L (d + 5) 239 7 [.ref 58, .int v1, .int v2, mq_un] [.int x2] M1 _
  refine pu_if_eq rfl (fun hc => ?_) (fun hc => ?_)
  · replace H := Eq.mp (if_pos hc) H
    refine pu_go 1 (pc' := 42) (ls' := [.ref 58, .int v1, .int v2, mq_un]) (st' := [.int ((-1000))]) (M' := M1) rfl ?_
    exact pu_ret rfl rfl ⟨_, rfl, H⟩
  · replace H := Eq.mp (if_neg hc) H
    refine pu_go 1 (pc' := 11) (ls' := [.ref 58, .int v1, .int v2, mq_un]) (st' := [.int v1]) (M' := M1) rfl ?_
    refine pu_callI (m' := 162) (ml := 3) (as := [.int v1]) (rest := []) rfl rfl rfl (Nat.le_of_ble_eq_true rfl) H (fun x4 M3 H => ?_)
    show pu_R L (d + 5) 239 14 [.ref 58, .int v1, .int v2, mq_un] [.int x4] M3 _
    refine pu_go 2 (pc' := 17) (ls' := [.ref 58, .int v1, .int v2, mq_un]) (st' := [.int 10, .int 2, .int x4]) (M' := M3) rfl ?_
    refine pu_callI (m' := 157) (ml := 3) (as := [.int x4, .int 2, .int 10]) (rest := []) rfl rfl rfl (Nat.le_of_ble_eq_true rfl) H (fun x6 M5 H => ?_)
    show pu_R L (d + 5) 239 20 [.ref 58, .int v1, .int v2, mq_un] [.int x6] M5 _
    refine pu_if_eq rfl (fun hc => ?_) (fun hc => ?_)
    · replace H := Eq.mp (if_pos hc) H
      refine pu_go 1 (pc' := 42) (ls' := [.ref 58, .int v1, .int v2, mq_un]) (st' := [.int ((-1000))]) (M' := M5) rfl ?_
      exact pu_ret rfl rfl ⟨_, rfl, H⟩
    · replace H := Eq.mp (if_neg hc) H
      refine pu_go 3 (pc' := 27) (ls' := [.ref 58, .int v1, .int v2, mq_un]) (st' := [.int 15, .int 0, .int v2]) (M' := M5) rfl ?_
      refine pu_callI (m' := 157) (ml := 3) (as := [.int v2, .int 0, .int 15]) (rest := []) rfl rfl rfl (Nat.le_of_ble_eq_true rfl) H (fun x8 M7 H => ?_)
      show pu_R L (d + 5) 239 30 [.ref 58, .int v1, .int v2, mq_un] [.int x8] M7 _
      refine pu_if_ne rfl (fun hc => ?_) (fun hc => ?_)
      · replace H := Eq.mp (if_neg hc) H
        exact H
      · replace H := Eq.mp (if_pos hc) H
        refine pu_go 2 (pc' := 36) (ls' := [.ref 58, .int v1, .int v2, mq_un]) (st' := [.int 100, .int v2]) (M' := M7) rfl ?_
        refine pu_icmp_eq rfl (fun hc => ?_) (fun hc => ?_)
        · replace H := Eq.mp (if_pos hc) H
          exact H
        · replace H := Eq.mp (if_neg hc) H
          refine pu_go 1 (pc' := 42) (ls' := [.ref 58, .int v1, .int v2, mq_un]) (st' := [.int ((-1000))]) (M' := M7) rfl ?_
          exact pu_ret rfl rfl ⟨_, rfl, H⟩
/-! m_andBeside (I)I -/
set_option maxRecDepth 20000 in
theorem r_m_andBeside_4 {L d : Nat} {M : pu_M} {Q : Int32 → pu_M → Prop} {v1 : Int32} {v2 : Int32} {v3 : Int32} (H : (if 16 ≤ v3 then Q v2 M else pu_I L (d + 4) 161 [.int v1, .int v3] M (fun x2 M1 => (if x2 = 0 then pu_R L (d + 5) 240 4 [.ref 58, .int v1, .int v2, .int (v3 + 1)] [] M1 (pu_qI Q) else pu_I L (d + 4) 171 [.ref 58, .int v3] M1 (fun x4 M3 => pu_R L (d + 5) 240 4 [.ref 58, .int v1, .int (v2 ||| x4), .int (v3 + 1)] [] M3 (pu_qI Q)))))) : pu_R L (d + 5) 240 4 [.ref 58, .int v1, .int v2, .int v3] [] M (pu_qI Q) := by
  refine pu_go 2 (pc' := 7) (ls' := [.ref 58, .int v1, .int v2, .int v3]) (st' := [.int 16, .int v3]) (M' := M) rfl ?_
  refine pu_icmp_ge rfl (fun hc => ?_) (fun hc => ?_)
  · replace H := Eq.mp (if_pos hc) H
    refine pu_go 1 (pc' := 33) (ls' := [.ref 58, .int v1, .int v2, .int v3]) (st' := [.int v2]) (M' := M) rfl ?_
    exact pu_ret rfl rfl ⟨_, rfl, H⟩
  · replace H := Eq.mp (if_neg hc) H
    refine pu_go 2 (pc' := 12) (ls' := [.ref 58, .int v1, .int v2, .int v3]) (st' := [.int v3, .int v1]) (M' := M) rfl ?_
    refine pu_callI (m' := 161) (ml := 2) (as := [.int v1, .int v3]) (rest := []) rfl rfl rfl (Nat.le_of_ble_eq_true rfl) H (fun x2 M1 H => ?_)
    show pu_R L (d + 5) 240 15 [.ref 58, .int v1, .int v2, .int v3] [.int x2] M1 _
    refine pu_if_eq rfl (fun hc => ?_) (fun hc => ?_)
    · replace H := Eq.mp (if_pos hc) H
      refine pu_go 2 (pc' := 4) (ls' := [.ref 58, .int v1, .int v2, .int (v3 + 1)]) (st' := []) (M' := M1) rfl ?_
      exact H
    · replace H := Eq.mp (if_neg hc) H
      refine pu_go 3 (pc' := 21) (ls' := [.ref 58, .int v1, .int v2, .int v3]) (st' := [.int v3, .ref 58, .int v2]) (M' := M1) rfl ?_
      refine pu_callI (m' := 171) (ml := 4) (as := [.ref 58, .int v3]) (rest := [.int v2]) rfl rfl rfl (Nat.le_of_ble_eq_true rfl) H (fun x4 M3 H => ?_)
      show pu_R L (d + 5) 240 24 [.ref 58, .int v1, .int v2, .int v3] [.int x4, .int v2] M3 _
      refine pu_go 4 (pc' := 4) (ls' := [.ref 58, .int v1, .int (v2 ||| x4), .int (v3 + 1)]) (st' := []) (M' := M3) rfl ?_
      exact H
set_option maxRecDepth 20000 in
theorem r_m_andBeside {L d : Nat} {M : pu_M} {Q : Int32 → pu_M → Prop} {v1 : Int32} (H : pu_R L (d + 5) 240 4 [.ref 58, .int v1, .int v1, .int 0] [] M (pu_qI Q)) : pu_I L (d + 5) 240 [.ref 58, .int v1] M Q := by
  show pu_R L (d + 5) 240 0 [.ref 58, .int v1, mq_un, mq_un] [] M (pu_qI Q)
  refine pu_go 4 (pc' := 4) (ls' := [.ref 58, .int v1, .int v1, .int 0]) (st' := []) (M' := M) rfl ?_
  exact H
/-! m_heard (II)I -/
set_option maxRecDepth 20000 in
theorem r_m_heard_75 {L d : Nat} {M : pu_M} {Q : Int32 → pu_M → Prop} {v1 : Int32} {v2 : Int32} {v3 : Int32} {v4 : Int32} (H : pu_I L (d + 5) 240 [.ref 58, .int v3] M (fun x2 M1 => (if x2 = v3 then (if v2 = 0 then Q v4 M1 else Q v3 M1) else pu_I L (d + 5) 240 [.ref 58, .int v3] M1 (fun x4 M3 => pu_R L (d + 6) 241 75 [.ref 58, .int v1, .int v2, .int x4, .int (v4 + 1)] [] M3 (pu_qI Q))))) : pu_R L (d + 6) 241 75 [.ref 58, .int v1, .int v2, .int v3, .int v4] [] M (pu_qI Q) := by
  refine pu_go 2 (pc' := 77) (ls' := [.ref 58, .int v1, .int v2, .int v3, .int v4]) (st' := [.int v3, .ref 58]) (M' := M) rfl ?_
  refine pu_callI (m' := 240) (ml := 4) (as := [.ref 58, .int v3]) (rest := []) rfl rfl rfl (Nat.le_of_ble_eq_true rfl) H (fun x2 M1 H => ?_)
  show pu_R L (d + 6) 241 80 [.ref 58, .int v1, .int v2, .int v3, .int v4] [.int x2] M1 _
  refine pu_go 1 (pc' := 81) (ls' := [.ref 58, .int v1, .int v2, .int v3, .int v4]) (st' := [.int v3, .int x2]) (M' := M1) rfl ?_
  refine pu_icmp_eq rfl (fun hc => ?_) (fun hc => ?_)
  · replace H := Eq.mp (if_pos hc) H
    refine pu_go 1 (pc' := 100) (ls' := [.ref 58, .int v1, .int v2, .int v3, .int v4]) (st' := [.int v2]) (M' := M1) rfl ?_
    refine pu_if_ne rfl (fun hc => ?_) (fun hc => ?_)
    · replace H := Eq.mp (if_neg hc) H
      refine pu_go 1 (pc' := 109) (ls' := [.ref 58, .int v1, .int v2, .int v3, .int v4]) (st' := [.int v3]) (M' := M1) rfl ?_
      exact pu_ret rfl rfl ⟨_, rfl, H⟩
    · replace H := Eq.mp (if_pos hc) H
      refine pu_go 2 (pc' := 109) (ls' := [.ref 58, .int v1, .int v2, .int v3, .int v4]) (st' := [.int v4]) (M' := M1) rfl ?_
      exact pu_ret rfl rfl ⟨_, rfl, H⟩
  · replace H := Eq.mp (if_neg hc) H
    refine pu_go 2 (pc' := 86) (ls' := [.ref 58, .int v1, .int v2, .int v3, .int v4]) (st' := [.int v3, .ref 58]) (M' := M1) rfl ?_
    refine pu_callI (m' := 240) (ml := 4) (as := [.ref 58, .int v3]) (rest := []) rfl rfl rfl (Nat.le_of_ble_eq_true rfl) H (fun x4 M3 H => ?_)
    show pu_R L (d + 6) 241 89 [.ref 58, .int v1, .int v2, .int v3, .int v4] [.int x4] M3 _
    refine pu_go 6 (pc' := 75) (ls' := [.ref 58, .int v1, .int v2, .int x4, .int (v4 + 1)]) (st' := []) (M' := M3) rfl ?_
    exact H
set_option maxRecDepth 20000 in
theorem r_m_heard_26 {L d : Nat} {M : pu_M} {Q : Int32 → pu_M → Prop} {v1 : Int32} {v2 : Int32} {v3 : Int32} {v4 : Int32} (H : (if 16 ≤ v4 then pu_R L (d + 6) 241 75 [.ref 58, .int v1, .int v2, .int v3, .int 0] [] M (pu_qI Q) else pu_I L (d + 5) 164 [.ref 58, .int v4] M (fun x2 M1 => (if x2 = 0 then pu_R L (d + 6) 241 26 [.ref 58, .int v1, .int v2, .int v3, .int (v4 + 1)] [] M1 (pu_qI Q) else (mq_inb (16 + v4) 66 = true ∧ pu_I L (d + 5) 161 [.int (M1 59 (16 + v4 : Int32).toNatClampNeg), .int v1] M1 (fun x5 M4 => (if x5 = 0 then pu_R L (d + 6) 241 26 [.ref 58, .int v1, .int v2, .int v3, .int (v4 + 1)] [] M4 (pu_qI Q) else pu_R L (d + 6) 241 26 [.ref 58, .int v1, .int v2, .int (v3 ||| ((1 : Int32) <<< (v4 &&& 31))), .int (v4 + 1)] [] M4 (pu_qI Q)))))))) : pu_R L (d + 6) 241 26 [.ref 58, .int v1, .int v2, .int v3, .int v4] [] M (pu_qI Q) := by
  refine pu_go 2 (pc' := 30) (ls' := [.ref 58, .int v1, .int v2, .int v3, .int v4]) (st' := [.int 16, .int v4]) (M' := M) rfl ?_
  refine pu_icmp_ge rfl (fun hc => ?_) (fun hc => ?_)
  · replace H := Eq.mp (if_pos hc) H
    refine pu_go 2 (pc' := 75) (ls' := [.ref 58, .int v1, .int v2, .int v3, .int 0]) (st' := []) (M' := M) rfl ?_
    exact H
  · replace H := Eq.mp (if_neg hc) H
    refine pu_go 2 (pc' := 36) (ls' := [.ref 58, .int v1, .int v2, .int v3, .int v4]) (st' := [.int v4, .ref 58]) (M' := M) rfl ?_
    refine pu_callI (m' := 164) (ml := 2) (as := [.ref 58, .int v4]) (rest := []) rfl rfl rfl (Nat.le_of_ble_eq_true rfl) H (fun x2 M1 H => ?_)
    show pu_R L (d + 6) 241 39 [.ref 58, .int v1, .int v2, .int v3, .int v4] [.int x2] M1 _
    refine pu_if_eq rfl (fun hc => ?_) (fun hc => ?_)
    · replace H := Eq.mp (if_pos hc) H
      refine pu_go 2 (pc' := 26) (ls' := [.ref 58, .int v1, .int v2, .int v3, .int (v4 + 1)]) (st' := []) (M' := M1) rfl ?_
      exact H
    · replace H := Eq.mp (if_neg hc) H
      refine pu_go 5 (pc' := 51) (ls' := [.ref 58, .int v1, .int v2, .int v3, .int v4]) (st' := [.int (16 + v4), .ref 59]) (M' := M1) rfl ?_
      obtain ⟨hb3, H⟩ := H
      refine pu_iald rfl rfl (Or.inl (by decide)) hb3 ?_
      refine pu_go 1 (pc' := 53) (ls' := [.ref 58, .int v1, .int v2, .int v3, .int v4]) (st' := [.int v1, .int (M1 59 (16 + v4 : Int32).toNatClampNeg)]) (M' := M1) rfl ?_
      refine pu_callI (m' := 161) (ml := 2) (as := [.int (M1 59 (16 + v4 : Int32).toNatClampNeg), .int v1]) (rest := []) rfl rfl rfl (Nat.le_of_ble_eq_true rfl) H (fun x5 M4 H => ?_)
      show pu_R L (d + 6) 241 56 [.ref 58, .int v1, .int v2, .int v3, .int v4] [.int x5] M4 _
      refine pu_if_eq rfl (fun hc => ?_) (fun hc => ?_)
      · replace H := Eq.mp (if_pos hc) H
        refine pu_go 2 (pc' := 26) (ls' := [.ref 58, .int v1, .int v2, .int v3, .int (v4 + 1)]) (st' := []) (M' := M4) rfl ?_
        exact H
      · replace H := Eq.mp (if_neg hc) H
        refine pu_go 8 (pc' := 26) (ls' := [.ref 58, .int v1, .int v2, .int (v3 ||| ((1 : Int32) <<< (v4 &&& 31))), .int (v4 + 1)]) (st' := []) (M' := M4) rfl ?_
        exact H
set_option maxRecDepth 20000 in
theorem r_m_heard {L d : Nat} {M : pu_M} {Q : Int32 → pu_M → Prop} {v1 : Int32} {v2 : Int32} (H : pu_I L (d + 5) 157 [.int v1, .int 0, .int 15] M (fun x2 M1 => (if x2 = 0 then Q ((-1)) M1 else pu_I L (d + 5) 157 [.int v2, .int 0, .int 1] M1 (fun x4 M3 => (if x4 = 0 then Q ((-1)) M3 else pu_R L (d + 6) 241 26 [.ref 58, .int v1, .int v2, .int 0, .int 0] [] M3 (pu_qI Q)))))) : pu_I L (d + 6) 241 [.ref 58, .int v1, .int v2] M Q := by
  show pu_R L (d + 6) 241 0 [.ref 58, .int v1, .int v2, mq_un, mq_un] [] M (pu_qI Q)
  refine pu_go 3 (pc' := 4) (ls' := [.ref 58, .int v1, .int v2, mq_un, mq_un]) (st' := [.int 15, .int 0, .int v1]) (M' := M) rfl ?_
  refine pu_callI (m' := 157) (ml := 3) (as := [.int v1, .int 0, .int 15]) (rest := []) rfl rfl rfl (Nat.le_of_ble_eq_true rfl) H (fun x2 M1 H => ?_)
  show pu_R L (d + 6) 241 7 [.ref 58, .int v1, .int v2, mq_un, mq_un] [.int x2] M1 _
  refine pu_if_eq rfl (fun hc => ?_) (fun hc => ?_)
  · replace H := Eq.mp (if_pos hc) H
    refine pu_go 1 (pc' := 20) (ls' := [.ref 58, .int v1, .int v2, mq_un, mq_un]) (st' := [.int ((-1))]) (M' := M1) rfl ?_
    exact pu_ret rfl rfl ⟨_, rfl, H⟩
  · replace H := Eq.mp (if_neg hc) H
    refine pu_go 3 (pc' := 13) (ls' := [.ref 58, .int v1, .int v2, mq_un, mq_un]) (st' := [.int 1, .int 0, .int v2]) (M' := M1) rfl ?_
    refine pu_callI (m' := 157) (ml := 3) (as := [.int v2, .int 0, .int 1]) (rest := []) rfl rfl rfl (Nat.le_of_ble_eq_true rfl) H (fun x4 M3 H => ?_)
    show pu_R L (d + 6) 241 16 [.ref 58, .int v1, .int v2, mq_un, mq_un] [.int x4] M3 _
    refine pu_if_ne rfl (fun hc => ?_) (fun hc => ?_)
    · replace H := Eq.mp (if_neg hc) H
      refine pu_go 4 (pc' := 26) (ls' := [.ref 58, .int v1, .int v2, .int 0, .int 0]) (st' := []) (M' := M3) rfl ?_
      exact H
    · replace H := Eq.mp (if_pos hc) H
      refine pu_go 1 (pc' := 20) (ls' := [.ref 58, .int v1, .int v2, mq_un, mq_un]) (st' := [.int ((-1))]) (M' := M3) rfl ?_
      exact pu_ret rfl rfl ⟨_, rfl, H⟩
/-! m_circleOf (I)I -/
set_option maxRecDepth 20000 in
theorem r_m_circleOf_4 {L d : Nat} {M : pu_M} {Q : Int32 → pu_M → Prop} {v1 : Int32} {v2 : Int32} (H : pu_I L (d + 5) 240 [.ref 58, .int v2] M (fun x2 M1 => (if x2 = v2 then Q v2 M1 else pu_I L (d + 5) 240 [.ref 58, .int v2] M1 (fun x4 M3 => pu_R L (d + 6) 242 4 [.ref 58, .int v1, .int x4] [] M3 (pu_qI Q))))) : pu_R L (d + 6) 242 4 [.ref 58, .int v1, .int v2] [] M (pu_qI Q) := by
  refine pu_go 2 (pc' := 6) (ls' := [.ref 58, .int v1, .int v2]) (st' := [.int v2, .ref 58]) (M' := M) rfl ?_
  refine pu_callI (m' := 240) (ml := 4) (as := [.ref 58, .int v2]) (rest := []) rfl rfl rfl (Nat.le_of_ble_eq_true rfl) H (fun x2 M1 H => ?_)
  show pu_R L (d + 6) 242 9 [.ref 58, .int v1, .int v2] [.int x2] M1 _
  refine pu_go 1 (pc' := 10) (ls' := [.ref 58, .int v1, .int v2]) (st' := [.int v2, .int x2]) (M' := M1) rfl ?_
  refine pu_icmp_eq rfl (fun hc => ?_) (fun hc => ?_)
  · replace H := Eq.mp (if_pos hc) H
    refine pu_go 1 (pc' := 23) (ls' := [.ref 58, .int v1, .int v2]) (st' := [.int v2]) (M' := M1) rfl ?_
    exact pu_ret rfl rfl ⟨_, rfl, H⟩
  · replace H := Eq.mp (if_neg hc) H
    refine pu_go 2 (pc' := 15) (ls' := [.ref 58, .int v1, .int v2]) (st' := [.int v2, .ref 58]) (M' := M1) rfl ?_
    refine pu_callI (m' := 240) (ml := 4) (as := [.ref 58, .int v2]) (rest := []) rfl rfl rfl (Nat.le_of_ble_eq_true rfl) H (fun x4 M3 H => ?_)
    show pu_R L (d + 6) 242 18 [.ref 58, .int v1, .int v2] [.int x4] M3 _
    refine pu_go 2 (pc' := 4) (ls' := [.ref 58, .int v1, .int x4]) (st' := []) (M' := M3) rfl ?_
    exact H
set_option maxRecDepth 20000 in
theorem r_m_circleOf {L d : Nat} {M : pu_M} {Q : Int32 → pu_M → Prop} {v1 : Int32} (H : pu_R L (d + 6) 242 4 [.ref 58, .int v1, .int ((1 : Int32) <<< (v1 &&& 31))] [] M (pu_qI Q)) : pu_I L (d + 6) 242 [.ref 58, .int v1] M Q := by
  show pu_R L (d + 6) 242 0 [.ref 58, .int v1, mq_un] [] M (pu_qI Q)
  refine pu_go 4 (pc' := 4) (ls' := [.ref 58, .int v1, .int ((1 : Int32) <<< (v1 &&& 31))]) (st' := []) (M' := M) rfl ?_
  exact H
/-! m_circles (I)I -/
set_option maxRecDepth 20000 in
theorem r_m_circles_50 {L d : Nat} {M : pu_M} {Q : Int32 → pu_M → Prop} {v1 : Int32} {v2 : Int32} {v3 : Int32} {v4 : Int32} (H : (if 16 ≤ v4 then Q v3 M else pu_I L (d + 6) 161 [.int v2, .int v4] M (fun x2 M1 => (if x2 = 0 then pu_R L (d + 7) 243 50 [.ref 58, .int v1, .int v2, .int v3, .int (v4 + 1)] [] M1 (pu_qI Q) else pu_I L (d + 6) 242 [.ref 58, .int v4] M1 (fun x4 M3 => pu_R L (d + 7) 243 50 [.ref 58, .int v1, .int (v2 &&& (x4 ^^^ ((-1)))), .int (v3 + 1), .int (v4 + 1)] [] M3 (pu_qI Q)))))) : pu_R L (d + 7) 243 50 [.ref 58, .int v1, .int v2, .int v3, .int v4] [] M (pu_qI Q) := by
  refine pu_go 2 (pc' := 54) (ls' := [.ref 58, .int v1, .int v2, .int v3, .int v4]) (st' := [.int 16, .int v4]) (M' := M) rfl ?_
  refine pu_icmp_ge rfl (fun hc => ?_) (fun hc => ?_)
  · replace H := Eq.mp (if_pos hc) H
    refine pu_go 1 (pc' := 91) (ls' := [.ref 58, .int v1, .int v2, .int v3, .int v4]) (st' := [.int v3]) (M' := M) rfl ?_
    exact pu_ret rfl rfl ⟨_, rfl, H⟩
  · replace H := Eq.mp (if_neg hc) H
    refine pu_go 2 (pc' := 60) (ls' := [.ref 58, .int v1, .int v2, .int v3, .int v4]) (st' := [.int v4, .int v2]) (M' := M) rfl ?_
    refine pu_callI (m' := 161) (ml := 2) (as := [.int v2, .int v4]) (rest := []) rfl rfl rfl (Nat.le_of_ble_eq_true rfl) H (fun x2 M1 H => ?_)
    show pu_R L (d + 7) 243 63 [.ref 58, .int v1, .int v2, .int v3, .int v4] [.int x2] M1 _
    refine pu_if_ne rfl (fun hc => ?_) (fun hc => ?_)
    · replace H := Eq.mp (if_neg hc) H
      refine pu_go 3 (pc' := 73) (ls' := [.ref 58, .int v1, .int v2, .int v3, .int v4]) (st' := [.int v4, .ref 58, .int v2]) (M' := M1) rfl ?_
      refine pu_callI (m' := 242) (ml := 3) (as := [.ref 58, .int v4]) (rest := [.int v2]) rfl rfl rfl (Nat.le_of_ble_eq_true rfl) H (fun x4 M3 H => ?_)
      show pu_R L (d + 7) 243 76 [.ref 58, .int v1, .int v2, .int v3, .int v4] [.int x4, .int v2] M3 _
      refine pu_go 10 (pc' := 50) (ls' := [.ref 58, .int v1, .int (v2 &&& (x4 ^^^ ((-1)))), .int (v3 + 1), .int (v4 + 1)]) (st' := []) (M' := M3) rfl ?_
      exact H
    · replace H := Eq.mp (if_pos hc) H
      refine pu_go 3 (pc' := 50) (ls' := [.ref 58, .int v1, .int v2, .int v3, .int (v4 + 1)]) (st' := []) (M' := M1) rfl ?_
      exact H
set_option maxRecDepth 20000 in
theorem r_m_circles_16 {L d : Nat} {M : pu_M} {Q : Int32 → pu_M → Prop} {v1 : Int32} (H : (if v1 = 100 then pu_I L (d + 6) 167 [.ref 58] M (fun x2 M1 => pu_R L (d + 7) 243 50 [.ref 58, .int v1, .int x2, .int 0, .int 0] [] M1 (pu_qI Q)) else pu_I L (d + 6) 165 [.ref 58, .int v1] M (fun x4 M3 => (if x4 = 0 then Q 0 M3 else pu_I L (d + 6) 242 [.ref 58, .int v1] M3 (fun x6 M5 => Q x6 M5))))) : pu_R L (d + 7) 243 16 [.ref 58, .int v1, mq_un, mq_un, mq_un] [] M (pu_qI Q) := by
  refine pu_go 2 (pc' := 19) (ls' := [.ref 58, .int v1, mq_un, mq_un, mq_un]) (st' := [.int 100, .int v1]) (M' := M) rfl ?_
  refine pu_icmp_eq rfl (fun hc => ?_) (fun hc => ?_)
  · replace H := Eq.mp (if_pos hc) H
    refine pu_go 1 (pc' := 41) (ls' := [.ref 58, .int v1, mq_un, mq_un, mq_un]) (st' := [.ref 58]) (M' := M) rfl ?_
    refine pu_callI (m' := 167) (ml := 3) (as := [.ref 58]) (rest := []) rfl rfl rfl (Nat.le_of_ble_eq_true rfl) H (fun x2 M1 H => ?_)
    show pu_R L (d + 7) 243 44 [.ref 58, .int v1, mq_un, mq_un, mq_un] [.int x2] M1 _
    refine pu_go 5 (pc' := 50) (ls' := [.ref 58, .int v1, .int x2, .int 0, .int 0]) (st' := []) (M' := M1) rfl ?_
    exact H
  · replace H := Eq.mp (if_neg hc) H
    refine pu_go 2 (pc' := 24) (ls' := [.ref 58, .int v1, mq_un, mq_un, mq_un]) (st' := [.int v1, .ref 58]) (M' := M) rfl ?_
    refine pu_callI (m' := 165) (ml := 2) (as := [.ref 58, .int v1]) (rest := []) rfl rfl rfl (Nat.le_of_ble_eq_true rfl) H (fun x4 M3 H => ?_)
    show pu_R L (d + 7) 243 27 [.ref 58, .int v1, mq_un, mq_un, mq_un] [.int x4] M3 _
    refine pu_if_eq rfl (fun hc => ?_) (fun hc => ?_)
    · replace H := Eq.mp (if_pos hc) H
      refine pu_go 1 (pc' := 39) (ls' := [.ref 58, .int v1, mq_un, mq_un, mq_un]) (st' := [.int 0]) (M' := M3) rfl ?_
      exact pu_ret rfl rfl ⟨_, rfl, H⟩
    · replace H := Eq.mp (if_neg hc) H
      refine pu_go 2 (pc' := 32) (ls' := [.ref 58, .int v1, mq_un, mq_un, mq_un]) (st' := [.int v1, .ref 58]) (M' := M3) rfl ?_
      refine pu_callI (m' := 242) (ml := 3) (as := [.ref 58, .int v1]) (rest := []) rfl rfl rfl (Nat.le_of_ble_eq_true rfl) H (fun x6 M5 H => ?_)
      show pu_R L (d + 7) 243 35 [.ref 58, .int v1, mq_un, mq_un, mq_un] [.int x6] M5 _
      refine pu_go 1 (pc' := 39) (ls' := [.ref 58, .int v1, mq_un, mq_un, mq_un]) (st' := [.int x6]) (M' := M5) rfl ?_
      exact pu_ret rfl rfl ⟨_, rfl, H⟩
set_option maxRecDepth 20000 in
theorem r_m_circles {L d : Nat} {M : pu_M} {Q : Int32 → pu_M → Prop} {v1 : Int32} (H : (if v1 = 100 then pu_R L (d + 7) 243 16 [.ref 58, .int v1, mq_un, mq_un, mq_un] [] M (pu_qI Q) else pu_I L (d + 6) 164 [.ref 58, .int v1] M (fun x2 M1 => (if x2 = 0 then Q ((-1)) M1 else pu_R L (d + 7) 243 16 [.ref 58, .int v1, mq_un, mq_un, mq_un] [] M1 (pu_qI Q))))) : pu_I L (d + 7) 243 [.ref 58, .int v1] M Q := by
  show pu_R L (d + 7) 243 0 [.ref 58, .int v1, mq_un, mq_un, mq_un] [] M (pu_qI Q)
  refine pu_go 2 (pc' := 3) (ls' := [.ref 58, .int v1, mq_un, mq_un, mq_un]) (st' := [.int 100, .int v1]) (M' := M) rfl ?_
  refine pu_icmp_eq rfl (fun hc => ?_) (fun hc => ?_)
  · replace H := Eq.mp (if_pos hc) H
    exact H
  · replace H := Eq.mp (if_neg hc) H
    refine pu_go 2 (pc' := 8) (ls' := [.ref 58, .int v1, mq_un, mq_un, mq_un]) (st' := [.int v1, .ref 58]) (M' := M) rfl ?_
    refine pu_callI (m' := 164) (ml := 2) (as := [.ref 58, .int v1]) (rest := []) rfl rfl rfl (Nat.le_of_ble_eq_true rfl) H (fun x2 M1 H => ?_)
    show pu_R L (d + 7) 243 11 [.ref 58, .int v1, mq_un, mq_un, mq_un] [.int x2] M1 _
    refine pu_if_ne rfl (fun hc => ?_) (fun hc => ?_)
    · replace H := Eq.mp (if_neg hc) H
      exact H
    · replace H := Eq.mp (if_pos hc) H
      refine pu_go 1 (pc' := 15) (ls' := [.ref 58, .int v1, mq_un, mq_un, mq_un]) (st' := [.int ((-1))]) (M' := M1) rfl ?_
      exact pu_ret rfl rfl ⟨_, rfl, H⟩
/-! m_from (II)I -/
set_option maxRecDepth 20000 in
theorem r_m_from_56 {L d : Nat} {M : pu_M} {Q : Int32 → pu_M → Prop} {v1 : Int32} {v2 : Int32} {v3 : Int32} {v4 : Int32} (H : pu_I L (d + 6) 161 [.int v3, .int v2] M (fun x2 M1 => (if x2 = 0 then pu_I L (d + 6) 240 [.ref 58, .int v3] M1 (fun x4 M3 => pu_R L (d + 7) 244 56 [.ref 58, .int v1, .int v2, .int x4, .int (v4 + 1)] [] M3 (pu_qI Q)) else Q v4 M1))) : pu_R L (d + 7) 244 56 [.ref 58, .int v1, .int v2, .int v3, .int v4] [] M (pu_qI Q) := by
  refine pu_go 2 (pc' := 58) (ls' := [.ref 58, .int v1, .int v2, .int v3, .int v4]) (st' := [.int v2, .int v3]) (M' := M) rfl ?_
  refine pu_callI (m' := 161) (ml := 2) (as := [.int v3, .int v2]) (rest := []) rfl rfl rfl (Nat.le_of_ble_eq_true rfl) H (fun x2 M1 H => ?_)
  show pu_R L (d + 7) 244 61 [.ref 58, .int v1, .int v2, .int v3, .int v4] [.int x2] M1 _
  refine pu_if_ne rfl (fun hc => ?_) (fun hc => ?_)
  · replace H := Eq.mp (if_neg hc) H
    refine pu_go 1 (pc' := 81) (ls' := [.ref 58, .int v1, .int v2, .int v3, .int v4]) (st' := [.int v4]) (M' := M1) rfl ?_
    exact pu_ret rfl rfl ⟨_, rfl, H⟩
  · replace H := Eq.mp (if_pos hc) H
    refine pu_go 2 (pc' := 66) (ls' := [.ref 58, .int v1, .int v2, .int v3, .int v4]) (st' := [.int v3, .ref 58]) (M' := M1) rfl ?_
    refine pu_callI (m' := 240) (ml := 4) (as := [.ref 58, .int v3]) (rest := []) rfl rfl rfl (Nat.le_of_ble_eq_true rfl) H (fun x4 M3 H => ?_)
    show pu_R L (d + 7) 244 69 [.ref 58, .int v1, .int v2, .int v3, .int v4] [.int x4] M3 _
    refine pu_go 6 (pc' := 56) (ls' := [.ref 58, .int v1, .int v2, .int x4, .int (v4 + 1)]) (st' := []) (M' := M3) rfl ?_
    exact H
set_option maxRecDepth 20000 in
theorem r_m_from {L d : Nat} {M : pu_M} {Q : Int32 → pu_M → Prop} {v1 : Int32} {v2 : Int32} (H : pu_I L (d + 6) 164 [.ref 58, .int v1] M (fun x2 M1 => (if x2 = 0 then Q ((-1)) M1 else pu_I L (d + 6) 164 [.ref 58, .int v2] M1 (fun x4 M3 => (if x4 = 0 then Q ((-1)) M3 else pu_I L (d + 6) 165 [.ref 58, .int v1] M3 (fun x6 M5 => (if x6 = 0 then Q ((-2)) M5 else pu_I L (d + 6) 165 [.ref 58, .int v2] M5 (fun x8 M7 => (if x8 = 0 then Q ((-2)) M7 else pu_I L (d + 6) 242 [.ref 58, .int v1] M7 (fun x10 M9 => pu_I L (d + 6) 161 [.int x10, .int v2] M9 (fun x12 M11 => (if x12 = 0 then Q ((-2)) M11 else pu_R L (d + 7) 244 56 [.ref 58, .int v1, .int v2, .int ((1 : Int32) <<< (v1 &&& 31)), .int 0] [] M11 (pu_qI Q))))))))))))) : pu_I L (d + 7) 244 [.ref 58, .int v1, .int v2] M Q := by
  show pu_R L (d + 7) 244 0 [.ref 58, .int v1, .int v2, mq_un, mq_un] [] M (pu_qI Q)
  refine pu_go 2 (pc' := 2) (ls' := [.ref 58, .int v1, .int v2, mq_un, mq_un]) (st' := [.int v1, .ref 58]) (M' := M) rfl ?_
  refine pu_callI (m' := 164) (ml := 2) (as := [.ref 58, .int v1]) (rest := []) rfl rfl rfl (Nat.le_of_ble_eq_true rfl) H (fun x2 M1 H => ?_)
  show pu_R L (d + 7) 244 5 [.ref 58, .int v1, .int v2, mq_un, mq_un] [.int x2] M1 _
  refine pu_if_eq rfl (fun hc => ?_) (fun hc => ?_)
  · replace H := Eq.mp (if_pos hc) H
    refine pu_go 1 (pc' := 17) (ls' := [.ref 58, .int v1, .int v2, mq_un, mq_un]) (st' := [.int ((-1))]) (M' := M1) rfl ?_
    exact pu_ret rfl rfl ⟨_, rfl, H⟩
  · replace H := Eq.mp (if_neg hc) H
    refine pu_go 2 (pc' := 10) (ls' := [.ref 58, .int v1, .int v2, mq_un, mq_un]) (st' := [.int v2, .ref 58]) (M' := M1) rfl ?_
    refine pu_callI (m' := 164) (ml := 2) (as := [.ref 58, .int v2]) (rest := []) rfl rfl rfl (Nat.le_of_ble_eq_true rfl) H (fun x4 M3 H => ?_)
    show pu_R L (d + 7) 244 13 [.ref 58, .int v1, .int v2, mq_un, mq_un] [.int x4] M3 _
    refine pu_if_ne rfl (fun hc => ?_) (fun hc => ?_)
    · replace H := Eq.mp (if_neg hc) H
      refine pu_go 2 (pc' := 20) (ls' := [.ref 58, .int v1, .int v2, mq_un, mq_un]) (st' := [.int v1, .ref 58]) (M' := M3) rfl ?_
      refine pu_callI (m' := 165) (ml := 2) (as := [.ref 58, .int v1]) (rest := []) rfl rfl rfl (Nat.le_of_ble_eq_true rfl) H (fun x6 M5 H => ?_)
      show pu_R L (d + 7) 244 23 [.ref 58, .int v1, .int v2, mq_un, mq_un] [.int x6] M5 _
      refine pu_if_eq rfl (fun hc => ?_) (fun hc => ?_)
      · replace H := Eq.mp (if_pos hc) H
        refine pu_go 1 (pc' := 48) (ls' := [.ref 58, .int v1, .int v2, mq_un, mq_un]) (st' := [.int ((-2))]) (M' := M5) rfl ?_
        exact pu_ret rfl rfl ⟨_, rfl, H⟩
      · replace H := Eq.mp (if_neg hc) H
        refine pu_go 2 (pc' := 28) (ls' := [.ref 58, .int v1, .int v2, mq_un, mq_un]) (st' := [.int v2, .ref 58]) (M' := M5) rfl ?_
        refine pu_callI (m' := 165) (ml := 2) (as := [.ref 58, .int v2]) (rest := []) rfl rfl rfl (Nat.le_of_ble_eq_true rfl) H (fun x8 M7 H => ?_)
        show pu_R L (d + 7) 244 31 [.ref 58, .int v1, .int v2, mq_un, mq_un] [.int x8] M7 _
        refine pu_if_eq rfl (fun hc => ?_) (fun hc => ?_)
        · replace H := Eq.mp (if_pos hc) H
          refine pu_go 1 (pc' := 48) (ls' := [.ref 58, .int v1, .int v2, mq_un, mq_un]) (st' := [.int ((-2))]) (M' := M7) rfl ?_
          exact pu_ret rfl rfl ⟨_, rfl, H⟩
        · replace H := Eq.mp (if_neg hc) H
          refine pu_go 2 (pc' := 36) (ls' := [.ref 58, .int v1, .int v2, mq_un, mq_un]) (st' := [.int v1, .ref 58]) (M' := M7) rfl ?_
          refine pu_callI (m' := 242) (ml := 3) (as := [.ref 58, .int v1]) (rest := []) rfl rfl rfl (Nat.le_of_ble_eq_true rfl) H (fun x10 M9 H => ?_)
          show pu_R L (d + 7) 244 39 [.ref 58, .int v1, .int v2, mq_un, mq_un] [.int x10] M9 _
          refine pu_go 1 (pc' := 40) (ls' := [.ref 58, .int v1, .int v2, mq_un, mq_un]) (st' := [.int v2, .int x10]) (M' := M9) rfl ?_
          refine pu_callI (m' := 161) (ml := 2) (as := [.int x10, .int v2]) (rest := []) rfl rfl rfl (Nat.le_of_ble_eq_true rfl) H (fun x12 M11 H => ?_)
          show pu_R L (d + 7) 244 43 [.ref 58, .int v1, .int v2, mq_un, mq_un] [.int x12] M11 _
          refine pu_if_ne rfl (fun hc => ?_) (fun hc => ?_)
          · replace H := Eq.mp (if_neg hc) H
            refine pu_go 6 (pc' := 56) (ls' := [.ref 58, .int v1, .int v2, .int ((1 : Int32) <<< (v1 &&& 31)), .int 0]) (st' := []) (M' := M11) rfl ?_
            exact H
          · replace H := Eq.mp (if_pos hc) H
            refine pu_go 1 (pc' := 48) (ls' := [.ref 58, .int v1, .int v2, mq_un, mq_un]) (st' := [.int ((-2))]) (M' := M11) rfl ?_
            exact pu_ret rfl rfl ⟨_, rfl, H⟩
    · replace H := Eq.mp (if_pos hc) H
      refine pu_go 1 (pc' := 17) (ls' := [.ref 58, .int v1, .int v2, mq_un, mq_un]) (st' := [.int ((-1))]) (M' := M3) rfl ?_
      exact pu_ret rfl rfl ⟨_, rfl, H⟩
/-! m_sayingOf (I)I -/
set_option maxRecDepth 20000 in
theorem r_m_sayingOf {L d : Nat} {M : pu_M} {Q : Int32 → pu_M → Prop} {v1 : Int32} (H : pu_I L (d + 1) 177 [.ref 58, .int (2 * v1)] M (fun x2 M1 => pu_I L (d + 1) 177 [.ref 58, .int ((2 * v1) + 1)] M1 (fun x4 M3 => Q ((256 * x2) + x4) M3))) : pu_I L (d + 2) 245 [.ref 58, .int v1] M Q := by
  show pu_R L (d + 2) 245 0 [.ref 58, .int v1] [] M (pu_qI Q)
  refine pu_go 5 (pc' := 7) (ls' := [.ref 58, .int v1]) (st' := [.int (2 * v1), .ref 58, .int 256]) (M' := M) rfl ?_
  refine pu_callI (m' := 177) (ml := 2) (as := [.ref 58, .int (2 * v1)]) (rest := [.int 256]) rfl rfl rfl (Nat.le_of_ble_eq_true rfl) H (fun x2 M1 H => ?_)
  show pu_R L (d + 2) 245 10 [.ref 58, .int v1] [.int x2, .int 256] M1 _
  refine pu_go 7 (pc' := 17) (ls' := [.ref 58, .int v1]) (st' := [.int ((2 * v1) + 1), .ref 58, .int (256 * x2)]) (M' := M1) rfl ?_
  refine pu_callI (m' := 177) (ml := 2) (as := [.ref 58, .int ((2 * v1) + 1)]) (rest := [.int (256 * x2)]) rfl rfl rfl (Nat.le_of_ble_eq_true rfl) H (fun x4 M3 H => ?_)
  show pu_R L (d + 2) 245 20 [.ref 58, .int v1] [.int x4, .int (256 * x2)] M3 _
  refine pu_go 1 (pc' := 21) (ls' := [.ref 58, .int v1]) (st' := [.int ((256 * x2) + x4)]) (M' := M3) rfl ?_
  exact pu_ret rfl rfl ⟨_, rfl, H⟩
/-! m_thread (II)I -/
set_option maxRecDepth 20000 in
theorem r_m_thread_195 {L d : Nat} {M : pu_M} {Q : Int32 → pu_M → Prop} {v1 : Int32} {v2 : Int32} {v3 : Int32} {v4 : Int32} {v5 : Int32} {v6 : Int32} (H : (mq_inb v6 20 = true ∧ (if (M 87 v6.toNatClampNeg) = (v3 - v5) then pu_I L (d + 2) 245 [.ref 58, .int v4] M (fun x3 M2 => pu_I L (d + 2) 245 [.ref 58, .int v6] M2 (fun x5 M4 => (if (x3 &&& x5) = 0 then pu_R L (d + 3) 246 195 [.ref 58, .int v1, .int v2, .int v3, .int v4, .int v5, .int (v6 + 1)] [] M4 (pu_qI Q) else pu_R L (d + 3) 246 183 [.ref 58, .int v1, .int v2, .int v3, .int v6, .int (v5 + 1), .int v6] [] M4 (pu_qI Q)))) else pu_R L (d + 3) 246 195 [.ref 58, .int v1, .int v2, .int v3, .int v4, .int v5, .int (v6 + 1)] [] M (pu_qI Q)))) : pu_R L (d + 3) 246 195 [.ref 58, .int v1, .int v2, .int v3, .int v4, .int v5, .int v6] [] M (pu_qI Q) := by
  refine pu_go 3 (pc' := 201) (ls' := [.ref 58, .int v1, .int v2, .int v3, .int v4, .int v5, .int v6]) (st' := [.int v6, .ref 87]) (M' := M) rfl ?_
  obtain ⟨hb1, H⟩ := H
  refine pu_iald rfl rfl (Or.inl (by decide)) hb1 ?_
  refine pu_go 3 (pc' := 206) (ls' := [.ref 58, .int v1, .int v2, .int v3, .int v4, .int v5, .int v6]) (st' := [.int (v3 - v5), .int (M 87 v6.toNatClampNeg)]) (M' := M) rfl ?_
  refine pu_icmp_ne rfl (fun hc => ?_) (fun hc => ?_)
  · replace H := Eq.mp (if_neg hc) H
    refine pu_go 5 (pc' := 195) (ls' := [.ref 58, .int v1, .int v2, .int v3, .int v4, .int v5, .int (v6 + 1)]) (st' := []) (M' := M) rfl ?_
    exact H
  · replace H := Eq.mp (if_pos hc) H
    refine pu_go 2 (pc' := 212) (ls' := [.ref 58, .int v1, .int v2, .int v3, .int v4, .int v5, .int v6]) (st' := [.int v4, .ref 58]) (M' := M) rfl ?_
    refine pu_callI (m' := 245) (ml := 2) (as := [.ref 58, .int v4]) (rest := []) rfl rfl rfl (Nat.le_of_ble_eq_true rfl) H (fun x3 M2 H => ?_)
    show pu_R L (d + 3) 246 215 [.ref 58, .int v1, .int v2, .int v3, .int v4, .int v5, .int v6] [.int x3] M2 _
    refine pu_go 2 (pc' := 218) (ls' := [.ref 58, .int v1, .int v2, .int v3, .int v4, .int v5, .int v6]) (st' := [.int v6, .ref 58, .int x3]) (M' := M2) rfl ?_
    refine pu_callI (m' := 245) (ml := 2) (as := [.ref 58, .int v6]) (rest := [.int x3]) rfl rfl rfl (Nat.le_of_ble_eq_true rfl) H (fun x5 M4 H => ?_)
    show pu_R L (d + 3) 246 221 [.ref 58, .int v1, .int v2, .int v3, .int v4, .int v5, .int v6] [.int x5, .int x3] M4 _
    refine pu_go 1 (pc' := 222) (ls' := [.ref 58, .int v1, .int v2, .int v3, .int v4, .int v5, .int v6]) (st' := [.int (x3 &&& x5)]) (M' := M4) rfl ?_
    refine pu_if_ne rfl (fun hc => ?_) (fun hc => ?_)
    · replace H := Eq.mp (if_neg hc) H
      refine pu_go 4 (pc' := 183) (ls' := [.ref 58, .int v1, .int v2, .int v3, .int v6, .int (v5 + 1), .int v6]) (st' := []) (M' := M4) rfl ?_
      exact H
    · replace H := Eq.mp (if_pos hc) H
      refine pu_go 5 (pc' := 195) (ls' := [.ref 58, .int v1, .int v2, .int v3, .int v4, .int v5, .int (v6 + 1)]) (st' := []) (M' := M4) rfl ?_
      exact H
set_option maxRecDepth 20000 in
theorem r_m_thread_183 {L d : Nat} {M : pu_M} {Q : Int32 → pu_M → Prop} {v1 : Int32} {v2 : Int32} {v3 : Int32} {v4 : Int32} {v5 : Int32} {v6 : Value} (H : (if v2 < v5 then Q v4 M else pu_R L (d + 3) 246 195 [.ref 58, .int v1, .int v2, .int v3, .int v4, .int v5, .int (v4 + 1)] [] M (pu_qI Q))) : pu_R L (d + 3) 246 183 [.ref 58, .int v1, .int v2, .int v3, .int v4, .int v5, v6] [] M (pu_qI Q) := by
  refine pu_go 2 (pc' := 186) (ls' := [.ref 58, .int v1, .int v2, .int v3, .int v4, .int v5, v6]) (st' := [.int v2, .int v5]) (M' := M) rfl ?_
  refine pu_icmp_gt rfl (fun hc => ?_) (fun hc => ?_)
  · replace H := Eq.mp (if_pos hc) H
    refine pu_go 1 (pc' := 246) (ls' := [.ref 58, .int v1, .int v2, .int v3, .int v4, .int v5, v6]) (st' := [.int v4]) (M' := M) rfl ?_
    exact pu_ret rfl rfl ⟨_, rfl, H⟩
  · replace H := Eq.mp (if_neg hc) H
    refine pu_go 4 (pc' := 195) (ls' := [.ref 58, .int v1, .int v2, .int v3, .int v4, .int v5, .int (v4 + 1)]) (st' := []) (M' := M) rfl ?_
    exact H
set_option maxRecDepth 20000 in
theorem r_m_thread_160 {L d : Nat} {M : pu_M} {Q : Int32 → pu_M → Prop} {v1 : Int32} {v2 : Int32} {v3 : Int32} {v4 : Int32} {v5 : Value} (H : (mq_inb v4 20 = true ∧ (if (M 87 v4.toNatClampNeg) = v3 then pu_R L (d + 3) 246 183 [.ref 58, .int v1, .int v2, .int v3, .int v4, .int 1, mq_un] [] M (pu_qI Q) else pu_R L (d + 3) 246 160 [.ref 58, .int v1, .int v2, .int v3, .int (v4 + 1), v5, mq_un] [] M (pu_qI Q)))) : pu_R L (d + 3) 246 160 [.ref 58, .int v1, .int v2, .int v3, .int v4, v5, mq_un] [] M (pu_qI Q) := by
  refine pu_go 3 (pc' := 166) (ls' := [.ref 58, .int v1, .int v2, .int v3, .int v4, v5, mq_un]) (st' := [.int v4, .ref 87]) (M' := M) rfl ?_
  obtain ⟨hb1, H⟩ := H
  refine pu_iald rfl rfl (Or.inl (by decide)) hb1 ?_
  refine pu_go 1 (pc' := 168) (ls' := [.ref 58, .int v1, .int v2, .int v3, .int v4, v5, mq_un]) (st' := [.int v3, .int (M 87 v4.toNatClampNeg)]) (M' := M) rfl ?_
  refine pu_icmp_eq rfl (fun hc => ?_) (fun hc => ?_)
  · replace H := Eq.mp (if_pos hc) H
    refine pu_go 2 (pc' := 183) (ls' := [.ref 58, .int v1, .int v2, .int v3, .int v4, .int 1, mq_un]) (st' := []) (M' := M) rfl ?_
    exact H
  · replace H := Eq.mp (if_neg hc) H
    refine pu_go 5 (pc' := 160) (ls' := [.ref 58, .int v1, .int v2, .int v3, .int (v4 + 1), v5, mq_un]) (st' := []) (M' := M) rfl ?_
    exact H
set_option maxRecDepth 20000 in
theorem r_m_thread_69 {L d : Nat} {M : pu_M} {Q : Int32 → pu_M → Prop} {v1 : Int32} {v2 : Int32} {v3 : Int32} {v4 : Int32} {v5 : Int32} (H : (if v1 ≤ v5 then (mq_inb v4 20 = true ∧ pu_I L (d + 2) 159 [.int v3, .int (M 87 v4.toNatClampNeg)] M (fun x3 M2 => pu_R L (d + 3) 246 50 [.ref 58, .int v1, .int v2, .int x3, .int (v4 + (-1)), .int v5, mq_un] [] M2 (pu_qI Q))) else pu_I L (d + 2) 245 [.ref 58, .int v4] M (fun x5 M4 => pu_I L (d + 2) 245 [.ref 58, .int v5] M4 (fun x7 M6 => (if (x5 &&& x7) = 0 then pu_R L (d + 3) 246 69 [.ref 58, .int v1, .int v2, .int v3, .int v4, .int (v5 + 1), mq_un] [] M6 (pu_qI Q) else (mq_inb v4 20 = true ∧ (mq_inb v5 20 = true ∧ pu_I L (d + 2) 159 [.int (M6 87 v4.toNatClampNeg), .int ((M6 87 v5.toNatClampNeg) + 1)] M6 (fun x11 M10 => (mq_inb v4 20 = true ∧ pu_R L (d + 3) 246 69 [.ref 58, .int v1, .int v2, .int v3, .int v4, .int (v5 + 1), mq_un] [] (pu_wr M10 87 v4.toNatClampNeg x11) (pu_qI Q)))))))))) : pu_R L (d + 3) 246 69 [.ref 58, .int v1, .int v2, .int v3, .int v4, .int v5, mq_un] [] M (pu_qI Q) := by
  refine pu_go 2 (pc' := 72) (ls' := [.ref 58, .int v1, .int v2, .int v3, .int v4, .int v5, mq_un]) (st' := [.int v1, .int v5]) (M' := M) rfl ?_
  refine pu_icmp_ge rfl (fun hc => ?_) (fun hc => ?_)
  · replace H := Eq.mp (if_pos hc) H
    refine pu_go 4 (pc' := 130) (ls' := [.ref 58, .int v1, .int v2, .int v3, .int v4, .int v5, mq_un]) (st' := [.int v4, .ref 87, .int v3]) (M' := M) rfl ?_
    obtain ⟨hb1, H⟩ := H
    refine pu_iald rfl rfl (Or.inl (by decide)) hb1 ?_
    refine pu_callI (m' := 159) (ml := 2) (as := [.int v3, .int (M 87 v4.toNatClampNeg)]) (rest := []) rfl rfl rfl (Nat.le_of_ble_eq_true rfl) H (fun x3 M2 H => ?_)
    show pu_R L (d + 3) 246 134 [.ref 58, .int v1, .int v2, .int v3, .int v4, .int v5, mq_un] [.int x3] M2 _
    refine pu_go 3 (pc' := 50) (ls' := [.ref 58, .int v1, .int v2, .int x3, .int (v4 + (-1)), .int v5, mq_un]) (st' := []) (M' := M2) rfl ?_
    exact H
  · replace H := Eq.mp (if_neg hc) H
    refine pu_go 2 (pc' := 78) (ls' := [.ref 58, .int v1, .int v2, .int v3, .int v4, .int v5, mq_un]) (st' := [.int v4, .ref 58]) (M' := M) rfl ?_
    refine pu_callI (m' := 245) (ml := 2) (as := [.ref 58, .int v4]) (rest := []) rfl rfl rfl (Nat.le_of_ble_eq_true rfl) H (fun x5 M4 H => ?_)
    show pu_R L (d + 3) 246 81 [.ref 58, .int v1, .int v2, .int v3, .int v4, .int v5, mq_un] [.int x5] M4 _
    refine pu_go 2 (pc' := 84) (ls' := [.ref 58, .int v1, .int v2, .int v3, .int v4, .int v5, mq_un]) (st' := [.int v5, .ref 58, .int x5]) (M' := M4) rfl ?_
    refine pu_callI (m' := 245) (ml := 2) (as := [.ref 58, .int v5]) (rest := [.int x5]) rfl rfl rfl (Nat.le_of_ble_eq_true rfl) H (fun x7 M6 H => ?_)
    show pu_R L (d + 3) 246 87 [.ref 58, .int v1, .int v2, .int v3, .int v4, .int v5, mq_un] [.int x7, .int x5] M6 _
    refine pu_go 1 (pc' := 88) (ls' := [.ref 58, .int v1, .int v2, .int v3, .int v4, .int v5, mq_un]) (st' := [.int (x5 &&& x7)]) (M' := M6) rfl ?_
    refine pu_if_eq rfl (fun hc => ?_) (fun hc => ?_)
    · replace H := Eq.mp (if_pos hc) H
      refine pu_go 2 (pc' := 69) (ls' := [.ref 58, .int v1, .int v2, .int v3, .int v4, .int (v5 + 1), mq_un]) (st' := []) (M' := M6) rfl ?_
      exact H
    · replace H := Eq.mp (if_neg hc) H
      refine pu_go 6 (pc' := 103) (ls' := [.ref 58, .int v1, .int v2, .int v3, .int v4, .int v5, mq_un]) (st' := [.int v4, .ref 87, .int v4, .ref 87]) (M' := M6) rfl ?_
      obtain ⟨hb8, H⟩ := H
      refine pu_iald rfl rfl (Or.inl (by decide)) hb8 ?_
      refine pu_go 3 (pc' := 110) (ls' := [.ref 58, .int v1, .int v2, .int v3, .int v4, .int v5, mq_un]) (st' := [.int v5, .ref 87, .int (M6 87 v4.toNatClampNeg), .int v4, .ref 87]) (M' := M6) rfl ?_
      obtain ⟨hb9, H⟩ := H
      refine pu_iald rfl rfl (Or.inl (by decide)) hb9 ?_
      refine pu_go 2 (pc' := 113) (ls' := [.ref 58, .int v1, .int v2, .int v3, .int v4, .int v5, mq_un]) (st' := [.int ((M6 87 v5.toNatClampNeg) + 1), .int (M6 87 v4.toNatClampNeg), .int v4, .ref 87]) (M' := M6) rfl ?_
      refine pu_callI (m' := 159) (ml := 2) (as := [.int (M6 87 v4.toNatClampNeg), .int ((M6 87 v5.toNatClampNeg) + 1)]) (rest := [.int v4, .ref 87]) rfl rfl rfl (Nat.le_of_ble_eq_true rfl) H (fun x11 M10 H => ?_)
      show pu_R L (d + 3) 246 116 [.ref 58, .int v1, .int v2, .int v3, .int v4, .int v5, mq_un] [.int x11, .int v4, .ref 87] M10 _
      obtain ⟨hb12, H⟩ := H
      refine pu_iast rfl rfl (by decide) hb12 ?_
      refine pu_go 2 (pc' := 69) (ls' := [.ref 58, .int v1, .int v2, .int v3, .int v4, .int (v5 + 1), mq_un]) (st' := []) (M' := pu_wr M10 87 v4.toNatClampNeg x11) rfl ?_
      exact H
set_option maxRecDepth 20000 in
theorem r_m_thread_50 {L d : Nat} {M : pu_M} {Q : Int32 → pu_M → Prop} {v1 : Int32} {v2 : Int32} {v3 : Int32} {v4 : Int32} {v5 : Value} (H : (if v4 < 0 then (if v2 = 100 then Q v3 M else (if v2 < v3 then pu_R L (d + 3) 246 160 [.ref 58, .int v1, .int v2, .int v3, .int 0, v5, mq_un] [] M (pu_qI Q) else Q ((-4)) M)) else (mq_inb v4 20 = true ∧ pu_R L (d + 3) 246 69 [.ref 58, .int v1, .int v2, .int v3, .int v4, .int (v4 + 1), mq_un] [] (pu_wr M 87 v4.toNatClampNeg 1) (pu_qI Q)))) : pu_R L (d + 3) 246 50 [.ref 58, .int v1, .int v2, .int v3, .int v4, v5, mq_un] [] M (pu_qI Q) := by
  refine pu_go 1 (pc' := 52) (ls' := [.ref 58, .int v1, .int v2, .int v3, .int v4, v5, mq_un]) (st' := [.int v4]) (M' := M) rfl ?_
  refine pu_if_lt rfl (fun hc => ?_) (fun hc => ?_)
  · replace H := Eq.mp (if_pos hc) H
    refine pu_go 2 (pc' := 144) (ls' := [.ref 58, .int v1, .int v2, .int v3, .int v4, v5, mq_un]) (st' := [.int 100, .int v2]) (M' := M) rfl ?_
    refine pu_icmp_ne rfl (fun hc => ?_) (fun hc => ?_)
    · replace H := Eq.mp (if_neg hc) H
      refine pu_go 2 (pc' := 151) (ls' := [.ref 58, .int v1, .int v2, .int v3, .int v4, v5, mq_un]) (st' := [.int v3, .int v2]) (M' := M) rfl ?_
      refine pu_icmp_lt rfl (fun hc => ?_) (fun hc => ?_)
      · replace H := Eq.mp (if_pos hc) H
        refine pu_go 2 (pc' := 160) (ls' := [.ref 58, .int v1, .int v2, .int v3, .int 0, v5, mq_un]) (st' := []) (M' := M) rfl ?_
        exact H
      · replace H := Eq.mp (if_neg hc) H
        refine pu_go 1 (pc' := 156) (ls' := [.ref 58, .int v1, .int v2, .int v3, .int v4, v5, mq_un]) (st' := [.int ((-4))]) (M' := M) rfl ?_
        exact pu_ret rfl rfl ⟨_, rfl, H⟩
    · replace H := Eq.mp (if_pos hc) H
      refine pu_go 1 (pc' := 148) (ls' := [.ref 58, .int v1, .int v2, .int v3, .int v4, v5, mq_un]) (st' := [.int v3]) (M' := M) rfl ?_
      exact pu_ret rfl rfl ⟨_, rfl, H⟩
  · replace H := Eq.mp (if_neg hc) H
    refine pu_go 4 (pc' := 62) (ls' := [.ref 58, .int v1, .int v2, .int v3, .int v4, v5, mq_un]) (st' := [.int 1, .int v4, .ref 87]) (M' := M) rfl ?_
    obtain ⟨hb1, H⟩ := H
    refine pu_iast rfl rfl (by decide) hb1 ?_
    refine pu_go 4 (pc' := 69) (ls' := [.ref 58, .int v1, .int v2, .int v3, .int v4, .int (v4 + 1), mq_un]) (st' := []) (M' := pu_wr M 87 v4.toNatClampNeg 1) rfl ?_
    exact H
set_option maxRecDepth 20000 in
theorem r_m_thread_26 {L d : Nat} {M : pu_M} {Q : Int32 → pu_M → Prop} {v1 : Int32} {v2 : Int32} (H : (if (2 * v1) ≤ (M 58 4) then pu_R L (d + 3) 246 50 [.ref 58, .int v1, .int v2, .int 0, .int (v1 - 1), mq_un, mq_un] [] (pu_wr M 58 4 0) (pu_qI Q) else Q ((-1)) M)) : pu_R L (d + 3) 246 26 [.ref 58, .int v1, .int v2, mq_un, mq_un, mq_un, mq_un] [] M (pu_qI Q) := by
  refine pu_go 5 (pc' := 33) (ls' := [.ref 58, .int v1, .int v2, mq_un, mq_un, mq_un, mq_un]) (st' := [.int (M 58 4), .int (2 * v1)]) (M' := M) rfl ?_
  refine pu_icmp_le rfl (fun hc => ?_) (fun hc => ?_)
  · replace H := Eq.mp (if_pos hc) H
    refine pu_go 2 (pc' := 40) (ls' := [.ref 58, .int v1, .int v2, mq_un, mq_un, mq_un, mq_un]) (st' := [.int 0, .ref 58]) (M' := M) rfl ?_
    refine pu_putf (j := 4) (z := 0) rfl rfl (by decide) rfl (by decide) rfl rfl pu_put_hw ?_
    refine pu_go 6 (pc' := 50) (ls' := [.ref 58, .int v1, .int v2, .int 0, .int (v1 - 1), mq_un, mq_un]) (st' := []) (M' := pu_wr M 58 4 0) rfl ?_
    exact H
  · replace H := Eq.mp (if_neg hc) H
    refine pu_go 1 (pc' := 37) (ls' := [.ref 58, .int v1, .int v2, mq_un, mq_un, mq_un, mq_un]) (st' := [.int ((-1))]) (M' := M) rfl ?_
    exact pu_ret rfl rfl ⟨_, rfl, H⟩
set_option maxRecDepth 20000 in
theorem r_m_thread {L d : Nat} {M : pu_M} {Q : Int32 → pu_M → Prop} {v1 : Int32} {v2 : Int32} (H : pu_I L (d + 2) 157 [.int v1, .int 1, .int 20] M (fun x2 M1 => (if x2 = 0 then Q ((-1)) M1 else pu_I L (d + 2) 157 [.int v2, .int 0, .int 19] M1 (fun x4 M3 => (if x4 = 0 then (if v2 = 100 then pu_R L (d + 3) 246 26 [.ref 58, .int v1, .int v2, mq_un, mq_un, mq_un, mq_un] [] M3 (pu_qI Q) else Q ((-1)) M3) else pu_R L (d + 3) 246 26 [.ref 58, .int v1, .int v2, mq_un, mq_un, mq_un, mq_un] [] M3 (pu_qI Q)))))) : pu_I L (d + 3) 246 [.ref 58, .int v1, .int v2] M Q := by
  show pu_R L (d + 3) 246 0 [.ref 58, .int v1, .int v2, mq_un, mq_un, mq_un, mq_un] [] M (pu_qI Q)
  refine pu_go 3 (pc' := 4) (ls' := [.ref 58, .int v1, .int v2, mq_un, mq_un, mq_un, mq_un]) (st' := [.int 20, .int 1, .int v1]) (M' := M) rfl ?_
  refine pu_callI (m' := 157) (ml := 3) (as := [.int v1, .int 1, .int 20]) (rest := []) rfl rfl rfl (Nat.le_of_ble_eq_true rfl) H (fun x2 M1 H => ?_)
  show pu_R L (d + 3) 246 7 [.ref 58, .int v1, .int v2, mq_un, mq_un, mq_un, mq_un] [.int x2] M1 _
  refine pu_if_eq rfl (fun hc => ?_) (fun hc => ?_)
  · replace H := Eq.mp (if_pos hc) H
    refine pu_go 1 (pc' := 37) (ls' := [.ref 58, .int v1, .int v2, mq_un, mq_un, mq_un, mq_un]) (st' := [.int ((-1))]) (M' := M1) rfl ?_
    exact pu_ret rfl rfl ⟨_, rfl, H⟩
  · replace H := Eq.mp (if_neg hc) H
    refine pu_go 3 (pc' := 14) (ls' := [.ref 58, .int v1, .int v2, mq_un, mq_un, mq_un, mq_un]) (st' := [.int 19, .int 0, .int v2]) (M' := M1) rfl ?_
    refine pu_callI (m' := 157) (ml := 3) (as := [.int v2, .int 0, .int 19]) (rest := []) rfl rfl rfl (Nat.le_of_ble_eq_true rfl) H (fun x4 M3 H => ?_)
    show pu_R L (d + 3) 246 17 [.ref 58, .int v1, .int v2, mq_un, mq_un, mq_un, mq_un] [.int x4] M3 _
    refine pu_if_ne rfl (fun hc => ?_) (fun hc => ?_)
    · replace H := Eq.mp (if_neg hc) H
      exact H
    · replace H := Eq.mp (if_pos hc) H
      refine pu_go 2 (pc' := 23) (ls' := [.ref 58, .int v1, .int v2, mq_un, mq_un, mq_un, mq_un]) (st' := [.int 100, .int v2]) (M' := M3) rfl ?_
      refine pu_icmp_ne rfl (fun hc => ?_) (fun hc => ?_)
      · replace H := Eq.mp (if_neg hc) H
        refine pu_go 1 (pc' := 37) (ls' := [.ref 58, .int v1, .int v2, mq_un, mq_un, mq_un, mq_un]) (st' := [.int ((-1))]) (M' := M3) rfl ?_
        exact pu_ret rfl rfl ⟨_, rfl, H⟩
      · replace H := Eq.mp (if_pos hc) H
        exact H
/-! m_good (II)I -/
set_option maxRecDepth 20000 in
theorem r_m_good_95 {L d : Nat} {M : pu_M} {Q : Int32 → pu_M → Prop} {v1 : Int32} {v2 : Int32} {v3 : Int32} {v4 : Int32} {v5 : Int32} {v6 : Int32} {v7 : Int32} {v8 : Int32} {v9 : Int32} {s0 : Int32} {s1 : Int32} (H : (if v5 < (s0 + s1) then pu_R L (d + 5) 247 49 [.ref 58, .int v1, .int v2, .int v6, .int v8, .int (s0 + s1), .int v6, .int (s0 + s1), .int (v8 + 1), .int v9] [] M (pu_qI Q) else pu_R L (d + 5) 247 49 [.ref 58, .int v1, .int v2, .int v3, .int v4, .int v5, .int v6, .int (s0 + s1), .int (v8 + 1), .int v9] [] M (pu_qI Q))) : pu_R L (d + 5) 247 95 [.ref 58, .int v1, .int v2, .int v3, .int v4, .int v5, .int v6, .int v7, .int v8, .int v9] [.int s1, .int s0] M (pu_qI Q) := by
  refine pu_go 4 (pc' := 102) (ls' := [.ref 58, .int v1, .int v2, .int v3, .int v4, .int v5, .int v6, .int (s0 + s1), .int v8, .int v9]) (st' := [.int v5, .int (s0 + s1)]) (M' := M) rfl ?_
  refine pu_icmp_gt rfl (fun hc => ?_) (fun hc => ?_)
  · replace H := Eq.mp (if_pos hc) H
    refine pu_go 8 (pc' := 49) (ls' := [.ref 58, .int v1, .int v2, .int v6, .int v8, .int (s0 + s1), .int v6, .int (s0 + s1), .int (v8 + 1), .int v9]) (st' := []) (M' := M) rfl ?_
    exact H
  · replace H := Eq.mp (if_neg hc) H
    refine pu_go 3 (pc' := 49) (ls' := [.ref 58, .int v1, .int v2, .int v3, .int v4, .int v5, .int v6, .int (s0 + s1), .int (v8 + 1), .int v9]) (st' := []) (M' := M) rfl ?_
    exact H
set_option maxRecDepth 20000 in
theorem r_m_good_49 {L d : Nat} {M : pu_M} {Q : Int32 → pu_M → Prop} {v1 : Int32} {v2 : Int32} {v3 : Int32} {v4 : Int32} {v5 : Int32} {v6 : Int32} {v7 : Int32} {v8 : Int32} {v9 : Value} (H : (if 10 ≤ v8 then pu_R L (d + 5) 247 35 [.ref 58, .int v1, .int v2, .int v3, .int v4, .int v5, .int (v6 + 1), .int v7, .int v8, v9] [] M (pu_qI Q) else pu_I L (d + 4) 168 [.ref 58, .int ((10 * v1) + v8)] M (fun x2 M1 => (if x2 = ((-2)) then pu_R L (d + 5) 247 95 [.ref 58, .int v1, .int v2, .int v3, .int v4, .int v5, .int v6, .int v7, .int v8, .int x2] [.int 0, .int v7] M1 (pu_qI Q) else pu_I L (d + 4) 224 [.ref 58, .int x2, .int ((10 * v1) + v8)] M1 (fun x4 M3 => pu_R L (d + 5) 247 95 [.ref 58, .int v1, .int v2, .int v3, .int v4, .int v5, .int v6, .int v7, .int v8, .int x2] [.int x4, .int v7] M3 (pu_qI Q)))))) : pu_R L (d + 5) 247 49 [.ref 58, .int v1, .int v2, .int v3, .int v4, .int v5, .int v6, .int v7, .int v8, v9] [] M (pu_qI Q) := by
  refine pu_go 2 (pc' := 53) (ls' := [.ref 58, .int v1, .int v2, .int v3, .int v4, .int v5, .int v6, .int v7, .int v8, v9]) (st' := [.int 10, .int v8]) (M' := M) rfl ?_
  refine pu_icmp_ge rfl (fun hc => ?_) (fun hc => ?_)
  · replace H := Eq.mp (if_pos hc) H
    refine pu_go 2 (pc' := 35) (ls' := [.ref 58, .int v1, .int v2, .int v3, .int v4, .int v5, .int (v6 + 1), .int v7, .int v8, v9]) (st' := []) (M' := M) rfl ?_
    exact H
  · replace H := Eq.mp (if_neg hc) H
    refine pu_go 6 (pc' := 64) (ls' := [.ref 58, .int v1, .int v2, .int v3, .int v4, .int v5, .int v6, .int v7, .int v8, v9]) (st' := [.int ((10 * v1) + v8), .ref 58]) (M' := M) rfl ?_
    refine pu_callI (m' := 168) (ml := 3) (as := [.ref 58, .int ((10 * v1) + v8)]) (rest := []) rfl rfl rfl (Nat.le_of_ble_eq_true rfl) H (fun x2 M1 H => ?_)
    show pu_R L (d + 5) 247 67 [.ref 58, .int v1, .int v2, .int v3, .int v4, .int v5, .int v6, .int v7, .int v8, v9] [.int x2] M1 _
    refine pu_go 4 (pc' := 75) (ls' := [.ref 58, .int v1, .int v2, .int v3, .int v4, .int v5, .int v6, .int v7, .int v8, .int x2]) (st' := [.int ((-2)), .int x2, .int v7]) (M' := M1) rfl ?_
    refine pu_icmp_ne rfl (fun hc => ?_) (fun hc => ?_)
    · replace H := Eq.mp (if_neg hc) H
      refine pu_go 7 (pc' := 92) (ls' := [.ref 58, .int v1, .int v2, .int v3, .int v4, .int v5, .int v6, .int v7, .int v8, .int x2]) (st' := [.int ((10 * v1) + v8), .int x2, .ref 58, .int v7]) (M' := M1) rfl ?_
      refine pu_callI (m' := 224) (ml := 5) (as := [.ref 58, .int x2, .int ((10 * v1) + v8)]) (rest := [.int v7]) rfl rfl rfl (Nat.le_of_ble_eq_true rfl) H (fun x4 M3 H => ?_)
      show pu_R L (d + 5) 247 95 [.ref 58, .int v1, .int v2, .int v3, .int v4, .int v5, .int v6, .int v7, .int v8, .int x2] [.int x4, .int v7] M3 _
      exact H
    · replace H := Eq.mp (if_pos hc) H
      refine pu_go 2 (pc' := 95) (ls' := [.ref 58, .int v1, .int v2, .int v3, .int v4, .int v5, .int v6, .int v7, .int v8, .int x2]) (st' := [.int 0, .int v7]) (M' := M1) rfl ?_
      exact H
set_option maxRecDepth 20000 in
theorem r_m_good_35 {L d : Nat} {M : pu_M} {Q : Int32 → pu_M → Prop} {v1 : Int32} {v2 : Int32} {v3 : Int32} {v4 : Int32} {v5 : Int32} {v6 : Int32} {v7 : Value} {v8 : Value} {v9 : Value} (H : (if 10 ≤ v6 then (if v2 = 0 then Q v3 M else (if v2 = 1 then Q v4 M else Q v5 M)) else pu_R L (d + 5) 247 49 [.ref 58, .int v1, .int v2, .int v3, .int v4, .int v5, .int v6, .int 0, .int v6, v9] [] M (pu_qI Q))) : pu_R L (d + 5) 247 35 [.ref 58, .int v1, .int v2, .int v3, .int v4, .int v5, .int v6, v7, v8, v9] [] M (pu_qI Q) := by
  refine pu_go 2 (pc' := 39) (ls' := [.ref 58, .int v1, .int v2, .int v3, .int v4, .int v5, .int v6, v7, v8, v9]) (st' := [.int 10, .int v6]) (M' := M) rfl ?_
  refine pu_icmp_ge rfl (fun hc => ?_) (fun hc => ?_)
  · replace H := Eq.mp (if_pos hc) H
    refine pu_go 1 (pc' := 132) (ls' := [.ref 58, .int v1, .int v2, .int v3, .int v4, .int v5, .int v6, v7, v8, v9]) (st' := [.int v2]) (M' := M) rfl ?_
    refine pu_if_ne rfl (fun hc => ?_) (fun hc => ?_)
    · replace H := Eq.mp (if_neg hc) H
      refine pu_go 2 (pc' := 141) (ls' := [.ref 58, .int v1, .int v2, .int v3, .int v4, .int v5, .int v6, v7, v8, v9]) (st' := [.int 1, .int v2]) (M' := M) rfl ?_
      refine pu_icmp_ne rfl (fun hc => ?_) (fun hc => ?_)
      · replace H := Eq.mp (if_neg hc) H
        refine pu_go 1 (pc' := 151) (ls' := [.ref 58, .int v1, .int v2, .int v3, .int v4, .int v5, .int v6, v7, v8, v9]) (st' := [.int v5]) (M' := M) rfl ?_
        exact pu_ret rfl rfl ⟨_, rfl, H⟩
      · replace H := Eq.mp (if_pos hc) H
        refine pu_go 2 (pc' := 151) (ls' := [.ref 58, .int v1, .int v2, .int v3, .int v4, .int v5, .int v6, v7, v8, v9]) (st' := [.int v4]) (M' := M) rfl ?_
        exact pu_ret rfl rfl ⟨_, rfl, H⟩
    · replace H := Eq.mp (if_pos hc) H
      refine pu_go 2 (pc' := 151) (ls' := [.ref 58, .int v1, .int v2, .int v3, .int v4, .int v5, .int v6, v7, v8, v9]) (st' := [.int v3]) (M' := M) rfl ?_
      exact pu_ret rfl rfl ⟨_, rfl, H⟩
  · replace H := Eq.mp (if_neg hc) H
    refine pu_go 4 (pc' := 49) (ls' := [.ref 58, .int v1, .int v2, .int v3, .int v4, .int v5, .int v6, .int 0, .int v6, v9]) (st' := []) (M' := M) rfl ?_
    exact H
set_option maxRecDepth 20000 in
theorem r_m_good {L d : Nat} {M : pu_M} {Q : Int32 → pu_M → Prop} {v1 : Int32} {v2 : Int32} (H : pu_I L (d + 4) 157 [.int v1, .int 0, .int 5] M (fun x2 M1 => (if x2 = 0 then Q ((-1000)) M1 else pu_I L (d + 4) 157 [.int v2, .int 0, .int 2] M1 (fun x4 M3 => (if x4 = 0 then Q ((-1000)) M3 else pu_R L (d + 5) 247 35 [.ref 58, .int v1, .int v2, .int 0, .int 0, .int ((-1000000)), .int 0, mq_un, mq_un, mq_un] [] M3 (pu_qI Q)))))) : pu_I L (d + 5) 247 [.ref 58, .int v1, .int v2] M Q := by
  show pu_R L (d + 5) 247 0 [.ref 58, .int v1, .int v2, mq_un, mq_un, mq_un, mq_un, mq_un, mq_un, mq_un] [] M (pu_qI Q)
  refine pu_go 3 (pc' := 3) (ls' := [.ref 58, .int v1, .int v2, mq_un, mq_un, mq_un, mq_un, mq_un, mq_un, mq_un]) (st' := [.int 5, .int 0, .int v1]) (M' := M) rfl ?_
  refine pu_callI (m' := 157) (ml := 3) (as := [.int v1, .int 0, .int 5]) (rest := []) rfl rfl rfl (Nat.le_of_ble_eq_true rfl) H (fun x2 M1 H => ?_)
  show pu_R L (d + 5) 247 6 [.ref 58, .int v1, .int v2, mq_un, mq_un, mq_un, mq_un, mq_un, mq_un, mq_un] [.int x2] M1 _
  refine pu_if_eq rfl (fun hc => ?_) (fun hc => ?_)
  · replace H := Eq.mp (if_pos hc) H
    refine pu_go 1 (pc' := 21) (ls' := [.ref 58, .int v1, .int v2, mq_un, mq_un, mq_un, mq_un, mq_un, mq_un, mq_un]) (st' := [.int ((-1000))]) (M' := M1) rfl ?_
    exact pu_ret rfl rfl ⟨_, rfl, H⟩
  · replace H := Eq.mp (if_neg hc) H
    refine pu_go 3 (pc' := 12) (ls' := [.ref 58, .int v1, .int v2, mq_un, mq_un, mq_un, mq_un, mq_un, mq_un, mq_un]) (st' := [.int 2, .int 0, .int v2]) (M' := M1) rfl ?_
    refine pu_callI (m' := 157) (ml := 3) (as := [.int v2, .int 0, .int 2]) (rest := []) rfl rfl rfl (Nat.le_of_ble_eq_true rfl) H (fun x4 M3 H => ?_)
    show pu_R L (d + 5) 247 15 [.ref 58, .int v1, .int v2, mq_un, mq_un, mq_un, mq_un, mq_un, mq_un, mq_un] [.int x4] M3 _
    refine pu_if_ne rfl (fun hc => ?_) (fun hc => ?_)
    · replace H := Eq.mp (if_neg hc) H
      refine pu_go 8 (pc' := 35) (ls' := [.ref 58, .int v1, .int v2, .int 0, .int 0, .int ((-1000000)), .int 0, mq_un, mq_un, mq_un]) (st' := []) (M' := M3) rfl ?_
      exact H
    · replace H := Eq.mp (if_pos hc) H
      refine pu_go 1 (pc' := 21) (ls' := [.ref 58, .int v1, .int v2, mq_un, mq_un, mq_un, mq_un, mq_un, mq_un, mq_un]) (st' := [.int ((-1000))]) (M' := M3) rfl ?_
      exact pu_ret rfl rfl ⟨_, rfl, H⟩
/-! m_walksFrom (I)I -/
set_option maxRecDepth 20000 in
theorem r_m_walksFrom_59 {L d : Nat} {M : pu_M} {Q : Int32 → pu_M → Prop} {v1 : Int32} {v2 : Int32} {v3 : Int32} {v4 : Int32} (H : (if 60 ≤ v4 then pu_R L (d + 3) 248 51 [.ref 58, .int v1, .int v2, .int (v3 + 1), .int v4] [] M (pu_qI Q) else (mq_inb v3 60 = true ∧ pu_I L (d + 2) 169 [.int (M 89 v3.toNatClampNeg), .int v4] M (fun x3 M2 => (if x3 = 0 then pu_R L (d + 3) 248 59 [.ref 58, .int v1, .int v2, .int v3, .int (v4 + 1)] [] M2 (pu_qI Q) else (mq_inb v4 60 = true ∧ (if (M2 88 v4.toNatClampNeg) = ((-1)) then pu_I L (d + 2) 168 [.ref 58, .int v4] M2 (fun x6 M5 => (if x6 = ((-2)) then (mq_inb v3 60 = true ∧ (mq_inb (M5 89 v3.toNatClampNeg) 60 = true ∧ (mq_inb v4 60 = true ∧ (mq_inb v2 60 = true ∧ pu_R L (d + 3) 248 59 [.ref 58, .int v1, .int (v2 + 1), .int v3, .int (v4 + 1)] [] (pu_wr (pu_wr M5 88 v4.toNatClampNeg ((M5 88 (M5 89 v3.toNatClampNeg : Int32).toNatClampNeg) + 1)) 89 v2.toNatClampNeg v4) (pu_qI Q))))) else pu_R L (d + 3) 248 59 [.ref 58, .int v1, .int v2, .int v3, .int (v4 + 1)] [] M5 (pu_qI Q))) else pu_R L (d + 3) 248 59 [.ref 58, .int v1, .int v2, .int v3, .int (v4 + 1)] [] M2 (pu_qI Q)))))))) : pu_R L (d + 3) 248 59 [.ref 58, .int v1, .int v2, .int v3, .int v4] [] M (pu_qI Q) := by
  refine pu_go 2 (pc' := 63) (ls' := [.ref 58, .int v1, .int v2, .int v3, .int v4]) (st' := [.int 60, .int v4]) (M' := M) rfl ?_
  refine pu_icmp_ge rfl (fun hc => ?_) (fun hc => ?_)
  · replace H := Eq.mp (if_pos hc) H
    refine pu_go 2 (pc' := 51) (ls' := [.ref 58, .int v1, .int v2, .int (v3 + 1), .int v4]) (st' := []) (M' := M) rfl ?_
    exact H
  · replace H := Eq.mp (if_neg hc) H
    refine pu_go 3 (pc' := 71) (ls' := [.ref 58, .int v1, .int v2, .int v3, .int v4]) (st' := [.int v3, .ref 89]) (M' := M) rfl ?_
    obtain ⟨hb1, H⟩ := H
    refine pu_iald rfl rfl (Or.inl (by decide)) hb1 ?_
    refine pu_go 1 (pc' := 74) (ls' := [.ref 58, .int v1, .int v2, .int v3, .int v4]) (st' := [.int v4, .int (M 89 v3.toNatClampNeg)]) (M' := M) rfl ?_
    refine pu_callI (m' := 169) (ml := 2) (as := [.int (M 89 v3.toNatClampNeg), .int v4]) (rest := []) rfl rfl rfl (Nat.le_of_ble_eq_true rfl) H (fun x3 M2 H => ?_)
    show pu_R L (d + 3) 248 77 [.ref 58, .int v1, .int v2, .int v3, .int v4] [.int x3] M2 _
    refine pu_if_eq rfl (fun hc => ?_) (fun hc => ?_)
    · replace H := Eq.mp (if_pos hc) H
      refine pu_go 2 (pc' := 59) (ls' := [.ref 58, .int v1, .int v2, .int v3, .int (v4 + 1)]) (st' := []) (M' := M2) rfl ?_
      exact H
    · replace H := Eq.mp (if_neg hc) H
      refine pu_go 3 (pc' := 86) (ls' := [.ref 58, .int v1, .int v2, .int v3, .int v4]) (st' := [.int v4, .ref 88]) (M' := M2) rfl ?_
      obtain ⟨hb4, H⟩ := H
      refine pu_iald rfl rfl (Or.inl (by decide)) hb4 ?_
      refine pu_go 1 (pc' := 88) (ls' := [.ref 58, .int v1, .int v2, .int v3, .int v4]) (st' := [.int ((-1)), .int (M2 88 v4.toNatClampNeg)]) (M' := M2) rfl ?_
      refine pu_icmp_ne rfl (fun hc => ?_) (fun hc => ?_)
      · replace H := Eq.mp (if_neg hc) H
        refine pu_go 2 (pc' := 59) (ls' := [.ref 58, .int v1, .int v2, .int v3, .int (v4 + 1)]) (st' := []) (M' := M2) rfl ?_
        exact H
      · replace H := Eq.mp (if_pos hc) H
        refine pu_go 2 (pc' := 94) (ls' := [.ref 58, .int v1, .int v2, .int v3, .int v4]) (st' := [.int v4, .ref 58]) (M' := M2) rfl ?_
        refine pu_callI (m' := 168) (ml := 3) (as := [.ref 58, .int v4]) (rest := []) rfl rfl rfl (Nat.le_of_ble_eq_true rfl) H (fun x6 M5 H => ?_)
        show pu_R L (d + 3) 248 97 [.ref 58, .int v1, .int v2, .int v3, .int v4] [.int x6] M5 _
        refine pu_go 1 (pc' := 99) (ls' := [.ref 58, .int v1, .int v2, .int v3, .int v4]) (st' := [.int ((-2)), .int x6]) (M' := M5) rfl ?_
        refine pu_icmp_eq rfl (fun hc => ?_) (fun hc => ?_)
        · replace H := Eq.mp (if_pos hc) H
          refine pu_go 8 (pc' := 120) (ls' := [.ref 58, .int v1, .int v2, .int v3, .int v4]) (st' := [.int v3, .ref 89, .ref 88, .int v4, .ref 88]) (M' := M5) rfl ?_
          obtain ⟨hb7, H⟩ := H
          refine pu_iald rfl rfl (Or.inl (by decide)) hb7 ?_
          obtain ⟨hb8, H⟩ := H
          refine pu_iald rfl rfl (Or.inl (by decide)) hb8 ?_
          refine pu_go 2 (pc' := 124) (ls' := [.ref 58, .int v1, .int v2, .int v3, .int v4]) (st' := [.int ((M5 88 (M5 89 v3.toNatClampNeg : Int32).toNatClampNeg) + 1), .int v4, .ref 88]) (M' := M5) rfl ?_
          obtain ⟨hb9, H⟩ := H
          refine pu_iast rfl rfl (by decide) hb9 ?_
          refine pu_go 4 (pc' := 132) (ls' := [.ref 58, .int v1, .int v2, .int v3, .int v4]) (st' := [.int v4, .int v2, .ref 89]) (M' := pu_wr M5 88 v4.toNatClampNeg ((M5 88 (M5 89 v3.toNatClampNeg : Int32).toNatClampNeg) + 1)) rfl ?_
          obtain ⟨hb10, H⟩ := H
          refine pu_iast rfl rfl (by decide) hb10 ?_
          refine pu_go 6 (pc' := 59) (ls' := [.ref 58, .int v1, .int (v2 + 1), .int v3, .int (v4 + 1)]) (st' := []) (M' := pu_wr (pu_wr M5 88 v4.toNatClampNeg ((M5 88 (M5 89 v3.toNatClampNeg : Int32).toNatClampNeg) + 1)) 89 v2.toNatClampNeg v4) rfl ?_
          exact H
        · replace H := Eq.mp (if_neg hc) H
          refine pu_go 3 (pc' := 59) (ls' := [.ref 58, .int v1, .int v2, .int v3, .int (v4 + 1)]) (st' := []) (M' := M5) rfl ?_
          exact H
set_option maxRecDepth 20000 in
theorem r_m_walksFrom_51 {L d : Nat} {M : pu_M} {Q : Int32 → pu_M → Prop} {v1 : Int32} {v2 : Int32} {v3 : Int32} {v4 : Value} (H : (if v2 ≤ v3 then Q v2 M else pu_R L (d + 3) 248 59 [.ref 58, .int v1, .int v2, .int v3, .int 0] [] M (pu_qI Q))) : pu_R L (d + 3) 248 51 [.ref 58, .int v1, .int v2, .int v3, v4] [] M (pu_qI Q) := by
  refine pu_go 2 (pc' := 53) (ls' := [.ref 58, .int v1, .int v2, .int v3, v4]) (st' := [.int v2, .int v3]) (M' := M) rfl ?_
  refine pu_icmp_ge rfl (fun hc => ?_) (fun hc => ?_)
  · replace H := Eq.mp (if_pos hc) H
    refine pu_go 1 (pc' := 150) (ls' := [.ref 58, .int v1, .int v2, .int v3, v4]) (st' := [.int v2]) (M' := M) rfl ?_
    exact pu_ret rfl rfl ⟨_, rfl, H⟩
  · replace H := Eq.mp (if_neg hc) H
    refine pu_go 2 (pc' := 59) (ls' := [.ref 58, .int v1, .int v2, .int v3, .int 0]) (st' := []) (M' := M) rfl ?_
    exact H
set_option maxRecDepth 20000 in
theorem r_m_walksFrom_2 {L d : Nat} {M : pu_M} {Q : Int32 → pu_M → Prop} {v1 : Int32} {v2 : Int32} (H : (if 60 ≤ v2 then pu_I L (d + 2) 168 [.ref 58, .int v1] M (fun x2 M1 => (if x2 = ((-2)) then (mq_inb v1 60 = true ∧ pu_R L (d + 3) 248 51 [.ref 58, .int v1, .int 1, .int 0, mq_un] [] (pu_wr (pu_wr M1 88 v1.toNatClampNeg 0) 89 (0 : Int32).toNatClampNeg v1) (pu_qI Q)) else Q 0 M1)) else (mq_inb v2 60 = true ∧ pu_R L (d + 3) 248 2 [.ref 58, .int v1, .int (v2 + 1), mq_un, mq_un] [] (pu_wr M 88 v2.toNatClampNeg ((-1))) (pu_qI Q)))) : pu_R L (d + 3) 248 2 [.ref 58, .int v1, .int v2, mq_un, mq_un] [] M (pu_qI Q) := by
  refine pu_go 2 (pc' := 5) (ls' := [.ref 58, .int v1, .int v2, mq_un, mq_un]) (st' := [.int 60, .int v2]) (M' := M) rfl ?_
  refine pu_icmp_ge rfl (fun hc => ?_) (fun hc => ?_)
  · replace H := Eq.mp (if_pos hc) H
    refine pu_go 2 (pc' := 23) (ls' := [.ref 58, .int v1, .int v2, mq_un, mq_un]) (st' := [.int v1, .ref 58]) (M' := M) rfl ?_
    refine pu_callI (m' := 168) (ml := 3) (as := [.ref 58, .int v1]) (rest := []) rfl rfl rfl (Nat.le_of_ble_eq_true rfl) H (fun x2 M1 H => ?_)
    show pu_R L (d + 3) 248 26 [.ref 58, .int v1, .int v2, mq_un, mq_un] [.int x2] M1 _
    refine pu_go 1 (pc' := 28) (ls' := [.ref 58, .int v1, .int v2, mq_un, mq_un]) (st' := [.int ((-2)), .int x2]) (M' := M1) rfl ?_
    refine pu_icmp_eq rfl (fun hc => ?_) (fun hc => ?_)
    · replace H := Eq.mp (if_pos hc) H
      refine pu_go 4 (pc' := 39) (ls' := [.ref 58, .int v1, .int v2, mq_un, mq_un]) (st' := [.int 0, .int v1, .ref 88]) (M' := M1) rfl ?_
      obtain ⟨hb3, H⟩ := H
      refine pu_iast rfl rfl (by decide) hb3 ?_
      refine pu_go 4 (pc' := 46) (ls' := [.ref 58, .int v1, .int v2, mq_un, mq_un]) (st' := [.int v1, .int 0, .ref 89]) (M' := pu_wr M1 88 v1.toNatClampNeg 0) rfl ?_
      refine pu_iast rfl rfl (by decide) rfl ?_
      refine pu_go 4 (pc' := 51) (ls' := [.ref 58, .int v1, .int 1, .int 0, mq_un]) (st' := []) (M' := pu_wr (pu_wr M1 88 v1.toNatClampNeg 0) 89 (0 : Int32).toNatClampNeg v1) rfl ?_
      exact H
    · replace H := Eq.mp (if_neg hc) H
      refine pu_go 1 (pc' := 32) (ls' := [.ref 58, .int v1, .int v2, mq_un, mq_un]) (st' := [.int 0]) (M' := M1) rfl ?_
      exact pu_ret rfl rfl ⟨_, rfl, H⟩
  · replace H := Eq.mp (if_neg hc) H
    refine pu_go 4 (pc' := 14) (ls' := [.ref 58, .int v1, .int v2, mq_un, mq_un]) (st' := [.int ((-1)), .int v2, .ref 88]) (M' := M) rfl ?_
    obtain ⟨hb4, H⟩ := H
    refine pu_iast rfl rfl (by decide) hb4 ?_
    refine pu_go 2 (pc' := 2) (ls' := [.ref 58, .int v1, .int (v2 + 1), mq_un, mq_un]) (st' := []) (M' := pu_wr M 88 v2.toNatClampNeg ((-1))) rfl ?_
    exact H
set_option maxRecDepth 20000 in
theorem r_m_walksFrom {L d : Nat} {M : pu_M} {Q : Int32 → pu_M → Prop} {v1 : Int32} (H : pu_R L (d + 3) 248 2 [.ref 58, .int v1, .int 0, mq_un, mq_un] [] M (pu_qI Q)) : pu_I L (d + 3) 248 [.ref 58, .int v1] M Q := by
  show pu_R L (d + 3) 248 0 [.ref 58, .int v1, mq_un, mq_un, mq_un] [] M (pu_qI Q)
  refine pu_go 2 (pc' := 2) (ls' := [.ref 58, .int v1, .int 0, mq_un, mq_un]) (st' := []) (M' := M) rfl ?_
  exact H
/-! m_isSilent (I)Z -/
set_option maxRecDepth 20000 in
theorem r_m_isSilent_14 {L d : Nat} {M : pu_M} {Q : Int32 → pu_M → Prop} {v1 : Int32} {v2 : Int32} (H : (if 60 ≤ v2 then Q 1 M else pu_I L (d + 2) 169 [.int v1, .int v2] M (fun x2 M1 => (if x2 = 0 then pu_R L (d + 3) 249 14 [.ref 58, .int v1, .int (v2 + 1)] [] M1 (pu_qI Q) else pu_I L (d + 2) 168 [.ref 58, .int v2] M1 (fun x4 M3 => (if x4 = ((-2)) then pu_R L (d + 3) 249 14 [.ref 58, .int v1, .int (v2 + 1)] [] M3 (pu_qI Q) else Q 0 M3)))))) : pu_R L (d + 3) 249 14 [.ref 58, .int v1, .int v2] [] M (pu_qI Q) := by
  refine pu_go 2 (pc' := 17) (ls' := [.ref 58, .int v1, .int v2]) (st' := [.int 60, .int v2]) (M' := M) rfl ?_
  refine pu_icmp_ge rfl (fun hc => ?_) (fun hc => ?_)
  · replace H := Eq.mp (if_pos hc) H
    refine pu_go 1 (pc' := 47) (ls' := [.ref 58, .int v1, .int v2]) (st' := [.int 1]) (M' := M) rfl ?_
    exact pu_ret rfl rfl ⟨_, rfl, H⟩
  · replace H := Eq.mp (if_neg hc) H
    refine pu_go 2 (pc' := 22) (ls' := [.ref 58, .int v1, .int v2]) (st' := [.int v2, .int v1]) (M' := M) rfl ?_
    refine pu_callI (m' := 169) (ml := 2) (as := [.int v1, .int v2]) (rest := []) rfl rfl rfl (Nat.le_of_ble_eq_true rfl) H (fun x2 M1 H => ?_)
    show pu_R L (d + 3) 249 25 [.ref 58, .int v1, .int v2] [.int x2] M1 _
    refine pu_if_eq rfl (fun hc => ?_) (fun hc => ?_)
    · replace H := Eq.mp (if_pos hc) H
      refine pu_go 2 (pc' := 14) (ls' := [.ref 58, .int v1, .int (v2 + 1)]) (st' := []) (M' := M1) rfl ?_
      exact H
    · replace H := Eq.mp (if_neg hc) H
      refine pu_go 2 (pc' := 30) (ls' := [.ref 58, .int v1, .int v2]) (st' := [.int v2, .ref 58]) (M' := M1) rfl ?_
      refine pu_callI (m' := 168) (ml := 3) (as := [.ref 58, .int v2]) (rest := []) rfl rfl rfl (Nat.le_of_ble_eq_true rfl) H (fun x4 M3 H => ?_)
      show pu_R L (d + 3) 249 33 [.ref 58, .int v1, .int v2] [.int x4] M3 _
      refine pu_go 1 (pc' := 35) (ls' := [.ref 58, .int v1, .int v2]) (st' := [.int ((-2)), .int x4]) (M' := M3) rfl ?_
      refine pu_icmp_eq rfl (fun hc => ?_) (fun hc => ?_)
      · replace H := Eq.mp (if_pos hc) H
        refine pu_go 2 (pc' := 14) (ls' := [.ref 58, .int v1, .int (v2 + 1)]) (st' := []) (M' := M3) rfl ?_
        exact H
      · replace H := Eq.mp (if_neg hc) H
        refine pu_go 1 (pc' := 39) (ls' := [.ref 58, .int v1, .int v2]) (st' := [.int 0]) (M' := M3) rfl ?_
        exact pu_ret rfl rfl ⟨_, rfl, H⟩
set_option maxRecDepth 20000 in
theorem r_m_isSilent {L d : Nat} {M : pu_M} {Q : Int32 → pu_M → Prop} {v1 : Int32} (H : pu_I L (d + 2) 168 [.ref 58, .int v1] M (fun x2 M1 => (if x2 = ((-2)) then pu_R L (d + 3) 249 14 [.ref 58, .int v1, .int 0] [] M1 (pu_qI Q) else Q 0 M1))) : pu_I L (d + 3) 249 [.ref 58, .int v1] M Q := by
  show pu_R L (d + 3) 249 0 [.ref 58, .int v1, mq_un] [] M (pu_qI Q)
  refine pu_go 2 (pc' := 2) (ls' := [.ref 58, .int v1, mq_un]) (st' := [.int v1, .ref 58]) (M' := M) rfl ?_
  refine pu_callI (m' := 168) (ml := 3) (as := [.ref 58, .int v1]) (rest := []) rfl rfl rfl (Nat.le_of_ble_eq_true rfl) H (fun x2 M1 H => ?_)
  show pu_R L (d + 3) 249 5 [.ref 58, .int v1, mq_un] [.int x2] M1 _
  refine pu_go 1 (pc' := 7) (ls' := [.ref 58, .int v1, mq_un]) (st' := [.int ((-2)), .int x2]) (M' := M1) rfl ?_
  refine pu_icmp_eq rfl (fun hc => ?_) (fun hc => ?_)
  · replace H := Eq.mp (if_pos hc) H
    refine pu_go 2 (pc' := 14) (ls' := [.ref 58, .int v1, .int 0]) (st' := []) (M' := M1) rfl ?_
    exact H
  · replace H := Eq.mp (if_neg hc) H
    refine pu_go 1 (pc' := 11) (ls' := [.ref 58, .int v1, mq_un]) (st' := [.int 0]) (M' := M1) rfl ?_
    exact pu_ret rfl rfl ⟨_, rfl, H⟩
/-! m_silent (I)I -/
set_option maxRecDepth 20000 in
theorem r_m_silent_46 {L d : Nat} {M : pu_M} {Q : Int32 → pu_M → Prop} {v1 : Int32} {v2 : Int32} {v3 : Int32} {v4 : Int32} {v5 : Int32} (H : pu_I L (d + 3) 249 [.ref 58, .int v5] M (fun x2 M1 => (if x2 = 0 then pu_R L (d + 4) 250 23 [.ref 58, .int v1, .int v2, .int v3, .int v4, .int (v5 + (-1))] [] M1 (pu_qI Q) else pu_R L (d + 4) 250 23 [.ref 58, .int v1, .int (v2 + 1), .int v5, .int v4, .int (v5 + (-1))] [] M1 (pu_qI Q)))) : pu_R L (d + 4) 250 46 [.ref 58, .int v1, .int v2, .int v3, .int v4, .int v5] [] M (pu_qI Q) := by
  refine pu_go 2 (pc' := 49) (ls' := [.ref 58, .int v1, .int v2, .int v3, .int v4, .int v5]) (st' := [.int v5, .ref 58]) (M' := M) rfl ?_
  refine pu_callI (m' := 249) (ml := 3) (as := [.ref 58, .int v5]) (rest := []) rfl rfl rfl (Nat.le_of_ble_eq_true rfl) H (fun x2 M1 H => ?_)
  show pu_R L (d + 4) 250 52 [.ref 58, .int v1, .int v2, .int v3, .int v4, .int v5] [.int x2] M1 _
  refine pu_if_ne rfl (fun hc => ?_) (fun hc => ?_)
  · replace H := Eq.mp (if_neg hc) H
    refine pu_go 8 (pc' := 23) (ls' := [.ref 58, .int v1, .int (v2 + 1), .int v5, .int v4, .int (v5 + (-1))]) (st' := []) (M' := M1) rfl ?_
    exact H
  · replace H := Eq.mp (if_pos hc) H
    refine pu_go 3 (pc' := 23) (ls' := [.ref 58, .int v1, .int v2, .int v3, .int v4, .int (v5 + (-1))]) (st' := []) (M' := M1) rfl ?_
    exact H
set_option maxRecDepth 20000 in
theorem r_m_silent_23 {L d : Nat} {M : pu_M} {Q : Int32 → pu_M → Prop} {v1 : Int32} {v2 : Int32} {v3 : Int32} {v4 : Int32} {v5 : Int32} (H : (if v5 < 0 then (if v1 = 0 then Q v2 M else (if v1 = 1 then Q v3 M else Q v4 M)) else (if v1 = 2 then pu_I L (d + 3) 248 [.ref 58, .int v5] M (fun x2 M1 => pu_I L (d + 3) 159 [.int v4, .int x2] M1 (fun x4 M3 => pu_R L (d + 4) 250 46 [.ref 58, .int v1, .int v2, .int v3, .int x4, .int v5] [] M3 (pu_qI Q))) else pu_R L (d + 4) 250 46 [.ref 58, .int v1, .int v2, .int v3, .int v4, .int v5] [] M (pu_qI Q)))) : pu_R L (d + 4) 250 23 [.ref 58, .int v1, .int v2, .int v3, .int v4, .int v5] [] M (pu_qI Q) := by
  refine pu_go 1 (pc' := 25) (ls' := [.ref 58, .int v1, .int v2, .int v3, .int v4, .int v5]) (st' := [.int v5]) (M' := M) rfl ?_
  refine pu_if_lt rfl (fun hc => ?_) (fun hc => ?_)
  · replace H := Eq.mp (if_pos hc) H
    refine pu_go 1 (pc' := 72) (ls' := [.ref 58, .int v1, .int v2, .int v3, .int v4, .int v5]) (st' := [.int v1]) (M' := M) rfl ?_
    refine pu_if_ne rfl (fun hc => ?_) (fun hc => ?_)
    · replace H := Eq.mp (if_neg hc) H
      refine pu_go 2 (pc' := 81) (ls' := [.ref 58, .int v1, .int v2, .int v3, .int v4, .int v5]) (st' := [.int 1, .int v1]) (M' := M) rfl ?_
      refine pu_icmp_ne rfl (fun hc => ?_) (fun hc => ?_)
      · replace H := Eq.mp (if_neg hc) H
        refine pu_go 1 (pc' := 90) (ls' := [.ref 58, .int v1, .int v2, .int v3, .int v4, .int v5]) (st' := [.int v4]) (M' := M) rfl ?_
        exact pu_ret rfl rfl ⟨_, rfl, H⟩
      · replace H := Eq.mp (if_pos hc) H
        refine pu_go 2 (pc' := 90) (ls' := [.ref 58, .int v1, .int v2, .int v3, .int v4, .int v5]) (st' := [.int v3]) (M' := M) rfl ?_
        exact pu_ret rfl rfl ⟨_, rfl, H⟩
    · replace H := Eq.mp (if_pos hc) H
      refine pu_go 2 (pc' := 90) (ls' := [.ref 58, .int v1, .int v2, .int v3, .int v4, .int v5]) (st' := [.int v2]) (M' := M) rfl ?_
      exact pu_ret rfl rfl ⟨_, rfl, H⟩
  · replace H := Eq.mp (if_neg hc) H
    refine pu_go 2 (pc' := 30) (ls' := [.ref 58, .int v1, .int v2, .int v3, .int v4, .int v5]) (st' := [.int 2, .int v1]) (M' := M) rfl ?_
    refine pu_icmp_ne rfl (fun hc => ?_) (fun hc => ?_)
    · replace H := Eq.mp (if_neg hc) H
      exact H
    · replace H := Eq.mp (if_pos hc) H
      refine pu_go 3 (pc' := 38) (ls' := [.ref 58, .int v1, .int v2, .int v3, .int v4, .int v5]) (st' := [.int v5, .ref 58, .int v4]) (M' := M) rfl ?_
      refine pu_callI (m' := 248) (ml := 5) (as := [.ref 58, .int v5]) (rest := [.int v4]) rfl rfl rfl (Nat.le_of_ble_eq_true rfl) H (fun x2 M1 H => ?_)
      show pu_R L (d + 4) 250 41 [.ref 58, .int v1, .int v2, .int v3, .int v4, .int v5] [.int x2, .int v4] M1 _
      refine pu_callI (m' := 159) (ml := 2) (as := [.int v4, .int x2]) (rest := []) rfl rfl rfl (Nat.le_of_ble_eq_true rfl) H (fun x4 M3 H => ?_)
      show pu_R L (d + 4) 250 44 [.ref 58, .int v1, .int v2, .int v3, .int v4, .int v5] [.int x4] M3 _
      refine pu_go 1 (pc' := 46) (ls' := [.ref 58, .int v1, .int v2, .int v3, .int x4, .int v5]) (st' := []) (M' := M3) rfl ?_
      exact H
set_option maxRecDepth 20000 in
theorem r_m_silent {L d : Nat} {M : pu_M} {Q : Int32 → pu_M → Prop} {v1 : Int32} (H : pu_I L (d + 3) 157 [.int v1, .int 0, .int 2] M (fun x2 M1 => (if x2 = 0 then Q ((-1)) M1 else pu_R L (d + 4) 250 23 [.ref 58, .int v1, .int 0, .int ((-2)), .int 0, .int 59] [] M1 (pu_qI Q)))) : pu_I L (d + 4) 250 [.ref 58, .int v1] M Q := by
  show pu_R L (d + 4) 250 0 [.ref 58, .int v1, mq_un, mq_un, mq_un, mq_un] [] M (pu_qI Q)
  refine pu_go 3 (pc' := 3) (ls' := [.ref 58, .int v1, mq_un, mq_un, mq_un, mq_un]) (st' := [.int 2, .int 0, .int v1]) (M' := M) rfl ?_
  refine pu_callI (m' := 157) (ml := 3) (as := [.int v1, .int 0, .int 2]) (rest := []) rfl rfl rfl (Nat.le_of_ble_eq_true rfl) H (fun x2 M1 H => ?_)
  show pu_R L (d + 4) 250 6 [.ref 58, .int v1, mq_un, mq_un, mq_un, mq_un] [.int x2] M1 _
  refine pu_if_ne rfl (fun hc => ?_) (fun hc => ?_)
  · replace H := Eq.mp (if_neg hc) H
    refine pu_go 8 (pc' := 23) (ls' := [.ref 58, .int v1, .int 0, .int ((-2)), .int 0, .int 59]) (st' := []) (M' := M1) rfl ?_
    exact H
  · replace H := Eq.mp (if_pos hc) H
    refine pu_go 1 (pc' := 10) (ls' := [.ref 58, .int v1, mq_un, mq_un, mq_un, mq_un]) (st' := [.int ((-1))]) (M' := M1) rfl ?_
    exact pu_ret rfl rfl ⟨_, rfl, H⟩
/-! m_stepsBeside (I)I -/
set_option maxRecDepth 20000 in
theorem r_m_stepsBeside_5 {L d : Nat} {M : pu_M} {Q : Int32 → pu_M → Prop} {v1 : Int32} {v2 : Int32} {v3 : Int32} (H : (if 60 ≤ v3 then Q v2 M else pu_I L (d + 2) 169 [.int v1, .int v3] M (fun x2 M1 => (if x2 = 0 then pu_R L (d + 3) 251 5 [.ref 58, .int v1, .int v2, .int (v3 + 1)] [] M1 (pu_qI Q) else (mq_inb v3 60 = true ∧ (if (M1 88 v3.toNatClampNeg) = ((-1)) then pu_R L (d + 3) 251 5 [.ref 58, .int v1, .int v2, .int (v3 + 1)] [] M1 (pu_qI Q) else (if v2 = ((-2)) then (mq_inb v3 60 = true ∧ pu_R L (d + 3) 251 5 [.ref 58, .int v1, .int (M1 88 v3.toNatClampNeg), .int (v3 + 1)] [] M1 (pu_qI Q)) else (mq_inb v3 60 = true ∧ (if v2 ≤ (M1 88 v3.toNatClampNeg) then pu_R L (d + 3) 251 5 [.ref 58, .int v1, .int v2, .int (v3 + 1)] [] M1 (pu_qI Q) else (mq_inb v3 60 = true ∧ pu_R L (d + 3) 251 5 [.ref 58, .int v1, .int (M1 88 v3.toNatClampNeg), .int (v3 + 1)] [] M1 (pu_qI Q))))))))))) : pu_R L (d + 3) 251 5 [.ref 58, .int v1, .int v2, .int v3] [] M (pu_qI Q) := by
  refine pu_go 2 (pc' := 8) (ls' := [.ref 58, .int v1, .int v2, .int v3]) (st' := [.int 60, .int v3]) (M' := M) rfl ?_
  refine pu_icmp_ge rfl (fun hc => ?_) (fun hc => ?_)
  · replace H := Eq.mp (if_pos hc) H
    refine pu_go 1 (pc' := 59) (ls' := [.ref 58, .int v1, .int v2, .int v3]) (st' := [.int v2]) (M' := M) rfl ?_
    exact pu_ret rfl rfl ⟨_, rfl, H⟩
  · replace H := Eq.mp (if_neg hc) H
    refine pu_go 2 (pc' := 13) (ls' := [.ref 58, .int v1, .int v2, .int v3]) (st' := [.int v3, .int v1]) (M' := M) rfl ?_
    refine pu_callI (m' := 169) (ml := 2) (as := [.int v1, .int v3]) (rest := []) rfl rfl rfl (Nat.le_of_ble_eq_true rfl) H (fun x2 M1 H => ?_)
    show pu_R L (d + 3) 251 16 [.ref 58, .int v1, .int v2, .int v3] [.int x2] M1 _
    refine pu_if_eq rfl (fun hc => ?_) (fun hc => ?_)
    · replace H := Eq.mp (if_pos hc) H
      refine pu_go 2 (pc' := 5) (ls' := [.ref 58, .int v1, .int v2, .int (v3 + 1)]) (st' := []) (M' := M1) rfl ?_
      exact H
    · replace H := Eq.mp (if_neg hc) H
      refine pu_go 3 (pc' := 24) (ls' := [.ref 58, .int v1, .int v2, .int v3]) (st' := [.int v3, .ref 88]) (M' := M1) rfl ?_
      obtain ⟨hb3, H⟩ := H
      refine pu_iald rfl rfl (Or.inl (by decide)) hb3 ?_
      refine pu_go 1 (pc' := 26) (ls' := [.ref 58, .int v1, .int v2, .int v3]) (st' := [.int ((-1)), .int (M1 88 v3.toNatClampNeg)]) (M' := M1) rfl ?_
      refine pu_icmp_eq rfl (fun hc => ?_) (fun hc => ?_)
      · replace H := Eq.mp (if_pos hc) H
        refine pu_go 2 (pc' := 5) (ls' := [.ref 58, .int v1, .int v2, .int (v3 + 1)]) (st' := []) (M' := M1) rfl ?_
        exact H
      · replace H := Eq.mp (if_neg hc) H
        refine pu_go 2 (pc' := 32) (ls' := [.ref 58, .int v1, .int v2, .int v3]) (st' := [.int ((-2)), .int v2]) (M' := M1) rfl ?_
        refine pu_icmp_eq rfl (fun hc => ?_) (fun hc => ?_)
        · replace H := Eq.mp (if_pos hc) H
          refine pu_go 3 (pc' := 50) (ls' := [.ref 58, .int v1, .int v2, .int v3]) (st' := [.int v3, .ref 88]) (M' := M1) rfl ?_
          obtain ⟨hb4, H⟩ := H
          refine pu_iald rfl rfl (Or.inl (by decide)) hb4 ?_
          refine pu_go 3 (pc' := 5) (ls' := [.ref 58, .int v1, .int (M1 88 v3.toNatClampNeg), .int (v3 + 1)]) (st' := []) (M' := M1) rfl ?_
          exact H
        · replace H := Eq.mp (if_neg hc) H
          refine pu_go 3 (pc' := 40) (ls' := [.ref 58, .int v1, .int v2, .int v3]) (st' := [.int v3, .ref 88]) (M' := M1) rfl ?_
          obtain ⟨hb5, H⟩ := H
          refine pu_iald rfl rfl (Or.inl (by decide)) hb5 ?_
          refine pu_go 1 (pc' := 42) (ls' := [.ref 58, .int v1, .int v2, .int v3]) (st' := [.int v2, .int (M1 88 v3.toNatClampNeg)]) (M' := M1) rfl ?_
          refine pu_icmp_ge rfl (fun hc => ?_) (fun hc => ?_)
          · replace H := Eq.mp (if_pos hc) H
            refine pu_go 2 (pc' := 5) (ls' := [.ref 58, .int v1, .int v2, .int (v3 + 1)]) (st' := []) (M' := M1) rfl ?_
            exact H
          · replace H := Eq.mp (if_neg hc) H
            refine pu_go 3 (pc' := 50) (ls' := [.ref 58, .int v1, .int v2, .int v3]) (st' := [.int v3, .ref 88]) (M' := M1) rfl ?_
            obtain ⟨hb6, H⟩ := H
            refine pu_iald rfl rfl (Or.inl (by decide)) hb6 ?_
            refine pu_go 3 (pc' := 5) (ls' := [.ref 58, .int v1, .int (M1 88 v3.toNatClampNeg), .int (v3 + 1)]) (st' := []) (M' := M1) rfl ?_
            exact H
set_option maxRecDepth 20000 in
theorem r_m_stepsBeside {L d : Nat} {M : pu_M} {Q : Int32 → pu_M → Prop} {v1 : Int32} (H : pu_R L (d + 3) 251 5 [.ref 58, .int v1, .int ((-2)), .int 0] [] M (pu_qI Q)) : pu_I L (d + 3) 251 [.ref 58, .int v1] M Q := by
  show pu_R L (d + 3) 251 0 [.ref 58, .int v1, mq_un, mq_un] [] M (pu_qI Q)
  refine pu_go 4 (pc' := 5) (ls' := [.ref 58, .int v1, .int ((-2)), .int 0]) (st' := []) (M' := M) rfl ?_
  exact H
/-! m_visit (I)I -/
set_option maxRecDepth 20000 in
theorem r_m_visit {L d : Nat} {M : pu_M} {Q : Int32 → pu_M → Prop} {v1 : Int32} (H : pu_I L (d + 3) 164 [.ref 58, .int v1] M (fun x2 M1 => (if x2 = 0 then Q ((-1)) M1 else pu_I L (d + 3) 165 [.ref 58, .int v1] M1 (fun x4 M3 => (if x4 = 0 then Q ((-2)) M3 else pu_I L (d + 3) 248 [.ref 58, .int 0] M3 (fun x6 M5 => (mq_inb (48 + v1) 66 = true ∧ pu_I L (d + 3) 251 [.ref 58, .int (M5 59 (48 + v1 : Int32).toNatClampNeg)] M5 (fun x9 M8 => Q x9 M8)))))))) : pu_I L (d + 4) 252 [.ref 58, .int v1] M Q := by
  show pu_R L (d + 4) 252 0 [.ref 58, .int v1] [] M (pu_qI Q)
  refine pu_go 2 (pc' := 2) (ls' := [.ref 58, .int v1]) (st' := [.int v1, .ref 58]) (M' := M) rfl ?_
  refine pu_callI (m' := 164) (ml := 2) (as := [.ref 58, .int v1]) (rest := []) rfl rfl rfl (Nat.le_of_ble_eq_true rfl) H (fun x2 M1 H => ?_)
  show pu_R L (d + 4) 252 5 [.ref 58, .int v1] [.int x2] M1 _
  refine pu_if_ne rfl (fun hc => ?_) (fun hc => ?_)
  · replace H := Eq.mp (if_neg hc) H
    refine pu_go 2 (pc' := 12) (ls' := [.ref 58, .int v1]) (st' := [.int v1, .ref 58]) (M' := M1) rfl ?_
    refine pu_callI (m' := 165) (ml := 2) (as := [.ref 58, .int v1]) (rest := []) rfl rfl rfl (Nat.le_of_ble_eq_true rfl) H (fun x4 M3 H => ?_)
    show pu_R L (d + 4) 252 15 [.ref 58, .int v1] [.int x4] M3 _
    refine pu_if_ne rfl (fun hc => ?_) (fun hc => ?_)
    · replace H := Eq.mp (if_neg hc) H
      refine pu_go 2 (pc' := 23) (ls' := [.ref 58, .int v1]) (st' := [.int 0, .ref 58]) (M' := M3) rfl ?_
      refine pu_callI (m' := 248) (ml := 5) (as := [.ref 58, .int 0]) (rest := []) rfl rfl rfl (Nat.le_of_ble_eq_true rfl) H (fun x6 M5 H => ?_)
      show pu_R L (d + 4) 252 26 [.ref 58, .int v1] [.int x6] M5 _
      refine pu_go 7 (pc' := 36) (ls' := [.ref 58, .int v1]) (st' := [.int (48 + v1), .ref 59, .ref 58]) (M' := M5) rfl ?_
      obtain ⟨hb7, H⟩ := H
      refine pu_iald rfl rfl (Or.inl (by decide)) hb7 ?_
      refine pu_callI (m' := 251) (ml := 4) (as := [.ref 58, .int (M5 59 (48 + v1 : Int32).toNatClampNeg)]) (rest := []) rfl rfl rfl (Nat.le_of_ble_eq_true rfl) H (fun x9 M8 H => ?_)
      show pu_R L (d + 4) 252 40 [.ref 58, .int v1] [.int x9] M8 _
      exact pu_ret rfl rfl ⟨_, rfl, H⟩
    · replace H := Eq.mp (if_pos hc) H
      refine pu_go 1 (pc' := 20) (ls' := [.ref 58, .int v1]) (st' := [.int ((-2))]) (M' := M3) rfl ?_
      exact pu_ret rfl rfl ⟨_, rfl, H⟩
  · replace H := Eq.mp (if_pos hc) H
    refine pu_go 1 (pc' := 9) (ls' := [.ref 58, .int v1]) (st' := [.int ((-1))]) (M' := M1) rfl ?_
    exact pu_ret rfl rfl ⟨_, rfl, H⟩
/-! m_visited ()I -/
set_option maxRecDepth 20000 in
theorem r_m_visited_10 {L d : Nat} {M : pu_M} {Q : Int32 → pu_M → Prop} {v1 : Int32} {v2 : Int32} (H : (if 16 ≤ v2 then Q v1 M else pu_I L (d + 3) 165 [.ref 58, .int v2] M (fun x2 M1 => (if x2 = 0 then pu_R L (d + 4) 253 10 [.ref 58, .int v1, .int (v2 + 1)] [] M1 (pu_qI Q) else (mq_inb (48 + v2) 66 = true ∧ pu_I L (d + 3) 251 [.ref 58, .int (M1 59 (48 + v2 : Int32).toNatClampNeg)] M1 (fun x5 M4 => (if x5 = ((-2)) then pu_R L (d + 4) 253 10 [.ref 58, .int v1, .int (v2 + 1)] [] M4 (pu_qI Q) else pu_R L (d + 4) 253 10 [.ref 58, .int (v1 ||| ((1 : Int32) <<< (v2 &&& 31))), .int (v2 + 1)] [] M4 (pu_qI Q)))))))) : pu_R L (d + 4) 253 10 [.ref 58, .int v1, .int v2] [] M (pu_qI Q) := by
  refine pu_go 2 (pc' := 13) (ls' := [.ref 58, .int v1, .int v2]) (st' := [.int 16, .int v2]) (M' := M) rfl ?_
  refine pu_icmp_ge rfl (fun hc => ?_) (fun hc => ?_)
  · replace H := Eq.mp (if_pos hc) H
    refine pu_go 1 (pc' := 55) (ls' := [.ref 58, .int v1, .int v2]) (st' := [.int v1]) (M' := M) rfl ?_
    exact pu_ret rfl rfl ⟨_, rfl, H⟩
  · replace H := Eq.mp (if_neg hc) H
    refine pu_go 2 (pc' := 18) (ls' := [.ref 58, .int v1, .int v2]) (st' := [.int v2, .ref 58]) (M' := M) rfl ?_
    refine pu_callI (m' := 165) (ml := 2) (as := [.ref 58, .int v2]) (rest := []) rfl rfl rfl (Nat.le_of_ble_eq_true rfl) H (fun x2 M1 H => ?_)
    show pu_R L (d + 4) 253 21 [.ref 58, .int v1, .int v2] [.int x2] M1 _
    refine pu_if_eq rfl (fun hc => ?_) (fun hc => ?_)
    · replace H := Eq.mp (if_pos hc) H
      refine pu_go 2 (pc' := 10) (ls' := [.ref 58, .int v1, .int (v2 + 1)]) (st' := []) (M' := M1) rfl ?_
      exact H
    · replace H := Eq.mp (if_neg hc) H
      refine pu_go 6 (pc' := 33) (ls' := [.ref 58, .int v1, .int v2]) (st' := [.int (48 + v2), .ref 59, .ref 58]) (M' := M1) rfl ?_
      obtain ⟨hb3, H⟩ := H
      refine pu_iald rfl rfl (Or.inl (by decide)) hb3 ?_
      refine pu_callI (m' := 251) (ml := 4) (as := [.ref 58, .int (M1 59 (48 + v2 : Int32).toNatClampNeg)]) (rest := []) rfl rfl rfl (Nat.le_of_ble_eq_true rfl) H (fun x5 M4 H => ?_)
      show pu_R L (d + 4) 253 37 [.ref 58, .int v1, .int v2] [.int x5] M4 _
      refine pu_go 1 (pc' := 39) (ls' := [.ref 58, .int v1, .int v2]) (st' := [.int ((-2)), .int x5]) (M' := M4) rfl ?_
      refine pu_icmp_eq rfl (fun hc => ?_) (fun hc => ?_)
      · replace H := Eq.mp (if_pos hc) H
        refine pu_go 2 (pc' := 10) (ls' := [.ref 58, .int v1, .int (v2 + 1)]) (st' := []) (M' := M4) rfl ?_
        exact H
      · replace H := Eq.mp (if_neg hc) H
        refine pu_go 8 (pc' := 10) (ls' := [.ref 58, .int (v1 ||| ((1 : Int32) <<< (v2 &&& 31))), .int (v2 + 1)]) (st' := []) (M' := M4) rfl ?_
        exact H
set_option maxRecDepth 20000 in
theorem r_m_visited {L d : Nat} {M : pu_M} {Q : Int32 → pu_M → Prop}  (H : pu_I L (d + 3) 248 [.ref 58, .int 0] M (fun x2 M1 => pu_R L (d + 4) 253 10 [.ref 58, .int 0, .int 0] [] M1 (pu_qI Q))) : pu_I L (d + 4) 253 [.ref 58] M Q := by
  show pu_R L (d + 4) 253 0 [.ref 58, mq_un, mq_un] [] M (pu_qI Q)
  refine pu_go 2 (pc' := 2) (ls' := [.ref 58, mq_un, mq_un]) (st' := [.int 0, .ref 58]) (M' := M) rfl ?_
  refine pu_callI (m' := 248) (ml := 5) (as := [.ref 58, .int 0]) (rest := []) rfl rfl rfl (Nat.le_of_ble_eq_true rfl) H (fun x2 M1 H => ?_)
  show pu_R L (d + 4) 253 5 [.ref 58, mq_un, mq_un] [.int x2] M1 _
  refine pu_go 5 (pc' := 10) (ls' := [.ref 58, .int 0, .int 0]) (st' := []) (M' := M1) rfl ?_
  exact H
/-! m_alike (II)I -/
set_option maxRecDepth 20000 in
theorem r_m_alike_29 {L d : Nat} {M : pu_M} {Q : Int32 → pu_M → Prop} {v1 : Int32} {v2 : Int32} {v3 : Int32} {v4 : Int32} {v5 : Int32} {v6 : Value} (H : (if 16 ≤ v5 then (if v2 = 0 then Q v3 M else Q v4 M) else (mq_inb (16 + v1) 66 = true ∧ (mq_inb (16 + v5) 66 = true ∧ pu_I L (d + 2) 162 [.int ((M 59 (16 + v1 : Int32).toNatClampNeg) ^^^ (M 59 (16 + v5 : Int32).toNatClampNeg))] M (fun x4 M3 => pu_I L (d + 2) 164 [.ref 58, .int v5] M3 (fun x6 M5 => (if x6 = 0 then pu_R L (d + 3) 254 29 [.ref 58, .int v1, .int v2, .int v3, .int v4, .int (v5 + 1), .int x4] [] M5 (pu_qI Q) else (if v5 = v1 then pu_R L (d + 3) 254 29 [.ref 58, .int v1, .int v2, .int v3, .int v4, .int (v5 + 1), .int x4] [] M5 (pu_qI Q) else (if v3 = ((-2)) then pu_R L (d + 3) 254 29 [.ref 58, .int v1, .int v2, .int v5, .int x4, .int (v5 + 1), .int x4] [] M5 (pu_qI Q) else (if x4 < v4 then pu_R L (d + 3) 254 29 [.ref 58, .int v1, .int v2, .int v5, .int x4, .int (v5 + 1), .int x4] [] M5 (pu_qI Q) else pu_R L (d + 3) 254 29 [.ref 58, .int v1, .int v2, .int v3, .int v4, .int (v5 + 1), .int x4] [] M5 (pu_qI Q))))))))))) : pu_R L (d + 3) 254 29 [.ref 58, .int v1, .int v2, .int v3, .int v4, .int v5, v6] [] M (pu_qI Q) := by
  refine pu_go 2 (pc' := 33) (ls' := [.ref 58, .int v1, .int v2, .int v3, .int v4, .int v5, v6]) (st' := [.int 16, .int v5]) (M' := M) rfl ?_
  refine pu_icmp_ge rfl (fun hc => ?_) (fun hc => ?_)
  · replace H := Eq.mp (if_pos hc) H
    refine pu_go 1 (pc' := 106) (ls' := [.ref 58, .int v1, .int v2, .int v3, .int v4, .int v5, v6]) (st' := [.int v2]) (M' := M) rfl ?_
    refine pu_if_ne rfl (fun hc => ?_) (fun hc => ?_)
    · replace H := Eq.mp (if_neg hc) H
      refine pu_go 1 (pc' := 115) (ls' := [.ref 58, .int v1, .int v2, .int v3, .int v4, .int v5, v6]) (st' := [.int v4]) (M' := M) rfl ?_
      exact pu_ret rfl rfl ⟨_, rfl, H⟩
    · replace H := Eq.mp (if_pos hc) H
      refine pu_go 2 (pc' := 115) (ls' := [.ref 58, .int v1, .int v2, .int v3, .int v4, .int v5, v6]) (st' := [.int v3]) (M' := M) rfl ?_
      exact pu_ret rfl rfl ⟨_, rfl, H⟩
  · replace H := Eq.mp (if_neg hc) H
    refine pu_go 5 (pc' := 44) (ls' := [.ref 58, .int v1, .int v2, .int v3, .int v4, .int v5, v6]) (st' := [.int (16 + v1), .ref 59]) (M' := M) rfl ?_
    obtain ⟨hb1, H⟩ := H
    refine pu_iald rfl rfl (Or.inl (by decide)) hb1 ?_
    refine pu_go 5 (pc' := 54) (ls' := [.ref 58, .int v1, .int v2, .int v3, .int v4, .int v5, v6]) (st' := [.int (16 + v5), .ref 59, .int (M 59 (16 + v1 : Int32).toNatClampNeg)]) (M' := M) rfl ?_
    obtain ⟨hb2, H⟩ := H
    refine pu_iald rfl rfl (Or.inl (by decide)) hb2 ?_
    refine pu_go 1 (pc' := 56) (ls' := [.ref 58, .int v1, .int v2, .int v3, .int v4, .int v5, v6]) (st' := [.int ((M 59 (16 + v1 : Int32).toNatClampNeg) ^^^ (M 59 (16 + v5 : Int32).toNatClampNeg))]) (M' := M) rfl ?_
    refine pu_callI (m' := 162) (ml := 3) (as := [.int ((M 59 (16 + v1 : Int32).toNatClampNeg) ^^^ (M 59 (16 + v5 : Int32).toNatClampNeg))]) (rest := []) rfl rfl rfl (Nat.le_of_ble_eq_true rfl) H (fun x4 M3 H => ?_)
    show pu_R L (d + 3) 254 59 [.ref 58, .int v1, .int v2, .int v3, .int v4, .int v5, v6] [.int x4] M3 _
    refine pu_go 3 (pc' := 64) (ls' := [.ref 58, .int v1, .int v2, .int v3, .int v4, .int v5, .int x4]) (st' := [.int v5, .ref 58]) (M' := M3) rfl ?_
    refine pu_callI (m' := 164) (ml := 2) (as := [.ref 58, .int v5]) (rest := []) rfl rfl rfl (Nat.le_of_ble_eq_true rfl) H (fun x6 M5 H => ?_)
    show pu_R L (d + 3) 254 67 [.ref 58, .int v1, .int v2, .int v3, .int v4, .int v5, .int x4] [.int x6] M5 _
    refine pu_if_eq rfl (fun hc => ?_) (fun hc => ?_)
    · replace H := Eq.mp (if_pos hc) H
      refine pu_go 2 (pc' := 29) (ls' := [.ref 58, .int v1, .int v2, .int v3, .int v4, .int (v5 + 1), .int x4]) (st' := []) (M' := M5) rfl ?_
      exact H
    · replace H := Eq.mp (if_neg hc) H
      refine pu_go 2 (pc' := 73) (ls' := [.ref 58, .int v1, .int v2, .int v3, .int v4, .int v5, .int x4]) (st' := [.int v1, .int v5]) (M' := M5) rfl ?_
      refine pu_icmp_eq rfl (fun hc => ?_) (fun hc => ?_)
      · replace H := Eq.mp (if_pos hc) H
        refine pu_go 2 (pc' := 29) (ls' := [.ref 58, .int v1, .int v2, .int v3, .int v4, .int (v5 + 1), .int x4]) (st' := []) (M' := M5) rfl ?_
        exact H
      · replace H := Eq.mp (if_neg hc) H
        refine pu_go 2 (pc' := 79) (ls' := [.ref 58, .int v1, .int v2, .int v3, .int v4, .int v5, .int x4]) (st' := [.int ((-2)), .int v3]) (M' := M5) rfl ?_
        refine pu_icmp_eq rfl (fun hc => ?_) (fun hc => ?_)
        · replace H := Eq.mp (if_pos hc) H
          refine pu_go 6 (pc' := 29) (ls' := [.ref 58, .int v1, .int v2, .int v5, .int x4, .int (v5 + 1), .int x4]) (st' := []) (M' := M5) rfl ?_
          exact H
        · replace H := Eq.mp (if_neg hc) H
          refine pu_go 2 (pc' := 86) (ls' := [.ref 58, .int v1, .int v2, .int v3, .int v4, .int v5, .int x4]) (st' := [.int v4, .int x4]) (M' := M5) rfl ?_
          refine pu_icmp_lt rfl (fun hc => ?_) (fun hc => ?_)
          · replace H := Eq.mp (if_pos hc) H
            refine pu_go 6 (pc' := 29) (ls' := [.ref 58, .int v1, .int v2, .int v5, .int x4, .int (v5 + 1), .int x4]) (st' := []) (M' := M5) rfl ?_
            exact H
          · replace H := Eq.mp (if_neg hc) H
            refine pu_go 3 (pc' := 29) (ls' := [.ref 58, .int v1, .int v2, .int v3, .int v4, .int (v5 + 1), .int x4]) (st' := []) (M' := M5) rfl ?_
            exact H
set_option maxRecDepth 20000 in
theorem r_m_alike {L d : Nat} {M : pu_M} {Q : Int32 → pu_M → Prop} {v1 : Int32} {v2 : Int32} (H : pu_I L (d + 2) 164 [.ref 58, .int v1] M (fun x2 M1 => (if x2 = 0 then Q ((-1)) M1 else pu_I L (d + 2) 157 [.int v2, .int 0, .int 1] M1 (fun x4 M3 => (if x4 = 0 then Q ((-1)) M3 else pu_R L (d + 3) 254 29 [.ref 58, .int v1, .int v2, .int ((-2)), .int ((-2)), .int 0, mq_un] [] M3 (pu_qI Q)))))) : pu_I L (d + 3) 254 [.ref 58, .int v1, .int v2] M Q := by
  show pu_R L (d + 3) 254 0 [.ref 58, .int v1, .int v2, mq_un, mq_un, mq_un, mq_un] [] M (pu_qI Q)
  refine pu_go 2 (pc' := 2) (ls' := [.ref 58, .int v1, .int v2, mq_un, mq_un, mq_un, mq_un]) (st' := [.int v1, .ref 58]) (M' := M) rfl ?_
  refine pu_callI (m' := 164) (ml := 2) (as := [.ref 58, .int v1]) (rest := []) rfl rfl rfl (Nat.le_of_ble_eq_true rfl) H (fun x2 M1 H => ?_)
  show pu_R L (d + 3) 254 5 [.ref 58, .int v1, .int v2, mq_un, mq_un, mq_un, mq_un] [.int x2] M1 _
  refine pu_if_eq rfl (fun hc => ?_) (fun hc => ?_)
  · replace H := Eq.mp (if_pos hc) H
    refine pu_go 1 (pc' := 18) (ls' := [.ref 58, .int v1, .int v2, mq_un, mq_un, mq_un, mq_un]) (st' := [.int ((-1))]) (M' := M1) rfl ?_
    exact pu_ret rfl rfl ⟨_, rfl, H⟩
  · replace H := Eq.mp (if_neg hc) H
    refine pu_go 3 (pc' := 11) (ls' := [.ref 58, .int v1, .int v2, mq_un, mq_un, mq_un, mq_un]) (st' := [.int 1, .int 0, .int v2]) (M' := M1) rfl ?_
    refine pu_callI (m' := 157) (ml := 3) (as := [.int v2, .int 0, .int 1]) (rest := []) rfl rfl rfl (Nat.le_of_ble_eq_true rfl) H (fun x4 M3 H => ?_)
    show pu_R L (d + 3) 254 14 [.ref 58, .int v1, .int v2, mq_un, mq_un, mq_un, mq_un] [.int x4] M3 _
    refine pu_if_ne rfl (fun hc => ?_) (fun hc => ?_)
    · replace H := Eq.mp (if_neg hc) H
      refine pu_go 6 (pc' := 29) (ls' := [.ref 58, .int v1, .int v2, .int ((-2)), .int ((-2)), .int 0, mq_un]) (st' := []) (M' := M3) rfl ?_
      exact H
    · replace H := Eq.mp (if_pos hc) H
      refine pu_go 1 (pc' := 18) (ls' := [.ref 58, .int v1, .int v2, mq_un, mq_un, mq_un, mq_un]) (st' := [.int ((-1))]) (M' := M3) rfl ?_
      exact pu_ret rfl rfl ⟨_, rfl, H⟩
/-! m_seed (I)Z -/
set_option maxRecDepth 20000 in
theorem r_m_seed {L d : Nat} {M : pu_M} {Q : Int32 → pu_M → Prop} {v1 : Int32} (H : pu_I L (d + 1) 157 [.int v1, .int 0, .int 65535] M (fun x2 M1 => (if x2 = 0 then Q 0 M1 else Q 1 (pu_wr M1 59 (65 : Int32).toNatClampNeg v1)))) : pu_I L (d + 2) 255 [.ref 58, .int v1] M Q := by
  show pu_R L (d + 2) 255 0 [.ref 58, .int v1] [] M (pu_qI Q)
  refine pu_go 3 (pc' := 4) (ls' := [.ref 58, .int v1]) (st' := [.int 65535, .int 0, .int v1]) (M' := M) rfl ?_
  refine pu_callI (m' := 157) (ml := 3) (as := [.int v1, .int 0, .int 65535]) (rest := []) rfl rfl rfl (Nat.le_of_ble_eq_true rfl) H (fun x2 M1 H => ?_)
  show pu_R L (d + 2) 255 7 [.ref 58, .int v1] [.int x2] M1 _
  refine pu_if_ne rfl (fun hc => ?_) (fun hc => ?_)
  · replace H := Eq.mp (if_neg hc) H
    refine pu_go 4 (pc' := 19) (ls' := [.ref 58, .int v1]) (st' := [.int v1, .int 65, .ref 59]) (M' := M1) rfl ?_
    refine pu_iast rfl rfl (by decide) rfl ?_
    refine pu_go 1 (pc' := 21) (ls' := [.ref 58, .int v1]) (st' := [.int 1]) (M' := pu_wr M1 59 (65 : Int32).toNatClampNeg v1) rfl ?_
    exact pu_ret rfl rfl ⟨_, rfl, H⟩
  · replace H := Eq.mp (if_pos hc) H
    refine pu_go 1 (pc' := 11) (ls' := [.ref 58, .int v1]) (st' := [.int 0]) (M' := M1) rfl ?_
    exact pu_ret rfl rfl ⟨_, rfl, H⟩
/-! m_keep ()I -/
set_option maxRecDepth 20000 in
theorem r_m_keep {L d : Nat} {M : pu_M} {Q : Int32 → pu_M → Prop}  (H : pu_V L (d + 1) 163 [.ref 59, .ref 61] (pu_wr M 58 49 1) (fun M1 => Q (M1 59 (64 : Int32).toNatClampNeg) M1)) : pu_I L (d + 2) 256 [.ref 58] M Q := by
  show pu_R L (d + 2) 256 0 [.ref 58] [] M (pu_qI Q)
  refine pu_go 2 (pc' := 2) (ls' := [.ref 58]) (st' := [.int 1, .ref 58]) (M' := M) rfl ?_
  refine pu_putf (j := 49) (z := 1) rfl rfl (by decide) rfl (by decide) rfl rfl pu_put_hw ?_
  refine pu_go 4 (pc' := 13) (ls' := [.ref 58]) (st' := [.ref 61, .ref 59]) (M' := pu_wr M 58 49 1) rfl ?_
  refine pu_callV (m' := 163) (ml := 3) (as := [.ref 59, .ref 61]) (rest := []) rfl rfl rfl (Nat.le_of_ble_eq_true rfl) H (fun M1 H => ?_)
  show pu_R L (d + 2) 256 16 [.ref 58] [] M1 _
  refine pu_go 3 (pc' := 22) (ls' := [.ref 58]) (st' := [.int 64, .ref 59]) (M' := M1) rfl ?_
  refine pu_iald rfl rfl (Or.inl (by decide)) rfl ?_
  exact pu_ret rfl rfl ⟨_, rfl, H⟩
/-! m_undo ()Z -/
set_option maxRecDepth 20000 in
theorem r_m_undo {L d : Nat} {M : pu_M} {Q : Int32 → pu_M → Prop}  (H : (if (M 58 49) = 0 then Q 0 M else pu_V L (d + 1) 163 [.ref 61, .ref 59] M (fun M1 => Q 1 M1))) : pu_I L (d + 2) 257 [.ref 58] M Q := by
  show pu_R L (d + 2) 257 0 [.ref 58] [] M (pu_qI Q)
  refine pu_go 2 (pc' := 4) (ls' := [.ref 58]) (st' := [.int (M 58 49)]) (M' := M) rfl ?_
  refine pu_if_ne rfl (fun hc => ?_) (fun hc => ?_)
  · replace H := Eq.mp (if_neg hc) H
    refine pu_go 4 (pc' := 17) (ls' := [.ref 58]) (st' := [.ref 59, .ref 61]) (M' := M) rfl ?_
    refine pu_callV (m' := 163) (ml := 3) (as := [.ref 61, .ref 59]) (rest := []) rfl rfl rfl (Nat.le_of_ble_eq_true rfl) H (fun M1 H => ?_)
    show pu_R L (d + 2) 257 20 [.ref 58] [] M1 _
    refine pu_go 1 (pc' := 21) (ls' := [.ref 58]) (st' := [.int 1]) (M' := M1) rfl ?_
    exact pu_ret rfl rfl ⟨_, rfl, H⟩
  · replace H := Eq.mp (if_pos hc) H
    refine pu_go 1 (pc' := 8) (ls' := [.ref 58]) (st' := [.int 0]) (M' := M) rfl ?_
    exact pu_ret rfl rfl ⟨_, rfl, H⟩
/-! m_check (I)I -/
set_option maxRecDepth 20000 in
theorem r_m_check_28 {L d : Nat} {M : pu_M} {Q : Int32 → pu_M → Prop} {v1 : Int32} {v2 : Int32} (H : (if v1 ≤ v2 then Q ((-1)) M else pu_I L (d + 2) 177 [.ref 58, .int v2] M (fun x2 M1 => pu_I L (d + 2) 164 [.ref 58, .int v2] M1 (fun x4 M3 => (if x4 = 0 then (if x2 = 0 then pu_R L (d + 3) 258 28 [.ref 58, .int v1, .int (v2 + 1)] [] M3 (pu_qI Q) else Q v2 M3) else (mq_inb (32 + v2) 66 = true ∧ (if x2 = (M3 59 (32 + v2 : Int32).toNatClampNeg) then pu_R L (d + 3) 258 28 [.ref 58, .int v1, .int (v2 + 1)] [] M3 (pu_qI Q) else Q v2 M3))))))) : pu_R L (d + 3) 258 28 [.ref 58, .int v1, .int v2] [] M (pu_qI Q) := by
  refine pu_go 2 (pc' := 30) (ls' := [.ref 58, .int v1, .int v2]) (st' := [.int v1, .int v2]) (M' := M) rfl ?_
  refine pu_icmp_ge rfl (fun hc => ?_) (fun hc => ?_)
  · replace H := Eq.mp (if_pos hc) H
    refine pu_go 1 (pc' := 71) (ls' := [.ref 58, .int v1, .int v2]) (st' := [.int ((-1))]) (M' := M) rfl ?_
    exact pu_ret rfl rfl ⟨_, rfl, H⟩
  · replace H := Eq.mp (if_neg hc) H
    refine pu_go 2 (pc' := 35) (ls' := [.ref 58, .int v1, .int v2]) (st' := [.int v2, .ref 58]) (M' := M) rfl ?_
    refine pu_callI (m' := 177) (ml := 2) (as := [.ref 58, .int v2]) (rest := []) rfl rfl rfl (Nat.le_of_ble_eq_true rfl) H (fun x2 M1 H => ?_)
    show pu_R L (d + 3) 258 38 [.ref 58, .int v1, .int v2] [.int x2] M1 _
    refine pu_go 2 (pc' := 40) (ls' := [.ref 58, .int v1, .int v2]) (st' := [.int v2, .ref 58, .int x2]) (M' := M1) rfl ?_
    refine pu_callI (m' := 164) (ml := 2) (as := [.ref 58, .int v2]) (rest := [.int x2]) rfl rfl rfl (Nat.le_of_ble_eq_true rfl) H (fun x4 M3 H => ?_)
    show pu_R L (d + 3) 258 43 [.ref 58, .int v1, .int v2] [.int x4, .int x2] M3 _
    refine pu_if_eq rfl (fun hc => ?_) (fun hc => ?_)
    · replace H := Eq.mp (if_pos hc) H
      refine pu_go 1 (pc' := 59) (ls' := [.ref 58, .int v1, .int v2]) (st' := [.int 0, .int x2]) (M' := M3) rfl ?_
      refine pu_icmp_eq rfl (fun hc => ?_) (fun hc => ?_)
      · replace H := Eq.mp (if_pos hc) H
        refine pu_go 2 (pc' := 28) (ls' := [.ref 58, .int v1, .int (v2 + 1)]) (st' := []) (M' := M3) rfl ?_
        exact H
      · replace H := Eq.mp (if_neg hc) H
        refine pu_go 1 (pc' := 63) (ls' := [.ref 58, .int v1, .int v2]) (st' := [.int v2]) (M' := M3) rfl ?_
        exact pu_ret rfl rfl ⟨_, rfl, H⟩
    · replace H := Eq.mp (if_neg hc) H
      refine pu_go 5 (pc' := 54) (ls' := [.ref 58, .int v1, .int v2]) (st' := [.int (32 + v2), .ref 59, .int x2]) (M' := M3) rfl ?_
      obtain ⟨hb5, H⟩ := H
      refine pu_iald rfl rfl (Or.inl (by decide)) hb5 ?_
      refine pu_go 1 (pc' := 59) (ls' := [.ref 58, .int v1, .int v2]) (st' := [.int (M3 59 (32 + v2 : Int32).toNatClampNeg), .int x2]) (M' := M3) rfl ?_
      refine pu_icmp_eq rfl (fun hc => ?_) (fun hc => ?_)
      · replace H := Eq.mp (if_pos hc) H
        refine pu_go 2 (pc' := 28) (ls' := [.ref 58, .int v1, .int (v2 + 1)]) (st' := []) (M' := M3) rfl ?_
        exact H
      · replace H := Eq.mp (if_neg hc) H
        refine pu_go 1 (pc' := 63) (ls' := [.ref 58, .int v1, .int v2]) (st' := [.int v2]) (M' := M3) rfl ?_
        exact pu_ret rfl rfl ⟨_, rfl, H⟩
set_option maxRecDepth 20000 in
theorem r_m_check {L d : Nat} {M : pu_M} {Q : Int32 → pu_M → Prop} {v1 : Int32} (H : pu_I L (d + 2) 157 [.int v1, .int 0, .int 16] M (fun x2 M1 => (if x2 = 0 then Q ((-2)) M1 else (if v1 ≤ (M1 58 4) then pu_R L (d + 3) 258 28 [.ref 58, .int v1, .int 0] [] (pu_wr M1 58 4 0) (pu_qI Q) else Q ((-2)) M1)))) : pu_I L (d + 3) 258 [.ref 58, .int v1] M Q := by
  show pu_R L (d + 3) 258 0 [.ref 58, .int v1, mq_un] [] M (pu_qI Q)
  refine pu_go 3 (pc' := 4) (ls' := [.ref 58, .int v1, mq_un]) (st' := [.int 16, .int 0, .int v1]) (M' := M) rfl ?_
  refine pu_callI (m' := 157) (ml := 3) (as := [.int v1, .int 0, .int 16]) (rest := []) rfl rfl rfl (Nat.le_of_ble_eq_true rfl) H (fun x2 M1 H => ?_)
  show pu_R L (d + 3) 258 7 [.ref 58, .int v1, mq_un] [.int x2] M1 _
  refine pu_if_eq rfl (fun hc => ?_) (fun hc => ?_)
  · replace H := Eq.mp (if_pos hc) H
    refine pu_go 1 (pc' := 20) (ls' := [.ref 58, .int v1, mq_un]) (st' := [.int ((-2))]) (M' := M1) rfl ?_
    exact pu_ret rfl rfl ⟨_, rfl, H⟩
  · replace H := Eq.mp (if_neg hc) H
    refine pu_go 3 (pc' := 15) (ls' := [.ref 58, .int v1, mq_un]) (st' := [.int (M1 58 4), .int v1]) (M' := M1) rfl ?_
    refine pu_icmp_le rfl (fun hc => ?_) (fun hc => ?_)
    · replace H := Eq.mp (if_pos hc) H
      refine pu_go 2 (pc' := 23) (ls' := [.ref 58, .int v1, mq_un]) (st' := [.int 0, .ref 58]) (M' := M1) rfl ?_
      refine pu_putf (j := 4) (z := 0) rfl rfl (by decide) rfl (by decide) rfl rfl pu_put_hw ?_
      refine pu_go 2 (pc' := 28) (ls' := [.ref 58, .int v1, .int 0]) (st' := []) (M' := pu_wr M1 58 4 0) rfl ?_
      exact H
    · replace H := Eq.mp (if_neg hc) H
      refine pu_go 1 (pc' := 20) (ls' := [.ref 58, .int v1, mq_un]) (st' := [.int ((-2))]) (M' := M1) rfl ?_
      exact pu_ret rfl rfl ⟨_, rfl, H⟩
