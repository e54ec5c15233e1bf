/-! m_yardTalk ()I -/
set_option maxRecDepth 20000 in
theorem r_m_yardTalk_12 {L d : Nat} {M : pu_M} {Q : Int32 → pu_M → Prop} {v1 : Int32} {v2 : Int32} {v3 : Int32} (H : (if v2 ≤ v3 then pu_R L (d + 4) 223 4 [.ref 58, .int v1, .int (v2 + 1), .int v3] [] M (pu_qI Q) else pu_I L (d + 3) 170 [.ref 58, .int v2, .int v3] M (fun x2 M1 => (if x2 = 0 then pu_R L (d + 4) 223 12 [.ref 58, .int v1, .int v2, .int (v3 + 1)] [] M1 (pu_qI Q) else pu_I L (d + 3) 173 [.ref 58, .int v2, .int v3] M1 (fun x4 M3 => pu_R L (d + 4) 223 12 [.ref 58, .int (v1 + x4), .int v2, .int (v3 + 1)] [] M3 (pu_qI Q)))))) : pu_R L (d + 4) 223 12 [.ref 58, .int v1, .int v2, .int v3] [] M (pu_qI Q) := by
  refine pu_go 2 (pc' := 14) (ls' := [.ref 58, .int v1, .int v2, .int v3]) (st' := [.int v2, .int v3]) (M' := M) rfl ?_
  refine pu_icmp_ge rfl (fun hc => ?_) (fun hc => ?_)
  · replace H := Eq.mp (if_pos hc) H
    refine pu_go 2 (pc' := 4) (ls' := [.ref 58, .int v1, .int (v2 + 1), .int v3]) (st' := []) (M' := M) rfl ?_
    exact H
  · replace H := Eq.mp (if_neg hc) H
    refine pu_go 3 (pc' := 20) (ls' := [.ref 58, .int v1, .int v2, .int v3]) (st' := [.int v3, .int v2, .ref 58]) (M' := M) rfl ?_
    refine pu_callI (m' := 170) (ml := 3) (as := [.ref 58, .int v2, .int v3]) (rest := []) rfl rfl rfl (Nat.le_of_ble_eq_true rfl) H (fun x2 M1 H => ?_)
    show pu_R L (d + 4) 223 23 [.ref 58, .int v1, .int v2, .int v3] [.int x2] M1 _
    refine pu_if_eq rfl (fun hc => ?_) (fun hc => ?_)
    · replace H := Eq.mp (if_pos hc) H
      refine pu_go 2 (pc' := 12) (ls' := [.ref 58, .int v1, .int v2, .int (v3 + 1)]) (st' := []) (M' := M1) rfl ?_
      exact H
    · replace H := Eq.mp (if_neg hc) H
      refine pu_go 4 (pc' := 30) (ls' := [.ref 58, .int v1, .int v2, .int v3]) (st' := [.int v3, .int v2, .ref 58, .int v1]) (M' := M1) rfl ?_
      refine pu_callI (m' := 173) (ml := 3) (as := [.ref 58, .int v2, .int v3]) (rest := [.int v1]) rfl rfl rfl (Nat.le_of_ble_eq_true rfl) H (fun x4 M3 H => ?_)
      show pu_R L (d + 4) 223 33 [.ref 58, .int v1, .int v2, .int v3] [.int x4, .int v1] M3 _
      refine pu_go 4 (pc' := 12) (ls' := [.ref 58, .int (v1 + x4), .int v2, .int (v3 + 1)]) (st' := []) (M' := M3) rfl ?_
      exact H
set_option maxRecDepth 20000 in
theorem r_m_yardTalk_4 {L d : Nat} {M : pu_M} {Q : Int32 → pu_M → Prop} {v1 : Int32} {v2 : Int32} {v3 : Value} (H : (if 16 ≤ v2 then Q v1 M else pu_R L (d + 4) 223 12 [.ref 58, .int v1, .int v2, .int 0] [] M (pu_qI Q))) : pu_R L (d + 4) 223 4 [.ref 58, .int v1, .int v2, v3] [] M (pu_qI Q) := by
  refine pu_go 2 (pc' := 7) (ls' := [.ref 58, .int v1, .int v2, v3]) (st' := [.int 16, .int v2]) (M' := M) rfl ?_
  refine pu_icmp_ge rfl (fun hc => ?_) (fun hc => ?_)
  · replace H := Eq.mp (if_pos hc) H
    refine pu_go 1 (pc' := 48) (ls' := [.ref 58, .int v1, .int v2, v3]) (st' := [.int v1]) (M' := M) rfl ?_
    exact pu_ret rfl rfl ⟨_, rfl, H⟩
  · replace H := Eq.mp (if_neg hc) H
    refine pu_go 2 (pc' := 12) (ls' := [.ref 58, .int v1, .int v2, .int 0]) (st' := []) (M' := M) rfl ?_
    exact H
set_option maxRecDepth 20000 in
theorem r_m_yardTalk {L d : Nat} {M : pu_M} {Q : Int32 → pu_M → Prop}  (H : pu_R L (d + 4) 223 4 [.ref 58, .int 0, .int 0, mq_un] [] M (pu_qI Q)) : pu_I L (d + 4) 223 [.ref 58] M Q := by
  show pu_R L (d + 4) 223 0 [.ref 58, mq_un, mq_un, mq_un] [] M (pu_qI Q)
  refine pu_go 4 (pc' := 4) (ls' := [.ref 58, .int 0, .int 0, mq_un]) (st' := []) (M' := M) rfl ?_
  exact H
/-! m_talkAt (II)I -/
set_option maxRecDepth 20000 in
theorem r_m_talkAt_5 {L d : Nat} {M : pu_M} {Q : Int32 → pu_M → Prop} {v1 : Int32} {v2 : Int32} {v3 : Int32} {v4 : Int32} (H : (if 16 ≤ v4 then Q v3 M else (if v4 = v1 then pu_R L (d + 4) 224 5 [.ref 58, .int v1, .int v2, .int v3, .int (v4 + 1)] [] M (pu_qI Q) else pu_I L (d + 3) 165 [.ref 58, .int v4] M (fun x2 M1 => (if x2 = 0 then pu_R L (d + 4) 224 5 [.ref 58, .int v1, .int v2, .int v3, .int (v4 + 1)] [] M1 (pu_qI Q) else (mq_inb (48 + v4) 66 = true ∧ pu_I L (d + 3) 169 [.int v2, .int (M1 59 (48 + v4 : Int32).toNatClampNeg)] M1 (fun x5 M4 => (if x5 = 0 then pu_R L (d + 4) 224 5 [.ref 58, .int v1, .int v2, .int v3, .int (v4 + 1)] [] M4 (pu_qI Q) else pu_I L (d + 3) 173 [.ref 58, .int v1, .int v4] M4 (fun x7 M6 => pu_R L (d + 4) 224 5 [.ref 58, .int v1, .int v2, .int (v3 + x7), .int (v4 + 1)] [] M6 (pu_qI Q)))))))))) : pu_R L (d + 4) 224 5 [.ref 58, .int v1, .int v2, .int v3, .int v4] [] M (pu_qI Q) := by
  refine pu_go 2 (pc' := 9) (ls' := [.ref 58, .int v1, .int v2, .int v3, .int v4]) (st' := [.int 16, .int v4]) (M' := M) rfl ?_
  refine pu_icmp_ge rfl (fun hc => ?_) (fun hc => ?_)
  · replace H := Eq.mp (if_pos hc) H
    refine pu_go 1 (pc' := 61) (ls' := [.ref 58, .int v1, .int v2, .int v3, .int v4]) (st' := [.int v3]) (M' := M) rfl ?_
    exact pu_ret rfl rfl ⟨_, rfl, H⟩
  · replace H := Eq.mp (if_neg hc) H
    refine pu_go 2 (pc' := 15) (ls' := [.ref 58, .int v1, .int v2, .int v3, .int v4]) (st' := [.int v1, .int v4]) (M' := M) rfl ?_
    refine pu_icmp_eq rfl (fun hc => ?_) (fun hc => ?_)
    · replace H := Eq.mp (if_pos hc) H
      refine pu_go 2 (pc' := 5) (ls' := [.ref 58, .int v1, .int v2, .int v3, .int (v4 + 1)]) (st' := []) (M' := M) rfl ?_
      exact H
    · replace H := Eq.mp (if_neg hc) H
      refine pu_go 2 (pc' := 21) (ls' := [.ref 58, .int v1, .int v2, .int v3, .int v4]) (st' := [.int v4, .ref 58]) (M' := M) rfl ?_
      refine pu_callI (m' := 165) (ml := 2) (as := [.ref 58, .int v4]) (rest := []) rfl rfl rfl (Nat.le_of_ble_eq_true rfl) H (fun x2 M1 H => ?_)
      show pu_R L (d + 4) 224 24 [.ref 58, .int v1, .int v2, .int v3, .int v4] [.int x2] M1 _
      refine pu_if_eq rfl (fun hc => ?_) (fun hc => ?_)
      · replace H := Eq.mp (if_pos hc) H
        refine pu_go 2 (pc' := 5) (ls' := [.ref 58, .int v1, .int v2, .int v3, .int (v4 + 1)]) (st' := []) (M' := M1) rfl ?_
        exact H
      · replace H := Eq.mp (if_neg hc) H
        refine pu_go 6 (pc' := 37) (ls' := [.ref 58, .int v1, .int v2, .int v3, .int v4]) (st' := [.int (48 + v4), .ref 59, .int v2]) (M' := M1) rfl ?_
        obtain ⟨hb3, H⟩ := H
        refine pu_iald rfl rfl (Or.inl (by decide)) hb3 ?_
        refine pu_callI (m' := 169) (ml := 2) (as := [.int v2, .int (M1 59 (48 + v4 : Int32).toNatClampNeg)]) (rest := []) rfl rfl rfl (Nat.le_of_ble_eq_true rfl) H (fun x5 M4 H => ?_)
        show pu_R L (d + 4) 224 41 [.ref 58, .int v1, .int v2, .int v3, .int v4] [.int x5] M4 _
        refine pu_if_eq rfl (fun hc => ?_) (fun hc => ?_)
        · replace H := Eq.mp (if_pos hc) H
          refine pu_go 2 (pc' := 5) (ls' := [.ref 58, .int v1, .int v2, .int v3, .int (v4 + 1)]) (st' := []) (M' := M4) rfl ?_
          exact H
        · replace H := Eq.mp (if_neg hc) H
          refine pu_go 4 (pc' := 49) (ls' := [.ref 58, .int v1, .int v2, .int v3, .int v4]) (st' := [.int v4, .int v1, .ref 58, .int v3]) (M' := M4) rfl ?_
          refine pu_callI (m' := 173) (ml := 3) (as := [.ref 58, .int v1, .int v4]) (rest := [.int v3]) rfl rfl rfl (Nat.le_of_ble_eq_true rfl) H (fun x7 M6 H => ?_)
          show pu_R L (d + 4) 224 52 [.ref 58, .int v1, .int v2, .int v3, .int v4] [.int x7, .int v3] M6 _
          refine pu_go 4 (pc' := 5) (ls' := [.ref 58, .int v1, .int v2, .int (v3 + x7), .int (v4 + 1)]) (st' := []) (M' := M6) rfl ?_
          exact H
set_option maxRecDepth 20000 in
theorem r_m_talkAt {L d : Nat} {M : pu_M} {Q : Int32 → pu_M → Prop} {v1 : Int32} {v2 : Int32} (H : pu_R L (d + 4) 224 5 [.ref 58, .int v1, .int v2, .int 0, .int 0] [] M (pu_qI Q)) : pu_I L (d + 4) 224 [.ref 58, .int v1, .int v2] M Q := by
  show pu_R L (d + 4) 224 0 [.ref 58, .int v1, .int v2, mq_un, mq_un] [] M (pu_qI Q)
  refine pu_go 4 (pc' := 5) (ls' := [.ref 58, .int v1, .int v2, .int 0, .int 0]) (st' := []) (M' := M) rfl ?_
  exact H
/-! m_best (II)I -/
set_option maxRecDepth 20000 in
theorem r_m_best_60 {L d : Nat} {M : pu_M} {Q : Int32 → pu_M → Prop} {v1 : Int32} {v2 : Int32} {v3 : Int32} {v4 : Int32} {v5 : Int32} {v6 : Int32} {v7 : Value} (H : pu_I L (d + 4) 224 [.ref 58, .int v1, .int v5] M (fun x2 M1 => (if v3 = ((-1)) then pu_R L (d + 5) 225 29 [.ref 58, .int v1, .int v2, .int v5, .int x2, .int (v5 + 1), .int v6, .int x2] [] M1 (pu_qI Q) else (if v4 < x2 then pu_R L (d + 5) 225 29 [.ref 58, .int v1, .int v2, .int v5, .int x2, .int (v5 + 1), .int v6, .int x2] [] M1 (pu_qI Q) else pu_R L (d + 5) 225 29 [.ref 58, .int v1, .int v2, .int v3, .int v4, .int (v5 + 1), .int v6, .int x2] [] M1 (pu_qI Q))))) : pu_R L (d + 5) 225 60 [.ref 58, .int v1, .int v2, .int v3, .int v4, .int v5, .int v6, v7] [] M (pu_qI Q) := by
  refine pu_go 3 (pc' := 64) (ls' := [.ref 58, .int v1, .int v2, .int v3, .int v4, .int v5, .int v6, v7]) (st' := [.int v5, .int v1, .ref 58]) (M' := M) rfl ?_
  refine pu_callI (m' := 224) (ml := 5) (as := [.ref 58, .int v1, .int v5]) (rest := []) rfl rfl rfl (Nat.le_of_ble_eq_true rfl) H (fun x2 M1 H => ?_)
  show pu_R L (d + 5) 225 67 [.ref 58, .int v1, .int v2, .int v3, .int v4, .int v5, .int v6, v7] [.int x2] M1 _
  refine pu_go 3 (pc' := 71) (ls' := [.ref 58, .int v1, .int v2, .int v3, .int v4, .int v5, .int v6, .int x2]) (st' := [.int ((-1)), .int v3]) (M' := M1) rfl ?_
  refine pu_icmp_eq rfl (fun hc => ?_) (fun hc => ?_)
  · replace H := Eq.mp (if_pos hc) H
    refine pu_go 6 (pc' := 29) (ls' := [.ref 58, .int v1, .int v2, .int v5, .int x2, .int (v5 + 1), .int v6, .int x2]) (st' := []) (M' := M1) rfl ?_
    exact H
  · replace H := Eq.mp (if_neg hc) H
    refine pu_go 2 (pc' := 78) (ls' := [.ref 58, .int v1, .int v2, .int v3, .int v4, .int v5, .int v6, .int x2]) (st' := [.int v4, .int x2]) (M' := M1) rfl ?_
    refine pu_icmp_gt rfl (fun hc => ?_) (fun hc => ?_)
    · replace H := Eq.mp (if_pos hc) H
      refine pu_go 6 (pc' := 29) (ls' := [.ref 58, .int v1, .int v2, .int v5, .int x2, .int (v5 + 1), .int v6, .int x2]) (st' := []) (M' := M1) rfl ?_
      exact H
    · replace H := Eq.mp (if_neg hc) H
      refine pu_go 3 (pc' := 29) (ls' := [.ref 58, .int v1, .int v2, .int v3, .int v4, .int (v5 + 1), .int v6, .int x2]) (st' := []) (M' := M1) rfl ?_
      exact H
set_option maxRecDepth 20000 in
theorem r_m_best_29 {L d : Nat} {M : pu_M} {Q : Int32 → pu_M → Prop} {v1 : Int32} {v2 : Int32} {v3 : Int32} {v4 : Int32} {v5 : Int32} {v6 : Value} {v7 : Value} (H : (if 60 ≤ v5 then (if v2 = 0 then Q v3 M else Q v4 M) else pu_I L (d + 4) 168 [.ref 58, .int v5] M (fun x2 M1 => (if x2 = ((-2)) then pu_R L (d + 5) 225 60 [.ref 58, .int v1, .int v2, .int v3, .int v4, .int v5, .int x2, v7] [] M1 (pu_qI Q) else (if x2 = v1 then pu_R L (d + 5) 225 60 [.ref 58, .int v1, .int v2, .int v3, .int v4, .int v5, .int x2, v7] [] M1 (pu_qI Q) else pu_R L (d + 5) 225 29 [.ref 58, .int v1, .int v2, .int v3, .int v4, .int (v5 + 1), .int x2, v7] [] M1 (pu_qI Q)))))) : pu_R L (d + 5) 225 29 [.ref 58, .int v1, .int v2, .int v3, .int v4, .int v5, v6, v7] [] M (pu_qI Q) := by
  refine pu_go 2 (pc' := 33) (ls' := [.ref 58, .int v1, .int v2, .int v3, .int v4, .int v5, v6, v7]) (st' := [.int 60, .int v5]) (M' := M) rfl ?_
  refine pu_icmp_ge rfl (fun hc => ?_) (fun hc => ?_)
  · replace H := Eq.mp (if_pos hc) H
    refine pu_go 1 (pc' := 98) (ls' := [.ref 58, .int v1, .int v2, .int v3, .int v4, .int v5, v6, v7]) (st' := [.int v2]) (M' := M) rfl ?_
    refine pu_if_ne rfl (fun hc => ?_) (fun hc => ?_)
    · replace H := Eq.mp (if_neg hc) H
      refine pu_go 1 (pc' := 107) (ls' := [.ref 58, .int v1, .int v2, .int v3, .int v4, .int v5, v6, v7]) (st' := [.int v4]) (M' := M) rfl ?_
      exact pu_ret rfl rfl ⟨_, rfl, H⟩
    · replace H := Eq.mp (if_pos hc) H
      refine pu_go 2 (pc' := 107) (ls' := [.ref 58, .int v1, .int v2, .int v3, .int v4, .int v5, v6, v7]) (st' := [.int v3]) (M' := M) rfl ?_
      exact pu_ret rfl rfl ⟨_, rfl, H⟩
  · replace H := Eq.mp (if_neg hc) H
    refine pu_go 2 (pc' := 39) (ls' := [.ref 58, .int v1, .int v2, .int v3, .int v4, .int v5, v6, v7]) (st' := [.int v5, .ref 58]) (M' := M) rfl ?_
    refine pu_callI (m' := 168) (ml := 3) (as := [.ref 58, .int v5]) (rest := []) rfl rfl rfl (Nat.le_of_ble_eq_true rfl) H (fun x2 M1 H => ?_)
    show pu_R L (d + 5) 225 42 [.ref 58, .int v1, .int v2, .int v3, .int v4, .int v5, v6, v7] [.int x2] M1 _
    refine pu_go 3 (pc' := 48) (ls' := [.ref 58, .int v1, .int v2, .int v3, .int v4, .int v5, .int x2, v7]) (st' := [.int ((-2)), .int x2]) (M' := M1) rfl ?_
    refine pu_icmp_eq rfl (fun hc => ?_) (fun hc => ?_)
    · replace H := Eq.mp (if_pos hc) H
      exact H
    · replace H := Eq.mp (if_neg hc) H
      refine pu_go 2 (pc' := 54) (ls' := [.ref 58, .int v1, .int v2, .int v3, .int v4, .int v5, .int x2, v7]) (st' := [.int v1, .int x2]) (M' := M1) rfl ?_
      refine pu_icmp_eq rfl (fun hc => ?_) (fun hc => ?_)
      · replace H := Eq.mp (if_pos hc) H
        exact H
      · replace H := Eq.mp (if_neg hc) H
        refine pu_go 3 (pc' := 29) (ls' := [.ref 58, .int v1, .int v2, .int v3, .int v4, .int (v5 + 1), .int x2, v7]) (st' := []) (M' := M1) rfl ?_
        exact H
set_option maxRecDepth 20000 in
theorem r_m_best {L d : Nat} {M : pu_M} {Q : Int32 → pu_M → Prop} {v1 : Int32} {v2 : Int32} (H : pu_I L (d + 4) 164 [.ref 58, .int v1] M (fun x2 M1 => (if x2 = 0 then Q ((-1000)) M1 else pu_I L (d + 4) 157 [.int v2, .int 0, .int 1] M1 (fun x4 M3 => (if x4 = 0 then Q ((-1000)) M3 else pu_R L (d + 5) 225 29 [.ref 58, .int v1, .int v2, .int ((-1)), .int 0, .int 0, mq_un, mq_un] [] M3 (pu_qI Q)))))) : pu_I L (d + 5) 225 [.ref 58, .int v1, .int v2] M Q := by
  show pu_R L (d + 5) 225 0 [.ref 58, .int v1, .int v2, mq_un, mq_un, mq_un, mq_un, mq_un] [] M (pu_qI Q)
  refine pu_go 2 (pc' := 2) (ls' := [.ref 58, .int v1, .int v2, mq_un, mq_un, mq_un, mq_un, mq_un]) (st' := [.int v1, .ref 58]) (M' := M) rfl ?_
  refine pu_callI (m' := 164) (ml := 2) (as := [.ref 58, .int v1]) (rest := []) rfl rfl rfl (Nat.le_of_ble_eq_true rfl) H (fun x2 M1 H => ?_)
  show pu_R L (d + 5) 225 5 [.ref 58, .int v1, .int v2, mq_un, mq_un, mq_un, mq_un, mq_un] [.int x2] M1 _
  refine pu_if_eq rfl (fun hc => ?_) (fun hc => ?_)
  · replace H := Eq.mp (if_pos hc) H
    refine pu_go 1 (pc' := 20) (ls' := [.ref 58, .int v1, .int v2, mq_un, mq_un, mq_un, mq_un, mq_un]) (st' := [.int ((-1000))]) (M' := M1) rfl ?_
    exact pu_ret rfl rfl ⟨_, rfl, H⟩
  · replace H := Eq.mp (if_neg hc) H
    refine pu_go 3 (pc' := 11) (ls' := [.ref 58, .int v1, .int v2, mq_un, mq_un, mq_un, mq_un, mq_un]) (st' := [.int 1, .int 0, .int v2]) (M' := M1) rfl ?_
    refine pu_callI (m' := 157) (ml := 3) (as := [.int v2, .int 0, .int 1]) (rest := []) rfl rfl rfl (Nat.le_of_ble_eq_true rfl) H (fun x4 M3 H => ?_)
    show pu_R L (d + 5) 225 14 [.ref 58, .int v1, .int v2, mq_un, mq_un, mq_un, mq_un, mq_un] [.int x4] M3 _
    refine pu_if_ne rfl (fun hc => ?_) (fun hc => ?_)
    · replace H := Eq.mp (if_neg hc) H
      refine pu_go 6 (pc' := 29) (ls' := [.ref 58, .int v1, .int v2, .int ((-1)), .int 0, .int 0, mq_un, mq_un]) (st' := []) (M' := M3) rfl ?_
      exact H
    · replace H := Eq.mp (if_pos hc) H
      refine pu_go 1 (pc' := 20) (ls' := [.ref 58, .int v1, .int v2, mq_un, mq_un, mq_un, mq_un, mq_un]) (st' := [.int ((-1000))]) (M' := M3) rfl ?_
      exact pu_ret rfl rfl ⟨_, rfl, H⟩
/-! m_move (I)I -/
set_option maxRecDepth 20000 in
theorem r_m_move_33 {L d : Nat} {M : pu_M} {Q : Int32 → pu_M → Prop} {v1 : Int32} {v2 : Int32} {v3 : Int32} {v4 : Int32} {v5 : Int32} {v6 : Int32} {v7 : Value} (H : (if 60 ≤ v6 then pu_R L (d + 5) 226 23 [.ref 58, .int v1, .int v2, .int v3, .int v4, .int (v5 + 1), .int v6, v7] [] M (pu_qI Q) else pu_I L (d + 4) 165 [.ref 58, .int v5] M (fun x2 M1 => (if x2 = 0 then pu_R L (d + 5) 226 23 [.ref 58, .int v1, .int v2, .int v3, .int v4, .int (v5 + 1), .int v6, v7] [] M1 (pu_qI Q) else pu_I L (d + 4) 168 [.ref 58, .int v6] M1 (fun x4 M3 => (if x4 = ((-2)) then pu_I L (d + 4) 224 [.ref 58, .int v5, .int v6] M3 (fun x6 M5 => (mq_inb (48 + v5) 66 = true ∧ pu_I L (d + 4) 224 [.ref 58, .int v5, .int (M5 59 (48 + v5 : Int32).toNatClampNeg)] M5 (fun x9 M8 => (if v4 < (x6 - x9) then pu_R L (d + 5) 226 33 [.ref 58, .int v1, .int v5, .int v6, .int (x6 - x9), .int v5, .int (v6 + 1), .int (x6 - x9)] [] M8 (pu_qI Q) else pu_R L (d + 5) 226 33 [.ref 58, .int v1, .int v2, .int v3, .int v4, .int v5, .int (v6 + 1), .int (x6 - x9)] [] M8 (pu_qI Q))))) else pu_R L (d + 5) 226 33 [.ref 58, .int v1, .int v2, .int v3, .int v4, .int v5, .int (v6 + 1), v7] [] M3 (pu_qI Q))))))) : pu_R L (d + 5) 226 33 [.ref 58, .int v1, .int v2, .int v3, .int v4, .int v5, .int v6, v7] [] M (pu_qI Q) := by
  refine pu_go 2 (pc' := 37) (ls' := [.ref 58, .int v1, .int v2, .int v3, .int v4, .int v5, .int v6, v7]) (st' := [.int 60, .int v6]) (M' := M) rfl ?_
  refine pu_icmp_ge rfl (fun hc => ?_) (fun hc => ?_)
  · replace H := Eq.mp (if_pos hc) H
    refine pu_go 2 (pc' := 23) (ls' := [.ref 58, .int v1, .int v2, .int v3, .int v4, .int (v5 + 1), .int v6, v7]) (st' := []) (M' := M) rfl ?_
    exact H
  · replace H := Eq.mp (if_neg hc) H
    refine pu_go 2 (pc' := 43) (ls' := [.ref 58, .int v1, .int v2, .int v3, .int v4, .int v5, .int v6, v7]) (st' := [.int v5, .ref 58]) (M' := M) rfl ?_
    refine pu_callI (m' := 165) (ml := 2) (as := [.ref 58, .int v5]) (rest := []) rfl rfl rfl (Nat.le_of_ble_eq_true rfl) H (fun x2 M1 H => ?_)
    show pu_R L (d + 5) 226 46 [.ref 58, .int v1, .int v2, .int v3, .int v4, .int v5, .int v6, v7] [.int x2] M1 _
    refine pu_if_eq rfl (fun hc => ?_) (fun hc => ?_)
    · replace H := Eq.mp (if_pos hc) H
      refine pu_go 2 (pc' := 23) (ls' := [.ref 58, .int v1, .int v2, .int v3, .int v4, .int (v5 + 1), .int v6, v7]) (st' := []) (M' := M1) rfl ?_
      exact H
    · replace H := Eq.mp (if_neg hc) H
      refine pu_go 2 (pc' := 52) (ls' := [.ref 58, .int v1, .int v2, .int v3, .int v4, .int v5, .int v6, v7]) (st' := [.int v6, .ref 58]) (M' := M1) rfl ?_
      refine pu_callI (m' := 168) (ml := 3) (as := [.ref 58, .int v6]) (rest := []) rfl rfl rfl (Nat.le_of_ble_eq_true rfl) H (fun x4 M3 H => ?_)
      show pu_R L (d + 5) 226 55 [.ref 58, .int v1, .int v2, .int v3, .int v4, .int v5, .int v6, v7] [.int x4] M3 _
      refine pu_go 1 (pc' := 57) (ls' := [.ref 58, .int v1, .int v2, .int v3, .int v4, .int v5, .int v6, v7]) (st' := [.int ((-2)), .int x4]) (M' := M3) rfl ?_
      refine pu_icmp_eq rfl (fun hc => ?_) (fun hc => ?_)
      · replace H := Eq.mp (if_pos hc) H
        refine pu_go 3 (pc' := 68) (ls' := [.ref 58, .int v1, .int v2, .int v3, .int v4, .int v5, .int v6, v7]) (st' := [.int v6, .int v5, .ref 58]) (M' := M3) rfl ?_
        refine pu_callI (m' := 224) (ml := 5) (as := [.ref 58, .int v5, .int v6]) (rest := []) rfl rfl rfl (Nat.le_of_ble_eq_true rfl) H (fun x6 M5 H => ?_)
        show pu_R L (d + 5) 226 71 [.ref 58, .int v1, .int v2, .int v3, .int v4, .int v5, .int v6, v7] [.int x6] M5 _
        refine pu_go 7 (pc' := 83) (ls' := [.ref 58, .int v1, .int v2, .int v3, .int v4, .int v5, .int v6, v7]) (st' := [.int (48 + v5), .ref 59, .int v5, .ref 58, .int x6]) (M' := M5) rfl ?_
        obtain ⟨hb7, H⟩ := H
        refine pu_iald rfl rfl (Or.inl (by decide)) hb7 ?_
        refine pu_callI (m' := 224) (ml := 5) (as := [.ref 58, .int v5, .int (M5 59 (48 + v5 : Int32).toNatClampNeg)]) (rest := [.int x6]) rfl rfl rfl (Nat.le_of_ble_eq_true rfl) H (fun x9 M8 H => ?_)
        show pu_R L (d + 5) 226 87 [.ref 58, .int v1, .int v2, .int v3, .int v4, .int v5, .int v6, v7] [.int x9, .int x6] M8 _
        refine pu_go 4 (pc' := 94) (ls' := [.ref 58, .int v1, .int v2, .int v3, .int v4, .int v5, .int v6, .int (x6 - x9)]) (st' := [.int v4, .int (x6 - x9)]) (M' := M8) rfl ?_
        refine pu_icmp_gt rfl (fun hc => ?_) (fun hc => ?_)
        · replace H := Eq.mp (if_pos hc) H
          refine pu_go 8 (pc' := 33) (ls' := [.ref 58, .int v1, .int v5, .int v6, .int (x6 - x9), .int v5, .int (v6 + 1), .int (x6 - x9)]) (st' := []) (M' := M8) rfl ?_
          exact H
        · replace H := Eq.mp (if_neg hc) H
          refine pu_go 3 (pc' := 33) (ls' := [.ref 58, .int v1, .int v2, .int v3, .int v4, .int v5, .int (v6 + 1), .int (x6 - x9)]) (st' := []) (M' := M8) rfl ?_
          exact H
      · replace H := Eq.mp (if_neg hc) H
        refine pu_go 3 (pc' := 33) (ls' := [.ref 58, .int v1, .int v2, .int v3, .int v4, .int v5, .int (v6 + 1), v7]) (st' := []) (M' := M3) rfl ?_
        exact H
set_option maxRecDepth 20000 in
theorem r_m_move_23 {L d : Nat} {M : pu_M} {Q : Int32 → pu_M → Prop} {v1 : Int32} {v2 : Int32} {v3 : Int32} {v4 : Int32} {v5 : Int32} {v6 : Value} {v7 : Value} (H : (if 16 ≤ v5 then (if v2 = ((-2)) then Q ((-2)) M else (if v1 = 0 then Q v2 M else (if v1 = 1 then Q v3 M else Q v4 M))) else pu_R L (d + 5) 226 33 [.ref 58, .int v1, .int v2, .int v3, .int v4, .int v5, .int 0, v7] [] M (pu_qI Q))) : pu_R L (d + 5) 226 23 [.ref 58, .int v1, .int v2, .int v3, .int v4, .int v5, v6, v7] [] M (pu_qI Q) := by
  refine pu_go 2 (pc' := 27) (ls' := [.ref 58, .int v1, .int v2, .int v3, .int v4, .int v5, v6, v7]) (st' := [.int 16, .int v5]) (M' := M) rfl ?_
  refine pu_icmp_ge rfl (fun hc => ?_) (fun hc => ?_)
  · replace H := Eq.mp (if_pos hc) H
    refine pu_go 2 (pc' := 125) (ls' := [.ref 58, .int v1, .int v2, .int v3, .int v4, .int v5, v6, v7]) (st' := [.int ((-2)), .int v2]) (M' := M) rfl ?_
    refine pu_icmp_ne rfl (fun hc => ?_) (fun hc => ?_)
    · replace H := Eq.mp (if_neg hc) H
      refine pu_go 1 (pc' := 132) (ls' := [.ref 58, .int v1, .int v2, .int v3, .int v4, .int v5, v6, v7]) (st' := [.int v1]) (M' := M) rfl ?_
      refine pu_if_ne rfl (fun hc => ?_) (fun hc => ?_)
      · replace H := Eq.mp (if_neg hc) H
        refine pu_go 2 (pc' := 141) (ls' := [.ref 58, .int v1, .int v2, .int v3, .int v4, .int v5, v6, v7]) (st' := [.int 1, .int v1]) (M' := M) rfl ?_
        refine pu_icmp_ne rfl (fun hc => ?_) (fun hc => ?_)
        · replace H := Eq.mp (if_neg hc) H
          refine pu_go 1 (pc' := 150) (ls' := [.ref 58, .int v1, .int v2, .int v3, .int v4, .int v5, v6, v7]) (st' := [.int v4]) (M' := M) rfl ?_
          exact pu_ret rfl rfl ⟨_, rfl, H⟩
        · replace H := Eq.mp (if_pos hc) H
          refine pu_go 2 (pc' := 150) (ls' := [.ref 58, .int v1, .int v2, .int v3, .int v4, .int v5, v6, v7]) (st' := [.int v3]) (M' := M) rfl ?_
          exact pu_ret rfl rfl ⟨_, rfl, H⟩
      · replace H := Eq.mp (if_pos hc) H
        refine pu_go 2 (pc' := 150) (ls' := [.ref 58, .int v1, .int v2, .int v3, .int v4, .int v5, v6, v7]) (st' := [.int v2]) (M' := M) rfl ?_
        exact pu_ret rfl rfl ⟨_, rfl, H⟩
    · replace H := Eq.mp (if_pos hc) H
      refine pu_go 1 (pc' := 130) (ls' := [.ref 58, .int v1, .int v2, .int v3, .int v4, .int v5, v6, v7]) (st' := [.int ((-2))]) (M' := M) rfl ?_
      exact pu_ret rfl rfl ⟨_, rfl, H⟩
  · replace H := Eq.mp (if_neg hc) H
    refine pu_go 2 (pc' := 33) (ls' := [.ref 58, .int v1, .int v2, .int v3, .int v4, .int v5, .int 0, v7]) (st' := []) (M' := M) rfl ?_
    exact H
set_option maxRecDepth 20000 in
theorem r_m_move {L d : Nat} {M : pu_M} {Q : Int32 → pu_M → Prop} {v1 : Int32} (H : pu_I L (d + 4) 157 [.int v1, .int 0, .int 2] M (fun x2 M1 => (if x2 = 0 then Q ((-1)) M1 else pu_R L (d + 5) 226 23 [.ref 58, .int v1, .int ((-2)), .int ((-2)), .int 0, .int 0, mq_un, mq_un] [] M1 (pu_qI Q)))) : pu_I L (d + 5) 226 [.ref 58, .int v1] M Q := by
  show pu_R L (d + 5) 226 0 [.ref 58, .int v1, mq_un, mq_un, mq_un, mq_un, mq_un, mq_un] [] M (pu_qI Q)
  refine pu_go 3 (pc' := 3) (ls' := [.ref 58, .int v1, mq_un, mq_un, mq_un, mq_un, mq_un, mq_un]) (st' := [.int 2, .int 0, .int v1]) (M' := M) rfl ?_
  refine pu_callI (m' := 157) (ml := 3) (as := [.int v1, .int 0, .int 2]) (rest := []) rfl rfl rfl (Nat.le_of_ble_eq_true rfl) H (fun x2 M1 H => ?_)
  show pu_R L (d + 5) 226 6 [.ref 58, .int v1, mq_un, mq_un, mq_un, mq_un, mq_un, mq_un] [.int x2] M1 _
  refine pu_if_ne rfl (fun hc => ?_) (fun hc => ?_)
  · replace H := Eq.mp (if_neg hc) H
    refine pu_go 8 (pc' := 23) (ls' := [.ref 58, .int v1, .int ((-2)), .int ((-2)), .int 0, .int 0, mq_un, mq_un]) (st' := []) (M' := M1) rfl ?_
    exact H
  · replace H := Eq.mp (if_pos hc) H
    refine pu_go 1 (pc' := 10) (ls' := [.ref 58, .int v1, mq_un, mq_un, mq_un, mq_un, mq_un, mq_un]) (st' := [.int ((-1))]) (M' := M1) rfl ?_
    exact pu_ret rfl rfl ⟨_, rfl, H⟩
/-! m_changesPlots (II)V -/
set_option maxRecDepth 20000 in
theorem r_m_changesPlots {L d : Nat} {M : pu_M} {Q : pu_M → Prop} {v1 : Int32} {v2 : Int32} (H : (mq_inb (48 + v1) 66 = true ∧ (mq_inb (48 + v2) 66 = true ∧ (mq_inb (48 + v1) 66 = true ∧ (mq_inb (48 + v2) 66 = true ∧ (∀ M5 : pu_M, M5 = pu_wr (pu_wr M 59 (48 + v1 : Int32).toNatClampNeg (M 59 (48 + v2 : Int32).toNatClampNeg)) 59 (48 + v2 : Int32).toNatClampNeg (M 59 (48 + v1 : Int32).toNatClampNeg) → Q M5)))))) : pu_V L (d + 1) 227 [.ref 58, .int v1, .int v2] M Q := by
  show pu_R L (d + 1) 227 0 [.ref 58, .int v1, .int v2, mq_un] [] M (pu_qV Q)
  refine pu_go 5 (pc' := 8) (ls' := [.ref 58, .int v1, .int v2, mq_un]) (st' := [.int (48 + v1), .ref 59]) (M' := M) rfl ?_
  obtain ⟨hb1, H⟩ := H
  refine pu_iald rfl rfl (Or.inl (by decide)) hb1 ?_
  refine pu_go 11 (pc' := 26) (ls' := [.ref 58, .int v1, .int v2, .int (M 59 (48 + v1 : Int32).toNatClampNeg)]) (st' := [.int (48 + v2), .ref 59, .int (48 + v1), .ref 59]) (M' := M) rfl ?_
  obtain ⟨hb2, H⟩ := H
  refine pu_iald rfl rfl (Or.inl (by decide)) hb2 ?_
  obtain ⟨hb3, H⟩ := H
  refine pu_iast rfl rfl (by decide) hb3 ?_
  refine pu_go 6 (pc' := 37) (ls' := [.ref 58, .int v1, .int v2, .int (M 59 (48 + v1 : Int32).toNatClampNeg)]) (st' := [.int (M 59 (48 + v1 : Int32).toNatClampNeg), .int (48 + v2), .ref 59]) (M' := pu_wr M 59 (48 + v1 : Int32).toNatClampNeg (M 59 (48 + v2 : Int32).toNatClampNeg)) rfl ?_
  obtain ⟨hb4, H⟩ := H
  refine pu_iast rfl rfl (by decide) hb4 ?_
  refine pu_named (fun M5 eM6 => ?_)
  replace H := H M5 eM6
  exact pu_ret rfl rfl ⟨rfl, H⟩
/-! m_change (I)I -/
set_option maxRecDepth 20000 in
theorem r_m_change_42 {L d : Nat} {M : pu_M} {Q : Int32 → pu_M → Prop} {v1 : Int32} {v2 : Int32} {v3 : Int32} {v4 : Int32} {v5 : Int32} {v6 : Int32} {v7 : Int32} {v8 : Value} (H : (if 16 ≤ v7 then pu_R L (d + 5) 228 29 [.ref 58, .int v1, .int v2, .int v3, .int v4, .int v5, .int (v6 + 1), .int v7, v8] [] M (pu_qI Q) else pu_I L (d + 4) 165 [.ref 58, .int v6] M (fun x2 M1 => (if x2 = 0 then pu_R L (d + 5) 228 42 [.ref 58, .int v1, .int v2, .int v3, .int v4, .int v5, .int v6, .int (v7 + 1), v8] [] M1 (pu_qI Q) else pu_I L (d + 4) 165 [.ref 58, .int v7] M1 (fun x4 M3 => (if x4 = 0 then pu_R L (d + 5) 228 42 [.ref 58, .int v1, .int v2, .int v3, .int v4, .int v5, .int v6, .int (v7 + 1), v8] [] M3 (pu_qI Q) else pu_V L (d + 4) 227 [.ref 58, .int v6, .int v7] M3 (fun M5 => pu_I L (d + 4) 223 [.ref 58] M5 (fun x7 M6 => pu_V L (d + 4) 227 [.ref 58, .int v6, .int v7] M6 (fun M8 => (if v5 < (x7 - v4) then pu_R L (d + 5) 228 42 [.ref 58, .int v1, .int v6, .int v7, .int v4, .int (x7 - v4), .int v6, .int (v7 + 1), .int (x7 - v4)] [] M8 (pu_qI Q) else pu_R L (d + 5) 228 42 [.ref 58, .int v1, .int v2, .int v3, .int v4, .int v5, .int v6, .int (v7 + 1), .int (x7 - v4)] [] M8 (pu_qI Q))))))))))) : pu_R L (d + 5) 228 42 [.ref 58, .int v1, .int v2, .int v3, .int v4, .int v5, .int v6, .int v7, v8] [] M (pu_qI Q) := by
  refine pu_go 2 (pc' := 46) (ls' := [.ref 58, .int v1, .int v2, .int v3, .int v4, .int v5, .int v6, .int v7, v8]) (st' := [.int 16, .int v7]) (M' := M) rfl ?_
  refine pu_icmp_ge rfl (fun hc => ?_) (fun hc => ?_)
  · replace H := Eq.mp (if_pos hc) H
    refine pu_go 2 (pc' := 29) (ls' := [.ref 58, .int v1, .int v2, .int v3, .int v4, .int v5, .int (v6 + 1), .int v7, v8]) (st' := []) (M' := M) rfl ?_
    exact H
  · replace H := Eq.mp (if_neg hc) H
    refine pu_go 2 (pc' := 52) (ls' := [.ref 58, .int v1, .int v2, .int v3, .int v4, .int v5, .int v6, .int v7, v8]) (st' := [.int v6, .ref 58]) (M' := M) rfl ?_
    refine pu_callI (m' := 165) (ml := 2) (as := [.ref 58, .int v6]) (rest := []) rfl rfl rfl (Nat.le_of_ble_eq_true rfl) H (fun x2 M1 H => ?_)
    show pu_R L (d + 5) 228 55 [.ref 58, .int v1, .int v2, .int v3, .int v4, .int v5, .int v6, .int v7, v8] [.int x2] M1 _
    refine pu_if_eq rfl (fun hc => ?_) (fun hc => ?_)
    · replace H := Eq.mp (if_pos hc) H
      refine pu_go 2 (pc' := 42) (ls' := [.ref 58, .int v1, .int v2, .int v3, .int v4, .int v5, .int v6, .int (v7 + 1), v8]) (st' := []) (M' := M1) rfl ?_
      exact H
    · replace H := Eq.mp (if_neg hc) H
      refine pu_go 2 (pc' := 61) (ls' := [.ref 58, .int v1, .int v2, .int v3, .int v4, .int v5, .int v6, .int v7, v8]) (st' := [.int v7, .ref 58]) (M' := M1) rfl ?_
      refine pu_callI (m' := 165) (ml := 2) (as := [.ref 58, .int v7]) (rest := []) rfl rfl rfl (Nat.le_of_ble_eq_true rfl) H (fun x4 M3 H => ?_)
      show pu_R L (d + 5) 228 64 [.ref 58, .int v1, .int v2, .int v3, .int v4, .int v5, .int v6, .int v7, v8] [.int x4] M3 _
      refine pu_if_ne rfl (fun hc => ?_) (fun hc => ?_)
      · replace H := Eq.mp (if_neg hc) H
        refine pu_go 3 (pc' := 75) (ls' := [.ref 58, .int v1, .int v2, .int v3, .int v4, .int v5, .int v6, .int v7, v8]) (st' := [.int v7, .int v6, .ref 58]) (M' := M3) rfl ?_
        refine pu_callV (m' := 227) (ml := 4) (as := [.ref 58, .int v6, .int v7]) (rest := []) rfl rfl rfl (Nat.le_of_ble_eq_true rfl) H (fun M5 H => ?_)
        show pu_R L (d + 5) 228 78 [.ref 58, .int v1, .int v2, .int v3, .int v4, .int v5, .int v6, .int v7, v8] [] M5 _
        refine pu_go 1 (pc' := 79) (ls' := [.ref 58, .int v1, .int v2, .int v3, .int v4, .int v5, .int v6, .int v7, v8]) (st' := [.ref 58]) (M' := M5) rfl ?_
        refine pu_callI (m' := 223) (ml := 4) (as := [.ref 58]) (rest := []) rfl rfl rfl (Nat.le_of_ble_eq_true rfl) H (fun x7 M6 H => ?_)
        show pu_R L (d + 5) 228 82 [.ref 58, .int v1, .int v2, .int v3, .int v4, .int v5, .int v6, .int v7, v8] [.int x7] M6 _
        refine pu_go 6 (pc' := 92) (ls' := [.ref 58, .int v1, .int v2, .int v3, .int v4, .int v5, .int v6, .int v7, .int (x7 - v4)]) (st' := [.int v7, .int v6, .ref 58]) (M' := M6) rfl ?_
        refine pu_callV (m' := 227) (ml := 4) (as := [.ref 58, .int v6, .int v7]) (rest := []) rfl rfl rfl (Nat.le_of_ble_eq_true rfl) H (fun M8 H => ?_)
        show pu_R L (d + 5) 228 95 [.ref 58, .int v1, .int v2, .int v3, .int v4, .int v5, .int v6, .int v7, .int (x7 - v4)] [] M8 _
        refine pu_go 2 (pc' := 99) (ls' := [.ref 58, .int v1, .int v2, .int v3, .int v4, .int v5, .int v6, .int v7, .int (x7 - v4)]) (st' := [.int v5, .int (x7 - v4)]) (M' := M8) rfl ?_
        refine pu_icmp_gt rfl (fun hc => ?_) (fun hc => ?_)
        · replace H := Eq.mp (if_pos hc) H
          refine pu_go 8 (pc' := 42) (ls' := [.ref 58, .int v1, .int v6, .int v7, .int v4, .int (x7 - v4), .int v6, .int (v7 + 1), .int (x7 - v4)]) (st' := []) (M' := M8) rfl ?_
          exact H
        · replace H := Eq.mp (if_neg hc) H
          refine pu_go 3 (pc' := 42) (ls' := [.ref 58, .int v1, .int v2, .int v3, .int v4, .int v5, .int v6, .int (v7 + 1), .int (x7 - v4)]) (st' := []) (M' := M8) rfl ?_
          exact H
      · replace H := Eq.mp (if_pos hc) H
        refine pu_go 3 (pc' := 42) (ls' := [.ref 58, .int v1, .int v2, .int v3, .int v4, .int v5, .int v6, .int (v7 + 1), v8]) (st' := []) (M' := M3) rfl ?_
        exact H
set_option maxRecDepth 20000 in
theorem r_m_change_29 {L d : Nat} {M : pu_M} {Q : Int32 → pu_M → Prop} {v1 : Int32} {v2 : Int32} {v3 : Int32} {v4 : Int32} {v5 : Int32} {v6 : Int32} {v7 : Value} {v8 : Value} (H : (if 16 ≤ v6 then (if v2 = ((-2)) then Q ((-2)) M else (if v1 = 0 then Q v2 M else (if v1 = 1 then Q v3 M else Q v5 M))) else pu_R L (d + 5) 228 42 [.ref 58, .int v1, .int v2, .int v3, .int v4, .int v5, .int v6, .int (v6 + 1), v8] [] M (pu_qI Q))) : pu_R L (d + 5) 228 29 [.ref 58, .int v1, .int v2, .int v3, .int v4, .int v5, .int v6, v7, v8] [] M (pu_qI Q) := by
  refine pu_go 2 (pc' := 33) (ls' := [.ref 58, .int v1, .int v2, .int v3, .int v4, .int v5, .int v6, v7, v8]) (st' := [.int 16, .int v6]) (M' := M) rfl ?_
  refine pu_icmp_ge rfl (fun hc => ?_) (fun hc => ?_)
  · replace H := Eq.mp (if_pos hc) H
    refine pu_go 2 (pc' := 130) (ls' := [.ref 58, .int v1, .int v2, .int v3, .int v4, .int v5, .int v6, v7, v8]) (st' := [.int ((-2)), .int v2]) (M' := M) rfl ?_
    refine pu_icmp_ne rfl (fun hc => ?_) (fun hc => ?_)
    · replace H := Eq.mp (if_neg hc) H
      refine pu_go 1 (pc' := 137) (ls' := [.ref 58, .int v1, .int v2, .int v3, .int v4, .int v5, .int v6, v7, v8]) (st' := [.int v1]) (M' := M) rfl ?_
      refine pu_if_ne rfl (fun hc => ?_) (fun hc => ?_)
      · replace H := Eq.mp (if_neg hc) H
        refine pu_go 2 (pc' := 146) (ls' := [.ref 58, .int v1, .int v2, .int v3, .int v4, .int v5, .int v6, v7, v8]) (st' := [.int 1, .int v1]) (M' := M) rfl ?_
        refine pu_icmp_ne rfl (fun hc => ?_) (fun hc => ?_)
        · replace H := Eq.mp (if_neg hc) H
          refine pu_go 1 (pc' := 155) (ls' := [.ref 58, .int v1, .int v2, .int v3, .int v4, .int v5, .int v6, v7, v8]) (st' := [.int v5]) (M' := M) rfl ?_
          exact pu_ret rfl rfl ⟨_, rfl, H⟩
        · replace H := Eq.mp (if_pos hc) H
          refine pu_go 2 (pc' := 155) (ls' := [.ref 58, .int v1, .int v2, .int v3, .int v4, .int v5, .int v6, v7, v8]) (st' := [.int v3]) (M' := M) rfl ?_
          exact pu_ret rfl rfl ⟨_, rfl, H⟩
      · replace H := Eq.mp (if_pos hc) H
        refine pu_go 2 (pc' := 155) (ls' := [.ref 58, .int v1, .int v2, .int v3, .int v4, .int v5, .int v6, v7, v8]) (st' := [.int v2]) (M' := M) rfl ?_
        exact pu_ret rfl rfl ⟨_, rfl, H⟩
    · replace H := Eq.mp (if_pos hc) H
      refine pu_go 1 (pc' := 135) (ls' := [.ref 58, .int v1, .int v2, .int v3, .int v4, .int v5, .int v6, v7, v8]) (st' := [.int ((-2))]) (M' := M) rfl ?_
      exact pu_ret rfl rfl ⟨_, rfl, H⟩
  · replace H := Eq.mp (if_neg hc) H
    refine pu_go 4 (pc' := 42) (ls' := [.ref 58, .int v1, .int v2, .int v3, .int v4, .int v5, .int v6, .int (v6 + 1), v8]) (st' := []) (M' := M) rfl ?_
    exact H
set_option maxRecDepth 20000 in
theorem r_m_change {L d : Nat} {M : pu_M} {Q : Int32 → pu_M → Prop} {v1 : Int32} (H : pu_I L (d + 4) 157 [.int v1, .int 0, .int 2] M (fun x2 M1 => (if x2 = 0 then Q ((-1)) M1 else pu_I L (d + 4) 223 [.ref 58] M1 (fun x4 M3 => pu_R L (d + 5) 228 29 [.ref 58, .int v1, .int ((-2)), .int ((-2)), .int x4, .int 0, .int 0, mq_un, mq_un] [] M3 (pu_qI Q))))) : pu_I L (d + 5) 228 [.ref 58, .int v1] M Q := by
  show pu_R L (d + 5) 228 0 [.ref 58, .int v1, mq_un, mq_un, mq_un, mq_un, mq_un, mq_un, mq_un] [] M (pu_qI Q)
  refine pu_go 3 (pc' := 3) (ls' := [.ref 58, .int v1, mq_un, mq_un, mq_un, mq_un, mq_un, mq_un, mq_un]) (st' := [.int 2, .int 0, .int v1]) (M' := M) rfl ?_
  refine pu_callI (m' := 157) (ml := 3) (as := [.int v1, .int 0, .int 2]) (rest := []) rfl rfl rfl (Nat.le_of_ble_eq_true rfl) H (fun x2 M1 H => ?_)
  show pu_R L (d + 5) 228 6 [.ref 58, .int v1, mq_un, mq_un, mq_un, mq_un, mq_un, mq_un, mq_un] [.int x2] M1 _
  refine pu_if_ne rfl (fun hc => ?_) (fun hc => ?_)
  · replace H := Eq.mp (if_neg hc) H
    refine pu_go 5 (pc' := 18) (ls' := [.ref 58, .int v1, .int ((-2)), .int ((-2)), mq_un, mq_un, mq_un, mq_un, mq_un]) (st' := [.ref 58]) (M' := M1) rfl ?_
    refine pu_callI (m' := 223) (ml := 4) (as := [.ref 58]) (rest := []) rfl rfl rfl (Nat.le_of_ble_eq_true rfl) H (fun x4 M3 H => ?_)
    show pu_R L (d + 5) 228 21 [.ref 58, .int v1, .int ((-2)), .int ((-2)), mq_un, mq_un, mq_un, mq_un, mq_un] [.int x4] M3 _
    refine pu_go 5 (pc' := 29) (ls' := [.ref 58, .int v1, .int ((-2)), .int ((-2)), .int x4, .int 0, .int 0, mq_un, mq_un]) (st' := []) (M' := M3) rfl ?_
    exact H
  · replace H := Eq.mp (if_pos hc) H
    refine pu_go 1 (pc' := 10) (ls' := [.ref 58, .int v1, mq_un, mq_un, mq_un, mq_un, mq_un, mq_un, mq_un]) (st' := [.int ((-1))]) (M' := M1) rfl ?_
    exact pu_ret rfl rfl ⟨_, rfl, H⟩
/-! m_isByWall (I)Z -/
set_option maxRecDepth 20000 in
theorem r_m_isByWall {L d : Nat} {M : pu_M} {Q : Int32 → pu_M → Prop} {v0 : Int32} (H : (if (v0 % 10) = 0 then Q 1 M else (if (v0 % 10) = 9 then Q 1 M else (if (v0 / 10) = 0 then Q 1 M else (if (v0 / 10) = 5 then Q 1 M else Q 0 M))))) : pu_I L (d + 1) 229 [.int v0] M Q := by
  show pu_R L (d + 1) 229 0 [.int v0] [] M (pu_qI Q)
  refine pu_go 2 (pc' := 3) (ls' := [.int v0]) (st' := [.int 10, .int v0]) (M' := M) rfl ?_
  refine pu_rem rfl (by decide) ?_
  refine pu_if_eq rfl (fun hc => ?_) (fun hc => ?_)
  · replace H := Eq.mp (if_pos hc) H
    refine pu_go 2 (pc' := 36) (ls' := [.int v0]) (st' := [.int 1]) (M' := M) rfl ?_
    exact pu_ret rfl rfl ⟨_, rfl, H⟩
  · replace H := Eq.mp (if_neg hc) H
    refine pu_go 2 (pc' := 10) (ls' := [.int v0]) (st' := [.int 10, .int v0]) (M' := M) rfl ?_
    refine pu_rem rfl (by decide) ?_
    refine pu_go 1 (pc' := 13) (ls' := [.int v0]) (st' := [.int 9, .int (v0 % 10)]) (M' := M) rfl ?_
    refine pu_icmp_eq rfl (fun hc => ?_) (fun hc => ?_)
    · replace H := Eq.mp (if_pos hc) H
      refine pu_go 2 (pc' := 36) (ls' := [.int v0]) (st' := [.int 1]) (M' := M) rfl ?_
      exact pu_ret rfl rfl ⟨_, rfl, H⟩
    · replace H := Eq.mp (if_neg hc) H
      refine pu_go 2 (pc' := 19) (ls' := [.int v0]) (st' := [.int 10, .int v0]) (M' := M) rfl ?_
      refine pu_div rfl (by decide) ?_
      refine pu_if_eq rfl (fun hc => ?_) (fun hc => ?_)
      · replace H := Eq.mp (if_pos hc) H
        refine pu_go 2 (pc' := 36) (ls' := [.int v0]) (st' := [.int 1]) (M' := M) rfl ?_
        exact pu_ret rfl rfl ⟨_, rfl, H⟩
      · replace H := Eq.mp (if_neg hc) H
        refine pu_go 2 (pc' := 26) (ls' := [.int v0]) (st' := [.int 10, .int v0]) (M' := M) rfl ?_
        refine pu_div rfl (by decide) ?_
        refine pu_go 1 (pc' := 28) (ls' := [.int v0]) (st' := [.int 5, .int (v0 / 10)]) (M' := M) rfl ?_
        refine pu_icmp_ne rfl (fun hc => ?_) (fun hc => ?_)
        · replace H := Eq.mp (if_neg hc) H
          refine pu_go 1 (pc' := 36) (ls' := [.int v0]) (st' := [.int 0]) (M' := M) rfl ?_
          exact pu_ret rfl rfl ⟨_, rfl, H⟩
        · replace H := Eq.mp (if_pos hc) H
          refine pu_go 2 (pc' := 36) (ls' := [.int v0]) (st' := [.int 1]) (M' := M) rfl ?_
          exact pu_ret rfl rfl ⟨_, rfl, H⟩
/-! m_holdsWish (I)Z -/
set_option maxRecDepth 20000 in
theorem r_m_holdsWish {L d : Nat} {M : pu_M} {Q : Int32 → pu_M → Prop} {v1 : Int32} (H : (mq_inb v1 24 = true ∧ (mq_inb v1 24 = true ∧ (mq_inb v1 24 = true ∧ (if (M 77 v1.toNatClampNeg) = 35 then pu_I L (d + 4) 165 [.ref 58, .int (M 76 v1.toNatClampNeg)] M (fun x9 M8 => (if x9 = 0 then Q 0 M8 else (mq_inb (48 + (M 76 v1.toNatClampNeg)) 66 = true ∧ pu_I L (d + 4) 229 [.int (M8 59 (48 + (M 76 v1.toNatClampNeg) : Int32).toNatClampNeg)] M8 (fun x12 M11 => (if x12 = 0 then Q 0 M11 else Q 1 M11))))) else (if (M 77 v1.toNatClampNeg) = 43 then pu_I L (d + 4) 170 [.ref 58, .int (M 76 v1.toNatClampNeg), .int (M 78 v1.toNatClampNeg)] M (fun x14 M13 => ((x14 = 0 ∨ x14 = 1) ∧ Q x14 M13)) else (if (M 77 v1.toNatClampNeg) = 45 then pu_I L (d + 4) 170 [.ref 58, .int (M 76 v1.toNatClampNeg), .int (M 78 v1.toNatClampNeg)] M (fun x17 M16 => (if x17 = 0 then Q 1 M16 else Q 0 M16)) else pu_I L (d + 4) 165 [.ref 58, .int (M 76 v1.toNatClampNeg)] M (fun x5 M4 => (if x5 = 0 then Q 0 M4 else pu_I L (d + 4) 171 [.ref 58, .int (M 76 v1.toNatClampNeg)] M4 (fun x7 M6 => (if x7 = 0 then Q 1 M6 else Q 0 M6))))))))))) : pu_I L (d + 5) 230 [.ref 58, .int v1] M Q := by
  show pu_R L (d + 5) 230 0 [.ref 58, .int v1, mq_un, mq_un] [] M (pu_qI Q)
  refine pu_go 3 (pc' := 5) (ls' := [.ref 58, .int v1, mq_un, mq_un]) (st' := [.int v1, .ref 76]) (M' := M) rfl ?_
  obtain ⟨hb1, H⟩ := H
  refine pu_iald rfl rfl (Or.inl (by decide)) hb1 ?_
  refine pu_go 4 (pc' := 12) (ls' := [.ref 58, .int v1, .int (M 76 v1.toNatClampNeg), mq_un]) (st' := [.int v1, .ref 78]) (M' := M) rfl ?_
  obtain ⟨hb2, H⟩ := H
  refine pu_iald rfl rfl (Or.inl (by decide)) hb2 ?_
  refine pu_go 4 (pc' := 19) (ls' := [.ref 58, .int v1, .int (M 76 v1.toNatClampNeg), .int (M 78 v1.toNatClampNeg)]) (st' := [.int v1, .ref 77]) (M' := M) rfl ?_
  obtain ⟨hb3, H⟩ := H
  refine pu_iald rfl rfl (Or.inl (by decide)) hb3 ?_
  skip
  by_cases hs20_0 : (M 77 v1.toNatClampNeg) = 35
  · replace H := Eq.mp (if_pos hs20_0) H
    refine pu_one (pc' := 78) (ls' := [.ref 58, .int v1, .int (M 76 v1.toNatClampNeg), .int (M 78 v1.toNatClampNeg)]) (st' := []) (M' := M) rfl (by rw [hs20_0]; rfl) ?_
    refine pu_go 2 (pc' := 80) (ls' := [.ref 58, .int v1, .int (M 76 v1.toNatClampNeg), .int (M 78 v1.toNatClampNeg)]) (st' := [.int (M 76 v1.toNatClampNeg), .ref 58]) (M' := M) rfl ?_
    refine pu_callI (m' := 165) (ml := 2) (as := [.ref 58, .int (M 76 v1.toNatClampNeg)]) (rest := []) rfl rfl rfl (Nat.le_of_ble_eq_true rfl) H (fun x9 M8 H => ?_)
    show pu_R L (d + 5) 230 83 [.ref 58, .int v1, .int (M 76 v1.toNatClampNeg), .int (M 78 v1.toNatClampNeg)] [.int x9] M8 _
    refine pu_if_eq rfl (fun hc => ?_) (fun hc => ?_)
    · replace H := Eq.mp (if_pos hc) H
      refine pu_go 1 (pc' := 106) (ls' := [.ref 58, .int v1, .int (M 76 v1.toNatClampNeg), .int (M 78 v1.toNatClampNeg)]) (st' := [.int 0]) (M' := M8) rfl ?_
      exact pu_ret rfl rfl ⟨_, rfl, H⟩
    · replace H := Eq.mp (if_neg hc) H
      refine pu_go 5 (pc' := 94) (ls' := [.ref 58, .int v1, .int (M 76 v1.toNatClampNeg), .int (M 78 v1.toNatClampNeg)]) (st' := [.int (48 + (M 76 v1.toNatClampNeg)), .ref 59]) (M' := M8) rfl ?_
      obtain ⟨hb10, H⟩ := H
      refine pu_iald rfl rfl (Or.inl (by decide)) hb10 ?_
      refine pu_callI (m' := 229) (ml := 1) (as := [.int (M8 59 (48 + (M 76 v1.toNatClampNeg) : Int32).toNatClampNeg)]) (rest := []) rfl rfl rfl (Nat.le_of_ble_eq_true rfl) H (fun x12 M11 H => ?_)
      show pu_R L (d + 5) 230 98 [.ref 58, .int v1, .int (M 76 v1.toNatClampNeg), .int (M 78 v1.toNatClampNeg)] [.int x12] M11 _
      refine pu_if_eq rfl (fun hc => ?_) (fun hc => ?_)
      · replace H := Eq.mp (if_pos hc) H
        refine pu_go 1 (pc' := 106) (ls' := [.ref 58, .int v1, .int (M 76 v1.toNatClampNeg), .int (M 78 v1.toNatClampNeg)]) (st' := [.int 0]) (M' := M11) rfl ?_
        exact pu_ret rfl rfl ⟨_, rfl, H⟩
      · replace H := Eq.mp (if_neg hc) H
        refine pu_go 2 (pc' := 106) (ls' := [.ref 58, .int v1, .int (M 76 v1.toNatClampNeg), .int (M 78 v1.toNatClampNeg)]) (st' := [.int 1]) (M' := M11) rfl ?_
        exact pu_ret rfl rfl ⟨_, rfl, H⟩
  replace H := Eq.mp (if_neg hs20_0) H
  by_cases hs20_1 : (M 77 v1.toNatClampNeg) = 43
  · replace H := Eq.mp (if_pos hs20_1) H
    refine pu_one (pc' := 56) (ls' := [.ref 58, .int v1, .int (M 76 v1.toNatClampNeg), .int (M 78 v1.toNatClampNeg)]) (st' := []) (M' := M) rfl (by rw [hs20_1]; rfl) ?_
    refine pu_go 3 (pc' := 59) (ls' := [.ref 58, .int v1, .int (M 76 v1.toNatClampNeg), .int (M 78 v1.toNatClampNeg)]) (st' := [.int (M 78 v1.toNatClampNeg), .int (M 76 v1.toNatClampNeg), .ref 58]) (M' := M) rfl ?_
    refine pu_callI (m' := 170) (ml := 3) (as := [.ref 58, .int (M 76 v1.toNatClampNeg), .int (M 78 v1.toNatClampNeg)]) (rest := []) rfl rfl rfl (Nat.le_of_ble_eq_true rfl) H (fun x14 M13 H => ?_)
    show pu_R L (d + 5) 230 62 [.ref 58, .int v1, .int (M 76 v1.toNatClampNeg), .int (M 78 v1.toNatClampNeg)] [.int x14] M13 _
    obtain ⟨hb15, H⟩ := H
    exact pu_retZ rfl hb15 H
  replace H := Eq.mp (if_neg hs20_1) H
  by_cases hs20_2 : (M 77 v1.toNatClampNeg) = 45
  · replace H := Eq.mp (if_pos hs20_2) H
    refine pu_one (pc' := 63) (ls' := [.ref 58, .int v1, .int (M 76 v1.toNatClampNeg), .int (M 78 v1.toNatClampNeg)]) (st' := []) (M' := M) rfl (by rw [hs20_2]; rfl) ?_
    refine pu_go 3 (pc' := 66) (ls' := [.ref 58, .int v1, .int (M 76 v1.toNatClampNeg), .int (M 78 v1.toNatClampNeg)]) (st' := [.int (M 78 v1.toNatClampNeg), .int (M 76 v1.toNatClampNeg), .ref 58]) (M' := M) rfl ?_
    refine pu_callI (m' := 170) (ml := 3) (as := [.ref 58, .int (M 76 v1.toNatClampNeg), .int (M 78 v1.toNatClampNeg)]) (rest := []) rfl rfl rfl (Nat.le_of_ble_eq_true rfl) H (fun x17 M16 H => ?_)
    show pu_R L (d + 5) 230 69 [.ref 58, .int v1, .int (M 76 v1.toNatClampNeg), .int (M 78 v1.toNatClampNeg)] [.int x17] M16 _
    refine pu_if_ne rfl (fun hc => ?_) (fun hc => ?_)
    · replace H := Eq.mp (if_neg hc) H
      refine pu_go 1 (pc' := 77) (ls' := [.ref 58, .int v1, .int (M 76 v1.toNatClampNeg), .int (M 78 v1.toNatClampNeg)]) (st' := [.int 0]) (M' := M16) rfl ?_
      exact pu_ret rfl rfl ⟨_, rfl, H⟩
    · replace H := Eq.mp (if_pos hc) H
      refine pu_go 2 (pc' := 77) (ls' := [.ref 58, .int v1, .int (M 76 v1.toNatClampNeg), .int (M 78 v1.toNatClampNeg)]) (st' := [.int 1]) (M' := M16) rfl ?_
      exact pu_ret rfl rfl ⟨_, rfl, H⟩
  replace H := Eq.mp (if_neg hs20_2) H
  refine pu_one (pc' := 107) (ls' := [.ref 58, .int v1, .int (M 76 v1.toNatClampNeg), .int (M 78 v1.toNatClampNeg)]) (st' := []) (M' := M) rfl (congrArg (fun z => mq_nx z _ _ _) (pu_lkpD [35, 43, 45] (by simp only [List.forall_mem_cons, List.not_mem_nil, false_implies, implies_true, and_true]; exact ⟨hs20_0, hs20_1, hs20_2⟩) (by decide))) ?_
  refine pu_go 2 (pc' := 109) (ls' := [.ref 58, .int v1, .int (M 76 v1.toNatClampNeg), .int (M 78 v1.toNatClampNeg)]) (st' := [.int (M 76 v1.toNatClampNeg), .ref 58]) (M' := M) rfl ?_
  refine pu_callI (m' := 165) (ml := 2) (as := [.ref 58, .int (M 76 v1.toNatClampNeg)]) (rest := []) rfl rfl rfl (Nat.le_of_ble_eq_true rfl) H (fun x5 M4 H => ?_)
  show pu_R L (d + 5) 230 112 [.ref 58, .int v1, .int (M 76 v1.toNatClampNeg), .int (M 78 v1.toNatClampNeg)] [.int x5] M4 _
  refine pu_if_eq rfl (fun hc => ?_) (fun hc => ?_)
  · replace H := Eq.mp (if_pos hc) H
    refine pu_go 1 (pc' := 128) (ls' := [.ref 58, .int v1, .int (M 76 v1.toNatClampNeg), .int (M 78 v1.toNatClampNeg)]) (st' := [.int 0]) (M' := M4) rfl ?_
    exact pu_ret rfl rfl ⟨_, rfl, H⟩
  · replace H := Eq.mp (if_neg hc) H
    refine pu_go 2 (pc' := 117) (ls' := [.ref 58, .int v1, .int (M 76 v1.toNatClampNeg), .int (M 78 v1.toNatClampNeg)]) (st' := [.int (M 76 v1.toNatClampNeg), .ref 58]) (M' := M4) rfl ?_
    refine pu_callI (m' := 171) (ml := 4) (as := [.ref 58, .int (M 76 v1.toNatClampNeg)]) (rest := []) rfl rfl rfl (Nat.le_of_ble_eq_true rfl) H (fun x7 M6 H => ?_)
    show pu_R L (d + 5) 230 120 [.ref 58, .int v1, .int (M 76 v1.toNatClampNeg), .int (M 78 v1.toNatClampNeg)] [.int x7] M6 _
    refine pu_if_ne rfl (fun hc => ?_) (fun hc => ?_)
    · replace H := Eq.mp (if_neg hc) H
      refine pu_go 1 (pc' := 128) (ls' := [.ref 58, .int v1, .int (M 76 v1.toNatClampNeg), .int (M 78 v1.toNatClampNeg)]) (st' := [.int 0]) (M' := M6) rfl ?_
      exact pu_ret rfl rfl ⟨_, rfl, H⟩
    · replace H := Eq.mp (if_pos hc) H
      refine pu_go 2 (pc' := 128) (ls' := [.ref 58, .int v1, .int (M 76 v1.toNatClampNeg), .int (M 78 v1.toNatClampNeg)]) (st' := [.int 1]) (M' := M6) rfl ?_
      exact pu_ret rfl rfl ⟨_, rfl, H⟩
/-! m_hold (I)I -/
set_option maxRecDepth 20000 in
theorem r_m_hold_24 {L d : Nat} {M : pu_M} {Q : Int32 → pu_M → Prop} {v1 : Int32} {v2 : Int32} {v3 : Int32} {v4 : Int32} (H : (if v4 < 0 then (if v1 = 0 then Q v2 M else Q v3 M) else pu_I L (d + 5) 230 [.ref 58, .int v4] M (fun x2 M1 => (if x2 = 0 then pu_R L (d + 6) 231 24 [.ref 58, .int v1, .int v2, .int v4, .int (v4 + (-1))] [] M1 (pu_qI Q) else pu_R L (d + 6) 231 24 [.ref 58, .int v1, .int (v2 + 1), .int v3, .int (v4 + (-1))] [] M1 (pu_qI Q))))) : pu_R L (d + 6) 231 24 [.ref 58, .int v1, .int v2, .int v3, .int v4] [] M (pu_qI Q) := by
  refine pu_go 1 (pc' := 26) (ls' := [.ref 58, .int v1, .int v2, .int v3, .int v4]) (st' := [.int v4]) (M' := M) rfl ?_
  refine pu_if_lt rfl (fun hc => ?_) (fun hc => ?_)
  · replace H := Eq.mp (if_pos hc) H
    refine pu_go 1 (pc' := 55) (ls' := [.ref 58, .int v1, .int v2, .int v3, .int v4]) (st' := [.int v1]) (M' := M) rfl ?_
    refine pu_if_ne rfl (fun hc => ?_) (fun hc => ?_)
    · replace H := Eq.mp (if_neg hc) H
      refine pu_go 1 (pc' := 63) (ls' := [.ref 58, .int v1, .int v2, .int v3, .int v4]) (st' := [.int v3]) (M' := M) rfl ?_
      exact pu_ret rfl rfl ⟨_, rfl, H⟩
    · replace H := Eq.mp (if_pos hc) H
      refine pu_go 2 (pc' := 63) (ls' := [.ref 58, .int v1, .int v2, .int v3, .int v4]) (st' := [.int v2]) (M' := M) rfl ?_
      exact pu_ret rfl rfl ⟨_, rfl, H⟩
  · replace H := Eq.mp (if_neg hc) H
    refine pu_go 2 (pc' := 32) (ls' := [.ref 58, .int v1, .int v2, .int v3, .int v4]) (st' := [.int v4, .ref 58]) (M' := M) rfl ?_
    refine pu_callI (m' := 230) (ml := 4) (as := [.ref 58, .int v4]) (rest := []) rfl rfl rfl (Nat.le_of_ble_eq_true rfl) H (fun x2 M1 H => ?_)
    show pu_R L (d + 6) 231 35 [.ref 58, .int v1, .int v2, .int v3, .int v4] [.int x2] M1 _
    refine pu_if_eq rfl (fun hc => ?_) (fun hc => ?_)
    · replace H := Eq.mp (if_pos hc) H
      refine pu_go 4 (pc' := 24) (ls' := [.ref 58, .int v1, .int v2, .int v4, .int (v4 + (-1))]) (st' := []) (M' := M1) rfl ?_
      exact H
    · replace H := Eq.mp (if_neg hc) H
      refine pu_go 7 (pc' := 24) (ls' := [.ref 58, .int v1, .int (v2 + 1), .int v3, .int (v4 + (-1))]) (st' := []) (M' := M1) rfl ?_
      exact H
set_option maxRecDepth 20000 in
theorem r_m_hold {L d : Nat} {M : pu_M} {Q : Int32 → pu_M → Prop} {v1 : Int32} (H : pu_I L (d + 5) 157 [.int v1, .int 0, .int 1] M (fun x2 M1 => (if x2 = 0 then Q ((-1)) M1 else pu_R L (d + 6) 231 24 [.ref 58, .int v1, .int 0, .int ((-2)), .int ((M1 58 34) - 1)] [] M1 (pu_qI Q)))) : pu_I L (d + 6) 231 [.ref 58, .int v1] M Q := by
  show pu_R L (d + 6) 231 0 [.ref 58, .int v1, mq_un, mq_un, mq_un] [] M (pu_qI Q)
  refine pu_go 3 (pc' := 3) (ls' := [.ref 58, .int v1, mq_un, mq_un, mq_un]) (st' := [.int 1, .int 0, .int v1]) (M' := M) rfl ?_
  refine pu_callI (m' := 157) (ml := 3) (as := [.int v1, .int 0, .int 1]) (rest := []) rfl rfl rfl (Nat.le_of_ble_eq_true rfl) H (fun x2 M1 H => ?_)
  show pu_R L (d + 6) 231 6 [.ref 58, .int v1, mq_un, mq_un, mq_un] [.int x2] M1 _
  refine pu_if_ne rfl (fun hc => ?_) (fun hc => ?_)
  · replace H := Eq.mp (if_neg hc) H
    refine pu_go 9 (pc' := 24) (ls' := [.ref 58, .int v1, .int 0, .int ((-2)), .int ((M1 58 34) - 1)]) (st' := []) (M' := M1) rfl ?_
    exact H
  · replace H := Eq.mp (if_pos hc) H
    refine pu_go 1 (pc' := 10) (ls' := [.ref 58, .int v1, mq_un, mq_un, mq_un]) (st' := [.int ((-1))]) (M' := M1) rfl ?_
    exact pu_ret rfl rfl ⟨_, rfl, H⟩
/-! m_changesOrder (II)V -/
set_option maxRecDepth 20000 in
theorem r_m_changesOrder {L d : Nat} {M : pu_M} {Q : pu_M → Prop} {v1 : Int32} {v2 : Int32} (H : (mq_inb v1 7 = true ∧ (mq_inb v2 7 = true ∧ (mq_inb v1 7 = true ∧ (mq_inb v2 7 = true ∧ Q (pu_wr (pu_wr M 82 v1.toNatClampNeg (M 82 v2.toNatClampNeg)) 82 v2.toNatClampNeg (M 82 v1.toNatClampNeg))))))) : pu_V L (d + 1) 232 [.ref 58, .int v1, .int v2] M Q := by
  show pu_R L (d + 1) 232 0 [.ref 58, .int v1, .int v2, mq_un] [] M (pu_qV Q)
  refine pu_go 3 (pc' := 5) (ls' := [.ref 58, .int v1, .int v2, mq_un]) (st' := [.int v1, .ref 82]) (M' := M) rfl ?_
  obtain ⟨hb1, H⟩ := H
  refine pu_iald rfl rfl (Or.inl (by decide)) hb1 ?_
  refine pu_go 7 (pc' := 17) (ls' := [.ref 58, .int v1, .int v2, .int (M 82 v1.toNatClampNeg)]) (st' := [.int v2, .ref 82, .int v1, .ref 82]) (M' := M) rfl ?_
  obtain ⟨hb2, H⟩ := H
  refine pu_iald rfl rfl (Or.inl (by decide)) hb2 ?_
  obtain ⟨hb3, H⟩ := H
  refine pu_iast rfl rfl (by decide) hb3 ?_
  refine pu_go 4 (pc' := 25) (ls' := [.ref 58, .int v1, .int v2, .int (M 82 v1.toNatClampNeg)]) (st' := [.int (M 82 v1.toNatClampNeg), .int v2, .ref 82]) (M' := pu_wr M 82 v1.toNatClampNeg (M 82 v2.toNatClampNeg)) rfl ?_
  obtain ⟨hb4, H⟩ := H
  refine pu_iast rfl rfl (by decide) hb4 ?_
  exact pu_ret rfl rfl ⟨rfl, H⟩
/-! m_nextOrder (I)Z -/
set_option maxRecDepth 20000 in
theorem r_m_nextOrder_80 {L d : Nat} {M : pu_M} {Q : Int32 → pu_M → Prop} {v1 : Int32} {v2 : Int32} {v3 : Int32} {v4 : Int32} {v5 : Int32} (H : (if v5 ≤ v4 then Q 1 M else pu_V L (d + 1) 232 [.ref 58, .int v4, .int v5] M (fun M1 => pu_R L (d + 2) 233 80 [.ref 58, .int v1, .int v2, .int v3, .int (v4 + 1), .int (v5 + (-1))] [] M1 (pu_qI Q)))) : pu_R L (d + 2) 233 80 [.ref 58, .int v1, .int v2, .int v3, .int v4, .int v5] [] M (pu_qI Q) := by
  refine pu_go 2 (pc' := 84) (ls' := [.ref 58, .int v1, .int v2, .int v3, .int v4, .int v5]) (st' := [.int v5, .int v4]) (M' := M) rfl ?_
  refine pu_icmp_ge rfl (fun hc => ?_) (fun hc => ?_)
  · replace H := Eq.mp (if_pos hc) H
    refine pu_go 1 (pc' := 105) (ls' := [.ref 58, .int v1, .int v2, .int v3, .int v4, .int v5]) (st' := [.int 1]) (M' := M) rfl ?_
    exact pu_ret rfl rfl ⟨_, rfl, H⟩
  · replace H := Eq.mp (if_neg hc) H
    refine pu_go 3 (pc' := 92) (ls' := [.ref 58, .int v1, .int v2, .int v3, .int v4, .int v5]) (st' := [.int v5, .int v4, .ref 58]) (M' := M) rfl ?_
    refine pu_callV (m' := 232) (ml := 4) (as := [.ref 58, .int v4, .int v5]) (rest := []) rfl rfl rfl (Nat.le_of_ble_eq_true rfl) H (fun M1 H => ?_)
    show pu_R L (d + 2) 233 95 [.ref 58, .int v1, .int v2, .int v3, .int v4, .int v5] [] M1 _
    refine pu_go 3 (pc' := 80) (ls' := [.ref 58, .int v1, .int v2, .int v3, .int (v4 + 1), .int (v5 + (-1))]) (st' := []) (M' := M1) rfl ?_
    exact H
set_option maxRecDepth 20000 in
theorem r_m_nextOrder_42 {L d : Nat} {M : pu_M} {Q : Int32 → pu_M → Prop} {v1 : Int32} {v2 : Int32} {v3 : Int32} (H : (mq_inb v3 7 = true ∧ (mq_inb v2 7 = true ∧ (if (M 82 v2.toNatClampNeg) ≤ (M 82 v3.toNatClampNeg) then pu_V L (d + 1) 232 [.ref 58, .int v2, .int v3] M (fun M3 => pu_R L (d + 2) 233 80 [.ref 58, .int v1, .int v2, .int v3, .int (v2 + 1), .int (v1 - 1)] [] M3 (pu_qI Q)) else pu_R L (d + 2) 233 42 [.ref 58, .int v1, .int v2, .int (v3 - 1), mq_un, mq_un] [] M (pu_qI Q))))) : pu_R L (d + 2) 233 42 [.ref 58, .int v1, .int v2, .int v3, mq_un, mq_un] [] M (pu_qI Q) := by
  refine pu_go 3 (pc' := 47) (ls' := [.ref 58, .int v1, .int v2, .int v3, mq_un, mq_un]) (st' := [.int v3, .ref 82]) (M' := M) rfl ?_
  obtain ⟨hb1, H⟩ := H
  refine pu_iald rfl rfl (Or.inl (by decide)) hb1 ?_
  refine pu_go 3 (pc' := 53) (ls' := [.ref 58, .int v1, .int v2, .int v3, mq_un, mq_un]) (st' := [.int v2, .ref 82, .int (M 82 v3.toNatClampNeg)]) (M' := M) rfl ?_
  obtain ⟨hb2, H⟩ := H
  refine pu_iald rfl rfl (Or.inl (by decide)) hb2 ?_
  refine pu_icmp_ge rfl (fun hc => ?_) (fun hc => ?_)
  · replace H := Eq.mp (if_pos hc) H
    refine pu_go 3 (pc' := 67) (ls' := [.ref 58, .int v1, .int v2, .int v3, mq_un, mq_un]) (st' := [.int v3, .int v2, .ref 58]) (M' := M) rfl ?_
    refine pu_callV (m' := 232) (ml := 4) (as := [.ref 58, .int v2, .int v3]) (rest := []) rfl rfl rfl (Nat.le_of_ble_eq_true rfl) H (fun M3 H => ?_)
    show pu_R L (d + 2) 233 70 [.ref 58, .int v1, .int v2, .int v3, mq_un, mq_un] [] M3 _
    refine pu_go 8 (pc' := 80) (ls' := [.ref 58, .int v1, .int v2, .int v3, .int (v2 + 1), .int (v1 - 1)]) (st' := []) (M' := M3) rfl ?_
    exact H
  · replace H := Eq.mp (if_neg hc) H
    refine pu_go 5 (pc' := 42) (ls' := [.ref 58, .int v1, .int v2, .int (v3 - 1), mq_un, mq_un]) (st' := []) (M' := M) rfl ?_
    exact H
set_option maxRecDepth 20000 in
theorem r_m_nextOrder_4 {L d : Nat} {M : pu_M} {Q : Int32 → pu_M → Prop} {v1 : Int32} {v2 : Int32} (H : (if v2 < 0 then (if 0 ≤ v2 then pu_R L (d + 2) 233 42 [.ref 58, .int v1, .int v2, .int (v1 - 1), mq_un, mq_un] [] M (pu_qI Q) else Q 0 M) else (mq_inb v2 7 = true ∧ (mq_inb (v2 + 1) 7 = true ∧ (if (M 82 v2.toNatClampNeg) ≤ (M 82 (v2 + 1 : Int32).toNatClampNeg) then (if 0 ≤ v2 then pu_R L (d + 2) 233 42 [.ref 58, .int v1, .int v2, .int (v1 - 1), mq_un, mq_un] [] M (pu_qI Q) else Q 0 M) else pu_R L (d + 2) 233 4 [.ref 58, .int v1, .int (v2 - 1), mq_un, mq_un, mq_un] [] M (pu_qI Q)))))) : pu_R L (d + 2) 233 4 [.ref 58, .int v1, .int v2, mq_un, mq_un, mq_un] [] M (pu_qI Q) := by
  refine pu_go 1 (pc' := 5) (ls' := [.ref 58, .int v1, .int v2, mq_un, mq_un, mq_un]) (st' := [.int v2]) (M' := M) rfl ?_
  refine pu_if_lt rfl (fun hc => ?_) (fun hc => ?_)
  · replace H := Eq.mp (if_pos hc) H
    refine pu_go 1 (pc' := 33) (ls' := [.ref 58, .int v1, .int v2, mq_un, mq_un, mq_un]) (st' := [.int v2]) (M' := M) rfl ?_
    refine pu_if_ge rfl (fun hc => ?_) (fun hc => ?_)
    · replace H := Eq.mp (if_pos hc) H
      refine pu_go 4 (pc' := 42) (ls' := [.ref 58, .int v1, .int v2, .int (v1 - 1), mq_un, mq_un]) (st' := []) (M' := M) rfl ?_
      exact H
    · replace H := Eq.mp (if_neg hc) H
      refine pu_go 1 (pc' := 37) (ls' := [.ref 58, .int v1, .int v2, mq_un, mq_un, mq_un]) (st' := [.int 0]) (M' := M) rfl ?_
      exact pu_ret rfl rfl ⟨_, rfl, H⟩
  · replace H := Eq.mp (if_neg hc) H
    refine pu_go 3 (pc' := 13) (ls' := [.ref 58, .int v1, .int v2, mq_un, mq_un, mq_un]) (st' := [.int v2, .ref 82]) (M' := M) rfl ?_
    obtain ⟨hb1, H⟩ := H
    refine pu_iald rfl rfl (Or.inl (by decide)) hb1 ?_
    refine pu_go 5 (pc' := 21) (ls' := [.ref 58, .int v1, .int v2, mq_un, mq_un, mq_un]) (st' := [.int (v2 + 1), .ref 82, .int (M 82 v2.toNatClampNeg)]) (M' := M) rfl ?_
    obtain ⟨hb2, H⟩ := H
    refine pu_iald rfl rfl (Or.inl (by decide)) hb2 ?_
    refine pu_icmp_le rfl (fun hc => ?_) (fun hc => ?_)
    · replace H := Eq.mp (if_pos hc) H
      refine pu_go 1 (pc' := 33) (ls' := [.ref 58, .int v1, .int v2, mq_un, mq_un, mq_un]) (st' := [.int v2]) (M' := M) rfl ?_
      refine pu_if_ge rfl (fun hc => ?_) (fun hc => ?_)
      · replace H := Eq.mp (if_pos hc) H
        refine pu_go 4 (pc' := 42) (ls' := [.ref 58, .int v1, .int v2, .int (v1 - 1), mq_un, mq_un]) (st' := []) (M' := M) rfl ?_
        exact H
      · replace H := Eq.mp (if_neg hc) H
        refine pu_go 1 (pc' := 37) (ls' := [.ref 58, .int v1, .int v2, mq_un, mq_un, mq_un]) (st' := [.int 0]) (M' := M) rfl ?_
        exact pu_ret rfl rfl ⟨_, rfl, H⟩
    · replace H := Eq.mp (if_neg hc) H
      refine pu_go 5 (pc' := 4) (ls' := [.ref 58, .int v1, .int (v2 - 1), mq_un, mq_un, mq_un]) (st' := []) (M' := M) rfl ?_
      exact H
set_option maxRecDepth 20000 in
theorem r_m_nextOrder {L d : Nat} {M : pu_M} {Q : Int32 → pu_M → Prop} {v1 : Int32} (H : pu_R L (d + 2) 233 4 [.ref 58, .int v1, .int (v1 - 2), mq_un, mq_un, mq_un] [] M (pu_qI Q)) : pu_I L (d + 2) 233 [.ref 58, .int v1] M Q := by
  show pu_R L (d + 2) 233 0 [.ref 58, .int v1, mq_un, mq_un, mq_un, mq_un] [] M (pu_qI Q)
  refine pu_go 4 (pc' := 4) (ls' := [.ref 58, .int v1, .int (v1 - 2), mq_un, mq_un, mq_un]) (st' := []) (M' := M) rfl ?_
  exact H
/-! m_holdsInRow (II)Z -/
set_option maxRecDepth 20000 in
theorem r_m_holdsInRow_37 {L d : Nat} {M : pu_M} {Q : Int32 → pu_M → Prop} {v1 : Int32} {v2 : Int32} {v3 : Int32} {s0 : Int32} (H : (if v3 = ((-1)) then Q 1 M else (if s0 = ((-1)) then Q 1 M else (mq_inb v1 24 = true ∧ (if (M 77 v1.toNatClampNeg) = 35 then (if v3 = 0 then Q 1 M else (if v3 = (v2 - 1) then Q 1 M else Q 0 M)) else (if (M 77 v1.toNatClampNeg) = 43 then pu_I L (d + 1) 160 [.int (v3 - s0)] M (fun x3 M2 => (if x3 = 1 then Q 1 M2 else Q 0 M2)) else (if (M 77 v1.toNatClampNeg) = 45 then pu_I L (d + 1) 160 [.int (v3 - s0)] M (fun x5 M4 => (if x5 = 1 then Q 0 M4 else Q 1 M4)) else Q 0 M))))))) : pu_R L (d + 2) 234 37 [.ref 58, .int v1, .int v2, .int v3, mq_un] [.int s0] M (pu_qI Q) := by
  refine pu_go 3 (pc' := 41) (ls' := [.ref 58, .int v1, .int v2, .int v3, .int s0]) (st' := [.int ((-1)), .int v3]) (M' := M) rfl ?_
  refine pu_icmp_eq rfl (fun hc => ?_) (fun hc => ?_)
  · replace H := Eq.mp (if_pos hc) H
    refine pu_go 1 (pc' := 51) (ls' := [.ref 58, .int v1, .int v2, .int v3, .int s0]) (st' := [.int 1]) (M' := M) rfl ?_
    exact pu_ret rfl rfl ⟨_, rfl, H⟩
  · replace H := Eq.mp (if_neg hc) H
    refine pu_go 2 (pc' := 47) (ls' := [.ref 58, .int v1, .int v2, .int v3, .int s0]) (st' := [.int ((-1)), .int s0]) (M' := M) rfl ?_
    refine pu_icmp_ne rfl (fun hc => ?_) (fun hc => ?_)
    · replace H := Eq.mp (if_neg hc) H
      refine pu_go 3 (pc' := 57) (ls' := [.ref 58, .int v1, .int v2, .int v3, .int s0]) (st' := [.int v1, .ref 77]) (M' := M) rfl ?_
      obtain ⟨hb1, H⟩ := H
      refine pu_iald rfl rfl (Or.inl (by decide)) hb1 ?_
      skip
      by_cases hs58_0 : (M 77 v1.toNatClampNeg) = 35
      · replace H := Eq.mp (if_pos hs58_0) H
        refine pu_one (pc' := 126) (ls' := [.ref 58, .int v1, .int v2, .int v3, .int s0]) (st' := []) (M' := M) rfl (by rw [hs58_0]; rfl) ?_
        refine pu_go 1 (pc' := 127) (ls' := [.ref 58, .int v1, .int v2, .int v3, .int s0]) (st' := [.int v3]) (M' := M) rfl ?_
        refine pu_if_eq rfl (fun hc => ?_) (fun hc => ?_)
        · replace H := Eq.mp (if_pos hc) H
          refine pu_go 2 (pc' := 142) (ls' := [.ref 58, .int v1, .int v2, .int v3, .int s0]) (st' := [.int 1]) (M' := M) rfl ?_
          exact pu_ret rfl rfl ⟨_, rfl, H⟩
        · replace H := Eq.mp (if_neg hc) H
          refine pu_go 4 (pc' := 134) (ls' := [.ref 58, .int v1, .int v2, .int v3, .int s0]) (st' := [.int (v2 - 1), .int v3]) (M' := M) rfl ?_
          refine pu_icmp_ne rfl (fun hc => ?_) (fun hc => ?_)
          · replace H := Eq.mp (if_neg hc) H
            refine pu_go 1 (pc' := 142) (ls' := [.ref 58, .int v1, .int v2, .int v3, .int s0]) (st' := [.int 0]) (M' := M) rfl ?_
            exact pu_ret rfl rfl ⟨_, rfl, H⟩
          · replace H := Eq.mp (if_pos hc) H
            refine pu_go 2 (pc' := 142) (ls' := [.ref 58, .int v1, .int v2, .int v3, .int s0]) (st' := [.int 1]) (M' := M) rfl ?_
            exact pu_ret rfl rfl ⟨_, rfl, H⟩
      replace H := Eq.mp (if_neg hs58_0) H
      by_cases hs58_1 : (M 77 v1.toNatClampNeg) = 43
      · replace H := Eq.mp (if_pos hs58_1) H
        refine pu_one (pc' := 92) (ls' := [.ref 58, .int v1, .int v2, .int v3, .int s0]) (st' := []) (M' := M) rfl (by rw [hs58_1]; rfl) ?_
        refine pu_go 3 (pc' := 96) (ls' := [.ref 58, .int v1, .int v2, .int v3, .int s0]) (st' := [.int (v3 - s0)]) (M' := M) rfl ?_
        refine pu_callI (m' := 160) (ml := 1) (as := [.int (v3 - s0)]) (rest := []) rfl rfl rfl (Nat.le_of_ble_eq_true rfl) H (fun x3 M2 H => ?_)
        show pu_R L (d + 2) 234 99 [.ref 58, .int v1, .int v2, .int v3, .int s0] [.int x3] M2 _
        refine pu_go 1 (pc' := 100) (ls' := [.ref 58, .int v1, .int v2, .int v3, .int s0]) (st' := [.int 1, .int x3]) (M' := M2) rfl ?_
        refine pu_icmp_ne rfl (fun hc => ?_) (fun hc => ?_)
        · replace H := Eq.mp (if_neg hc) H
          refine pu_go 1 (pc' := 108) (ls' := [.ref 58, .int v1, .int v2, .int v3, .int s0]) (st' := [.int 0]) (M' := M2) rfl ?_
          exact pu_ret rfl rfl ⟨_, rfl, H⟩
        · replace H := Eq.mp (if_pos hc) H
          refine pu_go 2 (pc' := 108) (ls' := [.ref 58, .int v1, .int v2, .int v3, .int s0]) (st' := [.int 1]) (M' := M2) rfl ?_
          exact pu_ret rfl rfl ⟨_, rfl, H⟩
      replace H := Eq.mp (if_neg hs58_1) H
      by_cases hs58_2 : (M 77 v1.toNatClampNeg) = 45
      · replace H := Eq.mp (if_pos hs58_2) H
        refine pu_one (pc' := 109) (ls' := [.ref 58, .int v1, .int v2, .int v3, .int s0]) (st' := []) (M' := M) rfl (by rw [hs58_2]; rfl) ?_
        refine pu_go 3 (pc' := 113) (ls' := [.ref 58, .int v1, .int v2, .int v3, .int s0]) (st' := [.int (v3 - s0)]) (M' := M) rfl ?_
        refine pu_callI (m' := 160) (ml := 1) (as := [.int (v3 - s0)]) (rest := []) rfl rfl rfl (Nat.le_of_ble_eq_true rfl) H (fun x5 M4 H => ?_)
        show pu_R L (d + 2) 234 116 [.ref 58, .int v1, .int v2, .int v3, .int s0] [.int x5] M4 _
        refine pu_go 1 (pc' := 117) (ls' := [.ref 58, .int v1, .int v2, .int v3, .int s0]) (st' := [.int 1, .int x5]) (M' := M4) rfl ?_
        refine pu_icmp_eq rfl (fun hc => ?_) (fun hc => ?_)
        · replace H := Eq.mp (if_pos hc) H
          refine pu_go 1 (pc' := 125) (ls' := [.ref 58, .int v1, .int v2, .int v3, .int s0]) (st' := [.int 0]) (M' := M4) rfl ?_
          exact pu_ret rfl rfl ⟨_, rfl, H⟩
        · replace H := Eq.mp (if_neg hc) H
          refine pu_go 2 (pc' := 125) (ls' := [.ref 58, .int v1, .int v2, .int v3, .int s0]) (st' := [.int 1]) (M' := M4) rfl ?_
          exact pu_ret rfl rfl ⟨_, rfl, H⟩
      replace H := Eq.mp (if_neg hs58_2) H
      refine pu_one (pc' := 143) (ls' := [.ref 58, .int v1, .int v2, .int v3, .int s0]) (st' := []) (M' := M) rfl (congrArg (fun z => mq_nx z _ _ _) (pu_lkpD [35, 43, 45] (by simp only [List.forall_mem_cons, List.not_mem_nil, false_implies, implies_true, and_true]; exact ⟨hs58_0, hs58_1, hs58_2⟩) (by decide))) ?_
      refine pu_go 1 (pc' := 144) (ls' := [.ref 58, .int v1, .int v2, .int v3, .int s0]) (st' := [.int 0]) (M' := M) rfl ?_
      exact pu_ret rfl rfl ⟨_, rfl, H⟩
    · replace H := Eq.mp (if_pos hc) H
      refine pu_go 1 (pc' := 51) (ls' := [.ref 58, .int v1, .int v2, .int v3, .int s0]) (st' := [.int 1]) (M' := M) rfl ?_
      exact pu_ret rfl rfl ⟨_, rfl, H⟩
set_option maxRecDepth 20000 in
theorem r_m_holdsInRow {L d : Nat} {M : pu_M} {Q : Int32 → pu_M → Prop} {v1 : Int32} {v2 : Int32} (H : (mq_inb v1 24 = true ∧ (mq_inb (M 76 v1.toNatClampNeg) 16 = true ∧ (mq_inb v1 24 = true ∧ (if (M 78 v1.toNatClampNeg) = ((-1)) then pu_R L (d + 2) 234 37 [.ref 58, .int v1, .int v2, .int (M 84 (M 76 v1.toNatClampNeg : Int32).toNatClampNeg), mq_un] [.int 0] M (pu_qI Q) else (mq_inb v1 24 = true ∧ (mq_inb (M 78 v1.toNatClampNeg) 16 = true ∧ pu_R L (d + 2) 234 37 [.ref 58, .int v1, .int v2, .int (M 84 (M 76 v1.toNatClampNeg : Int32).toNatClampNeg), mq_un] [.int (M 84 (M 78 v1.toNatClampNeg : Int32).toNatClampNeg)] M (pu_qI Q)))))))) : pu_I L (d + 2) 234 [.ref 58, .int v1, .int v2] M Q := by
  show pu_R L (d + 2) 234 0 [.ref 58, .int v1, .int v2, mq_un, mq_un] [] M (pu_qI Q)
  refine pu_go 5 (pc' := 9) (ls' := [.ref 58, .int v1, .int v2, mq_un, mq_un]) (st' := [.int v1, .ref 76, .ref 84]) (M' := M) rfl ?_
  obtain ⟨hb1, H⟩ := H
  refine pu_iald rfl rfl (Or.inl (by decide)) hb1 ?_
  obtain ⟨hb2, H⟩ := H
  refine pu_iald rfl rfl (Or.inl (by decide)) hb2 ?_
  refine pu_go 4 (pc' := 17) (ls' := [.ref 58, .int v1, .int v2, .int (M 84 (M 76 v1.toNatClampNeg : Int32).toNatClampNeg), mq_un]) (st' := [.int v1, .ref 78]) (M' := M) rfl ?_
  obtain ⟨hb3, H⟩ := H
  refine pu_iald rfl rfl (Or.inl (by decide)) hb3 ?_
  refine pu_go 1 (pc' := 19) (ls' := [.ref 58, .int v1, .int v2, .int (M 84 (M 76 v1.toNatClampNeg : Int32).toNatClampNeg), mq_un]) (st' := [.int ((-1)), .int (M 78 v1.toNatClampNeg)]) (M' := M) rfl ?_
  refine pu_icmp_ne rfl (fun hc => ?_) (fun hc => ?_)
  · replace H := Eq.mp (if_neg hc) H
    refine pu_go 5 (pc' := 35) (ls' := [.ref 58, .int v1, .int v2, .int (M 84 (M 76 v1.toNatClampNeg : Int32).toNatClampNeg), mq_un]) (st' := [.int v1, .ref 78, .ref 84]) (M' := M) rfl ?_
    obtain ⟨hb4, H⟩ := H
    refine pu_iald rfl rfl (Or.inl (by decide)) hb4 ?_
    obtain ⟨hb5, H⟩ := H
    refine pu_iald rfl rfl (Or.inl (by decide)) hb5 ?_
    exact H
  · replace H := Eq.mp (if_pos hc) H
    refine pu_go 2 (pc' := 37) (ls' := [.ref 58, .int v1, .int v2, .int (M 84 (M 76 v1.toNatClampNeg : Int32).toNatClampNeg), mq_un]) (st' := [.int 0]) (M' := M) rfl ?_
    exact H
/-! m_mayBeOrder (I)V -/
set_option maxRecDepth 20000 in
theorem r_m_mayBeOrder_115 {L d : Nat} {M : pu_M} {Q : pu_M → Prop} {v1 : Int32} {v2 : Int32} {v3 : Int32} {v4 : Int32} (H : (if v1 ≤ v4 then Q M else (mq_inb v4 7 = true ∧ (mq_inb v4 7 = true ∧ pu_R L (d + 4) 235 115 [.ref 58, .int v1, .int v2, .int v3, .int (v4 + 1)] [] (pu_wr M 83 v4.toNatClampNeg (M 82 v4.toNatClampNeg)) (pu_qV Q))))) : pu_R L (d + 4) 235 115 [.ref 58, .int v1, .int v2, .int v3, .int v4] [] M (pu_qV Q) := by
  refine pu_go 2 (pc' := 118) (ls' := [.ref 58, .int v1, .int v2, .int v3, .int v4]) (st' := [.int v1, .int v4]) (M' := M) rfl ?_
  refine pu_icmp_ge rfl (fun hc => ?_) (fun hc => ?_)
  · replace H := Eq.mp (if_pos hc) H
    exact pu_ret rfl rfl ⟨rfl, H⟩
  · replace H := Eq.mp (if_neg hc) H
    refine pu_go 6 (pc' := 133) (ls' := [.ref 58, .int v1, .int v2, .int v3, .int v4]) (st' := [.int v4, .ref 82, .int v4, .ref 83]) (M' := M) rfl ?_
    obtain ⟨hb1, H⟩ := H
    refine pu_iald rfl rfl (Or.inl (by decide)) hb1 ?_
    obtain ⟨hb2, H⟩ := H
    refine pu_iast rfl rfl (by decide) hb2 ?_
    refine pu_go 2 (pc' := 115) (ls' := [.ref 58, .int v1, .int v2, .int v3, .int (v4 + 1)]) (st' := []) (M' := pu_wr M 83 v4.toNatClampNeg (M 82 v4.toNatClampNeg)) rfl ?_
    exact H
set_option maxRecDepth 20000 in
theorem r_m_mayBeOrder_57 {L d : Nat} {M : pu_M} {Q : pu_M → Prop} {v1 : Int32} {v2 : Int32} {v3 : Int32} {v4 : Int32} (H : (if (M 58 34) ≤ v4 then (if v3 = 0 then (if (M 58 42) < v2 then pu_R L (d + 4) 235 115 [.ref 58, .int v1, .int v2, .int v3, .int 0] [] (pu_wr M 58 42 v2) (pu_qV Q) else Q M) else (if ((pu_wr M 58 41 ((M 58 41) + 1)) 58 42) < v2 then pu_R L (d + 4) 235 115 [.ref 58, .int v1, .int v2, .int v3, .int 0] [] (pu_wr (pu_wr M 58 41 ((M 58 41) + 1)) 58 42 v2) (pu_qV Q) else Q (pu_wr M 58 41 ((M 58 41) + 1)))) else pu_I L (d + 3) 234 [.ref 58, .int v4, .int v1] M (fun x2 M1 => (if x2 = 0 then pu_R L (d + 4) 235 57 [.ref 58, .int v1, .int v2, .int 0, .int (v4 + 1)] [] M1 (pu_qV Q) else pu_R L (d + 4) 235 57 [.ref 58, .int v1, .int v2, .int v3, .int (v4 + 1)] [] M1 (pu_qV Q))))) : pu_R L (d + 4) 235 57 [.ref 58, .int v1, .int v2, .int v3, .int v4] [] M (pu_qV Q) := by
  refine pu_go 3 (pc' := 63) (ls' := [.ref 58, .int v1, .int v2, .int v3, .int v4]) (st' := [.int (M 58 34), .int v4]) (M' := M) rfl ?_
  refine pu_icmp_ge rfl (fun hc => ?_) (fun hc => ?_)
  · replace H := Eq.mp (if_pos hc) H
    refine pu_go 1 (pc' := 85) (ls' := [.ref 58, .int v1, .int v2, .int v3, .int v4]) (st' := [.int v3]) (M' := M) rfl ?_
    refine pu_if_eq rfl (fun hc => ?_) (fun hc => ?_)
    · replace H := Eq.mp (if_pos hc) H
      refine pu_go 3 (pc' := 103) (ls' := [.ref 58, .int v1, .int v2, .int v3, .int v4]) (st' := [.int (M 58 42), .int v2]) (M' := M) rfl ?_
      refine pu_icmp_gt rfl (fun hc => ?_) (fun hc => ?_)
      · replace H := Eq.mp (if_pos hc) H
        refine pu_go 2 (pc' := 109) (ls' := [.ref 58, .int v1, .int v2, .int v3, .int v4]) (st' := [.int v2, .ref 58]) (M' := M) rfl ?_
        refine pu_putf (j := 42) (z := v2) rfl rfl (by decide) rfl (by decide) rfl rfl pu_put_hw ?_
        refine pu_go 2 (pc' := 115) (ls' := [.ref 58, .int v1, .int v2, .int v3, .int 0]) (st' := []) (M' := pu_wr M 58 42 v2) rfl ?_
        exact H
      · replace H := Eq.mp (if_neg hc) H
        exact pu_ret rfl rfl ⟨rfl, H⟩
    · replace H := Eq.mp (if_neg hc) H
      refine pu_go 5 (pc' := 95) (ls' := [.ref 58, .int v1, .int v2, .int v3, .int v4]) (st' := [.int ((M 58 41) + 1), .ref 58]) (M' := M) rfl ?_
      refine pu_putf (j := 41) (z := (M 58 41) + 1) rfl rfl (by decide) rfl (by decide) rfl rfl pu_put_hw ?_
      refine pu_go 3 (pc' := 103) (ls' := [.ref 58, .int v1, .int v2, .int v3, .int v4]) (st' := [.int ((pu_wr M 58 41 ((M 58 41) + 1)) 58 42), .int v2]) (M' := pu_wr M 58 41 ((M 58 41) + 1)) rfl ?_
      refine pu_icmp_gt rfl (fun hc => ?_) (fun hc => ?_)
      · replace H := Eq.mp (if_pos hc) H
        refine pu_go 2 (pc' := 109) (ls' := [.ref 58, .int v1, .int v2, .int v3, .int v4]) (st' := [.int v2, .ref 58]) (M' := pu_wr M 58 41 ((M 58 41) + 1)) rfl ?_
        refine pu_putf (j := 42) (z := v2) rfl rfl (by decide) rfl (by decide) rfl rfl pu_put_hw ?_
        refine pu_go 2 (pc' := 115) (ls' := [.ref 58, .int v1, .int v2, .int v3, .int 0]) (st' := []) (M' := pu_wr (pu_wr M 58 41 ((M 58 41) + 1)) 58 42 v2) rfl ?_
        exact H
      · replace H := Eq.mp (if_neg hc) H
        exact pu_ret rfl rfl ⟨rfl, H⟩
  · replace H := Eq.mp (if_neg hc) H
    refine pu_go 3 (pc' := 70) (ls' := [.ref 58, .int v1, .int v2, .int v3, .int v4]) (st' := [.int v1, .int v4, .ref 58]) (M' := M) rfl ?_
    refine pu_callI (m' := 234) (ml := 5) (as := [.ref 58, .int v4, .int v1]) (rest := []) rfl rfl rfl (Nat.le_of_ble_eq_true rfl) H (fun x2 M1 H => ?_)
    show pu_R L (d + 4) 235 73 [.ref 58, .int v1, .int v2, .int v3, .int v4] [.int x2] M1 _
    refine pu_if_ne rfl (fun hc => ?_) (fun hc => ?_)
    · replace H := Eq.mp (if_neg hc) H
      refine pu_go 2 (pc' := 57) (ls' := [.ref 58, .int v1, .int v2, .int v3, .int (v4 + 1)]) (st' := []) (M' := M1) rfl ?_
      exact H
    · replace H := Eq.mp (if_pos hc) H
      refine pu_go 4 (pc' := 57) (ls' := [.ref 58, .int v1, .int v2, .int 0, .int (v4 + 1)]) (st' := []) (M' := M1) rfl ?_
      exact H
set_option maxRecDepth 20000 in
theorem r_m_mayBeOrder_4 {L d : Nat} {M : pu_M} {Q : pu_M → Prop} {v1 : Int32} {v2 : Int32} {v3 : Int32} (H : (if v1 ≤ v3 then pu_R L (d + 4) 235 57 [.ref 58, .int v1, .int v2, .int 1, .int 0] [] M (pu_qV Q) else (mq_inb v3 7 = true ∧ (mq_inb (M 82 v3.toNatClampNeg) 16 = true ∧ (if v3 ≤ 0 then pu_R L (d + 4) 235 4 [.ref 58, .int v1, .int v2, .int (v3 + 1), mq_un] [] (pu_wr M 84 (M 82 v3.toNatClampNeg : Int32).toNatClampNeg v3) (pu_qV Q) else (mq_inb (v3 - 1) 7 = true ∧ (mq_inb v3 7 = true ∧ pu_I L (d + 3) 173 [.ref 58, .int ((pu_wr M 84 (M 82 v3.toNatClampNeg : Int32).toNatClampNeg v3) 82 (v3 - 1 : Int32).toNatClampNeg), .int ((pu_wr M 84 (M 82 v3.toNatClampNeg : Int32).toNatClampNeg v3) 82 v3.toNatClampNeg)] (pu_wr M 84 (M 82 v3.toNatClampNeg : Int32).toNatClampNeg v3) (fun x6 M5 => pu_R L (d + 4) 235 4 [.ref 58, .int v1, .int (v2 + x6), .int (v3 + 1), mq_un] [] M5 (pu_qV Q))))))))) : pu_R L (d + 4) 235 4 [.ref 58, .int v1, .int v2, .int v3, mq_un] [] M (pu_qV Q) := by
  refine pu_go 2 (pc' := 6) (ls' := [.ref 58, .int v1, .int v2, .int v3, mq_un]) (st' := [.int v1, .int v3]) (M' := M) rfl ?_
  refine pu_icmp_ge rfl (fun hc => ?_) (fun hc => ?_)
  · replace H := Eq.mp (if_pos hc) H
    refine pu_go 4 (pc' := 57) (ls' := [.ref 58, .int v1, .int v2, .int 1, .int 0]) (st' := []) (M' := M) rfl ?_
    exact H
  · replace H := Eq.mp (if_neg hc) H
    refine pu_go 5 (pc' := 18) (ls' := [.ref 58, .int v1, .int v2, .int v3, mq_un]) (st' := [.int v3, .ref 82, .ref 84]) (M' := M) rfl ?_
    obtain ⟨hb1, H⟩ := H
    refine pu_iald rfl rfl (Or.inl (by decide)) hb1 ?_
    refine pu_go 1 (pc' := 20) (ls' := [.ref 58, .int v1, .int v2, .int v3, mq_un]) (st' := [.int v3, .int (M 82 v3.toNatClampNeg), .ref 84]) (M' := M) rfl ?_
    obtain ⟨hb2, H⟩ := H
    refine pu_iast rfl rfl (by decide) hb2 ?_
    refine pu_go 1 (pc' := 22) (ls' := [.ref 58, .int v1, .int v2, .int v3, mq_un]) (st' := [.int v3]) (M' := pu_wr M 84 (M 82 v3.toNatClampNeg : Int32).toNatClampNeg v3) rfl ?_
    refine pu_if_le rfl (fun hc => ?_) (fun hc => ?_)
    · replace H := Eq.mp (if_pos hc) H
      refine pu_go 2 (pc' := 4) (ls' := [.ref 58, .int v1, .int v2, .int (v3 + 1), mq_un]) (st' := []) (M' := pu_wr M 84 (M 82 v3.toNatClampNeg : Int32).toNatClampNeg v3) rfl ?_
      exact H
    · replace H := Eq.mp (if_neg hc) H
      refine pu_go 7 (pc' := 34) (ls' := [.ref 58, .int v1, .int v2, .int v3, mq_un]) (st' := [.int (v3 - 1), .ref 82, .ref 58, .int v2]) (M' := pu_wr M 84 (M 82 v3.toNatClampNeg : Int32).toNatClampNeg v3) rfl ?_
      obtain ⟨hb3, H⟩ := H
      refine pu_iald rfl rfl (Or.inl (by decide)) hb3 ?_
      refine pu_go 3 (pc' := 40) (ls' := [.ref 58, .int v1, .int v2, .int v3, mq_un]) (st' := [.int v3, .ref 82, .int ((pu_wr M 84 (M 82 v3.toNatClampNeg : Int32).toNatClampNeg v3) 82 (v3 - 1 : Int32).toNatClampNeg), .ref 58, .int v2]) (M' := pu_wr M 84 (M 82 v3.toNatClampNeg : Int32).toNatClampNeg v3) rfl ?_
      obtain ⟨hb4, H⟩ := H
      refine pu_iald rfl rfl (Or.inl (by decide)) hb4 ?_
      refine pu_callI (m' := 173) (ml := 3) (as := [.ref 58, .int ((pu_wr M 84 (M 82 v3.toNatClampNeg : Int32).toNatClampNeg v3) 82 (v3 - 1 : Int32).toNatClampNeg), .int ((pu_wr M 84 (M 82 v3.toNatClampNeg : Int32).toNatClampNeg v3) 82 v3.toNatClampNeg)]) (rest := [.int v2]) rfl rfl rfl (Nat.le_of_ble_eq_true rfl) H (fun x6 M5 H => ?_)
      show pu_R L (d + 4) 235 44 [.ref 58, .int v1, .int v2, .int v3, mq_un] [.int x6, .int v2] M5 _
      refine pu_go 4 (pc' := 4) (ls' := [.ref 58, .int v1, .int (v2 + x6), .int (v3 + 1), mq_un]) (st' := []) (M' := M5) rfl ?_
      exact H
set_option maxRecDepth 20000 in
theorem r_m_mayBeOrder {L d : Nat} {M : pu_M} {Q : pu_M → Prop} {v1 : Int32} (H : pu_R L (d + 4) 235 4 [.ref 58, .int v1, .int 0, .int 0, mq_un] [] M (pu_qV Q)) : pu_V L (d + 4) 235 [.ref 58, .int v1] M Q := by
  show pu_R L (d + 4) 235 0 [.ref 58, .int v1, mq_un, mq_un, mq_un] [] M (pu_qV Q)
  refine pu_go 4 (pc' := 4) (ls' := [.ref 58, .int v1, .int 0, .int 0, mq_un]) (st' := []) (M' := M) rfl ?_
  exact H
/-! m_row (II)I -/
set_option maxRecDepth 20000 in
theorem r_m_row_127 {L d : Nat} {M : pu_M} {Q : Int32 → pu_M → Prop} {v1 : Int32} {v2 : Int32} {v3 : Int32} {v4 : Int32} (H : (if v4 = 0 then (if v2 < 100 then (if v3 ≤ v2 then Q ((-4)) M else (mq_inb v2 7 = true ∧ Q (M 83 v2.toNatClampNeg) M)) else (if v2 = 100 then Q (M 58 42) M else Q (M 58 41) M)) else pu_V L (d + 4) 235 [.ref 58, .int v3] M (fun M2 => pu_I L (d + 4) 233 [.ref 58, .int v3] M2 (fun x4 M3 => pu_R L (d + 5) 236 127 [.ref 58, .int v1, .int v2, .int v3, .int x4] [] M3 (pu_qI Q))))) : pu_R L (d + 5) 236 127 [.ref 58, .int v1, .int v2, .int v3, .int v4] [] M (pu_qI Q) := by
  refine pu_go 1 (pc' := 129) (ls' := [.ref 58, .int v1, .int v2, .int v3, .int v4]) (st' := [.int v4]) (M' := M) rfl ?_
  refine pu_if_eq rfl (fun hc => ?_) (fun hc => ?_)
  · replace H := Eq.mp (if_pos hc) H
    refine pu_go 2 (pc' := 150) (ls' := [.ref 58, .int v1, .int v2, .int v3, .int v4]) (st' := [.int 100, .int v2]) (M' := M) rfl ?_
    refine pu_icmp_lt rfl (fun hc => ?_) (fun hc => ?_)
    · replace H := Eq.mp (if_pos hc) H
      refine pu_go 2 (pc' := 173) (ls' := [.ref 58, .int v1, .int v2, .int v3, .int v4]) (st' := [.int v3, .int v2]) (M' := M) rfl ?_
      refine pu_icmp_ge rfl (fun hc => ?_) (fun hc => ?_)
      · replace H := Eq.mp (if_pos hc) H
        refine pu_go 1 (pc' := 187) (ls' := [.ref 58, .int v1, .int v2, .int v3, .int v4]) (st' := [.int ((-4))]) (M' := M) rfl ?_
        exact pu_ret rfl rfl ⟨_, rfl, H⟩
      · replace H := Eq.mp (if_neg hc) H
        refine pu_go 3 (pc' := 181) (ls' := [.ref 58, .int v1, .int v2, .int v3, .int v4]) (st' := [.int v2, .ref 83]) (M' := M) rfl ?_
        obtain ⟨hb1, H⟩ := H
        refine pu_iald rfl rfl (Or.inl (by decide)) hb1 ?_
        refine pu_go 1 (pc' := 187) (ls' := [.ref 58, .int v1, .int v2, .int v3, .int v4]) (st' := [.int (M 83 v2.toNatClampNeg)]) (M' := M) rfl ?_
        exact pu_ret rfl rfl ⟨_, rfl, H⟩
    · replace H := Eq.mp (if_neg hc) H
      refine pu_go 2 (pc' := 156) (ls' := [.ref 58, .int v1, .int v2, .int v3, .int v4]) (st' := [.int 100, .int v2]) (M' := M) rfl ?_
      refine pu_icmp_ne rfl (fun hc => ?_) (fun hc => ?_)
      · replace H := Eq.mp (if_neg hc) H
        refine pu_go 2 (pc' := 170) (ls' := [.ref 58, .int v1, .int v2, .int v3, .int v4]) (st' := [.int (M 58 41)]) (M' := M) rfl ?_
        exact pu_ret rfl rfl ⟨_, rfl, H⟩
      · replace H := Eq.mp (if_pos hc) H
        refine pu_go 3 (pc' := 170) (ls' := [.ref 58, .int v1, .int v2, .int v3, .int v4]) (st' := [.int (M 58 42)]) (M' := M) rfl ?_
        exact pu_ret rfl rfl ⟨_, rfl, H⟩
  · replace H := Eq.mp (if_neg hc) H
    refine pu_go 2 (pc' := 134) (ls' := [.ref 58, .int v1, .int v2, .int v3, .int v4]) (st' := [.int v3, .ref 58]) (M' := M) rfl ?_
    refine pu_callV (m' := 235) (ml := 5) (as := [.ref 58, .int v3]) (rest := []) rfl rfl rfl (Nat.le_of_ble_eq_true rfl) H (fun M2 H => ?_)
    show pu_R L (d + 5) 236 137 [.ref 58, .int v1, .int v2, .int v3, .int v4] [] M2 _
    refine pu_go 2 (pc' := 139) (ls' := [.ref 58, .int v1, .int v2, .int v3, .int v4]) (st' := [.int v3, .ref 58]) (M' := M2) rfl ?_
    refine pu_callI (m' := 233) (ml := 6) (as := [.ref 58, .int v3]) (rest := []) rfl rfl rfl (Nat.le_of_ble_eq_true rfl) H (fun x4 M3 H => ?_)
    show pu_R L (d + 5) 236 142 [.ref 58, .int v1, .int v2, .int v3, .int v4] [.int x4] M3 _
    refine pu_go 2 (pc' := 127) (ls' := [.ref 58, .int v1, .int v2, .int v3, .int x4]) (st' := []) (M' := M3) rfl ?_
    exact H
set_option maxRecDepth 20000 in
theorem r_m_row_67 {L d : Nat} {M : pu_M} {Q : Int32 → pu_M → Prop} {v1 : Int32} {v2 : Int32} {v3 : Int32} {v4 : Int32} (H : (if 16 ≤ v4 then pu_R L (d + 5) 236 127 [.ref 58, .int v1, .int v2, .int v3, .int 1] [] (pu_wr (pu_wr M 58 41 0) 58 42 ((-1000000))) (pu_qI Q) else (mq_inb v4 16 = true ∧ pu_I L (d + 4) 161 [.int v1, .int v4] (pu_wr M 84 v4.toNatClampNeg ((-1))) (fun x3 M2 => (if x3 = 0 then pu_R L (d + 5) 236 67 [.ref 58, .int v1, .int v2, .int v3, .int (v4 + 1)] [] M2 (pu_qI Q) else (mq_inb v3 7 = true ∧ pu_R L (d + 5) 236 67 [.ref 58, .int v1, .int v2, .int (v3 + 1), .int (v4 + 1)] [] (pu_wr M2 82 v3.toNatClampNeg v4) (pu_qI Q))))))) : pu_R L (d + 5) 236 67 [.ref 58, .int v1, .int v2, .int v3, .int v4] [] M (pu_qI Q) := by
  refine pu_go 2 (pc' := 71) (ls' := [.ref 58, .int v1, .int v2, .int v3, .int v4]) (st' := [.int 16, .int v4]) (M' := M) rfl ?_
  refine pu_icmp_ge rfl (fun hc => ?_) (fun hc => ?_)
  · replace H := Eq.mp (if_pos hc) H
    refine pu_go 2 (pc' := 114) (ls' := [.ref 58, .int v1, .int v2, .int v3, .int v4]) (st' := [.int 0, .ref 58]) (M' := M) rfl ?_
    refine pu_putf (j := 41) (z := 0) rfl rfl (by decide) rfl (by decide) rfl rfl pu_put_hw ?_
    refine pu_go 2 (pc' := 121) (ls' := [.ref 58, .int v1, .int v2, .int v3, .int v4]) (st' := [.int ((-1000000)), .ref 58]) (M' := pu_wr M 58 41 0) rfl ?_
    refine pu_putf (j := 42) (z := (-1000000)) rfl rfl (by decide) rfl (by decide) rfl rfl pu_put_hw ?_
    refine pu_go 2 (pc' := 127) (ls' := [.ref 58, .int v1, .int v2, .int v3, .int 1]) (st' := []) (M' := pu_wr (pu_wr M 58 41 0) 58 42 ((-1000000))) rfl ?_
    exact H
  · replace H := Eq.mp (if_neg hc) H
    refine pu_go 4 (pc' := 81) (ls' := [.ref 58, .int v1, .int v2, .int v3, .int v4]) (st' := [.int ((-1)), .int v4, .ref 84]) (M' := M) rfl ?_
    obtain ⟨hb1, H⟩ := H
    refine pu_iast rfl rfl (by decide) hb1 ?_
    refine pu_go 2 (pc' := 85) (ls' := [.ref 58, .int v1, .int v2, .int v3, .int v4]) (st' := [.int v4, .int v1]) (M' := pu_wr M 84 v4.toNatClampNeg ((-1))) rfl ?_
    refine pu_callI (m' := 161) (ml := 2) (as := [.int v1, .int v4]) (rest := []) rfl rfl rfl (Nat.le_of_ble_eq_true rfl) H (fun x3 M2 H => ?_)
    show pu_R L (d + 5) 236 88 [.ref 58, .int v1, .int v2, .int v3, .int v4] [.int x3] M2 _
    refine pu_if_ne rfl (fun hc => ?_) (fun hc => ?_)
    · replace H := Eq.mp (if_neg hc) H
      refine pu_go 4 (pc' := 101) (ls' := [.ref 58, .int v1, .int v2, .int v3, .int v4]) (st' := [.int v4, .int v3, .ref 82]) (M' := M2) rfl ?_
      obtain ⟨hb4, H⟩ := H
      refine pu_iast rfl rfl (by decide) hb4 ?_
      refine pu_go 6 (pc' := 67) (ls' := [.ref 58, .int v1, .int v2, .int (v3 + 1), .int (v4 + 1)]) (st' := []) (M' := pu_wr M2 82 v3.toNatClampNeg v4) rfl ?_
      exact H
    · replace H := Eq.mp (if_pos hc) H
      refine pu_go 3 (pc' := 67) (ls' := [.ref 58, .int v1, .int v2, .int v3, .int (v4 + 1)]) (st' := []) (M' := M2) rfl ?_
      exact H
set_option maxRecDepth 20000 in
theorem r_m_row {L d : Nat} {M : pu_M} {Q : Int32 → pu_M → Prop} {v1 : Int32} {v2 : Int32} (H : pu_I L (d + 4) 157 [.int v1, .int 0, .int 65535] M (fun x2 M1 => (if x2 = 0 then Q ((-1000)) M1 else pu_I L (d + 4) 162 [.int v1] M1 (fun x4 M3 => pu_I L (d + 4) 157 [.int x4, .int 2, .int 7] M3 (fun x6 M5 => (if x6 = 0 then Q ((-1000)) M5 else pu_I L (d + 4) 157 [.int v2, .int 0, .int 6] M5 (fun x8 M7 => (if x8 = 0 then pu_I L (d + 4) 157 [.int v2, .int 100, .int 101] M7 (fun x12 M11 => (if x12 = 0 then Q ((-1000)) M11 else pu_I L (d + 4) 166 [.ref 58] M11 (fun x14 M13 => (if (v1 &&& (x14 ^^^ ((-1)))) = 0 then pu_R L (d + 5) 236 67 [.ref 58, .int v1, .int v2, .int 0, .int 0] [] M13 (pu_qI Q) else Q ((-2)) M13)))) else pu_I L (d + 4) 166 [.ref 58] M7 (fun x10 M9 => (if (v1 &&& (x10 ^^^ ((-1)))) = 0 then pu_R L (d + 5) 236 67 [.ref 58, .int v1, .int v2, .int 0, .int 0] [] M9 (pu_qI Q) else Q ((-2)) M9)))))))))) : pu_I L (d + 5) 236 [.ref 58, .int v1, .int v2] M Q := by
  show pu_R L (d + 5) 236 0 [.ref 58, .int v1, .int v2, mq_un, mq_un] [] M (pu_qI Q)
  refine pu_go 3 (pc' := 4) (ls' := [.ref 58, .int v1, .int v2, mq_un, mq_un]) (st' := [.int 65535, .int 0, .int v1]) (M' := M) rfl ?_
  refine pu_callI (m' := 157) (ml := 3) (as := [.int v1, .int 0, .int 65535]) (rest := []) rfl rfl rfl (Nat.le_of_ble_eq_true rfl) H (fun x2 M1 H => ?_)
  show pu_R L (d + 5) 236 7 [.ref 58, .int v1, .int v2, mq_un, mq_un] [.int x2] M1 _
  refine pu_if_eq rfl (fun hc => ?_) (fun hc => ?_)
  · replace H := Eq.mp (if_pos hc) H
    refine pu_go 1 (pc' := 47) (ls' := [.ref 58, .int v1, .int v2, mq_un, mq_un]) (st' := [.int ((-1000))]) (M' := M1) rfl ?_
    exact pu_ret rfl rfl ⟨_, rfl, H⟩
  · replace H := Eq.mp (if_neg hc) H
    refine pu_go 1 (pc' := 11) (ls' := [.ref 58, .int v1, .int v2, mq_un, mq_un]) (st' := [.int v1]) (M' := M1) rfl ?_
    refine pu_callI (m' := 162) (ml := 3) (as := [.int v1]) (rest := []) rfl rfl rfl (Nat.le_of_ble_eq_true rfl) H (fun x4 M3 H => ?_)
    show pu_R L (d + 5) 236 14 [.ref 58, .int v1, .int v2, mq_un, mq_un] [.int x4] M3 _
    refine pu_go 2 (pc' := 17) (ls' := [.ref 58, .int v1, .int v2, mq_un, mq_un]) (st' := [.int 7, .int 2, .int x4]) (M' := M3) rfl ?_
    refine pu_callI (m' := 157) (ml := 3) (as := [.int x4, .int 2, .int 7]) (rest := []) rfl rfl rfl (Nat.le_of_ble_eq_true rfl) H (fun x6 M5 H => ?_)
    show pu_R L (d + 5) 236 20 [.ref 58, .int v1, .int v2, mq_un, mq_un] [.int x6] M5 _
    refine pu_if_eq rfl (fun hc => ?_) (fun hc => ?_)
    · replace H := Eq.mp (if_pos hc) H
      refine pu_go 1 (pc' := 47) (ls' := [.ref 58, .int v1, .int v2, mq_un, mq_un]) (st' := [.int ((-1000))]) (M' := M5) rfl ?_
      exact pu_ret rfl rfl ⟨_, rfl, H⟩
    · replace H := Eq.mp (if_neg hc) H
      refine pu_go 3 (pc' := 27) (ls' := [.ref 58, .int v1, .int v2, mq_un, mq_un]) (st' := [.int 6, .int 0, .int v2]) (M' := M5) rfl ?_
      refine pu_callI (m' := 157) (ml := 3) (as := [.int v2, .int 0, .int 6]) (rest := []) rfl rfl rfl (Nat.le_of_ble_eq_true rfl) H (fun x8 M7 H => ?_)
      show pu_R L (d + 5) 236 30 [.ref 58, .int v1, .int v2, mq_un, mq_un] [.int x8] M7 _
      refine pu_if_ne rfl (fun hc => ?_) (fun hc => ?_)
      · replace H := Eq.mp (if_neg hc) H
        refine pu_go 2 (pc' := 50) (ls' := [.ref 58, .int v1, .int v2, mq_un, mq_un]) (st' := [.ref 58, .int v1]) (M' := M7) rfl ?_
        refine pu_callI (m' := 166) (ml := 3) (as := [.ref 58]) (rest := [.int v1]) rfl rfl rfl (Nat.le_of_ble_eq_true rfl) H (fun x10 M9 H => ?_)
        show pu_R L (d + 5) 236 53 [.ref 58, .int v1, .int v2, mq_un, mq_un] [.int x10, .int v1] M9 _
        refine pu_go 3 (pc' := 56) (ls' := [.ref 58, .int v1, .int v2, mq_un, mq_un]) (st' := [.int (v1 &&& (x10 ^^^ ((-1))))]) (M' := M9) rfl ?_
        refine pu_if_eq rfl (fun hc => ?_) (fun hc => ?_)
        · replace H := Eq.mp (if_pos hc) H
          refine pu_go 4 (pc' := 67) (ls' := [.ref 58, .int v1, .int v2, .int 0, .int 0]) (st' := []) (M' := M9) rfl ?_
          exact H
        · replace H := Eq.mp (if_neg hc) H
          refine pu_go 1 (pc' := 61) (ls' := [.ref 58, .int v1, .int v2, mq_un, mq_un]) (st' := [.int ((-2))]) (M' := M9) rfl ?_
          exact pu_ret rfl rfl ⟨_, rfl, H⟩
      · replace H := Eq.mp (if_pos hc) H
        refine pu_go 3 (pc' := 38) (ls' := [.ref 58, .int v1, .int v2, mq_un, mq_un]) (st' := [.int 101, .int 100, .int v2]) (M' := M7) rfl ?_
        refine pu_callI (m' := 157) (ml := 3) (as := [.int v2, .int 100, .int 101]) (rest := []) rfl rfl rfl (Nat.le_of_ble_eq_true rfl) H (fun x12 M11 H => ?_)
        show pu_R L (d + 5) 236 41 [.ref 58, .int v1, .int v2, mq_un, mq_un] [.int x12] M11 _
        refine pu_if_ne rfl (fun hc => ?_) (fun hc => ?_)
        · replace H := Eq.mp (if_neg hc) H
          refine pu_go 2 (pc' := 50) (ls' := [.ref 58, .int v1, .int v2, mq_un, mq_un]) (st' := [.ref 58, .int v1]) (M' := M11) rfl ?_
          refine pu_callI (m' := 166) (ml := 3) (as := [.ref 58]) (rest := [.int v1]) rfl rfl rfl (Nat.le_of_ble_eq_true rfl) H (fun x14 M13 H => ?_)
          show pu_R L (d + 5) 236 53 [.ref 58, .int v1, .int v2, mq_un, mq_un] [.int x14, .int v1] M13 _
          refine pu_go 3 (pc' := 56) (ls' := [.ref 58, .int v1, .int v2, mq_un, mq_un]) (st' := [.int (v1 &&& (x14 ^^^ ((-1))))]) (M' := M13) rfl ?_
          refine pu_if_eq rfl (fun hc => ?_) (fun hc => ?_)
          · replace H := Eq.mp (if_pos hc) H
            refine pu_go 4 (pc' := 67) (ls' := [.ref 58, .int v1, .int v2, .int 0, .int 0]) (st' := []) (M' := M13) rfl ?_
            exact H
          · replace H := Eq.mp (if_neg hc) H
            refine pu_go 1 (pc' := 61) (ls' := [.ref 58, .int v1, .int v2, mq_un, mq_un]) (st' := [.int ((-2))]) (M' := M13) rfl ?_
            exact pu_ret rfl rfl ⟨_, rfl, H⟩
        · replace H := Eq.mp (if_pos hc) H
          refine pu_go 1 (pc' := 47) (ls' := [.ref 58, .int v1, .int v2, mq_un, mq_un]) (st' := [.int ((-1000))]) (M' := M11) rfl ?_
          exact pu_ret rfl rfl ⟨_, rfl, H⟩
/-! m_laysCouples ()V -/
set_option maxRecDepth 20000 in
theorem r_m_laysCouples_31 {L d : Nat} {M : pu_M} {Q : pu_M → Prop} {v1 : Int32} {v2 : Int32} {v3 : Int32} (H : (if v2 ≤ v3 then pu_R L (d + 4) 237 21 [.ref 58, .int v1, .int (v2 + 1), .int v3] [] M (pu_qV Q) else pu_I L (d + 3) 161 [.int v1, .int v2] M (fun x2 M1 => (if x2 = 0 then pu_R L (d + 4) 237 31 [.ref 58, .int v1, .int v2, .int (v3 + 1)] [] M1 (pu_qV Q) else pu_I L (d + 3) 161 [.int v1, .int v3] M1 (fun x4 M3 => (if x4 = 0 then pu_R L (d + 4) 237 31 [.ref 58, .int v1, .int v2, .int (v3 + 1)] [] M3 (pu_qV Q) else (mq_inb v2 10 = true ∧ (mq_inb v3 10 = true ∧ pu_I L (d + 3) 173 [.ref 58, .int (M3 85 v2.toNatClampNeg), .int (M3 85 v3.toNatClampNeg)] M3 (fun x8 M7 => (if 0 < x8 then (mq_inb v1 1024 = true ∧ (mq_inb v2 10 = true ∧ (mq_inb v3 10 = true ∧ pu_I L (d + 3) 173 [.ref 58, .int (M7 85 v2.toNatClampNeg), .int (M7 85 v3.toNatClampNeg)] M7 (fun x13 M12 => (mq_inb ((v1 &&& (((1 : Int32) <<< (v2 &&& 31)) ^^^ ((-1)))) &&& (((1 : Int32) <<< (v3 &&& 31)) ^^^ ((-1)))) 1024 = true ∧ pu_I L (d + 3) 159 [.int (M7 86 v1.toNatClampNeg), .int (x13 + (M12 86 ((v1 &&& (((1 : Int32) <<< (v2 &&& 31)) ^^^ ((-1)))) &&& (((1 : Int32) <<< (v3 &&& 31)) ^^^ ((-1))) : Int32).toNatClampNeg))] M12 (fun x16 M15 => (mq_inb v1 1024 = true ∧ pu_R L (d + 4) 237 31 [.ref 58, .int v1, .int v2, .int (v3 + 1)] [] (pu_wr M15 86 v1.toNatClampNeg x16) (pu_qV Q)))))))) else pu_R L (d + 4) 237 31 [.ref 58, .int v1, .int v2, .int (v3 + 1)] [] M7 (pu_qV Q))))))))))) : pu_R L (d + 4) 237 31 [.ref 58, .int v1, .int v2, .int v3] [] M (pu_qV Q) := by
  refine pu_go 2 (pc' := 33) (ls' := [.ref 58, .int v1, .int v2, .int v3]) (st' := [.int v2, .int v3]) (M' := M) rfl ?_
  refine pu_icmp_ge rfl (fun hc => ?_) (fun hc => ?_)
  · replace H := Eq.mp (if_pos hc) H
    refine pu_go 2 (pc' := 21) (ls' := [.ref 58, .int v1, .int (v2 + 1), .int v3]) (st' := []) (M' := M) rfl ?_
    exact H
  · replace H := Eq.mp (if_neg hc) H
    refine pu_go 2 (pc' := 38) (ls' := [.ref 58, .int v1, .int v2, .int v3]) (st' := [.int v2, .int v1]) (M' := M) rfl ?_
    refine pu_callI (m' := 161) (ml := 2) (as := [.int v1, .int v2]) (rest := []) rfl rfl rfl (Nat.le_of_ble_eq_true rfl) H (fun x2 M1 H => ?_)
    show pu_R L (d + 4) 237 41 [.ref 58, .int v1, .int v2, .int v3] [.int x2] M1 _
    refine pu_if_eq rfl (fun hc => ?_) (fun hc => ?_)
    · replace H := Eq.mp (if_pos hc) H
      refine pu_go 2 (pc' := 31) (ls' := [.ref 58, .int v1, .int v2, .int (v3 + 1)]) (st' := []) (M' := M1) rfl ?_
      exact H
    · replace H := Eq.mp (if_neg hc) H
      refine pu_go 2 (pc' := 46) (ls' := [.ref 58, .int v1, .int v2, .int v3]) (st' := [.int v3, .int v1]) (M' := M1) rfl ?_
      refine pu_callI (m' := 161) (ml := 2) (as := [.int v1, .int v3]) (rest := []) rfl rfl rfl (Nat.le_of_ble_eq_true rfl) H (fun x4 M3 H => ?_)
      show pu_R L (d + 4) 237 49 [.ref 58, .int v1, .int v2, .int v3] [.int x4] M3 _
      refine pu_if_eq rfl (fun hc => ?_) (fun hc => ?_)
      · replace H := Eq.mp (if_pos hc) H
        refine pu_go 2 (pc' := 31) (ls' := [.ref 58, .int v1, .int v2, .int (v3 + 1)]) (st' := []) (M' := M3) rfl ?_
        exact H
      · replace H := Eq.mp (if_neg hc) H
        refine pu_go 4 (pc' := 58) (ls' := [.ref 58, .int v1, .int v2, .int v3]) (st' := [.int v2, .ref 85, .ref 58]) (M' := M3) rfl ?_
        obtain ⟨hb5, H⟩ := H
        refine pu_iald rfl rfl (Or.inl (by decide)) hb5 ?_
        refine pu_go 3 (pc' := 64) (ls' := [.ref 58, .int v1, .int v2, .int v3]) (st' := [.int v3, .ref 85, .int (M3 85 v2.toNatClampNeg), .ref 58]) (M' := M3) rfl ?_
        obtain ⟨hb6, H⟩ := H
        refine pu_iald rfl rfl (Or.inl (by decide)) hb6 ?_
        refine pu_callI (m' := 173) (ml := 3) (as := [.ref 58, .int (M3 85 v2.toNatClampNeg), .int (M3 85 v3.toNatClampNeg)]) (rest := []) rfl rfl rfl (Nat.le_of_ble_eq_true rfl) H (fun x8 M7 H => ?_)
        show pu_R L (d + 4) 237 68 [.ref 58, .int v1, .int v2, .int v3] [.int x8] M7 _
        refine pu_if_gt rfl (fun hc => ?_) (fun hc => ?_)
        · replace H := Eq.mp (if_pos hc) H
          refine pu_go 6 (pc' := 84) (ls' := [.ref 58, .int v1, .int v2, .int v3]) (st' := [.int v1, .ref 86, .int v1, .ref 86]) (M' := M7) rfl ?_
          obtain ⟨hb9, H⟩ := H
          refine pu_iald rfl rfl (Or.inl (by decide)) hb9 ?_
          refine pu_go 4 (pc' := 91) (ls' := [.ref 58, .int v1, .int v2, .int v3]) (st' := [.int v2, .ref 85, .ref 58, .int (M7 86 v1.toNatClampNeg), .int v1, .ref 86]) (M' := M7) rfl ?_
          obtain ⟨hb10, H⟩ := H
          refine pu_iald rfl rfl (Or.inl (by decide)) hb10 ?_
          refine pu_go 3 (pc' := 97) (ls' := [.ref 58, .int v1, .int v2, .int v3]) (st' := [.int v3, .ref 85, .int (M7 85 v2.toNatClampNeg), .ref 58, .int (M7 86 v1.toNatClampNeg), .int v1, .ref 86]) (M' := M7) rfl ?_
          obtain ⟨hb11, H⟩ := H
          refine pu_iald rfl rfl (Or.inl (by decide)) hb11 ?_
          refine pu_callI (m' := 173) (ml := 3) (as := [.ref 58, .int (M7 85 v2.toNatClampNeg), .int (M7 85 v3.toNatClampNeg)]) (rest := [.int (M7 86 v1.toNatClampNeg), .int v1, .ref 86]) rfl rfl rfl (Nat.le_of_ble_eq_true rfl) H (fun x13 M12 H => ?_)
          show pu_R L (d + 4) 237 101 [.ref 58, .int v1, .int v2, .int v3] [.int x13, .int (M7 86 v1.toNatClampNeg), .int v1, .ref 86] M12 _
          refine pu_go 15 (pc' := 118) (ls' := [.ref 58, .int v1, .int v2, .int v3]) (st' := [.int ((v1 &&& (((1 : Int32) <<< (v2 &&& 31)) ^^^ ((-1)))) &&& (((1 : Int32) <<< (v3 &&& 31)) ^^^ ((-1)))), .ref 86, .int x13, .int (M7 86 v1.toNatClampNeg), .int v1, .ref 86]) (M' := M12) rfl ?_
          obtain ⟨hb14, H⟩ := H
          refine pu_iald rfl rfl (Or.inl (by decide)) hb14 ?_
          refine pu_go 1 (pc' := 120) (ls' := [.ref 58, .int v1, .int v2, .int v3]) (st' := [.int (x13 + (M12 86 ((v1 &&& (((1 : Int32) <<< (v2 &&& 31)) ^^^ ((-1)))) &&& (((1 : Int32) <<< (v3 &&& 31)) ^^^ ((-1))) : Int32).toNatClampNeg)), .int (M7 86 v1.toNatClampNeg), .int v1, .ref 86]) (M' := M12) rfl ?_
          refine pu_callI (m' := 159) (ml := 2) (as := [.int (M7 86 v1.toNatClampNeg), .int (x13 + (M12 86 ((v1 &&& (((1 : Int32) <<< (v2 &&& 31)) ^^^ ((-1)))) &&& (((1 : Int32) <<< (v3 &&& 31)) ^^^ ((-1))) : Int32).toNatClampNeg))]) (rest := [.int v1, .ref 86]) rfl rfl rfl (Nat.le_of_ble_eq_true rfl) H (fun x16 M15 H => ?_)
          show pu_R L (d + 4) 237 123 [.ref 58, .int v1, .int v2, .int v3] [.int x16, .int v1, .ref 86] M15 _
          obtain ⟨hb17, H⟩ := H
          refine pu_iast rfl rfl (by decide) hb17 ?_
          refine pu_go 2 (pc' := 31) (ls' := [.ref 58, .int v1, .int v2, .int (v3 + 1)]) (st' := []) (M' := pu_wr M15 86 v1.toNatClampNeg x16) rfl ?_
          exact H
        · replace H := Eq.mp (if_neg hc) H
          refine pu_go 3 (pc' := 31) (ls' := [.ref 58, .int v1, .int v2, .int (v3 + 1)]) (st' := []) (M' := M7) rfl ?_
          exact H
set_option maxRecDepth 20000 in
theorem r_m_laysCouples_21 {L d : Nat} {M : pu_M} {Q : pu_M → Prop} {v1 : Int32} {v2 : Int32} {v3 : Value} (H : (if (M 58 45) ≤ v2 then pu_R L (d + 4) 237 2 [.ref 58, .int (v1 + 1), .int v2, v3] [] M (pu_qV Q) else pu_R L (d + 4) 237 31 [.ref 58, .int v1, .int v2, .int 0] [] M (pu_qV Q))) : pu_R L (d + 4) 237 21 [.ref 58, .int v1, .int v2, v3] [] M (pu_qV Q) := by
  refine pu_go 3 (pc' := 26) (ls' := [.ref 58, .int v1, .int v2, v3]) (st' := [.int (M 58 45), .int v2]) (M' := M) rfl ?_
  refine pu_icmp_ge rfl (fun hc => ?_) (fun hc => ?_)
  · replace H := Eq.mp (if_pos hc) H
    refine pu_go 2 (pc' := 2) (ls' := [.ref 58, .int (v1 + 1), .int v2, v3]) (st' := []) (M' := M) rfl ?_
    exact H
  · replace H := Eq.mp (if_neg hc) H
    refine pu_go 2 (pc' := 31) (ls' := [.ref 58, .int v1, .int v2, .int 0]) (st' := []) (M' := M) rfl ?_
    exact H
set_option maxRecDepth 20000 in
theorem r_m_laysCouples_2 {L d : Nat} {M : pu_M} {Q : pu_M → Prop} {v1 : Int32} {v2 : Value} {v3 : Value} (H : (if ((1 : Int32) <<< ((M 58 45) &&& 31)) ≤ v1 then Q M else (mq_inb v1 1024 = true ∧ pu_R L (d + 4) 237 21 [.ref 58, .int v1, .int 0, v3] [] (pu_wr M 86 v1.toNatClampNeg 0) (pu_qV Q)))) : pu_R L (d + 4) 237 2 [.ref 58, .int v1, v2, v3] [] M (pu_qV Q) := by
  refine pu_go 5 (pc' := 9) (ls' := [.ref 58, .int v1, v2, v3]) (st' := [.int ((1 : Int32) <<< ((M 58 45) &&& 31)), .int v1]) (M' := M) rfl ?_
  refine pu_icmp_ge rfl (fun hc => ?_) (fun hc => ?_)
  · replace H := Eq.mp (if_pos hc) H
    exact pu_ret rfl rfl ⟨rfl, H⟩
  · replace H := Eq.mp (if_neg hc) H
    refine pu_go 4 (pc' := 18) (ls' := [.ref 58, .int v1, v2, v3]) (st' := [.int 0, .int v1, .ref 86]) (M' := M) rfl ?_
    obtain ⟨hb1, H⟩ := H
    refine pu_iast rfl rfl (by decide) hb1 ?_
    refine pu_go 2 (pc' := 21) (ls' := [.ref 58, .int v1, .int 0, v3]) (st' := []) (M' := pu_wr M 86 v1.toNatClampNeg 0) rfl ?_
    exact H
set_option maxRecDepth 20000 in
theorem r_m_laysCouples {L d : Nat} {M : pu_M} {Q : pu_M → Prop}  (H : pu_R L (d + 4) 237 2 [.ref 58, .int 0, mq_un, mq_un] [] M (pu_qV Q)) : pu_V L (d + 4) 237 [.ref 58] M Q := by
  show pu_R L (d + 4) 237 0 [.ref 58, mq_un, mq_un, mq_un] [] M (pu_qV Q)
  refine pu_go 2 (pc' := 2) (ls' := [.ref 58, .int 0, mq_un, mq_un]) (st' := []) (M' := M) rfl ?_
  exact H
/-! m_isWith (I)I -/
set_option maxRecDepth 20000 in
theorem r_m_isWith_156 {L d : Nat} {M : pu_M} {Q : Int32 → pu_M → Prop} {v1 : Int32} {v2 : Int32} {v3 : Int32} {v4 : Int32} {v5 : Int32} (H : (mq_inb v3 10 = true ∧ (if (M 85 v3.toNatClampNeg) = v1 then (if v4 = ((-1)) then Q ((-2)) M else (mq_inb v4 10 = true ∧ Q (M 85 v4.toNatClampNeg) M)) else (if v4 = ((-1)) then pu_R L (d + 4) 238 11 [.ref 58, .int v1, .int v2, .int (v3 + 1), .int v4, .int v5] [] M (pu_qI Q) else (mq_inb v4 10 = true ∧ (if (M 85 v4.toNatClampNeg) = v1 then (mq_inb v3 10 = true ∧ Q (M 85 v3.toNatClampNeg) M) else pu_R L (d + 4) 238 11 [.ref 58, .int v1, .int v2, .int (v3 + 1), .int v4, .int v5] [] M (pu_qI Q))))))) : pu_R L (d + 4) 238 156 [.ref 58, .int v1, .int v2, .int v3, .int v4, .int v5] [] M (pu_qI Q) := by
  refine pu_go 3 (pc' := 161) (ls' := [.ref 58, .int v1, .int v2, .int v3, .int v4, .int v5]) (st' := [.int v3, .ref 85]) (M' := M) rfl ?_
  obtain ⟨hb1, H⟩ := H
  refine pu_iald rfl rfl (Or.inl (by decide)) hb1 ?_
  refine pu_go 1 (pc' := 163) (ls' := [.ref 58, .int v1, .int v2, .int v3, .int v4, .int v5]) (st' := [.int v1, .int (M 85 v3.toNatClampNeg)]) (M' := M) rfl ?_
  refine pu_icmp_ne rfl (fun hc => ?_) (fun hc => ?_)
  · replace H := Eq.mp (if_neg hc) H
    refine pu_go 2 (pc' := 188) (ls' := [.ref 58, .int v1, .int v2, .int v3, .int v4, .int v5]) (st' := [.int ((-1)), .int v4]) (M' := M) rfl ?_
    refine pu_icmp_eq rfl (fun hc => ?_) (fun hc => ?_)
    · replace H := Eq.mp (if_pos hc) H
      refine pu_go 2 (pc' := 11) (ls' := [.ref 58, .int v1, .int v2, .int (v3 + 1), .int v4, .int v5]) (st' := []) (M' := M) rfl ?_
      exact H
    · replace H := Eq.mp (if_neg hc) H
      refine pu_go 3 (pc' := 197) (ls' := [.ref 58, .int v1, .int v2, .int v3, .int v4, .int v5]) (st' := [.int v4, .ref 85]) (M' := M) rfl ?_
      obtain ⟨hb2, H⟩ := H
      refine pu_iald rfl rfl (Or.inl (by decide)) hb2 ?_
      refine pu_go 1 (pc' := 199) (ls' := [.ref 58, .int v1, .int v2, .int v3, .int v4, .int v5]) (st' := [.int v1, .int (M 85 v4.toNatClampNeg)]) (M' := M) rfl ?_
      refine pu_icmp_ne rfl (fun hc => ?_) (fun hc => ?_)
      · replace H := Eq.mp (if_neg hc) H
        refine pu_go 2 (pc' := 11) (ls' := [.ref 58, .int v1, .int v2, .int (v3 + 1), .int v4, .int v5]) (st' := []) (M' := M) rfl ?_
        exact H
      · replace H := Eq.mp (if_pos hc) H
        refine pu_go 3 (pc' := 207) (ls' := [.ref 58, .int v1, .int v2, .int v3, .int v4, .int v5]) (st' := [.int v3, .ref 85]) (M' := M) rfl ?_
        obtain ⟨hb3, H⟩ := H
        refine pu_iald rfl rfl (Or.inl (by decide)) hb3 ?_
        exact pu_ret rfl rfl ⟨_, rfl, H⟩
  · replace H := Eq.mp (if_pos hc) H
    refine pu_go 2 (pc' := 169) (ls' := [.ref 58, .int v1, .int v2, .int v3, .int v4, .int v5]) (st' := [.int ((-1)), .int v4]) (M' := M) rfl ?_
    refine pu_icmp_ne rfl (fun hc => ?_) (fun hc => ?_)
    · replace H := Eq.mp (if_neg hc) H
      refine pu_go 3 (pc' := 183) (ls' := [.ref 58, .int v1, .int v2, .int v3, .int v4, .int v5]) (st' := [.int v4, .ref 85]) (M' := M) rfl ?_
      obtain ⟨hb4, H⟩ := H
      refine pu_iald rfl rfl (Or.inl (by decide)) hb4 ?_
      exact pu_ret rfl rfl ⟨_, rfl, H⟩
    · replace H := Eq.mp (if_pos hc) H
      refine pu_go 2 (pc' := 184) (ls' := [.ref 58, .int v1, .int v2, .int v3, .int v4, .int v5]) (st' := [.int ((-2))]) (M' := M) rfl ?_
      exact pu_ret rfl rfl ⟨_, rfl, H⟩
set_option maxRecDepth 20000 in
theorem r_m_isWith_49 {L d : Nat} {M : pu_M} {Q : Int32 → pu_M → Prop} {v1 : Int32} {v2 : Int32} {v3 : Int32} {v4 : Int32} {v5 : Int32} (H : (if v5 ≤ v3 then (if v4 = ((-1)) then pu_R L (d + 4) 238 156 [.ref 58, .int v1, .int v2, .int v3, .int v4, .int v5] [] M (pu_qI Q) else pu_R L (d + 4) 238 156 [.ref 58, .int v1, .int (v2 &&& (((1 : Int32) <<< (v4 &&& 31)) ^^^ ((-1)))), .int v3, .int v4, .int v5] [] M (pu_qI Q)) else pu_I L (d + 3) 161 [.int v2, .int v5] M (fun x2 M1 => (if x2 = 0 then pu_R L (d + 4) 238 49 [.ref 58, .int v1, .int v2, .int v3, .int v4, .int (v5 + (-1))] [] M1 (pu_qI Q) else (mq_inb v3 10 = true ∧ (mq_inb v5 10 = true ∧ pu_I L (d + 3) 173 [.ref 58, .int (M1 85 v3.toNatClampNeg), .int (M1 85 v5.toNatClampNeg)] M1 (fun x6 M5 => (if 0 < x6 then (mq_inb v3 10 = true ∧ (mq_inb v5 10 = true ∧ pu_I L (d + 3) 173 [.ref 58, .int (M5 85 v3.toNatClampNeg), .int (M5 85 v5.toNatClampNeg)] M5 (fun x10 M9 => (mq_inb (v2 &&& (((1 : Int32) <<< (v5 &&& 31)) ^^^ ((-1)))) 1024 = true ∧ (mq_inb (v2 ||| ((1 : Int32) <<< (v3 &&& 31))) 1024 = true ∧ (if (x10 + (M9 86 (v2 &&& (((1 : Int32) <<< (v5 &&& 31)) ^^^ ((-1))) : Int32).toNatClampNeg)) = (M9 86 (v2 ||| ((1 : Int32) <<< (v3 &&& 31)) : Int32).toNatClampNeg) then pu_R L (d + 4) 238 49 [.ref 58, .int v1, .int v2, .int v3, .int v5, .int (v5 + (-1))] [] M9 (pu_qI Q) else pu_R L (d + 4) 238 49 [.ref 58, .int v1, .int v2, .int v3, .int v4, .int (v5 + (-1))] [] M9 (pu_qI Q))))))) else pu_R L (d + 4) 238 49 [.ref 58, .int v1, .int v2, .int v3, .int v4, .int (v5 + (-1))] [] M5 (pu_qI Q))))))))) : pu_R L (d + 4) 238 49 [.ref 58, .int v1, .int v2, .int v3, .int v4, .int v5] [] M (pu_qI Q) := by
  refine pu_go 2 (pc' := 52) (ls' := [.ref 58, .int v1, .int v2, .int v3, .int v4, .int v5]) (st' := [.int v3, .int v5]) (M' := M) rfl ?_
  refine pu_icmp_le rfl (fun hc => ?_) (fun hc => ?_)
  · replace H := Eq.mp (if_pos hc) H
    refine pu_go 2 (pc' := 144) (ls' := [.ref 58, .int v1, .int v2, .int v3, .int v4, .int v5]) (st' := [.int ((-1)), .int v4]) (M' := M) rfl ?_
    refine pu_icmp_eq rfl (fun hc => ?_) (fun hc => ?_)
    · replace H := Eq.mp (if_pos hc) H
      exact H
    · replace H := Eq.mp (if_neg hc) H
      refine pu_go 8 (pc' := 156) (ls' := [.ref 58, .int v1, .int (v2 &&& (((1 : Int32) <<< (v4 &&& 31)) ^^^ ((-1)))), .int v3, .int v4, .int v5]) (st' := []) (M' := M) rfl ?_
      exact H
  · replace H := Eq.mp (if_neg hc) H
    refine pu_go 2 (pc' := 58) (ls' := [.ref 58, .int v1, .int v2, .int v3, .int v4, .int v5]) (st' := [.int v5, .int v2]) (M' := M) rfl ?_
    refine pu_callI (m' := 161) (ml := 2) (as := [.int v2, .int v5]) (rest := []) rfl rfl rfl (Nat.le_of_ble_eq_true rfl) H (fun x2 M1 H => ?_)
    show pu_R L (d + 4) 238 61 [.ref 58, .int v1, .int v2, .int v3, .int v4, .int v5] [.int x2] M1 _
    refine pu_if_eq rfl (fun hc => ?_) (fun hc => ?_)
    · replace H := Eq.mp (if_pos hc) H
      refine pu_go 2 (pc' := 49) (ls' := [.ref 58, .int v1, .int v2, .int v3, .int v4, .int (v5 + (-1))]) (st' := []) (M' := M1) rfl ?_
      exact H
    · replace H := Eq.mp (if_neg hc) H
      refine pu_go 4 (pc' := 70) (ls' := [.ref 58, .int v1, .int v2, .int v3, .int v4, .int v5]) (st' := [.int v3, .ref 85, .ref 58]) (M' := M1) rfl ?_
      obtain ⟨hb3, H⟩ := H
      refine pu_iald rfl rfl (Or.inl (by decide)) hb3 ?_
      refine pu_go 3 (pc' := 77) (ls' := [.ref 58, .int v1, .int v2, .int v3, .int v4, .int v5]) (st' := [.int v5, .ref 85, .int (M1 85 v3.toNatClampNeg), .ref 58]) (M' := M1) rfl ?_
      obtain ⟨hb4, H⟩ := H
      refine pu_iald rfl rfl (Or.inl (by decide)) hb4 ?_
      refine pu_callI (m' := 173) (ml := 3) (as := [.ref 58, .int (M1 85 v3.toNatClampNeg), .int (M1 85 v5.toNatClampNeg)]) (rest := []) rfl rfl rfl (Nat.le_of_ble_eq_true rfl) H (fun x6 M5 H => ?_)
      show pu_R L (d + 4) 238 81 [.ref 58, .int v1, .int v2, .int v3, .int v4, .int v5] [.int x6] M5 _
      refine pu_if_gt rfl (fun hc => ?_) (fun hc => ?_)
      · replace H := Eq.mp (if_pos hc) H
        refine pu_go 4 (pc' := 93) (ls' := [.ref 58, .int v1, .int v2, .int v3, .int v4, .int v5]) (st' := [.int v3, .ref 85, .ref 58]) (M' := M5) rfl ?_
        obtain ⟨hb7, H⟩ := H
        refine pu_iald rfl rfl (Or.inl (by decide)) hb7 ?_
        refine pu_go 3 (pc' := 100) (ls' := [.ref 58, .int v1, .int v2, .int v3, .int v4, .int v5]) (st' := [.int v5, .ref 85, .int (M5 85 v3.toNatClampNeg), .ref 58]) (M' := M5) rfl ?_
        obtain ⟨hb8, H⟩ := H
        refine pu_iald rfl rfl (Or.inl (by decide)) hb8 ?_
        refine pu_callI (m' := 173) (ml := 3) (as := [.ref 58, .int (M5 85 v3.toNatClampNeg), .int (M5 85 v5.toNatClampNeg)]) (rest := []) rfl rfl rfl (Nat.le_of_ble_eq_true rfl) H (fun x10 M9 H => ?_)
        show pu_R L (d + 4) 238 104 [.ref 58, .int v1, .int v2, .int v3, .int v4, .int v5] [.int x10] M9 _
        refine pu_go 9 (pc' := 116) (ls' := [.ref 58, .int v1, .int v2, .int v3, .int v4, .int v5]) (st' := [.int (v2 &&& (((1 : Int32) <<< (v5 &&& 31)) ^^^ ((-1)))), .ref 86, .int x10]) (M' := M9) rfl ?_
        obtain ⟨hb11, H⟩ := H
        refine pu_iald rfl rfl (Or.inl (by decide)) hb11 ?_
        refine pu_go 8 (pc' := 127) (ls' := [.ref 58, .int v1, .int v2, .int v3, .int v4, .int v5]) (st' := [.int (v2 ||| ((1 : Int32) <<< (v3 &&& 31))), .ref 86, .int (x10 + (M9 86 (v2 &&& (((1 : Int32) <<< (v5 &&& 31)) ^^^ ((-1))) : Int32).toNatClampNeg))]) (M' := M9) rfl ?_
        obtain ⟨hb12, H⟩ := H
        refine pu_iald rfl rfl (Or.inl (by decide)) hb12 ?_
        refine pu_icmp_ne rfl (fun hc => ?_) (fun hc => ?_)
        · replace H := Eq.mp (if_neg hc) H
          refine pu_go 2 (pc' := 49) (ls' := [.ref 58, .int v1, .int v2, .int v3, .int v4, .int (v5 + (-1))]) (st' := []) (M' := M9) rfl ?_
          exact H
        · replace H := Eq.mp (if_pos hc) H
          refine pu_go 4 (pc' := 49) (ls' := [.ref 58, .int v1, .int v2, .int v3, .int v5, .int (v5 + (-1))]) (st' := []) (M' := M9) rfl ?_
          exact H
      · replace H := Eq.mp (if_neg hc) H
        refine pu_go 3 (pc' := 49) (ls' := [.ref 58, .int v1, .int v2, .int v3, .int v4, .int (v5 + (-1))]) (st' := []) (M' := M5) rfl ?_
        exact H
set_option maxRecDepth 20000 in
theorem r_m_isWith_11 {L d : Nat} {M : pu_M} {Q : Int32 → pu_M → Prop} {v1 : Int32} {v2 : Int32} {v3 : Int32} {v4 : Value} {v5 : Value} (H : (if (M 58 45) ≤ v3 then Q ((-2)) M else pu_I L (d + 3) 161 [.int v2, .int v3] M (fun x2 M1 => (if x2 = 0 then pu_R L (d + 4) 238 11 [.ref 58, .int v1, .int v2, .int (v3 + 1), v4, v5] [] M1 (pu_qI Q) else pu_R L (d + 4) 238 49 [.ref 58, .int v1, .int (v2 &&& (((1 : Int32) <<< (v3 &&& 31)) ^^^ ((-1)))), .int v3, .int ((-1)), .int ((M1 58 45) - 1)] [] M1 (pu_qI Q))))) : pu_R L (d + 4) 238 11 [.ref 58, .int v1, .int v2, .int v3, v4, v5] [] M (pu_qI Q) := by
  refine pu_go 3 (pc' := 16) (ls' := [.ref 58, .int v1, .int v2, .int v3, v4, v5]) (st' := [.int (M 58 45), .int v3]) (M' := M) rfl ?_
  refine pu_icmp_ge rfl (fun hc => ?_) (fun hc => ?_)
  · replace H := Eq.mp (if_pos hc) H
    refine pu_go 1 (pc' := 217) (ls' := [.ref 58, .int v1, .int v2, .int v3, v4, v5]) (st' := [.int ((-2))]) (M' := M) rfl ?_
    exact pu_ret rfl rfl ⟨_, rfl, H⟩
  · replace H := Eq.mp (if_neg hc) H
    refine pu_go 2 (pc' := 21) (ls' := [.ref 58, .int v1, .int v2, .int v3, v4, v5]) (st' := [.int v3, .int v2]) (M' := M) rfl ?_
    refine pu_callI (m' := 161) (ml := 2) (as := [.int v2, .int v3]) (rest := []) rfl rfl rfl (Nat.le_of_ble_eq_true rfl) H (fun x2 M1 H => ?_)
    show pu_R L (d + 4) 238 24 [.ref 58, .int v1, .int v2, .int v3, v4, v5] [.int x2] M1 _
    refine pu_if_ne rfl (fun hc => ?_) (fun hc => ?_)
    · replace H := Eq.mp (if_neg hc) H
      refine pu_go 15 (pc' := 49) (ls' := [.ref 58, .int v1, .int (v2 &&& (((1 : Int32) <<< (v3 &&& 31)) ^^^ ((-1)))), .int v3, .int ((-1)), .int ((M1 58 45) - 1)]) (st' := []) (M' := M1) rfl ?_
      exact H
    · replace H := Eq.mp (if_pos hc) H
      refine pu_go 3 (pc' := 11) (ls' := [.ref 58, .int v1, .int v2, .int (v3 + 1), v4, v5]) (st' := []) (M' := M1) rfl ?_
      exact H
set_option maxRecDepth 20000 in
theorem r_m_isWith {L d : Nat} {M : pu_M} {Q : Int32 → pu_M → Prop} {v1 : Int32} (H : pu_R L (d + 4) 238 11 [.ref 58, .int v1, .int (((1 : Int32) <<< ((M 58 45) &&& 31)) - 1), .int 0, mq_un, mq_un] [] M (pu_qI Q)) : pu_I L (d + 4) 238 [.ref 58, .int v1] M Q := by
  show pu_R L (d + 4) 238 0 [.ref 58, .int v1, mq_un, mq_un, mq_un, mq_un] [] M (pu_qI Q)
  refine pu_go 9 (pc' := 11) (ls' := [.ref 58, .int v1, .int (((1 : Int32) <<< ((M 58 45) &&& 31)) - 1), .int 0, mq_un, mq_un]) (st' := []) (M' := M) rfl ?_
  exact H
