/-! the claim of a run holds at every fuel -/
section MQ4
variable {p : Program} {l : Launch} {e : Env} {R : Room} {s : State} {mm : MethodId} {args : Array Value} {below : List Frame} {meth : Method} {c : Code} {H : Heap} {locs : List Loc} {cells slots : Nat} {Q : State → Prop}
variable {D : va_G} {cI cB : ClassId} {base b L : Nat} {xs : Nat → Int32}
theorem mq_ST.go {U : State} (hT : mq_ST D cI cB base b L xs s) (hS : va_S (fun q : Nat => base ≤ q) s.heap H locs) (hU : U.heap = H) (hW : s.WarmedH U.vm) : mq_ST D cI cB base b L xs U := by
  obtain ⟨h1, h2, h3, h4, h5⟩ := hT
  refine ⟨va_K.moved hW.alike h1, fun r hr => va_Nw.warmM hW (h2 r hr), ?_, h4, ?_⟩
  · rw [hU]
    exact va_X.moved hW.alike (h3.kept (hS.2.1 b (Nat.lt_of_lt_of_le h4 h5) (Nat.not_le.mpr h4)))
  · rw [hU]
    exact Nat.le_trans h5 hS.1
theorem mq_blind (D : va_G) (cI cB : ClassId) (base b L : Nat) (xs : Nat → Int32) (avs : List Value) (h : mq_H) : FrameBlind (mq_Pc D cI cB base b L xs avs h) := by
  intro a U g mk q
  obtain ⟨q0, q1, k1, k2, k3, k4, k5⟩ := q
  exact ⟨q0, q1, va_K.moved (u := U) (U := U.calling g mk a) (Vm.Alike.refl U.vm) k1, fun r hr => va_Nw.same rfl (u := U) (U := U.calling g mk a) rfl (k2 r hr), va_X.moved (u := U) (U := U.calling g mk a) (Vm.Alike.refl U.vm) k3, k4, k5⟩
theorem mq_callW {pc mc ms : Nat} {LS : Array Slot} {st0 rest : List Value} {a : Array Value} {r1 : Option Value} {h1 : mq_H} (hr : va_Run p l e R s mm args below meth c H locs cells slots mc ms (F0 mm pc LS st0) rest (mq_Qc D cI cB base b L xs r1 h1 a) (fun q : Nat => base ≤ q)) (hS : va_S (fun q : Nat => base ≤ q) s.heap H locs)
    (kk : ∀ (H1 : Heap) (locs1 : List Loc), mq_IV D cI cB base b L xs h1 H1 → va_S (fun q : Nat => base ≤ q) s.heap H1 locs1 → W p l e R s mm args below meth c H1 locs1 (cells + mc) (slots + ms) Q (F0 mm (pc + 3) LS ((r1.map (mq_cv base b)).toList ++ rest))) : W p l e R s mm args below meth c H locs cells slots Q (F0 mm pc LS st0) := by
  intro T hT X
  obtain ⟨v, st₀, t, T', L9, h0, X', hL, e1, e2, ⟨hv, hb, hz, hk⟩, st⟩ := hr T hT X
  cases hv
  rw [h0] at hz hk
  obtain ⟨t2, a1, b1⟩ := kk T'.heap (locs ++ L9) (by rw [e1]; exact hb)
    ⟨Nat.le_trans hS.1 (by rw [e1]; exact hz), fun q h1 h2 => by rw [e1, hk q (Nat.lt_of_lt_of_le h1 hS.1) h2]; exact hS.2.1 q h1 h2, fun q hq => by
      rcases List.mem_append.mp hq with h | h
      · exact hS.2.2 q h
      · exact hL q h⟩ T' rfl X'
  exact ⟨t2, st t2 a1, b1⟩
end MQ4
theorem mq_core : ∀ f : Nat, mq_CoreAt f := by
  intro f
  induction f with
  | zero => intro d m pc ls st h h' r e9; cases e9
  | succ f ih =>
    intro d m pc ls st h h' r e9 hm p l e R s mm args below meth c H locs cells slots Q D cI cB base b L xs LS C0 hT hI hS hL hEq hcc hcs kret
    unfold mq_run at e9
    split at e9
    · cases e9
    next q hq =>
      have hok := mq_fine_all m hm pc q hq
      split at e9
      · cases e9
      next pc' ls' st' h1 hs =>
        have a := mq_step_mono hs
        have b9 := mq_run_mono f e9
        have z1 : cells + (h1.2.1 - h.2.1) + (h'.2.1 - h1.2.1) = cells + (h'.2.1 - h.2.1) := by omega
        have z2 : slots + (h1.2.2 - h.2.2) + (h'.2.2 - h1.2.2) = slots + (h'.2.2 - h.2.2) := by omega
        refine mq_stepW C0 hok hs hT hI hS hL hEq (by omega) (by omega) (fun LS' H' locs' a1 a2 a3 => ?_)
        refine ih e9 hm C0 hT a2 a3 a1 (by omega) (by omega) (by omega) ?_
        intro pc LS H' locs' i k1 k2 k3 k4
        rw [z1, z2]
        exact kret pc LS H' locs' i k1 k2 k3 k4
      next r9 hs =>
        cases e9
        obtain ⟨i, npc, t, v⟩ := q
        obtain ⟨rfl, hdg, hret⟩ := mq_ret_inv hok hs
        have k9 := kret pc LS H locs i hdg hret hI hS
        rw [Nat.sub_self, Nat.sub_self, Nat.add_zero, Nat.add_zero] at k9
        exact k9
      next m' as rest ml hs =>
        split at e9
        · cases e9
        next d =>
          split at e9
          next hcat =>
            split at e9
            · cases e9
            next r1 h1 hr1 =>
              have a := mq_run_mono f hr1
              have b9 := mq_run_mono f e9
              have z1 : cells + (h1.2.1 - h.2.1) + (h'.2.1 - h1.2.1) = cells + (h'.2.1 - h.2.1) := by omega
              have z2 : slots + (h1.2.2 - h.2.2) + (h'.2.2 - h1.2.2) = slots + (h'.2.2 - h.2.2) := by omega
              have hfit : cells + (h1.2.1 - h.2.1) ≤ R.cells ∧ slots + (h1.2.2 - h.2.2) ≤ R.slots := by omega
              have hEq1 : s.heap.size + (cells + (h1.2.1 - h.2.1)) = base + h1.2.1 := by omega
              have hq1 : cells + (h1.2.1 - h.2.1) + (h'.2.1 - h1.2.1) ≤ R.cells := by omega
              have hq2 : slots + (h1.2.2 - h.2.2) + (h'.2.2 - h1.2.2) ≤ R.slots := by omega
              obtain ⟨i, npc, t, v⟩ := q
              obtain ⟨hm', hml', rfl, h8, hnpc, hcase⟩ := mq_call_inv hok hs
              subst hml'
              dsimp only at e9
              subst hnpc
              have hM := mq_met ih hr1 hm' hcat l D cI cB base b L xs
              obtain ⟨hx, hb, hml, hown, hts, hin, hdf, hdl⟩ := id C0
              obtain ⟨w1, w2, w3⟩ := mq_m_ok m' hm'
              obtain ⟨s1, s2, s3⟩ := mq_ms_ok m' hm'
              obtain ⟨n1, n2, n3, n4⟩ := mq_sm_ok m' hm'
              have hini := hts _ (mq_wd_tb w1 rfl)
              have hR : (mq_rm d (h1.2.1 - h.2.1) (h1.2.2 - h.2.2)).frames + 1 ≤ R.frames ∧ 8 + (mq_ml m' + 11) + (mq_rm d (h1.2.1 - h.2.1) (h1.2.2 - h.2.2)).locals ≤ R.locals := ⟨hdf, by show 8 + (mq_ml m' + 11) + 64 * d ≤ _; omega⟩
              have hW8 : 2 * (F0 mm pc LS ((as.reverse ++ rest).map (mq_cv base b))).monitorRoom + ((rest.map (mq_cv base b)).map fun v => v.category).sum ≤ 8 := by
                show 2 * 0 + _ ≤ 8
                rw [mq_cat_map]
                omega
              have hpre : ∀ U : State, U.heap = H → s.WarmedH U.vm → mq_Pc D cI cB base b L xs as h (as.map (mq_cv base b)).toArray U := fun U hU hW => ⟨rfl, by rw [hU]; exact hI, hT.go hS hU hW⟩
              have kk : ∀ (H1 : Heap) (locs1 : List Loc), mq_IV D cI cB base b L xs h1 H1 → va_S (fun q : Nat => base ≤ q) s.heap H1 locs1 → W p l e R s mm args below meth c H1 locs1 (cells + (h1.2.1 - h.2.1)) (slots + (h1.2.2 - h.2.2)) Q (F0 mm (pc + 3) LS ((r1.map (mq_cv base b)).toList ++ rest.map (mq_cv base b))) := by
                intro H1 locs1 a2 a3
                have := ih e9 hm (Q := Q) C0 hT a2 a3 hL (cells := cells + (h1.2.1 - h.2.1)) (slots := slots + (h1.2.2 - h.2.2)) hEq1 hq1 hq2 (fun pc LS H' locs' i k1 k2 k3 k4 => by rw [z1, z2]; exact kret pc LS H' locs' i k1 k2 k3 k4)
                rw [List.map_append] at this
                cases r1 <;> exact this
              rcases hcase with ⟨x, hdg, hkd, hlen, hl⟩ | ⟨x, k, as', hdg, hkd, rfl, hlen, hl⟩ | ⟨x, k, as', fs, hdg, hkd, rfl, hlen, hl, hobj⟩
              · have hst := hts _ (mq_wd_tb (s1 hkd) rfl)
                rcases hl with hl | hl
                · refine mq_callW (va_runS (As := as.map (mq_cv base b)) (rest := rest.map (mq_cv base b)) ⟨hx, hb, hml, hown, hts⟩ hM ⟨callB_of (mq_np m') hts (mq_ws_good m' hm') rfl rfl rfl hini (hts _ (mq_hasM_inv hl)) w3 hR, hst⟩ ⟨mq_blind _ _ _ _ _ _ _ _ _, hpre⟩ rfl (by rw [List.length_map]; exact hlen) hL.1 (by show (as.reverse ++ rest).map _ = _; rw [List.map_append, List.map_reverse]) hW8 hdg hfit) hS kk
                · obtain ⟨r9, hr9, e1, e2, e3⟩ := mq_hasN_inv hl
                  have hnw := hT.2.1 r9 hr9
                  rw [e1, e2, e3] at hnw
                  refine mq_callW (va_runSN (As := as.map (mq_cv base b)) (rest := rest.map (mq_cv base b)) ⟨hx, hb, hml, hown, hts⟩ hM ⟨va_cnB (mq_np m') hts (mq_ws_good m' hm') rfl rfl rfl hnw hini w3 hR, hst, trivial⟩ ⟨mq_blind _ _ _ _ _ _ _ _ _, hpre⟩ rfl (by rw [List.length_map]; exact hlen) hL.1 (by show (as.reverse ++ rest).map _ = _; rw [List.map_append, List.map_reverse]) hW8 hdg hfit) hS kk
              · obtain ⟨s4, s5, s6⟩ := s2 hkd
                have hst := hts _ (mq_wd_tb s5 rfl)
                have hws : mq_ws m' = Cond.code (mq_y m') (mq_b m') (mq_ml m') none :: mq_tb := by unfold mq_ws; rw [s6]
                have hr' : ∃ y, mq_cv base b (.ref k) = .ref y := by simp only [mq_cv]; split <;> exact ⟨_, rfl⟩
                obtain ⟨y, hy⟩ := hr'
                have hpre' : ∀ U : State, U.heap = H → s.WarmedH U.vm → mq_Pc D cI cB base b L xs (.ref k :: as') h (.ref y :: as'.map (mq_cv base b)).toArray U := by
                  intro U hU hW
                  have := hpre U hU hW
                  rw [List.map_cons, hy] at this
                  exact this
                have hstk : (((Value.ref k :: as').reverse ++ rest).map (mq_cv base b)) = (as'.map (mq_cv base b)).reverse ++ .ref y :: rest.map (mq_cv base b) := by
                  simp [hy]
                rcases hl with hl | hl
                · refine mq_callW (va_runI (b := y) (As := as'.map (mq_cv base b)) (rest := rest.map (mq_cv base b)) ⟨hx, hb, hml, hown, hts⟩ hM ⟨callB_of (mq_np m') hts (mq_ws_good m' hm') hws rfl rfl hini (hts _ (mq_hasM_inv hl)) w3 hR, s4, hst⟩ ⟨mq_blind _ _ _ _ _ _ _ _ _, hpre'⟩ rfl (by rw [List.length_map]; exact hlen) hL.1 hstk hW8 hdg hfit) hS kk
                · obtain ⟨r9, hr9, e1, e2, e3⟩ := mq_hasN_inv hl
                  have hnw := hT.2.1 r9 hr9
                  rw [e1, e2, e3] at hnw
                  refine mq_callW (va_runIN (b := y) (As := as'.map (mq_cv base b)) (rest := rest.map (mq_cv base b)) ⟨hx, hb, hml, hown, hts⟩ hM ⟨va_cnB (mq_np m') hts (mq_ws_good m' hm') hws rfl rfl hnw hini w3 hR, s4, hst⟩ ⟨mq_blind _ _ _ _ _ _ _ _ _, hpre'⟩ rfl (by rw [List.length_map]; exact hlen) hL.1 hstk hW8 hdg hfit) hS kk
              · obtain ⟨s4, s5⟩ := s3 hkd
                have hst := hts _ (mq_wd_tb s4 rfl)
                have hsl := hts _ (mq_wd_tb s5 rfl)
                obtain ⟨hk, hcell⟩ := mq_obj_inv hobj
                have hne := Nat.ne_of_lt (Nat.lt_trans hk hI.2.2.1)
                have hg := mq_wl_get (cI := cI) (cB := cB) (base := base) (b := b) hk
                rw [hcell] at hg
                have hpre' : ∀ U : State, U.heap = H → s.WarmedH U.vm → mq_Pc D cI cB base b L xs (.ref k :: as') h (.ref (base + k) :: as'.map (mq_cv base b)).toArray U := by
                  intro U hU hW
                  have := hpre U hU hW
                  rw [List.map_cons, mq_cv_ref hne] at this
                  exact this
                have hstk : (((Value.ref k :: as').reverse ++ rest).map (mq_cv base b)) = (as'.map (mq_cv base b)).reverse ++ .ref (base + k) :: rest.map (mq_cv base b) := by
                  simp [mq_cv_ref hne]
                have hrec : ∃ cellB : Cell, H[base + k]? = some cellB ∧ cellB.vm.isStatics = false ∧ s.vm.findClass (mq_y m').cls = some cellB.cls := va_recv hT.1 hI.2.1 (mq_kl_at _ (n4 hkd).1 (n4 hkd).2) hg
                refine mq_callW (va_runV (C := (mq_y m').cls) (b := base + k) (As := as'.map (mq_cv base b)) (rest := rest.map (mq_cv base b)) ⟨hx, hb, hml, hown, hts⟩ hM ⟨callB_of (mq_np m') hts (mq_ws_good m' hm') rfl rfl rfl hini (hts _ (mq_hasM_inv hl)) w3 hR, hst, hsl⟩ ⟨mq_blind _ _ _ _ _ _ _ _ _, hrec, hpre'⟩ rfl (by rw [List.length_map]; exact hlen) hL.1 hstk hW8 hdg hfit) hS kk
          next => cases e9
