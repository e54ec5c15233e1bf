/-! each call of the class beside its call of the model -/
def PR (L i j : Nat) (as bs : List Value) (P : Pp) (n : Nat) (tb : Nat → Nat) (F : Law) (m : Nat) (ws : Nat → Wi) (b : Bool) (K : Pp) (M : pu_M) : Prop :=
  ∃ x P' n' tb' F' m' ws' b' K', VI P' F' m' ws' b' K' ∧ (∀ Q : Int32 → pu_M → Prop, (∀ M', VC P' n' tb' F' m' ws' b' K' M' → (∀ k, 58 ≤ k → M' k = M k) → Q x M') → pu_I L 59 i as M Q) ∧ ∀ M1, VM P n tb F m ws b K M1 → ∀ Q : Int32 → pu_M → Prop, (∀ M', VM P' n' tb' F' m' ws' b' K' M' → (∀ k, (k < 58 ∨ 90 ≤ k) → M' k = M1 k) → Q x M') → pu_I L 59 j bs M1 Q
section PQ
variable {L : Nat} {M : pu_M} {P K : Pp} {n : Nat} {tb : Nat → Nat} {F : Law} {m : Nat} {ws : Nat → Wi} {b : Bool} {u v w a : Int32}
theorem p_7 (hc : VC P n tb F m ws b K M) (hi : VI P F m ws b K) : PR L 129 221 [.ref 0, .int u, .int v] [.ref 58, .int u, .int v] P n tb F m ws b K M := by
  have hc0 := hc
  obtain ⟨y, y2, l, l2, w, w2, hr, hd, cy, ct, cl, cw, ck⟩ := hc
  have hs := hr.is
  exact ⟨_, P, n, tb, F, m, ws, b, K, hi, fun Q H => c_x_personIs (d := 55) hd.1.1 hs.1 cy hi.1 (H M hc0 (fun _ _ => rfl)), fun M1 hm Q H => c_m_personIs (d := 54) hm.1 hi.1 (H M1 hm (fun _ _ => rfl))⟩
theorem p_8 (hc : VC P n tb F m ws b K M) (hi : VI P F m ws b K) : PR L 130 222 [.ref 0, .int u, .int v] [.ref 58, .int u, .int v] P n tb F m ws b K M := by
  have hc0 := hc
  obtain ⟨y, y2, l, l2, w, w2, hr, hd, cy, ct, cl, cw, ck⟩ := hc
  have hs := hr.is
  exact ⟨_, P, n, tb, F, m, ws, b, K, hi, fun Q H => c_x_talk (d := 56) hd.1.1 hs.1 cy hi.1 (H M hc0 (fun _ _ => rfl)), fun M1 hm Q H => c_m_talk (d := 55) hm.1 hi.1 (H M1 hm (fun _ _ => rfl))⟩
theorem p_9 (hc : VC P n tb F m ws b K M) (hi : VI P F m ws b K) : PR L 131 223 [.ref 0] [.ref 58] P n tb F m ws b K M := by
  have hc0 := hc
  obtain ⟨y, y2, l, l2, w, w2, hr, hd, cy, ct, cl, cw, ck⟩ := hc
  have hs := hr.is
  exact ⟨_, P, n, tb, F, m, ws, b, K, hi, fun Q H => c_x_yardTalk (d := 55) hd.1.1 hs.1 cy hi.1 (H M hc0 (fun _ _ => rfl)), fun M1 hm Q H => c_m_yardTalk (d := 55) hm.1 hi.1 (H M1 hm (fun _ _ => rfl))⟩
theorem p_10 (hc : VC P n tb F m ws b K M) (hi : VI P F m ws b K) : PR L 132 225 [.ref 0, .int u, .int v] [.ref 58, .int u, .int v] P n tb F m ws b K M := by
  have hc0 := hc
  obtain ⟨y, y2, l, l2, w, w2, hr, hd, cy, ct, cl, cw, ck⟩ := hc
  have hs := hr.is
  exact ⟨_, P, n, tb, F, m, ws, b, K, hi, fun Q H => c_x_best (d := 54) hd.1.1 hs.1 cy hi.1 (fun M' e => H M' (VC_e hc0 (fun k _ _ => e k (by omega))) (fun k _ => e k (by omega))), fun M1 hm Q H => c_m_best (d := 54) hm.1 hi.1 (H M1 hm (fun _ _ => rfl))⟩
theorem p_11 (hc : VC P n tb F m ws b K M) (hi : VI P F m ws b K) : PR L 133 226 [.ref 0, .int u] [.ref 58, .int u] P n tb F m ws b K M := by
  have hc0 := hc
  obtain ⟨y, y2, l, l2, w, w2, hr, hd, cy, ct, cl, cw, ck⟩ := hc
  have hs := hr.is
  exact ⟨_, P, n, tb, F, m, ws, b, K, hi, fun Q H => c_x_move (d := 54) hd.1.1 hs.1 cy hi.1 (fun M' e => H M' (VC_e hc0 (fun k _ _ => e k (by omega))) (fun k _ => e k (by omega))), fun M1 hm Q H => c_m_move (d := 54) hm.1 hi.1 (H M1 hm (fun _ _ => rfl))⟩
theorem p_12 (hc : VC P n tb F m ws b K M) (hi : VI P F m ws b K) : PR L 134 228 [.ref 0, .int u] [.ref 58, .int u] P n tb F m ws b K M := by
  have hc0 := hc
  obtain ⟨y, y2, l, l2, w, w2, hr, hd, cy, ct, cl, cw, ck⟩ := hc
  have hs := hr.is
  exact ⟨_, P, n, tb, F, m, ws, b, K, hi, fun Q H => c_x_change (d := 53) hd.1.1 hs.1 cy hi.1 (fun M' e => H M' (VC_e hc0 (fun k _ _ => e k (by omega))) (fun k _ => e k (by omega))), fun M1 hm Q H => c_m_change (d := 54) hm.1 hi.1 (H M1 hm (fun _ _ => rfl))⟩
theorem p_13 (hc : VC P n tb F m ws b K M) (hi : VI P F m ws b K) : PR L 135 231 [.ref 0, .int u] [.ref 58, .int u] P n tb F m ws b K M := by
  have hc0 := hc
  obtain ⟨y, y2, l, l2, w, w2, hr, hd, cy, ct, cl, cw, ck⟩ := hc
  have hs := hr.is
  exact ⟨_, P, n, tb, F, m, ws, b, K, hi, fun Q H => c_x_hold (d := 53) hd.1.1 hs.1 cy hi.1 hd.2.2.1.1 hs.2.2.2.2.1 hi.2.2.1 cw (H M hc0 (fun _ _ => rfl)), fun M1 hm Q H => c_m_hold (d := 53) hm.1 hi.1 hi.2.2.1 hm.2.2.2.1 (H M1 hm (fun _ _ => rfl))⟩
theorem p_14 (hc : VC P n tb F m ws b K M) (hi : VI P F m ws b K) : PR L 136 236 [.ref 0, .int u, .int v] [.ref 58, .int u, .int v] P n tb F m ws b K M := by
  have hc0 := hc
  obtain ⟨y, y2, l, l2, w, w2, hr, hd, cy, ct, cl, cw, ck⟩ := hc
  have hs := hr.is
  by_cases h0 : okRo u v
  · by_cases h1 : tlRo P u
    · refine ⟨v_row P ws m u.toNatClampNeg v, P, n, tb, F, m, ws, b, K, hi, fun Q H => c_x_row (d := 55) hd.1.1 hs.1 cy hi.1 hd.2.2.1.1 hs.2.2.2.2.1 hi.2.2.1 cw (fun z => absurd h0 z) (fun _ z => absurd h1 z) (fun _ _ M' o => ?_), fun M1 hm Q H => c_m_row (d := 54) hm.1 hi.1 hi.2.2.1 hm.2.2.2.1 (fun z => absurd h0 z) (fun _ z => absurd h1 z) (fun _ _ M' o => ?_)⟩
      · have e : ∀ k, ¬ (6 ≤ k ∧ k ≤ 12) → M' k = M k := o
        exact H M' (VC_e hc0 (fun k _ _ => e k (by omega))) (fun k _ => e k (by omega))
      · have e : ∀ k, ¬ (k = 58 ∨ k = 82 ∨ k = 83 ∨ k = 84) → M' k = M1 k := o.1
        exact H M' (VM_e hm (fun k _ => e k (by omega)) (fun j _ => o.2 j (by omega) (by omega))) (fun k _ => e k (by omega))
    · exact ⟨-2, P, n, tb, F, m, ws, b, K, hi, fun Q H => c_x_row (d := 55) hd.1.1 hs.1 cy hi.1 hd.2.2.1.1 hs.2.2.2.2.1 hi.2.2.1 cw (fun z => absurd h0 z) (fun _ _ => H M hc0 (fun _ _ => rfl)) (fun _ z => absurd z h1), fun M1 hm Q H => c_m_row (d := 54) hm.1 hi.1 hi.2.2.1 hm.2.2.2.1 (fun z => absurd h0 z) (fun _ _ => H M1 hm (fun _ _ => rfl)) (fun _ z => absurd z h1)⟩
  · exact ⟨-1000, P, n, tb, F, m, ws, b, K, hi, fun Q H => c_x_row (d := 55) hd.1.1 hs.1 cy hi.1 hd.2.2.1.1 hs.2.2.2.2.1 hi.2.2.1 cw (fun _ => H M hc0 (fun _ _ => rfl)) (fun z => absurd z h0) (fun z => absurd z h0), fun M1 hm Q H => c_m_row (d := 54) hm.1 hi.1 hi.2.2.1 hm.2.2.2.1 (fun _ => H M1 hm (fun _ _ => rfl)) (fun z => absurd z h0) (fun z => absurd z h0)⟩
theorem p_15 (hc : VC P n tb F m ws b K M) (hi : VI P F m ws b K) : PR L 137 239 [.ref 0, .int u, .int v] [.ref 58, .int u, .int v] P n tb F m ws b K M := by
  have hc0 := hc
  obtain ⟨y, y2, l, l2, w, w2, hr, hd, cy, ct, cl, cw, ck⟩ := hc
  have hs := hr.is
  by_cases h0 : okCo u v
  · by_cases h1 : amCo P u v
    · refine ⟨v_couples P u.toNatClampNeg v, P, n, tb, F, m, ws, b, K, hi, fun Q H => c_x_couples (d := 55) hd.1.1 hs.1 cy hi.1 (fun z => absurd h0 z) (fun _ z => absurd h1 z) (fun _ _ M' o => ?_), fun M1 hm Q H => c_m_couples (d := 54) hm.1 hi.1 (fun z => absurd h0 z) (fun _ z => absurd h1 z) (fun _ _ M' f o => ?_)⟩
      · have e : ∀ k, ¬ (6 ≤ k ∧ k ≤ 12) → M' k = M k := o
        exact H M' (VC_e hc0 (fun k _ _ => e k (by omega))) (fun k _ => e k (by omega))
      · have e : ∀ k, ¬ (k = 58 ∨ k = 85 ∨ k = 86) → M' k = M1 k := o
        exact H M' (VM_e hm (fun k _ => e k (by omega)) (fun j _ => f j (by unfold scF; omega))) (fun k _ => e k (by omega))
    · exact ⟨-3, P, n, tb, F, m, ws, b, K, hi, fun Q H => c_x_couples (d := 55) hd.1.1 hs.1 cy hi.1 (fun z => absurd h0 z) (fun _ _ => H M hc0 (fun _ _ => rfl)) (fun _ z => absurd z h1), fun M1 hm Q H => c_m_couples (d := 54) hm.1 hi.1 (fun z => absurd h0 z) (fun _ _ => H M1 hm (fun _ _ => rfl)) (fun _ z => absurd z h1)⟩
  · exact ⟨-1000, P, n, tb, F, m, ws, b, K, hi, fun Q H => c_x_couples (d := 55) hd.1.1 hs.1 cy hi.1 (fun _ => H M hc0 (fun _ _ => rfl)) (fun z => absurd z h0) (fun z => absurd z h0), fun M1 hm Q H => c_m_couples (d := 54) hm.1 hi.1 (fun _ => H M1 hm (fun _ _ => rfl)) (fun z => absurd z h0) (fun z => absurd z h0)⟩
theorem p_16 (hc : VC P n tb F m ws b K M) (hi : VI P F m ws b K) : PR L 138 241 [.ref 0, .int u, .int v] [.ref 58, .int u, .int v] P n tb F m ws b K M := by
  have hc0 := hc
  obtain ⟨y, y2, l, l2, w, w2, hr, hd, cy, ct, cl, cw, ck⟩ := hc
  have hs := hr.is
  exact ⟨_, P, n, tb, F, m, ws, b, K, hi, fun Q H => c_x_heard (d := 54) hd.1.1 hs.1 cy hi.1 (H M hc0 (fun _ _ => rfl)), fun M1 hm Q H => c_m_heard (d := 53) hm.1 hi.1 (H M1 hm (fun _ _ => rfl))⟩
theorem p_17 (hc : VC P n tb F m ws b K M) (hi : VI P F m ws b K) : PR L 139 243 [.ref 0, .int u] [.ref 58, .int u] P n tb F m ws b K M := by
  have hc0 := hc
  obtain ⟨y, y2, l, l2, w, w2, hr, hd, cy, ct, cl, cw, ck⟩ := hc
  have hs := hr.is
  exact ⟨_, P, n, tb, F, m, ws, b, K, hi, fun Q H => c_x_circles (d := 52) hd.1.1 hs.1 cy hi.1 (H M hc0 (fun _ _ => rfl)), fun M1 hm Q H => c_m_circles (d := 52) hm.1 hi.1 (H M1 hm (fun _ _ => rfl))⟩
theorem p_18 (hc : VC P n tb F m ws b K M) (hi : VI P F m ws b K) : PR L 140 244 [.ref 0, .int u, .int v] [.ref 58, .int u, .int v] P n tb F m ws b K M := by
  have hc0 := hc
  obtain ⟨y, y2, l, l2, w, w2, hr, hd, cy, ct, cl, cw, ck⟩ := hc
  have hs := hr.is
  exact ⟨_, P, n, tb, F, m, ws, b, K, hi, fun Q H => c_x_from (d := 54) hd.1.1 hs.1 cy hi.1 (H M hc0 (fun _ _ => rfl)), fun M1 hm Q H => c_m_from (d := 52) hm.1 hi.1 (H M1 hm (fun _ _ => rfl))⟩
theorem p_20 (hc : VC P n tb F m ws b K M) (hi : VI P F m ws b K) : PR L 142 247 [.ref 0, .int u, .int v] [.ref 58, .int u, .int v] P n tb F m ws b K M := by
  have hc0 := hc
  obtain ⟨y, y2, l, l2, w, w2, hr, hd, cy, ct, cl, cw, ck⟩ := hc
  have hs := hr.is
  exact ⟨_, P, n, tb, F, m, ws, b, K, hi, fun Q H => c_x_good (d := 54) hd.1.1 hs.1 cy hi.1 (fun M' e => H M' (VC_e hc0 (fun k _ _ => e k (by omega))) (fun k _ => e k (by omega))), fun M1 hm Q H => c_m_good (d := 54) hm.1 hi.1 (H M1 hm (fun _ _ => rfl))⟩
theorem p_wk {M1 M' : pu_M} (hm : VM P n tb F m ws b K M1) (o : only wkS M1 M') : VM P n tb F m ws b K M' ∧ ∀ k, (k < 58 ∨ 90 ≤ k) → M' k = M1 k := by
  have e : ∀ k, ¬ (k = 88 ∨ k = 89) → M' k = M1 k := o
  exact ⟨VM_e hm (fun k _ => e k (by omega)) (fun j _ => by rw [e 58 (by omega)]), fun k _ => e k (by omega)⟩
theorem p_21 (hc : VC P n tb F m ws b K M) (hi : VI P F m ws b K) : PR L 143 250 [.ref 0, .int u] [.ref 58, .int u] P n tb F m ws b K M := by
  have hc0 := hc
  obtain ⟨y, y2, l, l2, w, w2, hr, hd, cy, ct, cl, cw, ck⟩ := hc
  have hs := hr.is
  exact ⟨_, P, n, tb, F, m, ws, b, K, hi, fun Q H => c_x_silent (d := 55) hd.1.1 hs.1 cy (H M hc0 (fun _ _ => rfl)), fun M1 hm Q H => c_m_silent (d := 53) hm.1 hi.1 (fun M' o => H M' (p_wk hm o).1 (p_wk hm o).2)⟩
theorem p_22 (hc : VC P n tb F m ws b K M) (hi : VI P F m ws b K) : PR L 144 252 [.ref 0, .int u] [.ref 58, .int u] P n tb F m ws b K M := by
  have hc0 := hc
  obtain ⟨y, y2, l, l2, w, w2, hr, hd, cy, ct, cl, cw, ck⟩ := hc
  have hs := hr.is
  exact ⟨_, P, n, tb, F, m, ws, b, K, hi, fun Q H => c_x_visit (d := 55) hd.1.1 hs.1 cy hi.1 (H M hc0 (fun _ _ => rfl)), fun M1 hm Q H => c_m_visit (d := 54) hm.1 hi.1 (fun M' o => H M' (p_wk hm o).1 (p_wk hm o).2)⟩
theorem p_23 (hc : VC P n tb F m ws b K M) (hi : VI P F m ws b K) : PR L 145 253 [.ref 0] [.ref 58] P n tb F m ws b K M := by
  have hc0 := hc
  obtain ⟨y, y2, l, l2, w, w2, hr, hd, cy, ct, cl, cw, ck⟩ := hc
  have hs := hr.is
  exact ⟨_, P, n, tb, F, m, ws, b, K, hi, fun Q H => c_x_visited (d := 55) hd.1.1 hs.1 cy hi.1 (H M hc0 (fun _ _ => rfl)), fun M1 hm Q H => c_m_visited (d := 54) hm.1 hi.1 (fun M' o => H M' (p_wk hm o).1 (p_wk hm o).2)⟩
theorem p_24 (hc : VC P n tb F m ws b K M) (hi : VI P F m ws b K) : PR L 146 254 [.ref 0, .int u, .int v] [.ref 58, .int u, .int v] P n tb F m ws b K M := by
  have hc0 := hc
  obtain ⟨y, y2, l, l2, w, w2, hr, hd, cy, ct, cl, cw, ck⟩ := hc
  have hs := hr.is
  exact ⟨_, P, n, tb, F, m, ws, b, K, hi, fun Q H => c_x_alike (d := 56) hd.1.1 hs.1 cy hi.1 (H M hc0 (fun _ _ => rfl)), fun M1 hm Q H => c_m_alike (d := 56) hm.1 hi.1 (H M1 hm (fun _ _ => rfl))⟩
theorem p_29 (hc : VC P n tb F m ws b K M) (hi : VI P F m ws b K) : PR L 151 259 [.ref 0, .int u] [.ref 58, .int u] P n tb F m ws b K M := by
  have hc0 := hc
  obtain ⟨y, y2, l, l2, w, w2, hr, hd, cy, ct, cl, cw, ck⟩ := hc
  have hs := hr.is
  exact ⟨_, P, n, tb, F, m, ws, b, K, hi, fun Q H => c_x_count (d := 55) hd.1.1 hs.1 cy hi.1 hd.2.1.1 hs.2.2.1 cl.1.1 hd.2.2.1.1 hs.2.2.2.2.1 cw.1 ct.2.1 (H M hc0 (fun _ _ => rfl)), fun M1 hm Q H => c_m_count (d := 55) hm.1 hi.1 hm.2.2.1.1 hm.2.2.2.1.1 hm.2.1.2.1 (H M1 hm (fun _ _ => rfl))⟩
end PQ
