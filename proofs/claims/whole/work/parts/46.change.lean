/-! how much is said in the yard; the best exchange -/
def isum (f : Nat → Int) : Nat → Int
  | 0 => 0
  | n + 1 => isum f n + f n
theorem isum_add {f g : Nat → Int} : ∀ n, isum (fun k => f k + g k) n = isum f n + isum g n
  | 0 => rfl
  | n + 1 => by simp only [isum]; rw [isum_add n]; omega
theorem isum_eq {f g : Nat → Int} : ∀ {n : Nat}, (∀ k, k < n → f k = g k) → isum f n = isum g n
  | 0, _ => rfl
  | n + 1, h => by simp only [isum]; rw [isum_eq (fun k hk => h k (by omega)), h n (by omega)]
theorem isum_bd {f : Nat → Int} {c : Nat} : ∀ {n : Nat}, (∀ k, k < n → -(c : Int) ≤ f k ∧ f k ≤ c) → -((n * c : Nat) : Int) ≤ isum f n ∧ isum f n ≤ ((n * c : Nat) : Int)
  | 0, _ => by simp [isum]
  | n + 1, h => by
    obtain ⟨h1, h2⟩ := isum_bd (n := n) (fun k hk => h k (by omega))
    obtain ⟨h3, h4⟩ := h n (by omega)
    simp only [isum]
    rw [Nat.succ_mul]
    omega
theorem isum_s (f : Nat → Int) (n : Nat) : isum f (n + 1) = isum f n + f n := rfl
theorem isum_0 : ∀ n, isum (fun _ => 0) n = 0
  | 0 => rfl
  | n + 1 => by simp only [isum, isum_0 n]; rfl
theorem isum_1 {f : Nat → Int} {p : Nat} : ∀ {n : Nat}, p < n → isum f n = f p + isum (fun k => if k = p then 0 else f k) n
  | 0, h => by omega
  | n + 1, h => by
    simp only [isum]
    by_cases e : n = p
    · subst e
      rw [if_pos rfl, isum_eq (f := fun k => if k = n then 0 else f k) (g := f) (fun k hk => if_neg (by omega))]
      omega
    · rw [if_neg e, isum_1 (f := f) (p := p) (n := n) (by omega)]
      omega
/-- f off p and q -/
def mk2 (p q : Nat) (f : Nat → Int) (k : Nat) : Int := if k = p ∨ k = q then 0 else f k
theorem isum_2 {f : Nat → Int} {p q n : Nat} (hp : p < n) (hq : q < n) (hpq : p ≠ q) : isum f n = f p + f q + isum (mk2 p q f) n := by
  rw [isum_1 hp, isum_1 (f := fun k => if k = p then 0 else f k) hq, if_neg (Ne.symm hpq)]
  rw [isum_eq (g := mk2 p q f) (fun k _ => ?_)]
  · omega
  · unfold mk2
    by_cases h1 : k = p <;> by_cases h2 : k = q <;> simp [h1, h2]
theorem isum_twice {E : Nat → Nat → Int} (hs : ∀ a b, E a b = E b a) (h0 : ∀ a, E a a = 0) : ∀ n, isum (fun p => isum (E p) n) n = 2 * isum (fun p => isum (E p) p) n
  | 0 => rfl
  | n + 1 => by
    have ih := isum_twice hs h0 n
    simp only [isum]
    rw [isum_add, ih, h0 n, isum_eq (f := fun k => E k n) (g := E n) (fun k _ => hs k n)]
    omega
theorem isum_mk2 {E : Nat → Nat → Int} (hs : ∀ a b, E a b = E b a) (h0 : ∀ a, E a a = 0) {p q n : Nat} (hp : p < n) (hq : q < n) (hpq : p ≠ q) : isum (fun a => isum (E a) n) n = 2 * E p q + 2 * isum (mk2 p q (E p)) n + 2 * isum (mk2 p q (E q)) n + isum (mk2 p q (fun a => isum (mk2 p q (E a)) n)) n := by
  have key : isum (mk2 p q (fun a => isum (E a) n)) n = isum (mk2 p q (E p)) n + isum (mk2 p q (E q)) n + isum (mk2 p q (fun a => isum (mk2 p q (E a)) n)) n := by
    rw [← isum_add, ← isum_add]
    refine isum_eq (fun k hk => ?_)
    unfold mk2
    by_cases h : k = p ∨ k = q
    · simp only [if_pos h]; rfl
    · simp only [if_neg h]
      rw [isum_2 hp hq hpq, hs k p, hs k q]
      rfl
  rw [isum_2 (f := fun a => isum (E a) n) hp hq hpq, key, isum_2 (f := E p) hp hq hpq, isum_2 (f := E q) hp hq hpq, h0 p, h0 q, hs q p]
  omega
theorem nx_sy (a b : Nat) : nx a b = nx b a := by
  have h : ∀ x z : Nat, ad x z = ad z x := by
    intro x z; unfold ad
    split <;> split <;> omega
  unfold nx
  rw [h (a % 10), h (a / 10)]
theorem nx_self (a : Nat) : nx a a = false := by
  unfold nx ad
  simp
theorem tk_sy (P : Pp) (p q : Nat) : tk P p q = tk P q p := by
  unfold tk
  rw [Nat.and_comm, Nat.xor_comm]
theorem bsd_sy (P : Pp) (p q : Nat) : bsd P p q = bsd P q p := by
  unfold bsd
  cases pl P p <;> cases pl P q <;> try rfl
  exact nx_sy _ _
theorem bsd_self (P : Pp) (p : Nat) : bsd P p p = false := by
  unfold bsd
  cases pl P p with
  | none => rfl
  | some a => exact nx_self a
def tkZ (P : Pp) (p q : Nat) : Int := (tk P p q).toInt
def eb (P : Pp) (p q : Nat) : Int := if bsd P p q = true then tkZ P p q else 0
theorem eb_sy (P : Pp) (a b : Nat) : eb P a b = eb P b a := by unfold eb tkZ; rw [bsd_sy, tk_sy]
theorem eb_0 (P : Pp) (a : Nat) : eb P a a = 0 := by unfold eb; rw [bsd_self]; rfl
def yt (P : Pp) : Int := isum (fun p => isum (eb P p) p) 16
theorem yt2 (P : Pp) : isum (fun p => isum (eb P p) 16) 16 = 2 * yt P := isum_twice (eb_sy P) (eb_0 P) 16
theorem eb_bd (P : Pp) (p q : Nat) : -((64 : Nat) : Int) ≤ eb P p q ∧ eb P p q ≤ ((64 : Nat) : Int) := by
  unfold eb
  split
  · exact sm_tk P p q
  · omega
theorem yt_bd (P : Pp) : -32768 ≤ yt P ∧ yt P ≤ 32768 := by
  have h1 : ∀ p, p < 16 → -((1024 : Nat) : Int) ≤ isum (eb P p) 16 ∧ isum (eb P p) 16 ≤ ((1024 : Nat) : Int) := fun p _ => isum_bd (n := 16) (c := 64) (fun k _ => eb_bd P p k)
  have h2 := isum_bd (n := 16) (c := 1024) h1
  rw [yt2] at h2
  omega
theorem ofI_tk (P : Pp) (p q : Nat) : tk P p q = Int32.ofInt (tkZ P p q) := by unfold tkZ; rw [Int32.ofInt_toInt]
theorem tas_Z (P : Pp) (p w l0 : Nat) : tas P p w l0 = Int32.ofInt (isum (fun q => if (nbr P w q && (!decide (q = p) && !l0.testBit q)) = true then tkZ P p q else 0) 16) := by
  unfold tas
  have key : ∀ n, fo (fun q a => if (nbr P w q && (!decide (q = p) && !l0.testBit q)) = true then a + tk P p q else a) n 0 = Int32.ofInt (isum (fun q => if (nbr P w q && (!decide (q = p) && !l0.testBit q)) = true then tkZ P p q else 0) n) := by
    intro n
    induction n with
    | zero => rfl
    | succ n ih =>
      simp only [fo, isum]
      rw [ih, Int32.ofInt_add]
      by_cases h : (nbr P w n && (!decide (n = p) && !l0.testBit n)) = true
      · rw [if_pos h, if_pos h, ofI_tk]
      · rw [if_neg h, if_neg h]; simp
  exact key 16
theorem tas_E {P : Pp} {p w : Nat} (h : pl P p = some w) : tas P p w 0 = Int32.ofInt (isum (eb P p) 16) := by
  rw [tas_Z]
  congr 1
  refine isum_eq (fun q _ => ?_)
  unfold eb
  rw [bsd_nbr h]
  by_cases e : q = p
  · subst e
    have : nbr P w q = false := by rw [← bsd_nbr h, bsd_self]
    simp [this]
  · simp [e]
def s_yardTalk (P : Pp) : Int32 := Int32.ofInt (yt P)
theorem half_ofI {z : Int} (h1 : -32768 ≤ z) (h2 : z ≤ 32768) : Int32.ofInt (2 * z) / 2 = Int32.ofInt z := by
  apply Int32.toInt_inj.mp
  have e1 : (Int32.ofInt (2 * z)).toInt = 2 * z := by rw [Int32.toInt_ofInt]; exact mq_bmod (by omega) (by omega)
  have e2 : (Int32.ofInt z).toInt = z := by rw [Int32.toInt_ofInt]; exact mq_bmod (by omega) (by omega)
  have e3 : (2 : Int32).toInt = 2 := rfl
  rw [Int32.toInt_div, e1, e2, e3, Int.mul_tdiv_cancel_left _ (by decide)]
  exact mq_bmod (by omega) (by omega)
/-- p and q exchanged -/
def sw (p q r : Nat) : Nat := if r = p then q else if r = q then p else r
def swp (P : Pp) (p q : Nat) : Pp := (tl P, tp P, md P, fun r => pl P (sw p q r), nt P, lo P)
theorem sw_lt {p q r : Nat} (hp : p < 16) (hq : q < 16) (hr : r < 16) : sw p q r < 16 := by unfold sw; split; exact hq; split; exact hp; exact hr
theorem sw_inj {p q a b : Nat} (h : sw p q a = sw p q b) : a = b := by
  unfold sw at h
  split at h <;> split at h <;> (try split at h) <;> (try split at h) <;> omega
theorem PI_swp {P : Pp} (hI : PI P) {p q : Nat} (hp : p < 16) (hq : q < 16) (tp' : tl P p = true) (tq : tl P q = true) : PI (swp P p q) := by
  obtain ⟨h1, h2, h3⟩ := hI
  refine ⟨fun r hr => ⟨(h1 r hr).1, (h1 r hr).2.1, fun w hw => ?_⟩, fun a b w ha hb e1 e2 => ?_, h3⟩
  · have hw' : pl P (sw p q r) = some w := hw
    refine ⟨((h1 _ (sw_lt hp hq hr)).2.2 w hw').1, ?_⟩
    show tl P r = true
    by_cases x : r = p
    · rw [x]; exact tp'
    · by_cases z : r = q
      · rw [z]; exact tq
      · have : sw p q r = r := by unfold sw; rw [if_neg x, if_neg z]
        rw [this] at hw'
        exact ((h1 r hr).2.2 w hw').2
  · exact sw_inj (h2 _ _ w (sw_lt hp hq ha) (sw_lt hp hq hb) e1 e2)
/-- what an exchange of p at a and q at b brings -/
def gnI (P : Pp) (p q a b : Nat) : Int32 := (tas P p b (2 ^ q) + tas P q a (2 ^ p)) - (tas P p a (2 ^ q) + tas P q b (2 ^ p))
theorem tas_mk {P R : Pp} {p q o w l0 : Nat} (hpq : (p = o ∧ q = l0) ∨ (p = l0 ∧ q = o)) (ht : tp R = tp P) (h : pl R o = some w) (hx : ∀ k, k ≠ p → k ≠ q → pl R k = pl P k) : tas P o w (2 ^ l0) = Int32.ofInt (isum (mk2 p q (eb R o)) 16) := by
  rw [tas_Z]
  congr 1
  refine isum_eq (fun k _ => ?_)
  unfold mk2 eb
  rw [Nat.testBit_two_pow]
  by_cases e : k = p ∨ k = q
  · rw [if_pos e, if_neg]
    simp only [Bool.and_eq_true, Bool.not_eq_true', decide_eq_false_iff_not]
    omega
  · rw [if_neg e, bsd_nbr h]
    have hk : pl R k = pl P k := hx k (fun z => e (Or.inl z)) (fun z => e (Or.inr z))
    have hn : nbr R w k = nbr P w k := by unfold nbr; rw [hk]
    have ht' : tkZ R o k = tkZ P o k := by unfold tkZ tk; rw [ht]
    have e1 : decide (k = o) = false := by simp; omega
    have e2 : decide (l0 = k) = false := by simp; omega
    rw [hn, ht', e1, e2]
    simp
theorem gn_eq {P : Pp} {p q a b : Nat} (hp : p < 16) (hq : q < 16) (hpq : p ≠ q) (ha : pl P p = some a) (hb : pl P q = some b) : gnI P p q a b = s_yardTalk (swp P p q) - s_yardTalk P := by
  have e1 : sw p q p = q := by unfold sw; rw [if_pos rfl]
  have e2 : sw p q q = p := by unfold sw; rw [if_neg (Ne.symm hpq), if_pos rfl]
  have r1 : pl (swp P p q) p = some b := by show pl P (sw p q p) = _; rw [e1]; exact hb
  have r2 : pl (swp P p q) q = some a := by show pl P (sw p q q) = _; rw [e2]; exact ha
  have rx : ∀ k, k ≠ p → k ≠ q → pl (swp P p q) k = pl P k := fun k h1 h2 => by
    show pl P (sw p q k) = _
    unfold sw; rw [if_neg h1, if_neg h2]
  unfold gnI s_yardTalk
  rw [tas_mk (P := P) (R := swp P p q) (p := p) (q := q) (Or.inl ⟨rfl, rfl⟩) rfl r1 rx, tas_mk (P := P) (R := swp P p q) (p := p) (q := q) (Or.inr ⟨rfl, rfl⟩) rfl r2 rx, tas_mk (P := P) (R := P) (p := p) (q := q) (Or.inl ⟨rfl, rfl⟩) rfl ha (fun _ _ _ => rfl), tas_mk (P := P) (R := P) (p := p) (q := q) (Or.inr ⟨rfl, rfl⟩) rfl hb (fun _ _ _ => rfl)]
  rw [← Int32.ofInt_add, ← Int32.ofInt_add, ← Int32.ofInt_sub, ← Int32.ofInt_sub]
  congr 1
  have d1 := isum_mk2 (eb_sy P) (eb_0 P) (n := 16) hp hq hpq
  have d2 := isum_mk2 (eb_sy (swp P p q)) (eb_0 (swp P p q)) (n := 16) hp hq hpq
  rw [yt2] at d1 d2
  have epq : eb (swp P p q) p q = eb P p q := by
    unfold eb
    have : bsd (swp P p q) p q = bsd P p q := by
      rw [bsd_nbr r1, bsd_nbr ha]
      unfold nbr
      rw [r2, hb]
      exact nx_sy _ _
    rw [this]; rfl
  have erest : isum (mk2 p q (fun a => isum (mk2 p q (eb (swp P p q) a)) 16)) 16 = isum (mk2 p q (fun a => isum (mk2 p q (eb P a)) 16)) 16 := by
    refine isum_eq (fun x _ => ?_)
    unfold mk2
    by_cases h : x = p ∨ x = q
    · rw [if_pos h, if_pos h]
    · rw [if_neg h, if_neg h]
      refine isum_eq (fun z _ => ?_)
      by_cases h' : z = p ∨ z = q
      · rw [if_pos h', if_pos h']
      · rw [if_neg h', if_neg h']
        unfold eb
        have : bsd (swp P p q) x z = bsd P x z := by
          unfold bsd
          rw [rx x (fun z => h (Or.inl z)) (fun z => h (Or.inr z)), rx z (fun y => h' (Or.inl y)) (fun y => h' (Or.inr y))]
        rw [this]; rfl
  rw [epq, erest] at d2
  omega
def chi (P : Pp) (p j : Nat) (a : Int32 × Int32 × Int32) : Int32 × Int32 × Int32 := match pl P p, pl P (p + 1 + j) with
  | some x, some z => off (nI p) (nI (p + 1 + j)) (gnI P p (p + 1 + j) x z) a
  | _, _ => a
def cho (P : Pp) (p : Nat) (a : Int32 × Int32 × Int32) : Int32 × Int32 × Int32 := fo (chi P p) (15 - p) a
def s_change (P : Pp) (v : Int32) : Int32 := if v < 0 ∨ 2 < v then -1 else if (fo (cho P) 16 (-2, -2, 0)).1 = -2 then -2 else tell3 v (fo (cho P) 16 (-2, -2, 0))
theorem cho_m2 (P : Pp) : (fo (cho P) 16 (-2, -2, 0)).1 = -2 → (fo (cho P) 16 (-2, -2, 0)).2.1 = -2 := by
  refine fo_inv2 (I := fun a : Int32 × Int32 × Int32 => a.1 = -2 → a.2.1 = -2) (fun p a hp h => ?_) (fun _ => rfl)
  unfold cho
  refine fo_inv2 (I := fun a : Int32 × Int32 × Int32 => a.1 = -2 → a.2.1 = -2) (fun w a hw h => ?_) h
  unfold chi
  split
  · exact off_m2 (by omega) h
  · exact h
section CH
variable {L d : Nat} {M : pu_M} {P : Pp} {y : Nat}
theorem c_x_yardTalk {Q : Int32 → pu_M → Prop} (h9 : M 0 9 = nI y) (hy : pu_isY y) (hC : CY P M y) (hI : PI P) (H : Q (s_yardTalk P) M) : pu_I L (d + 4) 131 [.ref 0] M Q := by
  refine r_x_yardTalk (dn (R := fun k => pu_R L (d + 4) 131 4 [.ref 0, .int (Int32.ofInt (isum (fun p => isum (eb P p) 16) k)), .int (nI k)] [] M (pu_qI Q)) 16 (r_x_yardTalk_4 ?_) (fun k hk ih => r_x_yardTalk_4 ?_))
  · rw [if_pos ge16, yt2, half_ofI (yt_bd P).1 (yt_bd P).2]; exact H
  · rw [if_neg (lt16 hk)]
    refine ⟨y, h9, hy, c_Y_isLaid hy hC hI hk ?_⟩
    rw [isum_s, Int32.ofInt_add] at ih
    cases e : pl P k with
    | none =>
      have h0 : isum (eb P k) 16 = 0 := by
        rw [isum_eq (g := fun _ => 0) (fun q _ => by unfold eb bsd; rw [e]; rfl), isum_0]
      rw [h0] at ih
      simp only [Option.isSome_none, Bool.false_eq_true, if_false]
      rw [if_pos trivial, nI_1]
      simpa using ih
    | some w =>
      have hw := ((hI.1 k hk).2.2 w e).1
      simp only [Option.isSome_some, if_true]
      rw [if_neg (by decide)]
      refine ⟨y, h9, hy, y, h9, hy, inb_nI hk (by decide), ?_⟩
      rw [nI_clamp (by omega), (hC.1 k hk).2.2, e, pI]
      refine c_Y_talkAt hy hC hI hk hw (by decide) ?_
      rw [tas_E e, nI_1]
      exact ih
theorem c_m_yardTalk {Q : Int32 → pu_M → Prop} (hM : PM P (M 59)) (hI : PI P) (H : Q (s_yardTalk P) M) : pu_I L (d + 4) 223 [.ref 58] M Q := by
  have key := dn (R := fun k => ∀ v3 : Value, pu_R L (d + 4) 223 4 [.ref 58, .int (Int32.ofInt (isum (fun p => isum (eb P p) p) k)), .int (nI k), v3] [] M (pu_qI Q)) 16 (fun v3 => r_m_yardTalk_4 (by rw [if_pos ge16]; exact H)) (fun k hk ih v3 => by
    refine r_m_yardTalk_4 ?_
    rw [if_neg (lt16 hk)]
    simp only [isum_s] at ih
    have inner := dn (R := fun j => pu_R L (d + 4) 223 12 [.ref 58, .int (Int32.ofInt (isum (fun p => isum (eb P p) p) k + isum (eb P k) j)), .int (nI k), .int (nI j)] [] M (pu_qI Q)) k (r_m_yardTalk_12 (by
        rw [if_pos (by rw [nI_leI (by omega) (by omega)]; omega), nI_1]; exact ih _)) (fun j hj ihj => by
      refine r_m_yardTalk_12 ?_
      rw [if_neg (by rw [nI_leI (by omega) (by omega)]; omega)]
      refine c_m_areBeside hM hI hk (by omega) ?_
      rw [isum_s, ← Int.add_assoc, Int32.ofInt_add] at ihj
      cases hb : bsd P k j with
      | false =>
        have e0 : eb P k j = 0 := by unfold eb; rw [hb]; rfl
        rw [e0] at ihj
        rw [if_neg (by decide), if_pos rfl, nI_1]
        simpa using ihj
      | true =>
        have e0 : eb P k j = tkZ P k j := by unfold eb; rw [hb]; rfl
        rw [e0] at ihj
        rw [if_pos rfl, if_neg (by decide)]
        refine c_m_talkOf hM hI hk (by omega) ?_
        rw [ofI_tk, nI_1]
        exact ihj)
    rw [show isum (eb P k) 0 = 0 from rfl, Int.add_zero] at inner
    exact inner)
  exact r_m_yardTalk (key mq_un)
theorem c_Plan_gain {Q : Int32 → pu_M → Prop} {p q a b : Nat} (hy : pu_isY y) (hC : CY P M y) (hI : PI P) (hp : p < 16) (hq : q < 16) (ha : pl P p = some a) (hb : pl P q = some b) (H : Q (gnI P p q a b) M) : pu_I L (d + 4) 72 [.ref y, .int (nI p), .int (nI q)] M Q := by
  refine r_Plan_gainByChange hy ⟨inb_nI hp (by decide), inb_nI hq (by decide), ?_⟩
  have ha6 := ((hI.1 p hp).2.2 a ha).1
  have hb6 := ((hI.1 q hq).2.2 b hb).1
  rw [nI_clamp (by omega), nI_clamp (by omega), (hC.1 p hp).2.2, (hC.1 q hq).2.2, ha, hb, pI, pI, nI_pow (by omega), nI_pow (by omega)]
  exact c_Y_talkAt hy hC hI hp hb6 (p2_lt hq) (c_Y_talkAt hy hC hI hq ha6 (p2_lt hp) (c_Y_talkAt hy hC hI hp ha6 (p2_lt hq) (c_Y_talkAt hy hC hI hq hb6 (p2_lt hp) H)))
theorem c_x_change {Q : Int32 → pu_M → Prop} {v : Int32} (h9 : M 0 9 = nI y) (hy : pu_isY y) (hC : CY P M y) (hI : PI P) (H : ∀ M', eqX M M' → Q (s_change P v) M') : pu_I L (d + 6) 134 [.ref 0, .int v] M Q := by
  refine r_x_change ?_
  unfold s_change at H
  rcases v02 (w := v) with hv | ⟨hv1, hv2⟩
  · rw [if_pos hv] at H
    by_cases h0 : v < 0
    · rw [if_pos h0]; exact H M (eqX.rf M)
    · rw [if_neg h0, if_neg (lt_not_le (hv.resolve_left h0))]; exact H M (eqX.rf M)
  · rw [if_neg hv1, if_pos hv2]
    rw [if_neg (fun z => z.elim hv1 (le_not_lt hv2))] at H
    refine ⟨y, h9, hy, r_Plan_seekChange hy (c_Plan_begin ?_)⟩
    have key := dn (R := fun k => ∀ M' (j3 : Value), eqX M M' → PS M' (fo (cho P) k (-2, -2, 0)) → pu_R L (d + 5) 71 7 [.ref 5, .ref y, .int (nI k), j3] [] M' (pu_qV (fun M3 => pu_I L (d + 5) 65 [.ref 5, .int v] M3 (fun x5 M4 => Q x5 M4)))) 16 (fun M' j3 e hS => by
        refine r_Plan_seekChange_7 hy ?_
        rw [if_pos ge16]
        refine r_Plan_noneIfNoMore ?_
        have hm2 := cho_m2 P
        generalize fo (cho P) 16 (-2, -2, 0) = a at H hS hm2
        rw [hS.1]
        by_cases ha : a.1 = -2
        · rw [if_pos ha] at H ⊢
          refine c_Plan_tells (a := (-2, -2, -2)) ⟨?_, ?_, ?_⟩ ?_
          · rw [show pu_wr M' 5 2 (-2) 5 0 = M' 5 0 by simp [pu_wr], hS.1, ha]
          · rw [show pu_wr M' 5 2 (-2) 5 1 = M' 5 1 by simp [pu_wr], hS.2.1, hm2 ha]
          · simp [pu_wr]
          · have := H _ (e.wr (k := 5) (i := 2) (x := -2) (by decide) (by decide))
            simpa using this
        · rw [if_neg ha] at H ⊢
          exact c_Plan_tells hS (H M' e)) (fun k hk ih M' j3 e hS => by
      refine r_Plan_seekChange_7 hy ?_
      rw [if_neg (lt16 hk), nI_1]
      have e1 : fo (cho P) (k + 1) (-2, -2, 0) = cho P k (fo (cho P) k (-2, -2, 0)) := rfl
      rw [e1] at ih
      generalize fo (cho P) k (-2, -2, 0) = a at ih hS
      unfold cho at ih
      exact dn (R := fun j => ∀ M2, eqX M M2 → PS M2 (fo (chi P k) j a) → pu_R L (d + 5) 71 17 [.ref 5, .ref y, .int (nI k), .int (nI (k + 1 + j))] [] M2 (pu_qV (fun M3 => pu_I L (d + 5) 65 [.ref 5, .int v] M3 (fun x5 M4 => Q x5 M4)))) (15 - k) (fun M2 e2 hS2 => by
          refine r_Plan_seekChange_17 hy ?_
          rw [show k + 1 + (15 - k) = 16 by omega, if_pos ge16, nI_1]
          exact ih M2 _ e2 hS2) (fun j hj ihj M2 e2 hS2 => by
        have hC2 := hC.eqX hy e2
        have hj16 : k + 1 + j < 16 := by omega
        refine r_Plan_seekChange_17 hy ?_
        rw [if_neg (lt16 hj16)]
        refine c_Y_isLaid hy hC2 hI hk ?_
        have ej : fo (chi P k) (j + 1) a = chi P k j (fo (chi P k) j a) := rfl
        rw [ej] at ihj
        generalize fo (chi P k) j a = c at ihj hS2
        unfold chi at ihj
        cases ek : pl P k with
        | none =>
          simp only [ek] at ihj
          simp only [Option.isSome_none, Bool.false_eq_true, if_false]
          rw [if_pos trivial, nI_1]
          exact ihj M2 e2 hS2
        | some x =>
          simp only [Option.isSome_some, if_true]
          rw [if_neg (by decide)]
          refine c_Y_isLaid hy hC2 hI hj16 ?_
          cases ez : pl P (k + 1 + j) with
          | none =>
            simp only [ek, ez] at ihj
            simp only [Option.isSome_none, Bool.false_eq_true, if_false]
            rw [if_pos trivial, nI_1]
            exact ihj M2 e2 hS2
          | some z =>
            simp only [ek, ez] at ihj
            simp only [Option.isSome_some, if_true]
            rw [if_neg (by decide)]
            refine c_Plan_gain hy hC2 hI hk hj16 ek ez (c_Plan_offer hS2 (fun M3 e3 hS3 => ?_))
            rw [nI_1]
            exact ihj M3 (e2.tr e3) hS3) M' e hS)
    exact fun M' e hS => key M' _ e hS
theorem c_m_swap {Q : pu_M → Prop} {p q : Nat} (hp : p < 16) (hq : q < 16) (H : ∀ M', (∀ k, k ≠ 59 → M' k = M k) → (∀ i, M' 59 i = if i = 48 + q then M 59 (48 + p) else if i = 48 + p then M 59 (48 + q) else M 59 i) → Q M') : pu_V L (d + 1) 227 [.ref 58, .int (nI p), .int (nI q)] M Q := by
  refine r_m_changesPlots ?_
  simp (disch := omega) only [n_48, nI_add, nI_clamp, inb_nI, true_and]
  intro M5 hM5
  subst hM5
  refine H _ (fun k hk => by rw [pu_wr_ne hk, pu_wr_ne hk]) (fun i => ?_)
  rw [pu_wr_self, pu_wr_self]
  unfold upd
  by_cases h1 : i = 48 + q
  · simp [h1]
  · by_cases h2 : i = 48 + p
    · simp [h2]
    · simp [h1, h2]
theorem PM_swp {p q : Nat} (hp : p < 16) (hq : q < 16) {f g : Nat → Int32} (hM : PM P f) (hg : ∀ i, g i = if i = 48 + q then f (48 + p) else if i = 48 + p then f (48 + q) else f i) : PM (swp P p q) g := by
  obtain ⟨h1, h2, h3⟩ := hM
  have hlow : ∀ i, i < 48 ∨ 64 ≤ i → g i = f i := fun i hi => by rw [hg, if_neg (by omega), if_neg (by omega)]
  refine ⟨fun r hr => ⟨?_, ?_, ?_, ?_⟩, ?_, ?_⟩
  · rw [hlow _ (by omega)]; exact (h1 r hr).1
  · rw [hlow _ (by omega)]; exact (h1 r hr).2.1
  · rw [hlow _ (by omega)]; exact (h1 r hr).2.2.1
  · show g (48 + r) = pI (pl P (sw p q r))
    rw [hg]
    unfold sw
    by_cases a : r = p
    · rw [if_pos a]
      by_cases b : r = q
      · rw [if_pos (by omega), ← a, ← b]; exact (h1 r hr).2.2.2
      · rw [if_neg (by omega), if_pos (by omega)]; exact (h1 q hq).2.2.2
    · rw [if_neg a]
      by_cases b : r = q
      · rw [if_pos (by omega), if_pos b]; exact (h1 p hp).2.2.2
      · rw [if_neg (by omega), if_neg (by omega), if_neg b]; exact (h1 r hr).2.2.2
  · rw [hlow _ (by omega)]; exact h2
  · rw [hlow _ (by omega)]; exact h3
theorem c_m_change {Q : Int32 → pu_M → Prop} {v : Int32} (hM : PM P (M 59)) (hI : PI P) (H : Q (s_change P v) M) : pu_I L (d + 5) 228 [.ref 58, .int v] M Q := by
  refine r_m_change (c_m_in ?_)
  unfold s_change at H
  by_cases hv : v < 0 ∨ 2 < v
  · rw [if_pos hv] at H; rw [if_pos hv, if_pos rfl]; exact H
  · rw [if_neg hv] at H
    rw [if_neg hv, if_neg (by decide)]
    refine c_m_yardTalk hM hI ?_
    have key := dn (R := fun k => ∀ (j7 j8 : Value), pu_R L (d + 5) 228 29 [.ref 58, .int v, .int (fo (cho P) k (-2, -2, 0)).1, .int (fo (cho P) k (-2, -2, 0)).2.1, .int (s_yardTalk P), .int (fo (cho P) k (-2, -2, 0)).2.2, .int (nI k), j7, j8] [] M (pu_qI Q)) 16 (fun j7 j8 => by
        refine r_m_change_29 ?_
        rw [if_pos ge16]
        generalize fo (cho P) 16 (-2, -2, 0) = a at H ⊢
        by_cases ha : a.1 = -2
        · rw [if_pos ha] at H ⊢; exact H
        · rw [if_neg ha] at H ⊢
          unfold tell3 at H
          by_cases h0 : v = 0
          · rw [if_pos h0] at H ⊢; exact H
          · rw [if_neg h0] at H ⊢
            by_cases h1 : v = 1
            · rw [if_pos h1] at H ⊢; exact H
            · rw [if_neg h1] at H ⊢; exact H) (fun k hk ih j7 j8 => by
      refine r_m_change_29 ?_
      rw [if_neg (lt16 hk), nI_1]
      have e1 : fo (cho P) (k + 1) (-2, -2, 0) = cho P k (fo (cho P) k (-2, -2, 0)) := rfl
      rw [e1] at ih
      generalize fo (cho P) k (-2, -2, 0) = a at ih ⊢
      unfold cho at ih
      exact dn (R := fun j => ∀ (j8 : Value), pu_R L (d + 5) 228 42 [.ref 58, .int v, .int (fo (chi P k) j a).1, .int (fo (chi P k) j a).2.1, .int (s_yardTalk P), .int (fo (chi P k) j a).2.2, .int (nI k), .int (nI (k + 1 + j)), j8] [] M (pu_qI Q)) (15 - k) (fun j8 => by
          refine r_m_change_42 ?_
          rw [show k + 1 + (15 - k) = 16 by omega, if_pos ge16, nI_1]
          exact ih _ _) (fun j hj ihj j8 => by
        have hj16 : k + 1 + j < 16 := by omega
        refine r_m_change_42 ?_
        rw [if_neg (lt16 hj16)]
        refine c_m_isLaid hM hI hk ?_
        have ej : fo (chi P k) (j + 1) a = chi P k j (fo (chi P k) j a) := rfl
        rw [ej] at ihj
        generalize fo (chi P k) j a = c at ihj ⊢
        unfold chi at ihj
        cases ek : pl P k with
        | none =>
          simp only [ek] at ihj
          simp only [Option.isSome_none, Bool.false_eq_true, if_false]
          rw [if_pos trivial, nI_1]
          exact ihj _
        | some x =>
          simp only [Option.isSome_some, if_true]
          rw [if_neg (by decide)]
          refine c_m_isLaid hM hI hj16 ?_
          cases ez : pl P (k + 1 + j) with
          | none =>
            simp only [ek, ez] at ihj
            simp only [Option.isSome_none, Bool.false_eq_true, if_false]
            rw [if_pos trivial, nI_1]
            exact ihj _
          | some z =>
            simp only [ek, ez] at ihj
            simp only [Option.isSome_some, if_true]
            rw [if_neg (by decide)]
            have t1 := ((hI.1 k hk).2.2 x ek).2
            have t2 := ((hI.1 _ hj16).2.2 z ez).2
            refine c_m_swap hk hj16 (fun M5 o5 g5 => ?_)
            refine c_m_yardTalk (PM_swp hk hj16 hM g5) (PI_swp hI hk hj16 t1 t2) ?_
            refine c_m_swap hk hj16 (fun M8 o8 g8 => ?_)
            have : M8 = M := by
              funext k' i
              by_cases hk' : k' = 59
              · subst hk'
                rw [g8, g5, g5, g5]
                by_cases h1 : i = 48 + (k + 1 + j)
                · rw [if_pos h1, if_neg (by omega), if_pos rfl, h1]
                · rw [if_neg h1]
                  by_cases h2 : i = 48 + k
                  · rw [if_pos h2, if_pos rfl, h2]
                  · rw [if_neg h2, if_neg h1, if_neg h2]
              · rw [o8 k' hk', o5 k' hk']
            subst this
            rw [← gn_eq hk hj16 (by omega) ek ez, nI_1]
            unfold off at ihj
            by_cases hl : c.2.2 < gnI P k (k + 1 + j) x z
            · rw [if_neg (lt_not_le hl)] at ihj; rw [if_pos hl]; exact ihj _
            · rw [if_pos (Int32.not_lt.mp hl)] at ihj; rw [if_neg hl]; exact ihj _) j8)
    exact key mq_un mq_un
end CH
