/-! bitCount's own way, of 16 bits -/
def sw1 (x : Nat) : Nat := x - (x / 2 &&& 1431655765)
def sw2 (x : Nat) : Nat := (x &&& 858993459) + (x / 4 &&& 858993459)
def sw3 (x : Nat) : Nat := (x + x / 16) &&& 252645135
def sw4 (x : Nat) : Nat := x + x / 256
def sw5 (x : Nat) : Nat := (x + x / 65536) &&& 63
def swar (x : Nat) : Nat := sw5 (sw4 (sw3 (sw2 (sw1 x))))
def pcf (x : Nat) : Nat := x % 2 + x / 2 % 2 + x / 4 % 2 + x / 8 % 2 + x / 16 % 2 + x / 32 % 2 + x / 64 % 2 + x / 128 % 2 + x / 256 % 2 + x / 512 % 2 + x / 1024 % 2 + x / 2048 % 2 + x / 4096 % 2 + x / 8192 % 2 + x / 16384 % 2 + x / 32768 % 2
theorem sww_0 : ∀ a, a < 8 → ∀ b, b < 256 → swar (256 * (0 + a) + b) = pcf (256 * (0 + a) + b) := by decide +kernel
theorem sww_1 : ∀ a, a < 8 → ∀ b, b < 256 → swar (256 * (8 + a) + b) = pcf (256 * (8 + a) + b) := by decide +kernel
theorem sww_2 : ∀ a, a < 8 → ∀ b, b < 256 → swar (256 * (16 + a) + b) = pcf (256 * (16 + a) + b) := by decide +kernel
theorem sww_3 : ∀ a, a < 8 → ∀ b, b < 256 → swar (256 * (24 + a) + b) = pcf (256 * (24 + a) + b) := by decide +kernel
theorem sww_4 : ∀ a, a < 8 → ∀ b, b < 256 → swar (256 * (32 + a) + b) = pcf (256 * (32 + a) + b) := by decide +kernel
theorem sww_5 : ∀ a, a < 8 → ∀ b, b < 256 → swar (256 * (40 + a) + b) = pcf (256 * (40 + a) + b) := by decide +kernel
theorem sww_6 : ∀ a, a < 8 → ∀ b, b < 256 → swar (256 * (48 + a) + b) = pcf (256 * (48 + a) + b) := by decide +kernel
theorem sww_7 : ∀ a, a < 8 → ∀ b, b < 256 → swar (256 * (56 + a) + b) = pcf (256 * (56 + a) + b) := by decide +kernel
theorem sww_8 : ∀ a, a < 8 → ∀ b, b < 256 → swar (256 * (64 + a) + b) = pcf (256 * (64 + a) + b) := by decide +kernel
theorem sww_9 : ∀ a, a < 8 → ∀ b, b < 256 → swar (256 * (72 + a) + b) = pcf (256 * (72 + a) + b) := by decide +kernel
theorem sww_10 : ∀ a, a < 8 → ∀ b, b < 256 → swar (256 * (80 + a) + b) = pcf (256 * (80 + a) + b) := by decide +kernel
theorem sww_11 : ∀ a, a < 8 → ∀ b, b < 256 → swar (256 * (88 + a) + b) = pcf (256 * (88 + a) + b) := by decide +kernel
theorem sww_12 : ∀ a, a < 8 → ∀ b, b < 256 → swar (256 * (96 + a) + b) = pcf (256 * (96 + a) + b) := by decide +kernel
theorem sww_13 : ∀ a, a < 8 → ∀ b, b < 256 → swar (256 * (104 + a) + b) = pcf (256 * (104 + a) + b) := by decide +kernel
theorem sww_14 : ∀ a, a < 8 → ∀ b, b < 256 → swar (256 * (112 + a) + b) = pcf (256 * (112 + a) + b) := by decide +kernel
theorem sww_15 : ∀ a, a < 8 → ∀ b, b < 256 → swar (256 * (120 + a) + b) = pcf (256 * (120 + a) + b) := by decide +kernel
theorem sww_16 : ∀ a, a < 8 → ∀ b, b < 256 → swar (256 * (128 + a) + b) = pcf (256 * (128 + a) + b) := by decide +kernel
theorem sww_17 : ∀ a, a < 8 → ∀ b, b < 256 → swar (256 * (136 + a) + b) = pcf (256 * (136 + a) + b) := by decide +kernel
theorem sww_18 : ∀ a, a < 8 → ∀ b, b < 256 → swar (256 * (144 + a) + b) = pcf (256 * (144 + a) + b) := by decide +kernel
theorem sww_19 : ∀ a, a < 8 → ∀ b, b < 256 → swar (256 * (152 + a) + b) = pcf (256 * (152 + a) + b) := by decide +kernel
theorem sww_20 : ∀ a, a < 8 → ∀ b, b < 256 → swar (256 * (160 + a) + b) = pcf (256 * (160 + a) + b) := by decide +kernel
theorem sww_21 : ∀ a, a < 8 → ∀ b, b < 256 → swar (256 * (168 + a) + b) = pcf (256 * (168 + a) + b) := by decide +kernel
theorem sww_22 : ∀ a, a < 8 → ∀ b, b < 256 → swar (256 * (176 + a) + b) = pcf (256 * (176 + a) + b) := by decide +kernel
theorem sww_23 : ∀ a, a < 8 → ∀ b, b < 256 → swar (256 * (184 + a) + b) = pcf (256 * (184 + a) + b) := by decide +kernel
theorem sww_24 : ∀ a, a < 8 → ∀ b, b < 256 → swar (256 * (192 + a) + b) = pcf (256 * (192 + a) + b) := by decide +kernel
theorem sww_25 : ∀ a, a < 8 → ∀ b, b < 256 → swar (256 * (200 + a) + b) = pcf (256 * (200 + a) + b) := by decide +kernel
theorem sww_26 : ∀ a, a < 8 → ∀ b, b < 256 → swar (256 * (208 + a) + b) = pcf (256 * (208 + a) + b) := by decide +kernel
theorem sww_27 : ∀ a, a < 8 → ∀ b, b < 256 → swar (256 * (216 + a) + b) = pcf (256 * (216 + a) + b) := by decide +kernel
theorem sww_28 : ∀ a, a < 8 → ∀ b, b < 256 → swar (256 * (224 + a) + b) = pcf (256 * (224 + a) + b) := by decide +kernel
theorem sww_29 : ∀ a, a < 8 → ∀ b, b < 256 → swar (256 * (232 + a) + b) = pcf (256 * (232 + a) + b) := by decide +kernel
theorem sww_30 : ∀ a, a < 8 → ∀ b, b < 256 → swar (256 * (240 + a) + b) = pcf (256 * (240 + a) + b) := by decide +kernel
theorem sww_31 : ∀ a, a < 8 → ∀ b, b < 256 → swar (256 * (248 + a) + b) = pcf (256 * (248 + a) + b) := by decide +kernel
theorem swx {x c : Nat} (h1 : c ≤ x / 256) (h2 : x / 256 < c + 8) (h : ∀ a, a < 8 → ∀ b, b < 256 → swar (256 * (c + a) + b) = pcf (256 * (c + a) + b)) : swar x = pcf x := by
  have := h (x / 256 - c) (by omega) (x % 256) (by omega)
  rwa [show 256 * (c + (x / 256 - c)) + x % 256 = x by omega] at this
theorem swar_pcf {x : Nat} (hx : x < 65536) : swar x = pcf x := (if h16 : x / 256 < 128 then (if h8 : x / 256 < 64 then (if h4 : x / 256 < 32 then (if h2 : x / 256 < 16 then (if h1 : x / 256 < 8 then (swx (c := 0) (by omega) (by omega) sww_0) else (swx (c := 8) (by omega) (by omega) sww_1)) else (if h3 : x / 256 < 24 then (swx (c := 16) (by omega) (by omega) sww_2) else (swx (c := 24) (by omega) (by omega) sww_3))) else (if h6 : x / 256 < 48 then (if h5 : x / 256 < 40 then (swx (c := 32) (by omega) (by omega) sww_4) else (swx (c := 40) (by omega) (by omega) sww_5)) else (if h7 : x / 256 < 56 then (swx (c := 48) (by omega) (by omega) sww_6) else (swx (c := 56) (by omega) (by omega) sww_7)))) else (if h12 : x / 256 < 96 then (if h10 : x / 256 < 80 then (if h9 : x / 256 < 72 then (swx (c := 64) (by omega) (by omega) sww_8) else (swx (c := 72) (by omega) (by omega) sww_9)) else (if h11 : x / 256 < 88 then (swx (c := 80) (by omega) (by omega) sww_10) else (swx (c := 88) (by omega) (by omega) sww_11))) else (if h14 : x / 256 < 112 then (if h13 : x / 256 < 104 then (swx (c := 96) (by omega) (by omega) sww_12) else (swx (c := 104) (by omega) (by omega) sww_13)) else (if h15 : x / 256 < 120 then (swx (c := 112) (by omega) (by omega) sww_14) else (swx (c := 120) (by omega) (by omega) sww_15))))) else (if h24 : x / 256 < 192 then (if h20 : x / 256 < 160 then (if h18 : x / 256 < 144 then (if h17 : x / 256 < 136 then (swx (c := 128) (by omega) (by omega) sww_16) else (swx (c := 136) (by omega) (by omega) sww_17)) else (if h19 : x / 256 < 152 then (swx (c := 144) (by omega) (by omega) sww_18) else (swx (c := 152) (by omega) (by omega) sww_19))) else (if h22 : x / 256 < 176 then (if h21 : x / 256 < 168 then (swx (c := 160) (by omega) (by omega) sww_20) else (swx (c := 168) (by omega) (by omega) sww_21)) else (if h23 : x / 256 < 184 then (swx (c := 176) (by omega) (by omega) sww_22) else (swx (c := 184) (by omega) (by omega) sww_23)))) else (if h28 : x / 256 < 224 then (if h26 : x / 256 < 208 then (if h25 : x / 256 < 200 then (swx (c := 192) (by omega) (by omega) sww_24) else (swx (c := 200) (by omega) (by omega) sww_25)) else (if h27 : x / 256 < 216 then (swx (c := 208) (by omega) (by omega) sww_26) else (swx (c := 216) (by omega) (by omega) sww_27))) else (if h30 : x / 256 < 240 then (if h29 : x / 256 < 232 then (swx (c := 224) (by omega) (by omega) sww_28) else (swx (c := 232) (by omega) (by omega) sww_29)) else (if h31 : x / 256 < 248 then (swx (c := 240) (by omega) (by omega) sww_30) else (swx (c := 248) (by omega) (by omega) sww_31))))))
theorem pc_pcf (x : Nat) : pc x = pcf x := by
  have e : ∀ k, (if x.testBit k = true then 1 else 0) = x / 2 ^ k % 2 := by
    intro k
    rw [Nat.testBit_eq_decide_div_mod_eq]
    rcases Nat.mod_two_eq_zero_or_one (x / 2 ^ k) with h | h <;> simp [h]
  unfold pc pcf
  simp only [cnt, e, Nat.pow_zero, Nat.div_one]
  simp
theorem swar_pc {x : Nat} (h : x < 65536) : swar x = pc x := by rw [swar_pcf h, pc_pcf]
