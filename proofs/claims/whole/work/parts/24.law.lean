set_option maxRecDepth 20000 in
theorem r_law_law_18 {L d : Nat} {M : pu_M} {Q : Int32 → pu_M → Prop} {v3 : Int32} (H : (if ((Int32.ofNat L) - 6) < v3 then Q 1 M else (mq_inb v3 L = true ∧ (if ((M 1000000 v3.toNatClampNeg) &&& 31) = 0 then (mq_inb (v3 + 1) L = true ∧ (mq_inb (v3 + 2) L = true ∧ (mq_inb (v3 + 3) L = true ∧ pu_I L (d + 9) 122 [.ref 0, .int (M 1000000 (v3 + 1 : Int32).toNatClampNeg), .int (M 1000000 (v3 + 2 : Int32).toNatClampNeg), .int (M 1000000 (v3 + 3 : Int32).toNatClampNeg)] M (fun x6 M5 => (mq_inb (v3 + 1) L = true ∧ (mq_inb (v3 + 2) L = true ∧ (mq_inb (v3 + 3) L = true ∧ pu_I L (d + 9) 174 [.ref 58, .int (M5 1000000 (v3 + 1 : Int32).toNatClampNeg), .int (M5 1000000 (v3 + 2 : Int32).toNatClampNeg), .int (M5 1000000 (v3 + 3 : Int32).toNatClampNeg)] M5 (fun x11 M10 => (if x6 = x11 then pu_R L (d + 10) 263 18 [.ref 1000000, .ref 0, .ref 58, .int (v3 + 6)] [] M10 (pu_qI Q) else Q 0 M10))))))))) else (if ((M 1000000 v3.toNatClampNeg) &&& 31) = 1 then (mq_inb (v3 + 1) L = true ∧ (mq_inb (v3 + 2) L = true ∧ (mq_inb (v3 + 3) L = true ∧ (mq_inb (v3 + 4) L = true ∧ (mq_inb (v3 + 5) L = true ∧ pu_I L (d + 9) 123 [.ref 0, .int (M 1000000 (v3 + 1 : Int32).toNatClampNeg), .int (M 1000000 (v3 + 2 : Int32).toNatClampNeg), .int (M 1000000 (v3 + 3 : Int32).toNatClampNeg), .int (M 1000000 (v3 + 4 : Int32).toNatClampNeg), .int (M 1000000 (v3 + 5 : Int32).toNatClampNeg)] M (fun x18 M17 => (mq_inb (v3 + 1) L = true ∧ (mq_inb (v3 + 2) L = true ∧ (mq_inb (v3 + 3) L = true ∧ (mq_inb (v3 + 4) L = true ∧ (mq_inb (v3 + 5) L = true ∧ pu_I L (d + 9) 176 [.ref 58, .int (M17 1000000 (v3 + 1 : Int32).toNatClampNeg), .int (M17 1000000 (v3 + 2 : Int32).toNatClampNeg), .int (M17 1000000 (v3 + 3 : Int32).toNatClampNeg), .int (M17 1000000 (v3 + 4 : Int32).toNatClampNeg), .int (M17 1000000 (v3 + 5 : Int32).toNatClampNeg)] M17 (fun x25 M24 => (if x18 = x25 then pu_R L (d + 10) 263 18 [.ref 1000000, .ref 0, .ref 58, .int (v3 + 6)] [] M24 (pu_qI Q) else Q 0 M24))))))))))))) else (if ((M 1000000 v3.toNatClampNeg) &&& 31) = 2 then (mq_inb (v3 + 1) L = true ∧ pu_I L (d + 9) 124 [.ref 0, .int (M 1000000 (v3 + 1 : Int32).toNatClampNeg)] M (fun x28 M27 => (mq_inb (v3 + 1) L = true ∧ pu_I L (d + 9) 199 [.ref 58, .int (M27 1000000 (v3 + 1 : Int32).toNatClampNeg)] M27 (fun x31 M30 => (if x28 = x31 then pu_R L (d + 10) 263 18 [.ref 1000000, .ref 0, .ref 58, .int (v3 + 6)] [] M30 (pu_qI Q) else Q 0 M30))))) else (if ((M 1000000 v3.toNatClampNeg) &&& 31) = 3 then (mq_inb (v3 + 1) L = true ∧ pu_I L (d + 9) 125 [.ref 0, .int (M 1000000 (v3 + 1 : Int32).toNatClampNeg)] M (fun x34 M33 => (mq_inb (v3 + 1) L = true ∧ pu_I L (d + 9) 210 [.ref 58, .int (M33 1000000 (v3 + 1 : Int32).toNatClampNeg)] M33 (fun x37 M36 => (if x34 = x37 then pu_R L (d + 10) 263 18 [.ref 1000000, .ref 0, .ref 58, .int (v3 + 6)] [] M36 (pu_qI Q) else Q 0 M36))))) else (if ((M 1000000 v3.toNatClampNeg) &&& 31) = 4 then (mq_inb (v3 + 1) L = true ∧ pu_I L (d + 9) 126 [.ref 0, .int (M 1000000 (v3 + 1 : Int32).toNatClampNeg)] M (fun x40 M39 => (mq_inb (v3 + 1) L = true ∧ pu_I L (d + 9) 212 [.ref 58, .int (M39 1000000 (v3 + 1 : Int32).toNatClampNeg)] M39 (fun x43 M42 => (if x40 = x43 then pu_R L (d + 10) 263 18 [.ref 1000000, .ref 0, .ref 58, .int (v3 + 6)] [] M42 (pu_qI Q) else Q 0 M42))))) else (if ((M 1000000 v3.toNatClampNeg) &&& 31) = 5 then (mq_inb (v3 + 1) L = true ∧ pu_I L (d + 9) 127 [.ref 0, .int (M 1000000 (v3 + 1 : Int32).toNatClampNeg)] M (fun x46 M45 => (mq_inb (v3 + 1) L = true ∧ pu_I L (d + 9) 217 [.ref 58, .int (M45 1000000 (v3 + 1 : Int32).toNatClampNeg)] M45 (fun x49 M48 => (if x46 = x49 then pu_R L (d + 10) 263 18 [.ref 1000000, .ref 0, .ref 58, .int (v3 + 6)] [] M48 (pu_qI Q) else Q 0 M48))))) else (if ((M 1000000 v3.toNatClampNeg) &&& 31) = 6 then (mq_inb (v3 + 1) L = true ∧ (mq_inb (v3 + 2) L = true ∧ pu_I L (d + 9) 128 [.ref 0, .int (M 1000000 (v3 + 1 : Int32).toNatClampNeg), .int (M 1000000 (v3 + 2 : Int32).toNatClampNeg)] M (fun x53 M52 => (mq_inb (v3 + 1) L = true ∧ (mq_inb (v3 + 2) L = true ∧ pu_I L (d + 9) 219 [.ref 58, .int (M52 1000000 (v3 + 1 : Int32).toNatClampNeg), .int (M52 1000000 (v3 + 2 : Int32).toNatClampNeg)] M52 (fun x57 M56 => (if x53 = x57 then pu_R L (d + 10) 263 18 [.ref 1000000, .ref 0, .ref 58, .int (v3 + 6)] [] M56 (pu_qI Q) else Q 0 M56))))))) else (if ((M 1000000 v3.toNatClampNeg) &&& 31) = 7 then (mq_inb (v3 + 1) L = true ∧ (mq_inb (v3 + 2) L = true ∧ pu_I L (d + 9) 129 [.ref 0, .int (M 1000000 (v3 + 1 : Int32).toNatClampNeg), .int (M 1000000 (v3 + 2 : Int32).toNatClampNeg)] M (fun x61 M60 => (mq_inb (v3 + 1) L = true ∧ (mq_inb (v3 + 2) L = true ∧ pu_I L (d + 9) 221 [.ref 58, .int (M60 1000000 (v3 + 1 : Int32).toNatClampNeg), .int (M60 1000000 (v3 + 2 : Int32).toNatClampNeg)] M60 (fun x65 M64 => (if x61 = x65 then pu_R L (d + 10) 263 18 [.ref 1000000, .ref 0, .ref 58, .int (v3 + 6)] [] M64 (pu_qI Q) else Q 0 M64))))))) else (if ((M 1000000 v3.toNatClampNeg) &&& 31) = 8 then (mq_inb (v3 + 1) L = true ∧ (mq_inb (v3 + 2) L = true ∧ pu_I L (d + 9) 130 [.ref 0, .int (M 1000000 (v3 + 1 : Int32).toNatClampNeg), .int (M 1000000 (v3 + 2 : Int32).toNatClampNeg)] M (fun x69 M68 => (mq_inb (v3 + 1) L = true ∧ (mq_inb (v3 + 2) L = true ∧ pu_I L (d + 9) 222 [.ref 58, .int (M68 1000000 (v3 + 1 : Int32).toNatClampNeg), .int (M68 1000000 (v3 + 2 : Int32).toNatClampNeg)] M68 (fun x73 M72 => (if x69 = x73 then pu_R L (d + 10) 263 18 [.ref 1000000, .ref 0, .ref 58, .int (v3 + 6)] [] M72 (pu_qI Q) else Q 0 M72))))))) else (if ((M 1000000 v3.toNatClampNeg) &&& 31) = 9 then pu_I L (d + 9) 131 [.ref 0] M (fun x75 M74 => pu_I L (d + 9) 223 [.ref 58] M74 (fun x77 M76 => (if x75 = x77 then pu_R L (d + 10) 263 18 [.ref 1000000, .ref 0, .ref 58, .int (v3 + 6)] [] M76 (pu_qI Q) else Q 0 M76))) else (if ((M 1000000 v3.toNatClampNeg) &&& 31) = 10 then (mq_inb (v3 + 1) L = true ∧ (mq_inb (v3 + 2) L = true ∧ pu_I L (d + 9) 132 [.ref 0, .int (M 1000000 (v3 + 1 : Int32).toNatClampNeg), .int (M 1000000 (v3 + 2 : Int32).toNatClampNeg)] M (fun x81 M80 => (mq_inb (v3 + 1) L = true ∧ (mq_inb (v3 + 2) L = true ∧ pu_I L (d + 9) 225 [.ref 58, .int (M80 1000000 (v3 + 1 : Int32).toNatClampNeg), .int (M80 1000000 (v3 + 2 : Int32).toNatClampNeg)] M80 (fun x85 M84 => (if x81 = x85 then pu_R L (d + 10) 263 18 [.ref 1000000, .ref 0, .ref 58, .int (v3 + 6)] [] M84 (pu_qI Q) else Q 0 M84))))))) else (if ((M 1000000 v3.toNatClampNeg) &&& 31) = 11 then (mq_inb (v3 + 1) L = true ∧ pu_I L (d + 9) 133 [.ref 0, .int (M 1000000 (v3 + 1 : Int32).toNatClampNeg)] M (fun x88 M87 => (mq_inb (v3 + 1) L = true ∧ pu_I L (d + 9) 226 [.ref 58, .int (M87 1000000 (v3 + 1 : Int32).toNatClampNeg)] M87 (fun x91 M90 => (if x88 = x91 then pu_R L (d + 10) 263 18 [.ref 1000000, .ref 0, .ref 58, .int (v3 + 6)] [] M90 (pu_qI Q) else Q 0 M90))))) else (if ((M 1000000 v3.toNatClampNeg) &&& 31) = 12 then (mq_inb (v3 + 1) L = true ∧ pu_I L (d + 9) 134 [.ref 0, .int (M 1000000 (v3 + 1 : Int32).toNatClampNeg)] M (fun x94 M93 => (mq_inb (v3 + 1) L = true ∧ pu_I L (d + 9) 228 [.ref 58, .int (M93 1000000 (v3 + 1 : Int32).toNatClampNeg)] M93 (fun x97 M96 => (if x94 = x97 then pu_R L (d + 10) 263 18 [.ref 1000000, .ref 0, .ref 58, .int (v3 + 6)] [] M96 (pu_qI Q) else Q 0 M96))))) else (if ((M 1000000 v3.toNatClampNeg) &&& 31) = 13 then (mq_inb (v3 + 1) L = true ∧ pu_I L (d + 9) 135 [.ref 0, .int (M 1000000 (v3 + 1 : Int32).toNatClampNeg)] M (fun x100 M99 => (mq_inb (v3 + 1) L = true ∧ pu_I L (d + 9) 231 [.ref 58, .int (M99 1000000 (v3 + 1 : Int32).toNatClampNeg)] M99 (fun x103 M102 => (if x100 = x103 then pu_R L (d + 10) 263 18 [.ref 1000000, .ref 0, .ref 58, .int (v3 + 6)] [] M102 (pu_qI Q) else Q 0 M102))))) else (if ((M 1000000 v3.toNatClampNeg) &&& 31) = 14 then (mq_inb (v3 + 1) L = true ∧ (mq_inb (v3 + 2) L = true ∧ pu_I L (d + 9) 136 [.ref 0, .int (M 1000000 (v3 + 1 : Int32).toNatClampNeg), .int (M 1000000 (v3 + 2 : Int32).toNatClampNeg)] M (fun x107 M106 => (mq_inb (v3 + 1) L = true ∧ (mq_inb (v3 + 2) L = true ∧ pu_I L (d + 9) 236 [.ref 58, .int (M106 1000000 (v3 + 1 : Int32).toNatClampNeg), .int (M106 1000000 (v3 + 2 : Int32).toNatClampNeg)] M106 (fun x111 M110 => (if x107 = x111 then pu_R L (d + 10) 263 18 [.ref 1000000, .ref 0, .ref 58, .int (v3 + 6)] [] M110 (pu_qI Q) else Q 0 M110))))))) else (if ((M 1000000 v3.toNatClampNeg) &&& 31) = 15 then (mq_inb (v3 + 1) L = true ∧ (mq_inb (v3 + 2) L = true ∧ pu_I L (d + 9) 137 [.ref 0, .int (M 1000000 (v3 + 1 : Int32).toNatClampNeg), .int (M 1000000 (v3 + 2 : Int32).toNatClampNeg)] M (fun x115 M114 => (mq_inb (v3 + 1) L = true ∧ (mq_inb (v3 + 2) L = true ∧ pu_I L (d + 9) 239 [.ref 58, .int (M114 1000000 (v3 + 1 : Int32).toNatClampNeg), .int (M114 1000000 (v3 + 2 : Int32).toNatClampNeg)] M114 (fun x119 M118 => (if x115 = x119 then pu_R L (d + 10) 263 18 [.ref 1000000, .ref 0, .ref 58, .int (v3 + 6)] [] M118 (pu_qI Q) else Q 0 M118))))))) else (if ((M 1000000 v3.toNatClampNeg) &&& 31) = 16 then (mq_inb (v3 + 1) L = true ∧ (mq_inb (v3 + 2) L = true ∧ pu_I L (d + 9) 138 [.ref 0, .int (M 1000000 (v3 + 1 : Int32).toNatClampNeg), .int (M 1000000 (v3 + 2 : Int32).toNatClampNeg)] M (fun x123 M122 => (mq_inb (v3 + 1) L = true ∧ (mq_inb (v3 + 2) L = true ∧ pu_I L (d + 9) 241 [.ref 58, .int (M122 1000000 (v3 + 1 : Int32).toNatClampNeg), .int (M122 1000000 (v3 + 2 : Int32).toNatClampNeg)] M122 (fun x127 M126 => (if x123 = x127 then pu_R L (d + 10) 263 18 [.ref 1000000, .ref 0, .ref 58, .int (v3 + 6)] [] M126 (pu_qI Q) else Q 0 M126))))))) else (if ((M 1000000 v3.toNatClampNeg) &&& 31) = 17 then (mq_inb (v3 + 1) L = true ∧ pu_I L (d + 9) 139 [.ref 0, .int (M 1000000 (v3 + 1 : Int32).toNatClampNeg)] M (fun x130 M129 => (mq_inb (v3 + 1) L = true ∧ pu_I L (d + 9) 243 [.ref 58, .int (M129 1000000 (v3 + 1 : Int32).toNatClampNeg)] M129 (fun x133 M132 => (if x130 = x133 then pu_R L (d + 10) 263 18 [.ref 1000000, .ref 0, .ref 58, .int (v3 + 6)] [] M132 (pu_qI Q) else Q 0 M132))))) else (if ((M 1000000 v3.toNatClampNeg) &&& 31) = 18 then (mq_inb (v3 + 1) L = true ∧ (mq_inb (v3 + 2) L = true ∧ pu_I L (d + 9) 140 [.ref 0, .int (M 1000000 (v3 + 1 : Int32).toNatClampNeg), .int (M 1000000 (v3 + 2 : Int32).toNatClampNeg)] M (fun x137 M136 => (mq_inb (v3 + 1) L = true ∧ (mq_inb (v3 + 2) L = true ∧ pu_I L (d + 9) 244 [.ref 58, .int (M136 1000000 (v3 + 1 : Int32).toNatClampNeg), .int (M136 1000000 (v3 + 2 : Int32).toNatClampNeg)] M136 (fun x141 M140 => (if x137 = x141 then pu_R L (d + 10) 263 18 [.ref 1000000, .ref 0, .ref 58, .int (v3 + 6)] [] M140 (pu_qI Q) else Q 0 M140))))))) else (if ((M 1000000 v3.toNatClampNeg) &&& 31) = 19 then (mq_inb (v3 + 1) L = true ∧ (mq_inb (v3 + 2) L = true ∧ pu_I L (d + 9) 141 [.ref 0, .int (M 1000000 (v3 + 1 : Int32).toNatClampNeg), .int (M 1000000 (v3 + 2 : Int32).toNatClampNeg)] M (fun x145 M144 => (mq_inb (v3 + 1) L = true ∧ (mq_inb (v3 + 2) L = true ∧ pu_I L (d + 9) 246 [.ref 58, .int (M144 1000000 (v3 + 1 : Int32).toNatClampNeg), .int (M144 1000000 (v3 + 2 : Int32).toNatClampNeg)] M144 (fun x149 M148 => (if x145 = x149 then pu_R L (d + 10) 263 18 [.ref 1000000, .ref 0, .ref 58, .int (v3 + 6)] [] M148 (pu_qI Q) else Q 0 M148))))))) else (if ((M 1000000 v3.toNatClampNeg) &&& 31) = 20 then (mq_inb (v3 + 1) L = true ∧ (mq_inb (v3 + 2) L = true ∧ pu_I L (d + 9) 142 [.ref 0, .int (M 1000000 (v3 + 1 : Int32).toNatClampNeg), .int (M 1000000 (v3 + 2 : Int32).toNatClampNeg)] M (fun x153 M152 => (mq_inb (v3 + 1) L = true ∧ (mq_inb (v3 + 2) L = true ∧ pu_I L (d + 9) 247 [.ref 58, .int (M152 1000000 (v3 + 1 : Int32).toNatClampNeg), .int (M152 1000000 (v3 + 2 : Int32).toNatClampNeg)] M152 (fun x157 M156 => (if x153 = x157 then pu_R L (d + 10) 263 18 [.ref 1000000, .ref 0, .ref 58, .int (v3 + 6)] [] M156 (pu_qI Q) else Q 0 M156))))))) else (if ((M 1000000 v3.toNatClampNeg) &&& 31) = 21 then (mq_inb (v3 + 1) L = true ∧ pu_I L (d + 9) 143 [.ref 0, .int (M 1000000 (v3 + 1 : Int32).toNatClampNeg)] M (fun x160 M159 => (mq_inb (v3 + 1) L = true ∧ pu_I L (d + 9) 250 [.ref 58, .int (M159 1000000 (v3 + 1 : Int32).toNatClampNeg)] M159 (fun x163 M162 => (if x160 = x163 then pu_R L (d + 10) 263 18 [.ref 1000000, .ref 0, .ref 58, .int (v3 + 6)] [] M162 (pu_qI Q) else Q 0 M162))))) else (if ((M 1000000 v3.toNatClampNeg) &&& 31) = 22 then (mq_inb (v3 + 1) L = true ∧ pu_I L (d + 9) 144 [.ref 0, .int (M 1000000 (v3 + 1 : Int32).toNatClampNeg)] M (fun x166 M165 => (mq_inb (v3 + 1) L = true ∧ pu_I L (d + 9) 252 [.ref 58, .int (M165 1000000 (v3 + 1 : Int32).toNatClampNeg)] M165 (fun x169 M168 => (if x166 = x169 then pu_R L (d + 10) 263 18 [.ref 1000000, .ref 0, .ref 58, .int (v3 + 6)] [] M168 (pu_qI Q) else Q 0 M168))))) else (if ((M 1000000 v3.toNatClampNeg) &&& 31) = 23 then pu_I L (d + 9) 145 [.ref 0] M (fun x171 M170 => pu_I L (d + 9) 253 [.ref 58] M170 (fun x173 M172 => (if x171 = x173 then pu_R L (d + 10) 263 18 [.ref 1000000, .ref 0, .ref 58, .int (v3 + 6)] [] M172 (pu_qI Q) else Q 0 M172))) else (if ((M 1000000 v3.toNatClampNeg) &&& 31) = 24 then (mq_inb (v3 + 1) L = true ∧ (mq_inb (v3 + 2) L = true ∧ pu_I L (d + 9) 146 [.ref 0, .int (M 1000000 (v3 + 1 : Int32).toNatClampNeg), .int (M 1000000 (v3 + 2 : Int32).toNatClampNeg)] M (fun x177 M176 => (mq_inb (v3 + 1) L = true ∧ (mq_inb (v3 + 2) L = true ∧ pu_I L (d + 9) 254 [.ref 58, .int (M176 1000000 (v3 + 1 : Int32).toNatClampNeg), .int (M176 1000000 (v3 + 2 : Int32).toNatClampNeg)] M176 (fun x181 M180 => (if x177 = x181 then pu_R L (d + 10) 263 18 [.ref 1000000, .ref 0, .ref 58, .int (v3 + 6)] [] M180 (pu_qI Q) else Q 0 M180))))))) else (if ((M 1000000 v3.toNatClampNeg) &&& 31) = 25 then (mq_inb (v3 + 1) L = true ∧ pu_I L (d + 9) 147 [.ref 0, .int (M 1000000 (v3 + 1 : Int32).toNatClampNeg)] M (fun x184 M183 => (mq_inb (v3 + 1) L = true ∧ pu_I L (d + 9) 255 [.ref 58, .int (M183 1000000 (v3 + 1 : Int32).toNatClampNeg)] M183 (fun x187 M186 => (if x184 = x187 then pu_R L (d + 10) 263 18 [.ref 1000000, .ref 0, .ref 58, .int (v3 + 6)] [] M186 (pu_qI Q) else Q 0 M186))))) else (if ((M 1000000 v3.toNatClampNeg) &&& 31) = 26 then pu_I L (d + 9) 148 [.ref 0] M (fun x189 M188 => pu_I L (d + 9) 256 [.ref 58] M188 (fun x191 M190 => (if x189 = x191 then pu_R L (d + 10) 263 18 [.ref 1000000, .ref 0, .ref 58, .int (v3 + 6)] [] M190 (pu_qI Q) else Q 0 M190))) else (if ((M 1000000 v3.toNatClampNeg) &&& 31) = 27 then pu_I L (d + 9) 149 [.ref 0] M (fun x193 M192 => pu_I L (d + 9) 257 [.ref 58] M192 (fun x195 M194 => (if x193 = x195 then pu_R L (d + 10) 263 18 [.ref 1000000, .ref 0, .ref 58, .int (v3 + 6)] [] M194 (pu_qI Q) else Q 0 M194))) else (if ((M 1000000 v3.toNatClampNeg) &&& 31) = 28 then (mq_inb (v3 + 1) L = true ∧ pu_I L (d + 9) 150 [.ref 0, .int (M 1000000 (v3 + 1 : Int32).toNatClampNeg)] M (fun x198 M197 => (mq_inb (v3 + 1) L = true ∧ pu_I L (d + 9) 258 [.ref 58, .int (M197 1000000 (v3 + 1 : Int32).toNatClampNeg)] M197 (fun x201 M200 => (if x198 = x201 then pu_R L (d + 10) 263 18 [.ref 1000000, .ref 0, .ref 58, .int (v3 + 6)] [] M200 (pu_qI Q) else Q 0 M200))))) else (if ((M 1000000 v3.toNatClampNeg) &&& 31) = 29 then (mq_inb (v3 + 1) L = true ∧ pu_I L (d + 9) 151 [.ref 0, .int (M 1000000 (v3 + 1 : Int32).toNatClampNeg)] M (fun x204 M203 => (mq_inb (v3 + 1) L = true ∧ pu_I L (d + 9) 259 [.ref 58, .int (M203 1000000 (v3 + 1 : Int32).toNatClampNeg)] M203 (fun x207 M206 => (if x204 = x207 then pu_R L (d + 10) 263 18 [.ref 1000000, .ref 0, .ref 58, .int (v3 + 6)] [] M206 (pu_qI Q) else Q 0 M206))))) else pu_R L (d + 10) 263 18 [.ref 1000000, .ref 0, .ref 58, .int (v3 + 6)] [] M (pu_qI Q)))))))))))))))))))))))))))))))))) : pu_R L (d + 10) 263 18 [.ref 1000000, .ref 0, .ref 58, .int v3] [] M (pu_qI Q) := by
  refine pu_go 2 (pc' := 20) (ls' := [.ref 1000000, .ref 0, .ref 58, .int v3]) (st' := [.ref 1000000, .int v3]) (M' := M) rfl ?_
  refine pu_alen rfl rfl (Or.inr rfl) ?_
  refine pu_go 2 (pc' := 24) (ls' := [.ref 1000000, .ref 0, .ref 58, .int v3]) (st' := [.int ((Int32.ofNat L) - 6), .int v3]) (M' := M) rfl ?_
  refine pu_icmp_gt rfl (fun hc => ?_) (fun hc => ?_)
  · replace H := Eq.mp (if_pos hc) H
    refine pu_go 1 (pc' := 995) (ls' := [.ref 1000000, .ref 0, .ref 58, .int v3]) (st' := [.int 1]) (M' := M) rfl ?_
    exact pu_ret rfl rfl ⟨_, rfl, H⟩
  · replace H := Eq.mp (if_neg hc) H
    refine pu_go 2 (pc' := 29) (ls' := [.ref 1000000, .ref 0, .ref 58, .int v3]) (st' := [.int v3, .ref 1000000]) (M' := M) rfl ?_
    obtain ⟨hb1, H⟩ := H
    refine pu_iald rfl rfl (Or.inr rfl) hb1 ?_
    refine pu_go 2 (pc' := 33) (ls' := [.ref 1000000, .ref 0, .ref 58, .int v3]) (st' := [.int ((M 1000000 v3.toNatClampNeg) &&& 31)]) (M' := M) rfl ?_
    skip
    by_cases hs33_0 : ((M 1000000 v3.toNatClampNeg) &&& 31) = 0
    · replace H := Eq.mp (if_pos hs33_0) H
      refine pu_one (pc' := 168) (ls' := [.ref 1000000, .ref 0, .ref 58, .int v3]) (st' := []) (M' := M) rfl (by rw [hs33_0]; rfl) ?_
      refine pu_go 5 (pc' := 173) (ls' := [.ref 1000000, .ref 0, .ref 58, .int v3]) (st' := [.int (v3 + 1), .ref 1000000, .ref 0]) (M' := M) rfl ?_
      obtain ⟨hb2, H⟩ := H
      refine pu_iald rfl rfl (Or.inr rfl) hb2 ?_
      refine pu_go 4 (pc' := 178) (ls' := [.ref 1000000, .ref 0, .ref 58, .int v3]) (st' := [.int (v3 + 2), .ref 1000000, .int (M 1000000 (v3 + 1 : Int32).toNatClampNeg), .ref 0]) (M' := M) rfl ?_
      obtain ⟨hb3, H⟩ := H
      refine pu_iald rfl rfl (Or.inr rfl) hb3 ?_
      refine pu_go 4 (pc' := 183) (ls' := [.ref 1000000, .ref 0, .ref 58, .int v3]) (st' := [.int (v3 + 3), .ref 1000000, .int (M 1000000 (v3 + 2 : Int32).toNatClampNeg), .int (M 1000000 (v3 + 1 : Int32).toNatClampNeg), .ref 0]) (M' := M) rfl ?_
      obtain ⟨hb4, H⟩ := H
      refine pu_iald rfl rfl (Or.inr rfl) hb4 ?_
      refine pu_callI (m' := 122) (ml := 4) (as := [.ref 0, .int (M 1000000 (v3 + 1 : Int32).toNatClampNeg), .int (M 1000000 (v3 + 2 : Int32).toNatClampNeg), .int (M 1000000 (v3 + 3 : Int32).toNatClampNeg)]) (rest := []) rfl rfl rfl (Nat.le_of_ble_eq_true rfl) H (fun x6 M5 H => ?_)
      show pu_R L (d + 10) 263 187 [.ref 1000000, .ref 0, .ref 58, .int v3] [.int x6] M5 _
      refine pu_go 5 (pc' := 192) (ls' := [.ref 1000000, .ref 0, .ref 58, .int v3]) (st' := [.int (v3 + 1), .ref 1000000, .ref 58, .int x6]) (M' := M5) rfl ?_
      obtain ⟨hb7, H⟩ := H
      refine pu_iald rfl rfl (Or.inr rfl) hb7 ?_
      refine pu_go 4 (pc' := 197) (ls' := [.ref 1000000, .ref 0, .ref 58, .int v3]) (st' := [.int (v3 + 2), .ref 1000000, .int (M5 1000000 (v3 + 1 : Int32).toNatClampNeg), .ref 58, .int x6]) (M' := M5) rfl ?_
      obtain ⟨hb8, H⟩ := H
      refine pu_iald rfl rfl (Or.inr rfl) hb8 ?_
      refine pu_go 4 (pc' := 202) (ls' := [.ref 1000000, .ref 0, .ref 58, .int v3]) (st' := [.int (v3 + 3), .ref 1000000, .int (M5 1000000 (v3 + 2 : Int32).toNatClampNeg), .int (M5 1000000 (v3 + 1 : Int32).toNatClampNeg), .ref 58, .int x6]) (M' := M5) rfl ?_
      obtain ⟨hb9, H⟩ := H
      refine pu_iald rfl rfl (Or.inr rfl) hb9 ?_
      refine pu_callI (m' := 174) (ml := 4) (as := [.ref 58, .int (M5 1000000 (v3 + 1 : Int32).toNatClampNeg), .int (M5 1000000 (v3 + 2 : Int32).toNatClampNeg), .int (M5 1000000 (v3 + 3 : Int32).toNatClampNeg)]) (rest := [.int x6]) rfl rfl rfl (Nat.le_of_ble_eq_true rfl) H (fun x11 M10 H => ?_)
      show pu_R L (d + 10) 263 206 [.ref 1000000, .ref 0, .ref 58, .int v3] [.int x11, .int x6] M10 _
      refine pu_icmp_eq rfl (fun hc => ?_) (fun hc => ?_)
      · replace H := Eq.mp (if_pos hc) H
        refine pu_go 2 (pc' := 18) (ls' := [.ref 1000000, .ref 0, .ref 58, .int (v3 + 6)]) (st' := []) (M' := M10) rfl ?_
        exact H
      · replace H := Eq.mp (if_neg hc) H
        refine pu_go 1 (pc' := 210) (ls' := [.ref 1000000, .ref 0, .ref 58, .int v3]) (st' := [.int 0]) (M' := M10) rfl ?_
        exact pu_ret rfl rfl ⟨_, rfl, H⟩
    replace H := Eq.mp (if_neg hs33_0) H
    by_cases hs33_1 : ((M 1000000 v3.toNatClampNeg) &&& 31) = 1
    · replace H := Eq.mp (if_pos hs33_1) H
      refine pu_one (pc' := 211) (ls' := [.ref 1000000, .ref 0, .ref 58, .int v3]) (st' := []) (M' := M) rfl (by rw [hs33_1]; rfl) ?_
      refine pu_go 5 (pc' := 216) (ls' := [.ref 1000000, .ref 0, .ref 58, .int v3]) (st' := [.int (v3 + 1), .ref 1000000, .ref 0]) (M' := M) rfl ?_
      obtain ⟨hb12, H⟩ := H
      refine pu_iald rfl rfl (Or.inr rfl) hb12 ?_
      refine pu_go 4 (pc' := 221) (ls' := [.ref 1000000, .ref 0, .ref 58, .int v3]) (st' := [.int (v3 + 2), .ref 1000000, .int (M 1000000 (v3 + 1 : Int32).toNatClampNeg), .ref 0]) (M' := M) rfl ?_
      obtain ⟨hb13, H⟩ := H
      refine pu_iald rfl rfl (Or.inr rfl) hb13 ?_
      refine pu_go 4 (pc' := 226) (ls' := [.ref 1000000, .ref 0, .ref 58, .int v3]) (st' := [.int (v3 + 3), .ref 1000000, .int (M 1000000 (v3 + 2 : Int32).toNatClampNeg), .int (M 1000000 (v3 + 1 : Int32).toNatClampNeg), .ref 0]) (M' := M) rfl ?_
      obtain ⟨hb14, H⟩ := H
      refine pu_iald rfl rfl (Or.inr rfl) hb14 ?_
      refine pu_go 4 (pc' := 231) (ls' := [.ref 1000000, .ref 0, .ref 58, .int v3]) (st' := [.int (v3 + 4), .ref 1000000, .int (M 1000000 (v3 + 3 : Int32).toNatClampNeg), .int (M 1000000 (v3 + 2 : Int32).toNatClampNeg), .int (M 1000000 (v3 + 1 : Int32).toNatClampNeg), .ref 0]) (M' := M) rfl ?_
      obtain ⟨hb15, H⟩ := H
      refine pu_iald rfl rfl (Or.inr rfl) hb15 ?_
      refine pu_go 4 (pc' := 236) (ls' := [.ref 1000000, .ref 0, .ref 58, .int v3]) (st' := [.int (v3 + 5), .ref 1000000, .int (M 1000000 (v3 + 4 : Int32).toNatClampNeg), .int (M 1000000 (v3 + 3 : Int32).toNatClampNeg), .int (M 1000000 (v3 + 2 : Int32).toNatClampNeg), .int (M 1000000 (v3 + 1 : Int32).toNatClampNeg), .ref 0]) (M' := M) rfl ?_
      obtain ⟨hb16, H⟩ := H
      refine pu_iald rfl rfl (Or.inr rfl) hb16 ?_
      refine pu_callI (m' := 123) (ml := 6) (as := [.ref 0, .int (M 1000000 (v3 + 1 : Int32).toNatClampNeg), .int (M 1000000 (v3 + 2 : Int32).toNatClampNeg), .int (M 1000000 (v3 + 3 : Int32).toNatClampNeg), .int (M 1000000 (v3 + 4 : Int32).toNatClampNeg), .int (M 1000000 (v3 + 5 : Int32).toNatClampNeg)]) (rest := []) rfl rfl rfl (Nat.le_of_ble_eq_true rfl) H (fun x18 M17 H => ?_)
      show pu_R L (d + 10) 263 240 [.ref 1000000, .ref 0, .ref 58, .int v3] [.int x18] M17 _
      refine pu_go 5 (pc' := 245) (ls' := [.ref 1000000, .ref 0, .ref 58, .int v3]) (st' := [.int (v3 + 1), .ref 1000000, .ref 58, .int x18]) (M' := M17) rfl ?_
      obtain ⟨hb19, H⟩ := H
      refine pu_iald rfl rfl (Or.inr rfl) hb19 ?_
      refine pu_go 4 (pc' := 250) (ls' := [.ref 1000000, .ref 0, .ref 58, .int v3]) (st' := [.int (v3 + 2), .ref 1000000, .int (M17 1000000 (v3 + 1 : Int32).toNatClampNeg), .ref 58, .int x18]) (M' := M17) rfl ?_
      obtain ⟨hb20, H⟩ := H
      refine pu_iald rfl rfl (Or.inr rfl) hb20 ?_
      refine pu_go 4 (pc' := 255) (ls' := [.ref 1000000, .ref 0, .ref 58, .int v3]) (st' := [.int (v3 + 3), .ref 1000000, .int (M17 1000000 (v3 + 2 : Int32).toNatClampNeg), .int (M17 1000000 (v3 + 1 : Int32).toNatClampNeg), .ref 58, .int x18]) (M' := M17) rfl ?_
      obtain ⟨hb21, H⟩ := H
      refine pu_iald rfl rfl (Or.inr rfl) hb21 ?_
      refine pu_go 4 (pc' := 260) (ls' := [.ref 1000000, .ref 0, .ref 58, .int v3]) (st' := [.int (v3 + 4), .ref 1000000, .int (M17 1000000 (v3 + 3 : Int32).toNatClampNeg), .int (M17 1000000 (v3 + 2 : Int32).toNatClampNeg), .int (M17 1000000 (v3 + 1 : Int32).toNatClampNeg), .ref 58, .int x18]) (M' := M17) rfl ?_
      obtain ⟨hb22, H⟩ := H
      refine pu_iald rfl rfl (Or.inr rfl) hb22 ?_
      refine pu_go 4 (pc' := 265) (ls' := [.ref 1000000, .ref 0, .ref 58, .int v3]) (st' := [.int (v3 + 5), .ref 1000000, .int (M17 1000000 (v3 + 4 : Int32).toNatClampNeg), .int (M17 1000000 (v3 + 3 : Int32).toNatClampNeg), .int (M17 1000000 (v3 + 2 : Int32).toNatClampNeg), .int (M17 1000000 (v3 + 1 : Int32).toNatClampNeg), .ref 58, .int x18]) (M' := M17) rfl ?_
      obtain ⟨hb23, H⟩ := H
      refine pu_iald rfl rfl (Or.inr rfl) hb23 ?_
      refine pu_callI (m' := 176) (ml := 6) (as := [.ref 58, .int (M17 1000000 (v3 + 1 : Int32).toNatClampNeg), .int (M17 1000000 (v3 + 2 : Int32).toNatClampNeg), .int (M17 1000000 (v3 + 3 : Int32).toNatClampNeg), .int (M17 1000000 (v3 + 4 : Int32).toNatClampNeg), .int (M17 1000000 (v3 + 5 : Int32).toNatClampNeg)]) (rest := [.int x18]) rfl rfl rfl (Nat.le_of_ble_eq_true rfl) H (fun x25 M24 H => ?_)
      show pu_R L (d + 10) 263 269 [.ref 1000000, .ref 0, .ref 58, .int v3] [.int x25, .int x18] M24 _
      refine pu_icmp_eq rfl (fun hc => ?_) (fun hc => ?_)
      · replace H := Eq.mp (if_pos hc) H
        refine pu_go 2 (pc' := 18) (ls' := [.ref 1000000, .ref 0, .ref 58, .int (v3 + 6)]) (st' := []) (M' := M24) rfl ?_
        exact H
      · replace H := Eq.mp (if_neg hc) H
        refine pu_go 1 (pc' := 273) (ls' := [.ref 1000000, .ref 0, .ref 58, .int v3]) (st' := [.int 0]) (M' := M24) rfl ?_
        exact pu_ret rfl rfl ⟨_, rfl, H⟩
    replace H := Eq.mp (if_neg hs33_1) H
    by_cases hs33_2 : ((M 1000000 v3.toNatClampNeg) &&& 31) = 2
    · replace H := Eq.mp (if_pos hs33_2) H
      refine pu_one (pc' := 274) (ls' := [.ref 1000000, .ref 0, .ref 58, .int v3]) (st' := []) (M' := M) rfl (by rw [hs33_2]; rfl) ?_
      refine pu_go 5 (pc' := 279) (ls' := [.ref 1000000, .ref 0, .ref 58, .int v3]) (st' := [.int (v3 + 1), .ref 1000000, .ref 0]) (M' := M) rfl ?_
      obtain ⟨hb26, H⟩ := H
      refine pu_iald rfl rfl (Or.inr rfl) hb26 ?_
      refine pu_callI (m' := 124) (ml := 4) (as := [.ref 0, .int (M 1000000 (v3 + 1 : Int32).toNatClampNeg)]) (rest := []) rfl rfl rfl (Nat.le_of_ble_eq_true rfl) H (fun x28 M27 H => ?_)
      show pu_R L (d + 10) 263 283 [.ref 1000000, .ref 0, .ref 58, .int v3] [.int x28] M27 _
      refine pu_go 5 (pc' := 288) (ls' := [.ref 1000000, .ref 0, .ref 58, .int v3]) (st' := [.int (v3 + 1), .ref 1000000, .ref 58, .int x28]) (M' := M27) rfl ?_
      obtain ⟨hb29, H⟩ := H
      refine pu_iald rfl rfl (Or.inr rfl) hb29 ?_
      refine pu_callI (m' := 199) (ml := 4) (as := [.ref 58, .int (M27 1000000 (v3 + 1 : Int32).toNatClampNeg)]) (rest := [.int x28]) rfl rfl rfl (Nat.le_of_ble_eq_true rfl) H (fun x31 M30 H => ?_)
      show pu_R L (d + 10) 263 292 [.ref 1000000, .ref 0, .ref 58, .int v3] [.int x31, .int x28] M30 _
      refine pu_icmp_eq rfl (fun hc => ?_) (fun hc => ?_)
      · replace H := Eq.mp (if_pos hc) H
        refine pu_go 2 (pc' := 18) (ls' := [.ref 1000000, .ref 0, .ref 58, .int (v3 + 6)]) (st' := []) (M' := M30) rfl ?_
        exact H
      · replace H := Eq.mp (if_neg hc) H
        refine pu_go 1 (pc' := 296) (ls' := [.ref 1000000, .ref 0, .ref 58, .int v3]) (st' := [.int 0]) (M' := M30) rfl ?_
        exact pu_ret rfl rfl ⟨_, rfl, H⟩
    replace H := Eq.mp (if_neg hs33_2) H
    by_cases hs33_3 : ((M 1000000 v3.toNatClampNeg) &&& 31) = 3
    · replace H := Eq.mp (if_pos hs33_3) H
      refine pu_one (pc' := 297) (ls' := [.ref 1000000, .ref 0, .ref 58, .int v3]) (st' := []) (M' := M) rfl (by rw [hs33_3]; rfl) ?_
      refine pu_go 5 (pc' := 302) (ls' := [.ref 1000000, .ref 0, .ref 58, .int v3]) (st' := [.int (v3 + 1), .ref 1000000, .ref 0]) (M' := M) rfl ?_
      obtain ⟨hb32, H⟩ := H
      refine pu_iald rfl rfl (Or.inr rfl) hb32 ?_
      refine pu_callI (m' := 125) (ml := 4) (as := [.ref 0, .int (M 1000000 (v3 + 1 : Int32).toNatClampNeg)]) (rest := []) rfl rfl rfl (Nat.le_of_ble_eq_true rfl) H (fun x34 M33 H => ?_)
      show pu_R L (d + 10) 263 306 [.ref 1000000, .ref 0, .ref 58, .int v3] [.int x34] M33 _
      refine pu_go 5 (pc' := 311) (ls' := [.ref 1000000, .ref 0, .ref 58, .int v3]) (st' := [.int (v3 + 1), .ref 1000000, .ref 58, .int x34]) (M' := M33) rfl ?_
      obtain ⟨hb35, H⟩ := H
      refine pu_iald rfl rfl (Or.inr rfl) hb35 ?_
      refine pu_callI (m' := 210) (ml := 3) (as := [.ref 58, .int (M33 1000000 (v3 + 1 : Int32).toNatClampNeg)]) (rest := [.int x34]) rfl rfl rfl (Nat.le_of_ble_eq_true rfl) H (fun x37 M36 H => ?_)
      show pu_R L (d + 10) 263 315 [.ref 1000000, .ref 0, .ref 58, .int v3] [.int x37, .int x34] M36 _
      refine pu_icmp_eq rfl (fun hc => ?_) (fun hc => ?_)
      · replace H := Eq.mp (if_pos hc) H
        refine pu_go 2 (pc' := 18) (ls' := [.ref 1000000, .ref 0, .ref 58, .int (v3 + 6)]) (st' := []) (M' := M36) rfl ?_
        exact H
      · replace H := Eq.mp (if_neg hc) H
        refine pu_go 1 (pc' := 319) (ls' := [.ref 1000000, .ref 0, .ref 58, .int v3]) (st' := [.int 0]) (M' := M36) rfl ?_
        exact pu_ret rfl rfl ⟨_, rfl, H⟩
    replace H := Eq.mp (if_neg hs33_3) H
    by_cases hs33_4 : ((M 1000000 v3.toNatClampNeg) &&& 31) = 4
    · replace H := Eq.mp (if_pos hs33_4) H
      refine pu_one (pc' := 320) (ls' := [.ref 1000000, .ref 0, .ref 58, .int v3]) (st' := []) (M' := M) rfl (by rw [hs33_4]; rfl) ?_
      refine pu_go 5 (pc' := 325) (ls' := [.ref 1000000, .ref 0, .ref 58, .int v3]) (st' := [.int (v3 + 1), .ref 1000000, .ref 0]) (M' := M) rfl ?_
      obtain ⟨hb38, H⟩ := H
      refine pu_iald rfl rfl (Or.inr rfl) hb38 ?_
      refine pu_callI (m' := 126) (ml := 4) (as := [.ref 0, .int (M 1000000 (v3 + 1 : Int32).toNatClampNeg)]) (rest := []) rfl rfl rfl (Nat.le_of_ble_eq_true rfl) H (fun x40 M39 H => ?_)
      show pu_R L (d + 10) 263 329 [.ref 1000000, .ref 0, .ref 58, .int v3] [.int x40] M39 _
      refine pu_go 5 (pc' := 334) (ls' := [.ref 1000000, .ref 0, .ref 58, .int v3]) (st' := [.int (v3 + 1), .ref 1000000, .ref 58, .int x40]) (M' := M39) rfl ?_
      obtain ⟨hb41, H⟩ := H
      refine pu_iald rfl rfl (Or.inr rfl) hb41 ?_
      refine pu_callI (m' := 212) (ml := 4) (as := [.ref 58, .int (M39 1000000 (v3 + 1 : Int32).toNatClampNeg)]) (rest := [.int x40]) rfl rfl rfl (Nat.le_of_ble_eq_true rfl) H (fun x43 M42 H => ?_)
      show pu_R L (d + 10) 263 338 [.ref 1000000, .ref 0, .ref 58, .int v3] [.int x43, .int x40] M42 _
      refine pu_icmp_eq rfl (fun hc => ?_) (fun hc => ?_)
      · replace H := Eq.mp (if_pos hc) H
        refine pu_go 2 (pc' := 18) (ls' := [.ref 1000000, .ref 0, .ref 58, .int (v3 + 6)]) (st' := []) (M' := M42) rfl ?_
        exact H
      · replace H := Eq.mp (if_neg hc) H
        refine pu_go 1 (pc' := 342) (ls' := [.ref 1000000, .ref 0, .ref 58, .int v3]) (st' := [.int 0]) (M' := M42) rfl ?_
        exact pu_ret rfl rfl ⟨_, rfl, H⟩
    replace H := Eq.mp (if_neg hs33_4) H
    by_cases hs33_5 : ((M 1000000 v3.toNatClampNeg) &&& 31) = 5
    · replace H := Eq.mp (if_pos hs33_5) H
      refine pu_one (pc' := 343) (ls' := [.ref 1000000, .ref 0, .ref 58, .int v3]) (st' := []) (M' := M) rfl (by rw [hs33_5]; rfl) ?_
      refine pu_go 5 (pc' := 348) (ls' := [.ref 1000000, .ref 0, .ref 58, .int v3]) (st' := [.int (v3 + 1), .ref 1000000, .ref 0]) (M' := M) rfl ?_
      obtain ⟨hb44, H⟩ := H
      refine pu_iald rfl rfl (Or.inr rfl) hb44 ?_
      refine pu_callI (m' := 127) (ml := 2) (as := [.ref 0, .int (M 1000000 (v3 + 1 : Int32).toNatClampNeg)]) (rest := []) rfl rfl rfl (Nat.le_of_ble_eq_true rfl) H (fun x46 M45 H => ?_)
      show pu_R L (d + 10) 263 352 [.ref 1000000, .ref 0, .ref 58, .int v3] [.int x46] M45 _
      refine pu_go 5 (pc' := 357) (ls' := [.ref 1000000, .ref 0, .ref 58, .int v3]) (st' := [.int (v3 + 1), .ref 1000000, .ref 58, .int x46]) (M' := M45) rfl ?_
      obtain ⟨hb47, H⟩ := H
      refine pu_iald rfl rfl (Or.inr rfl) hb47 ?_
      refine pu_callI (m' := 217) (ml := 2) (as := [.ref 58, .int (M45 1000000 (v3 + 1 : Int32).toNatClampNeg)]) (rest := [.int x46]) rfl rfl rfl (Nat.le_of_ble_eq_true rfl) H (fun x49 M48 H => ?_)
      show pu_R L (d + 10) 263 361 [.ref 1000000, .ref 0, .ref 58, .int v3] [.int x49, .int x46] M48 _
      refine pu_icmp_eq rfl (fun hc => ?_) (fun hc => ?_)
      · replace H := Eq.mp (if_pos hc) H
        refine pu_go 2 (pc' := 18) (ls' := [.ref 1000000, .ref 0, .ref 58, .int (v3 + 6)]) (st' := []) (M' := M48) rfl ?_
        exact H
      · replace H := Eq.mp (if_neg hc) H
        refine pu_go 1 (pc' := 365) (ls' := [.ref 1000000, .ref 0, .ref 58, .int v3]) (st' := [.int 0]) (M' := M48) rfl ?_
        exact pu_ret rfl rfl ⟨_, rfl, H⟩
    replace H := Eq.mp (if_neg hs33_5) H
    by_cases hs33_6 : ((M 1000000 v3.toNatClampNeg) &&& 31) = 6
    · replace H := Eq.mp (if_pos hs33_6) H
      refine pu_one (pc' := 366) (ls' := [.ref 1000000, .ref 0, .ref 58, .int v3]) (st' := []) (M' := M) rfl (by rw [hs33_6]; rfl) ?_
      refine pu_go 5 (pc' := 371) (ls' := [.ref 1000000, .ref 0, .ref 58, .int v3]) (st' := [.int (v3 + 1), .ref 1000000, .ref 0]) (M' := M) rfl ?_
      obtain ⟨hb50, H⟩ := H
      refine pu_iald rfl rfl (Or.inr rfl) hb50 ?_
      refine pu_go 4 (pc' := 376) (ls' := [.ref 1000000, .ref 0, .ref 58, .int v3]) (st' := [.int (v3 + 2), .ref 1000000, .int (M 1000000 (v3 + 1 : Int32).toNatClampNeg), .ref 0]) (M' := M) rfl ?_
      obtain ⟨hb51, H⟩ := H
      refine pu_iald rfl rfl (Or.inr rfl) hb51 ?_
      refine pu_callI (m' := 128) (ml := 6) (as := [.ref 0, .int (M 1000000 (v3 + 1 : Int32).toNatClampNeg), .int (M 1000000 (v3 + 2 : Int32).toNatClampNeg)]) (rest := []) rfl rfl rfl (Nat.le_of_ble_eq_true rfl) H (fun x53 M52 H => ?_)
      show pu_R L (d + 10) 263 380 [.ref 1000000, .ref 0, .ref 58, .int v3] [.int x53] M52 _
      refine pu_go 5 (pc' := 385) (ls' := [.ref 1000000, .ref 0, .ref 58, .int v3]) (st' := [.int (v3 + 1), .ref 1000000, .ref 58, .int x53]) (M' := M52) rfl ?_
      obtain ⟨hb54, H⟩ := H
      refine pu_iald rfl rfl (Or.inr rfl) hb54 ?_
      refine pu_go 4 (pc' := 390) (ls' := [.ref 1000000, .ref 0, .ref 58, .int v3]) (st' := [.int (v3 + 2), .ref 1000000, .int (M52 1000000 (v3 + 1 : Int32).toNatClampNeg), .ref 58, .int x53]) (M' := M52) rfl ?_
      obtain ⟨hb55, H⟩ := H
      refine pu_iald rfl rfl (Or.inr rfl) hb55 ?_
      refine pu_callI (m' := 219) (ml := 4) (as := [.ref 58, .int (M52 1000000 (v3 + 1 : Int32).toNatClampNeg), .int (M52 1000000 (v3 + 2 : Int32).toNatClampNeg)]) (rest := [.int x53]) rfl rfl rfl (Nat.le_of_ble_eq_true rfl) H (fun x57 M56 H => ?_)
      show pu_R L (d + 10) 263 394 [.ref 1000000, .ref 0, .ref 58, .int v3] [.int x57, .int x53] M56 _
      refine pu_icmp_eq rfl (fun hc => ?_) (fun hc => ?_)
      · replace H := Eq.mp (if_pos hc) H
        refine pu_go 2 (pc' := 18) (ls' := [.ref 1000000, .ref 0, .ref 58, .int (v3 + 6)]) (st' := []) (M' := M56) rfl ?_
        exact H
      · replace H := Eq.mp (if_neg hc) H
        refine pu_go 1 (pc' := 398) (ls' := [.ref 1000000, .ref 0, .ref 58, .int v3]) (st' := [.int 0]) (M' := M56) rfl ?_
        exact pu_ret rfl rfl ⟨_, rfl, H⟩
    replace H := Eq.mp (if_neg hs33_6) H
    by_cases hs33_7 : ((M 1000000 v3.toNatClampNeg) &&& 31) = 7
    · replace H := Eq.mp (if_pos hs33_7) H
      refine pu_one (pc' := 399) (ls' := [.ref 1000000, .ref 0, .ref 58, .int v3]) (st' := []) (M' := M) rfl (by rw [hs33_7]; rfl) ?_
      refine pu_go 5 (pc' := 404) (ls' := [.ref 1000000, .ref 0, .ref 58, .int v3]) (st' := [.int (v3 + 1), .ref 1000000, .ref 0]) (M' := M) rfl ?_
      obtain ⟨hb58, H⟩ := H
      refine pu_iald rfl rfl (Or.inr rfl) hb58 ?_
      refine pu_go 4 (pc' := 409) (ls' := [.ref 1000000, .ref 0, .ref 58, .int v3]) (st' := [.int (v3 + 2), .ref 1000000, .int (M 1000000 (v3 + 1 : Int32).toNatClampNeg), .ref 0]) (M' := M) rfl ?_
      obtain ⟨hb59, H⟩ := H
      refine pu_iald rfl rfl (Or.inr rfl) hb59 ?_
      refine pu_callI (m' := 129) (ml := 3) (as := [.ref 0, .int (M 1000000 (v3 + 1 : Int32).toNatClampNeg), .int (M 1000000 (v3 + 2 : Int32).toNatClampNeg)]) (rest := []) rfl rfl rfl (Nat.le_of_ble_eq_true rfl) H (fun x61 M60 H => ?_)
      show pu_R L (d + 10) 263 413 [.ref 1000000, .ref 0, .ref 58, .int v3] [.int x61] M60 _
      refine pu_go 5 (pc' := 418) (ls' := [.ref 1000000, .ref 0, .ref 58, .int v3]) (st' := [.int (v3 + 1), .ref 1000000, .ref 58, .int x61]) (M' := M60) rfl ?_
      obtain ⟨hb62, H⟩ := H
      refine pu_iald rfl rfl (Or.inr rfl) hb62 ?_
      refine pu_go 4 (pc' := 423) (ls' := [.ref 1000000, .ref 0, .ref 58, .int v3]) (st' := [.int (v3 + 2), .ref 1000000, .int (M60 1000000 (v3 + 1 : Int32).toNatClampNeg), .ref 58, .int x61]) (M' := M60) rfl ?_
      obtain ⟨hb63, H⟩ := H
      refine pu_iald rfl rfl (Or.inr rfl) hb63 ?_
      refine pu_callI (m' := 221) (ml := 3) (as := [.ref 58, .int (M60 1000000 (v3 + 1 : Int32).toNatClampNeg), .int (M60 1000000 (v3 + 2 : Int32).toNatClampNeg)]) (rest := [.int x61]) rfl rfl rfl (Nat.le_of_ble_eq_true rfl) H (fun x65 M64 H => ?_)
      show pu_R L (d + 10) 263 427 [.ref 1000000, .ref 0, .ref 58, .int v3] [.int x65, .int x61] M64 _
      refine pu_icmp_eq rfl (fun hc => ?_) (fun hc => ?_)
      · replace H := Eq.mp (if_pos hc) H
        refine pu_go 2 (pc' := 18) (ls' := [.ref 1000000, .ref 0, .ref 58, .int (v3 + 6)]) (st' := []) (M' := M64) rfl ?_
        exact H
      · replace H := Eq.mp (if_neg hc) H
        refine pu_go 1 (pc' := 431) (ls' := [.ref 1000000, .ref 0, .ref 58, .int v3]) (st' := [.int 0]) (M' := M64) rfl ?_
        exact pu_ret rfl rfl ⟨_, rfl, H⟩
    replace H := Eq.mp (if_neg hs33_7) H
    by_cases hs33_8 : ((M 1000000 v3.toNatClampNeg) &&& 31) = 8
    · replace H := Eq.mp (if_pos hs33_8) H
      refine pu_one (pc' := 432) (ls' := [.ref 1000000, .ref 0, .ref 58, .int v3]) (st' := []) (M' := M) rfl (by rw [hs33_8]; rfl) ?_
      refine pu_go 5 (pc' := 437) (ls' := [.ref 1000000, .ref 0, .ref 58, .int v3]) (st' := [.int (v3 + 1), .ref 1000000, .ref 0]) (M' := M) rfl ?_
      obtain ⟨hb66, H⟩ := H
      refine pu_iald rfl rfl (Or.inr rfl) hb66 ?_
      refine pu_go 4 (pc' := 442) (ls' := [.ref 1000000, .ref 0, .ref 58, .int v3]) (st' := [.int (v3 + 2), .ref 1000000, .int (M 1000000 (v3 + 1 : Int32).toNatClampNeg), .ref 0]) (M' := M) rfl ?_
      obtain ⟨hb67, H⟩ := H
      refine pu_iald rfl rfl (Or.inr rfl) hb67 ?_
      refine pu_callI (m' := 130) (ml := 3) (as := [.ref 0, .int (M 1000000 (v3 + 1 : Int32).toNatClampNeg), .int (M 1000000 (v3 + 2 : Int32).toNatClampNeg)]) (rest := []) rfl rfl rfl (Nat.le_of_ble_eq_true rfl) H (fun x69 M68 H => ?_)
      show pu_R L (d + 10) 263 446 [.ref 1000000, .ref 0, .ref 58, .int v3] [.int x69] M68 _
      refine pu_go 5 (pc' := 451) (ls' := [.ref 1000000, .ref 0, .ref 58, .int v3]) (st' := [.int (v3 + 1), .ref 1000000, .ref 58, .int x69]) (M' := M68) rfl ?_
      obtain ⟨hb70, H⟩ := H
      refine pu_iald rfl rfl (Or.inr rfl) hb70 ?_
      refine pu_go 4 (pc' := 456) (ls' := [.ref 1000000, .ref 0, .ref 58, .int v3]) (st' := [.int (v3 + 2), .ref 1000000, .int (M68 1000000 (v3 + 1 : Int32).toNatClampNeg), .ref 58, .int x69]) (M' := M68) rfl ?_
      obtain ⟨hb71, H⟩ := H
      refine pu_iald rfl rfl (Or.inr rfl) hb71 ?_
      refine pu_callI (m' := 222) (ml := 3) (as := [.ref 58, .int (M68 1000000 (v3 + 1 : Int32).toNatClampNeg), .int (M68 1000000 (v3 + 2 : Int32).toNatClampNeg)]) (rest := [.int x69]) rfl rfl rfl (Nat.le_of_ble_eq_true rfl) H (fun x73 M72 H => ?_)
      show pu_R L (d + 10) 263 460 [.ref 1000000, .ref 0, .ref 58, .int v3] [.int x73, .int x69] M72 _
      refine pu_icmp_eq rfl (fun hc => ?_) (fun hc => ?_)
      · replace H := Eq.mp (if_pos hc) H
        refine pu_go 2 (pc' := 18) (ls' := [.ref 1000000, .ref 0, .ref 58, .int (v3 + 6)]) (st' := []) (M' := M72) rfl ?_
        exact H
      · replace H := Eq.mp (if_neg hc) H
        refine pu_go 1 (pc' := 464) (ls' := [.ref 1000000, .ref 0, .ref 58, .int v3]) (st' := [.int 0]) (M' := M72) rfl ?_
        exact pu_ret rfl rfl ⟨_, rfl, H⟩
    replace H := Eq.mp (if_neg hs33_8) H
    by_cases hs33_9 : ((M 1000000 v3.toNatClampNeg) &&& 31) = 9
    · replace H := Eq.mp (if_pos hs33_9) H
      refine pu_one (pc' := 465) (ls' := [.ref 1000000, .ref 0, .ref 58, .int v3]) (st' := []) (M' := M) rfl (by rw [hs33_9]; rfl) ?_
      refine pu_go 1 (pc' := 466) (ls' := [.ref 1000000, .ref 0, .ref 58, .int v3]) (st' := [.ref 0]) (M' := M) rfl ?_
      refine pu_callI (m' := 131) (ml := 3) (as := [.ref 0]) (rest := []) rfl rfl rfl (Nat.le_of_ble_eq_true rfl) H (fun x75 M74 H => ?_)
      show pu_R L (d + 10) 263 469 [.ref 1000000, .ref 0, .ref 58, .int v3] [.int x75] M74 _
      refine pu_go 1 (pc' := 470) (ls' := [.ref 1000000, .ref 0, .ref 58, .int v3]) (st' := [.ref 58, .int x75]) (M' := M74) rfl ?_
      refine pu_callI (m' := 223) (ml := 4) (as := [.ref 58]) (rest := [.int x75]) rfl rfl rfl (Nat.le_of_ble_eq_true rfl) H (fun x77 M76 H => ?_)
      show pu_R L (d + 10) 263 473 [.ref 1000000, .ref 0, .ref 58, .int v3] [.int x77, .int x75] M76 _
      refine pu_icmp_eq rfl (fun hc => ?_) (fun hc => ?_)
      · replace H := Eq.mp (if_pos hc) H
        refine pu_go 2 (pc' := 18) (ls' := [.ref 1000000, .ref 0, .ref 58, .int (v3 + 6)]) (st' := []) (M' := M76) rfl ?_
        exact H
      · replace H := Eq.mp (if_neg hc) H
        refine pu_go 1 (pc' := 477) (ls' := [.ref 1000000, .ref 0, .ref 58, .int v3]) (st' := [.int 0]) (M' := M76) rfl ?_
        exact pu_ret rfl rfl ⟨_, rfl, H⟩
    replace H := Eq.mp (if_neg hs33_9) H
    by_cases hs33_10 : ((M 1000000 v3.toNatClampNeg) &&& 31) = 10
    · replace H := Eq.mp (if_pos hs33_10) H
      refine pu_one (pc' := 478) (ls' := [.ref 1000000, .ref 0, .ref 58, .int v3]) (st' := []) (M' := M) rfl (by rw [hs33_10]; rfl) ?_
      refine pu_go 5 (pc' := 483) (ls' := [.ref 1000000, .ref 0, .ref 58, .int v3]) (st' := [.int (v3 + 1), .ref 1000000, .ref 0]) (M' := M) rfl ?_
      obtain ⟨hb78, H⟩ := H
      refine pu_iald rfl rfl (Or.inr rfl) hb78 ?_
      refine pu_go 4 (pc' := 488) (ls' := [.ref 1000000, .ref 0, .ref 58, .int v3]) (st' := [.int (v3 + 2), .ref 1000000, .int (M 1000000 (v3 + 1 : Int32).toNatClampNeg), .ref 0]) (M' := M) rfl ?_
      obtain ⟨hb79, H⟩ := H
      refine pu_iald rfl rfl (Or.inr rfl) hb79 ?_
      refine pu_callI (m' := 132) (ml := 3) (as := [.ref 0, .int (M 1000000 (v3 + 1 : Int32).toNatClampNeg), .int (M 1000000 (v3 + 2 : Int32).toNatClampNeg)]) (rest := []) rfl rfl rfl (Nat.le_of_ble_eq_true rfl) H (fun x81 M80 H => ?_)
      show pu_R L (d + 10) 263 492 [.ref 1000000, .ref 0, .ref 58, .int v3] [.int x81] M80 _
      refine pu_go 5 (pc' := 497) (ls' := [.ref 1000000, .ref 0, .ref 58, .int v3]) (st' := [.int (v3 + 1), .ref 1000000, .ref 58, .int x81]) (M' := M80) rfl ?_
      obtain ⟨hb82, H⟩ := H
      refine pu_iald rfl rfl (Or.inr rfl) hb82 ?_
      refine pu_go 4 (pc' := 502) (ls' := [.ref 1000000, .ref 0, .ref 58, .int v3]) (st' := [.int (v3 + 2), .ref 1000000, .int (M80 1000000 (v3 + 1 : Int32).toNatClampNeg), .ref 58, .int x81]) (M' := M80) rfl ?_
      obtain ⟨hb83, H⟩ := H
      refine pu_iald rfl rfl (Or.inr rfl) hb83 ?_
      refine pu_callI (m' := 225) (ml := 8) (as := [.ref 58, .int (M80 1000000 (v3 + 1 : Int32).toNatClampNeg), .int (M80 1000000 (v3 + 2 : Int32).toNatClampNeg)]) (rest := [.int x81]) rfl rfl rfl (Nat.le_of_ble_eq_true rfl) H (fun x85 M84 H => ?_)
      show pu_R L (d + 10) 263 506 [.ref 1000000, .ref 0, .ref 58, .int v3] [.int x85, .int x81] M84 _
      refine pu_icmp_eq rfl (fun hc => ?_) (fun hc => ?_)
      · replace H := Eq.mp (if_pos hc) H
        refine pu_go 2 (pc' := 18) (ls' := [.ref 1000000, .ref 0, .ref 58, .int (v3 + 6)]) (st' := []) (M' := M84) rfl ?_
        exact H
      · replace H := Eq.mp (if_neg hc) H
        refine pu_go 1 (pc' := 510) (ls' := [.ref 1000000, .ref 0, .ref 58, .int v3]) (st' := [.int 0]) (M' := M84) rfl ?_
        exact pu_ret rfl rfl ⟨_, rfl, H⟩
    replace H := Eq.mp (if_neg hs33_10) H
    by_cases hs33_11 : ((M 1000000 v3.toNatClampNeg) &&& 31) = 11
    · replace H := Eq.mp (if_pos hs33_11) H
      refine pu_one (pc' := 511) (ls' := [.ref 1000000, .ref 0, .ref 58, .int v3]) (st' := []) (M' := M) rfl (by rw [hs33_11]; rfl) ?_
      refine pu_go 5 (pc' := 516) (ls' := [.ref 1000000, .ref 0, .ref 58, .int v3]) (st' := [.int (v3 + 1), .ref 1000000, .ref 0]) (M' := M) rfl ?_
      obtain ⟨hb86, H⟩ := H
      refine pu_iald rfl rfl (Or.inr rfl) hb86 ?_
      refine pu_callI (m' := 133) (ml := 2) (as := [.ref 0, .int (M 1000000 (v3 + 1 : Int32).toNatClampNeg)]) (rest := []) rfl rfl rfl (Nat.le_of_ble_eq_true rfl) H (fun x88 M87 H => ?_)
      show pu_R L (d + 10) 263 520 [.ref 1000000, .ref 0, .ref 58, .int v3] [.int x88] M87 _
      refine pu_go 5 (pc' := 525) (ls' := [.ref 1000000, .ref 0, .ref 58, .int v3]) (st' := [.int (v3 + 1), .ref 1000000, .ref 58, .int x88]) (M' := M87) rfl ?_
      obtain ⟨hb89, H⟩ := H
      refine pu_iald rfl rfl (Or.inr rfl) hb89 ?_
      refine pu_callI (m' := 226) (ml := 8) (as := [.ref 58, .int (M87 1000000 (v3 + 1 : Int32).toNatClampNeg)]) (rest := [.int x88]) rfl rfl rfl (Nat.le_of_ble_eq_true rfl) H (fun x91 M90 H => ?_)
      show pu_R L (d + 10) 263 529 [.ref 1000000, .ref 0, .ref 58, .int v3] [.int x91, .int x88] M90 _
      refine pu_icmp_eq rfl (fun hc => ?_) (fun hc => ?_)
      · replace H := Eq.mp (if_pos hc) H
        refine pu_go 2 (pc' := 18) (ls' := [.ref 1000000, .ref 0, .ref 58, .int (v3 + 6)]) (st' := []) (M' := M90) rfl ?_
        exact H
      · replace H := Eq.mp (if_neg hc) H
        refine pu_go 1 (pc' := 533) (ls' := [.ref 1000000, .ref 0, .ref 58, .int v3]) (st' := [.int 0]) (M' := M90) rfl ?_
        exact pu_ret rfl rfl ⟨_, rfl, H⟩
    replace H := Eq.mp (if_neg hs33_11) H
    by_cases hs33_12 : ((M 1000000 v3.toNatClampNeg) &&& 31) = 12
    · replace H := Eq.mp (if_pos hs33_12) H
      refine pu_one (pc' := 534) (ls' := [.ref 1000000, .ref 0, .ref 58, .int v3]) (st' := []) (M' := M) rfl (by rw [hs33_12]; rfl) ?_
      refine pu_go 5 (pc' := 539) (ls' := [.ref 1000000, .ref 0, .ref 58, .int v3]) (st' := [.int (v3 + 1), .ref 1000000, .ref 0]) (M' := M) rfl ?_
      obtain ⟨hb92, H⟩ := H
      refine pu_iald rfl rfl (Or.inr rfl) hb92 ?_
      refine pu_callI (m' := 134) (ml := 2) (as := [.ref 0, .int (M 1000000 (v3 + 1 : Int32).toNatClampNeg)]) (rest := []) rfl rfl rfl (Nat.le_of_ble_eq_true rfl) H (fun x94 M93 H => ?_)
      show pu_R L (d + 10) 263 543 [.ref 1000000, .ref 0, .ref 58, .int v3] [.int x94] M93 _
      refine pu_go 5 (pc' := 548) (ls' := [.ref 1000000, .ref 0, .ref 58, .int v3]) (st' := [.int (v3 + 1), .ref 1000000, .ref 58, .int x94]) (M' := M93) rfl ?_
      obtain ⟨hb95, H⟩ := H
      refine pu_iald rfl rfl (Or.inr rfl) hb95 ?_
      refine pu_callI (m' := 228) (ml := 9) (as := [.ref 58, .int (M93 1000000 (v3 + 1 : Int32).toNatClampNeg)]) (rest := [.int x94]) rfl rfl rfl (Nat.le_of_ble_eq_true rfl) H (fun x97 M96 H => ?_)
      show pu_R L (d + 10) 263 552 [.ref 1000000, .ref 0, .ref 58, .int v3] [.int x97, .int x94] M96 _
      refine pu_icmp_eq rfl (fun hc => ?_) (fun hc => ?_)
      · replace H := Eq.mp (if_pos hc) H
        refine pu_go 2 (pc' := 18) (ls' := [.ref 1000000, .ref 0, .ref 58, .int (v3 + 6)]) (st' := []) (M' := M96) rfl ?_
        exact H
      · replace H := Eq.mp (if_neg hc) H
        refine pu_go 1 (pc' := 556) (ls' := [.ref 1000000, .ref 0, .ref 58, .int v3]) (st' := [.int 0]) (M' := M96) rfl ?_
        exact pu_ret rfl rfl ⟨_, rfl, H⟩
    replace H := Eq.mp (if_neg hs33_12) H
    by_cases hs33_13 : ((M 1000000 v3.toNatClampNeg) &&& 31) = 13
    · replace H := Eq.mp (if_pos hs33_13) H
      refine pu_one (pc' := 557) (ls' := [.ref 1000000, .ref 0, .ref 58, .int v3]) (st' := []) (M' := M) rfl (by rw [hs33_13]; rfl) ?_
      refine pu_go 5 (pc' := 562) (ls' := [.ref 1000000, .ref 0, .ref 58, .int v3]) (st' := [.int (v3 + 1), .ref 1000000, .ref 0]) (M' := M) rfl ?_
      obtain ⟨hb98, H⟩ := H
      refine pu_iald rfl rfl (Or.inr rfl) hb98 ?_
      refine pu_callI (m' := 135) (ml := 2) (as := [.ref 0, .int (M 1000000 (v3 + 1 : Int32).toNatClampNeg)]) (rest := []) rfl rfl rfl (Nat.le_of_ble_eq_true rfl) H (fun x100 M99 H => ?_)
      show pu_R L (d + 10) 263 566 [.ref 1000000, .ref 0, .ref 58, .int v3] [.int x100] M99 _
      refine pu_go 5 (pc' := 571) (ls' := [.ref 1000000, .ref 0, .ref 58, .int v3]) (st' := [.int (v3 + 1), .ref 1000000, .ref 58, .int x100]) (M' := M99) rfl ?_
      obtain ⟨hb101, H⟩ := H
      refine pu_iald rfl rfl (Or.inr rfl) hb101 ?_
      refine pu_callI (m' := 231) (ml := 5) (as := [.ref 58, .int (M99 1000000 (v3 + 1 : Int32).toNatClampNeg)]) (rest := [.int x100]) rfl rfl rfl (Nat.le_of_ble_eq_true rfl) H (fun x103 M102 H => ?_)
      show pu_R L (d + 10) 263 575 [.ref 1000000, .ref 0, .ref 58, .int v3] [.int x103, .int x100] M102 _
      refine pu_icmp_eq rfl (fun hc => ?_) (fun hc => ?_)
      · replace H := Eq.mp (if_pos hc) H
        refine pu_go 2 (pc' := 18) (ls' := [.ref 1000000, .ref 0, .ref 58, .int (v3 + 6)]) (st' := []) (M' := M102) rfl ?_
        exact H
      · replace H := Eq.mp (if_neg hc) H
        refine pu_go 1 (pc' := 579) (ls' := [.ref 1000000, .ref 0, .ref 58, .int v3]) (st' := [.int 0]) (M' := M102) rfl ?_
        exact pu_ret rfl rfl ⟨_, rfl, H⟩
    replace H := Eq.mp (if_neg hs33_13) H
    by_cases hs33_14 : ((M 1000000 v3.toNatClampNeg) &&& 31) = 14
    · replace H := Eq.mp (if_pos hs33_14) H
      refine pu_one (pc' := 580) (ls' := [.ref 1000000, .ref 0, .ref 58, .int v3]) (st' := []) (M' := M) rfl (by rw [hs33_14]; rfl) ?_
      refine pu_go 5 (pc' := 585) (ls' := [.ref 1000000, .ref 0, .ref 58, .int v3]) (st' := [.int (v3 + 1), .ref 1000000, .ref 0]) (M' := M) rfl ?_
      obtain ⟨hb104, H⟩ := H
      refine pu_iald rfl rfl (Or.inr rfl) hb104 ?_
      refine pu_go 4 (pc' := 590) (ls' := [.ref 1000000, .ref 0, .ref 58, .int v3]) (st' := [.int (v3 + 2), .ref 1000000, .int (M 1000000 (v3 + 1 : Int32).toNatClampNeg), .ref 0]) (M' := M) rfl ?_
      obtain ⟨hb105, H⟩ := H
      refine pu_iald rfl rfl (Or.inr rfl) hb105 ?_
      refine pu_callI (m' := 136) (ml := 5) (as := [.ref 0, .int (M 1000000 (v3 + 1 : Int32).toNatClampNeg), .int (M 1000000 (v3 + 2 : Int32).toNatClampNeg)]) (rest := []) rfl rfl rfl (Nat.le_of_ble_eq_true rfl) H (fun x107 M106 H => ?_)
      show pu_R L (d + 10) 263 594 [.ref 1000000, .ref 0, .ref 58, .int v3] [.int x107] M106 _
      refine pu_go 5 (pc' := 599) (ls' := [.ref 1000000, .ref 0, .ref 58, .int v3]) (st' := [.int (v3 + 1), .ref 1000000, .ref 58, .int x107]) (M' := M106) rfl ?_
      obtain ⟨hb108, H⟩ := H
      refine pu_iald rfl rfl (Or.inr rfl) hb108 ?_
      refine pu_go 4 (pc' := 604) (ls' := [.ref 1000000, .ref 0, .ref 58, .int v3]) (st' := [.int (v3 + 2), .ref 1000000, .int (M106 1000000 (v3 + 1 : Int32).toNatClampNeg), .ref 58, .int x107]) (M' := M106) rfl ?_
      obtain ⟨hb109, H⟩ := H
      refine pu_iald rfl rfl (Or.inr rfl) hb109 ?_
      refine pu_callI (m' := 236) (ml := 5) (as := [.ref 58, .int (M106 1000000 (v3 + 1 : Int32).toNatClampNeg), .int (M106 1000000 (v3 + 2 : Int32).toNatClampNeg)]) (rest := [.int x107]) rfl rfl rfl (Nat.le_of_ble_eq_true rfl) H (fun x111 M110 H => ?_)
      show pu_R L (d + 10) 263 608 [.ref 1000000, .ref 0, .ref 58, .int v3] [.int x111, .int x107] M110 _
      refine pu_icmp_eq rfl (fun hc => ?_) (fun hc => ?_)
      · replace H := Eq.mp (if_pos hc) H
        refine pu_go 2 (pc' := 18) (ls' := [.ref 1000000, .ref 0, .ref 58, .int (v3 + 6)]) (st' := []) (M' := M110) rfl ?_
        exact H
      · replace H := Eq.mp (if_neg hc) H
        refine pu_go 1 (pc' := 612) (ls' := [.ref 1000000, .ref 0, .ref 58, .int v3]) (st' := [.int 0]) (M' := M110) rfl ?_
        exact pu_ret rfl rfl ⟨_, rfl, H⟩
    replace H := Eq.mp (if_neg hs33_14) H
    by_cases hs33_15 : ((M 1000000 v3.toNatClampNeg) &&& 31) = 15
    · replace H := Eq.mp (if_pos hs33_15) H
      refine pu_one (pc' := 613) (ls' := [.ref 1000000, .ref 0, .ref 58, .int v3]) (st' := []) (M' := M) rfl (by rw [hs33_15]; rfl) ?_
      refine pu_go 5 (pc' := 618) (ls' := [.ref 1000000, .ref 0, .ref 58, .int v3]) (st' := [.int (v3 + 1), .ref 1000000, .ref 0]) (M' := M) rfl ?_
      obtain ⟨hb112, H⟩ := H
      refine pu_iald rfl rfl (Or.inr rfl) hb112 ?_
      refine pu_go 4 (pc' := 623) (ls' := [.ref 1000000, .ref 0, .ref 58, .int v3]) (st' := [.int (v3 + 2), .ref 1000000, .int (M 1000000 (v3 + 1 : Int32).toNatClampNeg), .ref 0]) (M' := M) rfl ?_
      obtain ⟨hb113, H⟩ := H
      refine pu_iald rfl rfl (Or.inr rfl) hb113 ?_
      refine pu_callI (m' := 137) (ml := 4) (as := [.ref 0, .int (M 1000000 (v3 + 1 : Int32).toNatClampNeg), .int (M 1000000 (v3 + 2 : Int32).toNatClampNeg)]) (rest := []) rfl rfl rfl (Nat.le_of_ble_eq_true rfl) H (fun x115 M114 H => ?_)
      show pu_R L (d + 10) 263 627 [.ref 1000000, .ref 0, .ref 58, .int v3] [.int x115] M114 _
      refine pu_go 5 (pc' := 632) (ls' := [.ref 1000000, .ref 0, .ref 58, .int v3]) (st' := [.int (v3 + 1), .ref 1000000, .ref 58, .int x115]) (M' := M114) rfl ?_
      obtain ⟨hb116, H⟩ := H
      refine pu_iald rfl rfl (Or.inr rfl) hb116 ?_
      refine pu_go 4 (pc' := 637) (ls' := [.ref 1000000, .ref 0, .ref 58, .int v3]) (st' := [.int (v3 + 2), .ref 1000000, .int (M114 1000000 (v3 + 1 : Int32).toNatClampNeg), .ref 58, .int x115]) (M' := M114) rfl ?_
      obtain ⟨hb117, H⟩ := H
      refine pu_iald rfl rfl (Or.inr rfl) hb117 ?_
      refine pu_callI (m' := 239) (ml := 4) (as := [.ref 58, .int (M114 1000000 (v3 + 1 : Int32).toNatClampNeg), .int (M114 1000000 (v3 + 2 : Int32).toNatClampNeg)]) (rest := [.int x115]) rfl rfl rfl (Nat.le_of_ble_eq_true rfl) H (fun x119 M118 H => ?_)
      show pu_R L (d + 10) 263 641 [.ref 1000000, .ref 0, .ref 58, .int v3] [.int x119, .int x115] M118 _
      refine pu_icmp_eq rfl (fun hc => ?_) (fun hc => ?_)
      · replace H := Eq.mp (if_pos hc) H
        refine pu_go 2 (pc' := 18) (ls' := [.ref 1000000, .ref 0, .ref 58, .int (v3 + 6)]) (st' := []) (M' := M118) rfl ?_
        exact H
      · replace H := Eq.mp (if_neg hc) H
        refine pu_go 1 (pc' := 645) (ls' := [.ref 1000000, .ref 0, .ref 58, .int v3]) (st' := [.int 0]) (M' := M118) rfl ?_
        exact pu_ret rfl rfl ⟨_, rfl, H⟩
    replace H := Eq.mp (if_neg hs33_15) H
    by_cases hs33_16 : ((M 1000000 v3.toNatClampNeg) &&& 31) = 16
    · replace H := Eq.mp (if_pos hs33_16) H
      refine pu_one (pc' := 646) (ls' := [.ref 1000000, .ref 0, .ref 58, .int v3]) (st' := []) (M' := M) rfl (by rw [hs33_16]; rfl) ?_
      refine pu_go 5 (pc' := 651) (ls' := [.ref 1000000, .ref 0, .ref 58, .int v3]) (st' := [.int (v3 + 1), .ref 1000000, .ref 0]) (M' := M) rfl ?_
      obtain ⟨hb120, H⟩ := H
      refine pu_iald rfl rfl (Or.inr rfl) hb120 ?_
      refine pu_go 4 (pc' := 656) (ls' := [.ref 1000000, .ref 0, .ref 58, .int v3]) (st' := [.int (v3 + 2), .ref 1000000, .int (M 1000000 (v3 + 1 : Int32).toNatClampNeg), .ref 0]) (M' := M) rfl ?_
      obtain ⟨hb121, H⟩ := H
      refine pu_iald rfl rfl (Or.inr rfl) hb121 ?_
      refine pu_callI (m' := 138) (ml := 7) (as := [.ref 0, .int (M 1000000 (v3 + 1 : Int32).toNatClampNeg), .int (M 1000000 (v3 + 2 : Int32).toNatClampNeg)]) (rest := []) rfl rfl rfl (Nat.le_of_ble_eq_true rfl) H (fun x123 M122 H => ?_)
      show pu_R L (d + 10) 263 660 [.ref 1000000, .ref 0, .ref 58, .int v3] [.int x123] M122 _
      refine pu_go 5 (pc' := 665) (ls' := [.ref 1000000, .ref 0, .ref 58, .int v3]) (st' := [.int (v3 + 1), .ref 1000000, .ref 58, .int x123]) (M' := M122) rfl ?_
      obtain ⟨hb124, H⟩ := H
      refine pu_iald rfl rfl (Or.inr rfl) hb124 ?_
      refine pu_go 4 (pc' := 670) (ls' := [.ref 1000000, .ref 0, .ref 58, .int v3]) (st' := [.int (v3 + 2), .ref 1000000, .int (M122 1000000 (v3 + 1 : Int32).toNatClampNeg), .ref 58, .int x123]) (M' := M122) rfl ?_
      obtain ⟨hb125, H⟩ := H
      refine pu_iald rfl rfl (Or.inr rfl) hb125 ?_
      refine pu_callI (m' := 241) (ml := 5) (as := [.ref 58, .int (M122 1000000 (v3 + 1 : Int32).toNatClampNeg), .int (M122 1000000 (v3 + 2 : Int32).toNatClampNeg)]) (rest := [.int x123]) rfl rfl rfl (Nat.le_of_ble_eq_true rfl) H (fun x127 M126 H => ?_)
      show pu_R L (d + 10) 263 674 [.ref 1000000, .ref 0, .ref 58, .int v3] [.int x127, .int x123] M126 _
      refine pu_icmp_eq rfl (fun hc => ?_) (fun hc => ?_)
      · replace H := Eq.mp (if_pos hc) H
        refine pu_go 2 (pc' := 18) (ls' := [.ref 1000000, .ref 0, .ref 58, .int (v3 + 6)]) (st' := []) (M' := M126) rfl ?_
        exact H
      · replace H := Eq.mp (if_neg hc) H
        refine pu_go 1 (pc' := 678) (ls' := [.ref 1000000, .ref 0, .ref 58, .int v3]) (st' := [.int 0]) (M' := M126) rfl ?_
        exact pu_ret rfl rfl ⟨_, rfl, H⟩
    replace H := Eq.mp (if_neg hs33_16) H
    by_cases hs33_17 : ((M 1000000 v3.toNatClampNeg) &&& 31) = 17
    · replace H := Eq.mp (if_pos hs33_17) H
      refine pu_one (pc' := 679) (ls' := [.ref 1000000, .ref 0, .ref 58, .int v3]) (st' := []) (M' := M) rfl (by rw [hs33_17]; rfl) ?_
      refine pu_go 5 (pc' := 684) (ls' := [.ref 1000000, .ref 0, .ref 58, .int v3]) (st' := [.int (v3 + 1), .ref 1000000, .ref 0]) (M' := M) rfl ?_
      obtain ⟨hb128, H⟩ := H
      refine pu_iald rfl rfl (Or.inr rfl) hb128 ?_
      refine pu_callI (m' := 139) (ml := 2) (as := [.ref 0, .int (M 1000000 (v3 + 1 : Int32).toNatClampNeg)]) (rest := []) rfl rfl rfl (Nat.le_of_ble_eq_true rfl) H (fun x130 M129 H => ?_)
      show pu_R L (d + 10) 263 688 [.ref 1000000, .ref 0, .ref 58, .int v3] [.int x130] M129 _
      refine pu_go 5 (pc' := 693) (ls' := [.ref 1000000, .ref 0, .ref 58, .int v3]) (st' := [.int (v3 + 1), .ref 1000000, .ref 58, .int x130]) (M' := M129) rfl ?_
      obtain ⟨hb131, H⟩ := H
      refine pu_iald rfl rfl (Or.inr rfl) hb131 ?_
      refine pu_callI (m' := 243) (ml := 5) (as := [.ref 58, .int (M129 1000000 (v3 + 1 : Int32).toNatClampNeg)]) (rest := [.int x130]) rfl rfl rfl (Nat.le_of_ble_eq_true rfl) H (fun x133 M132 H => ?_)
      show pu_R L (d + 10) 263 697 [.ref 1000000, .ref 0, .ref 58, .int v3] [.int x133, .int x130] M132 _
      refine pu_icmp_eq rfl (fun hc => ?_) (fun hc => ?_)
      · replace H := Eq.mp (if_pos hc) H
        refine pu_go 2 (pc' := 18) (ls' := [.ref 1000000, .ref 0, .ref 58, .int (v3 + 6)]) (st' := []) (M' := M132) rfl ?_
        exact H
      · replace H := Eq.mp (if_neg hc) H
        refine pu_go 1 (pc' := 701) (ls' := [.ref 1000000, .ref 0, .ref 58, .int v3]) (st' := [.int 0]) (M' := M132) rfl ?_
        exact pu_ret rfl rfl ⟨_, rfl, H⟩
    replace H := Eq.mp (if_neg hs33_17) H
    by_cases hs33_18 : ((M 1000000 v3.toNatClampNeg) &&& 31) = 18
    · replace H := Eq.mp (if_pos hs33_18) H
      refine pu_one (pc' := 702) (ls' := [.ref 1000000, .ref 0, .ref 58, .int v3]) (st' := []) (M' := M) rfl (by rw [hs33_18]; rfl) ?_
      refine pu_go 5 (pc' := 707) (ls' := [.ref 1000000, .ref 0, .ref 58, .int v3]) (st' := [.int (v3 + 1), .ref 1000000, .ref 0]) (M' := M) rfl ?_
      obtain ⟨hb134, H⟩ := H
      refine pu_iald rfl rfl (Or.inr rfl) hb134 ?_
      refine pu_go 4 (pc' := 712) (ls' := [.ref 1000000, .ref 0, .ref 58, .int v3]) (st' := [.int (v3 + 2), .ref 1000000, .int (M 1000000 (v3 + 1 : Int32).toNatClampNeg), .ref 0]) (M' := M) rfl ?_
      obtain ⟨hb135, H⟩ := H
      refine pu_iald rfl rfl (Or.inr rfl) hb135 ?_
      refine pu_callI (m' := 140) (ml := 5) (as := [.ref 0, .int (M 1000000 (v3 + 1 : Int32).toNatClampNeg), .int (M 1000000 (v3 + 2 : Int32).toNatClampNeg)]) (rest := []) rfl rfl rfl (Nat.le_of_ble_eq_true rfl) H (fun x137 M136 H => ?_)
      show pu_R L (d + 10) 263 716 [.ref 1000000, .ref 0, .ref 58, .int v3] [.int x137] M136 _
      refine pu_go 5 (pc' := 721) (ls' := [.ref 1000000, .ref 0, .ref 58, .int v3]) (st' := [.int (v3 + 1), .ref 1000000, .ref 58, .int x137]) (M' := M136) rfl ?_
      obtain ⟨hb138, H⟩ := H
      refine pu_iald rfl rfl (Or.inr rfl) hb138 ?_
      refine pu_go 4 (pc' := 726) (ls' := [.ref 1000000, .ref 0, .ref 58, .int v3]) (st' := [.int (v3 + 2), .ref 1000000, .int (M136 1000000 (v3 + 1 : Int32).toNatClampNeg), .ref 58, .int x137]) (M' := M136) rfl ?_
      obtain ⟨hb139, H⟩ := H
      refine pu_iald rfl rfl (Or.inr rfl) hb139 ?_
      refine pu_callI (m' := 244) (ml := 5) (as := [.ref 58, .int (M136 1000000 (v3 + 1 : Int32).toNatClampNeg), .int (M136 1000000 (v3 + 2 : Int32).toNatClampNeg)]) (rest := [.int x137]) rfl rfl rfl (Nat.le_of_ble_eq_true rfl) H (fun x141 M140 H => ?_)
      show pu_R L (d + 10) 263 730 [.ref 1000000, .ref 0, .ref 58, .int v3] [.int x141, .int x137] M140 _
      refine pu_icmp_eq rfl (fun hc => ?_) (fun hc => ?_)
      · replace H := Eq.mp (if_pos hc) H
        refine pu_go 2 (pc' := 18) (ls' := [.ref 1000000, .ref 0, .ref 58, .int (v3 + 6)]) (st' := []) (M' := M140) rfl ?_
        exact H
      · replace H := Eq.mp (if_neg hc) H
        refine pu_go 1 (pc' := 734) (ls' := [.ref 1000000, .ref 0, .ref 58, .int v3]) (st' := [.int 0]) (M' := M140) rfl ?_
        exact pu_ret rfl rfl ⟨_, rfl, H⟩
    replace H := Eq.mp (if_neg hs33_18) H
    by_cases hs33_19 : ((M 1000000 v3.toNatClampNeg) &&& 31) = 19
    · replace H := Eq.mp (if_pos hs33_19) H
      refine pu_one (pc' := 735) (ls' := [.ref 1000000, .ref 0, .ref 58, .int v3]) (st' := []) (M' := M) rfl (by rw [hs33_19]; rfl) ?_
      refine pu_go 5 (pc' := 740) (ls' := [.ref 1000000, .ref 0, .ref 58, .int v3]) (st' := [.int (v3 + 1), .ref 1000000, .ref 0]) (M' := M) rfl ?_
      obtain ⟨hb142, H⟩ := H
      refine pu_iald rfl rfl (Or.inr rfl) hb142 ?_
      refine pu_go 4 (pc' := 745) (ls' := [.ref 1000000, .ref 0, .ref 58, .int v3]) (st' := [.int (v3 + 2), .ref 1000000, .int (M 1000000 (v3 + 1 : Int32).toNatClampNeg), .ref 0]) (M' := M) rfl ?_
      obtain ⟨hb143, H⟩ := H
      refine pu_iald rfl rfl (Or.inr rfl) hb143 ?_
      refine pu_callI (m' := 141) (ml := 4) (as := [.ref 0, .int (M 1000000 (v3 + 1 : Int32).toNatClampNeg), .int (M 1000000 (v3 + 2 : Int32).toNatClampNeg)]) (rest := []) rfl rfl rfl (Nat.le_of_ble_eq_true rfl) H (fun x145 M144 H => ?_)
      show pu_R L (d + 10) 263 749 [.ref 1000000, .ref 0, .ref 58, .int v3] [.int x145] M144 _
      refine pu_go 5 (pc' := 754) (ls' := [.ref 1000000, .ref 0, .ref 58, .int v3]) (st' := [.int (v3 + 1), .ref 1000000, .ref 58, .int x145]) (M' := M144) rfl ?_
      obtain ⟨hb146, H⟩ := H
      refine pu_iald rfl rfl (Or.inr rfl) hb146 ?_
      refine pu_go 4 (pc' := 759) (ls' := [.ref 1000000, .ref 0, .ref 58, .int v3]) (st' := [.int (v3 + 2), .ref 1000000, .int (M144 1000000 (v3 + 1 : Int32).toNatClampNeg), .ref 58, .int x145]) (M' := M144) rfl ?_
      obtain ⟨hb147, H⟩ := H
      refine pu_iald rfl rfl (Or.inr rfl) hb147 ?_
      refine pu_callI (m' := 246) (ml := 7) (as := [.ref 58, .int (M144 1000000 (v3 + 1 : Int32).toNatClampNeg), .int (M144 1000000 (v3 + 2 : Int32).toNatClampNeg)]) (rest := [.int x145]) rfl rfl rfl (Nat.le_of_ble_eq_true rfl) H (fun x149 M148 H => ?_)
      show pu_R L (d + 10) 263 763 [.ref 1000000, .ref 0, .ref 58, .int v3] [.int x149, .int x145] M148 _
      refine pu_icmp_eq rfl (fun hc => ?_) (fun hc => ?_)
      · replace H := Eq.mp (if_pos hc) H
        refine pu_go 2 (pc' := 18) (ls' := [.ref 1000000, .ref 0, .ref 58, .int (v3 + 6)]) (st' := []) (M' := M148) rfl ?_
        exact H
      · replace H := Eq.mp (if_neg hc) H
        refine pu_go 1 (pc' := 767) (ls' := [.ref 1000000, .ref 0, .ref 58, .int v3]) (st' := [.int 0]) (M' := M148) rfl ?_
        exact pu_ret rfl rfl ⟨_, rfl, H⟩
    replace H := Eq.mp (if_neg hs33_19) H
    by_cases hs33_20 : ((M 1000000 v3.toNatClampNeg) &&& 31) = 20
    · replace H := Eq.mp (if_pos hs33_20) H
      refine pu_one (pc' := 768) (ls' := [.ref 1000000, .ref 0, .ref 58, .int v3]) (st' := []) (M' := M) rfl (by rw [hs33_20]; rfl) ?_
      refine pu_go 5 (pc' := 773) (ls' := [.ref 1000000, .ref 0, .ref 58, .int v3]) (st' := [.int (v3 + 1), .ref 1000000, .ref 0]) (M' := M) rfl ?_
      obtain ⟨hb150, H⟩ := H
      refine pu_iald rfl rfl (Or.inr rfl) hb150 ?_
      refine pu_go 4 (pc' := 778) (ls' := [.ref 1000000, .ref 0, .ref 58, .int v3]) (st' := [.int (v3 + 2), .ref 1000000, .int (M 1000000 (v3 + 1 : Int32).toNatClampNeg), .ref 0]) (M' := M) rfl ?_
      obtain ⟨hb151, H⟩ := H
      refine pu_iald rfl rfl (Or.inr rfl) hb151 ?_
      refine pu_callI (m' := 142) (ml := 3) (as := [.ref 0, .int (M 1000000 (v3 + 1 : Int32).toNatClampNeg), .int (M 1000000 (v3 + 2 : Int32).toNatClampNeg)]) (rest := []) rfl rfl rfl (Nat.le_of_ble_eq_true rfl) H (fun x153 M152 H => ?_)
      show pu_R L (d + 10) 263 782 [.ref 1000000, .ref 0, .ref 58, .int v3] [.int x153] M152 _
      refine pu_go 5 (pc' := 787) (ls' := [.ref 1000000, .ref 0, .ref 58, .int v3]) (st' := [.int (v3 + 1), .ref 1000000, .ref 58, .int x153]) (M' := M152) rfl ?_
      obtain ⟨hb154, H⟩ := H
      refine pu_iald rfl rfl (Or.inr rfl) hb154 ?_
      refine pu_go 4 (pc' := 792) (ls' := [.ref 1000000, .ref 0, .ref 58, .int v3]) (st' := [.int (v3 + 2), .ref 1000000, .int (M152 1000000 (v3 + 1 : Int32).toNatClampNeg), .ref 58, .int x153]) (M' := M152) rfl ?_
      obtain ⟨hb155, H⟩ := H
      refine pu_iald rfl rfl (Or.inr rfl) hb155 ?_
      refine pu_callI (m' := 247) (ml := 10) (as := [.ref 58, .int (M152 1000000 (v3 + 1 : Int32).toNatClampNeg), .int (M152 1000000 (v3 + 2 : Int32).toNatClampNeg)]) (rest := [.int x153]) rfl rfl rfl (Nat.le_of_ble_eq_true rfl) H (fun x157 M156 H => ?_)
      show pu_R L (d + 10) 263 796 [.ref 1000000, .ref 0, .ref 58, .int v3] [.int x157, .int x153] M156 _
      refine pu_icmp_eq rfl (fun hc => ?_) (fun hc => ?_)
      · replace H := Eq.mp (if_pos hc) H
        refine pu_go 2 (pc' := 18) (ls' := [.ref 1000000, .ref 0, .ref 58, .int (v3 + 6)]) (st' := []) (M' := M156) rfl ?_
        exact H
      · replace H := Eq.mp (if_neg hc) H
        refine pu_go 1 (pc' := 800) (ls' := [.ref 1000000, .ref 0, .ref 58, .int v3]) (st' := [.int 0]) (M' := M156) rfl ?_
        exact pu_ret rfl rfl ⟨_, rfl, H⟩
    replace H := Eq.mp (if_neg hs33_20) H
    by_cases hs33_21 : ((M 1000000 v3.toNatClampNeg) &&& 31) = 21
    · replace H := Eq.mp (if_pos hs33_21) H
      refine pu_one (pc' := 801) (ls' := [.ref 1000000, .ref 0, .ref 58, .int v3]) (st' := []) (M' := M) rfl (by rw [hs33_21]; rfl) ?_
      refine pu_go 5 (pc' := 806) (ls' := [.ref 1000000, .ref 0, .ref 58, .int v3]) (st' := [.int (v3 + 1), .ref 1000000, .ref 0]) (M' := M) rfl ?_
      obtain ⟨hb158, H⟩ := H
      refine pu_iald rfl rfl (Or.inr rfl) hb158 ?_
      refine pu_callI (m' := 143) (ml := 6) (as := [.ref 0, .int (M 1000000 (v3 + 1 : Int32).toNatClampNeg)]) (rest := []) rfl rfl rfl (Nat.le_of_ble_eq_true rfl) H (fun x160 M159 H => ?_)
      show pu_R L (d + 10) 263 810 [.ref 1000000, .ref 0, .ref 58, .int v3] [.int x160] M159 _
      refine pu_go 5 (pc' := 815) (ls' := [.ref 1000000, .ref 0, .ref 58, .int v3]) (st' := [.int (v3 + 1), .ref 1000000, .ref 58, .int x160]) (M' := M159) rfl ?_
      obtain ⟨hb161, H⟩ := H
      refine pu_iald rfl rfl (Or.inr rfl) hb161 ?_
      refine pu_callI (m' := 250) (ml := 6) (as := [.ref 58, .int (M159 1000000 (v3 + 1 : Int32).toNatClampNeg)]) (rest := [.int x160]) rfl rfl rfl (Nat.le_of_ble_eq_true rfl) H (fun x163 M162 H => ?_)
      show pu_R L (d + 10) 263 819 [.ref 1000000, .ref 0, .ref 58, .int v3] [.int x163, .int x160] M162 _
      refine pu_icmp_eq rfl (fun hc => ?_) (fun hc => ?_)
      · replace H := Eq.mp (if_pos hc) H
        refine pu_go 2 (pc' := 18) (ls' := [.ref 1000000, .ref 0, .ref 58, .int (v3 + 6)]) (st' := []) (M' := M162) rfl ?_
        exact H
      · replace H := Eq.mp (if_neg hc) H
        refine pu_go 1 (pc' := 823) (ls' := [.ref 1000000, .ref 0, .ref 58, .int v3]) (st' := [.int 0]) (M' := M162) rfl ?_
        exact pu_ret rfl rfl ⟨_, rfl, H⟩
    replace H := Eq.mp (if_neg hs33_21) H
    by_cases hs33_22 : ((M 1000000 v3.toNatClampNeg) &&& 31) = 22
    · replace H := Eq.mp (if_pos hs33_22) H
      refine pu_one (pc' := 824) (ls' := [.ref 1000000, .ref 0, .ref 58, .int v3]) (st' := []) (M' := M) rfl (by rw [hs33_22]; rfl) ?_
      refine pu_go 5 (pc' := 829) (ls' := [.ref 1000000, .ref 0, .ref 58, .int v3]) (st' := [.int (v3 + 1), .ref 1000000, .ref 0]) (M' := M) rfl ?_
      obtain ⟨hb164, H⟩ := H
      refine pu_iald rfl rfl (Or.inr rfl) hb164 ?_
      refine pu_callI (m' := 144) (ml := 4) (as := [.ref 0, .int (M 1000000 (v3 + 1 : Int32).toNatClampNeg)]) (rest := []) rfl rfl rfl (Nat.le_of_ble_eq_true rfl) H (fun x166 M165 H => ?_)
      show pu_R L (d + 10) 263 833 [.ref 1000000, .ref 0, .ref 58, .int v3] [.int x166] M165 _
      refine pu_go 5 (pc' := 838) (ls' := [.ref 1000000, .ref 0, .ref 58, .int v3]) (st' := [.int (v3 + 1), .ref 1000000, .ref 58, .int x166]) (M' := M165) rfl ?_
      obtain ⟨hb167, H⟩ := H
      refine pu_iald rfl rfl (Or.inr rfl) hb167 ?_
      refine pu_callI (m' := 252) (ml := 2) (as := [.ref 58, .int (M165 1000000 (v3 + 1 : Int32).toNatClampNeg)]) (rest := [.int x166]) rfl rfl rfl (Nat.le_of_ble_eq_true rfl) H (fun x169 M168 H => ?_)
      show pu_R L (d + 10) 263 842 [.ref 1000000, .ref 0, .ref 58, .int v3] [.int x169, .int x166] M168 _
      refine pu_icmp_eq rfl (fun hc => ?_) (fun hc => ?_)
      · replace H := Eq.mp (if_pos hc) H
        refine pu_go 2 (pc' := 18) (ls' := [.ref 1000000, .ref 0, .ref 58, .int (v3 + 6)]) (st' := []) (M' := M168) rfl ?_
        exact H
      · replace H := Eq.mp (if_neg hc) H
        refine pu_go 1 (pc' := 846) (ls' := [.ref 1000000, .ref 0, .ref 58, .int v3]) (st' := [.int 0]) (M' := M168) rfl ?_
        exact pu_ret rfl rfl ⟨_, rfl, H⟩
    replace H := Eq.mp (if_neg hs33_22) H
    by_cases hs33_23 : ((M 1000000 v3.toNatClampNeg) &&& 31) = 23
    · replace H := Eq.mp (if_pos hs33_23) H
      refine pu_one (pc' := 847) (ls' := [.ref 1000000, .ref 0, .ref 58, .int v3]) (st' := []) (M' := M) rfl (by rw [hs33_23]; rfl) ?_
      refine pu_go 1 (pc' := 848) (ls' := [.ref 1000000, .ref 0, .ref 58, .int v3]) (st' := [.ref 0]) (M' := M) rfl ?_
      refine pu_callI (m' := 145) (ml := 7) (as := [.ref 0]) (rest := []) rfl rfl rfl (Nat.le_of_ble_eq_true rfl) H (fun x171 M170 H => ?_)
      show pu_R L (d + 10) 263 851 [.ref 1000000, .ref 0, .ref 58, .int v3] [.int x171] M170 _
      refine pu_go 1 (pc' := 852) (ls' := [.ref 1000000, .ref 0, .ref 58, .int v3]) (st' := [.ref 58, .int x171]) (M' := M170) rfl ?_
      refine pu_callI (m' := 253) (ml := 3) (as := [.ref 58]) (rest := [.int x171]) rfl rfl rfl (Nat.le_of_ble_eq_true rfl) H (fun x173 M172 H => ?_)
      show pu_R L (d + 10) 263 855 [.ref 1000000, .ref 0, .ref 58, .int v3] [.int x173, .int x171] M172 _
      refine pu_icmp_eq rfl (fun hc => ?_) (fun hc => ?_)
      · replace H := Eq.mp (if_pos hc) H
        refine pu_go 2 (pc' := 18) (ls' := [.ref 1000000, .ref 0, .ref 58, .int (v3 + 6)]) (st' := []) (M' := M172) rfl ?_
        exact H
      · replace H := Eq.mp (if_neg hc) H
        refine pu_go 1 (pc' := 859) (ls' := [.ref 1000000, .ref 0, .ref 58, .int v3]) (st' := [.int 0]) (M' := M172) rfl ?_
        exact pu_ret rfl rfl ⟨_, rfl, H⟩
    replace H := Eq.mp (if_neg hs33_23) H
    by_cases hs33_24 : ((M 1000000 v3.toNatClampNeg) &&& 31) = 24
    · replace H := Eq.mp (if_pos hs33_24) H
      refine pu_one (pc' := 860) (ls' := [.ref 1000000, .ref 0, .ref 58, .int v3]) (st' := []) (M' := M) rfl (by rw [hs33_24]; rfl) ?_
      refine pu_go 5 (pc' := 865) (ls' := [.ref 1000000, .ref 0, .ref 58, .int v3]) (st' := [.int (v3 + 1), .ref 1000000, .ref 0]) (M' := M) rfl ?_
      obtain ⟨hb174, H⟩ := H
      refine pu_iald rfl rfl (Or.inr rfl) hb174 ?_
      refine pu_go 4 (pc' := 870) (ls' := [.ref 1000000, .ref 0, .ref 58, .int v3]) (st' := [.int (v3 + 2), .ref 1000000, .int (M 1000000 (v3 + 1 : Int32).toNatClampNeg), .ref 0]) (M' := M) rfl ?_
      obtain ⟨hb175, H⟩ := H
      refine pu_iald rfl rfl (Or.inr rfl) hb175 ?_
      refine pu_callI (m' := 146) (ml := 7) (as := [.ref 0, .int (M 1000000 (v3 + 1 : Int32).toNatClampNeg), .int (M 1000000 (v3 + 2 : Int32).toNatClampNeg)]) (rest := []) rfl rfl rfl (Nat.le_of_ble_eq_true rfl) H (fun x177 M176 H => ?_)
      show pu_R L (d + 10) 263 874 [.ref 1000000, .ref 0, .ref 58, .int v3] [.int x177] M176 _
      refine pu_go 5 (pc' := 879) (ls' := [.ref 1000000, .ref 0, .ref 58, .int v3]) (st' := [.int (v3 + 1), .ref 1000000, .ref 58, .int x177]) (M' := M176) rfl ?_
      obtain ⟨hb178, H⟩ := H
      refine pu_iald rfl rfl (Or.inr rfl) hb178 ?_
      refine pu_go 4 (pc' := 884) (ls' := [.ref 1000000, .ref 0, .ref 58, .int v3]) (st' := [.int (v3 + 2), .ref 1000000, .int (M176 1000000 (v3 + 1 : Int32).toNatClampNeg), .ref 58, .int x177]) (M' := M176) rfl ?_
      obtain ⟨hb179, H⟩ := H
      refine pu_iald rfl rfl (Or.inr rfl) hb179 ?_
      refine pu_callI (m' := 254) (ml := 7) (as := [.ref 58, .int (M176 1000000 (v3 + 1 : Int32).toNatClampNeg), .int (M176 1000000 (v3 + 2 : Int32).toNatClampNeg)]) (rest := [.int x177]) rfl rfl rfl (Nat.le_of_ble_eq_true rfl) H (fun x181 M180 H => ?_)
      show pu_R L (d + 10) 263 888 [.ref 1000000, .ref 0, .ref 58, .int v3] [.int x181, .int x177] M180 _
      refine pu_icmp_eq rfl (fun hc => ?_) (fun hc => ?_)
      · replace H := Eq.mp (if_pos hc) H
        refine pu_go 2 (pc' := 18) (ls' := [.ref 1000000, .ref 0, .ref 58, .int (v3 + 6)]) (st' := []) (M' := M180) rfl ?_
        exact H
      · replace H := Eq.mp (if_neg hc) H
        refine pu_go 1 (pc' := 892) (ls' := [.ref 1000000, .ref 0, .ref 58, .int v3]) (st' := [.int 0]) (M' := M180) rfl ?_
        exact pu_ret rfl rfl ⟨_, rfl, H⟩
    replace H := Eq.mp (if_neg hs33_24) H
    by_cases hs33_25 : ((M 1000000 v3.toNatClampNeg) &&& 31) = 25
    · replace H := Eq.mp (if_pos hs33_25) H
      refine pu_one (pc' := 893) (ls' := [.ref 1000000, .ref 0, .ref 58, .int v3]) (st' := []) (M' := M) rfl (by rw [hs33_25]; rfl) ?_
      refine pu_go 5 (pc' := 898) (ls' := [.ref 1000000, .ref 0, .ref 58, .int v3]) (st' := [.int (v3 + 1), .ref 1000000, .ref 0]) (M' := M) rfl ?_
      obtain ⟨hb182, H⟩ := H
      refine pu_iald rfl rfl (Or.inr rfl) hb182 ?_
      refine pu_callI (m' := 147) (ml := 2) (as := [.ref 0, .int (M 1000000 (v3 + 1 : Int32).toNatClampNeg)]) (rest := []) rfl rfl rfl (Nat.le_of_ble_eq_true rfl) H (fun x184 M183 H => ?_)
      show pu_R L (d + 10) 263 902 [.ref 1000000, .ref 0, .ref 58, .int v3] [.int x184] M183 _
      refine pu_go 5 (pc' := 907) (ls' := [.ref 1000000, .ref 0, .ref 58, .int v3]) (st' := [.int (v3 + 1), .ref 1000000, .ref 58, .int x184]) (M' := M183) rfl ?_
      obtain ⟨hb185, H⟩ := H
      refine pu_iald rfl rfl (Or.inr rfl) hb185 ?_
      refine pu_callI (m' := 255) (ml := 2) (as := [.ref 58, .int (M183 1000000 (v3 + 1 : Int32).toNatClampNeg)]) (rest := [.int x184]) rfl rfl rfl (Nat.le_of_ble_eq_true rfl) H (fun x187 M186 H => ?_)
      show pu_R L (d + 10) 263 911 [.ref 1000000, .ref 0, .ref 58, .int v3] [.int x187, .int x184] M186 _
      refine pu_icmp_eq rfl (fun hc => ?_) (fun hc => ?_)
      · replace H := Eq.mp (if_pos hc) H
        refine pu_go 2 (pc' := 18) (ls' := [.ref 1000000, .ref 0, .ref 58, .int (v3 + 6)]) (st' := []) (M' := M186) rfl ?_
        exact H
      · replace H := Eq.mp (if_neg hc) H
        refine pu_go 1 (pc' := 915) (ls' := [.ref 1000000, .ref 0, .ref 58, .int v3]) (st' := [.int 0]) (M' := M186) rfl ?_
        exact pu_ret rfl rfl ⟨_, rfl, H⟩
    replace H := Eq.mp (if_neg hs33_25) H
    by_cases hs33_26 : ((M 1000000 v3.toNatClampNeg) &&& 31) = 26
    · replace H := Eq.mp (if_pos hs33_26) H
      refine pu_one (pc' := 916) (ls' := [.ref 1000000, .ref 0, .ref 58, .int v3]) (st' := []) (M' := M) rfl (by rw [hs33_26]; rfl) ?_
      refine pu_go 1 (pc' := 917) (ls' := [.ref 1000000, .ref 0, .ref 58, .int v3]) (st' := [.ref 0]) (M' := M) rfl ?_
      refine pu_callI (m' := 148) (ml := 1) (as := [.ref 0]) (rest := []) rfl rfl rfl (Nat.le_of_ble_eq_true rfl) H (fun x189 M188 H => ?_)
      show pu_R L (d + 10) 263 920 [.ref 1000000, .ref 0, .ref 58, .int v3] [.int x189] M188 _
      refine pu_go 1 (pc' := 921) (ls' := [.ref 1000000, .ref 0, .ref 58, .int v3]) (st' := [.ref 58, .int x189]) (M' := M188) rfl ?_
      refine pu_callI (m' := 256) (ml := 1) (as := [.ref 58]) (rest := [.int x189]) rfl rfl rfl (Nat.le_of_ble_eq_true rfl) H (fun x191 M190 H => ?_)
      show pu_R L (d + 10) 263 924 [.ref 1000000, .ref 0, .ref 58, .int v3] [.int x191, .int x189] M190 _
      refine pu_icmp_eq rfl (fun hc => ?_) (fun hc => ?_)
      · replace H := Eq.mp (if_pos hc) H
        refine pu_go 2 (pc' := 18) (ls' := [.ref 1000000, .ref 0, .ref 58, .int (v3 + 6)]) (st' := []) (M' := M190) rfl ?_
        exact H
      · replace H := Eq.mp (if_neg hc) H
        refine pu_go 1 (pc' := 928) (ls' := [.ref 1000000, .ref 0, .ref 58, .int v3]) (st' := [.int 0]) (M' := M190) rfl ?_
        exact pu_ret rfl rfl ⟨_, rfl, H⟩
    replace H := Eq.mp (if_neg hs33_26) H
    by_cases hs33_27 : ((M 1000000 v3.toNatClampNeg) &&& 31) = 27
    · replace H := Eq.mp (if_pos hs33_27) H
      refine pu_one (pc' := 929) (ls' := [.ref 1000000, .ref 0, .ref 58, .int v3]) (st' := []) (M' := M) rfl (by rw [hs33_27]; rfl) ?_
      refine pu_go 1 (pc' := 930) (ls' := [.ref 1000000, .ref 0, .ref 58, .int v3]) (st' := [.ref 0]) (M' := M) rfl ?_
      refine pu_callI (m' := 149) (ml := 1) (as := [.ref 0]) (rest := []) rfl rfl rfl (Nat.le_of_ble_eq_true rfl) H (fun x193 M192 H => ?_)
      show pu_R L (d + 10) 263 933 [.ref 1000000, .ref 0, .ref 58, .int v3] [.int x193] M192 _
      refine pu_go 1 (pc' := 934) (ls' := [.ref 1000000, .ref 0, .ref 58, .int v3]) (st' := [.ref 58, .int x193]) (M' := M192) rfl ?_
      refine pu_callI (m' := 257) (ml := 1) (as := [.ref 58]) (rest := [.int x193]) rfl rfl rfl (Nat.le_of_ble_eq_true rfl) H (fun x195 M194 H => ?_)
      show pu_R L (d + 10) 263 937 [.ref 1000000, .ref 0, .ref 58, .int v3] [.int x195, .int x193] M194 _
      refine pu_icmp_eq rfl (fun hc => ?_) (fun hc => ?_)
      · replace H := Eq.mp (if_pos hc) H
        refine pu_go 2 (pc' := 18) (ls' := [.ref 1000000, .ref 0, .ref 58, .int (v3 + 6)]) (st' := []) (M' := M194) rfl ?_
        exact H
      · replace H := Eq.mp (if_neg hc) H
        refine pu_go 1 (pc' := 941) (ls' := [.ref 1000000, .ref 0, .ref 58, .int v3]) (st' := [.int 0]) (M' := M194) rfl ?_
        exact pu_ret rfl rfl ⟨_, rfl, H⟩
    replace H := Eq.mp (if_neg hs33_27) H
    by_cases hs33_28 : ((M 1000000 v3.toNatClampNeg) &&& 31) = 28
    · replace H := Eq.mp (if_pos hs33_28) H
      refine pu_one (pc' := 942) (ls' := [.ref 1000000, .ref 0, .ref 58, .int v3]) (st' := []) (M' := M) rfl (by rw [hs33_28]; rfl) ?_
      refine pu_go 5 (pc' := 947) (ls' := [.ref 1000000, .ref 0, .ref 58, .int v3]) (st' := [.int (v3 + 1), .ref 1000000, .ref 0]) (M' := M) rfl ?_
      obtain ⟨hb196, H⟩ := H
      refine pu_iald rfl rfl (Or.inr rfl) hb196 ?_
      refine pu_callI (m' := 150) (ml := 4) (as := [.ref 0, .int (M 1000000 (v3 + 1 : Int32).toNatClampNeg)]) (rest := []) rfl rfl rfl (Nat.le_of_ble_eq_true rfl) H (fun x198 M197 H => ?_)
      show pu_R L (d + 10) 263 951 [.ref 1000000, .ref 0, .ref 58, .int v3] [.int x198] M197 _
      refine pu_go 5 (pc' := 956) (ls' := [.ref 1000000, .ref 0, .ref 58, .int v3]) (st' := [.int (v3 + 1), .ref 1000000, .ref 58, .int x198]) (M' := M197) rfl ?_
      obtain ⟨hb199, H⟩ := H
      refine pu_iald rfl rfl (Or.inr rfl) hb199 ?_
      refine pu_callI (m' := 258) (ml := 3) (as := [.ref 58, .int (M197 1000000 (v3 + 1 : Int32).toNatClampNeg)]) (rest := [.int x198]) rfl rfl rfl (Nat.le_of_ble_eq_true rfl) H (fun x201 M200 H => ?_)
      show pu_R L (d + 10) 263 960 [.ref 1000000, .ref 0, .ref 58, .int v3] [.int x201, .int x198] M200 _
      refine pu_icmp_eq rfl (fun hc => ?_) (fun hc => ?_)
      · replace H := Eq.mp (if_pos hc) H
        refine pu_go 2 (pc' := 18) (ls' := [.ref 1000000, .ref 0, .ref 58, .int (v3 + 6)]) (st' := []) (M' := M200) rfl ?_
        exact H
      · replace H := Eq.mp (if_neg hc) H
        refine pu_go 1 (pc' := 964) (ls' := [.ref 1000000, .ref 0, .ref 58, .int v3]) (st' := [.int 0]) (M' := M200) rfl ?_
        exact pu_ret rfl rfl ⟨_, rfl, H⟩
    replace H := Eq.mp (if_neg hs33_28) H
    by_cases hs33_29 : ((M 1000000 v3.toNatClampNeg) &&& 31) = 29
    · replace H := Eq.mp (if_pos hs33_29) H
      refine pu_one (pc' := 965) (ls' := [.ref 1000000, .ref 0, .ref 58, .int v3]) (st' := []) (M' := M) rfl (by rw [hs33_29]; rfl) ?_
      refine pu_go 5 (pc' := 970) (ls' := [.ref 1000000, .ref 0, .ref 58, .int v3]) (st' := [.int (v3 + 1), .ref 1000000, .ref 0]) (M' := M) rfl ?_
      obtain ⟨hb202, H⟩ := H
      refine pu_iald rfl rfl (Or.inr rfl) hb202 ?_
      refine pu_callI (m' := 151) (ml := 2) (as := [.ref 0, .int (M 1000000 (v3 + 1 : Int32).toNatClampNeg)]) (rest := []) rfl rfl rfl (Nat.le_of_ble_eq_true rfl) H (fun x204 M203 H => ?_)
      show pu_R L (d + 10) 263 974 [.ref 1000000, .ref 0, .ref 58, .int v3] [.int x204] M203 _
      refine pu_go 5 (pc' := 979) (ls' := [.ref 1000000, .ref 0, .ref 58, .int v3]) (st' := [.int (v3 + 1), .ref 1000000, .ref 58, .int x204]) (M' := M203) rfl ?_
      obtain ⟨hb205, H⟩ := H
      refine pu_iald rfl rfl (Or.inr rfl) hb205 ?_
      refine pu_callI (m' := 259) (ml := 4) (as := [.ref 58, .int (M203 1000000 (v3 + 1 : Int32).toNatClampNeg)]) (rest := [.int x204]) rfl rfl rfl (Nat.le_of_ble_eq_true rfl) H (fun x207 M206 H => ?_)
      show pu_R L (d + 10) 263 983 [.ref 1000000, .ref 0, .ref 58, .int v3] [.int x207, .int x204] M206 _
      refine pu_icmp_eq rfl (fun hc => ?_) (fun hc => ?_)
      · replace H := Eq.mp (if_pos hc) H
        refine pu_go 2 (pc' := 18) (ls' := [.ref 1000000, .ref 0, .ref 58, .int (v3 + 6)]) (st' := []) (M' := M206) rfl ?_
        exact H
      · replace H := Eq.mp (if_neg hc) H
        refine pu_go 1 (pc' := 987) (ls' := [.ref 1000000, .ref 0, .ref 58, .int v3]) (st' := [.int 0]) (M' := M206) rfl ?_
        exact pu_ret rfl rfl ⟨_, rfl, H⟩
    replace H := Eq.mp (if_neg hs33_29) H
    refine pu_one (pc' := 988) (ls' := [.ref 1000000, .ref 0, .ref 58, .int v3]) (st' := []) (M' := M) rfl (congrArg (fun z => mq_nx z _ _ _) (pu_tabD [0, 1, 2, 3, 4, 5, 6, 7, 8, 9, 10, 11, 12, 13, 14, 15, 16, 17, 18, 19, 20, 21, 22, 23, 24, 25, 26, 27, 28, 29] (by simp only [List.forall_mem_cons, List.not_mem_nil, false_implies, implies_true, and_true]; exact ⟨hs33_0, hs33_1, hs33_2, hs33_3, hs33_4, hs33_5, hs33_6, hs33_7, hs33_8, hs33_9, hs33_10, hs33_11, hs33_12, hs33_13, hs33_14, hs33_15, hs33_16, hs33_17, hs33_18, hs33_19, hs33_20, hs33_21, hs33_22, hs33_23, hs33_24, hs33_25, hs33_26, hs33_27, hs33_28, hs33_29⟩) (by decide))) ?_
    refine pu_go 2 (pc' := 18) (ls' := [.ref 1000000, .ref 0, .ref 58, .int (v3 + 6)]) (st' := []) (M' := M) rfl ?_
    exact H
