theorem mq_lf {P : Nat → Prop} {m k : Nat} (h1 : ¬ m < k) (h2 : m < k + 1) (h : P k) : P m := by
  have e : m = k := by omega
  subst e; exact h
def mq_cwd (m : Nat) : Prop := ∃ h, mq_wd h = some (Cond.code (mq_y m) (mq_b m) (mq_ml m) (mq_rt m))
set_option maxRecDepth 100000 in
theorem mq_cw0 : mq_cwd 0 := ⟨1064, rfl⟩
set_option maxRecDepth 100000 in
theorem mq_cw1 : mq_cwd 1 := ⟨2232, rfl⟩
set_option maxRecDepth 100000 in
theorem mq_cw2 : mq_cwd 2 := ⟨2236, rfl⟩
set_option maxRecDepth 100000 in
theorem mq_cw3 : mq_cwd 3 := ⟨3002, rfl⟩
set_option maxRecDepth 100000 in
theorem mq_cw4 : mq_cwd 4 := ⟨3038, rfl⟩
set_option maxRecDepth 100000 in
theorem mq_cw5 : mq_cwd 5 := ⟨3019, rfl⟩
set_option maxRecDepth 100000 in
theorem mq_cw6 : mq_cwd 6 := ⟨3006, rfl⟩
set_option maxRecDepth 100000 in
theorem mq_cw7 : mq_cwd 7 := ⟨1107, rfl⟩
set_option maxRecDepth 100000 in
theorem mq_cw8 : mq_cwd 8 := ⟨4022, rfl⟩
set_option maxRecDepth 100000 in
theorem mq_cw9 : mq_cwd 9 := ⟨4044, rfl⟩
set_option maxRecDepth 100000 in
theorem mq_cw10 : mq_cwd 10 := ⟨4036, rfl⟩
set_option maxRecDepth 100000 in
theorem mq_cw11 : mq_cwd 11 := ⟨4053, rfl⟩
set_option maxRecDepth 100000 in
theorem mq_cw12 : mq_cwd 12 := ⟨4057, rfl⟩
set_option maxRecDepth 100000 in
theorem mq_cw13 : mq_cwd 13 := ⟨4062, rfl⟩
set_option maxRecDepth 100000 in
theorem mq_cw14 : mq_cwd 14 := ⟨4067, rfl⟩
set_option maxRecDepth 100000 in
theorem mq_cw15 : mq_cwd 15 := ⟨4071, rfl⟩
set_option maxRecDepth 100000 in
theorem mq_cw16 : mq_cwd 16 := ⟨4075, rfl⟩
set_option maxRecDepth 100000 in
theorem mq_cw17 : mq_cwd 17 := ⟨4080, rfl⟩
set_option maxRecDepth 100000 in
theorem mq_cw18 : mq_cwd 18 := ⟨4027, rfl⟩
set_option maxRecDepth 100000 in
theorem mq_cw19 : mq_cwd 19 := ⟨4048, rfl⟩
set_option maxRecDepth 100000 in
theorem mq_cw20 : mq_cwd 20 := ⟨4031, rfl⟩
set_option maxRecDepth 100000 in
theorem mq_cw21 : mq_cwd 21 := ⟨4040, rfl⟩
set_option maxRecDepth 100000 in
theorem mq_cw22 : mq_cwd 22 := ⟨4088, rfl⟩
set_option maxRecDepth 100000 in
theorem mq_cw23 : mq_cwd 23 := ⟨4092, rfl⟩
set_option maxRecDepth 100000 in
theorem mq_cw24 : mq_cwd 24 := ⟨4096, rfl⟩
set_option maxRecDepth 100000 in
theorem mq_cw25 : mq_cwd 25 := ⟨4100, rfl⟩
set_option maxRecDepth 100000 in
theorem mq_cw26 : mq_cwd 26 := ⟨4104, rfl⟩
set_option maxRecDepth 100000 in
theorem mq_cw27 : mq_cwd 27 := ⟨4108, rfl⟩
set_option maxRecDepth 100000 in
theorem mq_cw28 : mq_cwd 28 := ⟨4112, rfl⟩
set_option maxRecDepth 100000 in
theorem mq_cw29 : mq_cwd 29 := ⟨4191, rfl⟩
set_option maxRecDepth 100000 in
theorem mq_cw30 : mq_cwd 30 := ⟨4188, rfl⟩
set_option maxRecDepth 100000 in
theorem mq_cw31 : mq_cwd 31 := ⟨4216, rfl⟩
set_option maxRecDepth 100000 in
theorem mq_cw32 : mq_cwd 32 := ⟨4209, rfl⟩
set_option maxRecDepth 100000 in
theorem mq_cw33 : mq_cwd 33 := ⟨4185, rfl⟩
set_option maxRecDepth 100000 in
theorem mq_cw34 : mq_cwd 34 := ⟨1202, rfl⟩
set_option maxRecDepth 100000 in
theorem mq_cw35 : mq_cwd 35 := ⟨2140, rfl⟩
set_option maxRecDepth 100000 in
theorem mq_cw36 : mq_cwd 36 := ⟨2178, rfl⟩
set_option maxRecDepth 100000 in
theorem mq_cw37 : mq_cwd 37 := ⟨2204, rfl⟩
set_option maxRecDepth 100000 in
theorem mq_cw38 : mq_cwd 38 := ⟨2208, rfl⟩
set_option maxRecDepth 100000 in
theorem mq_cw39 : mq_cwd 39 := ⟨3121, rfl⟩
set_option maxRecDepth 100000 in
theorem mq_cw40 : mq_cwd 40 := ⟨3097, rfl⟩
set_option maxRecDepth 100000 in
theorem mq_cw41 : mq_cwd 41 := ⟨3101, rfl⟩
set_option maxRecDepth 100000 in
theorem mq_cw42 : mq_cwd 42 := ⟨3105, rfl⟩
set_option maxRecDepth 100000 in
theorem mq_cw43 : mq_cwd 43 := ⟨3109, rfl⟩
set_option maxRecDepth 100000 in
theorem mq_cw44 : mq_cwd 44 := ⟨3113, rfl⟩
set_option maxRecDepth 100000 in
theorem mq_cw45 : mq_cwd 45 := ⟨2009, rfl⟩
set_option maxRecDepth 100000 in
theorem mq_cw46 : mq_cwd 46 := ⟨2136, rfl⟩
set_option maxRecDepth 100000 in
theorem mq_cw47 : mq_cwd 47 := ⟨2144, rfl⟩
set_option maxRecDepth 100000 in
theorem mq_cw48 : mq_cwd 48 := ⟨2196, rfl⟩
set_option maxRecDepth 100000 in
theorem mq_cw49 : mq_cwd 49 := ⟨2200, rfl⟩
set_option maxRecDepth 100000 in
theorem mq_cw50 : mq_cwd 50 := ⟨2153, rfl⟩
set_option maxRecDepth 100000 in
theorem mq_cw51 : mq_cwd 51 := ⟨2188, rfl⟩
set_option maxRecDepth 100000 in
theorem mq_cw52 : mq_cwd 52 := ⟨2192, rfl⟩
set_option maxRecDepth 100000 in
theorem mq_cw53 : mq_cwd 53 := ⟨2157, rfl⟩
set_option maxRecDepth 100000 in
theorem mq_cw54 : mq_cwd 54 := ⟨2161, rfl⟩
set_option maxRecDepth 100000 in
theorem mq_cw55 : mq_cwd 55 := ⟨2174, rfl⟩
set_option maxRecDepth 100000 in
theorem mq_cw56 : mq_cwd 56 := ⟨2182, rfl⟩
set_option maxRecDepth 100000 in
theorem mq_cw57 : mq_cwd 57 := ⟨2185, rfl⟩
set_option maxRecDepth 100000 in
theorem mq_cw58 : mq_cwd 58 := ⟨1074, rfl⟩
set_option maxRecDepth 100000 in
theorem mq_cw59 : mq_cwd 59 := ⟨3069, rfl⟩
set_option maxRecDepth 100000 in
theorem mq_cw60 : mq_cwd 60 := ⟨3074, rfl⟩
set_option maxRecDepth 100000 in
theorem mq_cw61 : mq_cwd 61 := ⟨3117, rfl⟩
set_option maxRecDepth 100000 in
theorem mq_cw62 : mq_cwd 62 := ⟨3093, rfl⟩
set_option maxRecDepth 100000 in
theorem mq_cw63 : mq_cwd 63 := ⟨3139, rfl⟩
set_option maxRecDepth 100000 in
theorem mq_cw64 : mq_cwd 64 := ⟨1089, rfl⟩
set_option maxRecDepth 100000 in
theorem mq_cw65 : mq_cwd 65 := ⟨3215, rfl⟩
set_option maxRecDepth 100000 in
theorem mq_cw66 : mq_cwd 66 := ⟨3192, rfl⟩
set_option maxRecDepth 100000 in
theorem mq_cw67 : mq_cwd 67 := ⟨3198, rfl⟩
set_option maxRecDepth 100000 in
theorem mq_cw68 : mq_cwd 68 := ⟨3211, rfl⟩
set_option maxRecDepth 100000 in
theorem mq_cw69 : mq_cwd 69 := ⟨3187, rfl⟩
set_option maxRecDepth 100000 in
theorem mq_cw70 : mq_cwd 70 := ⟨3206, rfl⟩
set_option maxRecDepth 100000 in
theorem mq_cw71 : mq_cwd 71 := ⟨3223, rfl⟩
set_option maxRecDepth 100000 in
theorem mq_cw72 : mq_cwd 72 := ⟨3226, rfl⟩
set_option maxRecDepth 100000 in
theorem mq_cw73 : mq_cwd 73 := ⟨4174, rfl⟩
set_option maxRecDepth 100000 in
theorem mq_cw74 : mq_cwd 74 := ⟨1141, rfl⟩
set_option maxRecDepth 100000 in
theorem mq_cw75 : mq_cwd 75 := ⟨4150, rfl⟩
set_option maxRecDepth 100000 in
theorem mq_cw76 : mq_cwd 76 := ⟨4160, rfl⟩
set_option maxRecDepth 100000 in
theorem mq_cw77 : mq_cwd 77 := ⟨4164, rfl⟩
set_option maxRecDepth 100000 in
theorem mq_cw78 : mq_cwd 78 := ⟨1031, rfl⟩
set_option maxRecDepth 100000 in
theorem mq_cw79 : mq_cwd 79 := ⟨2116, rfl⟩
set_option maxRecDepth 100000 in
theorem mq_cw80 : mq_cwd 80 := ⟨2120, rfl⟩
set_option maxRecDepth 100000 in
theorem mq_cw81 : mq_cwd 81 := ⟨2128, rfl⟩
set_option maxRecDepth 100000 in
theorem mq_cw82 : mq_cwd 82 := ⟨4155, rfl⟩
set_option maxRecDepth 100000 in
theorem mq_cw83 : mq_cwd 83 := ⟨2132, rfl⟩
set_option maxRecDepth 100000 in
theorem mq_cw84 : mq_cwd 84 := ⟨3015, rfl⟩
set_option maxRecDepth 100000 in
theorem mq_cw85 : mq_cwd 85 := ⟨2165, rfl⟩
set_option maxRecDepth 100000 in
theorem mq_cw86 : mq_cwd 86 := ⟨2170, rfl⟩
set_option maxRecDepth 100000 in
theorem mq_cw87 : mq_cwd 87 := ⟨2212, rfl⟩
set_option maxRecDepth 100000 in
theorem mq_cw88 : mq_cwd 88 := ⟨2148, rfl⟩
set_option maxRecDepth 100000 in
theorem mq_cw89 : mq_cwd 89 := ⟨2217, rfl⟩
set_option maxRecDepth 100000 in
theorem mq_cw90 : mq_cwd 90 := ⟨2022, rfl⟩
set_option maxRecDepth 100000 in
theorem mq_cw91 : mq_cwd 91 := ⟨3048, rfl⟩
set_option maxRecDepth 100000 in
theorem mq_cw92 : mq_cwd 92 := ⟨3052, rfl⟩
set_option maxRecDepth 100000 in
theorem mq_cw93 : mq_cwd 93 := ⟨3059, rfl⟩
set_option maxRecDepth 100000 in
theorem mq_cw94 : mq_cwd 94 := ⟨3234, rfl⟩
set_option maxRecDepth 100000 in
theorem mq_cw95 : mq_cwd 95 := ⟨4007, rfl⟩
set_option maxRecDepth 100000 in
theorem mq_cw96 : mq_cwd 96 := ⟨3238, rfl⟩
set_option maxRecDepth 100000 in
theorem mq_cw97 : mq_cwd 97 := ⟨4003, rfl⟩
set_option maxRecDepth 100000 in
theorem mq_cw98 : mq_cwd 98 := ⟨1157, rfl⟩
set_option maxRecDepth 100000 in
theorem mq_cw99 : mq_cwd 99 := ⟨2225, rfl⟩
set_option maxRecDepth 100000 in
theorem mq_cw100 : mq_cwd 100 := ⟨3011, rfl⟩
set_option maxRecDepth 100000 in
theorem mq_cw101 : mq_cwd 101 := ⟨4018, rfl⟩
set_option maxRecDepth 100000 in
theorem mq_cw102 : mq_cwd 102 := ⟨2107, rfl⟩
set_option maxRecDepth 100000 in
theorem mq_cw103 : mq_cwd 103 := ⟨5010, rfl⟩
set_option maxRecDepth 100000 in
theorem mq_cw104 : mq_cwd 104 := ⟨5014, rfl⟩
set_option maxRecDepth 100000 in
theorem mq_cw105 : mq_cwd 105 := ⟨3150, rfl⟩
set_option maxRecDepth 100000 in
theorem mq_cw106 : mq_cwd 106 := ⟨4120, rfl⟩
set_option maxRecDepth 100000 in
theorem mq_cw107 : mq_cwd 107 := ⟨3159, rfl⟩
set_option maxRecDepth 100000 in
theorem mq_cw108 : mq_cwd 108 := ⟨2099, rfl⟩
set_option maxRecDepth 100000 in
theorem mq_cw109 : mq_cwd 109 := ⟨2103, rfl⟩
set_option maxRecDepth 100000 in
theorem mq_cw110 : mq_cwd 110 := ⟨3028, rfl⟩
set_option maxRecDepth 100000 in
theorem mq_cw111 : mq_cwd 111 := ⟨3033, rfl⟩
set_option maxRecDepth 100000 in
theorem mq_cw112 : mq_cwd 112 := ⟨3024, rfl⟩
set_option maxRecDepth 100000 in
theorem mq_cw113 : mq_cwd 113 := ⟨3082, rfl⟩
set_option maxRecDepth 100000 in
theorem mq_cw114 : mq_cwd 114 := ⟨3078, rfl⟩
set_option maxRecDepth 100000 in
theorem mq_cw115 : mq_cwd 115 := ⟨4124, rfl⟩
set_option maxRecDepth 100000 in
theorem mq_cw116 : mq_cwd 116 := ⟨4137, rfl⟩
set_option maxRecDepth 100000 in
theorem mq_cw117 : mq_cwd 117 := ⟨4182, rfl⟩
set_option maxRecDepth 100000 in
theorem mq_cw118 : mq_cwd 118 := ⟨3168, rfl⟩
set_option maxRecDepth 100000 in
theorem mq_cw119 : mq_cwd 119 := ⟨3178, rfl⟩
set_option maxRecDepth 100000 in
theorem mq_cw120 : mq_cwd 120 := ⟨3134, rfl⟩
set_option maxRecDepth 100000 in
theorem mq_cw121 : mq_cwd 121 := ⟨1023, rfl⟩
set_option maxRecDepth 100000 in
theorem mq_cw122 : mq_cwd 122 := ⟨2091, rfl⟩
set_option maxRecDepth 100000 in
theorem mq_cw123 : mq_cwd 123 := ⟨2112, rfl⟩
set_option maxRecDepth 100000 in
theorem mq_cw124 : mq_cwd 124 := ⟨2124, rfl⟩
set_option maxRecDepth 100000 in
theorem mq_cw125 : mq_cwd 125 := ⟨2221, rfl⟩
set_option maxRecDepth 100000 in
theorem mq_cw126 : mq_cwd 126 := ⟨3044, rfl⟩
set_option maxRecDepth 100000 in
theorem mq_cw127 : mq_cwd 127 := ⟨3065, rfl⟩
set_option maxRecDepth 100000 in
theorem mq_cw128 : mq_cwd 128 := ⟨3144, rfl⟩
set_option maxRecDepth 100000 in
theorem mq_cw129 : mq_cwd 129 := ⟨3154, rfl⟩
set_option maxRecDepth 100000 in
theorem mq_cw130 : mq_cwd 130 := ⟨3164, rfl⟩
set_option maxRecDepth 100000 in
theorem mq_cw131 : mq_cwd 131 := ⟨3173, rfl⟩
set_option maxRecDepth 100000 in
theorem mq_cw132 : mq_cwd 132 := ⟨3183, rfl⟩
set_option maxRecDepth 100000 in
theorem mq_cw133 : mq_cwd 133 := ⟨3202, rfl⟩
set_option maxRecDepth 100000 in
theorem mq_cw134 : mq_cwd 134 := ⟨3219, rfl⟩
set_option maxRecDepth 100000 in
theorem mq_cw135 : mq_cwd 135 := ⟨3230, rfl⟩
set_option maxRecDepth 100000 in
theorem mq_cw136 : mq_cwd 136 := ⟨4011, rfl⟩
set_option maxRecDepth 100000 in
theorem mq_cw137 : mq_cwd 137 := ⟨4084, rfl⟩
set_option maxRecDepth 100000 in
theorem mq_cw138 : mq_cwd 138 := ⟨4116, rfl⟩
set_option maxRecDepth 100000 in
theorem mq_cw139 : mq_cwd 139 := ⟨4129, rfl⟩
set_option maxRecDepth 100000 in
theorem mq_cw140 : mq_cwd 140 := ⟨4142, rfl⟩
set_option maxRecDepth 100000 in
theorem mq_cw141 : mq_cwd 141 := ⟨4146, rfl⟩
set_option maxRecDepth 100000 in
theorem mq_cw142 : mq_cwd 142 := ⟨4170, rfl⟩
set_option maxRecDepth 100000 in
theorem mq_cw143 : mq_cwd 143 := ⟨4178, rfl⟩
set_option maxRecDepth 100000 in
theorem mq_cw144 : mq_cwd 144 := ⟨4213, rfl⟩
set_option maxRecDepth 100000 in
theorem mq_cw145 : mq_cwd 145 := ⟨4220, rfl⟩
set_option maxRecDepth 100000 in
theorem mq_cw146 : mq_cwd 146 := ⟨4225, rfl⟩
set_option maxRecDepth 100000 in
theorem mq_cw147 : mq_cwd 147 := ⟨4229, rfl⟩
set_option maxRecDepth 100000 in
theorem mq_cw148 : mq_cwd 148 := ⟨4233, rfl⟩
set_option maxRecDepth 100000 in
theorem mq_cw149 : mq_cwd 149 := ⟨4237, rfl⟩
set_option maxRecDepth 100000 in
theorem mq_cw150 : mq_cwd 150 := ⟨5001, rfl⟩
set_option maxRecDepth 100000 in
theorem mq_cw151 : mq_cwd 151 := ⟨5006, rfl⟩
set_option maxRecDepth 100000 in
theorem mq_cw152 : mq_cwd 152 := ⟨4133, rfl⟩
set_option maxRecDepth 100000 in
theorem mq_cw153 : mq_cwd 153 := ⟨2094, rfl⟩
set_option maxRecDepth 100000 in
theorem mq_cw154 : mq_cwd 154 := ⟨4014, rfl⟩
set_option maxRecDepth 100000 in
theorem mq_cw155 : mq_cwd 155 := ⟨3124, rfl⟩
set_option maxRecDepth 100000 in
theorem mq_cw156 : mq_cwd 156 := ⟨5019, rfl⟩
set_option maxRecDepth 100000 in
theorem mq_cw157 : mq_cwd 157 := ⟨5179, rfl⟩
set_option maxRecDepth 100000 in
theorem mq_cw158 : mq_cwd 158 := ⟨6149, rfl⟩
set_option maxRecDepth 100000 in
theorem mq_cw159 : mq_cwd 159 := ⟨6152, rfl⟩
set_option maxRecDepth 100000 in
theorem mq_cw160 : mq_cwd 160 := ⟨6119, rfl⟩
set_option maxRecDepth 100000 in
theorem mq_cw161 : mq_cwd 161 := ⟨6146, rfl⟩
set_option maxRecDepth 100000 in
theorem mq_cw162 : mq_cwd 162 := ⟨6105, rfl⟩
set_option maxRecDepth 100000 in
theorem mq_cw163 : mq_cwd 163 := ⟨6042, rfl⟩
set_option maxRecDepth 100000 in
theorem mq_cw164 : mq_cwd 164 := ⟨6054, rfl⟩
set_option maxRecDepth 100000 in
theorem mq_cw165 : mq_cwd 165 := ⟨6066, rfl⟩
set_option maxRecDepth 100000 in
theorem mq_cw166 : mq_cwd 166 := ⟨6220, rfl⟩
set_option maxRecDepth 100000 in
theorem mq_cw167 : mq_cwd 167 := ⟨7029, rfl⟩
set_option maxRecDepth 100000 in
theorem mq_cw168 : mq_cwd 168 := ⟨6062, rfl⟩
set_option maxRecDepth 100000 in
theorem mq_cw169 : mq_cwd 169 := ⟨6116, rfl⟩
set_option maxRecDepth 100000 in
theorem mq_cw170 : mq_cwd 170 := ⟨6113, rfl⟩
set_option maxRecDepth 100000 in
theorem mq_cw171 : mq_cwd 171 := ⟨6109, rfl⟩
set_option maxRecDepth 100000 in
theorem mq_cw172 : mq_cwd 172 := ⟨6102, rfl⟩
set_option maxRecDepth 100000 in
theorem mq_cw173 : mq_cwd 173 := ⟨6176, rfl⟩
set_option maxRecDepth 100000 in
theorem mq_cw174 : mq_cwd 174 := ⟨5176, rfl⟩
set_option maxRecDepth 100000 in
theorem mq_cw175 : mq_cwd 175 := ⟨5188, rfl⟩
set_option maxRecDepth 100000 in
theorem mq_cw176 : mq_cwd 176 := ⟨5184, rfl⟩
set_option maxRecDepth 100000 in
theorem mq_cw177 : mq_cwd 177 := ⟨7045, rfl⟩
set_option maxRecDepth 100000 in
theorem mq_cw178 : mq_cwd 178 := ⟨5204, rfl⟩
set_option maxRecDepth 100000 in
theorem mq_cw179 : mq_cwd 179 := ⟨5225, rfl⟩
set_option maxRecDepth 100000 in
theorem mq_cw180 : mq_cwd 180 := ⟨5208, rfl⟩
set_option maxRecDepth 100000 in
theorem mq_cw181 : mq_cwd 181 := ⟨6035, rfl⟩
set_option maxRecDepth 100000 in
theorem mq_cw182 : mq_cwd 182 := ⟨5229, rfl⟩
set_option maxRecDepth 100000 in
theorem mq_cw183 : mq_cwd 183 := ⟨5233, rfl⟩
set_option maxRecDepth 100000 in
theorem mq_cw184 : mq_cwd 184 := ⟨5220, rfl⟩
set_option maxRecDepth 100000 in
theorem mq_cw185 : mq_cwd 185 := ⟨6007, rfl⟩
set_option maxRecDepth 100000 in
theorem mq_cw186 : mq_cwd 186 := ⟨5236, rfl⟩
set_option maxRecDepth 100000 in
theorem mq_cw187 : mq_cwd 187 := ⟨5239, rfl⟩
set_option maxRecDepth 100000 in
theorem mq_cw188 : mq_cwd 188 := ⟨6003, rfl⟩
set_option maxRecDepth 100000 in
theorem mq_cw189 : mq_cwd 189 := ⟨5216, rfl⟩
set_option maxRecDepth 100000 in
theorem mq_cw190 : mq_cwd 190 := ⟨6011, rfl⟩
set_option maxRecDepth 100000 in
theorem mq_cw191 : mq_cwd 191 := ⟨5212, rfl⟩
set_option maxRecDepth 100000 in
theorem mq_cw192 : mq_cwd 192 := ⟨6023, rfl⟩
set_option maxRecDepth 100000 in
theorem mq_cw193 : mq_cwd 193 := ⟨6027, rfl⟩
set_option maxRecDepth 100000 in
theorem mq_cw194 : mq_cwd 194 := ⟨6031, rfl⟩
set_option maxRecDepth 100000 in
theorem mq_cw195 : mq_cwd 195 := ⟨6019, rfl⟩
set_option maxRecDepth 100000 in
theorem mq_cw196 : mq_cwd 196 := ⟨6015, rfl⟩
set_option maxRecDepth 100000 in
theorem mq_cw197 : mq_cwd 197 := ⟨5200, rfl⟩
set_option maxRecDepth 100000 in
theorem mq_cw198 : mq_cwd 198 := ⟨5196, rfl⟩
set_option maxRecDepth 100000 in
theorem mq_cw199 : mq_cwd 199 := ⟨5192, rfl⟩
set_option maxRecDepth 100000 in
theorem mq_cw200 : mq_cwd 200 := ⟨6130, rfl⟩
set_option maxRecDepth 100000 in
theorem mq_cw201 : mq_cwd 201 := ⟨6127, rfl⟩
set_option maxRecDepth 100000 in
theorem mq_cw202 : mq_cwd 202 := ⟨6138, rfl⟩
set_option maxRecDepth 100000 in
theorem mq_cw203 : mq_cwd 203 := ⟨6123, rfl⟩
set_option maxRecDepth 100000 in
theorem mq_cw204 : mq_cwd 204 := ⟨6098, rfl⟩
set_option maxRecDepth 100000 in
theorem mq_cw205 : mq_cwd 205 := ⟨6050, rfl⟩
set_option maxRecDepth 100000 in
theorem mq_cw206 : mq_cwd 206 := ⟨6058, rfl⟩
set_option maxRecDepth 100000 in
theorem mq_cw207 : mq_cwd 207 := ⟨6070, rfl⟩
set_option maxRecDepth 100000 in
theorem mq_cw208 : mq_cwd 208 := ⟨6074, rfl⟩
set_option maxRecDepth 100000 in
theorem mq_cw209 : mq_cwd 209 := ⟨6046, rfl⟩
set_option maxRecDepth 100000 in
theorem mq_cw210 : mq_cwd 210 := ⟨6039, rfl⟩
set_option maxRecDepth 100000 in
theorem mq_cw211 : mq_cwd 211 := ⟨6082, rfl⟩
set_option maxRecDepth 100000 in
theorem mq_cw212 : mq_cwd 212 := ⟨6078, rfl⟩
set_option maxRecDepth 100000 in
theorem mq_cw213 : mq_cwd 213 := ⟨6134, rfl⟩
set_option maxRecDepth 100000 in
theorem mq_cw214 : mq_cwd 214 := ⟨6143, rfl⟩
set_option maxRecDepth 100000 in
theorem mq_cw215 : mq_cwd 215 := ⟨6094, rfl⟩
set_option maxRecDepth 100000 in
theorem mq_cw216 : mq_cwd 216 := ⟨6090, rfl⟩
set_option maxRecDepth 100000 in
theorem mq_cw217 : mq_cwd 217 := ⟨6086, rfl⟩
set_option maxRecDepth 100000 in
theorem mq_cw218 : mq_cwd 218 := ⟨6160, rfl⟩
set_option maxRecDepth 100000 in
theorem mq_cw219 : mq_cwd 219 := ⟨6156, rfl⟩
set_option maxRecDepth 100000 in
theorem mq_cw220 : mq_cwd 220 := ⟨6168, rfl⟩
set_option maxRecDepth 100000 in
theorem mq_cw221 : mq_cwd 221 := ⟨6164, rfl⟩
set_option maxRecDepth 100000 in
theorem mq_cw222 : mq_cwd 222 := ⟨6172, rfl⟩
set_option maxRecDepth 100000 in
theorem mq_cw223 : mq_cwd 223 := ⟨6180, rfl⟩
set_option maxRecDepth 100000 in
theorem mq_cw224 : mq_cwd 224 := ⟨6188, rfl⟩
set_option maxRecDepth 100000 in
theorem mq_cw225 : mq_cwd 225 := ⟨6184, rfl⟩
set_option maxRecDepth 100000 in
theorem mq_cw226 : mq_cwd 226 := ⟨6192, rfl⟩
set_option maxRecDepth 100000 in
theorem mq_cw227 : mq_cwd 227 := ⟨6201, rfl⟩
set_option maxRecDepth 100000 in
theorem mq_cw228 : mq_cwd 228 := ⟨6196, rfl⟩
set_option maxRecDepth 100000 in
theorem mq_cw229 : mq_cwd 229 := ⟨6212, rfl⟩
set_option maxRecDepth 100000 in
theorem mq_cw230 : mq_cwd 230 := ⟨6209, rfl⟩
set_option maxRecDepth 100000 in
theorem mq_cw231 : mq_cwd 231 := ⟨6205, rfl⟩
set_option maxRecDepth 100000 in
theorem mq_cw232 : mq_cwd 232 := ⟨6237, rfl⟩
set_option maxRecDepth 100000 in
theorem mq_cw233 : mq_cwd 233 := ⟨6233, rfl⟩
set_option maxRecDepth 100000 in
theorem mq_cw234 : mq_cwd 234 := ⟨6229, rfl⟩
set_option maxRecDepth 100000 in
theorem mq_cw235 : mq_cwd 235 := ⟨6225, rfl⟩
set_option maxRecDepth 100000 in
theorem mq_cw236 : mq_cwd 236 := ⟨6216, rfl⟩
set_option maxRecDepth 100000 in
theorem mq_cw237 : mq_cwd 237 := ⟨7005, rfl⟩
set_option maxRecDepth 100000 in
theorem mq_cw238 : mq_cwd 238 := ⟨7009, rfl⟩
set_option maxRecDepth 100000 in
theorem mq_cw239 : mq_cwd 239 := ⟨7001, rfl⟩
set_option maxRecDepth 100000 in
theorem mq_cw240 : mq_cwd 240 := ⟨7017, rfl⟩
set_option maxRecDepth 100000 in
theorem mq_cw241 : mq_cwd 241 := ⟨7013, rfl⟩
set_option maxRecDepth 100000 in
theorem mq_cw242 : mq_cwd 242 := ⟨7025, rfl⟩
set_option maxRecDepth 100000 in
theorem mq_cw243 : mq_cwd 243 := ⟨7021, rfl⟩
set_option maxRecDepth 100000 in
theorem mq_cw244 : mq_cwd 244 := ⟨7033, rfl⟩
set_option maxRecDepth 100000 in
theorem mq_cw245 : mq_cwd 245 := ⟨7041, rfl⟩
set_option maxRecDepth 100000 in
theorem mq_cw246 : mq_cwd 246 := ⟨7037, rfl⟩
set_option maxRecDepth 100000 in
theorem mq_cw247 : mq_cwd 247 := ⟨7049, rfl⟩
set_option maxRecDepth 100000 in
theorem mq_cw248 : mq_cwd 248 := ⟨7057, rfl⟩
set_option maxRecDepth 100000 in
theorem mq_cw249 : mq_cwd 249 := ⟨7061, rfl⟩
set_option maxRecDepth 100000 in
theorem mq_cw250 : mq_cwd 250 := ⟨7053, rfl⟩
set_option maxRecDepth 100000 in
theorem mq_cw251 : mq_cwd 251 := ⟨7069, rfl⟩
set_option maxRecDepth 100000 in
theorem mq_cw252 : mq_cwd 252 := ⟨7065, rfl⟩
set_option maxRecDepth 100000 in
theorem mq_cw253 : mq_cwd 253 := ⟨7073, rfl⟩
set_option maxRecDepth 100000 in
theorem mq_cw254 : mq_cwd 254 := ⟨7077, rfl⟩
set_option maxRecDepth 100000 in
theorem mq_cw255 : mq_cwd 255 := ⟨7081, rfl⟩
set_option maxRecDepth 100000 in
theorem mq_cw256 : mq_cwd 256 := ⟨7085, rfl⟩
set_option maxRecDepth 100000 in
theorem mq_cw257 : mq_cwd 257 := ⟨7089, rfl⟩
set_option maxRecDepth 100000 in
theorem mq_cw258 : mq_cwd 258 := ⟨7093, rfl⟩
set_option maxRecDepth 100000 in
theorem mq_cw259 : mq_cwd 259 := ⟨7097, rfl⟩
set_option maxRecDepth 100000 in
theorem mq_cw260 : mq_cwd 260 := ⟨3086, rfl⟩
set_option maxRecDepth 100000 in
theorem mq_cw261 : mq_cwd 261 := ⟨4197, rfl⟩
set_option maxRecDepth 100000 in
theorem mq_cw262 : mq_cwd 262 := ⟨1161, rfl⟩
theorem mq_code_ok (m : Nat) (hm : m < 263) : mq_cwd m := (if h131 : m < 131 then (if h65 : m < 65 then (if h32 : m < 32 then (if h16 : m < 16 then (if h8 : m < 8 then (if h4 : m < 4 then (if h2 : m < 2 then (if h1 : m < 1 then (mq_lf (Nat.not_lt_zero m) h1 mq_cw0) else (mq_lf h1 h2 mq_cw1)) else (if h3 : m < 3 then (mq_lf h2 h3 mq_cw2) else (mq_lf h3 h4 mq_cw3))) else (if h6 : m < 6 then (if h5 : m < 5 then (mq_lf h4 h5 mq_cw4) else (mq_lf h5 h6 mq_cw5)) else (if h7 : m < 7 then (mq_lf h6 h7 mq_cw6) else (mq_lf h7 h8 mq_cw7)))) else (if h12 : m < 12 then (if h10 : m < 10 then (if h9 : m < 9 then (mq_lf h8 h9 mq_cw8) else (mq_lf h9 h10 mq_cw9)) else (if h11 : m < 11 then (mq_lf h10 h11 mq_cw10) else (mq_lf h11 h12 mq_cw11))) else (if h14 : m < 14 then (if h13 : m < 13 then (mq_lf h12 h13 mq_cw12) else (mq_lf h13 h14 mq_cw13)) else (if h15 : m < 15 then (mq_lf h14 h15 mq_cw14) else (mq_lf h15 h16 mq_cw15))))) else (if h24 : m < 24 then (if h20 : m < 20 then (if h18 : m < 18 then (if h17 : m < 17 then (mq_lf h16 h17 mq_cw16) else (mq_lf h17 h18 mq_cw17)) else (if h19 : m < 19 then (mq_lf h18 h19 mq_cw18) else (mq_lf h19 h20 mq_cw19))) else (if h22 : m < 22 then (if h21 : m < 21 then (mq_lf h20 h21 mq_cw20) else (mq_lf h21 h22 mq_cw21)) else (if h23 : m < 23 then (mq_lf h22 h23 mq_cw22) else (mq_lf h23 h24 mq_cw23)))) else (if h28 : m < 28 then (if h26 : m < 26 then (if h25 : m < 25 then (mq_lf h24 h25 mq_cw24) else (mq_lf h25 h26 mq_cw25)) else (if h27 : m < 27 then (mq_lf h26 h27 mq_cw26) else (mq_lf h27 h28 mq_cw27))) else (if h30 : m < 30 then (if h29 : m < 29 then (mq_lf h28 h29 mq_cw28) else (mq_lf h29 h30 mq_cw29)) else (if h31 : m < 31 then (mq_lf h30 h31 mq_cw30) else (mq_lf h31 h32 mq_cw31)))))) else (if h48 : m < 48 then (if h40 : m < 40 then (if h36 : m < 36 then (if h34 : m < 34 then (if h33 : m < 33 then (mq_lf h32 h33 mq_cw32) else (mq_lf h33 h34 mq_cw33)) else (if h35 : m < 35 then (mq_lf h34 h35 mq_cw34) else (mq_lf h35 h36 mq_cw35))) else (if h38 : m < 38 then (if h37 : m < 37 then (mq_lf h36 h37 mq_cw36) else (mq_lf h37 h38 mq_cw37)) else (if h39 : m < 39 then (mq_lf h38 h39 mq_cw38) else (mq_lf h39 h40 mq_cw39)))) else (if h44 : m < 44 then (if h42 : m < 42 then (if h41 : m < 41 then (mq_lf h40 h41 mq_cw40) else (mq_lf h41 h42 mq_cw41)) else (if h43 : m < 43 then (mq_lf h42 h43 mq_cw42) else (mq_lf h43 h44 mq_cw43))) else (if h46 : m < 46 then (if h45 : m < 45 then (mq_lf h44 h45 mq_cw44) else (mq_lf h45 h46 mq_cw45)) else (if h47 : m < 47 then (mq_lf h46 h47 mq_cw46) else (mq_lf h47 h48 mq_cw47))))) else (if h56 : m < 56 then (if h52 : m < 52 then (if h50 : m < 50 then (if h49 : m < 49 then (mq_lf h48 h49 mq_cw48) else (mq_lf h49 h50 mq_cw49)) else (if h51 : m < 51 then (mq_lf h50 h51 mq_cw50) else (mq_lf h51 h52 mq_cw51))) else (if h54 : m < 54 then (if h53 : m < 53 then (mq_lf h52 h53 mq_cw52) else (mq_lf h53 h54 mq_cw53)) else (if h55 : m < 55 then (mq_lf h54 h55 mq_cw54) else (mq_lf h55 h56 mq_cw55)))) else (if h60 : m < 60 then (if h58 : m < 58 then (if h57 : m < 57 then (mq_lf h56 h57 mq_cw56) else (mq_lf h57 h58 mq_cw57)) else (if h59 : m < 59 then (mq_lf h58 h59 mq_cw58) else (mq_lf h59 h60 mq_cw59))) else (if h62 : m < 62 then (if h61 : m < 61 then (mq_lf h60 h61 mq_cw60) else (mq_lf h61 h62 mq_cw61)) else (if h63 : m < 63 then (mq_lf h62 h63 mq_cw62) else (if h64 : m < 64 then (mq_lf h63 h64 mq_cw63) else (mq_lf h64 h65 mq_cw64)))))))) else (if h98 : m < 98 then (if h81 : m < 81 then (if h73 : m < 73 then (if h69 : m < 69 then (if h67 : m < 67 then (if h66 : m < 66 then (mq_lf h65 h66 mq_cw65) else (mq_lf h66 h67 mq_cw66)) else (if h68 : m < 68 then (mq_lf h67 h68 mq_cw67) else (mq_lf h68 h69 mq_cw68))) else (if h71 : m < 71 then (if h70 : m < 70 then (mq_lf h69 h70 mq_cw69) else (mq_lf h70 h71 mq_cw70)) else (if h72 : m < 72 then (mq_lf h71 h72 mq_cw71) else (mq_lf h72 h73 mq_cw72)))) else (if h77 : m < 77 then (if h75 : m < 75 then (if h74 : m < 74 then (mq_lf h73 h74 mq_cw73) else (mq_lf h74 h75 mq_cw74)) else (if h76 : m < 76 then (mq_lf h75 h76 mq_cw75) else (mq_lf h76 h77 mq_cw76))) else (if h79 : m < 79 then (if h78 : m < 78 then (mq_lf h77 h78 mq_cw77) else (mq_lf h78 h79 mq_cw78)) else (if h80 : m < 80 then (mq_lf h79 h80 mq_cw79) else (mq_lf h80 h81 mq_cw80))))) else (if h89 : m < 89 then (if h85 : m < 85 then (if h83 : m < 83 then (if h82 : m < 82 then (mq_lf h81 h82 mq_cw81) else (mq_lf h82 h83 mq_cw82)) else (if h84 : m < 84 then (mq_lf h83 h84 mq_cw83) else (mq_lf h84 h85 mq_cw84))) else (if h87 : m < 87 then (if h86 : m < 86 then (mq_lf h85 h86 mq_cw85) else (mq_lf h86 h87 mq_cw86)) else (if h88 : m < 88 then (mq_lf h87 h88 mq_cw87) else (mq_lf h88 h89 mq_cw88)))) else (if h93 : m < 93 then (if h91 : m < 91 then (if h90 : m < 90 then (mq_lf h89 h90 mq_cw89) else (mq_lf h90 h91 mq_cw90)) else (if h92 : m < 92 then (mq_lf h91 h92 mq_cw91) else (mq_lf h92 h93 mq_cw92))) else (if h95 : m < 95 then (if h94 : m < 94 then (mq_lf h93 h94 mq_cw93) else (mq_lf h94 h95 mq_cw94)) else (if h96 : m < 96 then (mq_lf h95 h96 mq_cw95) else (if h97 : m < 97 then (mq_lf h96 h97 mq_cw96) else (mq_lf h97 h98 mq_cw97))))))) else (if h114 : m < 114 then (if h106 : m < 106 then (if h102 : m < 102 then (if h100 : m < 100 then (if h99 : m < 99 then (mq_lf h98 h99 mq_cw98) else (mq_lf h99 h100 mq_cw99)) else (if h101 : m < 101 then (mq_lf h100 h101 mq_cw100) else (mq_lf h101 h102 mq_cw101))) else (if h104 : m < 104 then (if h103 : m < 103 then (mq_lf h102 h103 mq_cw102) else (mq_lf h103 h104 mq_cw103)) else (if h105 : m < 105 then (mq_lf h104 h105 mq_cw104) else (mq_lf h105 h106 mq_cw105)))) else (if h110 : m < 110 then (if h108 : m < 108 then (if h107 : m < 107 then (mq_lf h106 h107 mq_cw106) else (mq_lf h107 h108 mq_cw107)) else (if h109 : m < 109 then (mq_lf h108 h109 mq_cw108) else (mq_lf h109 h110 mq_cw109))) else (if h112 : m < 112 then (if h111 : m < 111 then (mq_lf h110 h111 mq_cw110) else (mq_lf h111 h112 mq_cw111)) else (if h113 : m < 113 then (mq_lf h112 h113 mq_cw112) else (mq_lf h113 h114 mq_cw113))))) else (if h122 : m < 122 then (if h118 : m < 118 then (if h116 : m < 116 then (if h115 : m < 115 then (mq_lf h114 h115 mq_cw114) else (mq_lf h115 h116 mq_cw115)) else (if h117 : m < 117 then (mq_lf h116 h117 mq_cw116) else (mq_lf h117 h118 mq_cw117))) else (if h120 : m < 120 then (if h119 : m < 119 then (mq_lf h118 h119 mq_cw118) else (mq_lf h119 h120 mq_cw119)) else (if h121 : m < 121 then (mq_lf h120 h121 mq_cw120) else (mq_lf h121 h122 mq_cw121)))) else (if h126 : m < 126 then (if h124 : m < 124 then (if h123 : m < 123 then (mq_lf h122 h123 mq_cw122) else (mq_lf h123 h124 mq_cw123)) else (if h125 : m < 125 then (mq_lf h124 h125 mq_cw124) else (mq_lf h125 h126 mq_cw125))) else (if h128 : m < 128 then (if h127 : m < 127 then (mq_lf h126 h127 mq_cw126) else (mq_lf h127 h128 mq_cw127)) else (if h129 : m < 129 then (mq_lf h128 h129 mq_cw128) else (if h130 : m < 130 then (mq_lf h129 h130 mq_cw129) else (mq_lf h130 h131 mq_cw130))))))))) else (if h197 : m < 197 then (if h164 : m < 164 then (if h147 : m < 147 then (if h139 : m < 139 then (if h135 : m < 135 then (if h133 : m < 133 then (if h132 : m < 132 then (mq_lf h131 h132 mq_cw131) else (mq_lf h132 h133 mq_cw132)) else (if h134 : m < 134 then (mq_lf h133 h134 mq_cw133) else (mq_lf h134 h135 mq_cw134))) else (if h137 : m < 137 then (if h136 : m < 136 then (mq_lf h135 h136 mq_cw135) else (mq_lf h136 h137 mq_cw136)) else (if h138 : m < 138 then (mq_lf h137 h138 mq_cw137) else (mq_lf h138 h139 mq_cw138)))) else (if h143 : m < 143 then (if h141 : m < 141 then (if h140 : m < 140 then (mq_lf h139 h140 mq_cw139) else (mq_lf h140 h141 mq_cw140)) else (if h142 : m < 142 then (mq_lf h141 h142 mq_cw141) else (mq_lf h142 h143 mq_cw142))) else (if h145 : m < 145 then (if h144 : m < 144 then (mq_lf h143 h144 mq_cw143) else (mq_lf h144 h145 mq_cw144)) else (if h146 : m < 146 then (mq_lf h145 h146 mq_cw145) else (mq_lf h146 h147 mq_cw146))))) else (if h155 : m < 155 then (if h151 : m < 151 then (if h149 : m < 149 then (if h148 : m < 148 then (mq_lf h147 h148 mq_cw147) else (mq_lf h148 h149 mq_cw148)) else (if h150 : m < 150 then (mq_lf h149 h150 mq_cw149) else (mq_lf h150 h151 mq_cw150))) else (if h153 : m < 153 then (if h152 : m < 152 then (mq_lf h151 h152 mq_cw151) else (mq_lf h152 h153 mq_cw152)) else (if h154 : m < 154 then (mq_lf h153 h154 mq_cw153) else (mq_lf h154 h155 mq_cw154)))) else (if h159 : m < 159 then (if h157 : m < 157 then (if h156 : m < 156 then (mq_lf h155 h156 mq_cw155) else (mq_lf h156 h157 mq_cw156)) else (if h158 : m < 158 then (mq_lf h157 h158 mq_cw157) else (mq_lf h158 h159 mq_cw158))) else (if h161 : m < 161 then (if h160 : m < 160 then (mq_lf h159 h160 mq_cw159) else (mq_lf h160 h161 mq_cw160)) else (if h162 : m < 162 then (mq_lf h161 h162 mq_cw161) else (if h163 : m < 163 then (mq_lf h162 h163 mq_cw162) else (mq_lf h163 h164 mq_cw163))))))) else (if h180 : m < 180 then (if h172 : m < 172 then (if h168 : m < 168 then (if h166 : m < 166 then (if h165 : m < 165 then (mq_lf h164 h165 mq_cw164) else (mq_lf h165 h166 mq_cw165)) else (if h167 : m < 167 then (mq_lf h166 h167 mq_cw166) else (mq_lf h167 h168 mq_cw167))) else (if h170 : m < 170 then (if h169 : m < 169 then (mq_lf h168 h169 mq_cw168) else (mq_lf h169 h170 mq_cw169)) else (if h171 : m < 171 then (mq_lf h170 h171 mq_cw170) else (mq_lf h171 h172 mq_cw171)))) else (if h176 : m < 176 then (if h174 : m < 174 then (if h173 : m < 173 then (mq_lf h172 h173 mq_cw172) else (mq_lf h173 h174 mq_cw173)) else (if h175 : m < 175 then (mq_lf h174 h175 mq_cw174) else (mq_lf h175 h176 mq_cw175))) else (if h178 : m < 178 then (if h177 : m < 177 then (mq_lf h176 h177 mq_cw176) else (mq_lf h177 h178 mq_cw177)) else (if h179 : m < 179 then (mq_lf h178 h179 mq_cw178) else (mq_lf h179 h180 mq_cw179))))) else (if h188 : m < 188 then (if h184 : m < 184 then (if h182 : m < 182 then (if h181 : m < 181 then (mq_lf h180 h181 mq_cw180) else (mq_lf h181 h182 mq_cw181)) else (if h183 : m < 183 then (mq_lf h182 h183 mq_cw182) else (mq_lf h183 h184 mq_cw183))) else (if h186 : m < 186 then (if h185 : m < 185 then (mq_lf h184 h185 mq_cw184) else (mq_lf h185 h186 mq_cw185)) else (if h187 : m < 187 then (mq_lf h186 h187 mq_cw186) else (mq_lf h187 h188 mq_cw187)))) else (if h192 : m < 192 then (if h190 : m < 190 then (if h189 : m < 189 then (mq_lf h188 h189 mq_cw188) else (mq_lf h189 h190 mq_cw189)) else (if h191 : m < 191 then (mq_lf h190 h191 mq_cw190) else (mq_lf h191 h192 mq_cw191))) else (if h194 : m < 194 then (if h193 : m < 193 then (mq_lf h192 h193 mq_cw192) else (mq_lf h193 h194 mq_cw193)) else (if h195 : m < 195 then (mq_lf h194 h195 mq_cw194) else (if h196 : m < 196 then (mq_lf h195 h196 mq_cw195) else (mq_lf h196 h197 mq_cw196)))))))) else (if h230 : m < 230 then (if h213 : m < 213 then (if h205 : m < 205 then (if h201 : m < 201 then (if h199 : m < 199 then (if h198 : m < 198 then (mq_lf h197 h198 mq_cw197) else (mq_lf h198 h199 mq_cw198)) else (if h200 : m < 200 then (mq_lf h199 h200 mq_cw199) else (mq_lf h200 h201 mq_cw200))) else (if h203 : m < 203 then (if h202 : m < 202 then (mq_lf h201 h202 mq_cw201) else (mq_lf h202 h203 mq_cw202)) else (if h204 : m < 204 then (mq_lf h203 h204 mq_cw203) else (mq_lf h204 h205 mq_cw204)))) else (if h209 : m < 209 then (if h207 : m < 207 then (if h206 : m < 206 then (mq_lf h205 h206 mq_cw205) else (mq_lf h206 h207 mq_cw206)) else (if h208 : m < 208 then (mq_lf h207 h208 mq_cw207) else (mq_lf h208 h209 mq_cw208))) else (if h211 : m < 211 then (if h210 : m < 210 then (mq_lf h209 h210 mq_cw209) else (mq_lf h210 h211 mq_cw210)) else (if h212 : m < 212 then (mq_lf h211 h212 mq_cw211) else (mq_lf h212 h213 mq_cw212))))) else (if h221 : m < 221 then (if h217 : m < 217 then (if h215 : m < 215 then (if h214 : m < 214 then (mq_lf h213 h214 mq_cw213) else (mq_lf h214 h215 mq_cw214)) else (if h216 : m < 216 then (mq_lf h215 h216 mq_cw215) else (mq_lf h216 h217 mq_cw216))) else (if h219 : m < 219 then (if h218 : m < 218 then (mq_lf h217 h218 mq_cw217) else (mq_lf h218 h219 mq_cw218)) else (if h220 : m < 220 then (mq_lf h219 h220 mq_cw219) else (mq_lf h220 h221 mq_cw220)))) else (if h225 : m < 225 then (if h223 : m < 223 then (if h222 : m < 222 then (mq_lf h221 h222 mq_cw221) else (mq_lf h222 h223 mq_cw222)) else (if h224 : m < 224 then (mq_lf h223 h224 mq_cw223) else (mq_lf h224 h225 mq_cw224))) else (if h227 : m < 227 then (if h226 : m < 226 then (mq_lf h225 h226 mq_cw225) else (mq_lf h226 h227 mq_cw226)) else (if h228 : m < 228 then (mq_lf h227 h228 mq_cw227) else (if h229 : m < 229 then (mq_lf h228 h229 mq_cw228) else (mq_lf h229 h230 mq_cw229))))))) else (if h246 : m < 246 then (if h238 : m < 238 then (if h234 : m < 234 then (if h232 : m < 232 then (if h231 : m < 231 then (mq_lf h230 h231 mq_cw230) else (mq_lf h231 h232 mq_cw231)) else (if h233 : m < 233 then (mq_lf h232 h233 mq_cw232) else (mq_lf h233 h234 mq_cw233))) else (if h236 : m < 236 then (if h235 : m < 235 then (mq_lf h234 h235 mq_cw234) else (mq_lf h235 h236 mq_cw235)) else (if h237 : m < 237 then (mq_lf h236 h237 mq_cw236) else (mq_lf h237 h238 mq_cw237)))) else (if h242 : m < 242 then (if h240 : m < 240 then (if h239 : m < 239 then (mq_lf h238 h239 mq_cw238) else (mq_lf h239 h240 mq_cw239)) else (if h241 : m < 241 then (mq_lf h240 h241 mq_cw240) else (mq_lf h241 h242 mq_cw241))) else (if h244 : m < 244 then (if h243 : m < 243 then (mq_lf h242 h243 mq_cw242) else (mq_lf h243 h244 mq_cw243)) else (if h245 : m < 245 then (mq_lf h244 h245 mq_cw244) else (mq_lf h245 h246 mq_cw245))))) else (if h254 : m < 254 then (if h250 : m < 250 then (if h248 : m < 248 then (if h247 : m < 247 then (mq_lf h246 h247 mq_cw246) else (mq_lf h247 h248 mq_cw247)) else (if h249 : m < 249 then (mq_lf h248 h249 mq_cw248) else (mq_lf h249 h250 mq_cw249))) else (if h252 : m < 252 then (if h251 : m < 251 then (mq_lf h250 h251 mq_cw250) else (mq_lf h251 h252 mq_cw251)) else (if h253 : m < 253 then (mq_lf h252 h253 mq_cw252) else (mq_lf h253 h254 mq_cw253)))) else (if h258 : m < 258 then (if h256 : m < 256 then (if h255 : m < 255 then (mq_lf h254 h255 mq_cw254) else (mq_lf h255 h256 mq_cw255)) else (if h257 : m < 257 then (mq_lf h256 h257 mq_cw256) else (mq_lf h257 h258 mq_cw257))) else (if h260 : m < 260 then (if h259 : m < 259 then (mq_lf h258 h259 mq_cw258) else (mq_lf h259 h260 mq_cw259)) else (if h261 : m < 261 then (mq_lf h260 h261 mq_cw260) else (if h262 : m < 262 then (mq_lf h261 h262 mq_cw261) else (mq_lf h262 hm mq_cw262))))))))))
