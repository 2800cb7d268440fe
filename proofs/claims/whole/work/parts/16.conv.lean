/-! ===== the cells as the two constructors leave them; the rules there ===== -/
def am_SH : am_Sh := [(10, 9, [some 1, some 8, some 35, some 20, some 103, some 108, some 134, some 137, some 142]), (0, 9, [none, none, some 2, some 3, some 4, some 5, some 6, some 7, none]), (12, 16, []), (12, 8, []), (12, 64, []), (12, 16, []), (12, 16, []), (12, 16, []), (1, 16, [none, some 9, some 10, none, some 11, some 12, none, some 13, some 14, some 15, none, some 16, some 17, some 18, some 19, none]), (12, 6, []), (12, 6, []), (12, 5, []), (12, 5, []), (12, 12, []), (12, 12, []), (12, 12, []), (12, 40, []), (12, 40, []), (12, 40, []), (12, 40, []), (3, 5, [some 1, some 8, none, some 21, some 22]), (12, 12, []), (15, 12, [some 23, some 24, some 25, some 26, some 27, some 28, some 29, some 30, some 31, some 32, some 33, some 34]), (12, 8, []), (12, 8, []), (12, 8, []), (12, 8, []), (12, 8, []), (12, 8, []), (12, 8, []), (12, 8, []), (12, 8, []), (12, 8, []), (12, 8, []), (12, 8, []), (2, 9, [some 1, some 8, some 36, some 37, some 38, some 39, none, some 40, some 102]), (12, 12, []), (12, 12, []), (12, 61, []), (12, 12, []), (15, 61, [some 41, some 42, some 43, some 44, some 45, some 46, some 47, some 48, some 49, some 50, some 51, some 52, some 53, some 54, some 55, some 56, some 57, some 58, some 59, some 60, some 61, some 62, some 63, some 64, some 65, some 66, some 67, some 68, some 69, some 70, some 71, some 72, some 73, some 74, some 75, some 76, some 77, some 78, some 79, some 80, some 81, some 82, some 83, some 84, some 85, some 86, some 87, some 88, some 89, some 90, some 91, some 92, some 93, some 94, some 95, some 96, some 97, some 98, some 99, some 100, some 101]), (12, 12, []), (12, 12, []), (12, 12, []), (12, 12, []), (12, 12, []), (12, 12, []), (12, 12, []), (12, 12, []), (12, 12, []), (12, 12, []), (12, 12, []), (12, 12, []), (12, 12, []), (12, 12, []), (12, 12, []), (12, 12, []), (12, 12, []), (12, 12, []), (12, 12, []), (12, 12, []), (12, 12, []), (12, 12, []), (12, 12, []), (12, 12, []), (12, 12, []), (12, 12, []), (12, 12, []), (12, 12, []), (12, 12, []), (12, 12, []), (12, 12, []), (12, 12, []), (12, 12, []), (12, 12, []), (12, 12, []), (12, 12, []), (12, 12, []), (12, 12, []), (12, 12, []), (12, 12, []), (12, 12, []), (12, 12, []), (12, 12, []), (12, 12, []), (12, 12, []), (12, 12, []), (12, 12, []), (12, 12, []), (12, 12, []), (12, 12, []), (12, 12, []), (12, 12, []), (12, 12, []), (12, 12, []), (12, 12, []), (12, 12, []), (12, 12, []), (12, 12, []), (12, 12, []), (12, 12, []), (12, 12, []), (12, 61, []), (4, 7, [some 20, some 8, some 104, some 105, some 106, some 107, none]), (12, 12, []), (12, 12, []), (12, 8, []), (12, 8, []), (6, 8, [some 1, some 8, some 20, some 109, some 121, some 133, none, none]), (5, 4, [none, some 110, some 111, some 120]), (14, 8, []), (16, 8, [some 112, some 113, some 114, some 115, some 116, some 117, some 118, some 119]), (13, 8, []), (13, 8, []), (13, 8, []), (13, 8, []), (13, 8, []), (13, 8, []), (13, 8, []), (13, 8, []), (13, 8, []), (5, 4, [none, some 122, some 123, some 132]), (14, 8, []), (16, 8, [some 124, some 125, some 126, some 127, some 128, some 129, some 130, some 131]), (13, 8, []), (13, 8, []), (13, 8, []), (13, 8, []), (13, 8, []), (13, 8, []), (13, 8, []), (13, 8, []), (13, 8, []), (12, 8, []), (7, 7, [some 1, some 8, some 135, some 136, none, none, none]), (12, 12, []), (12, 12, []), (8, 12, [some 1, some 8, some 138, none, none, none, none, none, none, some 139, some 140, some 141]), (12, 160, []), (12, 40, []), (12, 40, []), (12, 40, []), (9, 6, [some 1, some 8, some 143, some 144, some 145, some 146]), (12, 16, []), (12, 8, []), (12, 5, []), (12, 6, []), (11, 51, [none, none, some 148, some 149, none, none, some 150, some 151, none, some 152, some 153, none, some 154, some 155, some 156, none, some 157, some 158, some 159, some 160, none, some 161, some 162, some 163, some 164, some 165, some 166, some 167, some 168, some 169, some 170, none, some 171, none, none, none, none, none, none, none, some 172, some 173, some 174, some 175, some 176, some 177, some 178, some 179, none, none, none]), (12, 16, []), (12, 8, []), (12, 6, []), (12, 6, []), (12, 5, []), (12, 5, []), (12, 12, []), (12, 12, []), (12, 12, []), (12, 40, []), (12, 40, []), (12, 40, []), (12, 40, []), (12, 12, []), (12, 12, []), (14, 12, []), (12, 16, []), (12, 160, []), (12, 96, []), (12, 8, []), (12, 8, []), (13, 160, []), (12, 8, []), (12, 160, []), (12, 160, []), (12, 160, []), (12, 160, []), (12, 16, []), (12, 8, []), (12, 6, []), (12, 5, []), (12, 40, [])]
theorem am_SHl : am_SH.length = 180 := by decide +kernel
theorem am_SHle : am_SH.length ≤ 1000000 := by rw [am_SHl]; omega
theorem am_SHb : Nat.ble am_SH.length 1000000 = true := by rw [am_SHl]; rfl
theorem sh_0 : am_SH[0]? = some (10, 9, [some 1, some 8, some 35, some 20, some 103, some 108, some 134, some 137, some 142]) := rfl
theorem sh_1 : am_SH[1]? = some (0, 9, [none, none, some 2, some 3, some 4, some 5, some 6, some 7, none]) := rfl
theorem sh_2 : am_SH[2]? = some (12, 16, []) := rfl
theorem sh_3 : am_SH[3]? = some (12, 8, []) := rfl
theorem sh_4 : am_SH[4]? = some (12, 64, []) := rfl
theorem sh_5 : am_SH[5]? = some (12, 16, []) := rfl
theorem sh_6 : am_SH[6]? = some (12, 16, []) := rfl
theorem sh_7 : am_SH[7]? = some (12, 16, []) := rfl
theorem sh_8 : am_SH[8]? = some (1, 16, [none, some 9, some 10, none, some 11, some 12, none, some 13, some 14, some 15, none, some 16, some 17, some 18, some 19, none]) := rfl
theorem sh_9 : am_SH[9]? = some (12, 6, []) := rfl
theorem sh_10 : am_SH[10]? = some (12, 6, []) := rfl
theorem sh_11 : am_SH[11]? = some (12, 5, []) := rfl
theorem sh_12 : am_SH[12]? = some (12, 5, []) := rfl
theorem sh_13 : am_SH[13]? = some (12, 12, []) := rfl
theorem sh_14 : am_SH[14]? = some (12, 12, []) := rfl
theorem sh_15 : am_SH[15]? = some (12, 12, []) := rfl
theorem sh_16 : am_SH[16]? = some (12, 40, []) := rfl
theorem sh_17 : am_SH[17]? = some (12, 40, []) := rfl
theorem sh_18 : am_SH[18]? = some (12, 40, []) := rfl
theorem sh_19 : am_SH[19]? = some (12, 40, []) := rfl
theorem sh_20 : am_SH[20]? = some (3, 5, [some 1, some 8, none, some 21, some 22]) := rfl
theorem sh_21 : am_SH[21]? = some (12, 12, []) := rfl
theorem sh_22 : am_SH[22]? = some (15, 12, [some 23, some 24, some 25, some 26, some 27, some 28, some 29, some 30, some 31, some 32, some 33, some 34]) := rfl
theorem sh_35 : am_SH[35]? = some (2, 9, [some 1, some 8, some 36, some 37, some 38, some 39, none, some 40, some 102]) := rfl
theorem sh_36 : am_SH[36]? = some (12, 12, []) := rfl
theorem sh_37 : am_SH[37]? = some (12, 12, []) := rfl
theorem sh_38 : am_SH[38]? = some (12, 61, []) := rfl
theorem sh_39 : am_SH[39]? = some (12, 12, []) := rfl
theorem sh_40 : am_SH[40]? = some (15, 61, [some 41, some 42, some 43, some 44, some 45, some 46, some 47, some 48, some 49, some 50, some 51, some 52, some 53, some 54, some 55, some 56, some 57, some 58, some 59, some 60, some 61, some 62, some 63, some 64, some 65, some 66, some 67, some 68, some 69, some 70, some 71, some 72, some 73, some 74, some 75, some 76, some 77, some 78, some 79, some 80, some 81, some 82, some 83, some 84, some 85, some 86, some 87, some 88, some 89, some 90, some 91, some 92, some 93, some 94, some 95, some 96, some 97, some 98, some 99, some 100, some 101]) := rfl
theorem sh_102 : am_SH[102]? = some (12, 61, []) := rfl
theorem sh_103 : am_SH[103]? = some (4, 7, [some 20, some 8, some 104, some 105, some 106, some 107, none]) := rfl
theorem sh_104 : am_SH[104]? = some (12, 12, []) := rfl
theorem sh_105 : am_SH[105]? = some (12, 12, []) := rfl
theorem sh_106 : am_SH[106]? = some (12, 8, []) := rfl
theorem sh_107 : am_SH[107]? = some (12, 8, []) := rfl
theorem sh_108 : am_SH[108]? = some (6, 8, [some 1, some 8, some 20, some 109, some 121, some 133, none, none]) := rfl
theorem sh_109 : am_SH[109]? = some (5, 4, [none, some 110, some 111, some 120]) := rfl
theorem sh_110 : am_SH[110]? = some (14, 8, []) := rfl
theorem sh_111 : am_SH[111]? = some (16, 8, [some 112, some 113, some 114, some 115, some 116, some 117, some 118, some 119]) := rfl
theorem sh_120 : am_SH[120]? = some (13, 8, []) := rfl
theorem sh_121 : am_SH[121]? = some (5, 4, [none, some 122, some 123, some 132]) := rfl
theorem sh_122 : am_SH[122]? = some (14, 8, []) := rfl
theorem sh_123 : am_SH[123]? = some (16, 8, [some 124, some 125, some 126, some 127, some 128, some 129, some 130, some 131]) := rfl
theorem sh_132 : am_SH[132]? = some (13, 8, []) := rfl
theorem sh_133 : am_SH[133]? = some (12, 8, []) := rfl
theorem sh_134 : am_SH[134]? = some (7, 7, [some 1, some 8, some 135, some 136, none, none, none]) := rfl
theorem sh_135 : am_SH[135]? = some (12, 12, []) := rfl
theorem sh_136 : am_SH[136]? = some (12, 12, []) := rfl
theorem sh_137 : am_SH[137]? = some (8, 12, [some 1, some 8, some 138, none, none, none, none, none, none, some 139, some 140, some 141]) := rfl
theorem sh_138 : am_SH[138]? = some (12, 160, []) := rfl
theorem sh_139 : am_SH[139]? = some (12, 40, []) := rfl
theorem sh_140 : am_SH[140]? = some (12, 40, []) := rfl
theorem sh_141 : am_SH[141]? = some (12, 40, []) := rfl
theorem sh_142 : am_SH[142]? = some (9, 6, [some 1, some 8, some 143, some 144, some 145, some 146]) := rfl
theorem sh_143 : am_SH[143]? = some (12, 16, []) := rfl
theorem sh_144 : am_SH[144]? = some (12, 8, []) := rfl
theorem sh_145 : am_SH[145]? = some (12, 5, []) := rfl
theorem sh_146 : am_SH[146]? = some (12, 6, []) := rfl
theorem sh_147 : am_SH[147]? = some (11, 51, [none, none, some 148, some 149, none, none, some 150, some 151, none, some 152, some 153, none, some 154, some 155, some 156, none, some 157, some 158, some 159, some 160, none, some 161, some 162, some 163, some 164, some 165, some 166, some 167, some 168, some 169, some 170, none, some 171, none, none, none, none, none, none, none, some 172, some 173, some 174, some 175, some 176, some 177, some 178, some 179, none, none, none]) := rfl
theorem sh_148 : am_SH[148]? = some (12, 16, []) := rfl
theorem sh_149 : am_SH[149]? = some (12, 8, []) := rfl
theorem sh_150 : am_SH[150]? = some (12, 6, []) := rfl
theorem sh_151 : am_SH[151]? = some (12, 6, []) := rfl
theorem sh_152 : am_SH[152]? = some (12, 5, []) := rfl
theorem sh_153 : am_SH[153]? = some (12, 5, []) := rfl
theorem sh_154 : am_SH[154]? = some (12, 12, []) := rfl
theorem sh_155 : am_SH[155]? = some (12, 12, []) := rfl
theorem sh_156 : am_SH[156]? = some (12, 12, []) := rfl
theorem sh_157 : am_SH[157]? = some (12, 40, []) := rfl
theorem sh_158 : am_SH[158]? = some (12, 40, []) := rfl
theorem sh_159 : am_SH[159]? = some (12, 40, []) := rfl
theorem sh_160 : am_SH[160]? = some (12, 40, []) := rfl
theorem sh_161 : am_SH[161]? = some (12, 12, []) := rfl
theorem sh_162 : am_SH[162]? = some (12, 12, []) := rfl
theorem sh_163 : am_SH[163]? = some (14, 12, []) := rfl
theorem sh_164 : am_SH[164]? = some (12, 16, []) := rfl
theorem sh_165 : am_SH[165]? = some (12, 160, []) := rfl
theorem sh_166 : am_SH[166]? = some (12, 96, []) := rfl
theorem sh_167 : am_SH[167]? = some (12, 8, []) := rfl
theorem sh_168 : am_SH[168]? = some (12, 8, []) := rfl
theorem sh_169 : am_SH[169]? = some (13, 160, []) := rfl
theorem sh_170 : am_SH[170]? = some (12, 8, []) := rfl
theorem sh_171 : am_SH[171]? = some (12, 160, []) := rfl
theorem sh_172 : am_SH[172]? = some (12, 160, []) := rfl
theorem sh_173 : am_SH[173]? = some (12, 160, []) := rfl
theorem sh_174 : am_SH[174]? = some (12, 160, []) := rfl
theorem sh_175 : am_SH[175]? = some (12, 16, []) := rfl
theorem sh_176 : am_SH[176]? = some (12, 8, []) := rfl
theorem sh_177 : am_SH[177]? = some (12, 6, []) := rfl
theorem sh_178 : am_SH[178]? = some (12, 5, []) := rfl
theorem sh_179 : am_SH[179]? = some (12, 40, []) := rfl
theorem shR_22 : ∀ i, i < 12 → am_SH[23 + i]? = some (12, 8, []) := by decide +kernel
theorem shO_22 : ∀ i, i < 12 → ([some 23, some 24, some 25, some 26, some 27, some 28, some 29, some 30, some 31, some 32, some 33, some 34] : List (Option Nat)).getD i none = some (23 + i) := by decide +kernel
theorem shR_40 : ∀ i, i < 61 → am_SH[41 + i]? = some (12, 12, []) := by decide +kernel
theorem shO_40 : ∀ i, i < 61 → ([some 41, some 42, some 43, some 44, some 45, some 46, some 47, some 48, some 49, some 50, some 51, some 52, some 53, some 54, some 55, some 56, some 57, some 58, some 59, some 60, some 61, some 62, some 63, some 64, some 65, some 66, some 67, some 68, some 69, some 70, some 71, some 72, some 73, some 74, some 75, some 76, some 77, some 78, some 79, some 80, some 81, some 82, some 83, some 84, some 85, some 86, some 87, some 88, some 89, some 90, some 91, some 92, some 93, some 94, some 95, some 96, some 97, some 98, some 99, some 100, some 101] : List (Option Nat)).getD i none = some (41 + i) := by decide +kernel
theorem shB_0 {b : Nat} (h : b = 109 ∨ b = 121) : am_SH[b]? = some (5, 4, [none, some (b + 1), some (b + 2), some (b + 11)]) := by rcases h with rfl | rfl <;> rfl
theorem shB_1 {b : Nat} (h : b = 109 ∨ b = 121) : am_SH[b + 1]? = some (14, 8, []) := by rcases h with rfl | rfl <;> rfl
theorem shB_2 {b : Nat} (h : b = 109 ∨ b = 121) : am_SH[b + 2]? = some (16, 8, [some (b + 3), some (b + 4), some (b + 5), some (b + 6), some (b + 7), some (b + 8), some (b + 9), some (b + 10)]) := by rcases h with rfl | rfl <;> rfl
theorem shB_11 {b : Nat} (h : b = 109 ∨ b = 121) : am_SH[b + 11]? = some (13, 8, []) := by rcases h with rfl | rfl <;> rfl
theorem shB_R {b : Nat} (h : b = 109 ∨ b = 121) : ∀ i, i < 8 → am_SH[b + 3 + i]? = some (13, 8, []) := by rcases h with rfl | rfl <;> decide +kernel
theorem shB_O {b : Nat} (_h : b = 109 ∨ b = 121) : ∀ i, i < 8 → ([some (b + 3), some (b + 4), some (b + 5), some (b + 6), some (b + 7), some (b + 8), some (b + 9), some (b + 10)] : List (Option Nat)).getD i none = some (b + 3 + i) := by
  intro i hi
  rcases (show i = 0 ∨ i = 1 ∨ i = 2 ∨ i = 3 ∨ i = 4 ∨ i = 5 ∨ i = 6 ∨ i = 7 by omega) with rfl | rfl | rfl | rfl | rfl | rfl | rfl | rfl <;> rfl
theorem am_tn {z : Int} {n : Nat} (h : 0 ≤ z ∧ z < (n : Int)) : z.toNat < n := by omega
theorem am_tn2 {z : Int} {n : Nat} (h : 0 ≤ z ∧ z < (n : Int)) : z = (z.toNat : Int) := by omega
abbrev am_U (x : am_Sc) (M : am_MT) (Po : Option am_AV → am_Sh → am_St → Prop) (σ : am_St) (pc : Nat) (lv : List (Option am_AV)) (st : List am_AV) : Prop := am_V x M Po (0, 0) am_SH σ pc lv st
theorem am_bl {n : Nat} (h : Nat.blt n 2147483648 = true) : (Nat.ble am_SH.length 1000000 && Nat.blt n 2147483648) = true := by rw [am_SHb, h]; rfl
theorem am_nb9 : am_SH.all (fun q => Nat.blt q.2.1 2147483648) = true := by decide +kernel
theorem am_nb {k kd n : Nat} {rs : List (Option Nat)} (h : am_SH[k]? = some (kd, n, rs)) : Nat.blt n 2147483648 = true := List.all_eq_true.mp am_nb9 _ (List.mem_of_getElem? h)
section AMU
variable {x : am_Sc} {M M' : am_MT} {Po : Option am_AV → am_Sh → am_St → Prop} {σ : am_St} {pc : Nat} {lv : List (Option am_AV)} {st : List am_AV}
theorem U_geti {idx ci j k n : Nat} {rs : List (Option Nat)} (hd : decode (am_c M) pc = .ok (.getfield idx, 3)) (hf : am_FL M.1.cls idx ci j 0) (hq : am_SH[k]? = some (ci, n, rs)) (kk : am_U x M Po σ (pc + 3) lv (Zi (σ.1 k j) :: st)) : am_U x M Po σ pc lv (Zr k :: st) := V_geti hd hf hq am_SHb kk
theorem U_getl {idx ci j k n : Nat} {rs : List (Option Nat)} (hd : decode (am_c M) pc = .ok (.getfield idx, 3)) (hf : am_FL M.1.cls idx ci j 1) (hq : am_SH[k]? = some (ci, n, rs)) (kk : am_U x M Po σ (pc + 3) lv (Zl (σ.2 k j) :: st)) : am_U x M Po σ pc lv (Zr k :: st) := V_getl hd hf hq am_SHb kk
theorem U_geta {idx ci j k n r : Nat} {rs : List (Option Nat)} (hd : decode (am_c M) pc = .ok (.getfield idx, 3)) (hf : am_FL M.1.cls idx ci j 2) (hq : am_SH[k]? = some (ci, n, rs)) (hr : rs.getD j none = some r) (kk : am_U x M Po σ (pc + 3) lv (Zr r :: st)) : am_U x M Po σ pc lv (Zr k :: st) := V_geta hd hf hq am_SHb hr kk
theorem U_puti {idx ci j k n : Nat} {rs : List (Option Nat)} {v : Int} (hd : decode (am_c M) pc = .ok (.putfield idx, 3)) (hf : am_FW M.1.cls idx ci j 0 .int) (hq : am_SH[k]? = some (ci, n, rs)) (kk : am_U x M Po (am_up σ.1 k j v, σ.2) (pc + 3) lv st) : am_U x M Po σ pc lv (Zi v :: Zr k :: st) := V_puti hd hf hq am_SHb kk
theorem U_putz {idx ci j k n : Nat} {rs : List (Option Nat)} {v : Int} (hd : decode (am_c M) pc = .ok (.putfield idx, 3)) (hf : am_FW M.1.cls idx ci j 0 .boolean) (hq : am_SH[k]? = some (ci, n, rs)) (hv : v = 0 ∨ v = 1) (kk : am_U x M Po (am_up σ.1 k j v, σ.2) (pc + 3) lv st) : am_U x M Po σ pc lv (Zi v :: Zr k :: st) := V_putz hd hf hq am_SHb hv kk
theorem U_putl {idx ci j k n : Nat} {rs : List (Option Nat)} {v : Int} (hd : decode (am_c M) pc = .ok (.putfield idx, 3)) (hf : am_FW M.1.cls idx ci j 1 .long) (hq : am_SH[k]? = some (ci, n, rs)) (kk : am_U x M Po (σ.1, am_up σ.2 k j v) (pc + 3) lv st) : am_U x M Po σ pc lv (Zl v :: Zr k :: st) := V_putl hd hf hq am_SHb kk
theorem U_iald {k n : Nat} {z : Int} {rs : List (Option Nat)} (hd : decode (am_c M) pc = .ok (.iaload, 1)) (hq : am_SH[k]? = some (12, n, rs)) (hz : 0 ≤ z ∧ z < (n : Int)) (kk : am_U x M Po σ (pc + 1) lv (Zi (σ.1 k z.toNat) :: st)) : am_U x M Po σ pc lv (Zi z :: Zr k :: st) := V_iald hd hq (am_bl (am_nb hq)) (am_tn2 hz) (am_tn hz) kk
theorem U_zald {k n : Nat} {z : Int} {rs : List (Option Nat)} (hd : decode (am_c M) pc = .ok (.baload, 1)) (hq : am_SH[k]? = some (14, n, rs)) (hz : 0 ≤ z ∧ z < (n : Int)) (kk : am_U x M Po σ (pc + 1) lv (Zi (σ.1 k z.toNat) :: st)) : am_U x M Po σ pc lv (Zi z :: Zr k :: st) := V_zald hd hq (am_bl (am_nb hq)) (am_tn2 hz) (am_tn hz) kk
theorem U_lald {k n : Nat} {z : Int} {rs : List (Option Nat)} (hd : decode (am_c M) pc = .ok (.laload, 1)) (hq : am_SH[k]? = some (13, n, rs)) (hz : 0 ≤ z ∧ z < (n : Int)) (kk : am_U x M Po σ (pc + 1) lv (Zl (σ.2 k z.toNat) :: st)) : am_U x M Po σ pc lv (Zi z :: Zr k :: st) := V_lald hd hq (am_bl (am_nb hq)) (am_tn2 hz) (am_tn hz) kk
theorem U_iast {k n : Nat} {z v : Int} {rs : List (Option Nat)} (hd : decode (am_c M) pc = .ok (.iastore, 1)) (hq : am_SH[k]? = some (12, n, rs)) (hz : 0 ≤ z ∧ z < (n : Int)) (kk : am_U x M Po (am_up σ.1 k z.toNat v, σ.2) (pc + 1) lv st) : am_U x M Po σ pc lv (Zi v :: Zi z :: Zr k :: st) := V_iast hd hq (am_bl (am_nb hq)) (am_tn2 hz) (am_tn hz) kk
theorem U_zast {k n : Nat} {z v : Int} {rs : List (Option Nat)} (hd : decode (am_c M) pc = .ok (.bastore, 1)) (hq : am_SH[k]? = some (14, n, rs)) (hz : 0 ≤ z ∧ z < (n : Int)) (hv : v = 0 ∨ v = 1) (kk : am_U x M Po (am_up σ.1 k z.toNat v, σ.2) (pc + 1) lv st) : am_U x M Po σ pc lv (Zi v :: Zi z :: Zr k :: st) := V_zast hd hq (am_bl (am_nb hq)) (am_tn2 hz) (am_tn hz) hv kk
theorem U_last {k n : Nat} {z v : Int} {rs : List (Option Nat)} (hd : decode (am_c M) pc = .ok (.lastore, 1)) (hq : am_SH[k]? = some (13, n, rs)) (hz : 0 ≤ z ∧ z < (n : Int)) (kk : am_U x M Po (σ.1, am_up σ.2 k z.toNat v) (pc + 1) lv st) : am_U x M Po σ pc lv (Zl v :: Zi z :: Zr k :: st) := V_last hd hq (am_bl (am_nb hq)) (am_tn2 hz) (am_tn hz) kk
theorem U_aald {k n r kd : Nat} {z : Int} {rs : List (Option Nat)} (hd : decode (am_c M) pc = .ok (.aaload, 1)) (hq : am_SH[k]? = some (kd, n, rs)) (hkd : kd = 15 ∨ kd = 16) (hz : 0 ≤ z ∧ z < (n : Int)) (hr : rs.getD z.toNat none = some r) (kk : am_U x M Po σ (pc + 1) lv (Zr r :: st)) : am_U x M Po σ pc lv (Zi z :: Zr k :: st) := V_aald hd hq hkd (am_bl (am_nb hq)) (am_tn2 hz) (am_tn hz) hr kk
theorem U_alen {k n : Nat} {rs : List (Option Nat)} (hd : decode (am_c M) pc = .ok (.arraylength, 1)) (hq : am_SH[k]? = some (12, n, rs)) (kk : am_U x M Po σ (pc + 1) lv (Zi (n : Int) :: st)) : am_U x M Po σ pc lv (Zr k :: st) := V_alen hd hq am_SHb kk
theorem am_c4 {a b c d : Bool} (h : (a && (b && (c && d))) = true) : a = true ∧ b = true ∧ c = true ∧ d = true := by
  cases a <;> cases b <;> cases c <;> cases d <;> simp_all
theorem am_c0 {a b : Nat} (h1 : Nat.beq a 0 = true) (h2 : Nat.beq b 0 = true) : a = 0 ∧ b = 0 := ⟨Nat.eq_of_beq_eq_true h1, Nat.eq_of_beq_eq_true h2⟩
abbrev am_ck (vs : List am_AV) (M' : am_MT) (st : List am_AV) : Bool := Nat.ble (am_ent vs).length M'.2.2.1 && (Nat.ble st.length 4 && (Nat.beq M'.2.2.2.2.cells 0 && Nat.beq M'.2.2.2.2.slots 0))
abbrev am_kn (x : am_Sc) (M : am_MT) (Po : Option am_AV → am_Sh → am_St → Prop) (pc : Nat) (lv : List (Option am_AV)) (st : List am_AV) : Option am_AV → am_Sh → am_St → Prop := fun r s' t' => am_V x M Po (0, 0) s' t' (pc + 3) lv (am_psh r st)
theorem am_iv {idx b ci nn N : Nat} {vs : List am_AV} {rs : List (Option Nat)} {T : u_T} (L : am_CV M M' idx vs.length) (hd : decode (am_c M) pc = .ok (.invokevirtual idx, 3)) (hq : am_SH[b]? = some (ci, nn, rs)) (hc : am_cl[ci]? = some (M'.1.cls, T, N)) (hk : am_ck (Zr b :: vs) M' st = true)
    (K : am_U x M' (am_kn x M Po pc lv st) σ 0 (am_lv (Zr b :: vs) M'.2.2.1) []) : am_U x M Po σ pc lv (vs.reverse ++ Zr b :: st) := by
  obtain ⟨h1, h2, h3, h4⟩ := am_c4 hk
  obtain ⟨e1, e2⟩ := am_c0 h3 h4
  refine am_call0 L hd hq hc rfl am_SHle rfl (Nat.le_of_ble_eq_true h1) h2 (by rw [e1, e2]; exact ⟨Nat.zero_le _, Nat.zero_le _⟩) K (fun r sh' σ' h => ⟨Or.inl e1, ?_⟩)
  rw [e1, e2]
  exact h
theorem am_is {idx : Nat} {vs : List am_AV} (L : am_CS M M' idx vs.length) (hd : decode (am_c M) pc = .ok (.invokestatic idx, 3)) (hk : am_ck vs M' st = true)
    (K : am_U x M' (am_kn x M Po pc lv st) σ 0 (am_lv vs M'.2.2.1) []) : am_U x M Po σ pc lv (vs.reverse ++ st) := by
  obtain ⟨h1, h2, h3, h4⟩ := am_c4 hk
  obtain ⟨e1, e2⟩ := am_c0 h3 h4
  refine am_callS L hd rfl (Nat.le_of_ble_eq_true h1) h2 (by rw [e1, e2]; exact ⟨Nat.zero_le _, Nat.zero_le _⟩) K (fun r sh' σ' h => ⟨Or.inl e1, ?_⟩)
  rw [e1, e2]
  exact h
theorem am_isN {idx : Nat} {vs : List am_AV} (L : am_CSN M M' idx vs.length) (hd : decode (am_c M) pc = .ok (.invokestatic idx, 3)) (hk : am_ck vs M' st = true)
    (K : am_U x M' (am_kn x M Po pc lv st) σ 0 (am_lv vs M'.2.2.1) []) : am_U x M Po σ pc lv (vs.reverse ++ st) := by
  obtain ⟨h1, h2, h3, h4⟩ := am_c4 hk
  obtain ⟨e1, e2⟩ := am_c0 h3 h4
  refine am_callSN L hd rfl (Nat.le_of_ble_eq_true h1) h2 (by rw [e1, e2]; exact ⟨Nat.zero_le _, Nat.zero_le _⟩) K (fun r sh' σ' h => ⟨Or.inl e1, ?_⟩)
  rw [e1, e2]
  exact h
theorem am_iT {idx i : Nat} {vs : List am_AV} (L : am_CV M M' idx vs.length) (hd : decode (am_c M) pc = .ok (.invokevirtual idx, 3)) (hi : i < 7) (hC : M'.1.cls = "java/lang/String") (hk : am_ck (Zr (1000001 + i) :: vs) M' st = true)
    (K : am_U x M' (am_kn x M Po pc lv st) σ 0 (am_lv (Zr (1000001 + i) :: vs) M'.2.2.1) []) : am_U x M Po σ pc lv (vs.reverse ++ Zr (1000001 + i) :: st) := by
  obtain ⟨h1, h2, h3, h4⟩ := am_c4 hk
  obtain ⟨e1, e2⟩ := am_c0 h3 h4
  refine am_callT L hd hi hC rfl (Nat.le_of_ble_eq_true h1) h2 (by rw [e1, e2]; exact ⟨Nat.zero_le _, Nat.zero_le _⟩) K (fun r sh' σ' h => ⟨Or.inl e1, ?_⟩)
  rw [e1, e2]
  exact h
theorem U_iv0 {idx b ci nn N : Nat} {rs : List (Option Nat)} {T : u_T} (L : am_CV M M' idx 0) (hd : decode (am_c M) pc = .ok (.invokevirtual idx, 3)) (hq : am_SH[b]? = some (ci, nn, rs)) (hc : am_cl[ci]? = some (M'.1.cls, T, N)) (hk : am_ck (Zr b :: []) M' st = true) (K : am_U x M' (am_kn x M Po pc lv st) σ 0 (am_lv (Zr b :: []) M'.2.2.1) []) : am_U x M Po σ pc lv (Zr b :: st) := am_iv (vs := []) L hd hq hc hk K
theorem U_iv1 {idx b ci nn N : Nat} {rs : List (Option Nat)} {T : u_T} {a0 : am_AV} (L : am_CV M M' idx 1) (hd : decode (am_c M) pc = .ok (.invokevirtual idx, 3)) (hq : am_SH[b]? = some (ci, nn, rs)) (hc : am_cl[ci]? = some (M'.1.cls, T, N)) (hk : am_ck (Zr b :: [a0]) M' st = true) (K : am_U x M' (am_kn x M Po pc lv st) σ 0 (am_lv (Zr b :: [a0]) M'.2.2.1) []) : am_U x M Po σ pc lv (a0 :: Zr b :: st) := am_iv (vs := [a0]) L hd hq hc hk K
theorem U_is1 {idx : Nat} {a0 : am_AV} (L : am_CS M M' idx 1) (hd : decode (am_c M) pc = .ok (.invokestatic idx, 3)) (hk : am_ck [a0] M' st = true) (K : am_U x M' (am_kn x M Po pc lv st) σ 0 (am_lv [a0] M'.2.2.1) []) : am_U x M Po σ pc lv (a0 :: st) := am_is (vs := [a0]) L hd hk K
theorem U_iv2 {idx b ci nn N : Nat} {rs : List (Option Nat)} {T : u_T} {a0 a1 : am_AV} (L : am_CV M M' idx 2) (hd : decode (am_c M) pc = .ok (.invokevirtual idx, 3)) (hq : am_SH[b]? = some (ci, nn, rs)) (hc : am_cl[ci]? = some (M'.1.cls, T, N)) (hk : am_ck (Zr b :: [a0, a1]) M' st = true) (K : am_U x M' (am_kn x M Po pc lv st) σ 0 (am_lv (Zr b :: [a0, a1]) M'.2.2.1) []) : am_U x M Po σ pc lv (a1 :: a0 :: Zr b :: st) := am_iv (vs := [a0, a1]) L hd hq hc hk K
theorem U_is2 {idx : Nat} {a0 a1 : am_AV} (L : am_CS M M' idx 2) (hd : decode (am_c M) pc = .ok (.invokestatic idx, 3)) (hk : am_ck [a0, a1] M' st = true) (K : am_U x M' (am_kn x M Po pc lv st) σ 0 (am_lv [a0, a1] M'.2.2.1) []) : am_U x M Po σ pc lv (a1 :: a0 :: st) := am_is (vs := [a0, a1]) L hd hk K
theorem U_iv3 {idx b ci nn N : Nat} {rs : List (Option Nat)} {T : u_T} {a0 a1 a2 : am_AV} (L : am_CV M M' idx 3) (hd : decode (am_c M) pc = .ok (.invokevirtual idx, 3)) (hq : am_SH[b]? = some (ci, nn, rs)) (hc : am_cl[ci]? = some (M'.1.cls, T, N)) (hk : am_ck (Zr b :: [a0, a1, a2]) M' st = true) (K : am_U x M' (am_kn x M Po pc lv st) σ 0 (am_lv (Zr b :: [a0, a1, a2]) M'.2.2.1) []) : am_U x M Po σ pc lv (a2 :: a1 :: a0 :: Zr b :: st) := am_iv (vs := [a0, a1, a2]) L hd hq hc hk K
theorem U_is3 {idx : Nat} {a0 a1 a2 : am_AV} (L : am_CS M M' idx 3) (hd : decode (am_c M) pc = .ok (.invokestatic idx, 3)) (hk : am_ck [a0, a1, a2] M' st = true) (K : am_U x M' (am_kn x M Po pc lv st) σ 0 (am_lv [a0, a1, a2] M'.2.2.1) []) : am_U x M Po σ pc lv (a2 :: a1 :: a0 :: st) := am_is (vs := [a0, a1, a2]) L hd hk K
theorem U_iv4 {idx b ci nn N : Nat} {rs : List (Option Nat)} {T : u_T} {a0 a1 a2 a3 : am_AV} (L : am_CV M M' idx 4) (hd : decode (am_c M) pc = .ok (.invokevirtual idx, 3)) (hq : am_SH[b]? = some (ci, nn, rs)) (hc : am_cl[ci]? = some (M'.1.cls, T, N)) (hk : am_ck (Zr b :: [a0, a1, a2, a3]) M' st = true) (K : am_U x M' (am_kn x M Po pc lv st) σ 0 (am_lv (Zr b :: [a0, a1, a2, a3]) M'.2.2.1) []) : am_U x M Po σ pc lv (a3 :: a2 :: a1 :: a0 :: Zr b :: st) := am_iv (vs := [a0, a1, a2, a3]) L hd hq hc hk K
theorem U_is4 {idx : Nat} {a0 a1 a2 a3 : am_AV} (L : am_CS M M' idx 4) (hd : decode (am_c M) pc = .ok (.invokestatic idx, 3)) (hk : am_ck [a0, a1, a2, a3] M' st = true) (K : am_U x M' (am_kn x M Po pc lv st) σ 0 (am_lv [a0, a1, a2, a3] M'.2.2.1) []) : am_U x M Po σ pc lv (a3 :: a2 :: a1 :: a0 :: st) := am_is (vs := [a0, a1, a2, a3]) L hd hk K
theorem U_iv5 {idx b ci nn N : Nat} {rs : List (Option Nat)} {T : u_T} {a0 a1 a2 a3 a4 : am_AV} (L : am_CV M M' idx 5) (hd : decode (am_c M) pc = .ok (.invokevirtual idx, 3)) (hq : am_SH[b]? = some (ci, nn, rs)) (hc : am_cl[ci]? = some (M'.1.cls, T, N)) (hk : am_ck (Zr b :: [a0, a1, a2, a3, a4]) M' st = true) (K : am_U x M' (am_kn x M Po pc lv st) σ 0 (am_lv (Zr b :: [a0, a1, a2, a3, a4]) M'.2.2.1) []) : am_U x M Po σ pc lv (a4 :: a3 :: a2 :: a1 :: a0 :: Zr b :: st) := am_iv (vs := [a0, a1, a2, a3, a4]) L hd hq hc hk K
theorem U_is5 {idx : Nat} {a0 a1 a2 a3 a4 : am_AV} (L : am_CS M M' idx 5) (hd : decode (am_c M) pc = .ok (.invokestatic idx, 3)) (hk : am_ck [a0, a1, a2, a3, a4] M' st = true) (K : am_U x M' (am_kn x M Po pc lv st) σ 0 (am_lv [a0, a1, a2, a3, a4] M'.2.2.1) []) : am_U x M Po σ pc lv (a4 :: a3 :: a2 :: a1 :: a0 :: st) := am_is (vs := [a0, a1, a2, a3, a4]) L hd hk K
theorem U_isN3 {idx : Nat} {a0 a1 a2 : am_AV} (L : am_CSN M M' idx 3) (hd : decode (am_c M) pc = .ok (.invokestatic idx, 3)) (hk : am_ck [a0, a1, a2] M' st = true) (K : am_U x M' (am_kn x M Po pc lv st) σ 0 (am_lv [a0, a1, a2] M'.2.2.1) []) : am_U x M Po σ pc lv (a2 :: a1 :: a0 :: st) := am_isN (vs := [a0, a1, a2]) L hd hk K
theorem U_iT0 {idx i : Nat} (L : am_CV M M' idx 0) (hd : decode (am_c M) pc = .ok (.invokevirtual idx, 3)) (hi : i < 7) (hC : M'.1.cls = "java/lang/String") (hk : am_ck [Zr (1000001 + i)] M' st = true) (K : am_U x M' (am_kn x M Po pc lv st) σ 0 (am_lv [Zr (1000001 + i)] M'.2.2.1) []) : am_U x M Po σ pc lv (Zr (1000001 + i) :: st) := am_iT (vs := []) L hd hi hC hk K
theorem U_iT1 {idx i : Nat} {a0 : am_AV} (L : am_CV M M' idx 1) (hd : decode (am_c M) pc = .ok (.invokevirtual idx, 3)) (hi : i < 7) (hC : M'.1.cls = "java/lang/String") (hk : am_ck [Zr (1000001 + i), a0] M' st = true) (K : am_U x M' (am_kn x M Po pc lv st) σ 0 (am_lv [Zr (1000001 + i), a0] M'.2.2.1) []) : am_U x M Po σ pc lv (a0 :: Zr (1000001 + i) :: st) := am_iT (vs := [a0]) L hd hi hC hk K
theorem U_cpyI {idx k0 k1 n0 n1 : Nat} (n : Nat) {rs0 rs1 : List (Option Nat)} {zn : Int} (hd : decode (am_c M) pc = .ok (.invokestatic idx, 3)) (hw : am_AC M idx) (h0 : am_SH[k0]? = some (12, n0, rs0)) (h1 : am_SH[k1]? = some (12, n1, rs1)) (hzn : zn = (n : Int)) (hn : (Nat.ble n n0 && Nat.ble n n1) = true) (hk : (Nat.blt n 1000 && Nat.ble st.length 4) = true) (kk : am_U x M Po (am_cp σ.1 k0 k1 n, σ.2) (pc + 3) lv st) : am_U x M Po σ pc lv (Zi zn :: Zi 0 :: Zr k1 :: Zi 0 :: Zr k0 :: st) := V_cpyI hd hw h0 h1 hzn hn (by rw [am_SHb, (Bool.and_eq_true_iff.mp hk).1]; rfl) (Bool.and_eq_true_iff.mp hk).2 kk
theorem U_cpyL {idx k0 k1 n0 n1 : Nat} (n : Nat) {rs0 rs1 : List (Option Nat)} {zn : Int} (hd : decode (am_c M) pc = .ok (.invokestatic idx, 3)) (hw : am_AC M idx) (h0 : am_SH[k0]? = some (13, n0, rs0)) (h1 : am_SH[k1]? = some (13, n1, rs1)) (hzn : zn = (n : Int)) (hn : (Nat.ble n n0 && Nat.ble n n1) = true) (hk : (Nat.blt n 1000 && Nat.ble st.length 4) = true) (kk : am_U x M Po (σ.1, am_cp σ.2 k0 k1 n) (pc + 3) lv st) : am_U x M Po σ pc lv (Zi zn :: Zi 0 :: Zr k1 :: Zi 0 :: Zr k0 :: st) := V_cpyL hd hw h0 h1 hzn hn (by rw [am_SHb, (Bool.and_eq_true_iff.mp hk).1]; rfl) (Bool.and_eq_true_iff.mp hk).2 kk
end AMU
