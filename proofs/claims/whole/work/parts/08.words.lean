theorem zk_iconst_m1 : Int32.ofInt (-1) = (-1 : Int32) := by decide +kernel
theorem zk_iconst_0 : Int32.ofInt (0) = (0 : Int32) := by decide +kernel
theorem zk_iconst_1 : Int32.ofInt (1) = (1 : Int32) := by decide +kernel
theorem zk_iconst_2 : Int32.ofInt (2) = (2 : Int32) := by decide +kernel
theorem zk_iconst_3 : Int32.ofInt (3) = (3 : Int32) := by decide +kernel
theorem zk_iconst_4 : Int32.ofInt (4) = (4 : Int32) := by decide +kernel
theorem zk_iconst_5 : Int32.ofInt (5) = (5 : Int32) := by decide +kernel
theorem zk_bipush_m5 : (Int8.ofInt (-5)).toInt32 = (-5 : Int32) := by decide +kernel
theorem zk_bipush_m4 : (Int8.ofInt (-4)).toInt32 = (-4 : Int32) := by decide +kernel
theorem zk_bipush_m2 : (Int8.ofInt (-2)).toInt32 = (-2 : Int32) := by decide +kernel
theorem zk_bipush_6 : (Int8.ofInt (6)).toInt32 = (6 : Int32) := by decide +kernel
theorem zk_bipush_7 : (Int8.ofInt (7)).toInt32 = (7 : Int32) := by decide +kernel
theorem zk_bipush_8 : (Int8.ofInt (8)).toInt32 = (8 : Int32) := by decide +kernel
theorem zk_bipush_9 : (Int8.ofInt (9)).toInt32 = (9 : Int32) := by decide +kernel
theorem zk_bipush_10 : (Int8.ofInt (10)).toInt32 = (10 : Int32) := by decide +kernel
theorem zk_bipush_11 : (Int8.ofInt (11)).toInt32 = (11 : Int32) := by decide +kernel
theorem zk_bipush_12 : (Int8.ofInt (12)).toInt32 = (12 : Int32) := by decide +kernel
theorem zk_bipush_13 : (Int8.ofInt (13)).toInt32 = (13 : Int32) := by decide +kernel
theorem zk_bipush_14 : (Int8.ofInt (14)).toInt32 = (14 : Int32) := by decide +kernel
theorem zk_bipush_15 : (Int8.ofInt (15)).toInt32 = (15 : Int32) := by decide +kernel
theorem zk_bipush_16 : (Int8.ofInt (16)).toInt32 = (16 : Int32) := by decide +kernel
theorem zk_bipush_17 : (Int8.ofInt (17)).toInt32 = (17 : Int32) := by decide +kernel
theorem zk_bipush_18 : (Int8.ofInt (18)).toInt32 = (18 : Int32) := by decide +kernel
theorem zk_bipush_19 : (Int8.ofInt (19)).toInt32 = (19 : Int32) := by decide +kernel
theorem zk_bipush_20 : (Int8.ofInt (20)).toInt32 = (20 : Int32) := by decide +kernel
theorem zk_bipush_21 : (Int8.ofInt (21)).toInt32 = (21 : Int32) := by decide +kernel
theorem zk_bipush_22 : (Int8.ofInt (22)).toInt32 = (22 : Int32) := by decide +kernel
theorem zk_bipush_23 : (Int8.ofInt (23)).toInt32 = (23 : Int32) := by decide +kernel
theorem zk_bipush_24 : (Int8.ofInt (24)).toInt32 = (24 : Int32) := by decide +kernel
theorem zk_bipush_25 : (Int8.ofInt (25)).toInt32 = (25 : Int32) := by decide +kernel
theorem zk_bipush_26 : (Int8.ofInt (26)).toInt32 = (26 : Int32) := by decide +kernel
theorem zk_bipush_27 : (Int8.ofInt (27)).toInt32 = (27 : Int32) := by decide +kernel
theorem zk_bipush_30 : (Int8.ofInt (30)).toInt32 = (30 : Int32) := by decide +kernel
theorem zk_bipush_99 : (Int8.ofInt (99)).toInt32 = (99 : Int32) := by decide +kernel
theorem zk_bipush_100 : (Int8.ofInt (100)).toInt32 = (100 : Int32) := by decide +kernel
theorem zk_bipush_107 : (Int8.ofInt (107)).toInt32 = (107 : Int32) := by decide +kernel
theorem zk_bipush_108 : (Int8.ofInt (108)).toInt32 = (108 : Int32) := by decide +kernel
theorem zk_bipush_110 : (Int8.ofInt (110)).toInt32 = (110 : Int32) := by decide +kernel
theorem zk_bipush_113 : (Int8.ofInt (113)).toInt32 = (113 : Int32) := by decide +kernel
theorem zk_bipush_120 : (Int8.ofInt (120)).toInt32 = (120 : Int32) := by decide +kernel
theorem zk_bipush_121 : (Int8.ofInt (121)).toInt32 = (121 : Int32) := by decide +kernel
theorem zk_bipush_122 : (Int8.ofInt (122)).toInt32 = (122 : Int32) := by decide +kernel
theorem zk_bipush_123 : (Int8.ofInt (123)).toInt32 = (123 : Int32) := by decide +kernel
theorem zk_bipush_124 : (Int8.ofInt (124)).toInt32 = (124 : Int32) := by decide +kernel
theorem zk_bipush_125 : (Int8.ofInt (125)).toInt32 = (125 : Int32) := by decide +kernel
theorem zk_bipush_126 : (Int8.ofInt (126)).toInt32 = (126 : Int32) := by decide +kernel
theorem zk_sipush_130 : (Int16.ofInt (130)).toInt32 = (130 : Int32) := by decide +kernel
theorem zk_sipush_131 : (Int16.ofInt (131)).toInt32 = (131 : Int32) := by decide +kernel
theorem zk_sipush_132 : (Int16.ofInt (132)).toInt32 = (132 : Int32) := by decide +kernel
theorem zk_sipush_133 : (Int16.ofInt (133)).toInt32 = (133 : Int32) := by decide +kernel
theorem zk_sipush_134 : (Int16.ofInt (134)).toInt32 = (134 : Int32) := by decide +kernel
theorem zk_sipush_140 : (Int16.ofInt (140)).toInt32 = (140 : Int32) := by decide +kernel
theorem zk_sipush_141 : (Int16.ofInt (141)).toInt32 = (141 : Int32) := by decide +kernel
theorem zk_sipush_142 : (Int16.ofInt (142)).toInt32 = (142 : Int32) := by decide +kernel
theorem zk_sipush_143 : (Int16.ofInt (143)).toInt32 = (143 : Int32) := by decide +kernel
theorem zk_sipush_144 : (Int16.ofInt (144)).toInt32 = (144 : Int32) := by decide +kernel
theorem zk_sipush_145 : (Int16.ofInt (145)).toInt32 = (145 : Int32) := by decide +kernel
theorem zk_sipush_150 : (Int16.ofInt (150)).toInt32 = (150 : Int32) := by decide +kernel
theorem zk_sipush_151 : (Int16.ofInt (151)).toInt32 = (151 : Int32) := by decide +kernel
theorem zk_sipush_152 : (Int16.ofInt (152)).toInt32 = (152 : Int32) := by decide +kernel
theorem zk_sipush_160 : (Int16.ofInt (160)).toInt32 = (160 : Int32) := by decide +kernel
theorem zk_sipush_161 : (Int16.ofInt (161)).toInt32 = (161 : Int32) := by decide +kernel
theorem zk_sipush_162 : (Int16.ofInt (162)).toInt32 = (162 : Int32) := by decide +kernel
theorem zk_sipush_163 : (Int16.ofInt (163)).toInt32 = (163 : Int32) := by decide +kernel
theorem zk_sipush_164 : (Int16.ofInt (164)).toInt32 = (164 : Int32) := by decide +kernel
theorem zk_sipush_165 : (Int16.ofInt (165)).toInt32 = (165 : Int32) := by decide +kernel
theorem zk_sipush_166 : (Int16.ofInt (166)).toInt32 = (166 : Int32) := by decide +kernel
theorem zk_sipush_167 : (Int16.ofInt (167)).toInt32 = (167 : Int32) := by decide +kernel
theorem zk_sipush_168 : (Int16.ofInt (168)).toInt32 = (168 : Int32) := by decide +kernel
theorem zk_sipush_169 : (Int16.ofInt (169)).toInt32 = (169 : Int32) := by decide +kernel
theorem zk_sipush_170 : (Int16.ofInt (170)).toInt32 = (170 : Int32) := by decide +kernel
theorem zk_sipush_171 : (Int16.ofInt (171)).toInt32 = (171 : Int32) := by decide +kernel
theorem zk_sipush_172 : (Int16.ofInt (172)).toInt32 = (172 : Int32) := by decide +kernel
theorem zk_sipush_173 : (Int16.ofInt (173)).toInt32 = (173 : Int32) := by decide +kernel
theorem zk_sipush_200 : (Int16.ofInt (200)).toInt32 = (200 : Int32) := by decide +kernel
theorem zk_sipush_201 : (Int16.ofInt (201)).toInt32 = (201 : Int32) := by decide +kernel
theorem zk_sipush_202 : (Int16.ofInt (202)).toInt32 = (202 : Int32) := by decide +kernel
theorem zk_sipush_203 : (Int16.ofInt (203)).toInt32 = (203 : Int32) := by decide +kernel
theorem zk_sipush_204 : (Int16.ofInt (204)).toInt32 = (204 : Int32) := by decide +kernel
theorem zk_sipush_205 : (Int16.ofInt (205)).toInt32 = (205 : Int32) := by decide +kernel
theorem zk_sipush_206 : (Int16.ofInt (206)).toInt32 = (206 : Int32) := by decide +kernel
theorem zk_sipush_207 : (Int16.ofInt (207)).toInt32 = (207 : Int32) := by decide +kernel
theorem zk_sipush_208 : (Int16.ofInt (208)).toInt32 = (208 : Int32) := by decide +kernel
theorem zk_sipush_209 : (Int16.ofInt (209)).toInt32 = (209 : Int32) := by decide +kernel
theorem zk_sipush_210 : (Int16.ofInt (210)).toInt32 = (210 : Int32) := by decide +kernel
theorem zk_sipush_211 : (Int16.ofInt (211)).toInt32 = (211 : Int32) := by decide +kernel
theorem zk_sipush_212 : (Int16.ofInt (212)).toInt32 = (212 : Int32) := by decide +kernel
theorem zk_sipush_213 : (Int16.ofInt (213)).toInt32 = (213 : Int32) := by decide +kernel
theorem zk_sipush_214 : (Int16.ofInt (214)).toInt32 = (214 : Int32) := by decide +kernel
theorem zk_sipush_215 : (Int16.ofInt (215)).toInt32 = (215 : Int32) := by decide +kernel
theorem zk_sipush_216 : (Int16.ofInt (216)).toInt32 = (216 : Int32) := by decide +kernel
theorem zk_sipush_217 : (Int16.ofInt (217)).toInt32 = (217 : Int32) := by decide +kernel
theorem zk_sipush_218 : (Int16.ofInt (218)).toInt32 = (218 : Int32) := by decide +kernel
theorem zk_sipush_219 : (Int16.ofInt (219)).toInt32 = (219 : Int32) := by decide +kernel
theorem zk_sipush_220 : (Int16.ofInt (220)).toInt32 = (220 : Int32) := by decide +kernel
theorem zk_sipush_221 : (Int16.ofInt (221)).toInt32 = (221 : Int32) := by decide +kernel
theorem zk_sipush_222 : (Int16.ofInt (222)).toInt32 = (222 : Int32) := by decide +kernel
theorem zk_sipush_223 : (Int16.ofInt (223)).toInt32 = (223 : Int32) := by decide +kernel
theorem zk_sipush_300 : (Int16.ofInt (300)).toInt32 = (300 : Int32) := by decide +kernel
theorem zk_sipush_499 : (Int16.ofInt (499)).toInt32 = (499 : Int32) := by decide +kernel
theorem zk_sipush_1000 : (Int16.ofInt (1000)).toInt32 = (1000 : Int32) := by decide +kernel
theorem zk_sipush_2000 : (Int16.ofInt (2000)).toInt32 = (2000 : Int32) := by decide +kernel
theorem zk_sipush_3000 : (Int16.ofInt (3000)).toInt32 = (3000 : Int32) := by decide +kernel
theorem zk_sipush_4000 : (Int16.ofInt (4000)).toInt32 = (4000 : Int32) := by decide +kernel
theorem zk_sipush_5000 : (Int16.ofInt (5000)).toInt32 = (5000 : Int32) := by decide +kernel
theorem zk_sipush_6000 : (Int16.ofInt (6000)).toInt32 = (6000 : Int32) := by decide +kernel
theorem zk_sipush_7000 : (Int16.ofInt (7000)).toInt32 = (7000 : Int32) := by decide +kernel
theorem zk_sipush_8000 : (Int16.ofInt (8000)).toInt32 = (8000 : Int32) := by decide +kernel
theorem zk_sipush_9000 : (Int16.ofInt (9000)).toInt32 = (9000 : Int32) := by decide +kernel
theorem zk_sipush_20000 : (Int16.ofInt (20000)).toInt32 = (20000 : Int32) := by decide +kernel
theorem zk_sipush_21000 : (Int16.ofInt (21000)).toInt32 = (21000 : Int32) := by decide +kernel
theorem zk_sipush_22000 : (Int16.ofInt (22000)).toInt32 = (22000 : Int32) := by decide +kernel
theorem zk_sipush_23000 : (Int16.ofInt (23000)).toInt32 = (23000 : Int32) := by decide +kernel
theorem zk_sipush_24000 : (Int16.ofInt (24000)).toInt32 = (24000 : Int32) := by decide +kernel
theorem zk_sipush_25000 : (Int16.ofInt (25000)).toInt32 = (25000 : Int32) := by decide +kernel
theorem zk_sipush_26000 : (Int16.ofInt (26000)).toInt32 = (26000 : Int32) := by decide +kernel
theorem zk_sipush_27000 : (Int16.ofInt (27000)).toInt32 = (27000 : Int32) := by decide +kernel
theorem zinc_1 {x : Int32} : x + Int32.ofInt 1 = x + 1 := rfl
theorem zinc_m1 {x : Int32} : x + Int32.ofInt (-1) = x + -1 := rfl
theorem zs_e : zsubl [] [] := trivial
theorem zs_n {a b : List (Option zV)} {w : Option zV} (h : zsubl a b) : zsubl (none :: a) (w :: b) := h
theorem zs_s {a b : List (Option zV)} {v : zV} (h : zsubl a b) : zsubl (some v :: a) (some v :: b) := ⟨rfl, h⟩
theorem zti {x c : Int32} {n : Int} (h : ¬ x = c) (hc : c.toInt = n) : ¬ n = x.toInt := fun q => h (Int32.toInt_inj.mp (q.symm.trans hc.symm))
theorem zsw_t {dflt lo hi : Int} {offs : Array Int} {x : Int32} (h : ∀ c : Int, lo ≤ c → c ≤ hi → x.toInt = c → False) : zsw (.tableswitch dflt lo hi offs) x = some dflt := by
  show (if x.toInt < lo ∨ hi < x.toInt then some dflt else offs[(x.toInt - lo).toNat]?) = some dflt
  rw [if_pos]
  by_cases q : x.toInt < lo
  · exact Or.inl q
  · by_cases q2 : hi < x.toInt
    · exact Or.inr q2
    · exact (h x.toInt (by omega) (by omega) rfl).elim
theorem za_1 : zL[1]? = some (.inl (false, 150)) := rfl
theorem za_2 : zL[2]? = some (.inl (false, 8)) := rfl
theorem za_3 : zL[3]? = some (.inl (false, 16)) := rfl
theorem za_5 : zL[5]? = some (.inl (false, 300)) := rfl
theorem za_6 : zL[6]? = some (.inl (false, 300)) := rfl
theorem za_8 : zL[8]? = some (.inl (true, 4)) := rfl
theorem za_9 : zL[9]? = some (.inl (false, 4)) := rfl
theorem za_10 : zL[10]? = some (.inl (false, 4)) := rfl
theorem za_11 : zL[11]? = some (.inl (false, 32)) := rfl
theorem za_12 : zL[12]? = some (.inl (false, 150)) := rfl
theorem za_13 : zL[13]? = some (.inl (false, 150)) := rfl
theorem za_16 : zL[16]? = some (.inl (false, 150)) := rfl
theorem za_17 : zL[17]? = some (.inl (false, 150)) := rfl
theorem za_18 : zL[18]? = some (.inl (false, 150)) := rfl
theorem za_20 : zL[20]? = some (.inl (false, 150)) := rfl
theorem za_21 : zL[21]? = some (.inl (true, 150)) := rfl
theorem za_28 : zL[28]? = some (.inl (false, 8)) := rfl
theorem za_29 : zL[29]? = some (.inl (false, 16)) := rfl
theorem za_30 : zL[30]? = some (.inl (false, 20)) := rfl
theorem za_31 : zL[31]? = some (.inl (false, 2048)) := rfl
theorem za_32 : zL[32]? = some (.inl (false, 168)) := rfl
theorem za_33 : zL[33]? = some (.inl (false, 21)) := rfl
theorem za_35 : zL[35]? = some (.inl (false, 150)) := rfl
theorem za_36 : zL[36]? = some (.inl (false, 8)) := rfl
theorem za_37 : zL[37]? = some (.inl (false, 16)) := rfl
theorem za_38 : zL[38]? = some (.inl (false, 1600)) := rfl
theorem za_39 : zL[39]? = some (.inl (false, 400)) := rfl
theorem za_40 : zL[40]? = some (.inl (false, 400)) := rfl
theorem za_41 : zL[41]? = some (.inl (false, 400)) := rfl
theorem za_42 : zL[42]? = some (.inl (false, 400)) := rfl
theorem za_43 : zL[43]? = some (.inl (false, 400)) := rfl
theorem za_44 : zL[44]? = some (.inl (false, 400)) := rfl
theorem za_45 : zL[45]? = some (.inl (false, 300)) := rfl
theorem za_46 : zL[46]? = some (.inl (false, 4)) := rfl
theorem za_47 : zL[47]? = some (.inl (false, 4)) := rfl
theorem za_48 : zL[48]? = some (.inl (false, 4)) := rfl
theorem za_49 : zL[49]? = some (.inl (false, 32)) := rfl
theorem za_50 : zL[50]? = some (.inl (false, 30)) := rfl
theorem za_51 : zL[51]? = some (.inl (false, 30)) := rfl
theorem za_52 : zL[52]? = some (.inl (false, 160)) := rfl
theorem za_53 : zL[53]? = some (.inl (false, 3600)) := rfl
theorem za_54 : zL[54]? = some (.inl (false, 3600)) := rfl
theorem za_55 : zL[55]? = some (.inl (false, 3600)) := rfl
theorem za_56 : zL[56]? = some (.inl (false, 168)) := rfl
theorem za_57 : zL[57]? = some (.inl (false, 21)) := rfl
theorem za_58 : zL[58]? = some (.inl (false, 20)) := rfl
theorem za_59 : zL[59]? = some (.inl (false, 8)) := rfl
theorem za_60 : zL[60]? = some (.inl (false, 16)) := rfl
theorem zlen_4 : Int32.ofNat 4 = 4 := by decide +kernel
theorem zlen_8 : Int32.ofNat 8 = 8 := by decide +kernel
theorem zlen_16 : Int32.ofNat 16 = 16 := by decide +kernel
theorem zlen_20 : Int32.ofNat 20 = 20 := by decide +kernel
theorem zlen_21 : Int32.ofNat 21 = 21 := by decide +kernel
theorem zlen_30 : Int32.ofNat 30 = 30 := by decide +kernel
theorem zlen_32 : Int32.ofNat 32 = 32 := by decide +kernel
theorem zlen_150 : Int32.ofNat 150 = 150 := by decide +kernel
theorem zlen_160 : Int32.ofNat 160 = 160 := by decide +kernel
theorem zlen_168 : Int32.ofNat 168 = 168 := by decide +kernel
theorem zlen_300 : Int32.ofNat 300 = 300 := by decide +kernel
theorem zlen_400 : Int32.ofNat 400 = 400 := by decide +kernel
theorem zlen_1600 : Int32.ofNat 1600 = 1600 := by decide +kernel
theorem zlen_2048 : Int32.ofNat 2048 = 2048 := by decide +kernel
theorem zlen_3600 : Int32.ofNat 3600 = 3600 := by decide +kernel
theorem zf_0_9 : zFR "LittleCompiler$Code" 9 4 0 5 := ⟨_, _, _, _, _, rfl, rfl, by decide, rfl, zmem 115 (by decide +kernel)⟩
theorem zf_0_15 : zFR "LittleCompiler$Code" 15 4 1 6 := ⟨_, _, _, _, _, rfl, rfl, by decide, rfl, zmem 116 (by decide +kernel)⟩
theorem zf_0_18 : zFI "LittleCompiler$Code" 18 4 2 .int := ⟨_, _, _, _, _, rfl, rfl, by decide, rfl, zmem 117 (by decide +kernel), rfl, by decide +kernel⟩
theorem zf_1_9 : zFR "LittleCompiler$Expressions" 9 25 0 4 := ⟨_, _, _, _, _, rfl, rfl, by decide, rfl, zmem 222 (by decide +kernel)⟩
theorem zf_1_15 : zFR "LittleCompiler$Expressions" 15 25 1 7 := ⟨_, _, _, _, _, rfl, rfl, by decide, rfl, zmem 223 (by decide +kernel)⟩
theorem zf_1_19 : zFR "LittleCompiler$Expressions" 19 25 2 15 := ⟨_, _, _, _, _, rfl, rfl, by decide, rfl, zmem 224 (by decide +kernel)⟩
theorem zf_1_23 : zFR "LittleCompiler$Expressions" 23 25 3 19 := ⟨_, _, _, _, _, rfl, rfl, by decide, rfl, zmem 225 (by decide +kernel)⟩
theorem zf_3_9 : zFR "LittleCompiler$Machine" 9 27 0 28 := ⟨_, _, _, _, _, rfl, rfl, by decide, rfl, zmem 289 (by decide +kernel)⟩
theorem zf_3_15 : zFR "LittleCompiler$Machine" 15 27 1 29 := ⟨_, _, _, _, _, rfl, rfl, by decide, rfl, zmem 291 (by decide +kernel)⟩
theorem zf_3_18 : zFR "LittleCompiler$Machine" 18 27 2 30 := ⟨_, _, _, _, _, rfl, rfl, by decide, rfl, zmem 293 (by decide +kernel)⟩
theorem zf_3_21 : zFI "LittleCompiler$Machine" 21 27 7 .boolean := ⟨_, _, _, _, _, rfl, rfl, by decide, rfl, zmem 303 (by decide +kernel), rfl, by decide +kernel⟩
theorem zf_3_25 : zFR "LittleCompiler$Machine" 25 27 10 31 := ⟨_, _, _, _, _, rfl, rfl, by decide, rfl, zmem 307 (by decide +kernel)⟩
theorem zf_3_28 : zFR "LittleCompiler$Machine" 28 27 11 32 := ⟨_, _, _, _, _, rfl, rfl, by decide, rfl, zmem 308 (by decide +kernel)⟩
theorem zf_3_31 : zFR "LittleCompiler$Machine" 31 27 12 33 := ⟨_, _, _, _, _, rfl, rfl, by decide, rfl, zmem 309 (by decide +kernel)⟩
theorem zf_3_34 : zFR "LittleCompiler$Machine" 34 27 8 4 := ⟨_, _, _, _, _, rfl, rfl, by decide, rfl, zmem 305 (by decide +kernel)⟩
theorem zf_3_38 : zFR "LittleCompiler$Machine" 38 27 9 7 := ⟨_, _, _, _, _, rfl, rfl, by decide, rfl, zmem 306 (by decide +kernel)⟩
theorem zf_3_42 : zFI "LittleCompiler$Machine" 42 27 3 .int := ⟨_, _, _, _, _, rfl, rfl, by decide, rfl, zmem 295 (by decide +kernel), rfl, by decide +kernel⟩
theorem zf_3_46 : zFI "LittleCompiler$Machine" 46 27 4 .int := ⟨_, _, _, _, _, rfl, rfl, by decide, rfl, zmem 297 (by decide +kernel), rfl, by decide +kernel⟩
theorem zf_3_49 : zFI "LittleCompiler$Machine" 49 27 5 .int := ⟨_, _, _, _, _, rfl, rfl, by decide, rfl, zmem 299 (by decide +kernel), rfl, by decide +kernel⟩
theorem zf_3_52 : zFI "LittleCompiler$Machine" 52 27 6 .int := ⟨_, _, _, _, _, rfl, rfl, by decide, rfl, zmem 301 (by decide +kernel), rfl, by decide +kernel⟩
theorem zf_3_55 : zFI "LittleCompiler$Machine" 55 27 13 .int := ⟨_, _, _, _, _, rfl, rfl, by decide, rfl, zmem 310 (by decide +kernel), rfl, by decide +kernel⟩
theorem zf_3_58 : zFI "LittleCompiler$Machine" 58 27 14 .int := ⟨_, _, _, _, _, rfl, rfl, by decide, rfl, zmem 311 (by decide +kernel), rfl, by decide +kernel⟩
theorem zf_3_67 : zFI "LittleCompiler$Machine" 67 27 15 .int := ⟨_, _, _, _, _, rfl, rfl, by decide, rfl, zmem 312 (by decide +kernel), rfl, by decide +kernel⟩
theorem zf_3_70 : zFI "LittleCompiler$Machine" 70 27 16 .boolean := ⟨_, _, _, _, _, rfl, rfl, by decide, rfl, zmem 313 (by decide +kernel), rfl, by decide +kernel⟩
theorem zf_5_9 : zFR "LittleCompiler$Parser" 9 14 4 4 := ⟨_, _, _, _, _, rfl, rfl, by decide, rfl, zmem 259 (by decide +kernel)⟩
theorem zf_5_15 : zFR "LittleCompiler$Parser" 15 14 5 7 := ⟨_, _, _, _, _, rfl, rfl, by decide, rfl, zmem 260 (by decide +kernel)⟩
theorem zf_5_22 : zFR "LittleCompiler$Parser" 22 14 6 15 := ⟨_, _, _, _, _, rfl, rfl, by decide, rfl, zmem 261 (by decide +kernel)⟩
theorem zf_5_29 : zFR "LittleCompiler$Parser" 29 14 0 19 := ⟨_, _, _, _, _, rfl, rfl, by decide, rfl, zmem 251 (by decide +kernel)⟩
theorem zf_5_38 : zFR "LittleCompiler$Parser" 38 14 7 25 := ⟨_, _, _, _, _, rfl, rfl, by decide, rfl, zmem 262 (by decide +kernel)⟩
theorem zf_5_47 : zFR "LittleCompiler$Parser" 47 14 8 26 := ⟨_, _, _, _, _, rfl, rfl, by decide, rfl, zmem 263 (by decide +kernel)⟩
theorem zf_5_51 : zFI "LittleCompiler$Parser" 51 14 1 .int := ⟨_, _, _, _, _, rfl, rfl, by decide, rfl, zmem 253 (by decide +kernel), rfl, by decide +kernel⟩
theorem zf_5_55 : zFI "LittleCompiler$Parser" 55 14 2 .int := ⟨_, _, _, _, _, rfl, rfl, by decide, rfl, zmem 255 (by decide +kernel), rfl, by decide +kernel⟩
theorem zf_5_58 : zFI "LittleCompiler$Parser" 58 14 3 .boolean := ⟨_, _, _, _, _, rfl, rfl, by decide, rfl, zmem 257 (by decide +kernel), rfl, by decide +kernel⟩
theorem zf_6_9 : zFR "LittleCompiler$Pending" 9 15 0 16 := ⟨_, _, _, _, _, rfl, rfl, by decide, rfl, zmem 176 (by decide +kernel)⟩
theorem zf_6_15 : zFR "LittleCompiler$Pending" 15 15 1 17 := ⟨_, _, _, _, _, rfl, rfl, by decide, rfl, zmem 177 (by decide +kernel)⟩
theorem zf_6_18 : zFR "LittleCompiler$Pending" 18 15 2 18 := ⟨_, _, _, _, _, rfl, rfl, by decide, rfl, zmem 178 (by decide +kernel)⟩
theorem zf_6_21 : zFI "LittleCompiler$Pending" 21 15 3 .int := ⟨_, _, _, _, _, rfl, rfl, by decide, rfl, zmem 179 (by decide +kernel), rfl, by decide +kernel⟩
theorem zf_7_9 : zFR "LittleCompiler$PlainForm" 9 19 0 20 := ⟨_, _, _, _, _, rfl, rfl, by decide, rfl, zmem 195 (by decide +kernel)⟩
theorem zf_7_15 : zFR "LittleCompiler$PlainForm" 15 19 2 21 := ⟨_, _, _, _, _, rfl, rfl, by decide, rfl, zmem 199 (by decide +kernel)⟩
theorem zf_7_19 : zFI "LittleCompiler$PlainForm" 19 19 1 .int := ⟨_, _, _, _, _, rfl, rfl, by decide, rfl, zmem 197 (by decide +kernel), rfl, by decide +kernel⟩
theorem zf_7_28 : zFI "LittleCompiler$PlainForm" 28 19 3 .int := ⟨_, _, _, _, _, rfl, rfl, by decide, rfl, zmem 200 (by decide +kernel), rfl, by decide +kernel⟩
theorem zf_7_31 : zFI "LittleCompiler$PlainForm" 31 19 4 .int := ⟨_, _, _, _, _, rfl, rfl, by decide, rfl, zmem 201 (by decide +kernel), rfl, by decide +kernel⟩
theorem zf_7_34 : zFI "LittleCompiler$PlainForm" 34 19 5 .int := ⟨_, _, _, _, _, rfl, rfl, by decide, rfl, zmem 202 (by decide +kernel), rfl, by decide +kernel⟩
theorem zf_8_11 : zFR "LittleCompiler$Procedures" 11 7 0 8 := ⟨_, _, _, _, _, rfl, rfl, by decide, rfl, zmem 132 (by decide +kernel)⟩
theorem zf_8_15 : zFR "LittleCompiler$Procedures" 15 7 1 9 := ⟨_, _, _, _, _, rfl, rfl, by decide, rfl, zmem 133 (by decide +kernel)⟩
theorem zf_8_19 : zFR "LittleCompiler$Procedures" 19 7 2 10 := ⟨_, _, _, _, _, rfl, rfl, by decide, rfl, zmem 134 (by decide +kernel)⟩
theorem zf_8_22 : zFR "LittleCompiler$Procedures" 22 7 3 11 := ⟨_, _, _, _, _, rfl, rfl, by decide, rfl, zmem 135 (by decide +kernel)⟩
theorem zf_8_25 : zFR "LittleCompiler$Procedures" 25 7 4 12 := ⟨_, _, _, _, _, rfl, rfl, by decide, rfl, zmem 136 (by decide +kernel)⟩
theorem zf_8_28 : zFR "LittleCompiler$Procedures" 28 7 5 13 := ⟨_, _, _, _, _, rfl, rfl, by decide, rfl, zmem 137 (by decide +kernel)⟩
theorem zf_8_31 : zFI "LittleCompiler$Procedures" 31 7 6 .int := ⟨_, _, _, _, _, rfl, rfl, by decide, rfl, zmem 138 (by decide +kernel), rfl, by decide +kernel⟩
theorem zf_8_35 : zFI "LittleCompiler$Procedures" 35 7 7 .int := ⟨_, _, _, _, _, rfl, rfl, by decide, rfl, zmem 139 (by decide +kernel), rfl, by decide +kernel⟩
theorem zf_8_38 : zFI "LittleCompiler$Procedures" 38 7 8 .int := ⟨_, _, _, _, _, rfl, rfl, by decide, rfl, zmem 140 (by decide +kernel), rfl, by decide +kernel⟩
theorem zf_8_41 : zFI "LittleCompiler$Procedures" 41 7 9 .int := ⟨_, _, _, _, _, rfl, rfl, by decide, rfl, zmem 141 (by decide +kernel), rfl, by decide +kernel⟩
theorem zf_9_7 : zFR "LittleCompiler$Statements" 7 26 0 4 := ⟨_, _, _, _, _, rfl, rfl, by decide, rfl, zmem 241 (by decide +kernel)⟩
theorem zf_9_13 : zFR "LittleCompiler$Statements" 13 26 1 7 := ⟨_, _, _, _, _, rfl, rfl, by decide, rfl, zmem 242 (by decide +kernel)⟩
theorem zf_9_17 : zFR "LittleCompiler$Statements" 17 26 2 15 := ⟨_, _, _, _, _, rfl, rfl, by decide, rfl, zmem 243 (by decide +kernel)⟩
theorem zf_11_9 : zFR "LittleCompiler" 9 0 0 1 := ⟨_, _, _, _, _, rfl, rfl, by decide, rfl, zmem 349 (by decide +kernel)⟩
theorem zf_11_13 : zFR "LittleCompiler" 13 0 1 2 := ⟨_, _, _, _, _, rfl, rfl, by decide, rfl, zmem 350 (by decide +kernel)⟩
theorem zf_11_16 : zFR "LittleCompiler" 16 0 2 3 := ⟨_, _, _, _, _, rfl, rfl, by decide, rfl, zmem 351 (by decide +kernel)⟩
theorem zf_11_30 : zFR "LittleCompiler" 30 0 3 14 := ⟨_, _, _, _, _, rfl, rfl, by decide, rfl, zmem 352 (by decide +kernel)⟩
theorem zf_11_37 : zFR "LittleCompiler" 37 0 4 27 := ⟨_, _, _, _, _, rfl, rfl, by decide, rfl, zmem 353 (by decide +kernel)⟩
theorem zf_11_41 : zFI "LittleCompiler" 41 0 5 .int := ⟨_, _, _, _, _, rfl, rfl, by decide, rfl, zmem 354 (by decide +kernel), rfl, by decide +kernel⟩
theorem zf_11_69 : zFI "LittleCompiler" 69 14 1 .int := ⟨_, _, _, _, _, rfl, rfl, by decide, rfl, zmem 254 (by decide +kernel), rfl, by decide +kernel⟩
theorem zf_11_76 : zFI "LittleCompiler" 76 14 2 .int := ⟨_, _, _, _, _, rfl, rfl, by decide, rfl, zmem 256 (by decide +kernel), rfl, by decide +kernel⟩
theorem zf_11_79 : zFI "LittleCompiler" 79 27 7 .boolean := ⟨_, _, _, _, _, rfl, rfl, by decide, rfl, zmem 304 (by decide +kernel), rfl, by decide +kernel⟩
theorem zf_11_86 : zFI "LittleCompiler" 86 27 6 .int := ⟨_, _, _, _, _, rfl, rfl, by decide, rfl, zmem 302 (by decide +kernel), rfl, by decide +kernel⟩
theorem zf_11_89 : zFI "LittleCompiler" 89 27 3 .int := ⟨_, _, _, _, _, rfl, rfl, by decide, rfl, zmem 296 (by decide +kernel), rfl, by decide +kernel⟩
theorem zf_11_92 : zFR "LittleCompiler" 92 27 2 30 := ⟨_, _, _, _, _, rfl, rfl, by decide, rfl, zmem 294 (by decide +kernel)⟩
theorem zf_11_95 : zFR "LittleCompiler" 95 27 0 28 := ⟨_, _, _, _, _, rfl, rfl, by decide, rfl, zmem 290 (by decide +kernel)⟩
theorem zf_11_98 : zFR "LittleCompiler" 98 27 1 29 := ⟨_, _, _, _, _, rfl, rfl, by decide, rfl, zmem 292 (by decide +kernel)⟩
theorem zf_11_101 : zFI "LittleCompiler" 101 27 4 .int := ⟨_, _, _, _, _, rfl, rfl, by decide, rfl, zmem 298 (by decide +kernel), rfl, by decide +kernel⟩
theorem zf_11_104 : zFI "LittleCompiler" 104 27 5 .int := ⟨_, _, _, _, _, rfl, rfl, by decide, rfl, zmem 300 (by decide +kernel), rfl, by decide +kernel⟩
theorem zf_11_107 : zFR "LittleCompiler" 107 14 0 19 := ⟨_, _, _, _, _, rfl, rfl, by decide, rfl, zmem 252 (by decide +kernel)⟩
theorem zf_11_111 : zFI "LittleCompiler" 111 19 1 .int := ⟨_, _, _, _, _, rfl, rfl, by decide, rfl, zmem 198 (by decide +kernel), rfl, by decide +kernel⟩
theorem zf_11_116 : zFR "LittleCompiler" 116 19 0 20 := ⟨_, _, _, _, _, rfl, rfl, by decide, rfl, zmem 196 (by decide +kernel)⟩
theorem zf_11_117 : zFI "LittleCompiler" 117 14 3 .boolean := ⟨_, _, _, _, _, rfl, rfl, by decide, rfl, zmem 258 (by decide +kernel), rfl, by decide +kernel⟩
theorem zf_12_7 : zFR "LittleCompilerModel" 7 34 0 35 := ⟨_, _, _, _, _, rfl, rfl, by decide, rfl, zmem 887 (by decide +kernel)⟩
theorem zf_12_13 : zFR "LittleCompilerModel" 13 34 2 36 := ⟨_, _, _, _, _, rfl, rfl, by decide, rfl, zmem 889 (by decide +kernel)⟩
theorem zf_12_16 : zFR "LittleCompilerModel" 16 34 3 37 := ⟨_, _, _, _, _, rfl, rfl, by decide, rfl, zmem 890 (by decide +kernel)⟩
theorem zf_12_19 : zFR "LittleCompilerModel" 19 34 4 38 := ⟨_, _, _, _, _, rfl, rfl, by decide, rfl, zmem 891 (by decide +kernel)⟩
theorem zf_12_22 : zFR "LittleCompilerModel" 22 34 8 39 := ⟨_, _, _, _, _, rfl, rfl, by decide, rfl, zmem 895 (by decide +kernel)⟩
theorem zf_12_25 : zFR "LittleCompilerModel" 25 34 9 40 := ⟨_, _, _, _, _, rfl, rfl, by decide, rfl, zmem 896 (by decide +kernel)⟩
theorem zf_12_28 : zFR "LittleCompilerModel" 28 34 10 41 := ⟨_, _, _, _, _, rfl, rfl, by decide, rfl, zmem 897 (by decide +kernel)⟩
theorem zf_12_31 : zFR "LittleCompilerModel" 31 34 11 42 := ⟨_, _, _, _, _, rfl, rfl, by decide, rfl, zmem 898 (by decide +kernel)⟩
theorem zf_12_34 : zFR "LittleCompilerModel" 34 34 12 43 := ⟨_, _, _, _, _, rfl, rfl, by decide, rfl, zmem 899 (by decide +kernel)⟩
theorem zf_12_37 : zFR "LittleCompilerModel" 37 34 13 44 := ⟨_, _, _, _, _, rfl, rfl, by decide, rfl, zmem 900 (by decide +kernel)⟩
theorem zf_12_40 : zFR "LittleCompilerModel" 40 34 15 45 := ⟨_, _, _, _, _, rfl, rfl, by decide, rfl, zmem 902 (by decide +kernel)⟩
theorem zf_12_43 : zFR "LittleCompilerModel" 43 34 17 46 := ⟨_, _, _, _, _, rfl, rfl, by decide, rfl, zmem 904 (by decide +kernel)⟩
theorem zf_12_46 : zFR "LittleCompilerModel" 46 34 18 47 := ⟨_, _, _, _, _, rfl, rfl, by decide, rfl, zmem 905 (by decide +kernel)⟩
theorem zf_12_49 : zFR "LittleCompilerModel" 49 34 19 48 := ⟨_, _, _, _, _, rfl, rfl, by decide, rfl, zmem 906 (by decide +kernel)⟩
theorem zf_12_52 : zFR "LittleCompilerModel" 52 34 20 49 := ⟨_, _, _, _, _, rfl, rfl, by decide, rfl, zmem 907 (by decide +kernel)⟩
theorem zf_12_55 : zFR "LittleCompilerModel" 55 34 25 50 := ⟨_, _, _, _, _, rfl, rfl, by decide, rfl, zmem 912 (by decide +kernel)⟩
theorem zf_12_58 : zFR "LittleCompilerModel" 58 34 26 51 := ⟨_, _, _, _, _, rfl, rfl, by decide, rfl, zmem 913 (by decide +kernel)⟩
theorem zf_12_61 : zFR "LittleCompilerModel" 61 34 29 52 := ⟨_, _, _, _, _, rfl, rfl, by decide, rfl, zmem 916 (by decide +kernel)⟩
theorem zf_12_64 : zFR "LittleCompilerModel" 64 34 31 53 := ⟨_, _, _, _, _, rfl, rfl, by decide, rfl, zmem 918 (by decide +kernel)⟩
theorem zf_12_67 : zFR "LittleCompilerModel" 67 34 32 54 := ⟨_, _, _, _, _, rfl, rfl, by decide, rfl, zmem 919 (by decide +kernel)⟩
theorem zf_12_70 : zFR "LittleCompilerModel" 70 34 34 55 := ⟨_, _, _, _, _, rfl, rfl, by decide, rfl, zmem 921 (by decide +kernel)⟩
theorem zf_12_73 : zFR "LittleCompilerModel" 73 34 36 56 := ⟨_, _, _, _, _, rfl, rfl, by decide, rfl, zmem 923 (by decide +kernel)⟩
theorem zf_12_76 : zFR "LittleCompilerModel" 76 34 37 57 := ⟨_, _, _, _, _, rfl, rfl, by decide, rfl, zmem 924 (by decide +kernel)⟩
theorem zf_12_79 : zFR "LittleCompilerModel" 79 34 41 58 := ⟨_, _, _, _, _, rfl, rfl, by decide, rfl, zmem 928 (by decide +kernel)⟩
theorem zf_12_82 : zFR "LittleCompilerModel" 82 34 43 59 := ⟨_, _, _, _, _, rfl, rfl, by decide, rfl, zmem 930 (by decide +kernel)⟩
theorem zf_12_85 : zFR "LittleCompilerModel" 85 34 44 60 := ⟨_, _, _, _, _, rfl, rfl, by decide, rfl, zmem 931 (by decide +kernel)⟩
theorem zf_12_92 : zFI "LittleCompilerModel" 92 34 1 .int := ⟨_, _, _, _, _, rfl, rfl, by decide, rfl, zmem 888 (by decide +kernel), rfl, by decide +kernel⟩
theorem zf_12_96 : zFI "LittleCompilerModel" 96 34 6 .int := ⟨_, _, _, _, _, rfl, rfl, by decide, rfl, zmem 893 (by decide +kernel), rfl, by decide +kernel⟩
theorem zf_12_99 : zFI "LittleCompilerModel" 99 34 5 .int := ⟨_, _, _, _, _, rfl, rfl, by decide, rfl, zmem 892 (by decide +kernel), rfl, by decide +kernel⟩
theorem zf_12_102 : zFI "LittleCompilerModel" 102 34 14 .int := ⟨_, _, _, _, _, rfl, rfl, by decide, rfl, zmem 901 (by decide +kernel), rfl, by decide +kernel⟩
theorem zf_12_105 : zFI "LittleCompilerModel" 105 34 16 .int := ⟨_, _, _, _, _, rfl, rfl, by decide, rfl, zmem 903 (by decide +kernel), rfl, by decide +kernel⟩
theorem zf_12_130 : zFI "LittleCompilerModel" 130 34 7 .boolean := ⟨_, _, _, _, _, rfl, rfl, by decide, rfl, zmem 894 (by decide +kernel), rfl, by decide +kernel⟩
theorem zf_12_134 : zFI "LittleCompilerModel" 134 34 21 .int := ⟨_, _, _, _, _, rfl, rfl, by decide, rfl, zmem 908 (by decide +kernel), rfl, by decide +kernel⟩
theorem zf_12_137 : zFI "LittleCompilerModel" 137 34 23 .boolean := ⟨_, _, _, _, _, rfl, rfl, by decide, rfl, zmem 910 (by decide +kernel), rfl, by decide +kernel⟩
theorem zf_12_140 : zFI "LittleCompilerModel" 140 34 22 .int := ⟨_, _, _, _, _, rfl, rfl, by decide, rfl, zmem 909 (by decide +kernel), rfl, by decide +kernel⟩
theorem zf_12_143 : zFI "LittleCompilerModel" 143 34 27 .int := ⟨_, _, _, _, _, rfl, rfl, by decide, rfl, zmem 914 (by decide +kernel), rfl, by decide +kernel⟩
theorem zf_12_150 : zFI "LittleCompilerModel" 150 34 28 .int := ⟨_, _, _, _, _, rfl, rfl, by decide, rfl, zmem 915 (by decide +kernel), rfl, by decide +kernel⟩
theorem zf_12_157 : zFI "LittleCompilerModel" 157 34 24 .int := ⟨_, _, _, _, _, rfl, rfl, by decide, rfl, zmem 911 (by decide +kernel), rfl, by decide +kernel⟩
theorem zf_12_207 : zFI "LittleCompilerModel" 207 34 33 .int := ⟨_, _, _, _, _, rfl, rfl, by decide, rfl, zmem 920 (by decide +kernel), rfl, by decide +kernel⟩
theorem zf_12_210 : zFI "LittleCompilerModel" 210 34 35 .int := ⟨_, _, _, _, _, rfl, rfl, by decide, rfl, zmem 922 (by decide +kernel), rfl, by decide +kernel⟩
theorem zf_12_213 : zFI "LittleCompilerModel" 213 34 40 .int := ⟨_, _, _, _, _, rfl, rfl, by decide, rfl, zmem 927 (by decide +kernel), rfl, by decide +kernel⟩
theorem zf_12_216 : zFI "LittleCompilerModel" 216 34 45 .int := ⟨_, _, _, _, _, rfl, rfl, by decide, rfl, zmem 932 (by decide +kernel), rfl, by decide +kernel⟩
theorem zf_12_219 : zFI "LittleCompilerModel" 219 34 38 .int := ⟨_, _, _, _, _, rfl, rfl, by decide, rfl, zmem 925 (by decide +kernel), rfl, by decide +kernel⟩
theorem zf_12_235 : zFI "LittleCompilerModel" 235 34 39 .int := ⟨_, _, _, _, _, rfl, rfl, by decide, rfl, zmem 926 (by decide +kernel), rfl, by decide +kernel⟩
theorem zf_12_247 : zFI "LittleCompilerModel" 247 34 42 .int := ⟨_, _, _, _, _, rfl, rfl, by decide, rfl, zmem 929 (by decide +kernel), rfl, by decide +kernel⟩
theorem zf_12_274 : zFI "LittleCompilerModel" 274 34 30 .int := ⟨_, _, _, _, _, rfl, rfl, by decide, rfl, zmem 917 (by decide +kernel), rfl, by decide +kernel⟩
theorem zl_1_29 : Cond.methodLink "LittleCompiler$Expressions" 29 ⟨"LittleCompiler$PlainForm", "leaveOut", "(I)V"⟩ ∈ ztbl := zmem 658 (by decide +kernel)
theorem zl_1_41 : Cond.methodLink "LittleCompiler$Expressions" 41 ⟨"LittleCompiler$Pending", "push", "(III)V"⟩ ∈ ztbl := zmem 662 (by decide +kernel)
theorem zl_1_45 : Cond.methodLink "LittleCompiler$Expressions" 45 ⟨"LittleCompiler$Expressions", "factor", "(II)I"⟩ ∈ ztbl := zmem 663 (by decide +kernel)
theorem zl_1_49 : Cond.methodLink "LittleCompiler$Expressions" 49 ⟨"LittleCompiler$Token", "isNumber", "(I)Z"⟩ ∈ ztbl := zmem 667 (by decide +kernel)
theorem zl_1_53 : Cond.methodLink "LittleCompiler$Expressions" 53 ⟨"LittleCompiler$Expressions", "simpleFactor", "(II)I"⟩ ∈ ztbl := zmem 641 (by decide +kernel)
theorem zl_1_56 : Cond.methodLink "LittleCompiler$Expressions" 56 ⟨"LittleCompiler$Token", "isName", "(I)Z"⟩ ∈ ztbl := zmem 670 (by decide +kernel)
theorem zl_1_59 : Cond.methodLink "LittleCompiler$Expressions" 59 ⟨"LittleCompiler$Procedures", "isOwn", "(I)Z"⟩ ∈ ztbl := zmem 671 (by decide +kernel)
theorem zl_1_64 : Cond.methodLink "LittleCompiler$Expressions" 64 ⟨"LittleCompiler$Token", "isProcedure", "(I)Z"⟩ ∈ ztbl := zmem 672 (by decide +kernel)
theorem zl_1_67 : Cond.methodLink "LittleCompiler$Expressions" 67 ⟨"LittleCompiler$Procedures", "beginCall", "(II)V"⟩ ∈ ztbl := zmem 673 (by decide +kernel)
theorem zl_1_71 : Cond.methodLink "LittleCompiler$Expressions" 71 ⟨"LittleCompiler$Level", "ofOperator", "(I)I"⟩ ∈ ztbl := zmem 462 (by decide +kernel)
theorem zl_1_77 : Cond.methodLink "LittleCompiler$Expressions" 77 Lib.Math.max.name ∈ ztbl ∧ Cond.static Lib.Math.max.name ∈ ztbl ∧ Cond.initialized "java/lang/Math" ∈ ztbl ∧ Cond.code Lib.Math.max.name Lib.Math.max.code 2 (some .int) ∈ ztbl := ⟨zmem 692 (by decide +kernel), zmem 693 (by decide +kernel), zmem 100 (by decide +kernel), zmem 694 (by decide +kernel)⟩
theorem zl_1_82 : Cond.methodLink "LittleCompiler$Expressions" 82 ⟨"LittleCompiler$Expressions", "endOperators", "(I)V"⟩ ∈ ztbl := zmem 447 (by decide +kernel)
theorem zl_1_85 : Cond.methodLink "LittleCompiler$Expressions" 85 ⟨"LittleCompiler$Pending", "kind", "()I"⟩ ∈ ztbl := zmem 451 (by decide +kernel)
theorem zl_1_89 : Cond.methodLink "LittleCompiler$Expressions" 89 ⟨"LittleCompiler$PlainForm", "judgeBrackets", "(I)V"⟩ ∈ ztbl := zmem 475 (by decide +kernel)
theorem zl_1_92 : Cond.methodLink "LittleCompiler$Expressions" 92 ⟨"LittleCompiler$Code", "emit", "(II)I"⟩ ∈ ztbl := zmem 483 (by decide +kernel)
theorem zl_1_95 : Cond.methodLink "LittleCompiler$Expressions" 95 ⟨"LittleCompiler$Pending", "first", "()I"⟩ ∈ ztbl := zmem 455 (by decide +kernel)
theorem zl_1_98 : Cond.methodLink "LittleCompiler$Expressions" 98 ⟨"LittleCompiler$Procedures", "addArgument", "(I)V"⟩ ∈ ztbl := zmem 491 (by decide +kernel)
theorem zl_1_101 : Cond.methodLink "LittleCompiler$Expressions" 101 ⟨"LittleCompiler$Pending", "second", "()I"⟩ ∈ ztbl := zmem 463 (by decide +kernel)
theorem zl_1_104 : Cond.methodLink "LittleCompiler$Expressions" 104 ⟨"LittleCompiler$Pending", "pop", "()V"⟩ ∈ ztbl := zmem 467 (by decide +kernel)
theorem zl_1_107 : Cond.methodLink "LittleCompiler$Expressions" 107 ⟨"LittleCompiler$PlainForm", "putInBrackets", "(II)V"⟩ ∈ ztbl := zmem 683 (by decide +kernel)
theorem zl_1_110 : Cond.methodLink "LittleCompiler$Expressions" 110 ⟨"LittleCompiler$Expressions", "endCall", "()I"⟩ ∈ ztbl := zmem 678 (by decide +kernel)
theorem zl_1_113 : Cond.methodLink "LittleCompiler$Expressions" 113 ⟨"LittleCompiler$Procedures", "callee", "(I)I"⟩ ∈ ztbl := zmem 650 (by decide +kernel)
theorem zl_1_116 : Cond.methodLink "LittleCompiler$Expressions" 116 ⟨"LittleCompiler$PlainForm", "beginOperand", "()V"⟩ ∈ ztbl := zmem 645 (by decide +kernel)
theorem zl_1_119 : Cond.methodLink "LittleCompiler$Expressions" 119 ⟨"LittleCompiler$Expressions", "levelOf", "(I)I"⟩ ∈ ztbl := zmem 459 (by decide +kernel)
theorem zl_1_122 : Cond.methodLink "LittleCompiler$Expressions" 122 ⟨"LittleCompiler$Expressions", "endOperator", "(III)V"⟩ ∈ ztbl := zmem 471 (by decide +kernel)
theorem zl_1_125 : Cond.methodLink "LittleCompiler$Expressions" 125 ⟨"LittleCompiler$PlainForm", "becomeLevel", "(I)V"⟩ ∈ ztbl := zmem 479 (by decide +kernel)
theorem zl_1_128 : Cond.methodLink "LittleCompiler$Expressions" 128 ⟨"LittleCompiler$Code", "leadHere", "(I)V"⟩ ∈ ztbl := zmem 487 (by decide +kernel)
theorem zl_3_61 : Cond.methodLink "LittleCompiler$Machine" 61 ⟨"LittleCompiler$Procedures", "mainEntry", "()I"⟩ ∈ ztbl := zmem 745 (by decide +kernel)
theorem zl_3_74 : Cond.methodLink "LittleCompiler$Machine" 74 ⟨"LittleCompiler$Machine", "step", "()V"⟩ ∈ ztbl := zmem 750 (by decide +kernel)
theorem zl_3_77 : Cond.methodLink "LittleCompiler$Machine" 77 ⟨"LittleCompiler$Code", "operation", "(I)I"⟩ ∈ ztbl := zmem 754 (by decide +kernel)
theorem zl_3_83 : Cond.methodLink "LittleCompiler$Machine" 83 ⟨"LittleCompiler$Code", "operand", "(I)I"⟩ ∈ ztbl := zmem 758 (by decide +kernel)
theorem zl_3_88 : Cond.methodLink "LittleCompiler$Machine" 88 ⟨"LittleCompiler$Machine", "calculate", "(I)V"⟩ ∈ ztbl := zmem 762 (by decide +kernel)
theorem zl_3_92 : Cond.methodLink "LittleCompiler$Machine" 92 ⟨"LittleCompiler$Machine", "go", "(II)V"⟩ ∈ ztbl := zmem 785 (by decide +kernel)
theorem zl_3_96 : Cond.methodLink "LittleCompiler$Machine" 96 ⟨"LittleCompiler$Machine", "move", "(II)V"⟩ ∈ ztbl := zmem 821 (by decide +kernel)
theorem zl_3_99 : Cond.methodLink "LittleCompiler$Machine" 99 ⟨"LittleCompiler$Machine", "push", "(I)V"⟩ ∈ ztbl := zmem 778 (by decide +kernel)
theorem zl_3_102 : Cond.methodLink "LittleCompiler$Machine" 102 ⟨"LittleCompiler$Machine", "loadLocal", "(I)I"⟩ ∈ ztbl := zmem 825 (by decide +kernel)
theorem zl_3_105 : Cond.methodLink "LittleCompiler$Machine" 105 ⟨"LittleCompiler$Machine", "pop", "()I"⟩ ∈ ztbl := zmem 766 (by decide +kernel)
theorem zl_3_108 : Cond.methodLink "LittleCompiler$Machine" 108 ⟨"LittleCompiler$Machine", "loadCell", "(I)I"⟩ ∈ ztbl := zmem 829 (by decide +kernel)
theorem zl_3_111 : Cond.methodLink "LittleCompiler$Machine" 111 ⟨"LittleCompiler$Machine", "storeGlobal", "(II)V"⟩ ∈ ztbl := zmem 833 (by decide +kernel)
theorem zl_3_114 : Cond.methodLink "LittleCompiler$Machine" 114 ⟨"LittleCompiler$Machine", "storeLocal", "(II)V"⟩ ∈ ztbl := zmem 798 (by decide +kernel)
theorem zl_3_117 : Cond.methodLink "LittleCompiler$Machine" 117 ⟨"LittleCompiler$Machine", "storeCell", "(II)V"⟩ ∈ ztbl := zmem 837 (by decide +kernel)
theorem zl_3_120 : Cond.methodLink "LittleCompiler$Machine" 120 ⟨"LittleCompiler$Machine", "putOut", "(I)V"⟩ ∈ ztbl := zmem 841 (by decide +kernel)
theorem zl_3_123 : Cond.methodLink "LittleCompiler$Machine" 123 ⟨"LittleCompiler$Machine", "finish", "(I)V"⟩ ∈ ztbl := zmem 774 (by decide +kernel)
theorem zl_3_126 : Cond.methodLink "LittleCompiler$Machine" 126 ⟨"LittleCompiler$Machine", "takeTurn", "()V"⟩ ∈ ztbl := zmem 789 (by decide +kernel)
theorem zl_3_129 : Cond.methodLink "LittleCompiler$Machine" 129 ⟨"LittleCompiler$Machine", "call", "(I)V"⟩ ∈ ztbl := zmem 793 (by decide +kernel)
theorem zl_3_132 : Cond.methodLink "LittleCompiler$Machine" 132 ⟨"LittleCompiler$Machine", "leave", "()V"⟩ ∈ ztbl := zmem 817 (by decide +kernel)
theorem zl_3_135 : Cond.methodLink "LittleCompiler$Machine" 135 ⟨"LittleCompiler$Machine", "divide", "(III)V"⟩ ∈ ztbl := zmem 770 (by decide +kernel)
theorem zl_3_139 : Cond.methodLink "LittleCompiler$Machine" 139 ⟨"LittleCompiler$Machine", "holds", "(III)Z"⟩ ∈ ztbl := zmem 782 (by decide +kernel)
theorem zl_3_143 : Cond.methodLink "LittleCompiler$Machine" 143 Lib.Math.max.name ∈ ztbl ∧ Cond.static Lib.Math.max.name ∈ ztbl ∧ Cond.initialized "java/lang/Math" ∈ ztbl ∧ Cond.code Lib.Math.max.name Lib.Math.max.code 2 (some .int) ∈ ztbl := ⟨zmem 797 (by decide +kernel), zmem 693 (by decide +kernel), zmem 100 (by decide +kernel), zmem 694 (by decide +kernel)⟩
theorem zl_3_149 : Cond.methodLink "LittleCompiler$Machine" 149 ⟨"LittleCompiler$Procedures", "parameterCount", "(I)I"⟩ ∈ ztbl := zmem 802 (by decide +kernel)
theorem zl_3_152 : Cond.methodLink "LittleCompiler$Machine" 152 ⟨"LittleCompiler$Procedures", "parameter", "(II)I"⟩ ∈ ztbl := zmem 809 (by decide +kernel)
theorem zl_3_155 : Cond.methodLink "LittleCompiler$Machine" 155 ⟨"LittleCompiler$Procedures", "entry", "(I)I"⟩ ∈ ztbl := zmem 813 (by decide +kernel)
theorem zl_5_62 : Cond.methodLink "LittleCompiler$Parser" 62 ⟨"LittleCompiler$Parser", "restart", "()V"⟩ ∈ ztbl := zmem 416 (by decide +kernel)
theorem zl_5_67 : Cond.methodLink "LittleCompiler$Parser" 67 ⟨"LittleCompiler$Level", "ofOperator", "(I)I"⟩ ∈ ztbl := zmem 440 (by decide +kernel)
theorem zl_5_73 : Cond.methodLink "LittleCompiler$Parser" 73 ⟨"LittleCompiler$Expressions", "end", "()I"⟩ ∈ ztbl := zmem 443 (by decide +kernel)
theorem zl_5_77 : Cond.methodLink "LittleCompiler$Parser" 77 ⟨"LittleCompiler$Parser", "acceptInHead", "(III)I"⟩ ∈ ztbl := zmem 495 (by decide +kernel)
theorem zl_5_81 : Cond.methodLink "LittleCompiler$Parser" 81 ⟨"LittleCompiler$Parser", "accept", "(III)I"⟩ ∈ ztbl := zmem 560 (by decide +kernel)
theorem zl_5_84 : Cond.methodLink "LittleCompiler$Parser" 84 ⟨"LittleCompiler$Procedures", "findFault", "(I)I"⟩ ∈ ztbl := zmem 695 (by decide +kernel)
theorem zl_5_89 : Cond.methodLink "LittleCompiler$Parser" 89 ⟨"LittleCompiler$PlainForm", "collect", "([II)V"⟩ ∈ ztbl := zmem 703 (by decide +kernel)
theorem zl_5_93 : Cond.methodLink "LittleCompiler$Parser" 93 ⟨"LittleCompiler$Code", "restart", "()V"⟩ ∈ ztbl := zmem 420 (by decide +kernel)
theorem zl_5_96 : Cond.methodLink "LittleCompiler$Parser" 96 ⟨"LittleCompiler$Procedures", "restart", "()V"⟩ ∈ ztbl := zmem 424 (by decide +kernel)
theorem zl_5_97 : Cond.methodLink "LittleCompiler$Parser" 97 ⟨"LittleCompiler$Pending", "restart", "()V"⟩ ∈ ztbl := zmem 428 (by decide +kernel)
theorem zl_5_98 : Cond.methodLink "LittleCompiler$Parser" 98 ⟨"LittleCompiler$PlainForm", "restart", "()V"⟩ ∈ ztbl := zmem 432 (by decide +kernel)
theorem zl_5_99 : Cond.methodLink "LittleCompiler$Parser" 99 ⟨"LittleCompiler$Token", "beginsStatement", "(I)Z"⟩ ∈ ztbl := zmem 564 (by decide +kernel)
theorem zl_5_105 : Cond.methodLink "LittleCompiler$Parser" 105 ⟨"LittleCompiler$Statements", "begin", "(II)I"⟩ ∈ ztbl := zmem 568 (by decide +kernel)
theorem zl_5_109 : Cond.methodLink "LittleCompiler$Parser" 109 ⟨"LittleCompiler$Statements", "end", "(I)I"⟩ ∈ ztbl := zmem 586 (by decide +kernel)
theorem zl_5_111 : Cond.methodLink "LittleCompiler$Parser" 111 ⟨"LittleCompiler$Statements", "closeTarget", "()I"⟩ ∈ ztbl := zmem 625 (by decide +kernel)
theorem zl_5_114 : Cond.methodLink "LittleCompiler$Parser" 114 ⟨"LittleCompiler$Statements", "beginWhileBody", "()I"⟩ ∈ ztbl := zmem 629 (by decide +kernel)
theorem zl_5_117 : Cond.methodLink "LittleCompiler$Parser" 117 ⟨"LittleCompiler$Statements", "beginThen", "()I"⟩ ∈ ztbl := zmem 633 (by decide +kernel)
theorem zl_5_120 : Cond.methodLink "LittleCompiler$Parser" 120 ⟨"LittleCompiler$Expressions", "closeIndex", "()I"⟩ ∈ ztbl := zmem 637 (by decide +kernel)
theorem zl_5_123 : Cond.methodLink "LittleCompiler$Parser" 123 ⟨"LittleCompiler$Expressions", "endCall", "()I"⟩ ∈ ztbl := zmem 646 (by decide +kernel)
theorem zl_5_126 : Cond.methodLink "LittleCompiler$Parser" 126 ⟨"LittleCompiler$Expressions", "begin", "(II)I"⟩ ∈ ztbl := zmem 654 (by decide +kernel)
theorem zl_5_127 : Cond.methodLink "LittleCompiler$Parser" 127 ⟨"LittleCompiler$Expressions", "afterArgument", "(I)I"⟩ ∈ ztbl := zmem 674 (by decide +kernel)
theorem zl_5_130 : Cond.methodLink "LittleCompiler$Parser" 130 ⟨"LittleCompiler$Expressions", "closeBracket", "(I)I"⟩ ∈ ztbl := zmem 679 (by decide +kernel)
theorem zl_5_133 : Cond.methodLink "LittleCompiler$Parser" 133 ⟨"LittleCompiler$Expressions", "factor", "(II)I"⟩ ∈ ztbl := zmem 687 (by decide +kernel)
theorem zl_5_136 : Cond.methodLink "LittleCompiler$Parser" 136 ⟨"LittleCompiler$Expressions", "operator", "(I)I"⟩ ∈ ztbl := zmem 688 (by decide +kernel)
theorem zl_5_139 : Cond.methodLink "LittleCompiler$Parser" 139 ⟨"LittleCompiler$Parser", "beginMain", "(I)I"⟩ ∈ ztbl := zmem 499 (by decide +kernel)
theorem zl_5_142 : Cond.methodLink "LittleCompiler$Parser" 142 ⟨"LittleCompiler$Parser", "beginProcedure", "(II)I"⟩ ∈ ztbl := zmem 515 (by decide +kernel)
theorem zl_5_145 : Cond.methodLink "LittleCompiler$Parser" 145 ⟨"LittleCompiler$Parser", "parameter", "(II)I"⟩ ∈ ztbl := zmem 528 (by decide +kernel)
theorem zl_5_148 : Cond.methodLink "LittleCompiler$Parser" 148 ⟨"LittleCompiler$Parser", "beginBody", "(I)I"⟩ ∈ ztbl := zmem 547 (by decide +kernel)
theorem zl_5_151 : Cond.methodLink "LittleCompiler$Parser" 151 ⟨"LittleCompiler$Parser", "local", "(II)I"⟩ ∈ ztbl := zmem 555 (by decide +kernel)
theorem zl_5_154 : Cond.methodLink "LittleCompiler$Parser" 154 ⟨"LittleCompiler$Token", "isProcedure", "(I)Z"⟩ ∈ ztbl := zmem 519 (by decide +kernel)
theorem zl_5_157 : Cond.methodLink "LittleCompiler$Parser" 157 ⟨"LittleCompiler$Procedures", "beginProcedure", "(II)V"⟩ ∈ ztbl := zmem 520 (by decide +kernel)
theorem zl_5_160 : Cond.methodLink "LittleCompiler$Parser" 160 ⟨"LittleCompiler$Token", "isName", "(I)Z"⟩ ∈ ztbl := zmem 532 (by decide +kernel)
theorem zl_5_163 : Cond.methodLink "LittleCompiler$Parser" 163 ⟨"LittleCompiler$Procedures", "addParameter", "(II)V"⟩ ∈ ztbl := zmem 535 (by decide +kernel)
theorem zl_5_166 : Cond.methodLink "LittleCompiler$Parser" 166 ⟨"LittleCompiler$Procedures", "addOwnName", "(II)V"⟩ ∈ ztbl := zmem 559 (by decide +kernel)
theorem zl_5_169 : Cond.methodLink "LittleCompiler$Parser" 169 ⟨"LittleCompiler$Code", "here", "()I"⟩ ∈ ztbl := zmem 503 (by decide +kernel)
theorem zl_5_172 : Cond.methodLink "LittleCompiler$Parser" 172 ⟨"LittleCompiler$Procedures", "beginBody", "(I)V"⟩ ∈ ztbl := zmem 551 (by decide +kernel)
theorem zl_5_175 : Cond.methodLink "LittleCompiler$Parser" 175 ⟨"LittleCompiler$Pending", "push", "(III)V"⟩ ∈ ztbl := zmem 511 (by decide +kernel)
theorem zl_5_179 : Cond.methodLink "LittleCompiler$Parser" 179 ⟨"LittleCompiler$Procedures", "beginMainBody", "(I)V"⟩ ∈ ztbl := zmem 507 (by decide +kernel)
theorem zl_6_25 : Cond.methodLink "LittleCompiler$Pending" 25 ⟨"LittleCompiler$Pending", "pop", "()V"⟩ ∈ ztbl := zmem 611 (by decide +kernel)
theorem zl_6_28 : Cond.methodLink "LittleCompiler$Pending" 28 ⟨"LittleCompiler$Pending", "push", "(III)V"⟩ ∈ ztbl := zmem 612 (by decide +kernel)
theorem zl_7_23 : Cond.methodLink "LittleCompiler$PlainForm" 23 ⟨"LittleCompiler$PlainForm", "beginOperand", "()V"⟩ ∈ ztbl := zmem 436 (by decide +kernel)
theorem zl_7_39 : Cond.methodLink "LittleCompiler$PlainForm" 39 ⟨"LittleCompiler$PlainForm", "isBesideEmptyStatement", "([III)Z"⟩ ∈ ztbl := zmem 707 (by decide +kernel)
theorem zl_7_43 : Cond.methodLink "LittleCompiler$PlainForm" 43 ⟨"LittleCompiler$Token", "opensStatements", "(I)Z"⟩ ∈ ztbl := zmem 711 (by decide +kernel)
theorem zl_7_47 : Cond.methodLink "LittleCompiler$PlainForm" 47 ⟨"LittleCompiler$Token", "endsStatements", "(I)Z"⟩ ∈ ztbl := zmem 714 (by decide +kernel)
theorem zl_8_44 : Cond.methodLink "LittleCompiler$Procedures" 44 ⟨"LittleCompiler$Procedures", "noteFault", "(I)V"⟩ ∈ ztbl := zmem 524 (by decide +kernel)
theorem zl_8_48 : Cond.methodLink "LittleCompiler$Procedures" 48 ⟨"LittleCompiler$Procedures", "addOwnName", "(II)V"⟩ ∈ ztbl := zmem 539 (by decide +kernel)
theorem zl_8_52 : Cond.methodLink "LittleCompiler$Procedures" 52 ⟨"LittleCompiler$Procedures", "isOwn", "(I)Z"⟩ ∈ ztbl := zmem 543 (by decide +kernel)
theorem zl_8_56 : Cond.methodLink "LittleCompiler$Procedures" 56 ⟨"LittleCompiler$Procedures", "fits", "(II)Z"⟩ ∈ ztbl := zmem 699 (by decide +kernel)
theorem zl_8_60 : Cond.methodLink "LittleCompiler$Procedures" 60 Lib.Math.min.name ∈ ztbl ∧ Cond.static Lib.Math.min.name ∈ ztbl ∧ Cond.initialized "java/lang/Math" ∈ ztbl ∧ Cond.code Lib.Math.min.name Lib.Math.min.code 2 (some .int) ∈ ztbl := ⟨zmem 806 (by decide +kernel), zmem 807 (by decide +kernel), zmem 100 (by decide +kernel), zmem 808 (by decide +kernel)⟩
theorem zl_9_21 : Cond.methodLink "LittleCompiler$Statements" 21 ⟨"LittleCompiler$Token", "isName", "(I)Z"⟩ ∈ ztbl := zmem 572 (by decide +kernel)
theorem zl_9_27 : Cond.methodLink "LittleCompiler$Statements" 27 ⟨"LittleCompiler$Procedures", "isOwn", "(I)Z"⟩ ∈ ztbl := zmem 573 (by decide +kernel)
theorem zl_9_34 : Cond.methodLink "LittleCompiler$Statements" 34 ⟨"LittleCompiler$Statements", "awaitLast", "(II)I"⟩ ∈ ztbl := zmem 574 (by decide +kernel)
theorem zl_9_40 : Cond.methodLink "LittleCompiler$Statements" 40 ⟨"LittleCompiler$Token", "isProcedure", "(I)Z"⟩ ∈ ztbl := zmem 579 (by decide +kernel)
theorem zl_9_43 : Cond.methodLink "LittleCompiler$Statements" 43 ⟨"LittleCompiler$Procedures", "beginCall", "(II)V"⟩ ∈ ztbl := zmem 580 (by decide +kernel)
theorem zl_9_49 : Cond.methodLink "LittleCompiler$Statements" 49 ⟨"LittleCompiler$Pending", "push", "(III)V"⟩ ∈ ztbl := zmem 578 (by decide +kernel)
theorem zl_9_53 : Cond.methodLink "LittleCompiler$Statements" 53 ⟨"LittleCompiler$Code", "here", "()I"⟩ ∈ ztbl := zmem 584 (by decide +kernel)
theorem zl_9_57 : Cond.methodLink "LittleCompiler$Statements" 57 ⟨"LittleCompiler$Code", "emit", "(II)I"⟩ ∈ ztbl := zmem 585 (by decide +kernel)
theorem zl_9_60 : Cond.methodLink "LittleCompiler$Statements" 60 ⟨"LittleCompiler$Pending", "replace", "(III)V"⟩ ∈ ztbl := zmem 607 (by decide +kernel)
theorem zl_9_63 : Cond.methodLink "LittleCompiler$Statements" 63 ⟨"LittleCompiler$Pending", "first", "()I"⟩ ∈ ztbl := zmem 601 (by decide +kernel)
theorem zl_9_66 : Cond.methodLink "LittleCompiler$Statements" 66 ⟨"LittleCompiler$Pending", "kind", "()I"⟩ ∈ ztbl := zmem 590 (by decide +kernel)
theorem zl_9_69 : Cond.methodLink "LittleCompiler$Statements" 69 ⟨"LittleCompiler$Statements", "endThen", "(I)I"⟩ ∈ ztbl := zmem 591 (by decide +kernel)
theorem zl_9_73 : Cond.methodLink "LittleCompiler$Statements" 73 ⟨"LittleCompiler$Statements", "endIf", "()I"⟩ ∈ ztbl := zmem 597 (by decide +kernel)
theorem zl_9_76 : Cond.methodLink "LittleCompiler$Statements" 76 ⟨"LittleCompiler$Statements", "endWhile", "()I"⟩ ∈ ztbl := zmem 613 (by decide +kernel)
theorem zl_9_79 : Cond.methodLink "LittleCompiler$Statements" 79 ⟨"LittleCompiler$Statements", "beginUntil", "()I"⟩ ∈ ztbl := zmem 617 (by decide +kernel)
theorem zl_9_82 : Cond.methodLink "LittleCompiler$Statements" 82 ⟨"LittleCompiler$Statements", "endBody", "(I)I"⟩ ∈ ztbl := zmem 621 (by decide +kernel)
theorem zl_9_85 : Cond.methodLink "LittleCompiler$Statements" 85 ⟨"LittleCompiler$Pending", "second", "()I"⟩ ∈ ztbl := zmem 595 (by decide +kernel)
theorem zl_9_88 : Cond.methodLink "LittleCompiler$Statements" 88 ⟨"LittleCompiler$Code", "leadHere", "(I)V"⟩ ∈ ztbl := zmem 596 (by decide +kernel)
theorem zl_9_92 : Cond.methodLink "LittleCompiler$Statements" 92 ⟨"LittleCompiler$Code", "leadChainHere", "(I)V"⟩ ∈ ztbl := zmem 602 (by decide +kernel)
theorem zl_9_95 : Cond.methodLink "LittleCompiler$Statements" 95 ⟨"LittleCompiler$Pending", "pop", "()V"⟩ ∈ ztbl := zmem 606 (by decide +kernel)
theorem zl_10_9 : Cond.methodLink "LittleCompiler$Token" 9 ⟨"LittleCompiler$Token", "isProcedure", "(I)Z"⟩ ∈ ztbl := zmem 375 (by decide +kernel)
theorem zl_10_13 : Cond.methodLink "LittleCompiler$Token" 13 ⟨"LittleCompiler$Token", "isName", "(I)Z"⟩ ∈ ztbl := zmem 567 (by decide +kernel)
theorem zl_11_45 : Cond.methodLink "LittleCompiler" 45 ⟨"LittleCompiler$Token", "exists", "(I)Z"⟩ ∈ ztbl := zmem 372 (by decide +kernel)
theorem zl_11_51 : Cond.methodLink "LittleCompiler" 51 ⟨"LittleCompiler", "append", "(I)V"⟩ ∈ ztbl := zmem 378 (by decide +kernel)
theorem zl_11_55 : Cond.methodLink "LittleCompiler" 55 ⟨"LittleCompiler", "mayBeAppended", "(I)Z"⟩ ∈ ztbl := zmem 390 (by decide +kernel)
theorem zl_11_58 : Cond.methodLink "LittleCompiler" 58 ⟨"LittleCompiler", "room", "(I)I"⟩ ∈ ztbl := zmem 393 (by decide +kernel)
theorem zl_11_62 : Cond.methodLink "LittleCompiler" 62 ⟨"LittleCompiler", "forgetText", "()V"⟩ ∈ ztbl := zmem 382 (by decide +kernel)
theorem zl_11_65 : Cond.methodLink "LittleCompiler" 65 ⟨"LittleCompiler$Parser", "read", "([II)V"⟩ ∈ ztbl := zmem 412 (by decide +kernel)
theorem zl_11_72 : Cond.methodLink "LittleCompiler" 72 ⟨"LittleCompiler$Parser", "isProgram", "()Z"⟩ ∈ ztbl := zmem 721 (by decide +kernel)
theorem zl_11_83 : Cond.methodLink "LittleCompiler" 83 ⟨"LittleCompiler", "execute", "()Z"⟩ ∈ ztbl := zmem 737 (by decide +kernel)
theorem zl_11_118 : Cond.methodLink "LittleCompiler" 118 ⟨"LittleCompiler$Machine", "execute", "([I[I)V"⟩ ∈ ztbl := zmem 741 (by decide +kernel)
theorem zl_12_88 : Cond.methodLink "LittleCompilerModel" 88 ⟨"LittleCompilerModel", "isToken", "(I)Z"⟩ ∈ ztbl := zmem 1030 (by decide +kernel)
theorem zl_12_108 : Cond.methodLink "LittleCompilerModel" 108 ⟨"LittleCompilerModel", "isIn", "(III)Z"⟩ ∈ ztbl := zmem 1094 (by decide +kernel)
theorem zl_12_112 : Cond.methodLink "LittleCompilerModel" 112 ⟨"LittleCompilerModel", "task", "(I)V"⟩ ∈ ztbl := zmem 1058 (by decide +kernel)
theorem zl_12_116 : Cond.methodLink "LittleCompilerModel" 116 ⟨"LittleCompilerModel", "tasksOf", "(IIII)V"⟩ ∈ ztbl := zmem 1110 (by decide +kernel)
theorem zl_12_120 : Cond.methodLink "LittleCompilerModel" 120 ⟨"LittleCompilerModel", "node", "(IIII)I"⟩ ∈ ztbl := zmem 1078 (by decide +kernel)
theorem zl_12_124 : Cond.methodLink "LittleCompilerModel" 124 ⟨"LittleCompilerModel", "push", "(I)V"⟩ ∈ ztbl := zmem 1082 (by decide +kernel)
theorem zl_12_127 : Cond.methodLink "LittleCompilerModel" 127 ⟨"LittleCompilerModel", "beginsStatement", "(I)Z"⟩ ∈ ztbl := zmem 1134 (by decide +kernel)
theorem zl_12_146 : Cond.methodLink "LittleCompilerModel" 146 ⟨"LittleCompilerModel", "noteFault", "(Z)V"⟩ ∈ ztbl := zmem 1102 (by decide +kernel)
theorem zl_12_153 : Cond.methodLink "LittleCompilerModel" 153 ⟨"LittleCompilerModel", "pop", "()I"⟩ ∈ ztbl := zmem 1074 (by decide +kernel)
theorem zl_12_160 : Cond.methodLink "LittleCompilerModel" 160 ⟨"LittleCompilerModel", "append", "(II)V"⟩ ∈ ztbl := zmem 1090 (by decide +kernel)
theorem zl_12_164 : Cond.methodLink "LittleCompilerModel" 164 ⟨"LittleCompilerModel", "look", "()I"⟩ ∈ ztbl := zmem 1066 (by decide +kernel)
theorem zl_12_167 : Cond.methodLink "LittleCompilerModel" 167 ⟨"LittleCompilerModel", "finishStatement", "(II)V"⟩ ∈ ztbl := zmem 1070 (by decide +kernel)
theorem zl_12_170 : Cond.methodLink "LittleCompilerModel" 170 ⟨"LittleCompilerModel", "finishPart", "(II)V"⟩ ∈ ztbl := zmem 1086 (by decide +kernel)
theorem zl_12_173 : Cond.methodLink "LittleCompilerModel" 173 ⟨"LittleCompilerModel", "readNames", "(II)V"⟩ ∈ ztbl := zmem 1098 (by decide +kernel)
theorem zl_12_176 : Cond.methodLink "LittleCompilerModel" 176 ⟨"LittleCompilerModel", "readStatement", "(I)V"⟩ ∈ ztbl := zmem 1106 (by decide +kernel)
theorem zl_12_179 : Cond.methodLink "LittleCompilerModel" 179 ⟨"LittleCompilerModel", "readIf", "(I)V"⟩ ∈ ztbl := zmem 1114 (by decide +kernel)
theorem zl_12_182 : Cond.methodLink "LittleCompilerModel" 182 ⟨"LittleCompilerModel", "readFactor", "(I)V"⟩ ∈ ztbl := zmem 1118 (by decide +kernel)
theorem zl_12_185 : Cond.methodLink "LittleCompilerModel" 185 ⟨"LittleCompilerModel", "readCall", "(II)V"⟩ ∈ ztbl := zmem 1122 (by decide +kernel)
theorem zl_12_188 : Cond.methodLink "LittleCompilerModel" 188 ⟨"LittleCompilerModel", "readExpression", "(II)V"⟩ ∈ ztbl := zmem 1126 (by decide +kernel)
theorem zl_12_191 : Cond.methodLink "LittleCompilerModel" 191 ⟨"LittleCompilerModel", "readParts", "(II)V"⟩ ∈ ztbl := zmem 1130 (by decide +kernel)
theorem zl_12_194 : Cond.methodLink "LittleCompilerModel" 194 ⟨"LittleCompilerModel", "step", "()V"⟩ ∈ ztbl := zmem 1062 (by decide +kernel)
theorem zl_12_197 : Cond.methodLink "LittleCompilerModel" 197 ⟨"LittleCompilerModel", "readText", "()I"⟩ ∈ ztbl := zmem 1054 (by decide +kernel)
theorem zl_12_200 : Cond.methodLink "LittleCompilerModel" 200 ⟨"LittleCompilerModel", "argumentsOf", "(I)I"⟩ ∈ ztbl := zmem 1146 (by decide +kernel)
theorem zl_12_204 : Cond.methodLink "LittleCompilerModel" 204 ⟨"LittleCompilerModel", "findFault", "()I"⟩ ∈ ztbl := zmem 1142 (by decide +kernel)
theorem zl_12_222 : Cond.methodLink "LittleCompilerModel" 222 ⟨"LittleCompilerModel", "isLocal", "(I)Z"⟩ ∈ ztbl := zmem 1182 (by decide +kernel)
theorem zl_12_225 : Cond.methodLink "LittleCompilerModel" 225 ⟨"LittleCompilerModel", "hold", "(I)V"⟩ ∈ ztbl := zmem 1174 (by decide +kernel)
theorem zl_12_228 : Cond.methodLink "LittleCompilerModel" 228 ⟨"LittleCompilerModel", "wait", "(II)V"⟩ ∈ ztbl := zmem 1166 (by decide +kernel)
theorem zl_12_231 : Cond.methodLink "LittleCompilerModel" 231 ⟨"LittleCompilerModel", "takeTurn", "()Z"⟩ ∈ ztbl := zmem 1186 (by decide +kernel)
theorem zl_12_238 : Cond.methodLink "LittleCompilerModel" 238 ⟨"LittleCompilerModel", "release", "()I"⟩ ∈ ztbl := zmem 1194 (by decide +kernel)
theorem zl_12_241 : Cond.methodLink "LittleCompilerModel" 241 ⟨"LittleCompilerModel", "call", "(I)V"⟩ ∈ ztbl := zmem 1214 (by decide +kernel)
theorem zl_12_244 : Cond.methodLink "LittleCompilerModel" 244 ⟨"LittleCompilerModel", "operate", "(I)V"⟩ ∈ ztbl := zmem 1218 (by decide +kernel)
theorem zl_12_250 : Cond.methodLink "LittleCompilerModel" 250 ⟨"LittleCompilerModel", "setName", "(II)V"⟩ ∈ ztbl := zmem 1198 (by decide +kernel)
theorem zl_12_253 : Cond.methodLink "LittleCompilerModel" 253 ⟨"LittleCompilerModel", "print", "(I)V"⟩ ∈ ztbl := zmem 1202 (by decide +kernel)
theorem zl_12_256 : Cond.methodLink "LittleCompilerModel" 256 ⟨"LittleCompilerModel", "comeBack", "(I)V"⟩ ∈ ztbl := zmem 1206 (by decide +kernel)
theorem zl_12_259 : Cond.methodLink "LittleCompilerModel" 259 ⟨"LittleCompilerModel", "begin", "(I)V"⟩ ∈ ztbl := zmem 1178 (by decide +kernel)
theorem zl_12_262 : Cond.methodLink "LittleCompilerModel" 262 ⟨"LittleCompilerModel", "goOnStatement", "(II)V"⟩ ∈ ztbl := zmem 1190 (by decide +kernel)
theorem zl_12_265 : Cond.methodLink "LittleCompilerModel" 265 ⟨"LittleCompilerModel", "goOnExpression", "(II)V"⟩ ∈ ztbl := zmem 1210 (by decide +kernel)
theorem zl_12_268 : Cond.methodLink "LittleCompilerModel" 268 ⟨"LittleCompilerModel", "goOn", "()V"⟩ ∈ ztbl := zmem 1170 (by decide +kernel)
theorem zl_12_271 : Cond.methodLink "LittleCompilerModel" 271 ⟨"LittleCompilerModel", "work", "()Z"⟩ ∈ ztbl := zmem 1162 (by decide +kernel)
theorem zl_12_277 : Cond.methodLink "LittleCompilerModel" 277 ⟨"LittleCompilerModel", "levelOf", "(I)I"⟩ ∈ ztbl := zmem 1266 (by decide +kernel)
theorem zl_12_280 : Cond.methodLink "LittleCompilerModel" 280 ⟨"LittleCompilerModel", "expression", "(II)I"⟩ ∈ ztbl := zmem 1270 (by decide +kernel)
theorem zl_12_284 : Cond.methodLink "LittleCompilerModel" 284 ⟨"LittleCompilerModel", "emit", "(I)V"⟩ ∈ ztbl := zmem 1254 (by decide +kernel)
theorem zl_12_287 : Cond.methodLink "LittleCompilerModel" 287 ⟨"LittleCompilerModel", "writeExpression", "(II)V"⟩ ∈ ztbl := zmem 1262 (by decide +kernel)
theorem zl_12_290 : Cond.methodLink "LittleCompilerModel" 290 ⟨"LittleCompilerModel", "writeStatement", "(I)V"⟩ ∈ ztbl := zmem 1274 (by decide +kernel)
theorem zl_12_293 : Cond.methodLink "LittleCompilerModel" 293 ⟨"LittleCompilerModel", "writeRest", "(I)V"⟩ ∈ ztbl := zmem 1278 (by decide +kernel)
theorem zl_12_296 : Cond.methodLink "LittleCompilerModel" 296 ⟨"LittleCompilerModel", "write", "(I)V"⟩ ∈ ztbl := zmem 1258 (by decide +kernel)
theorem zl_12_299 : Cond.methodLink "LittleCompilerModel" 299 ⟨"LittleCompilerModel", "writePlain", "()Z"⟩ ∈ ztbl := zmem 1250 (by decide +kernel)
theorem zldc : Cond.constant "LittleCompiler$Machine" 73 1000000 ∈ ztbl := zmem 749 (by decide +kernel)
