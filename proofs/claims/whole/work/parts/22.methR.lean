def F_R_readStatement_p61 (M : zMem) (s1 s2 s3 : Int32) : Option (zMem) :=
  zbv (F_R_tasksOf M s1 s2 s3 (-1 : Int32)) fun M1 => some M1
set_option maxRecDepth 100000 in
theorem G_R_readStatement_p61 {M : zMem} {s1 s2 s3 : Int32} {y : zMem} (h : F_R_readStatement_p61 M s1 s2 s3 = some y) : zGo Y_R_readStatement 2 61 [none, none] [.inl s3, .inl s2, .inl s1, .inr 34] M none y := by
  unfold F_R_readStatement_p61 at h
  refine go_iconst K_R_readStatement rfl zk_iconst_m1 ?_
  obtain ⟨M1, h2, h⟩ := zbv_ex h
  refine go_vv (Y' := Y_R_tasksOf) (av := [.inl s1, .inl s2, .inl s3, .inl (-1 : Int32)]) (rest := []) K_R_readStatement rfl zl_12_116 zm_R_tasksOf rfl (G_R_tasksOf h2) (Nat.le_of_ble_eq_true rfl) (Nat.le_of_ble_eq_true rfl) rfl ?_
  refine go_goto K_R_readStatement rfl ?_
  cases h
  exact go_return K_R_readStatement rfl rfl
def F_R_readStatement_p52 (M : zMem) (l1 : Int32) : Option (zMem) :=
  if l1 = (169 : Int32) then (F_R_readStatement_p61 M l1 ((208 : Int32)) ((23000 : Int32))) else (F_R_readStatement_p61 M l1 ((208 : Int32)) ((24000 : Int32)))
set_option maxRecDepth 100000 in
theorem G_R_readStatement_p52 {M : zMem} {l1 : Int32} {y : zMem} (h : F_R_readStatement_p52 M l1 = some y) : zGo Y_R_readStatement 2 52 [some (.inr 34), some (.inl l1)] [] M none y := by
  unfold F_R_readStatement_p52 at h
  refine go_aload_n K_R_readStatement rfl rfl ?_
  refine go_iload_n K_R_readStatement rfl rfl ?_
  refine go_sipush K_R_readStatement rfl zk_sipush_208 ?_
  refine go_iload_n K_R_readStatement rfl rfl ?_
  refine go_sipush K_R_readStatement rfl zk_sipush_169 ?_
  refine go_icmp_ne K_R_readStatement rfl (fun c => ?_) (fun c => ?_)
  · have h := zif_f c h
    refine go_sipush K_R_readStatement rfl zk_sipush_24000 ?_
    exact go_forget (G_R_readStatement_p61 h) (zs_n (zs_n zs_e))
  · have h := zif_t c h
    refine go_sipush K_R_readStatement rfl zk_sipush_23000 ?_
    refine go_goto K_R_readStatement rfl ?_
    exact go_forget (G_R_readStatement_p61 h) (zs_n (zs_n zs_e))
def F_R_readStatement (M : zMem) (l1 : Int32) : Option (zMem) :=
  zbi (F_R_isIn M l1 (100 : Int32) (107 : Int32)) fun r3 M1 => if r3 = 0 then (if l1 = (108 : Int32) then (zbv (F_R_tasksOf M1 (120 : Int32) (208 : Int32) (21000 : Int32) (-1 : Int32)) fun M23 => zbv (F_R_tasksOf M23 (108 : Int32) (125 : Int32) (208 : Int32) (126 : Int32)) fun M25 => some M25) else (zbi (F_R_isIn M1 l1 (110 : Int32) (113 : Int32)) fun r6 M4 => if r6 = 0 then (if l1 = (169 : Int32) then (F_R_readStatement_p52 M4 l1) else (if l1 = (168 : Int32) then (F_R_readStatement_p52 M4 l1) else (if l1 = (164 : Int32) then (zbv (F_R_task M4 (25000 : Int32)) fun M15 => zbv (F_R_tasksOf M15 (208 : Int32) (165 : Int32) (205 : Int32) (163 : Int32)) fun M17 => zbv (F_R_task M17 (164 : Int32)) fun M19 => some M19) else (if l1 = (166 : Int32) then (zbv (F_R_tasksOf M4 (167 : Int32) (208 : Int32) (26000 : Int32) (-1 : Int32)) fun M11 => zbv (F_R_tasksOf M11 (166 : Int32) (205 : Int32) (-1 : Int32) (-1 : Int32)) fun M13 => some M13) else (zbv (F_R_tasksOf M4 (161 : Int32) (205 : Int32) (218 : Int32) (163 : Int32)) fun M7 => zbv (F_R_tasksOf M7 (160 : Int32) (208 : Int32) (-1 : Int32) (-1 : Int32)) fun M9 => some M9))))) else (zbv (F_R_tasksOf M4 (215 : Int32) (22000 : Int32) (-1 : Int32) (-1 : Int32)) fun M21 => some M21))) else (zbv (F_R_tasksOf M1 l1 (120 : Int32) (208 : Int32) (((20000 : Int32) + l1) - (100 : Int32))) fun M27 => some M27)
set_option maxRecDepth 100000 in
theorem G_R_readStatement {M : zMem} {l1 : Int32} {y : zMem} (h : F_R_readStatement M l1 = some y) : zGo Y_R_readStatement 2 0 (zal Y_R_readStatement [.inr 34, .inl l1]) [] M none y := by
  unfold F_R_readStatement at h
  show zGo Y_R_readStatement 2 0 [some (.inr 34), some (.inl l1)] [] M _ _
  refine go_aload_n K_R_readStatement rfl rfl ?_
  refine go_iload_n K_R_readStatement rfl rfl ?_
  refine go_bipush K_R_readStatement rfl zk_bipush_100 ?_
  refine go_bipush K_R_readStatement rfl zk_bipush_107 ?_
  obtain ⟨r3, M1, h2, h⟩ := zbi_ex h
  refine go_vi (Y' := Y_R_isIn) (av := [.inl l1, .inl (100 : Int32), .inl (107 : Int32)]) (rest := []) K_R_readStatement rfl zl_12_108 zm_R_isIn rfl (G_R_isIn h2) (Nat.le_of_ble_eq_true rfl) (Nat.le_of_ble_eq_true rfl) rfl ?_
  refine go_if_eq K_R_readStatement rfl (fun c => ?_) (fun c => ?_)
  · have h := zif_t c h
    refine go_iload_n K_R_readStatement rfl rfl ?_
    refine go_bipush K_R_readStatement rfl zk_bipush_108 ?_
    refine go_icmp_ne K_R_readStatement rfl (fun c => ?_) (fun c => ?_)
    · have h := zif_f c h
      refine go_aload_n K_R_readStatement rfl rfl ?_
      refine go_iload_n K_R_readStatement rfl rfl ?_
      refine go_bipush K_R_readStatement rfl zk_bipush_110 ?_
      refine go_bipush K_R_readStatement rfl zk_bipush_113 ?_
      obtain ⟨r6, M4, h5, h⟩ := zbi_ex h
      refine go_vi (Y' := Y_R_isIn) (av := [.inl l1, .inl (110 : Int32), .inl (113 : Int32)]) (rest := []) K_R_readStatement rfl zl_12_108 zm_R_isIn rfl (G_R_isIn h5) (Nat.le_of_ble_eq_true rfl) (Nat.le_of_ble_eq_true rfl) rfl ?_
      refine go_if_eq K_R_readStatement rfl (fun c => ?_) (fun c => ?_)
      · have h := zif_t c h
        refine go_iload_n K_R_readStatement rfl rfl ?_
        refine go_sipush K_R_readStatement rfl zk_sipush_169 ?_
        refine go_icmp_eq K_R_readStatement rfl (fun c => ?_) (fun c => ?_)
        · have h := zif_t c h
          exact go_forget (G_R_readStatement_p52 h) (zs_s (zs_s zs_e))
        · have h := zif_f c h
          refine go_iload_n K_R_readStatement rfl rfl ?_
          refine go_sipush K_R_readStatement rfl zk_sipush_168 ?_
          refine go_icmp_ne K_R_readStatement rfl (fun c => ?_) (fun c => ?_)
          · have h := zif_f c h
            refine go_iload_n K_R_readStatement rfl rfl ?_
            refine go_sipush K_R_readStatement rfl zk_sipush_164 ?_
            refine go_icmp_ne K_R_readStatement rfl (fun c => ?_) (fun c => ?_)
            · have h := zif_f c h
              refine go_iload_n K_R_readStatement rfl rfl ?_
              refine go_sipush K_R_readStatement rfl zk_sipush_166 ?_
              refine go_icmp_ne K_R_readStatement rfl (fun c => ?_) (fun c => ?_)
              · have h := zif_f c h
                refine go_aload_n K_R_readStatement rfl rfl ?_
                refine go_sipush K_R_readStatement rfl zk_sipush_161 ?_
                refine go_sipush K_R_readStatement rfl zk_sipush_205 ?_
                refine go_sipush K_R_readStatement rfl zk_sipush_218 ?_
                refine go_sipush K_R_readStatement rfl zk_sipush_163 ?_
                obtain ⟨M7, h8, h⟩ := zbv_ex h
                refine go_vv (Y' := Y_R_tasksOf) (av := [.inl (161 : Int32), .inl (205 : Int32), .inl (218 : Int32), .inl (163 : Int32)]) (rest := []) K_R_readStatement rfl zl_12_116 zm_R_tasksOf rfl (G_R_tasksOf h8) (Nat.le_of_ble_eq_true rfl) (Nat.le_of_ble_eq_true rfl) rfl ?_
                refine go_aload_n K_R_readStatement rfl rfl ?_
                refine go_sipush K_R_readStatement rfl zk_sipush_160 ?_
                refine go_sipush K_R_readStatement rfl zk_sipush_208 ?_
                refine go_iconst K_R_readStatement rfl zk_iconst_m1 ?_
                refine go_iconst K_R_readStatement rfl zk_iconst_m1 ?_
                obtain ⟨M9, h10, h⟩ := zbv_ex h
                refine go_vv (Y' := Y_R_tasksOf) (av := [.inl (160 : Int32), .inl (208 : Int32), .inl (-1 : Int32), .inl (-1 : Int32)]) (rest := []) K_R_readStatement rfl zl_12_116 zm_R_tasksOf rfl (G_R_tasksOf h10) (Nat.le_of_ble_eq_true rfl) (Nat.le_of_ble_eq_true rfl) rfl ?_
                cases h
                exact go_return K_R_readStatement rfl rfl
              · have h := zif_t c h
                refine go_aload_n K_R_readStatement rfl rfl ?_
                refine go_sipush K_R_readStatement rfl zk_sipush_167 ?_
                refine go_sipush K_R_readStatement rfl zk_sipush_208 ?_
                refine go_sipush K_R_readStatement rfl zk_sipush_26000 ?_
                refine go_iconst K_R_readStatement rfl zk_iconst_m1 ?_
                obtain ⟨M11, h12, h⟩ := zbv_ex h
                refine go_vv (Y' := Y_R_tasksOf) (av := [.inl (167 : Int32), .inl (208 : Int32), .inl (26000 : Int32), .inl (-1 : Int32)]) (rest := []) K_R_readStatement rfl zl_12_116 zm_R_tasksOf rfl (G_R_tasksOf h12) (Nat.le_of_ble_eq_true rfl) (Nat.le_of_ble_eq_true rfl) rfl ?_
                refine go_aload_n K_R_readStatement rfl rfl ?_
                refine go_sipush K_R_readStatement rfl zk_sipush_166 ?_
                refine go_sipush K_R_readStatement rfl zk_sipush_205 ?_
                refine go_iconst K_R_readStatement rfl zk_iconst_m1 ?_
                refine go_iconst K_R_readStatement rfl zk_iconst_m1 ?_
                obtain ⟨M13, h14, h⟩ := zbv_ex h
                refine go_vv (Y' := Y_R_tasksOf) (av := [.inl (166 : Int32), .inl (205 : Int32), .inl (-1 : Int32), .inl (-1 : Int32)]) (rest := []) K_R_readStatement rfl zl_12_116 zm_R_tasksOf rfl (G_R_tasksOf h14) (Nat.le_of_ble_eq_true rfl) (Nat.le_of_ble_eq_true rfl) rfl ?_
                refine go_goto K_R_readStatement rfl ?_
                cases h
                exact go_return K_R_readStatement rfl rfl
            · have h := zif_t c h
              refine go_aload_n K_R_readStatement rfl rfl ?_
              refine go_sipush K_R_readStatement rfl zk_sipush_25000 ?_
              obtain ⟨M15, h16, h⟩ := zbv_ex h
              refine go_vv (Y' := Y_R_task) (av := [.inl (25000 : Int32)]) (rest := []) K_R_readStatement rfl zl_12_112 zm_R_task rfl (G_R_task h16) (Nat.le_of_ble_eq_true rfl) (Nat.le_of_ble_eq_true rfl) rfl ?_
              refine go_aload_n K_R_readStatement rfl rfl ?_
              refine go_sipush K_R_readStatement rfl zk_sipush_208 ?_
              refine go_sipush K_R_readStatement rfl zk_sipush_165 ?_
              refine go_sipush K_R_readStatement rfl zk_sipush_205 ?_
              refine go_sipush K_R_readStatement rfl zk_sipush_163 ?_
              obtain ⟨M17, h18, h⟩ := zbv_ex h
              refine go_vv (Y' := Y_R_tasksOf) (av := [.inl (208 : Int32), .inl (165 : Int32), .inl (205 : Int32), .inl (163 : Int32)]) (rest := []) K_R_readStatement rfl zl_12_116 zm_R_tasksOf rfl (G_R_tasksOf h18) (Nat.le_of_ble_eq_true rfl) (Nat.le_of_ble_eq_true rfl) rfl ?_
              refine go_aload_n K_R_readStatement rfl rfl ?_
              refine go_sipush K_R_readStatement rfl zk_sipush_164 ?_
              obtain ⟨M19, h20, h⟩ := zbv_ex h
              refine go_vv (Y' := Y_R_task) (av := [.inl (164 : Int32)]) (rest := []) K_R_readStatement rfl zl_12_112 zm_R_task rfl (G_R_task h20) (Nat.le_of_ble_eq_true rfl) (Nat.le_of_ble_eq_true rfl) rfl ?_
              refine go_goto K_R_readStatement rfl ?_
              cases h
              exact go_return K_R_readStatement rfl rfl
          · have h := zif_t c h
            exact go_forget (G_R_readStatement_p52 h) (zs_s (zs_s zs_e))
      · have h := zif_f c h
        refine go_aload_n K_R_readStatement rfl rfl ?_
        refine go_sipush K_R_readStatement rfl zk_sipush_215 ?_
        refine go_sipush K_R_readStatement rfl zk_sipush_22000 ?_
        refine go_iconst K_R_readStatement rfl zk_iconst_m1 ?_
        refine go_iconst K_R_readStatement rfl zk_iconst_m1 ?_
        obtain ⟨M21, h22, h⟩ := zbv_ex h
        refine go_vv (Y' := Y_R_tasksOf) (av := [.inl (215 : Int32), .inl (22000 : Int32), .inl (-1 : Int32), .inl (-1 : Int32)]) (rest := []) K_R_readStatement rfl zl_12_116 zm_R_tasksOf rfl (G_R_tasksOf h22) (Nat.le_of_ble_eq_true rfl) (Nat.le_of_ble_eq_true rfl) rfl ?_
        refine go_goto K_R_readStatement rfl ?_
        cases h
        exact go_return K_R_readStatement rfl rfl
    · have h := zif_t c h
      refine go_aload_n K_R_readStatement rfl rfl ?_
      refine go_bipush K_R_readStatement rfl zk_bipush_120 ?_
      refine go_sipush K_R_readStatement rfl zk_sipush_208 ?_
      refine go_sipush K_R_readStatement rfl zk_sipush_21000 ?_
      refine go_iconst K_R_readStatement rfl zk_iconst_m1 ?_
      obtain ⟨M23, h24, h⟩ := zbv_ex h
      refine go_vv (Y' := Y_R_tasksOf) (av := [.inl (120 : Int32), .inl (208 : Int32), .inl (21000 : Int32), .inl (-1 : Int32)]) (rest := []) K_R_readStatement rfl zl_12_116 zm_R_tasksOf rfl (G_R_tasksOf h24) (Nat.le_of_ble_eq_true rfl) (Nat.le_of_ble_eq_true rfl) rfl ?_
      refine go_aload_n K_R_readStatement rfl rfl ?_
      refine go_bipush K_R_readStatement rfl zk_bipush_108 ?_
      refine go_bipush K_R_readStatement rfl zk_bipush_125 ?_
      refine go_sipush K_R_readStatement rfl zk_sipush_208 ?_
      refine go_bipush K_R_readStatement rfl zk_bipush_126 ?_
      obtain ⟨M25, h26, h⟩ := zbv_ex h
      refine go_vv (Y' := Y_R_tasksOf) (av := [.inl (108 : Int32), .inl (125 : Int32), .inl (208 : Int32), .inl (126 : Int32)]) (rest := []) K_R_readStatement rfl zl_12_116 zm_R_tasksOf rfl (G_R_tasksOf h26) (Nat.le_of_ble_eq_true rfl) (Nat.le_of_ble_eq_true rfl) rfl ?_
      refine go_goto K_R_readStatement rfl ?_
      cases h
      exact go_return K_R_readStatement rfl rfl
  · have h := zif_f c h
    refine go_aload_n K_R_readStatement rfl rfl ?_
    refine go_iload_n K_R_readStatement rfl rfl ?_
    refine go_bipush K_R_readStatement rfl zk_bipush_120 ?_
    refine go_sipush K_R_readStatement rfl zk_sipush_208 ?_
    refine go_sipush K_R_readStatement rfl zk_sipush_20000 ?_
    refine go_iload_n K_R_readStatement rfl rfl ?_
    refine go_iadd K_R_readStatement rfl ?_
    refine go_bipush K_R_readStatement rfl zk_bipush_100 ?_
    refine go_isub K_R_readStatement rfl ?_
    obtain ⟨M27, h28, h⟩ := zbv_ex h
    refine go_vv (Y' := Y_R_tasksOf) (av := [.inl l1, .inl (120 : Int32), .inl (208 : Int32), .inl (((20000 : Int32) + l1) - (100 : Int32))]) (rest := []) K_R_readStatement rfl zl_12_116 zm_R_tasksOf rfl (G_R_tasksOf h28) (Nat.le_of_ble_eq_true rfl) (Nat.le_of_ble_eq_true rfl) rfl ?_
    refine go_goto K_R_readStatement rfl ?_
    cases h
    exact go_return K_R_readStatement rfl rfl
def F_R_step_p37 (M : zMem) (s1 : Int32) : Option (zMem) :=
  zset M 34 6 s1 fun M1 => some M1
set_option maxRecDepth 100000 in
theorem G_R_step_p37 {M : zMem} {s1 : Int32} {y : zMem} (h : F_R_step_p37 M s1 = some y) : zGo Y_R_step 3 37 [none, none, none] [.inl s1, .inr 34] M none y := by
  unfold F_R_step_p37 at h
  obtain ⟨M1, e2, h⟩ := zset_ex h
  refine go_putI' e2 K_R_step rfl zf_12_96 ?_
  refine go_goto K_R_step rfl ?_
  cases h
  exact go_return K_R_step rfl rfl
def F_R_step_p25 (M : zMem) (s1 : Int32) : Option (zMem) :=
  zbit s1 (zset M 34 7 s1 fun M1 => if (M1 34 7) = 0 then (F_R_step_p37 M1 ((M1 34 6) + (1 : Int32))) else (F_R_step_p37 M1 (M1 34 6)))
set_option maxRecDepth 100000 in
theorem G_R_step_p25 {M : zMem} {s1 : Int32} {y : zMem} (h : F_R_step_p25 M s1 = some y) : zGo Y_R_step 3 25 [some (.inr 34), none, none] [.inl s1, .inr 34] M none y := by
  unfold F_R_step_p25 at h
  obtain ⟨b3, h⟩ := zbit_ex h
  obtain ⟨M1, e2, h⟩ := zset_ex h
  refine go_putZ' e2 K_R_step rfl zf_12_130 b3 ?_
  refine go_aload_n K_R_step rfl rfl ?_
  refine go_aload_n K_R_step rfl rfl ?_
  refine go_getI K_R_step rfl zf_12_130 ?_
  refine go_if_eq K_R_step rfl (fun c => ?_) (fun c => ?_)
  · have h := zif_t c h
    refine go_aload_n K_R_step rfl rfl ?_
    refine go_getI K_R_step rfl zf_12_96 ?_
    refine go_iconst K_R_step rfl zk_iconst_1 ?_
    refine go_iadd K_R_step rfl ?_
    exact go_forget (G_R_step_p37 h) (zs_n (zs_n (zs_n zs_e)))
  · have h := zif_f c h
    refine go_aload_n K_R_step rfl rfl ?_
    refine go_getI K_R_step rfl zf_12_96 ?_
    refine go_goto K_R_step rfl ?_
    exact go_forget (G_R_step_p37 h) (zs_n (zs_n (zs_n zs_e)))
def F_R_step (M : zMem) : Option (zMem) :=
  zset M 34 5 ((M 34 5) - (1 : Int32)) fun M1 => zix (M1 34 5) 1600 (zbi (F_R_look M1 ) fun r6 M4 => if (200 : Int32) ≤ (M1 38 (M1 34 5).toNatClampNeg) then (if (M1 38 (M1 34 5).toNatClampNeg) < (20000 : Int32) then (if (M1 38 (M1 34 5).toNatClampNeg) < (1000 : Int32) then (zbi (F_R_isIn M4 (M1 38 (M1 34 5).toNatClampNeg) (219 : Int32) (221 : Int32)) fun r9 M7 => if r9 = 0 then (if (M1 38 (M1 34 5).toNatClampNeg) = (207 : Int32) then (zbv (F_R_readStatement M7 r6) fun M26 => some M26) else (if (M1 38 (M1 34 5).toNatClampNeg) = (218 : Int32) then (zbv (F_R_readIf M7 r6) fun M24 => some M24) else (if (M1 38 (M1 34 5).toNatClampNeg) = (214 : Int32) then (zbv (F_R_readFactor M7 r6) fun M22 => some M22) else (zbi (F_R_isIn M7 (M1 38 (M1 34 5).toNatClampNeg) (215 : Int32) (217 : Int32)) fun r12 M10 => if r12 = 0 then (zbi (F_R_isIn M10 (M1 38 (M1 34 5).toNatClampNeg) (208 : Int32) (213 : Int32)) fun r15 M13 => if r15 = 0 then (zbv (F_R_readParts M13 (M1 38 (M1 34 5).toNatClampNeg) r6) fun M16 => some M16) else (zbv (F_R_readExpression M13 (M1 38 (M1 34 5).toNatClampNeg) r6) fun M18 => some M18)) else (zbv (F_R_readCall M10 (M1 38 (M1 34 5).toNatClampNeg) r6) fun M20 => some M20))))) else (zbv (F_R_readNames M7 (M1 38 (M1 34 5).toNatClampNeg) r6) fun M28 => some M28)) else (zbv (F_R_finishPart M4 ((M1 38 (M1 34 5).toNatClampNeg) / (1000 : Int32)) ((M1 38 (M1 34 5).toNatClampNeg) - (M1 38 (M1 34 5).toNatClampNeg) / (1000 : Int32) * (1000 : Int32))) fun M30 => some M30)) else (zbv (F_R_finishStatement M4 ((M1 38 (M1 34 5).toNatClampNeg) / (1000 : Int32)) ((M1 38 (M1 34 5).toNatClampNeg) - (M1 38 (M1 34 5).toNatClampNeg) / (1000 : Int32) * (1000 : Int32))) fun M32 => some M32)) else (if r6 = (M1 38 (M1 34 5).toNatClampNeg) then (F_R_step_p25 M4 ((0 : Int32))) else (F_R_step_p25 M4 ((1 : Int32)))))
set_option maxRecDepth 100000 in
theorem G_R_step {M : zMem} {y : zMem} (h : F_R_step M  = some y) : zGo Y_R_step 3 0 (zal Y_R_step [.inr 34]) [] M none y := by
  unfold F_R_step at h
  show zGo Y_R_step 3 0 [some (.inr 34), none, none] [] M _ _
  refine go_aload_n K_R_step rfl rfl ?_
  refine go_dup K_R_step rfl ?_
  refine go_getI K_R_step rfl zf_12_99 ?_
  refine go_iconst K_R_step rfl zk_iconst_1 ?_
  refine go_isub K_R_step rfl ?_
  obtain ⟨M1, e2, h⟩ := zset_ex h
  refine go_putI' e2 K_R_step rfl zf_12_99 ?_
  refine go_aload_n K_R_step rfl rfl ?_
  refine go_getR K_R_step rfl zf_12_19 ?_
  refine go_aload_n K_R_step rfl rfl ?_
  refine go_getI K_R_step rfl zf_12_99 ?_
  obtain ⟨i3, h⟩ := zix_ex h
  refine go_iald K_R_step rfl za_38 i3 ?_
  refine go_istore_n K_R_step rfl (Nat.le_of_ble_eq_true rfl) ?_
  refine go_aload_n K_R_step rfl rfl ?_
  obtain ⟨r6, M4, h5, h⟩ := zbi_ex h
  refine go_vi (Y' := Y_R_look) (av := []) (rest := []) K_R_step rfl zl_12_164 zm_R_look rfl (G_R_look h5) (Nat.le_of_ble_eq_true rfl) (Nat.le_of_ble_eq_true rfl) rfl ?_
  refine go_istore_n K_R_step rfl (Nat.le_of_ble_eq_true rfl) ?_
  refine go_iload_n K_R_step rfl rfl ?_
  refine go_sipush K_R_step rfl zk_sipush_200 ?_
  refine go_icmp_ge K_R_step rfl (fun c => ?_) (fun c => ?_)
  · have h := zif_t c h
    refine go_iload_n K_R_step rfl rfl ?_
    refine go_sipush K_R_step rfl zk_sipush_20000 ?_
    refine go_icmp_lt K_R_step rfl (fun c => ?_) (fun c => ?_)
    · have h := zif_t c h
      refine go_iload_n K_R_step rfl rfl ?_
      refine go_sipush K_R_step rfl zk_sipush_1000 ?_
      refine go_icmp_lt K_R_step rfl (fun c => ?_) (fun c => ?_)
      · have h := zif_t c h
        refine go_aload_n K_R_step rfl rfl ?_
        refine go_iload_n K_R_step rfl rfl ?_
        refine go_sipush K_R_step rfl zk_sipush_219 ?_
        refine go_sipush K_R_step rfl zk_sipush_221 ?_
        obtain ⟨r9, M7, h8, h⟩ := zbi_ex h
        refine go_vi (Y' := Y_R_isIn) (av := [.inl (M1 38 (M1 34 5).toNatClampNeg), .inl (219 : Int32), .inl (221 : Int32)]) (rest := []) K_R_step rfl zl_12_108 zm_R_isIn rfl (G_R_isIn h8) (Nat.le_of_ble_eq_true rfl) (Nat.le_of_ble_eq_true rfl) rfl ?_
        refine go_if_eq K_R_step rfl (fun c => ?_) (fun c => ?_)
        · have h := zif_t c h
          refine go_iload_n K_R_step rfl rfl ?_
          refine go_sipush K_R_step rfl zk_sipush_207 ?_
          refine go_icmp_ne K_R_step rfl (fun c => ?_) (fun c => ?_)
          · have h := zif_f c h
            refine go_iload_n K_R_step rfl rfl ?_
            refine go_sipush K_R_step rfl zk_sipush_218 ?_
            refine go_icmp_ne K_R_step rfl (fun c => ?_) (fun c => ?_)
            · have h := zif_f c h
              refine go_iload_n K_R_step rfl rfl ?_
              refine go_sipush K_R_step rfl zk_sipush_214 ?_
              refine go_icmp_ne K_R_step rfl (fun c => ?_) (fun c => ?_)
              · have h := zif_f c h
                refine go_aload_n K_R_step rfl rfl ?_
                refine go_iload_n K_R_step rfl rfl ?_
                refine go_sipush K_R_step rfl zk_sipush_215 ?_
                refine go_sipush K_R_step rfl zk_sipush_217 ?_
                obtain ⟨r12, M10, h11, h⟩ := zbi_ex h
                refine go_vi (Y' := Y_R_isIn) (av := [.inl (M1 38 (M1 34 5).toNatClampNeg), .inl (215 : Int32), .inl (217 : Int32)]) (rest := []) K_R_step rfl zl_12_108 zm_R_isIn rfl (G_R_isIn h11) (Nat.le_of_ble_eq_true rfl) (Nat.le_of_ble_eq_true rfl) rfl ?_
                refine go_if_eq K_R_step rfl (fun c => ?_) (fun c => ?_)
                · have h := zif_t c h
                  refine go_aload_n K_R_step rfl rfl ?_
                  refine go_iload_n K_R_step rfl rfl ?_
                  refine go_sipush K_R_step rfl zk_sipush_208 ?_
                  refine go_sipush K_R_step rfl zk_sipush_213 ?_
                  obtain ⟨r15, M13, h14, h⟩ := zbi_ex h
                  refine go_vi (Y' := Y_R_isIn) (av := [.inl (M1 38 (M1 34 5).toNatClampNeg), .inl (208 : Int32), .inl (213 : Int32)]) (rest := []) K_R_step rfl zl_12_108 zm_R_isIn rfl (G_R_isIn h14) (Nat.le_of_ble_eq_true rfl) (Nat.le_of_ble_eq_true rfl) rfl ?_
                  refine go_if_eq K_R_step rfl (fun c => ?_) (fun c => ?_)
                  · have h := zif_t c h
                    refine go_aload_n K_R_step rfl rfl ?_
                    refine go_iload_n K_R_step rfl rfl ?_
                    refine go_iload_n K_R_step rfl rfl ?_
                    obtain ⟨M16, h17, h⟩ := zbv_ex h
                    refine go_vv (Y' := Y_R_readParts) (av := [.inl (M1 38 (M1 34 5).toNatClampNeg), .inl r6]) (rest := []) K_R_step rfl zl_12_191 zm_R_readParts rfl (G_R_readParts h17) (Nat.le_of_ble_eq_true rfl) (Nat.le_of_ble_eq_true rfl) rfl ?_
                    cases h
                    exact go_return K_R_step rfl rfl
                  · have h := zif_f c h
                    refine go_aload_n K_R_step rfl rfl ?_
                    refine go_iload_n K_R_step rfl rfl ?_
                    refine go_iload_n K_R_step rfl rfl ?_
                    obtain ⟨M18, h19, h⟩ := zbv_ex h
                    refine go_vv (Y' := Y_R_readExpression) (av := [.inl (M1 38 (M1 34 5).toNatClampNeg), .inl r6]) (rest := []) K_R_step rfl zl_12_188 zm_R_readExpression rfl (G_R_readExpression h19) (Nat.le_of_ble_eq_true rfl) (Nat.le_of_ble_eq_true rfl) rfl ?_
                    refine go_goto K_R_step rfl ?_
                    cases h
                    exact go_return K_R_step rfl rfl
                · have h := zif_f c h
                  refine go_aload_n K_R_step rfl rfl ?_
                  refine go_iload_n K_R_step rfl rfl ?_
                  refine go_iload_n K_R_step rfl rfl ?_
                  obtain ⟨M20, h21, h⟩ := zbv_ex h
                  refine go_vv (Y' := Y_R_readCall) (av := [.inl (M1 38 (M1 34 5).toNatClampNeg), .inl r6]) (rest := []) K_R_step rfl zl_12_185 zm_R_readCall rfl (G_R_readCall h21) (Nat.le_of_ble_eq_true rfl) (Nat.le_of_ble_eq_true rfl) rfl ?_
                  refine go_goto K_R_step rfl ?_
                  cases h
                  exact go_return K_R_step rfl rfl
              · have h := zif_t c h
                refine go_aload_n K_R_step rfl rfl ?_
                refine go_iload_n K_R_step rfl rfl ?_
                obtain ⟨M22, h23, h⟩ := zbv_ex h
                refine go_vv (Y' := Y_R_readFactor) (av := [.inl r6]) (rest := []) K_R_step rfl zl_12_182 zm_R_readFactor rfl (G_R_readFactor h23) (Nat.le_of_ble_eq_true rfl) (Nat.le_of_ble_eq_true rfl) rfl ?_
                refine go_goto K_R_step rfl ?_
                cases h
                exact go_return K_R_step rfl rfl
            · have h := zif_t c h
              refine go_aload_n K_R_step rfl rfl ?_
              refine go_iload_n K_R_step rfl rfl ?_
              obtain ⟨M24, h25, h⟩ := zbv_ex h
              refine go_vv (Y' := Y_R_readIf) (av := [.inl r6]) (rest := []) K_R_step rfl zl_12_179 zm_R_readIf rfl (G_R_readIf h25) (Nat.le_of_ble_eq_true rfl) (Nat.le_of_ble_eq_true rfl) rfl ?_
              refine go_goto K_R_step rfl ?_
              cases h
              exact go_return K_R_step rfl rfl
          · have h := zif_t c h
            refine go_aload_n K_R_step rfl rfl ?_
            refine go_iload_n K_R_step rfl rfl ?_
            obtain ⟨M26, h27, h⟩ := zbv_ex h
            refine go_vv (Y' := Y_R_readStatement) (av := [.inl r6]) (rest := []) K_R_step rfl zl_12_176 zm_R_readStatement rfl (G_R_readStatement h27) (Nat.le_of_ble_eq_true rfl) (Nat.le_of_ble_eq_true rfl) rfl ?_
            refine go_goto K_R_step rfl ?_
            cases h
            exact go_return K_R_step rfl rfl
        · have h := zif_f c h
          refine go_aload_n K_R_step rfl rfl ?_
          refine go_iload_n K_R_step rfl rfl ?_
          refine go_iload_n K_R_step rfl rfl ?_
          obtain ⟨M28, h29, h⟩ := zbv_ex h
          refine go_vv (Y' := Y_R_readNames) (av := [.inl (M1 38 (M1 34 5).toNatClampNeg), .inl r6]) (rest := []) K_R_step rfl zl_12_173 zm_R_readNames rfl (G_R_readNames h29) (Nat.le_of_ble_eq_true rfl) (Nat.le_of_ble_eq_true rfl) rfl ?_
          refine go_goto K_R_step rfl ?_
          cases h
          exact go_return K_R_step rfl rfl
      · have h := zif_f c h
        refine go_aload_n K_R_step rfl rfl ?_
        refine go_iload_n K_R_step rfl rfl ?_
        refine go_sipush K_R_step rfl zk_sipush_1000 ?_
        refine go_idiv K_R_step rfl (by decide) ?_
        refine go_iload_n K_R_step rfl rfl ?_
        refine go_sipush K_R_step rfl zk_sipush_1000 ?_
        refine go_irem K_R_step rfl (by decide) ?_
        obtain ⟨M30, h31, h⟩ := zbv_ex h
        refine go_vv (Y' := Y_R_finishPart) (av := [.inl ((M1 38 (M1 34 5).toNatClampNeg) / (1000 : Int32)), .inl ((M1 38 (M1 34 5).toNatClampNeg) - (M1 38 (M1 34 5).toNatClampNeg) / (1000 : Int32) * (1000 : Int32))]) (rest := []) K_R_step rfl zl_12_170 zm_R_finishPart rfl (G_R_finishPart h31) (Nat.le_of_ble_eq_true rfl) (Nat.le_of_ble_eq_true rfl) rfl ?_
        refine go_goto K_R_step rfl ?_
        cases h
        exact go_return K_R_step rfl rfl
    · have h := zif_f c h
      refine go_aload_n K_R_step rfl rfl ?_
      refine go_iload_n K_R_step rfl rfl ?_
      refine go_sipush K_R_step rfl zk_sipush_1000 ?_
      refine go_idiv K_R_step rfl (by decide) ?_
      refine go_iload_n K_R_step rfl rfl ?_
      refine go_sipush K_R_step rfl zk_sipush_1000 ?_
      refine go_irem K_R_step rfl (by decide) ?_
      obtain ⟨M32, h33, h⟩ := zbv_ex h
      refine go_vv (Y' := Y_R_finishStatement) (av := [.inl ((M1 38 (M1 34 5).toNatClampNeg) / (1000 : Int32)), .inl ((M1 38 (M1 34 5).toNatClampNeg) - (M1 38 (M1 34 5).toNatClampNeg) / (1000 : Int32) * (1000 : Int32))]) (rest := []) K_R_step rfl zl_12_167 zm_R_finishStatement rfl (G_R_finishStatement h33) (Nat.le_of_ble_eq_true rfl) (Nat.le_of_ble_eq_true rfl) rfl ?_
      refine go_goto K_R_step rfl ?_
      cases h
      exact go_return K_R_step rfl rfl
  · have h := zif_f c h
    refine go_aload_n K_R_step rfl rfl ?_
    refine go_iload_n K_R_step rfl rfl ?_
    refine go_iload_n K_R_step rfl rfl ?_
    refine go_icmp_eq K_R_step rfl (fun c => ?_) (fun c => ?_)
    · have h := zif_t c h
      refine go_iconst K_R_step rfl zk_iconst_0 ?_
      exact go_forget (G_R_step_p25 h) (zs_s (zs_n (zs_n zs_e)))
    · have h := zif_f c h
      refine go_iconst K_R_step rfl zk_iconst_1 ?_
      refine go_goto K_R_step rfl ?_
      exact go_forget (G_R_step_p25 h) (zs_s (zs_n (zs_n zs_e)))
def F_R_readText_p58 (N : Nat) (M : zMem) : Option (Int32 × zMem) :=
  some (M 34 6, M)
set_option maxRecDepth 100000 in
theorem G_R_readText_p58 {N : Nat} {M : zMem} {y : Int32 × zMem} (h : F_R_readText_p58 N M  = some y) : zGo Y_R_readText 4 58 [some (.inr 34), none] [] M (some y.1) y.2 := by
  unfold F_R_readText_p58 at h
  refine go_aload_n K_R_readText rfl rfl ?_
  refine go_getI K_R_readText rfl zf_12_96 ?_
  refine go_goto K_R_readText rfl ?_
  cases h
  exact go_ireturn K_R_readText rfl rfl
def F_R_readText_p50 (N : Nat) (M : zMem) : Option (Int32 × zMem) :=
  if (M 34 7) = 0 then (if (M 34 1) ≤ (M 34 6) then (some ((-4 : Int32), M)) else (F_R_readText_p58 N M )) else (F_R_readText_p58 N M )
set_option maxRecDepth 100000 in
theorem G_R_readText_p50 {N : Nat} {M : zMem} {y : Int32 × zMem} (h : F_R_readText_p50 N M  = some y) : zGo Y_R_readText 4 50 [some (.inr 34), none] [] M (some y.1) y.2 := by
  unfold F_R_readText_p50 at h
  refine go_aload_n K_R_readText rfl rfl ?_
  refine go_getI K_R_readText rfl zf_12_130 ?_
  refine go_if_ne K_R_readText rfl (fun c => ?_) (fun c => ?_)
  · have h := zif_f c h
    exact go_forget (G_R_readText_p58 h) (zs_s (zs_n zs_e))
  · have h := zif_t c h
    refine go_aload_n K_R_readText rfl rfl ?_
    refine go_getI K_R_readText rfl zf_12_96 ?_
    refine go_aload_n K_R_readText rfl rfl ?_
    refine go_getI K_R_readText rfl zf_12_92 ?_
    refine go_icmp_ge K_R_readText rfl (fun c => ?_) (fun c => ?_)
    · have h := zif_t c h
      refine go_bipush K_R_readText rfl zk_bipush_m4 ?_
      cases h
      exact go_ireturn K_R_readText rfl rfl
    · have h := zif_f c h
      exact go_forget (G_R_readText_p58 h) (zs_s (zs_n zs_e))
def F_R_readText_p41 (N : Nat) : Nat → zMem → Option (Int32 × zMem)
  | 0, _ => none
  | n + 1, M =>
    if (M 34 5) ≤ 0 then (F_R_readText_p50 N M ) else (if (M 34 7) = 0 then (zbv (F_R_step M ) fun M1 => F_R_readText_p41 N n M1 ) else (F_R_readText_p50 N M ))
set_option maxRecDepth 100000 in
theorem G_R_readText_p41 {N : Nat} : ∀ (n : Nat) {M : zMem} {y : Int32 × zMem}, F_R_readText_p41 N n M  = some y → zGo Y_R_readText 4 41 [some (.inr 34), none] [] M (some y.1) y.2 := by
  intro n
  induction n with
  | zero =>
    intro M  y h
    unfold F_R_readText_p41 at h
    cases h
  | succ n ih =>
    intro M  y h
    unfold F_R_readText_p41 at h
    refine go_aload_n K_R_readText rfl rfl ?_
    refine go_getI K_R_readText rfl zf_12_99 ?_
    refine go_if_le K_R_readText rfl (fun c => ?_) (fun c => ?_)
    · have h := zif_t c h
      exact go_forget (G_R_readText_p50 h) (zs_s (zs_n zs_e))
    · have h := zif_f c h
      refine go_aload_n K_R_readText rfl rfl ?_
      refine go_getI K_R_readText rfl zf_12_130 ?_
      refine go_if_ne K_R_readText rfl (fun c => ?_) (fun c => ?_)
      · have h := zif_f c h
        exact go_forget (G_R_readText_p50 h) (zs_s (zs_n zs_e))
      · have h := zif_t c h
        refine go_aload_n K_R_readText rfl rfl ?_
        obtain ⟨M1, h2, h⟩ := zbv_ex h
        refine go_vv (Y' := Y_R_step) (av := []) (rest := []) K_R_readText rfl zl_12_194 zm_R_step rfl (G_R_step h2) (Nat.le_of_ble_eq_true rfl) (Nat.le_of_ble_eq_true rfl) rfl ?_
        refine go_goto K_R_readText rfl ?_
        exact go_forget (ih h) (zs_s (zs_n zs_e))
def F_R_readText_p20 (N : Nat) : Nat → zMem → Int32 → Option (Int32 × zMem)
  | 0, _, _ => none
  | n + 1, M, l1 =>
    if (4 : Int32) ≤ l1 then (zset M 34 5 ((0 : Int32)) fun M1 => zbv (F_R_task M1 (200 : Int32)) fun M3 => F_R_readText_p41 N N M3 ) else (zix l1 4 (zset M 46 l1.toNatClampNeg ((-2 : Int32)) fun M6 => zix l1 4 (zset M6 47 l1.toNatClampNeg ((0 : Int32)) fun M9 => F_R_readText_p20 N n M9 (l1 + (1 : Int32)))))
set_option maxRecDepth 100000 in
theorem G_R_readText_p20 {N : Nat} : ∀ (n : Nat) {M : zMem} {l1 : Int32} {y : Int32 × zMem}, F_R_readText_p20 N n M l1 = some y → zGo Y_R_readText 4 20 [some (.inr 34), some (.inl l1)] [] M (some y.1) y.2 := by
  intro n
  induction n with
  | zero =>
    intro M l1 y h
    unfold F_R_readText_p20 at h
    cases h
  | succ n ih =>
    intro M l1 y h
    unfold F_R_readText_p20 at h
    refine go_iload_n K_R_readText rfl rfl ?_
    refine go_iconst K_R_readText rfl zk_iconst_4 ?_
    refine go_icmp_ge K_R_readText rfl (fun c => ?_) (fun c => ?_)
    · have h := zif_t c h
      refine go_aload_n K_R_readText rfl rfl ?_
      refine go_iconst K_R_readText rfl zk_iconst_0 ?_
      obtain ⟨M1, e2, h⟩ := zset_ex h
      refine go_putI' e2 K_R_readText rfl zf_12_99 ?_
      refine go_aload_n K_R_readText rfl rfl ?_
      refine go_sipush K_R_readText rfl zk_sipush_200 ?_
      obtain ⟨M3, h4, h⟩ := zbv_ex h
      refine go_vv (Y' := Y_R_task) (av := [.inl (200 : Int32)]) (rest := []) K_R_readText rfl zl_12_112 zm_R_task rfl (G_R_task h4) (Nat.le_of_ble_eq_true rfl) (Nat.le_of_ble_eq_true rfl) rfl ?_
      exact go_forget (G_R_readText_p41 _ h) (zs_s (zs_n zs_e))
    · have h := zif_f c h
      refine go_aload_n K_R_readText rfl rfl ?_
      refine go_getR K_R_readText rfl zf_12_43 ?_
      refine go_iload_n K_R_readText rfl rfl ?_
      refine go_bipush K_R_readText rfl zk_bipush_m2 ?_
      obtain ⟨i5, h⟩ := zix_ex h
      obtain ⟨M6, e7, h⟩ := zset_ex h
      refine go_iast' e7 K_R_readText rfl za_46 i5 ?_
      refine go_aload_n K_R_readText rfl rfl ?_
      refine go_getR K_R_readText rfl zf_12_46 ?_
      refine go_iload_n K_R_readText rfl rfl ?_
      refine go_iconst K_R_readText rfl zk_iconst_0 ?_
      obtain ⟨i8, h⟩ := zix_ex h
      obtain ⟨M9, e10, h⟩ := zset_ex h
      refine go_iast' e10 K_R_readText rfl za_47 i8 ?_
      refine go_iinc (v := l1 + (1 : Int32)) K_R_readText rfl rfl zinc_1 ?_
      refine go_goto K_R_readText rfl ?_
      exact go_forget (ih h) (zs_s (zs_s zs_e))
def F_R_readText (N : Nat) (M : zMem) : Option (Int32 × zMem) :=
  zset M 34 6 ((0 : Int32)) fun M1 => zset M1 34 7 ((0 : Int32)) fun M3 => zset M3 34 14 ((0 : Int32)) fun M5 => zset M5 34 16 ((0 : Int32)) fun M7 => zset M7 34 28 ((-4 : Int32)) fun M9 => zset M9 34 27 ((0 : Int32)) fun M11 => F_R_readText_p20 N N M11 ((0 : Int32))
set_option maxRecDepth 100000 in
theorem G_R_readText {N : Nat} {M : zMem} {y : Int32 × zMem} (h : F_R_readText N M  = some y) : zGo Y_R_readText 4 0 (zal Y_R_readText [.inr 34]) [] M (some y.1) y.2 := by
  unfold F_R_readText at h
  show zGo Y_R_readText 4 0 [some (.inr 34), none] [] M _ _
  refine go_aload_n K_R_readText rfl rfl ?_
  refine go_iconst K_R_readText rfl zk_iconst_0 ?_
  obtain ⟨M1, e2, h⟩ := zset_ex h
  refine go_putI' e2 K_R_readText rfl zf_12_96 ?_
  refine go_aload_n K_R_readText rfl rfl ?_
  refine go_iconst K_R_readText rfl zk_iconst_0 ?_
  obtain ⟨M3, e4, h⟩ := zset_ex h
  refine go_putZ' e4 K_R_readText rfl zf_12_130 (Or.inl rfl) ?_
  refine go_aload_n K_R_readText rfl rfl ?_
  refine go_iconst K_R_readText rfl zk_iconst_0 ?_
  obtain ⟨M5, e6, h⟩ := zset_ex h
  refine go_putI' e6 K_R_readText rfl zf_12_102 ?_
  refine go_aload_n K_R_readText rfl rfl ?_
  refine go_iconst K_R_readText rfl zk_iconst_0 ?_
  obtain ⟨M7, e8, h⟩ := zset_ex h
  refine go_putI' e8 K_R_readText rfl zf_12_105 ?_
  refine go_aload_n K_R_readText rfl rfl ?_
  refine go_bipush K_R_readText rfl zk_bipush_m4 ?_
  obtain ⟨M9, e10, h⟩ := zset_ex h
  refine go_putI' e10 K_R_readText rfl zf_12_150 ?_
  refine go_aload_n K_R_readText rfl rfl ?_
  refine go_iconst K_R_readText rfl zk_iconst_0 ?_
  obtain ⟨M11, e12, h⟩ := zset_ex h
  refine go_putI' e12 K_R_readText rfl zf_12_143 ?_
  refine go_iconst K_R_readText rfl zk_iconst_0 ?_
  refine go_istore_n K_R_readText rfl (Nat.le_of_ble_eq_true rfl) ?_
  exact go_forget (G_R_readText_p20 _ h) (zs_s (zs_s zs_e))
def F_R_findFault_p61 (N : Nat) (rec8 : zMem → Int32 → Option (Int32 × zMem)) (M : zMem) (l1 s1 : Int32) : Option (Int32 × zMem) :=
  zset M 34 28 s1 fun M1 => rec8 M1 (l1 + (1 : Int32))
set_option maxRecDepth 100000 in
theorem G_R_findFault_p61 {N : Nat} {rec8 : zMem → Int32 → Option (Int32 × zMem)} (hrec8 : ∀ {M : zMem} {l1 : Int32} {y : Int32 × zMem}, rec8 M l1 = some y → zGo Y_R_findFault 5 8 [some (.inr 34), some (.inl l1), none, none] [] M (some y.1) y.2) {M : zMem} {l1 s1 : Int32} {y : Int32 × zMem} (h : F_R_findFault_p61 N rec8 M l1 s1 = some y) : zGo Y_R_findFault 5 61 [some (.inr 34), some (.inl l1), none, none] [.inl s1, .inr 34] M (some y.1) y.2 := by
  unfold F_R_findFault_p61 at h
  obtain ⟨M1, e2, h⟩ := zset_ex h
  refine go_putI' e2 K_R_findFault rfl zf_12_150 ?_
  refine go_iinc (v := l1 + (1 : Int32)) K_R_findFault rfl rfl zinc_1 ?_
  refine go_goto K_R_findFault rfl ?_
  exact go_forget (hrec8 h) (zs_s (zs_s (zs_n (zs_n zs_e))))
def F_R_findFault_p59 (N : Nat) (rec8 : zMem → Int32 → Option (Int32 × zMem)) (M : zMem) (l1 : Int32) : Option (Int32 × zMem) :=
  F_R_findFault_p61 N rec8 M l1 (M 34 28)
set_option maxRecDepth 100000 in
theorem G_R_findFault_p59 {N : Nat} {rec8 : zMem → Int32 → Option (Int32 × zMem)} (hrec8 : ∀ {M : zMem} {l1 : Int32} {y : Int32 × zMem}, rec8 M l1 = some y → zGo Y_R_findFault 5 8 [some (.inr 34), some (.inl l1), none, none] [] M (some y.1) y.2) {M : zMem} {l1 : Int32} {y : Int32 × zMem} (h : F_R_findFault_p59 N rec8 M l1 = some y) : zGo Y_R_findFault 5 59 [some (.inr 34), some (.inl l1), none, none] [.inr 34] M (some y.1) y.2 := by
  unfold F_R_findFault_p59 at h
  refine go_aload_n K_R_findFault rfl rfl ?_
  refine go_getI K_R_findFault rfl zf_12_150 ?_
  exact go_forget (G_R_findFault_p61 hrec8 h) (zs_s (zs_s (zs_n (zs_n zs_e))))
def F_R_findFault_p54 (N : Nat) (rec8 : zMem → Int32 → Option (Int32 × zMem)) (M : zMem) (l1 : Int32) : Option (Int32 × zMem) :=
  zix l1 400 (F_R_findFault_p61 N rec8 M l1 (M 43 l1.toNatClampNeg))
set_option maxRecDepth 100000 in
theorem G_R_findFault_p54 {N : Nat} {rec8 : zMem → Int32 → Option (Int32 × zMem)} (hrec8 : ∀ {M : zMem} {l1 : Int32} {y : Int32 × zMem}, rec8 M l1 = some y → zGo Y_R_findFault 5 8 [some (.inr 34), some (.inl l1), none, none] [] M (some y.1) y.2) {M : zMem} {l1 : Int32} {y : Int32 × zMem} (h : F_R_findFault_p54 N rec8 M l1 = some y) : zGo Y_R_findFault 5 54 [some (.inr 34), some (.inl l1), none, none] [.inr 34] M (some y.1) y.2 := by
  unfold F_R_findFault_p54 at h
  refine go_aload_n K_R_findFault rfl rfl ?_
  refine go_getR K_R_findFault rfl zf_12_34 ?_
  refine go_iload_n K_R_findFault rfl rfl ?_
  obtain ⟨i1, h⟩ := zix_ex h
  refine go_iald K_R_findFault rfl za_43 i1 ?_
  refine go_goto K_R_findFault rfl ?_
  exact go_forget (G_R_findFault_p61 hrec8 h) (zs_s (zs_s (zs_n (zs_n zs_e))))
def F_R_findFault_p40 (N : Nat) (rec8 : zMem → Int32 → Option (Int32 × zMem)) (M : zMem) (l1 s0 : Int32) : Option (Int32 × zMem) :=
  if s0 = 0 then (F_R_findFault_p59 N rec8 M l1) else (if (M 34 28) < 0 then (F_R_findFault_p54 N rec8 M l1) else (zix l1 400 (if (M 34 28) ≤ (M 43 l1.toNatClampNeg) then (F_R_findFault_p59 N rec8 M l1) else (F_R_findFault_p54 N rec8 M l1))))
set_option maxRecDepth 100000 in
theorem G_R_findFault_p40 {N : Nat} {rec8 : zMem → Int32 → Option (Int32 × zMem)} (hrec8 : ∀ {M : zMem} {l1 : Int32} {y : Int32 × zMem}, rec8 M l1 = some y → zGo Y_R_findFault 5 8 [some (.inr 34), some (.inl l1), none, none] [] M (some y.1) y.2) {M : zMem} {l1 s0 : Int32} {y : Int32 × zMem} (h : F_R_findFault_p40 N rec8 M l1 s0 = some y) : zGo Y_R_findFault 5 40 [some (.inr 34), some (.inl l1), none, none] [.inl s0] M (some y.1) y.2 := by
  unfold F_R_findFault_p40 at h
  refine go_istore_n K_R_findFault rfl (Nat.le_of_ble_eq_true rfl) ?_
  refine go_aload_n K_R_findFault rfl rfl ?_
  refine go_iload_n K_R_findFault rfl rfl ?_
  refine go_if_eq K_R_findFault rfl (fun c => ?_) (fun c => ?_)
  · have h := zif_t c h
    exact go_forget (G_R_findFault_p59 hrec8 h) (zs_s (zs_s (zs_n (zs_n zs_e))))
  · have h := zif_f c h
    refine go_aload_n K_R_findFault rfl rfl ?_
    refine go_getI K_R_findFault rfl zf_12_150 ?_
    refine go_if_lt K_R_findFault rfl (fun c => ?_) (fun c => ?_)
    · have h := zif_t c h
      exact go_forget (G_R_findFault_p54 hrec8 h) (zs_s (zs_s (zs_n (zs_n zs_e))))
    · have h := zif_f c h
      refine go_aload_n K_R_findFault rfl rfl ?_
      refine go_getR K_R_findFault rfl zf_12_34 ?_
      refine go_iload_n K_R_findFault rfl rfl ?_
      obtain ⟨i1, h⟩ := zix_ex h
      refine go_iald K_R_findFault rfl za_43 i1 ?_
      refine go_aload_n K_R_findFault rfl rfl ?_
      refine go_getI K_R_findFault rfl zf_12_150 ?_
      refine go_icmp_ge K_R_findFault rfl (fun c => ?_) (fun c => ?_)
      · have h := zif_t c h
        exact go_forget (G_R_findFault_p59 hrec8 h) (zs_s (zs_s (zs_n (zs_n zs_e))))
      · have h := zif_f c h
        exact go_forget (G_R_findFault_p54 hrec8 h) (zs_s (zs_s (zs_n (zs_n zs_e))))
def F_R_findFault_p39 (N : Nat) (rec8 : zMem → Int32 → Option (Int32 × zMem)) (M : zMem) (l1 : Int32) : Option (Int32 × zMem) :=
  F_R_findFault_p40 N rec8 M l1 ((0 : Int32))
set_option maxRecDepth 100000 in
theorem G_R_findFault_p39 {N : Nat} {rec8 : zMem → Int32 → Option (Int32 × zMem)} (hrec8 : ∀ {M : zMem} {l1 : Int32} {y : Int32 × zMem}, rec8 M l1 = some y → zGo Y_R_findFault 5 8 [some (.inr 34), some (.inl l1), none, none] [] M (some y.1) y.2) {M : zMem} {l1 : Int32} {y : Int32 × zMem} (h : F_R_findFault_p39 N rec8 M l1 = some y) : zGo Y_R_findFault 5 39 [some (.inr 34), some (.inl l1), none, none] [] M (some y.1) y.2 := by
  unfold F_R_findFault_p39 at h
  refine go_iconst K_R_findFault rfl zk_iconst_0 ?_
  exact go_forget (G_R_findFault_p40 hrec8 h) (zs_s (zs_s (zs_n (zs_n zs_e))))
def F_R_findFault_p37 (N : Nat) (rec8 : zMem → Int32 → Option (Int32 × zMem)) (M : zMem) (l1 : Int32) : Option (Int32 × zMem) :=
  F_R_findFault_p40 N rec8 M l1 ((1 : Int32))
set_option maxRecDepth 100000 in
theorem G_R_findFault_p37 {N : Nat} {rec8 : zMem → Int32 → Option (Int32 × zMem)} (hrec8 : ∀ {M : zMem} {l1 : Int32} {y : Int32 × zMem}, rec8 M l1 = some y → zGo Y_R_findFault 5 8 [some (.inr 34), some (.inl l1), none, none] [] M (some y.1) y.2) {M : zMem} {l1 : Int32} {y : Int32 × zMem} (h : F_R_findFault_p37 N rec8 M l1 = some y) : zGo Y_R_findFault 5 37 [some (.inr 34), some (.inl l1), none, none] [] M (some y.1) y.2 := by
  unfold F_R_findFault_p37 at h
  refine go_iconst K_R_findFault rfl zk_iconst_1 ?_
  refine go_goto K_R_findFault rfl ?_
  exact go_forget (G_R_findFault_p40 hrec8 h) (zs_s (zs_s (zs_n (zs_n zs_e))))
def F_R_findFault_p8 (N : Nat) : Nat → zMem → Int32 → Option (Int32 × zMem)
  | 0, _, _ => none
  | n + 1, M, l1 =>
    if (M 34 14) ≤ l1 then (some (M 34 28, M)) else (zix l1 400 (zix l1 400 (if (M 39 l1.toNatClampNeg) = (3 : Int32) then (zix (M 40 l1.toNatClampNeg) 4 (if (M 46 (M 40 l1.toNatClampNeg).toNatClampNeg) = (-2 : Int32) then (F_R_findFault_p37 N (F_R_findFault_p8 N n) M l1) else (zbi (F_R_argumentsOf N M l1) fun r6 M4 => zix (M 40 l1.toNatClampNeg) 4 (if r6 = (M4 47 (M 40 l1.toNatClampNeg).toNatClampNeg) then (F_R_findFault_p39 N (F_R_findFault_p8 N n) M4 l1) else (F_R_findFault_p37 N (F_R_findFault_p8 N n) M4 l1))))) else (F_R_findFault_p39 N (F_R_findFault_p8 N n) M l1))))
set_option maxRecDepth 100000 in
theorem G_R_findFault_p8 {N : Nat} : ∀ (n : Nat) {M : zMem} {l1 : Int32} {y : Int32 × zMem}, F_R_findFault_p8 N n M l1 = some y → zGo Y_R_findFault 5 8 [some (.inr 34), some (.inl l1), none, none] [] M (some y.1) y.2 := by
  intro n
  induction n with
  | zero =>
    intro M l1 y h
    unfold F_R_findFault_p8 at h
    cases h
  | succ n ih =>
    intro M l1 y h
    unfold F_R_findFault_p8 at h
    refine go_iload_n K_R_findFault rfl rfl ?_
    refine go_aload_n K_R_findFault rfl rfl ?_
    refine go_getI K_R_findFault rfl zf_12_102 ?_
    refine go_icmp_ge K_R_findFault rfl (fun c => ?_) (fun c => ?_)
    · have h := zif_t c h
      refine go_aload_n K_R_findFault rfl rfl ?_
      refine go_getI K_R_findFault rfl zf_12_150 ?_
      cases h
      exact go_ireturn K_R_findFault rfl rfl
    · have h := zif_f c h
      refine go_aload_n K_R_findFault rfl rfl ?_
      refine go_getR K_R_findFault rfl zf_12_25 ?_
      refine go_iload_n K_R_findFault rfl rfl ?_
      obtain ⟨i1, h⟩ := zix_ex h
      refine go_iald K_R_findFault rfl za_40 i1 ?_
      refine go_istore_n K_R_findFault rfl (Nat.le_of_ble_eq_true rfl) ?_
      refine go_aload_n K_R_findFault rfl rfl ?_
      refine go_getR K_R_findFault rfl zf_12_22 ?_
      refine go_iload_n K_R_findFault rfl rfl ?_
      obtain ⟨i2, h⟩ := zix_ex h
      refine go_iald K_R_findFault rfl za_39 i2 ?_
      refine go_iconst K_R_findFault rfl zk_iconst_3 ?_
      refine go_icmp_ne K_R_findFault rfl (fun c => ?_) (fun c => ?_)
      · have h := zif_f c h
        exact go_forget (G_R_findFault_p39 ih h) (zs_s (zs_s (zs_n (zs_n zs_e))))
      · have h := zif_t c h
        refine go_aload_n K_R_findFault rfl rfl ?_
        refine go_getR K_R_findFault rfl zf_12_43 ?_
        refine go_iload_n K_R_findFault rfl rfl ?_
        obtain ⟨i3, h⟩ := zix_ex h
        refine go_iald K_R_findFault rfl za_46 i3 ?_
        refine go_bipush K_R_findFault rfl zk_bipush_m2 ?_
        refine go_icmp_eq K_R_findFault rfl (fun c => ?_) (fun c => ?_)
        · have h := zif_t c h
          exact go_forget (G_R_findFault_p37 ih h) (zs_s (zs_s (zs_n (zs_n zs_e))))
        · have h := zif_f c h
          refine go_aload_n K_R_findFault rfl rfl ?_
          refine go_iload_n K_R_findFault rfl rfl ?_
          obtain ⟨r6, M4, h5, h⟩ := zbi_ex h
          refine go_vi (Y' := Y_R_argumentsOf) (av := [.inl l1]) (rest := []) K_R_findFault rfl zl_12_200 zm_R_argumentsOf rfl (G_R_argumentsOf h5) (Nat.le_of_ble_eq_true rfl) (Nat.le_of_ble_eq_true rfl) rfl ?_
          refine go_aload_n K_R_findFault rfl rfl ?_
          refine go_getR K_R_findFault rfl zf_12_46 ?_
          refine go_iload_n K_R_findFault rfl rfl ?_
          obtain ⟨i7, h⟩ := zix_ex h
          refine go_iald K_R_findFault rfl za_47 i7 ?_
          refine go_icmp_eq K_R_findFault rfl (fun c => ?_) (fun c => ?_)
          · have h := zif_t c h
            exact go_forget (G_R_findFault_p39 ih h) (zs_s (zs_s (zs_n (zs_n zs_e))))
          · have h := zif_f c h
            exact go_forget (G_R_findFault_p37 ih h) (zs_s (zs_s (zs_n (zs_n zs_e))))
def F_R_findFault (N : Nat) (M : zMem) : Option (Int32 × zMem) :=
  zbi (F_R_readText N M ) fun r3 M1 => if r3 = (-4 : Int32) then (F_R_findFault_p8 N N M1 ((0 : Int32))) else (some ((-5 : Int32), M1))
set_option maxRecDepth 100000 in
theorem G_R_findFault {N : Nat} {M : zMem} {y : Int32 × zMem} (h : F_R_findFault N M  = some y) : zGo Y_R_findFault 5 0 (zal Y_R_findFault [.inr 34]) [] M (some y.1) y.2 := by
  unfold F_R_findFault at h
  show zGo Y_R_findFault 5 0 [some (.inr 34), none, none, none] [] M _ _
  refine go_aload_n K_R_findFault rfl rfl ?_
  obtain ⟨r3, M1, h2, h⟩ := zbi_ex h
  refine go_vi (Y' := Y_R_readText) (av := []) (rest := []) K_R_findFault rfl zl_12_197 zm_R_readText rfl (G_R_readText h2) (Nat.le_of_ble_eq_true rfl) (Nat.le_of_ble_eq_true rfl) rfl ?_
  refine go_bipush K_R_findFault rfl zk_bipush_m4 ?_
  refine go_icmp_eq K_R_findFault rfl (fun c => ?_) (fun c => ?_)
  · have h := zif_t c h
    refine go_iconst K_R_findFault rfl zk_iconst_0 ?_
    refine go_istore_n K_R_findFault rfl (Nat.le_of_ble_eq_true rfl) ?_
    exact go_forget (G_R_findFault_p8 _ h) (zs_s (zs_s (zs_n (zs_n zs_e))))
  · have h := zif_f c h
    refine go_bipush K_R_findFault rfl zk_bipush_m5 ?_
    cases h
    exact go_ireturn K_R_findFault rfl rfl
def F_R_release (M : zMem) : Option (Int32 × zMem) :=
  zset M 34 35 ((M 34 35) - (1 : Int32)) fun M1 => zix (M1 34 35) 3600 (some (M1 55 (M1 34 35).toNatClampNeg, M1))
set_option maxRecDepth 100000 in
theorem G_R_release {M : zMem} {y : Int32 × zMem} (h : F_R_release M  = some y) : zGo Y_R_release 0 0 (zal Y_R_release [.inr 34]) [] M (some y.1) y.2 := by
  unfold F_R_release at h
  show zGo Y_R_release 0 0 [some (.inr 34)] [] M _ _
  refine go_aload_n K_R_release rfl rfl ?_
  refine go_dup K_R_release rfl ?_
  refine go_getI K_R_release rfl zf_12_210 ?_
  refine go_iconst K_R_release rfl zk_iconst_1 ?_
  refine go_isub K_R_release rfl ?_
  obtain ⟨M1, e2, h⟩ := zset_ex h
  refine go_putI' e2 K_R_release rfl zf_12_210 ?_
  refine go_aload_n K_R_release rfl rfl ?_
  refine go_getR K_R_release rfl zf_12_70 ?_
  refine go_aload_n K_R_release rfl rfl ?_
  refine go_getI K_R_release rfl zf_12_210 ?_
  obtain ⟨i3, h⟩ := zix_ex h
  refine go_iald K_R_release rfl za_55 i3 ?_
  cases h
  exact go_ireturn K_R_release rfl rfl
def F_R_operate_p29 (M : zMem) (s1 : Int32) : Option (zMem) :=
  zbv (F_R_hold M s1) fun M1 => some M1
set_option maxRecDepth 100000 in
theorem G_R_operate_p29 {M : zMem} {s1 : Int32} {y : zMem} (h : F_R_operate_p29 M s1 = some y) : zGo Y_R_operate 1 29 [none, none, none, none, none] [.inl s1, .inr 34] M none y := by
  unfold F_R_operate_p29 at h
  obtain ⟨M1, h2, h⟩ := zbv_ex h
  refine go_vv (Y' := Y_R_hold) (av := [.inl s1]) (rest := []) K_R_operate rfl zl_12_225 zm_R_hold rfl (G_R_hold h2) (Nat.le_of_ble_eq_true rfl) (Nat.le_of_ble_eq_true rfl) rfl ?_
  refine go_goto K_R_operate rfl ?_
  cases h
  exact go_return K_R_operate rfl rfl
def F_R_operate_p12 (M : zMem) (l1 l2 l3 : Int32) : Option (zMem) :=
  if l2 = 0 then (zset M 34 45 ((4 : Int32)) fun M3 => some M3) else (if l1 = (133 : Int32) then (znz l2 (F_R_operate_p29 M (l3 / l2))) else (znz l2 (F_R_operate_p29 M (l3 - l3 / l2 * l2))))
set_option maxRecDepth 100000 in
theorem G_R_operate_p12 {M : zMem} {l1 l2 l3 : Int32} {y : zMem} (h : F_R_operate_p12 M l1 l2 l3 = some y) : zGo Y_R_operate 1 12 [some (.inr 34), some (.inl l1), some (.inl l2), some (.inl l3), none] [] M none y := by
  unfold F_R_operate_p12 at h
  refine go_iload_n K_R_operate rfl rfl ?_
  refine go_if_ne K_R_operate rfl (fun c => ?_) (fun c => ?_)
  · have h := zif_f c h
    refine go_aload_n K_R_operate rfl rfl ?_
    refine go_iload_n K_R_operate rfl rfl ?_
    refine go_sipush K_R_operate rfl zk_sipush_133 ?_
    refine go_icmp_ne K_R_operate rfl (fun c => ?_) (fun c => ?_)
    · have h := zif_f c h
      refine go_iload_n K_R_operate rfl rfl ?_
      refine go_iload_n K_R_operate rfl rfl ?_
      obtain ⟨z1, h⟩ := znz_ex h
      refine go_irem K_R_operate rfl z1 ?_
      exact go_forget (G_R_operate_p29 h) (zs_n (zs_n (zs_n (zs_n (zs_n zs_e)))))
    · have h := zif_t c h
      refine go_iload_n K_R_operate rfl rfl ?_
      refine go_iload_n K_R_operate rfl rfl ?_
      obtain ⟨z2, h⟩ := znz_ex h
      refine go_idiv K_R_operate rfl z2 ?_
      refine go_goto K_R_operate rfl ?_
      exact go_forget (G_R_operate_p29 h) (zs_n (zs_n (zs_n (zs_n (zs_n zs_e)))))
  · have h := zif_t c h
    refine go_aload_n K_R_operate rfl rfl ?_
    refine go_iconst K_R_operate rfl zk_iconst_4 ?_
    obtain ⟨M3, e4, h⟩ := zset_ex h
    refine go_putI' e4 K_R_operate rfl zf_12_216 ?_
    refine go_goto K_R_operate rfl ?_
    cases h
    exact go_return K_R_operate rfl rfl
def F_R_operate_p128 (M : zMem) (s1 : Int32) : Option (zMem) :=
  zbv (F_R_hold M s1) fun M1 => some M1
set_option maxRecDepth 100000 in
theorem G_R_operate_p128 {M : zMem} {s1 : Int32} {y : zMem} (h : F_R_operate_p128 M s1 = some y) : zGo Y_R_operate 1 128 [none, none, none, none, none] [.inl s1, .inr 34] M none y := by
  unfold F_R_operate_p128 at h
  obtain ⟨M1, h2, h⟩ := zbv_ex h
  refine go_vv (Y' := Y_R_hold) (av := [.inl s1]) (rest := []) K_R_operate rfl zl_12_225 zm_R_hold rfl (G_R_hold h2) (Nat.le_of_ble_eq_true rfl) (Nat.le_of_ble_eq_true rfl) rfl ?_
  cases h
  exact go_return K_R_operate rfl rfl
def F_R_operate_p121 (M : zMem) (s0 : Int32) : Option (zMem) :=
  if s0 = 0 then (F_R_operate_p128 M ((0 : Int32))) else (F_R_operate_p128 M ((1 : Int32)))
set_option maxRecDepth 100000 in
theorem G_R_operate_p121 {M : zMem} {s0 : Int32} {y : zMem} (h : F_R_operate_p121 M s0 = some y) : zGo Y_R_operate 1 121 [some (.inr 34), none, none, none, none] [.inl s0] M none y := by
  unfold F_R_operate_p121 at h
  refine go_istore K_R_operate rfl (Nat.le_of_ble_eq_true rfl) ?_
  refine go_aload_n K_R_operate rfl rfl ?_
  refine go_iload K_R_operate rfl rfl ?_
  refine go_if_eq K_R_operate rfl (fun c => ?_) (fun c => ?_)
  · have h := zif_t c h
    refine go_iconst K_R_operate rfl zk_iconst_0 ?_
    exact go_forget (G_R_operate_p128 h) (zs_n (zs_n (zs_n (zs_n (zs_n zs_e)))))
  · have h := zif_f c h
    refine go_iconst K_R_operate rfl zk_iconst_1 ?_
    refine go_goto K_R_operate rfl ?_
    exact go_forget (G_R_operate_p128 h) (zs_n (zs_n (zs_n (zs_n (zs_n zs_e)))))
def F_R_operate_p63 (M : zMem) (s1 : Int32) : Option (zMem) :=
  zbv (F_R_hold M s1) fun M1 => some M1
set_option maxRecDepth 100000 in
theorem G_R_operate_p63 {M : zMem} {s1 : Int32} {y : zMem} (h : F_R_operate_p63 M s1 = some y) : zGo Y_R_operate 1 63 [none, none, none, none, none] [.inl s1, .inr 34] M none y := by
  unfold F_R_operate_p63 at h
  obtain ⟨M1, h2, h⟩ := zbv_ex h
  refine go_vv (Y' := Y_R_hold) (av := [.inl s1]) (rest := []) K_R_operate rfl zl_12_225 zm_R_hold rfl (G_R_hold h2) (Nat.le_of_ble_eq_true rfl) (Nat.le_of_ble_eq_true rfl) rfl ?_
  refine go_goto K_R_operate rfl ?_
  cases h
  exact go_return K_R_operate rfl rfl
def F_R_operate_p52 (M : zMem) (s1 : Int32) : Option (zMem) :=
  zbv (F_R_hold M s1) fun M1 => some M1
set_option maxRecDepth 100000 in
theorem G_R_operate_p52 {M : zMem} {s1 : Int32} {y : zMem} (h : F_R_operate_p52 M s1 = some y) : zGo Y_R_operate 1 52 [none, none, none, none, none] [.inl s1, .inr 34] M none y := by
  unfold F_R_operate_p52 at h
  obtain ⟨M1, h2, h⟩ := zbv_ex h
  refine go_vv (Y' := Y_R_hold) (av := [.inl s1]) (rest := []) K_R_operate rfl zl_12_225 zm_R_hold rfl (G_R_hold h2) (Nat.le_of_ble_eq_true rfl) (Nat.le_of_ble_eq_true rfl) rfl ?_
  refine go_goto K_R_operate rfl ?_
  cases h
  exact go_return K_R_operate rfl rfl
def F_R_operate (M : zMem) (l1 : Int32) : Option (zMem) :=
  zbi (F_R_release M ) fun r3 M1 => zbi (F_R_release M1 ) fun r6 M4 => if l1 = (133 : Int32) then (F_R_operate_p12 M4 l1 r3 r6) else (if l1 = (134 : Int32) then (F_R_operate_p12 M4 l1 r3 r6) else (if (133 : Int32) ≤ l1 then (if l1 ≤ (145 : Int32) then (if l1 = (140 : Int32) then (if r6 = r3 then (F_R_operate_p121 M4 ((1 : Int32))) else (F_R_operate_p121 M4 ((0 : Int32)))) else (if l1 = (141 : Int32) then (if r6 = r3 then (F_R_operate_p121 M4 ((0 : Int32))) else (F_R_operate_p121 M4 ((1 : Int32)))) else (if l1 = (142 : Int32) then (if r3 ≤ r6 then (F_R_operate_p121 M4 ((0 : Int32))) else (F_R_operate_p121 M4 ((1 : Int32)))) else (if l1 = (143 : Int32) then (if r3 < r6 then (F_R_operate_p121 M4 ((0 : Int32))) else (F_R_operate_p121 M4 ((1 : Int32)))) else (if l1 = (144 : Int32) then (if r6 ≤ r3 then (F_R_operate_p121 M4 ((0 : Int32))) else (F_R_operate_p121 M4 ((1 : Int32)))) else (if r6 < r3 then (F_R_operate_p121 M4 ((0 : Int32))) else (F_R_operate_p121 M4 ((1 : Int32))))))))) else (if r3 = 0 then (F_R_operate_p63 M4 ((0 : Int32))) else (F_R_operate_p63 M4 ((1 : Int32))))) else (if l1 = (130 : Int32) then (F_R_operate_p52 M4 (r6 + r3)) else (if l1 = (131 : Int32) then (F_R_operate_p52 M4 (r6 - r3)) else (F_R_operate_p52 M4 (r6 * r3))))))
set_option maxRecDepth 100000 in
theorem G_R_operate {M : zMem} {l1 : Int32} {y : zMem} (h : F_R_operate M l1 = some y) : zGo Y_R_operate 1 0 (zal Y_R_operate [.inr 34, .inl l1]) [] M none y := by
  unfold F_R_operate at h
  show zGo Y_R_operate 1 0 [some (.inr 34), some (.inl l1), none, none, none] [] M _ _
  refine go_aload_n K_R_operate rfl rfl ?_
  obtain ⟨r3, M1, h2, h⟩ := zbi_ex h
  refine go_vi (Y' := Y_R_release) (av := []) (rest := []) K_R_operate rfl zl_12_238 zm_R_release rfl (G_R_release h2) (Nat.le_of_ble_eq_true rfl) (Nat.le_of_ble_eq_true rfl) rfl ?_
  refine go_istore_n K_R_operate rfl (Nat.le_of_ble_eq_true rfl) ?_
  refine go_aload_n K_R_operate rfl rfl ?_
  obtain ⟨r6, M4, h5, h⟩ := zbi_ex h
  refine go_vi (Y' := Y_R_release) (av := []) (rest := []) K_R_operate rfl zl_12_238 zm_R_release rfl (G_R_release h5) (Nat.le_of_ble_eq_true rfl) (Nat.le_of_ble_eq_true rfl) rfl ?_
  refine go_istore_n K_R_operate rfl (Nat.le_of_ble_eq_true rfl) ?_
  refine go_iload_n K_R_operate rfl rfl ?_
  refine go_sipush K_R_operate rfl zk_sipush_133 ?_
  refine go_icmp_eq K_R_operate rfl (fun c => ?_) (fun c => ?_)
  · have h := zif_t c h
    exact go_forget (G_R_operate_p12 h) (zs_s (zs_s (zs_s (zs_s (zs_n zs_e)))))
  · have h := zif_f c h
    refine go_iload_n K_R_operate rfl rfl ?_
    refine go_sipush K_R_operate rfl zk_sipush_134 ?_
    refine go_icmp_ne K_R_operate rfl (fun c => ?_) (fun c => ?_)
    · have h := zif_f c h
      refine go_iload_n K_R_operate rfl rfl ?_
      refine go_sipush K_R_operate rfl zk_sipush_133 ?_
      refine go_icmp_ge K_R_operate rfl (fun c => ?_) (fun c => ?_)
      · have h := zif_t c h
        refine go_iload_n K_R_operate rfl rfl ?_
        refine go_sipush K_R_operate rfl zk_sipush_145 ?_
        refine go_icmp_le K_R_operate rfl (fun c => ?_) (fun c => ?_)
        · have h := zif_t c h
          refine go_iload_n K_R_operate rfl rfl ?_
          refine go_sipush K_R_operate rfl zk_sipush_140 ?_
          refine go_icmp_ne K_R_operate rfl (fun c => ?_) (fun c => ?_)
          · have h := zif_f c h
            refine go_iload_n K_R_operate rfl rfl ?_
            refine go_sipush K_R_operate rfl zk_sipush_141 ?_
            refine go_icmp_ne K_R_operate rfl (fun c => ?_) (fun c => ?_)
            · have h := zif_f c h
              refine go_iload_n K_R_operate rfl rfl ?_
              refine go_sipush K_R_operate rfl zk_sipush_142 ?_
              refine go_icmp_ne K_R_operate rfl (fun c => ?_) (fun c => ?_)
              · have h := zif_f c h
                refine go_iload_n K_R_operate rfl rfl ?_
                refine go_sipush K_R_operate rfl zk_sipush_143 ?_
                refine go_icmp_ne K_R_operate rfl (fun c => ?_) (fun c => ?_)
                · have h := zif_f c h
                  refine go_iload_n K_R_operate rfl rfl ?_
                  refine go_sipush K_R_operate rfl zk_sipush_144 ?_
                  refine go_icmp_ne K_R_operate rfl (fun c => ?_) (fun c => ?_)
                  · have h := zif_f c h
                    refine go_iload_n K_R_operate rfl rfl ?_
                    refine go_iload_n K_R_operate rfl rfl ?_
                    refine go_icmp_lt K_R_operate rfl (fun c => ?_) (fun c => ?_)
                    · have h := zif_t c h
                      refine go_iconst K_R_operate rfl zk_iconst_0 ?_
                      exact go_forget (G_R_operate_p121 h) (zs_s (zs_n (zs_n (zs_n (zs_n zs_e)))))
                    · have h := zif_f c h
                      refine go_iconst K_R_operate rfl zk_iconst_1 ?_
                      refine go_goto K_R_operate rfl ?_
                      exact go_forget (G_R_operate_p121 h) (zs_s (zs_n (zs_n (zs_n (zs_n zs_e)))))
                  · have h := zif_t c h
                    refine go_iload_n K_R_operate rfl rfl ?_
                    refine go_iload_n K_R_operate rfl rfl ?_
                    refine go_icmp_le K_R_operate rfl (fun c => ?_) (fun c => ?_)
                    · have h := zif_t c h
                      refine go_iconst K_R_operate rfl zk_iconst_0 ?_
                      refine go_goto K_R_operate rfl ?_
                      exact go_forget (G_R_operate_p121 h) (zs_s (zs_n (zs_n (zs_n (zs_n zs_e)))))
                    · have h := zif_f c h
                      refine go_iconst K_R_operate rfl zk_iconst_1 ?_
                      refine go_goto K_R_operate rfl ?_
                      exact go_forget (G_R_operate_p121 h) (zs_s (zs_n (zs_n (zs_n (zs_n zs_e)))))
                · have h := zif_t c h
                  refine go_iload_n K_R_operate rfl rfl ?_
                  refine go_iload_n K_R_operate rfl rfl ?_
                  refine go_icmp_gt K_R_operate rfl (fun c => ?_) (fun c => ?_)
                  · have h := zif_t c h
                    refine go_iconst K_R_operate rfl zk_iconst_0 ?_
                    refine go_goto K_R_operate rfl ?_
                    exact go_forget (G_R_operate_p121 h) (zs_s (zs_n (zs_n (zs_n (zs_n zs_e)))))
                  · have h := zif_f c h
                    refine go_iconst K_R_operate rfl zk_iconst_1 ?_
                    refine go_goto K_R_operate rfl ?_
                    exact go_forget (G_R_operate_p121 h) (zs_s (zs_n (zs_n (zs_n (zs_n zs_e)))))
              · have h := zif_t c h
                refine go_iload_n K_R_operate rfl rfl ?_
                refine go_iload_n K_R_operate rfl rfl ?_
                refine go_icmp_ge K_R_operate rfl (fun c => ?_) (fun c => ?_)
                · have h := zif_t c h
                  refine go_iconst K_R_operate rfl zk_iconst_0 ?_
                  refine go_goto K_R_operate rfl ?_
                  exact go_forget (G_R_operate_p121 h) (zs_s (zs_n (zs_n (zs_n (zs_n zs_e)))))
                · have h := zif_f c h
                  refine go_iconst K_R_operate rfl zk_iconst_1 ?_
                  refine go_goto K_R_operate rfl ?_
                  exact go_forget (G_R_operate_p121 h) (zs_s (zs_n (zs_n (zs_n (zs_n zs_e)))))
            · have h := zif_t c h
              refine go_iload_n K_R_operate rfl rfl ?_
              refine go_iload_n K_R_operate rfl rfl ?_
              refine go_icmp_eq K_R_operate rfl (fun c => ?_) (fun c => ?_)
              · have h := zif_t c h
                refine go_iconst K_R_operate rfl zk_iconst_0 ?_
                refine go_goto K_R_operate rfl ?_
                exact go_forget (G_R_operate_p121 h) (zs_s (zs_n (zs_n (zs_n (zs_n zs_e)))))
              · have h := zif_f c h
                refine go_iconst K_R_operate rfl zk_iconst_1 ?_
                refine go_goto K_R_operate rfl ?_
                exact go_forget (G_R_operate_p121 h) (zs_s (zs_n (zs_n (zs_n (zs_n zs_e)))))
          · have h := zif_t c h
            refine go_iload_n K_R_operate rfl rfl ?_
            refine go_iload_n K_R_operate rfl rfl ?_
            refine go_icmp_ne K_R_operate rfl (fun c => ?_) (fun c => ?_)
            · have h := zif_f c h
              refine go_iconst K_R_operate rfl zk_iconst_0 ?_
              refine go_goto K_R_operate rfl ?_
              exact go_forget (G_R_operate_p121 h) (zs_s (zs_n (zs_n (zs_n (zs_n zs_e)))))
            · have h := zif_t c h
              refine go_iconst K_R_operate rfl zk_iconst_1 ?_
              refine go_goto K_R_operate rfl ?_
              exact go_forget (G_R_operate_p121 h) (zs_s (zs_n (zs_n (zs_n (zs_n zs_e)))))
        · have h := zif_f c h
          refine go_aload_n K_R_operate rfl rfl ?_
          refine go_iload_n K_R_operate rfl rfl ?_
          refine go_if_eq K_R_operate rfl (fun c => ?_) (fun c => ?_)
          · have h := zif_t c h
            refine go_iconst K_R_operate rfl zk_iconst_0 ?_
            exact go_forget (G_R_operate_p63 h) (zs_n (zs_n (zs_n (zs_n (zs_n zs_e)))))
          · have h := zif_f c h
            refine go_iconst K_R_operate rfl zk_iconst_1 ?_
            refine go_goto K_R_operate rfl ?_
            exact go_forget (G_R_operate_p63 h) (zs_n (zs_n (zs_n (zs_n (zs_n zs_e)))))
      · have h := zif_f c h
        refine go_aload_n K_R_operate rfl rfl ?_
        refine go_iload_n K_R_operate rfl rfl ?_
        refine go_sipush K_R_operate rfl zk_sipush_130 ?_
        refine go_icmp_ne K_R_operate rfl (fun c => ?_) (fun c => ?_)
        · have h := zif_f c h
          refine go_iload_n K_R_operate rfl rfl ?_
          refine go_sipush K_R_operate rfl zk_sipush_131 ?_
          refine go_icmp_ne K_R_operate rfl (fun c => ?_) (fun c => ?_)
          · have h := zif_f c h
            refine go_iload_n K_R_operate rfl rfl ?_
            refine go_iload_n K_R_operate rfl rfl ?_
            refine go_imul K_R_operate rfl ?_
            exact go_forget (G_R_operate_p52 h) (zs_n (zs_n (zs_n (zs_n (zs_n zs_e)))))
          · have h := zif_t c h
            refine go_iload_n K_R_operate rfl rfl ?_
            refine go_iload_n K_R_operate rfl rfl ?_
            refine go_isub K_R_operate rfl ?_
            refine go_goto K_R_operate rfl ?_
            exact go_forget (G_R_operate_p52 h) (zs_n (zs_n (zs_n (zs_n (zs_n zs_e)))))
        · have h := zif_t c h
          refine go_iload_n K_R_operate rfl rfl ?_
          refine go_iload_n K_R_operate rfl rfl ?_
          refine go_iadd K_R_operate rfl ?_
          refine go_goto K_R_operate rfl ?_
          exact go_forget (G_R_operate_p52 h) (zs_n (zs_n (zs_n (zs_n (zs_n zs_e)))))
    · have h := zif_t c h
      exact go_forget (G_R_operate_p12 h) (zs_s (zs_s (zs_s (zs_s (zs_n zs_e)))))
def F_R_goOnExpression_p85 (N : Nat) (M : zMem) (l1 : Int32) : Option (zMem) :=
  zbv (F_R_wait M l1 (2 : Int32)) fun M1 => zix l1 400 (zbv (F_R_wait M1 (M1 42 l1.toNatClampNeg) (0 : Int32)) fun M4 => some M4)
set_option maxRecDepth 100000 in
theorem G_R_goOnExpression_p85 {N : Nat} {M : zMem} {l1 : Int32} {y : zMem} (h : F_R_goOnExpression_p85 N M l1 = some y) : zGo Y_R_goOnExpression 2 85 [some (.inr 34), some (.inl l1), none, none, none] [] M none y := by
  unfold F_R_goOnExpression_p85 at h
  refine go_aload_n K_R_goOnExpression rfl rfl ?_
  refine go_iload_n K_R_goOnExpression rfl rfl ?_
  refine go_iconst K_R_goOnExpression rfl zk_iconst_2 ?_
  obtain ⟨M1, h2, h⟩ := zbv_ex h
  refine go_vv (Y' := Y_R_wait) (av := [.inl l1, .inl (2 : Int32)]) (rest := []) K_R_goOnExpression rfl zl_12_228 zm_R_wait rfl (G_R_wait h2) (Nat.le_of_ble_eq_true rfl) (Nat.le_of_ble_eq_true rfl) rfl ?_
  refine go_aload_n K_R_goOnExpression rfl rfl ?_
  refine go_aload_n K_R_goOnExpression rfl rfl ?_
  refine go_getR K_R_goOnExpression rfl zf_12_31 ?_
  refine go_iload_n K_R_goOnExpression rfl rfl ?_
  obtain ⟨i3, h⟩ := zix_ex h
  refine go_iald K_R_goOnExpression rfl za_42 i3 ?_
  refine go_iconst K_R_goOnExpression rfl zk_iconst_0 ?_
  obtain ⟨M4, h5, h⟩ := zbv_ex h
  refine go_vv (Y' := Y_R_wait) (av := [.inl (M1 42 l1.toNatClampNeg), .inl (0 : Int32)]) (rest := []) K_R_goOnExpression rfl zl_12_228 zm_R_wait rfl (G_R_wait h5) (Nat.le_of_ble_eq_true rfl) (Nat.le_of_ble_eq_true rfl) rfl ?_
  cases h
  exact go_return K_R_goOnExpression rfl rfl
def F_R_goOnExpression_p83 (N : Nat) (M : zMem) (s1 s2 : Int32) : Option (zMem) :=
  zix s1 3600 (zset M 55 s1.toNatClampNeg s2 fun M2 => some M2)
set_option maxRecDepth 100000 in
theorem G_R_goOnExpression_p83 {N : Nat} {M : zMem} {s1 s2 : Int32} {y : zMem} (h : F_R_goOnExpression_p83 N M s1 s2 = some y) : zGo Y_R_goOnExpression 2 83 [none, none, none, none, none] [.inl s2, .inl s1, .inr 55] M none y := by
  unfold F_R_goOnExpression_p83 at h
  obtain ⟨i1, h⟩ := zix_ex h
  obtain ⟨M2, e3, h⟩ := zset_ex h
  refine go_iast' e3 K_R_goOnExpression rfl za_55 i1 ?_
  refine go_goto K_R_goOnExpression rfl ?_
  cases h
  exact go_return K_R_goOnExpression rfl rfl
def F_R_goOnExpression_p71 (N : Nat) (M : zMem) (l3 : Int32) : Option (zMem) :=
  if l3 = (150 : Int32) then (F_R_goOnExpression_p83 N M ((M 34 35) - (1 : Int32)) ((0 : Int32))) else (F_R_goOnExpression_p83 N M ((M 34 35) - (1 : Int32)) ((1 : Int32)))
set_option maxRecDepth 100000 in
theorem G_R_goOnExpression_p71 {N : Nat} {M : zMem} {l3 : Int32} {y : zMem} (h : F_R_goOnExpression_p71 N M l3 = some y) : zGo Y_R_goOnExpression 2 71 [some (.inr 34), none, none, some (.inl l3), none] [] M none y := by
  unfold F_R_goOnExpression_p71 at h
  refine go_aload_n K_R_goOnExpression rfl rfl ?_
  refine go_getR K_R_goOnExpression rfl zf_12_70 ?_
  refine go_aload_n K_R_goOnExpression rfl rfl ?_
  refine go_getI K_R_goOnExpression rfl zf_12_210 ?_
  refine go_iconst K_R_goOnExpression rfl zk_iconst_1 ?_
  refine go_isub K_R_goOnExpression rfl ?_
  refine go_iload_n K_R_goOnExpression rfl rfl ?_
  refine go_sipush K_R_goOnExpression rfl zk_sipush_150 ?_
  refine go_icmp_ne K_R_goOnExpression rfl (fun c => ?_) (fun c => ?_)
  · have h := zif_f c h
    refine go_iconst K_R_goOnExpression rfl zk_iconst_1 ?_
    exact go_forget (G_R_goOnExpression_p83 h) (zs_n (zs_n (zs_n (zs_n (zs_n zs_e)))))
  · have h := zif_t c h
    refine go_iconst K_R_goOnExpression rfl zk_iconst_0 ?_
    refine go_goto K_R_goOnExpression rfl ?_
    exact go_forget (G_R_goOnExpression_p83 h) (zs_n (zs_n (zs_n (zs_n (zs_n zs_e)))))
def F_R_goOnExpression_p66 (N : Nat) (M : zMem) (l1 l3 l4 : Int32) : Option (zMem) :=
  if l3 = (151 : Int32) then (if l4 = 0 then (F_R_goOnExpression_p85 N M l1) else (F_R_goOnExpression_p71 N M l3)) else (F_R_goOnExpression_p85 N M l1)
set_option maxRecDepth 100000 in
theorem G_R_goOnExpression_p66 {N : Nat} {M : zMem} {l1 l3 l4 : Int32} {y : zMem} (h : F_R_goOnExpression_p66 N M l1 l3 l4 = some y) : zGo Y_R_goOnExpression 2 66 [some (.inr 34), some (.inl l1), none, some (.inl l3), some (.inl l4)] [] M none y := by
  unfold F_R_goOnExpression_p66 at h
  refine go_iload_n K_R_goOnExpression rfl rfl ?_
  refine go_sipush K_R_goOnExpression rfl zk_sipush_151 ?_
  refine go_icmp_ne K_R_goOnExpression rfl (fun c => ?_) (fun c => ?_)
  · have h := zif_f c h
    exact go_forget (G_R_goOnExpression_p85 h) (zs_s (zs_s (zs_n (zs_n (zs_n zs_e)))))
  · have h := zif_t c h
    refine go_iload K_R_goOnExpression rfl rfl ?_
    refine go_if_eq K_R_goOnExpression rfl (fun c => ?_) (fun c => ?_)
    · have h := zif_t c h
      exact go_forget (G_R_goOnExpression_p85 h) (zs_s (zs_s (zs_n (zs_n (zs_n zs_e)))))
    · have h := zif_f c h
      exact go_forget (G_R_goOnExpression_p71 h) (zs_s (zs_n (zs_n (zs_s (zs_n zs_e)))))
def F_R_goOnExpression_p35 (N : Nat) (M : zMem) (s1 : Int32) : Option (zMem) :=
  zbv (F_R_hold M s1) fun M1 => some M1
set_option maxRecDepth 100000 in
theorem G_R_goOnExpression_p35 {N : Nat} {M : zMem} {s1 : Int32} {y : zMem} (h : F_R_goOnExpression_p35 N M s1 = some y) : zGo Y_R_goOnExpression 2 35 [none, none, none, none, none] [.inl s1, .inr 34] M none y := by
  unfold F_R_goOnExpression_p35 at h
  obtain ⟨M1, h2, h⟩ := zbv_ex h
  refine go_vv (Y' := Y_R_hold) (av := [.inl s1]) (rest := []) K_R_goOnExpression rfl zl_12_225 zm_R_hold rfl (G_R_hold h2) (Nat.le_of_ble_eq_true rfl) (Nat.le_of_ble_eq_true rfl) rfl ?_
  refine go_goto K_R_goOnExpression rfl ?_
  cases h
  exact go_return K_R_goOnExpression rfl rfl
def F_R_goOnExpression (N : Nat) (M : zMem) (l1 l2 : Int32) : Option (zMem) :=
  zix l1 400 (if (M 39 l1.toNatClampNeg) = (2 : Int32) then (zbi (F_R_release M ) fun r17 M15 => zix (r17 &&& (15 : Int32)) 16 (zbv (F_R_hold M15 (M15 60 (r17 &&& (15 : Int32)).toNatClampNeg)) fun M19 => some M19)) else (if (M 39 l1.toNatClampNeg) = (3 : Int32) then (zbv (F_R_call N M l1) fun M13 => some M13) else (if (M 39 l1.toNatClampNeg) = (5 : Int32) then (zbi (F_R_release M ) fun r12 M10 => if r12 = 0 then (F_R_goOnExpression_p35 N M10 ((1 : Int32))) else (F_R_goOnExpression_p35 N M10 ((0 : Int32)))) else (if (M 39 l1.toNatClampNeg) = (6 : Int32) then (zbi (F_R_release M ) fun r7 M5 => zbv (F_R_hold M5 (-r7)) fun M8 => some M8) else (if l2 = (2 : Int32) then (zbv (F_R_operate M (M 39 l1.toNatClampNeg)) fun M3 => some M3) else (zix ((M 34 35) - (1 : Int32)) 3600 (if (M 39 l1.toNatClampNeg) = (150 : Int32) then (if (M 55 ((M 34 35) - (1 : Int32)).toNatClampNeg) = 0 then (F_R_goOnExpression_p71 N M (M 39 l1.toNatClampNeg)) else (F_R_goOnExpression_p66 N M l1 (M 39 l1.toNatClampNeg) (M 55 ((M 34 35) - (1 : Int32)).toNatClampNeg))) else (F_R_goOnExpression_p66 N M l1 (M 39 l1.toNatClampNeg) (M 55 ((M 34 35) - (1 : Int32)).toNatClampNeg)))))))))
set_option maxRecDepth 100000 in
theorem G_R_goOnExpression {N : Nat} {M : zMem} {l1 l2 : Int32} {y : zMem} (h : F_R_goOnExpression N M l1 l2 = some y) : zGo Y_R_goOnExpression 2 0 (zal Y_R_goOnExpression [.inr 34, .inl l1, .inl l2]) [] M none y := by
  unfold F_R_goOnExpression at h
  show zGo Y_R_goOnExpression 2 0 [some (.inr 34), some (.inl l1), some (.inl l2), none, none] [] M _ _
  refine go_aload_n K_R_goOnExpression rfl rfl ?_
  refine go_getR K_R_goOnExpression rfl zf_12_22 ?_
  refine go_iload_n K_R_goOnExpression rfl rfl ?_
  obtain ⟨i1, h⟩ := zix_ex h
  refine go_iald K_R_goOnExpression rfl za_39 i1 ?_
  refine go_istore_n K_R_goOnExpression rfl (Nat.le_of_ble_eq_true rfl) ?_
  refine go_iload_n K_R_goOnExpression rfl rfl ?_
  refine go_iconst K_R_goOnExpression rfl zk_iconst_2 ?_
  refine go_icmp_ne K_R_goOnExpression rfl (fun c => ?_) (fun c => ?_)
  · have h := zif_f c h
    refine go_iload_n K_R_goOnExpression rfl rfl ?_
    refine go_iconst K_R_goOnExpression rfl zk_iconst_3 ?_
    refine go_icmp_ne K_R_goOnExpression rfl (fun c => ?_) (fun c => ?_)
    · have h := zif_f c h
      refine go_iload_n K_R_goOnExpression rfl rfl ?_
      refine go_iconst K_R_goOnExpression rfl zk_iconst_5 ?_
      refine go_icmp_ne K_R_goOnExpression rfl (fun c => ?_) (fun c => ?_)
      · have h := zif_f c h
        refine go_iload_n K_R_goOnExpression rfl rfl ?_
        refine go_bipush K_R_goOnExpression rfl zk_bipush_6 ?_
        refine go_icmp_ne K_R_goOnExpression rfl (fun c => ?_) (fun c => ?_)
        · have h := zif_f c h
          refine go_iload_n K_R_goOnExpression rfl rfl ?_
          refine go_iconst K_R_goOnExpression rfl zk_iconst_2 ?_
          refine go_icmp_ne K_R_goOnExpression rfl (fun c => ?_) (fun c => ?_)
          · have h := zif_f c h
            refine go_aload_n K_R_goOnExpression rfl rfl ?_
            refine go_getR K_R_goOnExpression rfl zf_12_70 ?_
            refine go_aload_n K_R_goOnExpression rfl rfl ?_
            refine go_getI K_R_goOnExpression rfl zf_12_210 ?_
            refine go_iconst K_R_goOnExpression rfl zk_iconst_1 ?_
            refine go_isub K_R_goOnExpression rfl ?_
            obtain ⟨i2, h⟩ := zix_ex h
            refine go_iald K_R_goOnExpression rfl za_55 i2 ?_
            refine go_istore K_R_goOnExpression rfl (Nat.le_of_ble_eq_true rfl) ?_
            refine go_iload_n K_R_goOnExpression rfl rfl ?_
            refine go_sipush K_R_goOnExpression rfl zk_sipush_150 ?_
            refine go_icmp_ne K_R_goOnExpression rfl (fun c => ?_) (fun c => ?_)
            · have h := zif_f c h
              exact go_forget (G_R_goOnExpression_p66 h) (zs_s (zs_s (zs_n (zs_s (zs_s zs_e)))))
            · have h := zif_t c h
              refine go_iload K_R_goOnExpression rfl rfl ?_
              refine go_if_eq K_R_goOnExpression rfl (fun c => ?_) (fun c => ?_)
              · have h := zif_t c h
                exact go_forget (G_R_goOnExpression_p71 h) (zs_s (zs_n (zs_n (zs_s (zs_n zs_e)))))
              · have h := zif_f c h
                exact go_forget (G_R_goOnExpression_p66 h) (zs_s (zs_s (zs_n (zs_s (zs_s zs_e)))))
          · have h := zif_t c h
            refine go_aload_n K_R_goOnExpression rfl rfl ?_
            refine go_iload_n K_R_goOnExpression rfl rfl ?_
            obtain ⟨M3, h4, h⟩ := zbv_ex h
            refine go_vv (Y' := Y_R_operate) (av := [.inl (M 39 l1.toNatClampNeg)]) (rest := []) K_R_goOnExpression rfl zl_12_244 zm_R_operate rfl (G_R_operate h4) (Nat.le_of_ble_eq_true rfl) (Nat.le_of_ble_eq_true rfl) rfl ?_
            refine go_goto K_R_goOnExpression rfl ?_
            cases h
            exact go_return K_R_goOnExpression rfl rfl
        · have h := zif_t c h
          refine go_aload_n K_R_goOnExpression rfl rfl ?_
          refine go_aload_n K_R_goOnExpression rfl rfl ?_
          obtain ⟨r7, M5, h6, h⟩ := zbi_ex h
          refine go_vi (Y' := Y_R_release) (av := []) (rest := [.inr 34]) K_R_goOnExpression rfl zl_12_238 zm_R_release rfl (G_R_release h6) (Nat.le_of_ble_eq_true rfl) (Nat.le_of_ble_eq_true rfl) rfl ?_
          refine go_ineg K_R_goOnExpression rfl ?_
          obtain ⟨M8, h9, h⟩ := zbv_ex h
          refine go_vv (Y' := Y_R_hold) (av := [.inl (-r7)]) (rest := []) K_R_goOnExpression rfl zl_12_225 zm_R_hold rfl (G_R_hold h9) (Nat.le_of_ble_eq_true rfl) (Nat.le_of_ble_eq_true rfl) rfl ?_
          refine go_goto K_R_goOnExpression rfl ?_
          cases h
          exact go_return K_R_goOnExpression rfl rfl
      · have h := zif_t c h
        refine go_aload_n K_R_goOnExpression rfl rfl ?_
        refine go_aload_n K_R_goOnExpression rfl rfl ?_
        obtain ⟨r12, M10, h11, h⟩ := zbi_ex h
        refine go_vi (Y' := Y_R_release) (av := []) (rest := [.inr 34]) K_R_goOnExpression rfl zl_12_238 zm_R_release rfl (G_R_release h11) (Nat.le_of_ble_eq_true rfl) (Nat.le_of_ble_eq_true rfl) rfl ?_
        refine go_if_ne K_R_goOnExpression rfl (fun c => ?_) (fun c => ?_)
        · have h := zif_f c h
          refine go_iconst K_R_goOnExpression rfl zk_iconst_0 ?_
          exact go_forget (G_R_goOnExpression_p35 h) (zs_n (zs_n (zs_n (zs_n (zs_n zs_e)))))
        · have h := zif_t c h
          refine go_iconst K_R_goOnExpression rfl zk_iconst_1 ?_
          refine go_goto K_R_goOnExpression rfl ?_
          exact go_forget (G_R_goOnExpression_p35 h) (zs_n (zs_n (zs_n (zs_n (zs_n zs_e)))))
    · have h := zif_t c h
      refine go_aload_n K_R_goOnExpression rfl rfl ?_
      refine go_iload_n K_R_goOnExpression rfl rfl ?_
      obtain ⟨M13, h14, h⟩ := zbv_ex h
      refine go_vv (Y' := Y_R_call) (av := [.inl l1]) (rest := []) K_R_goOnExpression rfl zl_12_241 zm_R_call rfl (G_R_call h14) (Nat.le_of_ble_eq_true rfl) (Nat.le_of_ble_eq_true rfl) rfl ?_
      refine go_goto K_R_goOnExpression rfl ?_
      cases h
      exact go_return K_R_goOnExpression rfl rfl
  · have h := zif_t c h
    refine go_aload_n K_R_goOnExpression rfl rfl ?_
    refine go_aload_n K_R_goOnExpression rfl rfl ?_
    refine go_getR K_R_goOnExpression rfl zf_12_85 ?_
    refine go_aload_n K_R_goOnExpression rfl rfl ?_
    obtain ⟨r17, M15, h16, h⟩ := zbi_ex h
    refine go_vi (Y' := Y_R_release) (av := []) (rest := [.inr 60, .inr 34]) K_R_goOnExpression rfl zl_12_238 zm_R_release rfl (G_R_release h16) (Nat.le_of_ble_eq_true rfl) (Nat.le_of_ble_eq_true rfl) rfl ?_
    refine go_bipush K_R_goOnExpression rfl zk_bipush_15 ?_
    refine go_iand K_R_goOnExpression rfl ?_
    obtain ⟨i18, h⟩ := zix_ex h
    refine go_iald K_R_goOnExpression rfl za_60 i18 ?_
    obtain ⟨M19, h20, h⟩ := zbv_ex h
    refine go_vv (Y' := Y_R_hold) (av := [.inl (M15 60 (r17 &&& (15 : Int32)).toNatClampNeg)]) (rest := []) K_R_goOnExpression rfl zl_12_225 zm_R_hold rfl (G_R_hold h20) (Nat.le_of_ble_eq_true rfl) (Nat.le_of_ble_eq_true rfl) rfl ?_
    refine go_goto K_R_goOnExpression rfl ?_
    cases h
    exact go_return K_R_goOnExpression rfl rfl
def F_R_comeBack_p27 (N : Nat) (rec9 : zMem → Int32 → Int32 → Option (zMem)) (M : zMem) (l1 s0 : Int32) : Option (zMem) :=
  rec9 M l1 s0
set_option maxRecDepth 100000 in
theorem G_R_comeBack_p27 {N : Nat} {rec9 : zMem → Int32 → Int32 → Option (zMem)} (hrec9 : ∀ {M : zMem} {l1 l2 : Int32} {y : zMem}, rec9 M l1 l2 = some y → zGo Y_R_comeBack 1 9 [some (.inr 34), some (.inl l1), some (.inl l2)] [] M none y) {M : zMem} {l1 s0 : Int32} {y : zMem} (h : F_R_comeBack_p27 N rec9 M l1 s0 = some y) : zGo Y_R_comeBack 1 27 [some (.inr 34), some (.inl l1), none] [.inl s0] M none y := by
  unfold F_R_comeBack_p27 at h
  refine go_istore_n K_R_comeBack rfl (Nat.le_of_ble_eq_true rfl) ?_
  refine go_goto K_R_comeBack rfl ?_
  exact go_forget (hrec9 h) (zs_s (zs_s (zs_s zs_e)))
def F_R_comeBack_p9 (N : Nat) : Nat → zMem → Int32 → Int32 → Option (zMem)
  | 0, _, _, _ => none
  | n + 1, M, l1, l2 =>
    if l2 = 0 then (zset M 34 33 ((M 34 33) - (1 : Int32)) fun M8 => zix (M8 34 33) 3600 (if (M8 53 (M8 34 33).toNatClampNeg) = (4000 : Int32) then (F_R_comeBack_p27 N (F_R_comeBack_p9 N n) M8 l1 ((1 : Int32))) else (F_R_comeBack_p27 N (F_R_comeBack_p9 N n) M8 l1 ((0 : Int32))))) else (zix (M 34 33) 3600 (zset M 34 35 (M 54 (M 34 33).toNatClampNeg) fun M2 => zset M2 34 38 ((M2 34 38) - (1 : Int32)) fun M4 => zbv (F_R_hold M4 l1) fun M6 => some M6))
set_option maxRecDepth 100000 in
theorem G_R_comeBack_p9 {N : Nat} : ∀ (n : Nat) {M : zMem} {l1 l2 : Int32} {y : zMem}, F_R_comeBack_p9 N n M l1 l2 = some y → zGo Y_R_comeBack 1 9 [some (.inr 34), some (.inl l1), some (.inl l2)] [] M none y := by
  intro n
  induction n with
  | zero =>
    intro M l1 l2 y h
    unfold F_R_comeBack_p9 at h
    cases h
  | succ n ih =>
    intro M l1 l2 y h
    unfold F_R_comeBack_p9 at h
    refine go_iload_n K_R_comeBack rfl rfl ?_
    refine go_if_ne K_R_comeBack rfl (fun c => ?_) (fun c => ?_)
    · have h := zif_f c h
      refine go_aload_n K_R_comeBack rfl rfl ?_
      refine go_aload_n K_R_comeBack rfl rfl ?_
      refine go_getR K_R_comeBack rfl zf_12_67 ?_
      refine go_aload_n K_R_comeBack rfl rfl ?_
      refine go_getI K_R_comeBack rfl zf_12_207 ?_
      obtain ⟨i1, h⟩ := zix_ex h
      refine go_iald K_R_comeBack rfl za_54 i1 ?_
      obtain ⟨M2, e3, h⟩ := zset_ex h
      refine go_putI' e3 K_R_comeBack rfl zf_12_210 ?_
      refine go_aload_n K_R_comeBack rfl rfl ?_
      refine go_dup K_R_comeBack rfl ?_
      refine go_getI K_R_comeBack rfl zf_12_219 ?_
      refine go_iconst K_R_comeBack rfl zk_iconst_1 ?_
      refine go_isub K_R_comeBack rfl ?_
      obtain ⟨M4, e5, h⟩ := zset_ex h
      refine go_putI' e5 K_R_comeBack rfl zf_12_219 ?_
      refine go_aload_n K_R_comeBack rfl rfl ?_
      refine go_iload_n K_R_comeBack rfl rfl ?_
      obtain ⟨M6, h7, h⟩ := zbv_ex h
      refine go_vv (Y' := Y_R_hold) (av := [.inl l1]) (rest := []) K_R_comeBack rfl zl_12_225 zm_R_hold rfl (G_R_hold h7) (Nat.le_of_ble_eq_true rfl) (Nat.le_of_ble_eq_true rfl) rfl ?_
      cases h
      exact go_return K_R_comeBack rfl rfl
    · have h := zif_t c h
      refine go_aload_n K_R_comeBack rfl rfl ?_
      refine go_dup K_R_comeBack rfl ?_
      refine go_getI K_R_comeBack rfl zf_12_207 ?_
      refine go_iconst K_R_comeBack rfl zk_iconst_1 ?_
      refine go_isub K_R_comeBack rfl ?_
      obtain ⟨M8, e9, h⟩ := zset_ex h
      refine go_putI' e9 K_R_comeBack rfl zf_12_207 ?_
      refine go_aload_n K_R_comeBack rfl rfl ?_
      refine go_getR K_R_comeBack rfl zf_12_64 ?_
      refine go_aload_n K_R_comeBack rfl rfl ?_
      refine go_getI K_R_comeBack rfl zf_12_207 ?_
      obtain ⟨i10, h⟩ := zix_ex h
      refine go_iald K_R_comeBack rfl za_53 i10 ?_
      refine go_sipush K_R_comeBack rfl zk_sipush_4000 ?_
      refine go_icmp_ne K_R_comeBack rfl (fun c => ?_) (fun c => ?_)
      · have h := zif_f c h
        refine go_iconst K_R_comeBack rfl zk_iconst_0 ?_
        exact go_forget (G_R_comeBack_p27 ih h) (zs_s (zs_s (zs_n zs_e)))
      · have h := zif_t c h
        refine go_iconst K_R_comeBack rfl zk_iconst_1 ?_
        refine go_goto K_R_comeBack rfl ?_
        exact go_forget (G_R_comeBack_p27 ih h) (zs_s (zs_s (zs_n zs_e)))
def F_R_comeBack (N : Nat) (M : zMem) (l1 : Int32) : Option (zMem) :=
  if (M 34 38) = 0 then (zset M 34 45 ((0 : Int32)) fun M1 => some M1) else (F_R_comeBack_p9 N N M l1 ((0 : Int32)))
set_option maxRecDepth 100000 in
theorem G_R_comeBack {N : Nat} {M : zMem} {l1 : Int32} {y : zMem} (h : F_R_comeBack N M l1 = some y) : zGo Y_R_comeBack 1 0 (zal Y_R_comeBack [.inr 34, .inl l1]) [] M none y := by
  unfold F_R_comeBack at h
  show zGo Y_R_comeBack 1 0 [some (.inr 34), some (.inl l1), none] [] M _ _
  refine go_aload_n K_R_comeBack rfl rfl ?_
  refine go_getI K_R_comeBack rfl zf_12_219 ?_
  refine go_if_ne K_R_comeBack rfl (fun c => ?_) (fun c => ?_)
  · have h := zif_f c h
    refine go_iconst K_R_comeBack rfl zk_iconst_0 ?_
    refine go_istore_n K_R_comeBack rfl (Nat.le_of_ble_eq_true rfl) ?_
    exact go_forget (G_R_comeBack_p9 _ h) (zs_s (zs_s (zs_s zs_e)))
  · have h := zif_t c h
    refine go_aload_n K_R_comeBack rfl rfl ?_
    refine go_iconst K_R_comeBack rfl zk_iconst_0 ?_
    obtain ⟨M1, e2, h⟩ := zset_ex h
    refine go_putI' e2 K_R_comeBack rfl zf_12_216 ?_
    cases h
    exact go_return K_R_comeBack rfl rfl
