def F_R_look (M : zMem) : Option (Int32 × zMem) :=
  if (M 34 1) ≤ (M 34 6) then (some ((-1 : Int32), M)) else (zix (M 34 6) 150 (some (M 35 (M 34 6).toNatClampNeg, M)))
set_option maxRecDepth 100000 in
theorem G_R_look {M : zMem} {y : Int32 × zMem} (h : F_R_look M  = some y) : zGo Y_R_look 0 0 (zal Y_R_look [.inr 34]) [] M (some y.1) y.2 := by
  unfold F_R_look at h
  show zGo Y_R_look 0 0 [some (.inr 34)] [] M _ _
  refine go_aload_n K_R_look rfl rfl ?_
  refine go_getI K_R_look rfl zf_12_96 ?_
  refine go_aload_n K_R_look rfl rfl ?_
  refine go_getI K_R_look rfl zf_12_92 ?_
  refine go_icmp_ge K_R_look rfl (fun c => ?_) (fun c => ?_)
  · have h := zif_t c h
    refine go_iconst K_R_look rfl zk_iconst_m1 ?_
    cases h
    exact go_ireturn K_R_look rfl rfl
  · have h := zif_f c h
    refine go_aload_n K_R_look rfl rfl ?_
    refine go_getR K_R_look rfl zf_12_7 ?_
    refine go_aload_n K_R_look rfl rfl ?_
    refine go_getI K_R_look rfl zf_12_96 ?_
    obtain ⟨i1, h⟩ := zix_ex h
    refine go_iald K_R_look rfl za_35 i1 ?_
    refine go_goto K_R_look rfl ?_
    cases h
    exact go_ireturn K_R_look rfl rfl
def F_R_task (M : zMem) (l1 : Int32) : Option (zMem) :=
  zix (M 34 5) 1600 (zset M 38 (M 34 5).toNatClampNeg l1 fun M2 => zset M2 34 5 ((M2 34 5) + (1 : Int32)) fun M4 => some M4)
set_option maxRecDepth 100000 in
theorem G_R_task {M : zMem} {l1 : Int32} {y : zMem} (h : F_R_task M l1 = some y) : zGo Y_R_task 0 0 (zal Y_R_task [.inr 34, .inl l1]) [] M none y := by
  unfold F_R_task at h
  show zGo Y_R_task 0 0 [some (.inr 34), some (.inl l1)] [] M _ _
  refine go_aload_n K_R_task rfl rfl ?_
  refine go_getR K_R_task rfl zf_12_19 ?_
  refine go_aload_n K_R_task rfl rfl ?_
  refine go_getI K_R_task rfl zf_12_99 ?_
  refine go_iload_n K_R_task rfl rfl ?_
  obtain ⟨i1, h⟩ := zix_ex h
  obtain ⟨M2, e3, h⟩ := zset_ex h
  refine go_iast' e3 K_R_task rfl za_38 i1 ?_
  refine go_aload_n K_R_task rfl rfl ?_
  refine go_dup K_R_task rfl ?_
  refine go_getI K_R_task rfl zf_12_99 ?_
  refine go_iconst K_R_task rfl zk_iconst_1 ?_
  refine go_iadd K_R_task rfl ?_
  obtain ⟨M4, e5, h⟩ := zset_ex h
  refine go_putI' e5 K_R_task rfl zf_12_99 ?_
  cases h
  exact go_return K_R_task rfl rfl
def F_R_tasksOf_p15 (M : zMem) (l1 : Int32) : Option (zMem) :=
  zbv (F_R_task M l1) fun M1 => some M1
set_option maxRecDepth 100000 in
theorem G_R_tasksOf_p15 {M : zMem} {l1 : Int32} {y : zMem} (h : F_R_tasksOf_p15 M l1 = some y) : zGo Y_R_tasksOf 1 15 [some (.inr 34), some (.inl l1), none, none, none] [] M none y := by
  unfold F_R_tasksOf_p15 at h
  refine go_aload_n K_R_tasksOf rfl rfl ?_
  refine go_iload_n K_R_tasksOf rfl rfl ?_
  obtain ⟨M1, h2, h⟩ := zbv_ex h
  refine go_vv (Y' := Y_R_task) (av := [.inl l1]) (rest := []) K_R_tasksOf rfl zl_12_112 zm_R_task rfl (G_R_task h2) (Nat.le_of_ble_eq_true rfl) (Nat.le_of_ble_eq_true rfl) rfl ?_
  cases h
  exact go_return K_R_tasksOf rfl rfl
def F_R_tasksOf_p10 (M : zMem) (l1 l2 : Int32) : Option (zMem) :=
  if l2 < 0 then (F_R_tasksOf_p15 M l1) else (zbv (F_R_task M l2) fun M1 => F_R_tasksOf_p15 M1 l1)
set_option maxRecDepth 100000 in
theorem G_R_tasksOf_p10 {M : zMem} {l1 l2 : Int32} {y : zMem} (h : F_R_tasksOf_p10 M l1 l2 = some y) : zGo Y_R_tasksOf 1 10 [some (.inr 34), some (.inl l1), some (.inl l2), none, none] [] M none y := by
  unfold F_R_tasksOf_p10 at h
  refine go_iload_n K_R_tasksOf rfl rfl ?_
  refine go_if_lt K_R_tasksOf rfl (fun c => ?_) (fun c => ?_)
  · have h := zif_t c h
    exact go_forget (G_R_tasksOf_p15 h) (zs_s (zs_s (zs_n (zs_n (zs_n zs_e)))))
  · have h := zif_f c h
    refine go_aload_n K_R_tasksOf rfl rfl ?_
    refine go_iload_n K_R_tasksOf rfl rfl ?_
    obtain ⟨M1, h2, h⟩ := zbv_ex h
    refine go_vv (Y' := Y_R_task) (av := [.inl l2]) (rest := []) K_R_tasksOf rfl zl_12_112 zm_R_task rfl (G_R_task h2) (Nat.le_of_ble_eq_true rfl) (Nat.le_of_ble_eq_true rfl) rfl ?_
    exact go_forget (G_R_tasksOf_p15 h) (zs_s (zs_s (zs_n (zs_n (zs_n zs_e)))))
def F_R_tasksOf_p5 (M : zMem) (l1 l2 l3 : Int32) : Option (zMem) :=
  if l3 < 0 then (F_R_tasksOf_p10 M l1 l2) else (zbv (F_R_task M l3) fun M1 => F_R_tasksOf_p10 M1 l1 l2)
set_option maxRecDepth 100000 in
theorem G_R_tasksOf_p5 {M : zMem} {l1 l2 l3 : Int32} {y : zMem} (h : F_R_tasksOf_p5 M l1 l2 l3 = some y) : zGo Y_R_tasksOf 1 5 [some (.inr 34), some (.inl l1), some (.inl l2), some (.inl l3), none] [] M none y := by
  unfold F_R_tasksOf_p5 at h
  refine go_iload_n K_R_tasksOf rfl rfl ?_
  refine go_if_lt K_R_tasksOf rfl (fun c => ?_) (fun c => ?_)
  · have h := zif_t c h
    exact go_forget (G_R_tasksOf_p10 h) (zs_s (zs_s (zs_s (zs_n (zs_n zs_e)))))
  · have h := zif_f c h
    refine go_aload_n K_R_tasksOf rfl rfl ?_
    refine go_iload_n K_R_tasksOf rfl rfl ?_
    obtain ⟨M1, h2, h⟩ := zbv_ex h
    refine go_vv (Y' := Y_R_task) (av := [.inl l3]) (rest := []) K_R_tasksOf rfl zl_12_112 zm_R_task rfl (G_R_task h2) (Nat.le_of_ble_eq_true rfl) (Nat.le_of_ble_eq_true rfl) rfl ?_
    exact go_forget (G_R_tasksOf_p10 h) (zs_s (zs_s (zs_s (zs_n (zs_n zs_e)))))
def F_R_tasksOf (M : zMem) (l1 l2 l3 l4 : Int32) : Option (zMem) :=
  if l4 < 0 then (F_R_tasksOf_p5 M l1 l2 l3) else (zbv (F_R_task M l4) fun M1 => F_R_tasksOf_p5 M1 l1 l2 l3)
set_option maxRecDepth 100000 in
theorem G_R_tasksOf {M : zMem} {l1 l2 l3 l4 : Int32} {y : zMem} (h : F_R_tasksOf M l1 l2 l3 l4 = some y) : zGo Y_R_tasksOf 1 0 (zal Y_R_tasksOf [.inr 34, .inl l1, .inl l2, .inl l3, .inl l4]) [] M none y := by
  unfold F_R_tasksOf at h
  show zGo Y_R_tasksOf 1 0 [some (.inr 34), some (.inl l1), some (.inl l2), some (.inl l3), some (.inl l4)] [] M _ _
  refine go_iload K_R_tasksOf rfl rfl ?_
  refine go_if_lt K_R_tasksOf rfl (fun c => ?_) (fun c => ?_)
  · have h := zif_t c h
    exact go_forget (G_R_tasksOf_p5 h) (zs_s (zs_s (zs_s (zs_s (zs_n zs_e)))))
  · have h := zif_f c h
    refine go_aload_n K_R_tasksOf rfl rfl ?_
    refine go_iload K_R_tasksOf rfl rfl ?_
    obtain ⟨M1, h2, h⟩ := zbv_ex h
    refine go_vv (Y' := Y_R_task) (av := [.inl l4]) (rest := []) K_R_tasksOf rfl zl_12_112 zm_R_task rfl (G_R_task h2) (Nat.le_of_ble_eq_true rfl) (Nat.le_of_ble_eq_true rfl) rfl ?_
    exact go_forget (G_R_tasksOf_p5 h) (zs_s (zs_s (zs_s (zs_s (zs_n zs_e)))))
def F_R_readCall_p58 (M : zMem) (l1 l2 : Int32) : Option (zMem) :=
  if l1 = (216 : Int32) then (zbv (F_R_tasksOf M (208 : Int32) (9000 : Int32) (217 : Int32) (123 : Int32)) fun M3 => some M3) else (if l2 = (124 : Int32) then (zbv (F_R_tasksOf M (124 : Int32) (208 : Int32) (9000 : Int32) (217 : Int32)) fun M1 => some M1) else (some M))
set_option maxRecDepth 100000 in
theorem G_R_readCall_p58 {M : zMem} {l1 l2 : Int32} {y : zMem} (h : F_R_readCall_p58 M l1 l2 = some y) : zGo Y_R_readCall 2 58 [some (.inr 34), some (.inl l1), some (.inl l2), none] [] M none y := by
  unfold F_R_readCall_p58 at h
  refine go_iload_n K_R_readCall rfl rfl ?_
  refine go_sipush K_R_readCall rfl zk_sipush_216 ?_
  refine go_icmp_ne K_R_readCall rfl (fun c => ?_) (fun c => ?_)
  · have h := zif_f c h
    refine go_iload_n K_R_readCall rfl rfl ?_
    refine go_bipush K_R_readCall rfl zk_bipush_124 ?_
    refine go_icmp_ne K_R_readCall rfl (fun c => ?_) (fun c => ?_)
    · have h := zif_f c h
      cases h
      exact go_return K_R_readCall rfl rfl
    · have h := zif_t c h
      refine go_aload_n K_R_readCall rfl rfl ?_
      refine go_bipush K_R_readCall rfl zk_bipush_124 ?_
      refine go_sipush K_R_readCall rfl zk_sipush_208 ?_
      refine go_sipush K_R_readCall rfl zk_sipush_9000 ?_
      refine go_sipush K_R_readCall rfl zk_sipush_217 ?_
      obtain ⟨M1, h2, h⟩ := zbv_ex h
      refine go_vv (Y' := Y_R_tasksOf) (av := [.inl (124 : Int32), .inl (208 : Int32), .inl (9000 : Int32), .inl (217 : Int32)]) (rest := []) K_R_readCall rfl zl_12_116 zm_R_tasksOf rfl (G_R_tasksOf h2) (Nat.le_of_ble_eq_true rfl) (Nat.le_of_ble_eq_true rfl) rfl ?_
      cases h
      exact go_return K_R_readCall rfl rfl
  · have h := zif_t c h
    refine go_aload_n K_R_readCall rfl rfl ?_
    refine go_sipush K_R_readCall rfl zk_sipush_208 ?_
    refine go_sipush K_R_readCall rfl zk_sipush_9000 ?_
    refine go_sipush K_R_readCall rfl zk_sipush_217 ?_
    refine go_bipush K_R_readCall rfl zk_bipush_123 ?_
    obtain ⟨M3, h4, h⟩ := zbv_ex h
    refine go_vv (Y' := Y_R_tasksOf) (av := [.inl (208 : Int32), .inl (9000 : Int32), .inl (217 : Int32), .inl (123 : Int32)]) (rest := []) K_R_readCall rfl zl_12_116 zm_R_tasksOf rfl (G_R_tasksOf h4) (Nat.le_of_ble_eq_true rfl) (Nat.le_of_ble_eq_true rfl) rfl ?_
    refine go_goto K_R_readCall rfl ?_
    cases h
    exact go_return K_R_readCall rfl rfl
def F_R_readCall_p16 (M : zMem) (l2 s1 : Int32) : Option (zMem) :=
  zbit s1 (zset M 34 7 s1 fun M1 => zbi (F_R_node M1 (3 : Int32) (l2 - (110 : Int32)) (-1 : Int32) (-1 : Int32)) fun r6 M4 => zix r6 400 (zset M4 43 r6.toNatClampNeg (M4 34 6) fun M8 => zbv (F_R_push M8 r6) fun M10 => zset M10 34 6 ((M10 34 6) + (1 : Int32)) fun M12 => zbv (F_R_tasksOf M12 (122 : Int32) (216 : Int32) (-1 : Int32) (-1 : Int32)) fun M14 => some M14))
set_option maxRecDepth 100000 in
theorem G_R_readCall_p16 {M : zMem} {l2 s1 : Int32} {y : zMem} (h : F_R_readCall_p16 M l2 s1 = some y) : zGo Y_R_readCall 2 16 [some (.inr 34), none, some (.inl l2), none] [.inl s1, .inr 34] M none y := by
  unfold F_R_readCall_p16 at h
  obtain ⟨b3, h⟩ := zbit_ex h
  obtain ⟨M1, e2, h⟩ := zset_ex h
  refine go_putZ' e2 K_R_readCall rfl zf_12_130 b3 ?_
  refine go_aload_n K_R_readCall rfl rfl ?_
  refine go_iconst K_R_readCall rfl zk_iconst_3 ?_
  refine go_iload_n K_R_readCall rfl rfl ?_
  refine go_bipush K_R_readCall rfl zk_bipush_110 ?_
  refine go_isub K_R_readCall rfl ?_
  refine go_iconst K_R_readCall rfl zk_iconst_m1 ?_
  refine go_iconst K_R_readCall rfl zk_iconst_m1 ?_
  obtain ⟨r6, M4, h5, h⟩ := zbi_ex h
  refine go_vi (Y' := Y_R_node) (av := [.inl (3 : Int32), .inl (l2 - (110 : Int32)), .inl (-1 : Int32), .inl (-1 : Int32)]) (rest := []) K_R_readCall rfl zl_12_120 zm_R_node rfl (G_R_node h5) (Nat.le_of_ble_eq_true rfl) (Nat.le_of_ble_eq_true rfl) rfl ?_
  refine go_istore_n K_R_readCall rfl (Nat.le_of_ble_eq_true rfl) ?_
  refine go_aload_n K_R_readCall rfl rfl ?_
  refine go_getR K_R_readCall rfl zf_12_34 ?_
  refine go_iload_n K_R_readCall rfl rfl ?_
  refine go_aload_n K_R_readCall rfl rfl ?_
  refine go_getI K_R_readCall rfl zf_12_96 ?_
  obtain ⟨i7, h⟩ := zix_ex h
  obtain ⟨M8, e9, h⟩ := zset_ex h
  refine go_iast' e9 K_R_readCall rfl za_43 i7 ?_
  refine go_aload_n K_R_readCall rfl rfl ?_
  refine go_iload_n K_R_readCall rfl rfl ?_
  obtain ⟨M10, h11, h⟩ := zbv_ex h
  refine go_vv (Y' := Y_R_push) (av := [.inl r6]) (rest := []) K_R_readCall rfl zl_12_124 zm_R_push rfl (G_R_push h11) (Nat.le_of_ble_eq_true rfl) (Nat.le_of_ble_eq_true rfl) rfl ?_
  refine go_aload_n K_R_readCall rfl rfl ?_
  refine go_dup K_R_readCall rfl ?_
  refine go_getI K_R_readCall rfl zf_12_96 ?_
  refine go_iconst K_R_readCall rfl zk_iconst_1 ?_
  refine go_iadd K_R_readCall rfl ?_
  obtain ⟨M12, e13, h⟩ := zset_ex h
  refine go_putI' e13 K_R_readCall rfl zf_12_96 ?_
  refine go_aload_n K_R_readCall rfl rfl ?_
  refine go_bipush K_R_readCall rfl zk_bipush_122 ?_
  refine go_sipush K_R_readCall rfl zk_sipush_216 ?_
  refine go_iconst K_R_readCall rfl zk_iconst_m1 ?_
  refine go_iconst K_R_readCall rfl zk_iconst_m1 ?_
  obtain ⟨M14, h15, h⟩ := zbv_ex h
  refine go_vv (Y' := Y_R_tasksOf) (av := [.inl (122 : Int32), .inl (216 : Int32), .inl (-1 : Int32), .inl (-1 : Int32)]) (rest := []) K_R_readCall rfl zl_12_116 zm_R_tasksOf rfl (G_R_tasksOf h15) (Nat.le_of_ble_eq_true rfl) (Nat.le_of_ble_eq_true rfl) rfl ?_
  refine go_goto K_R_readCall rfl ?_
  cases h
  exact go_return K_R_readCall rfl rfl
def F_R_readCall_p13 (M : zMem) (l2 : Int32) : Option (zMem) :=
  F_R_readCall_p16 M l2 ((1 : Int32))
set_option maxRecDepth 100000 in
theorem G_R_readCall_p13 {M : zMem} {l2 : Int32} {y : zMem} (h : F_R_readCall_p13 M l2 = some y) : zGo Y_R_readCall 2 13 [some (.inr 34), none, some (.inl l2), none] [.inr 34] M none y := by
  unfold F_R_readCall_p13 at h
  refine go_iconst K_R_readCall rfl zk_iconst_1 ?_
  refine go_goto K_R_readCall rfl ?_
  exact go_forget (G_R_readCall_p16 h) (zs_s (zs_n (zs_s (zs_n zs_e))))
def F_R_readCall (M : zMem) (l1 l2 : Int32) : Option (zMem) :=
  if l1 = (215 : Int32) then (if (M 34 7) = 0 then (zbi (F_R_isIn M l2 (110 : Int32) (113 : Int32)) fun r5 M3 => if r5 = 0 then (F_R_readCall_p13 M3 l2) else (F_R_readCall_p16 M3 l2 ((0 : Int32)))) else (F_R_readCall_p13 M l2)) else (if l1 = (216 : Int32) then (if l2 = (123 : Int32) then (zbv (F_R_task M (123 : Int32)) fun M1 => some M1) else (F_R_readCall_p58 M l1 l2)) else (F_R_readCall_p58 M l1 l2))
set_option maxRecDepth 100000 in
theorem G_R_readCall {M : zMem} {l1 l2 : Int32} {y : zMem} (h : F_R_readCall M l1 l2 = some y) : zGo Y_R_readCall 2 0 (zal Y_R_readCall [.inr 34, .inl l1, .inl l2]) [] M none y := by
  unfold F_R_readCall at h
  show zGo Y_R_readCall 2 0 [some (.inr 34), some (.inl l1), some (.inl l2), none] [] M _ _
  refine go_iload_n K_R_readCall rfl rfl ?_
  refine go_sipush K_R_readCall rfl zk_sipush_215 ?_
  refine go_icmp_ne K_R_readCall rfl (fun c => ?_) (fun c => ?_)
  · have h := zif_f c h
    refine go_iload_n K_R_readCall rfl rfl ?_
    refine go_sipush K_R_readCall rfl zk_sipush_216 ?_
    refine go_icmp_ne K_R_readCall rfl (fun c => ?_) (fun c => ?_)
    · have h := zif_f c h
      exact go_forget (G_R_readCall_p58 h) (zs_s (zs_s (zs_s (zs_n zs_e))))
    · have h := zif_t c h
      refine go_iload_n K_R_readCall rfl rfl ?_
      refine go_bipush K_R_readCall rfl zk_bipush_123 ?_
      refine go_icmp_ne K_R_readCall rfl (fun c => ?_) (fun c => ?_)
      · have h := zif_f c h
        exact go_forget (G_R_readCall_p58 h) (zs_s (zs_s (zs_s (zs_n zs_e))))
      · have h := zif_t c h
        refine go_aload_n K_R_readCall rfl rfl ?_
        refine go_bipush K_R_readCall rfl zk_bipush_123 ?_
        obtain ⟨M1, h2, h⟩ := zbv_ex h
        refine go_vv (Y' := Y_R_task) (av := [.inl (123 : Int32)]) (rest := []) K_R_readCall rfl zl_12_112 zm_R_task rfl (G_R_task h2) (Nat.le_of_ble_eq_true rfl) (Nat.le_of_ble_eq_true rfl) rfl ?_
        refine go_goto K_R_readCall rfl ?_
        cases h
        exact go_return K_R_readCall rfl rfl
  · have h := zif_t c h
    refine go_aload_n K_R_readCall rfl rfl ?_
    refine go_aload_n K_R_readCall rfl rfl ?_
    refine go_getI K_R_readCall rfl zf_12_130 ?_
    refine go_if_ne K_R_readCall rfl (fun c => ?_) (fun c => ?_)
    · have h := zif_f c h
      exact go_forget (G_R_readCall_p13 h) (zs_s (zs_n (zs_s (zs_n zs_e))))
    · have h := zif_t c h
      refine go_aload_n K_R_readCall rfl rfl ?_
      refine go_iload_n K_R_readCall rfl rfl ?_
      refine go_bipush K_R_readCall rfl zk_bipush_110 ?_
      refine go_bipush K_R_readCall rfl zk_bipush_113 ?_
      obtain ⟨r5, M3, h4, h⟩ := zbi_ex h
      refine go_vi (Y' := Y_R_isIn) (av := [.inl l2, .inl (110 : Int32), .inl (113 : Int32)]) (rest := [.inr 34]) K_R_readCall rfl zl_12_108 zm_R_isIn rfl (G_R_isIn h4) (Nat.le_of_ble_eq_true rfl) (Nat.le_of_ble_eq_true rfl) rfl ?_
      refine go_if_ne K_R_readCall rfl (fun c => ?_) (fun c => ?_)
      · have h := zif_f c h
        refine go_iconst K_R_readCall rfl zk_iconst_0 ?_
        exact go_forget (G_R_readCall_p16 h) (zs_s (zs_n (zs_s (zs_n zs_e))))
      · have h := zif_t c h
        exact go_forget (G_R_readCall_p13 h) (zs_s (zs_n (zs_s (zs_n zs_e))))
def F_R_readExpression_p108 (M : zMem) (l2 : Int32) : Option (zMem) :=
  zbv (F_R_tasksOf M l2 (214 : Int32) ((5000 : Int32) + l2) (213 : Int32)) fun M1 => some M1
set_option maxRecDepth 100000 in
theorem G_R_readExpression_p108 {M : zMem} {l2 : Int32} {y : zMem} (h : F_R_readExpression_p108 M l2 = some y) : zGo Y_R_readExpression 2 108 [some (.inr 34), none, some (.inl l2), none] [] M none y := by
  unfold F_R_readExpression_p108 at h
  refine go_aload_n K_R_readExpression rfl rfl ?_
  refine go_iload_n K_R_readExpression rfl rfl ?_
  refine go_sipush K_R_readExpression rfl zk_sipush_214 ?_
  refine go_sipush K_R_readExpression rfl zk_sipush_5000 ?_
  refine go_iload_n K_R_readExpression rfl rfl ?_
  refine go_iadd K_R_readExpression rfl ?_
  refine go_sipush K_R_readExpression rfl zk_sipush_213 ?_
  obtain ⟨M1, h2, h⟩ := zbv_ex h
  refine go_vv (Y' := Y_R_tasksOf) (av := [.inl l2, .inl (214 : Int32), .inl ((5000 : Int32) + l2), .inl (213 : Int32)]) (rest := []) K_R_readExpression rfl zl_12_116 zm_R_tasksOf rfl (G_R_tasksOf h2) (Nat.le_of_ble_eq_true rfl) (Nat.le_of_ble_eq_true rfl) rfl ?_
  cases h
  exact go_return K_R_readExpression rfl rfl
def F_R_readExpression_p86 (M : zMem) (l1 l2 : Int32) : Option (zMem) :=
  if l1 = (212 : Int32) then (zbv (F_R_tasksOf M (214 : Int32) (213 : Int32) (-1 : Int32) (-1 : Int32)) fun M4 => some M4) else (if l1 = (213 : Int32) then (zbi (F_R_isIn M l2 (132 : Int32) (134 : Int32)) fun r3 M1 => if r3 = 0 then (if l2 = (150 : Int32) then (F_R_readExpression_p108 M1 l2) else (some M1)) else (F_R_readExpression_p108 M1 l2)) else (some M))
set_option maxRecDepth 100000 in
theorem G_R_readExpression_p86 {M : zMem} {l1 l2 : Int32} {y : zMem} (h : F_R_readExpression_p86 M l1 l2 = some y) : zGo Y_R_readExpression 2 86 [some (.inr 34), some (.inl l1), some (.inl l2), none] [] M none y := by
  unfold F_R_readExpression_p86 at h
  refine go_iload_n K_R_readExpression rfl rfl ?_
  refine go_sipush K_R_readExpression rfl zk_sipush_212 ?_
  refine go_icmp_ne K_R_readExpression rfl (fun c => ?_) (fun c => ?_)
  · have h := zif_f c h
    refine go_iload_n K_R_readExpression rfl rfl ?_
    refine go_sipush K_R_readExpression rfl zk_sipush_213 ?_
    refine go_icmp_ne K_R_readExpression rfl (fun c => ?_) (fun c => ?_)
    · have h := zif_f c h
      cases h
      exact go_return K_R_readExpression rfl rfl
    · have h := zif_t c h
      refine go_aload_n K_R_readExpression rfl rfl ?_
      refine go_iload_n K_R_readExpression rfl rfl ?_
      refine go_sipush K_R_readExpression rfl zk_sipush_132 ?_
      refine go_sipush K_R_readExpression rfl zk_sipush_134 ?_
      obtain ⟨r3, M1, h2, h⟩ := zbi_ex h
      refine go_vi (Y' := Y_R_isIn) (av := [.inl l2, .inl (132 : Int32), .inl (134 : Int32)]) (rest := []) K_R_readExpression rfl zl_12_108 zm_R_isIn rfl (G_R_isIn h2) (Nat.le_of_ble_eq_true rfl) (Nat.le_of_ble_eq_true rfl) rfl ?_
      refine go_if_ne K_R_readExpression rfl (fun c => ?_) (fun c => ?_)
      · have h := zif_f c h
        exact go_forget (G_R_readExpression_p108 h) (zs_s (zs_n (zs_s (zs_n zs_e))))
      · have h := zif_t c h
        refine go_iload_n K_R_readExpression rfl rfl ?_
        refine go_sipush K_R_readExpression rfl zk_sipush_150 ?_
        refine go_icmp_ne K_R_readExpression rfl (fun c => ?_) (fun c => ?_)
        · have h := zif_f c h
          cases h
          exact go_return K_R_readExpression rfl rfl
        · have h := zif_t c h
          exact go_forget (G_R_readExpression_p108 h) (zs_s (zs_n (zs_s (zs_n zs_e))))
  · have h := zif_t c h
    refine go_aload_n K_R_readExpression rfl rfl ?_
    refine go_sipush K_R_readExpression rfl zk_sipush_214 ?_
    refine go_sipush K_R_readExpression rfl zk_sipush_213 ?_
    refine go_iconst K_R_readExpression rfl zk_iconst_m1 ?_
    refine go_iconst K_R_readExpression rfl zk_iconst_m1 ?_
    obtain ⟨M4, h5, h⟩ := zbv_ex h
    refine go_vv (Y' := Y_R_tasksOf) (av := [.inl (214 : Int32), .inl (213 : Int32), .inl (-1 : Int32), .inl (-1 : Int32)]) (rest := []) K_R_readExpression rfl zl_12_116 zm_R_tasksOf rfl (G_R_tasksOf h5) (Nat.le_of_ble_eq_true rfl) (Nat.le_of_ble_eq_true rfl) rfl ?_
    refine go_goto K_R_readExpression rfl ?_
    cases h
    exact go_return K_R_readExpression rfl rfl
def F_R_readExpression_p77 (M : zMem) (l2 : Int32) : Option (zMem) :=
  zbv (F_R_tasksOf M l2 (212 : Int32) ((5000 : Int32) + l2) (211 : Int32)) fun M1 => some M1
set_option maxRecDepth 100000 in
theorem G_R_readExpression_p77 {M : zMem} {l2 : Int32} {y : zMem} (h : F_R_readExpression_p77 M l2 = some y) : zGo Y_R_readExpression 2 77 [some (.inr 34), none, some (.inl l2), none] [] M none y := by
  unfold F_R_readExpression_p77 at h
  refine go_aload_n K_R_readExpression rfl rfl ?_
  refine go_iload_n K_R_readExpression rfl rfl ?_
  refine go_sipush K_R_readExpression rfl zk_sipush_212 ?_
  refine go_sipush K_R_readExpression rfl zk_sipush_5000 ?_
  refine go_iload_n K_R_readExpression rfl rfl ?_
  refine go_iadd K_R_readExpression rfl ?_
  refine go_sipush K_R_readExpression rfl zk_sipush_211 ?_
  obtain ⟨M1, h2, h⟩ := zbv_ex h
  refine go_vv (Y' := Y_R_tasksOf) (av := [.inl l2, .inl (212 : Int32), .inl ((5000 : Int32) + l2), .inl (211 : Int32)]) (rest := []) K_R_readExpression rfl zl_12_116 zm_R_tasksOf rfl (G_R_tasksOf h2) (Nat.le_of_ble_eq_true rfl) (Nat.le_of_ble_eq_true rfl) rfl ?_
  refine go_goto K_R_readExpression rfl ?_
  cases h
  exact go_return K_R_readExpression rfl rfl
def F_R_readExpression_p61 (M : zMem) (s1 s2 : Int32) : Option (zMem) :=
  zbv (F_R_tasksOf M s1 s2 (-1 : Int32) (-1 : Int32)) fun M1 => some M1
set_option maxRecDepth 100000 in
theorem G_R_readExpression_p61 {M : zMem} {s1 s2 : Int32} {y : zMem} (h : F_R_readExpression_p61 M s1 s2 = some y) : zGo Y_R_readExpression 2 61 [none, none, none, none] [.inl s2, .inl s1, .inr 34] M none y := by
  unfold F_R_readExpression_p61 at h
  refine go_iconst K_R_readExpression rfl zk_iconst_m1 ?_
  refine go_iconst K_R_readExpression rfl zk_iconst_m1 ?_
  obtain ⟨M1, h2, h⟩ := zbv_ex h
  refine go_vv (Y' := Y_R_tasksOf) (av := [.inl s1, .inl s2, .inl (-1 : Int32), .inl (-1 : Int32)]) (rest := []) K_R_readExpression rfl zl_12_116 zm_R_tasksOf rfl (G_R_tasksOf h2) (Nat.le_of_ble_eq_true rfl) (Nat.le_of_ble_eq_true rfl) rfl ?_
  refine go_goto K_R_readExpression rfl ?_
  cases h
  exact go_return K_R_readExpression rfl rfl
def F_R_readExpression_p56 (M : zMem) (l3 s1 : Int32) : Option (zMem) :=
  if l3 = 0 then (F_R_readExpression_p61 M s1 ((-1 : Int32))) else (F_R_readExpression_p61 M s1 ((212 : Int32)))
set_option maxRecDepth 100000 in
theorem G_R_readExpression_p56 {M : zMem} {l3 s1 : Int32} {y : zMem} (h : F_R_readExpression_p56 M l3 s1 = some y) : zGo Y_R_readExpression 2 56 [none, none, none, some (.inl l3)] [.inl s1, .inr 34] M none y := by
  unfold F_R_readExpression_p56 at h
  refine go_iload_n K_R_readExpression rfl rfl ?_
  refine go_if_eq K_R_readExpression rfl (fun c => ?_) (fun c => ?_)
  · have h := zif_t c h
    refine go_iconst K_R_readExpression rfl zk_iconst_m1 ?_
    exact go_forget (G_R_readExpression_p61 h) (zs_n (zs_n (zs_n (zs_n zs_e))))
  · have h := zif_f c h
    refine go_sipush K_R_readExpression rfl zk_sipush_212 ?_
    refine go_goto K_R_readExpression rfl ?_
    exact go_forget (G_R_readExpression_p61 h) (zs_n (zs_n (zs_n (zs_n zs_e))))
def F_R_readExpression_p50 (M : zMem) (l2 l3 : Int32) : Option (zMem) :=
  if l3 = 0 then (F_R_readExpression_p56 M l3 ((212 : Int32))) else (F_R_readExpression_p56 M l3 l2)
set_option maxRecDepth 100000 in
theorem G_R_readExpression_p50 {M : zMem} {l2 l3 : Int32} {y : zMem} (h : F_R_readExpression_p50 M l2 l3 = some y) : zGo Y_R_readExpression 2 50 [some (.inr 34), none, some (.inl l2), some (.inl l3)] [] M none y := by
  unfold F_R_readExpression_p50 at h
  refine go_aload_n K_R_readExpression rfl rfl ?_
  refine go_iload_n K_R_readExpression rfl rfl ?_
  refine go_if_eq K_R_readExpression rfl (fun c => ?_) (fun c => ?_)
  · have h := zif_t c h
    refine go_sipush K_R_readExpression rfl zk_sipush_212 ?_
    exact go_forget (G_R_readExpression_p56 h) (zs_n (zs_n (zs_n (zs_s zs_e))))
  · have h := zif_f c h
    refine go_iload_n K_R_readExpression rfl rfl ?_
    refine go_goto K_R_readExpression rfl ?_
    exact go_forget (G_R_readExpression_p56 h) (zs_n (zs_n (zs_n (zs_s zs_e))))
def F_R_readExpression_p40 (M : zMem) (l2 s0 : Int32) : Option (zMem) :=
  zbv (F_R_task M (211 : Int32)) fun M1 => if l2 = (131 : Int32) then (zbv (F_R_task M1 (6000 : Int32)) fun M3 => F_R_readExpression_p50 M3 l2 s0) else (F_R_readExpression_p50 M1 l2 s0)
set_option maxRecDepth 100000 in
theorem G_R_readExpression_p40 {M : zMem} {l2 s0 : Int32} {y : zMem} (h : F_R_readExpression_p40 M l2 s0 = some y) : zGo Y_R_readExpression 2 40 [some (.inr 34), none, some (.inl l2), none] [.inl s0] M none y := by
  unfold F_R_readExpression_p40 at h
  refine go_istore_n K_R_readExpression rfl (Nat.le_of_ble_eq_true rfl) ?_
  refine go_aload_n K_R_readExpression rfl rfl ?_
  refine go_sipush K_R_readExpression rfl zk_sipush_211 ?_
  obtain ⟨M1, h2, h⟩ := zbv_ex h
  refine go_vv (Y' := Y_R_task) (av := [.inl (211 : Int32)]) (rest := []) K_R_readExpression rfl zl_12_112 zm_R_task rfl (G_R_task h2) (Nat.le_of_ble_eq_true rfl) (Nat.le_of_ble_eq_true rfl) rfl ?_
  refine go_iload_n K_R_readExpression rfl rfl ?_
  refine go_sipush K_R_readExpression rfl zk_sipush_131 ?_
  refine go_icmp_ne K_R_readExpression rfl (fun c => ?_) (fun c => ?_)
  · have h := zif_f c h
    exact go_forget (G_R_readExpression_p50 h) (zs_s (zs_n (zs_s (zs_s zs_e))))
  · have h := zif_t c h
    refine go_aload_n K_R_readExpression rfl rfl ?_
    refine go_sipush K_R_readExpression rfl zk_sipush_6000 ?_
    obtain ⟨M3, h4, h⟩ := zbv_ex h
    refine go_vv (Y' := Y_R_task) (av := [.inl (6000 : Int32)]) (rest := []) K_R_readExpression rfl zl_12_112 zm_R_task rfl (G_R_task h4) (Nat.le_of_ble_eq_true rfl) (Nat.le_of_ble_eq_true rfl) rfl ?_
    exact go_forget (G_R_readExpression_p50 h) (zs_s (zs_n (zs_s (zs_s zs_e))))
def F_R_readExpression_p37 (M : zMem) (l2 : Int32) : Option (zMem) :=
  F_R_readExpression_p40 M l2 ((1 : Int32))
set_option maxRecDepth 100000 in
theorem G_R_readExpression_p37 {M : zMem} {l2 : Int32} {y : zMem} (h : F_R_readExpression_p37 M l2 = some y) : zGo Y_R_readExpression 2 37 [some (.inr 34), none, some (.inl l2), none] [] M none y := by
  unfold F_R_readExpression_p37 at h
  refine go_iconst K_R_readExpression rfl zk_iconst_1 ?_
  refine go_goto K_R_readExpression rfl ?_
  exact go_forget (G_R_readExpression_p40 h) (zs_s (zs_n (zs_s (zs_n zs_e))))
def F_R_readExpression_p28 (M : zMem) (l1 l2 : Int32) : Option (zMem) :=
  if l1 = (210 : Int32) then (if l2 = (130 : Int32) then (F_R_readExpression_p37 M l2) else (if l2 = (131 : Int32) then (F_R_readExpression_p37 M l2) else (F_R_readExpression_p40 M l2 ((0 : Int32))))) else (if l1 = (211 : Int32) then (if l2 = (130 : Int32) then (F_R_readExpression_p77 M l2) else (if l2 = (131 : Int32) then (F_R_readExpression_p77 M l2) else (if l2 = (151 : Int32) then (F_R_readExpression_p77 M l2) else (F_R_readExpression_p86 M l1 l2)))) else (F_R_readExpression_p86 M l1 l2))
set_option maxRecDepth 100000 in
theorem G_R_readExpression_p28 {M : zMem} {l1 l2 : Int32} {y : zMem} (h : F_R_readExpression_p28 M l1 l2 = some y) : zGo Y_R_readExpression 2 28 [some (.inr 34), some (.inl l1), some (.inl l2), none] [] M none y := by
  unfold F_R_readExpression_p28 at h
  refine go_iload_n K_R_readExpression rfl rfl ?_
  refine go_sipush K_R_readExpression rfl zk_sipush_210 ?_
  refine go_icmp_ne K_R_readExpression rfl (fun c => ?_) (fun c => ?_)
  · have h := zif_f c h
    refine go_iload_n K_R_readExpression rfl rfl ?_
    refine go_sipush K_R_readExpression rfl zk_sipush_211 ?_
    refine go_icmp_ne K_R_readExpression rfl (fun c => ?_) (fun c => ?_)
    · have h := zif_f c h
      exact go_forget (G_R_readExpression_p86 h) (zs_s (zs_s (zs_s (zs_n zs_e))))
    · have h := zif_t c h
      refine go_iload_n K_R_readExpression rfl rfl ?_
      refine go_sipush K_R_readExpression rfl zk_sipush_130 ?_
      refine go_icmp_eq K_R_readExpression rfl (fun c => ?_) (fun c => ?_)
      · have h := zif_t c h
        exact go_forget (G_R_readExpression_p77 h) (zs_s (zs_n (zs_s (zs_n zs_e))))
      · have h := zif_f c h
        refine go_iload_n K_R_readExpression rfl rfl ?_
        refine go_sipush K_R_readExpression rfl zk_sipush_131 ?_
        refine go_icmp_eq K_R_readExpression rfl (fun c => ?_) (fun c => ?_)
        · have h := zif_t c h
          exact go_forget (G_R_readExpression_p77 h) (zs_s (zs_n (zs_s (zs_n zs_e))))
        · have h := zif_f c h
          refine go_iload_n K_R_readExpression rfl rfl ?_
          refine go_sipush K_R_readExpression rfl zk_sipush_151 ?_
          refine go_icmp_ne K_R_readExpression rfl (fun c => ?_) (fun c => ?_)
          · have h := zif_f c h
            exact go_forget (G_R_readExpression_p86 h) (zs_s (zs_s (zs_s (zs_n zs_e))))
          · have h := zif_t c h
            exact go_forget (G_R_readExpression_p77 h) (zs_s (zs_n (zs_s (zs_n zs_e))))
  · have h := zif_t c h
    refine go_iload_n K_R_readExpression rfl rfl ?_
    refine go_sipush K_R_readExpression rfl zk_sipush_130 ?_
    refine go_icmp_eq K_R_readExpression rfl (fun c => ?_) (fun c => ?_)
    · have h := zif_t c h
      exact go_forget (G_R_readExpression_p37 h) (zs_s (zs_n (zs_s (zs_n zs_e))))
    · have h := zif_f c h
      refine go_iload_n K_R_readExpression rfl rfl ?_
      refine go_sipush K_R_readExpression rfl zk_sipush_131 ?_
      refine go_icmp_ne K_R_readExpression rfl (fun c => ?_) (fun c => ?_)
      · have h := zif_f c h
        refine go_iconst K_R_readExpression rfl zk_iconst_0 ?_
        exact go_forget (G_R_readExpression_p40 h) (zs_s (zs_n (zs_s (zs_n zs_e))))
      · have h := zif_t c h
        exact go_forget (G_R_readExpression_p37 h) (zs_s (zs_n (zs_s (zs_n zs_e))))
def F_R_readExpression (M : zMem) (l1 l2 : Int32) : Option (zMem) :=
  if l1 = (208 : Int32) then (zbv (F_R_tasksOf M (210 : Int32) (209 : Int32) (-1 : Int32) (-1 : Int32)) fun M6 => some M6) else (if l1 = (209 : Int32) then (zbi (F_R_isIn M l2 (140 : Int32) (145 : Int32)) fun r3 M1 => if r3 = 0 then (F_R_readExpression_p28 M1 l1 l2) else (zbv (F_R_tasksOf M1 l2 (210 : Int32) ((5000 : Int32) + l2) (-1 : Int32)) fun M4 => some M4)) else (F_R_readExpression_p28 M l1 l2))
set_option maxRecDepth 100000 in
theorem G_R_readExpression {M : zMem} {l1 l2 : Int32} {y : zMem} (h : F_R_readExpression M l1 l2 = some y) : zGo Y_R_readExpression 2 0 (zal Y_R_readExpression [.inr 34, .inl l1, .inl l2]) [] M none y := by
  unfold F_R_readExpression at h
  show zGo Y_R_readExpression 2 0 [some (.inr 34), some (.inl l1), some (.inl l2), none] [] M _ _
  refine go_iload_n K_R_readExpression rfl rfl ?_
  refine go_sipush K_R_readExpression rfl zk_sipush_208 ?_
  refine go_icmp_ne K_R_readExpression rfl (fun c => ?_) (fun c => ?_)
  · have h := zif_f c h
    refine go_iload_n K_R_readExpression rfl rfl ?_
    refine go_sipush K_R_readExpression rfl zk_sipush_209 ?_
    refine go_icmp_ne K_R_readExpression rfl (fun c => ?_) (fun c => ?_)
    · have h := zif_f c h
      exact go_forget (G_R_readExpression_p28 h) (zs_s (zs_s (zs_s (zs_n zs_e))))
    · have h := zif_t c h
      refine go_aload_n K_R_readExpression rfl rfl ?_
      refine go_iload_n K_R_readExpression rfl rfl ?_
      refine go_sipush K_R_readExpression rfl zk_sipush_140 ?_
      refine go_sipush K_R_readExpression rfl zk_sipush_145 ?_
      obtain ⟨r3, M1, h2, h⟩ := zbi_ex h
      refine go_vi (Y' := Y_R_isIn) (av := [.inl l2, .inl (140 : Int32), .inl (145 : Int32)]) (rest := []) K_R_readExpression rfl zl_12_108 zm_R_isIn rfl (G_R_isIn h2) (Nat.le_of_ble_eq_true rfl) (Nat.le_of_ble_eq_true rfl) rfl ?_
      refine go_if_eq K_R_readExpression rfl (fun c => ?_) (fun c => ?_)
      · have h := zif_t c h
        exact go_forget (G_R_readExpression_p28 h) (zs_s (zs_s (zs_s (zs_n zs_e))))
      · have h := zif_f c h
        refine go_aload_n K_R_readExpression rfl rfl ?_
        refine go_iload_n K_R_readExpression rfl rfl ?_
        refine go_sipush K_R_readExpression rfl zk_sipush_210 ?_
        refine go_sipush K_R_readExpression rfl zk_sipush_5000 ?_
        refine go_iload_n K_R_readExpression rfl rfl ?_
        refine go_iadd K_R_readExpression rfl ?_
        refine go_iconst K_R_readExpression rfl zk_iconst_m1 ?_
        obtain ⟨M4, h5, h⟩ := zbv_ex h
        refine go_vv (Y' := Y_R_tasksOf) (av := [.inl l2, .inl (210 : Int32), .inl ((5000 : Int32) + l2), .inl (-1 : Int32)]) (rest := []) K_R_readExpression rfl zl_12_116 zm_R_tasksOf rfl (G_R_tasksOf h5) (Nat.le_of_ble_eq_true rfl) (Nat.le_of_ble_eq_true rfl) rfl ?_
        refine go_goto K_R_readExpression rfl ?_
        cases h
        exact go_return K_R_readExpression rfl rfl
  · have h := zif_t c h
    refine go_aload_n K_R_readExpression rfl rfl ?_
    refine go_sipush K_R_readExpression rfl zk_sipush_210 ?_
    refine go_sipush K_R_readExpression rfl zk_sipush_209 ?_
    refine go_iconst K_R_readExpression rfl zk_iconst_m1 ?_
    refine go_iconst K_R_readExpression rfl zk_iconst_m1 ?_
    obtain ⟨M6, h7, h⟩ := zbv_ex h
    refine go_vv (Y' := Y_R_tasksOf) (av := [.inl (210 : Int32), .inl (209 : Int32), .inl (-1 : Int32), .inl (-1 : Int32)]) (rest := []) K_R_readExpression rfl zl_12_116 zm_R_tasksOf rfl (G_R_tasksOf h7) (Nat.le_of_ble_eq_true rfl) (Nat.le_of_ble_eq_true rfl) rfl ?_
    refine go_goto K_R_readExpression rfl ?_
    cases h
    exact go_return K_R_readExpression rfl rfl
def F_R_readFactor_p24 (M : zMem) (s0 : Int32) : Option (zMem) :=
  zbv (F_R_push M s0) fun M1 => zset M1 34 6 ((M1 34 6) + (1 : Int32)) fun M3 => some M3
set_option maxRecDepth 100000 in
theorem G_R_readFactor_p24 {M : zMem} {s0 : Int32} {y : zMem} (h : F_R_readFactor_p24 M s0 = some y) : zGo Y_R_readFactor 2 24 [some (.inr 34), none, none] [.inl s0] M none y := by
  unfold F_R_readFactor_p24 at h
  refine go_istore_n K_R_readFactor rfl (Nat.le_of_ble_eq_true rfl) ?_
  refine go_aload_n K_R_readFactor rfl rfl ?_
  refine go_iload_n K_R_readFactor rfl rfl ?_
  obtain ⟨M1, h2, h⟩ := zbv_ex h
  refine go_vv (Y' := Y_R_push) (av := [.inl s0]) (rest := []) K_R_readFactor rfl zl_12_124 zm_R_push rfl (G_R_push h2) (Nat.le_of_ble_eq_true rfl) (Nat.le_of_ble_eq_true rfl) rfl ?_
  refine go_aload_n K_R_readFactor rfl rfl ?_
  refine go_dup K_R_readFactor rfl ?_
  refine go_getI K_R_readFactor rfl zf_12_96 ?_
  refine go_iconst K_R_readFactor rfl zk_iconst_1 ?_
  refine go_iadd K_R_readFactor rfl ?_
  obtain ⟨M3, e4, h⟩ := zset_ex h
  refine go_putI' e4 K_R_readFactor rfl zf_12_96 ?_
  refine go_goto K_R_readFactor rfl ?_
  cases h
  exact go_return K_R_readFactor rfl rfl
def F_R_readFactor (M : zMem) (l1 : Int32) : Option (zMem) :=
  zbi (F_R_isIn M l1 (0 : Int32) (107 : Int32)) fun r3 M1 => if r3 = 0 then (if l1 = (108 : Int32) then (zbv (F_R_task M1 (7000 : Int32)) fun M15 => zbv (F_R_tasksOf M15 (108 : Int32) (125 : Int32) (208 : Int32) (126 : Int32)) fun M17 => some M17) else (zbi (F_R_isIn M1 l1 (110 : Int32) (113 : Int32)) fun r6 M4 => if r6 = 0 then (if l1 = (122 : Int32) then (zbv (F_R_tasksOf M4 (122 : Int32) (208 : Int32) (123 : Int32) (-1 : Int32)) fun M11 => some M11) else (if l1 = (152 : Int32) then (zbv (F_R_tasksOf M4 (152 : Int32) (214 : Int32) (8000 : Int32) (-1 : Int32)) fun M9 => some M9) else (zset M4 34 7 ((1 : Int32)) fun M7 => some M7))) else (zbv (F_R_task M4 (215 : Int32)) fun M13 => some M13))) else (if (100 : Int32) ≤ l1 then (zbi (F_R_node M1 (1 : Int32) (l1 - (100 : Int32)) (-1 : Int32) (-1 : Int32)) fun r21 M19 => F_R_readFactor_p24 M19 r21) else (zbi (F_R_node M1 (0 : Int32) l1 (-1 : Int32) (-1 : Int32)) fun r24 M22 => F_R_readFactor_p24 M22 r24))
set_option maxRecDepth 100000 in
theorem G_R_readFactor {M : zMem} {l1 : Int32} {y : zMem} (h : F_R_readFactor M l1 = some y) : zGo Y_R_readFactor 2 0 (zal Y_R_readFactor [.inr 34, .inl l1]) [] M none y := by
  unfold F_R_readFactor at h
  show zGo Y_R_readFactor 2 0 [some (.inr 34), some (.inl l1), none] [] M _ _
  refine go_aload_n K_R_readFactor rfl rfl ?_
  refine go_iload_n K_R_readFactor rfl rfl ?_
  refine go_iconst K_R_readFactor rfl zk_iconst_0 ?_
  refine go_bipush K_R_readFactor rfl zk_bipush_107 ?_
  obtain ⟨r3, M1, h2, h⟩ := zbi_ex h
  refine go_vi (Y' := Y_R_isIn) (av := [.inl l1, .inl (0 : Int32), .inl (107 : Int32)]) (rest := []) K_R_readFactor rfl zl_12_108 zm_R_isIn rfl (G_R_isIn h2) (Nat.le_of_ble_eq_true rfl) (Nat.le_of_ble_eq_true rfl) rfl ?_
  refine go_if_eq K_R_readFactor rfl (fun c => ?_) (fun c => ?_)
  · have h := zif_t c h
    refine go_iload_n K_R_readFactor rfl rfl ?_
    refine go_bipush K_R_readFactor rfl zk_bipush_108 ?_
    refine go_icmp_ne K_R_readFactor rfl (fun c => ?_) (fun c => ?_)
    · have h := zif_f c h
      refine go_aload_n K_R_readFactor rfl rfl ?_
      refine go_iload_n K_R_readFactor rfl rfl ?_
      refine go_bipush K_R_readFactor rfl zk_bipush_110 ?_
      refine go_bipush K_R_readFactor rfl zk_bipush_113 ?_
      obtain ⟨r6, M4, h5, h⟩ := zbi_ex h
      refine go_vi (Y' := Y_R_isIn) (av := [.inl l1, .inl (110 : Int32), .inl (113 : Int32)]) (rest := []) K_R_readFactor rfl zl_12_108 zm_R_isIn rfl (G_R_isIn h5) (Nat.le_of_ble_eq_true rfl) (Nat.le_of_ble_eq_true rfl) rfl ?_
      refine go_if_eq K_R_readFactor rfl (fun c => ?_) (fun c => ?_)
      · have h := zif_t c h
        refine go_iload_n K_R_readFactor rfl rfl ?_
        refine go_bipush K_R_readFactor rfl zk_bipush_122 ?_
        refine go_icmp_ne K_R_readFactor rfl (fun c => ?_) (fun c => ?_)
        · have h := zif_f c h
          refine go_iload_n K_R_readFactor rfl rfl ?_
          refine go_sipush K_R_readFactor rfl zk_sipush_152 ?_
          refine go_icmp_ne K_R_readFactor rfl (fun c => ?_) (fun c => ?_)
          · have h := zif_f c h
            refine go_aload_n K_R_readFactor rfl rfl ?_
            refine go_iconst K_R_readFactor rfl zk_iconst_1 ?_
            obtain ⟨M7, e8, h⟩ := zset_ex h
            refine go_putZ' e8 K_R_readFactor rfl zf_12_130 (Or.inr rfl) ?_
            cases h
            exact go_return K_R_readFactor rfl rfl
          · have h := zif_t c h
            refine go_aload_n K_R_readFactor rfl rfl ?_
            refine go_sipush K_R_readFactor rfl zk_sipush_152 ?_
            refine go_sipush K_R_readFactor rfl zk_sipush_214 ?_
            refine go_sipush K_R_readFactor rfl zk_sipush_8000 ?_
            refine go_iconst K_R_readFactor rfl zk_iconst_m1 ?_
            obtain ⟨M9, h10, h⟩ := zbv_ex h
            refine go_vv (Y' := Y_R_tasksOf) (av := [.inl (152 : Int32), .inl (214 : Int32), .inl (8000 : Int32), .inl (-1 : Int32)]) (rest := []) K_R_readFactor rfl zl_12_116 zm_R_tasksOf rfl (G_R_tasksOf h10) (Nat.le_of_ble_eq_true rfl) (Nat.le_of_ble_eq_true rfl) rfl ?_
            refine go_goto K_R_readFactor rfl ?_
            cases h
            exact go_return K_R_readFactor rfl rfl
        · have h := zif_t c h
          refine go_aload_n K_R_readFactor rfl rfl ?_
          refine go_bipush K_R_readFactor rfl zk_bipush_122 ?_
          refine go_sipush K_R_readFactor rfl zk_sipush_208 ?_
          refine go_bipush K_R_readFactor rfl zk_bipush_123 ?_
          refine go_iconst K_R_readFactor rfl zk_iconst_m1 ?_
          obtain ⟨M11, h12, h⟩ := zbv_ex h
          refine go_vv (Y' := Y_R_tasksOf) (av := [.inl (122 : Int32), .inl (208 : Int32), .inl (123 : Int32), .inl (-1 : Int32)]) (rest := []) K_R_readFactor rfl zl_12_116 zm_R_tasksOf rfl (G_R_tasksOf h12) (Nat.le_of_ble_eq_true rfl) (Nat.le_of_ble_eq_true rfl) rfl ?_
          refine go_goto K_R_readFactor rfl ?_
          cases h
          exact go_return K_R_readFactor rfl rfl
      · have h := zif_f c h
        refine go_aload_n K_R_readFactor rfl rfl ?_
        refine go_sipush K_R_readFactor rfl zk_sipush_215 ?_
        obtain ⟨M13, h14, h⟩ := zbv_ex h
        refine go_vv (Y' := Y_R_task) (av := [.inl (215 : Int32)]) (rest := []) K_R_readFactor rfl zl_12_112 zm_R_task rfl (G_R_task h14) (Nat.le_of_ble_eq_true rfl) (Nat.le_of_ble_eq_true rfl) rfl ?_
        refine go_goto K_R_readFactor rfl ?_
        cases h
        exact go_return K_R_readFactor rfl rfl
    · have h := zif_t c h
      refine go_aload_n K_R_readFactor rfl rfl ?_
      refine go_sipush K_R_readFactor rfl zk_sipush_7000 ?_
      obtain ⟨M15, h16, h⟩ := zbv_ex h
      refine go_vv (Y' := Y_R_task) (av := [.inl (7000 : Int32)]) (rest := []) K_R_readFactor rfl zl_12_112 zm_R_task rfl (G_R_task h16) (Nat.le_of_ble_eq_true rfl) (Nat.le_of_ble_eq_true rfl) rfl ?_
      refine go_aload_n K_R_readFactor rfl rfl ?_
      refine go_bipush K_R_readFactor rfl zk_bipush_108 ?_
      refine go_bipush K_R_readFactor rfl zk_bipush_125 ?_
      refine go_sipush K_R_readFactor rfl zk_sipush_208 ?_
      refine go_bipush K_R_readFactor rfl zk_bipush_126 ?_
      obtain ⟨M17, h18, h⟩ := zbv_ex h
      refine go_vv (Y' := Y_R_tasksOf) (av := [.inl (108 : Int32), .inl (125 : Int32), .inl (208 : Int32), .inl (126 : Int32)]) (rest := []) K_R_readFactor rfl zl_12_116 zm_R_tasksOf rfl (G_R_tasksOf h18) (Nat.le_of_ble_eq_true rfl) (Nat.le_of_ble_eq_true rfl) rfl ?_
      refine go_goto K_R_readFactor rfl ?_
      cases h
      exact go_return K_R_readFactor rfl rfl
  · have h := zif_f c h
    refine go_iload_n K_R_readFactor rfl rfl ?_
    refine go_bipush K_R_readFactor rfl zk_bipush_100 ?_
    refine go_icmp_ge K_R_readFactor rfl (fun c => ?_) (fun c => ?_)
    · have h := zif_t c h
      refine go_aload_n K_R_readFactor rfl rfl ?_
      refine go_iconst K_R_readFactor rfl zk_iconst_1 ?_
      refine go_iload_n K_R_readFactor rfl rfl ?_
      refine go_bipush K_R_readFactor rfl zk_bipush_100 ?_
      refine go_isub K_R_readFactor rfl ?_
      refine go_iconst K_R_readFactor rfl zk_iconst_m1 ?_
      refine go_iconst K_R_readFactor rfl zk_iconst_m1 ?_
      obtain ⟨r21, M19, h20, h⟩ := zbi_ex h
      refine go_vi (Y' := Y_R_node) (av := [.inl (1 : Int32), .inl (l1 - (100 : Int32)), .inl (-1 : Int32), .inl (-1 : Int32)]) (rest := []) K_R_readFactor rfl zl_12_120 zm_R_node rfl (G_R_node h20) (Nat.le_of_ble_eq_true rfl) (Nat.le_of_ble_eq_true rfl) rfl ?_
      exact go_forget (G_R_readFactor_p24 h) (zs_s (zs_n (zs_n zs_e)))
    · have h := zif_f c h
      refine go_aload_n K_R_readFactor rfl rfl ?_
      refine go_iconst K_R_readFactor rfl zk_iconst_0 ?_
      refine go_iload_n K_R_readFactor rfl rfl ?_
      refine go_iconst K_R_readFactor rfl zk_iconst_m1 ?_
      refine go_iconst K_R_readFactor rfl zk_iconst_m1 ?_
      obtain ⟨r24, M22, h23, h⟩ := zbi_ex h
      refine go_vi (Y' := Y_R_node) (av := [.inl (0 : Int32), .inl l1, .inl (-1 : Int32), .inl (-1 : Int32)]) (rest := []) K_R_readFactor rfl zl_12_120 zm_R_node rfl (G_R_node h23) (Nat.le_of_ble_eq_true rfl) (Nat.le_of_ble_eq_true rfl) rfl ?_
      refine go_goto K_R_readFactor rfl ?_
      exact go_forget (G_R_readFactor_p24 h) (zs_s (zs_n (zs_n zs_e)))
def F_R_readIf (M : zMem) (l1 : Int32) : Option (zMem) :=
  if l1 = (173 : Int32) then (zbv (F_R_task M (27000 : Int32)) fun M7 => zbv (F_R_tasksOf M7 (161 : Int32) (205 : Int32) (218 : Int32) (-1 : Int32)) fun M9 => zbv (F_R_tasksOf M9 (173 : Int32) (208 : Int32) (-1 : Int32) (-1 : Int32)) fun M11 => some M11) else (if l1 = (162 : Int32) then (zbv (F_R_tasksOf M (162 : Int32) (205 : Int32) (27000 : Int32) (-1 : Int32)) fun M5 => some M5) else (zbv (F_R_push M (-1 : Int32)) fun M1 => zbv (F_R_task M1 (27000 : Int32)) fun M3 => some M3))
set_option maxRecDepth 100000 in
theorem G_R_readIf {M : zMem} {l1 : Int32} {y : zMem} (h : F_R_readIf M l1 = some y) : zGo Y_R_readIf 2 0 (zal Y_R_readIf [.inr 34, .inl l1]) [] M none y := by
  unfold F_R_readIf at h
  show zGo Y_R_readIf 2 0 [some (.inr 34), some (.inl l1)] [] M _ _
  refine go_iload_n K_R_readIf rfl rfl ?_
  refine go_sipush K_R_readIf rfl zk_sipush_173 ?_
  refine go_icmp_ne K_R_readIf rfl (fun c => ?_) (fun c => ?_)
  · have h := zif_f c h
    refine go_iload_n K_R_readIf rfl rfl ?_
    refine go_sipush K_R_readIf rfl zk_sipush_162 ?_
    refine go_icmp_ne K_R_readIf rfl (fun c => ?_) (fun c => ?_)
    · have h := zif_f c h
      refine go_aload_n K_R_readIf rfl rfl ?_
      refine go_iconst K_R_readIf rfl zk_iconst_m1 ?_
      obtain ⟨M1, h2, h⟩ := zbv_ex h
      refine go_vv (Y' := Y_R_push) (av := [.inl (-1 : Int32)]) (rest := []) K_R_readIf rfl zl_12_124 zm_R_push rfl (G_R_push h2) (Nat.le_of_ble_eq_true rfl) (Nat.le_of_ble_eq_true rfl) rfl ?_
      refine go_aload_n K_R_readIf rfl rfl ?_
      refine go_sipush K_R_readIf rfl zk_sipush_27000 ?_
      obtain ⟨M3, h4, h⟩ := zbv_ex h
      refine go_vv (Y' := Y_R_task) (av := [.inl (27000 : Int32)]) (rest := []) K_R_readIf rfl zl_12_112 zm_R_task rfl (G_R_task h4) (Nat.le_of_ble_eq_true rfl) (Nat.le_of_ble_eq_true rfl) rfl ?_
      cases h
      exact go_return K_R_readIf rfl rfl
    · have h := zif_t c h
      refine go_aload_n K_R_readIf rfl rfl ?_
      refine go_sipush K_R_readIf rfl zk_sipush_162 ?_
      refine go_sipush K_R_readIf rfl zk_sipush_205 ?_
      refine go_sipush K_R_readIf rfl zk_sipush_27000 ?_
      refine go_iconst K_R_readIf rfl zk_iconst_m1 ?_
      obtain ⟨M5, h6, h⟩ := zbv_ex h
      refine go_vv (Y' := Y_R_tasksOf) (av := [.inl (162 : Int32), .inl (205 : Int32), .inl (27000 : Int32), .inl (-1 : Int32)]) (rest := []) K_R_readIf rfl zl_12_116 zm_R_tasksOf rfl (G_R_tasksOf h6) (Nat.le_of_ble_eq_true rfl) (Nat.le_of_ble_eq_true rfl) rfl ?_
      refine go_goto K_R_readIf rfl ?_
      cases h
      exact go_return K_R_readIf rfl rfl
  · have h := zif_t c h
    refine go_aload_n K_R_readIf rfl rfl ?_
    refine go_sipush K_R_readIf rfl zk_sipush_27000 ?_
    obtain ⟨M7, h8, h⟩ := zbv_ex h
    refine go_vv (Y' := Y_R_task) (av := [.inl (27000 : Int32)]) (rest := []) K_R_readIf rfl zl_12_112 zm_R_task rfl (G_R_task h8) (Nat.le_of_ble_eq_true rfl) (Nat.le_of_ble_eq_true rfl) rfl ?_
    refine go_aload_n K_R_readIf rfl rfl ?_
    refine go_sipush K_R_readIf rfl zk_sipush_161 ?_
    refine go_sipush K_R_readIf rfl zk_sipush_205 ?_
    refine go_sipush K_R_readIf rfl zk_sipush_218 ?_
    refine go_iconst K_R_readIf rfl zk_iconst_m1 ?_
    obtain ⟨M9, h10, h⟩ := zbv_ex h
    refine go_vv (Y' := Y_R_tasksOf) (av := [.inl (161 : Int32), .inl (205 : Int32), .inl (218 : Int32), .inl (-1 : Int32)]) (rest := []) K_R_readIf rfl zl_12_116 zm_R_tasksOf rfl (G_R_tasksOf h10) (Nat.le_of_ble_eq_true rfl) (Nat.le_of_ble_eq_true rfl) rfl ?_
    refine go_aload_n K_R_readIf rfl rfl ?_
    refine go_sipush K_R_readIf rfl zk_sipush_173 ?_
    refine go_sipush K_R_readIf rfl zk_sipush_208 ?_
    refine go_iconst K_R_readIf rfl zk_iconst_m1 ?_
    refine go_iconst K_R_readIf rfl zk_iconst_m1 ?_
    obtain ⟨M11, h12, h⟩ := zbv_ex h
    refine go_vv (Y' := Y_R_tasksOf) (av := [.inl (173 : Int32), .inl (208 : Int32), .inl (-1 : Int32), .inl (-1 : Int32)]) (rest := []) K_R_readIf rfl zl_12_116 zm_R_tasksOf rfl (G_R_tasksOf h12) (Nat.le_of_ble_eq_true rfl) (Nat.le_of_ble_eq_true rfl) rfl ?_
    refine go_goto K_R_readIf rfl ?_
    cases h
    exact go_return K_R_readIf rfl rfl
def F_R_noteFault_p11 (M : zMem) (s1 : Int32) : Option (zMem) :=
  zset M 34 28 s1 fun M1 => some M1
set_option maxRecDepth 100000 in
theorem G_R_noteFault_p11 {M : zMem} {s1 : Int32} {y : zMem} (h : F_R_noteFault_p11 M s1 = some y) : zGo Y_R_noteFault 0 11 [none, none] [.inl s1, .inr 34] M none y := by
  unfold F_R_noteFault_p11 at h
  obtain ⟨M1, e2, h⟩ := zset_ex h
  refine go_putI' e2 K_R_noteFault rfl zf_12_150 ?_
  cases h
  exact go_return K_R_noteFault rfl rfl
def F_R_noteFault_p9 (M : zMem) : Option (zMem) :=
  F_R_noteFault_p11 M (M 34 28)
set_option maxRecDepth 100000 in
theorem G_R_noteFault_p9 {M : zMem} {y : zMem} (h : F_R_noteFault_p9 M  = some y) : zGo Y_R_noteFault 0 9 [some (.inr 34), none] [.inr 34] M none y := by
  unfold F_R_noteFault_p9 at h
  refine go_aload_n K_R_noteFault rfl rfl ?_
  refine go_getI K_R_noteFault rfl zf_12_150 ?_
  exact go_forget (G_R_noteFault_p11 h) (zs_n (zs_n zs_e))
def F_R_noteFault (M : zMem) (l1 : Int32) : Option (zMem) :=
  if l1 = 0 then (F_R_noteFault_p9 M ) else (if 0 ≤ (M 34 28) then (F_R_noteFault_p9 M ) else (F_R_noteFault_p11 M (M 34 6)))
set_option maxRecDepth 100000 in
theorem G_R_noteFault {M : zMem} {l1 : Int32} {y : zMem} (h : F_R_noteFault M l1 = some y) : zGo Y_R_noteFault 0 0 (zal Y_R_noteFault [.inr 34, .inl l1]) [] M none y := by
  unfold F_R_noteFault at h
  show zGo Y_R_noteFault 0 0 [some (.inr 34), some (.inl l1)] [] M _ _
  refine go_aload_n K_R_noteFault rfl rfl ?_
  refine go_iload_n K_R_noteFault rfl rfl ?_
  refine go_if_eq K_R_noteFault rfl (fun c => ?_) (fun c => ?_)
  · have h := zif_t c h
    exact go_forget (G_R_noteFault_p9 h) (zs_s (zs_n zs_e))
  · have h := zif_f c h
    refine go_aload_n K_R_noteFault rfl rfl ?_
    refine go_getI K_R_noteFault rfl zf_12_150 ?_
    refine go_if_ge K_R_noteFault rfl (fun c => ?_) (fun c => ?_)
    · have h := zif_t c h
      exact go_forget (G_R_noteFault_p9 h) (zs_s (zs_n zs_e))
    · have h := zif_f c h
      refine go_aload_n K_R_noteFault rfl rfl ?_
      refine go_getI K_R_noteFault rfl zf_12_96 ?_
      refine go_goto K_R_noteFault rfl ?_
      exact go_forget (G_R_noteFault_p11 h) (zs_n (zs_n zs_e))
def F_R_readNames_p135 (M : zMem) : Option (zMem) :=
  zset M 34 6 ((M 34 6) + (1 : Int32)) fun M1 => some M1
set_option maxRecDepth 100000 in
theorem G_R_readNames_p135 {M : zMem} {y : zMem} (h : F_R_readNames_p135 M  = some y) : zGo Y_R_readNames 1 135 [some (.inr 34), none, none, none, none] [] M none y := by
  unfold F_R_readNames_p135 at h
  refine go_aload_n K_R_readNames rfl rfl ?_
  refine go_dup K_R_readNames rfl ?_
  refine go_getI K_R_readNames rfl zf_12_96 ?_
  refine go_iconst K_R_readNames rfl zk_iconst_1 ?_
  refine go_iadd K_R_readNames rfl ?_
  obtain ⟨M1, e2, h⟩ := zset_ex h
  refine go_putI' e2 K_R_readNames rfl zf_12_96 ?_
  cases h
  exact go_return K_R_readNames rfl rfl
def F_R_readNames_p129 (M : zMem) (l4 : Int32) : Option (zMem) :=
  zset M 34 22 ((M 34 22) ||| l4) fun M1 => F_R_readNames_p135 M1 
set_option maxRecDepth 100000 in
theorem G_R_readNames_p129 {M : zMem} {l4 : Int32} {y : zMem} (h : F_R_readNames_p129 M l4 = some y) : zGo Y_R_readNames 1 129 [some (.inr 34), none, none, none, some (.inl l4)] [] M none y := by
  unfold F_R_readNames_p129 at h
  refine go_aload_n K_R_readNames rfl rfl ?_
  refine go_aload_n K_R_readNames rfl rfl ?_
  refine go_getI K_R_readNames rfl zf_12_140 ?_
  refine go_iload K_R_readNames rfl rfl ?_
  refine go_ior K_R_readNames rfl ?_
  obtain ⟨M1, e2, h⟩ := zset_ex h
  refine go_putI' e2 K_R_readNames rfl zf_12_140 ?_
  exact go_forget (G_R_readNames_p135 h) (zs_s (zs_n (zs_n (zs_n (zs_n zs_e)))))
def F_R_readNames_p115 (M : zMem) (l2 l4 s1 s2 : Int32) : Option (zMem) :=
  zix (s1 + s2) 32 (zset M 49 (s1 + s2).toNatClampNeg (l2 - (100 : Int32)) fun M2 => zix (M2 34 21) 4 (zix (M2 34 21) 4 (zset M2 47 (M2 34 21).toNatClampNeg ((M2 47 (M2 34 21).toNatClampNeg) + (1 : Int32)) fun M6 => F_R_readNames_p129 M6 l4)))
set_option maxRecDepth 100000 in
theorem G_R_readNames_p115 {M : zMem} {l2 l4 s1 s2 : Int32} {y : zMem} (h : F_R_readNames_p115 M l2 l4 s1 s2 = some y) : zGo Y_R_readNames 1 115 [some (.inr 34), none, some (.inl l2), none, some (.inl l4)] [.inl s2, .inl s1, .inr 49] M none y := by
  unfold F_R_readNames_p115 at h
  refine go_iadd K_R_readNames rfl ?_
  refine go_iload_n K_R_readNames rfl rfl ?_
  refine go_bipush K_R_readNames rfl zk_bipush_100 ?_
  refine go_isub K_R_readNames rfl ?_
  obtain ⟨i1, h⟩ := zix_ex h
  obtain ⟨M2, e3, h⟩ := zset_ex h
  refine go_iast' e3 K_R_readNames rfl za_49 i1 ?_
  refine go_aload_n K_R_readNames rfl rfl ?_
  refine go_getR K_R_readNames rfl zf_12_46 ?_
  refine go_aload_n K_R_readNames rfl rfl ?_
  refine go_getI K_R_readNames rfl zf_12_134 ?_
  refine go_dup2 K_R_readNames rfl ?_
  obtain ⟨i4, h⟩ := zix_ex h
  refine go_iald K_R_readNames rfl za_47 i4 ?_
  refine go_iconst K_R_readNames rfl zk_iconst_1 ?_
  refine go_iadd K_R_readNames rfl ?_
  obtain ⟨i5, h⟩ := zix_ex h
  obtain ⟨M6, e7, h⟩ := zset_ex h
  refine go_iast' e7 K_R_readNames rfl za_47 i5 ?_
  exact go_forget (G_R_readNames_p129 h) (zs_s (zs_n (zs_n (zs_n (zs_s zs_e)))))
def F_R_readNames_p88 (M : zMem) (l1 l2 l4 s1 : Int32) : Option (zMem) :=
  zbv (F_R_noteFault M s1) fun M1 => if l1 = (220 : Int32) then (if (M1 34 23) = 0 then (zix (M1 34 21) 4 (if (7 : Int32) ≤ (M1 47 (M1 34 21).toNatClampNeg) then (F_R_readNames_p115 M1 l2 l4 ((8 : Int32) * (M1 34 21)) ((7 : Int32))) else (zix (M1 34 21) 4 (F_R_readNames_p115 M1 l2 l4 ((8 : Int32) * (M1 34 21)) (M1 47 (M1 34 21).toNatClampNeg))))) else (F_R_readNames_p129 M1 l4)) else (F_R_readNames_p129 M1 l4)
set_option maxRecDepth 100000 in
theorem G_R_readNames_p88 {M : zMem} {l1 l2 l4 s1 : Int32} {y : zMem} (h : F_R_readNames_p88 M l1 l2 l4 s1 = some y) : zGo Y_R_readNames 1 88 [some (.inr 34), some (.inl l1), some (.inl l2), none, some (.inl l4)] [.inl s1, .inr 34] M none y := by
  unfold F_R_readNames_p88 at h
  obtain ⟨M1, h2, h⟩ := zbv_ex h
  refine go_vv (Y' := Y_R_noteFault) (av := [.inl s1]) (rest := []) K_R_readNames rfl zl_12_146 zm_R_noteFault rfl (G_R_noteFault h2) (Nat.le_of_ble_eq_true rfl) (Nat.le_of_ble_eq_true rfl) rfl ?_
  refine go_iload_n K_R_readNames rfl rfl ?_
  refine go_sipush K_R_readNames rfl zk_sipush_220 ?_
  refine go_icmp_ne K_R_readNames rfl (fun c => ?_) (fun c => ?_)
  · have h := zif_f c h
    exact go_forget (G_R_readNames_p129 h) (zs_s (zs_n (zs_n (zs_n (zs_s zs_e)))))
  · have h := zif_t c h
    refine go_aload_n K_R_readNames rfl rfl ?_
    refine go_getI K_R_readNames rfl zf_12_137 ?_
    refine go_if_ne K_R_readNames rfl (fun c => ?_) (fun c => ?_)
    · have h := zif_f c h
      exact go_forget (G_R_readNames_p129 h) (zs_s (zs_n (zs_n (zs_n (zs_s zs_e)))))
    · have h := zif_t c h
      refine go_aload_n K_R_readNames rfl rfl ?_
      refine go_getR K_R_readNames rfl zf_12_52 ?_
      refine go_bipush K_R_readNames rfl zk_bipush_8 ?_
      refine go_aload_n K_R_readNames rfl rfl ?_
      refine go_getI K_R_readNames rfl zf_12_134 ?_
      refine go_imul K_R_readNames rfl ?_
      refine go_aload_n K_R_readNames rfl rfl ?_
      refine go_getR K_R_readNames rfl zf_12_46 ?_
      refine go_aload_n K_R_readNames rfl rfl ?_
      refine go_getI K_R_readNames rfl zf_12_134 ?_
      obtain ⟨i3, h⟩ := zix_ex h
      refine go_iald K_R_readNames rfl za_47 i3 ?_
      refine go_bipush K_R_readNames rfl zk_bipush_7 ?_
      refine go_icmp_ge K_R_readNames rfl (fun c => ?_) (fun c => ?_)
      · have h := zif_t c h
        refine go_bipush K_R_readNames rfl zk_bipush_7 ?_
        exact go_forget (G_R_readNames_p115 h) (zs_s (zs_n (zs_s (zs_n (zs_s zs_e)))))
      · have h := zif_f c h
        refine go_aload_n K_R_readNames rfl rfl ?_
        refine go_getR K_R_readNames rfl zf_12_46 ?_
        refine go_aload_n K_R_readNames rfl rfl ?_
        refine go_getI K_R_readNames rfl zf_12_134 ?_
        obtain ⟨i4, h⟩ := zix_ex h
        refine go_iald K_R_readNames rfl za_47 i4 ?_
        refine go_goto K_R_readNames rfl ?_
        exact go_forget (G_R_readNames_p115 h) (zs_s (zs_n (zs_s (zs_n (zs_s zs_e)))))
def F_R_readNames_p55 (M : zMem) (s1 s2 : Int32) : Option (zMem) :=
  zix s1 4 (zset M 46 s1.toNatClampNeg s2 fun M2 => zset M2 34 22 ((0 : Int32)) fun M4 => zix (M4 34 27) 30 (zset M4 50 (M4 34 27).toNatClampNeg ((M4 34 6) - (1 : Int32)) fun M7 => zbv (F_R_noteFault M7 (M7 34 23)) fun M9 => F_R_readNames_p135 M9 ))
set_option maxRecDepth 100000 in
theorem G_R_readNames_p55 {M : zMem} {s1 s2 : Int32} {y : zMem} (h : F_R_readNames_p55 M s1 s2 = some y) : zGo Y_R_readNames 1 55 [some (.inr 34), none, none, none, none] [.inl s2, .inl s1, .inr 46] M none y := by
  unfold F_R_readNames_p55 at h
  obtain ⟨i1, h⟩ := zix_ex h
  obtain ⟨M2, e3, h⟩ := zset_ex h
  refine go_iast' e3 K_R_readNames rfl za_46 i1 ?_
  refine go_aload_n K_R_readNames rfl rfl ?_
  refine go_iconst K_R_readNames rfl zk_iconst_0 ?_
  obtain ⟨M4, e5, h⟩ := zset_ex h
  refine go_putI' e5 K_R_readNames rfl zf_12_140 ?_
  refine go_aload_n K_R_readNames rfl rfl ?_
  refine go_getR K_R_readNames rfl zf_12_55 ?_
  refine go_aload_n K_R_readNames rfl rfl ?_
  refine go_getI K_R_readNames rfl zf_12_143 ?_
  refine go_aload_n K_R_readNames rfl rfl ?_
  refine go_getI K_R_readNames rfl zf_12_96 ?_
  refine go_iconst K_R_readNames rfl zk_iconst_1 ?_
  refine go_isub K_R_readNames rfl ?_
  obtain ⟨i6, h⟩ := zix_ex h
  obtain ⟨M7, e8, h⟩ := zset_ex h
  refine go_iast' e8 K_R_readNames rfl za_50 i6 ?_
  refine go_aload_n K_R_readNames rfl rfl ?_
  refine go_aload_n K_R_readNames rfl rfl ?_
  refine go_getI K_R_readNames rfl zf_12_137 ?_
  obtain ⟨M9, h10, h⟩ := zbv_ex h
  refine go_vv (Y' := Y_R_noteFault) (av := [.inl (M7 34 23)]) (rest := []) K_R_readNames rfl zl_12_146 zm_R_noteFault rfl (G_R_noteFault h10) (Nat.le_of_ble_eq_true rfl) (Nat.le_of_ble_eq_true rfl) rfl ?_
  refine go_goto K_R_readNames rfl ?_
  exact go_forget (G_R_readNames_p135 h) (zs_s (zs_n (zs_n (zs_n (zs_n zs_e)))))
def F_R_readNames_p40 (M : zMem) (s1 : Int32) : Option (zMem) :=
  zbit s1 (zset M 34 23 s1 fun M1 => if (M1 34 23) = 0 then (F_R_readNames_p55 M1 (M1 34 21) ((-1 : Int32))) else (zix (M1 34 21) 4 (F_R_readNames_p55 M1 (M1 34 21) (M1 46 (M1 34 21).toNatClampNeg))))
set_option maxRecDepth 100000 in
theorem G_R_readNames_p40 {M : zMem} {s1 : Int32} {y : zMem} (h : F_R_readNames_p40 M s1 = some y) : zGo Y_R_readNames 1 40 [some (.inr 34), none, none, none, none] [.inl s1, .inr 34] M none y := by
  unfold F_R_readNames_p40 at h
  obtain ⟨b3, h⟩ := zbit_ex h
  obtain ⟨M1, e2, h⟩ := zset_ex h
  refine go_putZ' e2 K_R_readNames rfl zf_12_137 b3 ?_
  refine go_aload_n K_R_readNames rfl rfl ?_
  refine go_getR K_R_readNames rfl zf_12_43 ?_
  refine go_aload_n K_R_readNames rfl rfl ?_
  refine go_getI K_R_readNames rfl zf_12_134 ?_
  refine go_aload_n K_R_readNames rfl rfl ?_
  refine go_getI K_R_readNames rfl zf_12_137 ?_
  refine go_if_eq K_R_readNames rfl (fun c => ?_) (fun c => ?_)
  · have h := zif_t c h
    refine go_iconst K_R_readNames rfl zk_iconst_m1 ?_
    exact go_forget (G_R_readNames_p55 h) (zs_s (zs_n (zs_n (zs_n (zs_n zs_e)))))
  · have h := zif_f c h
    refine go_aload_n K_R_readNames rfl rfl ?_
    refine go_getR K_R_readNames rfl zf_12_43 ?_
    refine go_aload_n K_R_readNames rfl rfl ?_
    refine go_getI K_R_readNames rfl zf_12_134 ?_
    obtain ⟨i4, h⟩ := zix_ex h
    refine go_iald K_R_readNames rfl za_46 i4 ?_
    refine go_goto K_R_readNames rfl ?_
    exact go_forget (G_R_readNames_p55 h) (zs_s (zs_n (zs_n (zs_n (zs_n zs_e)))))
def F_R_readNames_p14 (M : zMem) (l1 l2 s0 : Int32) : Option (zMem) :=
  if s0 = 0 then (zset M 34 7 ((1 : Int32)) fun M4 => some M4) else (if l1 = (219 : Int32) then (zset M 34 21 (l2 - (110 : Int32)) fun M1 => zix (M1 34 21) 4 (if (M1 46 (M1 34 21).toNatClampNeg) = (-2 : Int32) then (F_R_readNames_p40 M1 ((0 : Int32))) else (F_R_readNames_p40 M1 ((1 : Int32))))) else (if ((M 34 22) &&& ((1 : Int32) <<< ((l2 - (100 : Int32)) &&& 31))) = 0 then (F_R_readNames_p88 M l1 l2 ((1 : Int32) <<< ((l2 - (100 : Int32)) &&& 31)) ((0 : Int32))) else (F_R_readNames_p88 M l1 l2 ((1 : Int32) <<< ((l2 - (100 : Int32)) &&& 31)) ((1 : Int32)))))
set_option maxRecDepth 100000 in
theorem G_R_readNames_p14 {M : zMem} {l1 l2 s0 : Int32} {y : zMem} (h : F_R_readNames_p14 M l1 l2 s0 = some y) : zGo Y_R_readNames 1 14 [some (.inr 34), some (.inl l1), some (.inl l2), none, none] [.inl s0] M none y := by
  unfold F_R_readNames_p14 at h
  refine go_istore_n K_R_readNames rfl (Nat.le_of_ble_eq_true rfl) ?_
  refine go_iload_n K_R_readNames rfl rfl ?_
  refine go_if_ne K_R_readNames rfl (fun c => ?_) (fun c => ?_)
  · have h := zif_f c h
    refine go_iload_n K_R_readNames rfl rfl ?_
    refine go_sipush K_R_readNames rfl zk_sipush_219 ?_
    refine go_icmp_ne K_R_readNames rfl (fun c => ?_) (fun c => ?_)
    · have h := zif_f c h
      refine go_iconst K_R_readNames rfl zk_iconst_1 ?_
      refine go_iload_n K_R_readNames rfl rfl ?_
      refine go_bipush K_R_readNames rfl zk_bipush_100 ?_
      refine go_isub K_R_readNames rfl ?_
      refine go_ishl K_R_readNames rfl ?_
      refine go_istore K_R_readNames rfl (Nat.le_of_ble_eq_true rfl) ?_
      refine go_aload_n K_R_readNames rfl rfl ?_
      refine go_aload_n K_R_readNames rfl rfl ?_
      refine go_getI K_R_readNames rfl zf_12_140 ?_
      refine go_iload K_R_readNames rfl rfl ?_
      refine go_iand K_R_readNames rfl ?_
      refine go_if_eq K_R_readNames rfl (fun c => ?_) (fun c => ?_)
      · have h := zif_t c h
        refine go_iconst K_R_readNames rfl zk_iconst_0 ?_
        exact go_forget (G_R_readNames_p88 h) (zs_s (zs_s (zs_s (zs_n (zs_s zs_e)))))
      · have h := zif_f c h
        refine go_iconst K_R_readNames rfl zk_iconst_1 ?_
        refine go_goto K_R_readNames rfl ?_
        exact go_forget (G_R_readNames_p88 h) (zs_s (zs_s (zs_s (zs_n (zs_s zs_e)))))
    · have h := zif_t c h
      refine go_aload_n K_R_readNames rfl rfl ?_
      refine go_iload_n K_R_readNames rfl rfl ?_
      refine go_bipush K_R_readNames rfl zk_bipush_110 ?_
      refine go_isub K_R_readNames rfl ?_
      obtain ⟨M1, e2, h⟩ := zset_ex h
      refine go_putI' e2 K_R_readNames rfl zf_12_134 ?_
      refine go_aload_n K_R_readNames rfl rfl ?_
      refine go_aload_n K_R_readNames rfl rfl ?_
      refine go_getR K_R_readNames rfl zf_12_43 ?_
      refine go_aload_n K_R_readNames rfl rfl ?_
      refine go_getI K_R_readNames rfl zf_12_134 ?_
      obtain ⟨i3, h⟩ := zix_ex h
      refine go_iald K_R_readNames rfl za_46 i3 ?_
      refine go_bipush K_R_readNames rfl zk_bipush_m2 ?_
      refine go_icmp_eq K_R_readNames rfl (fun c => ?_) (fun c => ?_)
      · have h := zif_t c h
        refine go_iconst K_R_readNames rfl zk_iconst_0 ?_
        exact go_forget (G_R_readNames_p40 h) (zs_s (zs_n (zs_n (zs_n (zs_n zs_e)))))
      · have h := zif_f c h
        refine go_iconst K_R_readNames rfl zk_iconst_1 ?_
        refine go_goto K_R_readNames rfl ?_
        exact go_forget (G_R_readNames_p40 h) (zs_s (zs_n (zs_n (zs_n (zs_n zs_e)))))
  · have h := zif_t c h
    refine go_aload_n K_R_readNames rfl rfl ?_
    refine go_iconst K_R_readNames rfl zk_iconst_1 ?_
    obtain ⟨M4, e5, h⟩ := zset_ex h
    refine go_putZ' e5 K_R_readNames rfl zf_12_130 (Or.inr rfl) ?_
    cases h
    exact go_return K_R_readNames rfl rfl
def F_R_readNames (M : zMem) (l1 l2 : Int32) : Option (zMem) :=
  if l1 = (219 : Int32) then (zbi (F_R_isIn M l2 (110 : Int32) (113 : Int32)) fun r6 M4 => F_R_readNames_p14 M4 l1 l2 r6) else (zbi (F_R_isIn M l2 (100 : Int32) (107 : Int32)) fun r3 M1 => F_R_readNames_p14 M1 l1 l2 r3)
set_option maxRecDepth 100000 in
theorem G_R_readNames {M : zMem} {l1 l2 : Int32} {y : zMem} (h : F_R_readNames M l1 l2 = some y) : zGo Y_R_readNames 1 0 (zal Y_R_readNames [.inr 34, .inl l1, .inl l2]) [] M none y := by
  unfold F_R_readNames at h
  show zGo Y_R_readNames 1 0 [some (.inr 34), some (.inl l1), some (.inl l2), none, none] [] M _ _
  refine go_iload_n K_R_readNames rfl rfl ?_
  refine go_sipush K_R_readNames rfl zk_sipush_219 ?_
  refine go_icmp_ne K_R_readNames rfl (fun c => ?_) (fun c => ?_)
  · have h := zif_f c h
    refine go_aload_n K_R_readNames rfl rfl ?_
    refine go_iload_n K_R_readNames rfl rfl ?_
    refine go_bipush K_R_readNames rfl zk_bipush_100 ?_
    refine go_bipush K_R_readNames rfl zk_bipush_107 ?_
    obtain ⟨r3, M1, h2, h⟩ := zbi_ex h
    refine go_vi (Y' := Y_R_isIn) (av := [.inl l2, .inl (100 : Int32), .inl (107 : Int32)]) (rest := []) K_R_readNames rfl zl_12_108 zm_R_isIn rfl (G_R_isIn h2) (Nat.le_of_ble_eq_true rfl) (Nat.le_of_ble_eq_true rfl) rfl ?_
    exact go_forget (G_R_readNames_p14 h) (zs_s (zs_s (zs_s (zs_n (zs_n zs_e)))))
  · have h := zif_t c h
    refine go_aload_n K_R_readNames rfl rfl ?_
    refine go_iload_n K_R_readNames rfl rfl ?_
    refine go_bipush K_R_readNames rfl zk_bipush_110 ?_
    refine go_bipush K_R_readNames rfl zk_bipush_113 ?_
    obtain ⟨r6, M4, h5, h⟩ := zbi_ex h
    refine go_vi (Y' := Y_R_isIn) (av := [.inl l2, .inl (110 : Int32), .inl (113 : Int32)]) (rest := []) K_R_readNames rfl zl_12_108 zm_R_isIn rfl (G_R_isIn h5) (Nat.le_of_ble_eq_true rfl) (Nat.le_of_ble_eq_true rfl) rfl ?_
    refine go_goto K_R_readNames rfl ?_
    exact go_forget (G_R_readNames_p14 h) (zs_s (zs_s (zs_s (zs_n (zs_n zs_e)))))
def F_R_readParts_p148 (M : zMem) (l1 l2 : Int32) : Option (zMem) :=
  if l1 = (223 : Int32) then (zbi (F_R_beginsStatement M l2) fun r3 M1 => if r3 = 0 then (some M1) else (zbv (F_R_tasksOf M1 (207 : Int32) (4000 : Int32) (-1 : Int32) (-1 : Int32)) fun M4 => some M4)) else (some M)
set_option maxRecDepth 100000 in
theorem G_R_readParts_p148 {M : zMem} {l1 l2 : Int32} {y : zMem} (h : F_R_readParts_p148 M l1 l2 = some y) : zGo Y_R_readParts 2 148 [some (.inr 34), some (.inl l1), some (.inl l2), none] [] M none y := by
  unfold F_R_readParts_p148 at h
  refine go_iload_n K_R_readParts rfl rfl ?_
  refine go_sipush K_R_readParts rfl zk_sipush_223 ?_
  refine go_icmp_ne K_R_readParts rfl (fun c => ?_) (fun c => ?_)
  · have h := zif_f c h
    cases h
    exact go_return K_R_readParts rfl rfl
  · have h := zif_t c h
    refine go_aload_n K_R_readParts rfl rfl ?_
    refine go_iload_n K_R_readParts rfl rfl ?_
    obtain ⟨r3, M1, h2, h⟩ := zbi_ex h
    refine go_vi (Y' := Y_R_beginsStatement) (av := [.inl l2]) (rest := []) K_R_readParts rfl zl_12_127 zm_R_beginsStatement rfl (G_R_beginsStatement h2) (Nat.le_of_ble_eq_true rfl) (Nat.le_of_ble_eq_true rfl) rfl ?_
    refine go_if_eq K_R_readParts rfl (fun c => ?_) (fun c => ?_)
    · have h := zif_t c h
      cases h
      exact go_return K_R_readParts rfl rfl
    · have h := zif_f c h
      refine go_aload_n K_R_readParts rfl rfl ?_
      refine go_sipush K_R_readParts rfl zk_sipush_207 ?_
      refine go_sipush K_R_readParts rfl zk_sipush_4000 ?_
      refine go_iconst K_R_readParts rfl zk_iconst_m1 ?_
      refine go_iconst K_R_readParts rfl zk_iconst_m1 ?_
      obtain ⟨M4, h5, h⟩ := zbv_ex h
      refine go_vv (Y' := Y_R_tasksOf) (av := [.inl (207 : Int32), .inl (4000 : Int32), .inl (-1 : Int32), .inl (-1 : Int32)]) (rest := []) K_R_readParts rfl zl_12_116 zm_R_tasksOf rfl (G_R_tasksOf h5) (Nat.le_of_ble_eq_true rfl) (Nat.le_of_ble_eq_true rfl) rfl ?_
      cases h
      exact go_return K_R_readParts rfl rfl
def F_R_readParts_p115 (M : zMem) (l1 l2 : Int32) : Option (zMem) :=
  if l1 = (205 : Int32) then (zbi (F_R_node M (30 : Int32) (0 : Int32) (-1 : Int32) (-1 : Int32)) fun r5 M3 => zbv (F_R_push M3 r5) fun M6 => zbv (F_R_tasksOf M6 (223 : Int32) (206 : Int32) (-1 : Int32) (-1 : Int32)) fun M8 => some M8) else (if l1 = (206 : Int32) then (if l2 = (121 : Int32) then (zbv (F_R_tasksOf M (121 : Int32) (223 : Int32) (206 : Int32) (-1 : Int32)) fun M1 => some M1) else (F_R_readParts_p148 M l1 l2)) else (F_R_readParts_p148 M l1 l2))
set_option maxRecDepth 100000 in
theorem G_R_readParts_p115 {M : zMem} {l1 l2 : Int32} {y : zMem} (h : F_R_readParts_p115 M l1 l2 = some y) : zGo Y_R_readParts 2 115 [some (.inr 34), some (.inl l1), some (.inl l2), none] [] M none y := by
  unfold F_R_readParts_p115 at h
  refine go_iload_n K_R_readParts rfl rfl ?_
  refine go_sipush K_R_readParts rfl zk_sipush_205 ?_
  refine go_icmp_ne K_R_readParts rfl (fun c => ?_) (fun c => ?_)
  · have h := zif_f c h
    refine go_iload_n K_R_readParts rfl rfl ?_
    refine go_sipush K_R_readParts rfl zk_sipush_206 ?_
    refine go_icmp_ne K_R_readParts rfl (fun c => ?_) (fun c => ?_)
    · have h := zif_f c h
      exact go_forget (G_R_readParts_p148 h) (zs_s (zs_s (zs_s (zs_n zs_e))))
    · have h := zif_t c h
      refine go_iload_n K_R_readParts rfl rfl ?_
      refine go_bipush K_R_readParts rfl zk_bipush_121 ?_
      refine go_icmp_ne K_R_readParts rfl (fun c => ?_) (fun c => ?_)
      · have h := zif_f c h
        exact go_forget (G_R_readParts_p148 h) (zs_s (zs_s (zs_s (zs_n zs_e))))
      · have h := zif_t c h
        refine go_aload_n K_R_readParts rfl rfl ?_
        refine go_bipush K_R_readParts rfl zk_bipush_121 ?_
        refine go_sipush K_R_readParts rfl zk_sipush_223 ?_
        refine go_sipush K_R_readParts rfl zk_sipush_206 ?_
        refine go_iconst K_R_readParts rfl zk_iconst_m1 ?_
        obtain ⟨M1, h2, h⟩ := zbv_ex h
        refine go_vv (Y' := Y_R_tasksOf) (av := [.inl (121 : Int32), .inl (223 : Int32), .inl (206 : Int32), .inl (-1 : Int32)]) (rest := []) K_R_readParts rfl zl_12_116 zm_R_tasksOf rfl (G_R_tasksOf h2) (Nat.le_of_ble_eq_true rfl) (Nat.le_of_ble_eq_true rfl) rfl ?_
        refine go_goto K_R_readParts rfl ?_
        cases h
        exact go_return K_R_readParts rfl rfl
  · have h := zif_t c h
    refine go_aload_n K_R_readParts rfl rfl ?_
    refine go_bipush K_R_readParts rfl zk_bipush_30 ?_
    refine go_iconst K_R_readParts rfl zk_iconst_0 ?_
    refine go_iconst K_R_readParts rfl zk_iconst_m1 ?_
    refine go_iconst K_R_readParts rfl zk_iconst_m1 ?_
    obtain ⟨r5, M3, h4, h⟩ := zbi_ex h
    refine go_vi (Y' := Y_R_node) (av := [.inl (30 : Int32), .inl (0 : Int32), .inl (-1 : Int32), .inl (-1 : Int32)]) (rest := []) K_R_readParts rfl zl_12_120 zm_R_node rfl (G_R_node h4) (Nat.le_of_ble_eq_true rfl) (Nat.le_of_ble_eq_true rfl) rfl ?_
    refine go_istore_n K_R_readParts rfl (Nat.le_of_ble_eq_true rfl) ?_
    refine go_aload_n K_R_readParts rfl rfl ?_
    refine go_iload_n K_R_readParts rfl rfl ?_
    obtain ⟨M6, h7, h⟩ := zbv_ex h
    refine go_vv (Y' := Y_R_push) (av := [.inl r5]) (rest := []) K_R_readParts rfl zl_12_124 zm_R_push rfl (G_R_push h7) (Nat.le_of_ble_eq_true rfl) (Nat.le_of_ble_eq_true rfl) rfl ?_
    refine go_aload_n K_R_readParts rfl rfl ?_
    refine go_sipush K_R_readParts rfl zk_sipush_223 ?_
    refine go_sipush K_R_readParts rfl zk_sipush_206 ?_
    refine go_iconst K_R_readParts rfl zk_iconst_m1 ?_
    refine go_iconst K_R_readParts rfl zk_iconst_m1 ?_
    obtain ⟨M8, h9, h⟩ := zbv_ex h
    refine go_vv (Y' := Y_R_tasksOf) (av := [.inl (223 : Int32), .inl (206 : Int32), .inl (-1 : Int32), .inl (-1 : Int32)]) (rest := []) K_R_readParts rfl zl_12_116 zm_R_tasksOf rfl (G_R_tasksOf h9) (Nat.le_of_ble_eq_true rfl) (Nat.le_of_ble_eq_true rfl) rfl ?_
    refine go_goto K_R_readParts rfl ?_
    cases h
    exact go_return K_R_readParts rfl rfl
def F_R_readParts_p102 (M : zMem) (l1 l2 : Int32) : Option (zMem) :=
  if l1 = (222 : Int32) then (if l2 = (124 : Int32) then (zbv (F_R_tasksOf M (124 : Int32) (221 : Int32) (222 : Int32) (-1 : Int32)) fun M1 => some M1) else (F_R_readParts_p115 M l1 l2)) else (F_R_readParts_p115 M l1 l2)
set_option maxRecDepth 100000 in
theorem G_R_readParts_p102 {M : zMem} {l1 l2 : Int32} {y : zMem} (h : F_R_readParts_p102 M l1 l2 = some y) : zGo Y_R_readParts 2 102 [some (.inr 34), some (.inl l1), some (.inl l2), none] [] M none y := by
  unfold F_R_readParts_p102 at h
  refine go_iload_n K_R_readParts rfl rfl ?_
  refine go_sipush K_R_readParts rfl zk_sipush_222 ?_
  refine go_icmp_ne K_R_readParts rfl (fun c => ?_) (fun c => ?_)
  · have h := zif_f c h
    exact go_forget (G_R_readParts_p115 h) (zs_s (zs_s (zs_s (zs_n zs_e))))
  · have h := zif_t c h
    refine go_iload_n K_R_readParts rfl rfl ?_
    refine go_bipush K_R_readParts rfl zk_bipush_124 ?_
    refine go_icmp_ne K_R_readParts rfl (fun c => ?_) (fun c => ?_)
    · have h := zif_f c h
      exact go_forget (G_R_readParts_p115 h) (zs_s (zs_s (zs_s (zs_n zs_e))))
    · have h := zif_t c h
      refine go_aload_n K_R_readParts rfl rfl ?_
      refine go_bipush K_R_readParts rfl zk_bipush_124 ?_
      refine go_sipush K_R_readParts rfl zk_sipush_221 ?_
      refine go_sipush K_R_readParts rfl zk_sipush_222 ?_
      refine go_iconst K_R_readParts rfl zk_iconst_m1 ?_
      obtain ⟨M1, h2, h⟩ := zbv_ex h
      refine go_vv (Y' := Y_R_tasksOf) (av := [.inl (124 : Int32), .inl (221 : Int32), .inl (222 : Int32), .inl (-1 : Int32)]) (rest := []) K_R_readParts rfl zl_12_116 zm_R_tasksOf rfl (G_R_tasksOf h2) (Nat.le_of_ble_eq_true rfl) (Nat.le_of_ble_eq_true rfl) rfl ?_
      refine go_goto K_R_readParts rfl ?_
      cases h
      exact go_return K_R_readParts rfl rfl
def F_R_readParts_p89 (M : zMem) (l1 l2 : Int32) : Option (zMem) :=
  if l1 = (204 : Int32) then (if l2 = (172 : Int32) then (zbv (F_R_tasksOf M (172 : Int32) (221 : Int32) (222 : Int32) (-1 : Int32)) fun M1 => some M1) else (F_R_readParts_p102 M l1 l2)) else (F_R_readParts_p102 M l1 l2)
set_option maxRecDepth 100000 in
theorem G_R_readParts_p89 {M : zMem} {l1 l2 : Int32} {y : zMem} (h : F_R_readParts_p89 M l1 l2 = some y) : zGo Y_R_readParts 2 89 [some (.inr 34), some (.inl l1), some (.inl l2), none] [] M none y := by
  unfold F_R_readParts_p89 at h
  refine go_iload_n K_R_readParts rfl rfl ?_
  refine go_sipush K_R_readParts rfl zk_sipush_204 ?_
  refine go_icmp_ne K_R_readParts rfl (fun c => ?_) (fun c => ?_)
  · have h := zif_f c h
    exact go_forget (G_R_readParts_p102 h) (zs_s (zs_s (zs_s (zs_n zs_e))))
  · have h := zif_t c h
    refine go_iload_n K_R_readParts rfl rfl ?_
    refine go_sipush K_R_readParts rfl zk_sipush_172 ?_
    refine go_icmp_ne K_R_readParts rfl (fun c => ?_) (fun c => ?_)
    · have h := zif_f c h
      exact go_forget (G_R_readParts_p102 h) (zs_s (zs_s (zs_s (zs_n zs_e))))
    · have h := zif_t c h
      refine go_aload_n K_R_readParts rfl rfl ?_
      refine go_sipush K_R_readParts rfl zk_sipush_172 ?_
      refine go_sipush K_R_readParts rfl zk_sipush_221 ?_
      refine go_sipush K_R_readParts rfl zk_sipush_222 ?_
      refine go_iconst K_R_readParts rfl zk_iconst_m1 ?_
      obtain ⟨M1, h2, h⟩ := zbv_ex h
      refine go_vv (Y' := Y_R_tasksOf) (av := [.inl (172 : Int32), .inl (221 : Int32), .inl (222 : Int32), .inl (-1 : Int32)]) (rest := []) K_R_readParts rfl zl_12_116 zm_R_tasksOf rfl (G_R_tasksOf h2) (Nat.le_of_ble_eq_true rfl) (Nat.le_of_ble_eq_true rfl) rfl ?_
      refine go_goto K_R_readParts rfl ?_
      cases h
      exact go_return K_R_readParts rfl rfl
def F_R_readParts_p73 (M : zMem) (s1 s2 s3 : Int32) : Option (zMem) :=
  zbv (F_R_tasksOf M s1 s2 s3 (-1 : Int32)) fun M1 => some M1
set_option maxRecDepth 100000 in
theorem G_R_readParts_p73 {M : zMem} {s1 s2 s3 : Int32} {y : zMem} (h : F_R_readParts_p73 M s1 s2 s3 = some y) : zGo Y_R_readParts 2 73 [none, none, none, none] [.inl s3, .inl s2, .inl s1, .inr 34] M none y := by
  unfold F_R_readParts_p73 at h
  refine go_iconst K_R_readParts rfl zk_iconst_m1 ?_
  obtain ⟨M1, h2, h⟩ := zbv_ex h
  refine go_vv (Y' := Y_R_tasksOf) (av := [.inl s1, .inl s2, .inl s3, .inl (-1 : Int32)]) (rest := []) K_R_readParts rfl zl_12_116 zm_R_tasksOf rfl (G_R_tasksOf h2) (Nat.le_of_ble_eq_true rfl) (Nat.le_of_ble_eq_true rfl) rfl ?_
  refine go_goto K_R_readParts rfl ?_
  cases h
  exact go_return K_R_readParts rfl rfl
def F_R_readParts_p64 (M : zMem) (l2 s1 s2 : Int32) : Option (zMem) :=
  zbi (F_R_isIn M l2 (100 : Int32) (107 : Int32)) fun r3 M1 => if r3 = 0 then (F_R_readParts_p73 M1 s1 s2 ((-1 : Int32))) else (F_R_readParts_p73 M1 s1 s2 ((123 : Int32)))
set_option maxRecDepth 100000 in
theorem G_R_readParts_p64 {M : zMem} {l2 s1 s2 : Int32} {y : zMem} (h : F_R_readParts_p64 M l2 s1 s2 = some y) : zGo Y_R_readParts 2 64 [some (.inr 34), none, some (.inl l2), none] [.inl s2, .inl s1, .inr 34] M none y := by
  unfold F_R_readParts_p64 at h
  refine go_aload_n K_R_readParts rfl rfl ?_
  refine go_iload_n K_R_readParts rfl rfl ?_
  refine go_bipush K_R_readParts rfl zk_bipush_100 ?_
  refine go_bipush K_R_readParts rfl zk_bipush_107 ?_
  obtain ⟨r3, M1, h2, h⟩ := zbi_ex h
  refine go_vi (Y' := Y_R_isIn) (av := [.inl l2, .inl (100 : Int32), .inl (107 : Int32)]) (rest := [.inl s2, .inl s1, .inr 34]) K_R_readParts rfl zl_12_108 zm_R_isIn rfl (G_R_isIn h2) (Nat.le_of_ble_eq_true rfl) (Nat.le_of_ble_eq_true rfl) rfl ?_
  refine go_if_eq K_R_readParts rfl (fun c => ?_) (fun c => ?_)
  · have h := zif_t c h
    refine go_iconst K_R_readParts rfl zk_iconst_m1 ?_
    exact go_forget (G_R_readParts_p73 h) (zs_n (zs_n (zs_n (zs_n zs_e))))
  · have h := zif_f c h
    refine go_bipush K_R_readParts rfl zk_bipush_123 ?_
    refine go_goto K_R_readParts rfl ?_
    exact go_forget (G_R_readParts_p73 h) (zs_n (zs_n (zs_n (zs_n zs_e))))
def F_R_readParts_p55 (M : zMem) (l2 s1 : Int32) : Option (zMem) :=
  zbi (F_R_isIn M l2 (100 : Int32) (107 : Int32)) fun r3 M1 => if r3 = 0 then (F_R_readParts_p64 M1 l2 s1 ((-1 : Int32))) else (F_R_readParts_p64 M1 l2 s1 ((203 : Int32)))
set_option maxRecDepth 100000 in
theorem G_R_readParts_p55 {M : zMem} {l2 s1 : Int32} {y : zMem} (h : F_R_readParts_p55 M l2 s1 = some y) : zGo Y_R_readParts 2 55 [some (.inr 34), none, some (.inl l2), none] [.inl s1, .inr 34] M none y := by
  unfold F_R_readParts_p55 at h
  refine go_aload_n K_R_readParts rfl rfl ?_
  refine go_iload_n K_R_readParts rfl rfl ?_
  refine go_bipush K_R_readParts rfl zk_bipush_100 ?_
  refine go_bipush K_R_readParts rfl zk_bipush_107 ?_
  obtain ⟨r3, M1, h2, h⟩ := zbi_ex h
  refine go_vi (Y' := Y_R_isIn) (av := [.inl l2, .inl (100 : Int32), .inl (107 : Int32)]) (rest := [.inl s1, .inr 34]) K_R_readParts rfl zl_12_108 zm_R_isIn rfl (G_R_isIn h2) (Nat.le_of_ble_eq_true rfl) (Nat.le_of_ble_eq_true rfl) rfl ?_
  refine go_if_eq K_R_readParts rfl (fun c => ?_) (fun c => ?_)
  · have h := zif_t c h
    refine go_iconst K_R_readParts rfl zk_iconst_m1 ?_
    exact go_forget (G_R_readParts_p64 h) (zs_s (zs_n (zs_s (zs_n zs_e))))
  · have h := zif_f c h
    refine go_sipush K_R_readParts rfl zk_sipush_203 ?_
    refine go_goto K_R_readParts rfl ?_
    exact go_forget (G_R_readParts_p64 h) (zs_s (zs_n (zs_s (zs_n zs_e))))
def F_R_readParts_p13 (M : zMem) (l1 l2 : Int32) : Option (zMem) :=
  if l1 = (200 : Int32) then (zbv (F_R_tasksOf M (171 : Int32) (205 : Int32) (163 : Int32) (2000 : Int32)) fun M12 => some M12) else (if l1 = (201 : Int32) then (zbv (F_R_task M (3000 : Int32)) fun M6 => zbv (F_R_tasksOf M6 (204 : Int32) (171 : Int32) (205 : Int32) (163 : Int32)) fun M8 => zbv (F_R_tasksOf M8 (170 : Int32) (219 : Int32) (122 : Int32) (202 : Int32)) fun M10 => some M10) else (if l1 = (202 : Int32) then (zbi (F_R_isIn M l2 (100 : Int32) (107 : Int32)) fun r5 M3 => if r5 = 0 then (F_R_readParts_p55 M3 l2 ((123 : Int32))) else (F_R_readParts_p55 M3 l2 ((220 : Int32)))) else (if l1 = (203 : Int32) then (if l2 = (124 : Int32) then (zbv (F_R_tasksOf M (124 : Int32) (220 : Int32) (203 : Int32) (-1 : Int32)) fun M1 => some M1) else (F_R_readParts_p89 M l1 l2)) else (F_R_readParts_p89 M l1 l2))))
set_option maxRecDepth 100000 in
theorem G_R_readParts_p13 {M : zMem} {l1 l2 : Int32} {y : zMem} (h : F_R_readParts_p13 M l1 l2 = some y) : zGo Y_R_readParts 2 13 [some (.inr 34), some (.inl l1), some (.inl l2), none] [] M none y := by
  unfold F_R_readParts_p13 at h
  refine go_iload_n K_R_readParts rfl rfl ?_
  refine go_sipush K_R_readParts rfl zk_sipush_200 ?_
  refine go_icmp_ne K_R_readParts rfl (fun c => ?_) (fun c => ?_)
  · have h := zif_f c h
    refine go_iload_n K_R_readParts rfl rfl ?_
    refine go_sipush K_R_readParts rfl zk_sipush_201 ?_
    refine go_icmp_ne K_R_readParts rfl (fun c => ?_) (fun c => ?_)
    · have h := zif_f c h
      refine go_iload_n K_R_readParts rfl rfl ?_
      refine go_sipush K_R_readParts rfl zk_sipush_202 ?_
      refine go_icmp_ne K_R_readParts rfl (fun c => ?_) (fun c => ?_)
      · have h := zif_f c h
        refine go_iload_n K_R_readParts rfl rfl ?_
        refine go_sipush K_R_readParts rfl zk_sipush_203 ?_
        refine go_icmp_ne K_R_readParts rfl (fun c => ?_) (fun c => ?_)
        · have h := zif_f c h
          exact go_forget (G_R_readParts_p89 h) (zs_s (zs_s (zs_s (zs_n zs_e))))
        · have h := zif_t c h
          refine go_iload_n K_R_readParts rfl rfl ?_
          refine go_bipush K_R_readParts rfl zk_bipush_124 ?_
          refine go_icmp_ne K_R_readParts rfl (fun c => ?_) (fun c => ?_)
          · have h := zif_f c h
            exact go_forget (G_R_readParts_p89 h) (zs_s (zs_s (zs_s (zs_n zs_e))))
          · have h := zif_t c h
            refine go_aload_n K_R_readParts rfl rfl ?_
            refine go_bipush K_R_readParts rfl zk_bipush_124 ?_
            refine go_sipush K_R_readParts rfl zk_sipush_220 ?_
            refine go_sipush K_R_readParts rfl zk_sipush_203 ?_
            refine go_iconst K_R_readParts rfl zk_iconst_m1 ?_
            obtain ⟨M1, h2, h⟩ := zbv_ex h
            refine go_vv (Y' := Y_R_tasksOf) (av := [.inl (124 : Int32), .inl (220 : Int32), .inl (203 : Int32), .inl (-1 : Int32)]) (rest := []) K_R_readParts rfl zl_12_116 zm_R_tasksOf rfl (G_R_tasksOf h2) (Nat.le_of_ble_eq_true rfl) (Nat.le_of_ble_eq_true rfl) rfl ?_
            refine go_goto K_R_readParts rfl ?_
            cases h
            exact go_return K_R_readParts rfl rfl
      · have h := zif_t c h
        refine go_aload_n K_R_readParts rfl rfl ?_
        refine go_aload_n K_R_readParts rfl rfl ?_
        refine go_iload_n K_R_readParts rfl rfl ?_
        refine go_bipush K_R_readParts rfl zk_bipush_100 ?_
        refine go_bipush K_R_readParts rfl zk_bipush_107 ?_
        obtain ⟨r5, M3, h4, h⟩ := zbi_ex h
        refine go_vi (Y' := Y_R_isIn) (av := [.inl l2, .inl (100 : Int32), .inl (107 : Int32)]) (rest := [.inr 34]) K_R_readParts rfl zl_12_108 zm_R_isIn rfl (G_R_isIn h4) (Nat.le_of_ble_eq_true rfl) (Nat.le_of_ble_eq_true rfl) rfl ?_
        refine go_if_eq K_R_readParts rfl (fun c => ?_) (fun c => ?_)
        · have h := zif_t c h
          refine go_bipush K_R_readParts rfl zk_bipush_123 ?_
          exact go_forget (G_R_readParts_p55 h) (zs_s (zs_n (zs_s (zs_n zs_e))))
        · have h := zif_f c h
          refine go_sipush K_R_readParts rfl zk_sipush_220 ?_
          refine go_goto K_R_readParts rfl ?_
          exact go_forget (G_R_readParts_p55 h) (zs_s (zs_n (zs_s (zs_n zs_e))))
    · have h := zif_t c h
      refine go_aload_n K_R_readParts rfl rfl ?_
      refine go_sipush K_R_readParts rfl zk_sipush_3000 ?_
      obtain ⟨M6, h7, h⟩ := zbv_ex h
      refine go_vv (Y' := Y_R_task) (av := [.inl (3000 : Int32)]) (rest := []) K_R_readParts rfl zl_12_112 zm_R_task rfl (G_R_task h7) (Nat.le_of_ble_eq_true rfl) (Nat.le_of_ble_eq_true rfl) rfl ?_
      refine go_aload_n K_R_readParts rfl rfl ?_
      refine go_sipush K_R_readParts rfl zk_sipush_204 ?_
      refine go_sipush K_R_readParts rfl zk_sipush_171 ?_
      refine go_sipush K_R_readParts rfl zk_sipush_205 ?_
      refine go_sipush K_R_readParts rfl zk_sipush_163 ?_
      obtain ⟨M8, h9, h⟩ := zbv_ex h
      refine go_vv (Y' := Y_R_tasksOf) (av := [.inl (204 : Int32), .inl (171 : Int32), .inl (205 : Int32), .inl (163 : Int32)]) (rest := []) K_R_readParts rfl zl_12_116 zm_R_tasksOf rfl (G_R_tasksOf h9) (Nat.le_of_ble_eq_true rfl) (Nat.le_of_ble_eq_true rfl) rfl ?_
      refine go_aload_n K_R_readParts rfl rfl ?_
      refine go_sipush K_R_readParts rfl zk_sipush_170 ?_
      refine go_sipush K_R_readParts rfl zk_sipush_219 ?_
      refine go_bipush K_R_readParts rfl zk_bipush_122 ?_
      refine go_sipush K_R_readParts rfl zk_sipush_202 ?_
      obtain ⟨M10, h11, h⟩ := zbv_ex h
      refine go_vv (Y' := Y_R_tasksOf) (av := [.inl (170 : Int32), .inl (219 : Int32), .inl (122 : Int32), .inl (202 : Int32)]) (rest := []) K_R_readParts rfl zl_12_116 zm_R_tasksOf rfl (G_R_tasksOf h11) (Nat.le_of_ble_eq_true rfl) (Nat.le_of_ble_eq_true rfl) rfl ?_
      refine go_goto K_R_readParts rfl ?_
      cases h
      exact go_return K_R_readParts rfl rfl
  · have h := zif_t c h
    refine go_aload_n K_R_readParts rfl rfl ?_
    refine go_sipush K_R_readParts rfl zk_sipush_171 ?_
    refine go_sipush K_R_readParts rfl zk_sipush_205 ?_
    refine go_sipush K_R_readParts rfl zk_sipush_163 ?_
    refine go_sipush K_R_readParts rfl zk_sipush_2000 ?_
    obtain ⟨M12, h13, h⟩ := zbv_ex h
    refine go_vv (Y' := Y_R_tasksOf) (av := [.inl (171 : Int32), .inl (205 : Int32), .inl (163 : Int32), .inl (2000 : Int32)]) (rest := []) K_R_readParts rfl zl_12_116 zm_R_tasksOf rfl (G_R_tasksOf h13) (Nat.le_of_ble_eq_true rfl) (Nat.le_of_ble_eq_true rfl) rfl ?_
    refine go_goto K_R_readParts rfl ?_
    cases h
    exact go_return K_R_readParts rfl rfl
def F_R_readParts (M : zMem) (l1 l2 : Int32) : Option (zMem) :=
  if l1 = (200 : Int32) then (if l2 = (170 : Int32) then (zbv (F_R_tasksOf M (201 : Int32) (200 : Int32) (-1 : Int32) (-1 : Int32)) fun M1 => some M1) else (F_R_readParts_p13 M l1 l2)) else (F_R_readParts_p13 M l1 l2)
set_option maxRecDepth 100000 in
theorem G_R_readParts {M : zMem} {l1 l2 : Int32} {y : zMem} (h : F_R_readParts M l1 l2 = some y) : zGo Y_R_readParts 2 0 (zal Y_R_readParts [.inr 34, .inl l1, .inl l2]) [] M none y := by
  unfold F_R_readParts at h
  show zGo Y_R_readParts 2 0 [some (.inr 34), some (.inl l1), some (.inl l2), none] [] M _ _
  refine go_iload_n K_R_readParts rfl rfl ?_
  refine go_sipush K_R_readParts rfl zk_sipush_200 ?_
  refine go_icmp_ne K_R_readParts rfl (fun c => ?_) (fun c => ?_)
  · have h := zif_f c h
    exact go_forget (G_R_readParts_p13 h) (zs_s (zs_s (zs_s (zs_n zs_e))))
  · have h := zif_t c h
    refine go_iload_n K_R_readParts rfl rfl ?_
    refine go_sipush K_R_readParts rfl zk_sipush_170 ?_
    refine go_icmp_ne K_R_readParts rfl (fun c => ?_) (fun c => ?_)
    · have h := zif_f c h
      exact go_forget (G_R_readParts_p13 h) (zs_s (zs_s (zs_s (zs_n zs_e))))
    · have h := zif_t c h
      refine go_aload_n K_R_readParts rfl rfl ?_
      refine go_sipush K_R_readParts rfl zk_sipush_201 ?_
      refine go_sipush K_R_readParts rfl zk_sipush_200 ?_
      refine go_iconst K_R_readParts rfl zk_iconst_m1 ?_
      refine go_iconst K_R_readParts rfl zk_iconst_m1 ?_
      obtain ⟨M1, h2, h⟩ := zbv_ex h
      refine go_vv (Y' := Y_R_tasksOf) (av := [.inl (201 : Int32), .inl (200 : Int32), .inl (-1 : Int32), .inl (-1 : Int32)]) (rest := []) K_R_readParts rfl zl_12_116 zm_R_tasksOf rfl (G_R_tasksOf h2) (Nat.le_of_ble_eq_true rfl) (Nat.le_of_ble_eq_true rfl) rfl ?_
      refine go_goto K_R_readParts rfl ?_
      cases h
      exact go_return K_R_readParts rfl rfl
