def F_R_output (N : Nat) (M : zMem) (l1 : Int32) : Option (Int32 × zMem) :=
  zbi (F_R_work N M ) fun r3 M1 => if r3 = 0 then (some ((0 : Int32), M1)) else (if l1 < 0 then (some ((0 : Int32), M1)) else (if (M1 34 42) ≤ l1 then (some ((0 : Int32), M1)) else (zix l1 20 (some (M1 58 l1.toNatClampNeg, M1)))))
set_option maxRecDepth 100000 in
theorem G_R_output {N : Nat} {M : zMem} {l1 : Int32} {y : Int32 × zMem} (h : F_R_output N M l1 = some y) : zGo Y_R_output 7 0 (zal Y_R_output [.inr 34, .inl l1]) [] M (some y.1) y.2 := by
  unfold F_R_output at h
  show zGo Y_R_output 7 0 [some (.inr 34), some (.inl l1)] [] M _ _
  refine go_aload_n K_R_output rfl rfl ?_
  obtain ⟨r3, M1, h2, h⟩ := zbi_ex h
  refine go_vi (Y' := Y_R_work) (av := []) (rest := []) K_R_output rfl zl_12_271 zm_R_work rfl (G_R_work h2) (Nat.le_of_ble_eq_true rfl) (Nat.le_of_ble_eq_true rfl) rfl ?_
  refine go_if_eq K_R_output rfl (fun c => ?_) (fun c => ?_)
  · have h := zif_t c h
    refine go_iconst K_R_output rfl zk_iconst_0 ?_
    cases h
    exact go_ireturn K_R_output rfl rfl
  · have h := zif_f c h
    refine go_iload_n K_R_output rfl rfl ?_
    refine go_if_lt K_R_output rfl (fun c => ?_) (fun c => ?_)
    · have h := zif_t c h
      refine go_iconst K_R_output rfl zk_iconst_0 ?_
      cases h
      exact go_ireturn K_R_output rfl rfl
    · have h := zif_f c h
      refine go_iload_n K_R_output rfl rfl ?_
      refine go_aload_n K_R_output rfl rfl ?_
      refine go_getI K_R_output rfl zf_12_247 ?_
      refine go_icmp_ge K_R_output rfl (fun c => ?_) (fun c => ?_)
      · have h := zif_t c h
        refine go_iconst K_R_output rfl zk_iconst_0 ?_
        cases h
        exact go_ireturn K_R_output rfl rfl
      · have h := zif_f c h
        refine go_aload_n K_R_output rfl rfl ?_
        refine go_getR K_R_output rfl zf_12_79 ?_
        refine go_iload_n K_R_output rfl rfl ?_
        obtain ⟨i4, h⟩ := zix_ex h
        refine go_iald K_R_output rfl za_58 i4 ?_
        refine go_goto K_R_output rfl ?_
        cases h
        exact go_ireturn K_R_output rfl rfl
def F_R_outs (N : Nat) (M : zMem) : Option (Int32 × zMem) :=
  zbi (F_R_work N M ) fun r3 M1 => if r3 = 0 then (some ((-5 : Int32), M1)) else (some (M1 34 42, M1))
set_option maxRecDepth 100000 in
theorem G_R_outs {N : Nat} {M : zMem} {y : Int32 × zMem} (h : F_R_outs N M  = some y) : zGo Y_R_outs 7 0 (zal Y_R_outs [.inr 34]) [] M (some y.1) y.2 := by
  unfold F_R_outs at h
  show zGo Y_R_outs 7 0 [some (.inr 34)] [] M _ _
  refine go_aload_n K_R_outs rfl rfl ?_
  obtain ⟨r3, M1, h2, h⟩ := zbi_ex h
  refine go_vi (Y' := Y_R_work) (av := []) (rest := []) K_R_outs rfl zl_12_271 zm_R_work rfl (G_R_work h2) (Nat.le_of_ble_eq_true rfl) (Nat.le_of_ble_eq_true rfl) rfl ?_
  refine go_if_eq K_R_outs rfl (fun c => ?_) (fun c => ?_)
  · have h := zif_t c h
    refine go_bipush K_R_outs rfl zk_bipush_m5 ?_
    cases h
    exact go_ireturn K_R_outs rfl rfl
  · have h := zif_f c h
    refine go_aload_n K_R_outs rfl rfl ?_
    refine go_getI K_R_outs rfl zf_12_247 ?_
    refine go_goto K_R_outs rfl ?_
    cases h
    exact go_ireturn K_R_outs rfl rfl
def F_R_writeExpression_p127 (M : zMem) (l1 l3 l4 s1 s2 : Int32) : Option (zMem) :=
  zbi (F_R_expression M s1 s2) fun r3 M1 => zix l1 400 (zbi (F_R_expression M1 (M1 42 l1.toNatClampNeg) (l4 + (1 : Int32))) fun r7 M5 => zbv (F_R_tasksOf M5 r3 l3 r7 (-1 : Int32)) fun M8 => some M8)
set_option maxRecDepth 100000 in
theorem G_R_writeExpression_p127 {M : zMem} {l1 l3 l4 s1 s2 : Int32} {y : zMem} (h : F_R_writeExpression_p127 M l1 l3 l4 s1 s2 = some y) : zGo Y_R_writeExpression 2 127 [some (.inr 34), some (.inl l1), none, some (.inl l3), some (.inl l4), none] [.inl s2, .inl s1, .inr 34] M none y := by
  unfold F_R_writeExpression_p127 at h
  obtain ⟨r3, M1, h2, h⟩ := zbi_ex h
  refine go_vi (Y' := Y_R_expression) (av := [.inl s1, .inl s2]) (rest := []) K_R_writeExpression rfl zl_12_280 zm_R_expression rfl (G_R_expression h2) (Nat.le_of_ble_eq_true rfl) (Nat.le_of_ble_eq_true rfl) rfl ?_
  refine go_istore K_R_writeExpression rfl (Nat.le_of_ble_eq_true rfl) ?_
  refine go_aload_n K_R_writeExpression rfl rfl ?_
  refine go_iload K_R_writeExpression rfl rfl ?_
  refine go_iload_n K_R_writeExpression rfl rfl ?_
  refine go_aload_n K_R_writeExpression rfl rfl ?_
  refine go_aload_n K_R_writeExpression rfl rfl ?_
  refine go_getR K_R_writeExpression rfl zf_12_31 ?_
  refine go_iload_n K_R_writeExpression rfl rfl ?_
  obtain ⟨i4, h⟩ := zix_ex h
  refine go_iald K_R_writeExpression rfl za_42 i4 ?_
  refine go_iload K_R_writeExpression rfl rfl ?_
  refine go_iconst K_R_writeExpression rfl zk_iconst_1 ?_
  refine go_iadd K_R_writeExpression rfl ?_
  obtain ⟨r7, M5, h6, h⟩ := zbi_ex h
  refine go_vi (Y' := Y_R_expression) (av := [.inl (M1 42 l1.toNatClampNeg), .inl (l4 + (1 : Int32))]) (rest := [.inl l3, .inl r3, .inr 34]) K_R_writeExpression rfl zl_12_280 zm_R_expression rfl (G_R_expression h6) (Nat.le_of_ble_eq_true rfl) (Nat.le_of_ble_eq_true rfl) rfl ?_
  refine go_iconst K_R_writeExpression rfl zk_iconst_m1 ?_
  obtain ⟨M8, h9, h⟩ := zbv_ex h
  refine go_vv (Y' := Y_R_tasksOf) (av := [.inl r3, .inl l3, .inl r7, .inl (-1 : Int32)]) (rest := []) K_R_writeExpression rfl zl_12_116 zm_R_tasksOf rfl (G_R_tasksOf h9) (Nat.le_of_ble_eq_true rfl) (Nat.le_of_ble_eq_true rfl) rfl ?_
  cases h
  exact go_return K_R_writeExpression rfl rfl
def F_R_writeExpression_p112 (M : zMem) (s1 s3 s4 : Int32) : Option (zMem) :=
  zbi (F_R_expression M s3 s4) fun r3 M1 => zbv (F_R_tasksOf M1 s1 r3 (-1 : Int32) (-1 : Int32)) fun M4 => some M4
set_option maxRecDepth 100000 in
theorem G_R_writeExpression_p112 {M : zMem} {s1 s3 s4 : Int32} {y : zMem} (h : F_R_writeExpression_p112 M s1 s3 s4 = some y) : zGo Y_R_writeExpression 2 112 [none, none, none, none, none, none] [.inl s4, .inl s3, .inr 34, .inl s1, .inr 34] M none y := by
  unfold F_R_writeExpression_p112 at h
  obtain ⟨r3, M1, h2, h⟩ := zbi_ex h
  refine go_vi (Y' := Y_R_expression) (av := [.inl s3, .inl s4]) (rest := [.inl s1, .inr 34]) K_R_writeExpression rfl zl_12_280 zm_R_expression rfl (G_R_expression h2) (Nat.le_of_ble_eq_true rfl) (Nat.le_of_ble_eq_true rfl) rfl ?_
  refine go_iconst K_R_writeExpression rfl zk_iconst_m1 ?_
  refine go_iconst K_R_writeExpression rfl zk_iconst_m1 ?_
  obtain ⟨M4, h5, h⟩ := zbv_ex h
  refine go_vv (Y' := Y_R_tasksOf) (av := [.inl s1, .inl r3, .inl (-1 : Int32), .inl (-1 : Int32)]) (rest := []) K_R_writeExpression rfl zl_12_116 zm_R_tasksOf rfl (G_R_tasksOf h5) (Nat.le_of_ble_eq_true rfl) (Nat.le_of_ble_eq_true rfl) rfl ?_
  refine go_goto K_R_writeExpression rfl ?_
  cases h
  exact go_return K_R_writeExpression rfl rfl
def F_R_writeExpression_p101 (M : zMem) (l1 l3 s1 : Int32) : Option (zMem) :=
  zix l1 400 (if l3 = (5 : Int32) then (F_R_writeExpression_p112 M s1 (M 41 l1.toNatClampNeg) ((3 : Int32))) else (F_R_writeExpression_p112 M s1 (M 41 l1.toNatClampNeg) ((2 : Int32))))
set_option maxRecDepth 100000 in
theorem G_R_writeExpression_p101 {M : zMem} {l1 l3 s1 : Int32} {y : zMem} (h : F_R_writeExpression_p101 M l1 l3 s1 = some y) : zGo Y_R_writeExpression 2 101 [some (.inr 34), some (.inl l1), none, some (.inl l3), none, none] [.inl s1, .inr 34] M none y := by
  unfold F_R_writeExpression_p101 at h
  refine go_aload_n K_R_writeExpression rfl rfl ?_
  refine go_aload_n K_R_writeExpression rfl rfl ?_
  refine go_getR K_R_writeExpression rfl zf_12_28 ?_
  refine go_iload_n K_R_writeExpression rfl rfl ?_
  obtain ⟨i1, h⟩ := zix_ex h
  refine go_iald K_R_writeExpression rfl za_41 i1 ?_
  refine go_iload_n K_R_writeExpression rfl rfl ?_
  refine go_iconst K_R_writeExpression rfl zk_iconst_5 ?_
  refine go_icmp_ne K_R_writeExpression rfl (fun c => ?_) (fun c => ?_)
  · have h := zif_f c h
    refine go_iconst K_R_writeExpression rfl zk_iconst_2 ?_
    exact go_forget (G_R_writeExpression_p112 h) (zs_n (zs_n (zs_n (zs_n (zs_n (zs_n zs_e))))))
  · have h := zif_t c h
    refine go_iconst K_R_writeExpression rfl zk_iconst_3 ?_
    refine go_goto K_R_writeExpression rfl ?_
    exact go_forget (G_R_writeExpression_p112 h) (zs_n (zs_n (zs_n (zs_n (zs_n (zs_n zs_e))))))
def F_R_writeExpression_p89 (M : zMem) (s1 s2 s3 s4 : Int32) : Option (zMem) :=
  zbv (F_R_tasksOf M s1 s2 s3 s4) fun M1 => some M1
set_option maxRecDepth 100000 in
theorem G_R_writeExpression_p89 {M : zMem} {s1 s2 s3 s4 : Int32} {y : zMem} (h : F_R_writeExpression_p89 M s1 s2 s3 s4 = some y) : zGo Y_R_writeExpression 2 89 [none, none, none, none, none, none] [.inl s4, .inl s3, .inl s2, .inl s1, .inr 34] M none y := by
  unfold F_R_writeExpression_p89 at h
  obtain ⟨M1, h2, h⟩ := zbv_ex h
  refine go_vv (Y' := Y_R_tasksOf) (av := [.inl s1, .inl s2, .inl s3, .inl s4]) (rest := []) K_R_writeExpression rfl zl_12_116 zm_R_tasksOf rfl (G_R_tasksOf h2) (Nat.le_of_ble_eq_true rfl) (Nat.le_of_ble_eq_true rfl) rfl ?_
  refine go_goto K_R_writeExpression rfl ?_
  cases h
  exact go_return K_R_writeExpression rfl rfl
def F_R_writeExpression_p81 (M : zMem) (l1 s1 s2 s3 : Int32) : Option (zMem) :=
  zix l1 400 (if 0 ≤ (M 41 l1.toNatClampNeg) then (F_R_writeExpression_p89 M s1 s2 s3 ((123 : Int32))) else (F_R_writeExpression_p89 M s1 s2 s3 ((-1 : Int32))))
set_option maxRecDepth 100000 in
theorem G_R_writeExpression_p81 {M : zMem} {l1 s1 s2 s3 : Int32} {y : zMem} (h : F_R_writeExpression_p81 M l1 s1 s2 s3 = some y) : zGo Y_R_writeExpression 2 81 [some (.inr 34), some (.inl l1), none, none, none, none] [.inl s3, .inl s2, .inl s1, .inr 34] M none y := by
  unfold F_R_writeExpression_p81 at h
  refine go_aload_n K_R_writeExpression rfl rfl ?_
  refine go_getR K_R_writeExpression rfl zf_12_28 ?_
  refine go_iload_n K_R_writeExpression rfl rfl ?_
  obtain ⟨i1, h⟩ := zix_ex h
  refine go_iald K_R_writeExpression rfl za_41 i1 ?_
  refine go_if_ge K_R_writeExpression rfl (fun c => ?_) (fun c => ?_)
  · have h := zif_t c h
    refine go_bipush K_R_writeExpression rfl zk_bipush_123 ?_
    exact go_forget (G_R_writeExpression_p89 h) (zs_n (zs_n (zs_n (zs_n (zs_n (zs_n zs_e))))))
  · have h := zif_f c h
    refine go_iconst K_R_writeExpression rfl zk_iconst_m1 ?_
    refine go_goto K_R_writeExpression rfl ?_
    exact go_forget (G_R_writeExpression_p89 h) (zs_n (zs_n (zs_n (zs_n (zs_n (zs_n zs_e))))))
def F_R_writeExpression_p39 (M : zMem) (s1 : Int32) : Option (zMem) :=
  zbv (F_R_emit M s1) fun M1 => some M1
set_option maxRecDepth 100000 in
theorem G_R_writeExpression_p39 {M : zMem} {s1 : Int32} {y : zMem} (h : F_R_writeExpression_p39 M s1 = some y) : zGo Y_R_writeExpression 2 39 [none, none, none, none, none, none] [.inl s1, .inr 34] M none y := by
  unfold F_R_writeExpression_p39 at h
  obtain ⟨M1, h2, h⟩ := zbv_ex h
  refine go_vv (Y' := Y_R_emit) (av := [.inl s1]) (rest := []) K_R_writeExpression rfl zl_12_284 zm_R_emit rfl (G_R_emit h2) (Nat.le_of_ble_eq_true rfl) (Nat.le_of_ble_eq_true rfl) rfl ?_
  refine go_goto K_R_writeExpression rfl ?_
  cases h
  exact go_return K_R_writeExpression rfl rfl
def F_R_writeExpression (M : zMem) (l1 l2 : Int32) : Option (zMem) :=
  zix l1 400 (zbi (F_R_levelOf M l1) fun r4 M2 => if l2 ≤ r4 then (if (2 : Int32) ≤ (M 39 l1.toNatClampNeg) then (if (M 39 l1.toNatClampNeg) = (2 : Int32) then (zix l1 400 (zbi (F_R_expression M2 (M2 41 l1.toNatClampNeg) (0 : Int32)) fun r12 M10 => zbv (F_R_tasksOf M10 (108 : Int32) (125 : Int32) r12 (126 : Int32)) fun M13 => some M13)) else (if (M 39 l1.toNatClampNeg) = (3 : Int32) then (zix l1 400 (zix l1 400 (if 0 ≤ (M2 41 l1.toNatClampNeg) then (zix l1 400 (F_R_writeExpression_p81 M2 l1 ((110 : Int32) + (M2 40 l1.toNatClampNeg)) ((122 : Int32)) ((5000 : Int32) + (M2 41 l1.toNatClampNeg)))) else (F_R_writeExpression_p81 M2 l1 ((110 : Int32) + (M2 40 l1.toNatClampNeg)) ((122 : Int32)) ((123 : Int32)))))) else (if (7 : Int32) ≤ (M 39 l1.toNatClampNeg) then (zix l1 400 (if r4 = 0 then (F_R_writeExpression_p127 M2 l1 (M 39 l1.toNatClampNeg) r4 (M2 41 l1.toNatClampNeg) ((1 : Int32))) else (F_R_writeExpression_p127 M2 l1 (M 39 l1.toNatClampNeg) r4 (M2 41 l1.toNatClampNeg) r4))) else (if (M 39 l1.toNatClampNeg) = (5 : Int32) then (F_R_writeExpression_p101 M2 l1 (M 39 l1.toNatClampNeg) ((152 : Int32))) else (F_R_writeExpression_p101 M2 l1 (M 39 l1.toNatClampNeg) ((131 : Int32))))))) else (if (M 39 l1.toNatClampNeg) = 0 then (zix l1 400 (F_R_writeExpression_p39 M2 (M2 40 l1.toNatClampNeg))) else (zix l1 400 (F_R_writeExpression_p39 M2 ((100 : Int32) + (M2 40 l1.toNatClampNeg)))))) else (zbi (F_R_expression M2 l1 (0 : Int32)) fun r19 M17 => zbv (F_R_tasksOf M17 (122 : Int32) r19 (123 : Int32) (-1 : Int32)) fun M20 => some M20))
set_option maxRecDepth 100000 in
theorem G_R_writeExpression {M : zMem} {l1 l2 : Int32} {y : zMem} (h : F_R_writeExpression M l1 l2 = some y) : zGo Y_R_writeExpression 2 0 (zal Y_R_writeExpression [.inr 34, .inl l1, .inl l2]) [] M none y := by
  unfold F_R_writeExpression at h
  show zGo Y_R_writeExpression 2 0 [some (.inr 34), some (.inl l1), some (.inl l2), none, none, none] [] M _ _
  refine go_aload_n K_R_writeExpression rfl rfl ?_
  refine go_getR K_R_writeExpression rfl zf_12_22 ?_
  refine go_iload_n K_R_writeExpression rfl rfl ?_
  obtain ⟨i1, h⟩ := zix_ex h
  refine go_iald K_R_writeExpression rfl za_39 i1 ?_
  refine go_istore_n K_R_writeExpression rfl (Nat.le_of_ble_eq_true rfl) ?_
  refine go_aload_n K_R_writeExpression rfl rfl ?_
  refine go_iload_n K_R_writeExpression rfl rfl ?_
  obtain ⟨r4, M2, h3, h⟩ := zbi_ex h
  refine go_vi (Y' := Y_R_levelOf) (av := [.inl l1]) (rest := []) K_R_writeExpression rfl zl_12_277 zm_R_levelOf rfl (G_R_levelOf h3) (Nat.le_of_ble_eq_true rfl) (Nat.le_of_ble_eq_true rfl) rfl ?_
  refine go_istore K_R_writeExpression rfl (Nat.le_of_ble_eq_true rfl) ?_
  refine go_iload K_R_writeExpression rfl rfl ?_
  refine go_iload_n K_R_writeExpression rfl rfl ?_
  refine go_icmp_ge K_R_writeExpression rfl (fun c => ?_) (fun c => ?_)
  · have h := zif_t c h
    refine go_iload_n K_R_writeExpression rfl rfl ?_
    refine go_iconst K_R_writeExpression rfl zk_iconst_2 ?_
    refine go_icmp_ge K_R_writeExpression rfl (fun c => ?_) (fun c => ?_)
    · have h := zif_t c h
      refine go_iload_n K_R_writeExpression rfl rfl ?_
      refine go_iconst K_R_writeExpression rfl zk_iconst_2 ?_
      refine go_icmp_ne K_R_writeExpression rfl (fun c => ?_) (fun c => ?_)
      · have h := zif_f c h
        refine go_iload_n K_R_writeExpression rfl rfl ?_
        refine go_iconst K_R_writeExpression rfl zk_iconst_3 ?_
        refine go_icmp_ne K_R_writeExpression rfl (fun c => ?_) (fun c => ?_)
        · have h := zif_f c h
          refine go_iload_n K_R_writeExpression rfl rfl ?_
          refine go_bipush K_R_writeExpression rfl zk_bipush_7 ?_
          refine go_icmp_ge K_R_writeExpression rfl (fun c => ?_) (fun c => ?_)
          · have h := zif_t c h
            refine go_aload_n K_R_writeExpression rfl rfl ?_
            refine go_aload_n K_R_writeExpression rfl rfl ?_
            refine go_getR K_R_writeExpression rfl zf_12_28 ?_
            refine go_iload_n K_R_writeExpression rfl rfl ?_
            obtain ⟨i5, h⟩ := zix_ex h
            refine go_iald K_R_writeExpression rfl za_41 i5 ?_
            refine go_iload K_R_writeExpression rfl rfl ?_
            refine go_if_ne K_R_writeExpression rfl (fun c => ?_) (fun c => ?_)
            · have h := zif_f c h
              refine go_iload K_R_writeExpression rfl rfl ?_
              exact go_forget (G_R_writeExpression_p127 h) (zs_s (zs_s (zs_n (zs_s (zs_s (zs_n zs_e))))))
            · have h := zif_t c h
              refine go_iconst K_R_writeExpression rfl zk_iconst_1 ?_
              refine go_goto K_R_writeExpression rfl ?_
              exact go_forget (G_R_writeExpression_p127 h) (zs_s (zs_s (zs_n (zs_s (zs_s (zs_n zs_e))))))
          · have h := zif_f c h
            refine go_aload_n K_R_writeExpression rfl rfl ?_
            refine go_iload_n K_R_writeExpression rfl rfl ?_
            refine go_iconst K_R_writeExpression rfl zk_iconst_5 ?_
            refine go_icmp_ne K_R_writeExpression rfl (fun c => ?_) (fun c => ?_)
            · have h := zif_f c h
              refine go_sipush K_R_writeExpression rfl zk_sipush_131 ?_
              exact go_forget (G_R_writeExpression_p101 h) (zs_s (zs_s (zs_n (zs_s (zs_n (zs_n zs_e))))))
            · have h := zif_t c h
              refine go_sipush K_R_writeExpression rfl zk_sipush_152 ?_
              refine go_goto K_R_writeExpression rfl ?_
              exact go_forget (G_R_writeExpression_p101 h) (zs_s (zs_s (zs_n (zs_s (zs_n (zs_n zs_e))))))
        · have h := zif_t c h
          refine go_aload_n K_R_writeExpression rfl rfl ?_
          refine go_bipush K_R_writeExpression rfl zk_bipush_110 ?_
          refine go_aload_n K_R_writeExpression rfl rfl ?_
          refine go_getR K_R_writeExpression rfl zf_12_25 ?_
          refine go_iload_n K_R_writeExpression rfl rfl ?_
          obtain ⟨i6, h⟩ := zix_ex h
          refine go_iald K_R_writeExpression rfl za_40 i6 ?_
          refine go_iadd K_R_writeExpression rfl ?_
          refine go_bipush K_R_writeExpression rfl zk_bipush_122 ?_
          refine go_aload_n K_R_writeExpression rfl rfl ?_
          refine go_getR K_R_writeExpression rfl zf_12_28 ?_
          refine go_iload_n K_R_writeExpression rfl rfl ?_
          obtain ⟨i7, h⟩ := zix_ex h
          refine go_iald K_R_writeExpression rfl za_41 i7 ?_
          refine go_if_ge K_R_writeExpression rfl (fun c => ?_) (fun c => ?_)
          · have h := zif_t c h
            refine go_sipush K_R_writeExpression rfl zk_sipush_5000 ?_
            refine go_aload_n K_R_writeExpression rfl rfl ?_
            refine go_getR K_R_writeExpression rfl zf_12_28 ?_
            refine go_iload_n K_R_writeExpression rfl rfl ?_
            obtain ⟨i8, h⟩ := zix_ex h
            refine go_iald K_R_writeExpression rfl za_41 i8 ?_
            refine go_iadd K_R_writeExpression rfl ?_
            exact go_forget (G_R_writeExpression_p81 h) (zs_s (zs_s (zs_n (zs_n (zs_n (zs_n zs_e))))))
          · have h := zif_f c h
            refine go_bipush K_R_writeExpression rfl zk_bipush_123 ?_
            refine go_goto K_R_writeExpression rfl ?_
            exact go_forget (G_R_writeExpression_p81 h) (zs_s (zs_s (zs_n (zs_n (zs_n (zs_n zs_e))))))
      · have h := zif_t c h
        refine go_aload_n K_R_writeExpression rfl rfl ?_
        refine go_bipush K_R_writeExpression rfl zk_bipush_108 ?_
        refine go_bipush K_R_writeExpression rfl zk_bipush_125 ?_
        refine go_aload_n K_R_writeExpression rfl rfl ?_
        refine go_aload_n K_R_writeExpression rfl rfl ?_
        refine go_getR K_R_writeExpression rfl zf_12_28 ?_
        refine go_iload_n K_R_writeExpression rfl rfl ?_
        obtain ⟨i9, h⟩ := zix_ex h
        refine go_iald K_R_writeExpression rfl za_41 i9 ?_
        refine go_iconst K_R_writeExpression rfl zk_iconst_0 ?_
        obtain ⟨r12, M10, h11, h⟩ := zbi_ex h
        refine go_vi (Y' := Y_R_expression) (av := [.inl (M2 41 l1.toNatClampNeg), .inl (0 : Int32)]) (rest := [.inl (125 : Int32), .inl (108 : Int32), .inr 34]) K_R_writeExpression rfl zl_12_280 zm_R_expression rfl (G_R_expression h11) (Nat.le_of_ble_eq_true rfl) (Nat.le_of_ble_eq_true rfl) rfl ?_
        refine go_bipush K_R_writeExpression rfl zk_bipush_126 ?_
        obtain ⟨M13, h14, h⟩ := zbv_ex h
        refine go_vv (Y' := Y_R_tasksOf) (av := [.inl (108 : Int32), .inl (125 : Int32), .inl r12, .inl (126 : Int32)]) (rest := []) K_R_writeExpression rfl zl_12_116 zm_R_tasksOf rfl (G_R_tasksOf h14) (Nat.le_of_ble_eq_true rfl) (Nat.le_of_ble_eq_true rfl) rfl ?_
        refine go_goto K_R_writeExpression rfl ?_
        cases h
        exact go_return K_R_writeExpression rfl rfl
    · have h := zif_f c h
      refine go_aload_n K_R_writeExpression rfl rfl ?_
      refine go_iload_n K_R_writeExpression rfl rfl ?_
      refine go_if_ne K_R_writeExpression rfl (fun c => ?_) (fun c => ?_)
      · have h := zif_f c h
        refine go_bipush K_R_writeExpression rfl zk_bipush_100 ?_
        refine go_aload_n K_R_writeExpression rfl rfl ?_
        refine go_getR K_R_writeExpression rfl zf_12_25 ?_
        refine go_iload_n K_R_writeExpression rfl rfl ?_
        obtain ⟨i15, h⟩ := zix_ex h
        refine go_iald K_R_writeExpression rfl za_40 i15 ?_
        refine go_iadd K_R_writeExpression rfl ?_
        exact go_forget (G_R_writeExpression_p39 h) (zs_n (zs_n (zs_n (zs_n (zs_n (zs_n zs_e))))))
      · have h := zif_t c h
        refine go_aload_n K_R_writeExpression rfl rfl ?_
        refine go_getR K_R_writeExpression rfl zf_12_25 ?_
        refine go_iload_n K_R_writeExpression rfl rfl ?_
        obtain ⟨i16, h⟩ := zix_ex h
        refine go_iald K_R_writeExpression rfl za_40 i16 ?_
        refine go_goto K_R_writeExpression rfl ?_
        exact go_forget (G_R_writeExpression_p39 h) (zs_n (zs_n (zs_n (zs_n (zs_n (zs_n zs_e))))))
  · have h := zif_f c h
    refine go_aload_n K_R_writeExpression rfl rfl ?_
    refine go_bipush K_R_writeExpression rfl zk_bipush_122 ?_
    refine go_aload_n K_R_writeExpression rfl rfl ?_
    refine go_iload_n K_R_writeExpression rfl rfl ?_
    refine go_iconst K_R_writeExpression rfl zk_iconst_0 ?_
    obtain ⟨r19, M17, h18, h⟩ := zbi_ex h
    refine go_vi (Y' := Y_R_expression) (av := [.inl l1, .inl (0 : Int32)]) (rest := [.inl (122 : Int32), .inr 34]) K_R_writeExpression rfl zl_12_280 zm_R_expression rfl (G_R_expression h18) (Nat.le_of_ble_eq_true rfl) (Nat.le_of_ble_eq_true rfl) rfl ?_
    refine go_bipush K_R_writeExpression rfl zk_bipush_123 ?_
    refine go_iconst K_R_writeExpression rfl zk_iconst_m1 ?_
    obtain ⟨M20, h21, h⟩ := zbv_ex h
    refine go_vv (Y' := Y_R_tasksOf) (av := [.inl (122 : Int32), .inl r19, .inl (123 : Int32), .inl (-1 : Int32)]) (rest := []) K_R_writeExpression rfl zl_12_116 zm_R_tasksOf rfl (G_R_tasksOf h21) (Nat.le_of_ble_eq_true rfl) (Nat.le_of_ble_eq_true rfl) rfl ?_
    refine go_goto K_R_writeExpression rfl ?_
    cases h
    exact go_return K_R_writeExpression rfl rfl
def F_R_writeRest_p22 (M : zMem) (l2 : Int32) : Option (zMem) :=
  if l2 < 0 then (some M) else (zix l2 400 (zbv (F_R_tasksOf M (161 : Int32) ((6000 : Int32) + (M 42 l2.toNatClampNeg)) ((4000 : Int32) + l2) (-1 : Int32)) fun M2 => zix l2 400 (zbi (F_R_expression M2 (M2 41 l2.toNatClampNeg) (0 : Int32)) fun r7 M5 => zbv (F_R_tasksOf M5 (173 : Int32) r7 (-1 : Int32) (-1 : Int32)) fun M8 => some M8)))
set_option maxRecDepth 100000 in
theorem G_R_writeRest_p22 {M : zMem} {l2 : Int32} {y : zMem} (h : F_R_writeRest_p22 M l2 = some y) : zGo Y_R_writeRest 2 22 [some (.inr 34), none, some (.inl l2)] [] M none y := by
  unfold F_R_writeRest_p22 at h
  refine go_iload_n K_R_writeRest rfl rfl ?_
  refine go_if_lt K_R_writeRest rfl (fun c => ?_) (fun c => ?_)
  · have h := zif_t c h
    cases h
    exact go_return K_R_writeRest rfl rfl
  · have h := zif_f c h
    refine go_aload_n K_R_writeRest rfl rfl ?_
    refine go_sipush K_R_writeRest rfl zk_sipush_161 ?_
    refine go_sipush K_R_writeRest rfl zk_sipush_6000 ?_
    refine go_aload_n K_R_writeRest rfl rfl ?_
    refine go_getR K_R_writeRest rfl zf_12_31 ?_
    refine go_iload_n K_R_writeRest rfl rfl ?_
    obtain ⟨i1, h⟩ := zix_ex h
    refine go_iald K_R_writeRest rfl za_42 i1 ?_
    refine go_iadd K_R_writeRest rfl ?_
    refine go_sipush K_R_writeRest rfl zk_sipush_4000 ?_
    refine go_iload_n K_R_writeRest rfl rfl ?_
    refine go_iadd K_R_writeRest rfl ?_
    refine go_iconst K_R_writeRest rfl zk_iconst_m1 ?_
    obtain ⟨M2, h3, h⟩ := zbv_ex h
    refine go_vv (Y' := Y_R_tasksOf) (av := [.inl (161 : Int32), .inl ((6000 : Int32) + (M 42 l2.toNatClampNeg)), .inl ((4000 : Int32) + l2), .inl (-1 : Int32)]) (rest := []) K_R_writeRest rfl zl_12_116 zm_R_tasksOf rfl (G_R_tasksOf h3) (Nat.le_of_ble_eq_true rfl) (Nat.le_of_ble_eq_true rfl) rfl ?_
    refine go_aload_n K_R_writeRest rfl rfl ?_
    refine go_sipush K_R_writeRest rfl zk_sipush_173 ?_
    refine go_aload_n K_R_writeRest rfl rfl ?_
    refine go_aload_n K_R_writeRest rfl rfl ?_
    refine go_getR K_R_writeRest rfl zf_12_28 ?_
    refine go_iload_n K_R_writeRest rfl rfl ?_
    obtain ⟨i4, h⟩ := zix_ex h
    refine go_iald K_R_writeRest rfl za_41 i4 ?_
    refine go_iconst K_R_writeRest rfl zk_iconst_0 ?_
    obtain ⟨r7, M5, h6, h⟩ := zbi_ex h
    refine go_vi (Y' := Y_R_expression) (av := [.inl (M2 41 l2.toNatClampNeg), .inl (0 : Int32)]) (rest := [.inl (173 : Int32), .inr 34]) K_R_writeRest rfl zl_12_280 zm_R_expression rfl (G_R_expression h6) (Nat.le_of_ble_eq_true rfl) (Nat.le_of_ble_eq_true rfl) rfl ?_
    refine go_iconst K_R_writeRest rfl zk_iconst_m1 ?_
    refine go_iconst K_R_writeRest rfl zk_iconst_m1 ?_
    obtain ⟨M8, h9, h⟩ := zbv_ex h
    refine go_vv (Y' := Y_R_tasksOf) (av := [.inl (173 : Int32), .inl r7, .inl (-1 : Int32), .inl (-1 : Int32)]) (rest := []) K_R_writeRest rfl zl_12_116 zm_R_tasksOf rfl (G_R_tasksOf h9) (Nat.le_of_ble_eq_true rfl) (Nat.le_of_ble_eq_true rfl) rfl ?_
    cases h
    exact go_return K_R_writeRest rfl rfl
def F_R_writeRest (M : zMem) (l1 : Int32) : Option (zMem) :=
  zix l1 400 (if (M 43 l1.toNatClampNeg) < 0 then (F_R_writeRest_p22 M (M 43 l1.toNatClampNeg)) else (zix (M 43 l1.toNatClampNeg) 400 (if (M 39 (M 43 l1.toNatClampNeg).toNatClampNeg) = (30 : Int32) then (zbv (F_R_tasksOf M (162 : Int32) ((6000 : Int32) + (M 43 l1.toNatClampNeg)) (-1 : Int32) (-1 : Int32)) fun M3 => some M3) else (F_R_writeRest_p22 M (M 43 l1.toNatClampNeg)))))
set_option maxRecDepth 100000 in
theorem G_R_writeRest {M : zMem} {l1 : Int32} {y : zMem} (h : F_R_writeRest M l1 = some y) : zGo Y_R_writeRest 2 0 (zal Y_R_writeRest [.inr 34, .inl l1]) [] M none y := by
  unfold F_R_writeRest at h
  show zGo Y_R_writeRest 2 0 [some (.inr 34), some (.inl l1), none] [] M _ _
  refine go_aload_n K_R_writeRest rfl rfl ?_
  refine go_getR K_R_writeRest rfl zf_12_34 ?_
  refine go_iload_n K_R_writeRest rfl rfl ?_
  obtain ⟨i1, h⟩ := zix_ex h
  refine go_iald K_R_writeRest rfl za_43 i1 ?_
  refine go_istore_n K_R_writeRest rfl (Nat.le_of_ble_eq_true rfl) ?_
  refine go_iload_n K_R_writeRest rfl rfl ?_
  refine go_if_lt K_R_writeRest rfl (fun c => ?_) (fun c => ?_)
  · have h := zif_t c h
    exact go_forget (G_R_writeRest_p22 h) (zs_s (zs_n (zs_s zs_e)))
  · have h := zif_f c h
    refine go_aload_n K_R_writeRest rfl rfl ?_
    refine go_getR K_R_writeRest rfl zf_12_22 ?_
    refine go_iload_n K_R_writeRest rfl rfl ?_
    obtain ⟨i2, h⟩ := zix_ex h
    refine go_iald K_R_writeRest rfl za_39 i2 ?_
    refine go_bipush K_R_writeRest rfl zk_bipush_30 ?_
    refine go_icmp_ne K_R_writeRest rfl (fun c => ?_) (fun c => ?_)
    · have h := zif_f c h
      exact go_forget (G_R_writeRest_p22 h) (zs_s (zs_n (zs_s zs_e)))
    · have h := zif_t c h
      refine go_aload_n K_R_writeRest rfl rfl ?_
      refine go_sipush K_R_writeRest rfl zk_sipush_162 ?_
      refine go_sipush K_R_writeRest rfl zk_sipush_6000 ?_
      refine go_iload_n K_R_writeRest rfl rfl ?_
      refine go_iadd K_R_writeRest rfl ?_
      refine go_iconst K_R_writeRest rfl zk_iconst_m1 ?_
      refine go_iconst K_R_writeRest rfl zk_iconst_m1 ?_
      obtain ⟨M3, h4, h⟩ := zbv_ex h
      refine go_vv (Y' := Y_R_tasksOf) (av := [.inl (162 : Int32), .inl ((6000 : Int32) + (M 43 l1.toNatClampNeg)), .inl (-1 : Int32), .inl (-1 : Int32)]) (rest := []) K_R_writeRest rfl zl_12_116 zm_R_tasksOf rfl (G_R_tasksOf h4) (Nat.le_of_ble_eq_true rfl) (Nat.le_of_ble_eq_true rfl) rfl ?_
      refine go_goto K_R_writeRest rfl ?_
      cases h
      exact go_return K_R_writeRest rfl rfl
def F_R_writeStatement_p96 (M : zMem) (l1 s1 : Int32) : Option (zMem) :=
  zix l1 400 (zbi (F_R_expression M (M 41 l1.toNatClampNeg) (0 : Int32)) fun r4 M2 => zbv (F_R_tasksOf M2 s1 r4 (-1 : Int32) (-1 : Int32)) fun M5 => some M5)
set_option maxRecDepth 100000 in
theorem G_R_writeStatement_p96 {M : zMem} {l1 s1 : Int32} {y : zMem} (h : F_R_writeStatement_p96 M l1 s1 = some y) : zGo Y_R_writeStatement 2 96 [some (.inr 34), some (.inl l1), none] [.inl s1, .inr 34] M none y := by
  unfold F_R_writeStatement_p96 at h
  refine go_aload_n K_R_writeStatement rfl rfl ?_
  refine go_aload_n K_R_writeStatement rfl rfl ?_
  refine go_getR K_R_writeStatement rfl zf_12_28 ?_
  refine go_iload_n K_R_writeStatement rfl rfl ?_
  obtain ⟨i1, h⟩ := zix_ex h
  refine go_iald K_R_writeStatement rfl za_41 i1 ?_
  refine go_iconst K_R_writeStatement rfl zk_iconst_0 ?_
  obtain ⟨r4, M2, h3, h⟩ := zbi_ex h
  refine go_vi (Y' := Y_R_expression) (av := [.inl (M 41 l1.toNatClampNeg), .inl (0 : Int32)]) (rest := [.inl s1, .inr 34]) K_R_writeStatement rfl zl_12_280 zm_R_expression rfl (G_R_expression h3) (Nat.le_of_ble_eq_true rfl) (Nat.le_of_ble_eq_true rfl) rfl ?_
  refine go_iconst K_R_writeStatement rfl zk_iconst_m1 ?_
  refine go_iconst K_R_writeStatement rfl zk_iconst_m1 ?_
  obtain ⟨M5, h6, h⟩ := zbv_ex h
  refine go_vv (Y' := Y_R_tasksOf) (av := [.inl s1, .inl r4, .inl (-1 : Int32), .inl (-1 : Int32)]) (rest := []) K_R_writeStatement rfl zl_12_116 zm_R_tasksOf rfl (G_R_tasksOf h6) (Nat.le_of_ble_eq_true rfl) (Nat.le_of_ble_eq_true rfl) rfl ?_
  refine go_goto K_R_writeStatement rfl ?_
  cases h
  exact go_return K_R_writeStatement rfl rfl
def F_R_writeStatement_p89 (M : zMem) (l1 l2 : Int32) : Option (zMem) :=
  if l2 = (23 : Int32) then (F_R_writeStatement_p96 M l1 ((169 : Int32))) else (F_R_writeStatement_p96 M l1 ((168 : Int32)))
set_option maxRecDepth 100000 in
theorem G_R_writeStatement_p89 {M : zMem} {l1 l2 : Int32} {y : zMem} (h : F_R_writeStatement_p89 M l1 l2 = some y) : zGo Y_R_writeStatement 2 89 [some (.inr 34), some (.inl l1), some (.inl l2)] [] M none y := by
  unfold F_R_writeStatement_p89 at h
  refine go_aload_n K_R_writeStatement rfl rfl ?_
  refine go_iload_n K_R_writeStatement rfl rfl ?_
  refine go_bipush K_R_writeStatement rfl zk_bipush_23 ?_
  refine go_icmp_ne K_R_writeStatement rfl (fun c => ?_) (fun c => ?_)
  · have h := zif_f c h
    refine go_sipush K_R_writeStatement rfl zk_sipush_168 ?_
    exact go_forget (G_R_writeStatement_p96 h) (zs_s (zs_s (zs_n zs_e)))
  · have h := zif_t c h
    refine go_sipush K_R_writeStatement rfl zk_sipush_169 ?_
    refine go_goto K_R_writeStatement rfl ?_
    exact go_forget (G_R_writeStatement_p96 h) (zs_s (zs_s (zs_n zs_e)))
def F_R_writeStatement_p21 (M : zMem) (l1 l2 : Int32) : Option (zMem) :=
  if l2 = (20 : Int32) then (zix l1 400 (zix l1 400 (zbi (F_R_expression M (M 41 l1.toNatClampNeg) (0 : Int32)) fun r50 M48 => zbv (F_R_tasksOf M48 ((100 : Int32) + (M 40 l1.toNatClampNeg)) (120 : Int32) r50 (-1 : Int32)) fun M51 => some M51))) else (if l2 = (21 : Int32) then (zix l1 400 (zbi (F_R_expression M (M 42 l1.toNatClampNeg) (0 : Int32)) fun r37 M35 => zbv (F_R_tasksOf M35 (126 : Int32) (120 : Int32) r37 (-1 : Int32)) fun M38 => zix l1 400 (zbi (F_R_expression M38 (M38 41 l1.toNatClampNeg) (0 : Int32)) fun r43 M41 => zbv (F_R_tasksOf M41 (108 : Int32) (125 : Int32) r43 (-1 : Int32)) fun M44 => some M44))) else (if l2 = (22 : Int32) then (zix l1 400 (zbi (F_R_expression M (M 41 l1.toNatClampNeg) (0 : Int32)) fun r31 M29 => zbv (F_R_task M29 r31) fun M32 => some M32)) else (if l2 = (23 : Int32) then (F_R_writeStatement_p89 M l1 l2) else (if l2 = (24 : Int32) then (F_R_writeStatement_p89 M l1 l2) else (if l2 = (25 : Int32) then (zix l1 400 (zbv (F_R_tasksOf M (165 : Int32) ((6000 : Int32) + (M 42 l1.toNatClampNeg)) (163 : Int32) (-1 : Int32)) fun M20 => zix l1 400 (zbi (F_R_expression M20 (M20 41 l1.toNatClampNeg) (0 : Int32)) fun r25 M23 => zbv (F_R_tasksOf M23 (164 : Int32) r25 (-1 : Int32) (-1 : Int32)) fun M26 => some M26))) else (if l2 = (26 : Int32) then (zix l1 400 (zix l1 400 (zbi (F_R_expression M (M 42 l1.toNatClampNeg) (0 : Int32)) fun r16 M14 => zbv (F_R_tasksOf M14 (166 : Int32) ((6000 : Int32) + (M 41 l1.toNatClampNeg)) (167 : Int32) r16) fun M17 => some M17))) else (zbv (F_R_task M (163 : Int32)) fun M1 => zix l1 400 (zbv (F_R_tasksOf M1 (161 : Int32) ((6000 : Int32) + (M1 42 l1.toNatClampNeg)) ((4000 : Int32) + l1) (-1 : Int32)) fun M4 => zix l1 400 (zbi (F_R_expression M4 (M4 41 l1.toNatClampNeg) (0 : Int32)) fun r9 M7 => zbv (F_R_tasksOf M7 (160 : Int32) r9 (-1 : Int32) (-1 : Int32)) fun M10 => some M10)))))))))
set_option maxRecDepth 100000 in
theorem G_R_writeStatement_p21 {M : zMem} {l1 l2 : Int32} {y : zMem} (h : F_R_writeStatement_p21 M l1 l2 = some y) : zGo Y_R_writeStatement 2 21 [some (.inr 34), some (.inl l1), some (.inl l2)] [] M none y := by
  unfold F_R_writeStatement_p21 at h
  refine go_iload_n K_R_writeStatement rfl rfl ?_
  refine go_bipush K_R_writeStatement rfl zk_bipush_20 ?_
  refine go_icmp_ne K_R_writeStatement rfl (fun c => ?_) (fun c => ?_)
  · have h := zif_f c h
    refine go_iload_n K_R_writeStatement rfl rfl ?_
    refine go_bipush K_R_writeStatement rfl zk_bipush_21 ?_
    refine go_icmp_ne K_R_writeStatement rfl (fun c => ?_) (fun c => ?_)
    · have h := zif_f c h
      refine go_iload_n K_R_writeStatement rfl rfl ?_
      refine go_bipush K_R_writeStatement rfl zk_bipush_22 ?_
      refine go_icmp_ne K_R_writeStatement rfl (fun c => ?_) (fun c => ?_)
      · have h := zif_f c h
        refine go_iload_n K_R_writeStatement rfl rfl ?_
        refine go_bipush K_R_writeStatement rfl zk_bipush_23 ?_
        refine go_icmp_eq K_R_writeStatement rfl (fun c => ?_) (fun c => ?_)
        · have h := zif_t c h
          exact go_forget (G_R_writeStatement_p89 h) (zs_s (zs_s (zs_s zs_e)))
        · have h := zif_f c h
          refine go_iload_n K_R_writeStatement rfl rfl ?_
          refine go_bipush K_R_writeStatement rfl zk_bipush_24 ?_
          refine go_icmp_ne K_R_writeStatement rfl (fun c => ?_) (fun c => ?_)
          · have h := zif_f c h
            refine go_iload_n K_R_writeStatement rfl rfl ?_
            refine go_bipush K_R_writeStatement rfl zk_bipush_25 ?_
            refine go_icmp_ne K_R_writeStatement rfl (fun c => ?_) (fun c => ?_)
            · have h := zif_f c h
              refine go_iload_n K_R_writeStatement rfl rfl ?_
              refine go_bipush K_R_writeStatement rfl zk_bipush_26 ?_
              refine go_icmp_ne K_R_writeStatement rfl (fun c => ?_) (fun c => ?_)
              · have h := zif_f c h
                refine go_aload_n K_R_writeStatement rfl rfl ?_
                refine go_sipush K_R_writeStatement rfl zk_sipush_163 ?_
                obtain ⟨M1, h2, h⟩ := zbv_ex h
                refine go_vv (Y' := Y_R_task) (av := [.inl (163 : Int32)]) (rest := []) K_R_writeStatement rfl zl_12_112 zm_R_task rfl (G_R_task h2) (Nat.le_of_ble_eq_true rfl) (Nat.le_of_ble_eq_true rfl) rfl ?_
                refine go_aload_n K_R_writeStatement rfl rfl ?_
                refine go_sipush K_R_writeStatement rfl zk_sipush_161 ?_
                refine go_sipush K_R_writeStatement rfl zk_sipush_6000 ?_
                refine go_aload_n K_R_writeStatement rfl rfl ?_
                refine go_getR K_R_writeStatement rfl zf_12_31 ?_
                refine go_iload_n K_R_writeStatement rfl rfl ?_
                obtain ⟨i3, h⟩ := zix_ex h
                refine go_iald K_R_writeStatement rfl za_42 i3 ?_
                refine go_iadd K_R_writeStatement rfl ?_
                refine go_sipush K_R_writeStatement rfl zk_sipush_4000 ?_
                refine go_iload_n K_R_writeStatement rfl rfl ?_
                refine go_iadd K_R_writeStatement rfl ?_
                refine go_iconst K_R_writeStatement rfl zk_iconst_m1 ?_
                obtain ⟨M4, h5, h⟩ := zbv_ex h
                refine go_vv (Y' := Y_R_tasksOf) (av := [.inl (161 : Int32), .inl ((6000 : Int32) + (M1 42 l1.toNatClampNeg)), .inl ((4000 : Int32) + l1), .inl (-1 : Int32)]) (rest := []) K_R_writeStatement rfl zl_12_116 zm_R_tasksOf rfl (G_R_tasksOf h5) (Nat.le_of_ble_eq_true rfl) (Nat.le_of_ble_eq_true rfl) rfl ?_
                refine go_aload_n K_R_writeStatement rfl rfl ?_
                refine go_sipush K_R_writeStatement rfl zk_sipush_160 ?_
                refine go_aload_n K_R_writeStatement rfl rfl ?_
                refine go_aload_n K_R_writeStatement rfl rfl ?_
                refine go_getR K_R_writeStatement rfl zf_12_28 ?_
                refine go_iload_n K_R_writeStatement rfl rfl ?_
                obtain ⟨i6, h⟩ := zix_ex h
                refine go_iald K_R_writeStatement rfl za_41 i6 ?_
                refine go_iconst K_R_writeStatement rfl zk_iconst_0 ?_
                obtain ⟨r9, M7, h8, h⟩ := zbi_ex h
                refine go_vi (Y' := Y_R_expression) (av := [.inl (M4 41 l1.toNatClampNeg), .inl (0 : Int32)]) (rest := [.inl (160 : Int32), .inr 34]) K_R_writeStatement rfl zl_12_280 zm_R_expression rfl (G_R_expression h8) (Nat.le_of_ble_eq_true rfl) (Nat.le_of_ble_eq_true rfl) rfl ?_
                refine go_iconst K_R_writeStatement rfl zk_iconst_m1 ?_
                refine go_iconst K_R_writeStatement rfl zk_iconst_m1 ?_
                obtain ⟨M10, h11, h⟩ := zbv_ex h
                refine go_vv (Y' := Y_R_tasksOf) (av := [.inl (160 : Int32), .inl r9, .inl (-1 : Int32), .inl (-1 : Int32)]) (rest := []) K_R_writeStatement rfl zl_12_116 zm_R_tasksOf rfl (G_R_tasksOf h11) (Nat.le_of_ble_eq_true rfl) (Nat.le_of_ble_eq_true rfl) rfl ?_
                cases h
                exact go_return K_R_writeStatement rfl rfl
              · have h := zif_t c h
                refine go_aload_n K_R_writeStatement rfl rfl ?_
                refine go_sipush K_R_writeStatement rfl zk_sipush_166 ?_
                refine go_sipush K_R_writeStatement rfl zk_sipush_6000 ?_
                refine go_aload_n K_R_writeStatement rfl rfl ?_
                refine go_getR K_R_writeStatement rfl zf_12_28 ?_
                refine go_iload_n K_R_writeStatement rfl rfl ?_
                obtain ⟨i12, h⟩ := zix_ex h
                refine go_iald K_R_writeStatement rfl za_41 i12 ?_
                refine go_iadd K_R_writeStatement rfl ?_
                refine go_sipush K_R_writeStatement rfl zk_sipush_167 ?_
                refine go_aload_n K_R_writeStatement rfl rfl ?_
                refine go_aload_n K_R_writeStatement rfl rfl ?_
                refine go_getR K_R_writeStatement rfl zf_12_31 ?_
                refine go_iload_n K_R_writeStatement rfl rfl ?_
                obtain ⟨i13, h⟩ := zix_ex h
                refine go_iald K_R_writeStatement rfl za_42 i13 ?_
                refine go_iconst K_R_writeStatement rfl zk_iconst_0 ?_
                obtain ⟨r16, M14, h15, h⟩ := zbi_ex h
                refine go_vi (Y' := Y_R_expression) (av := [.inl (M 42 l1.toNatClampNeg), .inl (0 : Int32)]) (rest := [.inl (167 : Int32), .inl ((6000 : Int32) + (M 41 l1.toNatClampNeg)), .inl (166 : Int32), .inr 34]) K_R_writeStatement rfl zl_12_280 zm_R_expression rfl (G_R_expression h15) (Nat.le_of_ble_eq_true rfl) (Nat.le_of_ble_eq_true rfl) rfl ?_
                obtain ⟨M17, h18, h⟩ := zbv_ex h
                refine go_vv (Y' := Y_R_tasksOf) (av := [.inl (166 : Int32), .inl ((6000 : Int32) + (M 41 l1.toNatClampNeg)), .inl (167 : Int32), .inl r16]) (rest := []) K_R_writeStatement rfl zl_12_116 zm_R_tasksOf rfl (G_R_tasksOf h18) (Nat.le_of_ble_eq_true rfl) (Nat.le_of_ble_eq_true rfl) rfl ?_
                refine go_goto K_R_writeStatement rfl ?_
                cases h
                exact go_return K_R_writeStatement rfl rfl
            · have h := zif_t c h
              refine go_aload_n K_R_writeStatement rfl rfl ?_
              refine go_sipush K_R_writeStatement rfl zk_sipush_165 ?_
              refine go_sipush K_R_writeStatement rfl zk_sipush_6000 ?_
              refine go_aload_n K_R_writeStatement rfl rfl ?_
              refine go_getR K_R_writeStatement rfl zf_12_31 ?_
              refine go_iload_n K_R_writeStatement rfl rfl ?_
              obtain ⟨i19, h⟩ := zix_ex h
              refine go_iald K_R_writeStatement rfl za_42 i19 ?_
              refine go_iadd K_R_writeStatement rfl ?_
              refine go_sipush K_R_writeStatement rfl zk_sipush_163 ?_
              refine go_iconst K_R_writeStatement rfl zk_iconst_m1 ?_
              obtain ⟨M20, h21, h⟩ := zbv_ex h
              refine go_vv (Y' := Y_R_tasksOf) (av := [.inl (165 : Int32), .inl ((6000 : Int32) + (M 42 l1.toNatClampNeg)), .inl (163 : Int32), .inl (-1 : Int32)]) (rest := []) K_R_writeStatement rfl zl_12_116 zm_R_tasksOf rfl (G_R_tasksOf h21) (Nat.le_of_ble_eq_true rfl) (Nat.le_of_ble_eq_true rfl) rfl ?_
              refine go_aload_n K_R_writeStatement rfl rfl ?_
              refine go_sipush K_R_writeStatement rfl zk_sipush_164 ?_
              refine go_aload_n K_R_writeStatement rfl rfl ?_
              refine go_aload_n K_R_writeStatement rfl rfl ?_
              refine go_getR K_R_writeStatement rfl zf_12_28 ?_
              refine go_iload_n K_R_writeStatement rfl rfl ?_
              obtain ⟨i22, h⟩ := zix_ex h
              refine go_iald K_R_writeStatement rfl za_41 i22 ?_
              refine go_iconst K_R_writeStatement rfl zk_iconst_0 ?_
              obtain ⟨r25, M23, h24, h⟩ := zbi_ex h
              refine go_vi (Y' := Y_R_expression) (av := [.inl (M20 41 l1.toNatClampNeg), .inl (0 : Int32)]) (rest := [.inl (164 : Int32), .inr 34]) K_R_writeStatement rfl zl_12_280 zm_R_expression rfl (G_R_expression h24) (Nat.le_of_ble_eq_true rfl) (Nat.le_of_ble_eq_true rfl) rfl ?_
              refine go_iconst K_R_writeStatement rfl zk_iconst_m1 ?_
              refine go_iconst K_R_writeStatement rfl zk_iconst_m1 ?_
              obtain ⟨M26, h27, h⟩ := zbv_ex h
              refine go_vv (Y' := Y_R_tasksOf) (av := [.inl (164 : Int32), .inl r25, .inl (-1 : Int32), .inl (-1 : Int32)]) (rest := []) K_R_writeStatement rfl zl_12_116 zm_R_tasksOf rfl (G_R_tasksOf h27) (Nat.le_of_ble_eq_true rfl) (Nat.le_of_ble_eq_true rfl) rfl ?_
              refine go_goto K_R_writeStatement rfl ?_
              cases h
              exact go_return K_R_writeStatement rfl rfl
          · have h := zif_t c h
            exact go_forget (G_R_writeStatement_p89 h) (zs_s (zs_s (zs_s zs_e)))
      · have h := zif_t c h
        refine go_aload_n K_R_writeStatement rfl rfl ?_
        refine go_aload_n K_R_writeStatement rfl rfl ?_
        refine go_aload_n K_R_writeStatement rfl rfl ?_
        refine go_getR K_R_writeStatement rfl zf_12_28 ?_
        refine go_iload_n K_R_writeStatement rfl rfl ?_
        obtain ⟨i28, h⟩ := zix_ex h
        refine go_iald K_R_writeStatement rfl za_41 i28 ?_
        refine go_iconst K_R_writeStatement rfl zk_iconst_0 ?_
        obtain ⟨r31, M29, h30, h⟩ := zbi_ex h
        refine go_vi (Y' := Y_R_expression) (av := [.inl (M 41 l1.toNatClampNeg), .inl (0 : Int32)]) (rest := [.inr 34]) K_R_writeStatement rfl zl_12_280 zm_R_expression rfl (G_R_expression h30) (Nat.le_of_ble_eq_true rfl) (Nat.le_of_ble_eq_true rfl) rfl ?_
        obtain ⟨M32, h33, h⟩ := zbv_ex h
        refine go_vv (Y' := Y_R_task) (av := [.inl r31]) (rest := []) K_R_writeStatement rfl zl_12_112 zm_R_task rfl (G_R_task h33) (Nat.le_of_ble_eq_true rfl) (Nat.le_of_ble_eq_true rfl) rfl ?_
        refine go_goto K_R_writeStatement rfl ?_
        cases h
        exact go_return K_R_writeStatement rfl rfl
    · have h := zif_t c h
      refine go_aload_n K_R_writeStatement rfl rfl ?_
      refine go_bipush K_R_writeStatement rfl zk_bipush_126 ?_
      refine go_bipush K_R_writeStatement rfl zk_bipush_120 ?_
      refine go_aload_n K_R_writeStatement rfl rfl ?_
      refine go_aload_n K_R_writeStatement rfl rfl ?_
      refine go_getR K_R_writeStatement rfl zf_12_31 ?_
      refine go_iload_n K_R_writeStatement rfl rfl ?_
      obtain ⟨i34, h⟩ := zix_ex h
      refine go_iald K_R_writeStatement rfl za_42 i34 ?_
      refine go_iconst K_R_writeStatement rfl zk_iconst_0 ?_
      obtain ⟨r37, M35, h36, h⟩ := zbi_ex h
      refine go_vi (Y' := Y_R_expression) (av := [.inl (M 42 l1.toNatClampNeg), .inl (0 : Int32)]) (rest := [.inl (120 : Int32), .inl (126 : Int32), .inr 34]) K_R_writeStatement rfl zl_12_280 zm_R_expression rfl (G_R_expression h36) (Nat.le_of_ble_eq_true rfl) (Nat.le_of_ble_eq_true rfl) rfl ?_
      refine go_iconst K_R_writeStatement rfl zk_iconst_m1 ?_
      obtain ⟨M38, h39, h⟩ := zbv_ex h
      refine go_vv (Y' := Y_R_tasksOf) (av := [.inl (126 : Int32), .inl (120 : Int32), .inl r37, .inl (-1 : Int32)]) (rest := []) K_R_writeStatement rfl zl_12_116 zm_R_tasksOf rfl (G_R_tasksOf h39) (Nat.le_of_ble_eq_true rfl) (Nat.le_of_ble_eq_true rfl) rfl ?_
      refine go_aload_n K_R_writeStatement rfl rfl ?_
      refine go_bipush K_R_writeStatement rfl zk_bipush_108 ?_
      refine go_bipush K_R_writeStatement rfl zk_bipush_125 ?_
      refine go_aload_n K_R_writeStatement rfl rfl ?_
      refine go_aload_n K_R_writeStatement rfl rfl ?_
      refine go_getR K_R_writeStatement rfl zf_12_28 ?_
      refine go_iload_n K_R_writeStatement rfl rfl ?_
      obtain ⟨i40, h⟩ := zix_ex h
      refine go_iald K_R_writeStatement rfl za_41 i40 ?_
      refine go_iconst K_R_writeStatement rfl zk_iconst_0 ?_
      obtain ⟨r43, M41, h42, h⟩ := zbi_ex h
      refine go_vi (Y' := Y_R_expression) (av := [.inl (M38 41 l1.toNatClampNeg), .inl (0 : Int32)]) (rest := [.inl (125 : Int32), .inl (108 : Int32), .inr 34]) K_R_writeStatement rfl zl_12_280 zm_R_expression rfl (G_R_expression h42) (Nat.le_of_ble_eq_true rfl) (Nat.le_of_ble_eq_true rfl) rfl ?_
      refine go_iconst K_R_writeStatement rfl zk_iconst_m1 ?_
      obtain ⟨M44, h45, h⟩ := zbv_ex h
      refine go_vv (Y' := Y_R_tasksOf) (av := [.inl (108 : Int32), .inl (125 : Int32), .inl r43, .inl (-1 : Int32)]) (rest := []) K_R_writeStatement rfl zl_12_116 zm_R_tasksOf rfl (G_R_tasksOf h45) (Nat.le_of_ble_eq_true rfl) (Nat.le_of_ble_eq_true rfl) rfl ?_
      refine go_goto K_R_writeStatement rfl ?_
      cases h
      exact go_return K_R_writeStatement rfl rfl
  · have h := zif_t c h
    refine go_aload_n K_R_writeStatement rfl rfl ?_
    refine go_bipush K_R_writeStatement rfl zk_bipush_100 ?_
    refine go_aload_n K_R_writeStatement rfl rfl ?_
    refine go_getR K_R_writeStatement rfl zf_12_25 ?_
    refine go_iload_n K_R_writeStatement rfl rfl ?_
    obtain ⟨i46, h⟩ := zix_ex h
    refine go_iald K_R_writeStatement rfl za_40 i46 ?_
    refine go_iadd K_R_writeStatement rfl ?_
    refine go_bipush K_R_writeStatement rfl zk_bipush_120 ?_
    refine go_aload_n K_R_writeStatement rfl rfl ?_
    refine go_aload_n K_R_writeStatement rfl rfl ?_
    refine go_getR K_R_writeStatement rfl zf_12_28 ?_
    refine go_iload_n K_R_writeStatement rfl rfl ?_
    obtain ⟨i47, h⟩ := zix_ex h
    refine go_iald K_R_writeStatement rfl za_41 i47 ?_
    refine go_iconst K_R_writeStatement rfl zk_iconst_0 ?_
    obtain ⟨r50, M48, h49, h⟩ := zbi_ex h
    refine go_vi (Y' := Y_R_expression) (av := [.inl (M 41 l1.toNatClampNeg), .inl (0 : Int32)]) (rest := [.inl (120 : Int32), .inl ((100 : Int32) + (M 40 l1.toNatClampNeg)), .inr 34]) K_R_writeStatement rfl zl_12_280 zm_R_expression rfl (G_R_expression h49) (Nat.le_of_ble_eq_true rfl) (Nat.le_of_ble_eq_true rfl) rfl ?_
    refine go_iconst K_R_writeStatement rfl zk_iconst_m1 ?_
    obtain ⟨M51, h52, h⟩ := zbv_ex h
    refine go_vv (Y' := Y_R_tasksOf) (av := [.inl ((100 : Int32) + (M 40 l1.toNatClampNeg)), .inl (120 : Int32), .inl r50, .inl (-1 : Int32)]) (rest := []) K_R_writeStatement rfl zl_12_116 zm_R_tasksOf rfl (G_R_tasksOf h52) (Nat.le_of_ble_eq_true rfl) (Nat.le_of_ble_eq_true rfl) rfl ?_
    refine go_goto K_R_writeStatement rfl ?_
    cases h
    exact go_return K_R_writeStatement rfl rfl
def F_R_writeStatement (M : zMem) (l1 : Int32) : Option (zMem) :=
  zix l1 400 (zix l1 400 (if (M 44 l1.toNatClampNeg) < 0 then (F_R_writeStatement_p21 M l1 (M 39 l1.toNatClampNeg)) else (zix l1 400 (zbv (F_R_tasksOf M (121 : Int32) ((3000 : Int32) + (M 44 l1.toNatClampNeg)) (-1 : Int32) (-1 : Int32)) fun M4 => F_R_writeStatement_p21 M4 l1 (M 39 l1.toNatClampNeg)))))
set_option maxRecDepth 100000 in
theorem G_R_writeStatement {M : zMem} {l1 : Int32} {y : zMem} (h : F_R_writeStatement M l1 = some y) : zGo Y_R_writeStatement 2 0 (zal Y_R_writeStatement [.inr 34, .inl l1]) [] M none y := by
  unfold F_R_writeStatement at h
  show zGo Y_R_writeStatement 2 0 [some (.inr 34), some (.inl l1), none] [] M _ _
  refine go_aload_n K_R_writeStatement rfl rfl ?_
  refine go_getR K_R_writeStatement rfl zf_12_22 ?_
  refine go_iload_n K_R_writeStatement rfl rfl ?_
  obtain ⟨i1, h⟩ := zix_ex h
  refine go_iald K_R_writeStatement rfl za_39 i1 ?_
  refine go_istore_n K_R_writeStatement rfl (Nat.le_of_ble_eq_true rfl) ?_
  refine go_aload_n K_R_writeStatement rfl rfl ?_
  refine go_getR K_R_writeStatement rfl zf_12_37 ?_
  refine go_iload_n K_R_writeStatement rfl rfl ?_
  obtain ⟨i2, h⟩ := zix_ex h
  refine go_iald K_R_writeStatement rfl za_44 i2 ?_
  refine go_if_lt K_R_writeStatement rfl (fun c => ?_) (fun c => ?_)
  · have h := zif_t c h
    exact go_forget (G_R_writeStatement_p21 h) (zs_s (zs_s (zs_s zs_e)))
  · have h := zif_f c h
    refine go_aload_n K_R_writeStatement rfl rfl ?_
    refine go_bipush K_R_writeStatement rfl zk_bipush_121 ?_
    refine go_sipush K_R_writeStatement rfl zk_sipush_3000 ?_
    refine go_aload_n K_R_writeStatement rfl rfl ?_
    refine go_getR K_R_writeStatement rfl zf_12_37 ?_
    refine go_iload_n K_R_writeStatement rfl rfl ?_
    obtain ⟨i3, h⟩ := zix_ex h
    refine go_iald K_R_writeStatement rfl za_44 i3 ?_
    refine go_iadd K_R_writeStatement rfl ?_
    refine go_iconst K_R_writeStatement rfl zk_iconst_m1 ?_
    refine go_iconst K_R_writeStatement rfl zk_iconst_m1 ?_
    obtain ⟨M4, h5, h⟩ := zbv_ex h
    refine go_vv (Y' := Y_R_tasksOf) (av := [.inl (121 : Int32), .inl ((3000 : Int32) + (M 44 l1.toNatClampNeg)), .inl (-1 : Int32), .inl (-1 : Int32)]) (rest := []) K_R_writeStatement rfl zl_12_116 zm_R_tasksOf rfl (G_R_tasksOf h5) (Nat.le_of_ble_eq_true rfl) (Nat.le_of_ble_eq_true rfl) rfl ?_
    exact go_forget (G_R_writeStatement_p21 h) (zs_s (zs_s (zs_s zs_e)))
def F_R_write_p81 (N : Nat) (rec8 : zMem → Option (zMem)) (M : zMem) (l3 : Int32) : Option (zMem) :=
  zbi (F_R_expression M l3 (0 : Int32)) fun r3 M1 => zbv (F_R_task M1 r3) fun M4 => rec8 M4 
set_option maxRecDepth 100000 in
theorem G_R_write_p81 {N : Nat} {rec8 : zMem → Option (zMem)} (hrec8 : ∀ {M : zMem} {y : zMem}, rec8 M  = some y → zGo Y_R_write 3 8 [some (.inr 34), none, none, none] [] M none y) {M : zMem} {l3 : Int32} {y : zMem} (h : F_R_write_p81 N rec8 M l3 = some y) : zGo Y_R_write 3 81 [some (.inr 34), none, none, some (.inl l3)] [] M none y := by
  unfold F_R_write_p81 at h
  refine go_aload_n K_R_write rfl rfl ?_
  refine go_aload_n K_R_write rfl rfl ?_
  refine go_iload_n K_R_write rfl rfl ?_
  refine go_iconst K_R_write rfl zk_iconst_0 ?_
  obtain ⟨r3, M1, h2, h⟩ := zbi_ex h
  refine go_vi (Y' := Y_R_expression) (av := [.inl l3, .inl (0 : Int32)]) (rest := [.inr 34]) K_R_write rfl zl_12_280 zm_R_expression rfl (G_R_expression h2) (Nat.le_of_ble_eq_true rfl) (Nat.le_of_ble_eq_true rfl) rfl ?_
  obtain ⟨M4, h5, h⟩ := zbv_ex h
  refine go_vv (Y' := Y_R_task) (av := [.inl r3]) (rest := []) K_R_write rfl zl_12_112 zm_R_task rfl (G_R_task h5) (Nat.le_of_ble_eq_true rfl) (Nat.le_of_ble_eq_true rfl) rfl ?_
  refine go_goto K_R_write rfl ?_
  refine go_goto K_R_write rfl ?_
  exact go_forget (hrec8 h) (zs_s (zs_n (zs_n (zs_n zs_e))))
def F_R_write_p8 (N : Nat) : Nat → zMem → Option (zMem)
  | 0, _ => none
  | n + 1, M =>
    if (M 34 5) ≤ 0 then (some M) else (zset M 34 5 ((M 34 5) - (1 : Int32)) fun M1 => zix (M1 34 5) 1600 (if (1000 : Int32) ≤ (M1 38 (M1 34 5).toNatClampNeg) then (if (3000 : Int32) ≤ (M1 38 (M1 34 5).toNatClampNeg) then (if (4000 : Int32) ≤ (M1 38 (M1 34 5).toNatClampNeg) then (if (5000 : Int32) ≤ (M1 38 (M1 34 5).toNatClampNeg) then (if (6000 : Int32) ≤ (M1 38 (M1 34 5).toNatClampNeg) then (zix ((M1 38 (M1 34 5).toNatClampNeg) - (M1 38 (M1 34 5).toNatClampNeg) / (1000 : Int32) * (1000 : Int32)) 400 (if (M1 41 ((M1 38 (M1 34 5).toNatClampNeg) - (M1 38 (M1 34 5).toNatClampNeg) / (1000 : Int32) * (1000 : Int32)).toNatClampNeg) < 0 then (F_R_write_p8 N n M1 ) else (zix ((M1 38 (M1 34 5).toNatClampNeg) - (M1 38 (M1 34 5).toNatClampNeg) / (1000 : Int32) * (1000 : Int32)) 400 (zbv (F_R_task M1 ((3000 : Int32) + (M1 41 ((M1 38 (M1 34 5).toNatClampNeg) - (M1 38 (M1 34 5).toNatClampNeg) / (1000 : Int32) * (1000 : Int32)).toNatClampNeg))) fun M6 => F_R_write_p8 N n M6 )))) else (zix ((M1 38 (M1 34 5).toNatClampNeg) - (M1 38 (M1 34 5).toNatClampNeg) / (1000 : Int32) * (1000 : Int32)) 400 (if (M1 44 ((M1 38 (M1 34 5).toNatClampNeg) - (M1 38 (M1 34 5).toNatClampNeg) / (1000 : Int32) * (1000 : Int32)).toNatClampNeg) < 0 then (F_R_write_p81 N (F_R_write_p8 N n) M1 ((M1 38 (M1 34 5).toNatClampNeg) - (M1 38 (M1 34 5).toNatClampNeg) / (1000 : Int32) * (1000 : Int32))) else (zix ((M1 38 (M1 34 5).toNatClampNeg) - (M1 38 (M1 34 5).toNatClampNeg) / (1000 : Int32) * (1000 : Int32)) 400 (zbv (F_R_tasksOf M1 (124 : Int32) ((5000 : Int32) + (M1 44 ((M1 38 (M1 34 5).toNatClampNeg) - (M1 38 (M1 34 5).toNatClampNeg) / (1000 : Int32) * (1000 : Int32)).toNatClampNeg)) (-1 : Int32) (-1 : Int32)) fun M10 => F_R_write_p81 N (F_R_write_p8 N n) M10 ((M1 38 (M1 34 5).toNatClampNeg) - (M1 38 (M1 34 5).toNatClampNeg) / (1000 : Int32) * (1000 : Int32))))))) else (zbv (F_R_writeRest M1 ((M1 38 (M1 34 5).toNatClampNeg) - (M1 38 (M1 34 5).toNatClampNeg) / (1000 : Int32) * (1000 : Int32))) fun M12 => F_R_write_p8 N n M12 )) else (zbv (F_R_writeStatement M1 ((M1 38 (M1 34 5).toNatClampNeg) - (M1 38 (M1 34 5).toNatClampNeg) / (1000 : Int32) * (1000 : Int32))) fun M14 => F_R_write_p8 N n M14 )) else (zbv (F_R_writeExpression M1 (((M1 38 (M1 34 5).toNatClampNeg) - (1000 : Int32)) / (4 : Int32)) ((M1 38 (M1 34 5).toNatClampNeg) - (M1 38 (M1 34 5).toNatClampNeg) / (4 : Int32) * (4 : Int32))) fun M16 => F_R_write_p8 N n M16 )) else (zbv (F_R_emit M1 (M1 38 (M1 34 5).toNatClampNeg)) fun M18 => F_R_write_p8 N n M18 )))
set_option maxRecDepth 100000 in
theorem G_R_write_p8 {N : Nat} : ∀ (n : Nat) {M : zMem} {y : zMem}, F_R_write_p8 N n M  = some y → zGo Y_R_write 3 8 [some (.inr 34), none, none, none] [] M none y := by
  intro n
  induction n with
  | zero =>
    intro M  y h
    unfold F_R_write_p8 at h
    cases h
  | succ n ih =>
    intro M  y h
    unfold F_R_write_p8 at h
    refine go_aload_n K_R_write rfl rfl ?_
    refine go_getI K_R_write rfl zf_12_99 ?_
    refine go_if_le K_R_write rfl (fun c => ?_) (fun c => ?_)
    · have h := zif_t c h
      cases h
      exact go_return K_R_write rfl rfl
    · have h := zif_f c h
      refine go_aload_n K_R_write rfl rfl ?_
      refine go_dup K_R_write rfl ?_
      refine go_getI K_R_write rfl zf_12_99 ?_
      refine go_iconst K_R_write rfl zk_iconst_1 ?_
      refine go_isub K_R_write rfl ?_
      obtain ⟨M1, e2, h⟩ := zset_ex h
      refine go_putI' e2 K_R_write rfl zf_12_99 ?_
      refine go_aload_n K_R_write rfl rfl ?_
      refine go_getR K_R_write rfl zf_12_19 ?_
      refine go_aload_n K_R_write rfl rfl ?_
      refine go_getI K_R_write rfl zf_12_99 ?_
      obtain ⟨i3, h⟩ := zix_ex h
      refine go_iald K_R_write rfl za_38 i3 ?_
      refine go_istore_n K_R_write rfl (Nat.le_of_ble_eq_true rfl) ?_
      refine go_iload_n K_R_write rfl rfl ?_
      refine go_sipush K_R_write rfl zk_sipush_1000 ?_
      refine go_irem K_R_write rfl (by decide) ?_
      refine go_istore_n K_R_write rfl (Nat.le_of_ble_eq_true rfl) ?_
      refine go_iload_n K_R_write rfl rfl ?_
      refine go_sipush K_R_write rfl zk_sipush_1000 ?_
      refine go_icmp_ge K_R_write rfl (fun c => ?_) (fun c => ?_)
      · have h := zif_t c h
        refine go_iload_n K_R_write rfl rfl ?_
        refine go_sipush K_R_write rfl zk_sipush_3000 ?_
        refine go_icmp_ge K_R_write rfl (fun c => ?_) (fun c => ?_)
        · have h := zif_t c h
          refine go_iload_n K_R_write rfl rfl ?_
          refine go_sipush K_R_write rfl zk_sipush_4000 ?_
          refine go_icmp_ge K_R_write rfl (fun c => ?_) (fun c => ?_)
          · have h := zif_t c h
            refine go_iload_n K_R_write rfl rfl ?_
            refine go_sipush K_R_write rfl zk_sipush_5000 ?_
            refine go_icmp_ge K_R_write rfl (fun c => ?_) (fun c => ?_)
            · have h := zif_t c h
              refine go_iload_n K_R_write rfl rfl ?_
              refine go_sipush K_R_write rfl zk_sipush_6000 ?_
              refine go_icmp_ge K_R_write rfl (fun c => ?_) (fun c => ?_)
              · have h := zif_t c h
                refine go_aload_n K_R_write rfl rfl ?_
                refine go_getR K_R_write rfl zf_12_28 ?_
                refine go_iload_n K_R_write rfl rfl ?_
                obtain ⟨i4, h⟩ := zix_ex h
                refine go_iald K_R_write rfl za_41 i4 ?_
                refine go_if_lt K_R_write rfl (fun c => ?_) (fun c => ?_)
                · have h := zif_t c h
                  refine go_goto K_R_write rfl ?_
                  exact go_forget (ih h) (zs_s (zs_n (zs_n (zs_n zs_e))))
                · have h := zif_f c h
                  refine go_aload_n K_R_write rfl rfl ?_
                  refine go_sipush K_R_write rfl zk_sipush_3000 ?_
                  refine go_aload_n K_R_write rfl rfl ?_
                  refine go_getR K_R_write rfl zf_12_28 ?_
                  refine go_iload_n K_R_write rfl rfl ?_
                  obtain ⟨i5, h⟩ := zix_ex h
                  refine go_iald K_R_write rfl za_41 i5 ?_
                  refine go_iadd K_R_write rfl ?_
                  obtain ⟨M6, h7, h⟩ := zbv_ex h
                  refine go_vv (Y' := Y_R_task) (av := [.inl ((3000 : Int32) + (M1 41 ((M1 38 (M1 34 5).toNatClampNeg) - (M1 38 (M1 34 5).toNatClampNeg) / (1000 : Int32) * (1000 : Int32)).toNatClampNeg))]) (rest := []) K_R_write rfl zl_12_112 zm_R_task rfl (G_R_task h7) (Nat.le_of_ble_eq_true rfl) (Nat.le_of_ble_eq_true rfl) rfl ?_
                  refine go_goto K_R_write rfl ?_
                  exact go_forget (ih h) (zs_s (zs_n (zs_n (zs_n zs_e))))
              · have h := zif_f c h
                refine go_aload_n K_R_write rfl rfl ?_
                refine go_getR K_R_write rfl zf_12_37 ?_
                refine go_iload_n K_R_write rfl rfl ?_
                obtain ⟨i8, h⟩ := zix_ex h
                refine go_iald K_R_write rfl za_44 i8 ?_
                refine go_if_lt K_R_write rfl (fun c => ?_) (fun c => ?_)
                · have h := zif_t c h
                  exact go_forget (G_R_write_p81 ih h) (zs_s (zs_n (zs_n (zs_s zs_e))))
                · have h := zif_f c h
                  refine go_aload_n K_R_write rfl rfl ?_
                  refine go_bipush K_R_write rfl zk_bipush_124 ?_
                  refine go_sipush K_R_write rfl zk_sipush_5000 ?_
                  refine go_aload_n K_R_write rfl rfl ?_
                  refine go_getR K_R_write rfl zf_12_37 ?_
                  refine go_iload_n K_R_write rfl rfl ?_
                  obtain ⟨i9, h⟩ := zix_ex h
                  refine go_iald K_R_write rfl za_44 i9 ?_
                  refine go_iadd K_R_write rfl ?_
                  refine go_iconst K_R_write rfl zk_iconst_m1 ?_
                  refine go_iconst K_R_write rfl zk_iconst_m1 ?_
                  obtain ⟨M10, h11, h⟩ := zbv_ex h
                  refine go_vv (Y' := Y_R_tasksOf) (av := [.inl (124 : Int32), .inl ((5000 : Int32) + (M1 44 ((M1 38 (M1 34 5).toNatClampNeg) - (M1 38 (M1 34 5).toNatClampNeg) / (1000 : Int32) * (1000 : Int32)).toNatClampNeg)), .inl (-1 : Int32), .inl (-1 : Int32)]) (rest := []) K_R_write rfl zl_12_116 zm_R_tasksOf rfl (G_R_tasksOf h11) (Nat.le_of_ble_eq_true rfl) (Nat.le_of_ble_eq_true rfl) rfl ?_
                  exact go_forget (G_R_write_p81 ih h) (zs_s (zs_n (zs_n (zs_s zs_e))))
            · have h := zif_f c h
              refine go_aload_n K_R_write rfl rfl ?_
              refine go_iload_n K_R_write rfl rfl ?_
              obtain ⟨M12, h13, h⟩ := zbv_ex h
              refine go_vv (Y' := Y_R_writeRest) (av := [.inl ((M1 38 (M1 34 5).toNatClampNeg) - (M1 38 (M1 34 5).toNatClampNeg) / (1000 : Int32) * (1000 : Int32))]) (rest := []) K_R_write rfl zl_12_293 zm_R_writeRest rfl (G_R_writeRest h13) (Nat.le_of_ble_eq_true rfl) (Nat.le_of_ble_eq_true rfl) rfl ?_
              refine go_goto K_R_write rfl ?_
              refine go_goto K_R_write rfl ?_
              exact go_forget (ih h) (zs_s (zs_n (zs_n (zs_n zs_e))))
          · have h := zif_f c h
            refine go_aload_n K_R_write rfl rfl ?_
            refine go_iload_n K_R_write rfl rfl ?_
            obtain ⟨M14, h15, h⟩ := zbv_ex h
            refine go_vv (Y' := Y_R_writeStatement) (av := [.inl ((M1 38 (M1 34 5).toNatClampNeg) - (M1 38 (M1 34 5).toNatClampNeg) / (1000 : Int32) * (1000 : Int32))]) (rest := []) K_R_write rfl zl_12_290 zm_R_writeStatement rfl (G_R_writeStatement h15) (Nat.le_of_ble_eq_true rfl) (Nat.le_of_ble_eq_true rfl) rfl ?_
            refine go_goto K_R_write rfl ?_
            refine go_goto K_R_write rfl ?_
            exact go_forget (ih h) (zs_s (zs_n (zs_n (zs_n zs_e))))
        · have h := zif_f c h
          refine go_aload_n K_R_write rfl rfl ?_
          refine go_iload_n K_R_write rfl rfl ?_
          refine go_sipush K_R_write rfl zk_sipush_1000 ?_
          refine go_isub K_R_write rfl ?_
          refine go_iconst K_R_write rfl zk_iconst_4 ?_
          refine go_idiv K_R_write rfl (by decide) ?_
          refine go_iload_n K_R_write rfl rfl ?_
          refine go_iconst K_R_write rfl zk_iconst_4 ?_
          refine go_irem K_R_write rfl (by decide) ?_
          obtain ⟨M16, h17, h⟩ := zbv_ex h
          refine go_vv (Y' := Y_R_writeExpression) (av := [.inl (((M1 38 (M1 34 5).toNatClampNeg) - (1000 : Int32)) / (4 : Int32)), .inl ((M1 38 (M1 34 5).toNatClampNeg) - (M1 38 (M1 34 5).toNatClampNeg) / (4 : Int32) * (4 : Int32))]) (rest := []) K_R_write rfl zl_12_287 zm_R_writeExpression rfl (G_R_writeExpression h17) (Nat.le_of_ble_eq_true rfl) (Nat.le_of_ble_eq_true rfl) rfl ?_
          refine go_goto K_R_write rfl ?_
          refine go_goto K_R_write rfl ?_
          exact go_forget (ih h) (zs_s (zs_n (zs_n (zs_n zs_e))))
      · have h := zif_f c h
        refine go_aload_n K_R_write rfl rfl ?_
        refine go_iload_n K_R_write rfl rfl ?_
        obtain ⟨M18, h19, h⟩ := zbv_ex h
        refine go_vv (Y' := Y_R_emit) (av := [.inl (M1 38 (M1 34 5).toNatClampNeg)]) (rest := []) K_R_write rfl zl_12_284 zm_R_emit rfl (G_R_emit h19) (Nat.le_of_ble_eq_true rfl) (Nat.le_of_ble_eq_true rfl) rfl ?_
        refine go_goto K_R_write rfl ?_
        refine go_goto K_R_write rfl ?_
        exact go_forget (ih h) (zs_s (zs_n (zs_n (zs_n zs_e))))
def F_R_write (N : Nat) (M : zMem) (l1 : Int32) : Option (zMem) :=
  zset M 34 5 ((0 : Int32)) fun M1 => zbv (F_R_task M1 ((6000 : Int32) + l1)) fun M3 => F_R_write_p8 N N M3 
set_option maxRecDepth 100000 in
theorem G_R_write {N : Nat} {M : zMem} {l1 : Int32} {y : zMem} (h : F_R_write N M l1 = some y) : zGo Y_R_write 3 0 (zal Y_R_write [.inr 34, .inl l1]) [] M none y := by
  unfold F_R_write at h
  show zGo Y_R_write 3 0 [some (.inr 34), some (.inl l1), none, none] [] M _ _
  refine go_aload_n K_R_write rfl rfl ?_
  refine go_iconst K_R_write rfl zk_iconst_0 ?_
  obtain ⟨M1, e2, h⟩ := zset_ex h
  refine go_putI' e2 K_R_write rfl zf_12_99 ?_
  refine go_aload_n K_R_write rfl rfl ?_
  refine go_sipush K_R_write rfl zk_sipush_6000 ?_
  refine go_iload_n K_R_write rfl rfl ?_
  refine go_iadd K_R_write rfl ?_
  obtain ⟨M3, h4, h⟩ := zbv_ex h
  refine go_vv (Y' := Y_R_task) (av := [.inl ((6000 : Int32) + l1)]) (rest := []) K_R_write rfl zl_12_112 zm_R_task rfl (G_R_task h4) (Nat.le_of_ble_eq_true rfl) (Nat.le_of_ble_eq_true rfl) rfl ?_
  exact go_forget (G_R_write_p8 _ h) (zs_s (zs_n (zs_n (zs_n zs_e))))
def F_R_writePlain_p20 (N : Nat) (rec11 : zMem → Int32 → Option (Int32 × zMem)) : Nat → zMem → Int32 → Int32 → Option (Int32 × zMem)
  | 0, _, _, _ => none
  | n + 1, M, l1, l2 =>
    zix l2 150 (if (M 35 l2.toNatClampNeg) = (171 : Int32) then (zbv (F_R_emit M (171 : Int32)) fun M2 => zix l1 30 (zbv (F_R_write N M2 (M2 51 l1.toNatClampNeg)) fun M5 => zbv (F_R_emit M5 (163 : Int32)) fun M7 => rec11 M7 (l1 + (1 : Int32)))) else (zix l2 150 (zbv (F_R_emit M (M 35 l2.toNatClampNeg)) fun M10 => F_R_writePlain_p20 N rec11 n M10 l1 (l2 + (1 : Int32)))))
set_option maxRecDepth 100000 in
theorem G_R_writePlain_p20 {N : Nat} {rec11 : zMem → Int32 → Option (Int32 × zMem)} (hrec11 : ∀ {M : zMem} {l1 : Int32} {y : Int32 × zMem}, rec11 M l1 = some y → zGo Y_R_writePlain 5 11 [some (.inr 34), some (.inl l1), none] [] M (some y.1) y.2) : ∀ (n : Nat) {M : zMem} {l1 l2 : Int32} {y : Int32 × zMem}, F_R_writePlain_p20 N rec11 n M l1 l2 = some y → zGo Y_R_writePlain 5 20 [some (.inr 34), some (.inl l1), some (.inl l2)] [] M (some y.1) y.2 := by
  intro n
  induction n with
  | zero =>
    intro M l1 l2 y h
    unfold F_R_writePlain_p20 at h
    cases h
  | succ n ih =>
    intro M l1 l2 y h
    unfold F_R_writePlain_p20 at h
    refine go_aload_n K_R_writePlain rfl rfl ?_
    refine go_getR K_R_writePlain rfl zf_12_7 ?_
    refine go_iload_n K_R_writePlain rfl rfl ?_
    obtain ⟨i1, h⟩ := zix_ex h
    refine go_iald K_R_writePlain rfl za_35 i1 ?_
    refine go_sipush K_R_writePlain rfl zk_sipush_171 ?_
    refine go_icmp_eq K_R_writePlain rfl (fun c => ?_) (fun c => ?_)
    · have h := zif_t c h
      refine go_aload_n K_R_writePlain rfl rfl ?_
      refine go_sipush K_R_writePlain rfl zk_sipush_171 ?_
      obtain ⟨M2, h3, h⟩ := zbv_ex h
      refine go_vv (Y' := Y_R_emit) (av := [.inl (171 : Int32)]) (rest := []) K_R_writePlain rfl zl_12_284 zm_R_emit rfl (G_R_emit h3) (Nat.le_of_ble_eq_true rfl) (Nat.le_of_ble_eq_true rfl) rfl ?_
      refine go_aload_n K_R_writePlain rfl rfl ?_
      refine go_aload_n K_R_writePlain rfl rfl ?_
      refine go_getR K_R_writePlain rfl zf_12_58 ?_
      refine go_iload_n K_R_writePlain rfl rfl ?_
      obtain ⟨i4, h⟩ := zix_ex h
      refine go_iald K_R_writePlain rfl za_51 i4 ?_
      obtain ⟨M5, h6, h⟩ := zbv_ex h
      refine go_vv (Y' := Y_R_write) (av := [.inl (M2 51 l1.toNatClampNeg)]) (rest := []) K_R_writePlain rfl zl_12_296 zm_R_write rfl (G_R_write h6) (Nat.le_of_ble_eq_true rfl) (Nat.le_of_ble_eq_true rfl) rfl ?_
      refine go_aload_n K_R_writePlain rfl rfl ?_
      refine go_sipush K_R_writePlain rfl zk_sipush_163 ?_
      obtain ⟨M7, h8, h⟩ := zbv_ex h
      refine go_vv (Y' := Y_R_emit) (av := [.inl (163 : Int32)]) (rest := []) K_R_writePlain rfl zl_12_284 zm_R_emit rfl (G_R_emit h8) (Nat.le_of_ble_eq_true rfl) (Nat.le_of_ble_eq_true rfl) rfl ?_
      refine go_iinc (v := l1 + (1 : Int32)) K_R_writePlain rfl rfl zinc_1 ?_
      refine go_goto K_R_writePlain rfl ?_
      exact go_forget (hrec11 h) (zs_s (zs_s (zs_n zs_e)))
    · have h := zif_f c h
      refine go_aload_n K_R_writePlain rfl rfl ?_
      refine go_aload_n K_R_writePlain rfl rfl ?_
      refine go_getR K_R_writePlain rfl zf_12_7 ?_
      refine go_iload_n K_R_writePlain rfl rfl ?_
      obtain ⟨i9, h⟩ := zix_ex h
      refine go_iald K_R_writePlain rfl za_35 i9 ?_
      obtain ⟨M10, h11, h⟩ := zbv_ex h
      refine go_vv (Y' := Y_R_emit) (av := [.inl (M 35 l2.toNatClampNeg)]) (rest := []) K_R_writePlain rfl zl_12_284 zm_R_emit rfl (G_R_emit h11) (Nat.le_of_ble_eq_true rfl) (Nat.le_of_ble_eq_true rfl) rfl ?_
      refine go_iinc (v := l2 + (1 : Int32)) K_R_writePlain rfl rfl zinc_1 ?_
      refine go_goto K_R_writePlain rfl ?_
      exact go_forget (ih h) (zs_s (zs_s (zs_s zs_e)))
def F_R_writePlain_p11 (N : Nat) : Nat → zMem → Int32 → Option (Int32 × zMem)
  | 0, _, _ => none
  | n + 1, M, l1 =>
    if (M 34 27) ≤ l1 then (zbv (F_R_emit M (171 : Int32)) fun M1 => zbv (F_R_write N M1 (M1 34 24)) fun M3 => zbv (F_R_emit M3 (163 : Int32)) fun M5 => some ((1 : Int32), M5)) else (zix l1 30 (F_R_writePlain_p20 N (F_R_writePlain_p11 N n) N M l1 (M 50 l1.toNatClampNeg)))
set_option maxRecDepth 100000 in
theorem G_R_writePlain_p11 {N : Nat} : ∀ (n : Nat) {M : zMem} {l1 : Int32} {y : Int32 × zMem}, F_R_writePlain_p11 N n M l1 = some y → zGo Y_R_writePlain 5 11 [some (.inr 34), some (.inl l1), none] [] M (some y.1) y.2 := by
  intro n
  induction n with
  | zero =>
    intro M l1 y h
    unfold F_R_writePlain_p11 at h
    cases h
  | succ n ih =>
    intro M l1 y h
    unfold F_R_writePlain_p11 at h
    refine go_iload_n K_R_writePlain rfl rfl ?_
    refine go_aload_n K_R_writePlain rfl rfl ?_
    refine go_getI K_R_writePlain rfl zf_12_143 ?_
    refine go_icmp_ge K_R_writePlain rfl (fun c => ?_) (fun c => ?_)
    · have h := zif_t c h
      refine go_aload_n K_R_writePlain rfl rfl ?_
      refine go_sipush K_R_writePlain rfl zk_sipush_171 ?_
      obtain ⟨M1, h2, h⟩ := zbv_ex h
      refine go_vv (Y' := Y_R_emit) (av := [.inl (171 : Int32)]) (rest := []) K_R_writePlain rfl zl_12_284 zm_R_emit rfl (G_R_emit h2) (Nat.le_of_ble_eq_true rfl) (Nat.le_of_ble_eq_true rfl) rfl ?_
      refine go_aload_n K_R_writePlain rfl rfl ?_
      refine go_aload_n K_R_writePlain rfl rfl ?_
      refine go_getI K_R_writePlain rfl zf_12_157 ?_
      obtain ⟨M3, h4, h⟩ := zbv_ex h
      refine go_vv (Y' := Y_R_write) (av := [.inl (M1 34 24)]) (rest := []) K_R_writePlain rfl zl_12_296 zm_R_write rfl (G_R_write h4) (Nat.le_of_ble_eq_true rfl) (Nat.le_of_ble_eq_true rfl) rfl ?_
      refine go_aload_n K_R_writePlain rfl rfl ?_
      refine go_sipush K_R_writePlain rfl zk_sipush_163 ?_
      obtain ⟨M5, h6, h⟩ := zbv_ex h
      refine go_vv (Y' := Y_R_emit) (av := [.inl (163 : Int32)]) (rest := []) K_R_writePlain rfl zl_12_284 zm_R_emit rfl (G_R_emit h6) (Nat.le_of_ble_eq_true rfl) (Nat.le_of_ble_eq_true rfl) rfl ?_
      refine go_iconst K_R_writePlain rfl zk_iconst_1 ?_
      cases h
      exact go_zreturn K_R_writePlain rfl rfl (Or.inr rfl)
    · have h := zif_f c h
      refine go_aload_n K_R_writePlain rfl rfl ?_
      refine go_getR K_R_writePlain rfl zf_12_55 ?_
      refine go_iload_n K_R_writePlain rfl rfl ?_
      obtain ⟨i7, h⟩ := zix_ex h
      refine go_iald K_R_writePlain rfl za_50 i7 ?_
      refine go_istore_n K_R_writePlain rfl (Nat.le_of_ble_eq_true rfl) ?_
      exact go_forget (G_R_writePlain_p20 ih _ h) (zs_s (zs_s (zs_s zs_e)))
def F_R_writePlain (N : Nat) (M : zMem) : Option (Int32 × zMem) :=
  zbi (F_R_readText N M ) fun r3 M1 => if r3 = (-4 : Int32) then (zset M1 34 30 ((0 : Int32)) fun M4 => F_R_writePlain_p11 N N M4 ((0 : Int32))) else (some ((0 : Int32), M1))
set_option maxRecDepth 100000 in
theorem G_R_writePlain {N : Nat} {M : zMem} {y : Int32 × zMem} (h : F_R_writePlain N M  = some y) : zGo Y_R_writePlain 5 0 (zal Y_R_writePlain [.inr 34]) [] M (some y.1) y.2 := by
  unfold F_R_writePlain at h
  show zGo Y_R_writePlain 5 0 [some (.inr 34), none, none] [] M _ _
  refine go_aload_n K_R_writePlain rfl rfl ?_
  obtain ⟨r3, M1, h2, h⟩ := zbi_ex h
  refine go_vi (Y' := Y_R_readText) (av := []) (rest := []) K_R_writePlain rfl zl_12_197 zm_R_readText rfl (G_R_readText h2) (Nat.le_of_ble_eq_true rfl) (Nat.le_of_ble_eq_true rfl) rfl ?_
  refine go_bipush K_R_writePlain rfl zk_bipush_m4 ?_
  refine go_icmp_eq K_R_writePlain rfl (fun c => ?_) (fun c => ?_)
  · have h := zif_t c h
    refine go_aload_n K_R_writePlain rfl rfl ?_
    refine go_iconst K_R_writePlain rfl zk_iconst_0 ?_
    obtain ⟨M4, e5, h⟩ := zset_ex h
    refine go_putI' e5 K_R_writePlain rfl zf_12_274 ?_
    refine go_iconst K_R_writePlain rfl zk_iconst_0 ?_
    refine go_istore_n K_R_writePlain rfl (Nat.le_of_ble_eq_true rfl) ?_
    exact go_forget (G_R_writePlain_p11 _ h) (zs_s (zs_s (zs_n zs_e)))
  · have h := zif_f c h
    refine go_iconst K_R_writePlain rfl zk_iconst_0 ?_
    cases h
    exact go_zreturn K_R_writePlain rfl rfl (Or.inl rfl)
def F_R_plain (N : Nat) (M : zMem) (l1 : Int32) : Option (Int32 × zMem) :=
  zbi (F_R_writePlain N M ) fun r3 M1 => if r3 = 0 then (some ((-4 : Int32), M1)) else (if l1 < 0 then (some ((-4 : Int32), M1)) else (if (M1 34 30) ≤ l1 then (some ((-4 : Int32), M1)) else (zix l1 160 (some (M1 52 l1.toNatClampNeg, M1)))))
set_option maxRecDepth 100000 in
theorem G_R_plain {N : Nat} {M : zMem} {l1 : Int32} {y : Int32 × zMem} (h : F_R_plain N M l1 = some y) : zGo Y_R_plain 6 0 (zal Y_R_plain [.inr 34, .inl l1]) [] M (some y.1) y.2 := by
  unfold F_R_plain at h
  show zGo Y_R_plain 6 0 [some (.inr 34), some (.inl l1)] [] M _ _
  refine go_aload_n K_R_plain rfl rfl ?_
  obtain ⟨r3, M1, h2, h⟩ := zbi_ex h
  refine go_vi (Y' := Y_R_writePlain) (av := []) (rest := []) K_R_plain rfl zl_12_299 zm_R_writePlain rfl (G_R_writePlain h2) (Nat.le_of_ble_eq_true rfl) (Nat.le_of_ble_eq_true rfl) rfl ?_
  refine go_if_eq K_R_plain rfl (fun c => ?_) (fun c => ?_)
  · have h := zif_t c h
    refine go_bipush K_R_plain rfl zk_bipush_m4 ?_
    cases h
    exact go_ireturn K_R_plain rfl rfl
  · have h := zif_f c h
    refine go_iload_n K_R_plain rfl rfl ?_
    refine go_if_lt K_R_plain rfl (fun c => ?_) (fun c => ?_)
    · have h := zif_t c h
      refine go_bipush K_R_plain rfl zk_bipush_m4 ?_
      cases h
      exact go_ireturn K_R_plain rfl rfl
    · have h := zif_f c h
      refine go_iload_n K_R_plain rfl rfl ?_
      refine go_aload_n K_R_plain rfl rfl ?_
      refine go_getI K_R_plain rfl zf_12_274 ?_
      refine go_icmp_ge K_R_plain rfl (fun c => ?_) (fun c => ?_)
      · have h := zif_t c h
        refine go_bipush K_R_plain rfl zk_bipush_m4 ?_
        cases h
        exact go_ireturn K_R_plain rfl rfl
      · have h := zif_f c h
        refine go_aload_n K_R_plain rfl rfl ?_
        refine go_getR K_R_plain rfl zf_12_61 ?_
        refine go_iload_n K_R_plain rfl rfl ?_
        obtain ⟨i4, h⟩ := zix_ex h
        refine go_iald K_R_plain rfl za_52 i4 ?_
        refine go_goto K_R_plain rfl ?_
        cases h
        exact go_ireturn K_R_plain rfl rfl
def F_R_plainSize (N : Nat) (M : zMem) : Option (Int32 × zMem) :=
  zbi (F_R_writePlain N M ) fun r3 M1 => if r3 = 0 then (some ((-5 : Int32), M1)) else (some (M1 34 30, M1))
set_option maxRecDepth 100000 in
theorem G_R_plainSize {N : Nat} {M : zMem} {y : Int32 × zMem} (h : F_R_plainSize N M  = some y) : zGo Y_R_plainSize 6 0 (zal Y_R_plainSize [.inr 34]) [] M (some y.1) y.2 := by
  unfold F_R_plainSize at h
  show zGo Y_R_plainSize 6 0 [some (.inr 34)] [] M _ _
  refine go_aload_n K_R_plainSize rfl rfl ?_
  obtain ⟨r3, M1, h2, h⟩ := zbi_ex h
  refine go_vi (Y' := Y_R_writePlain) (av := []) (rest := []) K_R_plainSize rfl zl_12_299 zm_R_writePlain rfl (G_R_writePlain h2) (Nat.le_of_ble_eq_true rfl) (Nat.le_of_ble_eq_true rfl) rfl ?_
  refine go_if_eq K_R_plainSize rfl (fun c => ?_) (fun c => ?_)
  · have h := zif_t c h
    refine go_bipush K_R_plainSize rfl zk_bipush_m5 ?_
    cases h
    exact go_ireturn K_R_plainSize rfl rfl
  · have h := zif_f c h
    refine go_aload_n K_R_plainSize rfl rfl ?_
    refine go_getI K_R_plainSize rfl zf_12_274 ?_
    refine go_goto K_R_plainSize rfl ?_
    cases h
    exact go_ireturn K_R_plainSize rfl rfl
def F_R_prepare (M : zMem) (l1 l2 : Int32) : Option (Int32 × zMem) :=
  if l1 < (4 : Int32) then (some ((-1 : Int32), M)) else (if (8 : Int32) < l1 then (some ((-1 : Int32), M)) else (if l2 < 0 then (some ((-1 : Int32), M)) else (if l2 ≤ (2 : Int32) then (some ((0 : Int32), M)) else (some ((-1 : Int32), M)))))
set_option maxRecDepth 100000 in
theorem G_R_prepare {M : zMem} {l1 l2 : Int32} {y : Int32 × zMem} (h : F_R_prepare M l1 l2 = some y) : zGo Y_R_prepare 0 0 (zal Y_R_prepare [.inr 34, .inl l1, .inl l2]) [] M (some y.1) y.2 := by
  unfold F_R_prepare at h
  show zGo Y_R_prepare 0 0 [some (.inr 34), some (.inl l1), some (.inl l2)] [] M _ _
  refine go_iload_n K_R_prepare rfl rfl ?_
  refine go_iconst K_R_prepare rfl zk_iconst_4 ?_
  refine go_icmp_lt K_R_prepare rfl (fun c => ?_) (fun c => ?_)
  · have h := zif_t c h
    refine go_iconst K_R_prepare rfl zk_iconst_m1 ?_
    refine go_goto K_R_prepare rfl ?_
    cases h
    exact go_ireturn K_R_prepare rfl rfl
  · have h := zif_f c h
    refine go_iload_n K_R_prepare rfl rfl ?_
    refine go_bipush K_R_prepare rfl zk_bipush_8 ?_
    refine go_icmp_gt K_R_prepare rfl (fun c => ?_) (fun c => ?_)
    · have h := zif_t c h
      refine go_iconst K_R_prepare rfl zk_iconst_m1 ?_
      refine go_goto K_R_prepare rfl ?_
      cases h
      exact go_ireturn K_R_prepare rfl rfl
    · have h := zif_f c h
      refine go_iload_n K_R_prepare rfl rfl ?_
      refine go_if_lt K_R_prepare rfl (fun c => ?_) (fun c => ?_)
      · have h := zif_t c h
        refine go_iconst K_R_prepare rfl zk_iconst_m1 ?_
        refine go_goto K_R_prepare rfl ?_
        cases h
        exact go_ireturn K_R_prepare rfl rfl
      · have h := zif_f c h
        refine go_iload_n K_R_prepare rfl rfl ?_
        refine go_iconst K_R_prepare rfl zk_iconst_2 ?_
        refine go_icmp_le K_R_prepare rfl (fun c => ?_) (fun c => ?_)
        · have h := zif_t c h
          refine go_iconst K_R_prepare rfl zk_iconst_0 ?_
          cases h
          exact go_ireturn K_R_prepare rfl rfl
        · have h := zif_f c h
          refine go_iconst K_R_prepare rfl zk_iconst_m1 ?_
          refine go_goto K_R_prepare rfl ?_
          cases h
          exact go_ireturn K_R_prepare rfl rfl
