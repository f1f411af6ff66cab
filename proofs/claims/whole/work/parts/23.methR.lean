def F_R_print (M : zMem) (l1 : Int32) : Option (zMem) :=
  if (M 34 42) = (20 : Int32) then (zset M 34 45 ((3 : Int32)) fun M6 => some M6) else (zix (M 34 42) 20 (zset M 58 (M 34 42).toNatClampNeg l1 fun M2 => zset M2 34 42 ((M2 34 42) + (1 : Int32)) fun M4 => some M4))
set_option maxRecDepth 100000 in
theorem G_R_print {M : zMem} {l1 : Int32} {y : zMem} (h : F_R_print M l1 = some y) : zGo Y_R_print 0 0 (zal Y_R_print [.inr 34, .inl l1]) [] M none y := by
  unfold F_R_print at h
  show zGo Y_R_print 0 0 [some (.inr 34), some (.inl l1)] [] M _ _
  refine go_aload_n K_R_print rfl rfl ?_
  refine go_getI K_R_print rfl zf_12_247 ?_
  refine go_bipush K_R_print rfl zk_bipush_20 ?_
  refine go_icmp_ne K_R_print rfl (fun c => ?_) (fun c => ?_)
  · have h := zif_f c h
    refine go_aload_n K_R_print rfl rfl ?_
    refine go_getR K_R_print rfl zf_12_79 ?_
    refine go_aload_n K_R_print rfl rfl ?_
    refine go_getI K_R_print rfl zf_12_247 ?_
    refine go_iload_n K_R_print rfl rfl ?_
    obtain ⟨i1, h⟩ := zix_ex h
    obtain ⟨M2, e3, h⟩ := zset_ex h
    refine go_iast' e3 K_R_print rfl za_58 i1 ?_
    refine go_aload_n K_R_print rfl rfl ?_
    refine go_dup K_R_print rfl ?_
    refine go_getI K_R_print rfl zf_12_247 ?_
    refine go_iconst K_R_print rfl zk_iconst_1 ?_
    refine go_iadd K_R_print rfl ?_
    obtain ⟨M4, e5, h⟩ := zset_ex h
    refine go_putI' e5 K_R_print rfl zf_12_247 ?_
    cases h
    exact go_return K_R_print rfl rfl
  · have h := zif_t c h
    refine go_aload_n K_R_print rfl rfl ?_
    refine go_iconst K_R_print rfl zk_iconst_3 ?_
    obtain ⟨M6, e7, h⟩ := zset_ex h
    refine go_putI' e7 K_R_print rfl zf_12_216 ?_
    refine go_goto K_R_print rfl ?_
    cases h
    exact go_return K_R_print rfl rfl
def F_R_setName (M : zMem) (l1 l2 : Int32) : Option (zMem) :=
  zbi (F_R_isLocal M l1) fun r3 M1 => if r3 = 0 then (zix l1 8 (zset M1 59 l1.toNatClampNeg l2 fun M5 => some M5)) else (zix (((8 : Int32) * (M1 34 38)) + l1) 168 (zset M1 56 (((8 : Int32) * (M1 34 38)) + l1).toNatClampNeg l2 fun M8 => some M8))
set_option maxRecDepth 100000 in
theorem G_R_setName {M : zMem} {l1 l2 : Int32} {y : zMem} (h : F_R_setName M l1 l2 = some y) : zGo Y_R_setName 1 0 (zal Y_R_setName [.inr 34, .inl l1, .inl l2]) [] M none y := by
  unfold F_R_setName at h
  show zGo Y_R_setName 1 0 [some (.inr 34), some (.inl l1), some (.inl l2)] [] M _ _
  refine go_aload_n K_R_setName rfl rfl ?_
  refine go_iload_n K_R_setName rfl rfl ?_
  obtain ⟨r3, M1, h2, h⟩ := zbi_ex h
  refine go_vi (Y' := Y_R_isLocal) (av := [.inl l1]) (rest := []) K_R_setName rfl zl_12_222 zm_R_isLocal rfl (G_R_isLocal h2) (Nat.le_of_ble_eq_true rfl) (Nat.le_of_ble_eq_true rfl) rfl ?_
  refine go_if_eq K_R_setName rfl (fun c => ?_) (fun c => ?_)
  · have h := zif_t c h
    refine go_aload_n K_R_setName rfl rfl ?_
    refine go_getR K_R_setName rfl zf_12_82 ?_
    refine go_iload_n K_R_setName rfl rfl ?_
    refine go_iload_n K_R_setName rfl rfl ?_
    obtain ⟨i4, h⟩ := zix_ex h
    obtain ⟨M5, e6, h⟩ := zset_ex h
    refine go_iast' e6 K_R_setName rfl za_59 i4 ?_
    cases h
    exact go_return K_R_setName rfl rfl
  · have h := zif_f c h
    refine go_aload_n K_R_setName rfl rfl ?_
    refine go_getR K_R_setName rfl zf_12_73 ?_
    refine go_bipush K_R_setName rfl zk_bipush_8 ?_
    refine go_aload_n K_R_setName rfl rfl ?_
    refine go_getI K_R_setName rfl zf_12_219 ?_
    refine go_imul K_R_setName rfl ?_
    refine go_iload_n K_R_setName rfl rfl ?_
    refine go_iadd K_R_setName rfl ?_
    refine go_iload_n K_R_setName rfl rfl ?_
    obtain ⟨i7, h⟩ := zix_ex h
    obtain ⟨M8, e9, h⟩ := zset_ex h
    refine go_iast' e9 K_R_setName rfl za_56 i7 ?_
    refine go_goto K_R_setName rfl ?_
    cases h
    exact go_return K_R_setName rfl rfl
def F_R_goOnStatement_p154 (N : Nat) (M : zMem) (s1 s2 : Int32) : Option (zMem) :=
  zbv (F_R_wait M s1 s2) fun M1 => some M1
set_option maxRecDepth 100000 in
theorem G_R_goOnStatement_p154 {N : Nat} {M : zMem} {s1 s2 : Int32} {y : zMem} (h : F_R_goOnStatement_p154 N M s1 s2 = some y) : zGo Y_R_goOnStatement 2 154 [none, none, none, none, none] [.inl s2, .inl s1, .inr 34] M none y := by
  unfold F_R_goOnStatement_p154 at h
  obtain ⟨M1, h2, h⟩ := zbv_ex h
  refine go_vv (Y' := Y_R_wait) (av := [.inl s1, .inl s2]) (rest := []) K_R_goOnStatement rfl zl_12_228 zm_R_wait rfl (G_R_wait h2) (Nat.le_of_ble_eq_true rfl) (Nat.le_of_ble_eq_true rfl) rfl ?_
  cases h
  exact go_return K_R_goOnStatement rfl rfl
def F_R_goOnStatement_p142 (N : Nat) (M : zMem) (l1 s1 : Int32) : Option (zMem) :=
  zix l1 400 (zix (M 43 l1.toNatClampNeg) 400 (if (M 39 (M 43 l1.toNatClampNeg).toNatClampNeg) = (30 : Int32) then (F_R_goOnStatement_p154 N M s1 ((7 : Int32))) else (F_R_goOnStatement_p154 N M s1 ((0 : Int32)))))
set_option maxRecDepth 100000 in
theorem G_R_goOnStatement_p142 {N : Nat} {M : zMem} {l1 s1 : Int32} {y : zMem} (h : F_R_goOnStatement_p142 N M l1 s1 = some y) : zGo Y_R_goOnStatement 2 142 [some (.inr 34), some (.inl l1), none, none, none] [.inl s1, .inr 34] M none y := by
  unfold F_R_goOnStatement_p142 at h
  refine go_aload_n K_R_goOnStatement rfl rfl ?_
  refine go_getR K_R_goOnStatement rfl zf_12_22 ?_
  refine go_aload_n K_R_goOnStatement rfl rfl ?_
  refine go_getR K_R_goOnStatement rfl zf_12_34 ?_
  refine go_iload_n K_R_goOnStatement rfl rfl ?_
  obtain ⟨i1, h⟩ := zix_ex h
  refine go_iald K_R_goOnStatement rfl za_43 i1 ?_
  obtain ⟨i2, h⟩ := zix_ex h
  refine go_iald K_R_goOnStatement rfl za_39 i2 ?_
  refine go_bipush K_R_goOnStatement rfl zk_bipush_30 ?_
  refine go_icmp_ne K_R_goOnStatement rfl (fun c => ?_) (fun c => ?_)
  · have h := zif_f c h
    refine go_iconst K_R_goOnStatement rfl zk_iconst_0 ?_
    exact go_forget (G_R_goOnStatement_p154 h) (zs_n (zs_n (zs_n (zs_n (zs_n zs_e)))))
  · have h := zif_t c h
    refine go_bipush K_R_goOnStatement rfl zk_bipush_7 ?_
    refine go_goto K_R_goOnStatement rfl ?_
    exact go_forget (G_R_goOnStatement_p154 h) (zs_n (zs_n (zs_n (zs_n (zs_n zs_e)))))
def F_R_goOnStatement_p112 (N : Nat) (M : zMem) (l1 l3 : Int32) : Option (zMem) :=
  if l3 = (27 : Int32) then (zix l1 400 (if (M 43 l1.toNatClampNeg) < 0 then (some M) else (zix l1 400 (zix (M 43 l1.toNatClampNeg) 400 (if (M 39 (M 43 l1.toNatClampNeg).toNatClampNeg) = (30 : Int32) then (zix l1 400 (zix (M 43 l1.toNatClampNeg) 400 (F_R_goOnStatement_p142 N M l1 (M 41 (M 43 l1.toNatClampNeg).toNatClampNeg)))) else (zix l1 400 (F_R_goOnStatement_p142 N M l1 (M 43 l1.toNatClampNeg)))))))) else (some M)
set_option maxRecDepth 100000 in
theorem G_R_goOnStatement_p112 {N : Nat} {M : zMem} {l1 l3 : Int32} {y : zMem} (h : F_R_goOnStatement_p112 N M l1 l3 = some y) : zGo Y_R_goOnStatement 2 112 [some (.inr 34), some (.inl l1), none, some (.inl l3), none] [] M none y := by
  unfold F_R_goOnStatement_p112 at h
  refine go_iload_n K_R_goOnStatement rfl rfl ?_
  refine go_bipush K_R_goOnStatement rfl zk_bipush_27 ?_
  refine go_icmp_ne K_R_goOnStatement rfl (fun c => ?_) (fun c => ?_)
  · have h := zif_f c h
    cases h
    exact go_return K_R_goOnStatement rfl rfl
  · have h := zif_t c h
    refine go_aload_n K_R_goOnStatement rfl rfl ?_
    refine go_getR K_R_goOnStatement rfl zf_12_34 ?_
    refine go_iload_n K_R_goOnStatement rfl rfl ?_
    obtain ⟨i1, h⟩ := zix_ex h
    refine go_iald K_R_goOnStatement rfl za_43 i1 ?_
    refine go_if_lt K_R_goOnStatement rfl (fun c => ?_) (fun c => ?_)
    · have h := zif_t c h
      cases h
      exact go_return K_R_goOnStatement rfl rfl
    · have h := zif_f c h
      refine go_aload_n K_R_goOnStatement rfl rfl ?_
      refine go_aload_n K_R_goOnStatement rfl rfl ?_
      refine go_getR K_R_goOnStatement rfl zf_12_22 ?_
      refine go_aload_n K_R_goOnStatement rfl rfl ?_
      refine go_getR K_R_goOnStatement rfl zf_12_34 ?_
      refine go_iload_n K_R_goOnStatement rfl rfl ?_
      obtain ⟨i2, h⟩ := zix_ex h
      refine go_iald K_R_goOnStatement rfl za_43 i2 ?_
      obtain ⟨i3, h⟩ := zix_ex h
      refine go_iald K_R_goOnStatement rfl za_39 i3 ?_
      refine go_bipush K_R_goOnStatement rfl zk_bipush_30 ?_
      refine go_icmp_ne K_R_goOnStatement rfl (fun c => ?_) (fun c => ?_)
      · have h := zif_f c h
        refine go_aload_n K_R_goOnStatement rfl rfl ?_
        refine go_getR K_R_goOnStatement rfl zf_12_34 ?_
        refine go_iload_n K_R_goOnStatement rfl rfl ?_
        obtain ⟨i4, h⟩ := zix_ex h
        refine go_iald K_R_goOnStatement rfl za_43 i4 ?_
        exact go_forget (G_R_goOnStatement_p142 h) (zs_s (zs_s (zs_n (zs_n (zs_n zs_e)))))
      · have h := zif_t c h
        refine go_aload_n K_R_goOnStatement rfl rfl ?_
        refine go_getR K_R_goOnStatement rfl zf_12_28 ?_
        refine go_aload_n K_R_goOnStatement rfl rfl ?_
        refine go_getR K_R_goOnStatement rfl zf_12_34 ?_
        refine go_iload_n K_R_goOnStatement rfl rfl ?_
        obtain ⟨i5, h⟩ := zix_ex h
        refine go_iald K_R_goOnStatement rfl za_43 i5 ?_
        obtain ⟨i6, h⟩ := zix_ex h
        refine go_iald K_R_goOnStatement rfl za_41 i6 ?_
        refine go_goto K_R_goOnStatement rfl ?_
        exact go_forget (G_R_goOnStatement_p142 h) (zs_s (zs_s (zs_n (zs_n (zs_n zs_e)))))
def F_R_goOnStatement_p96 (N : Nat) (M : zMem) (l1 l3 l4 : Int32) : Option (zMem) :=
  if l3 = (27 : Int32) then (if l4 = 0 then (F_R_goOnStatement_p112 N M l1 l3) else (zix l1 400 (zix (M 42 l1.toNatClampNeg) 400 (zbv (F_R_wait M (M 41 (M 42 l1.toNatClampNeg).toNatClampNeg) (7 : Int32)) fun M3 => some M3)))) else (F_R_goOnStatement_p112 N M l1 l3)
set_option maxRecDepth 100000 in
theorem G_R_goOnStatement_p96 {N : Nat} {M : zMem} {l1 l3 l4 : Int32} {y : zMem} (h : F_R_goOnStatement_p96 N M l1 l3 l4 = some y) : zGo Y_R_goOnStatement 2 96 [some (.inr 34), some (.inl l1), none, some (.inl l3), some (.inl l4)] [] M none y := by
  unfold F_R_goOnStatement_p96 at h
  refine go_iload_n K_R_goOnStatement rfl rfl ?_
  refine go_bipush K_R_goOnStatement rfl zk_bipush_27 ?_
  refine go_icmp_ne K_R_goOnStatement rfl (fun c => ?_) (fun c => ?_)
  · have h := zif_f c h
    exact go_forget (G_R_goOnStatement_p112 h) (zs_s (zs_s (zs_n (zs_s (zs_n zs_e)))))
  · have h := zif_t c h
    refine go_iload K_R_goOnStatement rfl rfl ?_
    refine go_if_eq K_R_goOnStatement rfl (fun c => ?_) (fun c => ?_)
    · have h := zif_t c h
      exact go_forget (G_R_goOnStatement_p112 h) (zs_s (zs_s (zs_n (zs_s (zs_n zs_e)))))
    · have h := zif_f c h
      refine go_aload_n K_R_goOnStatement rfl rfl ?_
      refine go_aload_n K_R_goOnStatement rfl rfl ?_
      refine go_getR K_R_goOnStatement rfl zf_12_28 ?_
      refine go_aload_n K_R_goOnStatement rfl rfl ?_
      refine go_getR K_R_goOnStatement rfl zf_12_31 ?_
      refine go_iload_n K_R_goOnStatement rfl rfl ?_
      obtain ⟨i1, h⟩ := zix_ex h
      refine go_iald K_R_goOnStatement rfl za_42 i1 ?_
      obtain ⟨i2, h⟩ := zix_ex h
      refine go_iald K_R_goOnStatement rfl za_41 i2 ?_
      refine go_bipush K_R_goOnStatement rfl zk_bipush_7 ?_
      obtain ⟨M3, h4, h⟩ := zbv_ex h
      refine go_vv (Y' := Y_R_wait) (av := [.inl (M 41 (M 42 l1.toNatClampNeg).toNatClampNeg), .inl (7 : Int32)]) (rest := []) K_R_goOnStatement rfl zl_12_228 zm_R_wait rfl (G_R_wait h4) (Nat.le_of_ble_eq_true rfl) (Nat.le_of_ble_eq_true rfl) rfl ?_
      refine go_goto K_R_goOnStatement rfl ?_
      cases h
      exact go_return K_R_goOnStatement rfl rfl
def F_R_goOnStatement_p86 (N : Nat) (M : zMem) (l1 l3 l4 : Int32) : Option (zMem) :=
  if l3 = (26 : Int32) then (if l4 = 0 then (zbv (F_R_wait M l1 (0 : Int32)) fun M1 => some M1) else (F_R_goOnStatement_p96 N M l1 l3 l4)) else (F_R_goOnStatement_p96 N M l1 l3 l4)
set_option maxRecDepth 100000 in
theorem G_R_goOnStatement_p86 {N : Nat} {M : zMem} {l1 l3 l4 : Int32} {y : zMem} (h : F_R_goOnStatement_p86 N M l1 l3 l4 = some y) : zGo Y_R_goOnStatement 2 86 [some (.inr 34), some (.inl l1), none, some (.inl l3), some (.inl l4)] [] M none y := by
  unfold F_R_goOnStatement_p86 at h
  refine go_iload_n K_R_goOnStatement rfl rfl ?_
  refine go_bipush K_R_goOnStatement rfl zk_bipush_26 ?_
  refine go_icmp_ne K_R_goOnStatement rfl (fun c => ?_) (fun c => ?_)
  · have h := zif_f c h
    exact go_forget (G_R_goOnStatement_p96 h) (zs_s (zs_s (zs_n (zs_s (zs_s zs_e)))))
  · have h := zif_t c h
    refine go_iload K_R_goOnStatement rfl rfl ?_
    refine go_if_ne K_R_goOnStatement rfl (fun c => ?_) (fun c => ?_)
    · have h := zif_f c h
      exact go_forget (G_R_goOnStatement_p96 h) (zs_s (zs_s (zs_n (zs_s (zs_s zs_e)))))
    · have h := zif_t c h
      refine go_aload_n K_R_goOnStatement rfl rfl ?_
      refine go_iload_n K_R_goOnStatement rfl rfl ?_
      refine go_iconst K_R_goOnStatement rfl zk_iconst_0 ?_
      obtain ⟨M1, h2, h⟩ := zbv_ex h
      refine go_vv (Y' := Y_R_wait) (av := [.inl l1, .inl (0 : Int32)]) (rest := []) K_R_goOnStatement rfl zl_12_228 zm_R_wait rfl (G_R_wait h2) (Nat.le_of_ble_eq_true rfl) (Nat.le_of_ble_eq_true rfl) rfl ?_
      refine go_goto K_R_goOnStatement rfl ?_
      cases h
      exact go_return K_R_goOnStatement rfl rfl
def F_R_goOnStatement_p23 (N : Nat) (M : zMem) (l1 l3 : Int32) : Option (zMem) :=
  zbi (F_R_release M ) fun r3 M1 => if l3 = (20 : Int32) then (zix l1 400 (zbv (F_R_setName M1 (M1 40 l1.toNatClampNeg) r3) fun M24 => some M24)) else (if l3 = (21 : Int32) then (zbi (F_R_release M1 ) fun r19 M17 => zix (r19 &&& (15 : Int32)) 16 (zset M17 60 (r19 &&& (15 : Int32)).toNatClampNeg r3 fun M21 => some M21)) else (if l3 = (23 : Int32) then (zbv (F_R_print M1 r3) fun M15 => some M15) else (if l3 = (24 : Int32) then (zbv (F_R_comeBack N M1 r3) fun M13 => some M13) else (if l3 = (25 : Int32) then (if r3 = 0 then (F_R_goOnStatement_p86 N M1 l1 l3 r3) else (zbi (F_R_takeTurn M1 ) fun r6 M4 => if r6 = 0 then (some M4) else (zbv (F_R_wait M4 l1 (0 : Int32)) fun M7 => zix l1 400 (zix (M7 42 l1.toNatClampNeg) 400 (zbv (F_R_wait M7 (M7 41 (M7 42 l1.toNatClampNeg).toNatClampNeg) (7 : Int32)) fun M11 => some M11))))) else (F_R_goOnStatement_p86 N M1 l1 l3 r3)))))
set_option maxRecDepth 100000 in
theorem G_R_goOnStatement_p23 {N : Nat} {M : zMem} {l1 l3 : Int32} {y : zMem} (h : F_R_goOnStatement_p23 N M l1 l3 = some y) : zGo Y_R_goOnStatement 2 23 [some (.inr 34), some (.inl l1), none, some (.inl l3), none] [] M none y := by
  unfold F_R_goOnStatement_p23 at h
  refine go_aload_n K_R_goOnStatement rfl rfl ?_
  obtain ⟨r3, M1, h2, h⟩ := zbi_ex h
  refine go_vi (Y' := Y_R_release) (av := []) (rest := []) K_R_goOnStatement rfl zl_12_238 zm_R_release rfl (G_R_release h2) (Nat.le_of_ble_eq_true rfl) (Nat.le_of_ble_eq_true rfl) rfl ?_
  refine go_istore K_R_goOnStatement rfl (Nat.le_of_ble_eq_true rfl) ?_
  refine go_iload_n K_R_goOnStatement rfl rfl ?_
  refine go_bipush K_R_goOnStatement rfl zk_bipush_20 ?_
  refine go_icmp_ne K_R_goOnStatement rfl (fun c => ?_) (fun c => ?_)
  · have h := zif_f c h
    refine go_iload_n K_R_goOnStatement rfl rfl ?_
    refine go_bipush K_R_goOnStatement rfl zk_bipush_21 ?_
    refine go_icmp_ne K_R_goOnStatement rfl (fun c => ?_) (fun c => ?_)
    · have h := zif_f c h
      refine go_iload_n K_R_goOnStatement rfl rfl ?_
      refine go_bipush K_R_goOnStatement rfl zk_bipush_23 ?_
      refine go_icmp_ne K_R_goOnStatement rfl (fun c => ?_) (fun c => ?_)
      · have h := zif_f c h
        refine go_iload_n K_R_goOnStatement rfl rfl ?_
        refine go_bipush K_R_goOnStatement rfl zk_bipush_24 ?_
        refine go_icmp_ne K_R_goOnStatement rfl (fun c => ?_) (fun c => ?_)
        · have h := zif_f c h
          refine go_iload_n K_R_goOnStatement rfl rfl ?_
          refine go_bipush K_R_goOnStatement rfl zk_bipush_25 ?_
          refine go_icmp_ne K_R_goOnStatement rfl (fun c => ?_) (fun c => ?_)
          · have h := zif_f c h
            exact go_forget (G_R_goOnStatement_p86 h) (zs_s (zs_s (zs_n (zs_s (zs_s zs_e)))))
          · have h := zif_t c h
            refine go_iload K_R_goOnStatement rfl rfl ?_
            refine go_if_eq K_R_goOnStatement rfl (fun c => ?_) (fun c => ?_)
            · have h := zif_t c h
              exact go_forget (G_R_goOnStatement_p86 h) (zs_s (zs_s (zs_n (zs_s (zs_s zs_e)))))
            · have h := zif_f c h
              refine go_aload_n K_R_goOnStatement rfl rfl ?_
              obtain ⟨r6, M4, h5, h⟩ := zbi_ex h
              refine go_vi (Y' := Y_R_takeTurn) (av := []) (rest := []) K_R_goOnStatement rfl zl_12_231 zm_R_takeTurn rfl (G_R_takeTurn h5) (Nat.le_of_ble_eq_true rfl) (Nat.le_of_ble_eq_true rfl) rfl ?_
              refine go_if_eq K_R_goOnStatement rfl (fun c => ?_) (fun c => ?_)
              · have h := zif_t c h
                cases h
                exact go_return K_R_goOnStatement rfl rfl
              · have h := zif_f c h
                refine go_aload_n K_R_goOnStatement rfl rfl ?_
                refine go_iload_n K_R_goOnStatement rfl rfl ?_
                refine go_iconst K_R_goOnStatement rfl zk_iconst_0 ?_
                obtain ⟨M7, h8, h⟩ := zbv_ex h
                refine go_vv (Y' := Y_R_wait) (av := [.inl l1, .inl (0 : Int32)]) (rest := []) K_R_goOnStatement rfl zl_12_228 zm_R_wait rfl (G_R_wait h8) (Nat.le_of_ble_eq_true rfl) (Nat.le_of_ble_eq_true rfl) rfl ?_
                refine go_aload_n K_R_goOnStatement rfl rfl ?_
                refine go_aload_n K_R_goOnStatement rfl rfl ?_
                refine go_getR K_R_goOnStatement rfl zf_12_28 ?_
                refine go_aload_n K_R_goOnStatement rfl rfl ?_
                refine go_getR K_R_goOnStatement rfl zf_12_31 ?_
                refine go_iload_n K_R_goOnStatement rfl rfl ?_
                obtain ⟨i9, h⟩ := zix_ex h
                refine go_iald K_R_goOnStatement rfl za_42 i9 ?_
                obtain ⟨i10, h⟩ := zix_ex h
                refine go_iald K_R_goOnStatement rfl za_41 i10 ?_
                refine go_bipush K_R_goOnStatement rfl zk_bipush_7 ?_
                obtain ⟨M11, h12, h⟩ := zbv_ex h
                refine go_vv (Y' := Y_R_wait) (av := [.inl (M7 41 (M7 42 l1.toNatClampNeg).toNatClampNeg), .inl (7 : Int32)]) (rest := []) K_R_goOnStatement rfl zl_12_228 zm_R_wait rfl (G_R_wait h12) (Nat.le_of_ble_eq_true rfl) (Nat.le_of_ble_eq_true rfl) rfl ?_
                refine go_goto K_R_goOnStatement rfl ?_
                cases h
                exact go_return K_R_goOnStatement rfl rfl
        · have h := zif_t c h
          refine go_aload_n K_R_goOnStatement rfl rfl ?_
          refine go_iload K_R_goOnStatement rfl rfl ?_
          obtain ⟨M13, h14, h⟩ := zbv_ex h
          refine go_vv (Y' := Y_R_comeBack) (av := [.inl r3]) (rest := []) K_R_goOnStatement rfl zl_12_256 zm_R_comeBack rfl (G_R_comeBack h14) (Nat.le_of_ble_eq_true rfl) (Nat.le_of_ble_eq_true rfl) rfl ?_
          refine go_goto K_R_goOnStatement rfl ?_
          cases h
          exact go_return K_R_goOnStatement rfl rfl
      · have h := zif_t c h
        refine go_aload_n K_R_goOnStatement rfl rfl ?_
        refine go_iload K_R_goOnStatement rfl rfl ?_
        obtain ⟨M15, h16, h⟩ := zbv_ex h
        refine go_vv (Y' := Y_R_print) (av := [.inl r3]) (rest := []) K_R_goOnStatement rfl zl_12_253 zm_R_print rfl (G_R_print h16) (Nat.le_of_ble_eq_true rfl) (Nat.le_of_ble_eq_true rfl) rfl ?_
        refine go_goto K_R_goOnStatement rfl ?_
        cases h
        exact go_return K_R_goOnStatement rfl rfl
    · have h := zif_t c h
      refine go_aload_n K_R_goOnStatement rfl rfl ?_
      refine go_getR K_R_goOnStatement rfl zf_12_85 ?_
      refine go_aload_n K_R_goOnStatement rfl rfl ?_
      obtain ⟨r19, M17, h18, h⟩ := zbi_ex h
      refine go_vi (Y' := Y_R_release) (av := []) (rest := [.inr 60]) K_R_goOnStatement rfl zl_12_238 zm_R_release rfl (G_R_release h18) (Nat.le_of_ble_eq_true rfl) (Nat.le_of_ble_eq_true rfl) rfl ?_
      refine go_bipush K_R_goOnStatement rfl zk_bipush_15 ?_
      refine go_iand K_R_goOnStatement rfl ?_
      refine go_iload K_R_goOnStatement rfl rfl ?_
      obtain ⟨i20, h⟩ := zix_ex h
      obtain ⟨M21, e22, h⟩ := zset_ex h
      refine go_iast' e22 K_R_goOnStatement rfl za_60 i20 ?_
      refine go_goto K_R_goOnStatement rfl ?_
      cases h
      exact go_return K_R_goOnStatement rfl rfl
  · have h := zif_t c h
    refine go_aload_n K_R_goOnStatement rfl rfl ?_
    refine go_aload_n K_R_goOnStatement rfl rfl ?_
    refine go_getR K_R_goOnStatement rfl zf_12_25 ?_
    refine go_iload_n K_R_goOnStatement rfl rfl ?_
    obtain ⟨i23, h⟩ := zix_ex h
    refine go_iald K_R_goOnStatement rfl za_40 i23 ?_
    refine go_iload K_R_goOnStatement rfl rfl ?_
    obtain ⟨M24, h25, h⟩ := zbv_ex h
    refine go_vv (Y' := Y_R_setName) (av := [.inl (M1 40 l1.toNatClampNeg), .inl r3]) (rest := []) K_R_goOnStatement rfl zl_12_250 zm_R_setName rfl (G_R_setName h25) (Nat.le_of_ble_eq_true rfl) (Nat.le_of_ble_eq_true rfl) rfl ?_
    refine go_goto K_R_goOnStatement rfl ?_
    cases h
    exact go_return K_R_goOnStatement rfl rfl
def F_R_goOnStatement (N : Nat) (M : zMem) (l1 l2 : Int32) : Option (zMem) :=
  zix l1 400 (if (M 39 l1.toNatClampNeg) = (21 : Int32) then (if l2 = (1 : Int32) then (zbv (F_R_wait M l1 (2 : Int32)) fun M2 => zix l1 400 (zbv (F_R_wait M2 (M2 42 l1.toNatClampNeg) (0 : Int32)) fun M5 => some M5)) else (F_R_goOnStatement_p23 N M l1 (M 39 l1.toNatClampNeg))) else (F_R_goOnStatement_p23 N M l1 (M 39 l1.toNatClampNeg)))
set_option maxRecDepth 100000 in
theorem G_R_goOnStatement {N : Nat} {M : zMem} {l1 l2 : Int32} {y : zMem} (h : F_R_goOnStatement N M l1 l2 = some y) : zGo Y_R_goOnStatement 2 0 (zal Y_R_goOnStatement [.inr 34, .inl l1, .inl l2]) [] M none y := by
  unfold F_R_goOnStatement at h
  show zGo Y_R_goOnStatement 2 0 [some (.inr 34), some (.inl l1), some (.inl l2), none, none] [] M _ _
  refine go_aload_n K_R_goOnStatement rfl rfl ?_
  refine go_getR K_R_goOnStatement rfl zf_12_22 ?_
  refine go_iload_n K_R_goOnStatement rfl rfl ?_
  obtain ⟨i1, h⟩ := zix_ex h
  refine go_iald K_R_goOnStatement rfl za_39 i1 ?_
  refine go_istore_n K_R_goOnStatement rfl (Nat.le_of_ble_eq_true rfl) ?_
  refine go_iload_n K_R_goOnStatement rfl rfl ?_
  refine go_bipush K_R_goOnStatement rfl zk_bipush_21 ?_
  refine go_icmp_ne K_R_goOnStatement rfl (fun c => ?_) (fun c => ?_)
  · have h := zif_f c h
    exact go_forget (G_R_goOnStatement_p23 h) (zs_s (zs_s (zs_n (zs_s (zs_n zs_e)))))
  · have h := zif_t c h
    refine go_iload_n K_R_goOnStatement rfl rfl ?_
    refine go_iconst K_R_goOnStatement rfl zk_iconst_1 ?_
    refine go_icmp_ne K_R_goOnStatement rfl (fun c => ?_) (fun c => ?_)
    · have h := zif_f c h
      exact go_forget (G_R_goOnStatement_p23 h) (zs_s (zs_s (zs_n (zs_s (zs_n zs_e)))))
    · have h := zif_t c h
      refine go_aload_n K_R_goOnStatement rfl rfl ?_
      refine go_iload_n K_R_goOnStatement rfl rfl ?_
      refine go_iconst K_R_goOnStatement rfl zk_iconst_2 ?_
      obtain ⟨M2, h3, h⟩ := zbv_ex h
      refine go_vv (Y' := Y_R_wait) (av := [.inl l1, .inl (2 : Int32)]) (rest := []) K_R_goOnStatement rfl zl_12_228 zm_R_wait rfl (G_R_wait h3) (Nat.le_of_ble_eq_true rfl) (Nat.le_of_ble_eq_true rfl) rfl ?_
      refine go_aload_n K_R_goOnStatement rfl rfl ?_
      refine go_aload_n K_R_goOnStatement rfl rfl ?_
      refine go_getR K_R_goOnStatement rfl zf_12_31 ?_
      refine go_iload_n K_R_goOnStatement rfl rfl ?_
      obtain ⟨i4, h⟩ := zix_ex h
      refine go_iald K_R_goOnStatement rfl za_42 i4 ?_
      refine go_iconst K_R_goOnStatement rfl zk_iconst_0 ?_
      obtain ⟨M5, h6, h⟩ := zbv_ex h
      refine go_vv (Y' := Y_R_wait) (av := [.inl (M2 42 l1.toNatClampNeg), .inl (0 : Int32)]) (rest := []) K_R_goOnStatement rfl zl_12_228 zm_R_wait rfl (G_R_wait h6) (Nat.le_of_ble_eq_true rfl) (Nat.le_of_ble_eq_true rfl) rfl ?_
      cases h
      exact go_return K_R_goOnStatement rfl rfl
def F_R_goOn (N : Nat) (M : zMem) : Option (zMem) :=
  zset M 34 33 ((M 34 33) - (1 : Int32)) fun M1 => zix (M1 34 33) 3600 (zix (M1 34 33) 3600 (if (((M1 53 (M1 34 33).toNatClampNeg) / (8 : Int32)) - (1 : Int32)) = (499 : Int32) then (zset M1 34 38 ((M1 34 38) - (1 : Int32)) fun M20 => zbv (F_R_hold M20 (0 : Int32)) fun M22 => some M22) else (if ((M1 53 (M1 34 33).toNatClampNeg) - (M1 53 (M1 34 33).toNatClampNeg) / (8 : Int32) * (8 : Int32)) ≤ (5 : Int32) then (if ((M1 53 (M1 34 33).toNatClampNeg) - (M1 53 (M1 34 33).toNatClampNeg) / (8 : Int32) * (8 : Int32)) = 0 then (zbv (F_R_begin M1 (((M1 53 (M1 34 33).toNatClampNeg) / (8 : Int32)) - (1 : Int32))) fun M13 => some M13) else (zix (((M1 53 (M1 34 33).toNatClampNeg) / (8 : Int32)) - (1 : Int32)) 400 (zbi (F_R_isIn M1 (M1 39 (((M1 53 (M1 34 33).toNatClampNeg) / (8 : Int32)) - (1 : Int32)).toNatClampNeg) (20 : Int32) (27 : Int32)) fun r8 M6 => if r8 = 0 then (zbv (F_R_goOnExpression N M6 (((M1 53 (M1 34 33).toNatClampNeg) / (8 : Int32)) - (1 : Int32)) ((M1 53 (M1 34 33).toNatClampNeg) - (M1 53 (M1 34 33).toNatClampNeg) / (8 : Int32) * (8 : Int32))) fun M9 => some M9) else (zbv (F_R_goOnStatement N M6 (((M1 53 (M1 34 33).toNatClampNeg) / (8 : Int32)) - (1 : Int32)) ((M1 53 (M1 34 33).toNatClampNeg) - (M1 53 (M1 34 33).toNatClampNeg) / (8 : Int32) * (8 : Int32))) fun M11 => some M11)))) else (if (((M1 53 (M1 34 33).toNatClampNeg) / (8 : Int32)) - (1 : Int32)) < 0 then (some M1) else (zix (((M1 53 (M1 34 33).toNatClampNeg) / (8 : Int32)) - (1 : Int32)) 400 (zbv (F_R_wait M1 (M1 44 (((M1 53 (M1 34 33).toNatClampNeg) / (8 : Int32)) - (1 : Int32)).toNatClampNeg) ((M1 53 (M1 34 33).toNatClampNeg) - (M1 53 (M1 34 33).toNatClampNeg) / (8 : Int32) * (8 : Int32))) fun M16 => zbv (F_R_wait M16 (((M1 53 (M1 34 33).toNatClampNeg) / (8 : Int32)) - (1 : Int32)) (0 : Int32)) fun M18 => some M18))))))
set_option maxRecDepth 100000 in
theorem G_R_goOn {N : Nat} {M : zMem} {y : zMem} (h : F_R_goOn N M  = some y) : zGo Y_R_goOn 3 0 (zal Y_R_goOn [.inr 34]) [] M none y := by
  unfold F_R_goOn at h
  show zGo Y_R_goOn 3 0 [some (.inr 34), none, none] [] M _ _
  refine go_aload_n K_R_goOn rfl rfl ?_
  refine go_dup K_R_goOn rfl ?_
  refine go_getI K_R_goOn rfl zf_12_207 ?_
  refine go_iconst K_R_goOn rfl zk_iconst_1 ?_
  refine go_isub K_R_goOn rfl ?_
  obtain ⟨M1, e2, h⟩ := zset_ex h
  refine go_putI' e2 K_R_goOn rfl zf_12_207 ?_
  refine go_aload_n K_R_goOn rfl rfl ?_
  refine go_getR K_R_goOn rfl zf_12_64 ?_
  refine go_aload_n K_R_goOn rfl rfl ?_
  refine go_getI K_R_goOn rfl zf_12_207 ?_
  obtain ⟨i3, h⟩ := zix_ex h
  refine go_iald K_R_goOn rfl za_53 i3 ?_
  refine go_bipush K_R_goOn rfl zk_bipush_8 ?_
  refine go_idiv K_R_goOn rfl (by decide) ?_
  refine go_iconst K_R_goOn rfl zk_iconst_1 ?_
  refine go_isub K_R_goOn rfl ?_
  refine go_istore_n K_R_goOn rfl (Nat.le_of_ble_eq_true rfl) ?_
  refine go_aload_n K_R_goOn rfl rfl ?_
  refine go_getR K_R_goOn rfl zf_12_64 ?_
  refine go_aload_n K_R_goOn rfl rfl ?_
  refine go_getI K_R_goOn rfl zf_12_207 ?_
  obtain ⟨i4, h⟩ := zix_ex h
  refine go_iald K_R_goOn rfl za_53 i4 ?_
  refine go_bipush K_R_goOn rfl zk_bipush_8 ?_
  refine go_irem K_R_goOn rfl (by decide) ?_
  refine go_istore_n K_R_goOn rfl (Nat.le_of_ble_eq_true rfl) ?_
  refine go_iload_n K_R_goOn rfl rfl ?_
  refine go_sipush K_R_goOn rfl zk_sipush_499 ?_
  refine go_icmp_ne K_R_goOn rfl (fun c => ?_) (fun c => ?_)
  · have h := zif_f c h
    refine go_iload_n K_R_goOn rfl rfl ?_
    refine go_iconst K_R_goOn rfl zk_iconst_5 ?_
    refine go_icmp_le K_R_goOn rfl (fun c => ?_) (fun c => ?_)
    · have h := zif_t c h
      refine go_iload_n K_R_goOn rfl rfl ?_
      refine go_if_ne K_R_goOn rfl (fun c => ?_) (fun c => ?_)
      · have h := zif_f c h
        refine go_aload_n K_R_goOn rfl rfl ?_
        refine go_aload_n K_R_goOn rfl rfl ?_
        refine go_getR K_R_goOn rfl zf_12_22 ?_
        refine go_iload_n K_R_goOn rfl rfl ?_
        obtain ⟨i5, h⟩ := zix_ex h
        refine go_iald K_R_goOn rfl za_39 i5 ?_
        refine go_bipush K_R_goOn rfl zk_bipush_20 ?_
        refine go_bipush K_R_goOn rfl zk_bipush_27 ?_
        obtain ⟨r8, M6, h7, h⟩ := zbi_ex h
        refine go_vi (Y' := Y_R_isIn) (av := [.inl (M1 39 (((M1 53 (M1 34 33).toNatClampNeg) / (8 : Int32)) - (1 : Int32)).toNatClampNeg), .inl (20 : Int32), .inl (27 : Int32)]) (rest := []) K_R_goOn rfl zl_12_108 zm_R_isIn rfl (G_R_isIn h7) (Nat.le_of_ble_eq_true rfl) (Nat.le_of_ble_eq_true rfl) rfl ?_
        refine go_if_eq K_R_goOn rfl (fun c => ?_) (fun c => ?_)
        · have h := zif_t c h
          refine go_aload_n K_R_goOn rfl rfl ?_
          refine go_iload_n K_R_goOn rfl rfl ?_
          refine go_iload_n K_R_goOn rfl rfl ?_
          obtain ⟨M9, h10, h⟩ := zbv_ex h
          refine go_vv (Y' := Y_R_goOnExpression) (av := [.inl (((M1 53 (M1 34 33).toNatClampNeg) / (8 : Int32)) - (1 : Int32)), .inl ((M1 53 (M1 34 33).toNatClampNeg) - (M1 53 (M1 34 33).toNatClampNeg) / (8 : Int32) * (8 : Int32))]) (rest := []) K_R_goOn rfl zl_12_265 zm_R_goOnExpression rfl (G_R_goOnExpression h10) (Nat.le_of_ble_eq_true rfl) (Nat.le_of_ble_eq_true rfl) rfl ?_
          cases h
          exact go_return K_R_goOn rfl rfl
        · have h := zif_f c h
          refine go_aload_n K_R_goOn rfl rfl ?_
          refine go_iload_n K_R_goOn rfl rfl ?_
          refine go_iload_n K_R_goOn rfl rfl ?_
          obtain ⟨M11, h12, h⟩ := zbv_ex h
          refine go_vv (Y' := Y_R_goOnStatement) (av := [.inl (((M1 53 (M1 34 33).toNatClampNeg) / (8 : Int32)) - (1 : Int32)), .inl ((M1 53 (M1 34 33).toNatClampNeg) - (M1 53 (M1 34 33).toNatClampNeg) / (8 : Int32) * (8 : Int32))]) (rest := []) K_R_goOn rfl zl_12_262 zm_R_goOnStatement rfl (G_R_goOnStatement h12) (Nat.le_of_ble_eq_true rfl) (Nat.le_of_ble_eq_true rfl) rfl ?_
          refine go_goto K_R_goOn rfl ?_
          cases h
          exact go_return K_R_goOn rfl rfl
      · have h := zif_t c h
        refine go_aload_n K_R_goOn rfl rfl ?_
        refine go_iload_n K_R_goOn rfl rfl ?_
        obtain ⟨M13, h14, h⟩ := zbv_ex h
        refine go_vv (Y' := Y_R_begin) (av := [.inl (((M1 53 (M1 34 33).toNatClampNeg) / (8 : Int32)) - (1 : Int32))]) (rest := []) K_R_goOn rfl zl_12_259 zm_R_begin rfl (G_R_begin h14) (Nat.le_of_ble_eq_true rfl) (Nat.le_of_ble_eq_true rfl) rfl ?_
        refine go_goto K_R_goOn rfl ?_
        cases h
        exact go_return K_R_goOn rfl rfl
    · have h := zif_f c h
      refine go_iload_n K_R_goOn rfl rfl ?_
      refine go_if_lt K_R_goOn rfl (fun c => ?_) (fun c => ?_)
      · have h := zif_t c h
        cases h
        exact go_return K_R_goOn rfl rfl
      · have h := zif_f c h
        refine go_aload_n K_R_goOn rfl rfl ?_
        refine go_aload_n K_R_goOn rfl rfl ?_
        refine go_getR K_R_goOn rfl zf_12_37 ?_
        refine go_iload_n K_R_goOn rfl rfl ?_
        obtain ⟨i15, h⟩ := zix_ex h
        refine go_iald K_R_goOn rfl za_44 i15 ?_
        refine go_iload_n K_R_goOn rfl rfl ?_
        obtain ⟨M16, h17, h⟩ := zbv_ex h
        refine go_vv (Y' := Y_R_wait) (av := [.inl (M1 44 (((M1 53 (M1 34 33).toNatClampNeg) / (8 : Int32)) - (1 : Int32)).toNatClampNeg), .inl ((M1 53 (M1 34 33).toNatClampNeg) - (M1 53 (M1 34 33).toNatClampNeg) / (8 : Int32) * (8 : Int32))]) (rest := []) K_R_goOn rfl zl_12_228 zm_R_wait rfl (G_R_wait h17) (Nat.le_of_ble_eq_true rfl) (Nat.le_of_ble_eq_true rfl) rfl ?_
        refine go_aload_n K_R_goOn rfl rfl ?_
        refine go_iload_n K_R_goOn rfl rfl ?_
        refine go_iconst K_R_goOn rfl zk_iconst_0 ?_
        obtain ⟨M18, h19, h⟩ := zbv_ex h
        refine go_vv (Y' := Y_R_wait) (av := [.inl (((M1 53 (M1 34 33).toNatClampNeg) / (8 : Int32)) - (1 : Int32)), .inl (0 : Int32)]) (rest := []) K_R_goOn rfl zl_12_228 zm_R_wait rfl (G_R_wait h19) (Nat.le_of_ble_eq_true rfl) (Nat.le_of_ble_eq_true rfl) rfl ?_
        refine go_goto K_R_goOn rfl ?_
        cases h
        exact go_return K_R_goOn rfl rfl
  · have h := zif_t c h
    refine go_aload_n K_R_goOn rfl rfl ?_
    refine go_dup K_R_goOn rfl ?_
    refine go_getI K_R_goOn rfl zf_12_219 ?_
    refine go_iconst K_R_goOn rfl zk_iconst_1 ?_
    refine go_isub K_R_goOn rfl ?_
    obtain ⟨M20, e21, h⟩ := zset_ex h
    refine go_putI' e21 K_R_goOn rfl zf_12_219 ?_
    refine go_aload_n K_R_goOn rfl rfl ?_
    refine go_iconst K_R_goOn rfl zk_iconst_0 ?_
    obtain ⟨M22, h23, h⟩ := zbv_ex h
    refine go_vv (Y' := Y_R_hold) (av := [.inl (0 : Int32)]) (rest := []) K_R_goOn rfl zl_12_225 zm_R_hold rfl (G_R_hold h23) (Nat.le_of_ble_eq_true rfl) (Nat.le_of_ble_eq_true rfl) rfl ?_
    refine go_goto K_R_goOn rfl ?_
    cases h
    exact go_return K_R_goOn rfl rfl
def F_R_work_p86 (N : Nat) (M : zMem) (s1 : Int32) : Option (Int32 × zMem) :=
  zset M 34 45 s1 fun M1 => some ((1 : Int32), M1)
set_option maxRecDepth 100000 in
theorem G_R_work_p86 {N : Nat} {M : zMem} {s1 : Int32} {y : Int32 × zMem} (h : F_R_work_p86 N M s1 = some y) : zGo Y_R_work 6 86 [none, none] [.inl s1, .inr 34] M (some y.1) y.2 := by
  unfold F_R_work_p86 at h
  obtain ⟨M1, e2, h⟩ := zset_ex h
  refine go_putI' e2 K_R_work rfl zf_12_216 ?_
  refine go_iconst K_R_work rfl zk_iconst_1 ?_
  cases h
  exact go_zreturn K_R_work rfl rfl (Or.inr rfl)
def F_R_work_p77 (N : Nat) (M : zMem) : Option (Int32 × zMem) :=
  if (M 34 45) = (-4 : Int32) then (F_R_work_p86 N M ((0 : Int32))) else (F_R_work_p86 N M (M 34 45))
set_option maxRecDepth 100000 in
theorem G_R_work_p77 {N : Nat} {M : zMem} {y : Int32 × zMem} (h : F_R_work_p77 N M  = some y) : zGo Y_R_work 6 77 [some (.inr 34), none] [] M (some y.1) y.2 := by
  unfold F_R_work_p77 at h
  refine go_aload_n K_R_work rfl rfl ?_
  refine go_aload_n K_R_work rfl rfl ?_
  refine go_getI K_R_work rfl zf_12_216 ?_
  refine go_bipush K_R_work rfl zk_bipush_m4 ?_
  refine go_icmp_ne K_R_work rfl (fun c => ?_) (fun c => ?_)
  · have h := zif_f c h
    refine go_aload_n K_R_work rfl rfl ?_
    refine go_getI K_R_work rfl zf_12_216 ?_
    exact go_forget (G_R_work_p86 h) (zs_n (zs_n zs_e))
  · have h := zif_t c h
    refine go_iconst K_R_work rfl zk_iconst_0 ?_
    refine go_goto K_R_work rfl ?_
    exact go_forget (G_R_work_p86 h) (zs_n (zs_n zs_e))
def F_R_work_p67 (N : Nat) : Nat → zMem → Option (Int32 × zMem)
  | 0, _ => none
  | n + 1, M =>
    if (M 34 33) ≤ 0 then (F_R_work_p77 N M ) else (if (M 34 45) = (-4 : Int32) then (zbv (F_R_goOn N M ) fun M1 => F_R_work_p67 N n M1 ) else (F_R_work_p77 N M ))
set_option maxRecDepth 100000 in
theorem G_R_work_p67 {N : Nat} : ∀ (n : Nat) {M : zMem} {y : Int32 × zMem}, F_R_work_p67 N n M  = some y → zGo Y_R_work 6 67 [some (.inr 34), none] [] M (some y.1) y.2 := by
  intro n
  induction n with
  | zero =>
    intro M  y h
    unfold F_R_work_p67 at h
    cases h
  | succ n ih =>
    intro M  y h
    unfold F_R_work_p67 at h
    refine go_aload_n K_R_work rfl rfl ?_
    refine go_getI K_R_work rfl zf_12_207 ?_
    refine go_if_le K_R_work rfl (fun c => ?_) (fun c => ?_)
    · have h := zif_t c h
      exact go_forget (G_R_work_p77 h) (zs_s (zs_n zs_e))
    · have h := zif_f c h
      refine go_aload_n K_R_work rfl rfl ?_
      refine go_getI K_R_work rfl zf_12_216 ?_
      refine go_bipush K_R_work rfl zk_bipush_m4 ?_
      refine go_icmp_ne K_R_work rfl (fun c => ?_) (fun c => ?_)
      · have h := zif_f c h
        exact go_forget (G_R_work_p77 h) (zs_s (zs_n zs_e))
      · have h := zif_t c h
        refine go_aload_n K_R_work rfl rfl ?_
        obtain ⟨M1, h2, h⟩ := zbv_ex h
        refine go_vv (Y' := Y_R_goOn) (av := []) (rest := []) K_R_work rfl zl_12_268 zm_R_goOn rfl (G_R_goOn h2) (Nat.le_of_ble_eq_true rfl) (Nat.le_of_ble_eq_true rfl) rfl ?_
        refine go_goto K_R_work rfl ?_
        exact go_forget (ih h) (zs_s (zs_n zs_e))
def F_R_work_p8 (N : Nat) : Nat → zMem → Int32 → Option (Int32 × zMem)
  | 0, _, _ => none
  | n + 1, M, l1 =>
    if (16 : Int32) ≤ l1 then (zset M 34 33 ((0 : Int32)) fun M1 => zset M1 34 35 ((0 : Int32)) fun M3 => zset M3 34 38 ((0 : Int32)) fun M5 => zix ((0 : Int32)) 21 (zset M5 57 ((0 : Int32)).toNatClampNeg ((-1 : Int32)) fun M8 => zset M8 34 39 ((0 : Int32)) fun M10 => zset M10 34 40 ((0 : Int32)) fun M12 => zset M12 34 42 ((0 : Int32)) fun M14 => zset M14 34 45 ((-4 : Int32)) fun M16 => zix (M16 34 24) 400 (zbv (F_R_wait M16 (M16 41 (M16 34 24).toNatClampNeg) (7 : Int32)) fun M19 => F_R_work_p67 N N M19 ))) else (zix l1 16 (zix l1 16 (zset M 60 l1.toNatClampNeg (M 37 l1.toNatClampNeg) fun M23 => zix (l1 &&& (7 : Int32)) 8 (zix (l1 &&& (7 : Int32)) 8 (zset M23 59 (l1 &&& (7 : Int32)).toNatClampNeg (M23 36 (l1 &&& (7 : Int32)).toNatClampNeg) fun M27 => F_R_work_p8 N n M27 (l1 + (1 : Int32)))))))
set_option maxRecDepth 100000 in
theorem G_R_work_p8 {N : Nat} : ∀ (n : Nat) {M : zMem} {l1 : Int32} {y : Int32 × zMem}, F_R_work_p8 N n M l1 = some y → zGo Y_R_work 6 8 [some (.inr 34), some (.inl l1)] [] M (some y.1) y.2 := by
  intro n
  induction n with
  | zero =>
    intro M l1 y h
    unfold F_R_work_p8 at h
    cases h
  | succ n ih =>
    intro M l1 y h
    unfold F_R_work_p8 at h
    refine go_iload_n K_R_work rfl rfl ?_
    refine go_bipush K_R_work rfl zk_bipush_16 ?_
    refine go_icmp_ge K_R_work rfl (fun c => ?_) (fun c => ?_)
    · have h := zif_t c h
      refine go_aload_n K_R_work rfl rfl ?_
      refine go_iconst K_R_work rfl zk_iconst_0 ?_
      obtain ⟨M1, e2, h⟩ := zset_ex h
      refine go_putI' e2 K_R_work rfl zf_12_207 ?_
      refine go_aload_n K_R_work rfl rfl ?_
      refine go_iconst K_R_work rfl zk_iconst_0 ?_
      obtain ⟨M3, e4, h⟩ := zset_ex h
      refine go_putI' e4 K_R_work rfl zf_12_210 ?_
      refine go_aload_n K_R_work rfl rfl ?_
      refine go_iconst K_R_work rfl zk_iconst_0 ?_
      obtain ⟨M5, e6, h⟩ := zset_ex h
      refine go_putI' e6 K_R_work rfl zf_12_219 ?_
      refine go_aload_n K_R_work rfl rfl ?_
      refine go_getR K_R_work rfl zf_12_76 ?_
      refine go_iconst K_R_work rfl zk_iconst_0 ?_
      refine go_iconst K_R_work rfl zk_iconst_m1 ?_
      obtain ⟨i7, h⟩ := zix_ex h
      obtain ⟨M8, e9, h⟩ := zset_ex h
      refine go_iast' e9 K_R_work rfl za_57 i7 ?_
      refine go_aload_n K_R_work rfl rfl ?_
      refine go_iconst K_R_work rfl zk_iconst_0 ?_
      obtain ⟨M10, e11, h⟩ := zset_ex h
      refine go_putI' e11 K_R_work rfl zf_12_235 ?_
      refine go_aload_n K_R_work rfl rfl ?_
      refine go_iconst K_R_work rfl zk_iconst_0 ?_
      obtain ⟨M12, e13, h⟩ := zset_ex h
      refine go_putI' e13 K_R_work rfl zf_12_213 ?_
      refine go_aload_n K_R_work rfl rfl ?_
      refine go_iconst K_R_work rfl zk_iconst_0 ?_
      obtain ⟨M14, e15, h⟩ := zset_ex h
      refine go_putI' e15 K_R_work rfl zf_12_247 ?_
      refine go_aload_n K_R_work rfl rfl ?_
      refine go_bipush K_R_work rfl zk_bipush_m4 ?_
      obtain ⟨M16, e17, h⟩ := zset_ex h
      refine go_putI' e17 K_R_work rfl zf_12_216 ?_
      refine go_aload_n K_R_work rfl rfl ?_
      refine go_aload_n K_R_work rfl rfl ?_
      refine go_getR K_R_work rfl zf_12_28 ?_
      refine go_aload_n K_R_work rfl rfl ?_
      refine go_getI K_R_work rfl zf_12_157 ?_
      obtain ⟨i18, h⟩ := zix_ex h
      refine go_iald K_R_work rfl za_41 i18 ?_
      refine go_bipush K_R_work rfl zk_bipush_7 ?_
      obtain ⟨M19, h20, h⟩ := zbv_ex h
      refine go_vv (Y' := Y_R_wait) (av := [.inl (M16 41 (M16 34 24).toNatClampNeg), .inl (7 : Int32)]) (rest := []) K_R_work rfl zl_12_228 zm_R_wait rfl (G_R_wait h20) (Nat.le_of_ble_eq_true rfl) (Nat.le_of_ble_eq_true rfl) rfl ?_
      exact go_forget (G_R_work_p67 _ h) (zs_s (zs_n zs_e))
    · have h := zif_f c h
      refine go_aload_n K_R_work rfl rfl ?_
      refine go_getR K_R_work rfl zf_12_85 ?_
      refine go_iload_n K_R_work rfl rfl ?_
      refine go_aload_n K_R_work rfl rfl ?_
      refine go_getR K_R_work rfl zf_12_16 ?_
      refine go_iload_n K_R_work rfl rfl ?_
      obtain ⟨i21, h⟩ := zix_ex h
      refine go_iald K_R_work rfl za_37 i21 ?_
      obtain ⟨i22, h⟩ := zix_ex h
      obtain ⟨M23, e24, h⟩ := zset_ex h
      refine go_iast' e24 K_R_work rfl za_60 i22 ?_
      refine go_aload_n K_R_work rfl rfl ?_
      refine go_getR K_R_work rfl zf_12_82 ?_
      refine go_iload_n K_R_work rfl rfl ?_
      refine go_bipush K_R_work rfl zk_bipush_7 ?_
      refine go_iand K_R_work rfl ?_
      refine go_aload_n K_R_work rfl rfl ?_
      refine go_getR K_R_work rfl zf_12_13 ?_
      refine go_iload_n K_R_work rfl rfl ?_
      refine go_bipush K_R_work rfl zk_bipush_7 ?_
      refine go_iand K_R_work rfl ?_
      obtain ⟨i25, h⟩ := zix_ex h
      refine go_iald K_R_work rfl za_36 i25 ?_
      obtain ⟨i26, h⟩ := zix_ex h
      obtain ⟨M27, e28, h⟩ := zset_ex h
      refine go_iast' e28 K_R_work rfl za_59 i26 ?_
      refine go_iinc (v := l1 + (1 : Int32)) K_R_work rfl rfl zinc_1 ?_
      refine go_goto K_R_work rfl ?_
      exact go_forget (ih h) (zs_s (zs_s zs_e))
def F_R_work (N : Nat) (M : zMem) : Option (Int32 × zMem) :=
  zbi (F_R_findFault N M ) fun r3 M1 => if r3 = (-4 : Int32) then (F_R_work_p8 N N M1 ((0 : Int32))) else (some ((0 : Int32), M1))
set_option maxRecDepth 100000 in
theorem G_R_work {N : Nat} {M : zMem} {y : Int32 × zMem} (h : F_R_work N M  = some y) : zGo Y_R_work 6 0 (zal Y_R_work [.inr 34]) [] M (some y.1) y.2 := by
  unfold F_R_work at h
  show zGo Y_R_work 6 0 [some (.inr 34), none] [] M _ _
  refine go_aload_n K_R_work rfl rfl ?_
  obtain ⟨r3, M1, h2, h⟩ := zbi_ex h
  refine go_vi (Y' := Y_R_findFault) (av := []) (rest := []) K_R_work rfl zl_12_204 zm_R_findFault rfl (G_R_findFault h2) (Nat.le_of_ble_eq_true rfl) (Nat.le_of_ble_eq_true rfl) rfl ?_
  refine go_bipush K_R_work rfl zk_bipush_m4 ?_
  refine go_icmp_eq K_R_work rfl (fun c => ?_) (fun c => ?_)
  · have h := zif_t c h
    refine go_iconst K_R_work rfl zk_iconst_0 ?_
    refine go_istore_n K_R_work rfl (Nat.le_of_ble_eq_true rfl) ?_
    exact go_forget (G_R_work_p8 _ h) (zs_s (zs_s zs_e))
  · have h := zif_f c h
    refine go_iconst K_R_work rfl zk_iconst_0 ?_
    cases h
    exact go_zreturn K_R_work rfl rfl (Or.inl rfl)
def F_R_cellAfter (N : Nat) (M : zMem) (l1 : Int32) : Option (Int32 × zMem) :=
  zbi (F_R_work N M ) fun r3 M1 => if r3 = 0 then (some ((0 : Int32), M1)) else (if l1 < 0 then (some ((0 : Int32), M1)) else (if (15 : Int32) < l1 then (some ((0 : Int32), M1)) else (zix l1 16 (some (M1 60 l1.toNatClampNeg, M1)))))
set_option maxRecDepth 100000 in
theorem G_R_cellAfter {N : Nat} {M : zMem} {l1 : Int32} {y : Int32 × zMem} (h : F_R_cellAfter N M l1 = some y) : zGo Y_R_cellAfter 7 0 (zal Y_R_cellAfter [.inr 34, .inl l1]) [] M (some y.1) y.2 := by
  unfold F_R_cellAfter at h
  show zGo Y_R_cellAfter 7 0 [some (.inr 34), some (.inl l1)] [] M _ _
  refine go_aload_n K_R_cellAfter rfl rfl ?_
  obtain ⟨r3, M1, h2, h⟩ := zbi_ex h
  refine go_vi (Y' := Y_R_work) (av := []) (rest := []) K_R_cellAfter rfl zl_12_271 zm_R_work rfl (G_R_work h2) (Nat.le_of_ble_eq_true rfl) (Nat.le_of_ble_eq_true rfl) rfl ?_
  refine go_if_eq K_R_cellAfter rfl (fun c => ?_) (fun c => ?_)
  · have h := zif_t c h
    refine go_iconst K_R_cellAfter rfl zk_iconst_0 ?_
    cases h
    exact go_ireturn K_R_cellAfter rfl rfl
  · have h := zif_f c h
    refine go_iload_n K_R_cellAfter rfl rfl ?_
    refine go_if_lt K_R_cellAfter rfl (fun c => ?_) (fun c => ?_)
    · have h := zif_t c h
      refine go_iconst K_R_cellAfter rfl zk_iconst_0 ?_
      cases h
      exact go_ireturn K_R_cellAfter rfl rfl
    · have h := zif_f c h
      refine go_iload_n K_R_cellAfter rfl rfl ?_
      refine go_bipush K_R_cellAfter rfl zk_bipush_15 ?_
      refine go_icmp_gt K_R_cellAfter rfl (fun c => ?_) (fun c => ?_)
      · have h := zif_t c h
        refine go_iconst K_R_cellAfter rfl zk_iconst_0 ?_
        cases h
        exact go_ireturn K_R_cellAfter rfl rfl
      · have h := zif_f c h
        refine go_aload_n K_R_cellAfter rfl rfl ?_
        refine go_getR K_R_cellAfter rfl zf_12_85 ?_
        refine go_iload_n K_R_cellAfter rfl rfl ?_
        obtain ⟨i4, h⟩ := zix_ex h
        refine go_iald K_R_cellAfter rfl za_60 i4 ?_
        refine go_goto K_R_cellAfter rfl ?_
        cases h
        exact go_ireturn K_R_cellAfter rfl rfl
def F_R_clear (M : zMem) : Option (zMem) :=
  zset M 34 1 ((0 : Int32)) fun M1 => some M1
set_option maxRecDepth 100000 in
theorem G_R_clear {M : zMem} {y : zMem} (h : F_R_clear M  = some y) : zGo Y_R_clear 0 0 (zal Y_R_clear [.inr 34]) [] M none y := by
  unfold F_R_clear at h
  show zGo Y_R_clear 0 0 [some (.inr 34)] [] M _ _
  refine go_aload_n K_R_clear rfl rfl ?_
  refine go_iconst K_R_clear rfl zk_iconst_0 ?_
  obtain ⟨M1, e2, h⟩ := zset_ex h
  refine go_putI' e2 K_R_clear rfl zf_12_92 ?_
  cases h
  exact go_return K_R_clear rfl rfl
def F_R_deepest (N : Nat) (M : zMem) : Option (Int32 × zMem) :=
  zbi (F_R_work N M ) fun r3 M1 => if r3 = 0 then (some ((-5 : Int32), M1)) else (some (M1 34 39, M1))
set_option maxRecDepth 100000 in
theorem G_R_deepest {N : Nat} {M : zMem} {y : Int32 × zMem} (h : F_R_deepest N M  = some y) : zGo Y_R_deepest 7 0 (zal Y_R_deepest [.inr 34]) [] M (some y.1) y.2 := by
  unfold F_R_deepest at h
  show zGo Y_R_deepest 7 0 [some (.inr 34)] [] M _ _
  refine go_aload_n K_R_deepest rfl rfl ?_
  obtain ⟨r3, M1, h2, h⟩ := zbi_ex h
  refine go_vi (Y' := Y_R_work) (av := []) (rest := []) K_R_deepest rfl zl_12_271 zm_R_work rfl (G_R_work h2) (Nat.le_of_ble_eq_true rfl) (Nat.le_of_ble_eq_true rfl) rfl ?_
  refine go_if_eq K_R_deepest rfl (fun c => ?_) (fun c => ?_)
  · have h := zif_t c h
    refine go_bipush K_R_deepest rfl zk_bipush_m5 ?_
    cases h
    exact go_ireturn K_R_deepest rfl rfl
  · have h := zif_f c h
    refine go_aload_n K_R_deepest rfl rfl ?_
    refine go_getI K_R_deepest rfl zf_12_235 ?_
    refine go_goto K_R_deepest rfl ?_
    cases h
    exact go_ireturn K_R_deepest rfl rfl
def F_R_emit (M : zMem) (l1 : Int32) : Option (zMem) :=
  zix (M 34 30) 160 (zset M 52 (M 34 30).toNatClampNeg l1 fun M2 => zset M2 34 30 ((M2 34 30) + (1 : Int32)) fun M4 => some M4)
set_option maxRecDepth 100000 in
theorem G_R_emit {M : zMem} {l1 : Int32} {y : zMem} (h : F_R_emit M l1 = some y) : zGo Y_R_emit 0 0 (zal Y_R_emit [.inr 34, .inl l1]) [] M none y := by
  unfold F_R_emit at h
  show zGo Y_R_emit 0 0 [some (.inr 34), some (.inl l1)] [] M _ _
  refine go_aload_n K_R_emit rfl rfl ?_
  refine go_getR K_R_emit rfl zf_12_61 ?_
  refine go_aload_n K_R_emit rfl rfl ?_
  refine go_getI K_R_emit rfl zf_12_274 ?_
  refine go_iload_n K_R_emit rfl rfl ?_
  obtain ⟨i1, h⟩ := zix_ex h
  obtain ⟨M2, e3, h⟩ := zset_ex h
  refine go_iast' e3 K_R_emit rfl za_52 i1 ?_
  refine go_aload_n K_R_emit rfl rfl ?_
  refine go_dup K_R_emit rfl ?_
  refine go_getI K_R_emit rfl zf_12_274 ?_
  refine go_iconst K_R_emit rfl zk_iconst_1 ?_
  refine go_iadd K_R_emit rfl ?_
  obtain ⟨M4, e5, h⟩ := zset_ex h
  refine go_putI' e5 K_R_emit rfl zf_12_274 ?_
  cases h
  exact go_return K_R_emit rfl rfl
def F_R_expression (M : zMem) (l1 l2 : Int32) : Option (Int32 × zMem) :=
  some (((1000 : Int32) + ((4 : Int32) * l1)) + l2, M)
set_option maxRecDepth 100000 in
theorem G_R_expression {M : zMem} {l1 l2 : Int32} {y : Int32 × zMem} (h : F_R_expression M l1 l2 = some y) : zGo Y_R_expression 0 0 (zal Y_R_expression [.inr 34, .inl l1, .inl l2]) [] M (some y.1) y.2 := by
  unfold F_R_expression at h
  show zGo Y_R_expression 0 0 [some (.inr 34), some (.inl l1), some (.inl l2)] [] M _ _
  refine go_sipush K_R_expression rfl zk_sipush_1000 ?_
  refine go_iconst K_R_expression rfl zk_iconst_4 ?_
  refine go_iload_n K_R_expression rfl rfl ?_
  refine go_imul K_R_expression rfl ?_
  refine go_iadd K_R_expression rfl ?_
  refine go_iload_n K_R_expression rfl rfl ?_
  refine go_iadd K_R_expression rfl ?_
  cases h
  exact go_ireturn K_R_expression rfl rfl
def F_R_fault (N : Nat) (M : zMem) : Option (Int32 × zMem) :=
  zbi (F_R_findFault N M ) fun r3 M1 => some (r3, M1)
set_option maxRecDepth 100000 in
theorem G_R_fault {N : Nat} {M : zMem} {y : Int32 × zMem} (h : F_R_fault N M  = some y) : zGo Y_R_fault 6 0 (zal Y_R_fault [.inr 34]) [] M (some y.1) y.2 := by
  unfold F_R_fault at h
  show zGo Y_R_fault 6 0 [some (.inr 34)] [] M _ _
  refine go_aload_n K_R_fault rfl rfl ?_
  obtain ⟨r3, M1, h2, h⟩ := zbi_ex h
  refine go_vi (Y' := Y_R_findFault) (av := []) (rest := []) K_R_fault rfl zl_12_204 zm_R_findFault rfl (G_R_findFault h2) (Nat.le_of_ble_eq_true rfl) (Nat.le_of_ble_eq_true rfl) rfl ?_
  cases h
  exact go_ireturn K_R_fault rfl rfl
def F_R_isToken_p35 (M : zMem) (l1 : Int32) : Option (Int32 × zMem) :=
  if l1 < (160 : Int32) then (some ((0 : Int32), M)) else (if (173 : Int32) < l1 then (some ((0 : Int32), M)) else (some ((1 : Int32), M)))
set_option maxRecDepth 100000 in
theorem G_R_isToken_p35 {M : zMem} {l1 : Int32} {y : Int32 × zMem} (h : F_R_isToken_p35 M l1 = some y) : zGo Y_R_isToken 0 35 [none, some (.inl l1)] [] M (some y.1) y.2 := by
  unfold F_R_isToken_p35 at h
  refine go_iload_n K_R_isToken rfl rfl ?_
  refine go_sipush K_R_isToken rfl zk_sipush_160 ?_
  refine go_icmp_lt K_R_isToken rfl (fun c => ?_) (fun c => ?_)
  · have h := zif_t c h
    refine go_iconst K_R_isToken rfl zk_iconst_0 ?_
    cases h
    exact go_zreturn K_R_isToken rfl rfl (Or.inl rfl)
  · have h := zif_f c h
    refine go_iload_n K_R_isToken rfl rfl ?_
    refine go_sipush K_R_isToken rfl zk_sipush_173 ?_
    refine go_icmp_gt K_R_isToken rfl (fun c => ?_) (fun c => ?_)
    · have h := zif_t c h
      refine go_iconst K_R_isToken rfl zk_iconst_0 ?_
      cases h
      exact go_zreturn K_R_isToken rfl rfl (Or.inl rfl)
    · have h := zif_f c h
      refine go_iconst K_R_isToken rfl zk_iconst_1 ?_
      refine go_goto K_R_isToken rfl ?_
      cases h
      exact go_zreturn K_R_isToken rfl rfl (Or.inr rfl)
def F_R_isToken_p29 (M : zMem) (l1 : Int32) : Option (Int32 × zMem) :=
  if l1 < (150 : Int32) then (F_R_isToken_p35 M l1) else (if l1 ≤ (152 : Int32) then (some ((1 : Int32), M)) else (F_R_isToken_p35 M l1))
set_option maxRecDepth 100000 in
theorem G_R_isToken_p29 {M : zMem} {l1 : Int32} {y : Int32 × zMem} (h : F_R_isToken_p29 M l1 = some y) : zGo Y_R_isToken 0 29 [none, some (.inl l1)] [] M (some y.1) y.2 := by
  unfold F_R_isToken_p29 at h
  refine go_iload_n K_R_isToken rfl rfl ?_
  refine go_sipush K_R_isToken rfl zk_sipush_150 ?_
  refine go_icmp_lt K_R_isToken rfl (fun c => ?_) (fun c => ?_)
  · have h := zif_t c h
    exact go_forget (G_R_isToken_p35 h) (zs_n (zs_s zs_e))
  · have h := zif_f c h
    refine go_iload_n K_R_isToken rfl rfl ?_
    refine go_sipush K_R_isToken rfl zk_sipush_152 ?_
    refine go_icmp_le K_R_isToken rfl (fun c => ?_) (fun c => ?_)
    · have h := zif_t c h
      refine go_iconst K_R_isToken rfl zk_iconst_1 ?_
      refine go_goto K_R_isToken rfl ?_
      cases h
      exact go_zreturn K_R_isToken rfl rfl (Or.inr rfl)
    · have h := zif_f c h
      exact go_forget (G_R_isToken_p35 h) (zs_n (zs_s zs_e))
def F_R_isToken_p23 (M : zMem) (l1 : Int32) : Option (Int32 × zMem) :=
  if l1 < (140 : Int32) then (F_R_isToken_p29 M l1) else (if l1 ≤ (145 : Int32) then (some ((1 : Int32), M)) else (F_R_isToken_p29 M l1))
set_option maxRecDepth 100000 in
theorem G_R_isToken_p23 {M : zMem} {l1 : Int32} {y : Int32 × zMem} (h : F_R_isToken_p23 M l1 = some y) : zGo Y_R_isToken 0 23 [none, some (.inl l1)] [] M (some y.1) y.2 := by
  unfold F_R_isToken_p23 at h
  refine go_iload_n K_R_isToken rfl rfl ?_
  refine go_sipush K_R_isToken rfl zk_sipush_140 ?_
  refine go_icmp_lt K_R_isToken rfl (fun c => ?_) (fun c => ?_)
  · have h := zif_t c h
    exact go_forget (G_R_isToken_p29 h) (zs_n (zs_s zs_e))
  · have h := zif_f c h
    refine go_iload_n K_R_isToken rfl rfl ?_
    refine go_sipush K_R_isToken rfl zk_sipush_145 ?_
    refine go_icmp_le K_R_isToken rfl (fun c => ?_) (fun c => ?_)
    · have h := zif_t c h
      refine go_iconst K_R_isToken rfl zk_iconst_1 ?_
      refine go_goto K_R_isToken rfl ?_
      cases h
      exact go_zreturn K_R_isToken rfl rfl (Or.inr rfl)
    · have h := zif_f c h
      exact go_forget (G_R_isToken_p29 h) (zs_n (zs_s zs_e))
def F_R_isToken_p17 (M : zMem) (l1 : Int32) : Option (Int32 × zMem) :=
  if l1 < (130 : Int32) then (F_R_isToken_p23 M l1) else (if l1 ≤ (134 : Int32) then (some ((1 : Int32), M)) else (F_R_isToken_p23 M l1))
set_option maxRecDepth 100000 in
theorem G_R_isToken_p17 {M : zMem} {l1 : Int32} {y : Int32 × zMem} (h : F_R_isToken_p17 M l1 = some y) : zGo Y_R_isToken 0 17 [none, some (.inl l1)] [] M (some y.1) y.2 := by
  unfold F_R_isToken_p17 at h
  refine go_iload_n K_R_isToken rfl rfl ?_
  refine go_sipush K_R_isToken rfl zk_sipush_130 ?_
  refine go_icmp_lt K_R_isToken rfl (fun c => ?_) (fun c => ?_)
  · have h := zif_t c h
    exact go_forget (G_R_isToken_p23 h) (zs_n (zs_s zs_e))
  · have h := zif_f c h
    refine go_iload_n K_R_isToken rfl rfl ?_
    refine go_sipush K_R_isToken rfl zk_sipush_134 ?_
    refine go_icmp_le K_R_isToken rfl (fun c => ?_) (fun c => ?_)
    · have h := zif_t c h
      refine go_iconst K_R_isToken rfl zk_iconst_1 ?_
      refine go_goto K_R_isToken rfl ?_
      cases h
      exact go_zreturn K_R_isToken rfl rfl (Or.inr rfl)
    · have h := zif_f c h
      exact go_forget (G_R_isToken_p23 h) (zs_n (zs_s zs_e))
def F_R_isToken_p11 (M : zMem) (l1 : Int32) : Option (Int32 × zMem) :=
  if l1 < (120 : Int32) then (F_R_isToken_p17 M l1) else (if l1 ≤ (126 : Int32) then (some ((1 : Int32), M)) else (F_R_isToken_p17 M l1))
set_option maxRecDepth 100000 in
theorem G_R_isToken_p11 {M : zMem} {l1 : Int32} {y : Int32 × zMem} (h : F_R_isToken_p11 M l1 = some y) : zGo Y_R_isToken 0 11 [none, some (.inl l1)] [] M (some y.1) y.2 := by
  unfold F_R_isToken_p11 at h
  refine go_iload_n K_R_isToken rfl rfl ?_
  refine go_bipush K_R_isToken rfl zk_bipush_120 ?_
  refine go_icmp_lt K_R_isToken rfl (fun c => ?_) (fun c => ?_)
  · have h := zif_t c h
    exact go_forget (G_R_isToken_p17 h) (zs_n (zs_s zs_e))
  · have h := zif_f c h
    refine go_iload_n K_R_isToken rfl rfl ?_
    refine go_bipush K_R_isToken rfl zk_bipush_126 ?_
    refine go_icmp_le K_R_isToken rfl (fun c => ?_) (fun c => ?_)
    · have h := zif_t c h
      refine go_iconst K_R_isToken rfl zk_iconst_1 ?_
      refine go_goto K_R_isToken rfl ?_
      cases h
      exact go_zreturn K_R_isToken rfl rfl (Or.inr rfl)
    · have h := zif_f c h
      exact go_forget (G_R_isToken_p17 h) (zs_n (zs_s zs_e))
def F_R_isToken_p5 (M : zMem) (l1 : Int32) : Option (Int32 × zMem) :=
  if l1 < (110 : Int32) then (F_R_isToken_p11 M l1) else (if l1 ≤ (113 : Int32) then (some ((1 : Int32), M)) else (F_R_isToken_p11 M l1))
set_option maxRecDepth 100000 in
theorem G_R_isToken_p5 {M : zMem} {l1 : Int32} {y : Int32 × zMem} (h : F_R_isToken_p5 M l1 = some y) : zGo Y_R_isToken 0 5 [none, some (.inl l1)] [] M (some y.1) y.2 := by
  unfold F_R_isToken_p5 at h
  refine go_iload_n K_R_isToken rfl rfl ?_
  refine go_bipush K_R_isToken rfl zk_bipush_110 ?_
  refine go_icmp_lt K_R_isToken rfl (fun c => ?_) (fun c => ?_)
  · have h := zif_t c h
    exact go_forget (G_R_isToken_p11 h) (zs_n (zs_s zs_e))
  · have h := zif_f c h
    refine go_iload_n K_R_isToken rfl rfl ?_
    refine go_bipush K_R_isToken rfl zk_bipush_113 ?_
    refine go_icmp_le K_R_isToken rfl (fun c => ?_) (fun c => ?_)
    · have h := zif_t c h
      refine go_iconst K_R_isToken rfl zk_iconst_1 ?_
      refine go_goto K_R_isToken rfl ?_
      cases h
      exact go_zreturn K_R_isToken rfl rfl (Or.inr rfl)
    · have h := zif_f c h
      exact go_forget (G_R_isToken_p11 h) (zs_n (zs_s zs_e))
def F_R_isToken (M : zMem) (l1 : Int32) : Option (Int32 × zMem) :=
  if l1 < 0 then (F_R_isToken_p5 M l1) else (if l1 ≤ (108 : Int32) then (some ((1 : Int32), M)) else (F_R_isToken_p5 M l1))
set_option maxRecDepth 100000 in
theorem G_R_isToken {M : zMem} {l1 : Int32} {y : Int32 × zMem} (h : F_R_isToken M l1 = some y) : zGo Y_R_isToken 0 0 (zal Y_R_isToken [.inr 34, .inl l1]) [] M (some y.1) y.2 := by
  unfold F_R_isToken at h
  show zGo Y_R_isToken 0 0 [some (.inr 34), some (.inl l1)] [] M _ _
  refine go_iload_n K_R_isToken rfl rfl ?_
  refine go_if_lt K_R_isToken rfl (fun c => ?_) (fun c => ?_)
  · have h := zif_t c h
    exact go_forget (G_R_isToken_p5 h) (zs_n (zs_s zs_e))
  · have h := zif_f c h
    refine go_iload_n K_R_isToken rfl rfl ?_
    refine go_bipush K_R_isToken rfl zk_bipush_108 ?_
    refine go_icmp_le K_R_isToken rfl (fun c => ?_) (fun c => ?_)
    · have h := zif_t c h
      refine go_iconst K_R_isToken rfl zk_iconst_1 ?_
      refine go_goto K_R_isToken rfl ?_
      cases h
      exact go_zreturn K_R_isToken rfl rfl (Or.inr rfl)
    · have h := zif_f c h
      exact go_forget (G_R_isToken_p5 h) (zs_n (zs_s zs_e))
def F_R_four_p87 (N : Nat) (rec53 : zMem → Int32 → Int32 → Int32 → Int32 → Int32 → Option (Int32 × zMem)) (M : zMem) (l1 l2 l3 l4 l6 : Int32) : Option (Int32 × zMem) :=
  rec53 M l1 l2 l3 l4 (l6 + (1 : Int32))
set_option maxRecDepth 100000 in
theorem G_R_four_p87 {N : Nat} {rec53 : zMem → Int32 → Int32 → Int32 → Int32 → Int32 → Option (Int32 × zMem)} (hrec53 : ∀ {M : zMem} {l1 l2 l3 l4 l6 : Int32} {y : Int32 × zMem}, rec53 M l1 l2 l3 l4 l6 = some y → zGo Y_R_four 1 53 [some (.inr 34), some (.inl l1), some (.inl l2), some (.inl l3), some (.inl l4), none, some (.inl l6), none] [] M (some y.1) y.2) {M : zMem} {l1 l2 l3 l4 l6 : Int32} {y : Int32 × zMem} (h : F_R_four_p87 N rec53 M l1 l2 l3 l4 l6 = some y) : zGo Y_R_four 1 87 [some (.inr 34), some (.inl l1), some (.inl l2), some (.inl l3), some (.inl l4), none, some (.inl l6), none] [] M (some y.1) y.2 := by
  unfold F_R_four_p87 at h
  refine go_iinc (v := l6 + (1 : Int32)) K_R_four rfl rfl zinc_1 ?_
  refine go_goto K_R_four rfl ?_
  exact go_forget (hrec53 h) (zs_s (zs_s (zs_s (zs_s (zs_s (zs_n (zs_s (zs_n zs_e))))))))
def F_R_four_p71 (N : Nat) (rec53 : zMem → Int32 → Int32 → Int32 → Int32 → Int32 → Option (Int32 × zMem)) (M : zMem) (l1 l2 l3 l4 l6 s0 : Int32) : Option (Int32 × zMem) :=
  if s0 = (-1 : Int32) then (F_R_four_p87 N rec53 M l1 l2 l3 l4 l6) else (zix (M 34 1) 150 (zset M 35 (M 34 1).toNatClampNeg s0 fun M2 => zset M2 34 1 ((M2 34 1) + (1 : Int32)) fun M4 => F_R_four_p87 N rec53 M4 l1 l2 l3 l4 l6))
set_option maxRecDepth 100000 in
theorem G_R_four_p71 {N : Nat} {rec53 : zMem → Int32 → Int32 → Int32 → Int32 → Int32 → Option (Int32 × zMem)} (hrec53 : ∀ {M : zMem} {l1 l2 l3 l4 l6 : Int32} {y : Int32 × zMem}, rec53 M l1 l2 l3 l4 l6 = some y → zGo Y_R_four 1 53 [some (.inr 34), some (.inl l1), some (.inl l2), some (.inl l3), some (.inl l4), none, some (.inl l6), none] [] M (some y.1) y.2) {M : zMem} {l1 l2 l3 l4 l6 s0 : Int32} {y : Int32 × zMem} (h : F_R_four_p71 N rec53 M l1 l2 l3 l4 l6 s0 = some y) : zGo Y_R_four 1 71 [some (.inr 34), some (.inl l1), some (.inl l2), some (.inl l3), some (.inl l4), none, some (.inl l6), none] [.inl s0] M (some y.1) y.2 := by
  unfold F_R_four_p71 at h
  refine go_istore K_R_four rfl (Nat.le_of_ble_eq_true rfl) ?_
  refine go_iload K_R_four rfl rfl ?_
  refine go_iconst K_R_four rfl zk_iconst_m1 ?_
  refine go_icmp_eq K_R_four rfl (fun c => ?_) (fun c => ?_)
  · have h := zif_t c h
    exact go_forget (G_R_four_p87 hrec53 h) (zs_s (zs_s (zs_s (zs_s (zs_s (zs_n (zs_s (zs_n zs_e))))))))
  · have h := zif_f c h
    refine go_aload_n K_R_four rfl rfl ?_
    refine go_getR K_R_four rfl zf_12_7 ?_
    refine go_aload_n K_R_four rfl rfl ?_
    refine go_getI K_R_four rfl zf_12_92 ?_
    refine go_iload K_R_four rfl rfl ?_
    obtain ⟨i1, h⟩ := zix_ex h
    obtain ⟨M2, e3, h⟩ := zset_ex h
    refine go_iast' e3 K_R_four rfl za_35 i1 ?_
    refine go_aload_n K_R_four rfl rfl ?_
    refine go_dup K_R_four rfl ?_
    refine go_getI K_R_four rfl zf_12_92 ?_
    refine go_iconst K_R_four rfl zk_iconst_1 ?_
    refine go_iadd K_R_four rfl ?_
    obtain ⟨M4, e5, h⟩ := zset_ex h
    refine go_putI' e5 K_R_four rfl zf_12_92 ?_
    exact go_forget (G_R_four_p87 hrec53 h) (zs_s (zs_s (zs_s (zs_s (zs_s (zs_n (zs_s (zs_n zs_e))))))))
def F_R_four_p53 (N : Nat) : Nat → zMem → Int32 → Int32 → Int32 → Int32 → Int32 → Option (Int32 × zMem)
  | 0, _, _, _, _, _, _ => none
  | n + 1, M, l1, l2, l3, l4, l6 =>
    if (4 : Int32) ≤ l6 then (some (M 34 1, M)) else (if l6 = 0 then (F_R_four_p71 N (F_R_four_p53 N n) M l1 l2 l3 l4 l6 l1) else (if l6 = (1 : Int32) then (F_R_four_p71 N (F_R_four_p53 N n) M l1 l2 l3 l4 l6 l2) else (if l6 = (2 : Int32) then (F_R_four_p71 N (F_R_four_p53 N n) M l1 l2 l3 l4 l6 l3) else (F_R_four_p71 N (F_R_four_p53 N n) M l1 l2 l3 l4 l6 l4))))
set_option maxRecDepth 100000 in
theorem G_R_four_p53 {N : Nat} : ∀ (n : Nat) {M : zMem} {l1 l2 l3 l4 l6 : Int32} {y : Int32 × zMem}, F_R_four_p53 N n M l1 l2 l3 l4 l6 = some y → zGo Y_R_four 1 53 [some (.inr 34), some (.inl l1), some (.inl l2), some (.inl l3), some (.inl l4), none, some (.inl l6), none] [] M (some y.1) y.2 := by
  intro n
  induction n with
  | zero =>
    intro M l1 l2 l3 l4 l6 y h
    unfold F_R_four_p53 at h
    cases h
  | succ n ih =>
    intro M l1 l2 l3 l4 l6 y h
    unfold F_R_four_p53 at h
    refine go_iload K_R_four rfl rfl ?_
    refine go_iconst K_R_four rfl zk_iconst_4 ?_
    refine go_icmp_ge K_R_four rfl (fun c => ?_) (fun c => ?_)
    · have h := zif_t c h
      refine go_aload_n K_R_four rfl rfl ?_
      refine go_getI K_R_four rfl zf_12_92 ?_
      cases h
      exact go_ireturn K_R_four rfl rfl
    · have h := zif_f c h
      refine go_iload K_R_four rfl rfl ?_
      refine go_if_ne K_R_four rfl (fun c => ?_) (fun c => ?_)
      · have h := zif_f c h
        refine go_iload K_R_four rfl rfl ?_
        refine go_iconst K_R_four rfl zk_iconst_1 ?_
        refine go_icmp_ne K_R_four rfl (fun c => ?_) (fun c => ?_)
        · have h := zif_f c h
          refine go_iload K_R_four rfl rfl ?_
          refine go_iconst K_R_four rfl zk_iconst_2 ?_
          refine go_icmp_ne K_R_four rfl (fun c => ?_) (fun c => ?_)
          · have h := zif_f c h
            refine go_iload K_R_four rfl rfl ?_
            exact go_forget (G_R_four_p71 ih h) (zs_s (zs_s (zs_s (zs_s (zs_s (zs_n (zs_s (zs_n zs_e))))))))
          · have h := zif_t c h
            refine go_iload_n K_R_four rfl rfl ?_
            refine go_goto K_R_four rfl ?_
            exact go_forget (G_R_four_p71 ih h) (zs_s (zs_s (zs_s (zs_s (zs_s (zs_n (zs_s (zs_n zs_e))))))))
        · have h := zif_t c h
          refine go_iload_n K_R_four rfl rfl ?_
          refine go_goto K_R_four rfl ?_
          exact go_forget (G_R_four_p71 ih h) (zs_s (zs_s (zs_s (zs_s (zs_s (zs_n (zs_s (zs_n zs_e))))))))
      · have h := zif_t c h
        refine go_iload_n K_R_four rfl rfl ?_
        refine go_goto K_R_four rfl ?_
        exact go_forget (G_R_four_p71 ih h) (zs_s (zs_s (zs_s (zs_s (zs_s (zs_n (zs_s (zs_n zs_e))))))))
def F_R_four_p40 (N : Nat) (rec4 : zMem → Int32 → Int32 → Int32 → Int32 → Int32 → Int32 → Option (Int32 × zMem)) (M : zMem) (l1 l2 l3 l4 l6 s0 : Int32) : Option (Int32 × zMem) :=
  rec4 M l1 l2 l3 l4 s0 (l6 + (1 : Int32))
set_option maxRecDepth 100000 in
theorem G_R_four_p40 {N : Nat} {rec4 : zMem → Int32 → Int32 → Int32 → Int32 → Int32 → Int32 → Option (Int32 × zMem)} (hrec4 : ∀ {M : zMem} {l1 l2 l3 l4 l5 l6 : Int32} {y : Int32 × zMem}, rec4 M l1 l2 l3 l4 l5 l6 = some y → zGo Y_R_four 1 4 [some (.inr 34), some (.inl l1), some (.inl l2), some (.inl l3), some (.inl l4), some (.inl l5), some (.inl l6), none] [] M (some y.1) y.2) {M : zMem} {l1 l2 l3 l4 l6 s0 : Int32} {y : Int32 × zMem} (h : F_R_four_p40 N rec4 M l1 l2 l3 l4 l6 s0 = some y) : zGo Y_R_four 1 40 [some (.inr 34), some (.inl l1), some (.inl l2), some (.inl l3), some (.inl l4), none, some (.inl l6), none] [.inl s0] M (some y.1) y.2 := by
  unfold F_R_four_p40 at h
  refine go_istore K_R_four rfl (Nat.le_of_ble_eq_true rfl) ?_
  refine go_iinc (v := l6 + (1 : Int32)) K_R_four rfl rfl zinc_1 ?_
  refine go_goto K_R_four rfl ?_
  exact go_forget (hrec4 h) (zs_s (zs_s (zs_s (zs_s (zs_s (zs_s (zs_s (zs_n zs_e))))))))
def F_R_four_p32 (N : Nat) (rec4 : zMem → Int32 → Int32 → Int32 → Int32 → Int32 → Int32 → Option (Int32 × zMem)) (M : zMem) (l1 l2 l3 l4 l5 l6 l7 : Int32) : Option (Int32 × zMem) :=
  if l7 = (-1 : Int32) then (F_R_four_p40 N rec4 M l1 l2 l3 l4 l6 l5) else (F_R_four_p40 N rec4 M l1 l2 l3 l4 l6 (l5 + (1 : Int32)))
set_option maxRecDepth 100000 in
theorem G_R_four_p32 {N : Nat} {rec4 : zMem → Int32 → Int32 → Int32 → Int32 → Int32 → Int32 → Option (Int32 × zMem)} (hrec4 : ∀ {M : zMem} {l1 l2 l3 l4 l5 l6 : Int32} {y : Int32 × zMem}, rec4 M l1 l2 l3 l4 l5 l6 = some y → zGo Y_R_four 1 4 [some (.inr 34), some (.inl l1), some (.inl l2), some (.inl l3), some (.inl l4), some (.inl l5), some (.inl l6), none] [] M (some y.1) y.2) {M : zMem} {l1 l2 l3 l4 l5 l6 l7 : Int32} {y : Int32 × zMem} (h : F_R_four_p32 N rec4 M l1 l2 l3 l4 l5 l6 l7 = some y) : zGo Y_R_four 1 32 [some (.inr 34), some (.inl l1), some (.inl l2), some (.inl l3), some (.inl l4), some (.inl l5), some (.inl l6), some (.inl l7)] [] M (some y.1) y.2 := by
  unfold F_R_four_p32 at h
  refine go_iload K_R_four rfl rfl ?_
  refine go_iconst K_R_four rfl zk_iconst_m1 ?_
  refine go_icmp_ne K_R_four rfl (fun c => ?_) (fun c => ?_)
  · have h := zif_f c h
    refine go_iload K_R_four rfl rfl ?_
    refine go_iconst K_R_four rfl zk_iconst_1 ?_
    refine go_iadd K_R_four rfl ?_
    exact go_forget (G_R_four_p40 hrec4 h) (zs_s (zs_s (zs_s (zs_s (zs_s (zs_n (zs_s (zs_n zs_e))))))))
  · have h := zif_t c h
    refine go_iload K_R_four rfl rfl ?_
    refine go_goto K_R_four rfl ?_
    exact go_forget (G_R_four_p40 hrec4 h) (zs_s (zs_s (zs_s (zs_s (zs_s (zs_n (zs_s (zs_n zs_e))))))))
def F_R_four_p22 (N : Nat) (rec4 : zMem → Int32 → Int32 → Int32 → Int32 → Int32 → Int32 → Option (Int32 × zMem)) (M : zMem) (l1 l2 l3 l4 l5 l6 s0 : Int32) : Option (Int32 × zMem) :=
  if s0 = (-1 : Int32) then (F_R_four_p32 N rec4 M l1 l2 l3 l4 l5 l6 s0) else (zbi (F_R_isToken M s0) fun r3 M1 => if r3 = 0 then (some ((-1 : Int32), M1)) else (F_R_four_p32 N rec4 M1 l1 l2 l3 l4 l5 l6 s0))
set_option maxRecDepth 100000 in
theorem G_R_four_p22 {N : Nat} {rec4 : zMem → Int32 → Int32 → Int32 → Int32 → Int32 → Int32 → Option (Int32 × zMem)} (hrec4 : ∀ {M : zMem} {l1 l2 l3 l4 l5 l6 : Int32} {y : Int32 × zMem}, rec4 M l1 l2 l3 l4 l5 l6 = some y → zGo Y_R_four 1 4 [some (.inr 34), some (.inl l1), some (.inl l2), some (.inl l3), some (.inl l4), some (.inl l5), some (.inl l6), none] [] M (some y.1) y.2) {M : zMem} {l1 l2 l3 l4 l5 l6 s0 : Int32} {y : Int32 × zMem} (h : F_R_four_p22 N rec4 M l1 l2 l3 l4 l5 l6 s0 = some y) : zGo Y_R_four 1 22 [some (.inr 34), some (.inl l1), some (.inl l2), some (.inl l3), some (.inl l4), some (.inl l5), some (.inl l6), none] [.inl s0] M (some y.1) y.2 := by
  unfold F_R_four_p22 at h
  refine go_istore K_R_four rfl (Nat.le_of_ble_eq_true rfl) ?_
  refine go_iload K_R_four rfl rfl ?_
  refine go_iconst K_R_four rfl zk_iconst_m1 ?_
  refine go_icmp_eq K_R_four rfl (fun c => ?_) (fun c => ?_)
  · have h := zif_t c h
    exact go_forget (G_R_four_p32 hrec4 h) (zs_s (zs_s (zs_s (zs_s (zs_s (zs_s (zs_s (zs_s zs_e))))))))
  · have h := zif_f c h
    refine go_aload_n K_R_four rfl rfl ?_
    refine go_iload K_R_four rfl rfl ?_
    obtain ⟨r3, M1, h2, h⟩ := zbi_ex h
    refine go_vi (Y' := Y_R_isToken) (av := [.inl s0]) (rest := []) K_R_four rfl zl_12_88 zm_R_isToken rfl (G_R_isToken h2) (Nat.le_of_ble_eq_true rfl) (Nat.le_of_ble_eq_true rfl) rfl ?_
    refine go_if_ne K_R_four rfl (fun c => ?_) (fun c => ?_)
    · have h := zif_f c h
      exact go_forget (G_R_four_p32 hrec4 h) (zs_s (zs_s (zs_s (zs_s (zs_s (zs_s (zs_s (zs_s zs_e))))))))
    · have h := zif_t c h
      refine go_iconst K_R_four rfl zk_iconst_m1 ?_
      cases h
      exact go_ireturn K_R_four rfl rfl
def F_R_four_p4 (N : Nat) : Nat → zMem → Int32 → Int32 → Int32 → Int32 → Int32 → Int32 → Option (Int32 × zMem)
  | 0, _, _, _, _, _, _, _ => none
  | n + 1, M, l1, l2, l3, l4, l5, l6 =>
    if (4 : Int32) ≤ l6 then (if ((M 34 1) + l5) ≤ (150 : Int32) then (F_R_four_p53 N N M l1 l2 l3 l4 ((0 : Int32))) else (some ((-2 : Int32), M))) else (if l6 = 0 then (F_R_four_p22 N (F_R_four_p4 N n) M l1 l2 l3 l4 l5 l6 l1) else (if l6 = (1 : Int32) then (F_R_four_p22 N (F_R_four_p4 N n) M l1 l2 l3 l4 l5 l6 l2) else (if l6 = (2 : Int32) then (F_R_four_p22 N (F_R_four_p4 N n) M l1 l2 l3 l4 l5 l6 l3) else (F_R_four_p22 N (F_R_four_p4 N n) M l1 l2 l3 l4 l5 l6 l4))))
set_option maxRecDepth 100000 in
theorem G_R_four_p4 {N : Nat} : ∀ (n : Nat) {M : zMem} {l1 l2 l3 l4 l5 l6 : Int32} {y : Int32 × zMem}, F_R_four_p4 N n M l1 l2 l3 l4 l5 l6 = some y → zGo Y_R_four 1 4 [some (.inr 34), some (.inl l1), some (.inl l2), some (.inl l3), some (.inl l4), some (.inl l5), some (.inl l6), none] [] M (some y.1) y.2 := by
  intro n
  induction n with
  | zero =>
    intro M l1 l2 l3 l4 l5 l6 y h
    unfold F_R_four_p4 at h
    cases h
  | succ n ih =>
    intro M l1 l2 l3 l4 l5 l6 y h
    unfold F_R_four_p4 at h
    refine go_iload K_R_four rfl rfl ?_
    refine go_iconst K_R_four rfl zk_iconst_4 ?_
    refine go_icmp_ge K_R_four rfl (fun c => ?_) (fun c => ?_)
    · have h := zif_t c h
      refine go_aload_n K_R_four rfl rfl ?_
      refine go_getI K_R_four rfl zf_12_92 ?_
      refine go_iload K_R_four rfl rfl ?_
      refine go_iadd K_R_four rfl ?_
      refine go_sipush K_R_four rfl zk_sipush_150 ?_
      refine go_icmp_le K_R_four rfl (fun c => ?_) (fun c => ?_)
      · have h := zif_t c h
        refine go_iconst K_R_four rfl zk_iconst_0 ?_
        refine go_istore K_R_four rfl (Nat.le_of_ble_eq_true rfl) ?_
        exact go_forget (G_R_four_p53 _ h) (zs_s (zs_s (zs_s (zs_s (zs_s (zs_n (zs_s (zs_n zs_e))))))))
      · have h := zif_f c h
        refine go_bipush K_R_four rfl zk_bipush_m2 ?_
        cases h
        exact go_ireturn K_R_four rfl rfl
    · have h := zif_f c h
      refine go_iload K_R_four rfl rfl ?_
      refine go_if_ne K_R_four rfl (fun c => ?_) (fun c => ?_)
      · have h := zif_f c h
        refine go_iload K_R_four rfl rfl ?_
        refine go_iconst K_R_four rfl zk_iconst_1 ?_
        refine go_icmp_ne K_R_four rfl (fun c => ?_) (fun c => ?_)
        · have h := zif_f c h
          refine go_iload K_R_four rfl rfl ?_
          refine go_iconst K_R_four rfl zk_iconst_2 ?_
          refine go_icmp_ne K_R_four rfl (fun c => ?_) (fun c => ?_)
          · have h := zif_f c h
            refine go_iload K_R_four rfl rfl ?_
            exact go_forget (G_R_four_p22 ih h) (zs_s (zs_s (zs_s (zs_s (zs_s (zs_s (zs_s (zs_n zs_e))))))))
          · have h := zif_t c h
            refine go_iload_n K_R_four rfl rfl ?_
            refine go_goto K_R_four rfl ?_
            exact go_forget (G_R_four_p22 ih h) (zs_s (zs_s (zs_s (zs_s (zs_s (zs_s (zs_s (zs_n zs_e))))))))
        · have h := zif_t c h
          refine go_iload_n K_R_four rfl rfl ?_
          refine go_goto K_R_four rfl ?_
          exact go_forget (G_R_four_p22 ih h) (zs_s (zs_s (zs_s (zs_s (zs_s (zs_s (zs_s (zs_n zs_e))))))))
      · have h := zif_t c h
        refine go_iload_n K_R_four rfl rfl ?_
        refine go_goto K_R_four rfl ?_
        exact go_forget (G_R_four_p22 ih h) (zs_s (zs_s (zs_s (zs_s (zs_s (zs_s (zs_s (zs_n zs_e))))))))
def F_R_four (N : Nat) (M : zMem) (l1 l2 l3 l4 : Int32) : Option (Int32 × zMem) :=
  F_R_four_p4 N N M l1 l2 l3 l4 ((0 : Int32)) ((0 : Int32))
set_option maxRecDepth 100000 in
theorem G_R_four {N : Nat} {M : zMem} {l1 l2 l3 l4 : Int32} {y : Int32 × zMem} (h : F_R_four N M l1 l2 l3 l4 = some y) : zGo Y_R_four 1 0 (zal Y_R_four [.inr 34, .inl l1, .inl l2, .inl l3, .inl l4]) [] M (some y.1) y.2 := by
  unfold F_R_four at h
  show zGo Y_R_four 1 0 [some (.inr 34), some (.inl l1), some (.inl l2), some (.inl l3), some (.inl l4), none, none, none] [] M _ _
  refine go_iconst K_R_four rfl zk_iconst_0 ?_
  refine go_istore K_R_four rfl (Nat.le_of_ble_eq_true rfl) ?_
  refine go_iconst K_R_four rfl zk_iconst_0 ?_
  refine go_istore K_R_four rfl (Nat.le_of_ble_eq_true rfl) ?_
  exact go_forget (G_R_four_p4 _ h) (zs_s (zs_s (zs_s (zs_s (zs_s (zs_s (zs_s (zs_n zs_e))))))))
def F_R_global (N : Nat) (M : zMem) (l1 : Int32) : Option (Int32 × zMem) :=
  zbi (F_R_work N M ) fun r3 M1 => if r3 = 0 then (some ((0 : Int32), M1)) else (if l1 < 0 then (some ((0 : Int32), M1)) else (if (7 : Int32) < l1 then (some ((0 : Int32), M1)) else (zix l1 8 (some (M1 59 l1.toNatClampNeg, M1)))))
set_option maxRecDepth 100000 in
theorem G_R_global {N : Nat} {M : zMem} {l1 : Int32} {y : Int32 × zMem} (h : F_R_global N M l1 = some y) : zGo Y_R_global 7 0 (zal Y_R_global [.inr 34, .inl l1]) [] M (some y.1) y.2 := by
  unfold F_R_global at h
  show zGo Y_R_global 7 0 [some (.inr 34), some (.inl l1)] [] M _ _
  refine go_aload_n K_R_global rfl rfl ?_
  obtain ⟨r3, M1, h2, h⟩ := zbi_ex h
  refine go_vi (Y' := Y_R_work) (av := []) (rest := []) K_R_global rfl zl_12_271 zm_R_work rfl (G_R_work h2) (Nat.le_of_ble_eq_true rfl) (Nat.le_of_ble_eq_true rfl) rfl ?_
  refine go_if_eq K_R_global rfl (fun c => ?_) (fun c => ?_)
  · have h := zif_t c h
    refine go_iconst K_R_global rfl zk_iconst_0 ?_
    cases h
    exact go_ireturn K_R_global rfl rfl
  · have h := zif_f c h
    refine go_iload_n K_R_global rfl rfl ?_
    refine go_if_lt K_R_global rfl (fun c => ?_) (fun c => ?_)
    · have h := zif_t c h
      refine go_iconst K_R_global rfl zk_iconst_0 ?_
      cases h
      exact go_ireturn K_R_global rfl rfl
    · have h := zif_f c h
      refine go_iload_n K_R_global rfl rfl ?_
      refine go_bipush K_R_global rfl zk_bipush_7 ?_
      refine go_icmp_gt K_R_global rfl (fun c => ?_) (fun c => ?_)
      · have h := zif_t c h
        refine go_iconst K_R_global rfl zk_iconst_0 ?_
        cases h
        exact go_ireturn K_R_global rfl rfl
      · have h := zif_f c h
        refine go_aload_n K_R_global rfl rfl ?_
        refine go_getR K_R_global rfl zf_12_82 ?_
        refine go_iload_n K_R_global rfl rfl ?_
        obtain ⟨i4, h⟩ := zix_ex h
        refine go_iald K_R_global rfl za_59 i4 ?_
        refine go_goto K_R_global rfl ?_
        cases h
        exact go_ireturn K_R_global rfl rfl
def F_R_levelOf (M : zMem) (l1 : Int32) : Option (Int32 × zMem) :=
  zix l1 400 (zbi (F_R_isIn M (M 39 l1.toNatClampNeg) (140 : Int32) (145 : Int32)) fun r4 M2 => if r4 = 0 then (if (M 39 l1.toNatClampNeg) = (6 : Int32) then (some ((1 : Int32), M2)) else (if (M 39 l1.toNatClampNeg) = (130 : Int32) then (some ((1 : Int32), M2)) else (if (M 39 l1.toNatClampNeg) = (131 : Int32) then (some ((1 : Int32), M2)) else (if (M 39 l1.toNatClampNeg) = (151 : Int32) then (some ((1 : Int32), M2)) else (if (M 39 l1.toNatClampNeg) ≤ (100 : Int32) then (some ((3 : Int32), M2)) else (some ((2 : Int32), M2))))))) else (some ((0 : Int32), M2)))
set_option maxRecDepth 100000 in
theorem G_R_levelOf {M : zMem} {l1 : Int32} {y : Int32 × zMem} (h : F_R_levelOf M l1 = some y) : zGo Y_R_levelOf 1 0 (zal Y_R_levelOf [.inr 34, .inl l1]) [] M (some y.1) y.2 := by
  unfold F_R_levelOf at h
  show zGo Y_R_levelOf 1 0 [some (.inr 34), some (.inl l1), none] [] M _ _
  refine go_aload_n K_R_levelOf rfl rfl ?_
  refine go_getR K_R_levelOf rfl zf_12_22 ?_
  refine go_iload_n K_R_levelOf rfl rfl ?_
  obtain ⟨i1, h⟩ := zix_ex h
  refine go_iald K_R_levelOf rfl za_39 i1 ?_
  refine go_istore_n K_R_levelOf rfl (Nat.le_of_ble_eq_true rfl) ?_
  refine go_aload_n K_R_levelOf rfl rfl ?_
  refine go_iload_n K_R_levelOf rfl rfl ?_
  refine go_sipush K_R_levelOf rfl zk_sipush_140 ?_
  refine go_sipush K_R_levelOf rfl zk_sipush_145 ?_
  obtain ⟨r4, M2, h3, h⟩ := zbi_ex h
  refine go_vi (Y' := Y_R_isIn) (av := [.inl (M 39 l1.toNatClampNeg), .inl (140 : Int32), .inl (145 : Int32)]) (rest := []) K_R_levelOf rfl zl_12_108 zm_R_isIn rfl (G_R_isIn h3) (Nat.le_of_ble_eq_true rfl) (Nat.le_of_ble_eq_true rfl) rfl ?_
  refine go_if_eq K_R_levelOf rfl (fun c => ?_) (fun c => ?_)
  · have h := zif_t c h
    refine go_iload_n K_R_levelOf rfl rfl ?_
    refine go_bipush K_R_levelOf rfl zk_bipush_6 ?_
    refine go_icmp_eq K_R_levelOf rfl (fun c => ?_) (fun c => ?_)
    · have h := zif_t c h
      refine go_iconst K_R_levelOf rfl zk_iconst_1 ?_
      cases h
      exact go_ireturn K_R_levelOf rfl rfl
    · have h := zif_f c h
      refine go_iload_n K_R_levelOf rfl rfl ?_
      refine go_sipush K_R_levelOf rfl zk_sipush_130 ?_
      refine go_icmp_eq K_R_levelOf rfl (fun c => ?_) (fun c => ?_)
      · have h := zif_t c h
        refine go_iconst K_R_levelOf rfl zk_iconst_1 ?_
        cases h
        exact go_ireturn K_R_levelOf rfl rfl
      · have h := zif_f c h
        refine go_iload_n K_R_levelOf rfl rfl ?_
        refine go_sipush K_R_levelOf rfl zk_sipush_131 ?_
        refine go_icmp_eq K_R_levelOf rfl (fun c => ?_) (fun c => ?_)
        · have h := zif_t c h
          refine go_iconst K_R_levelOf rfl zk_iconst_1 ?_
          cases h
          exact go_ireturn K_R_levelOf rfl rfl
        · have h := zif_f c h
          refine go_iload_n K_R_levelOf rfl rfl ?_
          refine go_sipush K_R_levelOf rfl zk_sipush_151 ?_
          refine go_icmp_ne K_R_levelOf rfl (fun c => ?_) (fun c => ?_)
          · have h := zif_f c h
            refine go_iload_n K_R_levelOf rfl rfl ?_
            refine go_bipush K_R_levelOf rfl zk_bipush_100 ?_
            refine go_icmp_le K_R_levelOf rfl (fun c => ?_) (fun c => ?_)
            · have h := zif_t c h
              refine go_iconst K_R_levelOf rfl zk_iconst_3 ?_
              cases h
              exact go_ireturn K_R_levelOf rfl rfl
            · have h := zif_f c h
              refine go_iconst K_R_levelOf rfl zk_iconst_2 ?_
              refine go_goto K_R_levelOf rfl ?_
              cases h
              exact go_ireturn K_R_levelOf rfl rfl
          · have h := zif_t c h
            refine go_iconst K_R_levelOf rfl zk_iconst_1 ?_
            cases h
            exact go_ireturn K_R_levelOf rfl rfl
  · have h := zif_f c h
    refine go_iconst K_R_levelOf rfl zk_iconst_0 ?_
    cases h
    exact go_ireturn K_R_levelOf rfl rfl
