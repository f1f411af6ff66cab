def F_R_append_p19 (M : zMem) (l1 l2 : Int32) : Option (zMem) :=
  zix l1 400 (zset M 42 l1.toNatClampNeg l2 fun M2 => some M2)
set_option maxRecDepth 100000 in
theorem G_R_append_p19 {M : zMem} {l1 l2 : Int32} {y : zMem} (h : F_R_append_p19 M l1 l2 = some y) : zGo Y_R_append 0 19 [some (.inr 34), some (.inl l1), some (.inl l2)] [] M none y := by
  unfold F_R_append_p19 at h
  refine go_aload_n K_R_append rfl rfl ?_
  refine go_getR K_R_append rfl zf_12_31 ?_
  refine go_iload_n K_R_append rfl rfl ?_
  refine go_iload_n K_R_append rfl rfl ?_
  obtain ⟨i1, h⟩ := zix_ex h
  obtain ⟨M2, e3, h⟩ := zset_ex h
  refine go_iast' e3 K_R_append rfl za_42 i1 ?_
  cases h
  exact go_return K_R_append rfl rfl
def F_R_append (M : zMem) (l1 l2 : Int32) : Option (zMem) :=
  zix l1 400 (if 0 ≤ (M 41 l1.toNatClampNeg) then (zix l1 400 (zix (M 42 l1.toNatClampNeg) 400 (zset M 44 (M 42 l1.toNatClampNeg).toNatClampNeg l2 fun M4 => F_R_append_p19 M4 l1 l2))) else (zix l1 400 (zset M 41 l1.toNatClampNeg l2 fun M7 => F_R_append_p19 M7 l1 l2)))
set_option maxRecDepth 100000 in
theorem G_R_append {M : zMem} {l1 l2 : Int32} {y : zMem} (h : F_R_append M l1 l2 = some y) : zGo Y_R_append 0 0 (zal Y_R_append [.inr 34, .inl l1, .inl l2]) [] M none y := by
  unfold F_R_append at h
  show zGo Y_R_append 0 0 [some (.inr 34), some (.inl l1), some (.inl l2)] [] M _ _
  refine go_aload_n K_R_append rfl rfl ?_
  refine go_getR K_R_append rfl zf_12_28 ?_
  refine go_iload_n K_R_append rfl rfl ?_
  obtain ⟨i1, h⟩ := zix_ex h
  refine go_iald K_R_append rfl za_41 i1 ?_
  refine go_if_ge K_R_append rfl (fun c => ?_) (fun c => ?_)
  · have h := zif_t c h
    refine go_aload_n K_R_append rfl rfl ?_
    refine go_getR K_R_append rfl zf_12_37 ?_
    refine go_aload_n K_R_append rfl rfl ?_
    refine go_getR K_R_append rfl zf_12_31 ?_
    refine go_iload_n K_R_append rfl rfl ?_
    obtain ⟨i2, h⟩ := zix_ex h
    refine go_iald K_R_append rfl za_42 i2 ?_
    refine go_iload_n K_R_append rfl rfl ?_
    obtain ⟨i3, h⟩ := zix_ex h
    obtain ⟨M4, e5, h⟩ := zset_ex h
    refine go_iast' e5 K_R_append rfl za_44 i3 ?_
    exact go_forget (G_R_append_p19 h) (zs_s (zs_s (zs_s zs_e)))
  · have h := zif_f c h
    refine go_aload_n K_R_append rfl rfl ?_
    refine go_getR K_R_append rfl zf_12_28 ?_
    refine go_iload_n K_R_append rfl rfl ?_
    refine go_iload_n K_R_append rfl rfl ?_
    obtain ⟨i6, h⟩ := zix_ex h
    obtain ⟨M7, e8, h⟩ := zset_ex h
    refine go_iast' e8 K_R_append rfl za_41 i6 ?_
    refine go_goto K_R_append rfl ?_
    exact go_forget (G_R_append_p19 h) (zs_s (zs_s (zs_s zs_e)))
def F_R_argumentsOf_p7 (N : Nat) : Nat → zMem → Int32 → Int32 → Option (Int32 × zMem)
  | 0, _, _, _ => none
  | n + 1, M, l2, l3 =>
    if l3 < 0 then (some (l2, M)) else (zix l3 400 (F_R_argumentsOf_p7 N n M (l2 + (1 : Int32)) (M 44 l3.toNatClampNeg)))
set_option maxRecDepth 100000 in
theorem G_R_argumentsOf_p7 {N : Nat} : ∀ (n : Nat) {M : zMem} {l2 l3 : Int32} {y : Int32 × zMem}, F_R_argumentsOf_p7 N n M l2 l3 = some y → zGo Y_R_argumentsOf 0 7 [some (.inr 34), none, some (.inl l2), some (.inl l3)] [] M (some y.1) y.2 := by
  intro n
  induction n with
  | zero =>
    intro M l2 l3 y h
    unfold F_R_argumentsOf_p7 at h
    cases h
  | succ n ih =>
    intro M l2 l3 y h
    unfold F_R_argumentsOf_p7 at h
    refine go_iload_n K_R_argumentsOf rfl rfl ?_
    refine go_if_lt K_R_argumentsOf rfl (fun c => ?_) (fun c => ?_)
    · have h := zif_t c h
      refine go_iload_n K_R_argumentsOf rfl rfl ?_
      cases h
      exact go_ireturn K_R_argumentsOf rfl rfl
    · have h := zif_f c h
      refine go_iinc (v := l2 + (1 : Int32)) K_R_argumentsOf rfl rfl zinc_1 ?_
      refine go_aload_n K_R_argumentsOf rfl rfl ?_
      refine go_getR K_R_argumentsOf rfl zf_12_37 ?_
      refine go_iload_n K_R_argumentsOf rfl rfl ?_
      obtain ⟨i1, h⟩ := zix_ex h
      refine go_iald K_R_argumentsOf rfl za_44 i1 ?_
      refine go_istore_n K_R_argumentsOf rfl (Nat.le_of_ble_eq_true rfl) ?_
      refine go_goto K_R_argumentsOf rfl ?_
      exact go_forget (ih h) (zs_s (zs_n (zs_s (zs_s zs_e))))
def F_R_argumentsOf (N : Nat) (M : zMem) (l1 : Int32) : Option (Int32 × zMem) :=
  zix l1 400 (F_R_argumentsOf_p7 N N M ((0 : Int32)) (M 41 l1.toNatClampNeg))
set_option maxRecDepth 100000 in
theorem G_R_argumentsOf {N : Nat} {M : zMem} {l1 : Int32} {y : Int32 × zMem} (h : F_R_argumentsOf N M l1 = some y) : zGo Y_R_argumentsOf 0 0 (zal Y_R_argumentsOf [.inr 34, .inl l1]) [] M (some y.1) y.2 := by
  unfold F_R_argumentsOf at h
  show zGo Y_R_argumentsOf 0 0 [some (.inr 34), some (.inl l1), none, none] [] M _ _
  refine go_iconst K_R_argumentsOf rfl zk_iconst_0 ?_
  refine go_istore_n K_R_argumentsOf rfl (Nat.le_of_ble_eq_true rfl) ?_
  refine go_aload_n K_R_argumentsOf rfl rfl ?_
  refine go_getR K_R_argumentsOf rfl zf_12_28 ?_
  refine go_iload_n K_R_argumentsOf rfl rfl ?_
  obtain ⟨i1, h⟩ := zix_ex h
  refine go_iald K_R_argumentsOf rfl za_41 i1 ?_
  refine go_istore_n K_R_argumentsOf rfl (Nat.le_of_ble_eq_true rfl) ?_
  exact go_forget (G_R_argumentsOf_p7 _ h) (zs_s (zs_n (zs_s (zs_s zs_e))))
def F_R_hold (M : zMem) (l1 : Int32) : Option (zMem) :=
  zix (M 34 35) 3600 (zset M 55 (M 34 35).toNatClampNeg l1 fun M2 => zset M2 34 35 ((M2 34 35) + (1 : Int32)) fun M4 => some M4)
set_option maxRecDepth 100000 in
theorem G_R_hold {M : zMem} {l1 : Int32} {y : zMem} (h : F_R_hold M l1 = some y) : zGo Y_R_hold 0 0 (zal Y_R_hold [.inr 34, .inl l1]) [] M none y := by
  unfold F_R_hold at h
  show zGo Y_R_hold 0 0 [some (.inr 34), some (.inl l1)] [] M _ _
  refine go_aload_n K_R_hold rfl rfl ?_
  refine go_getR K_R_hold rfl zf_12_70 ?_
  refine go_aload_n K_R_hold rfl rfl ?_
  refine go_getI K_R_hold rfl zf_12_210 ?_
  refine go_iload_n K_R_hold rfl rfl ?_
  obtain ⟨i1, h⟩ := zix_ex h
  obtain ⟨M2, e3, h⟩ := zset_ex h
  refine go_iast' e3 K_R_hold rfl za_55 i1 ?_
  refine go_aload_n K_R_hold rfl rfl ?_
  refine go_dup K_R_hold rfl ?_
  refine go_getI K_R_hold rfl zf_12_210 ?_
  refine go_iconst K_R_hold rfl zk_iconst_1 ?_
  refine go_iadd K_R_hold rfl ?_
  obtain ⟨M4, e5, h⟩ := zset_ex h
  refine go_putI' e5 K_R_hold rfl zf_12_210 ?_
  cases h
  exact go_return K_R_hold rfl rfl
def F_R_isLocal (M : zMem) (l1 : Int32) : Option (Int32 × zMem) :=
  zix (M 34 38) 21 (if (M 57 (M 34 38).toNatClampNeg) < 0 then (some ((0 : Int32), M)) else (zix (M 34 38) 21 (zix (M 57 (M 34 38).toNatClampNeg) 4 (if (((M 48 (M 57 (M 34 38).toNatClampNeg).toNatClampNeg) >>> (l1 &&& 31)) &&& (1 : Int32)) = (1 : Int32) then (some ((1 : Int32), M)) else (some ((0 : Int32), M))))))
set_option maxRecDepth 100000 in
theorem G_R_isLocal {M : zMem} {l1 : Int32} {y : Int32 × zMem} (h : F_R_isLocal M l1 = some y) : zGo Y_R_isLocal 0 0 (zal Y_R_isLocal [.inr 34, .inl l1]) [] M (some y.1) y.2 := by
  unfold F_R_isLocal at h
  show zGo Y_R_isLocal 0 0 [some (.inr 34), some (.inl l1)] [] M _ _
  refine go_aload_n K_R_isLocal rfl rfl ?_
  refine go_getR K_R_isLocal rfl zf_12_76 ?_
  refine go_aload_n K_R_isLocal rfl rfl ?_
  refine go_getI K_R_isLocal rfl zf_12_219 ?_
  obtain ⟨i1, h⟩ := zix_ex h
  refine go_iald K_R_isLocal rfl za_57 i1 ?_
  refine go_if_lt K_R_isLocal rfl (fun c => ?_) (fun c => ?_)
  · have h := zif_t c h
    refine go_iconst K_R_isLocal rfl zk_iconst_0 ?_
    cases h
    exact go_zreturn K_R_isLocal rfl rfl (Or.inl rfl)
  · have h := zif_f c h
    refine go_aload_n K_R_isLocal rfl rfl ?_
    refine go_getR K_R_isLocal rfl zf_12_49 ?_
    refine go_aload_n K_R_isLocal rfl rfl ?_
    refine go_getR K_R_isLocal rfl zf_12_76 ?_
    refine go_aload_n K_R_isLocal rfl rfl ?_
    refine go_getI K_R_isLocal rfl zf_12_219 ?_
    obtain ⟨i2, h⟩ := zix_ex h
    refine go_iald K_R_isLocal rfl za_57 i2 ?_
    obtain ⟨i3, h⟩ := zix_ex h
    refine go_iald K_R_isLocal rfl za_48 i3 ?_
    refine go_iload_n K_R_isLocal rfl rfl ?_
    refine go_ishr K_R_isLocal rfl ?_
    refine go_iconst K_R_isLocal rfl zk_iconst_1 ?_
    refine go_iand K_R_isLocal rfl ?_
    refine go_iconst K_R_isLocal rfl zk_iconst_1 ?_
    refine go_icmp_ne K_R_isLocal rfl (fun c => ?_) (fun c => ?_)
    · have h := zif_f c h
      refine go_iconst K_R_isLocal rfl zk_iconst_0 ?_
      cases h
      exact go_zreturn K_R_isLocal rfl rfl (Or.inl rfl)
    · have h := zif_t c h
      refine go_iconst K_R_isLocal rfl zk_iconst_1 ?_
      refine go_goto K_R_isLocal rfl ?_
      cases h
      exact go_zreturn K_R_isLocal rfl rfl (Or.inr rfl)
def F_R_takeTurn (M : zMem) : Option (Int32 × zMem) :=
  if (M 34 40) = (300 : Int32) then (zset M 34 45 ((1 : Int32)) fun M3 => some ((0 : Int32), M3)) else (zset M 34 40 ((M 34 40) + (1 : Int32)) fun M1 => some ((1 : Int32), M1))
set_option maxRecDepth 100000 in
theorem G_R_takeTurn {M : zMem} {y : Int32 × zMem} (h : F_R_takeTurn M  = some y) : zGo Y_R_takeTurn 0 0 (zal Y_R_takeTurn [.inr 34]) [] M (some y.1) y.2 := by
  unfold F_R_takeTurn at h
  show zGo Y_R_takeTurn 0 0 [some (.inr 34)] [] M _ _
  refine go_aload_n K_R_takeTurn rfl rfl ?_
  refine go_getI K_R_takeTurn rfl zf_12_213 ?_
  refine go_sipush K_R_takeTurn rfl zk_sipush_300 ?_
  refine go_icmp_ne K_R_takeTurn rfl (fun c => ?_) (fun c => ?_)
  · have h := zif_f c h
    refine go_aload_n K_R_takeTurn rfl rfl ?_
    refine go_dup K_R_takeTurn rfl ?_
    refine go_getI K_R_takeTurn rfl zf_12_213 ?_
    refine go_iconst K_R_takeTurn rfl zk_iconst_1 ?_
    refine go_iadd K_R_takeTurn rfl ?_
    obtain ⟨M1, e2, h⟩ := zset_ex h
    refine go_putI' e2 K_R_takeTurn rfl zf_12_213 ?_
    refine go_iconst K_R_takeTurn rfl zk_iconst_1 ?_
    cases h
    exact go_zreturn K_R_takeTurn rfl rfl (Or.inr rfl)
  · have h := zif_t c h
    refine go_aload_n K_R_takeTurn rfl rfl ?_
    refine go_iconst K_R_takeTurn rfl zk_iconst_1 ?_
    obtain ⟨M3, e4, h⟩ := zset_ex h
    refine go_putI' e4 K_R_takeTurn rfl zf_12_216 ?_
    refine go_iconst K_R_takeTurn rfl zk_iconst_0 ?_
    cases h
    exact go_zreturn K_R_takeTurn rfl rfl (Or.inl rfl)
def F_R_wait (M : zMem) (l1 l2 : Int32) : Option (zMem) :=
  zix (M 34 33) 3600 (zset M 53 (M 34 33).toNatClampNeg (((8 : Int32) * (l1 + (1 : Int32))) + l2) fun M2 => zix (M2 34 33) 3600 (zset M2 54 (M2 34 33).toNatClampNeg (M2 34 35) fun M5 => zset M5 34 33 ((M5 34 33) + (1 : Int32)) fun M7 => some M7))
set_option maxRecDepth 100000 in
theorem G_R_wait {M : zMem} {l1 l2 : Int32} {y : zMem} (h : F_R_wait M l1 l2 = some y) : zGo Y_R_wait 0 0 (zal Y_R_wait [.inr 34, .inl l1, .inl l2]) [] M none y := by
  unfold F_R_wait at h
  show zGo Y_R_wait 0 0 [some (.inr 34), some (.inl l1), some (.inl l2)] [] M _ _
  refine go_aload_n K_R_wait rfl rfl ?_
  refine go_getR K_R_wait rfl zf_12_64 ?_
  refine go_aload_n K_R_wait rfl rfl ?_
  refine go_getI K_R_wait rfl zf_12_207 ?_
  refine go_bipush K_R_wait rfl zk_bipush_8 ?_
  refine go_iload_n K_R_wait rfl rfl ?_
  refine go_iconst K_R_wait rfl zk_iconst_1 ?_
  refine go_iadd K_R_wait rfl ?_
  refine go_imul K_R_wait rfl ?_
  refine go_iload_n K_R_wait rfl rfl ?_
  refine go_iadd K_R_wait rfl ?_
  obtain ⟨i1, h⟩ := zix_ex h
  obtain ⟨M2, e3, h⟩ := zset_ex h
  refine go_iast' e3 K_R_wait rfl za_53 i1 ?_
  refine go_aload_n K_R_wait rfl rfl ?_
  refine go_getR K_R_wait rfl zf_12_67 ?_
  refine go_aload_n K_R_wait rfl rfl ?_
  refine go_getI K_R_wait rfl zf_12_207 ?_
  refine go_aload_n K_R_wait rfl rfl ?_
  refine go_getI K_R_wait rfl zf_12_210 ?_
  obtain ⟨i4, h⟩ := zix_ex h
  obtain ⟨M5, e6, h⟩ := zset_ex h
  refine go_iast' e6 K_R_wait rfl za_54 i4 ?_
  refine go_aload_n K_R_wait rfl rfl ?_
  refine go_dup K_R_wait rfl ?_
  refine go_getI K_R_wait rfl zf_12_207 ?_
  refine go_iconst K_R_wait rfl zk_iconst_1 ?_
  refine go_iadd K_R_wait rfl ?_
  obtain ⟨M7, e8, h⟩ := zset_ex h
  refine go_putI' e8 K_R_wait rfl zf_12_207 ?_
  cases h
  exact go_return K_R_wait rfl rfl
def F_R_begin_p45 (M : zMem) (s1 : Int32) : Option (zMem) :=
  zbv (F_R_hold M s1) fun M1 => some M1
set_option maxRecDepth 100000 in
theorem G_R_begin_p45 {M : zMem} {s1 : Int32} {y : zMem} (h : F_R_begin_p45 M s1 = some y) : zGo Y_R_begin 1 45 [none, none, none] [.inl s1, .inr 34] M none y := by
  unfold F_R_begin_p45 at h
  obtain ⟨M1, h2, h⟩ := zbv_ex h
  refine go_vv (Y' := Y_R_hold) (av := [.inl s1]) (rest := []) K_R_begin rfl zl_12_225 zm_R_hold rfl (G_R_hold h2) (Nat.le_of_ble_eq_true rfl) (Nat.le_of_ble_eq_true rfl) rfl ?_
  refine go_goto K_R_begin rfl ?_
  cases h
  exact go_return K_R_begin rfl rfl
def F_R_begin (M : zMem) (l1 : Int32) : Option (zMem) :=
  zix l1 400 (if (M 39 l1.toNatClampNeg) = 0 then (zix l1 400 (zbv (F_R_hold M (M 40 l1.toNatClampNeg)) fun M33 => some M33)) else (if (M 39 l1.toNatClampNeg) = (1 : Int32) then (zix l1 400 (zbi (F_R_isLocal M (M 40 l1.toNatClampNeg)) fun r27 M25 => if r27 = 0 then (zix l1 400 (zix (M25 40 l1.toNatClampNeg) 8 (F_R_begin_p45 M25 (M25 59 (M25 40 l1.toNatClampNeg).toNatClampNeg)))) else (zix l1 400 (zix (((8 : Int32) * (M25 34 38)) + (M25 40 l1.toNatClampNeg)) 168 (F_R_begin_p45 M25 (M25 56 (((8 : Int32) * (M25 34 38)) + (M25 40 l1.toNatClampNeg)).toNatClampNeg)))))) else (if (M 39 l1.toNatClampNeg) = (3 : Int32) then (zbv (F_R_wait M l1 (1 : Int32)) fun M19 => zix l1 400 (zbv (F_R_wait M19 (M19 41 l1.toNatClampNeg) (6 : Int32)) fun M22 => some M22)) else (if (M 39 l1.toNatClampNeg) = (26 : Int32) then (zbi (F_R_takeTurn M ) fun r9 M7 => if r9 = 0 then (some M7) else (zbv (F_R_wait M7 l1 (1 : Int32)) fun M10 => zix l1 400 (zbv (F_R_wait M10 (M10 42 l1.toNatClampNeg) (0 : Int32)) fun M13 => zix l1 400 (zix (M13 41 l1.toNatClampNeg) 400 (zbv (F_R_wait M13 (M13 41 (M13 41 l1.toNatClampNeg).toNatClampNeg) (7 : Int32)) fun M17 => some M17))))) else (zbv (F_R_wait M l1 (1 : Int32)) fun M2 => zix l1 400 (zbv (F_R_wait M2 (M2 41 l1.toNatClampNeg) (0 : Int32)) fun M5 => some M5))))))
set_option maxRecDepth 100000 in
theorem G_R_begin {M : zMem} {l1 : Int32} {y : zMem} (h : F_R_begin M l1 = some y) : zGo Y_R_begin 1 0 (zal Y_R_begin [.inr 34, .inl l1]) [] M none y := by
  unfold F_R_begin at h
  show zGo Y_R_begin 1 0 [some (.inr 34), some (.inl l1), none] [] M _ _
  refine go_aload_n K_R_begin rfl rfl ?_
  refine go_getR K_R_begin rfl zf_12_22 ?_
  refine go_iload_n K_R_begin rfl rfl ?_
  obtain ⟨i1, h⟩ := zix_ex h
  refine go_iald K_R_begin rfl za_39 i1 ?_
  refine go_istore_n K_R_begin rfl (Nat.le_of_ble_eq_true rfl) ?_
  refine go_iload_n K_R_begin rfl rfl ?_
  refine go_if_ne K_R_begin rfl (fun c => ?_) (fun c => ?_)
  · have h := zif_f c h
    refine go_iload_n K_R_begin rfl rfl ?_
    refine go_iconst K_R_begin rfl zk_iconst_1 ?_
    refine go_icmp_ne K_R_begin rfl (fun c => ?_) (fun c => ?_)
    · have h := zif_f c h
      refine go_iload_n K_R_begin rfl rfl ?_
      refine go_iconst K_R_begin rfl zk_iconst_3 ?_
      refine go_icmp_ne K_R_begin rfl (fun c => ?_) (fun c => ?_)
      · have h := zif_f c h
        refine go_iload_n K_R_begin rfl rfl ?_
        refine go_bipush K_R_begin rfl zk_bipush_26 ?_
        refine go_icmp_ne K_R_begin rfl (fun c => ?_) (fun c => ?_)
        · have h := zif_f c h
          refine go_aload_n K_R_begin rfl rfl ?_
          refine go_iload_n K_R_begin rfl rfl ?_
          refine go_iconst K_R_begin rfl zk_iconst_1 ?_
          obtain ⟨M2, h3, h⟩ := zbv_ex h
          refine go_vv (Y' := Y_R_wait) (av := [.inl l1, .inl (1 : Int32)]) (rest := []) K_R_begin rfl zl_12_228 zm_R_wait rfl (G_R_wait h3) (Nat.le_of_ble_eq_true rfl) (Nat.le_of_ble_eq_true rfl) rfl ?_
          refine go_aload_n K_R_begin rfl rfl ?_
          refine go_aload_n K_R_begin rfl rfl ?_
          refine go_getR K_R_begin rfl zf_12_28 ?_
          refine go_iload_n K_R_begin rfl rfl ?_
          obtain ⟨i4, h⟩ := zix_ex h
          refine go_iald K_R_begin rfl za_41 i4 ?_
          refine go_iconst K_R_begin rfl zk_iconst_0 ?_
          obtain ⟨M5, h6, h⟩ := zbv_ex h
          refine go_vv (Y' := Y_R_wait) (av := [.inl (M2 41 l1.toNatClampNeg), .inl (0 : Int32)]) (rest := []) K_R_begin rfl zl_12_228 zm_R_wait rfl (G_R_wait h6) (Nat.le_of_ble_eq_true rfl) (Nat.le_of_ble_eq_true rfl) rfl ?_
          cases h
          exact go_return K_R_begin rfl rfl
        · have h := zif_t c h
          refine go_aload_n K_R_begin rfl rfl ?_
          obtain ⟨r9, M7, h8, h⟩ := zbi_ex h
          refine go_vi (Y' := Y_R_takeTurn) (av := []) (rest := []) K_R_begin rfl zl_12_231 zm_R_takeTurn rfl (G_R_takeTurn h8) (Nat.le_of_ble_eq_true rfl) (Nat.le_of_ble_eq_true rfl) rfl ?_
          refine go_if_eq K_R_begin rfl (fun c => ?_) (fun c => ?_)
          · have h := zif_t c h
            cases h
            exact go_return K_R_begin rfl rfl
          · have h := zif_f c h
            refine go_aload_n K_R_begin rfl rfl ?_
            refine go_iload_n K_R_begin rfl rfl ?_
            refine go_iconst K_R_begin rfl zk_iconst_1 ?_
            obtain ⟨M10, h11, h⟩ := zbv_ex h
            refine go_vv (Y' := Y_R_wait) (av := [.inl l1, .inl (1 : Int32)]) (rest := []) K_R_begin rfl zl_12_228 zm_R_wait rfl (G_R_wait h11) (Nat.le_of_ble_eq_true rfl) (Nat.le_of_ble_eq_true rfl) rfl ?_
            refine go_aload_n K_R_begin rfl rfl ?_
            refine go_aload_n K_R_begin rfl rfl ?_
            refine go_getR K_R_begin rfl zf_12_31 ?_
            refine go_iload_n K_R_begin rfl rfl ?_
            obtain ⟨i12, h⟩ := zix_ex h
            refine go_iald K_R_begin rfl za_42 i12 ?_
            refine go_iconst K_R_begin rfl zk_iconst_0 ?_
            obtain ⟨M13, h14, h⟩ := zbv_ex h
            refine go_vv (Y' := Y_R_wait) (av := [.inl (M10 42 l1.toNatClampNeg), .inl (0 : Int32)]) (rest := []) K_R_begin rfl zl_12_228 zm_R_wait rfl (G_R_wait h14) (Nat.le_of_ble_eq_true rfl) (Nat.le_of_ble_eq_true rfl) rfl ?_
            refine go_aload_n K_R_begin rfl rfl ?_
            refine go_aload_n K_R_begin rfl rfl ?_
            refine go_getR K_R_begin rfl zf_12_28 ?_
            refine go_aload_n K_R_begin rfl rfl ?_
            refine go_getR K_R_begin rfl zf_12_28 ?_
            refine go_iload_n K_R_begin rfl rfl ?_
            obtain ⟨i15, h⟩ := zix_ex h
            refine go_iald K_R_begin rfl za_41 i15 ?_
            obtain ⟨i16, h⟩ := zix_ex h
            refine go_iald K_R_begin rfl za_41 i16 ?_
            refine go_bipush K_R_begin rfl zk_bipush_7 ?_
            obtain ⟨M17, h18, h⟩ := zbv_ex h
            refine go_vv (Y' := Y_R_wait) (av := [.inl (M13 41 (M13 41 l1.toNatClampNeg).toNatClampNeg), .inl (7 : Int32)]) (rest := []) K_R_begin rfl zl_12_228 zm_R_wait rfl (G_R_wait h18) (Nat.le_of_ble_eq_true rfl) (Nat.le_of_ble_eq_true rfl) rfl ?_
            refine go_goto K_R_begin rfl ?_
            cases h
            exact go_return K_R_begin rfl rfl
      · have h := zif_t c h
        refine go_aload_n K_R_begin rfl rfl ?_
        refine go_iload_n K_R_begin rfl rfl ?_
        refine go_iconst K_R_begin rfl zk_iconst_1 ?_
        obtain ⟨M19, h20, h⟩ := zbv_ex h
        refine go_vv (Y' := Y_R_wait) (av := [.inl l1, .inl (1 : Int32)]) (rest := []) K_R_begin rfl zl_12_228 zm_R_wait rfl (G_R_wait h20) (Nat.le_of_ble_eq_true rfl) (Nat.le_of_ble_eq_true rfl) rfl ?_
        refine go_aload_n K_R_begin rfl rfl ?_
        refine go_aload_n K_R_begin rfl rfl ?_
        refine go_getR K_R_begin rfl zf_12_28 ?_
        refine go_iload_n K_R_begin rfl rfl ?_
        obtain ⟨i21, h⟩ := zix_ex h
        refine go_iald K_R_begin rfl za_41 i21 ?_
        refine go_bipush K_R_begin rfl zk_bipush_6 ?_
        obtain ⟨M22, h23, h⟩ := zbv_ex h
        refine go_vv (Y' := Y_R_wait) (av := [.inl (M19 41 l1.toNatClampNeg), .inl (6 : Int32)]) (rest := []) K_R_begin rfl zl_12_228 zm_R_wait rfl (G_R_wait h23) (Nat.le_of_ble_eq_true rfl) (Nat.le_of_ble_eq_true rfl) rfl ?_
        refine go_goto K_R_begin rfl ?_
        cases h
        exact go_return K_R_begin rfl rfl
    · have h := zif_t c h
      refine go_aload_n K_R_begin rfl rfl ?_
      refine go_aload_n K_R_begin rfl rfl ?_
      refine go_aload_n K_R_begin rfl rfl ?_
      refine go_getR K_R_begin rfl zf_12_25 ?_
      refine go_iload_n K_R_begin rfl rfl ?_
      obtain ⟨i24, h⟩ := zix_ex h
      refine go_iald K_R_begin rfl za_40 i24 ?_
      obtain ⟨r27, M25, h26, h⟩ := zbi_ex h
      refine go_vi (Y' := Y_R_isLocal) (av := [.inl (M 40 l1.toNatClampNeg)]) (rest := [.inr 34]) K_R_begin rfl zl_12_222 zm_R_isLocal rfl (G_R_isLocal h26) (Nat.le_of_ble_eq_true rfl) (Nat.le_of_ble_eq_true rfl) rfl ?_
      refine go_if_eq K_R_begin rfl (fun c => ?_) (fun c => ?_)
      · have h := zif_t c h
        refine go_aload_n K_R_begin rfl rfl ?_
        refine go_getR K_R_begin rfl zf_12_82 ?_
        refine go_aload_n K_R_begin rfl rfl ?_
        refine go_getR K_R_begin rfl zf_12_25 ?_
        refine go_iload_n K_R_begin rfl rfl ?_
        obtain ⟨i28, h⟩ := zix_ex h
        refine go_iald K_R_begin rfl za_40 i28 ?_
        obtain ⟨i29, h⟩ := zix_ex h
        refine go_iald K_R_begin rfl za_59 i29 ?_
        exact go_forget (G_R_begin_p45 h) (zs_n (zs_n (zs_n zs_e)))
      · have h := zif_f c h
        refine go_aload_n K_R_begin rfl rfl ?_
        refine go_getR K_R_begin rfl zf_12_73 ?_
        refine go_bipush K_R_begin rfl zk_bipush_8 ?_
        refine go_aload_n K_R_begin rfl rfl ?_
        refine go_getI K_R_begin rfl zf_12_219 ?_
        refine go_imul K_R_begin rfl ?_
        refine go_aload_n K_R_begin rfl rfl ?_
        refine go_getR K_R_begin rfl zf_12_25 ?_
        refine go_iload_n K_R_begin rfl rfl ?_
        obtain ⟨i30, h⟩ := zix_ex h
        refine go_iald K_R_begin rfl za_40 i30 ?_
        refine go_iadd K_R_begin rfl ?_
        obtain ⟨i31, h⟩ := zix_ex h
        refine go_iald K_R_begin rfl za_56 i31 ?_
        refine go_goto K_R_begin rfl ?_
        exact go_forget (G_R_begin_p45 h) (zs_n (zs_n (zs_n zs_e)))
  · have h := zif_t c h
    refine go_aload_n K_R_begin rfl rfl ?_
    refine go_aload_n K_R_begin rfl rfl ?_
    refine go_getR K_R_begin rfl zf_12_25 ?_
    refine go_iload_n K_R_begin rfl rfl ?_
    obtain ⟨i32, h⟩ := zix_ex h
    refine go_iald K_R_begin rfl za_40 i32 ?_
    obtain ⟨M33, h34, h⟩ := zbv_ex h
    refine go_vv (Y' := Y_R_hold) (av := [.inl (M 40 l1.toNatClampNeg)]) (rest := []) K_R_begin rfl zl_12_225 zm_R_hold rfl (G_R_hold h34) (Nat.le_of_ble_eq_true rfl) (Nat.le_of_ble_eq_true rfl) rfl ?_
    refine go_goto K_R_begin rfl ?_
    cases h
    exact go_return K_R_begin rfl rfl
def F_R_isIn (M : zMem) (l1 l2 l3 : Int32) : Option (Int32 × zMem) :=
  if l1 < l2 then (some ((0 : Int32), M)) else (if l3 < l1 then (some ((0 : Int32), M)) else (some ((1 : Int32), M)))
set_option maxRecDepth 100000 in
theorem G_R_isIn {M : zMem} {l1 l2 l3 : Int32} {y : Int32 × zMem} (h : F_R_isIn M l1 l2 l3 = some y) : zGo Y_R_isIn 0 0 (zal Y_R_isIn [.inr 34, .inl l1, .inl l2, .inl l3]) [] M (some y.1) y.2 := by
  unfold F_R_isIn at h
  show zGo Y_R_isIn 0 0 [some (.inr 34), some (.inl l1), some (.inl l2), some (.inl l3)] [] M _ _
  refine go_iload_n K_R_isIn rfl rfl ?_
  refine go_iload_n K_R_isIn rfl rfl ?_
  refine go_icmp_lt K_R_isIn rfl (fun c => ?_) (fun c => ?_)
  · have h := zif_t c h
    refine go_iconst K_R_isIn rfl zk_iconst_0 ?_
    cases h
    exact go_zreturn K_R_isIn rfl rfl (Or.inl rfl)
  · have h := zif_f c h
    refine go_iload_n K_R_isIn rfl rfl ?_
    refine go_iload_n K_R_isIn rfl rfl ?_
    refine go_icmp_gt K_R_isIn rfl (fun c => ?_) (fun c => ?_)
    · have h := zif_t c h
      refine go_iconst K_R_isIn rfl zk_iconst_0 ?_
      cases h
      exact go_zreturn K_R_isIn rfl rfl (Or.inl rfl)
    · have h := zif_f c h
      refine go_iconst K_R_isIn rfl zk_iconst_1 ?_
      refine go_goto K_R_isIn rfl ?_
      cases h
      exact go_zreturn K_R_isIn rfl rfl (Or.inr rfl)
def F_R_beginsStatement (M : zMem) (l1 : Int32) : Option (Int32 × zMem) :=
  zbi (F_R_isIn M l1 (100 : Int32) (108 : Int32)) fun r3 M1 => if r3 = 0 then (zbi (F_R_isIn M1 l1 (110 : Int32) (113 : Int32)) fun r6 M4 => if r6 = 0 then (if l1 = (160 : Int32) then (some ((1 : Int32), M4)) else (if l1 = (164 : Int32) then (some ((1 : Int32), M4)) else (if l1 = (166 : Int32) then (some ((1 : Int32), M4)) else (if l1 = (168 : Int32) then (some ((1 : Int32), M4)) else (if l1 = (169 : Int32) then (some ((1 : Int32), M4)) else (some ((0 : Int32), M4))))))) else (some ((1 : Int32), M4))) else (some ((1 : Int32), M1))
set_option maxRecDepth 100000 in
theorem G_R_beginsStatement {M : zMem} {l1 : Int32} {y : Int32 × zMem} (h : F_R_beginsStatement M l1 = some y) : zGo Y_R_beginsStatement 1 0 (zal Y_R_beginsStatement [.inr 34, .inl l1]) [] M (some y.1) y.2 := by
  unfold F_R_beginsStatement at h
  show zGo Y_R_beginsStatement 1 0 [some (.inr 34), some (.inl l1)] [] M _ _
  refine go_aload_n K_R_beginsStatement rfl rfl ?_
  refine go_iload_n K_R_beginsStatement rfl rfl ?_
  refine go_bipush K_R_beginsStatement rfl zk_bipush_100 ?_
  refine go_bipush K_R_beginsStatement rfl zk_bipush_108 ?_
  obtain ⟨r3, M1, h2, h⟩ := zbi_ex h
  refine go_vi (Y' := Y_R_isIn) (av := [.inl l1, .inl (100 : Int32), .inl (108 : Int32)]) (rest := []) K_R_beginsStatement rfl zl_12_108 zm_R_isIn rfl (G_R_isIn h2) (Nat.le_of_ble_eq_true rfl) (Nat.le_of_ble_eq_true rfl) rfl ?_
  refine go_if_ne K_R_beginsStatement rfl (fun c => ?_) (fun c => ?_)
  · have h := zif_f c h
    refine go_iconst K_R_beginsStatement rfl zk_iconst_1 ?_
    refine go_goto K_R_beginsStatement rfl ?_
    cases h
    exact go_zreturn K_R_beginsStatement rfl rfl (Or.inr rfl)
  · have h := zif_t c h
    refine go_aload_n K_R_beginsStatement rfl rfl ?_
    refine go_iload_n K_R_beginsStatement rfl rfl ?_
    refine go_bipush K_R_beginsStatement rfl zk_bipush_110 ?_
    refine go_bipush K_R_beginsStatement rfl zk_bipush_113 ?_
    obtain ⟨r6, M4, h5, h⟩ := zbi_ex h
    refine go_vi (Y' := Y_R_isIn) (av := [.inl l1, .inl (110 : Int32), .inl (113 : Int32)]) (rest := []) K_R_beginsStatement rfl zl_12_108 zm_R_isIn rfl (G_R_isIn h5) (Nat.le_of_ble_eq_true rfl) (Nat.le_of_ble_eq_true rfl) rfl ?_
    refine go_if_ne K_R_beginsStatement rfl (fun c => ?_) (fun c => ?_)
    · have h := zif_f c h
      refine go_iconst K_R_beginsStatement rfl zk_iconst_1 ?_
      refine go_goto K_R_beginsStatement rfl ?_
      cases h
      exact go_zreturn K_R_beginsStatement rfl rfl (Or.inr rfl)
    · have h := zif_t c h
      refine go_iload_n K_R_beginsStatement rfl rfl ?_
      refine go_sipush K_R_beginsStatement rfl zk_sipush_160 ?_
      refine go_icmp_eq K_R_beginsStatement rfl (fun c => ?_) (fun c => ?_)
      · have h := zif_t c h
        refine go_iconst K_R_beginsStatement rfl zk_iconst_1 ?_
        refine go_goto K_R_beginsStatement rfl ?_
        cases h
        exact go_zreturn K_R_beginsStatement rfl rfl (Or.inr rfl)
      · have h := zif_f c h
        refine go_iload_n K_R_beginsStatement rfl rfl ?_
        refine go_sipush K_R_beginsStatement rfl zk_sipush_164 ?_
        refine go_icmp_eq K_R_beginsStatement rfl (fun c => ?_) (fun c => ?_)
        · have h := zif_t c h
          refine go_iconst K_R_beginsStatement rfl zk_iconst_1 ?_
          refine go_goto K_R_beginsStatement rfl ?_
          cases h
          exact go_zreturn K_R_beginsStatement rfl rfl (Or.inr rfl)
        · have h := zif_f c h
          refine go_iload_n K_R_beginsStatement rfl rfl ?_
          refine go_sipush K_R_beginsStatement rfl zk_sipush_166 ?_
          refine go_icmp_eq K_R_beginsStatement rfl (fun c => ?_) (fun c => ?_)
          · have h := zif_t c h
            refine go_iconst K_R_beginsStatement rfl zk_iconst_1 ?_
            refine go_goto K_R_beginsStatement rfl ?_
            cases h
            exact go_zreturn K_R_beginsStatement rfl rfl (Or.inr rfl)
          · have h := zif_f c h
            refine go_iload_n K_R_beginsStatement rfl rfl ?_
            refine go_sipush K_R_beginsStatement rfl zk_sipush_168 ?_
            refine go_icmp_eq K_R_beginsStatement rfl (fun c => ?_) (fun c => ?_)
            · have h := zif_t c h
              refine go_iconst K_R_beginsStatement rfl zk_iconst_1 ?_
              refine go_goto K_R_beginsStatement rfl ?_
              cases h
              exact go_zreturn K_R_beginsStatement rfl rfl (Or.inr rfl)
            · have h := zif_f c h
              refine go_iload_n K_R_beginsStatement rfl rfl ?_
              refine go_sipush K_R_beginsStatement rfl zk_sipush_169 ?_
              refine go_icmp_ne K_R_beginsStatement rfl (fun c => ?_) (fun c => ?_)
              · have h := zif_f c h
                refine go_iconst K_R_beginsStatement rfl zk_iconst_0 ?_
                cases h
                exact go_zreturn K_R_beginsStatement rfl rfl (Or.inl rfl)
              · have h := zif_t c h
                refine go_iconst K_R_beginsStatement rfl zk_iconst_1 ?_
                refine go_goto K_R_beginsStatement rfl ?_
                cases h
                exact go_zreturn K_R_beginsStatement rfl rfl (Or.inr rfl)
def F_R_call_p69 (N : Nat) : Nat → zMem → Int32 → Int32 → Option (zMem)
  | 0, _, _, _ => none
  | n + 1, M, l2, l3 =>
    zix l2 4 (if (M 47 l2.toNatClampNeg) ≤ l3 then (zbv (F_R_wait M (499 : Int32) (0 : Int32)) fun M2 => zix l2 4 (zix (M2 46 l2.toNatClampNeg) 400 (zbv (F_R_wait M2 (M2 41 (M2 46 l2.toNatClampNeg).toNatClampNeg) (7 : Int32)) fun M6 => some M6))) else (zix (((8 : Int32) * l2) + l3) 32 (zix ((M 34 35) + l3) 3600 (zix (((8 : Int32) * (M 34 38)) + (M 49 (((8 : Int32) * l2) + l3).toNatClampNeg)) 168 (zset M 56 (((8 : Int32) * (M 34 38)) + (M 49 (((8 : Int32) * l2) + l3).toNatClampNeg)).toNatClampNeg (M 55 ((M 34 35) + l3).toNatClampNeg) fun M11 => F_R_call_p69 N n M11 l2 (l3 + (1 : Int32)))))))
set_option maxRecDepth 100000 in
theorem G_R_call_p69 {N : Nat} : ∀ (n : Nat) {M : zMem} {l2 l3 : Int32} {y : zMem}, F_R_call_p69 N n M l2 l3 = some y → zGo Y_R_call 1 69 [some (.inr 34), none, some (.inl l2), some (.inl l3)] [] M none y := by
  intro n
  induction n with
  | zero =>
    intro M l2 l3 y h
    unfold F_R_call_p69 at h
    cases h
  | succ n ih =>
    intro M l2 l3 y h
    unfold F_R_call_p69 at h
    refine go_iload_n K_R_call rfl rfl ?_
    refine go_aload_n K_R_call rfl rfl ?_
    refine go_getR K_R_call rfl zf_12_46 ?_
    refine go_iload_n K_R_call rfl rfl ?_
    obtain ⟨i1, h⟩ := zix_ex h
    refine go_iald K_R_call rfl za_47 i1 ?_
    refine go_icmp_ge K_R_call rfl (fun c => ?_) (fun c => ?_)
    · have h := zif_t c h
      refine go_aload_n K_R_call rfl rfl ?_
      refine go_sipush K_R_call rfl zk_sipush_499 ?_
      refine go_iconst K_R_call rfl zk_iconst_0 ?_
      obtain ⟨M2, h3, h⟩ := zbv_ex h
      refine go_vv (Y' := Y_R_wait) (av := [.inl (499 : Int32), .inl (0 : Int32)]) (rest := []) K_R_call rfl zl_12_228 zm_R_wait rfl (G_R_wait h3) (Nat.le_of_ble_eq_true rfl) (Nat.le_of_ble_eq_true rfl) rfl ?_
      refine go_aload_n K_R_call rfl rfl ?_
      refine go_aload_n K_R_call rfl rfl ?_
      refine go_getR K_R_call rfl zf_12_28 ?_
      refine go_aload_n K_R_call rfl rfl ?_
      refine go_getR K_R_call rfl zf_12_43 ?_
      refine go_iload_n K_R_call rfl rfl ?_
      obtain ⟨i4, h⟩ := zix_ex h
      refine go_iald K_R_call rfl za_46 i4 ?_
      obtain ⟨i5, h⟩ := zix_ex h
      refine go_iald K_R_call rfl za_41 i5 ?_
      refine go_bipush K_R_call rfl zk_bipush_7 ?_
      obtain ⟨M6, h7, h⟩ := zbv_ex h
      refine go_vv (Y' := Y_R_wait) (av := [.inl (M2 41 (M2 46 l2.toNatClampNeg).toNatClampNeg), .inl (7 : Int32)]) (rest := []) K_R_call rfl zl_12_228 zm_R_wait rfl (G_R_wait h7) (Nat.le_of_ble_eq_true rfl) (Nat.le_of_ble_eq_true rfl) rfl ?_
      cases h
      exact go_return K_R_call rfl rfl
    · have h := zif_f c h
      refine go_aload_n K_R_call rfl rfl ?_
      refine go_getR K_R_call rfl zf_12_73 ?_
      refine go_bipush K_R_call rfl zk_bipush_8 ?_
      refine go_aload_n K_R_call rfl rfl ?_
      refine go_getI K_R_call rfl zf_12_219 ?_
      refine go_imul K_R_call rfl ?_
      refine go_aload_n K_R_call rfl rfl ?_
      refine go_getR K_R_call rfl zf_12_52 ?_
      refine go_bipush K_R_call rfl zk_bipush_8 ?_
      refine go_iload_n K_R_call rfl rfl ?_
      refine go_imul K_R_call rfl ?_
      refine go_iload_n K_R_call rfl rfl ?_
      refine go_iadd K_R_call rfl ?_
      obtain ⟨i8, h⟩ := zix_ex h
      refine go_iald K_R_call rfl za_49 i8 ?_
      refine go_iadd K_R_call rfl ?_
      refine go_aload_n K_R_call rfl rfl ?_
      refine go_getR K_R_call rfl zf_12_70 ?_
      refine go_aload_n K_R_call rfl rfl ?_
      refine go_getI K_R_call rfl zf_12_210 ?_
      refine go_iload_n K_R_call rfl rfl ?_
      refine go_iadd K_R_call rfl ?_
      obtain ⟨i9, h⟩ := zix_ex h
      refine go_iald K_R_call rfl za_55 i9 ?_
      obtain ⟨i10, h⟩ := zix_ex h
      obtain ⟨M11, e12, h⟩ := zset_ex h
      refine go_iast' e12 K_R_call rfl za_56 i10 ?_
      refine go_iinc (v := l3 + (1 : Int32)) K_R_call rfl rfl zinc_1 ?_
      refine go_goto K_R_call rfl ?_
      exact go_forget (ih h) (zs_s (zs_n (zs_s (zs_s zs_e))))
def F_R_call_p52 (N : Nat) : Nat → zMem → Int32 → Int32 → Option (zMem)
  | 0, _, _, _ => none
  | n + 1, M, l2, l3 =>
    if (8 : Int32) ≤ l3 then (F_R_call_p69 N N M l2 ((0 : Int32))) else (zix (((8 : Int32) * (M 34 38)) + l3) 168 (zset M 56 (((8 : Int32) * (M 34 38)) + l3).toNatClampNeg ((0 : Int32)) fun M2 => F_R_call_p52 N n M2 l2 (l3 + (1 : Int32))))
set_option maxRecDepth 100000 in
theorem G_R_call_p52 {N : Nat} : ∀ (n : Nat) {M : zMem} {l2 l3 : Int32} {y : zMem}, F_R_call_p52 N n M l2 l3 = some y → zGo Y_R_call 1 52 [some (.inr 34), none, some (.inl l2), some (.inl l3)] [] M none y := by
  intro n
  induction n with
  | zero =>
    intro M l2 l3 y h
    unfold F_R_call_p52 at h
    cases h
  | succ n ih =>
    intro M l2 l3 y h
    unfold F_R_call_p52 at h
    refine go_iload_n K_R_call rfl rfl ?_
    refine go_bipush K_R_call rfl zk_bipush_8 ?_
    refine go_icmp_ge K_R_call rfl (fun c => ?_) (fun c => ?_)
    · have h := zif_t c h
      refine go_iconst K_R_call rfl zk_iconst_0 ?_
      refine go_istore_n K_R_call rfl (Nat.le_of_ble_eq_true rfl) ?_
      exact go_forget (G_R_call_p69 _ h) (zs_s (zs_n (zs_s (zs_s zs_e))))
    · have h := zif_f c h
      refine go_aload_n K_R_call rfl rfl ?_
      refine go_getR K_R_call rfl zf_12_73 ?_
      refine go_bipush K_R_call rfl zk_bipush_8 ?_
      refine go_aload_n K_R_call rfl rfl ?_
      refine go_getI K_R_call rfl zf_12_219 ?_
      refine go_imul K_R_call rfl ?_
      refine go_iload_n K_R_call rfl rfl ?_
      refine go_iadd K_R_call rfl ?_
      refine go_iconst K_R_call rfl zk_iconst_0 ?_
      obtain ⟨i1, h⟩ := zix_ex h
      obtain ⟨M2, e3, h⟩ := zset_ex h
      refine go_iast' e3 K_R_call rfl za_56 i1 ?_
      refine go_iinc (v := l3 + (1 : Int32)) K_R_call rfl rfl zinc_1 ?_
      refine go_goto K_R_call rfl ?_
      exact go_forget (ih h) (zs_s (zs_n (zs_s (zs_s zs_e))))
def F_R_call_p34 (N : Nat) (M : zMem) (l2 s1 : Int32) : Option (zMem) :=
  zset M 34 39 s1 fun M1 => zix (M1 34 38) 21 (zset M1 57 (M1 34 38).toNatClampNeg l2 fun M4 => zix l2 4 (zset M4 34 35 ((M4 34 35) - (M4 47 l2.toNatClampNeg)) fun M7 => F_R_call_p52 N N M7 l2 ((0 : Int32))))
set_option maxRecDepth 100000 in
theorem G_R_call_p34 {N : Nat} {M : zMem} {l2 s1 : Int32} {y : zMem} (h : F_R_call_p34 N M l2 s1 = some y) : zGo Y_R_call 1 34 [some (.inr 34), none, some (.inl l2), none] [.inl s1, .inr 34] M none y := by
  unfold F_R_call_p34 at h
  obtain ⟨M1, e2, h⟩ := zset_ex h
  refine go_putI' e2 K_R_call rfl zf_12_235 ?_
  refine go_aload_n K_R_call rfl rfl ?_
  refine go_getR K_R_call rfl zf_12_76 ?_
  refine go_aload_n K_R_call rfl rfl ?_
  refine go_getI K_R_call rfl zf_12_219 ?_
  refine go_iload_n K_R_call rfl rfl ?_
  obtain ⟨i3, h⟩ := zix_ex h
  obtain ⟨M4, e5, h⟩ := zset_ex h
  refine go_iast' e5 K_R_call rfl za_57 i3 ?_
  refine go_aload_n K_R_call rfl rfl ?_
  refine go_aload_n K_R_call rfl rfl ?_
  refine go_getI K_R_call rfl zf_12_210 ?_
  refine go_aload_n K_R_call rfl rfl ?_
  refine go_getR K_R_call rfl zf_12_46 ?_
  refine go_iload_n K_R_call rfl rfl ?_
  obtain ⟨i6, h⟩ := zix_ex h
  refine go_iald K_R_call rfl za_47 i6 ?_
  refine go_isub K_R_call rfl ?_
  obtain ⟨M7, e8, h⟩ := zset_ex h
  refine go_putI' e8 K_R_call rfl zf_12_210 ?_
  refine go_iconst K_R_call rfl zk_iconst_0 ?_
  refine go_istore_n K_R_call rfl (Nat.le_of_ble_eq_true rfl) ?_
  exact go_forget (G_R_call_p52 _ h) (zs_s (zs_n (zs_s (zs_s zs_e))))
def F_R_call (N : Nat) (M : zMem) (l1 : Int32) : Option (zMem) :=
  zix l1 400 (zbi (F_R_takeTurn M ) fun r4 M2 => if r4 = 0 then (some M2) else (if (M2 34 38) = (20 : Int32) then (zset M2 34 45 ((2 : Int32)) fun M7 => some M7) else (zset M2 34 38 ((M2 34 38) + (1 : Int32)) fun M5 => if (M5 34 38) ≤ (M5 34 39) then (F_R_call_p34 N M5 (M 40 l1.toNatClampNeg) (M5 34 39)) else (F_R_call_p34 N M5 (M 40 l1.toNatClampNeg) (M5 34 38)))))
set_option maxRecDepth 100000 in
theorem G_R_call {N : Nat} {M : zMem} {l1 : Int32} {y : zMem} (h : F_R_call N M l1 = some y) : zGo Y_R_call 1 0 (zal Y_R_call [.inr 34, .inl l1]) [] M none y := by
  unfold F_R_call at h
  show zGo Y_R_call 1 0 [some (.inr 34), some (.inl l1), none, none] [] M _ _
  refine go_aload_n K_R_call rfl rfl ?_
  refine go_getR K_R_call rfl zf_12_25 ?_
  refine go_iload_n K_R_call rfl rfl ?_
  obtain ⟨i1, h⟩ := zix_ex h
  refine go_iald K_R_call rfl za_40 i1 ?_
  refine go_istore_n K_R_call rfl (Nat.le_of_ble_eq_true rfl) ?_
  refine go_aload_n K_R_call rfl rfl ?_
  obtain ⟨r4, M2, h3, h⟩ := zbi_ex h
  refine go_vi (Y' := Y_R_takeTurn) (av := []) (rest := []) K_R_call rfl zl_12_231 zm_R_takeTurn rfl (G_R_takeTurn h3) (Nat.le_of_ble_eq_true rfl) (Nat.le_of_ble_eq_true rfl) rfl ?_
  refine go_if_ne K_R_call rfl (fun c => ?_) (fun c => ?_)
  · have h := zif_f c h
    refine go_aload_n K_R_call rfl rfl ?_
    refine go_getI K_R_call rfl zf_12_219 ?_
    refine go_bipush K_R_call rfl zk_bipush_20 ?_
    refine go_icmp_ne K_R_call rfl (fun c => ?_) (fun c => ?_)
    · have h := zif_f c h
      refine go_aload_n K_R_call rfl rfl ?_
      refine go_dup K_R_call rfl ?_
      refine go_getI K_R_call rfl zf_12_219 ?_
      refine go_iconst K_R_call rfl zk_iconst_1 ?_
      refine go_iadd K_R_call rfl ?_
      obtain ⟨M5, e6, h⟩ := zset_ex h
      refine go_putI' e6 K_R_call rfl zf_12_219 ?_
      refine go_aload_n K_R_call rfl rfl ?_
      refine go_aload_n K_R_call rfl rfl ?_
      refine go_getI K_R_call rfl zf_12_219 ?_
      refine go_aload_n K_R_call rfl rfl ?_
      refine go_getI K_R_call rfl zf_12_235 ?_
      refine go_icmp_le K_R_call rfl (fun c => ?_) (fun c => ?_)
      · have h := zif_t c h
        refine go_aload_n K_R_call rfl rfl ?_
        refine go_getI K_R_call rfl zf_12_235 ?_
        exact go_forget (G_R_call_p34 h) (zs_s (zs_n (zs_s (zs_n zs_e))))
      · have h := zif_f c h
        refine go_aload_n K_R_call rfl rfl ?_
        refine go_getI K_R_call rfl zf_12_219 ?_
        refine go_goto K_R_call rfl ?_
        exact go_forget (G_R_call_p34 h) (zs_s (zs_n (zs_s (zs_n zs_e))))
    · have h := zif_t c h
      refine go_aload_n K_R_call rfl rfl ?_
      refine go_iconst K_R_call rfl zk_iconst_2 ?_
      obtain ⟨M7, e8, h⟩ := zset_ex h
      refine go_putI' e8 K_R_call rfl zf_12_216 ?_
      cases h
      exact go_return K_R_call rfl rfl
  · have h := zif_t c h
    cases h
    exact go_return K_R_call rfl rfl
def F_R_cell (M : zMem) (l1 l2 : Int32) : Option (Int32 × zMem) :=
  if l1 < 0 then (some ((-1 : Int32), M)) else (if l1 ≤ (15 : Int32) then (zix l1 16 (zset M 37 l1.toNatClampNeg l2 fun M2 => some ((0 : Int32), M2))) else (some ((-1 : Int32), M)))
set_option maxRecDepth 100000 in
theorem G_R_cell {M : zMem} {l1 l2 : Int32} {y : Int32 × zMem} (h : F_R_cell M l1 l2 = some y) : zGo Y_R_cell 0 0 (zal Y_R_cell [.inr 34, .inl l1, .inl l2]) [] M (some y.1) y.2 := by
  unfold F_R_cell at h
  show zGo Y_R_cell 0 0 [some (.inr 34), some (.inl l1), some (.inl l2)] [] M _ _
  refine go_iload_n K_R_cell rfl rfl ?_
  refine go_if_lt K_R_cell rfl (fun c => ?_) (fun c => ?_)
  · have h := zif_t c h
    refine go_iconst K_R_cell rfl zk_iconst_m1 ?_
    cases h
    exact go_ireturn K_R_cell rfl rfl
  · have h := zif_f c h
    refine go_iload_n K_R_cell rfl rfl ?_
    refine go_bipush K_R_cell rfl zk_bipush_15 ?_
    refine go_icmp_le K_R_cell rfl (fun c => ?_) (fun c => ?_)
    · have h := zif_t c h
      refine go_aload_n K_R_cell rfl rfl ?_
      refine go_getR K_R_cell rfl zf_12_16 ?_
      refine go_iload_n K_R_cell rfl rfl ?_
      refine go_iload_n K_R_cell rfl rfl ?_
      obtain ⟨i1, h⟩ := zix_ex h
      obtain ⟨M2, e3, h⟩ := zset_ex h
      refine go_iast' e3 K_R_cell rfl za_37 i1 ?_
      refine go_iconst K_R_cell rfl zk_iconst_0 ?_
      cases h
      exact go_ireturn K_R_cell rfl rfl
    · have h := zif_f c h
      refine go_iconst K_R_cell rfl zk_iconst_m1 ?_
      cases h
      exact go_ireturn K_R_cell rfl rfl
def F_R_node (M : zMem) (l1 l2 l3 l4 : Int32) : Option (Int32 × zMem) :=
  zix (M 34 14) 400 (zset M 39 (M 34 14).toNatClampNeg l1 fun M2 => zix (M2 34 14) 400 (zset M2 40 (M2 34 14).toNatClampNeg l2 fun M5 => zix (M5 34 14) 400 (zset M5 41 (M5 34 14).toNatClampNeg l3 fun M8 => zix (M8 34 14) 400 (zset M8 42 (M8 34 14).toNatClampNeg l4 fun M11 => zix (M11 34 14) 400 (zset M11 43 (M11 34 14).toNatClampNeg ((-1 : Int32)) fun M14 => zix (M14 34 14) 400 (zset M14 44 (M14 34 14).toNatClampNeg ((-1 : Int32)) fun M17 => zset M17 34 14 ((M17 34 14) + (1 : Int32)) fun M19 => some ((M19 34 14) - (1 : Int32), M19)))))))
set_option maxRecDepth 100000 in
theorem G_R_node {M : zMem} {l1 l2 l3 l4 : Int32} {y : Int32 × zMem} (h : F_R_node M l1 l2 l3 l4 = some y) : zGo Y_R_node 0 0 (zal Y_R_node [.inr 34, .inl l1, .inl l2, .inl l3, .inl l4]) [] M (some y.1) y.2 := by
  unfold F_R_node at h
  show zGo Y_R_node 0 0 [some (.inr 34), some (.inl l1), some (.inl l2), some (.inl l3), some (.inl l4)] [] M _ _
  refine go_aload_n K_R_node rfl rfl ?_
  refine go_getR K_R_node rfl zf_12_22 ?_
  refine go_aload_n K_R_node rfl rfl ?_
  refine go_getI K_R_node rfl zf_12_102 ?_
  refine go_iload_n K_R_node rfl rfl ?_
  obtain ⟨i1, h⟩ := zix_ex h
  obtain ⟨M2, e3, h⟩ := zset_ex h
  refine go_iast' e3 K_R_node rfl za_39 i1 ?_
  refine go_aload_n K_R_node rfl rfl ?_
  refine go_getR K_R_node rfl zf_12_25 ?_
  refine go_aload_n K_R_node rfl rfl ?_
  refine go_getI K_R_node rfl zf_12_102 ?_
  refine go_iload_n K_R_node rfl rfl ?_
  obtain ⟨i4, h⟩ := zix_ex h
  obtain ⟨M5, e6, h⟩ := zset_ex h
  refine go_iast' e6 K_R_node rfl za_40 i4 ?_
  refine go_aload_n K_R_node rfl rfl ?_
  refine go_getR K_R_node rfl zf_12_28 ?_
  refine go_aload_n K_R_node rfl rfl ?_
  refine go_getI K_R_node rfl zf_12_102 ?_
  refine go_iload_n K_R_node rfl rfl ?_
  obtain ⟨i7, h⟩ := zix_ex h
  obtain ⟨M8, e9, h⟩ := zset_ex h
  refine go_iast' e9 K_R_node rfl za_41 i7 ?_
  refine go_aload_n K_R_node rfl rfl ?_
  refine go_getR K_R_node rfl zf_12_31 ?_
  refine go_aload_n K_R_node rfl rfl ?_
  refine go_getI K_R_node rfl zf_12_102 ?_
  refine go_iload K_R_node rfl rfl ?_
  obtain ⟨i10, h⟩ := zix_ex h
  obtain ⟨M11, e12, h⟩ := zset_ex h
  refine go_iast' e12 K_R_node rfl za_42 i10 ?_
  refine go_aload_n K_R_node rfl rfl ?_
  refine go_getR K_R_node rfl zf_12_34 ?_
  refine go_aload_n K_R_node rfl rfl ?_
  refine go_getI K_R_node rfl zf_12_102 ?_
  refine go_iconst K_R_node rfl zk_iconst_m1 ?_
  obtain ⟨i13, h⟩ := zix_ex h
  obtain ⟨M14, e15, h⟩ := zset_ex h
  refine go_iast' e15 K_R_node rfl za_43 i13 ?_
  refine go_aload_n K_R_node rfl rfl ?_
  refine go_getR K_R_node rfl zf_12_37 ?_
  refine go_aload_n K_R_node rfl rfl ?_
  refine go_getI K_R_node rfl zf_12_102 ?_
  refine go_iconst K_R_node rfl zk_iconst_m1 ?_
  obtain ⟨i16, h⟩ := zix_ex h
  obtain ⟨M17, e18, h⟩ := zset_ex h
  refine go_iast' e18 K_R_node rfl za_44 i16 ?_
  refine go_aload_n K_R_node rfl rfl ?_
  refine go_dup K_R_node rfl ?_
  refine go_getI K_R_node rfl zf_12_102 ?_
  refine go_iconst K_R_node rfl zk_iconst_1 ?_
  refine go_iadd K_R_node rfl ?_
  obtain ⟨M19, e20, h⟩ := zset_ex h
  refine go_putI' e20 K_R_node rfl zf_12_102 ?_
  refine go_aload_n K_R_node rfl rfl ?_
  refine go_getI K_R_node rfl zf_12_102 ?_
  refine go_iconst K_R_node rfl zk_iconst_1 ?_
  refine go_isub K_R_node rfl ?_
  cases h
  exact go_ireturn K_R_node rfl rfl
def F_R_pop (M : zMem) : Option (Int32 × zMem) :=
  zset M 34 16 ((M 34 16) - (1 : Int32)) fun M1 => zix (M1 34 16) 300 (some (M1 45 (M1 34 16).toNatClampNeg, M1))
set_option maxRecDepth 100000 in
theorem G_R_pop {M : zMem} {y : Int32 × zMem} (h : F_R_pop M  = some y) : zGo Y_R_pop 0 0 (zal Y_R_pop [.inr 34]) [] M (some y.1) y.2 := by
  unfold F_R_pop at h
  show zGo Y_R_pop 0 0 [some (.inr 34)] [] M _ _
  refine go_aload_n K_R_pop rfl rfl ?_
  refine go_dup K_R_pop rfl ?_
  refine go_getI K_R_pop rfl zf_12_105 ?_
  refine go_iconst K_R_pop rfl zk_iconst_1 ?_
  refine go_isub K_R_pop rfl ?_
  obtain ⟨M1, e2, h⟩ := zset_ex h
  refine go_putI' e2 K_R_pop rfl zf_12_105 ?_
  refine go_aload_n K_R_pop rfl rfl ?_
  refine go_getR K_R_pop rfl zf_12_40 ?_
  refine go_aload_n K_R_pop rfl rfl ?_
  refine go_getI K_R_pop rfl zf_12_105 ?_
  obtain ⟨i3, h⟩ := zix_ex h
  refine go_iald K_R_pop rfl za_45 i3 ?_
  cases h
  exact go_ireturn K_R_pop rfl rfl
def F_R_push (M : zMem) (l1 : Int32) : Option (zMem) :=
  zix (M 34 16) 300 (zset M 45 (M 34 16).toNatClampNeg l1 fun M2 => zset M2 34 16 ((M2 34 16) + (1 : Int32)) fun M4 => some M4)
set_option maxRecDepth 100000 in
theorem G_R_push {M : zMem} {l1 : Int32} {y : zMem} (h : F_R_push M l1 = some y) : zGo Y_R_push 0 0 (zal Y_R_push [.inr 34, .inl l1]) [] M none y := by
  unfold F_R_push at h
  show zGo Y_R_push 0 0 [some (.inr 34), some (.inl l1)] [] M _ _
  refine go_aload_n K_R_push rfl rfl ?_
  refine go_getR K_R_push rfl zf_12_40 ?_
  refine go_aload_n K_R_push rfl rfl ?_
  refine go_getI K_R_push rfl zf_12_105 ?_
  refine go_iload_n K_R_push rfl rfl ?_
  obtain ⟨i1, h⟩ := zix_ex h
  obtain ⟨M2, e3, h⟩ := zset_ex h
  refine go_iast' e3 K_R_push rfl za_45 i1 ?_
  refine go_aload_n K_R_push rfl rfl ?_
  refine go_dup K_R_push rfl ?_
  refine go_getI K_R_push rfl zf_12_105 ?_
  refine go_iconst K_R_push rfl zk_iconst_1 ?_
  refine go_iadd K_R_push rfl ?_
  obtain ⟨M4, e5, h⟩ := zset_ex h
  refine go_putI' e5 K_R_push rfl zf_12_105 ?_
  cases h
  exact go_return K_R_push rfl rfl
def F_R_finishPart_p114 (M : zMem) (l3 s1 : Int32) : Option (zMem) :=
  zbi (F_R_node M s1 (0 : Int32) l3 (-1 : Int32)) fun r3 M1 => zbv (F_R_push M1 r3) fun M4 => some M4
set_option maxRecDepth 100000 in
theorem G_R_finishPart_p114 {M : zMem} {l3 s1 : Int32} {y : zMem} (h : F_R_finishPart_p114 M l3 s1 = some y) : zGo Y_R_finishPart 1 114 [some (.inr 34), none, none, some (.inl l3), none, none] [.inl s1, .inr 34] M none y := by
  unfold F_R_finishPart_p114 at h
  refine go_iconst K_R_finishPart rfl zk_iconst_0 ?_
  refine go_iload_n K_R_finishPart rfl rfl ?_
  refine go_iconst K_R_finishPart rfl zk_iconst_m1 ?_
  obtain ⟨r3, M1, h2, h⟩ := zbi_ex h
  refine go_vi (Y' := Y_R_node) (av := [.inl s1, .inl (0 : Int32), .inl l3, .inl (-1 : Int32)]) (rest := []) K_R_finishPart rfl zl_12_120 zm_R_node rfl (G_R_node h2) (Nat.le_of_ble_eq_true rfl) (Nat.le_of_ble_eq_true rfl) rfl ?_
  refine go_istore K_R_finishPart rfl (Nat.le_of_ble_eq_true rfl) ?_
  refine go_aload_n K_R_finishPart rfl rfl ?_
  refine go_iload K_R_finishPart rfl rfl ?_
  obtain ⟨M4, h5, h⟩ := zbv_ex h
  refine go_vv (Y' := Y_R_push) (av := [.inl r3]) (rest := []) K_R_finishPart rfl zl_12_124 zm_R_push rfl (G_R_push h5) (Nat.le_of_ble_eq_true rfl) (Nat.le_of_ble_eq_true rfl) rfl ?_
  cases h
  exact go_return K_R_finishPart rfl rfl
def F_R_finishPart (M : zMem) (l1 l2 : Int32) : Option (zMem) :=
  if l1 = (2 : Int32) then (zbi (F_R_pop M ) fun r43 M41 => zset M41 34 24 r43 fun M44 => some M44) else (if l1 = (3 : Int32) then (zbi (F_R_pop M ) fun r29 M27 => zix (M27 34 27) 30 (zset M27 51 (M27 34 27).toNatClampNeg r29 fun M31 => zset M31 34 27 ((M31 34 27) + (1 : Int32)) fun M33 => if (M33 34 23) = 0 then (zix (M33 34 21) 4 (zset M33 46 (M33 34 21).toNatClampNeg r29 fun M36 => zix (M36 34 21) 4 (zset M36 48 (M36 34 21).toNatClampNeg (M36 34 22) fun M39 => some M39))) else (some M33))) else (if l1 = (4 : Int32) then (zbi (F_R_pop M ) fun r23 M21 => zix ((M21 34 16) - (1 : Int32)) 300 (zbv (F_R_append M21 (M21 45 ((M21 34 16) - (1 : Int32)).toNatClampNeg) r23) fun M25 => some M25)) else (if l1 = (5 : Int32) then (zbi (F_R_pop M ) fun r12 M10 => zbi (F_R_pop M10 ) fun r15 M13 => zbi (F_R_node M13 l2 (0 : Int32) r15 r12) fun r18 M16 => zbv (F_R_push M16 r18) fun M19 => some M19) else (if l1 = (9 : Int32) then (zbi (F_R_pop M ) fun r6 M4 => zix ((M4 34 16) - (1 : Int32)) 300 (zbv (F_R_append M4 (M4 45 ((M4 34 16) - (1 : Int32)).toNatClampNeg) r6) fun M8 => some M8)) else (zbi (F_R_pop M ) fun r3 M1 => if l1 = (6 : Int32) then (F_R_finishPart_p114 M1 r3 ((6 : Int32))) else (if l1 = (7 : Int32) then (F_R_finishPart_p114 M1 r3 ((2 : Int32))) else (F_R_finishPart_p114 M1 r3 ((5 : Int32)))))))))
set_option maxRecDepth 100000 in
theorem G_R_finishPart {M : zMem} {l1 l2 : Int32} {y : zMem} (h : F_R_finishPart M l1 l2 = some y) : zGo Y_R_finishPart 1 0 (zal Y_R_finishPart [.inr 34, .inl l1, .inl l2]) [] M none y := by
  unfold F_R_finishPart at h
  show zGo Y_R_finishPart 1 0 [some (.inr 34), some (.inl l1), some (.inl l2), none, none, none] [] M _ _
  refine go_iload_n K_R_finishPart rfl rfl ?_
  refine go_iconst K_R_finishPart rfl zk_iconst_2 ?_
  refine go_icmp_ne K_R_finishPart rfl (fun c => ?_) (fun c => ?_)
  · have h := zif_f c h
    refine go_iload_n K_R_finishPart rfl rfl ?_
    refine go_iconst K_R_finishPart rfl zk_iconst_3 ?_
    refine go_icmp_ne K_R_finishPart rfl (fun c => ?_) (fun c => ?_)
    · have h := zif_f c h
      refine go_iload_n K_R_finishPart rfl rfl ?_
      refine go_iconst K_R_finishPart rfl zk_iconst_4 ?_
      refine go_icmp_ne K_R_finishPart rfl (fun c => ?_) (fun c => ?_)
      · have h := zif_f c h
        refine go_iload_n K_R_finishPart rfl rfl ?_
        refine go_iconst K_R_finishPart rfl zk_iconst_5 ?_
        refine go_icmp_ne K_R_finishPart rfl (fun c => ?_) (fun c => ?_)
        · have h := zif_f c h
          refine go_iload_n K_R_finishPart rfl rfl ?_
          refine go_bipush K_R_finishPart rfl zk_bipush_9 ?_
          refine go_icmp_ne K_R_finishPart rfl (fun c => ?_) (fun c => ?_)
          · have h := zif_f c h
            refine go_aload_n K_R_finishPart rfl rfl ?_
            obtain ⟨r3, M1, h2, h⟩ := zbi_ex h
            refine go_vi (Y' := Y_R_pop) (av := []) (rest := []) K_R_finishPart rfl zl_12_153 zm_R_pop rfl (G_R_pop h2) (Nat.le_of_ble_eq_true rfl) (Nat.le_of_ble_eq_true rfl) rfl ?_
            refine go_istore_n K_R_finishPart rfl (Nat.le_of_ble_eq_true rfl) ?_
            refine go_aload_n K_R_finishPart rfl rfl ?_
            refine go_iload_n K_R_finishPart rfl rfl ?_
            refine go_bipush K_R_finishPart rfl zk_bipush_6 ?_
            refine go_icmp_ne K_R_finishPart rfl (fun c => ?_) (fun c => ?_)
            · have h := zif_f c h
              refine go_iload_n K_R_finishPart rfl rfl ?_
              refine go_bipush K_R_finishPart rfl zk_bipush_7 ?_
              refine go_icmp_ne K_R_finishPart rfl (fun c => ?_) (fun c => ?_)
              · have h := zif_f c h
                refine go_iconst K_R_finishPart rfl zk_iconst_5 ?_
                exact go_forget (G_R_finishPart_p114 h) (zs_s (zs_n (zs_n (zs_s (zs_n (zs_n zs_e))))))
              · have h := zif_t c h
                refine go_iconst K_R_finishPart rfl zk_iconst_2 ?_
                refine go_goto K_R_finishPart rfl ?_
                exact go_forget (G_R_finishPart_p114 h) (zs_s (zs_n (zs_n (zs_s (zs_n (zs_n zs_e))))))
            · have h := zif_t c h
              refine go_bipush K_R_finishPart rfl zk_bipush_6 ?_
              refine go_goto K_R_finishPart rfl ?_
              exact go_forget (G_R_finishPart_p114 h) (zs_s (zs_n (zs_n (zs_s (zs_n (zs_n zs_e))))))
          · have h := zif_t c h
            refine go_aload_n K_R_finishPart rfl rfl ?_
            obtain ⟨r6, M4, h5, h⟩ := zbi_ex h
            refine go_vi (Y' := Y_R_pop) (av := []) (rest := []) K_R_finishPart rfl zl_12_153 zm_R_pop rfl (G_R_pop h5) (Nat.le_of_ble_eq_true rfl) (Nat.le_of_ble_eq_true rfl) rfl ?_
            refine go_istore_n K_R_finishPart rfl (Nat.le_of_ble_eq_true rfl) ?_
            refine go_aload_n K_R_finishPart rfl rfl ?_
            refine go_getR K_R_finishPart rfl zf_12_40 ?_
            refine go_aload_n K_R_finishPart rfl rfl ?_
            refine go_getI K_R_finishPart rfl zf_12_105 ?_
            refine go_iconst K_R_finishPart rfl zk_iconst_1 ?_
            refine go_isub K_R_finishPart rfl ?_
            obtain ⟨i7, h⟩ := zix_ex h
            refine go_iald K_R_finishPart rfl za_45 i7 ?_
            refine go_istore K_R_finishPart rfl (Nat.le_of_ble_eq_true rfl) ?_
            refine go_aload_n K_R_finishPart rfl rfl ?_
            refine go_iload K_R_finishPart rfl rfl ?_
            refine go_iload_n K_R_finishPart rfl rfl ?_
            obtain ⟨M8, h9, h⟩ := zbv_ex h
            refine go_vv (Y' := Y_R_append) (av := [.inl (M4 45 ((M4 34 16) - (1 : Int32)).toNatClampNeg), .inl r6]) (rest := []) K_R_finishPart rfl zl_12_160 zm_R_append rfl (G_R_append h9) (Nat.le_of_ble_eq_true rfl) (Nat.le_of_ble_eq_true rfl) rfl ?_
            refine go_goto K_R_finishPart rfl ?_
            cases h
            exact go_return K_R_finishPart rfl rfl
        · have h := zif_t c h
          refine go_aload_n K_R_finishPart rfl rfl ?_
          obtain ⟨r12, M10, h11, h⟩ := zbi_ex h
          refine go_vi (Y' := Y_R_pop) (av := []) (rest := []) K_R_finishPart rfl zl_12_153 zm_R_pop rfl (G_R_pop h11) (Nat.le_of_ble_eq_true rfl) (Nat.le_of_ble_eq_true rfl) rfl ?_
          refine go_istore_n K_R_finishPart rfl (Nat.le_of_ble_eq_true rfl) ?_
          refine go_aload_n K_R_finishPart rfl rfl ?_
          obtain ⟨r15, M13, h14, h⟩ := zbi_ex h
          refine go_vi (Y' := Y_R_pop) (av := []) (rest := []) K_R_finishPart rfl zl_12_153 zm_R_pop rfl (G_R_pop h14) (Nat.le_of_ble_eq_true rfl) (Nat.le_of_ble_eq_true rfl) rfl ?_
          refine go_istore K_R_finishPart rfl (Nat.le_of_ble_eq_true rfl) ?_
          refine go_aload_n K_R_finishPart rfl rfl ?_
          refine go_iload_n K_R_finishPart rfl rfl ?_
          refine go_iconst K_R_finishPart rfl zk_iconst_0 ?_
          refine go_iload K_R_finishPart rfl rfl ?_
          refine go_iload_n K_R_finishPart rfl rfl ?_
          obtain ⟨r18, M16, h17, h⟩ := zbi_ex h
          refine go_vi (Y' := Y_R_node) (av := [.inl l2, .inl (0 : Int32), .inl r15, .inl r12]) (rest := []) K_R_finishPart rfl zl_12_120 zm_R_node rfl (G_R_node h17) (Nat.le_of_ble_eq_true rfl) (Nat.le_of_ble_eq_true rfl) rfl ?_
          refine go_istore K_R_finishPart rfl (Nat.le_of_ble_eq_true rfl) ?_
          refine go_aload_n K_R_finishPart rfl rfl ?_
          refine go_iload K_R_finishPart rfl rfl ?_
          obtain ⟨M19, h20, h⟩ := zbv_ex h
          refine go_vv (Y' := Y_R_push) (av := [.inl r18]) (rest := []) K_R_finishPart rfl zl_12_124 zm_R_push rfl (G_R_push h20) (Nat.le_of_ble_eq_true rfl) (Nat.le_of_ble_eq_true rfl) rfl ?_
          refine go_goto K_R_finishPart rfl ?_
          cases h
          exact go_return K_R_finishPart rfl rfl
      · have h := zif_t c h
        refine go_aload_n K_R_finishPart rfl rfl ?_
        obtain ⟨r23, M21, h22, h⟩ := zbi_ex h
        refine go_vi (Y' := Y_R_pop) (av := []) (rest := []) K_R_finishPart rfl zl_12_153 zm_R_pop rfl (G_R_pop h22) (Nat.le_of_ble_eq_true rfl) (Nat.le_of_ble_eq_true rfl) rfl ?_
        refine go_istore_n K_R_finishPart rfl (Nat.le_of_ble_eq_true rfl) ?_
        refine go_aload_n K_R_finishPart rfl rfl ?_
        refine go_aload_n K_R_finishPart rfl rfl ?_
        refine go_getR K_R_finishPart rfl zf_12_40 ?_
        refine go_aload_n K_R_finishPart rfl rfl ?_
        refine go_getI K_R_finishPart rfl zf_12_105 ?_
        refine go_iconst K_R_finishPart rfl zk_iconst_1 ?_
        refine go_isub K_R_finishPart rfl ?_
        obtain ⟨i24, h⟩ := zix_ex h
        refine go_iald K_R_finishPart rfl za_45 i24 ?_
        refine go_iload_n K_R_finishPart rfl rfl ?_
        obtain ⟨M25, h26, h⟩ := zbv_ex h
        refine go_vv (Y' := Y_R_append) (av := [.inl (M21 45 ((M21 34 16) - (1 : Int32)).toNatClampNeg), .inl r23]) (rest := []) K_R_finishPart rfl zl_12_160 zm_R_append rfl (G_R_append h26) (Nat.le_of_ble_eq_true rfl) (Nat.le_of_ble_eq_true rfl) rfl ?_
        refine go_goto K_R_finishPart rfl ?_
        cases h
        exact go_return K_R_finishPart rfl rfl
    · have h := zif_t c h
      refine go_aload_n K_R_finishPart rfl rfl ?_
      obtain ⟨r29, M27, h28, h⟩ := zbi_ex h
      refine go_vi (Y' := Y_R_pop) (av := []) (rest := []) K_R_finishPart rfl zl_12_153 zm_R_pop rfl (G_R_pop h28) (Nat.le_of_ble_eq_true rfl) (Nat.le_of_ble_eq_true rfl) rfl ?_
      refine go_istore_n K_R_finishPart rfl (Nat.le_of_ble_eq_true rfl) ?_
      refine go_aload_n K_R_finishPart rfl rfl ?_
      refine go_getR K_R_finishPart rfl zf_12_58 ?_
      refine go_aload_n K_R_finishPart rfl rfl ?_
      refine go_getI K_R_finishPart rfl zf_12_143 ?_
      refine go_iload_n K_R_finishPart rfl rfl ?_
      obtain ⟨i30, h⟩ := zix_ex h
      obtain ⟨M31, e32, h⟩ := zset_ex h
      refine go_iast' e32 K_R_finishPart rfl za_51 i30 ?_
      refine go_aload_n K_R_finishPart rfl rfl ?_
      refine go_dup K_R_finishPart rfl ?_
      refine go_getI K_R_finishPart rfl zf_12_143 ?_
      refine go_iconst K_R_finishPart rfl zk_iconst_1 ?_
      refine go_iadd K_R_finishPart rfl ?_
      obtain ⟨M33, e34, h⟩ := zset_ex h
      refine go_putI' e34 K_R_finishPart rfl zf_12_143 ?_
      refine go_aload_n K_R_finishPart rfl rfl ?_
      refine go_getI K_R_finishPart rfl zf_12_137 ?_
      refine go_if_ne K_R_finishPart rfl (fun c => ?_) (fun c => ?_)
      · have h := zif_f c h
        refine go_goto K_R_finishPart rfl ?_
        cases h
        exact go_return K_R_finishPart rfl rfl
      · have h := zif_t c h
        refine go_aload_n K_R_finishPart rfl rfl ?_
        refine go_getR K_R_finishPart rfl zf_12_43 ?_
        refine go_aload_n K_R_finishPart rfl rfl ?_
        refine go_getI K_R_finishPart rfl zf_12_134 ?_
        refine go_iload_n K_R_finishPart rfl rfl ?_
        obtain ⟨i35, h⟩ := zix_ex h
        obtain ⟨M36, e37, h⟩ := zset_ex h
        refine go_iast' e37 K_R_finishPart rfl za_46 i35 ?_
        refine go_aload_n K_R_finishPart rfl rfl ?_
        refine go_getR K_R_finishPart rfl zf_12_49 ?_
        refine go_aload_n K_R_finishPart rfl rfl ?_
        refine go_getI K_R_finishPart rfl zf_12_134 ?_
        refine go_aload_n K_R_finishPart rfl rfl ?_
        refine go_getI K_R_finishPart rfl zf_12_140 ?_
        obtain ⟨i38, h⟩ := zix_ex h
        obtain ⟨M39, e40, h⟩ := zset_ex h
        refine go_iast' e40 K_R_finishPart rfl za_48 i38 ?_
        refine go_goto K_R_finishPart rfl ?_
        cases h
        exact go_return K_R_finishPart rfl rfl
  · have h := zif_t c h
    refine go_aload_n K_R_finishPart rfl rfl ?_
    refine go_aload_n K_R_finishPart rfl rfl ?_
    obtain ⟨r43, M41, h42, h⟩ := zbi_ex h
    refine go_vi (Y' := Y_R_pop) (av := []) (rest := [.inr 34]) K_R_finishPart rfl zl_12_153 zm_R_pop rfl (G_R_pop h42) (Nat.le_of_ble_eq_true rfl) (Nat.le_of_ble_eq_true rfl) rfl ?_
    obtain ⟨M44, e45, h⟩ := zset_ex h
    refine go_putI' e45 K_R_finishPart rfl zf_12_157 ?_
    refine go_goto K_R_finishPart rfl ?_
    cases h
    exact go_return K_R_finishPart rfl rfl
def F_R_finishStatement_p24 (M : zMem) (l1 l2 l3 s0 : Int32) : Option (zMem) :=
  zbi (F_R_pop M ) fun r3 M1 => zbi (F_R_node M1 l1 l2 r3 s0) fun r6 M4 => zix r6 400 (zset M4 43 r6.toNatClampNeg l3 fun M8 => zbv (F_R_push M8 r6) fun M10 => some M10)
set_option maxRecDepth 100000 in
theorem G_R_finishStatement_p24 {M : zMem} {l1 l2 l3 s0 : Int32} {y : zMem} (h : F_R_finishStatement_p24 M l1 l2 l3 s0 = some y) : zGo Y_R_finishStatement 1 24 [some (.inr 34), some (.inl l1), some (.inl l2), some (.inl l3), none, none, none] [.inl s0] M none y := by
  unfold F_R_finishStatement_p24 at h
  refine go_istore K_R_finishStatement rfl (Nat.le_of_ble_eq_true rfl) ?_
  refine go_aload_n K_R_finishStatement rfl rfl ?_
  obtain ⟨r3, M1, h2, h⟩ := zbi_ex h
  refine go_vi (Y' := Y_R_pop) (av := []) (rest := []) K_R_finishStatement rfl zl_12_153 zm_R_pop rfl (G_R_pop h2) (Nat.le_of_ble_eq_true rfl) (Nat.le_of_ble_eq_true rfl) rfl ?_
  refine go_istore K_R_finishStatement rfl (Nat.le_of_ble_eq_true rfl) ?_
  refine go_aload_n K_R_finishStatement rfl rfl ?_
  refine go_iload_n K_R_finishStatement rfl rfl ?_
  refine go_iload_n K_R_finishStatement rfl rfl ?_
  refine go_iload K_R_finishStatement rfl rfl ?_
  refine go_iload K_R_finishStatement rfl rfl ?_
  obtain ⟨r6, M4, h5, h⟩ := zbi_ex h
  refine go_vi (Y' := Y_R_node) (av := [.inl l1, .inl l2, .inl r3, .inl s0]) (rest := []) K_R_finishStatement rfl zl_12_120 zm_R_node rfl (G_R_node h5) (Nat.le_of_ble_eq_true rfl) (Nat.le_of_ble_eq_true rfl) rfl ?_
  refine go_istore K_R_finishStatement rfl (Nat.le_of_ble_eq_true rfl) ?_
  refine go_aload_n K_R_finishStatement rfl rfl ?_
  refine go_getR K_R_finishStatement rfl zf_12_34 ?_
  refine go_iload K_R_finishStatement rfl rfl ?_
  refine go_iload_n K_R_finishStatement rfl rfl ?_
  obtain ⟨i7, h⟩ := zix_ex h
  obtain ⟨M8, e9, h⟩ := zset_ex h
  refine go_iast' e9 K_R_finishStatement rfl za_43 i7 ?_
  refine go_aload_n K_R_finishStatement rfl rfl ?_
  refine go_iload K_R_finishStatement rfl rfl ?_
  obtain ⟨M10, h11, h⟩ := zbv_ex h
  refine go_vv (Y' := Y_R_push) (av := [.inl r6]) (rest := []) K_R_finishStatement rfl zl_12_124 zm_R_push rfl (G_R_push h11) (Nat.le_of_ble_eq_true rfl) (Nat.le_of_ble_eq_true rfl) rfl ?_
  cases h
  exact go_return K_R_finishStatement rfl rfl
def F_R_finishStatement_p20 (M : zMem) (l1 l2 l3 : Int32) : Option (zMem) :=
  zbi (F_R_pop M ) fun r3 M1 => F_R_finishStatement_p24 M1 l1 l2 l3 r3
set_option maxRecDepth 100000 in
theorem G_R_finishStatement_p20 {M : zMem} {l1 l2 l3 : Int32} {y : zMem} (h : F_R_finishStatement_p20 M l1 l2 l3 = some y) : zGo Y_R_finishStatement 1 20 [some (.inr 34), some (.inl l1), some (.inl l2), some (.inl l3), none, none, none] [] M none y := by
  unfold F_R_finishStatement_p20 at h
  refine go_aload_n K_R_finishStatement rfl rfl ?_
  obtain ⟨r3, M1, h2, h⟩ := zbi_ex h
  refine go_vi (Y' := Y_R_pop) (av := []) (rest := []) K_R_finishStatement rfl zl_12_153 zm_R_pop rfl (G_R_pop h2) (Nat.le_of_ble_eq_true rfl) (Nat.le_of_ble_eq_true rfl) rfl ?_
  refine go_goto K_R_finishStatement rfl ?_
  exact go_forget (G_R_finishStatement_p24 h) (zs_s (zs_s (zs_s (zs_s (zs_n (zs_n (zs_n zs_e)))))))
def F_R_finishStatement_p7 (M : zMem) (l1 l2 s0 : Int32) : Option (zMem) :=
  if l1 = (21 : Int32) then (F_R_finishStatement_p20 M l1 l2 s0) else (if l1 = (25 : Int32) then (F_R_finishStatement_p20 M l1 l2 s0) else (if l1 = (26 : Int32) then (F_R_finishStatement_p20 M l1 l2 s0) else (if l1 = (27 : Int32) then (F_R_finishStatement_p20 M l1 l2 s0) else (F_R_finishStatement_p24 M l1 l2 s0 ((-1 : Int32))))))
set_option maxRecDepth 100000 in
theorem G_R_finishStatement_p7 {M : zMem} {l1 l2 s0 : Int32} {y : zMem} (h : F_R_finishStatement_p7 M l1 l2 s0 = some y) : zGo Y_R_finishStatement 1 7 [some (.inr 34), some (.inl l1), some (.inl l2), none, none, none, none] [.inl s0] M none y := by
  unfold F_R_finishStatement_p7 at h
  refine go_istore_n K_R_finishStatement rfl (Nat.le_of_ble_eq_true rfl) ?_
  refine go_iload_n K_R_finishStatement rfl rfl ?_
  refine go_bipush K_R_finishStatement rfl zk_bipush_21 ?_
  refine go_icmp_eq K_R_finishStatement rfl (fun c => ?_) (fun c => ?_)
  · have h := zif_t c h
    exact go_forget (G_R_finishStatement_p20 h) (zs_s (zs_s (zs_s (zs_s (zs_n (zs_n (zs_n zs_e)))))))
  · have h := zif_f c h
    refine go_iload_n K_R_finishStatement rfl rfl ?_
    refine go_bipush K_R_finishStatement rfl zk_bipush_25 ?_
    refine go_icmp_eq K_R_finishStatement rfl (fun c => ?_) (fun c => ?_)
    · have h := zif_t c h
      exact go_forget (G_R_finishStatement_p20 h) (zs_s (zs_s (zs_s (zs_s (zs_n (zs_n (zs_n zs_e)))))))
    · have h := zif_f c h
      refine go_iload_n K_R_finishStatement rfl rfl ?_
      refine go_bipush K_R_finishStatement rfl zk_bipush_26 ?_
      refine go_icmp_eq K_R_finishStatement rfl (fun c => ?_) (fun c => ?_)
      · have h := zif_t c h
        exact go_forget (G_R_finishStatement_p20 h) (zs_s (zs_s (zs_s (zs_s (zs_n (zs_n (zs_n zs_e)))))))
      · have h := zif_f c h
        refine go_iload_n K_R_finishStatement rfl rfl ?_
        refine go_bipush K_R_finishStatement rfl zk_bipush_27 ?_
        refine go_icmp_ne K_R_finishStatement rfl (fun c => ?_) (fun c => ?_)
        · have h := zif_f c h
          refine go_iconst K_R_finishStatement rfl zk_iconst_m1 ?_
          exact go_forget (G_R_finishStatement_p24 h) (zs_s (zs_s (zs_s (zs_s (zs_n (zs_n (zs_n zs_e)))))))
        · have h := zif_t c h
          exact go_forget (G_R_finishStatement_p20 h) (zs_s (zs_s (zs_s (zs_s (zs_n (zs_n (zs_n zs_e)))))))
def F_R_finishStatement (M : zMem) (l1 l2 : Int32) : Option (zMem) :=
  if l1 = (27 : Int32) then (zbi (F_R_pop M ) fun r3 M1 => F_R_finishStatement_p7 M1 l1 l2 r3) else (F_R_finishStatement_p7 M l1 l2 ((-1 : Int32)))
set_option maxRecDepth 100000 in
theorem G_R_finishStatement {M : zMem} {l1 l2 : Int32} {y : zMem} (h : F_R_finishStatement M l1 l2 = some y) : zGo Y_R_finishStatement 1 0 (zal Y_R_finishStatement [.inr 34, .inl l1, .inl l2]) [] M none y := by
  unfold F_R_finishStatement at h
  show zGo Y_R_finishStatement 1 0 [some (.inr 34), some (.inl l1), some (.inl l2), none, none, none, none] [] M _ _
  refine go_iload_n K_R_finishStatement rfl rfl ?_
  refine go_bipush K_R_finishStatement rfl zk_bipush_27 ?_
  refine go_icmp_ne K_R_finishStatement rfl (fun c => ?_) (fun c => ?_)
  · have h := zif_f c h
    refine go_iconst K_R_finishStatement rfl zk_iconst_m1 ?_
    exact go_forget (G_R_finishStatement_p7 h) (zs_s (zs_s (zs_s (zs_n (zs_n (zs_n (zs_n zs_e)))))))
  · have h := zif_t c h
    refine go_aload_n K_R_finishStatement rfl rfl ?_
    obtain ⟨r3, M1, h2, h⟩ := zbi_ex h
    refine go_vi (Y' := Y_R_pop) (av := []) (rest := []) K_R_finishStatement rfl zl_12_153 zm_R_pop rfl (G_R_pop h2) (Nat.le_of_ble_eq_true rfl) (Nat.le_of_ble_eq_true rfl) rfl ?_
    refine go_goto K_R_finishStatement rfl ?_
    exact go_forget (G_R_finishStatement_p7 h) (zs_s (zs_s (zs_s (zs_n (zs_n (zs_n (zs_n zs_e)))))))
