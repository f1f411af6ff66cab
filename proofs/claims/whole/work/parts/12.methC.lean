def F_Mach_putOut_p7 (M : zMem) : Option (zMem) :=
  zbv (F_Mach_finish M (3 : Int32)) fun M1 => some M1
set_option maxRecDepth 100000 in
theorem G_Mach_putOut_p7 {M : zMem} {y : zMem} (h : F_Mach_putOut_p7 M  = some y) : zGo Y_Mach_putOut 1 7 [some (.inr 27), none] [] M none y := by
  unfold F_Mach_putOut_p7 at h
  refine go_aload_n K_Mach_putOut rfl rfl ?_
  refine go_iconst K_Mach_putOut rfl zk_iconst_3 ?_
  obtain ⟨M1, h2, h⟩ := zbv_ex h
  refine go_vv (Y' := Y_Mach_finish) (av := [.inl (3 : Int32)]) (rest := []) K_Mach_putOut rfl zl_3_123 zm_Mach_finish rfl (G_Mach_finish h2) (Nat.le_of_ble_eq_true rfl) (Nat.le_of_ble_eq_true rfl) rfl ?_
  cases h
  exact go_return K_Mach_putOut rfl rfl
def F_Mach_putOut (M : zMem) (l1 : Int32) : Option (zMem) :=
  if (M 27 3) < 0 then (F_Mach_putOut_p7 M ) else (if (M 27 3) < (20 : Int32) then (zix (M 27 3) 20 (zset M 30 (M 27 3).toNatClampNeg l1 fun M2 => zset M2 27 3 ((M2 27 3) + (1 : Int32)) fun M4 => some M4)) else (F_Mach_putOut_p7 M ))
set_option maxRecDepth 100000 in
theorem G_Mach_putOut {M : zMem} {l1 : Int32} {y : zMem} (h : F_Mach_putOut M l1 = some y) : zGo Y_Mach_putOut 1 0 (zal Y_Mach_putOut [.inr 27, .inl l1]) [] M none y := by
  unfold F_Mach_putOut at h
  show zGo Y_Mach_putOut 1 0 [some (.inr 27), some (.inl l1)] [] M _ _
  refine go_aload_n K_Mach_putOut rfl rfl ?_
  refine go_getI K_Mach_putOut rfl zf_3_42 ?_
  refine go_if_lt K_Mach_putOut rfl (fun c => ?_) (fun c => ?_)
  · have h := zif_t c h
    exact go_forget (G_Mach_putOut_p7 h) (zs_s (zs_n zs_e))
  · have h := zif_f c h
    refine go_aload_n K_Mach_putOut rfl rfl ?_
    refine go_getI K_Mach_putOut rfl zf_3_42 ?_
    refine go_bipush K_Mach_putOut rfl zk_bipush_20 ?_
    refine go_icmp_lt K_Mach_putOut rfl (fun c => ?_) (fun c => ?_)
    · have h := zif_t c h
      refine go_aload_n K_Mach_putOut rfl rfl ?_
      refine go_getR K_Mach_putOut rfl zf_3_18 ?_
      refine go_aload_n K_Mach_putOut rfl rfl ?_
      refine go_getI K_Mach_putOut rfl zf_3_42 ?_
      refine go_iload_n K_Mach_putOut rfl rfl ?_
      obtain ⟨i1, h⟩ := zix_ex h
      obtain ⟨M2, e3, h⟩ := zset_ex h
      refine go_iast' e3 K_Mach_putOut rfl za_30 i1 ?_
      refine go_aload_n K_Mach_putOut rfl rfl ?_
      refine go_dup K_Mach_putOut rfl ?_
      refine go_getI K_Mach_putOut rfl zf_3_42 ?_
      refine go_iconst K_Mach_putOut rfl zk_iconst_1 ?_
      refine go_iadd K_Mach_putOut rfl ?_
      obtain ⟨M4, e5, h⟩ := zset_ex h
      refine go_putI' e5 K_Mach_putOut rfl zf_3_42 ?_
      cases h
      exact go_return K_Mach_putOut rfl rfl
    · have h := zif_f c h
      exact go_forget (G_Mach_putOut_p7 h) (zs_s (zs_n zs_e))
def F_Mach_storeCell (M : zMem) (l1 l2 : Int32) : Option (zMem) :=
  if (l1 &&& (15 : Int32)) < 0 then (some M) else (if (16 : Int32) ≤ (l1 &&& (15 : Int32)) then (some M) else (zix (l1 &&& (15 : Int32)) 16 (zset M 29 (l1 &&& (15 : Int32)).toNatClampNeg l2 fun M2 => some M2)))
set_option maxRecDepth 100000 in
theorem G_Mach_storeCell {M : zMem} {l1 l2 : Int32} {y : zMem} (h : F_Mach_storeCell M l1 l2 = some y) : zGo Y_Mach_storeCell 0 0 (zal Y_Mach_storeCell [.inr 27, .inl l1, .inl l2]) [] M none y := by
  unfold F_Mach_storeCell at h
  show zGo Y_Mach_storeCell 0 0 [some (.inr 27), some (.inl l1), some (.inl l2), none] [] M _ _
  refine go_iload_n K_Mach_storeCell rfl rfl ?_
  refine go_bipush K_Mach_storeCell rfl zk_bipush_15 ?_
  refine go_iand K_Mach_storeCell rfl ?_
  refine go_istore_n K_Mach_storeCell rfl (Nat.le_of_ble_eq_true rfl) ?_
  refine go_iload_n K_Mach_storeCell rfl rfl ?_
  refine go_if_lt K_Mach_storeCell rfl (fun c => ?_) (fun c => ?_)
  · have h := zif_t c h
    cases h
    exact go_return K_Mach_storeCell rfl rfl
  · have h := zif_f c h
    refine go_iload_n K_Mach_storeCell rfl rfl ?_
    refine go_aload_n K_Mach_storeCell rfl rfl ?_
    refine go_getR K_Mach_storeCell rfl zf_3_15 ?_
    refine go_alen K_Mach_storeCell rfl za_29 zlen_16 ?_
    refine go_icmp_ge K_Mach_storeCell rfl (fun c => ?_) (fun c => ?_)
    · have h := zif_t c h
      cases h
      exact go_return K_Mach_storeCell rfl rfl
    · have h := zif_f c h
      refine go_aload_n K_Mach_storeCell rfl rfl ?_
      refine go_getR K_Mach_storeCell rfl zf_3_15 ?_
      refine go_iload_n K_Mach_storeCell rfl rfl ?_
      refine go_iload_n K_Mach_storeCell rfl rfl ?_
      obtain ⟨i1, h⟩ := zix_ex h
      obtain ⟨M2, e3, h⟩ := zset_ex h
      refine go_iast' e3 K_Mach_storeCell rfl za_29 i1 ?_
      cases h
      exact go_return K_Mach_storeCell rfl rfl
def F_Mach_storeGlobal (M : zMem) (l1 l2 : Int32) : Option (zMem) :=
  if l1 < 0 then (some M) else (if (8 : Int32) ≤ l1 then (some M) else (zix l1 8 (zset M 28 l1.toNatClampNeg l2 fun M2 => some M2)))
set_option maxRecDepth 100000 in
theorem G_Mach_storeGlobal {M : zMem} {l1 l2 : Int32} {y : zMem} (h : F_Mach_storeGlobal M l1 l2 = some y) : zGo Y_Mach_storeGlobal 0 0 (zal Y_Mach_storeGlobal [.inr 27, .inl l1, .inl l2]) [] M none y := by
  unfold F_Mach_storeGlobal at h
  show zGo Y_Mach_storeGlobal 0 0 [some (.inr 27), some (.inl l1), some (.inl l2)] [] M _ _
  refine go_iload_n K_Mach_storeGlobal rfl rfl ?_
  refine go_if_lt K_Mach_storeGlobal rfl (fun c => ?_) (fun c => ?_)
  · have h := zif_t c h
    cases h
    exact go_return K_Mach_storeGlobal rfl rfl
  · have h := zif_f c h
    refine go_iload_n K_Mach_storeGlobal rfl rfl ?_
    refine go_aload_n K_Mach_storeGlobal rfl rfl ?_
    refine go_getR K_Mach_storeGlobal rfl zf_3_9 ?_
    refine go_alen K_Mach_storeGlobal rfl za_28 zlen_8 ?_
    refine go_icmp_ge K_Mach_storeGlobal rfl (fun c => ?_) (fun c => ?_)
    · have h := zif_t c h
      cases h
      exact go_return K_Mach_storeGlobal rfl rfl
    · have h := zif_f c h
      refine go_aload_n K_Mach_storeGlobal rfl rfl ?_
      refine go_getR K_Mach_storeGlobal rfl zf_3_9 ?_
      refine go_iload_n K_Mach_storeGlobal rfl rfl ?_
      refine go_iload_n K_Mach_storeGlobal rfl rfl ?_
      obtain ⟨i1, h⟩ := zix_ex h
      obtain ⟨M2, e3, h⟩ := zset_ex h
      refine go_iast' e3 K_Mach_storeGlobal rfl za_28 i1 ?_
      cases h
      exact go_return K_Mach_storeGlobal rfl rfl
def F_Mach_move_p20 (M : zMem) (s1 : Int32) : Option (zMem) :=
  zbv (F_Mach_push M s1) fun M1 => some M1
set_option maxRecDepth 100000 in
theorem G_Mach_move_p20 {M : zMem} {s1 : Int32} {y : zMem} (h : F_Mach_move_p20 M s1 = some y) : zGo Y_Mach_move 2 20 [none, none, none, none] [.inl s1, .inr 27] M none y := by
  unfold F_Mach_move_p20 at h
  obtain ⟨M1, h2, h⟩ := zbv_ex h
  refine go_vv (Y' := Y_Mach_push) (av := [.inl s1]) (rest := []) K_Mach_move rfl zl_3_99 zm_Mach_push rfl (G_Mach_push h2) (Nat.le_of_ble_eq_true rfl) (Nat.le_of_ble_eq_true rfl) rfl ?_
  refine go_goto K_Mach_move rfl ?_
  cases h
  exact go_return K_Mach_move rfl rfl
def F_Mach_move_p19 (M : zMem) : Option (zMem) :=
  F_Mach_move_p20 M ((0 : Int32))
set_option maxRecDepth 100000 in
theorem G_Mach_move_p19 {M : zMem} {y : zMem} (h : F_Mach_move_p19 M  = some y) : zGo Y_Mach_move 2 19 [none, none, none, none] [.inr 27] M none y := by
  unfold F_Mach_move_p19 at h
  refine go_iconst K_Mach_move rfl zk_iconst_0 ?_
  exact go_forget (G_Mach_move_p20 h) (zs_n (zs_n (zs_n (zs_n zs_e))))
def F_Mach_move_p70 (M : zMem) (s1 : Int32) : Option (zMem) :=
  zbv (F_Mach_push M s1) fun M1 => some M1
set_option maxRecDepth 100000 in
theorem G_Mach_move_p70 {M : zMem} {s1 : Int32} {y : zMem} (h : F_Mach_move_p70 M s1 = some y) : zGo Y_Mach_move 2 70 [none, none, none, none] [.inl s1, .inr 27] M none y := by
  unfold F_Mach_move_p70 at h
  obtain ⟨M1, h2, h⟩ := zbv_ex h
  refine go_vv (Y' := Y_Mach_push) (av := [.inl s1]) (rest := []) K_Mach_move rfl zl_3_99 zm_Mach_push rfl (G_Mach_push h2) (Nat.le_of_ble_eq_true rfl) (Nat.le_of_ble_eq_true rfl) rfl ?_
  refine go_goto K_Mach_move rfl ?_
  cases h
  exact go_return K_Mach_move rfl rfl
def F_Mach_move_p79 (M : zMem) (s1 : Int32) : Option (zMem) :=
  zbv (F_Mach_push M s1) fun M1 => some M1
set_option maxRecDepth 100000 in
theorem G_Mach_move_p79 {M : zMem} {s1 : Int32} {y : zMem} (h : F_Mach_move_p79 M s1 = some y) : zGo Y_Mach_move 2 79 [none, none, none, none] [.inl s1, .inr 27] M none y := by
  unfold F_Mach_move_p79 at h
  obtain ⟨M1, h2, h⟩ := zbv_ex h
  refine go_vv (Y' := Y_Mach_push) (av := [.inl s1]) (rest := []) K_Mach_move rfl zl_3_99 zm_Mach_push rfl (G_Mach_push h2) (Nat.le_of_ble_eq_true rfl) (Nat.le_of_ble_eq_true rfl) rfl ?_
  refine go_goto K_Mach_move rfl ?_
  cases h
  exact go_return K_Mach_move rfl rfl
def F_Mach_move (M : zMem) (l1 l2 : Int32) : Option (zMem) :=
  if l1 = (1 : Int32) then (zbv (F_Mach_push M l2) fun M1 => some M1) else (if l1 = (2 : Int32) then (if l2 < 0 then (F_Mach_move_p19 M ) else (if (8 : Int32) ≤ l2 then (F_Mach_move_p19 M ) else (zix l2 8 (F_Mach_move_p20 M (M 28 l2.toNatClampNeg))))) else (if l1 = (3 : Int32) then (zbi (F_Mach_loadLocal M l2) fun r8 M6 => zbv (F_Mach_push M6 r8) fun M9 => some M9) else (if l1 = (4 : Int32) then (zbi (F_Mach_pop M ) fun r14 M12 => zbi (F_Mach_loadCell M12 r14) fun r17 M15 => zbv (F_Mach_push M15 r17) fun M18 => some M18) else (if l1 = (5 : Int32) then (zbi (F_Mach_pop M ) fun r23 M21 => zbv (F_Mach_storeGlobal M21 l2 r23) fun M24 => some M24) else (if l1 = (6 : Int32) then (zbi (F_Mach_pop M ) fun r29 M27 => zbv (F_Mach_storeLocal M27 l2 r29) fun M30 => some M30) else (if l1 = (7 : Int32) then (zbi (F_Mach_pop M ) fun r35 M33 => zbi (F_Mach_pop M33 ) fun r38 M36 => zbv (F_Mach_storeCell M36 r38 r35) fun M39 => some M39) else (if l1 = (8 : Int32) then (zbi (F_Mach_pop M ) fun r44 M42 => zbv (F_Mach_push M42 ((0 : Int32) - r44)) fun M45 => some M45) else (if l1 = (9 : Int32) then (zbi (F_Mach_pop M ) fun r50 M48 => if r50 = 0 then (F_Mach_move_p70 M48 ((1 : Int32))) else (F_Mach_move_p70 M48 ((0 : Int32)))) else (if l1 = (10 : Int32) then (zbi (F_Mach_pop M ) fun r54 M52 => if r54 = 0 then (F_Mach_move_p79 M52 ((0 : Int32))) else (F_Mach_move_p79 M52 ((1 : Int32)))) else (if l1 = (11 : Int32) then (zbi (F_Mach_pop M ) fun r58 M56 => some M56) else (if l1 = (12 : Int32) then (zbi (F_Mach_pop M ) fun r62 M60 => zbv (F_Mach_putOut M60 r62) fun M63 => some M63) else (zbv (F_Mach_finish M (0 : Int32)) fun M66 => some M66))))))))))))
set_option maxRecDepth 100000 in
theorem G_Mach_move {M : zMem} {l1 l2 : Int32} {y : zMem} (h : F_Mach_move M l1 l2 = some y) : zGo Y_Mach_move 2 0 (zal Y_Mach_move [.inr 27, .inl l1, .inl l2]) [] M none y := by
  unfold F_Mach_move at h
  show zGo Y_Mach_move 2 0 [some (.inr 27), some (.inl l1), some (.inl l2), none] [] M _ _
  refine go_iload_n K_Mach_move rfl rfl ?_
  by_cases c3 : l1 = (1 : Int32)
  · have h := zif_t c3 h
    refine go_switch (k' := 2) (off := 63) K_Mach_move rfl (by show zsw _ (l1) = _; rw [c3]; decide) (by decide) ?_
    refine go_aload_n K_Mach_move rfl rfl ?_
    refine go_iload_n K_Mach_move rfl rfl ?_
    obtain ⟨M1, h2, h⟩ := zbv_ex h
    refine go_vv (Y' := Y_Mach_push) (av := [.inl l2]) (rest := []) K_Mach_move rfl zl_3_99 zm_Mach_push rfl (G_Mach_push h2) (Nat.le_of_ble_eq_true rfl) (Nat.le_of_ble_eq_true rfl) rfl ?_
    refine go_goto K_Mach_move rfl ?_
    cases h
    exact go_return K_Mach_move rfl rfl
  have h := zif_f c3 h
  by_cases c5 : l1 = (2 : Int32)
  · have h := zif_t c5 h
    refine go_switch (k' := 6) (off := 71) K_Mach_move rfl (by show zsw _ (l1) = _; rw [c5]; decide) (by decide) ?_
    refine go_aload_n K_Mach_move rfl rfl ?_
    refine go_iload_n K_Mach_move rfl rfl ?_
    refine go_if_lt K_Mach_move rfl (fun c => ?_) (fun c => ?_)
    · have h := zif_t c h
      exact go_forget (G_Mach_move_p19 h) (zs_n (zs_n (zs_n (zs_n zs_e))))
    · have h := zif_f c h
      refine go_iload_n K_Mach_move rfl rfl ?_
      refine go_aload_n K_Mach_move rfl rfl ?_
      refine go_getR K_Mach_move rfl zf_3_9 ?_
      refine go_alen K_Mach_move rfl za_28 zlen_8 ?_
      refine go_icmp_ge K_Mach_move rfl (fun c => ?_) (fun c => ?_)
      · have h := zif_t c h
        exact go_forget (G_Mach_move_p19 h) (zs_n (zs_n (zs_n (zs_n zs_e))))
      · have h := zif_f c h
        refine go_aload_n K_Mach_move rfl rfl ?_
        refine go_getR K_Mach_move rfl zf_3_9 ?_
        refine go_iload_n K_Mach_move rfl rfl ?_
        obtain ⟨i4, h⟩ := zix_ex h
        refine go_iald K_Mach_move rfl za_28 i4 ?_
        refine go_goto K_Mach_move rfl ?_
        exact go_forget (G_Mach_move_p20 h) (zs_n (zs_n (zs_n (zs_n zs_e))))
  have h := zif_f c5 h
  by_cases c11 : l1 = (3 : Int32)
  · have h := zif_t c11 h
    refine go_switch (k' := 22) (off := 101) K_Mach_move rfl (by show zsw _ (l1) = _; rw [c11]; decide) (by decide) ?_
    refine go_aload_n K_Mach_move rfl rfl ?_
    refine go_aload_n K_Mach_move rfl rfl ?_
    refine go_iload_n K_Mach_move rfl rfl ?_
    obtain ⟨r8, M6, h7, h⟩ := zbi_ex h
    refine go_vi (Y' := Y_Mach_loadLocal) (av := [.inl l2]) (rest := [.inr 27]) K_Mach_move rfl zl_3_102 zm_Mach_loadLocal rfl (G_Mach_loadLocal h7) (Nat.le_of_ble_eq_true rfl) (Nat.le_of_ble_eq_true rfl) rfl ?_
    obtain ⟨M9, h10, h⟩ := zbv_ex h
    refine go_vv (Y' := Y_Mach_push) (av := [.inl r8]) (rest := []) K_Mach_move rfl zl_3_99 zm_Mach_push rfl (G_Mach_push h10) (Nat.le_of_ble_eq_true rfl) (Nat.le_of_ble_eq_true rfl) rfl ?_
    refine go_goto K_Mach_move rfl ?_
    cases h
    exact go_return K_Mach_move rfl rfl
  have h := zif_f c11 h
  by_cases c20 : l1 = (4 : Int32)
  · have h := zif_t c20 h
    refine go_switch (k' := 28) (off := 113) K_Mach_move rfl (by show zsw _ (l1) = _; rw [c20]; decide) (by decide) ?_
    refine go_aload_n K_Mach_move rfl rfl ?_
    refine go_aload_n K_Mach_move rfl rfl ?_
    refine go_aload_n K_Mach_move rfl rfl ?_
    obtain ⟨r14, M12, h13, h⟩ := zbi_ex h
    refine go_vi (Y' := Y_Mach_pop) (av := []) (rest := [.inr 27, .inr 27]) K_Mach_move rfl zl_3_105 zm_Mach_pop rfl (G_Mach_pop h13) (Nat.le_of_ble_eq_true rfl) (Nat.le_of_ble_eq_true rfl) rfl ?_
    obtain ⟨r17, M15, h16, h⟩ := zbi_ex h
    refine go_vi (Y' := Y_Mach_loadCell) (av := [.inl r14]) (rest := [.inr 27]) K_Mach_move rfl zl_3_108 zm_Mach_loadCell rfl (G_Mach_loadCell h16) (Nat.le_of_ble_eq_true rfl) (Nat.le_of_ble_eq_true rfl) rfl ?_
    obtain ⟨M18, h19, h⟩ := zbv_ex h
    refine go_vv (Y' := Y_Mach_push) (av := [.inl r17]) (rest := []) K_Mach_move rfl zl_3_99 zm_Mach_push rfl (G_Mach_push h19) (Nat.le_of_ble_eq_true rfl) (Nat.le_of_ble_eq_true rfl) rfl ?_
    refine go_goto K_Mach_move rfl ?_
    cases h
    exact go_return K_Mach_move rfl rfl
  have h := zif_f c20 h
  by_cases c26 : l1 = (5 : Int32)
  · have h := zif_t c26 h
    refine go_switch (k' := 35) (off := 128) K_Mach_move rfl (by show zsw _ (l1) = _; rw [c26]; decide) (by decide) ?_
    refine go_aload_n K_Mach_move rfl rfl ?_
    refine go_iload_n K_Mach_move rfl rfl ?_
    refine go_aload_n K_Mach_move rfl rfl ?_
    obtain ⟨r23, M21, h22, h⟩ := zbi_ex h
    refine go_vi (Y' := Y_Mach_pop) (av := []) (rest := [.inl l2, .inr 27]) K_Mach_move rfl zl_3_105 zm_Mach_pop rfl (G_Mach_pop h22) (Nat.le_of_ble_eq_true rfl) (Nat.le_of_ble_eq_true rfl) rfl ?_
    obtain ⟨M24, h25, h⟩ := zbv_ex h
    refine go_vv (Y' := Y_Mach_storeGlobal) (av := [.inl l2, .inl r23]) (rest := []) K_Mach_move rfl zl_3_111 zm_Mach_storeGlobal rfl (G_Mach_storeGlobal h25) (Nat.le_of_ble_eq_true rfl) (Nat.le_of_ble_eq_true rfl) rfl ?_
    refine go_goto K_Mach_move rfl ?_
    cases h
    exact go_return K_Mach_move rfl rfl
  have h := zif_f c26 h
  by_cases c32 : l1 = (6 : Int32)
  · have h := zif_t c32 h
    refine go_switch (k' := 41) (off := 140) K_Mach_move rfl (by show zsw _ (l1) = _; rw [c32]; decide) (by decide) ?_
    refine go_aload_n K_Mach_move rfl rfl ?_
    refine go_iload_n K_Mach_move rfl rfl ?_
    refine go_aload_n K_Mach_move rfl rfl ?_
    obtain ⟨r29, M27, h28, h⟩ := zbi_ex h
    refine go_vi (Y' := Y_Mach_pop) (av := []) (rest := [.inl l2, .inr 27]) K_Mach_move rfl zl_3_105 zm_Mach_pop rfl (G_Mach_pop h28) (Nat.le_of_ble_eq_true rfl) (Nat.le_of_ble_eq_true rfl) rfl ?_
    obtain ⟨M30, h31, h⟩ := zbv_ex h
    refine go_vv (Y' := Y_Mach_storeLocal) (av := [.inl l2, .inl r29]) (rest := []) K_Mach_move rfl zl_3_114 zm_Mach_storeLocal rfl (G_Mach_storeLocal h31) (Nat.le_of_ble_eq_true rfl) (Nat.le_of_ble_eq_true rfl) rfl ?_
    refine go_goto K_Mach_move rfl ?_
    cases h
    exact go_return K_Mach_move rfl rfl
  have h := zif_f c32 h
  by_cases c41 : l1 = (7 : Int32)
  · have h := zif_t c41 h
    refine go_switch (k' := 47) (off := 152) K_Mach_move rfl (by show zsw _ (l1) = _; rw [c41]; decide) (by decide) ?_
    refine go_aload_n K_Mach_move rfl rfl ?_
    obtain ⟨r35, M33, h34, h⟩ := zbi_ex h
    refine go_vi (Y' := Y_Mach_pop) (av := []) (rest := []) K_Mach_move rfl zl_3_105 zm_Mach_pop rfl (G_Mach_pop h34) (Nat.le_of_ble_eq_true rfl) (Nat.le_of_ble_eq_true rfl) rfl ?_
    refine go_istore_n K_Mach_move rfl (Nat.le_of_ble_eq_true rfl) ?_
    refine go_aload_n K_Mach_move rfl rfl ?_
    refine go_aload_n K_Mach_move rfl rfl ?_
    obtain ⟨r38, M36, h37, h⟩ := zbi_ex h
    refine go_vi (Y' := Y_Mach_pop) (av := []) (rest := [.inr 27]) K_Mach_move rfl zl_3_105 zm_Mach_pop rfl (G_Mach_pop h37) (Nat.le_of_ble_eq_true rfl) (Nat.le_of_ble_eq_true rfl) rfl ?_
    refine go_iload_n K_Mach_move rfl rfl ?_
    obtain ⟨M39, h40, h⟩ := zbv_ex h
    refine go_vv (Y' := Y_Mach_storeCell) (av := [.inl r38, .inl r35]) (rest := []) K_Mach_move rfl zl_3_117 zm_Mach_storeCell rfl (G_Mach_storeCell h40) (Nat.le_of_ble_eq_true rfl) (Nat.le_of_ble_eq_true rfl) rfl ?_
    refine go_goto K_Mach_move rfl ?_
    cases h
    exact go_return K_Mach_move rfl rfl
  have h := zif_f c41 h
  by_cases c47 : l1 = (8 : Int32)
  · have h := zif_t c47 h
    refine go_switch (k' := 56) (off := 169) K_Mach_move rfl (by show zsw _ (l1) = _; rw [c47]; decide) (by decide) ?_
    refine go_aload_n K_Mach_move rfl rfl ?_
    refine go_iconst K_Mach_move rfl zk_iconst_0 ?_
    refine go_aload_n K_Mach_move rfl rfl ?_
    obtain ⟨r44, M42, h43, h⟩ := zbi_ex h
    refine go_vi (Y' := Y_Mach_pop) (av := []) (rest := [.inl (0 : Int32), .inr 27]) K_Mach_move rfl zl_3_105 zm_Mach_pop rfl (G_Mach_pop h43) (Nat.le_of_ble_eq_true rfl) (Nat.le_of_ble_eq_true rfl) rfl ?_
    refine go_isub K_Mach_move rfl ?_
    obtain ⟨M45, h46, h⟩ := zbv_ex h
    refine go_vv (Y' := Y_Mach_push) (av := [.inl ((0 : Int32) - r44)]) (rest := []) K_Mach_move rfl zl_3_99 zm_Mach_push rfl (G_Mach_push h46) (Nat.le_of_ble_eq_true rfl) (Nat.le_of_ble_eq_true rfl) rfl ?_
    refine go_goto K_Mach_move rfl ?_
    cases h
    exact go_return K_Mach_move rfl rfl
  have h := zif_f c47 h
  by_cases c51 : l1 = (9 : Int32)
  · have h := zif_t c51 h
    refine go_switch (k' := 63) (off := 182) K_Mach_move rfl (by show zsw _ (l1) = _; rw [c51]; decide) (by decide) ?_
    refine go_aload_n K_Mach_move rfl rfl ?_
    refine go_aload_n K_Mach_move rfl rfl ?_
    obtain ⟨r50, M48, h49, h⟩ := zbi_ex h
    refine go_vi (Y' := Y_Mach_pop) (av := []) (rest := [.inr 27]) K_Mach_move rfl zl_3_105 zm_Mach_pop rfl (G_Mach_pop h49) (Nat.le_of_ble_eq_true rfl) (Nat.le_of_ble_eq_true rfl) rfl ?_
    refine go_if_ne K_Mach_move rfl (fun c => ?_) (fun c => ?_)
    · have h := zif_f c h
      refine go_iconst K_Mach_move rfl zk_iconst_0 ?_
      exact go_forget (G_Mach_move_p70 h) (zs_n (zs_n (zs_n (zs_n zs_e))))
    · have h := zif_t c h
      refine go_iconst K_Mach_move rfl zk_iconst_1 ?_
      refine go_goto K_Mach_move rfl ?_
      exact go_forget (G_Mach_move_p70 h) (zs_n (zs_n (zs_n (zs_n zs_e))))
  have h := zif_f c51 h
  by_cases c55 : l1 = (10 : Int32)
  · have h := zif_t c55 h
    refine go_switch (k' := 72) (off := 201) K_Mach_move rfl (by show zsw _ (l1) = _; rw [c55]; decide) (by decide) ?_
    refine go_aload_n K_Mach_move rfl rfl ?_
    refine go_aload_n K_Mach_move rfl rfl ?_
    obtain ⟨r54, M52, h53, h⟩ := zbi_ex h
    refine go_vi (Y' := Y_Mach_pop) (av := []) (rest := [.inr 27]) K_Mach_move rfl zl_3_105 zm_Mach_pop rfl (G_Mach_pop h53) (Nat.le_of_ble_eq_true rfl) (Nat.le_of_ble_eq_true rfl) rfl ?_
    refine go_if_eq K_Mach_move rfl (fun c => ?_) (fun c => ?_)
    · have h := zif_t c h
      refine go_iconst K_Mach_move rfl zk_iconst_0 ?_
      exact go_forget (G_Mach_move_p79 h) (zs_n (zs_n (zs_n (zs_n zs_e))))
    · have h := zif_f c h
      refine go_iconst K_Mach_move rfl zk_iconst_1 ?_
      refine go_goto K_Mach_move rfl ?_
      exact go_forget (G_Mach_move_p79 h) (zs_n (zs_n (zs_n (zs_n zs_e))))
  have h := zif_f c55 h
  by_cases c59 : l1 = (11 : Int32)
  · have h := zif_t c59 h
    refine go_switch (k' := 81) (off := 220) K_Mach_move rfl (by show zsw _ (l1) = _; rw [c59]; decide) (by decide) ?_
    refine go_aload_n K_Mach_move rfl rfl ?_
    obtain ⟨r58, M56, h57, h⟩ := zbi_ex h
    refine go_vi (Y' := Y_Mach_pop) (av := []) (rest := []) K_Mach_move rfl zl_3_105 zm_Mach_pop rfl (G_Mach_pop h57) (Nat.le_of_ble_eq_true rfl) (Nat.le_of_ble_eq_true rfl) rfl ?_
    refine go_pop K_Mach_move rfl ?_
    refine go_goto K_Mach_move rfl ?_
    cases h
    exact go_return K_Mach_move rfl rfl
  have h := zif_f c59 h
  by_cases c65 : l1 = (12 : Int32)
  · have h := zif_t c65 h
    refine go_switch (k' := 85) (off := 228) K_Mach_move rfl (by show zsw _ (l1) = _; rw [c65]; decide) (by decide) ?_
    refine go_aload_n K_Mach_move rfl rfl ?_
    refine go_aload_n K_Mach_move rfl rfl ?_
    obtain ⟨r62, M60, h61, h⟩ := zbi_ex h
    refine go_vi (Y' := Y_Mach_pop) (av := []) (rest := [.inr 27]) K_Mach_move rfl zl_3_105 zm_Mach_pop rfl (G_Mach_pop h61) (Nat.le_of_ble_eq_true rfl) (Nat.le_of_ble_eq_true rfl) rfl ?_
    obtain ⟨M63, h64, h⟩ := zbv_ex h
    refine go_vv (Y' := Y_Mach_putOut) (av := [.inl r62]) (rest := []) K_Mach_move rfl zl_3_120 zm_Mach_putOut rfl (G_Mach_putOut h64) (Nat.le_of_ble_eq_true rfl) (Nat.le_of_ble_eq_true rfl) rfl ?_
    refine go_goto K_Mach_move rfl ?_
    cases h
    exact go_return K_Mach_move rfl rfl
  have h := zif_f c65 h
  refine go_switch (k' := 90) (off := 239) K_Mach_move rfl (zsw_t (fun i h1 h2 he => by rcases (show i = 1 ∨ i = 2 ∨ i = 3 ∨ i = 4 ∨ i = 5 ∨ i = 6 ∨ i = 7 ∨ i = 8 ∨ i = 9 ∨ i = 10 ∨ i = 11 ∨ i = 12 by omega) with rfl | rfl | rfl | rfl | rfl | rfl | rfl | rfl | rfl | rfl | rfl | rfl <;> first | exact c3 (Int32.toInt_inj.mp (he.trans (by decide))) | exact c5 (Int32.toInt_inj.mp (he.trans (by decide))) | exact c11 (Int32.toInt_inj.mp (he.trans (by decide))) | exact c20 (Int32.toInt_inj.mp (he.trans (by decide))) | exact c26 (Int32.toInt_inj.mp (he.trans (by decide))) | exact c32 (Int32.toInt_inj.mp (he.trans (by decide))) | exact c41 (Int32.toInt_inj.mp (he.trans (by decide))) | exact c47 (Int32.toInt_inj.mp (he.trans (by decide))) | exact c51 (Int32.toInt_inj.mp (he.trans (by decide))) | exact c55 (Int32.toInt_inj.mp (he.trans (by decide))) | exact c59 (Int32.toInt_inj.mp (he.trans (by decide))) | exact c65 (Int32.toInt_inj.mp (he.trans (by decide))))) (by decide) ?_
  refine go_aload_n K_Mach_move rfl rfl ?_
  refine go_iconst K_Mach_move rfl zk_iconst_0 ?_
  obtain ⟨M66, h67, h⟩ := zbv_ex h
  refine go_vv (Y' := Y_Mach_finish) (av := [.inl (0 : Int32)]) (rest := []) K_Mach_move rfl zl_3_123 zm_Mach_finish rfl (G_Mach_finish h67) (Nat.le_of_ble_eq_true rfl) (Nat.le_of_ble_eq_true rfl) rfl ?_
  cases h
  exact go_return K_Mach_move rfl rfl
def F_Mach_step (N : Nat) (M : zMem) : Option (zMem) :=
  zbi (F_Code_operation M (M 27 15)) fun r3 M1 => zbi (F_Code_operand M1 (M1 27 15)) fun r6 M4 => zset M4 27 15 ((M4 27 15) + (1 : Int32)) fun M7 => if r3 < (130 : Int32) then (if r3 < (20 : Int32) then (zbv (F_Mach_move M7 r3 r6) fun M9 => some M9) else (zbv (F_Mach_go N M7 r3 r6) fun M11 => some M11)) else (zbv (F_Mach_calculate M7 r3) fun M13 => some M13)
set_option maxRecDepth 100000 in
theorem G_Mach_step {N : Nat} {M : zMem} {y : zMem} (h : F_Mach_step N M  = some y) : zGo Y_Mach_step 4 0 (zal Y_Mach_step [.inr 27]) [] M none y := by
  unfold F_Mach_step at h
  show zGo Y_Mach_step 4 0 [some (.inr 27), none, none] [] M _ _
  refine go_aload_n K_Mach_step rfl rfl ?_
  refine go_getR K_Mach_step rfl zf_3_34 ?_
  refine go_aload_n K_Mach_step rfl rfl ?_
  refine go_getI K_Mach_step rfl zf_3_67 ?_
  obtain ⟨r3, M1, h2, h⟩ := zbi_ex h
  refine go_vi (Y' := Y_Code_operation) (av := [.inl (M 27 15)]) (rest := []) K_Mach_step rfl zl_3_77 zm_Code_operation rfl (G_Code_operation h2) (Nat.le_of_ble_eq_true rfl) (Nat.le_of_ble_eq_true rfl) rfl ?_
  refine go_istore_n K_Mach_step rfl (Nat.le_of_ble_eq_true rfl) ?_
  refine go_aload_n K_Mach_step rfl rfl ?_
  refine go_getR K_Mach_step rfl zf_3_34 ?_
  refine go_aload_n K_Mach_step rfl rfl ?_
  refine go_getI K_Mach_step rfl zf_3_67 ?_
  obtain ⟨r6, M4, h5, h⟩ := zbi_ex h
  refine go_vi (Y' := Y_Code_operand) (av := [.inl (M1 27 15)]) (rest := []) K_Mach_step rfl zl_3_83 zm_Code_operand rfl (G_Code_operand h5) (Nat.le_of_ble_eq_true rfl) (Nat.le_of_ble_eq_true rfl) rfl ?_
  refine go_istore_n K_Mach_step rfl (Nat.le_of_ble_eq_true rfl) ?_
  refine go_aload_n K_Mach_step rfl rfl ?_
  refine go_dup K_Mach_step rfl ?_
  refine go_getI K_Mach_step rfl zf_3_67 ?_
  refine go_iconst K_Mach_step rfl zk_iconst_1 ?_
  refine go_iadd K_Mach_step rfl ?_
  obtain ⟨M7, e8, h⟩ := zset_ex h
  refine go_putI' e8 K_Mach_step rfl zf_3_67 ?_
  refine go_iload_n K_Mach_step rfl rfl ?_
  refine go_sipush K_Mach_step rfl zk_sipush_130 ?_
  refine go_icmp_lt K_Mach_step rfl (fun c => ?_) (fun c => ?_)
  · have h := zif_t c h
    refine go_iload_n K_Mach_step rfl rfl ?_
    refine go_bipush K_Mach_step rfl zk_bipush_20 ?_
    refine go_icmp_lt K_Mach_step rfl (fun c => ?_) (fun c => ?_)
    · have h := zif_t c h
      refine go_aload_n K_Mach_step rfl rfl ?_
      refine go_iload_n K_Mach_step rfl rfl ?_
      refine go_iload_n K_Mach_step rfl rfl ?_
      obtain ⟨M9, h10, h⟩ := zbv_ex h
      refine go_vv (Y' := Y_Mach_move) (av := [.inl r3, .inl r6]) (rest := []) K_Mach_step rfl zl_3_96 zm_Mach_move rfl (G_Mach_move h10) (Nat.le_of_ble_eq_true rfl) (Nat.le_of_ble_eq_true rfl) rfl ?_
      cases h
      exact go_return K_Mach_step rfl rfl
    · have h := zif_f c h
      refine go_aload_n K_Mach_step rfl rfl ?_
      refine go_iload_n K_Mach_step rfl rfl ?_
      refine go_iload_n K_Mach_step rfl rfl ?_
      obtain ⟨M11, h12, h⟩ := zbv_ex h
      refine go_vv (Y' := Y_Mach_go) (av := [.inl r3, .inl r6]) (rest := []) K_Mach_step rfl zl_3_92 zm_Mach_go rfl (G_Mach_go h12) (Nat.le_of_ble_eq_true rfl) (Nat.le_of_ble_eq_true rfl) rfl ?_
      refine go_goto K_Mach_step rfl ?_
      cases h
      exact go_return K_Mach_step rfl rfl
  · have h := zif_f c h
    refine go_aload_n K_Mach_step rfl rfl ?_
    refine go_iload_n K_Mach_step rfl rfl ?_
    obtain ⟨M13, h14, h⟩ := zbv_ex h
    refine go_vv (Y' := Y_Mach_calculate) (av := [.inl r3]) (rest := []) K_Mach_step rfl zl_3_88 zm_Mach_calculate rfl (G_Mach_calculate h14) (Nat.le_of_ble_eq_true rfl) (Nat.le_of_ble_eq_true rfl) rfl ?_
    refine go_goto K_Mach_step rfl ?_
    cases h
    exact go_return K_Mach_step rfl rfl
def F_Proc_mainEntry (M : zMem) : Option (Int32 × zMem) :=
  some (M 7 6, M)
set_option maxRecDepth 100000 in
theorem G_Proc_mainEntry {M : zMem} {y : Int32 × zMem} (h : F_Proc_mainEntry M  = some y) : zGo Y_Proc_mainEntry 0 0 (zal Y_Proc_mainEntry [.inr 7]) [] M (some y.1) y.2 := by
  unfold F_Proc_mainEntry at h
  show zGo Y_Proc_mainEntry 0 0 [some (.inr 7)] [] M _ _
  refine go_aload_n K_Proc_mainEntry rfl rfl ?_
  refine go_getI K_Proc_mainEntry rfl zf_8_31 ?_
  cases h
  exact go_ireturn K_Proc_mainEntry rfl rfl
def F_Mach_execute_p75 (N : Nat) : Nat → zMem → Int32 → Option (zMem)
  | 0, _, _ => none
  | n + 1, M, l3 =>
    if (1000000 : Int32) ≤ l3 then (some M) else (if (M 27 16) = 0 then (some M) else (zbv (F_Mach_step N M ) fun M1 => F_Mach_execute_p75 N n M1 (l3 + (1 : Int32))))
set_option maxRecDepth 100000 in
theorem G_Mach_execute_p75 {N : Nat} : ∀ (n : Nat) {M : zMem} {l3 : Int32} {y : zMem}, F_Mach_execute_p75 N n M l3 = some y → zGo Y_Mach_execute 5 75 [some (.inr 27), none, none, some (.inl l3)] [] M none y := by
  intro n
  induction n with
  | zero =>
    intro M l3 y h
    unfold F_Mach_execute_p75 at h
    cases h
  | succ n ih =>
    intro M l3 y h
    unfold F_Mach_execute_p75 at h
    refine go_iload_n K_Mach_execute rfl rfl ?_
    refine go_ldc (v := 1000000) K_Mach_execute rfl zldc ?_
    refine go_icmp_ge K_Mach_execute rfl (fun c => ?_) (fun c => ?_)
    · have h := zif_t c h
      cases h
      exact go_return K_Mach_execute rfl rfl
    · have h := zif_f c h
      refine go_aload_n K_Mach_execute rfl rfl ?_
      refine go_getI K_Mach_execute rfl zf_3_70 ?_
      refine go_if_eq K_Mach_execute rfl (fun c => ?_) (fun c => ?_)
      · have h := zif_t c h
        cases h
        exact go_return K_Mach_execute rfl rfl
      · have h := zif_f c h
        refine go_aload_n K_Mach_execute rfl rfl ?_
        obtain ⟨M1, h2, h⟩ := zbv_ex h
        refine go_vv (Y' := Y_Mach_step) (av := []) (rest := []) K_Mach_execute rfl zl_3_74 zm_Mach_step rfl (G_Mach_step h2) (Nat.le_of_ble_eq_true rfl) (Nat.le_of_ble_eq_true rfl) rfl ?_
        refine go_iinc (v := l3 + (1 : Int32)) K_Mach_execute rfl rfl zinc_1 ?_
        refine go_goto K_Mach_execute rfl ?_
        exact go_forget (ih h) (zs_s (zs_n (zs_n (zs_s zs_e))))
def F_Mach_execute_p47 (N : Nat) (M : zMem) : Option (zMem) :=
  zset M 27 3 ((0 : Int32)) fun M1 => zset M1 27 4 ((0 : Int32)) fun M3 => zset M3 27 5 ((0 : Int32)) fun M5 => zset M5 27 6 ((0 : Int32)) fun M7 => zset M7 27 13 ((0 : Int32)) fun M9 => zset M9 27 14 ((0 : Int32)) fun M11 => zbi (F_Proc_mainEntry M11 ) fun r15 M13 => zset M13 27 15 r15 fun M16 => zset M16 27 16 ((1 : Int32)) fun M18 => F_Mach_execute_p75 N N M18 ((0 : Int32))
set_option maxRecDepth 100000 in
theorem G_Mach_execute_p47 {N : Nat} {M : zMem} {y : zMem} (h : F_Mach_execute_p47 N M  = some y) : zGo Y_Mach_execute 5 47 [some (.inr 27), none, none, none] [] M none y := by
  unfold F_Mach_execute_p47 at h
  refine go_aload_n K_Mach_execute rfl rfl ?_
  refine go_iconst K_Mach_execute rfl zk_iconst_0 ?_
  obtain ⟨M1, e2, h⟩ := zset_ex h
  refine go_putI' e2 K_Mach_execute rfl zf_3_42 ?_
  refine go_aload_n K_Mach_execute rfl rfl ?_
  refine go_iconst K_Mach_execute rfl zk_iconst_0 ?_
  obtain ⟨M3, e4, h⟩ := zset_ex h
  refine go_putI' e4 K_Mach_execute rfl zf_3_46 ?_
  refine go_aload_n K_Mach_execute rfl rfl ?_
  refine go_iconst K_Mach_execute rfl zk_iconst_0 ?_
  obtain ⟨M5, e6, h⟩ := zset_ex h
  refine go_putI' e6 K_Mach_execute rfl zf_3_49 ?_
  refine go_aload_n K_Mach_execute rfl rfl ?_
  refine go_iconst K_Mach_execute rfl zk_iconst_0 ?_
  obtain ⟨M7, e8, h⟩ := zset_ex h
  refine go_putI' e8 K_Mach_execute rfl zf_3_52 ?_
  refine go_aload_n K_Mach_execute rfl rfl ?_
  refine go_iconst K_Mach_execute rfl zk_iconst_0 ?_
  obtain ⟨M9, e10, h⟩ := zset_ex h
  refine go_putI' e10 K_Mach_execute rfl zf_3_55 ?_
  refine go_aload_n K_Mach_execute rfl rfl ?_
  refine go_iconst K_Mach_execute rfl zk_iconst_0 ?_
  obtain ⟨M11, e12, h⟩ := zset_ex h
  refine go_putI' e12 K_Mach_execute rfl zf_3_58 ?_
  refine go_aload_n K_Mach_execute rfl rfl ?_
  refine go_aload_n K_Mach_execute rfl rfl ?_
  refine go_getR K_Mach_execute rfl zf_3_38 ?_
  obtain ⟨r15, M13, h14, h⟩ := zbi_ex h
  refine go_vi (Y' := Y_Proc_mainEntry) (av := []) (rest := [.inr 27]) K_Mach_execute rfl zl_3_61 zm_Proc_mainEntry rfl (G_Proc_mainEntry h14) (Nat.le_of_ble_eq_true rfl) (Nat.le_of_ble_eq_true rfl) rfl ?_
  obtain ⟨M16, e17, h⟩ := zset_ex h
  refine go_putI' e17 K_Mach_execute rfl zf_3_67 ?_
  refine go_aload_n K_Mach_execute rfl rfl ?_
  refine go_iconst K_Mach_execute rfl zk_iconst_1 ?_
  obtain ⟨M18, e19, h⟩ := zset_ex h
  refine go_putZ' e19 K_Mach_execute rfl zf_3_70 (Or.inr rfl) ?_
  refine go_iconst K_Mach_execute rfl zk_iconst_0 ?_
  refine go_istore_n K_Mach_execute rfl (Nat.le_of_ble_eq_true rfl) ?_
  exact go_forget (G_Mach_execute_p75 _ h) (zs_s (zs_n (zs_n (zs_s zs_e))))
def F_Mach_execute_p29 (N : Nat) : Nat → zMem → Int32 → Option (zMem)
  | 0, _, _ => none
  | n + 1, M, l3 =>
    if (16 : Int32) ≤ l3 then (F_Mach_execute_p47 N M ) else (if (16 : Int32) ≤ l3 then (F_Mach_execute_p47 N M ) else (zix l3 16 (zix l3 16 (zset M 29 l3.toNatClampNeg (M 3 l3.toNatClampNeg) fun M3 => F_Mach_execute_p29 N n M3 (l3 + (1 : Int32))))))
set_option maxRecDepth 100000 in
theorem G_Mach_execute_p29 {N : Nat} : ∀ (n : Nat) {M : zMem} {l3 : Int32} {y : zMem}, F_Mach_execute_p29 N n M l3 = some y → zGo Y_Mach_execute 5 29 [some (.inr 27), none, some (.inr 3), some (.inl l3)] [] M none y := by
  intro n
  induction n with
  | zero =>
    intro M l3 y h
    unfold F_Mach_execute_p29 at h
    cases h
  | succ n ih =>
    intro M l3 y h
    unfold F_Mach_execute_p29 at h
    refine go_iload_n K_Mach_execute rfl rfl ?_
    refine go_aload_n K_Mach_execute rfl rfl ?_
    refine go_getR K_Mach_execute rfl zf_3_15 ?_
    refine go_alen K_Mach_execute rfl za_29 zlen_16 ?_
    refine go_icmp_ge K_Mach_execute rfl (fun c => ?_) (fun c => ?_)
    · have h := zif_t c h
      exact go_forget (G_Mach_execute_p47 h) (zs_s (zs_n (zs_n (zs_n zs_e))))
    · have h := zif_f c h
      refine go_iload_n K_Mach_execute rfl rfl ?_
      refine go_aload_n K_Mach_execute rfl rfl ?_
      refine go_alen K_Mach_execute rfl za_3 zlen_16 ?_
      refine go_icmp_ge K_Mach_execute rfl (fun c => ?_) (fun c => ?_)
      · have h := zif_t c h
        exact go_forget (G_Mach_execute_p47 h) (zs_s (zs_n (zs_n (zs_n zs_e))))
      · have h := zif_f c h
        refine go_aload_n K_Mach_execute rfl rfl ?_
        refine go_getR K_Mach_execute rfl zf_3_15 ?_
        refine go_iload_n K_Mach_execute rfl rfl ?_
        refine go_aload_n K_Mach_execute rfl rfl ?_
        refine go_iload_n K_Mach_execute rfl rfl ?_
        obtain ⟨i1, h⟩ := zix_ex h
        refine go_iald K_Mach_execute rfl za_3 i1 ?_
        obtain ⟨i2, h⟩ := zix_ex h
        obtain ⟨M3, e4, h⟩ := zset_ex h
        refine go_iast' e4 K_Mach_execute rfl za_29 i2 ?_
        refine go_iinc (v := l3 + (1 : Int32)) K_Mach_execute rfl rfl zinc_1 ?_
        refine go_goto K_Mach_execute rfl ?_
        exact go_forget (ih h) (zs_s (zs_n (zs_s (zs_s zs_e))))
def F_Mach_execute_p27 (N : Nat) (M : zMem) : Option (zMem) :=
  F_Mach_execute_p29 N N M ((0 : Int32))
set_option maxRecDepth 100000 in
theorem G_Mach_execute_p27 {N : Nat} {M : zMem} {y : zMem} (h : F_Mach_execute_p27 N M  = some y) : zGo Y_Mach_execute 5 27 [some (.inr 27), none, some (.inr 3), none] [] M none y := by
  unfold F_Mach_execute_p27 at h
  refine go_iconst K_Mach_execute rfl zk_iconst_0 ?_
  refine go_istore_n K_Mach_execute rfl (Nat.le_of_ble_eq_true rfl) ?_
  exact go_forget (G_Mach_execute_p29 _ h) (zs_s (zs_n (zs_s (zs_s zs_e))))
def F_Mach_execute_p9 (N : Nat) : Nat → zMem → Int32 → Option (zMem)
  | 0, _, _ => none
  | n + 1, M, l3 =>
    if (8 : Int32) ≤ l3 then (F_Mach_execute_p27 N M ) else (if (8 : Int32) ≤ l3 then (F_Mach_execute_p27 N M ) else (zix l3 8 (zix l3 8 (zset M 28 l3.toNatClampNeg (M 2 l3.toNatClampNeg) fun M3 => F_Mach_execute_p9 N n M3 (l3 + (1 : Int32))))))
set_option maxRecDepth 100000 in
theorem G_Mach_execute_p9 {N : Nat} : ∀ (n : Nat) {M : zMem} {l3 : Int32} {y : zMem}, F_Mach_execute_p9 N n M l3 = some y → zGo Y_Mach_execute 5 9 [some (.inr 27), some (.inr 2), some (.inr 3), some (.inl l3)] [] M none y := by
  intro n
  induction n with
  | zero =>
    intro M l3 y h
    unfold F_Mach_execute_p9 at h
    cases h
  | succ n ih =>
    intro M l3 y h
    unfold F_Mach_execute_p9 at h
    refine go_iload_n K_Mach_execute rfl rfl ?_
    refine go_aload_n K_Mach_execute rfl rfl ?_
    refine go_getR K_Mach_execute rfl zf_3_9 ?_
    refine go_alen K_Mach_execute rfl za_28 zlen_8 ?_
    refine go_icmp_ge K_Mach_execute rfl (fun c => ?_) (fun c => ?_)
    · have h := zif_t c h
      exact go_forget (G_Mach_execute_p27 h) (zs_s (zs_n (zs_s (zs_n zs_e))))
    · have h := zif_f c h
      refine go_iload_n K_Mach_execute rfl rfl ?_
      refine go_aload_n K_Mach_execute rfl rfl ?_
      refine go_alen K_Mach_execute rfl za_2 zlen_8 ?_
      refine go_icmp_ge K_Mach_execute rfl (fun c => ?_) (fun c => ?_)
      · have h := zif_t c h
        exact go_forget (G_Mach_execute_p27 h) (zs_s (zs_n (zs_s (zs_n zs_e))))
      · have h := zif_f c h
        refine go_aload_n K_Mach_execute rfl rfl ?_
        refine go_getR K_Mach_execute rfl zf_3_9 ?_
        refine go_iload_n K_Mach_execute rfl rfl ?_
        refine go_aload_n K_Mach_execute rfl rfl ?_
        refine go_iload_n K_Mach_execute rfl rfl ?_
        obtain ⟨i1, h⟩ := zix_ex h
        refine go_iald K_Mach_execute rfl za_2 i1 ?_
        obtain ⟨i2, h⟩ := zix_ex h
        obtain ⟨M3, e4, h⟩ := zset_ex h
        refine go_iast' e4 K_Mach_execute rfl za_28 i2 ?_
        refine go_iinc (v := l3 + (1 : Int32)) K_Mach_execute rfl rfl zinc_1 ?_
        refine go_goto K_Mach_execute rfl ?_
        exact go_forget (ih h) (zs_s (zs_s (zs_s (zs_s zs_e))))
def F_Mach_execute (N : Nat) (M : zMem) : Option (zMem) :=
  if (M 27 7) = 0 then (some M) else (zset M 27 7 ((0 : Int32)) fun M1 => F_Mach_execute_p9 N N M1 ((0 : Int32)))
set_option maxRecDepth 100000 in
theorem G_Mach_execute {N : Nat} {M : zMem} {y : zMem} (h : F_Mach_execute N M  = some y) : zGo Y_Mach_execute 5 0 (zal Y_Mach_execute [.inr 27, .inr 2, .inr 3]) [] M none y := by
  unfold F_Mach_execute at h
  show zGo Y_Mach_execute 5 0 [some (.inr 27), some (.inr 2), some (.inr 3), none] [] M _ _
  refine go_aload_n K_Mach_execute rfl rfl ?_
  refine go_getI K_Mach_execute rfl zf_3_21 ?_
  refine go_if_ne K_Mach_execute rfl (fun c => ?_) (fun c => ?_)
  · have h := zif_f c h
    refine go_aload_n K_Mach_execute rfl rfl ?_
    refine go_iconst K_Mach_execute rfl zk_iconst_0 ?_
    obtain ⟨M1, e2, h⟩ := zset_ex h
    refine go_putZ' e2 K_Mach_execute rfl zf_3_21 (Or.inl rfl) ?_
    refine go_iconst K_Mach_execute rfl zk_iconst_0 ?_
    refine go_istore_n K_Mach_execute rfl (Nat.le_of_ble_eq_true rfl) ?_
    exact go_forget (G_Mach_execute_p9 _ h) (zs_s (zs_s (zs_s (zs_s zs_e))))
  · have h := zif_t c h
    cases h
    exact go_return K_Mach_execute rfl rfl
def F_Stat_awaitLast (M : zMem) (l1 l2 : Int32) : Option (Int32 × zMem) :=
  zbv (F_Pend_push M (7 : Int32) l1 l2) fun M1 => some ((21 : Int32), M1)
set_option maxRecDepth 100000 in
theorem G_Stat_awaitLast {M : zMem} {l1 l2 : Int32} {y : Int32 × zMem} (h : F_Stat_awaitLast M l1 l2 = some y) : zGo Y_Stat_awaitLast 1 0 (zal Y_Stat_awaitLast [.inr 26, .inl l1, .inl l2]) [] M (some y.1) y.2 := by
  unfold F_Stat_awaitLast at h
  show zGo Y_Stat_awaitLast 1 0 [some (.inr 26), some (.inl l1), some (.inl l2)] [] M _ _
  refine go_aload_n K_Stat_awaitLast rfl rfl ?_
  refine go_getR K_Stat_awaitLast rfl zf_9_17 ?_
  refine go_bipush K_Stat_awaitLast rfl zk_bipush_7 ?_
  refine go_iload_n K_Stat_awaitLast rfl rfl ?_
  refine go_iload_n K_Stat_awaitLast rfl rfl ?_
  obtain ⟨M1, h2, h⟩ := zbv_ex h
  refine go_vv (Y' := Y_Pend_push) (av := [.inl (7 : Int32), .inl l1, .inl l2]) (rest := []) K_Stat_awaitLast rfl zl_9_49 zm_Pend_push rfl (G_Pend_push h2) (Nat.le_of_ble_eq_true rfl) (Nat.le_of_ble_eq_true rfl) rfl ?_
  refine go_bipush K_Stat_awaitLast rfl zk_bipush_21 ?_
  cases h
  exact go_ireturn K_Stat_awaitLast rfl rfl
def F_Stat_begin_p16 (M : zMem) (l3 s1 : Int32) : Option (Int32 × zMem) :=
  zbi (F_Stat_awaitLast M s1 l3) fun r3 M1 => some ((11 : Int32), M1)
set_option maxRecDepth 100000 in
theorem G_Stat_begin_p16 {M : zMem} {l3 s1 : Int32} {y : Int32 × zMem} (h : F_Stat_begin_p16 M l3 s1 = some y) : zGo Y_Stat_begin 2 16 [none, none, none, some (.inl l3)] [.inl s1, .inr 26] M (some y.1) y.2 := by
  unfold F_Stat_begin_p16 at h
  refine go_iload_n K_Stat_begin rfl rfl ?_
  obtain ⟨r3, M1, h2, h⟩ := zbi_ex h
  refine go_vi (Y' := Y_Stat_awaitLast) (av := [.inl s1, .inl l3]) (rest := []) K_Stat_begin rfl zl_9_34 zm_Stat_awaitLast rfl (G_Stat_awaitLast h2) (Nat.le_of_ble_eq_true rfl) (Nat.le_of_ble_eq_true rfl) rfl ?_
  refine go_pop K_Stat_begin rfl ?_
  refine go_bipush K_Stat_begin rfl zk_bipush_11 ?_
  cases h
  exact go_ireturn K_Stat_begin rfl rfl
def F_Stat_begin (M : zMem) (l1 l2 : Int32) : Option (Int32 × zMem) :=
  zbi (F_Tok_isName M l1) fun r3 M1 => if r3 = 0 then (zbi (F_Tok_isProcedure M1 l1) fun r6 M4 => if r6 = 0 then (if l1 = (108 : Int32) then (zbv (F_Pend_push M4 (6 : Int32) (0 : Int32) (0 : Int32)) fun M7 => some ((15 : Int32), M7)) else (if l1 = (160 : Int32) then (zbv (F_Pend_push M4 (11 : Int32) (-1 : Int32) (0 : Int32)) fun M10 => some ((21 : Int32), M10)) else (if l1 = (164 : Int32) then (zbi (F_Code_here M4 ) fun r15 M13 => zbv (F_Pend_push M13 (8 : Int32) r15 (0 : Int32)) fun M16 => some ((21 : Int32), M16)) else (if l1 = (166 : Int32) then (zbi (F_Code_here M4 ) fun r21 M19 => zbv (F_Pend_push M19 (10 : Int32) r21 (0 : Int32)) fun M22 => zbi (F_Code_emit M22 (24 : Int32) (0 : Int32)) fun r26 M24 => some ((9 : Int32), M24)) else (if l1 = (168 : Int32) then (zbi (F_Stat_awaitLast M4 (26 : Int32) (0 : Int32)) fun r30 M28 => some (r30, M28)) else (if l1 = (169 : Int32) then (zbi (F_Stat_awaitLast M4 (12 : Int32) (0 : Int32)) fun r34 M32 => some (r34, M32)) else (some ((-1 : Int32), M4)))))))) else (zbv (F_Proc_beginCall M4 (l1 - (110 : Int32)) l2) fun M36 => zbv (F_Pend_push M36 (5 : Int32) l2 (0 : Int32)) fun M38 => some ((17 : Int32), M38))) else (zbi (F_Proc_isOwn M1 (l1 - (100 : Int32))) fun r42 M40 => if r42 = 0 then (F_Stat_begin_p16 M40 (l1 - (100 : Int32)) ((5 : Int32))) else (F_Stat_begin_p16 M40 (l1 - (100 : Int32)) ((6 : Int32))))
set_option maxRecDepth 100000 in
theorem G_Stat_begin {M : zMem} {l1 l2 : Int32} {y : Int32 × zMem} (h : F_Stat_begin M l1 l2 = some y) : zGo Y_Stat_begin 2 0 (zal Y_Stat_begin [.inr 26, .inl l1, .inl l2]) [] M (some y.1) y.2 := by
  unfold F_Stat_begin at h
  show zGo Y_Stat_begin 2 0 [some (.inr 26), some (.inl l1), some (.inl l2), none] [] M _ _
  refine go_iload_n K_Stat_begin rfl rfl ?_
  obtain ⟨r3, M1, h2, h⟩ := zbi_ex h
  refine go_si (Y' := Y_Tok_isName) (av := [.inl l1]) (rest := []) K_Stat_begin rfl zl_9_21 zm_Tok_isName rfl (G_Tok_isName h2) (Nat.le_of_ble_eq_true rfl) (Nat.le_of_ble_eq_true rfl) rfl ?_
  refine go_if_eq K_Stat_begin rfl (fun c => ?_) (fun c => ?_)
  · have h := zif_t c h
    refine go_iload_n K_Stat_begin rfl rfl ?_
    obtain ⟨r6, M4, h5, h⟩ := zbi_ex h
    refine go_si (Y' := Y_Tok_isProcedure) (av := [.inl l1]) (rest := []) K_Stat_begin rfl zl_9_40 zm_Tok_isProcedure rfl (G_Tok_isProcedure h5) (Nat.le_of_ble_eq_true rfl) (Nat.le_of_ble_eq_true rfl) rfl ?_
    refine go_if_eq K_Stat_begin rfl (fun c => ?_) (fun c => ?_)
    · have h := zif_t c h
      refine go_iload_n K_Stat_begin rfl rfl ?_
      by_cases c9 : l1 = (108 : Int32)
      · have h := zif_t c9 h
        refine go_switch (k' := 41) (off := 57) K_Stat_begin rfl (by show zsw _ (l1) = _; rw [c9]; decide) (by decide) ?_
        refine go_aload_n K_Stat_begin rfl rfl ?_
        refine go_getR K_Stat_begin rfl zf_9_17 ?_
        refine go_bipush K_Stat_begin rfl zk_bipush_6 ?_
        refine go_iconst K_Stat_begin rfl zk_iconst_0 ?_
        refine go_iconst K_Stat_begin rfl zk_iconst_0 ?_
        obtain ⟨M7, h8, h⟩ := zbv_ex h
        refine go_vv (Y' := Y_Pend_push) (av := [.inl (6 : Int32), .inl (0 : Int32), .inl (0 : Int32)]) (rest := []) K_Stat_begin rfl zl_9_49 zm_Pend_push rfl (G_Pend_push h8) (Nat.le_of_ble_eq_true rfl) (Nat.le_of_ble_eq_true rfl) rfl ?_
        refine go_bipush K_Stat_begin rfl zk_bipush_15 ?_
        cases h
        exact go_ireturn K_Stat_begin rfl rfl
      have h := zif_f c9 h
      by_cases c12 : l1 = (160 : Int32)
      · have h := zif_t c12 h
        refine go_switch (k' := 85) (off := 138) K_Stat_begin rfl (by show zsw _ (l1) = _; rw [c12]; decide) (by decide) ?_
        refine go_aload_n K_Stat_begin rfl rfl ?_
        refine go_getR K_Stat_begin rfl zf_9_17 ?_
        refine go_bipush K_Stat_begin rfl zk_bipush_11 ?_
        refine go_iconst K_Stat_begin rfl zk_iconst_m1 ?_
        refine go_iconst K_Stat_begin rfl zk_iconst_0 ?_
        obtain ⟨M10, h11, h⟩ := zbv_ex h
        refine go_vv (Y' := Y_Pend_push) (av := [.inl (11 : Int32), .inl (-1 : Int32), .inl (0 : Int32)]) (rest := []) K_Stat_begin rfl zl_9_49 zm_Pend_push rfl (G_Pend_push h11) (Nat.le_of_ble_eq_true rfl) (Nat.le_of_ble_eq_true rfl) rfl ?_
        refine go_bipush K_Stat_begin rfl zk_bipush_21 ?_
        cases h
        exact go_ireturn K_Stat_begin rfl rfl
      have h := zif_f c12 h
      by_cases c18 : l1 = (164 : Int32)
      · have h := zif_t c18 h
        refine go_switch (k' := 59) (off := 87) K_Stat_begin rfl (by show zsw _ (l1) = _; rw [c18]; decide) (by decide) ?_
        refine go_aload_n K_Stat_begin rfl rfl ?_
        refine go_getR K_Stat_begin rfl zf_9_17 ?_
        refine go_bipush K_Stat_begin rfl zk_bipush_8 ?_
        refine go_aload_n K_Stat_begin rfl rfl ?_
        refine go_getR K_Stat_begin rfl zf_9_7 ?_
        obtain ⟨r15, M13, h14, h⟩ := zbi_ex h
        refine go_vi (Y' := Y_Code_here) (av := []) (rest := [.inl (8 : Int32), .inr 15]) K_Stat_begin rfl zl_9_53 zm_Code_here rfl (G_Code_here h14) (Nat.le_of_ble_eq_true rfl) (Nat.le_of_ble_eq_true rfl) rfl ?_
        refine go_iconst K_Stat_begin rfl zk_iconst_0 ?_
        obtain ⟨M16, h17, h⟩ := zbv_ex h
        refine go_vv (Y' := Y_Pend_push) (av := [.inl (8 : Int32), .inl r15, .inl (0 : Int32)]) (rest := []) K_Stat_begin rfl zl_9_49 zm_Pend_push rfl (G_Pend_push h17) (Nat.le_of_ble_eq_true rfl) (Nat.le_of_ble_eq_true rfl) rfl ?_
        refine go_bipush K_Stat_begin rfl zk_bipush_21 ?_
        cases h
        exact go_ireturn K_Stat_begin rfl rfl
      have h := zif_f c18 h
      by_cases c27 : l1 = (166 : Int32)
      · have h := zif_t c27 h
        refine go_switch (k' := 69) (off := 107) K_Stat_begin rfl (by show zsw _ (l1) = _; rw [c27]; decide) (by decide) ?_
        refine go_aload_n K_Stat_begin rfl rfl ?_
        refine go_getR K_Stat_begin rfl zf_9_17 ?_
        refine go_bipush K_Stat_begin rfl zk_bipush_10 ?_
        refine go_aload_n K_Stat_begin rfl rfl ?_
        refine go_getR K_Stat_begin rfl zf_9_7 ?_
        obtain ⟨r21, M19, h20, h⟩ := zbi_ex h
        refine go_vi (Y' := Y_Code_here) (av := []) (rest := [.inl (10 : Int32), .inr 15]) K_Stat_begin rfl zl_9_53 zm_Code_here rfl (G_Code_here h20) (Nat.le_of_ble_eq_true rfl) (Nat.le_of_ble_eq_true rfl) rfl ?_
        refine go_iconst K_Stat_begin rfl zk_iconst_0 ?_
        obtain ⟨M22, h23, h⟩ := zbv_ex h
        refine go_vv (Y' := Y_Pend_push) (av := [.inl (10 : Int32), .inl r21, .inl (0 : Int32)]) (rest := []) K_Stat_begin rfl zl_9_49 zm_Pend_push rfl (G_Pend_push h23) (Nat.le_of_ble_eq_true rfl) (Nat.le_of_ble_eq_true rfl) rfl ?_
        refine go_aload_n K_Stat_begin rfl rfl ?_
        refine go_getR K_Stat_begin rfl zf_9_7 ?_
        refine go_bipush K_Stat_begin rfl zk_bipush_24 ?_
        refine go_iconst K_Stat_begin rfl zk_iconst_0 ?_
        obtain ⟨r26, M24, h25, h⟩ := zbi_ex h
        refine go_vi (Y' := Y_Code_emit) (av := [.inl (24 : Int32), .inl (0 : Int32)]) (rest := []) K_Stat_begin rfl zl_9_57 zm_Code_emit rfl (G_Code_emit h25) (Nat.le_of_ble_eq_true rfl) (Nat.le_of_ble_eq_true rfl) rfl ?_
        refine go_pop K_Stat_begin rfl ?_
        refine go_bipush K_Stat_begin rfl zk_bipush_9 ?_
        cases h
        exact go_ireturn K_Stat_begin rfl rfl
      have h := zif_f c27 h
      by_cases c31 : l1 = (168 : Int32)
      · have h := zif_t c31 h
        refine go_switch (k' := 54) (off := 79) K_Stat_begin rfl (by show zsw _ (l1) = _; rw [c31]; decide) (by decide) ?_
        refine go_aload_n K_Stat_begin rfl rfl ?_
        refine go_bipush K_Stat_begin rfl zk_bipush_26 ?_
        refine go_iconst K_Stat_begin rfl zk_iconst_0 ?_
        obtain ⟨r30, M28, h29, h⟩ := zbi_ex h
        refine go_vi (Y' := Y_Stat_awaitLast) (av := [.inl (26 : Int32), .inl (0 : Int32)]) (rest := []) K_Stat_begin rfl zl_9_34 zm_Stat_awaitLast rfl (G_Stat_awaitLast h29) (Nat.le_of_ble_eq_true rfl) (Nat.le_of_ble_eq_true rfl) rfl ?_
        cases h
        exact go_ireturn K_Stat_begin rfl rfl
      have h := zif_f c31 h
      by_cases c35 : l1 = (169 : Int32)
      · have h := zif_t c35 h
        refine go_switch (k' := 49) (off := 71) K_Stat_begin rfl (by show zsw _ (l1) = _; rw [c35]; decide) (by decide) ?_
        refine go_aload_n K_Stat_begin rfl rfl ?_
        refine go_bipush K_Stat_begin rfl zk_bipush_12 ?_
        refine go_iconst K_Stat_begin rfl zk_iconst_0 ?_
        obtain ⟨r34, M32, h33, h⟩ := zbi_ex h
        refine go_vi (Y' := Y_Stat_awaitLast) (av := [.inl (12 : Int32), .inl (0 : Int32)]) (rest := []) K_Stat_begin rfl zl_9_34 zm_Stat_awaitLast rfl (G_Stat_awaitLast h33) (Nat.le_of_ble_eq_true rfl) (Nat.le_of_ble_eq_true rfl) rfl ?_
        cases h
        exact go_ireturn K_Stat_begin rfl rfl
      have h := zif_f c35 h
      refine go_switch (k' := 93) (off := 152) K_Stat_begin rfl (by simp [zsw, Op.lookupswitch.offset, zti c9 (n := 108) (by decide), zti c12 (n := 160) (by decide), zti c18 (n := 164) (by decide), zti c27 (n := 166) (by decide), zti c31 (n := 168) (by decide), zti c35 (n := 169) (by decide)]) (by decide) ?_
      refine go_iconst K_Stat_begin rfl zk_iconst_m1 ?_
      cases h
      exact go_ireturn K_Stat_begin rfl rfl
    · have h := zif_f c h
      refine go_aload_n K_Stat_begin rfl rfl ?_
      refine go_getR K_Stat_begin rfl zf_9_13 ?_
      refine go_iload_n K_Stat_begin rfl rfl ?_
      refine go_bipush K_Stat_begin rfl zk_bipush_110 ?_
      refine go_isub K_Stat_begin rfl ?_
      refine go_iload_n K_Stat_begin rfl rfl ?_
      obtain ⟨M36, h37, h⟩ := zbv_ex h
      refine go_vv (Y' := Y_Proc_beginCall) (av := [.inl (l1 - (110 : Int32)), .inl l2]) (rest := []) K_Stat_begin rfl zl_9_43 zm_Proc_beginCall rfl (G_Proc_beginCall h37) (Nat.le_of_ble_eq_true rfl) (Nat.le_of_ble_eq_true rfl) rfl ?_
      refine go_aload_n K_Stat_begin rfl rfl ?_
      refine go_getR K_Stat_begin rfl zf_9_17 ?_
      refine go_iconst K_Stat_begin rfl zk_iconst_5 ?_
      refine go_iload_n K_Stat_begin rfl rfl ?_
      refine go_iconst K_Stat_begin rfl zk_iconst_0 ?_
      obtain ⟨M38, h39, h⟩ := zbv_ex h
      refine go_vv (Y' := Y_Pend_push) (av := [.inl (5 : Int32), .inl l2, .inl (0 : Int32)]) (rest := []) K_Stat_begin rfl zl_9_49 zm_Pend_push rfl (G_Pend_push h39) (Nat.le_of_ble_eq_true rfl) (Nat.le_of_ble_eq_true rfl) rfl ?_
      refine go_bipush K_Stat_begin rfl zk_bipush_17 ?_
      cases h
      exact go_ireturn K_Stat_begin rfl rfl
  · have h := zif_f c h
    refine go_iload_n K_Stat_begin rfl rfl ?_
    refine go_bipush K_Stat_begin rfl zk_bipush_100 ?_
    refine go_isub K_Stat_begin rfl ?_
    refine go_istore_n K_Stat_begin rfl (Nat.le_of_ble_eq_true rfl) ?_
    refine go_aload_n K_Stat_begin rfl rfl ?_
    refine go_aload_n K_Stat_begin rfl rfl ?_
    refine go_getR K_Stat_begin rfl zf_9_13 ?_
    refine go_iload_n K_Stat_begin rfl rfl ?_
    obtain ⟨r42, M40, h41, h⟩ := zbi_ex h
    refine go_vi (Y' := Y_Proc_isOwn) (av := [.inl (l1 - (100 : Int32))]) (rest := [.inr 26]) K_Stat_begin rfl zl_9_27 zm_Proc_isOwn rfl (G_Proc_isOwn h41) (Nat.le_of_ble_eq_true rfl) (Nat.le_of_ble_eq_true rfl) rfl ?_
    refine go_if_eq K_Stat_begin rfl (fun c => ?_) (fun c => ?_)
    · have h := zif_t c h
      refine go_iconst K_Stat_begin rfl zk_iconst_5 ?_
      exact go_forget (G_Stat_begin_p16 h) (zs_n (zs_n (zs_n (zs_s zs_e))))
    · have h := zif_f c h
      refine go_bipush K_Stat_begin rfl zk_bipush_6 ?_
      refine go_goto K_Stat_begin rfl ?_
      exact go_forget (G_Stat_begin_p16 h) (zs_n (zs_n (zs_n (zs_s zs_e))))
def F_Pend_replace (M : zMem) (l1 l2 l3 : Int32) : Option (zMem) :=
  zbv (F_Pend_pop M ) fun M1 => zbv (F_Pend_push M1 l1 l2 l3) fun M3 => some M3
set_option maxRecDepth 100000 in
theorem G_Pend_replace {M : zMem} {l1 l2 l3 : Int32} {y : zMem} (h : F_Pend_replace M l1 l2 l3 = some y) : zGo Y_Pend_replace 1 0 (zal Y_Pend_replace [.inr 15, .inl l1, .inl l2, .inl l3]) [] M none y := by
  unfold F_Pend_replace at h
  show zGo Y_Pend_replace 1 0 [some (.inr 15), some (.inl l1), some (.inl l2), some (.inl l3)] [] M _ _
  refine go_aload_n K_Pend_replace rfl rfl ?_
  obtain ⟨M1, h2, h⟩ := zbv_ex h
  refine go_vv (Y' := Y_Pend_pop) (av := []) (rest := []) K_Pend_replace rfl zl_6_25 zm_Pend_pop rfl (G_Pend_pop h2) (Nat.le_of_ble_eq_true rfl) (Nat.le_of_ble_eq_true rfl) rfl ?_
  refine go_aload_n K_Pend_replace rfl rfl ?_
  refine go_iload_n K_Pend_replace rfl rfl ?_
  refine go_iload_n K_Pend_replace rfl rfl ?_
  refine go_iload_n K_Pend_replace rfl rfl ?_
  obtain ⟨M3, h4, h⟩ := zbv_ex h
  refine go_vv (Y' := Y_Pend_push) (av := [.inl l1, .inl l2, .inl l3]) (rest := []) K_Pend_replace rfl zl_6_28 zm_Pend_push rfl (G_Pend_push h4) (Nat.le_of_ble_eq_true rfl) (Nat.le_of_ble_eq_true rfl) rfl ?_
  cases h
  exact go_return K_Pend_replace rfl rfl
def F_Stat_beginThen (M : zMem) : Option (Int32 × zMem) :=
  zbi (F_Pend_first M ) fun r3 M1 => zbi (F_Code_emit M1 (21 : Int32) (0 : Int32)) fun r6 M4 => zbv (F_Pend_replace M4 (12 : Int32) r3 r6) fun M7 => some ((9 : Int32), M7)
set_option maxRecDepth 100000 in
theorem G_Stat_beginThen {M : zMem} {y : Int32 × zMem} (h : F_Stat_beginThen M  = some y) : zGo Y_Stat_beginThen 2 0 (zal Y_Stat_beginThen [.inr 26]) [] M (some y.1) y.2 := by
  unfold F_Stat_beginThen at h
  show zGo Y_Stat_beginThen 2 0 [some (.inr 26)] [] M _ _
  refine go_aload_n K_Stat_beginThen rfl rfl ?_
  refine go_getR K_Stat_beginThen rfl zf_9_17 ?_
  refine go_bipush K_Stat_beginThen rfl zk_bipush_12 ?_
  refine go_aload_n K_Stat_beginThen rfl rfl ?_
  refine go_getR K_Stat_beginThen rfl zf_9_17 ?_
  obtain ⟨r3, M1, h2, h⟩ := zbi_ex h
  refine go_vi (Y' := Y_Pend_first) (av := []) (rest := [.inl (12 : Int32), .inr 15]) K_Stat_beginThen rfl zl_9_63 zm_Pend_first rfl (G_Pend_first h2) (Nat.le_of_ble_eq_true rfl) (Nat.le_of_ble_eq_true rfl) rfl ?_
  refine go_aload_n K_Stat_beginThen rfl rfl ?_
  refine go_getR K_Stat_beginThen rfl zf_9_7 ?_
  refine go_bipush K_Stat_beginThen rfl zk_bipush_21 ?_
  refine go_iconst K_Stat_beginThen rfl zk_iconst_0 ?_
  obtain ⟨r6, M4, h5, h⟩ := zbi_ex h
  refine go_vi (Y' := Y_Code_emit) (av := [.inl (21 : Int32), .inl (0 : Int32)]) (rest := [.inl r3, .inl (12 : Int32), .inr 15]) K_Stat_beginThen rfl zl_9_57 zm_Code_emit rfl (G_Code_emit h5) (Nat.le_of_ble_eq_true rfl) (Nat.le_of_ble_eq_true rfl) rfl ?_
  obtain ⟨M7, h8, h⟩ := zbv_ex h
  refine go_vv (Y' := Y_Pend_replace) (av := [.inl (12 : Int32), .inl r3, .inl r6]) (rest := []) K_Stat_beginThen rfl zl_9_60 zm_Pend_replace rfl (G_Pend_replace h8) (Nat.le_of_ble_eq_true rfl) (Nat.le_of_ble_eq_true rfl) rfl ?_
  refine go_bipush K_Stat_beginThen rfl zk_bipush_9 ?_
  cases h
  exact go_ireturn K_Stat_beginThen rfl rfl
def F_Stat_beginWhileBody (M : zMem) : Option (Int32 × zMem) :=
  zbi (F_Pend_first M ) fun r3 M1 => zbi (F_Code_emit M1 (21 : Int32) (0 : Int32)) fun r6 M4 => zbv (F_Pend_replace M4 (9 : Int32) r3 r6) fun M7 => zbi (F_Code_emit M7 (24 : Int32) (0 : Int32)) fun r11 M9 => some ((9 : Int32), M9)
set_option maxRecDepth 100000 in
theorem G_Stat_beginWhileBody {M : zMem} {y : Int32 × zMem} (h : F_Stat_beginWhileBody M  = some y) : zGo Y_Stat_beginWhileBody 2 0 (zal Y_Stat_beginWhileBody [.inr 26]) [] M (some y.1) y.2 := by
  unfold F_Stat_beginWhileBody at h
  show zGo Y_Stat_beginWhileBody 2 0 [some (.inr 26)] [] M _ _
  refine go_aload_n K_Stat_beginWhileBody rfl rfl ?_
  refine go_getR K_Stat_beginWhileBody rfl zf_9_17 ?_
  refine go_bipush K_Stat_beginWhileBody rfl zk_bipush_9 ?_
  refine go_aload_n K_Stat_beginWhileBody rfl rfl ?_
  refine go_getR K_Stat_beginWhileBody rfl zf_9_17 ?_
  obtain ⟨r3, M1, h2, h⟩ := zbi_ex h
  refine go_vi (Y' := Y_Pend_first) (av := []) (rest := [.inl (9 : Int32), .inr 15]) K_Stat_beginWhileBody rfl zl_9_63 zm_Pend_first rfl (G_Pend_first h2) (Nat.le_of_ble_eq_true rfl) (Nat.le_of_ble_eq_true rfl) rfl ?_
  refine go_aload_n K_Stat_beginWhileBody rfl rfl ?_
  refine go_getR K_Stat_beginWhileBody rfl zf_9_7 ?_
  refine go_bipush K_Stat_beginWhileBody rfl zk_bipush_21 ?_
  refine go_iconst K_Stat_beginWhileBody rfl zk_iconst_0 ?_
  obtain ⟨r6, M4, h5, h⟩ := zbi_ex h
  refine go_vi (Y' := Y_Code_emit) (av := [.inl (21 : Int32), .inl (0 : Int32)]) (rest := [.inl r3, .inl (9 : Int32), .inr 15]) K_Stat_beginWhileBody rfl zl_9_57 zm_Code_emit rfl (G_Code_emit h5) (Nat.le_of_ble_eq_true rfl) (Nat.le_of_ble_eq_true rfl) rfl ?_
  obtain ⟨M7, h8, h⟩ := zbv_ex h
  refine go_vv (Y' := Y_Pend_replace) (av := [.inl (9 : Int32), .inl r3, .inl r6]) (rest := []) K_Stat_beginWhileBody rfl zl_9_60 zm_Pend_replace rfl (G_Pend_replace h8) (Nat.le_of_ble_eq_true rfl) (Nat.le_of_ble_eq_true rfl) rfl ?_
  refine go_aload_n K_Stat_beginWhileBody rfl rfl ?_
  refine go_getR K_Stat_beginWhileBody rfl zf_9_7 ?_
  refine go_bipush K_Stat_beginWhileBody rfl zk_bipush_24 ?_
  refine go_iconst K_Stat_beginWhileBody rfl zk_iconst_0 ?_
  obtain ⟨r11, M9, h10, h⟩ := zbi_ex h
  refine go_vi (Y' := Y_Code_emit) (av := [.inl (24 : Int32), .inl (0 : Int32)]) (rest := []) K_Stat_beginWhileBody rfl zl_9_57 zm_Code_emit rfl (G_Code_emit h10) (Nat.le_of_ble_eq_true rfl) (Nat.le_of_ble_eq_true rfl) rfl ?_
  refine go_pop K_Stat_beginWhileBody rfl ?_
  refine go_bipush K_Stat_beginWhileBody rfl zk_bipush_9 ?_
  cases h
  exact go_ireturn K_Stat_beginWhileBody rfl rfl
def F_Stat_closeTarget (M : zMem) : Option (Int32 × zMem) :=
  zbv (F_Pend_replace M (7 : Int32) (7 : Int32) (0 : Int32)) fun M1 => some ((11 : Int32), M1)
set_option maxRecDepth 100000 in
theorem G_Stat_closeTarget {M : zMem} {y : Int32 × zMem} (h : F_Stat_closeTarget M  = some y) : zGo Y_Stat_closeTarget 2 0 (zal Y_Stat_closeTarget [.inr 26]) [] M (some y.1) y.2 := by
  unfold F_Stat_closeTarget at h
  show zGo Y_Stat_closeTarget 2 0 [some (.inr 26)] [] M _ _
  refine go_aload_n K_Stat_closeTarget rfl rfl ?_
  refine go_getR K_Stat_closeTarget rfl zf_9_17 ?_
  refine go_bipush K_Stat_closeTarget rfl zk_bipush_7 ?_
  refine go_bipush K_Stat_closeTarget rfl zk_bipush_7 ?_
  refine go_iconst K_Stat_closeTarget rfl zk_iconst_0 ?_
  obtain ⟨M1, h2, h⟩ := zbv_ex h
  refine go_vv (Y' := Y_Pend_replace) (av := [.inl (7 : Int32), .inl (7 : Int32), .inl (0 : Int32)]) (rest := []) K_Stat_closeTarget rfl zl_9_60 zm_Pend_replace rfl (G_Pend_replace h2) (Nat.le_of_ble_eq_true rfl) (Nat.le_of_ble_eq_true rfl) rfl ?_
  refine go_bipush K_Stat_closeTarget rfl zk_bipush_11 ?_
  cases h
  exact go_ireturn K_Stat_closeTarget rfl rfl
def F_Stat_beginUntil (M : zMem) : Option (Int32 × zMem) :=
  zbi (F_Pend_first M ) fun r3 M1 => zbv (F_Pend_replace M1 (7 : Int32) (21 : Int32) r3) fun M4 => some ((21 : Int32), M4)
set_option maxRecDepth 100000 in
theorem G_Stat_beginUntil {M : zMem} {y : Int32 × zMem} (h : F_Stat_beginUntil M  = some y) : zGo Y_Stat_beginUntil 2 0 (zal Y_Stat_beginUntil [.inr 26]) [] M (some y.1) y.2 := by
  unfold F_Stat_beginUntil at h
  show zGo Y_Stat_beginUntil 2 0 [some (.inr 26)] [] M _ _
  refine go_aload_n K_Stat_beginUntil rfl rfl ?_
  refine go_getR K_Stat_beginUntil rfl zf_9_17 ?_
  refine go_bipush K_Stat_beginUntil rfl zk_bipush_7 ?_
  refine go_bipush K_Stat_beginUntil rfl zk_bipush_21 ?_
  refine go_aload_n K_Stat_beginUntil rfl rfl ?_
  refine go_getR K_Stat_beginUntil rfl zf_9_17 ?_
  obtain ⟨r3, M1, h2, h⟩ := zbi_ex h
  refine go_vi (Y' := Y_Pend_first) (av := []) (rest := [.inl (21 : Int32), .inl (7 : Int32), .inr 15]) K_Stat_beginUntil rfl zl_9_63 zm_Pend_first rfl (G_Pend_first h2) (Nat.le_of_ble_eq_true rfl) (Nat.le_of_ble_eq_true rfl) rfl ?_
  obtain ⟨M4, h5, h⟩ := zbv_ex h
  refine go_vv (Y' := Y_Pend_replace) (av := [.inl (7 : Int32), .inl (21 : Int32), .inl r3]) (rest := []) K_Stat_beginUntil rfl zl_9_60 zm_Pend_replace rfl (G_Pend_replace h5) (Nat.le_of_ble_eq_true rfl) (Nat.le_of_ble_eq_true rfl) rfl ?_
  refine go_bipush K_Stat_beginUntil rfl zk_bipush_21 ?_
  cases h
  exact go_ireturn K_Stat_beginUntil rfl rfl
def F_Stat_endBody (M : zMem) (l1 : Int32) : Option (Int32 × zMem) :=
  zbi (F_Code_emit M (1 : Int32) (0 : Int32)) fun r3 M1 => zbi (F_Code_emit M1 (26 : Int32) (0 : Int32)) fun r6 M4 => zbv (F_Pend_pop M4 ) fun M7 => some (l1, M7)
set_option maxRecDepth 100000 in
theorem G_Stat_endBody {M : zMem} {l1 : Int32} {y : Int32 × zMem} (h : F_Stat_endBody M l1 = some y) : zGo Y_Stat_endBody 1 0 (zal Y_Stat_endBody [.inr 26, .inl l1]) [] M (some y.1) y.2 := by
  unfold F_Stat_endBody at h
  show zGo Y_Stat_endBody 1 0 [some (.inr 26), some (.inl l1)] [] M _ _
  refine go_aload_n K_Stat_endBody rfl rfl ?_
  refine go_getR K_Stat_endBody rfl zf_9_7 ?_
  refine go_iconst K_Stat_endBody rfl zk_iconst_1 ?_
  refine go_iconst K_Stat_endBody rfl zk_iconst_0 ?_
  obtain ⟨r3, M1, h2, h⟩ := zbi_ex h
  refine go_vi (Y' := Y_Code_emit) (av := [.inl (1 : Int32), .inl (0 : Int32)]) (rest := []) K_Stat_endBody rfl zl_9_57 zm_Code_emit rfl (G_Code_emit h2) (Nat.le_of_ble_eq_true rfl) (Nat.le_of_ble_eq_true rfl) rfl ?_
  refine go_pop K_Stat_endBody rfl ?_
  refine go_aload_n K_Stat_endBody rfl rfl ?_
  refine go_getR K_Stat_endBody rfl zf_9_7 ?_
  refine go_bipush K_Stat_endBody rfl zk_bipush_26 ?_
  refine go_iconst K_Stat_endBody rfl zk_iconst_0 ?_
  obtain ⟨r6, M4, h5, h⟩ := zbi_ex h
  refine go_vi (Y' := Y_Code_emit) (av := [.inl (26 : Int32), .inl (0 : Int32)]) (rest := []) K_Stat_endBody rfl zl_9_57 zm_Code_emit rfl (G_Code_emit h5) (Nat.le_of_ble_eq_true rfl) (Nat.le_of_ble_eq_true rfl) rfl ?_
  refine go_pop K_Stat_endBody rfl ?_
  refine go_aload_n K_Stat_endBody rfl rfl ?_
  refine go_getR K_Stat_endBody rfl zf_9_17 ?_
  obtain ⟨M7, h8, h⟩ := zbv_ex h
  refine go_vv (Y' := Y_Pend_pop) (av := []) (rest := []) K_Stat_endBody rfl zl_9_95 zm_Pend_pop rfl (G_Pend_pop h8) (Nat.le_of_ble_eq_true rfl) (Nat.le_of_ble_eq_true rfl) rfl ?_
  refine go_iload_n K_Stat_endBody rfl rfl ?_
  cases h
  exact go_ireturn K_Stat_endBody rfl rfl
def F_Stat_endIf (N : Nat) (M : zMem) : Option (Int32 × zMem) :=
  zbi (F_Pend_first M ) fun r3 M1 => zbv (F_Code_leadChainHere N M1 r3) fun M4 => zbv (F_Pend_pop M4 ) fun M6 => some ((10 : Int32), M6)
set_option maxRecDepth 100000 in
theorem G_Stat_endIf {N : Nat} {M : zMem} {y : Int32 × zMem} (h : F_Stat_endIf N M  = some y) : zGo Y_Stat_endIf 1 0 (zal Y_Stat_endIf [.inr 26]) [] M (some y.1) y.2 := by
  unfold F_Stat_endIf at h
  show zGo Y_Stat_endIf 1 0 [some (.inr 26)] [] M _ _
  refine go_aload_n K_Stat_endIf rfl rfl ?_
  refine go_getR K_Stat_endIf rfl zf_9_7 ?_
  refine go_aload_n K_Stat_endIf rfl rfl ?_
  refine go_getR K_Stat_endIf rfl zf_9_17 ?_
  obtain ⟨r3, M1, h2, h⟩ := zbi_ex h
  refine go_vi (Y' := Y_Pend_first) (av := []) (rest := [.inr 4]) K_Stat_endIf rfl zl_9_63 zm_Pend_first rfl (G_Pend_first h2) (Nat.le_of_ble_eq_true rfl) (Nat.le_of_ble_eq_true rfl) rfl ?_
  obtain ⟨M4, h5, h⟩ := zbv_ex h
  refine go_vv (Y' := Y_Code_leadChainHere) (av := [.inl r3]) (rest := []) K_Stat_endIf rfl zl_9_92 zm_Code_leadChainHere rfl (G_Code_leadChainHere h5) (Nat.le_of_ble_eq_true rfl) (Nat.le_of_ble_eq_true rfl) rfl ?_
  refine go_aload_n K_Stat_endIf rfl rfl ?_
  refine go_getR K_Stat_endIf rfl zf_9_17 ?_
  obtain ⟨M6, h7, h⟩ := zbv_ex h
  refine go_vv (Y' := Y_Pend_pop) (av := []) (rest := []) K_Stat_endIf rfl zl_9_95 zm_Pend_pop rfl (G_Pend_pop h7) (Nat.le_of_ble_eq_true rfl) (Nat.le_of_ble_eq_true rfl) rfl ?_
  refine go_bipush K_Stat_endIf rfl zk_bipush_10 ?_
  cases h
  exact go_ireturn K_Stat_endIf rfl rfl
def F_Stat_endThen_p42 (N : Nat) (M : zMem) (l1 l2 s1 : Int32) : Option (Int32 × zMem) :=
  zbv (F_Pend_replace M s1 l2 (0 : Int32)) fun M1 => if l1 = (173 : Int32) then (some ((21 : Int32), M1)) else (some ((9 : Int32), M1))
set_option maxRecDepth 100000 in
theorem G_Stat_endThen_p42 {N : Nat} {M : zMem} {l1 l2 s1 : Int32} {y : Int32 × zMem} (h : F_Stat_endThen_p42 N M l1 l2 s1 = some y) : zGo Y_Stat_endThen 2 42 [none, some (.inl l1), some (.inl l2)] [.inl s1, .inr 15] M (some y.1) y.2 := by
  unfold F_Stat_endThen_p42 at h
  refine go_iload_n K_Stat_endThen rfl rfl ?_
  refine go_iconst K_Stat_endThen rfl zk_iconst_0 ?_
  obtain ⟨M1, h2, h⟩ := zbv_ex h
  refine go_vv (Y' := Y_Pend_replace) (av := [.inl s1, .inl l2, .inl (0 : Int32)]) (rest := []) K_Stat_endThen rfl zl_9_60 zm_Pend_replace rfl (G_Pend_replace h2) (Nat.le_of_ble_eq_true rfl) (Nat.le_of_ble_eq_true rfl) rfl ?_
  refine go_iload_n K_Stat_endThen rfl rfl ?_
  refine go_sipush K_Stat_endThen rfl zk_sipush_173 ?_
  refine go_icmp_ne K_Stat_endThen rfl (fun c => ?_) (fun c => ?_)
  · have h := zif_f c h
    refine go_bipush K_Stat_endThen rfl zk_bipush_9 ?_
    cases h
    exact go_ireturn K_Stat_endThen rfl rfl
  · have h := zif_t c h
    refine go_bipush K_Stat_endThen rfl zk_bipush_21 ?_
    refine go_goto K_Stat_endThen rfl ?_
    cases h
    exact go_ireturn K_Stat_endThen rfl rfl
def F_Stat_endThen_p20 (N : Nat) (M : zMem) (l1 : Int32) : Option (Int32 × zMem) :=
  zbi (F_Pend_first M ) fun r3 M1 => zbi (F_Code_emit M1 (20 : Int32) r3) fun r6 M4 => zbi (F_Pend_second M4 ) fun r9 M7 => zbv (F_Code_leadHere M7 r9) fun M10 => if l1 = (173 : Int32) then (F_Stat_endThen_p42 N M10 l1 r6 ((11 : Int32))) else (F_Stat_endThen_p42 N M10 l1 r6 ((13 : Int32)))
set_option maxRecDepth 100000 in
theorem G_Stat_endThen_p20 {N : Nat} {M : zMem} {l1 : Int32} {y : Int32 × zMem} (h : F_Stat_endThen_p20 N M l1 = some y) : zGo Y_Stat_endThen 2 20 [some (.inr 26), some (.inl l1), none] [] M (some y.1) y.2 := by
  unfold F_Stat_endThen_p20 at h
  refine go_aload_n K_Stat_endThen rfl rfl ?_
  refine go_getR K_Stat_endThen rfl zf_9_7 ?_
  refine go_bipush K_Stat_endThen rfl zk_bipush_20 ?_
  refine go_aload_n K_Stat_endThen rfl rfl ?_
  refine go_getR K_Stat_endThen rfl zf_9_17 ?_
  obtain ⟨r3, M1, h2, h⟩ := zbi_ex h
  refine go_vi (Y' := Y_Pend_first) (av := []) (rest := [.inl (20 : Int32), .inr 4]) K_Stat_endThen rfl zl_9_63 zm_Pend_first rfl (G_Pend_first h2) (Nat.le_of_ble_eq_true rfl) (Nat.le_of_ble_eq_true rfl) rfl ?_
  obtain ⟨r6, M4, h5, h⟩ := zbi_ex h
  refine go_vi (Y' := Y_Code_emit) (av := [.inl (20 : Int32), .inl r3]) (rest := []) K_Stat_endThen rfl zl_9_57 zm_Code_emit rfl (G_Code_emit h5) (Nat.le_of_ble_eq_true rfl) (Nat.le_of_ble_eq_true rfl) rfl ?_
  refine go_istore_n K_Stat_endThen rfl (Nat.le_of_ble_eq_true rfl) ?_
  refine go_aload_n K_Stat_endThen rfl rfl ?_
  refine go_getR K_Stat_endThen rfl zf_9_7 ?_
  refine go_aload_n K_Stat_endThen rfl rfl ?_
  refine go_getR K_Stat_endThen rfl zf_9_17 ?_
  obtain ⟨r9, M7, h8, h⟩ := zbi_ex h
  refine go_vi (Y' := Y_Pend_second) (av := []) (rest := [.inr 4]) K_Stat_endThen rfl zl_9_85 zm_Pend_second rfl (G_Pend_second h8) (Nat.le_of_ble_eq_true rfl) (Nat.le_of_ble_eq_true rfl) rfl ?_
  obtain ⟨M10, h11, h⟩ := zbv_ex h
  refine go_vv (Y' := Y_Code_leadHere) (av := [.inl r9]) (rest := []) K_Stat_endThen rfl zl_9_88 zm_Code_leadHere rfl (G_Code_leadHere h11) (Nat.le_of_ble_eq_true rfl) (Nat.le_of_ble_eq_true rfl) rfl ?_
  refine go_aload_n K_Stat_endThen rfl rfl ?_
  refine go_getR K_Stat_endThen rfl zf_9_17 ?_
  refine go_iload_n K_Stat_endThen rfl rfl ?_
  refine go_sipush K_Stat_endThen rfl zk_sipush_173 ?_
  refine go_icmp_ne K_Stat_endThen rfl (fun c => ?_) (fun c => ?_)
  · have h := zif_f c h
    refine go_bipush K_Stat_endThen rfl zk_bipush_13 ?_
    exact go_forget (G_Stat_endThen_p42 h) (zs_n (zs_s (zs_s zs_e)))
  · have h := zif_t c h
    refine go_bipush K_Stat_endThen rfl zk_bipush_11 ?_
    refine go_goto K_Stat_endThen rfl ?_
    exact go_forget (G_Stat_endThen_p42 h) (zs_n (zs_s (zs_s zs_e)))
def F_Stat_endThen (N : Nat) (M : zMem) (l1 : Int32) : Option (Int32 × zMem) :=
  if l1 = (163 : Int32) then (zbi (F_Pend_second M ) fun r3 M1 => zbv (F_Code_leadHere M1 r3) fun M4 => zbi (F_Stat_endIf N M4 ) fun r8 M6 => some (r8, M6)) else (if l1 = (173 : Int32) then (F_Stat_endThen_p20 N M l1) else (if l1 = (162 : Int32) then (F_Stat_endThen_p20 N M l1) else (some ((-1 : Int32), M))))
set_option maxRecDepth 100000 in
theorem G_Stat_endThen {N : Nat} {M : zMem} {l1 : Int32} {y : Int32 × zMem} (h : F_Stat_endThen N M l1 = some y) : zGo Y_Stat_endThen 2 0 (zal Y_Stat_endThen [.inr 26, .inl l1]) [] M (some y.1) y.2 := by
  unfold F_Stat_endThen at h
  show zGo Y_Stat_endThen 2 0 [some (.inr 26), some (.inl l1), none] [] M _ _
  refine go_iload_n K_Stat_endThen rfl rfl ?_
  refine go_sipush K_Stat_endThen rfl zk_sipush_163 ?_
  refine go_icmp_ne K_Stat_endThen rfl (fun c => ?_) (fun c => ?_)
  · have h := zif_f c h
    refine go_iload_n K_Stat_endThen rfl rfl ?_
    refine go_sipush K_Stat_endThen rfl zk_sipush_173 ?_
    refine go_icmp_eq K_Stat_endThen rfl (fun c => ?_) (fun c => ?_)
    · have h := zif_t c h
      exact go_forget (G_Stat_endThen_p20 h) (zs_s (zs_s (zs_n zs_e)))
    · have h := zif_f c h
      refine go_iload_n K_Stat_endThen rfl rfl ?_
      refine go_sipush K_Stat_endThen rfl zk_sipush_162 ?_
      refine go_icmp_eq K_Stat_endThen rfl (fun c => ?_) (fun c => ?_)
      · have h := zif_t c h
        exact go_forget (G_Stat_endThen_p20 h) (zs_s (zs_s (zs_n zs_e)))
      · have h := zif_f c h
        refine go_iconst K_Stat_endThen rfl zk_iconst_m1 ?_
        cases h
        exact go_ireturn K_Stat_endThen rfl rfl
  · have h := zif_t c h
    refine go_aload_n K_Stat_endThen rfl rfl ?_
    refine go_getR K_Stat_endThen rfl zf_9_7 ?_
    refine go_aload_n K_Stat_endThen rfl rfl ?_
    refine go_getR K_Stat_endThen rfl zf_9_17 ?_
    obtain ⟨r3, M1, h2, h⟩ := zbi_ex h
    refine go_vi (Y' := Y_Pend_second) (av := []) (rest := [.inr 4]) K_Stat_endThen rfl zl_9_85 zm_Pend_second rfl (G_Pend_second h2) (Nat.le_of_ble_eq_true rfl) (Nat.le_of_ble_eq_true rfl) rfl ?_
    obtain ⟨M4, h5, h⟩ := zbv_ex h
    refine go_vv (Y' := Y_Code_leadHere) (av := [.inl r3]) (rest := []) K_Stat_endThen rfl zl_9_88 zm_Code_leadHere rfl (G_Code_leadHere h5) (Nat.le_of_ble_eq_true rfl) (Nat.le_of_ble_eq_true rfl) rfl ?_
    refine go_aload_n K_Stat_endThen rfl rfl ?_
    obtain ⟨r8, M6, h7, h⟩ := zbi_ex h
    refine go_vi (Y' := Y_Stat_endIf) (av := []) (rest := []) K_Stat_endThen rfl zl_9_73 zm_Stat_endIf rfl (G_Stat_endIf h7) (Nat.le_of_ble_eq_true rfl) (Nat.le_of_ble_eq_true rfl) rfl ?_
    cases h
    exact go_ireturn K_Stat_endThen rfl rfl
def F_Stat_endWhile (M : zMem) : Option (Int32 × zMem) :=
  zbi (F_Pend_first M ) fun r3 M1 => zbi (F_Code_emit M1 (20 : Int32) r3) fun r6 M4 => zbi (F_Pend_second M4 ) fun r9 M7 => zbv (F_Code_leadHere M7 r9) fun M10 => zbv (F_Pend_pop M10 ) fun M12 => some ((10 : Int32), M12)
set_option maxRecDepth 100000 in
theorem G_Stat_endWhile {M : zMem} {y : Int32 × zMem} (h : F_Stat_endWhile M  = some y) : zGo Y_Stat_endWhile 1 0 (zal Y_Stat_endWhile [.inr 26]) [] M (some y.1) y.2 := by
  unfold F_Stat_endWhile at h
  show zGo Y_Stat_endWhile 1 0 [some (.inr 26)] [] M _ _
  refine go_aload_n K_Stat_endWhile rfl rfl ?_
  refine go_getR K_Stat_endWhile rfl zf_9_7 ?_
  refine go_bipush K_Stat_endWhile rfl zk_bipush_20 ?_
  refine go_aload_n K_Stat_endWhile rfl rfl ?_
  refine go_getR K_Stat_endWhile rfl zf_9_17 ?_
  obtain ⟨r3, M1, h2, h⟩ := zbi_ex h
  refine go_vi (Y' := Y_Pend_first) (av := []) (rest := [.inl (20 : Int32), .inr 4]) K_Stat_endWhile rfl zl_9_63 zm_Pend_first rfl (G_Pend_first h2) (Nat.le_of_ble_eq_true rfl) (Nat.le_of_ble_eq_true rfl) rfl ?_
  obtain ⟨r6, M4, h5, h⟩ := zbi_ex h
  refine go_vi (Y' := Y_Code_emit) (av := [.inl (20 : Int32), .inl r3]) (rest := []) K_Stat_endWhile rfl zl_9_57 zm_Code_emit rfl (G_Code_emit h5) (Nat.le_of_ble_eq_true rfl) (Nat.le_of_ble_eq_true rfl) rfl ?_
  refine go_pop K_Stat_endWhile rfl ?_
  refine go_aload_n K_Stat_endWhile rfl rfl ?_
  refine go_getR K_Stat_endWhile rfl zf_9_7 ?_
  refine go_aload_n K_Stat_endWhile rfl rfl ?_
  refine go_getR K_Stat_endWhile rfl zf_9_17 ?_
  obtain ⟨r9, M7, h8, h⟩ := zbi_ex h
  refine go_vi (Y' := Y_Pend_second) (av := []) (rest := [.inr 4]) K_Stat_endWhile rfl zl_9_85 zm_Pend_second rfl (G_Pend_second h8) (Nat.le_of_ble_eq_true rfl) (Nat.le_of_ble_eq_true rfl) rfl ?_
  obtain ⟨M10, h11, h⟩ := zbv_ex h
  refine go_vv (Y' := Y_Code_leadHere) (av := [.inl r9]) (rest := []) K_Stat_endWhile rfl zl_9_88 zm_Code_leadHere rfl (G_Code_leadHere h11) (Nat.le_of_ble_eq_true rfl) (Nat.le_of_ble_eq_true rfl) rfl ?_
  refine go_aload_n K_Stat_endWhile rfl rfl ?_
  refine go_getR K_Stat_endWhile rfl zf_9_17 ?_
  obtain ⟨M12, h13, h⟩ := zbv_ex h
  refine go_vv (Y' := Y_Pend_pop) (av := []) (rest := []) K_Stat_endWhile rfl zl_9_95 zm_Pend_pop rfl (G_Pend_pop h13) (Nat.le_of_ble_eq_true rfl) (Nat.le_of_ble_eq_true rfl) rfl ?_
  refine go_bipush K_Stat_endWhile rfl zk_bipush_10 ?_
  cases h
  exact go_ireturn K_Stat_endWhile rfl rfl
def F_Stat_end (N : Nat) (M : zMem) (l1 : Int32) : Option (Int32 × zMem) :=
  if l1 = (121 : Int32) then (some ((9 : Int32), M)) else (zbi (F_Pend_kind M ) fun r3 M1 => if r3 = (9 : Int32) then (if l1 = (163 : Int32) then (zbi (F_Stat_endWhile M1 ) fun r6 M4 => some (r6, M4)) else (some ((-1 : Int32), M1))) else (if r3 = (10 : Int32) then (if l1 = (167 : Int32) then (zbi (F_Stat_beginUntil M1 ) fun r10 M8 => some (r10, M8)) else (some ((-1 : Int32), M1))) else (if r3 = (11 : Int32) then (some ((-1 : Int32), M1)) else (if r3 = (12 : Int32) then (zbi (F_Stat_endThen N M1 l1) fun r15 M13 => some (r15, M13)) else (if r3 = (13 : Int32) then (if l1 = (163 : Int32) then (zbi (F_Stat_endIf N M1 ) fun r19 M17 => some (r19, M17)) else (some ((-1 : Int32), M1))) else (if r3 = (14 : Int32) then (if l1 = (163 : Int32) then (zbi (F_Stat_endBody M1 (0 : Int32)) fun r23 M21 => some (r23, M21)) else (some ((-1 : Int32), M1))) else (if r3 = (15 : Int32) then (if l1 = (163 : Int32) then (zbi (F_Stat_endBody M1 (24 : Int32)) fun r27 M25 => some (r27, M25)) else (some ((-1 : Int32), M1))) else (some ((-1 : Int32), M1)))))))))
set_option maxRecDepth 100000 in
theorem G_Stat_end {N : Nat} {M : zMem} {l1 : Int32} {y : Int32 × zMem} (h : F_Stat_end N M l1 = some y) : zGo Y_Stat_end 3 0 (zal Y_Stat_end [.inr 26, .inl l1]) [] M (some y.1) y.2 := by
  unfold F_Stat_end at h
  show zGo Y_Stat_end 3 0 [some (.inr 26), some (.inl l1)] [] M _ _
  refine go_iload_n K_Stat_end rfl rfl ?_
  refine go_bipush K_Stat_end rfl zk_bipush_121 ?_
  refine go_icmp_ne K_Stat_end rfl (fun c => ?_) (fun c => ?_)
  · have h := zif_f c h
    refine go_aload_n K_Stat_end rfl rfl ?_
    refine go_getR K_Stat_end rfl zf_9_17 ?_
    obtain ⟨r3, M1, h2, h⟩ := zbi_ex h
    refine go_vi (Y' := Y_Pend_kind) (av := []) (rest := []) K_Stat_end rfl zl_9_66 zm_Pend_kind rfl (G_Pend_kind h2) (Nat.le_of_ble_eq_true rfl) (Nat.le_of_ble_eq_true rfl) rfl ?_
    by_cases c7 : r3 = (9 : Int32)
    · have h := zif_t c7 h
      refine go_switch (k' := 21) (off := 66) K_Stat_end rfl (by show zsw _ (r3) = _; rw [c7]; decide) (by decide) ?_
      refine go_iload_n K_Stat_end rfl rfl ?_
      refine go_sipush K_Stat_end rfl zk_sipush_163 ?_
      refine go_icmp_ne K_Stat_end rfl (fun c => ?_) (fun c => ?_)
      · have h := zif_f c h
        refine go_iconst K_Stat_end rfl zk_iconst_m1 ?_
        cases h
        exact go_ireturn K_Stat_end rfl rfl
      · have h := zif_t c h
        refine go_aload_n K_Stat_end rfl rfl ?_
        obtain ⟨r6, M4, h5, h⟩ := zbi_ex h
        refine go_vi (Y' := Y_Stat_endWhile) (av := []) (rest := []) K_Stat_end rfl zl_9_76 zm_Stat_endWhile rfl (G_Stat_endWhile h5) (Nat.le_of_ble_eq_true rfl) (Nat.le_of_ble_eq_true rfl) rfl ?_
        refine go_goto K_Stat_end rfl ?_
        cases h
        exact go_ireturn K_Stat_end rfl rfl
    have h := zif_f c7 h
    by_cases c11 : r3 = (10 : Int32)
    · have h := zif_t c11 h
      refine go_switch (k' := 29) (off := 82) K_Stat_end rfl (by show zsw _ (r3) = _; rw [c11]; decide) (by decide) ?_
      refine go_iload_n K_Stat_end rfl rfl ?_
      refine go_sipush K_Stat_end rfl zk_sipush_167 ?_
      refine go_icmp_ne K_Stat_end rfl (fun c => ?_) (fun c => ?_)
      · have h := zif_f c h
        refine go_iconst K_Stat_end rfl zk_iconst_m1 ?_
        cases h
        exact go_ireturn K_Stat_end rfl rfl
      · have h := zif_t c h
        refine go_aload_n K_Stat_end rfl rfl ?_
        obtain ⟨r10, M8, h9, h⟩ := zbi_ex h
        refine go_vi (Y' := Y_Stat_beginUntil) (av := []) (rest := []) K_Stat_end rfl zl_9_79 zm_Stat_beginUntil rfl (G_Stat_beginUntil h9) (Nat.le_of_ble_eq_true rfl) (Nat.le_of_ble_eq_true rfl) rfl ?_
        refine go_goto K_Stat_end rfl ?_
        cases h
        exact go_ireturn K_Stat_end rfl rfl
    have h := zif_f c11 h
    by_cases c12 : r3 = (11 : Int32)
    · have h := zif_t c12 h
      refine go_switch (k' := 55) (off := 133) K_Stat_end rfl (by show zsw _ (r3) = _; rw [c12]; decide) (by decide) ?_
      refine go_iconst K_Stat_end rfl zk_iconst_m1 ?_
      cases h
      exact go_ireturn K_Stat_end rfl rfl
    have h := zif_f c12 h
    by_cases c16 : r3 = (12 : Int32)
    · have h := zif_t c16 h
      refine go_switch (k' := 9) (off := 44) K_Stat_end rfl (by show zsw _ (r3) = _; rw [c16]; decide) (by decide) ?_
      refine go_aload_n K_Stat_end rfl rfl ?_
      refine go_iload_n K_Stat_end rfl rfl ?_
      obtain ⟨r15, M13, h14, h⟩ := zbi_ex h
      refine go_vi (Y' := Y_Stat_endThen) (av := [.inl l1]) (rest := []) K_Stat_end rfl zl_9_69 zm_Stat_endThen rfl (G_Stat_endThen h14) (Nat.le_of_ble_eq_true rfl) (Nat.le_of_ble_eq_true rfl) rfl ?_
      cases h
      exact go_ireturn K_Stat_end rfl rfl
    have h := zif_f c16 h
    by_cases c20 : r3 = (13 : Int32)
    · have h := zif_t c20 h
      refine go_switch (k' := 13) (off := 50) K_Stat_end rfl (by show zsw _ (r3) = _; rw [c20]; decide) (by decide) ?_
      refine go_iload_n K_Stat_end rfl rfl ?_
      refine go_sipush K_Stat_end rfl zk_sipush_163 ?_
      refine go_icmp_ne K_Stat_end rfl (fun c => ?_) (fun c => ?_)
      · have h := zif_f c h
        refine go_iconst K_Stat_end rfl zk_iconst_m1 ?_
        cases h
        exact go_ireturn K_Stat_end rfl rfl
      · have h := zif_t c h
        refine go_aload_n K_Stat_end rfl rfl ?_
        obtain ⟨r19, M17, h18, h⟩ := zbi_ex h
        refine go_vi (Y' := Y_Stat_endIf) (av := []) (rest := []) K_Stat_end rfl zl_9_73 zm_Stat_endIf rfl (G_Stat_endIf h18) (Nat.le_of_ble_eq_true rfl) (Nat.le_of_ble_eq_true rfl) rfl ?_
        refine go_goto K_Stat_end rfl ?_
        cases h
        exact go_ireturn K_Stat_end rfl rfl
    have h := zif_f c20 h
    by_cases c24 : r3 = (14 : Int32)
    · have h := zif_t c24 h
      refine go_switch (k' := 37) (off := 98) K_Stat_end rfl (by show zsw _ (r3) = _; rw [c24]; decide) (by decide) ?_
      refine go_iload_n K_Stat_end rfl rfl ?_
      refine go_sipush K_Stat_end rfl zk_sipush_163 ?_
      refine go_icmp_ne K_Stat_end rfl (fun c => ?_) (fun c => ?_)
      · have h := zif_f c h
        refine go_iconst K_Stat_end rfl zk_iconst_m1 ?_
        cases h
        exact go_ireturn K_Stat_end rfl rfl
      · have h := zif_t c h
        refine go_aload_n K_Stat_end rfl rfl ?_
        refine go_iconst K_Stat_end rfl zk_iconst_0 ?_
        obtain ⟨r23, M21, h22, h⟩ := zbi_ex h
        refine go_vi (Y' := Y_Stat_endBody) (av := [.inl (0 : Int32)]) (rest := []) K_Stat_end rfl zl_9_82 zm_Stat_endBody rfl (G_Stat_endBody h22) (Nat.le_of_ble_eq_true rfl) (Nat.le_of_ble_eq_true rfl) rfl ?_
        refine go_goto K_Stat_end rfl ?_
        cases h
        exact go_ireturn K_Stat_end rfl rfl
    have h := zif_f c24 h
    by_cases c28 : r3 = (15 : Int32)
    · have h := zif_t c28 h
      refine go_switch (k' := 46) (off := 115) K_Stat_end rfl (by show zsw _ (r3) = _; rw [c28]; decide) (by decide) ?_
      refine go_iload_n K_Stat_end rfl rfl ?_
      refine go_sipush K_Stat_end rfl zk_sipush_163 ?_
      refine go_icmp_ne K_Stat_end rfl (fun c => ?_) (fun c => ?_)
      · have h := zif_f c h
        refine go_iconst K_Stat_end rfl zk_iconst_m1 ?_
        cases h
        exact go_ireturn K_Stat_end rfl rfl
      · have h := zif_t c h
        refine go_aload_n K_Stat_end rfl rfl ?_
        refine go_bipush K_Stat_end rfl zk_bipush_24 ?_
        obtain ⟨r27, M25, h26, h⟩ := zbi_ex h
        refine go_vi (Y' := Y_Stat_endBody) (av := [.inl (24 : Int32)]) (rest := []) K_Stat_end rfl zl_9_82 zm_Stat_endBody rfl (G_Stat_endBody h26) (Nat.le_of_ble_eq_true rfl) (Nat.le_of_ble_eq_true rfl) rfl ?_
        refine go_goto K_Stat_end rfl ?_
        cases h
        exact go_ireturn K_Stat_end rfl rfl
    have h := zif_f c28 h
    refine go_switch (k' := 55) (off := 133) K_Stat_end rfl (zsw_t (fun i h1 h2 he => by rcases (show i = 9 ∨ i = 10 ∨ i = 11 ∨ i = 12 ∨ i = 13 ∨ i = 14 ∨ i = 15 by omega) with rfl | rfl | rfl | rfl | rfl | rfl | rfl <;> first | exact c7 (Int32.toInt_inj.mp (he.trans (by decide))) | exact c11 (Int32.toInt_inj.mp (he.trans (by decide))) | exact c12 (Int32.toInt_inj.mp (he.trans (by decide))) | exact c16 (Int32.toInt_inj.mp (he.trans (by decide))) | exact c20 (Int32.toInt_inj.mp (he.trans (by decide))) | exact c24 (Int32.toInt_inj.mp (he.trans (by decide))) | exact c28 (Int32.toInt_inj.mp (he.trans (by decide))))) (by decide) ?_
    refine go_iconst K_Stat_end rfl zk_iconst_m1 ?_
    cases h
    exact go_ireturn K_Stat_end rfl rfl
  · have h := zif_t c h
    refine go_bipush K_Stat_end rfl zk_bipush_9 ?_
    cases h
    exact go_ireturn K_Stat_end rfl rfl
def F_Tok_beginsStatement (M : zMem) (l0 : Int32) : Option (Int32 × zMem) :=
  zbi (F_Tok_isName M l0) fun r3 M1 => if r3 = 0 then (if l0 = (108 : Int32) then (some ((1 : Int32), M1)) else (zbi (F_Tok_isProcedure M1 l0) fun r6 M4 => if r6 = 0 then (if l0 = (169 : Int32) then (some ((1 : Int32), M4)) else (if l0 = (168 : Int32) then (some ((1 : Int32), M4)) else (if l0 = (164 : Int32) then (some ((1 : Int32), M4)) else (if l0 = (166 : Int32) then (some ((1 : Int32), M4)) else (if l0 = (160 : Int32) then (some ((1 : Int32), M4)) else (some ((0 : Int32), M4))))))) else (some ((1 : Int32), M4)))) else (some ((1 : Int32), M1))
set_option maxRecDepth 100000 in
theorem G_Tok_beginsStatement {M : zMem} {l0 : Int32} {y : Int32 × zMem} (h : F_Tok_beginsStatement M l0 = some y) : zGo Y_Tok_beginsStatement 1 0 (zal Y_Tok_beginsStatement [.inl l0]) [] M (some y.1) y.2 := by
  unfold F_Tok_beginsStatement at h
  show zGo Y_Tok_beginsStatement 1 0 [some (.inl l0)] [] M _ _
  refine go_iload_n K_Tok_beginsStatement rfl rfl ?_
  obtain ⟨r3, M1, h2, h⟩ := zbi_ex h
  refine go_si (Y' := Y_Tok_isName) (av := [.inl l0]) (rest := []) K_Tok_beginsStatement rfl zl_10_13 zm_Tok_isName rfl (G_Tok_isName h2) (Nat.le_of_ble_eq_true rfl) (Nat.le_of_ble_eq_true rfl) rfl ?_
  refine go_if_ne K_Tok_beginsStatement rfl (fun c => ?_) (fun c => ?_)
  · have h := zif_f c h
    refine go_iconst K_Tok_beginsStatement rfl zk_iconst_1 ?_
    refine go_goto K_Tok_beginsStatement rfl ?_
    cases h
    exact go_zreturn K_Tok_beginsStatement rfl rfl (Or.inr rfl)
  · have h := zif_t c h
    refine go_iload_n K_Tok_beginsStatement rfl rfl ?_
    refine go_bipush K_Tok_beginsStatement rfl zk_bipush_108 ?_
    refine go_icmp_eq K_Tok_beginsStatement rfl (fun c => ?_) (fun c => ?_)
    · have h := zif_t c h
      refine go_iconst K_Tok_beginsStatement rfl zk_iconst_1 ?_
      refine go_goto K_Tok_beginsStatement rfl ?_
      cases h
      exact go_zreturn K_Tok_beginsStatement rfl rfl (Or.inr rfl)
    · have h := zif_f c h
      refine go_iload_n K_Tok_beginsStatement rfl rfl ?_
      obtain ⟨r6, M4, h5, h⟩ := zbi_ex h
      refine go_si (Y' := Y_Tok_isProcedure) (av := [.inl l0]) (rest := []) K_Tok_beginsStatement rfl zl_10_9 zm_Tok_isProcedure rfl (G_Tok_isProcedure h5) (Nat.le_of_ble_eq_true rfl) (Nat.le_of_ble_eq_true rfl) rfl ?_
      refine go_if_ne K_Tok_beginsStatement rfl (fun c => ?_) (fun c => ?_)
      · have h := zif_f c h
        refine go_iconst K_Tok_beginsStatement rfl zk_iconst_1 ?_
        refine go_goto K_Tok_beginsStatement rfl ?_
        cases h
        exact go_zreturn K_Tok_beginsStatement rfl rfl (Or.inr rfl)
      · have h := zif_t c h
        refine go_iload_n K_Tok_beginsStatement rfl rfl ?_
        refine go_sipush K_Tok_beginsStatement rfl zk_sipush_169 ?_
        refine go_icmp_eq K_Tok_beginsStatement rfl (fun c => ?_) (fun c => ?_)
        · have h := zif_t c h
          refine go_iconst K_Tok_beginsStatement rfl zk_iconst_1 ?_
          refine go_goto K_Tok_beginsStatement rfl ?_
          cases h
          exact go_zreturn K_Tok_beginsStatement rfl rfl (Or.inr rfl)
        · have h := zif_f c h
          refine go_iload_n K_Tok_beginsStatement rfl rfl ?_
          refine go_sipush K_Tok_beginsStatement rfl zk_sipush_168 ?_
          refine go_icmp_eq K_Tok_beginsStatement rfl (fun c => ?_) (fun c => ?_)
          · have h := zif_t c h
            refine go_iconst K_Tok_beginsStatement rfl zk_iconst_1 ?_
            refine go_goto K_Tok_beginsStatement rfl ?_
            cases h
            exact go_zreturn K_Tok_beginsStatement rfl rfl (Or.inr rfl)
          · have h := zif_f c h
            refine go_iload_n K_Tok_beginsStatement rfl rfl ?_
            refine go_sipush K_Tok_beginsStatement rfl zk_sipush_164 ?_
            refine go_icmp_eq K_Tok_beginsStatement rfl (fun c => ?_) (fun c => ?_)
            · have h := zif_t c h
              refine go_iconst K_Tok_beginsStatement rfl zk_iconst_1 ?_
              refine go_goto K_Tok_beginsStatement rfl ?_
              cases h
              exact go_zreturn K_Tok_beginsStatement rfl rfl (Or.inr rfl)
            · have h := zif_f c h
              refine go_iload_n K_Tok_beginsStatement rfl rfl ?_
              refine go_sipush K_Tok_beginsStatement rfl zk_sipush_166 ?_
              refine go_icmp_eq K_Tok_beginsStatement rfl (fun c => ?_) (fun c => ?_)
              · have h := zif_t c h
                refine go_iconst K_Tok_beginsStatement rfl zk_iconst_1 ?_
                refine go_goto K_Tok_beginsStatement rfl ?_
                cases h
                exact go_zreturn K_Tok_beginsStatement rfl rfl (Or.inr rfl)
              · have h := zif_f c h
                refine go_iload_n K_Tok_beginsStatement rfl rfl ?_
                refine go_sipush K_Tok_beginsStatement rfl zk_sipush_160 ?_
                refine go_icmp_ne K_Tok_beginsStatement rfl (fun c => ?_) (fun c => ?_)
                · have h := zif_f c h
                  refine go_iconst K_Tok_beginsStatement rfl zk_iconst_0 ?_
                  cases h
                  exact go_zreturn K_Tok_beginsStatement rfl rfl (Or.inl rfl)
                · have h := zif_t c h
                  refine go_iconst K_Tok_beginsStatement rfl zk_iconst_1 ?_
                  refine go_goto K_Tok_beginsStatement rfl ?_
                  cases h
                  exact go_zreturn K_Tok_beginsStatement rfl rfl (Or.inr rfl)
