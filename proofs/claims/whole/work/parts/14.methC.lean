def F_Proc_fits (M : zMem) (l1 l2 : Int32) : Option (Int32 × zMem) :=
  if l1 < 0 then (some ((0 : Int32), M)) else (if (4 : Int32) ≤ l1 then (some ((0 : Int32), M)) else (zix l1 4 (if (M 8 l1.toNatClampNeg) = 0 then (some ((0 : Int32), M)) else (zix l1 4 (if (M 10 l1.toNatClampNeg) = l2 then (some ((1 : Int32), M)) else (some ((0 : Int32), M)))))))
set_option maxRecDepth 100000 in
theorem G_Proc_fits {M : zMem} {l1 l2 : Int32} {y : Int32 × zMem} (h : F_Proc_fits M l1 l2 = some y) : zGo Y_Proc_fits 0 0 (zal Y_Proc_fits [.inr 7, .inl l1, .inl l2]) [] M (some y.1) y.2 := by
  unfold F_Proc_fits at h
  show zGo Y_Proc_fits 0 0 [some (.inr 7), some (.inl l1), some (.inl l2)] [] M _ _
  refine go_iload_n K_Proc_fits rfl rfl ?_
  refine go_if_lt K_Proc_fits rfl (fun c => ?_) (fun c => ?_)
  · have h := zif_t c h
    refine go_iconst K_Proc_fits rfl zk_iconst_0 ?_
    cases h
    exact go_zreturn K_Proc_fits rfl rfl (Or.inl rfl)
  · have h := zif_f c h
    refine go_iload_n K_Proc_fits rfl rfl ?_
    refine go_iconst K_Proc_fits rfl zk_iconst_4 ?_
    refine go_icmp_ge K_Proc_fits rfl (fun c => ?_) (fun c => ?_)
    · have h := zif_t c h
      refine go_iconst K_Proc_fits rfl zk_iconst_0 ?_
      cases h
      exact go_zreturn K_Proc_fits rfl rfl (Or.inl rfl)
    · have h := zif_f c h
      refine go_aload_n K_Proc_fits rfl rfl ?_
      refine go_getR K_Proc_fits rfl zf_8_11 ?_
      refine go_iload_n K_Proc_fits rfl rfl ?_
      obtain ⟨i1, h⟩ := zix_ex h
      refine go_zald K_Proc_fits rfl za_8 i1 ?_
      refine go_if_eq K_Proc_fits rfl (fun c => ?_) (fun c => ?_)
      · have h := zif_t c h
        refine go_iconst K_Proc_fits rfl zk_iconst_0 ?_
        cases h
        exact go_zreturn K_Proc_fits rfl rfl (Or.inl rfl)
      · have h := zif_f c h
        refine go_aload_n K_Proc_fits rfl rfl ?_
        refine go_getR K_Proc_fits rfl zf_8_19 ?_
        refine go_iload_n K_Proc_fits rfl rfl ?_
        obtain ⟨i2, h⟩ := zix_ex h
        refine go_iald K_Proc_fits rfl za_10 i2 ?_
        refine go_iload_n K_Proc_fits rfl rfl ?_
        refine go_icmp_ne K_Proc_fits rfl (fun c => ?_) (fun c => ?_)
        · have h := zif_f c h
          refine go_iconst K_Proc_fits rfl zk_iconst_0 ?_
          cases h
          exact go_zreturn K_Proc_fits rfl rfl (Or.inl rfl)
        · have h := zif_t c h
          refine go_iconst K_Proc_fits rfl zk_iconst_1 ?_
          refine go_goto K_Proc_fits rfl ?_
          cases h
          exact go_zreturn K_Proc_fits rfl rfl (Or.inr rfl)
def F_Proc_findFault_p30 (N : Nat) (M : zMem) : Option (Int32 × zMem) :=
  some (M 7 9, M)
set_option maxRecDepth 100000 in
theorem G_Proc_findFault_p30 {N : Nat} {M : zMem} {y : Int32 × zMem} (h : F_Proc_findFault_p30 N M  = some y) : zGo Y_Proc_findFault 1 30 [some (.inr 7), none, none] [] M (some y.1) y.2 := by
  unfold F_Proc_findFault_p30 at h
  refine go_aload_n K_Proc_findFault rfl rfl ?_
  refine go_getI K_Proc_findFault rfl zf_8_41 ?_
  cases h
  exact go_ireturn K_Proc_findFault rfl rfl
def F_Proc_findFault_p28 (N : Nat) (rec2 : zMem → Int32 → Int32 → Option (Int32 × zMem)) (M : zMem) (l1 l2 : Int32) : Option (Int32 × zMem) :=
  rec2 M l1 (l2 + (1 : Int32))
set_option maxRecDepth 100000 in
theorem G_Proc_findFault_p28 {N : Nat} {rec2 : zMem → Int32 → Int32 → Option (Int32 × zMem)} (hrec2 : ∀ {M : zMem} {l1 l2 : Int32} {y : Int32 × zMem}, rec2 M l1 l2 = some y → zGo Y_Proc_findFault 1 2 [some (.inr 7), some (.inl l1), some (.inl l2)] [] M (some y.1) y.2) {M : zMem} {l1 l2 : Int32} {y : Int32 × zMem} (h : F_Proc_findFault_p28 N rec2 M l1 l2 = some y) : zGo Y_Proc_findFault 1 28 [some (.inr 7), some (.inl l1), some (.inl l2)] [] M (some y.1) y.2 := by
  unfold F_Proc_findFault_p28 at h
  refine go_iinc (v := l2 + (1 : Int32)) K_Proc_findFault rfl rfl zinc_1 ?_
  refine go_goto K_Proc_findFault rfl ?_
  exact go_forget (hrec2 h) (zs_s (zs_s (zs_s zs_e)))
def F_Proc_findFault_p2 (N : Nat) : Nat → zMem → Int32 → Int32 → Option (Int32 × zMem)
  | 0, _, _, _ => none
  | n + 1, M, l1, l2 =>
    if l1 ≤ l2 then (F_Proc_findFault_p30 N M ) else (if (150 : Int32) ≤ l2 then (F_Proc_findFault_p30 N M ) else (zix l2 150 (if (M 12 l2.toNatClampNeg) = (-1 : Int32) then (F_Proc_findFault_p28 N (F_Proc_findFault_p2 N n) M l1 l2) else (zix l2 150 (zix l2 150 (zbi (F_Proc_fits M (M 12 l2.toNatClampNeg) (M 13 l2.toNatClampNeg)) fun r6 M4 => if r6 = 0 then (zbv (F_Proc_noteFault M4 l2) fun M7 => F_Proc_findFault_p28 N (F_Proc_findFault_p2 N n) M7 l1 l2) else (F_Proc_findFault_p28 N (F_Proc_findFault_p2 N n) M4 l1 l2)))))))
set_option maxRecDepth 100000 in
theorem G_Proc_findFault_p2 {N : Nat} : ∀ (n : Nat) {M : zMem} {l1 l2 : Int32} {y : Int32 × zMem}, F_Proc_findFault_p2 N n M l1 l2 = some y → zGo Y_Proc_findFault 1 2 [some (.inr 7), some (.inl l1), some (.inl l2)] [] M (some y.1) y.2 := by
  intro n
  induction n with
  | zero =>
    intro M l1 l2 y h
    unfold F_Proc_findFault_p2 at h
    cases h
  | succ n ih =>
    intro M l1 l2 y h
    unfold F_Proc_findFault_p2 at h
    refine go_iload_n K_Proc_findFault rfl rfl ?_
    refine go_iload_n K_Proc_findFault rfl rfl ?_
    refine go_icmp_ge K_Proc_findFault rfl (fun c => ?_) (fun c => ?_)
    · have h := zif_t c h
      exact go_forget (G_Proc_findFault_p30 h) (zs_s (zs_n (zs_n zs_e)))
    · have h := zif_f c h
      refine go_iload_n K_Proc_findFault rfl rfl ?_
      refine go_sipush K_Proc_findFault rfl zk_sipush_150 ?_
      refine go_icmp_ge K_Proc_findFault rfl (fun c => ?_) (fun c => ?_)
      · have h := zif_t c h
        exact go_forget (G_Proc_findFault_p30 h) (zs_s (zs_n (zs_n zs_e)))
      · have h := zif_f c h
        refine go_aload_n K_Proc_findFault rfl rfl ?_
        refine go_getR K_Proc_findFault rfl zf_8_25 ?_
        refine go_iload_n K_Proc_findFault rfl rfl ?_
        obtain ⟨i1, h⟩ := zix_ex h
        refine go_iald K_Proc_findFault rfl za_12 i1 ?_
        refine go_iconst K_Proc_findFault rfl zk_iconst_m1 ?_
        refine go_icmp_eq K_Proc_findFault rfl (fun c => ?_) (fun c => ?_)
        · have h := zif_t c h
          exact go_forget (G_Proc_findFault_p28 ih h) (zs_s (zs_s (zs_s zs_e)))
        · have h := zif_f c h
          refine go_aload_n K_Proc_findFault rfl rfl ?_
          refine go_aload_n K_Proc_findFault rfl rfl ?_
          refine go_getR K_Proc_findFault rfl zf_8_25 ?_
          refine go_iload_n K_Proc_findFault rfl rfl ?_
          obtain ⟨i2, h⟩ := zix_ex h
          refine go_iald K_Proc_findFault rfl za_12 i2 ?_
          refine go_aload_n K_Proc_findFault rfl rfl ?_
          refine go_getR K_Proc_findFault rfl zf_8_28 ?_
          refine go_iload_n K_Proc_findFault rfl rfl ?_
          obtain ⟨i3, h⟩ := zix_ex h
          refine go_iald K_Proc_findFault rfl za_13 i3 ?_
          obtain ⟨r6, M4, h5, h⟩ := zbi_ex h
          refine go_vi (Y' := Y_Proc_fits) (av := [.inl (M 12 l2.toNatClampNeg), .inl (M 13 l2.toNatClampNeg)]) (rest := []) K_Proc_findFault rfl zl_8_56 zm_Proc_fits rfl (G_Proc_fits h5) (Nat.le_of_ble_eq_true rfl) (Nat.le_of_ble_eq_true rfl) rfl ?_
          refine go_if_ne K_Proc_findFault rfl (fun c => ?_) (fun c => ?_)
          · have h := zif_f c h
            exact go_forget (G_Proc_findFault_p28 ih h) (zs_s (zs_s (zs_s zs_e)))
          · have h := zif_t c h
            refine go_aload_n K_Proc_findFault rfl rfl ?_
            refine go_iload_n K_Proc_findFault rfl rfl ?_
            obtain ⟨M7, h8, h⟩ := zbv_ex h
            refine go_vv (Y' := Y_Proc_noteFault) (av := [.inl l2]) (rest := []) K_Proc_findFault rfl zl_8_44 zm_Proc_noteFault rfl (G_Proc_noteFault h8) (Nat.le_of_ble_eq_true rfl) (Nat.le_of_ble_eq_true rfl) rfl ?_
            exact go_forget (G_Proc_findFault_p28 ih h) (zs_s (zs_s (zs_s zs_e)))
def F_Proc_findFault (N : Nat) (M : zMem) (l1 : Int32) : Option (Int32 × zMem) :=
  F_Proc_findFault_p2 N N M l1 ((0 : Int32))
set_option maxRecDepth 100000 in
theorem G_Proc_findFault {N : Nat} {M : zMem} {l1 : Int32} {y : Int32 × zMem} (h : F_Proc_findFault N M l1 = some y) : zGo Y_Proc_findFault 1 0 (zal Y_Proc_findFault [.inr 7, .inl l1]) [] M (some y.1) y.2 := by
  unfold F_Proc_findFault at h
  show zGo Y_Proc_findFault 1 0 [some (.inr 7), some (.inl l1), none] [] M _ _
  refine go_iconst K_Proc_findFault rfl zk_iconst_0 ?_
  refine go_istore_n K_Proc_findFault rfl (Nat.le_of_ble_eq_true rfl) ?_
  exact go_forget (G_Proc_findFault_p2 _ h) (zs_s (zs_s (zs_s zs_e)))
def F_Pars_read_p56 (N : Nat) (M : zMem) (l2 l3 : Int32) : Option (zMem) :=
  if l3 = (24 : Int32) then (zset M 14 1 ((-4 : Int32)) fun M1 => zbi (F_Proc_findFault N M1 l2) fun r5 M3 => zset M3 14 2 r5 fun M6 => zbv (F_Plain_collect N M6 l2) fun M8 => some M8) else (zset M 14 1 l2 fun M10 => some M10)
set_option maxRecDepth 100000 in
theorem G_Pars_read_p56 {N : Nat} {M : zMem} {l2 l3 : Int32} {y : zMem} (h : F_Pars_read_p56 N M l2 l3 = some y) : zGo Y_Pars_read 5 56 [some (.inr 14), some (.inr 1), some (.inl l2), some (.inl l3), none, none] [] M none y := by
  unfold F_Pars_read_p56 at h
  refine go_iload_n K_Pars_read rfl rfl ?_
  refine go_bipush K_Pars_read rfl zk_bipush_24 ?_
  refine go_icmp_eq K_Pars_read rfl (fun c => ?_) (fun c => ?_)
  · have h := zif_t c h
    refine go_aload_n K_Pars_read rfl rfl ?_
    refine go_bipush K_Pars_read rfl zk_bipush_m4 ?_
    obtain ⟨M1, e2, h⟩ := zset_ex h
    refine go_putI' e2 K_Pars_read rfl zf_5_51 ?_
    refine go_aload_n K_Pars_read rfl rfl ?_
    refine go_aload_n K_Pars_read rfl rfl ?_
    refine go_getR K_Pars_read rfl zf_5_15 ?_
    refine go_iload_n K_Pars_read rfl rfl ?_
    obtain ⟨r5, M3, h4, h⟩ := zbi_ex h
    refine go_vi (Y' := Y_Proc_findFault) (av := [.inl l2]) (rest := [.inr 14]) K_Pars_read rfl zl_5_84 zm_Proc_findFault rfl (G_Proc_findFault h4) (Nat.le_of_ble_eq_true rfl) (Nat.le_of_ble_eq_true rfl) rfl ?_
    obtain ⟨M6, e7, h⟩ := zset_ex h
    refine go_putI' e7 K_Pars_read rfl zf_5_55 ?_
    refine go_aload_n K_Pars_read rfl rfl ?_
    refine go_getR K_Pars_read rfl zf_5_29 ?_
    refine go_aload_n K_Pars_read rfl rfl ?_
    refine go_iload_n K_Pars_read rfl rfl ?_
    obtain ⟨M8, h9, h⟩ := zbv_ex h
    refine go_vv (Y' := Y_Plain_collect) (av := [.inr 1, .inl l2]) (rest := []) K_Pars_read rfl zl_5_89 zm_Plain_collect rfl (G_Plain_collect h9) (Nat.le_of_ble_eq_true rfl) (Nat.le_of_ble_eq_true rfl) rfl ?_
    cases h
    exact go_return K_Pars_read rfl rfl
  · have h := zif_f c h
    refine go_aload_n K_Pars_read rfl rfl ?_
    refine go_iload_n K_Pars_read rfl rfl ?_
    obtain ⟨M10, e11, h⟩ := zset_ex h
    refine go_putI' e11 K_Pars_read rfl zf_5_51 ?_
    cases h
    exact go_return K_Pars_read rfl rfl
def F_Pars_read_p46 (N : Nat) (rec10 : zMem → Int32 → Int32 → Int32 → Option (zMem)) (M : zMem) (l2 l4 s0 : Int32) : Option (zMem) :=
  if s0 = (-1 : Int32) then (zset M 14 1 l4 fun M1 => some M1) else (rec10 M l2 s0 (l4 + (1 : Int32)))
set_option maxRecDepth 100000 in
theorem G_Pars_read_p46 {N : Nat} {rec10 : zMem → Int32 → Int32 → Int32 → Option (zMem)} (hrec10 : ∀ {M : zMem} {l2 l3 l4 : Int32} {y : zMem}, rec10 M l2 l3 l4 = some y → zGo Y_Pars_read 5 10 [some (.inr 14), some (.inr 1), some (.inl l2), some (.inl l3), some (.inl l4), none] [] M none y) {M : zMem} {l2 l4 s0 : Int32} {y : zMem} (h : F_Pars_read_p46 N rec10 M l2 l4 s0 = some y) : zGo Y_Pars_read 5 46 [some (.inr 14), some (.inr 1), some (.inl l2), none, some (.inl l4), none] [.inl s0] M none y := by
  unfold F_Pars_read_p46 at h
  refine go_istore_n K_Pars_read rfl (Nat.le_of_ble_eq_true rfl) ?_
  refine go_iload_n K_Pars_read rfl rfl ?_
  refine go_iconst K_Pars_read rfl zk_iconst_m1 ?_
  refine go_icmp_ne K_Pars_read rfl (fun c => ?_) (fun c => ?_)
  · have h := zif_f c h
    refine go_iinc (v := l4 + (1 : Int32)) K_Pars_read rfl rfl zinc_1 ?_
    refine go_goto K_Pars_read rfl ?_
    exact go_forget (hrec10 h) (zs_s (zs_s (zs_s (zs_s (zs_s (zs_n zs_e))))))
  · have h := zif_t c h
    refine go_aload_n K_Pars_read rfl rfl ?_
    refine go_iload K_Pars_read rfl rfl ?_
    obtain ⟨M1, e2, h⟩ := zset_ex h
    refine go_putI' e2 K_Pars_read rfl zf_5_51 ?_
    cases h
    exact go_return K_Pars_read rfl rfl
def F_Pars_read_p32 (N : Nat) (rec10 : zMem → Int32 → Int32 → Int32 → Option (zMem)) (M : zMem) (l2 l3 l4 l5 : Int32) : Option (zMem) :=
  if (8 : Int32) < l3 then (zbi (F_Pars_accept N M l3 l5 l4) fun r3 M1 => F_Pars_read_p46 N rec10 M1 l2 l4 r3) else (zbi (F_Pars_acceptInHead M l3 l5 l4) fun r6 M4 => F_Pars_read_p46 N rec10 M4 l2 l4 r6)
set_option maxRecDepth 100000 in
theorem G_Pars_read_p32 {N : Nat} {rec10 : zMem → Int32 → Int32 → Int32 → Option (zMem)} (hrec10 : ∀ {M : zMem} {l2 l3 l4 : Int32} {y : zMem}, rec10 M l2 l3 l4 = some y → zGo Y_Pars_read 5 10 [some (.inr 14), some (.inr 1), some (.inl l2), some (.inl l3), some (.inl l4), none] [] M none y) {M : zMem} {l2 l3 l4 l5 : Int32} {y : zMem} (h : F_Pars_read_p32 N rec10 M l2 l3 l4 l5 = some y) : zGo Y_Pars_read 5 32 [some (.inr 14), some (.inr 1), some (.inl l2), some (.inl l3), some (.inl l4), some (.inl l5)] [] M none y := by
  unfold F_Pars_read_p32 at h
  refine go_iload_n K_Pars_read rfl rfl ?_
  refine go_bipush K_Pars_read rfl zk_bipush_8 ?_
  refine go_icmp_gt K_Pars_read rfl (fun c => ?_) (fun c => ?_)
  · have h := zif_t c h
    refine go_aload_n K_Pars_read rfl rfl ?_
    refine go_iload_n K_Pars_read rfl rfl ?_
    refine go_iload K_Pars_read rfl rfl ?_
    refine go_iload K_Pars_read rfl rfl ?_
    obtain ⟨r3, M1, h2, h⟩ := zbi_ex h
    refine go_vi (Y' := Y_Pars_accept) (av := [.inl l3, .inl l5, .inl l4]) (rest := []) K_Pars_read rfl zl_5_81 zm_Pars_accept rfl (G_Pars_accept h2) (Nat.le_of_ble_eq_true rfl) (Nat.le_of_ble_eq_true rfl) rfl ?_
    exact go_forget (G_Pars_read_p46 hrec10 h) (zs_s (zs_s (zs_s (zs_n (zs_s (zs_n zs_e))))))
  · have h := zif_f c h
    refine go_aload_n K_Pars_read rfl rfl ?_
    refine go_iload_n K_Pars_read rfl rfl ?_
    refine go_iload K_Pars_read rfl rfl ?_
    refine go_iload K_Pars_read rfl rfl ?_
    obtain ⟨r6, M4, h5, h⟩ := zbi_ex h
    refine go_vi (Y' := Y_Pars_acceptInHead) (av := [.inl l3, .inl l5, .inl l4]) (rest := []) K_Pars_read rfl zl_5_77 zm_Pars_acceptInHead rfl (G_Pars_acceptInHead h5) (Nat.le_of_ble_eq_true rfl) (Nat.le_of_ble_eq_true rfl) rfl ?_
    refine go_goto K_Pars_read rfl ?_
    exact go_forget (G_Pars_read_p46 hrec10 h) (zs_s (zs_s (zs_s (zs_n (zs_s (zs_n zs_e))))))
def F_Pars_read_p10 (N : Nat) : Nat → zMem → Int32 → Int32 → Int32 → Option (zMem)
  | 0, _, _, _, _ => none
  | n + 1, M, l2, l3, l4 =>
    if l2 ≤ l4 then (F_Pars_read_p56 N M l2 l3) else (if (150 : Int32) ≤ l4 then (F_Pars_read_p56 N M l2 l3) else (zix l4 150 (if l3 = (23 : Int32) then (zbi (F_Level_ofOperator M (M 1 l4.toNatClampNeg)) fun r4 M2 => if r4 = (-1 : Int32) then (zbi (F_Expr_end N M2 ) fun r7 M5 => F_Pars_read_p32 N (F_Pars_read_p10 N n) M5 l2 r7 l4 (M 1 l4.toNatClampNeg)) else (F_Pars_read_p32 N (F_Pars_read_p10 N n) M2 l2 l3 l4 (M 1 l4.toNatClampNeg))) else (F_Pars_read_p32 N (F_Pars_read_p10 N n) M l2 l3 l4 (M 1 l4.toNatClampNeg)))))
set_option maxRecDepth 100000 in
theorem G_Pars_read_p10 {N : Nat} : ∀ (n : Nat) {M : zMem} {l2 l3 l4 : Int32} {y : zMem}, F_Pars_read_p10 N n M l2 l3 l4 = some y → zGo Y_Pars_read 5 10 [some (.inr 14), some (.inr 1), some (.inl l2), some (.inl l3), some (.inl l4), none] [] M none y := by
  intro n
  induction n with
  | zero =>
    intro M l2 l3 l4 y h
    unfold F_Pars_read_p10 at h
    cases h
  | succ n ih =>
    intro M l2 l3 l4 y h
    unfold F_Pars_read_p10 at h
    refine go_iload K_Pars_read rfl rfl ?_
    refine go_iload_n K_Pars_read rfl rfl ?_
    refine go_icmp_ge K_Pars_read rfl (fun c => ?_) (fun c => ?_)
    · have h := zif_t c h
      exact go_forget (G_Pars_read_p56 h) (zs_s (zs_s (zs_s (zs_s (zs_n (zs_n zs_e))))))
    · have h := zif_f c h
      refine go_iload K_Pars_read rfl rfl ?_
      refine go_aload_n K_Pars_read rfl rfl ?_
      refine go_alen K_Pars_read rfl za_1 zlen_150 ?_
      refine go_icmp_ge K_Pars_read rfl (fun c => ?_) (fun c => ?_)
      · have h := zif_t c h
        exact go_forget (G_Pars_read_p56 h) (zs_s (zs_s (zs_s (zs_s (zs_n (zs_n zs_e))))))
      · have h := zif_f c h
        refine go_aload_n K_Pars_read rfl rfl ?_
        refine go_iload K_Pars_read rfl rfl ?_
        obtain ⟨i1, h⟩ := zix_ex h
        refine go_iald K_Pars_read rfl za_1 i1 ?_
        refine go_istore K_Pars_read rfl (Nat.le_of_ble_eq_true rfl) ?_
        refine go_iload_n K_Pars_read rfl rfl ?_
        refine go_bipush K_Pars_read rfl zk_bipush_23 ?_
        refine go_icmp_ne K_Pars_read rfl (fun c => ?_) (fun c => ?_)
        · have h := zif_f c h
          exact go_forget (G_Pars_read_p32 ih h) (zs_s (zs_s (zs_s (zs_s (zs_s (zs_s zs_e))))))
        · have h := zif_t c h
          refine go_iload K_Pars_read rfl rfl ?_
          obtain ⟨r4, M2, h3, h⟩ := zbi_ex h
          refine go_si (Y' := Y_Level_ofOperator) (av := [.inl (M 1 l4.toNatClampNeg)]) (rest := []) K_Pars_read rfl zl_5_67 zm_Level_ofOperator rfl (G_Level_ofOperator h3) (Nat.le_of_ble_eq_true rfl) (Nat.le_of_ble_eq_true rfl) rfl ?_
          refine go_iconst K_Pars_read rfl zk_iconst_m1 ?_
          refine go_icmp_ne K_Pars_read rfl (fun c => ?_) (fun c => ?_)
          · have h := zif_f c h
            exact go_forget (G_Pars_read_p32 ih h) (zs_s (zs_s (zs_s (zs_s (zs_s (zs_s zs_e))))))
          · have h := zif_t c h
            refine go_aload_n K_Pars_read rfl rfl ?_
            refine go_getR K_Pars_read rfl zf_5_38 ?_
            obtain ⟨r7, M5, h6, h⟩ := zbi_ex h
            refine go_vi (Y' := Y_Expr_end) (av := []) (rest := []) K_Pars_read rfl zl_5_73 zm_Expr_end rfl (G_Expr_end h6) (Nat.le_of_ble_eq_true rfl) (Nat.le_of_ble_eq_true rfl) rfl ?_
            refine go_istore_n K_Pars_read rfl (Nat.le_of_ble_eq_true rfl) ?_
            exact go_forget (G_Pars_read_p32 ih h) (zs_s (zs_s (zs_s (zs_s (zs_s (zs_s zs_e))))))
def F_Pars_read (N : Nat) (M : zMem) (l2 : Int32) : Option (zMem) :=
  if (M 14 3) = 0 then (some M) else (zbv (F_Pars_restart N M ) fun M1 => F_Pars_read_p10 N N M1 l2 ((0 : Int32)) ((0 : Int32)))
set_option maxRecDepth 100000 in
theorem G_Pars_read {N : Nat} {M : zMem} {l2 : Int32} {y : zMem} (h : F_Pars_read N M l2 = some y) : zGo Y_Pars_read 5 0 (zal Y_Pars_read [.inr 14, .inr 1, .inl l2]) [] M none y := by
  unfold F_Pars_read at h
  show zGo Y_Pars_read 5 0 [some (.inr 14), some (.inr 1), some (.inl l2), none, none, none] [] M _ _
  refine go_aload_n K_Pars_read rfl rfl ?_
  refine go_getI K_Pars_read rfl zf_5_58 ?_
  refine go_if_ne K_Pars_read rfl (fun c => ?_) (fun c => ?_)
  · have h := zif_f c h
    refine go_aload_n K_Pars_read rfl rfl ?_
    obtain ⟨M1, h2, h⟩ := zbv_ex h
    refine go_vv (Y' := Y_Pars_restart) (av := []) (rest := []) K_Pars_read rfl zl_5_62 zm_Pars_restart rfl (G_Pars_restart h2) (Nat.le_of_ble_eq_true rfl) (Nat.le_of_ble_eq_true rfl) rfl ?_
    refine go_iconst K_Pars_read rfl zk_iconst_0 ?_
    refine go_istore_n K_Pars_read rfl (Nat.le_of_ble_eq_true rfl) ?_
    refine go_iconst K_Pars_read rfl zk_iconst_0 ?_
    refine go_istore K_Pars_read rfl (Nat.le_of_ble_eq_true rfl) ?_
    exact go_forget (G_Pars_read_p10 _ h) (zs_s (zs_s (zs_s (zs_s (zs_s (zs_n zs_e))))))
  · have h := zif_t c h
    cases h
    exact go_return K_Pars_read rfl rfl
def F_Tok_exists_p32 (M : zMem) (l0 : Int32) : Option (Int32 × zMem) :=
  if l0 < (160 : Int32) then (some ((0 : Int32), M)) else (if (173 : Int32) < l0 then (some ((0 : Int32), M)) else (some ((1 : Int32), M)))
set_option maxRecDepth 100000 in
theorem G_Tok_exists_p32 {M : zMem} {l0 : Int32} {y : Int32 × zMem} (h : F_Tok_exists_p32 M l0 = some y) : zGo Y_Tok_exists 1 32 [some (.inl l0)] [] M (some y.1) y.2 := by
  unfold F_Tok_exists_p32 at h
  refine go_iload_n K_Tok_exists rfl rfl ?_
  refine go_sipush K_Tok_exists rfl zk_sipush_160 ?_
  refine go_icmp_lt K_Tok_exists rfl (fun c => ?_) (fun c => ?_)
  · have h := zif_t c h
    refine go_iconst K_Tok_exists rfl zk_iconst_0 ?_
    cases h
    exact go_zreturn K_Tok_exists rfl rfl (Or.inl rfl)
  · have h := zif_f c h
    refine go_iload_n K_Tok_exists rfl rfl ?_
    refine go_sipush K_Tok_exists rfl zk_sipush_173 ?_
    refine go_icmp_gt K_Tok_exists rfl (fun c => ?_) (fun c => ?_)
    · have h := zif_t c h
      refine go_iconst K_Tok_exists rfl zk_iconst_0 ?_
      cases h
      exact go_zreturn K_Tok_exists rfl rfl (Or.inl rfl)
    · have h := zif_f c h
      refine go_iconst K_Tok_exists rfl zk_iconst_1 ?_
      refine go_goto K_Tok_exists rfl ?_
      cases h
      exact go_zreturn K_Tok_exists rfl rfl (Or.inr rfl)
def F_Tok_exists_p26 (M : zMem) (l0 : Int32) : Option (Int32 × zMem) :=
  if l0 < (150 : Int32) then (F_Tok_exists_p32 M l0) else (if l0 ≤ (152 : Int32) then (some ((1 : Int32), M)) else (F_Tok_exists_p32 M l0))
set_option maxRecDepth 100000 in
theorem G_Tok_exists_p26 {M : zMem} {l0 : Int32} {y : Int32 × zMem} (h : F_Tok_exists_p26 M l0 = some y) : zGo Y_Tok_exists 1 26 [some (.inl l0)] [] M (some y.1) y.2 := by
  unfold F_Tok_exists_p26 at h
  refine go_iload_n K_Tok_exists rfl rfl ?_
  refine go_sipush K_Tok_exists rfl zk_sipush_150 ?_
  refine go_icmp_lt K_Tok_exists rfl (fun c => ?_) (fun c => ?_)
  · have h := zif_t c h
    exact go_forget (G_Tok_exists_p32 h) (zs_s zs_e)
  · have h := zif_f c h
    refine go_iload_n K_Tok_exists rfl rfl ?_
    refine go_sipush K_Tok_exists rfl zk_sipush_152 ?_
    refine go_icmp_le K_Tok_exists rfl (fun c => ?_) (fun c => ?_)
    · have h := zif_t c h
      refine go_iconst K_Tok_exists rfl zk_iconst_1 ?_
      refine go_goto K_Tok_exists rfl ?_
      cases h
      exact go_zreturn K_Tok_exists rfl rfl (Or.inr rfl)
    · have h := zif_f c h
      exact go_forget (G_Tok_exists_p32 h) (zs_s zs_e)
def F_Tok_exists_p20 (M : zMem) (l0 : Int32) : Option (Int32 × zMem) :=
  if l0 < (140 : Int32) then (F_Tok_exists_p26 M l0) else (if l0 ≤ (145 : Int32) then (some ((1 : Int32), M)) else (F_Tok_exists_p26 M l0))
set_option maxRecDepth 100000 in
theorem G_Tok_exists_p20 {M : zMem} {l0 : Int32} {y : Int32 × zMem} (h : F_Tok_exists_p20 M l0 = some y) : zGo Y_Tok_exists 1 20 [some (.inl l0)] [] M (some y.1) y.2 := by
  unfold F_Tok_exists_p20 at h
  refine go_iload_n K_Tok_exists rfl rfl ?_
  refine go_sipush K_Tok_exists rfl zk_sipush_140 ?_
  refine go_icmp_lt K_Tok_exists rfl (fun c => ?_) (fun c => ?_)
  · have h := zif_t c h
    exact go_forget (G_Tok_exists_p26 h) (zs_s zs_e)
  · have h := zif_f c h
    refine go_iload_n K_Tok_exists rfl rfl ?_
    refine go_sipush K_Tok_exists rfl zk_sipush_145 ?_
    refine go_icmp_le K_Tok_exists rfl (fun c => ?_) (fun c => ?_)
    · have h := zif_t c h
      refine go_iconst K_Tok_exists rfl zk_iconst_1 ?_
      refine go_goto K_Tok_exists rfl ?_
      cases h
      exact go_zreturn K_Tok_exists rfl rfl (Or.inr rfl)
    · have h := zif_f c h
      exact go_forget (G_Tok_exists_p26 h) (zs_s zs_e)
def F_Tok_exists_p14 (M : zMem) (l0 : Int32) : Option (Int32 × zMem) :=
  if l0 < (130 : Int32) then (F_Tok_exists_p20 M l0) else (if l0 ≤ (134 : Int32) then (some ((1 : Int32), M)) else (F_Tok_exists_p20 M l0))
set_option maxRecDepth 100000 in
theorem G_Tok_exists_p14 {M : zMem} {l0 : Int32} {y : Int32 × zMem} (h : F_Tok_exists_p14 M l0 = some y) : zGo Y_Tok_exists 1 14 [some (.inl l0)] [] M (some y.1) y.2 := by
  unfold F_Tok_exists_p14 at h
  refine go_iload_n K_Tok_exists rfl rfl ?_
  refine go_sipush K_Tok_exists rfl zk_sipush_130 ?_
  refine go_icmp_lt K_Tok_exists rfl (fun c => ?_) (fun c => ?_)
  · have h := zif_t c h
    exact go_forget (G_Tok_exists_p20 h) (zs_s zs_e)
  · have h := zif_f c h
    refine go_iload_n K_Tok_exists rfl rfl ?_
    refine go_sipush K_Tok_exists rfl zk_sipush_134 ?_
    refine go_icmp_le K_Tok_exists rfl (fun c => ?_) (fun c => ?_)
    · have h := zif_t c h
      refine go_iconst K_Tok_exists rfl zk_iconst_1 ?_
      refine go_goto K_Tok_exists rfl ?_
      cases h
      exact go_zreturn K_Tok_exists rfl rfl (Or.inr rfl)
    · have h := zif_f c h
      exact go_forget (G_Tok_exists_p20 h) (zs_s zs_e)
def F_Tok_exists_p5 (M : zMem) (l0 : Int32) : Option (Int32 × zMem) :=
  zbi (F_Tok_isProcedure M l0) fun r3 M1 => if r3 = 0 then (if l0 < (120 : Int32) then (F_Tok_exists_p14 M1 l0) else (if l0 ≤ (126 : Int32) then (some ((1 : Int32), M1)) else (F_Tok_exists_p14 M1 l0))) else (some ((1 : Int32), M1))
set_option maxRecDepth 100000 in
theorem G_Tok_exists_p5 {M : zMem} {l0 : Int32} {y : Int32 × zMem} (h : F_Tok_exists_p5 M l0 = some y) : zGo Y_Tok_exists 1 5 [some (.inl l0)] [] M (some y.1) y.2 := by
  unfold F_Tok_exists_p5 at h
  refine go_iload_n K_Tok_exists rfl rfl ?_
  obtain ⟨r3, M1, h2, h⟩ := zbi_ex h
  refine go_si (Y' := Y_Tok_isProcedure) (av := [.inl l0]) (rest := []) K_Tok_exists rfl zl_10_9 zm_Tok_isProcedure rfl (G_Tok_isProcedure h2) (Nat.le_of_ble_eq_true rfl) (Nat.le_of_ble_eq_true rfl) rfl ?_
  refine go_if_ne K_Tok_exists rfl (fun c => ?_) (fun c => ?_)
  · have h := zif_f c h
    refine go_iconst K_Tok_exists rfl zk_iconst_1 ?_
    refine go_goto K_Tok_exists rfl ?_
    cases h
    exact go_zreturn K_Tok_exists rfl rfl (Or.inr rfl)
  · have h := zif_t c h
    refine go_iload_n K_Tok_exists rfl rfl ?_
    refine go_bipush K_Tok_exists rfl zk_bipush_120 ?_
    refine go_icmp_lt K_Tok_exists rfl (fun c => ?_) (fun c => ?_)
    · have h := zif_t c h
      exact go_forget (G_Tok_exists_p14 h) (zs_s zs_e)
    · have h := zif_f c h
      refine go_iload_n K_Tok_exists rfl rfl ?_
      refine go_bipush K_Tok_exists rfl zk_bipush_126 ?_
      refine go_icmp_le K_Tok_exists rfl (fun c => ?_) (fun c => ?_)
      · have h := zif_t c h
        refine go_iconst K_Tok_exists rfl zk_iconst_1 ?_
        refine go_goto K_Tok_exists rfl ?_
        cases h
        exact go_zreturn K_Tok_exists rfl rfl (Or.inr rfl)
      · have h := zif_f c h
        exact go_forget (G_Tok_exists_p14 h) (zs_s zs_e)
def F_Tok_exists (M : zMem) (l0 : Int32) : Option (Int32 × zMem) :=
  if l0 < 0 then (F_Tok_exists_p5 M l0) else (if l0 ≤ (108 : Int32) then (some ((1 : Int32), M)) else (F_Tok_exists_p5 M l0))
set_option maxRecDepth 100000 in
theorem G_Tok_exists {M : zMem} {l0 : Int32} {y : Int32 × zMem} (h : F_Tok_exists M l0 = some y) : zGo Y_Tok_exists 1 0 (zal Y_Tok_exists [.inl l0]) [] M (some y.1) y.2 := by
  unfold F_Tok_exists at h
  show zGo Y_Tok_exists 1 0 [some (.inl l0)] [] M _ _
  refine go_iload_n K_Tok_exists rfl rfl ?_
  refine go_if_lt K_Tok_exists rfl (fun c => ?_) (fun c => ?_)
  · have h := zif_t c h
    exact go_forget (G_Tok_exists_p5 h) (zs_s zs_e)
  · have h := zif_f c h
    refine go_iload_n K_Tok_exists rfl rfl ?_
    refine go_bipush K_Tok_exists rfl zk_bipush_108 ?_
    refine go_icmp_le K_Tok_exists rfl (fun c => ?_) (fun c => ?_)
    · have h := zif_t c h
      refine go_iconst K_Tok_exists rfl zk_iconst_1 ?_
      refine go_goto K_Tok_exists rfl ?_
      cases h
      exact go_zreturn K_Tok_exists rfl rfl (Or.inr rfl)
    · have h := zif_f c h
      exact go_forget (G_Tok_exists_p5 h) (zs_s zs_e)
def F_L_forgetText (M : zMem) : Option (zMem) :=
  zset M 14 3 ((1 : Int32)) fun M1 => zset M1 27 7 ((1 : Int32)) fun M3 => some M3
set_option maxRecDepth 100000 in
theorem G_L_forgetText {M : zMem} {y : zMem} (h : F_L_forgetText M  = some y) : zGo Y_L_forgetText 0 0 (zal Y_L_forgetText [.inr 0]) [] M none y := by
  unfold F_L_forgetText at h
  show zGo Y_L_forgetText 0 0 [some (.inr 0)] [] M _ _
  refine go_aload_n K_L_forgetText rfl rfl ?_
  refine go_getR K_L_forgetText rfl zf_11_30 ?_
  refine go_iconst K_L_forgetText rfl zk_iconst_1 ?_
  obtain ⟨M1, e2, h⟩ := zset_ex h
  refine go_putZ' e2 K_L_forgetText rfl zf_11_117 (Or.inr rfl) ?_
  refine go_aload_n K_L_forgetText rfl rfl ?_
  refine go_getR K_L_forgetText rfl zf_11_37 ?_
  refine go_iconst K_L_forgetText rfl zk_iconst_1 ?_
  obtain ⟨M3, e4, h⟩ := zset_ex h
  refine go_putZ' e4 K_L_forgetText rfl zf_11_79 (Or.inr rfl) ?_
  cases h
  exact go_return K_L_forgetText rfl rfl
def F_L_append (M : zMem) (l1 : Int32) : Option (zMem) :=
  if l1 = (-1 : Int32) then (some M) else (if (M 0 5) < 0 then (some M) else (if (M 0 5) < (150 : Int32) then (zix (M 0 5) 150 (zset M 1 (M 0 5).toNatClampNeg l1 fun M2 => zset M2 0 5 ((M2 0 5) + (1 : Int32)) fun M4 => zbv (F_L_forgetText M4 ) fun M6 => some M6)) else (some M)))
set_option maxRecDepth 100000 in
theorem G_L_append {M : zMem} {l1 : Int32} {y : zMem} (h : F_L_append M l1 = some y) : zGo Y_L_append 1 0 (zal Y_L_append [.inr 0, .inl l1]) [] M none y := by
  unfold F_L_append at h
  show zGo Y_L_append 1 0 [some (.inr 0), some (.inl l1)] [] M _ _
  refine go_iload_n K_L_append rfl rfl ?_
  refine go_iconst K_L_append rfl zk_iconst_m1 ?_
  refine go_icmp_eq K_L_append rfl (fun c => ?_) (fun c => ?_)
  · have h := zif_t c h
    cases h
    exact go_return K_L_append rfl rfl
  · have h := zif_f c h
    refine go_aload_n K_L_append rfl rfl ?_
    refine go_getI K_L_append rfl zf_11_41 ?_
    refine go_if_lt K_L_append rfl (fun c => ?_) (fun c => ?_)
    · have h := zif_t c h
      cases h
      exact go_return K_L_append rfl rfl
    · have h := zif_f c h
      refine go_aload_n K_L_append rfl rfl ?_
      refine go_getI K_L_append rfl zf_11_41 ?_
      refine go_aload_n K_L_append rfl rfl ?_
      refine go_getR K_L_append rfl zf_11_9 ?_
      refine go_alen K_L_append rfl za_1 zlen_150 ?_
      refine go_icmp_lt K_L_append rfl (fun c => ?_) (fun c => ?_)
      · have h := zif_t c h
        refine go_aload_n K_L_append rfl rfl ?_
        refine go_getR K_L_append rfl zf_11_9 ?_
        refine go_aload_n K_L_append rfl rfl ?_
        refine go_getI K_L_append rfl zf_11_41 ?_
        refine go_iload_n K_L_append rfl rfl ?_
        obtain ⟨i1, h⟩ := zix_ex h
        obtain ⟨M2, e3, h⟩ := zset_ex h
        refine go_iast' e3 K_L_append rfl za_1 i1 ?_
        refine go_aload_n K_L_append rfl rfl ?_
        refine go_dup K_L_append rfl ?_
        refine go_getI K_L_append rfl zf_11_41 ?_
        refine go_iconst K_L_append rfl zk_iconst_1 ?_
        refine go_iadd K_L_append rfl ?_
        obtain ⟨M4, e5, h⟩ := zset_ex h
        refine go_putI' e5 K_L_append rfl zf_11_41 ?_
        refine go_aload_n K_L_append rfl rfl ?_
        obtain ⟨M6, h7, h⟩ := zbv_ex h
        refine go_vv (Y' := Y_L_forgetText) (av := []) (rest := []) K_L_append rfl zl_11_62 zm_L_forgetText rfl (G_L_forgetText h7) (Nat.le_of_ble_eq_true rfl) (Nat.le_of_ble_eq_true rfl) rfl ?_
        cases h
        exact go_return K_L_append rfl rfl
      · have h := zif_f c h
        cases h
        exact go_return K_L_append rfl rfl
def F_L_cell (M : zMem) (l1 l2 : Int32) : Option (Int32 × zMem) :=
  if l1 < 0 then (some ((-1 : Int32), M)) else (if l1 < (16 : Int32) then (zix l1 16 (zset M 3 l1.toNatClampNeg l2 fun M2 => zset M2 27 7 ((1 : Int32)) fun M4 => some ((0 : Int32), M4))) else (some ((-1 : Int32), M)))
set_option maxRecDepth 100000 in
theorem G_L_cell {M : zMem} {l1 l2 : Int32} {y : Int32 × zMem} (h : F_L_cell M l1 l2 = some y) : zGo Y_L_cell 0 0 (zal Y_L_cell [.inr 0, .inl l1, .inl l2]) [] M (some y.1) y.2 := by
  unfold F_L_cell at h
  show zGo Y_L_cell 0 0 [some (.inr 0), some (.inl l1), some (.inl l2)] [] M _ _
  refine go_iload_n K_L_cell rfl rfl ?_
  refine go_if_lt K_L_cell rfl (fun c => ?_) (fun c => ?_)
  · have h := zif_t c h
    refine go_iconst K_L_cell rfl zk_iconst_m1 ?_
    cases h
    exact go_ireturn K_L_cell rfl rfl
  · have h := zif_f c h
    refine go_iload_n K_L_cell rfl rfl ?_
    refine go_aload_n K_L_cell rfl rfl ?_
    refine go_getR K_L_cell rfl zf_11_16 ?_
    refine go_alen K_L_cell rfl za_3 zlen_16 ?_
    refine go_icmp_lt K_L_cell rfl (fun c => ?_) (fun c => ?_)
    · have h := zif_t c h
      refine go_aload_n K_L_cell rfl rfl ?_
      refine go_getR K_L_cell rfl zf_11_16 ?_
      refine go_iload_n K_L_cell rfl rfl ?_
      refine go_iload_n K_L_cell rfl rfl ?_
      obtain ⟨i1, h⟩ := zix_ex h
      obtain ⟨M2, e3, h⟩ := zset_ex h
      refine go_iast' e3 K_L_cell rfl za_3 i1 ?_
      refine go_aload_n K_L_cell rfl rfl ?_
      refine go_getR K_L_cell rfl zf_11_37 ?_
      refine go_iconst K_L_cell rfl zk_iconst_1 ?_
      obtain ⟨M4, e5, h⟩ := zset_ex h
      refine go_putZ' e5 K_L_cell rfl zf_11_79 (Or.inr rfl) ?_
      refine go_iconst K_L_cell rfl zk_iconst_0 ?_
      cases h
      exact go_ireturn K_L_cell rfl rfl
    · have h := zif_f c h
      refine go_iconst K_L_cell rfl zk_iconst_m1 ?_
      cases h
      exact go_ireturn K_L_cell rfl rfl
def F_L_execute (N : Nat) (M : zMem) : Option (Int32 × zMem) :=
  zbv (F_Pars_read N M (M 0 5)) fun M1 => zbi (F_Pars_isProgram M1 ) fun r5 M3 => if r5 = 0 then (some ((0 : Int32), M3)) else (if (M3 14 2) = (-4 : Int32) then (zbv (F_Mach_execute N M3 ) fun M6 => some ((1 : Int32), M6)) else (some ((0 : Int32), M3)))
set_option maxRecDepth 100000 in
theorem G_L_execute {N : Nat} {M : zMem} {y : Int32 × zMem} (h : F_L_execute N M  = some y) : zGo Y_L_execute 6 0 (zal Y_L_execute [.inr 0]) [] M (some y.1) y.2 := by
  unfold F_L_execute at h
  show zGo Y_L_execute 6 0 [some (.inr 0)] [] M _ _
  refine go_aload_n K_L_execute rfl rfl ?_
  refine go_getR K_L_execute rfl zf_11_30 ?_
  refine go_aload_n K_L_execute rfl rfl ?_
  refine go_getR K_L_execute rfl zf_11_9 ?_
  refine go_aload_n K_L_execute rfl rfl ?_
  refine go_getI K_L_execute rfl zf_11_41 ?_
  obtain ⟨M1, h2, h⟩ := zbv_ex h
  refine go_vv (Y' := Y_Pars_read) (av := [.inr 1, .inl (M 0 5)]) (rest := []) K_L_execute rfl zl_11_65 zm_Pars_read rfl (G_Pars_read h2) (Nat.le_of_ble_eq_true rfl) (Nat.le_of_ble_eq_true rfl) rfl ?_
  refine go_aload_n K_L_execute rfl rfl ?_
  refine go_getR K_L_execute rfl zf_11_30 ?_
  obtain ⟨r5, M3, h4, h⟩ := zbi_ex h
  refine go_vi (Y' := Y_Pars_isProgram) (av := []) (rest := []) K_L_execute rfl zl_11_72 zm_Pars_isProgram rfl (G_Pars_isProgram h4) (Nat.le_of_ble_eq_true rfl) (Nat.le_of_ble_eq_true rfl) rfl ?_
  refine go_if_eq K_L_execute rfl (fun c => ?_) (fun c => ?_)
  · have h := zif_t c h
    refine go_iconst K_L_execute rfl zk_iconst_0 ?_
    cases h
    exact go_zreturn K_L_execute rfl rfl (Or.inl rfl)
  · have h := zif_f c h
    refine go_aload_n K_L_execute rfl rfl ?_
    refine go_getR K_L_execute rfl zf_11_30 ?_
    refine go_getI K_L_execute rfl zf_11_76 ?_
    refine go_bipush K_L_execute rfl zk_bipush_m4 ?_
    refine go_icmp_eq K_L_execute rfl (fun c => ?_) (fun c => ?_)
    · have h := zif_t c h
      refine go_aload_n K_L_execute rfl rfl ?_
      refine go_getR K_L_execute rfl zf_11_37 ?_
      refine go_aload_n K_L_execute rfl rfl ?_
      refine go_getR K_L_execute rfl zf_11_13 ?_
      refine go_aload_n K_L_execute rfl rfl ?_
      refine go_getR K_L_execute rfl zf_11_16 ?_
      obtain ⟨M6, h7, h⟩ := zbv_ex h
      refine go_vv (Y' := Y_Mach_execute) (av := [.inr 2, .inr 3]) (rest := []) K_L_execute rfl zl_11_118 zm_Mach_execute rfl (G_Mach_execute h7) (Nat.le_of_ble_eq_true rfl) (Nat.le_of_ble_eq_true rfl) rfl ?_
      refine go_iconst K_L_execute rfl zk_iconst_1 ?_
      cases h
      exact go_zreturn K_L_execute rfl rfl (Or.inr rfl)
    · have h := zif_f c h
      refine go_iconst K_L_execute rfl zk_iconst_0 ?_
      cases h
      exact go_zreturn K_L_execute rfl rfl (Or.inl rfl)
def F_L_cellAfter (N : Nat) (M : zMem) (l1 : Int32) : Option (Int32 × zMem) :=
  if l1 < 0 then (some ((0 : Int32), M)) else (if (16 : Int32) ≤ l1 then (some ((0 : Int32), M)) else (zbi (F_L_execute N M ) fun r3 M1 => if r3 = 0 then (some ((0 : Int32), M1)) else (zix l1 16 (some (M1 29 l1.toNatClampNeg, M1)))))
set_option maxRecDepth 100000 in
theorem G_L_cellAfter {N : Nat} {M : zMem} {l1 : Int32} {y : Int32 × zMem} (h : F_L_cellAfter N M l1 = some y) : zGo Y_L_cellAfter 7 0 (zal Y_L_cellAfter [.inr 0, .inl l1]) [] M (some y.1) y.2 := by
  unfold F_L_cellAfter at h
  show zGo Y_L_cellAfter 7 0 [some (.inr 0), some (.inl l1)] [] M _ _
  refine go_iload_n K_L_cellAfter rfl rfl ?_
  refine go_if_lt K_L_cellAfter rfl (fun c => ?_) (fun c => ?_)
  · have h := zif_t c h
    refine go_iconst K_L_cellAfter rfl zk_iconst_0 ?_
    cases h
    exact go_ireturn K_L_cellAfter rfl rfl
  · have h := zif_f c h
    refine go_iload_n K_L_cellAfter rfl rfl ?_
    refine go_aload_n K_L_cellAfter rfl rfl ?_
    refine go_getR K_L_cellAfter rfl zf_11_37 ?_
    refine go_getR K_L_cellAfter rfl zf_11_98 ?_
    refine go_alen K_L_cellAfter rfl za_29 zlen_16 ?_
    refine go_icmp_ge K_L_cellAfter rfl (fun c => ?_) (fun c => ?_)
    · have h := zif_t c h
      refine go_iconst K_L_cellAfter rfl zk_iconst_0 ?_
      cases h
      exact go_ireturn K_L_cellAfter rfl rfl
    · have h := zif_f c h
      refine go_aload_n K_L_cellAfter rfl rfl ?_
      obtain ⟨r3, M1, h2, h⟩ := zbi_ex h
      refine go_vi (Y' := Y_L_execute) (av := []) (rest := []) K_L_cellAfter rfl zl_11_83 zm_L_execute rfl (G_L_execute h2) (Nat.le_of_ble_eq_true rfl) (Nat.le_of_ble_eq_true rfl) rfl ?_
      refine go_if_ne K_L_cellAfter rfl (fun c => ?_) (fun c => ?_)
      · have h := zif_f c h
        refine go_aload_n K_L_cellAfter rfl rfl ?_
        refine go_getR K_L_cellAfter rfl zf_11_37 ?_
        refine go_getR K_L_cellAfter rfl zf_11_98 ?_
        refine go_iload_n K_L_cellAfter rfl rfl ?_
        obtain ⟨i4, h⟩ := zix_ex h
        refine go_iald K_L_cellAfter rfl za_29 i4 ?_
        cases h
        exact go_ireturn K_L_cellAfter rfl rfl
      · have h := zif_t c h
        refine go_iconst K_L_cellAfter rfl zk_iconst_0 ?_
        cases h
        exact go_ireturn K_L_cellAfter rfl rfl
def F_L_clear (M : zMem) : Option (zMem) :=
  zset M 0 5 ((0 : Int32)) fun M1 => zbv (F_L_forgetText M1 ) fun M3 => some M3
set_option maxRecDepth 100000 in
theorem G_L_clear {M : zMem} {y : zMem} (h : F_L_clear M  = some y) : zGo Y_L_clear 1 0 (zal Y_L_clear [.inr 0]) [] M none y := by
  unfold F_L_clear at h
  show zGo Y_L_clear 1 0 [some (.inr 0)] [] M _ _
  refine go_aload_n K_L_clear rfl rfl ?_
  refine go_iconst K_L_clear rfl zk_iconst_0 ?_
  obtain ⟨M1, e2, h⟩ := zset_ex h
  refine go_putI' e2 K_L_clear rfl zf_11_41 ?_
  refine go_aload_n K_L_clear rfl rfl ?_
  obtain ⟨M3, h4, h⟩ := zbv_ex h
  refine go_vv (Y' := Y_L_forgetText) (av := []) (rest := []) K_L_clear rfl zl_11_62 zm_L_forgetText rfl (G_L_forgetText h4) (Nat.le_of_ble_eq_true rfl) (Nat.le_of_ble_eq_true rfl) rfl ?_
  cases h
  exact go_return K_L_clear rfl rfl
def F_L_deepest (N : Nat) (M : zMem) : Option (Int32 × zMem) :=
  zbi (F_L_execute N M ) fun r3 M1 => if r3 = 0 then (some ((-5 : Int32), M1)) else (some (M1 27 5, M1))
set_option maxRecDepth 100000 in
theorem G_L_deepest {N : Nat} {M : zMem} {y : Int32 × zMem} (h : F_L_deepest N M  = some y) : zGo Y_L_deepest 7 0 (zal Y_L_deepest [.inr 0]) [] M (some y.1) y.2 := by
  unfold F_L_deepest at h
  show zGo Y_L_deepest 7 0 [some (.inr 0)] [] M _ _
  refine go_aload_n K_L_deepest rfl rfl ?_
  obtain ⟨r3, M1, h2, h⟩ := zbi_ex h
  refine go_vi (Y' := Y_L_execute) (av := []) (rest := []) K_L_deepest rfl zl_11_83 zm_L_execute rfl (G_L_execute h2) (Nat.le_of_ble_eq_true rfl) (Nat.le_of_ble_eq_true rfl) rfl ?_
  refine go_if_eq K_L_deepest rfl (fun c => ?_) (fun c => ?_)
  · have h := zif_t c h
    refine go_bipush K_L_deepest rfl zk_bipush_m5 ?_
    cases h
    exact go_ireturn K_L_deepest rfl rfl
  · have h := zif_f c h
    refine go_aload_n K_L_deepest rfl rfl ?_
    refine go_getR K_L_deepest rfl zf_11_37 ?_
    refine go_getI K_L_deepest rfl zf_11_104 ?_
    refine go_goto K_L_deepest rfl ?_
    cases h
    exact go_ireturn K_L_deepest rfl rfl
def F_L_fault (N : Nat) (M : zMem) : Option (Int32 × zMem) :=
  zbv (F_Pars_read N M (M 0 5)) fun M1 => zbi (F_Pars_isProgram M1 ) fun r5 M3 => if r5 = 0 then (some ((-5 : Int32), M3)) else (some (M3 14 2, M3))
set_option maxRecDepth 100000 in
theorem G_L_fault {N : Nat} {M : zMem} {y : Int32 × zMem} (h : F_L_fault N M  = some y) : zGo Y_L_fault 6 0 (zal Y_L_fault [.inr 0]) [] M (some y.1) y.2 := by
  unfold F_L_fault at h
  show zGo Y_L_fault 6 0 [some (.inr 0)] [] M _ _
  refine go_aload_n K_L_fault rfl rfl ?_
  refine go_getR K_L_fault rfl zf_11_30 ?_
  refine go_aload_n K_L_fault rfl rfl ?_
  refine go_getR K_L_fault rfl zf_11_9 ?_
  refine go_aload_n K_L_fault rfl rfl ?_
  refine go_getI K_L_fault rfl zf_11_41 ?_
  obtain ⟨M1, h2, h⟩ := zbv_ex h
  refine go_vv (Y' := Y_Pars_read) (av := [.inr 1, .inl (M 0 5)]) (rest := []) K_L_fault rfl zl_11_65 zm_Pars_read rfl (G_Pars_read h2) (Nat.le_of_ble_eq_true rfl) (Nat.le_of_ble_eq_true rfl) rfl ?_
  refine go_aload_n K_L_fault rfl rfl ?_
  refine go_getR K_L_fault rfl zf_11_30 ?_
  obtain ⟨r5, M3, h4, h⟩ := zbi_ex h
  refine go_vi (Y' := Y_Pars_isProgram) (av := []) (rest := []) K_L_fault rfl zl_11_72 zm_Pars_isProgram rfl (G_Pars_isProgram h4) (Nat.le_of_ble_eq_true rfl) (Nat.le_of_ble_eq_true rfl) rfl ?_
  refine go_if_eq K_L_fault rfl (fun c => ?_) (fun c => ?_)
  · have h := zif_t c h
    refine go_bipush K_L_fault rfl zk_bipush_m5 ?_
    cases h
    exact go_ireturn K_L_fault rfl rfl
  · have h := zif_f c h
    refine go_aload_n K_L_fault rfl rfl ?_
    refine go_getR K_L_fault rfl zf_11_30 ?_
    refine go_getI K_L_fault rfl zf_11_76 ?_
    refine go_goto K_L_fault rfl ?_
    cases h
    exact go_ireturn K_L_fault rfl rfl
def F_L_mayBeAppended (M : zMem) (l0 : Int32) : Option (Int32 × zMem) :=
  if l0 = (-1 : Int32) then (some ((1 : Int32), M)) else (zbi (F_Tok_exists M l0) fun r3 M1 => if r3 = 0 then (some ((0 : Int32), M1)) else (some ((1 : Int32), M1)))
set_option maxRecDepth 100000 in
theorem G_L_mayBeAppended {M : zMem} {l0 : Int32} {y : Int32 × zMem} (h : F_L_mayBeAppended M l0 = some y) : zGo Y_L_mayBeAppended 2 0 (zal Y_L_mayBeAppended [.inl l0]) [] M (some y.1) y.2 := by
  unfold F_L_mayBeAppended at h
  show zGo Y_L_mayBeAppended 2 0 [some (.inl l0)] [] M _ _
  refine go_iload_n K_L_mayBeAppended rfl rfl ?_
  refine go_iconst K_L_mayBeAppended rfl zk_iconst_m1 ?_
  refine go_icmp_eq K_L_mayBeAppended rfl (fun c => ?_) (fun c => ?_)
  · have h := zif_t c h
    refine go_iconst K_L_mayBeAppended rfl zk_iconst_1 ?_
    refine go_goto K_L_mayBeAppended rfl ?_
    cases h
    exact go_zreturn K_L_mayBeAppended rfl rfl (Or.inr rfl)
  · have h := zif_f c h
    refine go_iload_n K_L_mayBeAppended rfl rfl ?_
    obtain ⟨r3, M1, h2, h⟩ := zbi_ex h
    refine go_si (Y' := Y_Tok_exists) (av := [.inl l0]) (rest := []) K_L_mayBeAppended rfl zl_11_45 zm_Tok_exists rfl (G_Tok_exists h2) (Nat.le_of_ble_eq_true rfl) (Nat.le_of_ble_eq_true rfl) rfl ?_
    refine go_if_eq K_L_mayBeAppended rfl (fun c => ?_) (fun c => ?_)
    · have h := zif_t c h
      refine go_iconst K_L_mayBeAppended rfl zk_iconst_0 ?_
      cases h
      exact go_zreturn K_L_mayBeAppended rfl rfl (Or.inl rfl)
    · have h := zif_f c h
      refine go_iconst K_L_mayBeAppended rfl zk_iconst_1 ?_
      refine go_goto K_L_mayBeAppended rfl ?_
      cases h
      exact go_zreturn K_L_mayBeAppended rfl rfl (Or.inr rfl)
def F_L_room (M : zMem) (l0 : Int32) : Option (Int32 × zMem) :=
  if l0 = (-1 : Int32) then (some ((0 : Int32), M)) else (some ((1 : Int32), M))
set_option maxRecDepth 100000 in
theorem G_L_room {M : zMem} {l0 : Int32} {y : Int32 × zMem} (h : F_L_room M l0 = some y) : zGo Y_L_room 0 0 (zal Y_L_room [.inl l0]) [] M (some y.1) y.2 := by
  unfold F_L_room at h
  show zGo Y_L_room 0 0 [some (.inl l0)] [] M _ _
  refine go_iload_n K_L_room rfl rfl ?_
  refine go_iconst K_L_room rfl zk_iconst_m1 ?_
  refine go_icmp_ne K_L_room rfl (fun c => ?_) (fun c => ?_)
  · have h := zif_f c h
    refine go_iconst K_L_room rfl zk_iconst_1 ?_
    cases h
    exact go_ireturn K_L_room rfl rfl
  · have h := zif_t c h
    refine go_iconst K_L_room rfl zk_iconst_0 ?_
    refine go_goto K_L_room rfl ?_
    cases h
    exact go_ireturn K_L_room rfl rfl
def F_L_four (M : zMem) (l1 l2 l3 l4 : Int32) : Option (Int32 × zMem) :=
  zbi (F_L_mayBeAppended M l1) fun r3 M1 => if r3 = 0 then (some ((-1 : Int32), M1)) else (zbi (F_L_mayBeAppended M1 l2) fun r6 M4 => if r6 = 0 then (some ((-1 : Int32), M4)) else (zbi (F_L_mayBeAppended M4 l3) fun r9 M7 => if r9 = 0 then (some ((-1 : Int32), M7)) else (zbi (F_L_mayBeAppended M7 l4) fun r12 M10 => if r12 = 0 then (some ((-1 : Int32), M10)) else (zbi (F_L_room M10 l1) fun r15 M13 => zbi (F_L_room M13 l2) fun r18 M16 => zbi (F_L_room M16 l3) fun r21 M19 => zbi (F_L_room M19 l4) fun r24 M22 => if (((((M10 0 5) + r15) + r18) + r21) + r24) ≤ (150 : Int32) then (zbv (F_L_append M22 l1) fun M25 => zbv (F_L_append M25 l2) fun M27 => zbv (F_L_append M27 l3) fun M29 => zbv (F_L_append M29 l4) fun M31 => some (M31 0 5, M31)) else (some ((-2 : Int32), M22))))))
set_option maxRecDepth 100000 in
theorem G_L_four {M : zMem} {l1 l2 l3 l4 : Int32} {y : Int32 × zMem} (h : F_L_four M l1 l2 l3 l4 = some y) : zGo Y_L_four 3 0 (zal Y_L_four [.inr 0, .inl l1, .inl l2, .inl l3, .inl l4]) [] M (some y.1) y.2 := by
  unfold F_L_four at h
  show zGo Y_L_four 3 0 [some (.inr 0), some (.inl l1), some (.inl l2), some (.inl l3), some (.inl l4)] [] M _ _
  refine go_iload_n K_L_four rfl rfl ?_
  obtain ⟨r3, M1, h2, h⟩ := zbi_ex h
  refine go_si (Y' := Y_L_mayBeAppended) (av := [.inl l1]) (rest := []) K_L_four rfl zl_11_55 zm_L_mayBeAppended rfl (G_L_mayBeAppended h2) (Nat.le_of_ble_eq_true rfl) (Nat.le_of_ble_eq_true rfl) rfl ?_
  refine go_if_eq K_L_four rfl (fun c => ?_) (fun c => ?_)
  · have h := zif_t c h
    refine go_iconst K_L_four rfl zk_iconst_m1 ?_
    cases h
    exact go_ireturn K_L_four rfl rfl
  · have h := zif_f c h
    refine go_iload_n K_L_four rfl rfl ?_
    obtain ⟨r6, M4, h5, h⟩ := zbi_ex h
    refine go_si (Y' := Y_L_mayBeAppended) (av := [.inl l2]) (rest := []) K_L_four rfl zl_11_55 zm_L_mayBeAppended rfl (G_L_mayBeAppended h5) (Nat.le_of_ble_eq_true rfl) (Nat.le_of_ble_eq_true rfl) rfl ?_
    refine go_if_eq K_L_four rfl (fun c => ?_) (fun c => ?_)
    · have h := zif_t c h
      refine go_iconst K_L_four rfl zk_iconst_m1 ?_
      cases h
      exact go_ireturn K_L_four rfl rfl
    · have h := zif_f c h
      refine go_iload_n K_L_four rfl rfl ?_
      obtain ⟨r9, M7, h8, h⟩ := zbi_ex h
      refine go_si (Y' := Y_L_mayBeAppended) (av := [.inl l3]) (rest := []) K_L_four rfl zl_11_55 zm_L_mayBeAppended rfl (G_L_mayBeAppended h8) (Nat.le_of_ble_eq_true rfl) (Nat.le_of_ble_eq_true rfl) rfl ?_
      refine go_if_eq K_L_four rfl (fun c => ?_) (fun c => ?_)
      · have h := zif_t c h
        refine go_iconst K_L_four rfl zk_iconst_m1 ?_
        cases h
        exact go_ireturn K_L_four rfl rfl
      · have h := zif_f c h
        refine go_iload K_L_four rfl rfl ?_
        obtain ⟨r12, M10, h11, h⟩ := zbi_ex h
        refine go_si (Y' := Y_L_mayBeAppended) (av := [.inl l4]) (rest := []) K_L_four rfl zl_11_55 zm_L_mayBeAppended rfl (G_L_mayBeAppended h11) (Nat.le_of_ble_eq_true rfl) (Nat.le_of_ble_eq_true rfl) rfl ?_
        refine go_if_ne K_L_four rfl (fun c => ?_) (fun c => ?_)
        · have h := zif_f c h
          refine go_aload_n K_L_four rfl rfl ?_
          refine go_getI K_L_four rfl zf_11_41 ?_
          refine go_iload_n K_L_four rfl rfl ?_
          obtain ⟨r15, M13, h14, h⟩ := zbi_ex h
          refine go_si (Y' := Y_L_room) (av := [.inl l1]) (rest := [.inl (M10 0 5)]) K_L_four rfl zl_11_58 zm_L_room rfl (G_L_room h14) (Nat.le_of_ble_eq_true rfl) (Nat.le_of_ble_eq_true rfl) rfl ?_
          refine go_iadd K_L_four rfl ?_
          refine go_iload_n K_L_four rfl rfl ?_
          obtain ⟨r18, M16, h17, h⟩ := zbi_ex h
          refine go_si (Y' := Y_L_room) (av := [.inl l2]) (rest := [.inl ((M10 0 5) + r15)]) K_L_four rfl zl_11_58 zm_L_room rfl (G_L_room h17) (Nat.le_of_ble_eq_true rfl) (Nat.le_of_ble_eq_true rfl) rfl ?_
          refine go_iadd K_L_four rfl ?_
          refine go_iload_n K_L_four rfl rfl ?_
          obtain ⟨r21, M19, h20, h⟩ := zbi_ex h
          refine go_si (Y' := Y_L_room) (av := [.inl l3]) (rest := [.inl (((M10 0 5) + r15) + r18)]) K_L_four rfl zl_11_58 zm_L_room rfl (G_L_room h20) (Nat.le_of_ble_eq_true rfl) (Nat.le_of_ble_eq_true rfl) rfl ?_
          refine go_iadd K_L_four rfl ?_
          refine go_iload K_L_four rfl rfl ?_
          obtain ⟨r24, M22, h23, h⟩ := zbi_ex h
          refine go_si (Y' := Y_L_room) (av := [.inl l4]) (rest := [.inl ((((M10 0 5) + r15) + r18) + r21)]) K_L_four rfl zl_11_58 zm_L_room rfl (G_L_room h23) (Nat.le_of_ble_eq_true rfl) (Nat.le_of_ble_eq_true rfl) rfl ?_
          refine go_iadd K_L_four rfl ?_
          refine go_sipush K_L_four rfl zk_sipush_150 ?_
          refine go_icmp_le K_L_four rfl (fun c => ?_) (fun c => ?_)
          · have h := zif_t c h
            refine go_aload_n K_L_four rfl rfl ?_
            refine go_iload_n K_L_four rfl rfl ?_
            obtain ⟨M25, h26, h⟩ := zbv_ex h
            refine go_vv (Y' := Y_L_append) (av := [.inl l1]) (rest := []) K_L_four rfl zl_11_51 zm_L_append rfl (G_L_append h26) (Nat.le_of_ble_eq_true rfl) (Nat.le_of_ble_eq_true rfl) rfl ?_
            refine go_aload_n K_L_four rfl rfl ?_
            refine go_iload_n K_L_four rfl rfl ?_
            obtain ⟨M27, h28, h⟩ := zbv_ex h
            refine go_vv (Y' := Y_L_append) (av := [.inl l2]) (rest := []) K_L_four rfl zl_11_51 zm_L_append rfl (G_L_append h28) (Nat.le_of_ble_eq_true rfl) (Nat.le_of_ble_eq_true rfl) rfl ?_
            refine go_aload_n K_L_four rfl rfl ?_
            refine go_iload_n K_L_four rfl rfl ?_
            obtain ⟨M29, h30, h⟩ := zbv_ex h
            refine go_vv (Y' := Y_L_append) (av := [.inl l3]) (rest := []) K_L_four rfl zl_11_51 zm_L_append rfl (G_L_append h30) (Nat.le_of_ble_eq_true rfl) (Nat.le_of_ble_eq_true rfl) rfl ?_
            refine go_aload_n K_L_four rfl rfl ?_
            refine go_iload K_L_four rfl rfl ?_
            obtain ⟨M31, h32, h⟩ := zbv_ex h
            refine go_vv (Y' := Y_L_append) (av := [.inl l4]) (rest := []) K_L_four rfl zl_11_51 zm_L_append rfl (G_L_append h32) (Nat.le_of_ble_eq_true rfl) (Nat.le_of_ble_eq_true rfl) rfl ?_
            refine go_aload_n K_L_four rfl rfl ?_
            refine go_getI K_L_four rfl zf_11_41 ?_
            cases h
            exact go_ireturn K_L_four rfl rfl
          · have h := zif_f c h
            refine go_bipush K_L_four rfl zk_bipush_m2 ?_
            cases h
            exact go_ireturn K_L_four rfl rfl
        · have h := zif_t c h
          refine go_iconst K_L_four rfl zk_iconst_m1 ?_
          cases h
          exact go_ireturn K_L_four rfl rfl
def F_L_global (N : Nat) (M : zMem) (l1 : Int32) : Option (Int32 × zMem) :=
  if l1 < 0 then (some ((0 : Int32), M)) else (if (8 : Int32) ≤ l1 then (some ((0 : Int32), M)) else (zbi (F_L_execute N M ) fun r3 M1 => if r3 = 0 then (some ((0 : Int32), M1)) else (zix l1 8 (some (M1 28 l1.toNatClampNeg, M1)))))
set_option maxRecDepth 100000 in
theorem G_L_global {N : Nat} {M : zMem} {l1 : Int32} {y : Int32 × zMem} (h : F_L_global N M l1 = some y) : zGo Y_L_global 7 0 (zal Y_L_global [.inr 0, .inl l1]) [] M (some y.1) y.2 := by
  unfold F_L_global at h
  show zGo Y_L_global 7 0 [some (.inr 0), some (.inl l1)] [] M _ _
  refine go_iload_n K_L_global rfl rfl ?_
  refine go_if_lt K_L_global rfl (fun c => ?_) (fun c => ?_)
  · have h := zif_t c h
    refine go_iconst K_L_global rfl zk_iconst_0 ?_
    cases h
    exact go_ireturn K_L_global rfl rfl
  · have h := zif_f c h
    refine go_iload_n K_L_global rfl rfl ?_
    refine go_aload_n K_L_global rfl rfl ?_
    refine go_getR K_L_global rfl zf_11_37 ?_
    refine go_getR K_L_global rfl zf_11_95 ?_
    refine go_alen K_L_global rfl za_28 zlen_8 ?_
    refine go_icmp_ge K_L_global rfl (fun c => ?_) (fun c => ?_)
    · have h := zif_t c h
      refine go_iconst K_L_global rfl zk_iconst_0 ?_
      cases h
      exact go_ireturn K_L_global rfl rfl
    · have h := zif_f c h
      refine go_aload_n K_L_global rfl rfl ?_
      obtain ⟨r3, M1, h2, h⟩ := zbi_ex h
      refine go_vi (Y' := Y_L_execute) (av := []) (rest := []) K_L_global rfl zl_11_83 zm_L_execute rfl (G_L_execute h2) (Nat.le_of_ble_eq_true rfl) (Nat.le_of_ble_eq_true rfl) rfl ?_
      refine go_if_ne K_L_global rfl (fun c => ?_) (fun c => ?_)
      · have h := zif_f c h
        refine go_aload_n K_L_global rfl rfl ?_
        refine go_getR K_L_global rfl zf_11_37 ?_
        refine go_getR K_L_global rfl zf_11_95 ?_
        refine go_iload_n K_L_global rfl rfl ?_
        obtain ⟨i4, h⟩ := zix_ex h
        refine go_iald K_L_global rfl za_28 i4 ?_
        cases h
        exact go_ireturn K_L_global rfl rfl
      · have h := zif_t c h
        refine go_iconst K_L_global rfl zk_iconst_0 ?_
        cases h
        exact go_ireturn K_L_global rfl rfl
def F_L_output (N : Nat) (M : zMem) (l1 : Int32) : Option (Int32 × zMem) :=
  zbi (F_L_execute N M ) fun r3 M1 => if r3 = 0 then (some ((0 : Int32), M1)) else (if l1 < 0 then (some ((0 : Int32), M1)) else (if (M1 27 3) ≤ l1 then (some ((0 : Int32), M1)) else (if l1 < (20 : Int32) then (zix l1 20 (some (M1 30 l1.toNatClampNeg, M1))) else (some ((0 : Int32), M1)))))
set_option maxRecDepth 100000 in
theorem G_L_output {N : Nat} {M : zMem} {l1 : Int32} {y : Int32 × zMem} (h : F_L_output N M l1 = some y) : zGo Y_L_output 7 0 (zal Y_L_output [.inr 0, .inl l1]) [] M (some y.1) y.2 := by
  unfold F_L_output at h
  show zGo Y_L_output 7 0 [some (.inr 0), some (.inl l1)] [] M _ _
  refine go_aload_n K_L_output rfl rfl ?_
  obtain ⟨r3, M1, h2, h⟩ := zbi_ex h
  refine go_vi (Y' := Y_L_execute) (av := []) (rest := []) K_L_output rfl zl_11_83 zm_L_execute rfl (G_L_execute h2) (Nat.le_of_ble_eq_true rfl) (Nat.le_of_ble_eq_true rfl) rfl ?_
  refine go_if_eq K_L_output rfl (fun c => ?_) (fun c => ?_)
  · have h := zif_t c h
    refine go_iconst K_L_output rfl zk_iconst_0 ?_
    cases h
    exact go_ireturn K_L_output rfl rfl
  · have h := zif_f c h
    refine go_iload_n K_L_output rfl rfl ?_
    refine go_if_lt K_L_output rfl (fun c => ?_) (fun c => ?_)
    · have h := zif_t c h
      refine go_iconst K_L_output rfl zk_iconst_0 ?_
      cases h
      exact go_ireturn K_L_output rfl rfl
    · have h := zif_f c h
      refine go_iload_n K_L_output rfl rfl ?_
      refine go_aload_n K_L_output rfl rfl ?_
      refine go_getR K_L_output rfl zf_11_37 ?_
      refine go_getI K_L_output rfl zf_11_89 ?_
      refine go_icmp_ge K_L_output rfl (fun c => ?_) (fun c => ?_)
      · have h := zif_t c h
        refine go_iconst K_L_output rfl zk_iconst_0 ?_
        cases h
        exact go_ireturn K_L_output rfl rfl
      · have h := zif_f c h
        refine go_iload_n K_L_output rfl rfl ?_
        refine go_aload_n K_L_output rfl rfl ?_
        refine go_getR K_L_output rfl zf_11_37 ?_
        refine go_getR K_L_output rfl zf_11_92 ?_
        refine go_alen K_L_output rfl za_30 zlen_20 ?_
        refine go_icmp_lt K_L_output rfl (fun c => ?_) (fun c => ?_)
        · have h := zif_t c h
          refine go_aload_n K_L_output rfl rfl ?_
          refine go_getR K_L_output rfl zf_11_37 ?_
          refine go_getR K_L_output rfl zf_11_92 ?_
          refine go_iload_n K_L_output rfl rfl ?_
          obtain ⟨i4, h⟩ := zix_ex h
          refine go_iald K_L_output rfl za_30 i4 ?_
          cases h
          exact go_ireturn K_L_output rfl rfl
        · have h := zif_f c h
          refine go_iconst K_L_output rfl zk_iconst_0 ?_
          cases h
          exact go_ireturn K_L_output rfl rfl
def F_L_outs (N : Nat) (M : zMem) : Option (Int32 × zMem) :=
  zbi (F_L_execute N M ) fun r3 M1 => if r3 = 0 then (some ((-5 : Int32), M1)) else (some (M1 27 3, M1))
set_option maxRecDepth 100000 in
theorem G_L_outs {N : Nat} {M : zMem} {y : Int32 × zMem} (h : F_L_outs N M  = some y) : zGo Y_L_outs 7 0 (zal Y_L_outs [.inr 0]) [] M (some y.1) y.2 := by
  unfold F_L_outs at h
  show zGo Y_L_outs 7 0 [some (.inr 0)] [] M _ _
  refine go_aload_n K_L_outs rfl rfl ?_
  obtain ⟨r3, M1, h2, h⟩ := zbi_ex h
  refine go_vi (Y' := Y_L_execute) (av := []) (rest := []) K_L_outs rfl zl_11_83 zm_L_execute rfl (G_L_execute h2) (Nat.le_of_ble_eq_true rfl) (Nat.le_of_ble_eq_true rfl) rfl ?_
  refine go_if_eq K_L_outs rfl (fun c => ?_) (fun c => ?_)
  · have h := zif_t c h
    refine go_bipush K_L_outs rfl zk_bipush_m5 ?_
    cases h
    exact go_ireturn K_L_outs rfl rfl
  · have h := zif_f c h
    refine go_aload_n K_L_outs rfl rfl ?_
    refine go_getR K_L_outs rfl zf_11_37 ?_
    refine go_getI K_L_outs rfl zf_11_89 ?_
    refine go_goto K_L_outs rfl ?_
    cases h
    exact go_ireturn K_L_outs rfl rfl
def F_L_plain (N : Nat) (M : zMem) (l1 : Int32) : Option (Int32 × zMem) :=
  zbv (F_Pars_read N M (M 0 5)) fun M1 => zbi (F_Pars_isProgram M1 ) fun r5 M3 => if r5 = 0 then (some ((-4 : Int32), M3)) else (if l1 < 0 then (some ((-4 : Int32), M3)) else (if (M3 19 1) ≤ l1 then (some ((-4 : Int32), M3)) else (if l1 < (150 : Int32) then (zix l1 150 (some (M3 20 l1.toNatClampNeg, M3))) else (some ((-4 : Int32), M3)))))
set_option maxRecDepth 100000 in
theorem G_L_plain {N : Nat} {M : zMem} {l1 : Int32} {y : Int32 × zMem} (h : F_L_plain N M l1 = some y) : zGo Y_L_plain 6 0 (zal Y_L_plain [.inr 0, .inl l1]) [] M (some y.1) y.2 := by
  unfold F_L_plain at h
  show zGo Y_L_plain 6 0 [some (.inr 0), some (.inl l1)] [] M _ _
  refine go_aload_n K_L_plain rfl rfl ?_
  refine go_getR K_L_plain rfl zf_11_30 ?_
  refine go_aload_n K_L_plain rfl rfl ?_
  refine go_getR K_L_plain rfl zf_11_9 ?_
  refine go_aload_n K_L_plain rfl rfl ?_
  refine go_getI K_L_plain rfl zf_11_41 ?_
  obtain ⟨M1, h2, h⟩ := zbv_ex h
  refine go_vv (Y' := Y_Pars_read) (av := [.inr 1, .inl (M 0 5)]) (rest := []) K_L_plain rfl zl_11_65 zm_Pars_read rfl (G_Pars_read h2) (Nat.le_of_ble_eq_true rfl) (Nat.le_of_ble_eq_true rfl) rfl ?_
  refine go_aload_n K_L_plain rfl rfl ?_
  refine go_getR K_L_plain rfl zf_11_30 ?_
  obtain ⟨r5, M3, h4, h⟩ := zbi_ex h
  refine go_vi (Y' := Y_Pars_isProgram) (av := []) (rest := []) K_L_plain rfl zl_11_72 zm_Pars_isProgram rfl (G_Pars_isProgram h4) (Nat.le_of_ble_eq_true rfl) (Nat.le_of_ble_eq_true rfl) rfl ?_
  refine go_if_eq K_L_plain rfl (fun c => ?_) (fun c => ?_)
  · have h := zif_t c h
    refine go_bipush K_L_plain rfl zk_bipush_m4 ?_
    cases h
    exact go_ireturn K_L_plain rfl rfl
  · have h := zif_f c h
    refine go_iload_n K_L_plain rfl rfl ?_
    refine go_if_lt K_L_plain rfl (fun c => ?_) (fun c => ?_)
    · have h := zif_t c h
      refine go_bipush K_L_plain rfl zk_bipush_m4 ?_
      cases h
      exact go_ireturn K_L_plain rfl rfl
    · have h := zif_f c h
      refine go_iload_n K_L_plain rfl rfl ?_
      refine go_aload_n K_L_plain rfl rfl ?_
      refine go_getR K_L_plain rfl zf_11_30 ?_
      refine go_getR K_L_plain rfl zf_11_107 ?_
      refine go_getI K_L_plain rfl zf_11_111 ?_
      refine go_icmp_ge K_L_plain rfl (fun c => ?_) (fun c => ?_)
      · have h := zif_t c h
        refine go_bipush K_L_plain rfl zk_bipush_m4 ?_
        cases h
        exact go_ireturn K_L_plain rfl rfl
      · have h := zif_f c h
        refine go_iload_n K_L_plain rfl rfl ?_
        refine go_aload_n K_L_plain rfl rfl ?_
        refine go_getR K_L_plain rfl zf_11_30 ?_
        refine go_getR K_L_plain rfl zf_11_107 ?_
        refine go_getR K_L_plain rfl zf_11_116 ?_
        refine go_alen K_L_plain rfl za_20 zlen_150 ?_
        refine go_icmp_lt K_L_plain rfl (fun c => ?_) (fun c => ?_)
        · have h := zif_t c h
          refine go_aload_n K_L_plain rfl rfl ?_
          refine go_getR K_L_plain rfl zf_11_30 ?_
          refine go_getR K_L_plain rfl zf_11_107 ?_
          refine go_getR K_L_plain rfl zf_11_116 ?_
          refine go_iload_n K_L_plain rfl rfl ?_
          obtain ⟨i6, h⟩ := zix_ex h
          refine go_iald K_L_plain rfl za_20 i6 ?_
          cases h
          exact go_ireturn K_L_plain rfl rfl
        · have h := zif_f c h
          refine go_bipush K_L_plain rfl zk_bipush_m4 ?_
          cases h
          exact go_ireturn K_L_plain rfl rfl
def F_L_plainSize (N : Nat) (M : zMem) : Option (Int32 × zMem) :=
  zbv (F_Pars_read N M (M 0 5)) fun M1 => zbi (F_Pars_isProgram M1 ) fun r5 M3 => if r5 = 0 then (some ((-5 : Int32), M3)) else (some (M3 19 1, M3))
set_option maxRecDepth 100000 in
theorem G_L_plainSize {N : Nat} {M : zMem} {y : Int32 × zMem} (h : F_L_plainSize N M  = some y) : zGo Y_L_plainSize 6 0 (zal Y_L_plainSize [.inr 0]) [] M (some y.1) y.2 := by
  unfold F_L_plainSize at h
  show zGo Y_L_plainSize 6 0 [some (.inr 0)] [] M _ _
  refine go_aload_n K_L_plainSize rfl rfl ?_
  refine go_getR K_L_plainSize rfl zf_11_30 ?_
  refine go_aload_n K_L_plainSize rfl rfl ?_
  refine go_getR K_L_plainSize rfl zf_11_9 ?_
  refine go_aload_n K_L_plainSize rfl rfl ?_
  refine go_getI K_L_plainSize rfl zf_11_41 ?_
  obtain ⟨M1, h2, h⟩ := zbv_ex h
  refine go_vv (Y' := Y_Pars_read) (av := [.inr 1, .inl (M 0 5)]) (rest := []) K_L_plainSize rfl zl_11_65 zm_Pars_read rfl (G_Pars_read h2) (Nat.le_of_ble_eq_true rfl) (Nat.le_of_ble_eq_true rfl) rfl ?_
  refine go_aload_n K_L_plainSize rfl rfl ?_
  refine go_getR K_L_plainSize rfl zf_11_30 ?_
  obtain ⟨r5, M3, h4, h⟩ := zbi_ex h
  refine go_vi (Y' := Y_Pars_isProgram) (av := []) (rest := []) K_L_plainSize rfl zl_11_72 zm_Pars_isProgram rfl (G_Pars_isProgram h4) (Nat.le_of_ble_eq_true rfl) (Nat.le_of_ble_eq_true rfl) rfl ?_
  refine go_if_eq K_L_plainSize rfl (fun c => ?_) (fun c => ?_)
  · have h := zif_t c h
    refine go_bipush K_L_plainSize rfl zk_bipush_m5 ?_
    cases h
    exact go_ireturn K_L_plainSize rfl rfl
  · have h := zif_f c h
    refine go_aload_n K_L_plainSize rfl rfl ?_
    refine go_getR K_L_plainSize rfl zf_11_30 ?_
    refine go_getR K_L_plainSize rfl zf_11_107 ?_
    refine go_getI K_L_plainSize rfl zf_11_111 ?_
    refine go_goto K_L_plainSize rfl ?_
    cases h
    exact go_ireturn K_L_plainSize rfl rfl
def F_L_prepare (M : zMem) (l1 l2 : Int32) : Option (Int32 × zMem) :=
  if l1 < (4 : Int32) then (some ((-1 : Int32), M)) else (if (8 : Int32) < l1 then (some ((-1 : Int32), M)) else (if l2 < 0 then (some ((-1 : Int32), M)) else (if l2 ≤ (2 : Int32) then (some ((0 : Int32), M)) else (some ((-1 : Int32), M)))))
set_option maxRecDepth 100000 in
theorem G_L_prepare {M : zMem} {l1 l2 : Int32} {y : Int32 × zMem} (h : F_L_prepare M l1 l2 = some y) : zGo Y_L_prepare 0 0 (zal Y_L_prepare [.inr 0, .inl l1, .inl l2]) [] M (some y.1) y.2 := by
  unfold F_L_prepare at h
  show zGo Y_L_prepare 0 0 [some (.inr 0), some (.inl l1), some (.inl l2)] [] M _ _
  refine go_iload_n K_L_prepare rfl rfl ?_
  refine go_iconst K_L_prepare rfl zk_iconst_4 ?_
  refine go_icmp_lt K_L_prepare rfl (fun c => ?_) (fun c => ?_)
  · have h := zif_t c h
    refine go_iconst K_L_prepare rfl zk_iconst_m1 ?_
    cases h
    exact go_ireturn K_L_prepare rfl rfl
  · have h := zif_f c h
    refine go_iload_n K_L_prepare rfl rfl ?_
    refine go_bipush K_L_prepare rfl zk_bipush_8 ?_
    refine go_icmp_gt K_L_prepare rfl (fun c => ?_) (fun c => ?_)
    · have h := zif_t c h
      refine go_iconst K_L_prepare rfl zk_iconst_m1 ?_
      cases h
      exact go_ireturn K_L_prepare rfl rfl
    · have h := zif_f c h
      refine go_iload_n K_L_prepare rfl rfl ?_
      refine go_if_lt K_L_prepare rfl (fun c => ?_) (fun c => ?_)
      · have h := zif_t c h
        refine go_iconst K_L_prepare rfl zk_iconst_m1 ?_
        cases h
        exact go_ireturn K_L_prepare rfl rfl
      · have h := zif_f c h
        refine go_iload_n K_L_prepare rfl rfl ?_
        refine go_iconst K_L_prepare rfl zk_iconst_2 ?_
        refine go_icmp_le K_L_prepare rfl (fun c => ?_) (fun c => ?_)
        · have h := zif_t c h
          refine go_iconst K_L_prepare rfl zk_iconst_0 ?_
          cases h
          exact go_ireturn K_L_prepare rfl rfl
        · have h := zif_f c h
          refine go_iconst K_L_prepare rfl zk_iconst_m1 ?_
          cases h
          exact go_ireturn K_L_prepare rfl rfl
def F_L_run (N : Nat) (M : zMem) : Option (Int32 × zMem) :=
  zbi (F_L_execute N M ) fun r3 M1 => if r3 = 0 then (some ((-5 : Int32), M1)) else (some (M1 27 6, M1))
set_option maxRecDepth 100000 in
theorem G_L_run {N : Nat} {M : zMem} {y : Int32 × zMem} (h : F_L_run N M  = some y) : zGo Y_L_run 7 0 (zal Y_L_run [.inr 0]) [] M (some y.1) y.2 := by
  unfold F_L_run at h
  show zGo Y_L_run 7 0 [some (.inr 0)] [] M _ _
  refine go_aload_n K_L_run rfl rfl ?_
  obtain ⟨r3, M1, h2, h⟩ := zbi_ex h
  refine go_vi (Y' := Y_L_execute) (av := []) (rest := []) K_L_run rfl zl_11_83 zm_L_execute rfl (G_L_execute h2) (Nat.le_of_ble_eq_true rfl) (Nat.le_of_ble_eq_true rfl) rfl ?_
  refine go_if_eq K_L_run rfl (fun c => ?_) (fun c => ?_)
  · have h := zif_t c h
    refine go_bipush K_L_run rfl zk_bipush_m5 ?_
    cases h
    exact go_ireturn K_L_run rfl rfl
  · have h := zif_f c h
    refine go_aload_n K_L_run rfl rfl ?_
    refine go_getR K_L_run rfl zf_11_37 ?_
    refine go_getI K_L_run rfl zf_11_86 ?_
    refine go_goto K_L_run rfl ?_
    cases h
    exact go_ireturn K_L_run rfl rfl
def F_L_set (M : zMem) (l1 l2 : Int32) : Option (Int32 × zMem) :=
  if l1 < 0 then (some ((-1 : Int32), M)) else (if l1 < (8 : Int32) then (zix l1 8 (zset M 2 l1.toNatClampNeg l2 fun M2 => zset M2 27 7 ((1 : Int32)) fun M4 => some ((0 : Int32), M4))) else (some ((-1 : Int32), M)))
set_option maxRecDepth 100000 in
theorem G_L_set {M : zMem} {l1 l2 : Int32} {y : Int32 × zMem} (h : F_L_set M l1 l2 = some y) : zGo Y_L_set 0 0 (zal Y_L_set [.inr 0, .inl l1, .inl l2]) [] M (some y.1) y.2 := by
  unfold F_L_set at h
  show zGo Y_L_set 0 0 [some (.inr 0), some (.inl l1), some (.inl l2)] [] M _ _
  refine go_iload_n K_L_set rfl rfl ?_
  refine go_if_lt K_L_set rfl (fun c => ?_) (fun c => ?_)
  · have h := zif_t c h
    refine go_iconst K_L_set rfl zk_iconst_m1 ?_
    cases h
    exact go_ireturn K_L_set rfl rfl
  · have h := zif_f c h
    refine go_iload_n K_L_set rfl rfl ?_
    refine go_aload_n K_L_set rfl rfl ?_
    refine go_getR K_L_set rfl zf_11_13 ?_
    refine go_alen K_L_set rfl za_2 zlen_8 ?_
    refine go_icmp_lt K_L_set rfl (fun c => ?_) (fun c => ?_)
    · have h := zif_t c h
      refine go_aload_n K_L_set rfl rfl ?_
      refine go_getR K_L_set rfl zf_11_13 ?_
      refine go_iload_n K_L_set rfl rfl ?_
      refine go_iload_n K_L_set rfl rfl ?_
      obtain ⟨i1, h⟩ := zix_ex h
      obtain ⟨M2, e3, h⟩ := zset_ex h
      refine go_iast' e3 K_L_set rfl za_2 i1 ?_
      refine go_aload_n K_L_set rfl rfl ?_
      refine go_getR K_L_set rfl zf_11_37 ?_
      refine go_iconst K_L_set rfl zk_iconst_1 ?_
      obtain ⟨M4, e5, h⟩ := zset_ex h
      refine go_putZ' e5 K_L_set rfl zf_11_79 (Or.inr rfl) ?_
      refine go_iconst K_L_set rfl zk_iconst_0 ?_
      cases h
      exact go_ireturn K_L_set rfl rfl
    · have h := zif_f c h
      refine go_iconst K_L_set rfl zk_iconst_m1 ?_
      cases h
      exact go_ireturn K_L_set rfl rfl
def F_L_token (M : zMem) (l1 : Int32) : Option (Int32 × zMem) :=
  zbi (F_Tok_exists M l1) fun r3 M1 => if r3 = 0 then (some ((-1 : Int32), M1)) else (if (M1 0 5) < (150 : Int32) then (zbv (F_L_append M1 l1) fun M4 => some (M4 0 5, M4)) else (some ((-2 : Int32), M1)))
set_option maxRecDepth 100000 in
theorem G_L_token {M : zMem} {l1 : Int32} {y : Int32 × zMem} (h : F_L_token M l1 = some y) : zGo Y_L_token 2 0 (zal Y_L_token [.inr 0, .inl l1]) [] M (some y.1) y.2 := by
  unfold F_L_token at h
  show zGo Y_L_token 2 0 [some (.inr 0), some (.inl l1)] [] M _ _
  refine go_iload_n K_L_token rfl rfl ?_
  obtain ⟨r3, M1, h2, h⟩ := zbi_ex h
  refine go_si (Y' := Y_Tok_exists) (av := [.inl l1]) (rest := []) K_L_token rfl zl_11_45 zm_Tok_exists rfl (G_Tok_exists h2) (Nat.le_of_ble_eq_true rfl) (Nat.le_of_ble_eq_true rfl) rfl ?_
  refine go_if_ne K_L_token rfl (fun c => ?_) (fun c => ?_)
  · have h := zif_f c h
    refine go_aload_n K_L_token rfl rfl ?_
    refine go_getI K_L_token rfl zf_11_41 ?_
    refine go_sipush K_L_token rfl zk_sipush_150 ?_
    refine go_icmp_lt K_L_token rfl (fun c => ?_) (fun c => ?_)
    · have h := zif_t c h
      refine go_aload_n K_L_token rfl rfl ?_
      refine go_iload_n K_L_token rfl rfl ?_
      obtain ⟨M4, h5, h⟩ := zbv_ex h
      refine go_vv (Y' := Y_L_append) (av := [.inl l1]) (rest := []) K_L_token rfl zl_11_51 zm_L_append rfl (G_L_append h5) (Nat.le_of_ble_eq_true rfl) (Nat.le_of_ble_eq_true rfl) rfl ?_
      refine go_aload_n K_L_token rfl rfl ?_
      refine go_getI K_L_token rfl zf_11_41 ?_
      cases h
      exact go_ireturn K_L_token rfl rfl
    · have h := zif_f c h
      refine go_bipush K_L_token rfl zk_bipush_m2 ?_
      cases h
      exact go_ireturn K_L_token rfl rfl
  · have h := zif_t c h
    refine go_iconst K_L_token rfl zk_iconst_m1 ?_
    cases h
    exact go_ireturn K_L_token rfl rfl
def F_L_tokens (M : zMem) : Option (Int32 × zMem) :=
  some (M 0 5, M)
set_option maxRecDepth 100000 in
theorem G_L_tokens {M : zMem} {y : Int32 × zMem} (h : F_L_tokens M  = some y) : zGo Y_L_tokens 0 0 (zal Y_L_tokens [.inr 0]) [] M (some y.1) y.2 := by
  unfold F_L_tokens at h
  show zGo Y_L_tokens 0 0 [some (.inr 0)] [] M _ _
  refine go_aload_n K_L_tokens rfl rfl ?_
  refine go_getI K_L_tokens rfl zf_11_41 ?_
  cases h
  exact go_ireturn K_L_tokens rfl rfl
def F_L_turns (N : Nat) (M : zMem) : Option (Int32 × zMem) :=
  zbi (F_L_execute N M ) fun r3 M1 => if r3 = 0 then (some ((-5 : Int32), M1)) else (some (M1 27 4, M1))
set_option maxRecDepth 100000 in
theorem G_L_turns {N : Nat} {M : zMem} {y : Int32 × zMem} (h : F_L_turns N M  = some y) : zGo Y_L_turns 7 0 (zal Y_L_turns [.inr 0]) [] M (some y.1) y.2 := by
  unfold F_L_turns at h
  show zGo Y_L_turns 7 0 [some (.inr 0)] [] M _ _
  refine go_aload_n K_L_turns rfl rfl ?_
  obtain ⟨r3, M1, h2, h⟩ := zbi_ex h
  refine go_vi (Y' := Y_L_execute) (av := []) (rest := []) K_L_turns rfl zl_11_83 zm_L_execute rfl (G_L_execute h2) (Nat.le_of_ble_eq_true rfl) (Nat.le_of_ble_eq_true rfl) rfl ?_
  refine go_if_eq K_L_turns rfl (fun c => ?_) (fun c => ?_)
  · have h := zif_t c h
    refine go_bipush K_L_turns rfl zk_bipush_m5 ?_
    cases h
    exact go_ireturn K_L_turns rfl rfl
  · have h := zif_f c h
    refine go_aload_n K_L_turns rfl rfl ?_
    refine go_getR K_L_turns rfl zf_11_37 ?_
    refine go_getI K_L_turns rfl zf_11_101 ?_
    refine go_goto K_L_turns rfl ?_
    cases h
    exact go_ireturn K_L_turns rfl rfl
def F_L_untoken (M : zMem) : Option (Int32 × zMem) :=
  if (M 0 5) ≤ 0 then (some ((-4 : Int32), M)) else (if (M 0 5) ≤ (150 : Int32) then (zset M 0 5 ((M 0 5) - (1 : Int32)) fun M1 => zbv (F_L_forgetText M1 ) fun M3 => zix (M3 0 5) 150 (some (M3 1 (M3 0 5).toNatClampNeg, M3))) else (some ((-4 : Int32), M)))
set_option maxRecDepth 100000 in
theorem G_L_untoken {M : zMem} {y : Int32 × zMem} (h : F_L_untoken M  = some y) : zGo Y_L_untoken 1 0 (zal Y_L_untoken [.inr 0]) [] M (some y.1) y.2 := by
  unfold F_L_untoken at h
  show zGo Y_L_untoken 1 0 [some (.inr 0)] [] M _ _
  refine go_aload_n K_L_untoken rfl rfl ?_
  refine go_getI K_L_untoken rfl zf_11_41 ?_
  refine go_if_le K_L_untoken rfl (fun c => ?_) (fun c => ?_)
  · have h := zif_t c h
    refine go_bipush K_L_untoken rfl zk_bipush_m4 ?_
    cases h
    exact go_ireturn K_L_untoken rfl rfl
  · have h := zif_f c h
    refine go_aload_n K_L_untoken rfl rfl ?_
    refine go_getI K_L_untoken rfl zf_11_41 ?_
    refine go_aload_n K_L_untoken rfl rfl ?_
    refine go_getR K_L_untoken rfl zf_11_9 ?_
    refine go_alen K_L_untoken rfl za_1 zlen_150 ?_
    refine go_icmp_le K_L_untoken rfl (fun c => ?_) (fun c => ?_)
    · have h := zif_t c h
      refine go_aload_n K_L_untoken rfl rfl ?_
      refine go_dup K_L_untoken rfl ?_
      refine go_getI K_L_untoken rfl zf_11_41 ?_
      refine go_iconst K_L_untoken rfl zk_iconst_1 ?_
      refine go_isub K_L_untoken rfl ?_
      obtain ⟨M1, e2, h⟩ := zset_ex h
      refine go_putI' e2 K_L_untoken rfl zf_11_41 ?_
      refine go_aload_n K_L_untoken rfl rfl ?_
      obtain ⟨M3, h4, h⟩ := zbv_ex h
      refine go_vv (Y' := Y_L_forgetText) (av := []) (rest := []) K_L_untoken rfl zl_11_62 zm_L_forgetText rfl (G_L_forgetText h4) (Nat.le_of_ble_eq_true rfl) (Nat.le_of_ble_eq_true rfl) rfl ?_
      refine go_aload_n K_L_untoken rfl rfl ?_
      refine go_getR K_L_untoken rfl zf_11_9 ?_
      refine go_aload_n K_L_untoken rfl rfl ?_
      refine go_getI K_L_untoken rfl zf_11_41 ?_
      obtain ⟨i5, h⟩ := zix_ex h
      refine go_iald K_L_untoken rfl za_1 i5 ?_
      cases h
      exact go_ireturn K_L_untoken rfl rfl
    · have h := zif_f c h
      refine go_bipush K_L_untoken rfl zk_bipush_m4 ?_
      cases h
      exact go_ireturn K_L_untoken rfl rfl
def F_L_wrongAt (N : Nat) (M : zMem) : Option (Int32 × zMem) :=
  zbv (F_Pars_read N M (M 0 5)) fun M1 => some (M1 14 1, M1)
set_option maxRecDepth 100000 in
theorem G_L_wrongAt {N : Nat} {M : zMem} {y : Int32 × zMem} (h : F_L_wrongAt N M  = some y) : zGo Y_L_wrongAt 6 0 (zal Y_L_wrongAt [.inr 0]) [] M (some y.1) y.2 := by
  unfold F_L_wrongAt at h
  show zGo Y_L_wrongAt 6 0 [some (.inr 0)] [] M _ _
  refine go_aload_n K_L_wrongAt rfl rfl ?_
  refine go_getR K_L_wrongAt rfl zf_11_30 ?_
  refine go_aload_n K_L_wrongAt rfl rfl ?_
  refine go_getR K_L_wrongAt rfl zf_11_9 ?_
  refine go_aload_n K_L_wrongAt rfl rfl ?_
  refine go_getI K_L_wrongAt rfl zf_11_41 ?_
  obtain ⟨M1, h2, h⟩ := zbv_ex h
  refine go_vv (Y' := Y_Pars_read) (av := [.inr 1, .inl (M 0 5)]) (rest := []) K_L_wrongAt rfl zl_11_65 zm_Pars_read rfl (G_Pars_read h2) (Nat.le_of_ble_eq_true rfl) (Nat.le_of_ble_eq_true rfl) rfl ?_
  refine go_aload_n K_L_wrongAt rfl rfl ?_
  refine go_getR K_L_wrongAt rfl zf_11_30 ?_
  refine go_getI K_L_wrongAt rfl zf_11_69 ?_
  cases h
  exact go_ireturn K_L_wrongAt rfl rfl
