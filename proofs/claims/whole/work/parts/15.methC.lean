def F_L_plainSize (N : Nat) (M : zMem) : Option (Int32 × zMem) :=
  zbv (F_Pars_read N M (M 0 5)) fun M1 => zbi (F_Pars_isProgram M1 ) fun r5 M3 => if r5 = 0 then (some ((-5 : Int32), M3)) else (some (M3 19 1, M3))
set_option maxRecDepth 100000 in
theorem G_L_plainSize {N : Nat} {M : zMem} {y : Int32 × zMem} (h : F_L_plainSize N M  = some y) : zGo Y_L_plainSize 6 0 (zal Y_L_plainSize [.inr 0]) [] M (some y.1) y.2 := by
  unfold F_L_plainSize at h
  show zGo Y_L_plainSize 6 0 [some (.inr 0)] [] M _ _
  refine go_aload_n K_L_plainSize rfl rfl ?_
  refine go_getR K_L_plainSize rfl zf_11_30 ?_
  refine go_aload_n K_L_plainSize rfl rfl ?_
  refine go_getR K_L_plainSize rfl zf_11_9 ?_
  refine go_aload_n K_L_plainSize rfl rfl ?_
  refine go_getI K_L_plainSize rfl zf_11_41 ?_
  obtain ⟨M1, h2, h⟩ := zbv_ex h
  refine go_vv (Y' := Y_Pars_read) (av := [.inr 1, .inl (M 0 5)]) (rest := []) K_L_plainSize rfl zl_11_65 zm_Pars_read rfl (G_Pars_read h2) (Nat.le_of_ble_eq_true rfl) (Nat.le_of_ble_eq_true rfl) rfl ?_
  refine go_aload_n K_L_plainSize rfl rfl ?_
  refine go_getR K_L_plainSize rfl zf_11_30 ?_
  obtain ⟨r5, M3, h4, h⟩ := zbi_ex h
  refine go_vi (Y' := Y_Pars_isProgram) (av := []) (rest := []) K_L_plainSize rfl zl_11_72 zm_Pars_isProgram rfl (G_Pars_isProgram h4) (Nat.le_of_ble_eq_true rfl) (Nat.le_of_ble_eq_true rfl) rfl ?_
  refine go_if_eq K_L_plainSize rfl (fun c => ?_) (fun c => ?_)
  · have h := zif_t c h
    refine go_bipush K_L_plainSize rfl zk_bipush_m5 ?_
    cases h
    exact go_ireturn K_L_plainSize rfl rfl
  · have h := zif_f c h
    refine go_aload_n K_L_plainSize rfl rfl ?_
    refine go_getR K_L_plainSize rfl zf_11_30 ?_
    refine go_getR K_L_plainSize rfl zf_11_107 ?_
    refine go_getI K_L_plainSize rfl zf_11_111 ?_
    refine go_goto K_L_plainSize rfl ?_
    cases h
    exact go_ireturn K_L_plainSize rfl rfl
def F_L_prepare (M : zMem) (l1 l2 : Int32) : Option (Int32 × zMem) :=
  if l1 < (4 : Int32) then (some ((-1 : Int32), M)) else (if (8 : Int32) < l1 then (some ((-1 : Int32), M)) else (if l2 < 0 then (some ((-1 : Int32), M)) else (if l2 ≤ (2 : Int32) then (some ((0 : Int32), M)) else (some ((-1 : Int32), M)))))
set_option maxRecDepth 100000 in
theorem G_L_prepare {M : zMem} {l1 l2 : Int32} {y : Int32 × zMem} (h : F_L_prepare M l1 l2 = some y) : zGo Y_L_prepare 0 0 (zal Y_L_prepare [.inr 0, .inl l1, .inl l2]) [] M (some y.1) y.2 := by
  unfold F_L_prepare at h
  show zGo Y_L_prepare 0 0 [some (.inr 0), some (.inl l1), some (.inl l2)] [] M _ _
  refine go_iload_n K_L_prepare rfl rfl ?_
  refine go_iconst K_L_prepare rfl zk_iconst_4 ?_
  refine go_icmp_lt K_L_prepare rfl (fun c => ?_) (fun c => ?_)
  · have h := zif_t c h
    refine go_iconst K_L_prepare rfl zk_iconst_m1 ?_
    cases h
    exact go_ireturn K_L_prepare rfl rfl
  · have h := zif_f c h
    refine go_iload_n K_L_prepare rfl rfl ?_
    refine go_bipush K_L_prepare rfl zk_bipush_8 ?_
    refine go_icmp_gt K_L_prepare rfl (fun c => ?_) (fun c => ?_)
    · have h := zif_t c h
      refine go_iconst K_L_prepare rfl zk_iconst_m1 ?_
      cases h
      exact go_ireturn K_L_prepare rfl rfl
    · have h := zif_f c h
      refine go_iload_n K_L_prepare rfl rfl ?_
      refine go_if_lt K_L_prepare rfl (fun c => ?_) (fun c => ?_)
      · have h := zif_t c h
        refine go_iconst K_L_prepare rfl zk_iconst_m1 ?_
        cases h
        exact go_ireturn K_L_prepare rfl rfl
      · have h := zif_f c h
        refine go_iload_n K_L_prepare rfl rfl ?_
        refine go_iconst K_L_prepare rfl zk_iconst_2 ?_
        refine go_icmp_le K_L_prepare rfl (fun c => ?_) (fun c => ?_)
        · have h := zif_t c h
          refine go_iconst K_L_prepare rfl zk_iconst_0 ?_
          cases h
          exact go_ireturn K_L_prepare rfl rfl
        · have h := zif_f c h
          refine go_iconst K_L_prepare rfl zk_iconst_m1 ?_
          cases h
          exact go_ireturn K_L_prepare rfl rfl
def F_L_run (N : Nat) (M : zMem) : Option (Int32 × zMem) :=
  zbi (F_L_execute N M ) fun r3 M1 => if r3 = 0 then (some ((-5 : Int32), M1)) else (some (M1 27 6, M1))
set_option maxRecDepth 100000 in
theorem G_L_run {N : Nat} {M : zMem} {y : Int32 × zMem} (h : F_L_run N M  = some y) : zGo Y_L_run 7 0 (zal Y_L_run [.inr 0]) [] M (some y.1) y.2 := by
  unfold F_L_run at h
  show zGo Y_L_run 7 0 [some (.inr 0)] [] M _ _
  refine go_aload_n K_L_run rfl rfl ?_
  obtain ⟨r3, M1, h2, h⟩ := zbi_ex h
  refine go_vi (Y' := Y_L_execute) (av := []) (rest := []) K_L_run rfl zl_11_83 zm_L_execute rfl (G_L_execute h2) (Nat.le_of_ble_eq_true rfl) (Nat.le_of_ble_eq_true rfl) rfl ?_
  refine go_if_eq K_L_run rfl (fun c => ?_) (fun c => ?_)
  · have h := zif_t c h
    refine go_bipush K_L_run rfl zk_bipush_m5 ?_
    cases h
    exact go_ireturn K_L_run rfl rfl
  · have h := zif_f c h
    refine go_aload_n K_L_run rfl rfl ?_
    refine go_getR K_L_run rfl zf_11_37 ?_
    refine go_getI K_L_run rfl zf_11_86 ?_
    refine go_goto K_L_run rfl ?_
    cases h
    exact go_ireturn K_L_run rfl rfl
def F_L_set (M : zMem) (l1 l2 : Int32) : Option (Int32 × zMem) :=
  if l1 < 0 then (some ((-1 : Int32), M)) else (if l1 < (8 : Int32) then (zix l1 8 (zset M 2 l1.toNatClampNeg l2 fun M2 => zset M2 27 7 ((1 : Int32)) fun M4 => some ((0 : Int32), M4))) else (some ((-1 : Int32), M)))
set_option maxRecDepth 100000 in
theorem G_L_set {M : zMem} {l1 l2 : Int32} {y : Int32 × zMem} (h : F_L_set M l1 l2 = some y) : zGo Y_L_set 0 0 (zal Y_L_set [.inr 0, .inl l1, .inl l2]) [] M (some y.1) y.2 := by
  unfold F_L_set at h
  show zGo Y_L_set 0 0 [some (.inr 0), some (.inl l1), some (.inl l2)] [] M _ _
  refine go_iload_n K_L_set rfl rfl ?_
  refine go_if_lt K_L_set rfl (fun c => ?_) (fun c => ?_)
  · have h := zif_t c h
    refine go_iconst K_L_set rfl zk_iconst_m1 ?_
    cases h
    exact go_ireturn K_L_set rfl rfl
  · have h := zif_f c h
    refine go_iload_n K_L_set rfl rfl ?_
    refine go_aload_n K_L_set rfl rfl ?_
    refine go_getR K_L_set rfl zf_11_13 ?_
    refine go_alen K_L_set rfl za_2 zlen_8 ?_
    refine go_icmp_lt K_L_set rfl (fun c => ?_) (fun c => ?_)
    · have h := zif_t c h
      refine go_aload_n K_L_set rfl rfl ?_
      refine go_getR K_L_set rfl zf_11_13 ?_
      refine go_iload_n K_L_set rfl rfl ?_
      refine go_iload_n K_L_set rfl rfl ?_
      obtain ⟨i1, h⟩ := zix_ex h
      obtain ⟨M2, e3, h⟩ := zset_ex h
      refine go_iast' e3 K_L_set rfl za_2 i1 ?_
      refine go_aload_n K_L_set rfl rfl ?_
      refine go_getR K_L_set rfl zf_11_37 ?_
      refine go_iconst K_L_set rfl zk_iconst_1 ?_
      obtain ⟨M4, e5, h⟩ := zset_ex h
      refine go_putZ' e5 K_L_set rfl zf_11_79 (Or.inr rfl) ?_
      refine go_iconst K_L_set rfl zk_iconst_0 ?_
      cases h
      exact go_ireturn K_L_set rfl rfl
    · have h := zif_f c h
      refine go_iconst K_L_set rfl zk_iconst_m1 ?_
      cases h
      exact go_ireturn K_L_set rfl rfl
def F_L_token (M : zMem) (l1 : Int32) : Option (Int32 × zMem) :=
  zbi (F_Tok_exists M l1) fun r3 M1 => if r3 = 0 then (some ((-1 : Int32), M1)) else (if (M1 0 5) < (150 : Int32) then (zbv (F_L_append M1 l1) fun M4 => some (M4 0 5, M4)) else (some ((-2 : Int32), M1)))
set_option maxRecDepth 100000 in
theorem G_L_token {M : zMem} {l1 : Int32} {y : Int32 × zMem} (h : F_L_token M l1 = some y) : zGo Y_L_token 2 0 (zal Y_L_token [.inr 0, .inl l1]) [] M (some y.1) y.2 := by
  unfold F_L_token at h
  show zGo Y_L_token 2 0 [some (.inr 0), some (.inl l1)] [] M _ _
  refine go_iload_n K_L_token rfl rfl ?_
  obtain ⟨r3, M1, h2, h⟩ := zbi_ex h
  refine go_si (Y' := Y_Tok_exists) (av := [.inl l1]) (rest := []) K_L_token rfl zl_11_45 zm_Tok_exists rfl (G_Tok_exists h2) (Nat.le_of_ble_eq_true rfl) (Nat.le_of_ble_eq_true rfl) rfl ?_
  refine go_if_ne K_L_token rfl (fun c => ?_) (fun c => ?_)
  · have h := zif_f c h
    refine go_aload_n K_L_token rfl rfl ?_
    refine go_getI K_L_token rfl zf_11_41 ?_
    refine go_sipush K_L_token rfl zk_sipush_150 ?_
    refine go_icmp_lt K_L_token rfl (fun c => ?_) (fun c => ?_)
    · have h := zif_t c h
      refine go_aload_n K_L_token rfl rfl ?_
      refine go_iload_n K_L_token rfl rfl ?_
      obtain ⟨M4, h5, h⟩ := zbv_ex h
      refine go_vv (Y' := Y_L_append) (av := [.inl l1]) (rest := []) K_L_token rfl zl_11_51 zm_L_append rfl (G_L_append h5) (Nat.le_of_ble_eq_true rfl) (Nat.le_of_ble_eq_true rfl) rfl ?_
      refine go_aload_n K_L_token rfl rfl ?_
      refine go_getI K_L_token rfl zf_11_41 ?_
      cases h
      exact go_ireturn K_L_token rfl rfl
    · have h := zif_f c h
      refine go_bipush K_L_token rfl zk_bipush_m2 ?_
      cases h
      exact go_ireturn K_L_token rfl rfl
  · have h := zif_t c h
    refine go_iconst K_L_token rfl zk_iconst_m1 ?_
    cases h
    exact go_ireturn K_L_token rfl rfl
def F_L_tokens (M : zMem) : Option (Int32 × zMem) :=
  some (M 0 5, M)
set_option maxRecDepth 100000 in
theorem G_L_tokens {M : zMem} {y : Int32 × zMem} (h : F_L_tokens M  = some y) : zGo Y_L_tokens 0 0 (zal Y_L_tokens [.inr 0]) [] M (some y.1) y.2 := by
  unfold F_L_tokens at h
  show zGo Y_L_tokens 0 0 [some (.inr 0)] [] M _ _
  refine go_aload_n K_L_tokens rfl rfl ?_
  refine go_getI K_L_tokens rfl zf_11_41 ?_
  cases h
  exact go_ireturn K_L_tokens rfl rfl
def F_L_turns (N : Nat) (M : zMem) : Option (Int32 × zMem) :=
  zbi (F_L_execute N M ) fun r3 M1 => if r3 = 0 then (some ((-5 : Int32), M1)) else (some (M1 27 4, M1))
set_option maxRecDepth 100000 in
theorem G_L_turns {N : Nat} {M : zMem} {y : Int32 × zMem} (h : F_L_turns N M  = some y) : zGo Y_L_turns 7 0 (zal Y_L_turns [.inr 0]) [] M (some y.1) y.2 := by
  unfold F_L_turns at h
  show zGo Y_L_turns 7 0 [some (.inr 0)] [] M _ _
  refine go_aload_n K_L_turns rfl rfl ?_
  obtain ⟨r3, M1, h2, h⟩ := zbi_ex h
  refine go_vi (Y' := Y_L_execute) (av := []) (rest := []) K_L_turns rfl zl_11_83 zm_L_execute rfl (G_L_execute h2) (Nat.le_of_ble_eq_true rfl) (Nat.le_of_ble_eq_true rfl) rfl ?_
  refine go_if_eq K_L_turns rfl (fun c => ?_) (fun c => ?_)
  · have h := zif_t c h
    refine go_bipush K_L_turns rfl zk_bipush_m5 ?_
    cases h
    exact go_ireturn K_L_turns rfl rfl
  · have h := zif_f c h
    refine go_aload_n K_L_turns rfl rfl ?_
    refine go_getR K_L_turns rfl zf_11_37 ?_
    refine go_getI K_L_turns rfl zf_11_101 ?_
    refine go_goto K_L_turns rfl ?_
    cases h
    exact go_ireturn K_L_turns rfl rfl
def F_L_untoken (M : zMem) : Option (Int32 × zMem) :=
  if (M 0 5) ≤ 0 then (some ((-4 : Int32), M)) else (if (M 0 5) ≤ (150 : Int32) then (zset M 0 5 ((M 0 5) - (1 : Int32)) fun M1 => zbv (F_L_forgetText M1 ) fun M3 => zix (M3 0 5) 150 (some (M3 1 (M3 0 5).toNatClampNeg, M3))) else (some ((-4 : Int32), M)))
set_option maxRecDepth 100000 in
theorem G_L_untoken {M : zMem} {y : Int32 × zMem} (h : F_L_untoken M  = some y) : zGo Y_L_untoken 1 0 (zal Y_L_untoken [.inr 0]) [] M (some y.1) y.2 := by
  unfold F_L_untoken at h
  show zGo Y_L_untoken 1 0 [some (.inr 0)] [] M _ _
  refine go_aload_n K_L_untoken rfl rfl ?_
  refine go_getI K_L_untoken rfl zf_11_41 ?_
  refine go_if_le K_L_untoken rfl (fun c => ?_) (fun c => ?_)
  · have h := zif_t c h
    refine go_bipush K_L_untoken rfl zk_bipush_m4 ?_
    cases h
    exact go_ireturn K_L_untoken rfl rfl
  · have h := zif_f c h
    refine go_aload_n K_L_untoken rfl rfl ?_
    refine go_getI K_L_untoken rfl zf_11_41 ?_
    refine go_aload_n K_L_untoken rfl rfl ?_
    refine go_getR K_L_untoken rfl zf_11_9 ?_
    refine go_alen K_L_untoken rfl za_1 zlen_150 ?_
    refine go_icmp_le K_L_untoken rfl (fun c => ?_) (fun c => ?_)
    · have h := zif_t c h
      refine go_aload_n K_L_untoken rfl rfl ?_
      refine go_dup K_L_untoken rfl ?_
      refine go_getI K_L_untoken rfl zf_11_41 ?_
      refine go_iconst K_L_untoken rfl zk_iconst_1 ?_
      refine go_isub K_L_untoken rfl ?_
      obtain ⟨M1, e2, h⟩ := zset_ex h
      refine go_putI' e2 K_L_untoken rfl zf_11_41 ?_
      refine go_aload_n K_L_untoken rfl rfl ?_
      obtain ⟨M3, h4, h⟩ := zbv_ex h
      refine go_vv (Y' := Y_L_forgetText) (av := []) (rest := []) K_L_untoken rfl zl_11_62 zm_L_forgetText rfl (G_L_forgetText h4) (Nat.le_of_ble_eq_true rfl) (Nat.le_of_ble_eq_true rfl) rfl ?_
      refine go_aload_n K_L_untoken rfl rfl ?_
      refine go_getR K_L_untoken rfl zf_11_9 ?_
      refine go_aload_n K_L_untoken rfl rfl ?_
      refine go_getI K_L_untoken rfl zf_11_41 ?_
      obtain ⟨i5, h⟩ := zix_ex h
      refine go_iald K_L_untoken rfl za_1 i5 ?_
      cases h
      exact go_ireturn K_L_untoken rfl rfl
    · have h := zif_f c h
      refine go_bipush K_L_untoken rfl zk_bipush_m4 ?_
      cases h
      exact go_ireturn K_L_untoken rfl rfl
def F_L_wrongAt (N : Nat) (M : zMem) : Option (Int32 × zMem) :=
  zbv (F_Pars_read N M (M 0 5)) fun M1 => some (M1 14 1, M1)
set_option maxRecDepth 100000 in
theorem G_L_wrongAt {N : Nat} {M : zMem} {y : Int32 × zMem} (h : F_L_wrongAt N M  = some y) : zGo Y_L_wrongAt 6 0 (zal Y_L_wrongAt [.inr 0]) [] M (some y.1) y.2 := by
  unfold F_L_wrongAt at h
  show zGo Y_L_wrongAt 6 0 [some (.inr 0)] [] M _ _
  refine go_aload_n K_L_wrongAt rfl rfl ?_
  refine go_getR K_L_wrongAt rfl zf_11_30 ?_
  refine go_aload_n K_L_wrongAt rfl rfl ?_
  refine go_getR K_L_wrongAt rfl zf_11_9 ?_
  refine go_aload_n K_L_wrongAt rfl rfl ?_
  refine go_getI K_L_wrongAt rfl zf_11_41 ?_
  obtain ⟨M1, h2, h⟩ := zbv_ex h
  refine go_vv (Y' := Y_Pars_read) (av := [.inr 1, .inl (M 0 5)]) (rest := []) K_L_wrongAt rfl zl_11_65 zm_Pars_read rfl (G_Pars_read h2) (Nat.le_of_ble_eq_true rfl) (Nat.le_of_ble_eq_true rfl) rfl ?_
  refine go_aload_n K_L_wrongAt rfl rfl ?_
  refine go_getR K_L_wrongAt rfl zf_11_30 ?_
  refine go_getI K_L_wrongAt rfl zf_11_69 ?_
  cases h
  exact go_ireturn K_L_wrongAt rfl rfl
