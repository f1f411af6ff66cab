def F_R_run (N : Nat) (M : zMem) : Option (Int32 × zMem) :=
  zbi (F_R_work N M ) fun r3 M1 => if r3 = 0 then (some ((-5 : Int32), M1)) else (some (M1 34 45, M1))
set_option maxRecDepth 100000 in
theorem G_R_run {N : Nat} {M : zMem} {y : Int32 × zMem} (h : F_R_run N M  = some y) : zGo Y_R_run 7 0 (zal Y_R_run [.inr 34]) [] M (some y.1) y.2 := by
  unfold F_R_run at h
  show zGo Y_R_run 7 0 [some (.inr 34)] [] M _ _
  refine go_aload_n K_R_run rfl rfl ?_
  obtain ⟨r3, M1, h2, h⟩ := zbi_ex h
  refine go_vi (Y' := Y_R_work) (av := []) (rest := []) K_R_run rfl zl_12_271 zm_R_work rfl (G_R_work h2) (Nat.le_of_ble_eq_true rfl) (Nat.le_of_ble_eq_true rfl) rfl ?_
  refine go_if_eq K_R_run rfl (fun c => ?_) (fun c => ?_)
  · have h := zif_t c h
    refine go_bipush K_R_run rfl zk_bipush_m5 ?_
    cases h
    exact go_ireturn K_R_run rfl rfl
  · have h := zif_f c h
    refine go_aload_n K_R_run rfl rfl ?_
    refine go_getI K_R_run rfl zf_12_216 ?_
    refine go_goto K_R_run rfl ?_
    cases h
    exact go_ireturn K_R_run rfl rfl
def F_R_set (M : zMem) (l1 l2 : Int32) : Option (Int32 × zMem) :=
  if l1 < 0 then (some ((-1 : Int32), M)) else (if l1 ≤ (7 : Int32) then (zix l1 8 (zset M 36 l1.toNatClampNeg l2 fun M2 => some ((0 : Int32), M2))) else (some ((-1 : Int32), M)))
set_option maxRecDepth 100000 in
theorem G_R_set {M : zMem} {l1 l2 : Int32} {y : Int32 × zMem} (h : F_R_set M l1 l2 = some y) : zGo Y_R_set 0 0 (zal Y_R_set [.inr 34, .inl l1, .inl l2]) [] M (some y.1) y.2 := by
  unfold F_R_set at h
  show zGo Y_R_set 0 0 [some (.inr 34), some (.inl l1), some (.inl l2)] [] M _ _
  refine go_iload_n K_R_set rfl rfl ?_
  refine go_if_lt K_R_set rfl (fun c => ?_) (fun c => ?_)
  · have h := zif_t c h
    refine go_iconst K_R_set rfl zk_iconst_m1 ?_
    cases h
    exact go_ireturn K_R_set rfl rfl
  · have h := zif_f c h
    refine go_iload_n K_R_set rfl rfl ?_
    refine go_bipush K_R_set rfl zk_bipush_7 ?_
    refine go_icmp_le K_R_set rfl (fun c => ?_) (fun c => ?_)
    · have h := zif_t c h
      refine go_aload_n K_R_set rfl rfl ?_
      refine go_getR K_R_set rfl zf_12_13 ?_
      refine go_iload_n K_R_set rfl rfl ?_
      refine go_iload_n K_R_set rfl rfl ?_
      obtain ⟨i1, h⟩ := zix_ex h
      obtain ⟨M2, e3, h⟩ := zset_ex h
      refine go_iast' e3 K_R_set rfl za_36 i1 ?_
      refine go_iconst K_R_set rfl zk_iconst_0 ?_
      cases h
      exact go_ireturn K_R_set rfl rfl
    · have h := zif_f c h
      refine go_iconst K_R_set rfl zk_iconst_m1 ?_
      cases h
      exact go_ireturn K_R_set rfl rfl
def F_R_token (M : zMem) (l1 : Int32) : Option (Int32 × zMem) :=
  zbi (F_R_isToken M l1) fun r3 M1 => if r3 = 0 then (some ((-1 : Int32), M1)) else (if (M1 34 1) = (150 : Int32) then (some ((-2 : Int32), M1)) else (zix (M1 34 1) 150 (zset M1 35 (M1 34 1).toNatClampNeg l1 fun M5 => zset M5 34 1 ((M5 34 1) + (1 : Int32)) fun M7 => some (M7 34 1, M7))))
set_option maxRecDepth 100000 in
theorem G_R_token {M : zMem} {l1 : Int32} {y : Int32 × zMem} (h : F_R_token M l1 = some y) : zGo Y_R_token 1 0 (zal Y_R_token [.inr 34, .inl l1]) [] M (some y.1) y.2 := by
  unfold F_R_token at h
  show zGo Y_R_token 1 0 [some (.inr 34), some (.inl l1)] [] M _ _
  refine go_aload_n K_R_token rfl rfl ?_
  refine go_iload_n K_R_token rfl rfl ?_
  obtain ⟨r3, M1, h2, h⟩ := zbi_ex h
  refine go_vi (Y' := Y_R_isToken) (av := [.inl l1]) (rest := []) K_R_token rfl zl_12_88 zm_R_isToken rfl (G_R_isToken h2) (Nat.le_of_ble_eq_true rfl) (Nat.le_of_ble_eq_true rfl) rfl ?_
  refine go_if_ne K_R_token rfl (fun c => ?_) (fun c => ?_)
  · have h := zif_f c h
    refine go_aload_n K_R_token rfl rfl ?_
    refine go_getI K_R_token rfl zf_12_92 ?_
    refine go_sipush K_R_token rfl zk_sipush_150 ?_
    refine go_icmp_ne K_R_token rfl (fun c => ?_) (fun c => ?_)
    · have h := zif_f c h
      refine go_aload_n K_R_token rfl rfl ?_
      refine go_getR K_R_token rfl zf_12_7 ?_
      refine go_aload_n K_R_token rfl rfl ?_
      refine go_getI K_R_token rfl zf_12_92 ?_
      refine go_iload_n K_R_token rfl rfl ?_
      obtain ⟨i4, h⟩ := zix_ex h
      obtain ⟨M5, e6, h⟩ := zset_ex h
      refine go_iast' e6 K_R_token rfl za_35 i4 ?_
      refine go_aload_n K_R_token rfl rfl ?_
      refine go_dup K_R_token rfl ?_
      refine go_getI K_R_token rfl zf_12_92 ?_
      refine go_iconst K_R_token rfl zk_iconst_1 ?_
      refine go_iadd K_R_token rfl ?_
      obtain ⟨M7, e8, h⟩ := zset_ex h
      refine go_putI' e8 K_R_token rfl zf_12_92 ?_
      refine go_aload_n K_R_token rfl rfl ?_
      refine go_getI K_R_token rfl zf_12_92 ?_
      cases h
      exact go_ireturn K_R_token rfl rfl
    · have h := zif_t c h
      refine go_bipush K_R_token rfl zk_bipush_m2 ?_
      cases h
      exact go_ireturn K_R_token rfl rfl
  · have h := zif_t c h
    refine go_iconst K_R_token rfl zk_iconst_m1 ?_
    cases h
    exact go_ireturn K_R_token rfl rfl
def F_R_tokens (M : zMem) : Option (Int32 × zMem) :=
  some (M 34 1, M)
set_option maxRecDepth 100000 in
theorem G_R_tokens {M : zMem} {y : Int32 × zMem} (h : F_R_tokens M  = some y) : zGo Y_R_tokens 0 0 (zal Y_R_tokens [.inr 34]) [] M (some y.1) y.2 := by
  unfold F_R_tokens at h
  show zGo Y_R_tokens 0 0 [some (.inr 34)] [] M _ _
  refine go_aload_n K_R_tokens rfl rfl ?_
  refine go_getI K_R_tokens rfl zf_12_92 ?_
  cases h
  exact go_ireturn K_R_tokens rfl rfl
def F_R_turns (N : Nat) (M : zMem) : Option (Int32 × zMem) :=
  zbi (F_R_work N M ) fun r3 M1 => if r3 = 0 then (some ((-5 : Int32), M1)) else (some (M1 34 40, M1))
set_option maxRecDepth 100000 in
theorem G_R_turns {N : Nat} {M : zMem} {y : Int32 × zMem} (h : F_R_turns N M  = some y) : zGo Y_R_turns 7 0 (zal Y_R_turns [.inr 34]) [] M (some y.1) y.2 := by
  unfold F_R_turns at h
  show zGo Y_R_turns 7 0 [some (.inr 34)] [] M _ _
  refine go_aload_n K_R_turns rfl rfl ?_
  obtain ⟨r3, M1, h2, h⟩ := zbi_ex h
  refine go_vi (Y' := Y_R_work) (av := []) (rest := []) K_R_turns rfl zl_12_271 zm_R_work rfl (G_R_work h2) (Nat.le_of_ble_eq_true rfl) (Nat.le_of_ble_eq_true rfl) rfl ?_
  refine go_if_eq K_R_turns rfl (fun c => ?_) (fun c => ?_)
  · have h := zif_t c h
    refine go_bipush K_R_turns rfl zk_bipush_m5 ?_
    cases h
    exact go_ireturn K_R_turns rfl rfl
  · have h := zif_f c h
    refine go_aload_n K_R_turns rfl rfl ?_
    refine go_getI K_R_turns rfl zf_12_213 ?_
    refine go_goto K_R_turns rfl ?_
    cases h
    exact go_ireturn K_R_turns rfl rfl
def F_R_untoken (M : zMem) : Option (Int32 × zMem) :=
  if (M 34 1) = 0 then (some ((-4 : Int32), M)) else (zset M 34 1 ((M 34 1) - (1 : Int32)) fun M1 => zix (M1 34 1) 150 (some (M1 35 (M1 34 1).toNatClampNeg, M1)))
set_option maxRecDepth 100000 in
theorem G_R_untoken {M : zMem} {y : Int32 × zMem} (h : F_R_untoken M  = some y) : zGo Y_R_untoken 0 0 (zal Y_R_untoken [.inr 34]) [] M (some y.1) y.2 := by
  unfold F_R_untoken at h
  show zGo Y_R_untoken 0 0 [some (.inr 34)] [] M _ _
  refine go_aload_n K_R_untoken rfl rfl ?_
  refine go_getI K_R_untoken rfl zf_12_92 ?_
  refine go_if_ne K_R_untoken rfl (fun c => ?_) (fun c => ?_)
  · have h := zif_f c h
    refine go_aload_n K_R_untoken rfl rfl ?_
    refine go_dup K_R_untoken rfl ?_
    refine go_getI K_R_untoken rfl zf_12_92 ?_
    refine go_iconst K_R_untoken rfl zk_iconst_1 ?_
    refine go_isub K_R_untoken rfl ?_
    obtain ⟨M1, e2, h⟩ := zset_ex h
    refine go_putI' e2 K_R_untoken rfl zf_12_92 ?_
    refine go_aload_n K_R_untoken rfl rfl ?_
    refine go_getR K_R_untoken rfl zf_12_7 ?_
    refine go_aload_n K_R_untoken rfl rfl ?_
    refine go_getI K_R_untoken rfl zf_12_92 ?_
    obtain ⟨i3, h⟩ := zix_ex h
    refine go_iald K_R_untoken rfl za_35 i3 ?_
    cases h
    exact go_ireturn K_R_untoken rfl rfl
  · have h := zif_t c h
    refine go_bipush K_R_untoken rfl zk_bipush_m4 ?_
    cases h
    exact go_ireturn K_R_untoken rfl rfl
def F_R_wrongAt (N : Nat) (M : zMem) : Option (Int32 × zMem) :=
  zbi (F_R_readText N M ) fun r3 M1 => some (r3, M1)
set_option maxRecDepth 100000 in
theorem G_R_wrongAt {N : Nat} {M : zMem} {y : Int32 × zMem} (h : F_R_wrongAt N M  = some y) : zGo Y_R_wrongAt 5 0 (zal Y_R_wrongAt [.inr 34]) [] M (some y.1) y.2 := by
  unfold F_R_wrongAt at h
  show zGo Y_R_wrongAt 5 0 [some (.inr 34)] [] M _ _
  refine go_aload_n K_R_wrongAt rfl rfl ?_
  obtain ⟨r3, M1, h2, h⟩ := zbi_ex h
  refine go_vi (Y' := Y_R_readText) (av := []) (rest := []) K_R_wrongAt rfl zl_12_197 zm_R_readText rfl (G_R_readText h2) (Nat.le_of_ble_eq_true rfl) (Nat.le_of_ble_eq_true rfl) rfl ?_
  cases h
  exact go_ireturn K_R_wrongAt rfl rfl
