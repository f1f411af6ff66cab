def F_Code_emit (M : zMem) (l1 l2 : Int32) : Option (Int32 × zMem) :=
  if (M 4 2) < 0 then (some ((-1 : Int32), M)) else (if (300 : Int32) ≤ (M 4 2) then (some ((-1 : Int32), M)) else (if (M 4 2) < (300 : Int32) then (zix (M 4 2) 300 (zset M 5 (M 4 2).toNatClampNeg l1 fun M2 => zix (M2 4 2) 300 (zset M2 6 (M2 4 2).toNatClampNeg l2 fun M5 => zset M5 4 2 ((M5 4 2) + (1 : Int32)) fun M7 => some ((M7 4 2) - (1 : Int32), M7)))) else (some ((-1 : Int32), M))))
set_option maxRecDepth 100000 in
theorem G_Code_emit {M : zMem} {l1 l2 : Int32} {y : Int32 × zMem} (h : F_Code_emit M l1 l2 = some y) : zGo Y_Code_emit 0 0 (zal Y_Code_emit [.inr 4, .inl l1, .inl l2]) [] M (some y.1) y.2 := by
  unfold F_Code_emit at h
  show zGo Y_Code_emit 0 0 [some (.inr 4), some (.inl l1), some (.inl l2)] [] M _ _
  refine go_aload_n K_Code_emit rfl rfl ?_
  refine go_getI K_Code_emit rfl zf_0_18 ?_
  refine go_if_lt K_Code_emit rfl (fun c => ?_) (fun c => ?_)
  · have h := zif_t c h
    refine go_iconst K_Code_emit rfl zk_iconst_m1 ?_
    cases h
    exact go_ireturn K_Code_emit rfl rfl
  · have h := zif_f c h
    refine go_aload_n K_Code_emit rfl rfl ?_
    refine go_getI K_Code_emit rfl zf_0_18 ?_
    refine go_aload_n K_Code_emit rfl rfl ?_
    refine go_getR K_Code_emit rfl zf_0_9 ?_
    refine go_alen K_Code_emit rfl za_5 zlen_300 ?_
    refine go_icmp_ge K_Code_emit rfl (fun c => ?_) (fun c => ?_)
    · have h := zif_t c h
      refine go_iconst K_Code_emit rfl zk_iconst_m1 ?_
      cases h
      exact go_ireturn K_Code_emit rfl rfl
    · have h := zif_f c h
      refine go_aload_n K_Code_emit rfl rfl ?_
      refine go_getI K_Code_emit rfl zf_0_18 ?_
      refine go_aload_n K_Code_emit rfl rfl ?_
      refine go_getR K_Code_emit rfl zf_0_15 ?_
      refine go_alen K_Code_emit rfl za_6 zlen_300 ?_
      refine go_icmp_lt K_Code_emit rfl (fun c => ?_) (fun c => ?_)
      · have h := zif_t c h
        refine go_aload_n K_Code_emit rfl rfl ?_
        refine go_getR K_Code_emit rfl zf_0_9 ?_
        refine go_aload_n K_Code_emit rfl rfl ?_
        refine go_getI K_Code_emit rfl zf_0_18 ?_
        refine go_iload_n K_Code_emit rfl rfl ?_
        obtain ⟨i1, h⟩ := zix_ex h
        obtain ⟨M2, e3, h⟩ := zset_ex h
        refine go_iast' e3 K_Code_emit rfl za_5 i1 ?_
        refine go_aload_n K_Code_emit rfl rfl ?_
        refine go_getR K_Code_emit rfl zf_0_15 ?_
        refine go_aload_n K_Code_emit rfl rfl ?_
        refine go_getI K_Code_emit rfl zf_0_18 ?_
        refine go_iload_n K_Code_emit rfl rfl ?_
        obtain ⟨i4, h⟩ := zix_ex h
        obtain ⟨M5, e6, h⟩ := zset_ex h
        refine go_iast' e6 K_Code_emit rfl za_6 i4 ?_
        refine go_aload_n K_Code_emit rfl rfl ?_
        refine go_dup K_Code_emit rfl ?_
        refine go_getI K_Code_emit rfl zf_0_18 ?_
        refine go_iconst K_Code_emit rfl zk_iconst_1 ?_
        refine go_iadd K_Code_emit rfl ?_
        obtain ⟨M7, e8, h⟩ := zset_ex h
        refine go_putI' e8 K_Code_emit rfl zf_0_18 ?_
        refine go_aload_n K_Code_emit rfl rfl ?_
        refine go_getI K_Code_emit rfl zf_0_18 ?_
        refine go_iconst K_Code_emit rfl zk_iconst_1 ?_
        refine go_isub K_Code_emit rfl ?_
        cases h
        exact go_ireturn K_Code_emit rfl rfl
      · have h := zif_f c h
        refine go_iconst K_Code_emit rfl zk_iconst_m1 ?_
        cases h
        exact go_ireturn K_Code_emit rfl rfl
def F_Code_here (M : zMem) : Option (Int32 × zMem) :=
  some (M 4 2, M)
set_option maxRecDepth 100000 in
theorem G_Code_here {M : zMem} {y : Int32 × zMem} (h : F_Code_here M  = some y) : zGo Y_Code_here 0 0 (zal Y_Code_here [.inr 4]) [] M (some y.1) y.2 := by
  unfold F_Code_here at h
  show zGo Y_Code_here 0 0 [some (.inr 4)] [] M _ _
  refine go_aload_n K_Code_here rfl rfl ?_
  refine go_getI K_Code_here rfl zf_0_18 ?_
  cases h
  exact go_ireturn K_Code_here rfl rfl
def F_Code_leadChainHere_p4 (N : Nat) : Nat → zMem → Int32 → Int32 → Option (zMem)
  | 0, _, _, _ => none
  | n + 1, M, l2, l3 =>
    if (300 : Int32) ≤ l3 then (some M) else (if l2 < 0 then (some M) else (if (300 : Int32) ≤ l2 then (some M) else (zix l2 300 (zix l2 300 (zset M 6 l2.toNatClampNeg (M 4 2) fun M3 => F_Code_leadChainHere_p4 N n M3 (M 6 l2.toNatClampNeg) (l3 + (1 : Int32)))))))
set_option maxRecDepth 100000 in
theorem G_Code_leadChainHere_p4 {N : Nat} : ∀ (n : Nat) {M : zMem} {l2 l3 : Int32} {y : zMem}, F_Code_leadChainHere_p4 N n M l2 l3 = some y → zGo Y_Code_leadChainHere 0 4 [some (.inr 4), none, some (.inl l2), some (.inl l3), none] [] M none y := by
  intro n
  induction n with
  | zero =>
    intro M l2 l3 y h
    unfold F_Code_leadChainHere_p4 at h
    cases h
  | succ n ih =>
    intro M l2 l3 y h
    unfold F_Code_leadChainHere_p4 at h
    refine go_iload_n K_Code_leadChainHere rfl rfl ?_
    refine go_aload_n K_Code_leadChainHere rfl rfl ?_
    refine go_getR K_Code_leadChainHere rfl zf_0_15 ?_
    refine go_alen K_Code_leadChainHere rfl za_6 zlen_300 ?_
    refine go_icmp_ge K_Code_leadChainHere rfl (fun c => ?_) (fun c => ?_)
    · have h := zif_t c h
      cases h
      exact go_return K_Code_leadChainHere rfl rfl
    · have h := zif_f c h
      refine go_iload_n K_Code_leadChainHere rfl rfl ?_
      refine go_if_lt K_Code_leadChainHere rfl (fun c => ?_) (fun c => ?_)
      · have h := zif_t c h
        cases h
        exact go_return K_Code_leadChainHere rfl rfl
      · have h := zif_f c h
        refine go_iload_n K_Code_leadChainHere rfl rfl ?_
        refine go_aload_n K_Code_leadChainHere rfl rfl ?_
        refine go_getR K_Code_leadChainHere rfl zf_0_15 ?_
        refine go_alen K_Code_leadChainHere rfl za_6 zlen_300 ?_
        refine go_icmp_ge K_Code_leadChainHere rfl (fun c => ?_) (fun c => ?_)
        · have h := zif_t c h
          cases h
          exact go_return K_Code_leadChainHere rfl rfl
        · have h := zif_f c h
          refine go_aload_n K_Code_leadChainHere rfl rfl ?_
          refine go_getR K_Code_leadChainHere rfl zf_0_15 ?_
          refine go_iload_n K_Code_leadChainHere rfl rfl ?_
          obtain ⟨i1, h⟩ := zix_ex h
          refine go_iald K_Code_leadChainHere rfl za_6 i1 ?_
          refine go_istore K_Code_leadChainHere rfl (Nat.le_of_ble_eq_true rfl) ?_
          refine go_aload_n K_Code_leadChainHere rfl rfl ?_
          refine go_getR K_Code_leadChainHere rfl zf_0_15 ?_
          refine go_iload_n K_Code_leadChainHere rfl rfl ?_
          refine go_aload_n K_Code_leadChainHere rfl rfl ?_
          refine go_getI K_Code_leadChainHere rfl zf_0_18 ?_
          obtain ⟨i2, h⟩ := zix_ex h
          obtain ⟨M3, e4, h⟩ := zset_ex h
          refine go_iast' e4 K_Code_leadChainHere rfl za_6 i2 ?_
          refine go_iload K_Code_leadChainHere rfl rfl ?_
          refine go_istore_n K_Code_leadChainHere rfl (Nat.le_of_ble_eq_true rfl) ?_
          refine go_iinc (v := l3 + (1 : Int32)) K_Code_leadChainHere rfl rfl zinc_1 ?_
          refine go_goto K_Code_leadChainHere rfl ?_
          exact go_forget (ih h) (zs_s (zs_n (zs_s (zs_s (zs_n zs_e)))))
def F_Code_leadChainHere (N : Nat) (M : zMem) (l1 : Int32) : Option (zMem) :=
  F_Code_leadChainHere_p4 N N M l1 ((0 : Int32))
set_option maxRecDepth 100000 in
theorem G_Code_leadChainHere {N : Nat} {M : zMem} {l1 : Int32} {y : zMem} (h : F_Code_leadChainHere N M l1 = some y) : zGo Y_Code_leadChainHere 0 0 (zal Y_Code_leadChainHere [.inr 4, .inl l1]) [] M none y := by
  unfold F_Code_leadChainHere at h
  show zGo Y_Code_leadChainHere 0 0 [some (.inr 4), some (.inl l1), none, none, none] [] M _ _
  refine go_iload_n K_Code_leadChainHere rfl rfl ?_
  refine go_istore_n K_Code_leadChainHere rfl (Nat.le_of_ble_eq_true rfl) ?_
  refine go_iconst K_Code_leadChainHere rfl zk_iconst_0 ?_
  refine go_istore_n K_Code_leadChainHere rfl (Nat.le_of_ble_eq_true rfl) ?_
  exact go_forget (G_Code_leadChainHere_p4 _ h) (zs_s (zs_n (zs_s (zs_s (zs_n zs_e)))))
def F_Code_leadHere (M : zMem) (l1 : Int32) : Option (zMem) :=
  if l1 < 0 then (some M) else (if (M 4 2) ≤ l1 then (some M) else (if (300 : Int32) ≤ l1 then (some M) else (zix l1 300 (zset M 6 l1.toNatClampNeg (M 4 2) fun M2 => some M2))))
set_option maxRecDepth 100000 in
theorem G_Code_leadHere {M : zMem} {l1 : Int32} {y : zMem} (h : F_Code_leadHere M l1 = some y) : zGo Y_Code_leadHere 0 0 (zal Y_Code_leadHere [.inr 4, .inl l1]) [] M none y := by
  unfold F_Code_leadHere at h
  show zGo Y_Code_leadHere 0 0 [some (.inr 4), some (.inl l1)] [] M _ _
  refine go_iload_n K_Code_leadHere rfl rfl ?_
  refine go_if_lt K_Code_leadHere rfl (fun c => ?_) (fun c => ?_)
  · have h := zif_t c h
    cases h
    exact go_return K_Code_leadHere rfl rfl
  · have h := zif_f c h
    refine go_iload_n K_Code_leadHere rfl rfl ?_
    refine go_aload_n K_Code_leadHere rfl rfl ?_
    refine go_getI K_Code_leadHere rfl zf_0_18 ?_
    refine go_icmp_ge K_Code_leadHere rfl (fun c => ?_) (fun c => ?_)
    · have h := zif_t c h
      cases h
      exact go_return K_Code_leadHere rfl rfl
    · have h := zif_f c h
      refine go_iload_n K_Code_leadHere rfl rfl ?_
      refine go_aload_n K_Code_leadHere rfl rfl ?_
      refine go_getR K_Code_leadHere rfl zf_0_15 ?_
      refine go_alen K_Code_leadHere rfl za_6 zlen_300 ?_
      refine go_icmp_ge K_Code_leadHere rfl (fun c => ?_) (fun c => ?_)
      · have h := zif_t c h
        cases h
        exact go_return K_Code_leadHere rfl rfl
      · have h := zif_f c h
        refine go_aload_n K_Code_leadHere rfl rfl ?_
        refine go_getR K_Code_leadHere rfl zf_0_15 ?_
        refine go_iload_n K_Code_leadHere rfl rfl ?_
        refine go_aload_n K_Code_leadHere rfl rfl ?_
        refine go_getI K_Code_leadHere rfl zf_0_18 ?_
        obtain ⟨i1, h⟩ := zix_ex h
        obtain ⟨M2, e3, h⟩ := zset_ex h
        refine go_iast' e3 K_Code_leadHere rfl za_6 i1 ?_
        cases h
        exact go_return K_Code_leadHere rfl rfl
def F_Code_operand (M : zMem) (l1 : Int32) : Option (Int32 × zMem) :=
  if l1 < 0 then (some ((0 : Int32), M)) else (if (M 4 2) ≤ l1 then (some ((0 : Int32), M)) else (if (300 : Int32) ≤ l1 then (some ((0 : Int32), M)) else (zix l1 300 (some (M 6 l1.toNatClampNeg, M)))))
set_option maxRecDepth 100000 in
theorem G_Code_operand {M : zMem} {l1 : Int32} {y : Int32 × zMem} (h : F_Code_operand M l1 = some y) : zGo Y_Code_operand 0 0 (zal Y_Code_operand [.inr 4, .inl l1]) [] M (some y.1) y.2 := by
  unfold F_Code_operand at h
  show zGo Y_Code_operand 0 0 [some (.inr 4), some (.inl l1)] [] M _ _
  refine go_iload_n K_Code_operand rfl rfl ?_
  refine go_if_lt K_Code_operand rfl (fun c => ?_) (fun c => ?_)
  · have h := zif_t c h
    refine go_iconst K_Code_operand rfl zk_iconst_0 ?_
    cases h
    exact go_ireturn K_Code_operand rfl rfl
  · have h := zif_f c h
    refine go_iload_n K_Code_operand rfl rfl ?_
    refine go_aload_n K_Code_operand rfl rfl ?_
    refine go_getI K_Code_operand rfl zf_0_18 ?_
    refine go_icmp_ge K_Code_operand rfl (fun c => ?_) (fun c => ?_)
    · have h := zif_t c h
      refine go_iconst K_Code_operand rfl zk_iconst_0 ?_
      cases h
      exact go_ireturn K_Code_operand rfl rfl
    · have h := zif_f c h
      refine go_iload_n K_Code_operand rfl rfl ?_
      refine go_aload_n K_Code_operand rfl rfl ?_
      refine go_getR K_Code_operand rfl zf_0_15 ?_
      refine go_alen K_Code_operand rfl za_6 zlen_300 ?_
      refine go_icmp_ge K_Code_operand rfl (fun c => ?_) (fun c => ?_)
      · have h := zif_t c h
        refine go_iconst K_Code_operand rfl zk_iconst_0 ?_
        cases h
        exact go_ireturn K_Code_operand rfl rfl
      · have h := zif_f c h
        refine go_aload_n K_Code_operand rfl rfl ?_
        refine go_getR K_Code_operand rfl zf_0_15 ?_
        refine go_iload_n K_Code_operand rfl rfl ?_
        obtain ⟨i1, h⟩ := zix_ex h
        refine go_iald K_Code_operand rfl za_6 i1 ?_
        refine go_goto K_Code_operand rfl ?_
        cases h
        exact go_ireturn K_Code_operand rfl rfl
def F_Code_operation (M : zMem) (l1 : Int32) : Option (Int32 × zMem) :=
  if l1 < 0 then (some ((0 : Int32), M)) else (if (M 4 2) ≤ l1 then (some ((0 : Int32), M)) else (if (300 : Int32) ≤ l1 then (some ((0 : Int32), M)) else (zix l1 300 (some (M 5 l1.toNatClampNeg, M)))))
set_option maxRecDepth 100000 in
theorem G_Code_operation {M : zMem} {l1 : Int32} {y : Int32 × zMem} (h : F_Code_operation M l1 = some y) : zGo Y_Code_operation 0 0 (zal Y_Code_operation [.inr 4, .inl l1]) [] M (some y.1) y.2 := by
  unfold F_Code_operation at h
  show zGo Y_Code_operation 0 0 [some (.inr 4), some (.inl l1)] [] M _ _
  refine go_iload_n K_Code_operation rfl rfl ?_
  refine go_if_lt K_Code_operation rfl (fun c => ?_) (fun c => ?_)
  · have h := zif_t c h
    refine go_iconst K_Code_operation rfl zk_iconst_0 ?_
    cases h
    exact go_ireturn K_Code_operation rfl rfl
  · have h := zif_f c h
    refine go_iload_n K_Code_operation rfl rfl ?_
    refine go_aload_n K_Code_operation rfl rfl ?_
    refine go_getI K_Code_operation rfl zf_0_18 ?_
    refine go_icmp_ge K_Code_operation rfl (fun c => ?_) (fun c => ?_)
    · have h := zif_t c h
      refine go_iconst K_Code_operation rfl zk_iconst_0 ?_
      cases h
      exact go_ireturn K_Code_operation rfl rfl
    · have h := zif_f c h
      refine go_iload_n K_Code_operation rfl rfl ?_
      refine go_aload_n K_Code_operation rfl rfl ?_
      refine go_getR K_Code_operation rfl zf_0_9 ?_
      refine go_alen K_Code_operation rfl za_5 zlen_300 ?_
      refine go_icmp_ge K_Code_operation rfl (fun c => ?_) (fun c => ?_)
      · have h := zif_t c h
        refine go_iconst K_Code_operation rfl zk_iconst_0 ?_
        cases h
        exact go_ireturn K_Code_operation rfl rfl
      · have h := zif_f c h
        refine go_aload_n K_Code_operation rfl rfl ?_
        refine go_getR K_Code_operation rfl zf_0_9 ?_
        refine go_iload_n K_Code_operation rfl rfl ?_
        obtain ⟨i1, h⟩ := zix_ex h
        refine go_iald K_Code_operation rfl za_5 i1 ?_
        refine go_goto K_Code_operation rfl ?_
        cases h
        exact go_ireturn K_Code_operation rfl rfl
def F_Code_restart (M : zMem) : Option (zMem) :=
  zset M 4 2 ((0 : Int32)) fun M1 => some M1
set_option maxRecDepth 100000 in
theorem G_Code_restart {M : zMem} {y : zMem} (h : F_Code_restart M  = some y) : zGo Y_Code_restart 0 0 (zal Y_Code_restart [.inr 4]) [] M none y := by
  unfold F_Code_restart at h
  show zGo Y_Code_restart 0 0 [some (.inr 4)] [] M _ _
  refine go_aload_n K_Code_restart rfl rfl ?_
  refine go_iconst K_Code_restart rfl zk_iconst_0 ?_
  obtain ⟨M1, e2, h⟩ := zset_ex h
  refine go_putI' e2 K_Code_restart rfl zf_0_18 ?_
  cases h
  exact go_return K_Code_restart rfl rfl
def F_Plain_beginOperand (M : zMem) : Option (zMem) :=
  zset M 19 3 ((3 : Int32)) fun M1 => zset M1 19 4 ((-1 : Int32)) fun M3 => zset M3 19 5 ((-1 : Int32)) fun M5 => some M5
set_option maxRecDepth 100000 in
theorem G_Plain_beginOperand {M : zMem} {y : zMem} (h : F_Plain_beginOperand M  = some y) : zGo Y_Plain_beginOperand 0 0 (zal Y_Plain_beginOperand [.inr 19]) [] M none y := by
  unfold F_Plain_beginOperand at h
  show zGo Y_Plain_beginOperand 0 0 [some (.inr 19)] [] M _ _
  refine go_aload_n K_Plain_beginOperand rfl rfl ?_
  refine go_iconst K_Plain_beginOperand rfl zk_iconst_3 ?_
  obtain ⟨M1, e2, h⟩ := zset_ex h
  refine go_putI' e2 K_Plain_beginOperand rfl zf_7_28 ?_
  refine go_aload_n K_Plain_beginOperand rfl rfl ?_
  refine go_iconst K_Plain_beginOperand rfl zk_iconst_m1 ?_
  obtain ⟨M3, e4, h⟩ := zset_ex h
  refine go_putI' e4 K_Plain_beginOperand rfl zf_7_31 ?_
  refine go_aload_n K_Plain_beginOperand rfl rfl ?_
  refine go_iconst K_Plain_beginOperand rfl zk_iconst_m1 ?_
  obtain ⟨M5, e6, h⟩ := zset_ex h
  refine go_putI' e6 K_Plain_beginOperand rfl zf_7_34 ?_
  cases h
  exact go_return K_Plain_beginOperand rfl rfl
def F_Expr_simpleFactor (M : zMem) (l1 l2 : Int32) : Option (Int32 × zMem) :=
  zbi (F_Code_emit M l1 l2) fun r3 M1 => zbv (F_Plain_beginOperand M1 ) fun M4 => some ((23 : Int32), M4)
set_option maxRecDepth 100000 in
theorem G_Expr_simpleFactor {M : zMem} {l1 l2 : Int32} {y : Int32 × zMem} (h : F_Expr_simpleFactor M l1 l2 = some y) : zGo Y_Expr_simpleFactor 1 0 (zal Y_Expr_simpleFactor [.inr 25, .inl l1, .inl l2]) [] M (some y.1) y.2 := by
  unfold F_Expr_simpleFactor at h
  show zGo Y_Expr_simpleFactor 1 0 [some (.inr 25), some (.inl l1), some (.inl l2)] [] M _ _
  refine go_aload_n K_Expr_simpleFactor rfl rfl ?_
  refine go_getR K_Expr_simpleFactor rfl zf_1_9 ?_
  refine go_iload_n K_Expr_simpleFactor rfl rfl ?_
  refine go_iload_n K_Expr_simpleFactor rfl rfl ?_
  obtain ⟨r3, M1, h2, h⟩ := zbi_ex h
  refine go_vi (Y' := Y_Code_emit) (av := [.inl l1, .inl l2]) (rest := []) K_Expr_simpleFactor rfl zl_1_92 zm_Code_emit rfl (G_Code_emit h2) (Nat.le_of_ble_eq_true rfl) (Nat.le_of_ble_eq_true rfl) rfl ?_
  refine go_pop K_Expr_simpleFactor rfl ?_
  refine go_aload_n K_Expr_simpleFactor rfl rfl ?_
  refine go_getR K_Expr_simpleFactor rfl zf_1_23 ?_
  obtain ⟨M4, h5, h⟩ := zbv_ex h
  refine go_vv (Y' := Y_Plain_beginOperand) (av := []) (rest := []) K_Expr_simpleFactor rfl zl_1_116 zm_Plain_beginOperand rfl (G_Plain_beginOperand h5) (Nat.le_of_ble_eq_true rfl) (Nat.le_of_ble_eq_true rfl) rfl ?_
  refine go_bipush K_Expr_simpleFactor rfl zk_bipush_23 ?_
  cases h
  exact go_ireturn K_Expr_simpleFactor rfl rfl
def F_Pend_first (M : zMem) : Option (Int32 × zMem) :=
  if (M 15 3) ≤ 0 then (some ((0 : Int32), M)) else (if (150 : Int32) < (M 15 3) then (some ((0 : Int32), M)) else (zix ((M 15 3) - (1 : Int32)) 150 (some (M 17 ((M 15 3) - (1 : Int32)).toNatClampNeg, M))))
set_option maxRecDepth 100000 in
theorem G_Pend_first {M : zMem} {y : Int32 × zMem} (h : F_Pend_first M  = some y) : zGo Y_Pend_first 0 0 (zal Y_Pend_first [.inr 15]) [] M (some y.1) y.2 := by
  unfold F_Pend_first at h
  show zGo Y_Pend_first 0 0 [some (.inr 15)] [] M _ _
  refine go_aload_n K_Pend_first rfl rfl ?_
  refine go_getI K_Pend_first rfl zf_6_21 ?_
  refine go_if_le K_Pend_first rfl (fun c => ?_) (fun c => ?_)
  · have h := zif_t c h
    refine go_iconst K_Pend_first rfl zk_iconst_0 ?_
    cases h
    exact go_ireturn K_Pend_first rfl rfl
  · have h := zif_f c h
    refine go_aload_n K_Pend_first rfl rfl ?_
    refine go_getI K_Pend_first rfl zf_6_21 ?_
    refine go_sipush K_Pend_first rfl zk_sipush_150 ?_
    refine go_icmp_gt K_Pend_first rfl (fun c => ?_) (fun c => ?_)
    · have h := zif_t c h
      refine go_iconst K_Pend_first rfl zk_iconst_0 ?_
      cases h
      exact go_ireturn K_Pend_first rfl rfl
    · have h := zif_f c h
      refine go_aload_n K_Pend_first rfl rfl ?_
      refine go_getR K_Pend_first rfl zf_6_15 ?_
      refine go_aload_n K_Pend_first rfl rfl ?_
      refine go_getI K_Pend_first rfl zf_6_21 ?_
      refine go_iconst K_Pend_first rfl zk_iconst_1 ?_
      refine go_isub K_Pend_first rfl ?_
      obtain ⟨i1, h⟩ := zix_ex h
      refine go_iald K_Pend_first rfl za_17 i1 ?_
      refine go_goto K_Pend_first rfl ?_
      cases h
      exact go_ireturn K_Pend_first rfl rfl
def F_Pend_kind (M : zMem) : Option (Int32 × zMem) :=
  if (M 15 3) ≤ 0 then (some ((0 : Int32), M)) else (if (150 : Int32) < (M 15 3) then (some ((0 : Int32), M)) else (zix ((M 15 3) - (1 : Int32)) 150 (some (M 16 ((M 15 3) - (1 : Int32)).toNatClampNeg, M))))
set_option maxRecDepth 100000 in
theorem G_Pend_kind {M : zMem} {y : Int32 × zMem} (h : F_Pend_kind M  = some y) : zGo Y_Pend_kind 0 0 (zal Y_Pend_kind [.inr 15]) [] M (some y.1) y.2 := by
  unfold F_Pend_kind at h
  show zGo Y_Pend_kind 0 0 [some (.inr 15)] [] M _ _
  refine go_aload_n K_Pend_kind rfl rfl ?_
  refine go_getI K_Pend_kind rfl zf_6_21 ?_
  refine go_if_le K_Pend_kind rfl (fun c => ?_) (fun c => ?_)
  · have h := zif_t c h
    refine go_iconst K_Pend_kind rfl zk_iconst_0 ?_
    cases h
    exact go_ireturn K_Pend_kind rfl rfl
  · have h := zif_f c h
    refine go_aload_n K_Pend_kind rfl rfl ?_
    refine go_getI K_Pend_kind rfl zf_6_21 ?_
    refine go_sipush K_Pend_kind rfl zk_sipush_150 ?_
    refine go_icmp_gt K_Pend_kind rfl (fun c => ?_) (fun c => ?_)
    · have h := zif_t c h
      refine go_iconst K_Pend_kind rfl zk_iconst_0 ?_
      cases h
      exact go_ireturn K_Pend_kind rfl rfl
    · have h := zif_f c h
      refine go_aload_n K_Pend_kind rfl rfl ?_
      refine go_getR K_Pend_kind rfl zf_6_9 ?_
      refine go_aload_n K_Pend_kind rfl rfl ?_
      refine go_getI K_Pend_kind rfl zf_6_21 ?_
      refine go_iconst K_Pend_kind rfl zk_iconst_1 ?_
      refine go_isub K_Pend_kind rfl ?_
      obtain ⟨i1, h⟩ := zix_ex h
      refine go_iald K_Pend_kind rfl za_16 i1 ?_
      refine go_goto K_Pend_kind rfl ?_
      cases h
      exact go_ireturn K_Pend_kind rfl rfl
def F_Pend_pop (M : zMem) : Option (zMem) :=
  if (M 15 3) ≤ 0 then (some M) else (zset M 15 3 ((M 15 3) - (1 : Int32)) fun M1 => some M1)
set_option maxRecDepth 100000 in
theorem G_Pend_pop {M : zMem} {y : zMem} (h : F_Pend_pop M  = some y) : zGo Y_Pend_pop 0 0 (zal Y_Pend_pop [.inr 15]) [] M none y := by
  unfold F_Pend_pop at h
  show zGo Y_Pend_pop 0 0 [some (.inr 15)] [] M _ _
  refine go_aload_n K_Pend_pop rfl rfl ?_
  refine go_getI K_Pend_pop rfl zf_6_21 ?_
  refine go_if_le K_Pend_pop rfl (fun c => ?_) (fun c => ?_)
  · have h := zif_t c h
    cases h
    exact go_return K_Pend_pop rfl rfl
  · have h := zif_f c h
    refine go_aload_n K_Pend_pop rfl rfl ?_
    refine go_dup K_Pend_pop rfl ?_
    refine go_getI K_Pend_pop rfl zf_6_21 ?_
    refine go_iconst K_Pend_pop rfl zk_iconst_1 ?_
    refine go_isub K_Pend_pop rfl ?_
    obtain ⟨M1, e2, h⟩ := zset_ex h
    refine go_putI' e2 K_Pend_pop rfl zf_6_21 ?_
    cases h
    exact go_return K_Pend_pop rfl rfl
def F_Proc_callee (M : zMem) (l1 : Int32) : Option (Int32 × zMem) :=
  if l1 < 0 then (some ((-1 : Int32), M)) else (if (150 : Int32) ≤ l1 then (some ((-1 : Int32), M)) else (zix l1 150 (some (M 12 l1.toNatClampNeg, M))))
set_option maxRecDepth 100000 in
theorem G_Proc_callee {M : zMem} {l1 : Int32} {y : Int32 × zMem} (h : F_Proc_callee M l1 = some y) : zGo Y_Proc_callee 0 0 (zal Y_Proc_callee [.inr 7, .inl l1]) [] M (some y.1) y.2 := by
  unfold F_Proc_callee at h
  show zGo Y_Proc_callee 0 0 [some (.inr 7), some (.inl l1)] [] M _ _
  refine go_iload_n K_Proc_callee rfl rfl ?_
  refine go_if_lt K_Proc_callee rfl (fun c => ?_) (fun c => ?_)
  · have h := zif_t c h
    refine go_iconst K_Proc_callee rfl zk_iconst_m1 ?_
    cases h
    exact go_ireturn K_Proc_callee rfl rfl
  · have h := zif_f c h
    refine go_iload_n K_Proc_callee rfl rfl ?_
    refine go_sipush K_Proc_callee rfl zk_sipush_150 ?_
    refine go_icmp_ge K_Proc_callee rfl (fun c => ?_) (fun c => ?_)
    · have h := zif_t c h
      refine go_iconst K_Proc_callee rfl zk_iconst_m1 ?_
      cases h
      exact go_ireturn K_Proc_callee rfl rfl
    · have h := zif_f c h
      refine go_aload_n K_Proc_callee rfl rfl ?_
      refine go_getR K_Proc_callee rfl zf_8_25 ?_
      refine go_iload_n K_Proc_callee rfl rfl ?_
      obtain ⟨i1, h⟩ := zix_ex h
      refine go_iald K_Proc_callee rfl za_12 i1 ?_
      refine go_goto K_Proc_callee rfl ?_
      cases h
      exact go_ireturn K_Proc_callee rfl rfl
def F_Expr_endCall (M : zMem) : Option (Int32 × zMem) :=
  zbi (F_Pend_kind M ) fun r3 M1 => zbi (F_Pend_first M1 ) fun r6 M4 => zbi (F_Proc_callee M4 r6) fun r9 M7 => zbv (F_Pend_pop M7 ) fun M10 => if r3 = (4 : Int32) then (zbi (F_Expr_simpleFactor M10 (25 : Int32) r9) fun r20 M18 => some (r20, M18)) else (zbi (F_Code_emit M10 (25 : Int32) r9) fun r14 M12 => zbi (F_Code_emit M12 (11 : Int32) (0 : Int32)) fun r17 M15 => some ((10 : Int32), M15))
set_option maxRecDepth 100000 in
theorem G_Expr_endCall {M : zMem} {y : Int32 × zMem} (h : F_Expr_endCall M  = some y) : zGo Y_Expr_endCall 2 0 (zal Y_Expr_endCall [.inr 25]) [] M (some y.1) y.2 := by
  unfold F_Expr_endCall at h
  show zGo Y_Expr_endCall 2 0 [some (.inr 25), none, none] [] M _ _
  refine go_aload_n K_Expr_endCall rfl rfl ?_
  refine go_getR K_Expr_endCall rfl zf_1_19 ?_
  obtain ⟨r3, M1, h2, h⟩ := zbi_ex h
  refine go_vi (Y' := Y_Pend_kind) (av := []) (rest := []) K_Expr_endCall rfl zl_1_85 zm_Pend_kind rfl (G_Pend_kind h2) (Nat.le_of_ble_eq_true rfl) (Nat.le_of_ble_eq_true rfl) rfl ?_
  refine go_istore_n K_Expr_endCall rfl (Nat.le_of_ble_eq_true rfl) ?_
  refine go_aload_n K_Expr_endCall rfl rfl ?_
  refine go_getR K_Expr_endCall rfl zf_1_15 ?_
  refine go_aload_n K_Expr_endCall rfl rfl ?_
  refine go_getR K_Expr_endCall rfl zf_1_19 ?_
  obtain ⟨r6, M4, h5, h⟩ := zbi_ex h
  refine go_vi (Y' := Y_Pend_first) (av := []) (rest := [.inr 7]) K_Expr_endCall rfl zl_1_95 zm_Pend_first rfl (G_Pend_first h5) (Nat.le_of_ble_eq_true rfl) (Nat.le_of_ble_eq_true rfl) rfl ?_
  obtain ⟨r9, M7, h8, h⟩ := zbi_ex h
  refine go_vi (Y' := Y_Proc_callee) (av := [.inl r6]) (rest := []) K_Expr_endCall rfl zl_1_113 zm_Proc_callee rfl (G_Proc_callee h8) (Nat.le_of_ble_eq_true rfl) (Nat.le_of_ble_eq_true rfl) rfl ?_
  refine go_istore_n K_Expr_endCall rfl (Nat.le_of_ble_eq_true rfl) ?_
  refine go_aload_n K_Expr_endCall rfl rfl ?_
  refine go_getR K_Expr_endCall rfl zf_1_19 ?_
  obtain ⟨M10, h11, h⟩ := zbv_ex h
  refine go_vv (Y' := Y_Pend_pop) (av := []) (rest := []) K_Expr_endCall rfl zl_1_104 zm_Pend_pop rfl (G_Pend_pop h11) (Nat.le_of_ble_eq_true rfl) (Nat.le_of_ble_eq_true rfl) rfl ?_
  refine go_iload_n K_Expr_endCall rfl rfl ?_
  refine go_iconst K_Expr_endCall rfl zk_iconst_4 ?_
  refine go_icmp_ne K_Expr_endCall rfl (fun c => ?_) (fun c => ?_)
  · have h := zif_f c h
    refine go_aload_n K_Expr_endCall rfl rfl ?_
    refine go_getR K_Expr_endCall rfl zf_1_9 ?_
    refine go_bipush K_Expr_endCall rfl zk_bipush_25 ?_
    refine go_iload_n K_Expr_endCall rfl rfl ?_
    obtain ⟨r14, M12, h13, h⟩ := zbi_ex h
    refine go_vi (Y' := Y_Code_emit) (av := [.inl (25 : Int32), .inl r9]) (rest := []) K_Expr_endCall rfl zl_1_92 zm_Code_emit rfl (G_Code_emit h13) (Nat.le_of_ble_eq_true rfl) (Nat.le_of_ble_eq_true rfl) rfl ?_
    refine go_pop K_Expr_endCall rfl ?_
    refine go_aload_n K_Expr_endCall rfl rfl ?_
    refine go_getR K_Expr_endCall rfl zf_1_9 ?_
    refine go_bipush K_Expr_endCall rfl zk_bipush_11 ?_
    refine go_iconst K_Expr_endCall rfl zk_iconst_0 ?_
    obtain ⟨r17, M15, h16, h⟩ := zbi_ex h
    refine go_vi (Y' := Y_Code_emit) (av := [.inl (11 : Int32), .inl (0 : Int32)]) (rest := []) K_Expr_endCall rfl zl_1_92 zm_Code_emit rfl (G_Code_emit h16) (Nat.le_of_ble_eq_true rfl) (Nat.le_of_ble_eq_true rfl) rfl ?_
    refine go_pop K_Expr_endCall rfl ?_
    refine go_bipush K_Expr_endCall rfl zk_bipush_10 ?_
    cases h
    exact go_ireturn K_Expr_endCall rfl rfl
  · have h := zif_t c h
    refine go_aload_n K_Expr_endCall rfl rfl ?_
    refine go_bipush K_Expr_endCall rfl zk_bipush_25 ?_
    refine go_iload_n K_Expr_endCall rfl rfl ?_
    obtain ⟨r20, M18, h19, h⟩ := zbi_ex h
    refine go_vi (Y' := Y_Expr_simpleFactor) (av := [.inl (25 : Int32), .inl r9]) (rest := []) K_Expr_endCall rfl zl_1_53 zm_Expr_simpleFactor rfl (G_Expr_simpleFactor h19) (Nat.le_of_ble_eq_true rfl) (Nat.le_of_ble_eq_true rfl) rfl ?_
    cases h
    exact go_ireturn K_Expr_endCall rfl rfl
def F_Expr_afterArgument (M : zMem) (l1 : Int32) : Option (Int32 × zMem) :=
  if l1 = (124 : Int32) then (some ((21 : Int32), M)) else (if l1 = (123 : Int32) then (zbi (F_Expr_endCall M ) fun r3 M1 => some (r3, M1)) else (some ((-1 : Int32), M)))
set_option maxRecDepth 100000 in
theorem G_Expr_afterArgument {M : zMem} {l1 : Int32} {y : Int32 × zMem} (h : F_Expr_afterArgument M l1 = some y) : zGo Y_Expr_afterArgument 3 0 (zal Y_Expr_afterArgument [.inr 25, .inl l1]) [] M (some y.1) y.2 := by
  unfold F_Expr_afterArgument at h
  show zGo Y_Expr_afterArgument 3 0 [some (.inr 25), some (.inl l1)] [] M _ _
  refine go_iload_n K_Expr_afterArgument rfl rfl ?_
  refine go_bipush K_Expr_afterArgument rfl zk_bipush_124 ?_
  refine go_icmp_ne K_Expr_afterArgument rfl (fun c => ?_) (fun c => ?_)
  · have h := zif_f c h
    refine go_iload_n K_Expr_afterArgument rfl rfl ?_
    refine go_bipush K_Expr_afterArgument rfl zk_bipush_123 ?_
    refine go_icmp_ne K_Expr_afterArgument rfl (fun c => ?_) (fun c => ?_)
    · have h := zif_f c h
      refine go_iconst K_Expr_afterArgument rfl zk_iconst_m1 ?_
      cases h
      exact go_ireturn K_Expr_afterArgument rfl rfl
    · have h := zif_t c h
      refine go_aload_n K_Expr_afterArgument rfl rfl ?_
      obtain ⟨r3, M1, h2, h⟩ := zbi_ex h
      refine go_vi (Y' := Y_Expr_endCall) (av := []) (rest := []) K_Expr_afterArgument rfl zl_1_110 zm_Expr_endCall rfl (G_Expr_endCall h2) (Nat.le_of_ble_eq_true rfl) (Nat.le_of_ble_eq_true rfl) rfl ?_
      refine go_goto K_Expr_afterArgument rfl ?_
      cases h
      exact go_ireturn K_Expr_afterArgument rfl rfl
  · have h := zif_t c h
    refine go_bipush K_Expr_afterArgument rfl zk_bipush_21 ?_
    cases h
    exact go_ireturn K_Expr_afterArgument rfl rfl
def F_Pend_push (M : zMem) (l1 l2 l3 : Int32) : Option (zMem) :=
  if (M 15 3) < 0 then (some M) else (if (150 : Int32) ≤ (M 15 3) then (some M) else (zix (M 15 3) 150 (zset M 16 (M 15 3).toNatClampNeg l1 fun M2 => zix (M2 15 3) 150 (zset M2 17 (M2 15 3).toNatClampNeg l2 fun M5 => zix (M5 15 3) 150 (zset M5 18 (M5 15 3).toNatClampNeg l3 fun M8 => zset M8 15 3 ((M8 15 3) + (1 : Int32)) fun M10 => some M10)))))
set_option maxRecDepth 100000 in
theorem G_Pend_push {M : zMem} {l1 l2 l3 : Int32} {y : zMem} (h : F_Pend_push M l1 l2 l3 = some y) : zGo Y_Pend_push 0 0 (zal Y_Pend_push [.inr 15, .inl l1, .inl l2, .inl l3]) [] M none y := by
  unfold F_Pend_push at h
  show zGo Y_Pend_push 0 0 [some (.inr 15), some (.inl l1), some (.inl l2), some (.inl l3)] [] M _ _
  refine go_aload_n K_Pend_push rfl rfl ?_
  refine go_getI K_Pend_push rfl zf_6_21 ?_
  refine go_if_lt K_Pend_push rfl (fun c => ?_) (fun c => ?_)
  · have h := zif_t c h
    cases h
    exact go_return K_Pend_push rfl rfl
  · have h := zif_f c h
    refine go_aload_n K_Pend_push rfl rfl ?_
    refine go_getI K_Pend_push rfl zf_6_21 ?_
    refine go_sipush K_Pend_push rfl zk_sipush_150 ?_
    refine go_icmp_ge K_Pend_push rfl (fun c => ?_) (fun c => ?_)
    · have h := zif_t c h
      cases h
      exact go_return K_Pend_push rfl rfl
    · have h := zif_f c h
      refine go_aload_n K_Pend_push rfl rfl ?_
      refine go_getR K_Pend_push rfl zf_6_9 ?_
      refine go_aload_n K_Pend_push rfl rfl ?_
      refine go_getI K_Pend_push rfl zf_6_21 ?_
      refine go_iload_n K_Pend_push rfl rfl ?_
      obtain ⟨i1, h⟩ := zix_ex h
      obtain ⟨M2, e3, h⟩ := zset_ex h
      refine go_iast' e3 K_Pend_push rfl za_16 i1 ?_
      refine go_aload_n K_Pend_push rfl rfl ?_
      refine go_getR K_Pend_push rfl zf_6_15 ?_
      refine go_aload_n K_Pend_push rfl rfl ?_
      refine go_getI K_Pend_push rfl zf_6_21 ?_
      refine go_iload_n K_Pend_push rfl rfl ?_
      obtain ⟨i4, h⟩ := zix_ex h
      obtain ⟨M5, e6, h⟩ := zset_ex h
      refine go_iast' e6 K_Pend_push rfl za_17 i4 ?_
      refine go_aload_n K_Pend_push rfl rfl ?_
      refine go_getR K_Pend_push rfl zf_6_18 ?_
      refine go_aload_n K_Pend_push rfl rfl ?_
      refine go_getI K_Pend_push rfl zf_6_21 ?_
      refine go_iload_n K_Pend_push rfl rfl ?_
      obtain ⟨i7, h⟩ := zix_ex h
      obtain ⟨M8, e9, h⟩ := zset_ex h
      refine go_iast' e9 K_Pend_push rfl za_18 i7 ?_
      refine go_aload_n K_Pend_push rfl rfl ?_
      refine go_dup K_Pend_push rfl ?_
      refine go_getI K_Pend_push rfl zf_6_21 ?_
      refine go_iconst K_Pend_push rfl zk_iconst_1 ?_
      refine go_iadd K_Pend_push rfl ?_
      obtain ⟨M10, e11, h⟩ := zset_ex h
      refine go_putI' e11 K_Pend_push rfl zf_6_21 ?_
      cases h
      exact go_return K_Pend_push rfl rfl
def F_Proc_beginCall (M : zMem) (l1 l2 : Int32) : Option (zMem) :=
  if l2 < 0 then (some M) else (if (150 : Int32) ≤ l2 then (some M) else (zix l2 150 (zset M 12 l2.toNatClampNeg l1 fun M2 => zix l2 150 (zset M2 13 l2.toNatClampNeg ((0 : Int32)) fun M5 => some M5))))
set_option maxRecDepth 100000 in
theorem G_Proc_beginCall {M : zMem} {l1 l2 : Int32} {y : zMem} (h : F_Proc_beginCall M l1 l2 = some y) : zGo Y_Proc_beginCall 0 0 (zal Y_Proc_beginCall [.inr 7, .inl l1, .inl l2]) [] M none y := by
  unfold F_Proc_beginCall at h
  show zGo Y_Proc_beginCall 0 0 [some (.inr 7), some (.inl l1), some (.inl l2)] [] M _ _
  refine go_iload_n K_Proc_beginCall rfl rfl ?_
  refine go_if_lt K_Proc_beginCall rfl (fun c => ?_) (fun c => ?_)
  · have h := zif_t c h
    cases h
    exact go_return K_Proc_beginCall rfl rfl
  · have h := zif_f c h
    refine go_iload_n K_Proc_beginCall rfl rfl ?_
    refine go_sipush K_Proc_beginCall rfl zk_sipush_150 ?_
    refine go_icmp_ge K_Proc_beginCall rfl (fun c => ?_) (fun c => ?_)
    · have h := zif_t c h
      cases h
      exact go_return K_Proc_beginCall rfl rfl
    · have h := zif_f c h
      refine go_aload_n K_Proc_beginCall rfl rfl ?_
      refine go_getR K_Proc_beginCall rfl zf_8_25 ?_
      refine go_iload_n K_Proc_beginCall rfl rfl ?_
      refine go_iload_n K_Proc_beginCall rfl rfl ?_
      obtain ⟨i1, h⟩ := zix_ex h
      obtain ⟨M2, e3, h⟩ := zset_ex h
      refine go_iast' e3 K_Proc_beginCall rfl za_12 i1 ?_
      refine go_aload_n K_Proc_beginCall rfl rfl ?_
      refine go_getR K_Proc_beginCall rfl zf_8_28 ?_
      refine go_iload_n K_Proc_beginCall rfl rfl ?_
      refine go_iconst K_Proc_beginCall rfl zk_iconst_0 ?_
      obtain ⟨i4, h⟩ := zix_ex h
      obtain ⟨M5, e6, h⟩ := zset_ex h
      refine go_iast' e6 K_Proc_beginCall rfl za_13 i4 ?_
      cases h
      exact go_return K_Proc_beginCall rfl rfl
def F_Proc_isOwn (M : zMem) (l1 : Int32) : Option (Int32 × zMem) :=
  if (((M 7 8) >>> (l1 &&& 31)) &&& (1 : Int32)) = 0 then (some ((0 : Int32), M)) else (some ((1 : Int32), M))
set_option maxRecDepth 100000 in
theorem G_Proc_isOwn {M : zMem} {l1 : Int32} {y : Int32 × zMem} (h : F_Proc_isOwn M l1 = some y) : zGo Y_Proc_isOwn 0 0 (zal Y_Proc_isOwn [.inr 7, .inl l1]) [] M (some y.1) y.2 := by
  unfold F_Proc_isOwn at h
  show zGo Y_Proc_isOwn 0 0 [some (.inr 7), some (.inl l1)] [] M _ _
  refine go_aload_n K_Proc_isOwn rfl rfl ?_
  refine go_getI K_Proc_isOwn rfl zf_8_38 ?_
  refine go_iload_n K_Proc_isOwn rfl rfl ?_
  refine go_ishr K_Proc_isOwn rfl ?_
  refine go_iconst K_Proc_isOwn rfl zk_iconst_1 ?_
  refine go_iand K_Proc_isOwn rfl ?_
  refine go_if_eq K_Proc_isOwn rfl (fun c => ?_) (fun c => ?_)
  · have h := zif_t c h
    refine go_iconst K_Proc_isOwn rfl zk_iconst_0 ?_
    cases h
    exact go_zreturn K_Proc_isOwn rfl rfl (Or.inl rfl)
  · have h := zif_f c h
    refine go_iconst K_Proc_isOwn rfl zk_iconst_1 ?_
    refine go_goto K_Proc_isOwn rfl ?_
    cases h
    exact go_zreturn K_Proc_isOwn rfl rfl (Or.inr rfl)
def F_Tok_isName (M : zMem) (l0 : Int32) : Option (Int32 × zMem) :=
  if l0 < (100 : Int32) then (some ((0 : Int32), M)) else (if (107 : Int32) < l0 then (some ((0 : Int32), M)) else (some ((1 : Int32), M)))
set_option maxRecDepth 100000 in
theorem G_Tok_isName {M : zMem} {l0 : Int32} {y : Int32 × zMem} (h : F_Tok_isName M l0 = some y) : zGo Y_Tok_isName 0 0 (zal Y_Tok_isName [.inl l0]) [] M (some y.1) y.2 := by
  unfold F_Tok_isName at h
  show zGo Y_Tok_isName 0 0 [some (.inl l0)] [] M _ _
  refine go_iload_n K_Tok_isName rfl rfl ?_
  refine go_bipush K_Tok_isName rfl zk_bipush_100 ?_
  refine go_icmp_lt K_Tok_isName rfl (fun c => ?_) (fun c => ?_)
  · have h := zif_t c h
    refine go_iconst K_Tok_isName rfl zk_iconst_0 ?_
    cases h
    exact go_zreturn K_Tok_isName rfl rfl (Or.inl rfl)
  · have h := zif_f c h
    refine go_iload_n K_Tok_isName rfl rfl ?_
    refine go_bipush K_Tok_isName rfl zk_bipush_107 ?_
    refine go_icmp_gt K_Tok_isName rfl (fun c => ?_) (fun c => ?_)
    · have h := zif_t c h
      refine go_iconst K_Tok_isName rfl zk_iconst_0 ?_
      cases h
      exact go_zreturn K_Tok_isName rfl rfl (Or.inl rfl)
    · have h := zif_f c h
      refine go_iconst K_Tok_isName rfl zk_iconst_1 ?_
      refine go_goto K_Tok_isName rfl ?_
      cases h
      exact go_zreturn K_Tok_isName rfl rfl (Or.inr rfl)
def F_Tok_isNumber (M : zMem) (l0 : Int32) : Option (Int32 × zMem) :=
  if l0 < 0 then (some ((0 : Int32), M)) else (if (99 : Int32) < l0 then (some ((0 : Int32), M)) else (some ((1 : Int32), M)))
set_option maxRecDepth 100000 in
theorem G_Tok_isNumber {M : zMem} {l0 : Int32} {y : Int32 × zMem} (h : F_Tok_isNumber M l0 = some y) : zGo Y_Tok_isNumber 0 0 (zal Y_Tok_isNumber [.inl l0]) [] M (some y.1) y.2 := by
  unfold F_Tok_isNumber at h
  show zGo Y_Tok_isNumber 0 0 [some (.inl l0)] [] M _ _
  refine go_iload_n K_Tok_isNumber rfl rfl ?_
  refine go_if_lt K_Tok_isNumber rfl (fun c => ?_) (fun c => ?_)
  · have h := zif_t c h
    refine go_iconst K_Tok_isNumber rfl zk_iconst_0 ?_
    cases h
    exact go_zreturn K_Tok_isNumber rfl rfl (Or.inl rfl)
  · have h := zif_f c h
    refine go_iload_n K_Tok_isNumber rfl rfl ?_
    refine go_bipush K_Tok_isNumber rfl zk_bipush_99 ?_
    refine go_icmp_gt K_Tok_isNumber rfl (fun c => ?_) (fun c => ?_)
    · have h := zif_t c h
      refine go_iconst K_Tok_isNumber rfl zk_iconst_0 ?_
      cases h
      exact go_zreturn K_Tok_isNumber rfl rfl (Or.inl rfl)
    · have h := zif_f c h
      refine go_iconst K_Tok_isNumber rfl zk_iconst_1 ?_
      refine go_goto K_Tok_isNumber rfl ?_
      cases h
      exact go_zreturn K_Tok_isNumber rfl rfl (Or.inr rfl)
def F_Tok_isProcedure (M : zMem) (l0 : Int32) : Option (Int32 × zMem) :=
  if l0 < (110 : Int32) then (some ((0 : Int32), M)) else (if (113 : Int32) < l0 then (some ((0 : Int32), M)) else (some ((1 : Int32), M)))
set_option maxRecDepth 100000 in
theorem G_Tok_isProcedure {M : zMem} {l0 : Int32} {y : Int32 × zMem} (h : F_Tok_isProcedure M l0 = some y) : zGo Y_Tok_isProcedure 0 0 (zal Y_Tok_isProcedure [.inl l0]) [] M (some y.1) y.2 := by
  unfold F_Tok_isProcedure at h
  show zGo Y_Tok_isProcedure 0 0 [some (.inl l0)] [] M _ _
  refine go_iload_n K_Tok_isProcedure rfl rfl ?_
  refine go_bipush K_Tok_isProcedure rfl zk_bipush_110 ?_
  refine go_icmp_lt K_Tok_isProcedure rfl (fun c => ?_) (fun c => ?_)
  · have h := zif_t c h
    refine go_iconst K_Tok_isProcedure rfl zk_iconst_0 ?_
    cases h
    exact go_zreturn K_Tok_isProcedure rfl rfl (Or.inl rfl)
  · have h := zif_f c h
    refine go_iload_n K_Tok_isProcedure rfl rfl ?_
    refine go_bipush K_Tok_isProcedure rfl zk_bipush_113 ?_
    refine go_icmp_gt K_Tok_isProcedure rfl (fun c => ?_) (fun c => ?_)
    · have h := zif_t c h
      refine go_iconst K_Tok_isProcedure rfl zk_iconst_0 ?_
      cases h
      exact go_zreturn K_Tok_isProcedure rfl rfl (Or.inl rfl)
    · have h := zif_f c h
      refine go_iconst K_Tok_isProcedure rfl zk_iconst_1 ?_
      refine go_goto K_Tok_isProcedure rfl ?_
      cases h
      exact go_zreturn K_Tok_isProcedure rfl rfl (Or.inr rfl)
def F_Expr_factor_p24 (M : zMem) (l3 s1 : Int32) : Option (Int32 × zMem) :=
  zbi (F_Expr_simpleFactor M s1 l3) fun r3 M1 => some (r3, M1)
set_option maxRecDepth 100000 in
theorem G_Expr_factor_p24 {M : zMem} {l3 s1 : Int32} {y : Int32 × zMem} (h : F_Expr_factor_p24 M l3 s1 = some y) : zGo Y_Expr_factor 2 24 [none, none, none, some (.inl l3)] [.inl s1, .inr 25] M (some y.1) y.2 := by
  unfold F_Expr_factor_p24 at h
  refine go_iload_n K_Expr_factor rfl rfl ?_
  obtain ⟨r3, M1, h2, h⟩ := zbi_ex h
  refine go_vi (Y' := Y_Expr_simpleFactor) (av := [.inl s1, .inl l3]) (rest := []) K_Expr_factor rfl zl_1_53 zm_Expr_simpleFactor rfl (G_Expr_simpleFactor h2) (Nat.le_of_ble_eq_true rfl) (Nat.le_of_ble_eq_true rfl) rfl ?_
  cases h
  exact go_ireturn K_Expr_factor rfl rfl
def F_Expr_factor (M : zMem) (l1 l2 : Int32) : Option (Int32 × zMem) :=
  zbi (F_Tok_isNumber M l1) fun r3 M1 => if r3 = 0 then (zbi (F_Tok_isName M1 l1) fun r6 M4 => if r6 = 0 then (zbi (F_Tok_isProcedure M4 l1) fun r9 M7 => if r9 = 0 then (if l1 = (108 : Int32) then (zbv (F_Pend_push M7 (3 : Int32) (0 : Int32) (0 : Int32)) fun M10 => some ((15 : Int32), M10)) else (if l1 = (122 : Int32) then (zbv (F_Pend_push M7 (2 : Int32) l2 (0 : Int32)) fun M13 => some ((21 : Int32), M13)) else (if l1 = (152 : Int32) then (zbv (F_Pend_push M7 (1 : Int32) (9 : Int32) (-1 : Int32)) fun M16 => some ((22 : Int32), M16)) else (some ((-1 : Int32), M7))))) else (zbv (F_Proc_beginCall M7 (l1 - (110 : Int32)) l2) fun M19 => zbv (F_Pend_push M19 (4 : Int32) l2 (0 : Int32)) fun M21 => some ((17 : Int32), M21))) else (zbi (F_Proc_isOwn M4 (l1 - (100 : Int32))) fun r25 M23 => if r25 = 0 then (F_Expr_factor_p24 M23 (l1 - (100 : Int32)) ((2 : Int32))) else (F_Expr_factor_p24 M23 (l1 - (100 : Int32)) ((3 : Int32))))) else (zbi (F_Expr_simpleFactor M1 (1 : Int32) l1) fun r28 M26 => some (r28, M26))
set_option maxRecDepth 100000 in
theorem G_Expr_factor {M : zMem} {l1 l2 : Int32} {y : Int32 × zMem} (h : F_Expr_factor M l1 l2 = some y) : zGo Y_Expr_factor 2 0 (zal Y_Expr_factor [.inr 25, .inl l1, .inl l2]) [] M (some y.1) y.2 := by
  unfold F_Expr_factor at h
  show zGo Y_Expr_factor 2 0 [some (.inr 25), some (.inl l1), some (.inl l2), none] [] M _ _
  refine go_iload_n K_Expr_factor rfl rfl ?_
  obtain ⟨r3, M1, h2, h⟩ := zbi_ex h
  refine go_si (Y' := Y_Tok_isNumber) (av := [.inl l1]) (rest := []) K_Expr_factor rfl zl_1_49 zm_Tok_isNumber rfl (G_Tok_isNumber h2) (Nat.le_of_ble_eq_true rfl) (Nat.le_of_ble_eq_true rfl) rfl ?_
  refine go_if_eq K_Expr_factor rfl (fun c => ?_) (fun c => ?_)
  · have h := zif_t c h
    refine go_iload_n K_Expr_factor rfl rfl ?_
    obtain ⟨r6, M4, h5, h⟩ := zbi_ex h
    refine go_si (Y' := Y_Tok_isName) (av := [.inl l1]) (rest := []) K_Expr_factor rfl zl_1_56 zm_Tok_isName rfl (G_Tok_isName h5) (Nat.le_of_ble_eq_true rfl) (Nat.le_of_ble_eq_true rfl) rfl ?_
    refine go_if_eq K_Expr_factor rfl (fun c => ?_) (fun c => ?_)
    · have h := zif_t c h
      refine go_iload_n K_Expr_factor rfl rfl ?_
      obtain ⟨r9, M7, h8, h⟩ := zbi_ex h
      refine go_si (Y' := Y_Tok_isProcedure) (av := [.inl l1]) (rest := []) K_Expr_factor rfl zl_1_64 zm_Tok_isProcedure rfl (G_Tok_isProcedure h8) (Nat.le_of_ble_eq_true rfl) (Nat.le_of_ble_eq_true rfl) rfl ?_
      refine go_if_eq K_Expr_factor rfl (fun c => ?_) (fun c => ?_)
      · have h := zif_t c h
        refine go_iload_n K_Expr_factor rfl rfl ?_
        by_cases c12 : l1 = (108 : Int32)
        · have h := zif_t c12 h
          refine go_switch (k' := 47) (off := 35) K_Expr_factor rfl (by show zsw _ (l1) = _; rw [c12]; decide) (by decide) ?_
          refine go_aload_n K_Expr_factor rfl rfl ?_
          refine go_getR K_Expr_factor rfl zf_1_19 ?_
          refine go_iconst K_Expr_factor rfl zk_iconst_3 ?_
          refine go_iconst K_Expr_factor rfl zk_iconst_0 ?_
          refine go_iconst K_Expr_factor rfl zk_iconst_0 ?_
          obtain ⟨M10, h11, h⟩ := zbv_ex h
          refine go_vv (Y' := Y_Pend_push) (av := [.inl (3 : Int32), .inl (0 : Int32), .inl (0 : Int32)]) (rest := []) K_Expr_factor rfl zl_1_41 zm_Pend_push rfl (G_Pend_push h11) (Nat.le_of_ble_eq_true rfl) (Nat.le_of_ble_eq_true rfl) rfl ?_
          refine go_bipush K_Expr_factor rfl zk_bipush_15 ?_
          cases h
          exact go_ireturn K_Expr_factor rfl rfl
        have h := zif_f c12 h
        by_cases c15 : l1 = (122 : Int32)
        · have h := zif_t c15 h
          refine go_switch (k' := 55) (off := 48) K_Expr_factor rfl (by show zsw _ (l1) = _; rw [c15]; decide) (by decide) ?_
          refine go_aload_n K_Expr_factor rfl rfl ?_
          refine go_getR K_Expr_factor rfl zf_1_19 ?_
          refine go_iconst K_Expr_factor rfl zk_iconst_2 ?_
          refine go_iload_n K_Expr_factor rfl rfl ?_
          refine go_iconst K_Expr_factor rfl zk_iconst_0 ?_
          obtain ⟨M13, h14, h⟩ := zbv_ex h
          refine go_vv (Y' := Y_Pend_push) (av := [.inl (2 : Int32), .inl l2, .inl (0 : Int32)]) (rest := []) K_Expr_factor rfl zl_1_41 zm_Pend_push rfl (G_Pend_push h14) (Nat.le_of_ble_eq_true rfl) (Nat.le_of_ble_eq_true rfl) rfl ?_
          refine go_bipush K_Expr_factor rfl zk_bipush_21 ?_
          cases h
          exact go_ireturn K_Expr_factor rfl rfl
        have h := zif_f c15 h
        by_cases c18 : l1 = (152 : Int32)
        · have h := zif_t c18 h
          refine go_switch (k' := 63) (off := 61) K_Expr_factor rfl (by show zsw _ (l1) = _; rw [c18]; decide) (by decide) ?_
          refine go_aload_n K_Expr_factor rfl rfl ?_
          refine go_getR K_Expr_factor rfl zf_1_19 ?_
          refine go_iconst K_Expr_factor rfl zk_iconst_1 ?_
          refine go_bipush K_Expr_factor rfl zk_bipush_9 ?_
          refine go_iconst K_Expr_factor rfl zk_iconst_m1 ?_
          obtain ⟨M16, h17, h⟩ := zbv_ex h
          refine go_vv (Y' := Y_Pend_push) (av := [.inl (1 : Int32), .inl (9 : Int32), .inl (-1 : Int32)]) (rest := []) K_Expr_factor rfl zl_1_41 zm_Pend_push rfl (G_Pend_push h17) (Nat.le_of_ble_eq_true rfl) (Nat.le_of_ble_eq_true rfl) rfl ?_
          refine go_bipush K_Expr_factor rfl zk_bipush_22 ?_
          cases h
          exact go_ireturn K_Expr_factor rfl rfl
        have h := zif_f c18 h
        refine go_switch (k' := 71) (off := 75) K_Expr_factor rfl (by simp [zsw, Op.lookupswitch.offset, zti c12 (n := 108) (by decide), zti c15 (n := 122) (by decide), zti c18 (n := 152) (by decide)]) (by decide) ?_
        refine go_iconst K_Expr_factor rfl zk_iconst_m1 ?_
        cases h
        exact go_ireturn K_Expr_factor rfl rfl
      · have h := zif_f c h
        refine go_aload_n K_Expr_factor rfl rfl ?_
        refine go_getR K_Expr_factor rfl zf_1_15 ?_
        refine go_iload_n K_Expr_factor rfl rfl ?_
        refine go_bipush K_Expr_factor rfl zk_bipush_110 ?_
        refine go_isub K_Expr_factor rfl ?_
        refine go_iload_n K_Expr_factor rfl rfl ?_
        obtain ⟨M19, h20, h⟩ := zbv_ex h
        refine go_vv (Y' := Y_Proc_beginCall) (av := [.inl (l1 - (110 : Int32)), .inl l2]) (rest := []) K_Expr_factor rfl zl_1_67 zm_Proc_beginCall rfl (G_Proc_beginCall h20) (Nat.le_of_ble_eq_true rfl) (Nat.le_of_ble_eq_true rfl) rfl ?_
        refine go_aload_n K_Expr_factor rfl rfl ?_
        refine go_getR K_Expr_factor rfl zf_1_19 ?_
        refine go_iconst K_Expr_factor rfl zk_iconst_4 ?_
        refine go_iload_n K_Expr_factor rfl rfl ?_
        refine go_iconst K_Expr_factor rfl zk_iconst_0 ?_
        obtain ⟨M21, h22, h⟩ := zbv_ex h
        refine go_vv (Y' := Y_Pend_push) (av := [.inl (4 : Int32), .inl l2, .inl (0 : Int32)]) (rest := []) K_Expr_factor rfl zl_1_41 zm_Pend_push rfl (G_Pend_push h22) (Nat.le_of_ble_eq_true rfl) (Nat.le_of_ble_eq_true rfl) rfl ?_
        refine go_bipush K_Expr_factor rfl zk_bipush_17 ?_
        cases h
        exact go_ireturn K_Expr_factor rfl rfl
    · have h := zif_f c h
      refine go_iload_n K_Expr_factor rfl rfl ?_
      refine go_bipush K_Expr_factor rfl zk_bipush_100 ?_
      refine go_isub K_Expr_factor rfl ?_
      refine go_istore_n K_Expr_factor rfl (Nat.le_of_ble_eq_true rfl) ?_
      refine go_aload_n K_Expr_factor rfl rfl ?_
      refine go_aload_n K_Expr_factor rfl rfl ?_
      refine go_getR K_Expr_factor rfl zf_1_15 ?_
      refine go_iload_n K_Expr_factor rfl rfl ?_
      obtain ⟨r25, M23, h24, h⟩ := zbi_ex h
      refine go_vi (Y' := Y_Proc_isOwn) (av := [.inl (l1 - (100 : Int32))]) (rest := [.inr 25]) K_Expr_factor rfl zl_1_59 zm_Proc_isOwn rfl (G_Proc_isOwn h24) (Nat.le_of_ble_eq_true rfl) (Nat.le_of_ble_eq_true rfl) rfl ?_
      refine go_if_eq K_Expr_factor rfl (fun c => ?_) (fun c => ?_)
      · have h := zif_t c h
        refine go_iconst K_Expr_factor rfl zk_iconst_2 ?_
        exact go_forget (G_Expr_factor_p24 h) (zs_n (zs_n (zs_n (zs_s zs_e))))
      · have h := zif_f c h
        refine go_iconst K_Expr_factor rfl zk_iconst_3 ?_
        refine go_goto K_Expr_factor rfl ?_
        exact go_forget (G_Expr_factor_p24 h) (zs_n (zs_n (zs_n (zs_s zs_e))))
  · have h := zif_f c h
    refine go_aload_n K_Expr_factor rfl rfl ?_
    refine go_iconst K_Expr_factor rfl zk_iconst_1 ?_
    refine go_iload_n K_Expr_factor rfl rfl ?_
    obtain ⟨r28, M26, h27, h⟩ := zbi_ex h
    refine go_vi (Y' := Y_Expr_simpleFactor) (av := [.inl (1 : Int32), .inl l1]) (rest := []) K_Expr_factor rfl zl_1_53 zm_Expr_simpleFactor rfl (G_Expr_simpleFactor h27) (Nat.le_of_ble_eq_true rfl) (Nat.le_of_ble_eq_true rfl) rfl ?_
    cases h
    exact go_ireturn K_Expr_factor rfl rfl
def F_Plain_leaveOut (M : zMem) (l1 : Int32) : Option (zMem) :=
  if l1 < 0 then (some M) else (if (150 : Int32) ≤ l1 then (some M) else (zix l1 150 (zset M 21 l1.toNatClampNeg ((1 : Int32)) fun M2 => some M2)))
set_option maxRecDepth 100000 in
theorem G_Plain_leaveOut {M : zMem} {l1 : Int32} {y : zMem} (h : F_Plain_leaveOut M l1 = some y) : zGo Y_Plain_leaveOut 0 0 (zal Y_Plain_leaveOut [.inr 19, .inl l1]) [] M none y := by
  unfold F_Plain_leaveOut at h
  show zGo Y_Plain_leaveOut 0 0 [some (.inr 19), some (.inl l1)] [] M _ _
  refine go_iload_n K_Plain_leaveOut rfl rfl ?_
  refine go_if_lt K_Plain_leaveOut rfl (fun c => ?_) (fun c => ?_)
  · have h := zif_t c h
    cases h
    exact go_return K_Plain_leaveOut rfl rfl
  · have h := zif_f c h
    refine go_iload_n K_Plain_leaveOut rfl rfl ?_
    refine go_aload_n K_Plain_leaveOut rfl rfl ?_
    refine go_getR K_Plain_leaveOut rfl zf_7_15 ?_
    refine go_alen K_Plain_leaveOut rfl za_21 zlen_150 ?_
    refine go_icmp_ge K_Plain_leaveOut rfl (fun c => ?_) (fun c => ?_)
    · have h := zif_t c h
      cases h
      exact go_return K_Plain_leaveOut rfl rfl
    · have h := zif_f c h
      refine go_aload_n K_Plain_leaveOut rfl rfl ?_
      refine go_getR K_Plain_leaveOut rfl zf_7_15 ?_
      refine go_iload_n K_Plain_leaveOut rfl rfl ?_
      refine go_iconst K_Plain_leaveOut rfl zk_iconst_1 ?_
      obtain ⟨i1, h⟩ := zix_ex h
      obtain ⟨M2, e3, h⟩ := zset_ex h
      refine go_zast' e3 K_Plain_leaveOut rfl za_21 i1 (Or.inr rfl) ?_
      cases h
      exact go_return K_Plain_leaveOut rfl rfl
def F_Expr_begin (M : zMem) (l1 l2 : Int32) : Option (Int32 × zMem) :=
  if l1 = (130 : Int32) then (zbv (F_Plain_leaveOut M l2) fun M6 => some ((22 : Int32), M6)) else (if l1 = (131 : Int32) then (zbv (F_Pend_push M (1 : Int32) (8 : Int32) (-1 : Int32)) fun M4 => some ((22 : Int32), M4)) else (zbi (F_Expr_factor M l1 l2) fun r3 M1 => some (r3, M1)))
set_option maxRecDepth 100000 in
theorem G_Expr_begin {M : zMem} {l1 l2 : Int32} {y : Int32 × zMem} (h : F_Expr_begin M l1 l2 = some y) : zGo Y_Expr_begin 3 0 (zal Y_Expr_begin [.inr 25, .inl l1, .inl l2]) [] M (some y.1) y.2 := by
  unfold F_Expr_begin at h
  show zGo Y_Expr_begin 3 0 [some (.inr 25), some (.inl l1), some (.inl l2)] [] M _ _
  refine go_iload_n K_Expr_begin rfl rfl ?_
  refine go_sipush K_Expr_begin rfl zk_sipush_130 ?_
  refine go_icmp_ne K_Expr_begin rfl (fun c => ?_) (fun c => ?_)
  · have h := zif_f c h
    refine go_iload_n K_Expr_begin rfl rfl ?_
    refine go_sipush K_Expr_begin rfl zk_sipush_131 ?_
    refine go_icmp_ne K_Expr_begin rfl (fun c => ?_) (fun c => ?_)
    · have h := zif_f c h
      refine go_aload_n K_Expr_begin rfl rfl ?_
      refine go_iload_n K_Expr_begin rfl rfl ?_
      refine go_iload_n K_Expr_begin rfl rfl ?_
      obtain ⟨r3, M1, h2, h⟩ := zbi_ex h
      refine go_vi (Y' := Y_Expr_factor) (av := [.inl l1, .inl l2]) (rest := []) K_Expr_begin rfl zl_1_45 zm_Expr_factor rfl (G_Expr_factor h2) (Nat.le_of_ble_eq_true rfl) (Nat.le_of_ble_eq_true rfl) rfl ?_
      cases h
      exact go_ireturn K_Expr_begin rfl rfl
    · have h := zif_t c h
      refine go_aload_n K_Expr_begin rfl rfl ?_
      refine go_getR K_Expr_begin rfl zf_1_19 ?_
      refine go_iconst K_Expr_begin rfl zk_iconst_1 ?_
      refine go_bipush K_Expr_begin rfl zk_bipush_8 ?_
      refine go_iconst K_Expr_begin rfl zk_iconst_m1 ?_
      obtain ⟨M4, h5, h⟩ := zbv_ex h
      refine go_vv (Y' := Y_Pend_push) (av := [.inl (1 : Int32), .inl (8 : Int32), .inl (-1 : Int32)]) (rest := []) K_Expr_begin rfl zl_1_41 zm_Pend_push rfl (G_Pend_push h5) (Nat.le_of_ble_eq_true rfl) (Nat.le_of_ble_eq_true rfl) rfl ?_
      refine go_bipush K_Expr_begin rfl zk_bipush_22 ?_
      cases h
      exact go_ireturn K_Expr_begin rfl rfl
  · have h := zif_t c h
    refine go_aload_n K_Expr_begin rfl rfl ?_
    refine go_getR K_Expr_begin rfl zf_1_23 ?_
    refine go_iload_n K_Expr_begin rfl rfl ?_
    obtain ⟨M6, h7, h⟩ := zbv_ex h
    refine go_vv (Y' := Y_Plain_leaveOut) (av := [.inl l2]) (rest := []) K_Expr_begin rfl zl_1_29 zm_Plain_leaveOut rfl (G_Plain_leaveOut h7) (Nat.le_of_ble_eq_true rfl) (Nat.le_of_ble_eq_true rfl) rfl ?_
    refine go_bipush K_Expr_begin rfl zk_bipush_22 ?_
    cases h
    exact go_ireturn K_Expr_begin rfl rfl
def F_Plain_putInBrackets (M : zMem) (l1 l2 : Int32) : Option (zMem) :=
  zset M 19 4 l1 fun M1 => zset M1 19 5 l2 fun M3 => some M3
set_option maxRecDepth 100000 in
theorem G_Plain_putInBrackets {M : zMem} {l1 l2 : Int32} {y : zMem} (h : F_Plain_putInBrackets M l1 l2 = some y) : zGo Y_Plain_putInBrackets 0 0 (zal Y_Plain_putInBrackets [.inr 19, .inl l1, .inl l2]) [] M none y := by
  unfold F_Plain_putInBrackets at h
  show zGo Y_Plain_putInBrackets 0 0 [some (.inr 19), some (.inl l1), some (.inl l2)] [] M _ _
  refine go_aload_n K_Plain_putInBrackets rfl rfl ?_
  refine go_iload_n K_Plain_putInBrackets rfl rfl ?_
  obtain ⟨M1, e2, h⟩ := zset_ex h
  refine go_putI' e2 K_Plain_putInBrackets rfl zf_7_31 ?_
  refine go_aload_n K_Plain_putInBrackets rfl rfl ?_
  refine go_iload_n K_Plain_putInBrackets rfl rfl ?_
  obtain ⟨M3, e4, h⟩ := zset_ex h
  refine go_putI' e4 K_Plain_putInBrackets rfl zf_7_34 ?_
  cases h
  exact go_return K_Plain_putInBrackets rfl rfl
def F_Expr_closeBracket (M : zMem) (l1 : Int32) : Option (Int32 × zMem) :=
  zbi (F_Pend_first M ) fun r3 M1 => zbv (F_Plain_putInBrackets M1 r3 l1) fun M4 => zbv (F_Pend_pop M4 ) fun M6 => some ((23 : Int32), M6)
set_option maxRecDepth 100000 in
theorem G_Expr_closeBracket {M : zMem} {l1 : Int32} {y : Int32 × zMem} (h : F_Expr_closeBracket M l1 = some y) : zGo Y_Expr_closeBracket 1 0 (zal Y_Expr_closeBracket [.inr 25, .inl l1]) [] M (some y.1) y.2 := by
  unfold F_Expr_closeBracket at h
  show zGo Y_Expr_closeBracket 1 0 [some (.inr 25), some (.inl l1)] [] M _ _
  refine go_aload_n K_Expr_closeBracket rfl rfl ?_
  refine go_getR K_Expr_closeBracket rfl zf_1_23 ?_
  refine go_aload_n K_Expr_closeBracket rfl rfl ?_
  refine go_getR K_Expr_closeBracket rfl zf_1_19 ?_
  obtain ⟨r3, M1, h2, h⟩ := zbi_ex h
  refine go_vi (Y' := Y_Pend_first) (av := []) (rest := [.inr 19]) K_Expr_closeBracket rfl zl_1_95 zm_Pend_first rfl (G_Pend_first h2) (Nat.le_of_ble_eq_true rfl) (Nat.le_of_ble_eq_true rfl) rfl ?_
  refine go_iload_n K_Expr_closeBracket rfl rfl ?_
  obtain ⟨M4, h5, h⟩ := zbv_ex h
  refine go_vv (Y' := Y_Plain_putInBrackets) (av := [.inl r3, .inl l1]) (rest := []) K_Expr_closeBracket rfl zl_1_107 zm_Plain_putInBrackets rfl (G_Plain_putInBrackets h5) (Nat.le_of_ble_eq_true rfl) (Nat.le_of_ble_eq_true rfl) rfl ?_
  refine go_aload_n K_Expr_closeBracket rfl rfl ?_
  refine go_getR K_Expr_closeBracket rfl zf_1_19 ?_
  obtain ⟨M6, h7, h⟩ := zbv_ex h
  refine go_vv (Y' := Y_Pend_pop) (av := []) (rest := []) K_Expr_closeBracket rfl zl_1_104 zm_Pend_pop rfl (G_Pend_pop h7) (Nat.le_of_ble_eq_true rfl) (Nat.le_of_ble_eq_true rfl) rfl ?_
  refine go_bipush K_Expr_closeBracket rfl zk_bipush_23 ?_
  cases h
  exact go_ireturn K_Expr_closeBracket rfl rfl
def F_Expr_closeIndex (M : zMem) : Option (Int32 × zMem) :=
  zbv (F_Pend_pop M ) fun M1 => zbi (F_Expr_simpleFactor M1 (4 : Int32) (0 : Int32)) fun r5 M3 => some (r5, M3)
set_option maxRecDepth 100000 in
theorem G_Expr_closeIndex {M : zMem} {y : Int32 × zMem} (h : F_Expr_closeIndex M  = some y) : zGo Y_Expr_closeIndex 2 0 (zal Y_Expr_closeIndex [.inr 25]) [] M (some y.1) y.2 := by
  unfold F_Expr_closeIndex at h
  show zGo Y_Expr_closeIndex 2 0 [some (.inr 25)] [] M _ _
  refine go_aload_n K_Expr_closeIndex rfl rfl ?_
  refine go_getR K_Expr_closeIndex rfl zf_1_19 ?_
  obtain ⟨M1, h2, h⟩ := zbv_ex h
  refine go_vv (Y' := Y_Pend_pop) (av := []) (rest := []) K_Expr_closeIndex rfl zl_1_104 zm_Pend_pop rfl (G_Pend_pop h2) (Nat.le_of_ble_eq_true rfl) (Nat.le_of_ble_eq_true rfl) rfl ?_
  refine go_aload_n K_Expr_closeIndex rfl rfl ?_
  refine go_iconst K_Expr_closeIndex rfl zk_iconst_4 ?_
  refine go_iconst K_Expr_closeIndex rfl zk_iconst_0 ?_
  obtain ⟨r5, M3, h4, h⟩ := zbi_ex h
  refine go_vi (Y' := Y_Expr_simpleFactor) (av := [.inl (4 : Int32), .inl (0 : Int32)]) (rest := []) K_Expr_closeIndex rfl zl_1_53 zm_Expr_simpleFactor rfl (G_Expr_simpleFactor h4) (Nat.le_of_ble_eq_true rfl) (Nat.le_of_ble_eq_true rfl) rfl ?_
  cases h
  exact go_ireturn K_Expr_closeIndex rfl rfl
def F_Plain_becomeLevel (M : zMem) (l1 : Int32) : Option (zMem) :=
  zset M 19 3 l1 fun M1 => some M1
set_option maxRecDepth 100000 in
theorem G_Plain_becomeLevel {M : zMem} {l1 : Int32} {y : zMem} (h : F_Plain_becomeLevel M l1 = some y) : zGo Y_Plain_becomeLevel 0 0 (zal Y_Plain_becomeLevel [.inr 19, .inl l1]) [] M none y := by
  unfold F_Plain_becomeLevel at h
  show zGo Y_Plain_becomeLevel 0 0 [some (.inr 19), some (.inl l1)] [] M _ _
  refine go_aload_n K_Plain_becomeLevel rfl rfl ?_
  refine go_iload_n K_Plain_becomeLevel rfl rfl ?_
  obtain ⟨M1, e2, h⟩ := zset_ex h
  refine go_putI' e2 K_Plain_becomeLevel rfl zf_7_28 ?_
  cases h
  exact go_return K_Plain_becomeLevel rfl rfl
def F_Plain_judgeBrackets_p34 (M : zMem) : Option (zMem) :=
  zset M 19 4 ((-1 : Int32)) fun M1 => some M1
set_option maxRecDepth 100000 in
theorem G_Plain_judgeBrackets_p34 {M : zMem} {y : zMem} (h : F_Plain_judgeBrackets_p34 M  = some y) : zGo Y_Plain_judgeBrackets 0 34 [some (.inr 19), none] [] M none y := by
  unfold F_Plain_judgeBrackets_p34 at h
  refine go_aload_n K_Plain_judgeBrackets rfl rfl ?_
  refine go_iconst K_Plain_judgeBrackets rfl zk_iconst_m1 ?_
  obtain ⟨M1, e2, h⟩ := zset_ex h
  refine go_putI' e2 K_Plain_judgeBrackets rfl zf_7_31 ?_
  cases h
  exact go_return K_Plain_judgeBrackets rfl rfl
def F_Plain_judgeBrackets (M : zMem) (l1 : Int32) : Option (zMem) :=
  if (M 19 3) < l1 then (F_Plain_judgeBrackets_p34 M ) else (if (M 19 4) < 0 then (F_Plain_judgeBrackets_p34 M ) else (if (150 : Int32) ≤ (M 19 4) then (F_Plain_judgeBrackets_p34 M ) else (if (M 19 5) < 0 then (F_Plain_judgeBrackets_p34 M ) else (if (150 : Int32) ≤ (M 19 5) then (F_Plain_judgeBrackets_p34 M ) else (zix (M 19 4) 150 (zset M 21 (M 19 4).toNatClampNeg ((1 : Int32)) fun M2 => zix (M2 19 5) 150 (zset M2 21 (M2 19 5).toNatClampNeg ((1 : Int32)) fun M5 => F_Plain_judgeBrackets_p34 M5 )))))))
set_option maxRecDepth 100000 in
theorem G_Plain_judgeBrackets {M : zMem} {l1 : Int32} {y : zMem} (h : F_Plain_judgeBrackets M l1 = some y) : zGo Y_Plain_judgeBrackets 0 0 (zal Y_Plain_judgeBrackets [.inr 19, .inl l1]) [] M none y := by
  unfold F_Plain_judgeBrackets at h
  show zGo Y_Plain_judgeBrackets 0 0 [some (.inr 19), some (.inl l1)] [] M _ _
  refine go_aload_n K_Plain_judgeBrackets rfl rfl ?_
  refine go_getI K_Plain_judgeBrackets rfl zf_7_28 ?_
  refine go_iload_n K_Plain_judgeBrackets rfl rfl ?_
  refine go_icmp_lt K_Plain_judgeBrackets rfl (fun c => ?_) (fun c => ?_)
  · have h := zif_t c h
    exact go_forget (G_Plain_judgeBrackets_p34 h) (zs_s (zs_n zs_e))
  · have h := zif_f c h
    refine go_aload_n K_Plain_judgeBrackets rfl rfl ?_
    refine go_getI K_Plain_judgeBrackets rfl zf_7_31 ?_
    refine go_if_lt K_Plain_judgeBrackets rfl (fun c => ?_) (fun c => ?_)
    · have h := zif_t c h
      exact go_forget (G_Plain_judgeBrackets_p34 h) (zs_s (zs_n zs_e))
    · have h := zif_f c h
      refine go_aload_n K_Plain_judgeBrackets rfl rfl ?_
      refine go_getI K_Plain_judgeBrackets rfl zf_7_31 ?_
      refine go_aload_n K_Plain_judgeBrackets rfl rfl ?_
      refine go_getR K_Plain_judgeBrackets rfl zf_7_15 ?_
      refine go_alen K_Plain_judgeBrackets rfl za_21 zlen_150 ?_
      refine go_icmp_ge K_Plain_judgeBrackets rfl (fun c => ?_) (fun c => ?_)
      · have h := zif_t c h
        exact go_forget (G_Plain_judgeBrackets_p34 h) (zs_s (zs_n zs_e))
      · have h := zif_f c h
        refine go_aload_n K_Plain_judgeBrackets rfl rfl ?_
        refine go_getI K_Plain_judgeBrackets rfl zf_7_34 ?_
        refine go_if_lt K_Plain_judgeBrackets rfl (fun c => ?_) (fun c => ?_)
        · have h := zif_t c h
          exact go_forget (G_Plain_judgeBrackets_p34 h) (zs_s (zs_n zs_e))
        · have h := zif_f c h
          refine go_aload_n K_Plain_judgeBrackets rfl rfl ?_
          refine go_getI K_Plain_judgeBrackets rfl zf_7_34 ?_
          refine go_aload_n K_Plain_judgeBrackets rfl rfl ?_
          refine go_getR K_Plain_judgeBrackets rfl zf_7_15 ?_
          refine go_alen K_Plain_judgeBrackets rfl za_21 zlen_150 ?_
          refine go_icmp_ge K_Plain_judgeBrackets rfl (fun c => ?_) (fun c => ?_)
          · have h := zif_t c h
            exact go_forget (G_Plain_judgeBrackets_p34 h) (zs_s (zs_n zs_e))
          · have h := zif_f c h
            refine go_aload_n K_Plain_judgeBrackets rfl rfl ?_
            refine go_getR K_Plain_judgeBrackets rfl zf_7_15 ?_
            refine go_aload_n K_Plain_judgeBrackets rfl rfl ?_
            refine go_getI K_Plain_judgeBrackets rfl zf_7_31 ?_
            refine go_iconst K_Plain_judgeBrackets rfl zk_iconst_1 ?_
            obtain ⟨i1, h⟩ := zix_ex h
            obtain ⟨M2, e3, h⟩ := zset_ex h
            refine go_zast' e3 K_Plain_judgeBrackets rfl za_21 i1 (Or.inr rfl) ?_
            refine go_aload_n K_Plain_judgeBrackets rfl rfl ?_
            refine go_getR K_Plain_judgeBrackets rfl zf_7_15 ?_
            refine go_aload_n K_Plain_judgeBrackets rfl rfl ?_
            refine go_getI K_Plain_judgeBrackets rfl zf_7_34 ?_
            refine go_iconst K_Plain_judgeBrackets rfl zk_iconst_1 ?_
            obtain ⟨i4, h⟩ := zix_ex h
            obtain ⟨M5, e6, h⟩ := zset_ex h
            refine go_zast' e6 K_Plain_judgeBrackets rfl za_21 i4 (Or.inr rfl) ?_
            exact go_forget (G_Plain_judgeBrackets_p34 h) (zs_s (zs_n zs_e))
def F_Expr_endOperator_p10 (M : zMem) (l1 l2 l3 s1 : Int32) : Option (zMem) :=
  zbv (F_Plain_judgeBrackets M s1) fun M1 => zbv (F_Plain_becomeLevel M1 l2) fun M3 => if l3 = (-1 : Int32) then (zbi (F_Code_emit M3 l1 (0 : Int32)) fun r12 M10 => some M10) else (zbi (F_Code_emit M3 (10 : Int32) (0 : Int32)) fun r7 M5 => zbv (F_Code_leadHere M5 l3) fun M8 => some M8)
set_option maxRecDepth 100000 in
theorem G_Expr_endOperator_p10 {M : zMem} {l1 l2 l3 s1 : Int32} {y : zMem} (h : F_Expr_endOperator_p10 M l1 l2 l3 s1 = some y) : zGo Y_Expr_endOperator 1 10 [some (.inr 25), some (.inl l1), some (.inl l2), some (.inl l3)] [.inl s1, .inr 19] M none y := by
  unfold F_Expr_endOperator_p10 at h
  obtain ⟨M1, h2, h⟩ := zbv_ex h
  refine go_vv (Y' := Y_Plain_judgeBrackets) (av := [.inl s1]) (rest := []) K_Expr_endOperator rfl zl_1_89 zm_Plain_judgeBrackets rfl (G_Plain_judgeBrackets h2) (Nat.le_of_ble_eq_true rfl) (Nat.le_of_ble_eq_true rfl) rfl ?_
  refine go_aload_n K_Expr_endOperator rfl rfl ?_
  refine go_getR K_Expr_endOperator rfl zf_1_23 ?_
  refine go_iload_n K_Expr_endOperator rfl rfl ?_
  obtain ⟨M3, h4, h⟩ := zbv_ex h
  refine go_vv (Y' := Y_Plain_becomeLevel) (av := [.inl l2]) (rest := []) K_Expr_endOperator rfl zl_1_125 zm_Plain_becomeLevel rfl (G_Plain_becomeLevel h4) (Nat.le_of_ble_eq_true rfl) (Nat.le_of_ble_eq_true rfl) rfl ?_
  refine go_iload_n K_Expr_endOperator rfl rfl ?_
  refine go_iconst K_Expr_endOperator rfl zk_iconst_m1 ?_
  refine go_icmp_ne K_Expr_endOperator rfl (fun c => ?_) (fun c => ?_)
  · have h := zif_f c h
    refine go_aload_n K_Expr_endOperator rfl rfl ?_
    refine go_getR K_Expr_endOperator rfl zf_1_9 ?_
    refine go_bipush K_Expr_endOperator rfl zk_bipush_10 ?_
    refine go_iconst K_Expr_endOperator rfl zk_iconst_0 ?_
    obtain ⟨r7, M5, h6, h⟩ := zbi_ex h
    refine go_vi (Y' := Y_Code_emit) (av := [.inl (10 : Int32), .inl (0 : Int32)]) (rest := []) K_Expr_endOperator rfl zl_1_92 zm_Code_emit rfl (G_Code_emit h6) (Nat.le_of_ble_eq_true rfl) (Nat.le_of_ble_eq_true rfl) rfl ?_
    refine go_pop K_Expr_endOperator rfl ?_
    refine go_aload_n K_Expr_endOperator rfl rfl ?_
    refine go_getR K_Expr_endOperator rfl zf_1_9 ?_
    refine go_iload_n K_Expr_endOperator rfl rfl ?_
    obtain ⟨M8, h9, h⟩ := zbv_ex h
    refine go_vv (Y' := Y_Code_leadHere) (av := [.inl l3]) (rest := []) K_Expr_endOperator rfl zl_1_128 zm_Code_leadHere rfl (G_Code_leadHere h9) (Nat.le_of_ble_eq_true rfl) (Nat.le_of_ble_eq_true rfl) rfl ?_
    cases h
    exact go_return K_Expr_endOperator rfl rfl
  · have h := zif_t c h
    refine go_aload_n K_Expr_endOperator rfl rfl ?_
    refine go_getR K_Expr_endOperator rfl zf_1_9 ?_
    refine go_iload_n K_Expr_endOperator rfl rfl ?_
    refine go_iconst K_Expr_endOperator rfl zk_iconst_0 ?_
    obtain ⟨r12, M10, h11, h⟩ := zbi_ex h
    refine go_vi (Y' := Y_Code_emit) (av := [.inl l1, .inl (0 : Int32)]) (rest := []) K_Expr_endOperator rfl zl_1_92 zm_Code_emit rfl (G_Code_emit h11) (Nat.le_of_ble_eq_true rfl) (Nat.le_of_ble_eq_true rfl) rfl ?_
    refine go_pop K_Expr_endOperator rfl ?_
    refine go_goto K_Expr_endOperator rfl ?_
    cases h
    exact go_return K_Expr_endOperator rfl rfl
def F_Expr_endOperator (M : zMem) (l1 l2 l3 : Int32) : Option (zMem) :=
  if l1 = (9 : Int32) then (F_Expr_endOperator_p10 M l1 l2 l3 ((3 : Int32))) else (F_Expr_endOperator_p10 M l1 l2 l3 (l2 + (1 : Int32)))
set_option maxRecDepth 100000 in
theorem G_Expr_endOperator {M : zMem} {l1 l2 l3 : Int32} {y : zMem} (h : F_Expr_endOperator M l1 l2 l3 = some y) : zGo Y_Expr_endOperator 1 0 (zal Y_Expr_endOperator [.inr 25, .inl l1, .inl l2, .inl l3]) [] M none y := by
  unfold F_Expr_endOperator at h
  show zGo Y_Expr_endOperator 1 0 [some (.inr 25), some (.inl l1), some (.inl l2), some (.inl l3)] [] M _ _
  refine go_aload_n K_Expr_endOperator rfl rfl ?_
  refine go_getR K_Expr_endOperator rfl zf_1_23 ?_
  refine go_iload_n K_Expr_endOperator rfl rfl ?_
  refine go_bipush K_Expr_endOperator rfl zk_bipush_9 ?_
  refine go_icmp_ne K_Expr_endOperator rfl (fun c => ?_) (fun c => ?_)
  · have h := zif_f c h
    refine go_iload_n K_Expr_endOperator rfl rfl ?_
    refine go_iconst K_Expr_endOperator rfl zk_iconst_1 ?_
    refine go_iadd K_Expr_endOperator rfl ?_
    exact go_forget (G_Expr_endOperator_p10 h) (zs_s (zs_s (zs_s (zs_s zs_e))))
  · have h := zif_t c h
    refine go_iconst K_Expr_endOperator rfl zk_iconst_3 ?_
    refine go_goto K_Expr_endOperator rfl ?_
    exact go_forget (G_Expr_endOperator_p10 h) (zs_s (zs_s (zs_s (zs_s zs_e))))
def F_Level_ofOperator_p25 (M : zMem) (l0 : Int32) : Option (Int32 × zMem) :=
  if l0 = (150 : Int32) then (some ((2 : Int32), M)) else (some ((-1 : Int32), M))
set_option maxRecDepth 100000 in
theorem G_Level_ofOperator_p25 {M : zMem} {l0 : Int32} {y : Int32 × zMem} (h : F_Level_ofOperator_p25 M l0 = some y) : zGo Y_Level_ofOperator 0 25 [some (.inl l0)] [] M (some y.1) y.2 := by
  unfold F_Level_ofOperator_p25 at h
  refine go_iload_n K_Level_ofOperator rfl rfl ?_
  refine go_sipush K_Level_ofOperator rfl zk_sipush_150 ?_
  refine go_icmp_ne K_Level_ofOperator rfl (fun c => ?_) (fun c => ?_)
  · have h := zif_f c h
    refine go_iconst K_Level_ofOperator rfl zk_iconst_m1 ?_
    cases h
    exact go_ireturn K_Level_ofOperator rfl rfl
  · have h := zif_t c h
    refine go_iconst K_Level_ofOperator rfl zk_iconst_2 ?_
    cases h
    exact go_ireturn K_Level_ofOperator rfl rfl
def F_Level_ofOperator_p8 (M : zMem) (l0 : Int32) : Option (Int32 × zMem) :=
  if l0 = (130 : Int32) then (some ((1 : Int32), M)) else (if l0 = (131 : Int32) then (some ((1 : Int32), M)) else (if l0 = (151 : Int32) then (some ((1 : Int32), M)) else (if l0 < (132 : Int32) then (F_Level_ofOperator_p25 M l0) else (if l0 ≤ (134 : Int32) then (some ((2 : Int32), M)) else (F_Level_ofOperator_p25 M l0)))))
set_option maxRecDepth 100000 in
theorem G_Level_ofOperator_p8 {M : zMem} {l0 : Int32} {y : Int32 × zMem} (h : F_Level_ofOperator_p8 M l0 = some y) : zGo Y_Level_ofOperator 0 8 [some (.inl l0)] [] M (some y.1) y.2 := by
  unfold F_Level_ofOperator_p8 at h
  refine go_iload_n K_Level_ofOperator rfl rfl ?_
  refine go_sipush K_Level_ofOperator rfl zk_sipush_130 ?_
  refine go_icmp_eq K_Level_ofOperator rfl (fun c => ?_) (fun c => ?_)
  · have h := zif_t c h
    refine go_iconst K_Level_ofOperator rfl zk_iconst_1 ?_
    cases h
    exact go_ireturn K_Level_ofOperator rfl rfl
  · have h := zif_f c h
    refine go_iload_n K_Level_ofOperator rfl rfl ?_
    refine go_sipush K_Level_ofOperator rfl zk_sipush_131 ?_
    refine go_icmp_eq K_Level_ofOperator rfl (fun c => ?_) (fun c => ?_)
    · have h := zif_t c h
      refine go_iconst K_Level_ofOperator rfl zk_iconst_1 ?_
      cases h
      exact go_ireturn K_Level_ofOperator rfl rfl
    · have h := zif_f c h
      refine go_iload_n K_Level_ofOperator rfl rfl ?_
      refine go_sipush K_Level_ofOperator rfl zk_sipush_151 ?_
      refine go_icmp_ne K_Level_ofOperator rfl (fun c => ?_) (fun c => ?_)
      · have h := zif_f c h
        refine go_iload_n K_Level_ofOperator rfl rfl ?_
        refine go_sipush K_Level_ofOperator rfl zk_sipush_132 ?_
        refine go_icmp_lt K_Level_ofOperator rfl (fun c => ?_) (fun c => ?_)
        · have h := zif_t c h
          exact go_forget (G_Level_ofOperator_p25 h) (zs_s zs_e)
        · have h := zif_f c h
          refine go_iload_n K_Level_ofOperator rfl rfl ?_
          refine go_sipush K_Level_ofOperator rfl zk_sipush_134 ?_
          refine go_icmp_le K_Level_ofOperator rfl (fun c => ?_) (fun c => ?_)
          · have h := zif_t c h
            refine go_iconst K_Level_ofOperator rfl zk_iconst_2 ?_
            cases h
            exact go_ireturn K_Level_ofOperator rfl rfl
          · have h := zif_f c h
            exact go_forget (G_Level_ofOperator_p25 h) (zs_s zs_e)
      · have h := zif_t c h
        refine go_iconst K_Level_ofOperator rfl zk_iconst_1 ?_
        cases h
        exact go_ireturn K_Level_ofOperator rfl rfl
def F_Level_ofOperator (M : zMem) (l0 : Int32) : Option (Int32 × zMem) :=
  if l0 < (140 : Int32) then (F_Level_ofOperator_p8 M l0) else (if (145 : Int32) < l0 then (F_Level_ofOperator_p8 M l0) else (some ((0 : Int32), M)))
set_option maxRecDepth 100000 in
theorem G_Level_ofOperator {M : zMem} {l0 : Int32} {y : Int32 × zMem} (h : F_Level_ofOperator M l0 = some y) : zGo Y_Level_ofOperator 0 0 (zal Y_Level_ofOperator [.inl l0]) [] M (some y.1) y.2 := by
  unfold F_Level_ofOperator at h
  show zGo Y_Level_ofOperator 0 0 [some (.inl l0)] [] M _ _
  refine go_iload_n K_Level_ofOperator rfl rfl ?_
  refine go_sipush K_Level_ofOperator rfl zk_sipush_140 ?_
  refine go_icmp_lt K_Level_ofOperator rfl (fun c => ?_) (fun c => ?_)
  · have h := zif_t c h
    exact go_forget (G_Level_ofOperator_p8 h) (zs_s zs_e)
  · have h := zif_f c h
    refine go_iload_n K_Level_ofOperator rfl rfl ?_
    refine go_sipush K_Level_ofOperator rfl zk_sipush_145 ?_
    refine go_icmp_gt K_Level_ofOperator rfl (fun c => ?_) (fun c => ?_)
    · have h := zif_t c h
      exact go_forget (G_Level_ofOperator_p8 h) (zs_s zs_e)
    · have h := zif_f c h
      refine go_iconst K_Level_ofOperator rfl zk_iconst_0 ?_
      cases h
      exact go_ireturn K_Level_ofOperator rfl rfl
def F_Expr_levelOf (M : zMem) (l0 : Int32) : Option (Int32 × zMem) :=
  if l0 = (9 : Int32) then (some ((3 : Int32), M)) else (if l0 = (8 : Int32) then (some ((1 : Int32), M)) else (zbi (F_Level_ofOperator M l0) fun r3 M1 => some (r3, M1)))
set_option maxRecDepth 100000 in
theorem G_Expr_levelOf {M : zMem} {l0 : Int32} {y : Int32 × zMem} (h : F_Expr_levelOf M l0 = some y) : zGo Y_Expr_levelOf 1 0 (zal Y_Expr_levelOf [.inl l0]) [] M (some y.1) y.2 := by
  unfold F_Expr_levelOf at h
  show zGo Y_Expr_levelOf 1 0 [some (.inl l0)] [] M _ _
  refine go_iload_n K_Expr_levelOf rfl rfl ?_
  refine go_bipush K_Expr_levelOf rfl zk_bipush_9 ?_
  refine go_icmp_ne K_Expr_levelOf rfl (fun c => ?_) (fun c => ?_)
  · have h := zif_f c h
    refine go_iload_n K_Expr_levelOf rfl rfl ?_
    refine go_bipush K_Expr_levelOf rfl zk_bipush_8 ?_
    refine go_icmp_ne K_Expr_levelOf rfl (fun c => ?_) (fun c => ?_)
    · have h := zif_f c h
      refine go_iload_n K_Expr_levelOf rfl rfl ?_
      obtain ⟨r3, M1, h2, h⟩ := zbi_ex h
      refine go_si (Y' := Y_Level_ofOperator) (av := [.inl l0]) (rest := []) K_Expr_levelOf rfl zl_1_71 zm_Level_ofOperator rfl (G_Level_ofOperator h2) (Nat.le_of_ble_eq_true rfl) (Nat.le_of_ble_eq_true rfl) rfl ?_
      cases h
      exact go_ireturn K_Expr_levelOf rfl rfl
    · have h := zif_t c h
      refine go_iconst K_Expr_levelOf rfl zk_iconst_1 ?_
      refine go_goto K_Expr_levelOf rfl ?_
      cases h
      exact go_ireturn K_Expr_levelOf rfl rfl
  · have h := zif_t c h
    refine go_iconst K_Expr_levelOf rfl zk_iconst_3 ?_
    cases h
    exact go_ireturn K_Expr_levelOf rfl rfl
