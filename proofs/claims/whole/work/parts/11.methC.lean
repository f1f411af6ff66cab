def F_Pend_second (M : zMem) : Option (Int32 × zMem) :=
  if (M 15 3) ≤ 0 then (some ((0 : Int32), M)) else (if (150 : Int32) < (M 15 3) then (some ((0 : Int32), M)) else (zix ((M 15 3) - (1 : Int32)) 150 (some (M 18 ((M 15 3) - (1 : Int32)).toNatClampNeg, M))))
set_option maxRecDepth 100000 in
theorem G_Pend_second {M : zMem} {y : Int32 × zMem} (h : F_Pend_second M  = some y) : zGo Y_Pend_second 0 0 (zal Y_Pend_second [.inr 15]) [] M (some y.1) y.2 := by
  unfold F_Pend_second at h
  show zGo Y_Pend_second 0 0 [some (.inr 15)] [] M _ _
  refine go_aload_n K_Pend_second rfl rfl ?_
  refine go_getI K_Pend_second rfl zf_6_21 ?_
  refine go_if_le K_Pend_second rfl (fun c => ?_) (fun c => ?_)
  · have h := zif_t c h
    refine go_iconst K_Pend_second rfl zk_iconst_0 ?_
    cases h
    exact go_ireturn K_Pend_second rfl rfl
  · have h := zif_f c h
    refine go_aload_n K_Pend_second rfl rfl ?_
    refine go_getI K_Pend_second rfl zf_6_21 ?_
    refine go_sipush K_Pend_second rfl zk_sipush_150 ?_
    refine go_icmp_gt K_Pend_second rfl (fun c => ?_) (fun c => ?_)
    · have h := zif_t c h
      refine go_iconst K_Pend_second rfl zk_iconst_0 ?_
      cases h
      exact go_ireturn K_Pend_second rfl rfl
    · have h := zif_f c h
      refine go_aload_n K_Pend_second rfl rfl ?_
      refine go_getR K_Pend_second rfl zf_6_18 ?_
      refine go_aload_n K_Pend_second rfl rfl ?_
      refine go_getI K_Pend_second rfl zf_6_21 ?_
      refine go_iconst K_Pend_second rfl zk_iconst_1 ?_
      refine go_isub K_Pend_second rfl ?_
      obtain ⟨i1, h⟩ := zix_ex h
      refine go_iald K_Pend_second rfl za_18 i1 ?_
      refine go_goto K_Pend_second rfl ?_
      cases h
      exact go_ireturn K_Pend_second rfl rfl
def F_Expr_endOperators_p2 (N : Nat) : Nat → zMem → Int32 → Int32 → Option (zMem)
  | 0, _, _, _ => none
  | n + 1, M, l1, l2 =>
    if (150 : Int32) ≤ l2 then (some M) else (zbi (F_Pend_kind M ) fun r3 M1 => if r3 = (1 : Int32) then (zbi (F_Pend_first M1 ) fun r6 M4 => zbi (F_Expr_levelOf M4 r6) fun r9 M7 => if l1 ≤ r9 then (zbi (F_Pend_second M7 ) fun r12 M10 => zbv (F_Pend_pop M10 ) fun M13 => zbv (F_Expr_endOperator M13 r6 r9 r12) fun M15 => F_Expr_endOperators_p2 N n M15 l1 (l2 + (1 : Int32))) else (some M7)) else (some M1))
set_option maxRecDepth 100000 in
theorem G_Expr_endOperators_p2 {N : Nat} : ∀ (n : Nat) {M : zMem} {l1 l2 : Int32} {y : zMem}, F_Expr_endOperators_p2 N n M l1 l2 = some y → zGo Y_Expr_endOperators 2 2 [some (.inr 25), some (.inl l1), some (.inl l2), none, none, none] [] M none y := by
  intro n
  induction n with
  | zero =>
    intro M l1 l2 y h
    unfold F_Expr_endOperators_p2 at h
    cases h
  | succ n ih =>
    intro M l1 l2 y h
    unfold F_Expr_endOperators_p2 at h
    refine go_iload_n K_Expr_endOperators rfl rfl ?_
    refine go_sipush K_Expr_endOperators rfl zk_sipush_150 ?_
    refine go_icmp_ge K_Expr_endOperators rfl (fun c => ?_) (fun c => ?_)
    · have h := zif_t c h
      cases h
      exact go_return K_Expr_endOperators rfl rfl
    · have h := zif_f c h
      refine go_aload_n K_Expr_endOperators rfl rfl ?_
      refine go_getR K_Expr_endOperators rfl zf_1_19 ?_
      obtain ⟨r3, M1, h2, h⟩ := zbi_ex h
      refine go_vi (Y' := Y_Pend_kind) (av := []) (rest := []) K_Expr_endOperators rfl zl_1_85 zm_Pend_kind rfl (G_Pend_kind h2) (Nat.le_of_ble_eq_true rfl) (Nat.le_of_ble_eq_true rfl) rfl ?_
      refine go_iconst K_Expr_endOperators rfl zk_iconst_1 ?_
      refine go_icmp_ne K_Expr_endOperators rfl (fun c => ?_) (fun c => ?_)
      · have h := zif_f c h
        cases h
        exact go_return K_Expr_endOperators rfl rfl
      · have h := zif_t c h
        refine go_aload_n K_Expr_endOperators rfl rfl ?_
        refine go_getR K_Expr_endOperators rfl zf_1_19 ?_
        obtain ⟨r6, M4, h5, h⟩ := zbi_ex h
        refine go_vi (Y' := Y_Pend_first) (av := []) (rest := []) K_Expr_endOperators rfl zl_1_95 zm_Pend_first rfl (G_Pend_first h5) (Nat.le_of_ble_eq_true rfl) (Nat.le_of_ble_eq_true rfl) rfl ?_
        refine go_istore_n K_Expr_endOperators rfl (Nat.le_of_ble_eq_true rfl) ?_
        refine go_iload_n K_Expr_endOperators rfl rfl ?_
        obtain ⟨r9, M7, h8, h⟩ := zbi_ex h
        refine go_si (Y' := Y_Expr_levelOf) (av := [.inl r6]) (rest := []) K_Expr_endOperators rfl zl_1_119 zm_Expr_levelOf rfl (G_Expr_levelOf h8) (Nat.le_of_ble_eq_true rfl) (Nat.le_of_ble_eq_true rfl) rfl ?_
        refine go_istore K_Expr_endOperators rfl (Nat.le_of_ble_eq_true rfl) ?_
        refine go_iload K_Expr_endOperators rfl rfl ?_
        refine go_iload_n K_Expr_endOperators rfl rfl ?_
        refine go_icmp_ge K_Expr_endOperators rfl (fun c => ?_) (fun c => ?_)
        · have h := zif_t c h
          refine go_aload_n K_Expr_endOperators rfl rfl ?_
          refine go_getR K_Expr_endOperators rfl zf_1_19 ?_
          obtain ⟨r12, M10, h11, h⟩ := zbi_ex h
          refine go_vi (Y' := Y_Pend_second) (av := []) (rest := []) K_Expr_endOperators rfl zl_1_101 zm_Pend_second rfl (G_Pend_second h11) (Nat.le_of_ble_eq_true rfl) (Nat.le_of_ble_eq_true rfl) rfl ?_
          refine go_istore K_Expr_endOperators rfl (Nat.le_of_ble_eq_true rfl) ?_
          refine go_aload_n K_Expr_endOperators rfl rfl ?_
          refine go_getR K_Expr_endOperators rfl zf_1_19 ?_
          obtain ⟨M13, h14, h⟩ := zbv_ex h
          refine go_vv (Y' := Y_Pend_pop) (av := []) (rest := []) K_Expr_endOperators rfl zl_1_104 zm_Pend_pop rfl (G_Pend_pop h14) (Nat.le_of_ble_eq_true rfl) (Nat.le_of_ble_eq_true rfl) rfl ?_
          refine go_aload_n K_Expr_endOperators rfl rfl ?_
          refine go_iload_n K_Expr_endOperators rfl rfl ?_
          refine go_iload K_Expr_endOperators rfl rfl ?_
          refine go_iload K_Expr_endOperators rfl rfl ?_
          obtain ⟨M15, h16, h⟩ := zbv_ex h
          refine go_vv (Y' := Y_Expr_endOperator) (av := [.inl r6, .inl r9, .inl r12]) (rest := []) K_Expr_endOperators rfl zl_1_122 zm_Expr_endOperator rfl (G_Expr_endOperator h16) (Nat.le_of_ble_eq_true rfl) (Nat.le_of_ble_eq_true rfl) rfl ?_
          refine go_iinc (v := l2 + (1 : Int32)) K_Expr_endOperators rfl rfl zinc_1 ?_
          refine go_goto K_Expr_endOperators rfl ?_
          exact go_forget (ih h) (zs_s (zs_s (zs_s (zs_n (zs_n (zs_n zs_e))))))
        · have h := zif_f c h
          cases h
          exact go_return K_Expr_endOperators rfl rfl
def F_Expr_endOperators (N : Nat) (M : zMem) (l1 : Int32) : Option (zMem) :=
  F_Expr_endOperators_p2 N N M l1 ((0 : Int32))
set_option maxRecDepth 100000 in
theorem G_Expr_endOperators {N : Nat} {M : zMem} {l1 : Int32} {y : zMem} (h : F_Expr_endOperators N M l1 = some y) : zGo Y_Expr_endOperators 2 0 (zal Y_Expr_endOperators [.inr 25, .inl l1]) [] M none y := by
  unfold F_Expr_endOperators at h
  show zGo Y_Expr_endOperators 2 0 [some (.inr 25), some (.inl l1), none, none, none, none] [] M _ _
  refine go_iconst K_Expr_endOperators rfl zk_iconst_0 ?_
  refine go_istore_n K_Expr_endOperators rfl (Nat.le_of_ble_eq_true rfl) ?_
  exact go_forget (G_Expr_endOperators_p2 _ h) (zs_s (zs_s (zs_s (zs_n (zs_n (zs_n zs_e))))))
def F_Proc_addArgument (M : zMem) (l1 : Int32) : Option (zMem) :=
  if l1 < 0 then (some M) else (if (150 : Int32) ≤ l1 then (some M) else (zix l1 150 (zix l1 150 (zset M 13 l1.toNatClampNeg ((M 13 l1.toNatClampNeg) + (1 : Int32)) fun M3 => some M3))))
set_option maxRecDepth 100000 in
theorem G_Proc_addArgument {M : zMem} {l1 : Int32} {y : zMem} (h : F_Proc_addArgument M l1 = some y) : zGo Y_Proc_addArgument 0 0 (zal Y_Proc_addArgument [.inr 7, .inl l1]) [] M none y := by
  unfold F_Proc_addArgument at h
  show zGo Y_Proc_addArgument 0 0 [some (.inr 7), some (.inl l1)] [] M _ _
  refine go_iload_n K_Proc_addArgument rfl rfl ?_
  refine go_if_lt K_Proc_addArgument rfl (fun c => ?_) (fun c => ?_)
  · have h := zif_t c h
    cases h
    exact go_return K_Proc_addArgument rfl rfl
  · have h := zif_f c h
    refine go_iload_n K_Proc_addArgument rfl rfl ?_
    refine go_sipush K_Proc_addArgument rfl zk_sipush_150 ?_
    refine go_icmp_ge K_Proc_addArgument rfl (fun c => ?_) (fun c => ?_)
    · have h := zif_t c h
      cases h
      exact go_return K_Proc_addArgument rfl rfl
    · have h := zif_f c h
      refine go_aload_n K_Proc_addArgument rfl rfl ?_
      refine go_getR K_Proc_addArgument rfl zf_8_28 ?_
      refine go_iload_n K_Proc_addArgument rfl rfl ?_
      refine go_dup2 K_Proc_addArgument rfl ?_
      obtain ⟨i1, h⟩ := zix_ex h
      refine go_iald K_Proc_addArgument rfl za_13 i1 ?_
      refine go_iconst K_Proc_addArgument rfl zk_iconst_1 ?_
      refine go_iadd K_Proc_addArgument rfl ?_
      obtain ⟨i2, h⟩ := zix_ex h
      obtain ⟨M3, e4, h⟩ := zset_ex h
      refine go_iast' e4 K_Proc_addArgument rfl za_13 i2 ?_
      cases h
      exact go_return K_Proc_addArgument rfl rfl
def F_Expr_end_p15 (N : Nat) (M : zMem) : Option (Int32 × zMem) :=
  zbi (F_Pend_first M ) fun r3 M1 => zbv (F_Proc_addArgument M1 r3) fun M4 => some ((19 : Int32), M4)
set_option maxRecDepth 100000 in
theorem G_Expr_end_p15 {N : Nat} {M : zMem} {y : Int32 × zMem} (h : F_Expr_end_p15 N M  = some y) : zGo Y_Expr_end 3 15 [some (.inr 25)] [] M (some y.1) y.2 := by
  unfold F_Expr_end_p15 at h
  refine go_aload_n K_Expr_end rfl rfl ?_
  refine go_getR K_Expr_end rfl zf_1_15 ?_
  refine go_aload_n K_Expr_end rfl rfl ?_
  refine go_getR K_Expr_end rfl zf_1_19 ?_
  obtain ⟨r3, M1, h2, h⟩ := zbi_ex h
  refine go_vi (Y' := Y_Pend_first) (av := []) (rest := [.inr 7]) K_Expr_end rfl zl_1_95 zm_Pend_first rfl (G_Pend_first h2) (Nat.le_of_ble_eq_true rfl) (Nat.le_of_ble_eq_true rfl) rfl ?_
  obtain ⟨M4, h5, h⟩ := zbv_ex h
  refine go_vv (Y' := Y_Proc_addArgument) (av := [.inl r3]) (rest := []) K_Expr_end rfl zl_1_98 zm_Proc_addArgument rfl (G_Proc_addArgument h5) (Nat.le_of_ble_eq_true rfl) (Nat.le_of_ble_eq_true rfl) rfl ?_
  refine go_bipush K_Expr_end rfl zk_bipush_19 ?_
  cases h
  exact go_ireturn K_Expr_end rfl rfl
def F_Expr_end_p29 (N : Nat) (M : zMem) : Option (Int32 × zMem) :=
  zbi (F_Pend_first M ) fun r3 M1 => zbi (F_Pend_second M1 ) fun r6 M4 => zbi (F_Code_emit M4 r3 r6) fun r9 M7 => zbv (F_Pend_pop M7 ) fun M10 => some ((10 : Int32), M10)
set_option maxRecDepth 100000 in
theorem G_Expr_end_p29 {N : Nat} {M : zMem} {y : Int32 × zMem} (h : F_Expr_end_p29 N M  = some y) : zGo Y_Expr_end 3 29 [some (.inr 25)] [] M (some y.1) y.2 := by
  unfold F_Expr_end_p29 at h
  refine go_aload_n K_Expr_end rfl rfl ?_
  refine go_getR K_Expr_end rfl zf_1_9 ?_
  refine go_aload_n K_Expr_end rfl rfl ?_
  refine go_getR K_Expr_end rfl zf_1_19 ?_
  obtain ⟨r3, M1, h2, h⟩ := zbi_ex h
  refine go_vi (Y' := Y_Pend_first) (av := []) (rest := [.inr 4]) K_Expr_end rfl zl_1_95 zm_Pend_first rfl (G_Pend_first h2) (Nat.le_of_ble_eq_true rfl) (Nat.le_of_ble_eq_true rfl) rfl ?_
  refine go_aload_n K_Expr_end rfl rfl ?_
  refine go_getR K_Expr_end rfl zf_1_19 ?_
  obtain ⟨r6, M4, h5, h⟩ := zbi_ex h
  refine go_vi (Y' := Y_Pend_second) (av := []) (rest := [.inl r3, .inr 4]) K_Expr_end rfl zl_1_101 zm_Pend_second rfl (G_Pend_second h5) (Nat.le_of_ble_eq_true rfl) (Nat.le_of_ble_eq_true rfl) rfl ?_
  obtain ⟨r9, M7, h8, h⟩ := zbi_ex h
  refine go_vi (Y' := Y_Code_emit) (av := [.inl r3, .inl r6]) (rest := []) K_Expr_end rfl zl_1_92 zm_Code_emit rfl (G_Code_emit h8) (Nat.le_of_ble_eq_true rfl) (Nat.le_of_ble_eq_true rfl) rfl ?_
  refine go_pop K_Expr_end rfl ?_
  refine go_aload_n K_Expr_end rfl rfl ?_
  refine go_getR K_Expr_end rfl zf_1_19 ?_
  obtain ⟨M10, h11, h⟩ := zbv_ex h
  refine go_vv (Y' := Y_Pend_pop) (av := []) (rest := []) K_Expr_end rfl zl_1_104 zm_Pend_pop rfl (G_Pend_pop h11) (Nat.le_of_ble_eq_true rfl) (Nat.le_of_ble_eq_true rfl) rfl ?_
  refine go_bipush K_Expr_end rfl zk_bipush_10 ?_
  cases h
  exact go_ireturn K_Expr_end rfl rfl
def F_Expr_end (N : Nat) (M : zMem) : Option (Int32 × zMem) :=
  zbv (F_Expr_endOperators N M (0 : Int32)) fun M1 => zbv (F_Plain_judgeBrackets M1 (0 : Int32)) fun M3 => zbi (F_Pend_kind M3 ) fun r7 M5 => if r7 = (2 : Int32) then (some ((20 : Int32), M5)) else (if r7 = (3 : Int32) then (some ((16 : Int32), M5)) else (if r7 = (4 : Int32) then (F_Expr_end_p15 N M5 ) else (if r7 = (5 : Int32) then (F_Expr_end_p15 N M5 ) else (if r7 = (6 : Int32) then (some ((12 : Int32), M5)) else (if r7 = (7 : Int32) then (F_Expr_end_p29 N M5 ) else (if r7 = (8 : Int32) then (some ((13 : Int32), M5)) else (if r7 = (9 : Int32) then (F_Expr_end_p29 N M5 ) else (if r7 = (10 : Int32) then (F_Expr_end_p29 N M5 ) else (if r7 = (11 : Int32) then (some ((14 : Int32), M5)) else (F_Expr_end_p29 N M5 ))))))))))
set_option maxRecDepth 100000 in
theorem G_Expr_end {N : Nat} {M : zMem} {y : Int32 × zMem} (h : F_Expr_end N M  = some y) : zGo Y_Expr_end 3 0 (zal Y_Expr_end [.inr 25]) [] M (some y.1) y.2 := by
  unfold F_Expr_end at h
  show zGo Y_Expr_end 3 0 [some (.inr 25)] [] M _ _
  refine go_aload_n K_Expr_end rfl rfl ?_
  refine go_iconst K_Expr_end rfl zk_iconst_0 ?_
  obtain ⟨M1, h2, h⟩ := zbv_ex h
  refine go_vv (Y' := Y_Expr_endOperators) (av := [.inl (0 : Int32)]) (rest := []) K_Expr_end rfl zl_1_82 zm_Expr_endOperators rfl (G_Expr_endOperators h2) (Nat.le_of_ble_eq_true rfl) (Nat.le_of_ble_eq_true rfl) rfl ?_
  refine go_aload_n K_Expr_end rfl rfl ?_
  refine go_getR K_Expr_end rfl zf_1_23 ?_
  refine go_iconst K_Expr_end rfl zk_iconst_0 ?_
  obtain ⟨M3, h4, h⟩ := zbv_ex h
  refine go_vv (Y' := Y_Plain_judgeBrackets) (av := [.inl (0 : Int32)]) (rest := []) K_Expr_end rfl zl_1_89 zm_Plain_judgeBrackets rfl (G_Plain_judgeBrackets h4) (Nat.le_of_ble_eq_true rfl) (Nat.le_of_ble_eq_true rfl) rfl ?_
  refine go_aload_n K_Expr_end rfl rfl ?_
  refine go_getR K_Expr_end rfl zf_1_19 ?_
  obtain ⟨r7, M5, h6, h⟩ := zbi_ex h
  refine go_vi (Y' := Y_Pend_kind) (av := []) (rest := []) K_Expr_end rfl zl_1_85 zm_Pend_kind rfl (G_Pend_kind h6) (Nat.le_of_ble_eq_true rfl) (Nat.le_of_ble_eq_true rfl) rfl ?_
  by_cases c8 : r7 = (2 : Int32)
  · have h := zif_t c8 h
    refine go_switch (k' := 11) (off := 56) K_Expr_end rfl (by show zsw _ (r7) = _; rw [c8]; decide) (by decide) ?_
    refine go_bipush K_Expr_end rfl zk_bipush_20 ?_
    cases h
    exact go_ireturn K_Expr_end rfl rfl
  have h := zif_f c8 h
  by_cases c9 : r7 = (3 : Int32)
  · have h := zif_t c9 h
    refine go_switch (k' := 13) (off := 59) K_Expr_end rfl (by show zsw _ (r7) = _; rw [c9]; decide) (by decide) ?_
    refine go_bipush K_Expr_end rfl zk_bipush_16 ?_
    cases h
    exact go_ireturn K_Expr_end rfl rfl
  have h := zif_f c9 h
  by_cases c10 : r7 = (4 : Int32)
  · have h := zif_t c10 h
    refine go_switch (k' := 15) (off := 62) K_Expr_end rfl (by show zsw _ (r7) = _; rw [c10]; decide) (by decide) ?_
    exact go_forget (G_Expr_end_p15 h) (zs_s zs_e)
  have h := zif_f c10 h
  by_cases c11 : r7 = (5 : Int32)
  · have h := zif_t c11 h
    refine go_switch (k' := 15) (off := 62) K_Expr_end rfl (by show zsw _ (r7) = _; rw [c11]; decide) (by decide) ?_
    exact go_forget (G_Expr_end_p15 h) (zs_s zs_e)
  have h := zif_f c11 h
  by_cases c12 : r7 = (6 : Int32)
  · have h := zif_t c12 h
    refine go_switch (k' := 23) (off := 79) K_Expr_end rfl (by show zsw _ (r7) = _; rw [c12]; decide) (by decide) ?_
    refine go_bipush K_Expr_end rfl zk_bipush_12 ?_
    cases h
    exact go_ireturn K_Expr_end rfl rfl
  have h := zif_f c12 h
  by_cases c13 : r7 = (7 : Int32)
  · have h := zif_t c13 h
    refine go_switch (k' := 29) (off := 88) K_Expr_end rfl (by show zsw _ (r7) = _; rw [c13]; decide) (by decide) ?_
    exact go_forget (G_Expr_end_p29 h) (zs_s zs_e)
  have h := zif_f c13 h
  by_cases c14 : r7 = (8 : Int32)
  · have h := zif_t c14 h
    refine go_switch (k' := 25) (off := 82) K_Expr_end rfl (by show zsw _ (r7) = _; rw [c14]; decide) (by decide) ?_
    refine go_bipush K_Expr_end rfl zk_bipush_13 ?_
    cases h
    exact go_ireturn K_Expr_end rfl rfl
  have h := zif_f c14 h
  by_cases c15 : r7 = (9 : Int32)
  · have h := zif_t c15 h
    refine go_switch (k' := 29) (off := 88) K_Expr_end rfl (by show zsw _ (r7) = _; rw [c15]; decide) (by decide) ?_
    exact go_forget (G_Expr_end_p29 h) (zs_s zs_e)
  have h := zif_f c15 h
  by_cases c16 : r7 = (10 : Int32)
  · have h := zif_t c16 h
    refine go_switch (k' := 29) (off := 88) K_Expr_end rfl (by show zsw _ (r7) = _; rw [c16]; decide) (by decide) ?_
    exact go_forget (G_Expr_end_p29 h) (zs_s zs_e)
  have h := zif_f c16 h
  by_cases c17 : r7 = (11 : Int32)
  · have h := zif_t c17 h
    refine go_switch (k' := 27) (off := 85) K_Expr_end rfl (by show zsw _ (r7) = _; rw [c17]; decide) (by decide) ?_
    refine go_bipush K_Expr_end rfl zk_bipush_14 ?_
    cases h
    exact go_ireturn K_Expr_end rfl rfl
  have h := zif_f c17 h
  refine go_switch (k' := 29) (off := 88) K_Expr_end rfl (zsw_t (fun i h1 h2 he => by rcases (show i = 2 ∨ i = 3 ∨ i = 4 ∨ i = 5 ∨ i = 6 ∨ i = 7 ∨ i = 8 ∨ i = 9 ∨ i = 10 ∨ i = 11 by omega) with rfl | rfl | rfl | rfl | rfl | rfl | rfl | rfl | rfl | rfl <;> first | exact c8 (Int32.toInt_inj.mp (he.trans (by decide))) | exact c9 (Int32.toInt_inj.mp (he.trans (by decide))) | exact c10 (Int32.toInt_inj.mp (he.trans (by decide))) | exact c11 (Int32.toInt_inj.mp (he.trans (by decide))) | exact c12 (Int32.toInt_inj.mp (he.trans (by decide))) | exact c13 (Int32.toInt_inj.mp (he.trans (by decide))) | exact c14 (Int32.toInt_inj.mp (he.trans (by decide))) | exact c15 (Int32.toInt_inj.mp (he.trans (by decide))) | exact c16 (Int32.toInt_inj.mp (he.trans (by decide))) | exact c17 (Int32.toInt_inj.mp (he.trans (by decide))))) (by decide) ?_
  exact go_forget (G_Expr_end_p29 h) (zs_s zs_e)
def F_Expr_operator_p50 (N : Nat) (M : zMem) (l1 l4 l5 : Int32) : Option (Int32 × zMem) :=
  zbv (F_Pend_push M (1 : Int32) l1 l5) fun M1 => if l4 = 0 then (some ((22 : Int32), M1)) else (some ((21 : Int32), M1))
set_option maxRecDepth 100000 in
theorem G_Expr_operator_p50 {N : Nat} {M : zMem} {l1 l4 l5 : Int32} {y : Int32 × zMem} (h : F_Expr_operator_p50 N M l1 l4 l5 = some y) : zGo Y_Expr_operator 3 50 [some (.inr 25), some (.inl l1), none, none, some (.inl l4), some (.inl l5)] [] M (some y.1) y.2 := by
  unfold F_Expr_operator_p50 at h
  refine go_aload_n K_Expr_operator rfl rfl ?_
  refine go_getR K_Expr_operator rfl zf_1_19 ?_
  refine go_iconst K_Expr_operator rfl zk_iconst_1 ?_
  refine go_iload_n K_Expr_operator rfl rfl ?_
  refine go_iload K_Expr_operator rfl rfl ?_
  obtain ⟨M1, h2, h⟩ := zbv_ex h
  refine go_vv (Y' := Y_Pend_push) (av := [.inl (1 : Int32), .inl l1, .inl l5]) (rest := []) K_Expr_operator rfl zl_1_41 zm_Pend_push rfl (G_Pend_push h2) (Nat.le_of_ble_eq_true rfl) (Nat.le_of_ble_eq_true rfl) rfl ?_
  refine go_iload K_Expr_operator rfl rfl ?_
  refine go_if_eq K_Expr_operator rfl (fun c => ?_) (fun c => ?_)
  · have h := zif_t c h
    refine go_bipush K_Expr_operator rfl zk_bipush_22 ?_
    cases h
    exact go_ireturn K_Expr_operator rfl rfl
  · have h := zif_f c h
    refine go_bipush K_Expr_operator rfl zk_bipush_21 ?_
    refine go_goto K_Expr_operator rfl ?_
    cases h
    exact go_ireturn K_Expr_operator rfl rfl
def F_Expr_operator_p25 (N : Nat) (M : zMem) (l1 l3 l4 : Int32) : Option (Int32 × zMem) :=
  zbv (F_Plain_judgeBrackets M l3) fun M1 => if l1 = (150 : Int32) then (zbi (F_Code_emit M1 (22 : Int32) (0 : Int32)) fun r8 M6 => F_Expr_operator_p50 N M6 l1 l4 r8) else (if l1 = (151 : Int32) then (zbi (F_Code_emit M1 (23 : Int32) (0 : Int32)) fun r5 M3 => F_Expr_operator_p50 N M3 l1 l4 r5) else (F_Expr_operator_p50 N M1 l1 l4 ((-1 : Int32))))
set_option maxRecDepth 100000 in
theorem G_Expr_operator_p25 {N : Nat} {M : zMem} {l1 l3 l4 : Int32} {y : Int32 × zMem} (h : F_Expr_operator_p25 N M l1 l3 l4 = some y) : zGo Y_Expr_operator 3 25 [some (.inr 25), some (.inl l1), none, some (.inl l3), some (.inl l4), none] [] M (some y.1) y.2 := by
  unfold F_Expr_operator_p25 at h
  refine go_aload_n K_Expr_operator rfl rfl ?_
  refine go_getR K_Expr_operator rfl zf_1_23 ?_
  refine go_iload_n K_Expr_operator rfl rfl ?_
  obtain ⟨M1, h2, h⟩ := zbv_ex h
  refine go_vv (Y' := Y_Plain_judgeBrackets) (av := [.inl l3]) (rest := []) K_Expr_operator rfl zl_1_89 zm_Plain_judgeBrackets rfl (G_Plain_judgeBrackets h2) (Nat.le_of_ble_eq_true rfl) (Nat.le_of_ble_eq_true rfl) rfl ?_
  refine go_iconst K_Expr_operator rfl zk_iconst_m1 ?_
  refine go_istore K_Expr_operator rfl (Nat.le_of_ble_eq_true rfl) ?_
  refine go_iload_n K_Expr_operator rfl rfl ?_
  refine go_sipush K_Expr_operator rfl zk_sipush_150 ?_
  refine go_icmp_ne K_Expr_operator rfl (fun c => ?_) (fun c => ?_)
  · have h := zif_f c h
    refine go_iload_n K_Expr_operator rfl rfl ?_
    refine go_sipush K_Expr_operator rfl zk_sipush_151 ?_
    refine go_icmp_ne K_Expr_operator rfl (fun c => ?_) (fun c => ?_)
    · have h := zif_f c h
      exact go_forget (G_Expr_operator_p50 h) (zs_s (zs_s (zs_n (zs_n (zs_s (zs_s zs_e))))))
    · have h := zif_t c h
      refine go_aload_n K_Expr_operator rfl rfl ?_
      refine go_getR K_Expr_operator rfl zf_1_9 ?_
      refine go_bipush K_Expr_operator rfl zk_bipush_23 ?_
      refine go_iconst K_Expr_operator rfl zk_iconst_0 ?_
      obtain ⟨r5, M3, h4, h⟩ := zbi_ex h
      refine go_vi (Y' := Y_Code_emit) (av := [.inl (23 : Int32), .inl (0 : Int32)]) (rest := []) K_Expr_operator rfl zl_1_92 zm_Code_emit rfl (G_Code_emit h4) (Nat.le_of_ble_eq_true rfl) (Nat.le_of_ble_eq_true rfl) rfl ?_
      refine go_istore K_Expr_operator rfl (Nat.le_of_ble_eq_true rfl) ?_
      exact go_forget (G_Expr_operator_p50 h) (zs_s (zs_s (zs_n (zs_n (zs_s (zs_s zs_e))))))
  · have h := zif_t c h
    refine go_aload_n K_Expr_operator rfl rfl ?_
    refine go_getR K_Expr_operator rfl zf_1_9 ?_
    refine go_bipush K_Expr_operator rfl zk_bipush_22 ?_
    refine go_iconst K_Expr_operator rfl zk_iconst_0 ?_
    obtain ⟨r8, M6, h7, h⟩ := zbi_ex h
    refine go_vi (Y' := Y_Code_emit) (av := [.inl (22 : Int32), .inl (0 : Int32)]) (rest := []) K_Expr_operator rfl zl_1_92 zm_Code_emit rfl (G_Code_emit h7) (Nat.le_of_ble_eq_true rfl) (Nat.le_of_ble_eq_true rfl) rfl ?_
    refine go_istore K_Expr_operator rfl (Nat.le_of_ble_eq_true rfl) ?_
    refine go_goto K_Expr_operator rfl ?_
    exact go_forget (G_Expr_operator_p50 h) (zs_s (zs_s (zs_n (zs_n (zs_s (zs_s zs_e))))))
def F_Expr_operator_p15 (N : Nat) (M : zMem) (l1 l3 s0 : Int32) : Option (Int32 × zMem) :=
  if s0 = 0 then (F_Expr_operator_p25 N M l1 l3 s0) else (zbi (F_Pend_kind M ) fun r3 M1 => if r3 = (1 : Int32) then (some ((-1 : Int32), M1)) else (F_Expr_operator_p25 N M1 l1 l3 s0))
set_option maxRecDepth 100000 in
theorem G_Expr_operator_p15 {N : Nat} {M : zMem} {l1 l3 s0 : Int32} {y : Int32 × zMem} (h : F_Expr_operator_p15 N M l1 l3 s0 = some y) : zGo Y_Expr_operator 3 15 [some (.inr 25), some (.inl l1), none, some (.inl l3), none, none] [.inl s0] M (some y.1) y.2 := by
  unfold F_Expr_operator_p15 at h
  refine go_istore K_Expr_operator rfl (Nat.le_of_ble_eq_true rfl) ?_
  refine go_iload K_Expr_operator rfl rfl ?_
  refine go_if_eq K_Expr_operator rfl (fun c => ?_) (fun c => ?_)
  · have h := zif_t c h
    exact go_forget (G_Expr_operator_p25 h) (zs_s (zs_s (zs_n (zs_s (zs_s (zs_n zs_e))))))
  · have h := zif_f c h
    refine go_aload_n K_Expr_operator rfl rfl ?_
    refine go_getR K_Expr_operator rfl zf_1_19 ?_
    obtain ⟨r3, M1, h2, h⟩ := zbi_ex h
    refine go_vi (Y' := Y_Pend_kind) (av := []) (rest := []) K_Expr_operator rfl zl_1_85 zm_Pend_kind rfl (G_Pend_kind h2) (Nat.le_of_ble_eq_true rfl) (Nat.le_of_ble_eq_true rfl) rfl ?_
    refine go_iconst K_Expr_operator rfl zk_iconst_1 ?_
    refine go_icmp_ne K_Expr_operator rfl (fun c => ?_) (fun c => ?_)
    · have h := zif_f c h
      exact go_forget (G_Expr_operator_p25 h) (zs_s (zs_s (zs_n (zs_s (zs_s (zs_n zs_e))))))
    · have h := zif_t c h
      refine go_iconst K_Expr_operator rfl zk_iconst_m1 ?_
      cases h
      exact go_ireturn K_Expr_operator rfl rfl
def F_Expr_operator (N : Nat) (M : zMem) (l1 : Int32) : Option (Int32 × zMem) :=
  zbi (F_Level_ofOperator M l1) fun r3 M1 => zbv (F_Expr_endOperators N M1 (if r3 < (1 : Int32) then (1 : Int32) else r3)) fun M4 => if r3 = 0 then (F_Expr_operator_p15 N M4 l1 (if r3 < (1 : Int32) then (1 : Int32) else r3) ((1 : Int32))) else (F_Expr_operator_p15 N M4 l1 (if r3 < (1 : Int32) then (1 : Int32) else r3) ((0 : Int32)))
set_option maxRecDepth 100000 in
theorem G_Expr_operator {N : Nat} {M : zMem} {l1 : Int32} {y : Int32 × zMem} (h : F_Expr_operator N M l1 = some y) : zGo Y_Expr_operator 3 0 (zal Y_Expr_operator [.inr 25, .inl l1]) [] M (some y.1) y.2 := by
  unfold F_Expr_operator at h
  show zGo Y_Expr_operator 3 0 [some (.inr 25), some (.inl l1), none, none, none, none] [] M _ _
  refine go_iload_n K_Expr_operator rfl rfl ?_
  obtain ⟨r3, M1, h2, h⟩ := zbi_ex h
  refine go_si (Y' := Y_Level_ofOperator) (av := [.inl l1]) (rest := []) K_Expr_operator rfl zl_1_71 zm_Level_ofOperator rfl (G_Level_ofOperator h2) (Nat.le_of_ble_eq_true rfl) (Nat.le_of_ble_eq_true rfl) rfl ?_
  refine go_istore_n K_Expr_operator rfl (Nat.le_of_ble_eq_true rfl) ?_
  refine go_iload_n K_Expr_operator rfl rfl ?_
  refine go_iconst K_Expr_operator rfl zk_iconst_1 ?_
  refine go_max K_Expr_operator rfl zl_1_77 (Nat.le_of_ble_eq_true rfl) (Nat.le_of_ble_eq_true rfl) ?_
  refine go_istore_n K_Expr_operator rfl (Nat.le_of_ble_eq_true rfl) ?_
  refine go_aload_n K_Expr_operator rfl rfl ?_
  refine go_iload_n K_Expr_operator rfl rfl ?_
  obtain ⟨M4, h5, h⟩ := zbv_ex h
  refine go_vv (Y' := Y_Expr_endOperators) (av := [.inl (if r3 < (1 : Int32) then (1 : Int32) else r3)]) (rest := []) K_Expr_operator rfl zl_1_82 zm_Expr_endOperators rfl (G_Expr_endOperators h5) (Nat.le_of_ble_eq_true rfl) (Nat.le_of_ble_eq_true rfl) rfl ?_
  refine go_iload_n K_Expr_operator rfl rfl ?_
  refine go_if_ne K_Expr_operator rfl (fun c => ?_) (fun c => ?_)
  · have h := zif_f c h
    refine go_iconst K_Expr_operator rfl zk_iconst_0 ?_
    exact go_forget (G_Expr_operator_p15 h) (zs_s (zs_s (zs_n (zs_s (zs_n (zs_n zs_e))))))
  · have h := zif_t c h
    refine go_iconst K_Expr_operator rfl zk_iconst_1 ?_
    refine go_goto K_Expr_operator rfl ?_
    exact go_forget (G_Expr_operator_p15 h) (zs_s (zs_s (zs_n (zs_s (zs_n (zs_n zs_e))))))
def F_Mach_finish (M : zMem) (l1 : Int32) : Option (zMem) :=
  zset M 27 6 l1 fun M1 => zset M1 27 16 ((0 : Int32)) fun M3 => some M3
set_option maxRecDepth 100000 in
theorem G_Mach_finish {M : zMem} {l1 : Int32} {y : zMem} (h : F_Mach_finish M l1 = some y) : zGo Y_Mach_finish 0 0 (zal Y_Mach_finish [.inr 27, .inl l1]) [] M none y := by
  unfold F_Mach_finish at h
  show zGo Y_Mach_finish 0 0 [some (.inr 27), some (.inl l1)] [] M _ _
  refine go_aload_n K_Mach_finish rfl rfl ?_
  refine go_iload_n K_Mach_finish rfl rfl ?_
  obtain ⟨M1, e2, h⟩ := zset_ex h
  refine go_putI' e2 K_Mach_finish rfl zf_3_52 ?_
  refine go_aload_n K_Mach_finish rfl rfl ?_
  refine go_iconst K_Mach_finish rfl zk_iconst_0 ?_
  obtain ⟨M3, e4, h⟩ := zset_ex h
  refine go_putZ' e4 K_Mach_finish rfl zf_3_70 (Or.inl rfl) ?_
  cases h
  exact go_return K_Mach_finish rfl rfl
def F_Mach_push (M : zMem) (l1 : Int32) : Option (zMem) :=
  if (M 27 13) < 0 then (some M) else (if (2048 : Int32) ≤ (M 27 13) then (some M) else (zix (M 27 13) 2048 (zset M 31 (M 27 13).toNatClampNeg l1 fun M2 => zset M2 27 13 ((M2 27 13) + (1 : Int32)) fun M4 => some M4)))
set_option maxRecDepth 100000 in
theorem G_Mach_push {M : zMem} {l1 : Int32} {y : zMem} (h : F_Mach_push M l1 = some y) : zGo Y_Mach_push 0 0 (zal Y_Mach_push [.inr 27, .inl l1]) [] M none y := by
  unfold F_Mach_push at h
  show zGo Y_Mach_push 0 0 [some (.inr 27), some (.inl l1)] [] M _ _
  refine go_aload_n K_Mach_push rfl rfl ?_
  refine go_getI K_Mach_push rfl zf_3_55 ?_
  refine go_if_lt K_Mach_push rfl (fun c => ?_) (fun c => ?_)
  · have h := zif_t c h
    cases h
    exact go_return K_Mach_push rfl rfl
  · have h := zif_f c h
    refine go_aload_n K_Mach_push rfl rfl ?_
    refine go_getI K_Mach_push rfl zf_3_55 ?_
    refine go_aload_n K_Mach_push rfl rfl ?_
    refine go_getR K_Mach_push rfl zf_3_25 ?_
    refine go_alen K_Mach_push rfl za_31 zlen_2048 ?_
    refine go_icmp_ge K_Mach_push rfl (fun c => ?_) (fun c => ?_)
    · have h := zif_t c h
      cases h
      exact go_return K_Mach_push rfl rfl
    · have h := zif_f c h
      refine go_aload_n K_Mach_push rfl rfl ?_
      refine go_getR K_Mach_push rfl zf_3_25 ?_
      refine go_aload_n K_Mach_push rfl rfl ?_
      refine go_getI K_Mach_push rfl zf_3_55 ?_
      refine go_iload_n K_Mach_push rfl rfl ?_
      obtain ⟨i1, h⟩ := zix_ex h
      obtain ⟨M2, e3, h⟩ := zset_ex h
      refine go_iast' e3 K_Mach_push rfl za_31 i1 ?_
      refine go_aload_n K_Mach_push rfl rfl ?_
      refine go_dup K_Mach_push rfl ?_
      refine go_getI K_Mach_push rfl zf_3_55 ?_
      refine go_iconst K_Mach_push rfl zk_iconst_1 ?_
      refine go_iadd K_Mach_push rfl ?_
      obtain ⟨M4, e5, h⟩ := zset_ex h
      refine go_putI' e5 K_Mach_push rfl zf_3_55 ?_
      cases h
      exact go_return K_Mach_push rfl rfl
def F_Mach_divide_p17 (M : zMem) (s1 : Int32) : Option (zMem) :=
  zbv (F_Mach_push M s1) fun M1 => some M1
set_option maxRecDepth 100000 in
theorem G_Mach_divide_p17 {M : zMem} {s1 : Int32} {y : zMem} (h : F_Mach_divide_p17 M s1 = some y) : zGo Y_Mach_divide 1 17 [none, none, none, none] [.inl s1, .inr 27] M none y := by
  unfold F_Mach_divide_p17 at h
  obtain ⟨M1, h2, h⟩ := zbv_ex h
  refine go_vv (Y' := Y_Mach_push) (av := [.inl s1]) (rest := []) K_Mach_divide rfl zl_3_99 zm_Mach_push rfl (G_Mach_push h2) (Nat.le_of_ble_eq_true rfl) (Nat.le_of_ble_eq_true rfl) rfl ?_
  cases h
  exact go_return K_Mach_divide rfl rfl
def F_Mach_divide (M : zMem) (l1 l2 l3 : Int32) : Option (zMem) :=
  if l3 = 0 then (zbv (F_Mach_finish M (4 : Int32)) fun M3 => some M3) else (if l1 = (133 : Int32) then (znz l3 (F_Mach_divide_p17 M (l2 / l3))) else (znz l3 (F_Mach_divide_p17 M (l2 - l2 / l3 * l3))))
set_option maxRecDepth 100000 in
theorem G_Mach_divide {M : zMem} {l1 l2 l3 : Int32} {y : zMem} (h : F_Mach_divide M l1 l2 l3 = some y) : zGo Y_Mach_divide 1 0 (zal Y_Mach_divide [.inr 27, .inl l1, .inl l2, .inl l3]) [] M none y := by
  unfold F_Mach_divide at h
  show zGo Y_Mach_divide 1 0 [some (.inr 27), some (.inl l1), some (.inl l2), some (.inl l3)] [] M _ _
  refine go_iload_n K_Mach_divide rfl rfl ?_
  refine go_if_ne K_Mach_divide rfl (fun c => ?_) (fun c => ?_)
  · have h := zif_f c h
    refine go_aload_n K_Mach_divide rfl rfl ?_
    refine go_iload_n K_Mach_divide rfl rfl ?_
    refine go_sipush K_Mach_divide rfl zk_sipush_133 ?_
    refine go_icmp_ne K_Mach_divide rfl (fun c => ?_) (fun c => ?_)
    · have h := zif_f c h
      refine go_iload_n K_Mach_divide rfl rfl ?_
      refine go_iload_n K_Mach_divide rfl rfl ?_
      obtain ⟨z1, h⟩ := znz_ex h
      refine go_irem K_Mach_divide rfl z1 ?_
      exact go_forget (G_Mach_divide_p17 h) (zs_n (zs_n (zs_n (zs_n zs_e))))
    · have h := zif_t c h
      refine go_iload_n K_Mach_divide rfl rfl ?_
      refine go_iload_n K_Mach_divide rfl rfl ?_
      obtain ⟨z2, h⟩ := znz_ex h
      refine go_idiv K_Mach_divide rfl z2 ?_
      refine go_goto K_Mach_divide rfl ?_
      exact go_forget (G_Mach_divide_p17 h) (zs_n (zs_n (zs_n (zs_n zs_e))))
  · have h := zif_t c h
    refine go_aload_n K_Mach_divide rfl rfl ?_
    refine go_iconst K_Mach_divide rfl zk_iconst_4 ?_
    obtain ⟨M3, h4, h⟩ := zbv_ex h
    refine go_vv (Y' := Y_Mach_finish) (av := [.inl (4 : Int32)]) (rest := []) K_Mach_divide rfl zl_3_123 zm_Mach_finish rfl (G_Mach_finish h4) (Nat.le_of_ble_eq_true rfl) (Nat.le_of_ble_eq_true rfl) rfl ?_
    cases h
    exact go_return K_Mach_divide rfl rfl
def F_Mach_holds (M : zMem) (l0 l1 l2 : Int32) : Option (Int32 × zMem) :=
  if l0 = (140 : Int32) then (if l1 = l2 then (some ((1 : Int32), M)) else (some ((0 : Int32), M))) else (if l0 = (141 : Int32) then (if l1 = l2 then (some ((0 : Int32), M)) else (some ((1 : Int32), M))) else (if l0 = (142 : Int32) then (if l2 ≤ l1 then (some ((0 : Int32), M)) else (some ((1 : Int32), M))) else (if l0 = (143 : Int32) then (if l2 < l1 then (some ((0 : Int32), M)) else (some ((1 : Int32), M))) else (if l0 = (144 : Int32) then (if l1 ≤ l2 then (some ((0 : Int32), M)) else (some ((1 : Int32), M))) else (if l1 < l2 then (some ((0 : Int32), M)) else (some ((1 : Int32), M)))))))
set_option maxRecDepth 100000 in
theorem G_Mach_holds {M : zMem} {l0 l1 l2 : Int32} {y : Int32 × zMem} (h : F_Mach_holds M l0 l1 l2 = some y) : zGo Y_Mach_holds 0 0 (zal Y_Mach_holds [.inl l0, .inl l1, .inl l2]) [] M (some y.1) y.2 := by
  unfold F_Mach_holds at h
  show zGo Y_Mach_holds 0 0 [some (.inl l0), some (.inl l1), some (.inl l2)] [] M _ _
  refine go_iload_n K_Mach_holds rfl rfl ?_
  by_cases c1 : l0 = (140 : Int32)
  · have h := zif_t c1 h
    refine go_switch (k' := 2) (off := 35) K_Mach_holds rfl (by show zsw _ (l0) = _; rw [c1]; decide) (by decide) ?_
    refine go_iload_n K_Mach_holds rfl rfl ?_
    refine go_iload_n K_Mach_holds rfl rfl ?_
    refine go_icmp_ne K_Mach_holds rfl (fun c => ?_) (fun c => ?_)
    · have h := zif_f c h
      refine go_iconst K_Mach_holds rfl zk_iconst_0 ?_
      cases h
      exact go_zreturn K_Mach_holds rfl rfl (Or.inl rfl)
    · have h := zif_t c h
      refine go_iconst K_Mach_holds rfl zk_iconst_1 ?_
      refine go_goto K_Mach_holds rfl ?_
      cases h
      exact go_zreturn K_Mach_holds rfl rfl (Or.inr rfl)
  have h := zif_f c1 h
  by_cases c2 : l0 = (141 : Int32)
  · have h := zif_t c2 h
    refine go_switch (k' := 9) (off := 46) K_Mach_holds rfl (by show zsw _ (l0) = _; rw [c2]; decide) (by decide) ?_
    refine go_iload_n K_Mach_holds rfl rfl ?_
    refine go_iload_n K_Mach_holds rfl rfl ?_
    refine go_icmp_eq K_Mach_holds rfl (fun c => ?_) (fun c => ?_)
    · have h := zif_t c h
      refine go_iconst K_Mach_holds rfl zk_iconst_0 ?_
      cases h
      exact go_zreturn K_Mach_holds rfl rfl (Or.inl rfl)
    · have h := zif_f c h
      refine go_iconst K_Mach_holds rfl zk_iconst_1 ?_
      refine go_goto K_Mach_holds rfl ?_
      cases h
      exact go_zreturn K_Mach_holds rfl rfl (Or.inr rfl)
  have h := zif_f c2 h
  by_cases c3 : l0 = (142 : Int32)
  · have h := zif_t c3 h
    refine go_switch (k' := 16) (off := 57) K_Mach_holds rfl (by show zsw _ (l0) = _; rw [c3]; decide) (by decide) ?_
    refine go_iload_n K_Mach_holds rfl rfl ?_
    refine go_iload_n K_Mach_holds rfl rfl ?_
    refine go_icmp_ge K_Mach_holds rfl (fun c => ?_) (fun c => ?_)
    · have h := zif_t c h
      refine go_iconst K_Mach_holds rfl zk_iconst_0 ?_
      cases h
      exact go_zreturn K_Mach_holds rfl rfl (Or.inl rfl)
    · have h := zif_f c h
      refine go_iconst K_Mach_holds rfl zk_iconst_1 ?_
      refine go_goto K_Mach_holds rfl ?_
      cases h
      exact go_zreturn K_Mach_holds rfl rfl (Or.inr rfl)
  have h := zif_f c3 h
  by_cases c4 : l0 = (143 : Int32)
  · have h := zif_t c4 h
    refine go_switch (k' := 23) (off := 68) K_Mach_holds rfl (by show zsw _ (l0) = _; rw [c4]; decide) (by decide) ?_
    refine go_iload_n K_Mach_holds rfl rfl ?_
    refine go_iload_n K_Mach_holds rfl rfl ?_
    refine go_icmp_gt K_Mach_holds rfl (fun c => ?_) (fun c => ?_)
    · have h := zif_t c h
      refine go_iconst K_Mach_holds rfl zk_iconst_0 ?_
      cases h
      exact go_zreturn K_Mach_holds rfl rfl (Or.inl rfl)
    · have h := zif_f c h
      refine go_iconst K_Mach_holds rfl zk_iconst_1 ?_
      refine go_goto K_Mach_holds rfl ?_
      cases h
      exact go_zreturn K_Mach_holds rfl rfl (Or.inr rfl)
  have h := zif_f c4 h
  by_cases c5 : l0 = (144 : Int32)
  · have h := zif_t c5 h
    refine go_switch (k' := 30) (off := 79) K_Mach_holds rfl (by show zsw _ (l0) = _; rw [c5]; decide) (by decide) ?_
    refine go_iload_n K_Mach_holds rfl rfl ?_
    refine go_iload_n K_Mach_holds rfl rfl ?_
    refine go_icmp_le K_Mach_holds rfl (fun c => ?_) (fun c => ?_)
    · have h := zif_t c h
      refine go_iconst K_Mach_holds rfl zk_iconst_0 ?_
      cases h
      exact go_zreturn K_Mach_holds rfl rfl (Or.inl rfl)
    · have h := zif_f c h
      refine go_iconst K_Mach_holds rfl zk_iconst_1 ?_
      refine go_goto K_Mach_holds rfl ?_
      cases h
      exact go_zreturn K_Mach_holds rfl rfl (Or.inr rfl)
  have h := zif_f c5 h
  refine go_switch (k' := 37) (off := 90) K_Mach_holds rfl (zsw_t (fun i h1 h2 he => by rcases (show i = 140 ∨ i = 141 ∨ i = 142 ∨ i = 143 ∨ i = 144 by omega) with rfl | rfl | rfl | rfl | rfl <;> first | exact c1 (Int32.toInt_inj.mp (he.trans (by decide))) | exact c2 (Int32.toInt_inj.mp (he.trans (by decide))) | exact c3 (Int32.toInt_inj.mp (he.trans (by decide))) | exact c4 (Int32.toInt_inj.mp (he.trans (by decide))) | exact c5 (Int32.toInt_inj.mp (he.trans (by decide))))) (by decide) ?_
  refine go_iload_n K_Mach_holds rfl rfl ?_
  refine go_iload_n K_Mach_holds rfl rfl ?_
  refine go_icmp_lt K_Mach_holds rfl (fun c => ?_) (fun c => ?_)
  · have h := zif_t c h
    refine go_iconst K_Mach_holds rfl zk_iconst_0 ?_
    cases h
    exact go_zreturn K_Mach_holds rfl rfl (Or.inl rfl)
  · have h := zif_f c h
    refine go_iconst K_Mach_holds rfl zk_iconst_1 ?_
    refine go_goto K_Mach_holds rfl ?_
    cases h
    exact go_zreturn K_Mach_holds rfl rfl (Or.inr rfl)
def F_Mach_pop (M : zMem) : Option (Int32 × zMem) :=
  if (M 27 13) ≤ 0 then (some ((0 : Int32), M)) else (if (M 27 13) ≤ (2048 : Int32) then (zset M 27 13 ((M 27 13) - (1 : Int32)) fun M1 => zix (M1 27 13) 2048 (some (M1 31 (M1 27 13).toNatClampNeg, M1))) else (some ((0 : Int32), M)))
set_option maxRecDepth 100000 in
theorem G_Mach_pop {M : zMem} {y : Int32 × zMem} (h : F_Mach_pop M  = some y) : zGo Y_Mach_pop 0 0 (zal Y_Mach_pop [.inr 27]) [] M (some y.1) y.2 := by
  unfold F_Mach_pop at h
  show zGo Y_Mach_pop 0 0 [some (.inr 27)] [] M _ _
  refine go_aload_n K_Mach_pop rfl rfl ?_
  refine go_getI K_Mach_pop rfl zf_3_55 ?_
  refine go_if_le K_Mach_pop rfl (fun c => ?_) (fun c => ?_)
  · have h := zif_t c h
    refine go_iconst K_Mach_pop rfl zk_iconst_0 ?_
    cases h
    exact go_ireturn K_Mach_pop rfl rfl
  · have h := zif_f c h
    refine go_aload_n K_Mach_pop rfl rfl ?_
    refine go_getI K_Mach_pop rfl zf_3_55 ?_
    refine go_aload_n K_Mach_pop rfl rfl ?_
    refine go_getR K_Mach_pop rfl zf_3_25 ?_
    refine go_alen K_Mach_pop rfl za_31 zlen_2048 ?_
    refine go_icmp_le K_Mach_pop rfl (fun c => ?_) (fun c => ?_)
    · have h := zif_t c h
      refine go_aload_n K_Mach_pop rfl rfl ?_
      refine go_dup K_Mach_pop rfl ?_
      refine go_getI K_Mach_pop rfl zf_3_55 ?_
      refine go_iconst K_Mach_pop rfl zk_iconst_1 ?_
      refine go_isub K_Mach_pop rfl ?_
      obtain ⟨M1, e2, h⟩ := zset_ex h
      refine go_putI' e2 K_Mach_pop rfl zf_3_55 ?_
      refine go_aload_n K_Mach_pop rfl rfl ?_
      refine go_getR K_Mach_pop rfl zf_3_25 ?_
      refine go_aload_n K_Mach_pop rfl rfl ?_
      refine go_getI K_Mach_pop rfl zf_3_55 ?_
      obtain ⟨i3, h⟩ := zix_ex h
      refine go_iald K_Mach_pop rfl za_31 i3 ?_
      cases h
      exact go_ireturn K_Mach_pop rfl rfl
    · have h := zif_f c h
      refine go_iconst K_Mach_pop rfl zk_iconst_0 ?_
      cases h
      exact go_ireturn K_Mach_pop rfl rfl
def F_Mach_calculate_p12 (M : zMem) (l1 l2 l3 : Int32) : Option (zMem) :=
  zbv (F_Mach_divide M l1 l3 l2) fun M1 => some M1
set_option maxRecDepth 100000 in
theorem G_Mach_calculate_p12 {M : zMem} {l1 l2 l3 : Int32} {y : zMem} (h : F_Mach_calculate_p12 M l1 l2 l3 = some y) : zGo Y_Mach_calculate 2 12 [some (.inr 27), some (.inl l1), some (.inl l2), some (.inl l3)] [] M none y := by
  unfold F_Mach_calculate_p12 at h
  refine go_aload_n K_Mach_calculate rfl rfl ?_
  refine go_iload_n K_Mach_calculate rfl rfl ?_
  refine go_iload_n K_Mach_calculate rfl rfl ?_
  refine go_iload_n K_Mach_calculate rfl rfl ?_
  obtain ⟨M1, h2, h⟩ := zbv_ex h
  refine go_vv (Y' := Y_Mach_divide) (av := [.inl l1, .inl l3, .inl l2]) (rest := []) K_Mach_calculate rfl zl_3_135 zm_Mach_divide rfl (G_Mach_divide h2) (Nat.le_of_ble_eq_true rfl) (Nat.le_of_ble_eq_true rfl) rfl ?_
  refine go_goto K_Mach_calculate rfl ?_
  cases h
  exact go_return K_Mach_calculate rfl rfl
def F_Mach_calculate_p30 (M : zMem) (s1 : Int32) : Option (zMem) :=
  zbv (F_Mach_push M s1) fun M1 => some M1
set_option maxRecDepth 100000 in
theorem G_Mach_calculate_p30 {M : zMem} {s1 : Int32} {y : zMem} (h : F_Mach_calculate_p30 M s1 = some y) : zGo Y_Mach_calculate 2 30 [none, none, none, none] [.inl s1, .inr 27] M none y := by
  unfold F_Mach_calculate_p30 at h
  obtain ⟨M1, h2, h⟩ := zbv_ex h
  refine go_vv (Y' := Y_Mach_push) (av := [.inl s1]) (rest := []) K_Mach_calculate rfl zl_3_99 zm_Mach_push rfl (G_Mach_push h2) (Nat.le_of_ble_eq_true rfl) (Nat.le_of_ble_eq_true rfl) rfl ?_
  refine go_goto K_Mach_calculate rfl ?_
  cases h
  exact go_return K_Mach_calculate rfl rfl
def F_Mach_calculate (M : zMem) (l1 : Int32) : Option (zMem) :=
  zbi (F_Mach_pop M ) fun r3 M1 => zbi (F_Mach_pop M1 ) fun r6 M4 => if l1 = (133 : Int32) then (F_Mach_calculate_p12 M4 l1 r3 r6) else (if l1 = (134 : Int32) then (F_Mach_calculate_p12 M4 l1 r3 r6) else (if l1 < (140 : Int32) then (if l1 = (130 : Int32) then (zbv (F_Mach_push M4 (r6 + r3)) fun M11 => some M11) else (if l1 = (131 : Int32) then (zbv (F_Mach_push M4 (r6 - r3)) fun M9 => some M9) else (zbv (F_Mach_push M4 (r6 * r3)) fun M7 => some M7))) else (zbi (F_Mach_holds M4 l1 r6 r3) fun r15 M13 => if r15 = 0 then (F_Mach_calculate_p30 M13 ((0 : Int32))) else (F_Mach_calculate_p30 M13 ((1 : Int32))))))
set_option maxRecDepth 100000 in
theorem G_Mach_calculate {M : zMem} {l1 : Int32} {y : zMem} (h : F_Mach_calculate M l1 = some y) : zGo Y_Mach_calculate 2 0 (zal Y_Mach_calculate [.inr 27, .inl l1]) [] M none y := by
  unfold F_Mach_calculate at h
  show zGo Y_Mach_calculate 2 0 [some (.inr 27), some (.inl l1), none, none] [] M _ _
  refine go_aload_n K_Mach_calculate rfl rfl ?_
  obtain ⟨r3, M1, h2, h⟩ := zbi_ex h
  refine go_vi (Y' := Y_Mach_pop) (av := []) (rest := []) K_Mach_calculate rfl zl_3_105 zm_Mach_pop rfl (G_Mach_pop h2) (Nat.le_of_ble_eq_true rfl) (Nat.le_of_ble_eq_true rfl) rfl ?_
  refine go_istore_n K_Mach_calculate rfl (Nat.le_of_ble_eq_true rfl) ?_
  refine go_aload_n K_Mach_calculate rfl rfl ?_
  obtain ⟨r6, M4, h5, h⟩ := zbi_ex h
  refine go_vi (Y' := Y_Mach_pop) (av := []) (rest := []) K_Mach_calculate rfl zl_3_105 zm_Mach_pop rfl (G_Mach_pop h5) (Nat.le_of_ble_eq_true rfl) (Nat.le_of_ble_eq_true rfl) rfl ?_
  refine go_istore_n K_Mach_calculate rfl (Nat.le_of_ble_eq_true rfl) ?_
  refine go_iload_n K_Mach_calculate rfl rfl ?_
  refine go_sipush K_Mach_calculate rfl zk_sipush_133 ?_
  refine go_icmp_eq K_Mach_calculate rfl (fun c => ?_) (fun c => ?_)
  · have h := zif_t c h
    exact go_forget (G_Mach_calculate_p12 h) (zs_s (zs_s (zs_s (zs_s zs_e))))
  · have h := zif_f c h
    refine go_iload_n K_Mach_calculate rfl rfl ?_
    refine go_sipush K_Mach_calculate rfl zk_sipush_134 ?_
    refine go_icmp_ne K_Mach_calculate rfl (fun c => ?_) (fun c => ?_)
    · have h := zif_f c h
      refine go_iload_n K_Mach_calculate rfl rfl ?_
      refine go_sipush K_Mach_calculate rfl zk_sipush_140 ?_
      refine go_icmp_lt K_Mach_calculate rfl (fun c => ?_) (fun c => ?_)
      · have h := zif_t c h
        refine go_iload_n K_Mach_calculate rfl rfl ?_
        refine go_sipush K_Mach_calculate rfl zk_sipush_130 ?_
        refine go_icmp_ne K_Mach_calculate rfl (fun c => ?_) (fun c => ?_)
        · have h := zif_f c h
          refine go_iload_n K_Mach_calculate rfl rfl ?_
          refine go_sipush K_Mach_calculate rfl zk_sipush_131 ?_
          refine go_icmp_ne K_Mach_calculate rfl (fun c => ?_) (fun c => ?_)
          · have h := zif_f c h
            refine go_aload_n K_Mach_calculate rfl rfl ?_
            refine go_iload_n K_Mach_calculate rfl rfl ?_
            refine go_iload_n K_Mach_calculate rfl rfl ?_
            refine go_imul K_Mach_calculate rfl ?_
            obtain ⟨M7, h8, h⟩ := zbv_ex h
            refine go_vv (Y' := Y_Mach_push) (av := [.inl (r6 * r3)]) (rest := []) K_Mach_calculate rfl zl_3_99 zm_Mach_push rfl (G_Mach_push h8) (Nat.le_of_ble_eq_true rfl) (Nat.le_of_ble_eq_true rfl) rfl ?_
            cases h
            exact go_return K_Mach_calculate rfl rfl
          · have h := zif_t c h
            refine go_aload_n K_Mach_calculate rfl rfl ?_
            refine go_iload_n K_Mach_calculate rfl rfl ?_
            refine go_iload_n K_Mach_calculate rfl rfl ?_
            refine go_isub K_Mach_calculate rfl ?_
            obtain ⟨M9, h10, h⟩ := zbv_ex h
            refine go_vv (Y' := Y_Mach_push) (av := [.inl (r6 - r3)]) (rest := []) K_Mach_calculate rfl zl_3_99 zm_Mach_push rfl (G_Mach_push h10) (Nat.le_of_ble_eq_true rfl) (Nat.le_of_ble_eq_true rfl) rfl ?_
            refine go_goto K_Mach_calculate rfl ?_
            cases h
            exact go_return K_Mach_calculate rfl rfl
        · have h := zif_t c h
          refine go_aload_n K_Mach_calculate rfl rfl ?_
          refine go_iload_n K_Mach_calculate rfl rfl ?_
          refine go_iload_n K_Mach_calculate rfl rfl ?_
          refine go_iadd K_Mach_calculate rfl ?_
          obtain ⟨M11, h12, h⟩ := zbv_ex h
          refine go_vv (Y' := Y_Mach_push) (av := [.inl (r6 + r3)]) (rest := []) K_Mach_calculate rfl zl_3_99 zm_Mach_push rfl (G_Mach_push h12) (Nat.le_of_ble_eq_true rfl) (Nat.le_of_ble_eq_true rfl) rfl ?_
          refine go_goto K_Mach_calculate rfl ?_
          cases h
          exact go_return K_Mach_calculate rfl rfl
      · have h := zif_f c h
        refine go_aload_n K_Mach_calculate rfl rfl ?_
        refine go_iload_n K_Mach_calculate rfl rfl ?_
        refine go_iload_n K_Mach_calculate rfl rfl ?_
        refine go_iload_n K_Mach_calculate rfl rfl ?_
        obtain ⟨r15, M13, h14, h⟩ := zbi_ex h
        refine go_si (Y' := Y_Mach_holds) (av := [.inl l1, .inl r6, .inl r3]) (rest := [.inr 27]) K_Mach_calculate rfl zl_3_139 zm_Mach_holds rfl (G_Mach_holds h14) (Nat.le_of_ble_eq_true rfl) (Nat.le_of_ble_eq_true rfl) rfl ?_
        refine go_if_eq K_Mach_calculate rfl (fun c => ?_) (fun c => ?_)
        · have h := zif_t c h
          refine go_iconst K_Mach_calculate rfl zk_iconst_0 ?_
          exact go_forget (G_Mach_calculate_p30 h) (zs_n (zs_n (zs_n (zs_n zs_e))))
        · have h := zif_f c h
          refine go_iconst K_Mach_calculate rfl zk_iconst_1 ?_
          refine go_goto K_Mach_calculate rfl ?_
          exact go_forget (G_Mach_calculate_p30 h) (zs_n (zs_n (zs_n (zs_n zs_e))))
    · have h := zif_t c h
      exact go_forget (G_Mach_calculate_p12 h) (zs_s (zs_s (zs_s (zs_s zs_e))))
def F_Mach_storeLocal (M : zMem) (l1 l2 : Int32) : Option (zMem) :=
  if (((M 27 14) * (8 : Int32)) + l1) < 0 then (some M) else (if (168 : Int32) ≤ (((M 27 14) * (8 : Int32)) + l1) then (some M) else (zix (((M 27 14) * (8 : Int32)) + l1) 168 (zset M 32 (((M 27 14) * (8 : Int32)) + l1).toNatClampNeg l2 fun M2 => some M2)))
set_option maxRecDepth 100000 in
theorem G_Mach_storeLocal {M : zMem} {l1 l2 : Int32} {y : zMem} (h : F_Mach_storeLocal M l1 l2 = some y) : zGo Y_Mach_storeLocal 0 0 (zal Y_Mach_storeLocal [.inr 27, .inl l1, .inl l2]) [] M none y := by
  unfold F_Mach_storeLocal at h
  show zGo Y_Mach_storeLocal 0 0 [some (.inr 27), some (.inl l1), some (.inl l2), none] [] M _ _
  refine go_aload_n K_Mach_storeLocal rfl rfl ?_
  refine go_getI K_Mach_storeLocal rfl zf_3_58 ?_
  refine go_bipush K_Mach_storeLocal rfl zk_bipush_8 ?_
  refine go_imul K_Mach_storeLocal rfl ?_
  refine go_iload_n K_Mach_storeLocal rfl rfl ?_
  refine go_iadd K_Mach_storeLocal rfl ?_
  refine go_istore_n K_Mach_storeLocal rfl (Nat.le_of_ble_eq_true rfl) ?_
  refine go_iload_n K_Mach_storeLocal rfl rfl ?_
  refine go_if_lt K_Mach_storeLocal rfl (fun c => ?_) (fun c => ?_)
  · have h := zif_t c h
    cases h
    exact go_return K_Mach_storeLocal rfl rfl
  · have h := zif_f c h
    refine go_iload_n K_Mach_storeLocal rfl rfl ?_
    refine go_aload_n K_Mach_storeLocal rfl rfl ?_
    refine go_getR K_Mach_storeLocal rfl zf_3_28 ?_
    refine go_alen K_Mach_storeLocal rfl za_32 zlen_168 ?_
    refine go_icmp_ge K_Mach_storeLocal rfl (fun c => ?_) (fun c => ?_)
    · have h := zif_t c h
      cases h
      exact go_return K_Mach_storeLocal rfl rfl
    · have h := zif_f c h
      refine go_aload_n K_Mach_storeLocal rfl rfl ?_
      refine go_getR K_Mach_storeLocal rfl zf_3_28 ?_
      refine go_iload_n K_Mach_storeLocal rfl rfl ?_
      refine go_iload_n K_Mach_storeLocal rfl rfl ?_
      obtain ⟨i1, h⟩ := zix_ex h
      obtain ⟨M2, e3, h⟩ := zset_ex h
      refine go_iast' e3 K_Mach_storeLocal rfl za_32 i1 ?_
      cases h
      exact go_return K_Mach_storeLocal rfl rfl
def F_Mach_takeTurn (M : zMem) : Option (zMem) :=
  if (M 27 4) < (300 : Int32) then (zset M 27 4 ((M 27 4) + (1 : Int32)) fun M1 => some M1) else (zbv (F_Mach_finish M (1 : Int32)) fun M3 => some M3)
set_option maxRecDepth 100000 in
theorem G_Mach_takeTurn {M : zMem} {y : zMem} (h : F_Mach_takeTurn M  = some y) : zGo Y_Mach_takeTurn 1 0 (zal Y_Mach_takeTurn [.inr 27]) [] M none y := by
  unfold F_Mach_takeTurn at h
  show zGo Y_Mach_takeTurn 1 0 [some (.inr 27)] [] M _ _
  refine go_aload_n K_Mach_takeTurn rfl rfl ?_
  refine go_getI K_Mach_takeTurn rfl zf_3_46 ?_
  refine go_sipush K_Mach_takeTurn rfl zk_sipush_300 ?_
  refine go_icmp_lt K_Mach_takeTurn rfl (fun c => ?_) (fun c => ?_)
  · have h := zif_t c h
    refine go_aload_n K_Mach_takeTurn rfl rfl ?_
    refine go_dup K_Mach_takeTurn rfl ?_
    refine go_getI K_Mach_takeTurn rfl zf_3_46 ?_
    refine go_iconst K_Mach_takeTurn rfl zk_iconst_1 ?_
    refine go_iadd K_Mach_takeTurn rfl ?_
    obtain ⟨M1, e2, h⟩ := zset_ex h
    refine go_putI' e2 K_Mach_takeTurn rfl zf_3_46 ?_
    cases h
    exact go_return K_Mach_takeTurn rfl rfl
  · have h := zif_f c h
    refine go_aload_n K_Mach_takeTurn rfl rfl ?_
    refine go_iconst K_Mach_takeTurn rfl zk_iconst_1 ?_
    obtain ⟨M3, h4, h⟩ := zbv_ex h
    refine go_vv (Y' := Y_Mach_finish) (av := [.inl (1 : Int32)]) (rest := []) K_Mach_takeTurn rfl zl_3_123 zm_Mach_finish rfl (G_Mach_finish h4) (Nat.le_of_ble_eq_true rfl) (Nat.le_of_ble_eq_true rfl) rfl ?_
    cases h
    exact go_return K_Mach_takeTurn rfl rfl
def F_Proc_entry (M : zMem) (l1 : Int32) : Option (Int32 × zMem) :=
  if l1 < 0 then (some ((-1 : Int32), M)) else (if (4 : Int32) ≤ l1 then (some ((-1 : Int32), M)) else (zix l1 4 (some (M 9 l1.toNatClampNeg, M))))
set_option maxRecDepth 100000 in
theorem G_Proc_entry {M : zMem} {l1 : Int32} {y : Int32 × zMem} (h : F_Proc_entry M l1 = some y) : zGo Y_Proc_entry 0 0 (zal Y_Proc_entry [.inr 7, .inl l1]) [] M (some y.1) y.2 := by
  unfold F_Proc_entry at h
  show zGo Y_Proc_entry 0 0 [some (.inr 7), some (.inl l1)] [] M _ _
  refine go_iload_n K_Proc_entry rfl rfl ?_
  refine go_if_lt K_Proc_entry rfl (fun c => ?_) (fun c => ?_)
  · have h := zif_t c h
    refine go_iconst K_Proc_entry rfl zk_iconst_m1 ?_
    cases h
    exact go_ireturn K_Proc_entry rfl rfl
  · have h := zif_f c h
    refine go_iload_n K_Proc_entry rfl rfl ?_
    refine go_iconst K_Proc_entry rfl zk_iconst_4 ?_
    refine go_icmp_ge K_Proc_entry rfl (fun c => ?_) (fun c => ?_)
    · have h := zif_t c h
      refine go_iconst K_Proc_entry rfl zk_iconst_m1 ?_
      cases h
      exact go_ireturn K_Proc_entry rfl rfl
    · have h := zif_f c h
      refine go_aload_n K_Proc_entry rfl rfl ?_
      refine go_getR K_Proc_entry rfl zf_8_15 ?_
      refine go_iload_n K_Proc_entry rfl rfl ?_
      obtain ⟨i1, h⟩ := zix_ex h
      refine go_iald K_Proc_entry rfl za_9 i1 ?_
      refine go_goto K_Proc_entry rfl ?_
      cases h
      exact go_ireturn K_Proc_entry rfl rfl
def F_Proc_parameter (M : zMem) (l1 l2 : Int32) : Option (Int32 × zMem) :=
  if l1 < 0 then (some ((0 : Int32), M)) else (if (4 : Int32) ≤ l1 then (some ((0 : Int32), M)) else (if l2 < 0 then (some ((0 : Int32), M)) else (if l2 < (8 : Int32) then (zix ((l1 * (8 : Int32)) + l2) 32 (some (M 11 ((l1 * (8 : Int32)) + l2).toNatClampNeg, M))) else (some ((0 : Int32), M)))))
set_option maxRecDepth 100000 in
theorem G_Proc_parameter {M : zMem} {l1 l2 : Int32} {y : Int32 × zMem} (h : F_Proc_parameter M l1 l2 = some y) : zGo Y_Proc_parameter 0 0 (zal Y_Proc_parameter [.inr 7, .inl l1, .inl l2]) [] M (some y.1) y.2 := by
  unfold F_Proc_parameter at h
  show zGo Y_Proc_parameter 0 0 [some (.inr 7), some (.inl l1), some (.inl l2)] [] M _ _
  refine go_iload_n K_Proc_parameter rfl rfl ?_
  refine go_if_lt K_Proc_parameter rfl (fun c => ?_) (fun c => ?_)
  · have h := zif_t c h
    refine go_iconst K_Proc_parameter rfl zk_iconst_0 ?_
    cases h
    exact go_ireturn K_Proc_parameter rfl rfl
  · have h := zif_f c h
    refine go_iload_n K_Proc_parameter rfl rfl ?_
    refine go_iconst K_Proc_parameter rfl zk_iconst_4 ?_
    refine go_icmp_ge K_Proc_parameter rfl (fun c => ?_) (fun c => ?_)
    · have h := zif_t c h
      refine go_iconst K_Proc_parameter rfl zk_iconst_0 ?_
      cases h
      exact go_ireturn K_Proc_parameter rfl rfl
    · have h := zif_f c h
      refine go_iload_n K_Proc_parameter rfl rfl ?_
      refine go_if_lt K_Proc_parameter rfl (fun c => ?_) (fun c => ?_)
      · have h := zif_t c h
        refine go_iconst K_Proc_parameter rfl zk_iconst_0 ?_
        cases h
        exact go_ireturn K_Proc_parameter rfl rfl
      · have h := zif_f c h
        refine go_iload_n K_Proc_parameter rfl rfl ?_
        refine go_bipush K_Proc_parameter rfl zk_bipush_8 ?_
        refine go_icmp_lt K_Proc_parameter rfl (fun c => ?_) (fun c => ?_)
        · have h := zif_t c h
          refine go_aload_n K_Proc_parameter rfl rfl ?_
          refine go_getR K_Proc_parameter rfl zf_8_22 ?_
          refine go_iload_n K_Proc_parameter rfl rfl ?_
          refine go_bipush K_Proc_parameter rfl zk_bipush_8 ?_
          refine go_imul K_Proc_parameter rfl ?_
          refine go_iload_n K_Proc_parameter rfl rfl ?_
          refine go_iadd K_Proc_parameter rfl ?_
          obtain ⟨i1, h⟩ := zix_ex h
          refine go_iald K_Proc_parameter rfl za_11 i1 ?_
          cases h
          exact go_ireturn K_Proc_parameter rfl rfl
        · have h := zif_f c h
          refine go_iconst K_Proc_parameter rfl zk_iconst_0 ?_
          cases h
          exact go_ireturn K_Proc_parameter rfl rfl
def F_Proc_parameterCount (M : zMem) (l1 : Int32) : Option (Int32 × zMem) :=
  if l1 < 0 then (some ((0 : Int32), M)) else (if (4 : Int32) ≤ l1 then (some ((0 : Int32), M)) else (zix l1 4 (some (if (8 : Int32) < (M 10 l1.toNatClampNeg) then (8 : Int32) else (M 10 l1.toNatClampNeg), M))))
set_option maxRecDepth 100000 in
theorem G_Proc_parameterCount {M : zMem} {l1 : Int32} {y : Int32 × zMem} (h : F_Proc_parameterCount M l1 = some y) : zGo Y_Proc_parameterCount 1 0 (zal Y_Proc_parameterCount [.inr 7, .inl l1]) [] M (some y.1) y.2 := by
  unfold F_Proc_parameterCount at h
  show zGo Y_Proc_parameterCount 1 0 [some (.inr 7), some (.inl l1)] [] M _ _
  refine go_iload_n K_Proc_parameterCount rfl rfl ?_
  refine go_if_lt K_Proc_parameterCount rfl (fun c => ?_) (fun c => ?_)
  · have h := zif_t c h
    refine go_iconst K_Proc_parameterCount rfl zk_iconst_0 ?_
    cases h
    exact go_ireturn K_Proc_parameterCount rfl rfl
  · have h := zif_f c h
    refine go_iload_n K_Proc_parameterCount rfl rfl ?_
    refine go_iconst K_Proc_parameterCount rfl zk_iconst_4 ?_
    refine go_icmp_ge K_Proc_parameterCount rfl (fun c => ?_) (fun c => ?_)
    · have h := zif_t c h
      refine go_iconst K_Proc_parameterCount rfl zk_iconst_0 ?_
      cases h
      exact go_ireturn K_Proc_parameterCount rfl rfl
    · have h := zif_f c h
      refine go_aload_n K_Proc_parameterCount rfl rfl ?_
      refine go_getR K_Proc_parameterCount rfl zf_8_19 ?_
      refine go_iload_n K_Proc_parameterCount rfl rfl ?_
      obtain ⟨i1, h⟩ := zix_ex h
      refine go_iald K_Proc_parameterCount rfl za_10 i1 ?_
      refine go_bipush K_Proc_parameterCount rfl zk_bipush_8 ?_
      refine go_min K_Proc_parameterCount rfl zl_8_60 (Nat.le_of_ble_eq_true rfl) (Nat.le_of_ble_eq_true rfl) ?_
      refine go_goto K_Proc_parameterCount rfl ?_
      cases h
      exact go_ireturn K_Proc_parameterCount rfl rfl
def F_Mach_call_p13 (N : Nat) (M : zMem) : Option (zMem) :=
  zbv (F_Mach_finish M (2 : Int32)) fun M1 => some M1
set_option maxRecDepth 100000 in
theorem G_Mach_call_p13 {N : Nat} {M : zMem} {y : zMem} (h : F_Mach_call_p13 N M  = some y) : zGo Y_Mach_call 2 13 [some (.inr 27), none, none] [] M none y := by
  unfold F_Mach_call_p13 at h
  refine go_aload_n K_Mach_call rfl rfl ?_
  refine go_iconst K_Mach_call rfl zk_iconst_2 ?_
  obtain ⟨M1, h2, h⟩ := zbv_ex h
  refine go_vv (Y' := Y_Mach_finish) (av := [.inl (2 : Int32)]) (rest := []) K_Mach_call rfl zl_3_123 zm_Mach_finish rfl (G_Mach_finish h2) (Nat.le_of_ble_eq_true rfl) (Nat.le_of_ble_eq_true rfl) rfl ?_
  cases h
  exact go_return K_Mach_call rfl rfl
def F_Mach_call_p55 (N : Nat) : Nat → zMem → Int32 → Int32 → Option (zMem)
  | 0, _, _, _ => none
  | n + 1, M, l1, l2 =>
    if l2 < 0 then (zbi (F_Proc_entry M l1) fun r3 M1 => zset M1 27 15 r3 fun M4 => some M4) else (zbi (F_Proc_parameter M l1 l2) fun r8 M6 => zbi (F_Mach_pop M6 ) fun r11 M9 => zbv (F_Mach_storeLocal M9 r8 r11) fun M12 => F_Mach_call_p55 N n M12 l1 (l2 + (-1 : Int32)))
set_option maxRecDepth 100000 in
theorem G_Mach_call_p55 {N : Nat} : ∀ (n : Nat) {M : zMem} {l1 l2 : Int32} {y : zMem}, F_Mach_call_p55 N n M l1 l2 = some y → zGo Y_Mach_call 2 55 [some (.inr 27), some (.inl l1), some (.inl l2)] [] M none y := by
  intro n
  induction n with
  | zero =>
    intro M l1 l2 y h
    unfold F_Mach_call_p55 at h
    cases h
  | succ n ih =>
    intro M l1 l2 y h
    unfold F_Mach_call_p55 at h
    refine go_iload_n K_Mach_call rfl rfl ?_
    refine go_if_lt K_Mach_call rfl (fun c => ?_) (fun c => ?_)
    · have h := zif_t c h
      refine go_aload_n K_Mach_call rfl rfl ?_
      refine go_aload_n K_Mach_call rfl rfl ?_
      refine go_getR K_Mach_call rfl zf_3_38 ?_
      refine go_iload_n K_Mach_call rfl rfl ?_
      obtain ⟨r3, M1, h2, h⟩ := zbi_ex h
      refine go_vi (Y' := Y_Proc_entry) (av := [.inl l1]) (rest := [.inr 27]) K_Mach_call rfl zl_3_155 zm_Proc_entry rfl (G_Proc_entry h2) (Nat.le_of_ble_eq_true rfl) (Nat.le_of_ble_eq_true rfl) rfl ?_
      obtain ⟨M4, e5, h⟩ := zset_ex h
      refine go_putI' e5 K_Mach_call rfl zf_3_67 ?_
      cases h
      exact go_return K_Mach_call rfl rfl
    · have h := zif_f c h
      refine go_aload_n K_Mach_call rfl rfl ?_
      refine go_aload_n K_Mach_call rfl rfl ?_
      refine go_getR K_Mach_call rfl zf_3_38 ?_
      refine go_iload_n K_Mach_call rfl rfl ?_
      refine go_iload_n K_Mach_call rfl rfl ?_
      obtain ⟨r8, M6, h7, h⟩ := zbi_ex h
      refine go_vi (Y' := Y_Proc_parameter) (av := [.inl l1, .inl l2]) (rest := [.inr 27]) K_Mach_call rfl zl_3_152 zm_Proc_parameter rfl (G_Proc_parameter h7) (Nat.le_of_ble_eq_true rfl) (Nat.le_of_ble_eq_true rfl) rfl ?_
      refine go_aload_n K_Mach_call rfl rfl ?_
      obtain ⟨r11, M9, h10, h⟩ := zbi_ex h
      refine go_vi (Y' := Y_Mach_pop) (av := []) (rest := [.inl r8, .inr 27]) K_Mach_call rfl zl_3_105 zm_Mach_pop rfl (G_Mach_pop h10) (Nat.le_of_ble_eq_true rfl) (Nat.le_of_ble_eq_true rfl) rfl ?_
      obtain ⟨M12, h13, h⟩ := zbv_ex h
      refine go_vv (Y' := Y_Mach_storeLocal) (av := [.inl r8, .inl r11]) (rest := []) K_Mach_call rfl zl_3_114 zm_Mach_storeLocal rfl (G_Mach_storeLocal h13) (Nat.le_of_ble_eq_true rfl) (Nat.le_of_ble_eq_true rfl) rfl ?_
      refine go_iinc (v := l2 + (-1 : Int32)) K_Mach_call rfl rfl zinc_m1 ?_
      refine go_goto K_Mach_call rfl ?_
      exact go_forget (ih h) (zs_s (zs_s (zs_s zs_e)))
def F_Mach_call_p39 (N : Nat) : Nat → zMem → Int32 → Int32 → Option (zMem)
  | 0, _, _, _ => none
  | n + 1, M, l1, l2 =>
    if (8 : Int32) ≤ l2 then (zbi (F_Proc_parameterCount M l1) fun r3 M1 => F_Mach_call_p55 N N M1 l1 (r3 - (1 : Int32))) else (zbv (F_Mach_storeLocal M l2 (0 : Int32)) fun M4 => F_Mach_call_p39 N n M4 l1 (l2 + (1 : Int32)))
set_option maxRecDepth 100000 in
theorem G_Mach_call_p39 {N : Nat} : ∀ (n : Nat) {M : zMem} {l1 l2 : Int32} {y : zMem}, F_Mach_call_p39 N n M l1 l2 = some y → zGo Y_Mach_call 2 39 [some (.inr 27), some (.inl l1), some (.inl l2)] [] M none y := by
  intro n
  induction n with
  | zero =>
    intro M l1 l2 y h
    unfold F_Mach_call_p39 at h
    cases h
  | succ n ih =>
    intro M l1 l2 y h
    unfold F_Mach_call_p39 at h
    refine go_iload_n K_Mach_call rfl rfl ?_
    refine go_bipush K_Mach_call rfl zk_bipush_8 ?_
    refine go_icmp_ge K_Mach_call rfl (fun c => ?_) (fun c => ?_)
    · have h := zif_t c h
      refine go_aload_n K_Mach_call rfl rfl ?_
      refine go_getR K_Mach_call rfl zf_3_38 ?_
      refine go_iload_n K_Mach_call rfl rfl ?_
      obtain ⟨r3, M1, h2, h⟩ := zbi_ex h
      refine go_vi (Y' := Y_Proc_parameterCount) (av := [.inl l1]) (rest := []) K_Mach_call rfl zl_3_149 zm_Proc_parameterCount rfl (G_Proc_parameterCount h2) (Nat.le_of_ble_eq_true rfl) (Nat.le_of_ble_eq_true rfl) rfl ?_
      refine go_iconst K_Mach_call rfl zk_iconst_1 ?_
      refine go_isub K_Mach_call rfl ?_
      refine go_istore_n K_Mach_call rfl (Nat.le_of_ble_eq_true rfl) ?_
      exact go_forget (G_Mach_call_p55 _ h) (zs_s (zs_s (zs_s zs_e)))
    · have h := zif_f c h
      refine go_aload_n K_Mach_call rfl rfl ?_
      refine go_iload_n K_Mach_call rfl rfl ?_
      refine go_iconst K_Mach_call rfl zk_iconst_0 ?_
      obtain ⟨M4, h5, h⟩ := zbv_ex h
      refine go_vv (Y' := Y_Mach_storeLocal) (av := [.inl l2, .inl (0 : Int32)]) (rest := []) K_Mach_call rfl zl_3_114 zm_Mach_storeLocal rfl (G_Mach_storeLocal h5) (Nat.le_of_ble_eq_true rfl) (Nat.le_of_ble_eq_true rfl) rfl ?_
      refine go_iinc (v := l2 + (1 : Int32)) K_Mach_call rfl rfl zinc_1 ?_
      refine go_goto K_Mach_call rfl ?_
      exact go_forget (ih h) (zs_s (zs_s (zs_s zs_e)))
def F_Mach_call (N : Nat) (M : zMem) (l1 : Int32) : Option (zMem) :=
  zbv (F_Mach_takeTurn M ) fun M1 => if (M1 27 16) = 0 then (some M1) else (if (M1 27 14) < 0 then (F_Mach_call_p13 N M1 ) else (if (M1 27 14) < (20 : Int32) then (zset M1 27 14 ((M1 27 14) + (1 : Int32)) fun M3 => zset M3 27 5 (if (M3 27 5) < (M3 27 14) then (M3 27 14) else (M3 27 5)) fun M5 => zix (M5 27 14) 21 (zset M5 33 (M5 27 14).toNatClampNeg (M5 27 15) fun M8 => F_Mach_call_p39 N N M8 l1 ((0 : Int32)))) else (F_Mach_call_p13 N M1 )))
set_option maxRecDepth 100000 in
theorem G_Mach_call {N : Nat} {M : zMem} {l1 : Int32} {y : zMem} (h : F_Mach_call N M l1 = some y) : zGo Y_Mach_call 2 0 (zal Y_Mach_call [.inr 27, .inl l1]) [] M none y := by
  unfold F_Mach_call at h
  show zGo Y_Mach_call 2 0 [some (.inr 27), some (.inl l1), none] [] M _ _
  refine go_aload_n K_Mach_call rfl rfl ?_
  obtain ⟨M1, h2, h⟩ := zbv_ex h
  refine go_vv (Y' := Y_Mach_takeTurn) (av := []) (rest := []) K_Mach_call rfl zl_3_126 zm_Mach_takeTurn rfl (G_Mach_takeTurn h2) (Nat.le_of_ble_eq_true rfl) (Nat.le_of_ble_eq_true rfl) rfl ?_
  refine go_aload_n K_Mach_call rfl rfl ?_
  refine go_getI K_Mach_call rfl zf_3_70 ?_
  refine go_if_ne K_Mach_call rfl (fun c => ?_) (fun c => ?_)
  · have h := zif_f c h
    refine go_aload_n K_Mach_call rfl rfl ?_
    refine go_getI K_Mach_call rfl zf_3_58 ?_
    refine go_if_lt K_Mach_call rfl (fun c => ?_) (fun c => ?_)
    · have h := zif_t c h
      exact go_forget (G_Mach_call_p13 h) (zs_s (zs_n (zs_n zs_e)))
    · have h := zif_f c h
      refine go_aload_n K_Mach_call rfl rfl ?_
      refine go_getI K_Mach_call rfl zf_3_58 ?_
      refine go_bipush K_Mach_call rfl zk_bipush_20 ?_
      refine go_icmp_lt K_Mach_call rfl (fun c => ?_) (fun c => ?_)
      · have h := zif_t c h
        refine go_aload_n K_Mach_call rfl rfl ?_
        refine go_dup K_Mach_call rfl ?_
        refine go_getI K_Mach_call rfl zf_3_58 ?_
        refine go_iconst K_Mach_call rfl zk_iconst_1 ?_
        refine go_iadd K_Mach_call rfl ?_
        obtain ⟨M3, e4, h⟩ := zset_ex h
        refine go_putI' e4 K_Mach_call rfl zf_3_58 ?_
        refine go_aload_n K_Mach_call rfl rfl ?_
        refine go_aload_n K_Mach_call rfl rfl ?_
        refine go_getI K_Mach_call rfl zf_3_49 ?_
        refine go_aload_n K_Mach_call rfl rfl ?_
        refine go_getI K_Mach_call rfl zf_3_58 ?_
        refine go_max K_Mach_call rfl zl_3_143 (Nat.le_of_ble_eq_true rfl) (Nat.le_of_ble_eq_true rfl) ?_
        obtain ⟨M5, e6, h⟩ := zset_ex h
        refine go_putI' e6 K_Mach_call rfl zf_3_49 ?_
        refine go_aload_n K_Mach_call rfl rfl ?_
        refine go_getR K_Mach_call rfl zf_3_31 ?_
        refine go_aload_n K_Mach_call rfl rfl ?_
        refine go_getI K_Mach_call rfl zf_3_58 ?_
        refine go_aload_n K_Mach_call rfl rfl ?_
        refine go_getI K_Mach_call rfl zf_3_67 ?_
        obtain ⟨i7, h⟩ := zix_ex h
        obtain ⟨M8, e9, h⟩ := zset_ex h
        refine go_iast' e9 K_Mach_call rfl za_33 i7 ?_
        refine go_iconst K_Mach_call rfl zk_iconst_0 ?_
        refine go_istore_n K_Mach_call rfl (Nat.le_of_ble_eq_true rfl) ?_
        exact go_forget (G_Mach_call_p39 _ h) (zs_s (zs_s (zs_s zs_e)))
      · have h := zif_f c h
        exact go_forget (G_Mach_call_p13 h) (zs_s (zs_n (zs_n zs_e)))
  · have h := zif_t c h
    cases h
    exact go_return K_Mach_call rfl rfl
def F_Mach_leave_p7 (M : zMem) : Option (zMem) :=
  zbv (F_Mach_finish M (0 : Int32)) fun M1 => some M1
set_option maxRecDepth 100000 in
theorem G_Mach_leave_p7 {M : zMem} {y : zMem} (h : F_Mach_leave_p7 M  = some y) : zGo Y_Mach_leave 1 7 [some (.inr 27)] [] M none y := by
  unfold F_Mach_leave_p7 at h
  refine go_aload_n K_Mach_leave rfl rfl ?_
  refine go_iconst K_Mach_leave rfl zk_iconst_0 ?_
  obtain ⟨M1, h2, h⟩ := zbv_ex h
  refine go_vv (Y' := Y_Mach_finish) (av := [.inl (0 : Int32)]) (rest := []) K_Mach_leave rfl zl_3_123 zm_Mach_finish rfl (G_Mach_finish h2) (Nat.le_of_ble_eq_true rfl) (Nat.le_of_ble_eq_true rfl) rfl ?_
  cases h
  exact go_return K_Mach_leave rfl rfl
def F_Mach_leave (M : zMem) : Option (zMem) :=
  if (M 27 14) ≤ 0 then (F_Mach_leave_p7 M ) else (if (M 27 14) ≤ (20 : Int32) then (zix (M 27 14) 21 (zset M 27 15 (M 33 (M 27 14).toNatClampNeg) fun M2 => zset M2 27 14 ((M2 27 14) - (1 : Int32)) fun M4 => some M4)) else (F_Mach_leave_p7 M ))
set_option maxRecDepth 100000 in
theorem G_Mach_leave {M : zMem} {y : zMem} (h : F_Mach_leave M  = some y) : zGo Y_Mach_leave 1 0 (zal Y_Mach_leave [.inr 27]) [] M none y := by
  unfold F_Mach_leave at h
  show zGo Y_Mach_leave 1 0 [some (.inr 27)] [] M _ _
  refine go_aload_n K_Mach_leave rfl rfl ?_
  refine go_getI K_Mach_leave rfl zf_3_58 ?_
  refine go_if_le K_Mach_leave rfl (fun c => ?_) (fun c => ?_)
  · have h := zif_t c h
    exact go_forget (G_Mach_leave_p7 h) (zs_s zs_e)
  · have h := zif_f c h
    refine go_aload_n K_Mach_leave rfl rfl ?_
    refine go_getI K_Mach_leave rfl zf_3_58 ?_
    refine go_bipush K_Mach_leave rfl zk_bipush_20 ?_
    refine go_icmp_le K_Mach_leave rfl (fun c => ?_) (fun c => ?_)
    · have h := zif_t c h
      refine go_aload_n K_Mach_leave rfl rfl ?_
      refine go_aload_n K_Mach_leave rfl rfl ?_
      refine go_getR K_Mach_leave rfl zf_3_31 ?_
      refine go_aload_n K_Mach_leave rfl rfl ?_
      refine go_getI K_Mach_leave rfl zf_3_58 ?_
      obtain ⟨i1, h⟩ := zix_ex h
      refine go_iald K_Mach_leave rfl za_33 i1 ?_
      obtain ⟨M2, e3, h⟩ := zset_ex h
      refine go_putI' e3 K_Mach_leave rfl zf_3_67 ?_
      refine go_aload_n K_Mach_leave rfl rfl ?_
      refine go_dup K_Mach_leave rfl ?_
      refine go_getI K_Mach_leave rfl zf_3_58 ?_
      refine go_iconst K_Mach_leave rfl zk_iconst_1 ?_
      refine go_isub K_Mach_leave rfl ?_
      obtain ⟨M4, e5, h⟩ := zset_ex h
      refine go_putI' e5 K_Mach_leave rfl zf_3_58 ?_
      cases h
      exact go_return K_Mach_leave rfl rfl
    · have h := zif_f c h
      exact go_forget (G_Mach_leave_p7 h) (zs_s zs_e)
def F_Mach_go (N : Nat) (M : zMem) (l1 l2 : Int32) : Option (zMem) :=
  if l1 = (20 : Int32) then (zset M 27 15 l2 fun M1 => some M1) else (if l1 = (21 : Int32) then (zbi (F_Mach_pop M ) fun r6 M4 => if r6 = 0 then (zset M4 27 15 l2 fun M7 => some M7) else (some M4)) else (if l1 = (22 : Int32) then (zbi (F_Mach_pop M ) fun r12 M10 => if r12 = 0 then (zbv (F_Mach_push M10 (0 : Int32)) fun M13 => zset M13 27 15 l2 fun M15 => some M15) else (some M10)) else (if l1 = (23 : Int32) then (zbi (F_Mach_pop M ) fun r20 M18 => if r20 = 0 then (some M18) else (zbv (F_Mach_push M18 (1 : Int32)) fun M21 => zset M21 27 15 l2 fun M23 => some M23)) else (if l1 = (24 : Int32) then (zbv (F_Mach_takeTurn M ) fun M26 => some M26) else (if l1 = (25 : Int32) then (zbv (F_Mach_call N M l2) fun M29 => some M29) else (if l1 = (26 : Int32) then (zbv (F_Mach_leave M ) fun M32 => some M32) else (zbv (F_Mach_finish M (0 : Int32)) fun M35 => some M35)))))))
set_option maxRecDepth 100000 in
theorem G_Mach_go {N : Nat} {M : zMem} {l1 l2 : Int32} {y : zMem} (h : F_Mach_go N M l1 l2 = some y) : zGo Y_Mach_go 3 0 (zal Y_Mach_go [.inr 27, .inl l1, .inl l2]) [] M none y := by
  unfold F_Mach_go at h
  show zGo Y_Mach_go 3 0 [some (.inr 27), some (.inl l1), some (.inl l2)] [] M _ _
  refine go_iload_n K_Mach_go rfl rfl ?_
  by_cases c3 : l1 = (20 : Int32)
  · have h := zif_t c3 h
    refine go_switch (k' := 2) (off := 43) K_Mach_go rfl (by show zsw _ (l1) = _; rw [c3]; decide) (by decide) ?_
    refine go_aload_n K_Mach_go rfl rfl ?_
    refine go_iload_n K_Mach_go rfl rfl ?_
    obtain ⟨M1, e2, h⟩ := zset_ex h
    refine go_putI' e2 K_Mach_go rfl zf_3_67 ?_
    refine go_goto K_Mach_go rfl ?_
    cases h
    exact go_return K_Mach_go rfl rfl
  have h := zif_f c3 h
  by_cases c9 : l1 = (21 : Int32)
  · have h := zif_t c9 h
    refine go_switch (k' := 6) (off := 51) K_Mach_go rfl (by show zsw _ (l1) = _; rw [c9]; decide) (by decide) ?_
    refine go_aload_n K_Mach_go rfl rfl ?_
    obtain ⟨r6, M4, h5, h⟩ := zbi_ex h
    refine go_vi (Y' := Y_Mach_pop) (av := []) (rest := []) K_Mach_go rfl zl_3_105 zm_Mach_pop rfl (G_Mach_pop h5) (Nat.le_of_ble_eq_true rfl) (Nat.le_of_ble_eq_true rfl) rfl ?_
    refine go_if_ne K_Mach_go rfl (fun c => ?_) (fun c => ?_)
    · have h := zif_f c h
      cases h
      exact go_return K_Mach_go rfl rfl
    · have h := zif_t c h
      refine go_aload_n K_Mach_go rfl rfl ?_
      refine go_iload_n K_Mach_go rfl rfl ?_
      obtain ⟨M7, e8, h⟩ := zset_ex h
      refine go_putI' e8 K_Mach_go rfl zf_3_67 ?_
      refine go_goto K_Mach_go rfl ?_
      cases h
      exact go_return K_Mach_go rfl rfl
  have h := zif_f c9 h
  by_cases c17 : l1 = (22 : Int32)
  · have h := zif_t c17 h
    refine go_switch (k' := 13) (off := 66) K_Mach_go rfl (by show zsw _ (l1) = _; rw [c17]; decide) (by decide) ?_
    refine go_aload_n K_Mach_go rfl rfl ?_
    obtain ⟨r12, M10, h11, h⟩ := zbi_ex h
    refine go_vi (Y' := Y_Mach_pop) (av := []) (rest := []) K_Mach_go rfl zl_3_105 zm_Mach_pop rfl (G_Mach_pop h11) (Nat.le_of_ble_eq_true rfl) (Nat.le_of_ble_eq_true rfl) rfl ?_
    refine go_if_ne K_Mach_go rfl (fun c => ?_) (fun c => ?_)
    · have h := zif_f c h
      cases h
      exact go_return K_Mach_go rfl rfl
    · have h := zif_t c h
      refine go_aload_n K_Mach_go rfl rfl ?_
      refine go_iconst K_Mach_go rfl zk_iconst_0 ?_
      obtain ⟨M13, h14, h⟩ := zbv_ex h
      refine go_vv (Y' := Y_Mach_push) (av := [.inl (0 : Int32)]) (rest := []) K_Mach_go rfl zl_3_99 zm_Mach_push rfl (G_Mach_push h14) (Nat.le_of_ble_eq_true rfl) (Nat.le_of_ble_eq_true rfl) rfl ?_
      refine go_aload_n K_Mach_go rfl rfl ?_
      refine go_iload_n K_Mach_go rfl rfl ?_
      obtain ⟨M15, e16, h⟩ := zset_ex h
      refine go_putI' e16 K_Mach_go rfl zf_3_67 ?_
      refine go_goto K_Mach_go rfl ?_
      cases h
      exact go_return K_Mach_go rfl rfl
  have h := zif_f c17 h
  by_cases c25 : l1 = (23 : Int32)
  · have h := zif_t c25 h
    refine go_switch (k' := 23) (off := 86) K_Mach_go rfl (by show zsw _ (l1) = _; rw [c25]; decide) (by decide) ?_
    refine go_aload_n K_Mach_go rfl rfl ?_
    obtain ⟨r20, M18, h19, h⟩ := zbi_ex h
    refine go_vi (Y' := Y_Mach_pop) (av := []) (rest := []) K_Mach_go rfl zl_3_105 zm_Mach_pop rfl (G_Mach_pop h19) (Nat.le_of_ble_eq_true rfl) (Nat.le_of_ble_eq_true rfl) rfl ?_
    refine go_if_eq K_Mach_go rfl (fun c => ?_) (fun c => ?_)
    · have h := zif_t c h
      cases h
      exact go_return K_Mach_go rfl rfl
    · have h := zif_f c h
      refine go_aload_n K_Mach_go rfl rfl ?_
      refine go_iconst K_Mach_go rfl zk_iconst_1 ?_
      obtain ⟨M21, h22, h⟩ := zbv_ex h
      refine go_vv (Y' := Y_Mach_push) (av := [.inl (1 : Int32)]) (rest := []) K_Mach_go rfl zl_3_99 zm_Mach_push rfl (G_Mach_push h22) (Nat.le_of_ble_eq_true rfl) (Nat.le_of_ble_eq_true rfl) rfl ?_
      refine go_aload_n K_Mach_go rfl rfl ?_
      refine go_iload_n K_Mach_go rfl rfl ?_
      obtain ⟨M23, e24, h⟩ := zset_ex h
      refine go_putI' e24 K_Mach_go rfl zf_3_67 ?_
      refine go_goto K_Mach_go rfl ?_
      cases h
      exact go_return K_Mach_go rfl rfl
  have h := zif_f c25 h
  by_cases c28 : l1 = (24 : Int32)
  · have h := zif_t c28 h
    refine go_switch (k' := 33) (off := 106) K_Mach_go rfl (by show zsw _ (l1) = _; rw [c28]; decide) (by decide) ?_
    refine go_aload_n K_Mach_go rfl rfl ?_
    obtain ⟨M26, h27, h⟩ := zbv_ex h
    refine go_vv (Y' := Y_Mach_takeTurn) (av := []) (rest := []) K_Mach_go rfl zl_3_126 zm_Mach_takeTurn rfl (G_Mach_takeTurn h27) (Nat.le_of_ble_eq_true rfl) (Nat.le_of_ble_eq_true rfl) rfl ?_
    refine go_goto K_Mach_go rfl ?_
    cases h
    exact go_return K_Mach_go rfl rfl
  have h := zif_f c28 h
  by_cases c31 : l1 = (25 : Int32)
  · have h := zif_t c31 h
    refine go_switch (k' := 36) (off := 113) K_Mach_go rfl (by show zsw _ (l1) = _; rw [c31]; decide) (by decide) ?_
    refine go_aload_n K_Mach_go rfl rfl ?_
    refine go_iload_n K_Mach_go rfl rfl ?_
    obtain ⟨M29, h30, h⟩ := zbv_ex h
    refine go_vv (Y' := Y_Mach_call) (av := [.inl l2]) (rest := []) K_Mach_go rfl zl_3_129 zm_Mach_call rfl (G_Mach_call h30) (Nat.le_of_ble_eq_true rfl) (Nat.le_of_ble_eq_true rfl) rfl ?_
    refine go_goto K_Mach_go rfl ?_
    cases h
    exact go_return K_Mach_go rfl rfl
  have h := zif_f c31 h
  by_cases c34 : l1 = (26 : Int32)
  · have h := zif_t c34 h
    refine go_switch (k' := 40) (off := 121) K_Mach_go rfl (by show zsw _ (l1) = _; rw [c34]; decide) (by decide) ?_
    refine go_aload_n K_Mach_go rfl rfl ?_
    obtain ⟨M32, h33, h⟩ := zbv_ex h
    refine go_vv (Y' := Y_Mach_leave) (av := []) (rest := []) K_Mach_go rfl zl_3_132 zm_Mach_leave rfl (G_Mach_leave h33) (Nat.le_of_ble_eq_true rfl) (Nat.le_of_ble_eq_true rfl) rfl ?_
    refine go_goto K_Mach_go rfl ?_
    cases h
    exact go_return K_Mach_go rfl rfl
  have h := zif_f c34 h
  refine go_switch (k' := 43) (off := 128) K_Mach_go rfl (zsw_t (fun i h1 h2 he => by rcases (show i = 20 ∨ i = 21 ∨ i = 22 ∨ i = 23 ∨ i = 24 ∨ i = 25 ∨ i = 26 by omega) with rfl | rfl | rfl | rfl | rfl | rfl | rfl <;> first | exact c3 (Int32.toInt_inj.mp (he.trans (by decide))) | exact c9 (Int32.toInt_inj.mp (he.trans (by decide))) | exact c17 (Int32.toInt_inj.mp (he.trans (by decide))) | exact c25 (Int32.toInt_inj.mp (he.trans (by decide))) | exact c28 (Int32.toInt_inj.mp (he.trans (by decide))) | exact c31 (Int32.toInt_inj.mp (he.trans (by decide))) | exact c34 (Int32.toInt_inj.mp (he.trans (by decide))))) (by decide) ?_
  refine go_aload_n K_Mach_go rfl rfl ?_
  refine go_iconst K_Mach_go rfl zk_iconst_0 ?_
  obtain ⟨M35, h36, h⟩ := zbv_ex h
  refine go_vv (Y' := Y_Mach_finish) (av := [.inl (0 : Int32)]) (rest := []) K_Mach_go rfl zl_3_123 zm_Mach_finish rfl (G_Mach_finish h36) (Nat.le_of_ble_eq_true rfl) (Nat.le_of_ble_eq_true rfl) rfl ?_
  cases h
  exact go_return K_Mach_go rfl rfl
def F_Mach_loadCell (M : zMem) (l1 : Int32) : Option (Int32 × zMem) :=
  if (l1 &&& (15 : Int32)) < 0 then (some ((0 : Int32), M)) else (if (16 : Int32) ≤ (l1 &&& (15 : Int32)) then (some ((0 : Int32), M)) else (zix (l1 &&& (15 : Int32)) 16 (some (M 29 (l1 &&& (15 : Int32)).toNatClampNeg, M))))
set_option maxRecDepth 100000 in
theorem G_Mach_loadCell {M : zMem} {l1 : Int32} {y : Int32 × zMem} (h : F_Mach_loadCell M l1 = some y) : zGo Y_Mach_loadCell 0 0 (zal Y_Mach_loadCell [.inr 27, .inl l1]) [] M (some y.1) y.2 := by
  unfold F_Mach_loadCell at h
  show zGo Y_Mach_loadCell 0 0 [some (.inr 27), some (.inl l1), none] [] M _ _
  refine go_iload_n K_Mach_loadCell rfl rfl ?_
  refine go_bipush K_Mach_loadCell rfl zk_bipush_15 ?_
  refine go_iand K_Mach_loadCell rfl ?_
  refine go_istore_n K_Mach_loadCell rfl (Nat.le_of_ble_eq_true rfl) ?_
  refine go_iload_n K_Mach_loadCell rfl rfl ?_
  refine go_if_lt K_Mach_loadCell rfl (fun c => ?_) (fun c => ?_)
  · have h := zif_t c h
    refine go_iconst K_Mach_loadCell rfl zk_iconst_0 ?_
    cases h
    exact go_ireturn K_Mach_loadCell rfl rfl
  · have h := zif_f c h
    refine go_iload_n K_Mach_loadCell rfl rfl ?_
    refine go_aload_n K_Mach_loadCell rfl rfl ?_
    refine go_getR K_Mach_loadCell rfl zf_3_15 ?_
    refine go_alen K_Mach_loadCell rfl za_29 zlen_16 ?_
    refine go_icmp_ge K_Mach_loadCell rfl (fun c => ?_) (fun c => ?_)
    · have h := zif_t c h
      refine go_iconst K_Mach_loadCell rfl zk_iconst_0 ?_
      cases h
      exact go_ireturn K_Mach_loadCell rfl rfl
    · have h := zif_f c h
      refine go_aload_n K_Mach_loadCell rfl rfl ?_
      refine go_getR K_Mach_loadCell rfl zf_3_15 ?_
      refine go_iload_n K_Mach_loadCell rfl rfl ?_
      obtain ⟨i1, h⟩ := zix_ex h
      refine go_iald K_Mach_loadCell rfl za_29 i1 ?_
      refine go_goto K_Mach_loadCell rfl ?_
      cases h
      exact go_ireturn K_Mach_loadCell rfl rfl
def F_Mach_loadLocal (M : zMem) (l1 : Int32) : Option (Int32 × zMem) :=
  if (((M 27 14) * (8 : Int32)) + l1) < 0 then (some ((0 : Int32), M)) else (if (168 : Int32) ≤ (((M 27 14) * (8 : Int32)) + l1) then (some ((0 : Int32), M)) else (zix (((M 27 14) * (8 : Int32)) + l1) 168 (some (M 32 (((M 27 14) * (8 : Int32)) + l1).toNatClampNeg, M))))
set_option maxRecDepth 100000 in
theorem G_Mach_loadLocal {M : zMem} {l1 : Int32} {y : Int32 × zMem} (h : F_Mach_loadLocal M l1 = some y) : zGo Y_Mach_loadLocal 0 0 (zal Y_Mach_loadLocal [.inr 27, .inl l1]) [] M (some y.1) y.2 := by
  unfold F_Mach_loadLocal at h
  show zGo Y_Mach_loadLocal 0 0 [some (.inr 27), some (.inl l1), none] [] M _ _
  refine go_aload_n K_Mach_loadLocal rfl rfl ?_
  refine go_getI K_Mach_loadLocal rfl zf_3_58 ?_
  refine go_bipush K_Mach_loadLocal rfl zk_bipush_8 ?_
  refine go_imul K_Mach_loadLocal rfl ?_
  refine go_iload_n K_Mach_loadLocal rfl rfl ?_
  refine go_iadd K_Mach_loadLocal rfl ?_
  refine go_istore_n K_Mach_loadLocal rfl (Nat.le_of_ble_eq_true rfl) ?_
  refine go_iload_n K_Mach_loadLocal rfl rfl ?_
  refine go_if_lt K_Mach_loadLocal rfl (fun c => ?_) (fun c => ?_)
  · have h := zif_t c h
    refine go_iconst K_Mach_loadLocal rfl zk_iconst_0 ?_
    cases h
    exact go_ireturn K_Mach_loadLocal rfl rfl
  · have h := zif_f c h
    refine go_iload_n K_Mach_loadLocal rfl rfl ?_
    refine go_aload_n K_Mach_loadLocal rfl rfl ?_
    refine go_getR K_Mach_loadLocal rfl zf_3_28 ?_
    refine go_alen K_Mach_loadLocal rfl za_32 zlen_168 ?_
    refine go_icmp_ge K_Mach_loadLocal rfl (fun c => ?_) (fun c => ?_)
    · have h := zif_t c h
      refine go_iconst K_Mach_loadLocal rfl zk_iconst_0 ?_
      cases h
      exact go_ireturn K_Mach_loadLocal rfl rfl
    · have h := zif_f c h
      refine go_aload_n K_Mach_loadLocal rfl rfl ?_
      refine go_getR K_Mach_loadLocal rfl zf_3_28 ?_
      refine go_iload_n K_Mach_loadLocal rfl rfl ?_
      obtain ⟨i1, h⟩ := zix_ex h
      refine go_iald K_Mach_loadLocal rfl za_32 i1 ?_
      refine go_goto K_Mach_loadLocal rfl ?_
      cases h
      exact go_ireturn K_Mach_loadLocal rfl rfl
