def F_Pars_accept (N : Nat) (M : zMem) (l1 l2 l3 : Int32) : Option (Int32 × zMem) :=
  if l1 = (9 : Int32) then (zbi (F_Tok_beginsStatement M l2) fun r3 M1 => if r3 = 0 then (zbi (F_Stat_end N M1 l2) fun r6 M4 => some (r6, M4)) else (zbi (F_Stat_begin M1 l2 l3) fun r9 M7 => some (r9, M7))) else (if l1 = (10 : Int32) then (zbi (F_Stat_end N M l2) fun r13 M11 => some (r13, M11)) else (if l1 = (11 : Int32) then (if l2 = (120 : Int32) then (some ((21 : Int32), M)) else (some ((-1 : Int32), M))) else (if l1 = (12 : Int32) then (if l2 = (126 : Int32) then (zbi (F_Stat_closeTarget M ) fun r18 M16 => some (r18, M16)) else (some ((-1 : Int32), M))) else (if l1 = (13 : Int32) then (if l2 = (165 : Int32) then (zbi (F_Stat_beginWhileBody M ) fun r22 M20 => some (r22, M20)) else (some ((-1 : Int32), M))) else (if l1 = (14 : Int32) then (if l2 = (161 : Int32) then (zbi (F_Stat_beginThen M ) fun r26 M24 => some (r26, M24)) else (some ((-1 : Int32), M))) else (if l1 = (15 : Int32) then (if l2 = (125 : Int32) then (some ((21 : Int32), M)) else (some ((-1 : Int32), M))) else (if l1 = (16 : Int32) then (if l2 = (126 : Int32) then (zbi (F_Expr_closeIndex M ) fun r31 M29 => some (r31, M29)) else (some ((-1 : Int32), M))) else (if l1 = (17 : Int32) then (if l2 = (122 : Int32) then (some ((18 : Int32), M)) else (some ((-1 : Int32), M))) else (if l1 = (18 : Int32) then (if l2 = (123 : Int32) then (zbi (F_Expr_endCall M ) fun r39 M37 => some (r39, M37)) else (zbi (F_Expr_begin M l2 l3) fun r36 M34 => some (r36, M34))) else (if l1 = (19 : Int32) then (zbi (F_Expr_afterArgument M l2) fun r43 M41 => some (r43, M41)) else (if l1 = (20 : Int32) then (if l2 = (123 : Int32) then (zbi (F_Expr_closeBracket M l3) fun r47 M45 => some (r47, M45)) else (some ((-1 : Int32), M))) else (if l1 = (21 : Int32) then (zbi (F_Expr_begin M l2 l3) fun r51 M49 => some (r51, M49)) else (if l1 = (22 : Int32) then (zbi (F_Expr_factor M l2 l3) fun r55 M53 => some (r55, M53)) else (if l1 = (23 : Int32) then (zbi (F_Expr_operator N M l2) fun r59 M57 => some (r59, M57)) else (some ((-1 : Int32), M))))))))))))))))
set_option maxRecDepth 100000 in
theorem G_Pars_accept {N : Nat} {M : zMem} {l1 l2 l3 : Int32} {y : Int32 × zMem} (h : F_Pars_accept N M l1 l2 l3 = some y) : zGo Y_Pars_accept 4 0 (zal Y_Pars_accept [.inr 14, .inl l1, .inl l2, .inl l3]) [] M (some y.1) y.2 := by
  unfold F_Pars_accept at h
  show zGo Y_Pars_accept 4 0 [some (.inr 14), some (.inl l1), some (.inl l2), some (.inl l3)] [] M _ _
  refine go_iload_n K_Pars_accept rfl rfl ?_
  by_cases c10 : l1 = (9 : Int32)
  · have h := zif_t c10 h
    refine go_switch (k' := 2) (off := 75) K_Pars_accept rfl (by show zsw _ (l1) = _; rw [c10]; decide) (by decide) ?_
    refine go_iload_n K_Pars_accept rfl rfl ?_
    obtain ⟨r3, M1, h2, h⟩ := zbi_ex h
    refine go_si (Y' := Y_Tok_beginsStatement) (av := [.inl l2]) (rest := []) K_Pars_accept rfl zl_5_99 zm_Tok_beginsStatement rfl (G_Tok_beginsStatement h2) (Nat.le_of_ble_eq_true rfl) (Nat.le_of_ble_eq_true rfl) rfl ?_
    refine go_if_eq K_Pars_accept rfl (fun c => ?_) (fun c => ?_)
    · have h := zif_t c h
      refine go_aload_n K_Pars_accept rfl rfl ?_
      refine go_getR K_Pars_accept rfl zf_5_47 ?_
      refine go_iload_n K_Pars_accept rfl rfl ?_
      obtain ⟨r6, M4, h5, h⟩ := zbi_ex h
      refine go_vi (Y' := Y_Stat_end) (av := [.inl l2]) (rest := []) K_Pars_accept rfl zl_5_109 zm_Stat_end rfl (G_Stat_end h5) (Nat.le_of_ble_eq_true rfl) (Nat.le_of_ble_eq_true rfl) rfl ?_
      cases h
      exact go_ireturn K_Pars_accept rfl rfl
    · have h := zif_f c h
      refine go_aload_n K_Pars_accept rfl rfl ?_
      refine go_getR K_Pars_accept rfl zf_5_47 ?_
      refine go_iload_n K_Pars_accept rfl rfl ?_
      refine go_iload_n K_Pars_accept rfl rfl ?_
      obtain ⟨r9, M7, h8, h⟩ := zbi_ex h
      refine go_vi (Y' := Y_Stat_begin) (av := [.inl l2, .inl l3]) (rest := []) K_Pars_accept rfl zl_5_105 zm_Stat_begin rfl (G_Stat_begin h8) (Nat.le_of_ble_eq_true rfl) (Nat.le_of_ble_eq_true rfl) rfl ?_
      refine go_goto K_Pars_accept rfl ?_
      cases h
      exact go_ireturn K_Pars_accept rfl rfl
  have h := zif_f c10 h
  by_cases c14 : l1 = (10 : Int32)
  · have h := zif_t c14 h
    refine go_switch (k' := 16) (off := 103) K_Pars_accept rfl (by show zsw _ (l1) = _; rw [c14]; decide) (by decide) ?_
    refine go_aload_n K_Pars_accept rfl rfl ?_
    refine go_getR K_Pars_accept rfl zf_5_47 ?_
    refine go_iload_n K_Pars_accept rfl rfl ?_
    obtain ⟨r13, M11, h12, h⟩ := zbi_ex h
    refine go_vi (Y' := Y_Stat_end) (av := [.inl l2]) (rest := []) K_Pars_accept rfl zl_5_109 zm_Stat_end rfl (G_Stat_end h12) (Nat.le_of_ble_eq_true rfl) (Nat.le_of_ble_eq_true rfl) rfl ?_
    cases h
    exact go_ireturn K_Pars_accept rfl rfl
  have h := zif_f c14 h
  by_cases c15 : l1 = (11 : Int32)
  · have h := zif_t c15 h
    refine go_switch (k' := 21) (off := 112) K_Pars_accept rfl (by show zsw _ (l1) = _; rw [c15]; decide) (by decide) ?_
    refine go_iload_n K_Pars_accept rfl rfl ?_
    refine go_bipush K_Pars_accept rfl zk_bipush_120 ?_
    refine go_icmp_ne K_Pars_accept rfl (fun c => ?_) (fun c => ?_)
    · have h := zif_f c h
      refine go_iconst K_Pars_accept rfl zk_iconst_m1 ?_
      cases h
      exact go_ireturn K_Pars_accept rfl rfl
    · have h := zif_t c h
      refine go_bipush K_Pars_accept rfl zk_bipush_21 ?_
      refine go_goto K_Pars_accept rfl ?_
      cases h
      exact go_ireturn K_Pars_accept rfl rfl
  have h := zif_f c15 h
  by_cases c19 : l1 = (12 : Int32)
  · have h := zif_t c19 h
    refine go_switch (k' := 28) (off := 125) K_Pars_accept rfl (by show zsw _ (l1) = _; rw [c19]; decide) (by decide) ?_
    refine go_iload_n K_Pars_accept rfl rfl ?_
    refine go_bipush K_Pars_accept rfl zk_bipush_126 ?_
    refine go_icmp_ne K_Pars_accept rfl (fun c => ?_) (fun c => ?_)
    · have h := zif_f c h
      refine go_iconst K_Pars_accept rfl zk_iconst_m1 ?_
      cases h
      exact go_ireturn K_Pars_accept rfl rfl
    · have h := zif_t c h
      refine go_aload_n K_Pars_accept rfl rfl ?_
      refine go_getR K_Pars_accept rfl zf_5_47 ?_
      obtain ⟨r18, M16, h17, h⟩ := zbi_ex h
      refine go_vi (Y' := Y_Stat_closeTarget) (av := []) (rest := []) K_Pars_accept rfl zl_5_111 zm_Stat_closeTarget rfl (G_Stat_closeTarget h17) (Nat.le_of_ble_eq_true rfl) (Nat.le_of_ble_eq_true rfl) rfl ?_
      refine go_goto K_Pars_accept rfl ?_
      cases h
      exact go_ireturn K_Pars_accept rfl rfl
  have h := zif_f c19 h
  by_cases c23 : l1 = (13 : Int32)
  · have h := zif_t c23 h
    refine go_switch (k' := 37) (off := 143) K_Pars_accept rfl (by show zsw _ (l1) = _; rw [c23]; decide) (by decide) ?_
    refine go_iload_n K_Pars_accept rfl rfl ?_
    refine go_sipush K_Pars_accept rfl zk_sipush_165 ?_
    refine go_icmp_ne K_Pars_accept rfl (fun c => ?_) (fun c => ?_)
    · have h := zif_f c h
      refine go_iconst K_Pars_accept rfl zk_iconst_m1 ?_
      cases h
      exact go_ireturn K_Pars_accept rfl rfl
    · have h := zif_t c h
      refine go_aload_n K_Pars_accept rfl rfl ?_
      refine go_getR K_Pars_accept rfl zf_5_47 ?_
      obtain ⟨r22, M20, h21, h⟩ := zbi_ex h
      refine go_vi (Y' := Y_Stat_beginWhileBody) (av := []) (rest := []) K_Pars_accept rfl zl_5_114 zm_Stat_beginWhileBody rfl (G_Stat_beginWhileBody h21) (Nat.le_of_ble_eq_true rfl) (Nat.le_of_ble_eq_true rfl) rfl ?_
      refine go_goto K_Pars_accept rfl ?_
      cases h
      exact go_ireturn K_Pars_accept rfl rfl
  have h := zif_f c23 h
  by_cases c27 : l1 = (14 : Int32)
  · have h := zif_t c27 h
    refine go_switch (k' := 46) (off := 162) K_Pars_accept rfl (by show zsw _ (l1) = _; rw [c27]; decide) (by decide) ?_
    refine go_iload_n K_Pars_accept rfl rfl ?_
    refine go_sipush K_Pars_accept rfl zk_sipush_161 ?_
    refine go_icmp_ne K_Pars_accept rfl (fun c => ?_) (fun c => ?_)
    · have h := zif_f c h
      refine go_iconst K_Pars_accept rfl zk_iconst_m1 ?_
      cases h
      exact go_ireturn K_Pars_accept rfl rfl
    · have h := zif_t c h
      refine go_aload_n K_Pars_accept rfl rfl ?_
      refine go_getR K_Pars_accept rfl zf_5_47 ?_
      obtain ⟨r26, M24, h25, h⟩ := zbi_ex h
      refine go_vi (Y' := Y_Stat_beginThen) (av := []) (rest := []) K_Pars_accept rfl zl_5_117 zm_Stat_beginThen rfl (G_Stat_beginThen h25) (Nat.le_of_ble_eq_true rfl) (Nat.le_of_ble_eq_true rfl) rfl ?_
      refine go_goto K_Pars_accept rfl ?_
      cases h
      exact go_ireturn K_Pars_accept rfl rfl
  have h := zif_f c27 h
  by_cases c28 : l1 = (15 : Int32)
  · have h := zif_t c28 h
    refine go_switch (k' := 55) (off := 181) K_Pars_accept rfl (by show zsw _ (l1) = _; rw [c28]; decide) (by decide) ?_
    refine go_iload_n K_Pars_accept rfl rfl ?_
    refine go_bipush K_Pars_accept rfl zk_bipush_125 ?_
    refine go_icmp_ne K_Pars_accept rfl (fun c => ?_) (fun c => ?_)
    · have h := zif_f c h
      refine go_iconst K_Pars_accept rfl zk_iconst_m1 ?_
      cases h
      exact go_ireturn K_Pars_accept rfl rfl
    · have h := zif_t c h
      refine go_bipush K_Pars_accept rfl zk_bipush_21 ?_
      refine go_goto K_Pars_accept rfl ?_
      cases h
      exact go_ireturn K_Pars_accept rfl rfl
  have h := zif_f c28 h
  by_cases c32 : l1 = (16 : Int32)
  · have h := zif_t c32 h
    refine go_switch (k' := 62) (off := 194) K_Pars_accept rfl (by show zsw _ (l1) = _; rw [c32]; decide) (by decide) ?_
    refine go_iload_n K_Pars_accept rfl rfl ?_
    refine go_bipush K_Pars_accept rfl zk_bipush_126 ?_
    refine go_icmp_ne K_Pars_accept rfl (fun c => ?_) (fun c => ?_)
    · have h := zif_f c h
      refine go_iconst K_Pars_accept rfl zk_iconst_m1 ?_
      cases h
      exact go_ireturn K_Pars_accept rfl rfl
    · have h := zif_t c h
      refine go_aload_n K_Pars_accept rfl rfl ?_
      refine go_getR K_Pars_accept rfl zf_5_38 ?_
      obtain ⟨r31, M29, h30, h⟩ := zbi_ex h
      refine go_vi (Y' := Y_Expr_closeIndex) (av := []) (rest := []) K_Pars_accept rfl zl_5_120 zm_Expr_closeIndex rfl (G_Expr_closeIndex h30) (Nat.le_of_ble_eq_true rfl) (Nat.le_of_ble_eq_true rfl) rfl ?_
      refine go_goto K_Pars_accept rfl ?_
      cases h
      exact go_ireturn K_Pars_accept rfl rfl
  have h := zif_f c32 h
  by_cases c33 : l1 = (17 : Int32)
  · have h := zif_t c33 h
    refine go_switch (k' := 71) (off := 212) K_Pars_accept rfl (by show zsw _ (l1) = _; rw [c33]; decide) (by decide) ?_
    refine go_iload_n K_Pars_accept rfl rfl ?_
    refine go_bipush K_Pars_accept rfl zk_bipush_122 ?_
    refine go_icmp_ne K_Pars_accept rfl (fun c => ?_) (fun c => ?_)
    · have h := zif_f c h
      refine go_iconst K_Pars_accept rfl zk_iconst_m1 ?_
      cases h
      exact go_ireturn K_Pars_accept rfl rfl
    · have h := zif_t c h
      refine go_bipush K_Pars_accept rfl zk_bipush_18 ?_
      refine go_goto K_Pars_accept rfl ?_
      cases h
      exact go_ireturn K_Pars_accept rfl rfl
  have h := zif_f c33 h
  by_cases c40 : l1 = (18 : Int32)
  · have h := zif_t c40 h
    refine go_switch (k' := 78) (off := 225) K_Pars_accept rfl (by show zsw _ (l1) = _; rw [c40]; decide) (by decide) ?_
    refine go_iload_n K_Pars_accept rfl rfl ?_
    refine go_bipush K_Pars_accept rfl zk_bipush_123 ?_
    refine go_icmp_ne K_Pars_accept rfl (fun c => ?_) (fun c => ?_)
    · have h := zif_f c h
      refine go_aload_n K_Pars_accept rfl rfl ?_
      refine go_getR K_Pars_accept rfl zf_5_38 ?_
      refine go_iload_n K_Pars_accept rfl rfl ?_
      refine go_iload_n K_Pars_accept rfl rfl ?_
      obtain ⟨r36, M34, h35, h⟩ := zbi_ex h
      refine go_vi (Y' := Y_Expr_begin) (av := [.inl l2, .inl l3]) (rest := []) K_Pars_accept rfl zl_5_126 zm_Expr_begin rfl (G_Expr_begin h35) (Nat.le_of_ble_eq_true rfl) (Nat.le_of_ble_eq_true rfl) rfl ?_
      cases h
      exact go_ireturn K_Pars_accept rfl rfl
    · have h := zif_t c h
      refine go_aload_n K_Pars_accept rfl rfl ?_
      refine go_getR K_Pars_accept rfl zf_5_38 ?_
      obtain ⟨r39, M37, h38, h⟩ := zbi_ex h
      refine go_vi (Y' := Y_Expr_endCall) (av := []) (rest := []) K_Pars_accept rfl zl_5_123 zm_Expr_endCall rfl (G_Expr_endCall h38) (Nat.le_of_ble_eq_true rfl) (Nat.le_of_ble_eq_true rfl) rfl ?_
      refine go_goto K_Pars_accept rfl ?_
      cases h
      exact go_ireturn K_Pars_accept rfl rfl
  have h := zif_f c40 h
  by_cases c44 : l1 = (19 : Int32)
  · have h := zif_t c44 h
    refine go_switch (k' := 91) (off := 251) K_Pars_accept rfl (by show zsw _ (l1) = _; rw [c44]; decide) (by decide) ?_
    refine go_aload_n K_Pars_accept rfl rfl ?_
    refine go_getR K_Pars_accept rfl zf_5_38 ?_
    refine go_iload_n K_Pars_accept rfl rfl ?_
    obtain ⟨r43, M41, h42, h⟩ := zbi_ex h
    refine go_vi (Y' := Y_Expr_afterArgument) (av := [.inl l2]) (rest := []) K_Pars_accept rfl zl_5_127 zm_Expr_afterArgument rfl (G_Expr_afterArgument h42) (Nat.le_of_ble_eq_true rfl) (Nat.le_of_ble_eq_true rfl) rfl ?_
    cases h
    exact go_ireturn K_Pars_accept rfl rfl
  have h := zif_f c44 h
  by_cases c48 : l1 = (20 : Int32)
  · have h := zif_t c48 h
    refine go_switch (k' := 96) (off := 260) K_Pars_accept rfl (by show zsw _ (l1) = _; rw [c48]; decide) (by decide) ?_
    refine go_iload_n K_Pars_accept rfl rfl ?_
    refine go_bipush K_Pars_accept rfl zk_bipush_123 ?_
    refine go_icmp_ne K_Pars_accept rfl (fun c => ?_) (fun c => ?_)
    · have h := zif_f c h
      refine go_iconst K_Pars_accept rfl zk_iconst_m1 ?_
      cases h
      exact go_ireturn K_Pars_accept rfl rfl
    · have h := zif_t c h
      refine go_aload_n K_Pars_accept rfl rfl ?_
      refine go_getR K_Pars_accept rfl zf_5_38 ?_
      refine go_iload_n K_Pars_accept rfl rfl ?_
      obtain ⟨r47, M45, h46, h⟩ := zbi_ex h
      refine go_vi (Y' := Y_Expr_closeBracket) (av := [.inl l3]) (rest := []) K_Pars_accept rfl zl_5_130 zm_Expr_closeBracket rfl (G_Expr_closeBracket h46) (Nat.le_of_ble_eq_true rfl) (Nat.le_of_ble_eq_true rfl) rfl ?_
      refine go_goto K_Pars_accept rfl ?_
      cases h
      exact go_ireturn K_Pars_accept rfl rfl
  have h := zif_f c48 h
  by_cases c52 : l1 = (21 : Int32)
  · have h := zif_t c52 h
    refine go_switch (k' := 106) (off := 279) K_Pars_accept rfl (by show zsw _ (l1) = _; rw [c52]; decide) (by decide) ?_
    refine go_aload_n K_Pars_accept rfl rfl ?_
    refine go_getR K_Pars_accept rfl zf_5_38 ?_
    refine go_iload_n K_Pars_accept rfl rfl ?_
    refine go_iload_n K_Pars_accept rfl rfl ?_
    obtain ⟨r51, M49, h50, h⟩ := zbi_ex h
    refine go_vi (Y' := Y_Expr_begin) (av := [.inl l2, .inl l3]) (rest := []) K_Pars_accept rfl zl_5_126 zm_Expr_begin rfl (G_Expr_begin h50) (Nat.le_of_ble_eq_true rfl) (Nat.le_of_ble_eq_true rfl) rfl ?_
    cases h
    exact go_ireturn K_Pars_accept rfl rfl
  have h := zif_f c52 h
  by_cases c56 : l1 = (22 : Int32)
  · have h := zif_t c56 h
    refine go_switch (k' := 112) (off := 289) K_Pars_accept rfl (by show zsw _ (l1) = _; rw [c56]; decide) (by decide) ?_
    refine go_aload_n K_Pars_accept rfl rfl ?_
    refine go_getR K_Pars_accept rfl zf_5_38 ?_
    refine go_iload_n K_Pars_accept rfl rfl ?_
    refine go_iload_n K_Pars_accept rfl rfl ?_
    obtain ⟨r55, M53, h54, h⟩ := zbi_ex h
    refine go_vi (Y' := Y_Expr_factor) (av := [.inl l2, .inl l3]) (rest := []) K_Pars_accept rfl zl_5_133 zm_Expr_factor rfl (G_Expr_factor h54) (Nat.le_of_ble_eq_true rfl) (Nat.le_of_ble_eq_true rfl) rfl ?_
    cases h
    exact go_ireturn K_Pars_accept rfl rfl
  have h := zif_f c56 h
  by_cases c60 : l1 = (23 : Int32)
  · have h := zif_t c60 h
    refine go_switch (k' := 118) (off := 299) K_Pars_accept rfl (by show zsw _ (l1) = _; rw [c60]; decide) (by decide) ?_
    refine go_aload_n K_Pars_accept rfl rfl ?_
    refine go_getR K_Pars_accept rfl zf_5_38 ?_
    refine go_iload_n K_Pars_accept rfl rfl ?_
    obtain ⟨r59, M57, h58, h⟩ := zbi_ex h
    refine go_vi (Y' := Y_Expr_operator) (av := [.inl l2]) (rest := []) K_Pars_accept rfl zl_5_136 zm_Expr_operator rfl (G_Expr_operator h58) (Nat.le_of_ble_eq_true rfl) (Nat.le_of_ble_eq_true rfl) rfl ?_
    cases h
    exact go_ireturn K_Pars_accept rfl rfl
  have h := zif_f c60 h
  refine go_switch (k' := 123) (off := 308) K_Pars_accept rfl (zsw_t (fun i h1 h2 he => by rcases (show i = 9 ∨ i = 10 ∨ i = 11 ∨ i = 12 ∨ i = 13 ∨ i = 14 ∨ i = 15 ∨ i = 16 ∨ i = 17 ∨ i = 18 ∨ i = 19 ∨ i = 20 ∨ i = 21 ∨ i = 22 ∨ i = 23 by omega) with rfl | rfl | rfl | rfl | rfl | rfl | rfl | rfl | rfl | rfl | rfl | rfl | rfl | rfl | rfl <;> first | exact c10 (Int32.toInt_inj.mp (he.trans (by decide))) | exact c14 (Int32.toInt_inj.mp (he.trans (by decide))) | exact c15 (Int32.toInt_inj.mp (he.trans (by decide))) | exact c19 (Int32.toInt_inj.mp (he.trans (by decide))) | exact c23 (Int32.toInt_inj.mp (he.trans (by decide))) | exact c27 (Int32.toInt_inj.mp (he.trans (by decide))) | exact c28 (Int32.toInt_inj.mp (he.trans (by decide))) | exact c32 (Int32.toInt_inj.mp (he.trans (by decide))) | exact c33 (Int32.toInt_inj.mp (he.trans (by decide))) | exact c40 (Int32.toInt_inj.mp (he.trans (by decide))) | exact c44 (Int32.toInt_inj.mp (he.trans (by decide))) | exact c48 (Int32.toInt_inj.mp (he.trans (by decide))) | exact c52 (Int32.toInt_inj.mp (he.trans (by decide))) | exact c56 (Int32.toInt_inj.mp (he.trans (by decide))) | exact c60 (Int32.toInt_inj.mp (he.trans (by decide))))) (by decide) ?_
  refine go_iconst K_Pars_accept rfl zk_iconst_m1 ?_
  cases h
  exact go_ireturn K_Pars_accept rfl rfl
def F_Proc_beginBody (M : zMem) (l1 : Int32) : Option (zMem) :=
  if (M 7 7) < 0 then (some M) else (if (4 : Int32) ≤ (M 7 7) then (some M) else (zix (M 7 7) 4 (zset M 9 (M 7 7).toNatClampNeg l1 fun M2 => some M2)))
set_option maxRecDepth 100000 in
theorem G_Proc_beginBody {M : zMem} {l1 : Int32} {y : zMem} (h : F_Proc_beginBody M l1 = some y) : zGo Y_Proc_beginBody 0 0 (zal Y_Proc_beginBody [.inr 7, .inl l1]) [] M none y := by
  unfold F_Proc_beginBody at h
  show zGo Y_Proc_beginBody 0 0 [some (.inr 7), some (.inl l1)] [] M _ _
  refine go_aload_n K_Proc_beginBody rfl rfl ?_
  refine go_getI K_Proc_beginBody rfl zf_8_35 ?_
  refine go_if_lt K_Proc_beginBody rfl (fun c => ?_) (fun c => ?_)
  · have h := zif_t c h
    cases h
    exact go_return K_Proc_beginBody rfl rfl
  · have h := zif_f c h
    refine go_aload_n K_Proc_beginBody rfl rfl ?_
    refine go_getI K_Proc_beginBody rfl zf_8_35 ?_
    refine go_iconst K_Proc_beginBody rfl zk_iconst_4 ?_
    refine go_icmp_ge K_Proc_beginBody rfl (fun c => ?_) (fun c => ?_)
    · have h := zif_t c h
      cases h
      exact go_return K_Proc_beginBody rfl rfl
    · have h := zif_f c h
      refine go_aload_n K_Proc_beginBody rfl rfl ?_
      refine go_getR K_Proc_beginBody rfl zf_8_15 ?_
      refine go_aload_n K_Proc_beginBody rfl rfl ?_
      refine go_getI K_Proc_beginBody rfl zf_8_35 ?_
      refine go_iload_n K_Proc_beginBody rfl rfl ?_
      obtain ⟨i1, h⟩ := zix_ex h
      obtain ⟨M2, e3, h⟩ := zset_ex h
      refine go_iast' e3 K_Proc_beginBody rfl za_9 i1 ?_
      cases h
      exact go_return K_Proc_beginBody rfl rfl
def F_Pars_beginBody (M : zMem) (l1 : Int32) : Option (Int32 × zMem) :=
  if l1 = (171 : Int32) then (zbi (F_Code_here M ) fun r3 M1 => zbv (F_Proc_beginBody M1 r3) fun M4 => zbv (F_Pend_push M4 (14 : Int32) (0 : Int32) (0 : Int32)) fun M6 => some ((9 : Int32), M6)) else (some ((-1 : Int32), M))
set_option maxRecDepth 100000 in
theorem G_Pars_beginBody {M : zMem} {l1 : Int32} {y : Int32 × zMem} (h : F_Pars_beginBody M l1 = some y) : zGo Y_Pars_beginBody 1 0 (zal Y_Pars_beginBody [.inr 14, .inl l1]) [] M (some y.1) y.2 := by
  unfold F_Pars_beginBody at h
  show zGo Y_Pars_beginBody 1 0 [some (.inr 14), some (.inl l1)] [] M _ _
  refine go_iload_n K_Pars_beginBody rfl rfl ?_
  refine go_sipush K_Pars_beginBody rfl zk_sipush_171 ?_
  refine go_icmp_eq K_Pars_beginBody rfl (fun c => ?_) (fun c => ?_)
  · have h := zif_t c h
    refine go_aload_n K_Pars_beginBody rfl rfl ?_
    refine go_getR K_Pars_beginBody rfl zf_5_15 ?_
    refine go_aload_n K_Pars_beginBody rfl rfl ?_
    refine go_getR K_Pars_beginBody rfl zf_5_9 ?_
    obtain ⟨r3, M1, h2, h⟩ := zbi_ex h
    refine go_vi (Y' := Y_Code_here) (av := []) (rest := [.inr 7]) K_Pars_beginBody rfl zl_5_169 zm_Code_here rfl (G_Code_here h2) (Nat.le_of_ble_eq_true rfl) (Nat.le_of_ble_eq_true rfl) rfl ?_
    obtain ⟨M4, h5, h⟩ := zbv_ex h
    refine go_vv (Y' := Y_Proc_beginBody) (av := [.inl r3]) (rest := []) K_Pars_beginBody rfl zl_5_172 zm_Proc_beginBody rfl (G_Proc_beginBody h5) (Nat.le_of_ble_eq_true rfl) (Nat.le_of_ble_eq_true rfl) rfl ?_
    refine go_aload_n K_Pars_beginBody rfl rfl ?_
    refine go_getR K_Pars_beginBody rfl zf_5_22 ?_
    refine go_bipush K_Pars_beginBody rfl zk_bipush_14 ?_
    refine go_iconst K_Pars_beginBody rfl zk_iconst_0 ?_
    refine go_iconst K_Pars_beginBody rfl zk_iconst_0 ?_
    obtain ⟨M6, h7, h⟩ := zbv_ex h
    refine go_vv (Y' := Y_Pend_push) (av := [.inl (14 : Int32), .inl (0 : Int32), .inl (0 : Int32)]) (rest := []) K_Pars_beginBody rfl zl_5_175 zm_Pend_push rfl (G_Pend_push h7) (Nat.le_of_ble_eq_true rfl) (Nat.le_of_ble_eq_true rfl) rfl ?_
    refine go_bipush K_Pars_beginBody rfl zk_bipush_9 ?_
    cases h
    exact go_ireturn K_Pars_beginBody rfl rfl
  · have h := zif_f c h
    refine go_iconst K_Pars_beginBody rfl zk_iconst_m1 ?_
    cases h
    exact go_ireturn K_Pars_beginBody rfl rfl
def F_Proc_beginMainBody (M : zMem) (l1 : Int32) : Option (zMem) :=
  zset M 7 7 ((-1 : Int32)) fun M1 => zset M1 7 8 ((0 : Int32)) fun M3 => zset M3 7 6 l1 fun M5 => some M5
set_option maxRecDepth 100000 in
theorem G_Proc_beginMainBody {M : zMem} {l1 : Int32} {y : zMem} (h : F_Proc_beginMainBody M l1 = some y) : zGo Y_Proc_beginMainBody 0 0 (zal Y_Proc_beginMainBody [.inr 7, .inl l1]) [] M none y := by
  unfold F_Proc_beginMainBody at h
  show zGo Y_Proc_beginMainBody 0 0 [some (.inr 7), some (.inl l1)] [] M _ _
  refine go_aload_n K_Proc_beginMainBody rfl rfl ?_
  refine go_iconst K_Proc_beginMainBody rfl zk_iconst_m1 ?_
  obtain ⟨M1, e2, h⟩ := zset_ex h
  refine go_putI' e2 K_Proc_beginMainBody rfl zf_8_35 ?_
  refine go_aload_n K_Proc_beginMainBody rfl rfl ?_
  refine go_iconst K_Proc_beginMainBody rfl zk_iconst_0 ?_
  obtain ⟨M3, e4, h⟩ := zset_ex h
  refine go_putI' e4 K_Proc_beginMainBody rfl zf_8_38 ?_
  refine go_aload_n K_Proc_beginMainBody rfl rfl ?_
  refine go_iload_n K_Proc_beginMainBody rfl rfl ?_
  obtain ⟨M5, e6, h⟩ := zset_ex h
  refine go_putI' e6 K_Proc_beginMainBody rfl zf_8_31 ?_
  cases h
  exact go_return K_Proc_beginMainBody rfl rfl
def F_Pars_beginMain (M : zMem) (l1 : Int32) : Option (Int32 × zMem) :=
  if l1 = (171 : Int32) then (zbi (F_Code_here M ) fun r3 M1 => zbv (F_Proc_beginMainBody M1 r3) fun M4 => zbv (F_Pend_push M4 (15 : Int32) (0 : Int32) (0 : Int32)) fun M6 => some ((9 : Int32), M6)) else (some ((-1 : Int32), M))
set_option maxRecDepth 100000 in
theorem G_Pars_beginMain {M : zMem} {l1 : Int32} {y : Int32 × zMem} (h : F_Pars_beginMain M l1 = some y) : zGo Y_Pars_beginMain 1 0 (zal Y_Pars_beginMain [.inr 14, .inl l1]) [] M (some y.1) y.2 := by
  unfold F_Pars_beginMain at h
  show zGo Y_Pars_beginMain 1 0 [some (.inr 14), some (.inl l1)] [] M _ _
  refine go_iload_n K_Pars_beginMain rfl rfl ?_
  refine go_sipush K_Pars_beginMain rfl zk_sipush_171 ?_
  refine go_icmp_eq K_Pars_beginMain rfl (fun c => ?_) (fun c => ?_)
  · have h := zif_t c h
    refine go_aload_n K_Pars_beginMain rfl rfl ?_
    refine go_getR K_Pars_beginMain rfl zf_5_15 ?_
    refine go_aload_n K_Pars_beginMain rfl rfl ?_
    refine go_getR K_Pars_beginMain rfl zf_5_9 ?_
    obtain ⟨r3, M1, h2, h⟩ := zbi_ex h
    refine go_vi (Y' := Y_Code_here) (av := []) (rest := [.inr 7]) K_Pars_beginMain rfl zl_5_169 zm_Code_here rfl (G_Code_here h2) (Nat.le_of_ble_eq_true rfl) (Nat.le_of_ble_eq_true rfl) rfl ?_
    obtain ⟨M4, h5, h⟩ := zbv_ex h
    refine go_vv (Y' := Y_Proc_beginMainBody) (av := [.inl r3]) (rest := []) K_Pars_beginMain rfl zl_5_179 zm_Proc_beginMainBody rfl (G_Proc_beginMainBody h5) (Nat.le_of_ble_eq_true rfl) (Nat.le_of_ble_eq_true rfl) rfl ?_
    refine go_aload_n K_Pars_beginMain rfl rfl ?_
    refine go_getR K_Pars_beginMain rfl zf_5_22 ?_
    refine go_bipush K_Pars_beginMain rfl zk_bipush_15 ?_
    refine go_iconst K_Pars_beginMain rfl zk_iconst_0 ?_
    refine go_iconst K_Pars_beginMain rfl zk_iconst_0 ?_
    obtain ⟨M6, h7, h⟩ := zbv_ex h
    refine go_vv (Y' := Y_Pend_push) (av := [.inl (15 : Int32), .inl (0 : Int32), .inl (0 : Int32)]) (rest := []) K_Pars_beginMain rfl zl_5_175 zm_Pend_push rfl (G_Pend_push h7) (Nat.le_of_ble_eq_true rfl) (Nat.le_of_ble_eq_true rfl) rfl ?_
    refine go_bipush K_Pars_beginMain rfl zk_bipush_9 ?_
    cases h
    exact go_ireturn K_Pars_beginMain rfl rfl
  · have h := zif_f c h
    refine go_iconst K_Pars_beginMain rfl zk_iconst_m1 ?_
    cases h
    exact go_ireturn K_Pars_beginMain rfl rfl
def F_Proc_noteFault_p8 (M : zMem) (l1 : Int32) : Option (zMem) :=
  zset M 7 9 l1 fun M1 => some M1
set_option maxRecDepth 100000 in
theorem G_Proc_noteFault_p8 {M : zMem} {l1 : Int32} {y : zMem} (h : F_Proc_noteFault_p8 M l1 = some y) : zGo Y_Proc_noteFault 0 8 [some (.inr 7), some (.inl l1)] [] M none y := by
  unfold F_Proc_noteFault_p8 at h
  refine go_aload_n K_Proc_noteFault rfl rfl ?_
  refine go_iload_n K_Proc_noteFault rfl rfl ?_
  obtain ⟨M1, e2, h⟩ := zset_ex h
  refine go_putI' e2 K_Proc_noteFault rfl zf_8_41 ?_
  cases h
  exact go_return K_Proc_noteFault rfl rfl
def F_Proc_noteFault (M : zMem) (l1 : Int32) : Option (zMem) :=
  if (M 7 9) = (-4 : Int32) then (F_Proc_noteFault_p8 M l1) else (if (M 7 9) ≤ l1 then (some M) else (F_Proc_noteFault_p8 M l1))
set_option maxRecDepth 100000 in
theorem G_Proc_noteFault {M : zMem} {l1 : Int32} {y : zMem} (h : F_Proc_noteFault M l1 = some y) : zGo Y_Proc_noteFault 0 0 (zal Y_Proc_noteFault [.inr 7, .inl l1]) [] M none y := by
  unfold F_Proc_noteFault at h
  show zGo Y_Proc_noteFault 0 0 [some (.inr 7), some (.inl l1)] [] M _ _
  refine go_aload_n K_Proc_noteFault rfl rfl ?_
  refine go_getI K_Proc_noteFault rfl zf_8_41 ?_
  refine go_bipush K_Proc_noteFault rfl zk_bipush_m4 ?_
  refine go_icmp_eq K_Proc_noteFault rfl (fun c => ?_) (fun c => ?_)
  · have h := zif_t c h
    exact go_forget (G_Proc_noteFault_p8 h) (zs_s (zs_s zs_e))
  · have h := zif_f c h
    refine go_iload_n K_Proc_noteFault rfl rfl ?_
    refine go_aload_n K_Proc_noteFault rfl rfl ?_
    refine go_getI K_Proc_noteFault rfl zf_8_41 ?_
    refine go_icmp_ge K_Proc_noteFault rfl (fun c => ?_) (fun c => ?_)
    · have h := zif_t c h
      cases h
      exact go_return K_Proc_noteFault rfl rfl
    · have h := zif_f c h
      exact go_forget (G_Proc_noteFault_p8 h) (zs_s (zs_s zs_e))
def F_Proc_beginProcedure (M : zMem) (l1 l2 : Int32) : Option (zMem) :=
  zset M 7 7 ((-1 : Int32)) fun M1 => zset M1 7 8 ((0 : Int32)) fun M3 => if l1 < 0 then (some M3) else (if l1 < (4 : Int32) then (zix l1 4 (if (M3 8 l1.toNatClampNeg) = 0 then (zix l1 4 (zset M3 8 l1.toNatClampNeg ((1 : Int32)) fun M7 => zix l1 4 (zset M7 10 l1.toNatClampNeg ((0 : Int32)) fun M10 => zset M10 7 7 l1 fun M12 => some M12))) else (zbv (F_Proc_noteFault M3 l2) fun M14 => some M14))) else (some M3))
set_option maxRecDepth 100000 in
theorem G_Proc_beginProcedure {M : zMem} {l1 l2 : Int32} {y : zMem} (h : F_Proc_beginProcedure M l1 l2 = some y) : zGo Y_Proc_beginProcedure 1 0 (zal Y_Proc_beginProcedure [.inr 7, .inl l1, .inl l2]) [] M none y := by
  unfold F_Proc_beginProcedure at h
  show zGo Y_Proc_beginProcedure 1 0 [some (.inr 7), some (.inl l1), some (.inl l2)] [] M _ _
  refine go_aload_n K_Proc_beginProcedure rfl rfl ?_
  refine go_iconst K_Proc_beginProcedure rfl zk_iconst_m1 ?_
  obtain ⟨M1, e2, h⟩ := zset_ex h
  refine go_putI' e2 K_Proc_beginProcedure rfl zf_8_35 ?_
  refine go_aload_n K_Proc_beginProcedure rfl rfl ?_
  refine go_iconst K_Proc_beginProcedure rfl zk_iconst_0 ?_
  obtain ⟨M3, e4, h⟩ := zset_ex h
  refine go_putI' e4 K_Proc_beginProcedure rfl zf_8_38 ?_
  refine go_iload_n K_Proc_beginProcedure rfl rfl ?_
  refine go_if_lt K_Proc_beginProcedure rfl (fun c => ?_) (fun c => ?_)
  · have h := zif_t c h
    cases h
    exact go_return K_Proc_beginProcedure rfl rfl
  · have h := zif_f c h
    refine go_iload_n K_Proc_beginProcedure rfl rfl ?_
    refine go_iconst K_Proc_beginProcedure rfl zk_iconst_4 ?_
    refine go_icmp_lt K_Proc_beginProcedure rfl (fun c => ?_) (fun c => ?_)
    · have h := zif_t c h
      refine go_aload_n K_Proc_beginProcedure rfl rfl ?_
      refine go_getR K_Proc_beginProcedure rfl zf_8_11 ?_
      refine go_iload_n K_Proc_beginProcedure rfl rfl ?_
      obtain ⟨i5, h⟩ := zix_ex h
      refine go_zald K_Proc_beginProcedure rfl za_8 i5 ?_
      refine go_if_eq K_Proc_beginProcedure rfl (fun c => ?_) (fun c => ?_)
      · have h := zif_t c h
        refine go_aload_n K_Proc_beginProcedure rfl rfl ?_
        refine go_getR K_Proc_beginProcedure rfl zf_8_11 ?_
        refine go_iload_n K_Proc_beginProcedure rfl rfl ?_
        refine go_iconst K_Proc_beginProcedure rfl zk_iconst_1 ?_
        obtain ⟨i6, h⟩ := zix_ex h
        obtain ⟨M7, e8, h⟩ := zset_ex h
        refine go_zast' e8 K_Proc_beginProcedure rfl za_8 i6 (Or.inr rfl) ?_
        refine go_aload_n K_Proc_beginProcedure rfl rfl ?_
        refine go_getR K_Proc_beginProcedure rfl zf_8_19 ?_
        refine go_iload_n K_Proc_beginProcedure rfl rfl ?_
        refine go_iconst K_Proc_beginProcedure rfl zk_iconst_0 ?_
        obtain ⟨i9, h⟩ := zix_ex h
        obtain ⟨M10, e11, h⟩ := zset_ex h
        refine go_iast' e11 K_Proc_beginProcedure rfl za_10 i9 ?_
        refine go_aload_n K_Proc_beginProcedure rfl rfl ?_
        refine go_iload_n K_Proc_beginProcedure rfl rfl ?_
        obtain ⟨M12, e13, h⟩ := zset_ex h
        refine go_putI' e13 K_Proc_beginProcedure rfl zf_8_35 ?_
        cases h
        exact go_return K_Proc_beginProcedure rfl rfl
      · have h := zif_f c h
        refine go_aload_n K_Proc_beginProcedure rfl rfl ?_
        refine go_iload_n K_Proc_beginProcedure rfl rfl ?_
        obtain ⟨M14, h15, h⟩ := zbv_ex h
        refine go_vv (Y' := Y_Proc_noteFault) (av := [.inl l2]) (rest := []) K_Proc_beginProcedure rfl zl_8_44 zm_Proc_noteFault rfl (G_Proc_noteFault h15) (Nat.le_of_ble_eq_true rfl) (Nat.le_of_ble_eq_true rfl) rfl ?_
        cases h
        exact go_return K_Proc_beginProcedure rfl rfl
    · have h := zif_f c h
      cases h
      exact go_return K_Proc_beginProcedure rfl rfl
def F_Pars_beginProcedure (M : zMem) (l1 l2 : Int32) : Option (Int32 × zMem) :=
  zbi (F_Tok_isProcedure M l1) fun r3 M1 => if r3 = 0 then (some ((-1 : Int32), M1)) else (zbv (F_Proc_beginProcedure M1 (l1 - (110 : Int32)) l2) fun M4 => some ((2 : Int32), M4))
set_option maxRecDepth 100000 in
theorem G_Pars_beginProcedure {M : zMem} {l1 l2 : Int32} {y : Int32 × zMem} (h : F_Pars_beginProcedure M l1 l2 = some y) : zGo Y_Pars_beginProcedure 2 0 (zal Y_Pars_beginProcedure [.inr 14, .inl l1, .inl l2]) [] M (some y.1) y.2 := by
  unfold F_Pars_beginProcedure at h
  show zGo Y_Pars_beginProcedure 2 0 [some (.inr 14), some (.inl l1), some (.inl l2)] [] M _ _
  refine go_iload_n K_Pars_beginProcedure rfl rfl ?_
  obtain ⟨r3, M1, h2, h⟩ := zbi_ex h
  refine go_si (Y' := Y_Tok_isProcedure) (av := [.inl l1]) (rest := []) K_Pars_beginProcedure rfl zl_5_154 zm_Tok_isProcedure rfl (G_Tok_isProcedure h2) (Nat.le_of_ble_eq_true rfl) (Nat.le_of_ble_eq_true rfl) rfl ?_
  refine go_if_ne K_Pars_beginProcedure rfl (fun c => ?_) (fun c => ?_)
  · have h := zif_f c h
    refine go_aload_n K_Pars_beginProcedure rfl rfl ?_
    refine go_getR K_Pars_beginProcedure rfl zf_5_15 ?_
    refine go_iload_n K_Pars_beginProcedure rfl rfl ?_
    refine go_bipush K_Pars_beginProcedure rfl zk_bipush_110 ?_
    refine go_isub K_Pars_beginProcedure rfl ?_
    refine go_iload_n K_Pars_beginProcedure rfl rfl ?_
    obtain ⟨M4, h5, h⟩ := zbv_ex h
    refine go_vv (Y' := Y_Proc_beginProcedure) (av := [.inl (l1 - (110 : Int32)), .inl l2]) (rest := []) K_Pars_beginProcedure rfl zl_5_157 zm_Proc_beginProcedure rfl (G_Proc_beginProcedure h5) (Nat.le_of_ble_eq_true rfl) (Nat.le_of_ble_eq_true rfl) rfl ?_
    refine go_iconst K_Pars_beginProcedure rfl zk_iconst_2 ?_
    cases h
    exact go_ireturn K_Pars_beginProcedure rfl rfl
  · have h := zif_t c h
    refine go_iconst K_Pars_beginProcedure rfl zk_iconst_m1 ?_
    cases h
    exact go_ireturn K_Pars_beginProcedure rfl rfl
def F_Proc_addOwnName_p7 (M : zMem) (l1 : Int32) : Option (zMem) :=
  zset M 7 8 ((M 7 8) ||| ((1 : Int32) <<< (l1 &&& 31))) fun M1 => some M1
set_option maxRecDepth 100000 in
theorem G_Proc_addOwnName_p7 {M : zMem} {l1 : Int32} {y : zMem} (h : F_Proc_addOwnName_p7 M l1 = some y) : zGo Y_Proc_addOwnName 1 7 [some (.inr 7), some (.inl l1), none] [] M none y := by
  unfold F_Proc_addOwnName_p7 at h
  refine go_aload_n K_Proc_addOwnName rfl rfl ?_
  refine go_dup K_Proc_addOwnName rfl ?_
  refine go_getI K_Proc_addOwnName rfl zf_8_38 ?_
  refine go_iconst K_Proc_addOwnName rfl zk_iconst_1 ?_
  refine go_iload_n K_Proc_addOwnName rfl rfl ?_
  refine go_ishl K_Proc_addOwnName rfl ?_
  refine go_ior K_Proc_addOwnName rfl ?_
  obtain ⟨M1, e2, h⟩ := zset_ex h
  refine go_putI' e2 K_Proc_addOwnName rfl zf_8_38 ?_
  cases h
  exact go_return K_Proc_addOwnName rfl rfl
def F_Proc_addOwnName (M : zMem) (l1 l2 : Int32) : Option (zMem) :=
  zbi (F_Proc_isOwn M l1) fun r3 M1 => if r3 = 0 then (F_Proc_addOwnName_p7 M1 l1) else (zbv (F_Proc_noteFault M1 l2) fun M4 => F_Proc_addOwnName_p7 M4 l1)
set_option maxRecDepth 100000 in
theorem G_Proc_addOwnName {M : zMem} {l1 l2 : Int32} {y : zMem} (h : F_Proc_addOwnName M l1 l2 = some y) : zGo Y_Proc_addOwnName 1 0 (zal Y_Proc_addOwnName [.inr 7, .inl l1, .inl l2]) [] M none y := by
  unfold F_Proc_addOwnName at h
  show zGo Y_Proc_addOwnName 1 0 [some (.inr 7), some (.inl l1), some (.inl l2)] [] M _ _
  refine go_aload_n K_Proc_addOwnName rfl rfl ?_
  refine go_iload_n K_Proc_addOwnName rfl rfl ?_
  obtain ⟨r3, M1, h2, h⟩ := zbi_ex h
  refine go_vi (Y' := Y_Proc_isOwn) (av := [.inl l1]) (rest := []) K_Proc_addOwnName rfl zl_8_52 zm_Proc_isOwn rfl (G_Proc_isOwn h2) (Nat.le_of_ble_eq_true rfl) (Nat.le_of_ble_eq_true rfl) rfl ?_
  refine go_if_eq K_Proc_addOwnName rfl (fun c => ?_) (fun c => ?_)
  · have h := zif_t c h
    exact go_forget (G_Proc_addOwnName_p7 h) (zs_s (zs_s (zs_n zs_e)))
  · have h := zif_f c h
    refine go_aload_n K_Proc_addOwnName rfl rfl ?_
    refine go_iload_n K_Proc_addOwnName rfl rfl ?_
    obtain ⟨M4, h5, h⟩ := zbv_ex h
    refine go_vv (Y' := Y_Proc_noteFault) (av := [.inl l2]) (rest := []) K_Proc_addOwnName rfl zl_8_44 zm_Proc_noteFault rfl (G_Proc_noteFault h5) (Nat.le_of_ble_eq_true rfl) (Nat.le_of_ble_eq_true rfl) rfl ?_
    exact go_forget (G_Proc_addOwnName_p7 h) (zs_s (zs_s (zs_n zs_e)))
def F_Pars_local (M : zMem) (l1 l2 : Int32) : Option (Int32 × zMem) :=
  zbi (F_Tok_isName M l1) fun r3 M1 => if r3 = 0 then (some ((-1 : Int32), M1)) else (zbv (F_Proc_addOwnName M1 (l1 - (100 : Int32)) l2) fun M4 => some ((8 : Int32), M4))
set_option maxRecDepth 100000 in
theorem G_Pars_local {M : zMem} {l1 l2 : Int32} {y : Int32 × zMem} (h : F_Pars_local M l1 l2 = some y) : zGo Y_Pars_local 2 0 (zal Y_Pars_local [.inr 14, .inl l1, .inl l2]) [] M (some y.1) y.2 := by
  unfold F_Pars_local at h
  show zGo Y_Pars_local 2 0 [some (.inr 14), some (.inl l1), some (.inl l2)] [] M _ _
  refine go_iload_n K_Pars_local rfl rfl ?_
  obtain ⟨r3, M1, h2, h⟩ := zbi_ex h
  refine go_si (Y' := Y_Tok_isName) (av := [.inl l1]) (rest := []) K_Pars_local rfl zl_5_160 zm_Tok_isName rfl (G_Tok_isName h2) (Nat.le_of_ble_eq_true rfl) (Nat.le_of_ble_eq_true rfl) rfl ?_
  refine go_if_ne K_Pars_local rfl (fun c => ?_) (fun c => ?_)
  · have h := zif_f c h
    refine go_aload_n K_Pars_local rfl rfl ?_
    refine go_getR K_Pars_local rfl zf_5_15 ?_
    refine go_iload_n K_Pars_local rfl rfl ?_
    refine go_bipush K_Pars_local rfl zk_bipush_100 ?_
    refine go_isub K_Pars_local rfl ?_
    refine go_iload_n K_Pars_local rfl rfl ?_
    obtain ⟨M4, h5, h⟩ := zbv_ex h
    refine go_vv (Y' := Y_Proc_addOwnName) (av := [.inl (l1 - (100 : Int32)), .inl l2]) (rest := []) K_Pars_local rfl zl_5_166 zm_Proc_addOwnName rfl (G_Proc_addOwnName h5) (Nat.le_of_ble_eq_true rfl) (Nat.le_of_ble_eq_true rfl) rfl ?_
    refine go_bipush K_Pars_local rfl zk_bipush_8 ?_
    cases h
    exact go_ireturn K_Pars_local rfl rfl
  · have h := zif_t c h
    refine go_iconst K_Pars_local rfl zk_iconst_m1 ?_
    cases h
    exact go_ireturn K_Pars_local rfl rfl
def F_Proc_addParameter_p31 (M : zMem) (l3 : Int32) : Option (zMem) :=
  zix (M 7 7) 4 (zset M 10 (M 7 7).toNatClampNeg (l3 + (1 : Int32)) fun M2 => some M2)
set_option maxRecDepth 100000 in
theorem G_Proc_addParameter_p31 {M : zMem} {l3 : Int32} {y : zMem} (h : F_Proc_addParameter_p31 M l3 = some y) : zGo Y_Proc_addParameter 2 31 [some (.inr 7), none, none, some (.inl l3)] [] M none y := by
  unfold F_Proc_addParameter_p31 at h
  refine go_aload_n K_Proc_addParameter rfl rfl ?_
  refine go_getR K_Proc_addParameter rfl zf_8_19 ?_
  refine go_aload_n K_Proc_addParameter rfl rfl ?_
  refine go_getI K_Proc_addParameter rfl zf_8_35 ?_
  refine go_iload_n K_Proc_addParameter rfl rfl ?_
  refine go_iconst K_Proc_addParameter rfl zk_iconst_1 ?_
  refine go_iadd K_Proc_addParameter rfl ?_
  obtain ⟨i1, h⟩ := zix_ex h
  obtain ⟨M2, e3, h⟩ := zset_ex h
  refine go_iast' e3 K_Proc_addParameter rfl za_10 i1 ?_
  cases h
  exact go_return K_Proc_addParameter rfl rfl
def F_Proc_addParameter (M : zMem) (l1 l2 : Int32) : Option (zMem) :=
  zbv (F_Proc_addOwnName M l1 l2) fun M1 => if (M1 7 7) < 0 then (some M1) else (if (M1 7 7) < (4 : Int32) then (zix (M1 7 7) 4 (if (8 : Int32) ≤ (M1 10 (M1 7 7).toNatClampNeg) then (F_Proc_addParameter_p31 M1 (M1 10 (M1 7 7).toNatClampNeg)) else (zix (((M1 7 7) * (8 : Int32)) + (M1 10 (M1 7 7).toNatClampNeg)) 32 (zset M1 11 (((M1 7 7) * (8 : Int32)) + (M1 10 (M1 7 7).toNatClampNeg)).toNatClampNeg l1 fun M5 => F_Proc_addParameter_p31 M5 (M1 10 (M1 7 7).toNatClampNeg))))) else (some M1))
set_option maxRecDepth 100000 in
theorem G_Proc_addParameter {M : zMem} {l1 l2 : Int32} {y : zMem} (h : F_Proc_addParameter M l1 l2 = some y) : zGo Y_Proc_addParameter 2 0 (zal Y_Proc_addParameter [.inr 7, .inl l1, .inl l2]) [] M none y := by
  unfold F_Proc_addParameter at h
  show zGo Y_Proc_addParameter 2 0 [some (.inr 7), some (.inl l1), some (.inl l2), none] [] M _ _
  refine go_aload_n K_Proc_addParameter rfl rfl ?_
  refine go_iload_n K_Proc_addParameter rfl rfl ?_
  refine go_iload_n K_Proc_addParameter rfl rfl ?_
  obtain ⟨M1, h2, h⟩ := zbv_ex h
  refine go_vv (Y' := Y_Proc_addOwnName) (av := [.inl l1, .inl l2]) (rest := []) K_Proc_addParameter rfl zl_8_48 zm_Proc_addOwnName rfl (G_Proc_addOwnName h2) (Nat.le_of_ble_eq_true rfl) (Nat.le_of_ble_eq_true rfl) rfl ?_
  refine go_aload_n K_Proc_addParameter rfl rfl ?_
  refine go_getI K_Proc_addParameter rfl zf_8_35 ?_
  refine go_if_lt K_Proc_addParameter rfl (fun c => ?_) (fun c => ?_)
  · have h := zif_t c h
    cases h
    exact go_return K_Proc_addParameter rfl rfl
  · have h := zif_f c h
    refine go_aload_n K_Proc_addParameter rfl rfl ?_
    refine go_getI K_Proc_addParameter rfl zf_8_35 ?_
    refine go_iconst K_Proc_addParameter rfl zk_iconst_4 ?_
    refine go_icmp_lt K_Proc_addParameter rfl (fun c => ?_) (fun c => ?_)
    · have h := zif_t c h
      refine go_aload_n K_Proc_addParameter rfl rfl ?_
      refine go_getR K_Proc_addParameter rfl zf_8_19 ?_
      refine go_aload_n K_Proc_addParameter rfl rfl ?_
      refine go_getI K_Proc_addParameter rfl zf_8_35 ?_
      obtain ⟨i3, h⟩ := zix_ex h
      refine go_iald K_Proc_addParameter rfl za_10 i3 ?_
      refine go_istore_n K_Proc_addParameter rfl (Nat.le_of_ble_eq_true rfl) ?_
      refine go_iload_n K_Proc_addParameter rfl rfl ?_
      refine go_bipush K_Proc_addParameter rfl zk_bipush_8 ?_
      refine go_icmp_ge K_Proc_addParameter rfl (fun c => ?_) (fun c => ?_)
      · have h := zif_t c h
        exact go_forget (G_Proc_addParameter_p31 h) (zs_s (zs_n (zs_n (zs_s zs_e))))
      · have h := zif_f c h
        refine go_aload_n K_Proc_addParameter rfl rfl ?_
        refine go_getR K_Proc_addParameter rfl zf_8_22 ?_
        refine go_aload_n K_Proc_addParameter rfl rfl ?_
        refine go_getI K_Proc_addParameter rfl zf_8_35 ?_
        refine go_bipush K_Proc_addParameter rfl zk_bipush_8 ?_
        refine go_imul K_Proc_addParameter rfl ?_
        refine go_iload_n K_Proc_addParameter rfl rfl ?_
        refine go_iadd K_Proc_addParameter rfl ?_
        refine go_iload_n K_Proc_addParameter rfl rfl ?_
        obtain ⟨i4, h⟩ := zix_ex h
        obtain ⟨M5, e6, h⟩ := zset_ex h
        refine go_iast' e6 K_Proc_addParameter rfl za_11 i4 ?_
        exact go_forget (G_Proc_addParameter_p31 h) (zs_s (zs_n (zs_n (zs_s zs_e))))
    · have h := zif_f c h
      cases h
      exact go_return K_Proc_addParameter rfl rfl
def F_Pars_parameter (M : zMem) (l1 l2 : Int32) : Option (Int32 × zMem) :=
  zbi (F_Tok_isName M l1) fun r3 M1 => if r3 = 0 then (some ((-1 : Int32), M1)) else (zbv (F_Proc_addParameter M1 (l1 - (100 : Int32)) l2) fun M4 => some ((5 : Int32), M4))
set_option maxRecDepth 100000 in
theorem G_Pars_parameter {M : zMem} {l1 l2 : Int32} {y : Int32 × zMem} (h : F_Pars_parameter M l1 l2 = some y) : zGo Y_Pars_parameter 3 0 (zal Y_Pars_parameter [.inr 14, .inl l1, .inl l2]) [] M (some y.1) y.2 := by
  unfold F_Pars_parameter at h
  show zGo Y_Pars_parameter 3 0 [some (.inr 14), some (.inl l1), some (.inl l2)] [] M _ _
  refine go_iload_n K_Pars_parameter rfl rfl ?_
  obtain ⟨r3, M1, h2, h⟩ := zbi_ex h
  refine go_si (Y' := Y_Tok_isName) (av := [.inl l1]) (rest := []) K_Pars_parameter rfl zl_5_160 zm_Tok_isName rfl (G_Tok_isName h2) (Nat.le_of_ble_eq_true rfl) (Nat.le_of_ble_eq_true rfl) rfl ?_
  refine go_if_ne K_Pars_parameter rfl (fun c => ?_) (fun c => ?_)
  · have h := zif_f c h
    refine go_aload_n K_Pars_parameter rfl rfl ?_
    refine go_getR K_Pars_parameter rfl zf_5_15 ?_
    refine go_iload_n K_Pars_parameter rfl rfl ?_
    refine go_bipush K_Pars_parameter rfl zk_bipush_100 ?_
    refine go_isub K_Pars_parameter rfl ?_
    refine go_iload_n K_Pars_parameter rfl rfl ?_
    obtain ⟨M4, h5, h⟩ := zbv_ex h
    refine go_vv (Y' := Y_Proc_addParameter) (av := [.inl (l1 - (100 : Int32)), .inl l2]) (rest := []) K_Pars_parameter rfl zl_5_163 zm_Proc_addParameter rfl (G_Proc_addParameter h5) (Nat.le_of_ble_eq_true rfl) (Nat.le_of_ble_eq_true rfl) rfl ?_
    refine go_iconst K_Pars_parameter rfl zk_iconst_5 ?_
    cases h
    exact go_ireturn K_Pars_parameter rfl rfl
  · have h := zif_t c h
    refine go_iconst K_Pars_parameter rfl zk_iconst_m1 ?_
    cases h
    exact go_ireturn K_Pars_parameter rfl rfl
def F_Pars_acceptInHead (M : zMem) (l1 l2 l3 : Int32) : Option (Int32 × zMem) :=
  if l1 = (0 : Int32) then (if l2 = (170 : Int32) then (some ((1 : Int32), M)) else (zbi (F_Pars_beginMain M l2) fun r3 M1 => some (r3, M1))) else (if l1 = (1 : Int32) then (zbi (F_Pars_beginProcedure M l2 l3) fun r7 M5 => some (r7, M5)) else (if l1 = (2 : Int32) then (if l2 = (122 : Int32) then (some ((3 : Int32), M)) else (some ((-1 : Int32), M))) else (if l1 = (3 : Int32) then (if l2 = (123 : Int32) then (some ((6 : Int32), M)) else (zbi (F_Pars_parameter M l2 l3) fun r12 M10 => some (r12, M10))) else (if l1 = (4 : Int32) then (zbi (F_Pars_parameter M l2 l3) fun r16 M14 => some (r16, M14)) else (if l1 = (5 : Int32) then (if l2 = (124 : Int32) then (some ((4 : Int32), M)) else (if l2 = (123 : Int32) then (some ((6 : Int32), M)) else (some ((-1 : Int32), M)))) else (if l1 = (6 : Int32) then (if l2 = (172 : Int32) then (some ((7 : Int32), M)) else (zbi (F_Pars_beginBody M l2) fun r21 M19 => some (r21, M19))) else (if l1 = (7 : Int32) then (zbi (F_Pars_local M l2 l3) fun r25 M23 => some (r25, M23)) else (if l1 = (8 : Int32) then (if l2 = (124 : Int32) then (some ((7 : Int32), M)) else (zbi (F_Pars_beginBody M l2) fun r29 M27 => some (r29, M27))) else (some ((-1 : Int32), M))))))))))
set_option maxRecDepth 100000 in
theorem G_Pars_acceptInHead {M : zMem} {l1 l2 l3 : Int32} {y : Int32 × zMem} (h : F_Pars_acceptInHead M l1 l2 l3 = some y) : zGo Y_Pars_acceptInHead 4 0 (zal Y_Pars_acceptInHead [.inr 14, .inl l1, .inl l2, .inl l3]) [] M (some y.1) y.2 := by
  unfold F_Pars_acceptInHead at h
  show zGo Y_Pars_acceptInHead 4 0 [some (.inr 14), some (.inl l1), some (.inl l2), some (.inl l3)] [] M _ _
  refine go_iload_n K_Pars_acceptInHead rfl rfl ?_
  by_cases c4 : l1 = (0 : Int32)
  · have h := zif_t c4 h
    refine go_switch (k' := 2) (off := 51) K_Pars_acceptInHead rfl (by show zsw _ (l1) = _; rw [c4]; decide) (by decide) ?_
    refine go_iload_n K_Pars_acceptInHead rfl rfl ?_
    refine go_sipush K_Pars_acceptInHead rfl zk_sipush_170 ?_
    refine go_icmp_ne K_Pars_acceptInHead rfl (fun c => ?_) (fun c => ?_)
    · have h := zif_f c h
      refine go_aload_n K_Pars_acceptInHead rfl rfl ?_
      refine go_iload_n K_Pars_acceptInHead rfl rfl ?_
      obtain ⟨r3, M1, h2, h⟩ := zbi_ex h
      refine go_vi (Y' := Y_Pars_beginMain) (av := [.inl l2]) (rest := []) K_Pars_acceptInHead rfl zl_5_139 zm_Pars_beginMain rfl (G_Pars_beginMain h2) (Nat.le_of_ble_eq_true rfl) (Nat.le_of_ble_eq_true rfl) rfl ?_
      cases h
      exact go_ireturn K_Pars_acceptInHead rfl rfl
    · have h := zif_t c h
      refine go_iconst K_Pars_acceptInHead rfl zk_iconst_1 ?_
      refine go_goto K_Pars_acceptInHead rfl ?_
      cases h
      exact go_ireturn K_Pars_acceptInHead rfl rfl
  have h := zif_f c4 h
  by_cases c8 : l1 = (1 : Int32)
  · have h := zif_t c8 h
    refine go_switch (k' := 11) (off := 68) K_Pars_acceptInHead rfl (by show zsw _ (l1) = _; rw [c8]; decide) (by decide) ?_
    refine go_aload_n K_Pars_acceptInHead rfl rfl ?_
    refine go_iload_n K_Pars_acceptInHead rfl rfl ?_
    refine go_iload_n K_Pars_acceptInHead rfl rfl ?_
    obtain ⟨r7, M5, h6, h⟩ := zbi_ex h
    refine go_vi (Y' := Y_Pars_beginProcedure) (av := [.inl l2, .inl l3]) (rest := []) K_Pars_acceptInHead rfl zl_5_142 zm_Pars_beginProcedure rfl (G_Pars_beginProcedure h6) (Nat.le_of_ble_eq_true rfl) (Nat.le_of_ble_eq_true rfl) rfl ?_
    cases h
    exact go_ireturn K_Pars_acceptInHead rfl rfl
  have h := zif_f c8 h
  by_cases c9 : l1 = (2 : Int32)
  · have h := zif_t c9 h
    refine go_switch (k' := 16) (off := 75) K_Pars_acceptInHead rfl (by show zsw _ (l1) = _; rw [c9]; decide) (by decide) ?_
    refine go_iload_n K_Pars_acceptInHead rfl rfl ?_
    refine go_bipush K_Pars_acceptInHead rfl zk_bipush_122 ?_
    refine go_icmp_ne K_Pars_acceptInHead rfl (fun c => ?_) (fun c => ?_)
    · have h := zif_f c h
      refine go_iconst K_Pars_acceptInHead rfl zk_iconst_m1 ?_
      cases h
      exact go_ireturn K_Pars_acceptInHead rfl rfl
    · have h := zif_t c h
      refine go_iconst K_Pars_acceptInHead rfl zk_iconst_3 ?_
      refine go_goto K_Pars_acceptInHead rfl ?_
      cases h
      exact go_ireturn K_Pars_acceptInHead rfl rfl
  have h := zif_f c9 h
  by_cases c13 : l1 = (3 : Int32)
  · have h := zif_t c13 h
    refine go_switch (k' := 23) (off := 87) K_Pars_acceptInHead rfl (by show zsw _ (l1) = _; rw [c13]; decide) (by decide) ?_
    refine go_iload_n K_Pars_acceptInHead rfl rfl ?_
    refine go_bipush K_Pars_acceptInHead rfl zk_bipush_123 ?_
    refine go_icmp_ne K_Pars_acceptInHead rfl (fun c => ?_) (fun c => ?_)
    · have h := zif_f c h
      refine go_aload_n K_Pars_acceptInHead rfl rfl ?_
      refine go_iload_n K_Pars_acceptInHead rfl rfl ?_
      refine go_iload_n K_Pars_acceptInHead rfl rfl ?_
      obtain ⟨r12, M10, h11, h⟩ := zbi_ex h
      refine go_vi (Y' := Y_Pars_parameter) (av := [.inl l2, .inl l3]) (rest := []) K_Pars_acceptInHead rfl zl_5_145 zm_Pars_parameter rfl (G_Pars_parameter h11) (Nat.le_of_ble_eq_true rfl) (Nat.le_of_ble_eq_true rfl) rfl ?_
      cases h
      exact go_ireturn K_Pars_acceptInHead rfl rfl
    · have h := zif_t c h
      refine go_bipush K_Pars_acceptInHead rfl zk_bipush_6 ?_
      refine go_goto K_Pars_acceptInHead rfl ?_
      cases h
      exact go_ireturn K_Pars_acceptInHead rfl rfl
  have h := zif_f c13 h
  by_cases c17 : l1 = (4 : Int32)
  · have h := zif_t c17 h
    refine go_switch (k' := 33) (off := 105) K_Pars_acceptInHead rfl (by show zsw _ (l1) = _; rw [c17]; decide) (by decide) ?_
    refine go_aload_n K_Pars_acceptInHead rfl rfl ?_
    refine go_iload_n K_Pars_acceptInHead rfl rfl ?_
    refine go_iload_n K_Pars_acceptInHead rfl rfl ?_
    obtain ⟨r16, M14, h15, h⟩ := zbi_ex h
    refine go_vi (Y' := Y_Pars_parameter) (av := [.inl l2, .inl l3]) (rest := []) K_Pars_acceptInHead rfl zl_5_145 zm_Pars_parameter rfl (G_Pars_parameter h15) (Nat.le_of_ble_eq_true rfl) (Nat.le_of_ble_eq_true rfl) rfl ?_
    cases h
    exact go_ireturn K_Pars_acceptInHead rfl rfl
  have h := zif_f c17 h
  by_cases c18 : l1 = (5 : Int32)
  · have h := zif_t c18 h
    refine go_switch (k' := 38) (off := 112) K_Pars_acceptInHead rfl (by show zsw _ (l1) = _; rw [c18]; decide) (by decide) ?_
    refine go_iload_n K_Pars_acceptInHead rfl rfl ?_
    refine go_bipush K_Pars_acceptInHead rfl zk_bipush_124 ?_
    refine go_icmp_ne K_Pars_acceptInHead rfl (fun c => ?_) (fun c => ?_)
    · have h := zif_f c h
      refine go_iload_n K_Pars_acceptInHead rfl rfl ?_
      refine go_bipush K_Pars_acceptInHead rfl zk_bipush_123 ?_
      refine go_icmp_ne K_Pars_acceptInHead rfl (fun c => ?_) (fun c => ?_)
      · have h := zif_f c h
        refine go_iconst K_Pars_acceptInHead rfl zk_iconst_m1 ?_
        cases h
        exact go_ireturn K_Pars_acceptInHead rfl rfl
      · have h := zif_t c h
        refine go_bipush K_Pars_acceptInHead rfl zk_bipush_6 ?_
        refine go_goto K_Pars_acceptInHead rfl ?_
        cases h
        exact go_ireturn K_Pars_acceptInHead rfl rfl
    · have h := zif_t c h
      refine go_iconst K_Pars_acceptInHead rfl zk_iconst_4 ?_
      cases h
      exact go_ireturn K_Pars_acceptInHead rfl rfl
  have h := zif_f c18 h
  by_cases c22 : l1 = (6 : Int32)
  · have h := zif_t c22 h
    refine go_switch (k' := 50) (off := 133) K_Pars_acceptInHead rfl (by show zsw _ (l1) = _; rw [c22]; decide) (by decide) ?_
    refine go_iload_n K_Pars_acceptInHead rfl rfl ?_
    refine go_sipush K_Pars_acceptInHead rfl zk_sipush_172 ?_
    refine go_icmp_ne K_Pars_acceptInHead rfl (fun c => ?_) (fun c => ?_)
    · have h := zif_f c h
      refine go_aload_n K_Pars_acceptInHead rfl rfl ?_
      refine go_iload_n K_Pars_acceptInHead rfl rfl ?_
      obtain ⟨r21, M19, h20, h⟩ := zbi_ex h
      refine go_vi (Y' := Y_Pars_beginBody) (av := [.inl l2]) (rest := []) K_Pars_acceptInHead rfl zl_5_148 zm_Pars_beginBody rfl (G_Pars_beginBody h20) (Nat.le_of_ble_eq_true rfl) (Nat.le_of_ble_eq_true rfl) rfl ?_
      cases h
      exact go_ireturn K_Pars_acceptInHead rfl rfl
    · have h := zif_t c h
      refine go_bipush K_Pars_acceptInHead rfl zk_bipush_7 ?_
      refine go_goto K_Pars_acceptInHead rfl ?_
      cases h
      exact go_ireturn K_Pars_acceptInHead rfl rfl
  have h := zif_f c22 h
  by_cases c26 : l1 = (7 : Int32)
  · have h := zif_t c26 h
    refine go_switch (k' := 59) (off := 151) K_Pars_acceptInHead rfl (by show zsw _ (l1) = _; rw [c26]; decide) (by decide) ?_
    refine go_aload_n K_Pars_acceptInHead rfl rfl ?_
    refine go_iload_n K_Pars_acceptInHead rfl rfl ?_
    refine go_iload_n K_Pars_acceptInHead rfl rfl ?_
    obtain ⟨r25, M23, h24, h⟩ := zbi_ex h
    refine go_vi (Y' := Y_Pars_local) (av := [.inl l2, .inl l3]) (rest := []) K_Pars_acceptInHead rfl zl_5_151 zm_Pars_local rfl (G_Pars_local h24) (Nat.le_of_ble_eq_true rfl) (Nat.le_of_ble_eq_true rfl) rfl ?_
    cases h
    exact go_ireturn K_Pars_acceptInHead rfl rfl
  have h := zif_f c26 h
  by_cases c30 : l1 = (8 : Int32)
  · have h := zif_t c30 h
    refine go_switch (k' := 64) (off := 158) K_Pars_acceptInHead rfl (by show zsw _ (l1) = _; rw [c30]; decide) (by decide) ?_
    refine go_iload_n K_Pars_acceptInHead rfl rfl ?_
    refine go_bipush K_Pars_acceptInHead rfl zk_bipush_124 ?_
    refine go_icmp_ne K_Pars_acceptInHead rfl (fun c => ?_) (fun c => ?_)
    · have h := zif_f c h
      refine go_aload_n K_Pars_acceptInHead rfl rfl ?_
      refine go_iload_n K_Pars_acceptInHead rfl rfl ?_
      obtain ⟨r29, M27, h28, h⟩ := zbi_ex h
      refine go_vi (Y' := Y_Pars_beginBody) (av := [.inl l2]) (rest := []) K_Pars_acceptInHead rfl zl_5_148 zm_Pars_beginBody rfl (G_Pars_beginBody h28) (Nat.le_of_ble_eq_true rfl) (Nat.le_of_ble_eq_true rfl) rfl ?_
      cases h
      exact go_ireturn K_Pars_acceptInHead rfl rfl
    · have h := zif_t c h
      refine go_bipush K_Pars_acceptInHead rfl zk_bipush_7 ?_
      refine go_goto K_Pars_acceptInHead rfl ?_
      cases h
      exact go_ireturn K_Pars_acceptInHead rfl rfl
  have h := zif_f c30 h
  refine go_switch (k' := 73) (off := 175) K_Pars_acceptInHead rfl (zsw_t (fun i h1 h2 he => by rcases (show i = 0 ∨ i = 1 ∨ i = 2 ∨ i = 3 ∨ i = 4 ∨ i = 5 ∨ i = 6 ∨ i = 7 ∨ i = 8 by omega) with rfl | rfl | rfl | rfl | rfl | rfl | rfl | rfl | rfl <;> first | exact c4 (Int32.toInt_inj.mp (he.trans (by decide))) | exact c8 (Int32.toInt_inj.mp (he.trans (by decide))) | exact c9 (Int32.toInt_inj.mp (he.trans (by decide))) | exact c13 (Int32.toInt_inj.mp (he.trans (by decide))) | exact c17 (Int32.toInt_inj.mp (he.trans (by decide))) | exact c18 (Int32.toInt_inj.mp (he.trans (by decide))) | exact c22 (Int32.toInt_inj.mp (he.trans (by decide))) | exact c26 (Int32.toInt_inj.mp (he.trans (by decide))) | exact c30 (Int32.toInt_inj.mp (he.trans (by decide))))) (by decide) ?_
  refine go_iconst K_Pars_acceptInHead rfl zk_iconst_m1 ?_
  cases h
  exact go_ireturn K_Pars_acceptInHead rfl rfl
def F_Pars_isProgram (M : zMem) : Option (Int32 × zMem) :=
  if (M 14 1) = (-4 : Int32) then (some ((1 : Int32), M)) else (some ((0 : Int32), M))
set_option maxRecDepth 100000 in
theorem G_Pars_isProgram {M : zMem} {y : Int32 × zMem} (h : F_Pars_isProgram M  = some y) : zGo Y_Pars_isProgram 0 0 (zal Y_Pars_isProgram [.inr 14]) [] M (some y.1) y.2 := by
  unfold F_Pars_isProgram at h
  show zGo Y_Pars_isProgram 0 0 [some (.inr 14)] [] M _ _
  refine go_aload_n K_Pars_isProgram rfl rfl ?_
  refine go_getI K_Pars_isProgram rfl zf_5_51 ?_
  refine go_bipush K_Pars_isProgram rfl zk_bipush_m4 ?_
  refine go_icmp_ne K_Pars_isProgram rfl (fun c => ?_) (fun c => ?_)
  · have h := zif_f c h
    refine go_iconst K_Pars_isProgram rfl zk_iconst_0 ?_
    cases h
    exact go_zreturn K_Pars_isProgram rfl rfl (Or.inl rfl)
  · have h := zif_t c h
    refine go_iconst K_Pars_isProgram rfl zk_iconst_1 ?_
    refine go_goto K_Pars_isProgram rfl ?_
    cases h
    exact go_zreturn K_Pars_isProgram rfl rfl (Or.inr rfl)
def F_Pend_restart (M : zMem) : Option (zMem) :=
  zset M 15 3 ((0 : Int32)) fun M1 => some M1
set_option maxRecDepth 100000 in
theorem G_Pend_restart {M : zMem} {y : zMem} (h : F_Pend_restart M  = some y) : zGo Y_Pend_restart 0 0 (zal Y_Pend_restart [.inr 15]) [] M none y := by
  unfold F_Pend_restart at h
  show zGo Y_Pend_restart 0 0 [some (.inr 15)] [] M _ _
  refine go_aload_n K_Pend_restart rfl rfl ?_
  refine go_iconst K_Pend_restart rfl zk_iconst_0 ?_
  obtain ⟨M1, e2, h⟩ := zset_ex h
  refine go_putI' e2 K_Pend_restart rfl zf_6_21 ?_
  cases h
  exact go_return K_Pend_restart rfl rfl
def F_Plain_restart_p7 (N : Nat) : Nat → zMem → Int32 → Option (zMem)
  | 0, _, _ => none
  | n + 1, M, l1 =>
    if (150 : Int32) ≤ l1 then (some M) else (zix l1 150 (zset M 21 l1.toNatClampNeg ((0 : Int32)) fun M2 => F_Plain_restart_p7 N n M2 (l1 + (1 : Int32))))
set_option maxRecDepth 100000 in
theorem G_Plain_restart_p7 {N : Nat} : ∀ (n : Nat) {M : zMem} {l1 : Int32} {y : zMem}, F_Plain_restart_p7 N n M l1 = some y → zGo Y_Plain_restart 1 7 [some (.inr 19), some (.inl l1)] [] M none y := by
  intro n
  induction n with
  | zero =>
    intro M l1 y h
    unfold F_Plain_restart_p7 at h
    cases h
  | succ n ih =>
    intro M l1 y h
    unfold F_Plain_restart_p7 at h
    refine go_iload_n K_Plain_restart rfl rfl ?_
    refine go_aload_n K_Plain_restart rfl rfl ?_
    refine go_getR K_Plain_restart rfl zf_7_15 ?_
    refine go_alen K_Plain_restart rfl za_21 zlen_150 ?_
    refine go_icmp_ge K_Plain_restart rfl (fun c => ?_) (fun c => ?_)
    · have h := zif_t c h
      cases h
      exact go_return K_Plain_restart rfl rfl
    · have h := zif_f c h
      refine go_aload_n K_Plain_restart rfl rfl ?_
      refine go_getR K_Plain_restart rfl zf_7_15 ?_
      refine go_iload_n K_Plain_restart rfl rfl ?_
      refine go_iconst K_Plain_restart rfl zk_iconst_0 ?_
      obtain ⟨i1, h⟩ := zix_ex h
      obtain ⟨M2, e3, h⟩ := zset_ex h
      refine go_zast' e3 K_Plain_restart rfl za_21 i1 (Or.inl rfl) ?_
      refine go_iinc (v := l1 + (1 : Int32)) K_Plain_restart rfl rfl zinc_1 ?_
      refine go_goto K_Plain_restart rfl ?_
      exact go_forget (ih h) (zs_s (zs_s zs_e))
def F_Plain_restart (N : Nat) (M : zMem) : Option (zMem) :=
  zset M 19 1 ((0 : Int32)) fun M1 => zbv (F_Plain_beginOperand M1 ) fun M3 => F_Plain_restart_p7 N N M3 ((0 : Int32))
set_option maxRecDepth 100000 in
theorem G_Plain_restart {N : Nat} {M : zMem} {y : zMem} (h : F_Plain_restart N M  = some y) : zGo Y_Plain_restart 1 0 (zal Y_Plain_restart [.inr 19]) [] M none y := by
  unfold F_Plain_restart at h
  show zGo Y_Plain_restart 1 0 [some (.inr 19), none] [] M _ _
  refine go_aload_n K_Plain_restart rfl rfl ?_
  refine go_iconst K_Plain_restart rfl zk_iconst_0 ?_
  obtain ⟨M1, e2, h⟩ := zset_ex h
  refine go_putI' e2 K_Plain_restart rfl zf_7_19 ?_
  refine go_aload_n K_Plain_restart rfl rfl ?_
  obtain ⟨M3, h4, h⟩ := zbv_ex h
  refine go_vv (Y' := Y_Plain_beginOperand) (av := []) (rest := []) K_Plain_restart rfl zl_7_23 zm_Plain_beginOperand rfl (G_Plain_beginOperand h4) (Nat.le_of_ble_eq_true rfl) (Nat.le_of_ble_eq_true rfl) rfl ?_
  refine go_iconst K_Plain_restart rfl zk_iconst_0 ?_
  refine go_istore_n K_Plain_restart rfl (Nat.le_of_ble_eq_true rfl) ?_
  exact go_forget (G_Plain_restart_p7 _ h) (zs_s (zs_s zs_e))
def F_Proc_restart_p16 (N : Nat) : Nat → zMem → Int32 → Option (zMem)
  | 0, _, _ => none
  | n + 1, M, l1 =>
    if (150 : Int32) ≤ l1 then (zset M 7 6 ((0 : Int32)) fun M1 => zset M1 7 7 ((-1 : Int32)) fun M3 => zset M3 7 8 ((0 : Int32)) fun M5 => zset M5 7 9 ((-4 : Int32)) fun M7 => some M7) else (zix l1 150 (zset M 12 l1.toNatClampNeg ((-1 : Int32)) fun M10 => F_Proc_restart_p16 N n M10 (l1 + (1 : Int32))))
set_option maxRecDepth 100000 in
theorem G_Proc_restart_p16 {N : Nat} : ∀ (n : Nat) {M : zMem} {l1 : Int32} {y : zMem}, F_Proc_restart_p16 N n M l1 = some y → zGo Y_Proc_restart 0 16 [some (.inr 7), some (.inl l1)] [] M none y := by
  intro n
  induction n with
  | zero =>
    intro M l1 y h
    unfold F_Proc_restart_p16 at h
    cases h
  | succ n ih =>
    intro M l1 y h
    unfold F_Proc_restart_p16 at h
    refine go_iload_n K_Proc_restart rfl rfl ?_
    refine go_aload_n K_Proc_restart rfl rfl ?_
    refine go_getR K_Proc_restart rfl zf_8_25 ?_
    refine go_alen K_Proc_restart rfl za_12 zlen_150 ?_
    refine go_icmp_ge K_Proc_restart rfl (fun c => ?_) (fun c => ?_)
    · have h := zif_t c h
      refine go_aload_n K_Proc_restart rfl rfl ?_
      refine go_iconst K_Proc_restart rfl zk_iconst_0 ?_
      obtain ⟨M1, e2, h⟩ := zset_ex h
      refine go_putI' e2 K_Proc_restart rfl zf_8_31 ?_
      refine go_aload_n K_Proc_restart rfl rfl ?_
      refine go_iconst K_Proc_restart rfl zk_iconst_m1 ?_
      obtain ⟨M3, e4, h⟩ := zset_ex h
      refine go_putI' e4 K_Proc_restart rfl zf_8_35 ?_
      refine go_aload_n K_Proc_restart rfl rfl ?_
      refine go_iconst K_Proc_restart rfl zk_iconst_0 ?_
      obtain ⟨M5, e6, h⟩ := zset_ex h
      refine go_putI' e6 K_Proc_restart rfl zf_8_38 ?_
      refine go_aload_n K_Proc_restart rfl rfl ?_
      refine go_bipush K_Proc_restart rfl zk_bipush_m4 ?_
      obtain ⟨M7, e8, h⟩ := zset_ex h
      refine go_putI' e8 K_Proc_restart rfl zf_8_41 ?_
      cases h
      exact go_return K_Proc_restart rfl rfl
    · have h := zif_f c h
      refine go_aload_n K_Proc_restart rfl rfl ?_
      refine go_getR K_Proc_restart rfl zf_8_25 ?_
      refine go_iload_n K_Proc_restart rfl rfl ?_
      refine go_iconst K_Proc_restart rfl zk_iconst_m1 ?_
      obtain ⟨i9, h⟩ := zix_ex h
      obtain ⟨M10, e11, h⟩ := zset_ex h
      refine go_iast' e11 K_Proc_restart rfl za_12 i9 ?_
      refine go_iinc (v := l1 + (1 : Int32)) K_Proc_restart rfl rfl zinc_1 ?_
      refine go_goto K_Proc_restart rfl ?_
      exact go_forget (ih h) (zs_s (zs_s zs_e))
def F_Proc_restart_p2 (N : Nat) : Nat → zMem → Int32 → Option (zMem)
  | 0, _, _ => none
  | n + 1, M, l1 =>
    if (4 : Int32) ≤ l1 then (F_Proc_restart_p16 N N M ((0 : Int32))) else (zix l1 4 (zset M 8 l1.toNatClampNeg ((0 : Int32)) fun M2 => F_Proc_restart_p2 N n M2 (l1 + (1 : Int32))))
set_option maxRecDepth 100000 in
theorem G_Proc_restart_p2 {N : Nat} : ∀ (n : Nat) {M : zMem} {l1 : Int32} {y : zMem}, F_Proc_restart_p2 N n M l1 = some y → zGo Y_Proc_restart 0 2 [some (.inr 7), some (.inl l1)] [] M none y := by
  intro n
  induction n with
  | zero =>
    intro M l1 y h
    unfold F_Proc_restart_p2 at h
    cases h
  | succ n ih =>
    intro M l1 y h
    unfold F_Proc_restart_p2 at h
    refine go_iload_n K_Proc_restart rfl rfl ?_
    refine go_aload_n K_Proc_restart rfl rfl ?_
    refine go_getR K_Proc_restart rfl zf_8_11 ?_
    refine go_alen K_Proc_restart rfl za_8 zlen_4 ?_
    refine go_icmp_ge K_Proc_restart rfl (fun c => ?_) (fun c => ?_)
    · have h := zif_t c h
      refine go_iconst K_Proc_restart rfl zk_iconst_0 ?_
      refine go_istore_n K_Proc_restart rfl (Nat.le_of_ble_eq_true rfl) ?_
      exact go_forget (G_Proc_restart_p16 _ h) (zs_s (zs_s zs_e))
    · have h := zif_f c h
      refine go_aload_n K_Proc_restart rfl rfl ?_
      refine go_getR K_Proc_restart rfl zf_8_11 ?_
      refine go_iload_n K_Proc_restart rfl rfl ?_
      refine go_iconst K_Proc_restart rfl zk_iconst_0 ?_
      obtain ⟨i1, h⟩ := zix_ex h
      obtain ⟨M2, e3, h⟩ := zset_ex h
      refine go_zast' e3 K_Proc_restart rfl za_8 i1 (Or.inl rfl) ?_
      refine go_iinc (v := l1 + (1 : Int32)) K_Proc_restart rfl rfl zinc_1 ?_
      refine go_goto K_Proc_restart rfl ?_
      exact go_forget (ih h) (zs_s (zs_s zs_e))
def F_Proc_restart (N : Nat) (M : zMem) : Option (zMem) :=
  F_Proc_restart_p2 N N M ((0 : Int32))
set_option maxRecDepth 100000 in
theorem G_Proc_restart {N : Nat} {M : zMem} {y : zMem} (h : F_Proc_restart N M  = some y) : zGo Y_Proc_restart 0 0 (zal Y_Proc_restart [.inr 7]) [] M none y := by
  unfold F_Proc_restart at h
  show zGo Y_Proc_restart 0 0 [some (.inr 7), none] [] M _ _
  refine go_iconst K_Proc_restart rfl zk_iconst_0 ?_
  refine go_istore_n K_Proc_restart rfl (Nat.le_of_ble_eq_true rfl) ?_
  exact go_forget (G_Proc_restart_p2 _ h) (zs_s (zs_s zs_e))
def F_Pars_restart (N : Nat) (M : zMem) : Option (zMem) :=
  zbv (F_Code_restart M ) fun M1 => zbv (F_Proc_restart N M1 ) fun M3 => zbv (F_Pend_restart M3 ) fun M5 => zbv (F_Plain_restart N M5 ) fun M7 => zset M7 14 2 ((-4 : Int32)) fun M9 => zset M9 14 3 ((0 : Int32)) fun M11 => some M11
set_option maxRecDepth 100000 in
theorem G_Pars_restart {N : Nat} {M : zMem} {y : zMem} (h : F_Pars_restart N M  = some y) : zGo Y_Pars_restart 2 0 (zal Y_Pars_restart [.inr 14]) [] M none y := by
  unfold F_Pars_restart at h
  show zGo Y_Pars_restart 2 0 [some (.inr 14)] [] M _ _
  refine go_aload_n K_Pars_restart rfl rfl ?_
  refine go_getR K_Pars_restart rfl zf_5_9 ?_
  obtain ⟨M1, h2, h⟩ := zbv_ex h
  refine go_vv (Y' := Y_Code_restart) (av := []) (rest := []) K_Pars_restart rfl zl_5_93 zm_Code_restart rfl (G_Code_restart h2) (Nat.le_of_ble_eq_true rfl) (Nat.le_of_ble_eq_true rfl) rfl ?_
  refine go_aload_n K_Pars_restart rfl rfl ?_
  refine go_getR K_Pars_restart rfl zf_5_15 ?_
  obtain ⟨M3, h4, h⟩ := zbv_ex h
  refine go_vv (Y' := Y_Proc_restart) (av := []) (rest := []) K_Pars_restart rfl zl_5_96 zm_Proc_restart rfl (G_Proc_restart h4) (Nat.le_of_ble_eq_true rfl) (Nat.le_of_ble_eq_true rfl) rfl ?_
  refine go_aload_n K_Pars_restart rfl rfl ?_
  refine go_getR K_Pars_restart rfl zf_5_22 ?_
  obtain ⟨M5, h6, h⟩ := zbv_ex h
  refine go_vv (Y' := Y_Pend_restart) (av := []) (rest := []) K_Pars_restart rfl zl_5_97 zm_Pend_restart rfl (G_Pend_restart h6) (Nat.le_of_ble_eq_true rfl) (Nat.le_of_ble_eq_true rfl) rfl ?_
  refine go_aload_n K_Pars_restart rfl rfl ?_
  refine go_getR K_Pars_restart rfl zf_5_29 ?_
  obtain ⟨M7, h8, h⟩ := zbv_ex h
  refine go_vv (Y' := Y_Plain_restart) (av := []) (rest := []) K_Pars_restart rfl zl_5_98 zm_Plain_restart rfl (G_Plain_restart h8) (Nat.le_of_ble_eq_true rfl) (Nat.le_of_ble_eq_true rfl) rfl ?_
  refine go_aload_n K_Pars_restart rfl rfl ?_
  refine go_bipush K_Pars_restart rfl zk_bipush_m4 ?_
  obtain ⟨M9, e10, h⟩ := zset_ex h
  refine go_putI' e10 K_Pars_restart rfl zf_5_55 ?_
  refine go_aload_n K_Pars_restart rfl rfl ?_
  refine go_iconst K_Pars_restart rfl zk_iconst_0 ?_
  obtain ⟨M11, e12, h⟩ := zset_ex h
  refine go_putZ' e12 K_Pars_restart rfl zf_5_58 (Or.inl rfl) ?_
  cases h
  exact go_return K_Pars_restart rfl rfl
def F_Tok_endsStatements (M : zMem) (l0 : Int32) : Option (Int32 × zMem) :=
  if l0 = (163 : Int32) then (some ((1 : Int32), M)) else (if l0 = (173 : Int32) then (some ((1 : Int32), M)) else (if l0 = (162 : Int32) then (some ((1 : Int32), M)) else (if l0 = (167 : Int32) then (some ((1 : Int32), M)) else (some ((0 : Int32), M)))))
set_option maxRecDepth 100000 in
theorem G_Tok_endsStatements {M : zMem} {l0 : Int32} {y : Int32 × zMem} (h : F_Tok_endsStatements M l0 = some y) : zGo Y_Tok_endsStatements 0 0 (zal Y_Tok_endsStatements [.inl l0]) [] M (some y.1) y.2 := by
  unfold F_Tok_endsStatements at h
  show zGo Y_Tok_endsStatements 0 0 [some (.inl l0)] [] M _ _
  refine go_iload_n K_Tok_endsStatements rfl rfl ?_
  refine go_sipush K_Tok_endsStatements rfl zk_sipush_163 ?_
  refine go_icmp_eq K_Tok_endsStatements rfl (fun c => ?_) (fun c => ?_)
  · have h := zif_t c h
    refine go_iconst K_Tok_endsStatements rfl zk_iconst_1 ?_
    refine go_goto K_Tok_endsStatements rfl ?_
    cases h
    exact go_zreturn K_Tok_endsStatements rfl rfl (Or.inr rfl)
  · have h := zif_f c h
    refine go_iload_n K_Tok_endsStatements rfl rfl ?_
    refine go_sipush K_Tok_endsStatements rfl zk_sipush_173 ?_
    refine go_icmp_eq K_Tok_endsStatements rfl (fun c => ?_) (fun c => ?_)
    · have h := zif_t c h
      refine go_iconst K_Tok_endsStatements rfl zk_iconst_1 ?_
      refine go_goto K_Tok_endsStatements rfl ?_
      cases h
      exact go_zreturn K_Tok_endsStatements rfl rfl (Or.inr rfl)
    · have h := zif_f c h
      refine go_iload_n K_Tok_endsStatements rfl rfl ?_
      refine go_sipush K_Tok_endsStatements rfl zk_sipush_162 ?_
      refine go_icmp_eq K_Tok_endsStatements rfl (fun c => ?_) (fun c => ?_)
      · have h := zif_t c h
        refine go_iconst K_Tok_endsStatements rfl zk_iconst_1 ?_
        refine go_goto K_Tok_endsStatements rfl ?_
        cases h
        exact go_zreturn K_Tok_endsStatements rfl rfl (Or.inr rfl)
      · have h := zif_f c h
        refine go_iload_n K_Tok_endsStatements rfl rfl ?_
        refine go_sipush K_Tok_endsStatements rfl zk_sipush_167 ?_
        refine go_icmp_ne K_Tok_endsStatements rfl (fun c => ?_) (fun c => ?_)
        · have h := zif_f c h
          refine go_iconst K_Tok_endsStatements rfl zk_iconst_0 ?_
          cases h
          exact go_zreturn K_Tok_endsStatements rfl rfl (Or.inl rfl)
        · have h := zif_t c h
          refine go_iconst K_Tok_endsStatements rfl zk_iconst_1 ?_
          refine go_goto K_Tok_endsStatements rfl ?_
          cases h
          exact go_zreturn K_Tok_endsStatements rfl rfl (Or.inr rfl)
def F_Tok_opensStatements (M : zMem) (l0 : Int32) : Option (Int32 × zMem) :=
  if l0 = (171 : Int32) then (some ((1 : Int32), M)) else (if l0 = (161 : Int32) then (some ((1 : Int32), M)) else (if l0 = (162 : Int32) then (some ((1 : Int32), M)) else (if l0 = (165 : Int32) then (some ((1 : Int32), M)) else (if l0 = (166 : Int32) then (some ((1 : Int32), M)) else (some ((0 : Int32), M))))))
set_option maxRecDepth 100000 in
theorem G_Tok_opensStatements {M : zMem} {l0 : Int32} {y : Int32 × zMem} (h : F_Tok_opensStatements M l0 = some y) : zGo Y_Tok_opensStatements 0 0 (zal Y_Tok_opensStatements [.inl l0]) [] M (some y.1) y.2 := by
  unfold F_Tok_opensStatements at h
  show zGo Y_Tok_opensStatements 0 0 [some (.inl l0)] [] M _ _
  refine go_iload_n K_Tok_opensStatements rfl rfl ?_
  refine go_sipush K_Tok_opensStatements rfl zk_sipush_171 ?_
  refine go_icmp_eq K_Tok_opensStatements rfl (fun c => ?_) (fun c => ?_)
  · have h := zif_t c h
    refine go_iconst K_Tok_opensStatements rfl zk_iconst_1 ?_
    refine go_goto K_Tok_opensStatements rfl ?_
    cases h
    exact go_zreturn K_Tok_opensStatements rfl rfl (Or.inr rfl)
  · have h := zif_f c h
    refine go_iload_n K_Tok_opensStatements rfl rfl ?_
    refine go_sipush K_Tok_opensStatements rfl zk_sipush_161 ?_
    refine go_icmp_eq K_Tok_opensStatements rfl (fun c => ?_) (fun c => ?_)
    · have h := zif_t c h
      refine go_iconst K_Tok_opensStatements rfl zk_iconst_1 ?_
      refine go_goto K_Tok_opensStatements rfl ?_
      cases h
      exact go_zreturn K_Tok_opensStatements rfl rfl (Or.inr rfl)
    · have h := zif_f c h
      refine go_iload_n K_Tok_opensStatements rfl rfl ?_
      refine go_sipush K_Tok_opensStatements rfl zk_sipush_162 ?_
      refine go_icmp_eq K_Tok_opensStatements rfl (fun c => ?_) (fun c => ?_)
      · have h := zif_t c h
        refine go_iconst K_Tok_opensStatements rfl zk_iconst_1 ?_
        refine go_goto K_Tok_opensStatements rfl ?_
        cases h
        exact go_zreturn K_Tok_opensStatements rfl rfl (Or.inr rfl)
      · have h := zif_f c h
        refine go_iload_n K_Tok_opensStatements rfl rfl ?_
        refine go_sipush K_Tok_opensStatements rfl zk_sipush_165 ?_
        refine go_icmp_eq K_Tok_opensStatements rfl (fun c => ?_) (fun c => ?_)
        · have h := zif_t c h
          refine go_iconst K_Tok_opensStatements rfl zk_iconst_1 ?_
          refine go_goto K_Tok_opensStatements rfl ?_
          cases h
          exact go_zreturn K_Tok_opensStatements rfl rfl (Or.inr rfl)
        · have h := zif_f c h
          refine go_iload_n K_Tok_opensStatements rfl rfl ?_
          refine go_sipush K_Tok_opensStatements rfl zk_sipush_166 ?_
          refine go_icmp_ne K_Tok_opensStatements rfl (fun c => ?_) (fun c => ?_)
          · have h := zif_f c h
            refine go_iconst K_Tok_opensStatements rfl zk_iconst_0 ?_
            cases h
            exact go_zreturn K_Tok_opensStatements rfl rfl (Or.inl rfl)
          · have h := zif_t c h
            refine go_iconst K_Tok_opensStatements rfl zk_iconst_1 ?_
            refine go_goto K_Tok_opensStatements rfl ?_
            cases h
            exact go_zreturn K_Tok_opensStatements rfl rfl (Or.inr rfl)
def F_Plain_isBesideEmptyStatement_p42 (M : zMem) (l4 s0 : Int32) : Option (Int32 × zMem) :=
  if l4 = 0 then (if s0 = (121 : Int32) then (some ((1 : Int32), M)) else (zbi (F_Tok_endsStatements M s0) fun r3 M1 => if r3 = 0 then (some ((0 : Int32), M1)) else (some ((1 : Int32), M1)))) else (some ((1 : Int32), M))
set_option maxRecDepth 100000 in
theorem G_Plain_isBesideEmptyStatement_p42 {M : zMem} {l4 s0 : Int32} {y : Int32 × zMem} (h : F_Plain_isBesideEmptyStatement_p42 M l4 s0 = some y) : zGo Y_Plain_isBesideEmptyStatement 1 42 [none, none, none, none, some (.inl l4), none] [.inl s0] M (some y.1) y.2 := by
  unfold F_Plain_isBesideEmptyStatement_p42 at h
  refine go_istore K_Plain_isBesideEmptyStatement rfl (Nat.le_of_ble_eq_true rfl) ?_
  refine go_iload K_Plain_isBesideEmptyStatement rfl rfl ?_
  refine go_if_ne K_Plain_isBesideEmptyStatement rfl (fun c => ?_) (fun c => ?_)
  · have h := zif_f c h
    refine go_iconst K_Plain_isBesideEmptyStatement rfl zk_iconst_1 ?_
    refine go_goto K_Plain_isBesideEmptyStatement rfl ?_
    cases h
    exact go_zreturn K_Plain_isBesideEmptyStatement rfl rfl (Or.inr rfl)
  · have h := zif_t c h
    refine go_iload K_Plain_isBesideEmptyStatement rfl rfl ?_
    refine go_bipush K_Plain_isBesideEmptyStatement rfl zk_bipush_121 ?_
    refine go_icmp_eq K_Plain_isBesideEmptyStatement rfl (fun c => ?_) (fun c => ?_)
    · have h := zif_t c h
      refine go_iconst K_Plain_isBesideEmptyStatement rfl zk_iconst_1 ?_
      refine go_goto K_Plain_isBesideEmptyStatement rfl ?_
      cases h
      exact go_zreturn K_Plain_isBesideEmptyStatement rfl rfl (Or.inr rfl)
    · have h := zif_f c h
      refine go_iload K_Plain_isBesideEmptyStatement rfl rfl ?_
      obtain ⟨r3, M1, h2, h⟩ := zbi_ex h
      refine go_si (Y' := Y_Tok_endsStatements) (av := [.inl s0]) (rest := []) K_Plain_isBesideEmptyStatement rfl zl_7_47 zm_Tok_endsStatements rfl (G_Tok_endsStatements h2) (Nat.le_of_ble_eq_true rfl) (Nat.le_of_ble_eq_true rfl) rfl ?_
      refine go_if_eq K_Plain_isBesideEmptyStatement rfl (fun c => ?_) (fun c => ?_)
      · have h := zif_t c h
        refine go_iconst K_Plain_isBesideEmptyStatement rfl zk_iconst_0 ?_
        cases h
        exact go_zreturn K_Plain_isBesideEmptyStatement rfl rfl (Or.inl rfl)
      · have h := zif_f c h
        refine go_iconst K_Plain_isBesideEmptyStatement rfl zk_iconst_1 ?_
        refine go_goto K_Plain_isBesideEmptyStatement rfl ?_
        cases h
        exact go_zreturn K_Plain_isBesideEmptyStatement rfl rfl (Or.inr rfl)
def F_Plain_isBesideEmptyStatement_p41 (M : zMem) (l4 : Int32) : Option (Int32 × zMem) :=
  F_Plain_isBesideEmptyStatement_p42 M l4 ((163 : Int32))
set_option maxRecDepth 100000 in
theorem G_Plain_isBesideEmptyStatement_p41 {M : zMem} {l4 : Int32} {y : Int32 × zMem} (h : F_Plain_isBesideEmptyStatement_p41 M l4 = some y) : zGo Y_Plain_isBesideEmptyStatement 1 41 [none, none, none, none, some (.inl l4), none] [] M (some y.1) y.2 := by
  unfold F_Plain_isBesideEmptyStatement_p41 at h
  refine go_sipush K_Plain_isBesideEmptyStatement rfl zk_sipush_163 ?_
  exact go_forget (G_Plain_isBesideEmptyStatement_p42 h) (zs_n (zs_n (zs_n (zs_n (zs_s (zs_n zs_e))))))
def F_Plain_isBesideEmptyStatement_p21 (M : zMem) (l2 l3 s0 : Int32) : Option (Int32 × zMem) :=
  if l3 < 0 then (F_Plain_isBesideEmptyStatement_p41 M s0) else (if (l2 - (1 : Int32)) ≤ l3 then (F_Plain_isBesideEmptyStatement_p41 M s0) else (if ((150 : Int32) - (1 : Int32)) ≤ l3 then (F_Plain_isBesideEmptyStatement_p41 M s0) else (zix (l3 + (1 : Int32)) 150 (F_Plain_isBesideEmptyStatement_p42 M s0 (M 1 (l3 + (1 : Int32)).toNatClampNeg)))))
set_option maxRecDepth 100000 in
theorem G_Plain_isBesideEmptyStatement_p21 {M : zMem} {l2 l3 s0 : Int32} {y : Int32 × zMem} (h : F_Plain_isBesideEmptyStatement_p21 M l2 l3 s0 = some y) : zGo Y_Plain_isBesideEmptyStatement 1 21 [none, some (.inr 1), some (.inl l2), some (.inl l3), none, none] [.inl s0] M (some y.1) y.2 := by
  unfold F_Plain_isBesideEmptyStatement_p21 at h
  refine go_istore K_Plain_isBesideEmptyStatement rfl (Nat.le_of_ble_eq_true rfl) ?_
  refine go_iload_n K_Plain_isBesideEmptyStatement rfl rfl ?_
  refine go_if_lt K_Plain_isBesideEmptyStatement rfl (fun c => ?_) (fun c => ?_)
  · have h := zif_t c h
    exact go_forget (G_Plain_isBesideEmptyStatement_p41 h) (zs_n (zs_n (zs_n (zs_n (zs_s (zs_n zs_e))))))
  · have h := zif_f c h
    refine go_iload_n K_Plain_isBesideEmptyStatement rfl rfl ?_
    refine go_iload_n K_Plain_isBesideEmptyStatement rfl rfl ?_
    refine go_iconst K_Plain_isBesideEmptyStatement rfl zk_iconst_1 ?_
    refine go_isub K_Plain_isBesideEmptyStatement rfl ?_
    refine go_icmp_ge K_Plain_isBesideEmptyStatement rfl (fun c => ?_) (fun c => ?_)
    · have h := zif_t c h
      exact go_forget (G_Plain_isBesideEmptyStatement_p41 h) (zs_n (zs_n (zs_n (zs_n (zs_s (zs_n zs_e))))))
    · have h := zif_f c h
      refine go_iload_n K_Plain_isBesideEmptyStatement rfl rfl ?_
      refine go_aload_n K_Plain_isBesideEmptyStatement rfl rfl ?_
      refine go_alen K_Plain_isBesideEmptyStatement rfl za_1 zlen_150 ?_
      refine go_iconst K_Plain_isBesideEmptyStatement rfl zk_iconst_1 ?_
      refine go_isub K_Plain_isBesideEmptyStatement rfl ?_
      refine go_icmp_ge K_Plain_isBesideEmptyStatement rfl (fun c => ?_) (fun c => ?_)
      · have h := zif_t c h
        exact go_forget (G_Plain_isBesideEmptyStatement_p41 h) (zs_n (zs_n (zs_n (zs_n (zs_s (zs_n zs_e))))))
      · have h := zif_f c h
        refine go_aload_n K_Plain_isBesideEmptyStatement rfl rfl ?_
        refine go_iload_n K_Plain_isBesideEmptyStatement rfl rfl ?_
        refine go_iconst K_Plain_isBesideEmptyStatement rfl zk_iconst_1 ?_
        refine go_iadd K_Plain_isBesideEmptyStatement rfl ?_
        obtain ⟨i1, h⟩ := zix_ex h
        refine go_iald K_Plain_isBesideEmptyStatement rfl za_1 i1 ?_
        refine go_goto K_Plain_isBesideEmptyStatement rfl ?_
        exact go_forget (G_Plain_isBesideEmptyStatement_p42 h) (zs_n (zs_n (zs_n (zs_n (zs_s (zs_n zs_e))))))
def F_Plain_isBesideEmptyStatement_p20 (M : zMem) (l2 l3 : Int32) : Option (Int32 × zMem) :=
  F_Plain_isBesideEmptyStatement_p21 M l2 l3 ((0 : Int32))
set_option maxRecDepth 100000 in
theorem G_Plain_isBesideEmptyStatement_p20 {M : zMem} {l2 l3 : Int32} {y : Int32 × zMem} (h : F_Plain_isBesideEmptyStatement_p20 M l2 l3 = some y) : zGo Y_Plain_isBesideEmptyStatement 1 20 [none, some (.inr 1), some (.inl l2), some (.inl l3), none, none] [] M (some y.1) y.2 := by
  unfold F_Plain_isBesideEmptyStatement_p20 at h
  refine go_iconst K_Plain_isBesideEmptyStatement rfl zk_iconst_0 ?_
  exact go_forget (G_Plain_isBesideEmptyStatement_p21 h) (zs_n (zs_s (zs_s (zs_s (zs_n (zs_n zs_e))))))
def F_Plain_isBesideEmptyStatement (M : zMem) (l2 l3 : Int32) : Option (Int32 × zMem) :=
  if (M 19 1) ≤ 0 then (F_Plain_isBesideEmptyStatement_p20 M l2 l3) else (if (150 : Int32) < (M 19 1) then (F_Plain_isBesideEmptyStatement_p20 M l2 l3) else (zix ((M 19 1) - (1 : Int32)) 150 (zbi (F_Tok_opensStatements M (M 20 ((M 19 1) - (1 : Int32)).toNatClampNeg)) fun r4 M2 => if r4 = 0 then (F_Plain_isBesideEmptyStatement_p20 M2 l2 l3) else (F_Plain_isBesideEmptyStatement_p21 M2 l2 l3 ((1 : Int32))))))
set_option maxRecDepth 100000 in
theorem G_Plain_isBesideEmptyStatement {M : zMem} {l2 l3 : Int32} {y : Int32 × zMem} (h : F_Plain_isBesideEmptyStatement M l2 l3 = some y) : zGo Y_Plain_isBesideEmptyStatement 1 0 (zal Y_Plain_isBesideEmptyStatement [.inr 19, .inr 1, .inl l2, .inl l3]) [] M (some y.1) y.2 := by
  unfold F_Plain_isBesideEmptyStatement at h
  show zGo Y_Plain_isBesideEmptyStatement 1 0 [some (.inr 19), some (.inr 1), some (.inl l2), some (.inl l3), none, none] [] M _ _
  refine go_aload_n K_Plain_isBesideEmptyStatement rfl rfl ?_
  refine go_getI K_Plain_isBesideEmptyStatement rfl zf_7_19 ?_
  refine go_if_le K_Plain_isBesideEmptyStatement rfl (fun c => ?_) (fun c => ?_)
  · have h := zif_t c h
    exact go_forget (G_Plain_isBesideEmptyStatement_p20 h) (zs_n (zs_s (zs_s (zs_s (zs_n (zs_n zs_e))))))
  · have h := zif_f c h
    refine go_aload_n K_Plain_isBesideEmptyStatement rfl rfl ?_
    refine go_getI K_Plain_isBesideEmptyStatement rfl zf_7_19 ?_
    refine go_aload_n K_Plain_isBesideEmptyStatement rfl rfl ?_
    refine go_getR K_Plain_isBesideEmptyStatement rfl zf_7_9 ?_
    refine go_alen K_Plain_isBesideEmptyStatement rfl za_20 zlen_150 ?_
    refine go_icmp_gt K_Plain_isBesideEmptyStatement rfl (fun c => ?_) (fun c => ?_)
    · have h := zif_t c h
      exact go_forget (G_Plain_isBesideEmptyStatement_p20 h) (zs_n (zs_s (zs_s (zs_s (zs_n (zs_n zs_e))))))
    · have h := zif_f c h
      refine go_aload_n K_Plain_isBesideEmptyStatement rfl rfl ?_
      refine go_getR K_Plain_isBesideEmptyStatement rfl zf_7_9 ?_
      refine go_aload_n K_Plain_isBesideEmptyStatement rfl rfl ?_
      refine go_getI K_Plain_isBesideEmptyStatement rfl zf_7_19 ?_
      refine go_iconst K_Plain_isBesideEmptyStatement rfl zk_iconst_1 ?_
      refine go_isub K_Plain_isBesideEmptyStatement rfl ?_
      obtain ⟨i1, h⟩ := zix_ex h
      refine go_iald K_Plain_isBesideEmptyStatement rfl za_20 i1 ?_
      obtain ⟨r4, M2, h3, h⟩ := zbi_ex h
      refine go_si (Y' := Y_Tok_opensStatements) (av := [.inl (M 20 ((M 19 1) - (1 : Int32)).toNatClampNeg)]) (rest := []) K_Plain_isBesideEmptyStatement rfl zl_7_43 zm_Tok_opensStatements rfl (G_Tok_opensStatements h3) (Nat.le_of_ble_eq_true rfl) (Nat.le_of_ble_eq_true rfl) rfl ?_
      refine go_if_eq K_Plain_isBesideEmptyStatement rfl (fun c => ?_) (fun c => ?_)
      · have h := zif_t c h
        exact go_forget (G_Plain_isBesideEmptyStatement_p20 h) (zs_n (zs_s (zs_s (zs_s (zs_n (zs_n zs_e))))))
      · have h := zif_f c h
        refine go_iconst K_Plain_isBesideEmptyStatement rfl zk_iconst_1 ?_
        refine go_goto K_Plain_isBesideEmptyStatement rfl ?_
        exact go_forget (G_Plain_isBesideEmptyStatement_p21 h) (zs_n (zs_s (zs_s (zs_s (zs_n (zs_n zs_e))))))
def F_Plain_collect_p57 (N : Nat) (rec5 : zMem → Int32 → Int32 → Option (zMem)) (M : zMem) (l2 l3 : Int32) : Option (zMem) :=
  rec5 M l2 (l3 + (1 : Int32))
set_option maxRecDepth 100000 in
theorem G_Plain_collect_p57 {N : Nat} {rec5 : zMem → Int32 → Int32 → Option (zMem)} (hrec5 : ∀ {M : zMem} {l2 l3 : Int32} {y : zMem}, rec5 M l2 l3 = some y → zGo Y_Plain_collect 2 5 [some (.inr 19), some (.inr 1), some (.inl l2), some (.inl l3), none] [] M none y) {M : zMem} {l2 l3 : Int32} {y : zMem} (h : F_Plain_collect_p57 N rec5 M l2 l3 = some y) : zGo Y_Plain_collect 2 57 [some (.inr 19), some (.inr 1), some (.inl l2), some (.inl l3), none] [] M none y := by
  unfold F_Plain_collect_p57 at h
  refine go_iinc (v := l3 + (1 : Int32)) K_Plain_collect rfl rfl zinc_1 ?_
  refine go_goto K_Plain_collect rfl ?_
  exact go_forget (hrec5 h) (zs_s (zs_s (zs_s (zs_s (zs_n zs_e)))))
def F_Plain_collect_p34 (N : Nat) (rec5 : zMem → Int32 → Int32 → Option (zMem)) (M : zMem) (l2 l3 s0 : Int32) : Option (zMem) :=
  if s0 = 0 then (if (150 : Int32) ≤ (M 19 1) then (F_Plain_collect_p57 N rec5 M l2 l3) else (zix l3 150 (zix (M 19 1) 150 (zset M 20 (M 19 1).toNatClampNeg (M 1 l3.toNatClampNeg) fun M3 => zset M3 19 1 ((M3 19 1) + (1 : Int32)) fun M5 => F_Plain_collect_p57 N rec5 M5 l2 l3)))) else (F_Plain_collect_p57 N rec5 M l2 l3)
set_option maxRecDepth 100000 in
theorem G_Plain_collect_p34 {N : Nat} {rec5 : zMem → Int32 → Int32 → Option (zMem)} (hrec5 : ∀ {M : zMem} {l2 l3 : Int32} {y : zMem}, rec5 M l2 l3 = some y → zGo Y_Plain_collect 2 5 [some (.inr 19), some (.inr 1), some (.inl l2), some (.inl l3), none] [] M none y) {M : zMem} {l2 l3 s0 : Int32} {y : zMem} (h : F_Plain_collect_p34 N rec5 M l2 l3 s0 = some y) : zGo Y_Plain_collect 2 34 [some (.inr 19), some (.inr 1), some (.inl l2), some (.inl l3), none] [.inl s0] M none y := by
  unfold F_Plain_collect_p34 at h
  refine go_istore K_Plain_collect rfl (Nat.le_of_ble_eq_true rfl) ?_
  refine go_iload K_Plain_collect rfl rfl ?_
  refine go_if_ne K_Plain_collect rfl (fun c => ?_) (fun c => ?_)
  · have h := zif_f c h
    exact go_forget (G_Plain_collect_p57 hrec5 h) (zs_s (zs_s (zs_s (zs_s (zs_n zs_e)))))
  · have h := zif_t c h
    refine go_aload_n K_Plain_collect rfl rfl ?_
    refine go_getI K_Plain_collect rfl zf_7_19 ?_
    refine go_aload_n K_Plain_collect rfl rfl ?_
    refine go_getR K_Plain_collect rfl zf_7_9 ?_
    refine go_alen K_Plain_collect rfl za_20 zlen_150 ?_
    refine go_icmp_ge K_Plain_collect rfl (fun c => ?_) (fun c => ?_)
    · have h := zif_t c h
      exact go_forget (G_Plain_collect_p57 hrec5 h) (zs_s (zs_s (zs_s (zs_s (zs_n zs_e)))))
    · have h := zif_f c h
      refine go_aload_n K_Plain_collect rfl rfl ?_
      refine go_getR K_Plain_collect rfl zf_7_9 ?_
      refine go_aload_n K_Plain_collect rfl rfl ?_
      refine go_getI K_Plain_collect rfl zf_7_19 ?_
      refine go_aload_n K_Plain_collect rfl rfl ?_
      refine go_iload_n K_Plain_collect rfl rfl ?_
      obtain ⟨i1, h⟩ := zix_ex h
      refine go_iald K_Plain_collect rfl za_1 i1 ?_
      obtain ⟨i2, h⟩ := zix_ex h
      obtain ⟨M3, e4, h⟩ := zset_ex h
      refine go_iast' e4 K_Plain_collect rfl za_20 i2 ?_
      refine go_aload_n K_Plain_collect rfl rfl ?_
      refine go_dup K_Plain_collect rfl ?_
      refine go_getI K_Plain_collect rfl zf_7_19 ?_
      refine go_iconst K_Plain_collect rfl zk_iconst_1 ?_
      refine go_iadd K_Plain_collect rfl ?_
      obtain ⟨M5, e6, h⟩ := zset_ex h
      refine go_putI' e6 K_Plain_collect rfl zf_7_19 ?_
      exact go_forget (G_Plain_collect_p57 hrec5 h) (zs_s (zs_s (zs_s (zs_s (zs_n zs_e)))))
def F_Plain_collect_p31 (N : Nat) (rec5 : zMem → Int32 → Int32 → Option (zMem)) (M : zMem) (l2 l3 : Int32) : Option (zMem) :=
  F_Plain_collect_p34 N rec5 M l2 l3 ((1 : Int32))
set_option maxRecDepth 100000 in
theorem G_Plain_collect_p31 {N : Nat} {rec5 : zMem → Int32 → Int32 → Option (zMem)} (hrec5 : ∀ {M : zMem} {l2 l3 : Int32} {y : zMem}, rec5 M l2 l3 = some y → zGo Y_Plain_collect 2 5 [some (.inr 19), some (.inr 1), some (.inl l2), some (.inl l3), none] [] M none y) {M : zMem} {l2 l3 : Int32} {y : zMem} (h : F_Plain_collect_p31 N rec5 M l2 l3 = some y) : zGo Y_Plain_collect 2 31 [some (.inr 19), some (.inr 1), some (.inl l2), some (.inl l3), none] [] M none y := by
  unfold F_Plain_collect_p31 at h
  refine go_iconst K_Plain_collect rfl zk_iconst_1 ?_
  refine go_goto K_Plain_collect rfl ?_
  exact go_forget (G_Plain_collect_p34 hrec5 h) (zs_s (zs_s (zs_s (zs_s (zs_n zs_e)))))
def F_Plain_collect_p33 (N : Nat) (rec5 : zMem → Int32 → Int32 → Option (zMem)) (M : zMem) (l2 l3 : Int32) : Option (zMem) :=
  F_Plain_collect_p34 N rec5 M l2 l3 ((0 : Int32))
set_option maxRecDepth 100000 in
theorem G_Plain_collect_p33 {N : Nat} {rec5 : zMem → Int32 → Int32 → Option (zMem)} (hrec5 : ∀ {M : zMem} {l2 l3 : Int32} {y : zMem}, rec5 M l2 l3 = some y → zGo Y_Plain_collect 2 5 [some (.inr 19), some (.inr 1), some (.inl l2), some (.inl l3), none] [] M none y) {M : zMem} {l2 l3 : Int32} {y : zMem} (h : F_Plain_collect_p33 N rec5 M l2 l3 = some y) : zGo Y_Plain_collect 2 33 [some (.inr 19), some (.inr 1), some (.inl l2), some (.inl l3), none] [] M none y := by
  unfold F_Plain_collect_p33 at h
  refine go_iconst K_Plain_collect rfl zk_iconst_0 ?_
  exact go_forget (G_Plain_collect_p34 hrec5 h) (zs_s (zs_s (zs_s (zs_s (zs_n zs_e)))))
def F_Plain_collect_p5 (N : Nat) : Nat → zMem → Int32 → Int32 → Option (zMem)
  | 0, _, _, _ => none
  | n + 1, M, l2, l3 =>
    if l2 ≤ l3 then (some M) else (if (150 : Int32) ≤ l3 then (some M) else (if (150 : Int32) ≤ l3 then (some M) else (zix l3 150 (if (M 21 l3.toNatClampNeg) = 0 then (zix l3 150 (if (M 1 l3.toNatClampNeg) = (121 : Int32) then (zbi (F_Plain_isBesideEmptyStatement M l2 l3) fun r5 M3 => if r5 = 0 then (F_Plain_collect_p33 N (F_Plain_collect_p5 N n) M3 l2 l3) else (F_Plain_collect_p31 N (F_Plain_collect_p5 N n) M3 l2 l3)) else (F_Plain_collect_p33 N (F_Plain_collect_p5 N n) M l2 l3))) else (F_Plain_collect_p31 N (F_Plain_collect_p5 N n) M l2 l3)))))
set_option maxRecDepth 100000 in
theorem G_Plain_collect_p5 {N : Nat} : ∀ (n : Nat) {M : zMem} {l2 l3 : Int32} {y : zMem}, F_Plain_collect_p5 N n M l2 l3 = some y → zGo Y_Plain_collect 2 5 [some (.inr 19), some (.inr 1), some (.inl l2), some (.inl l3), none] [] M none y := by
  intro n
  induction n with
  | zero =>
    intro M l2 l3 y h
    unfold F_Plain_collect_p5 at h
    cases h
  | succ n ih =>
    intro M l2 l3 y h
    unfold F_Plain_collect_p5 at h
    refine go_iload_n K_Plain_collect rfl rfl ?_
    refine go_iload_n K_Plain_collect rfl rfl ?_
    refine go_icmp_ge K_Plain_collect rfl (fun c => ?_) (fun c => ?_)
    · have h := zif_t c h
      cases h
      exact go_return K_Plain_collect rfl rfl
    · have h := zif_f c h
      refine go_iload_n K_Plain_collect rfl rfl ?_
      refine go_aload_n K_Plain_collect rfl rfl ?_
      refine go_alen K_Plain_collect rfl za_1 zlen_150 ?_
      refine go_icmp_ge K_Plain_collect rfl (fun c => ?_) (fun c => ?_)
      · have h := zif_t c h
        cases h
        exact go_return K_Plain_collect rfl rfl
      · have h := zif_f c h
        refine go_iload_n K_Plain_collect rfl rfl ?_
        refine go_sipush K_Plain_collect rfl zk_sipush_150 ?_
        refine go_icmp_ge K_Plain_collect rfl (fun c => ?_) (fun c => ?_)
        · have h := zif_t c h
          cases h
          exact go_return K_Plain_collect rfl rfl
        · have h := zif_f c h
          refine go_aload_n K_Plain_collect rfl rfl ?_
          refine go_getR K_Plain_collect rfl zf_7_15 ?_
          refine go_iload_n K_Plain_collect rfl rfl ?_
          obtain ⟨i1, h⟩ := zix_ex h
          refine go_zald K_Plain_collect rfl za_21 i1 ?_
          refine go_if_ne K_Plain_collect rfl (fun c => ?_) (fun c => ?_)
          · have h := zif_f c h
            exact go_forget (G_Plain_collect_p31 ih h) (zs_s (zs_s (zs_s (zs_s (zs_n zs_e)))))
          · have h := zif_t c h
            refine go_aload_n K_Plain_collect rfl rfl ?_
            refine go_iload_n K_Plain_collect rfl rfl ?_
            obtain ⟨i2, h⟩ := zix_ex h
            refine go_iald K_Plain_collect rfl za_1 i2 ?_
            refine go_bipush K_Plain_collect rfl zk_bipush_121 ?_
            refine go_icmp_ne K_Plain_collect rfl (fun c => ?_) (fun c => ?_)
            · have h := zif_f c h
              exact go_forget (G_Plain_collect_p33 ih h) (zs_s (zs_s (zs_s (zs_s (zs_n zs_e)))))
            · have h := zif_t c h
              refine go_aload_n K_Plain_collect rfl rfl ?_
              refine go_aload_n K_Plain_collect rfl rfl ?_
              refine go_iload_n K_Plain_collect rfl rfl ?_
              refine go_iload_n K_Plain_collect rfl rfl ?_
              obtain ⟨r5, M3, h4, h⟩ := zbi_ex h
              refine go_vi (Y' := Y_Plain_isBesideEmptyStatement) (av := [.inr 1, .inl l2, .inl l3]) (rest := []) K_Plain_collect rfl zl_7_39 zm_Plain_isBesideEmptyStatement rfl (G_Plain_isBesideEmptyStatement h4) (Nat.le_of_ble_eq_true rfl) (Nat.le_of_ble_eq_true rfl) rfl ?_
              refine go_if_eq K_Plain_collect rfl (fun c => ?_) (fun c => ?_)
              · have h := zif_t c h
                exact go_forget (G_Plain_collect_p33 ih h) (zs_s (zs_s (zs_s (zs_s (zs_n zs_e)))))
              · have h := zif_f c h
                exact go_forget (G_Plain_collect_p31 ih h) (zs_s (zs_s (zs_s (zs_s (zs_n zs_e)))))
def F_Plain_collect (N : Nat) (M : zMem) (l2 : Int32) : Option (zMem) :=
  zset M 19 1 ((0 : Int32)) fun M1 => F_Plain_collect_p5 N N M1 l2 ((0 : Int32))
set_option maxRecDepth 100000 in
theorem G_Plain_collect {N : Nat} {M : zMem} {l2 : Int32} {y : zMem} (h : F_Plain_collect N M l2 = some y) : zGo Y_Plain_collect 2 0 (zal Y_Plain_collect [.inr 19, .inr 1, .inl l2]) [] M none y := by
  unfold F_Plain_collect at h
  show zGo Y_Plain_collect 2 0 [some (.inr 19), some (.inr 1), some (.inl l2), none, none] [] M _ _
  refine go_aload_n K_Plain_collect rfl rfl ?_
  refine go_iconst K_Plain_collect rfl zk_iconst_0 ?_
  obtain ⟨M1, e2, h⟩ := zset_ex h
  refine go_putI' e2 K_Plain_collect rfl zf_7_19 ?_
  refine go_iconst K_Plain_collect rfl zk_iconst_0 ?_
  refine go_istore_n K_Plain_collect rfl (Nat.le_of_ble_eq_true rfl) ?_
  exact go_forget (G_Plain_collect_p5 _ h) (zs_s (zs_s (zs_s (zs_s (zs_n zs_e)))))
