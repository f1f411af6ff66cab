set_option maxRecDepth 100000 in
theorem lc_0 {Inv : zMem → Prop} {L : Nat} {xs : Nat → Int32} {i : Int32} {M : zMem} (hob : zOb Inv Y_L_token 2 Y_R_token 1 1) (hM : Inv M) (h1 : vp_in (i + 1) L) (h2 : vp_in (i + 2) L) (h3 : vp_in (i + 3) L) (h4 : vp_in (i + 4) L) (next : ∀ M, Inv M → lGo L xs 303 [some (.inr 61), some (.inr 0), some (.inr 34), some (.inl i)] [] M) : lGo L xs 22 [some (.inr 61), some (.inr 0), some (.inr 34), some (.inl i)] [] M := by
  obtain ⟨r, M1, M2, gc, gr, hI⟩ := hob M hM [xs (i + (1 : Int32)).toNatClampNeg] rfl
  refine ll_aload_n rfl rfl ?_
  refine ll_aload_n rfl rfl ?_
  refine ll_iload_n rfl rfl ?_
  refine ll_iconst rfl zk_iconst_1 ?_
  refine ll_iadd rfl ?_
  refine ll_sld rfl h1 ?_
  refine ll_call (Y' := Y_L_token) (av := [.inl (xs (i + (1 : Int32)).toNatClampNeg)]) (rest := []) rfl zll_13 zm_L_token rfl gc (by decide) (Nat.le_of_ble_eq_true rfl) rfl ?_
  refine ll_aload_n rfl rfl ?_
  refine ll_aload_n rfl rfl ?_
  refine ll_iload_n rfl rfl ?_
  refine ll_iconst rfl zk_iconst_1 ?_
  refine ll_iadd rfl ?_
  refine ll_sld rfl h1 ?_
  refine ll_call (Y' := Y_R_token) (av := [.inl (xs (i + (1 : Int32)).toNatClampNeg)]) (rest := [.inl r]) rfl zll_17 zm_R_token rfl gr (by decide) (Nat.le_of_ble_eq_true rfl) rfl ?_
  refine ll_eq rfl ?_
  exact next M2 hI
set_option maxRecDepth 100000 in
theorem lc_1 {Inv : zMem → Prop} {L : Nat} {xs : Nat → Int32} {i : Int32} {M : zMem} (hob : zOb Inv Y_L_four 3 Y_R_four 1 4) (hM : Inv M) (h1 : vp_in (i + 1) L) (h2 : vp_in (i + 2) L) (h3 : vp_in (i + 3) L) (h4 : vp_in (i + 4) L) (next : ∀ M, Inv M → lGo L xs 303 [some (.inr 61), some (.inr 0), some (.inr 34), some (.inl i)] [] M) : lGo L xs 39 [some (.inr 61), some (.inr 0), some (.inr 34), some (.inl i)] [] M := by
  obtain ⟨r, M1, M2, gc, gr, hI⟩ := hob M hM [xs (i + (1 : Int32)).toNatClampNeg, xs (i + (2 : Int32)).toNatClampNeg, xs (i + (3 : Int32)).toNatClampNeg, xs (i + (4 : Int32)).toNatClampNeg] rfl
  refine ll_aload_n rfl rfl ?_
  refine ll_aload_n rfl rfl ?_
  refine ll_iload_n rfl rfl ?_
  refine ll_iconst rfl zk_iconst_1 ?_
  refine ll_iadd rfl ?_
  refine ll_sld rfl h1 ?_
  refine ll_aload_n rfl rfl ?_
  refine ll_iload_n rfl rfl ?_
  refine ll_iconst rfl zk_iconst_2 ?_
  refine ll_iadd rfl ?_
  refine ll_sld rfl h2 ?_
  refine ll_aload_n rfl rfl ?_
  refine ll_iload_n rfl rfl ?_
  refine ll_iconst rfl zk_iconst_3 ?_
  refine ll_iadd rfl ?_
  refine ll_sld rfl h3 ?_
  refine ll_aload_n rfl rfl ?_
  refine ll_iload_n rfl rfl ?_
  refine ll_iconst rfl zk_iconst_4 ?_
  refine ll_iadd rfl ?_
  refine ll_sld rfl h4 ?_
  refine ll_call (Y' := Y_L_four) (av := [.inl (xs (i + (1 : Int32)).toNatClampNeg), .inl (xs (i + (2 : Int32)).toNatClampNeg), .inl (xs (i + (3 : Int32)).toNatClampNeg), .inl (xs (i + (4 : Int32)).toNatClampNeg)]) (rest := []) rfl zll_18 zm_L_four rfl gc (by decide) (Nat.le_of_ble_eq_true rfl) rfl ?_
  refine ll_aload_n rfl rfl ?_
  refine ll_aload_n rfl rfl ?_
  refine ll_iload_n rfl rfl ?_
  refine ll_iconst rfl zk_iconst_1 ?_
  refine ll_iadd rfl ?_
  refine ll_sld rfl h1 ?_
  refine ll_aload_n rfl rfl ?_
  refine ll_iload_n rfl rfl ?_
  refine ll_iconst rfl zk_iconst_2 ?_
  refine ll_iadd rfl ?_
  refine ll_sld rfl h2 ?_
  refine ll_aload_n rfl rfl ?_
  refine ll_iload_n rfl rfl ?_
  refine ll_iconst rfl zk_iconst_3 ?_
  refine ll_iadd rfl ?_
  refine ll_sld rfl h3 ?_
  refine ll_aload_n rfl rfl ?_
  refine ll_iload_n rfl rfl ?_
  refine ll_iconst rfl zk_iconst_4 ?_
  refine ll_iadd rfl ?_
  refine ll_sld rfl h4 ?_
  refine ll_call (Y' := Y_R_four) (av := [.inl (xs (i + (1 : Int32)).toNatClampNeg), .inl (xs (i + (2 : Int32)).toNatClampNeg), .inl (xs (i + (3 : Int32)).toNatClampNeg), .inl (xs (i + (4 : Int32)).toNatClampNeg)]) (rest := [.inl r]) rfl zll_22 zm_R_four rfl gr (by decide) (Nat.le_of_ble_eq_true rfl) rfl ?_
  refine ll_eq rfl ?_
  exact next M2 hI
set_option maxRecDepth 100000 in
theorem lc_2 {Inv : zMem → Prop} {L : Nat} {xs : Nat → Int32} {i : Int32} {M : zMem} (hob : zOb Inv Y_L_untoken 1 Y_R_untoken 0 0) (hM : Inv M) (h1 : vp_in (i + 1) L) (h2 : vp_in (i + 2) L) (h3 : vp_in (i + 3) L) (h4 : vp_in (i + 4) L) (next : ∀ M, Inv M → lGo L xs 303 [some (.inr 61), some (.inr 0), some (.inr 34), some (.inl i)] [] M) : lGo L xs 86 [some (.inr 61), some (.inr 0), some (.inr 34), some (.inl i)] [] M := by
  obtain ⟨r, M1, M2, gc, gr, hI⟩ := hob M hM [] rfl
  refine ll_aload_n rfl rfl ?_
  refine ll_call (Y' := Y_L_untoken) (av := []) (rest := []) rfl zll_23 zm_L_untoken rfl gc (by decide) (Nat.le_of_ble_eq_true rfl) rfl ?_
  refine ll_aload_n rfl rfl ?_
  refine ll_call (Y' := Y_R_untoken) (av := []) (rest := [.inl r]) rfl zll_27 zm_R_untoken rfl gr (by decide) (Nat.le_of_ble_eq_true rfl) rfl ?_
  refine ll_eq rfl ?_
  exact next M2 hI
set_option maxRecDepth 100000 in
theorem lc_3 {Inv : zMem → Prop} {L : Nat} {xs : Nat → Int32} {i : Int32} {M : zMem} (hob : zObV Inv Y_L_clear 1 Y_R_clear 0) (hM : Inv M) (h1 : vp_in (i + 1) L) (h2 : vp_in (i + 2) L) (h3 : vp_in (i + 3) L) (h4 : vp_in (i + 4) L) (next : ∀ M, Inv M → lGo L xs 303 [some (.inr 61), some (.inr 0), some (.inr 34), some (.inl i)] [] M) : lGo L xs 93 [some (.inr 61), some (.inr 0), some (.inr 34), some (.inl i)] [] M := by
  obtain ⟨M1, M2, gc, gr, hI⟩ := hob M hM
  refine ll_aload_n rfl rfl ?_
  refine ll_call (Y' := Y_L_clear) (av := []) (rest := []) rfl zll_28 zm_L_clear rfl gc (by decide) (Nat.le_of_ble_eq_true rfl) rfl ?_
  refine ll_aload_n rfl rfl ?_
  refine ll_call (Y' := Y_R_clear) (av := []) (rest := []) rfl zll_31 zm_R_clear rfl gr (by decide) (Nat.le_of_ble_eq_true rfl) rfl ?_
  refine ll_goto rfl ?_
  exact next M2 hI
set_option maxRecDepth 100000 in
theorem lc_4 {Inv : zMem → Prop} {L : Nat} {xs : Nat → Int32} {i : Int32} {M : zMem} (hob : zOb Inv Y_L_tokens 0 Y_R_tokens 0 0) (hM : Inv M) (h1 : vp_in (i + 1) L) (h2 : vp_in (i + 2) L) (h3 : vp_in (i + 3) L) (h4 : vp_in (i + 4) L) (next : ∀ M, Inv M → lGo L xs 303 [some (.inr 61), some (.inr 0), some (.inr 34), some (.inl i)] [] M) : lGo L xs 98 [some (.inr 61), some (.inr 0), some (.inr 34), some (.inl i)] [] M := by
  obtain ⟨r, M1, M2, gc, gr, hI⟩ := hob M hM [] rfl
  refine ll_aload_n rfl rfl ?_
  refine ll_call (Y' := Y_L_tokens) (av := []) (rest := []) rfl zll_32 zm_L_tokens rfl gc (by decide) (Nat.le_of_ble_eq_true rfl) rfl ?_
  refine ll_aload_n rfl rfl ?_
  refine ll_call (Y' := Y_R_tokens) (av := []) (rest := [.inl r]) rfl zll_35 zm_R_tokens rfl gr (by decide) (Nat.le_of_ble_eq_true rfl) rfl ?_
  refine ll_eq rfl ?_
  exact next M2 hI
set_option maxRecDepth 100000 in
theorem lc_5 {Inv : zMem → Prop} {L : Nat} {xs : Nat → Int32} {i : Int32} {M : zMem} (hob : zOb Inv Y_L_wrongAt 6 Y_R_wrongAt 5 0) (hM : Inv M) (h1 : vp_in (i + 1) L) (h2 : vp_in (i + 2) L) (h3 : vp_in (i + 3) L) (h4 : vp_in (i + 4) L) (next : ∀ M, Inv M → lGo L xs 303 [some (.inr 61), some (.inr 0), some (.inr 34), some (.inl i)] [] M) : lGo L xs 105 [some (.inr 61), some (.inr 0), some (.inr 34), some (.inl i)] [] M := by
  obtain ⟨r, M1, M2, gc, gr, hI⟩ := hob M hM [] rfl
  refine ll_aload_n rfl rfl ?_
  refine ll_call (Y' := Y_L_wrongAt) (av := []) (rest := []) rfl zll_36 zm_L_wrongAt rfl gc (by decide) (Nat.le_of_ble_eq_true rfl) rfl ?_
  refine ll_aload_n rfl rfl ?_
  refine ll_call (Y' := Y_R_wrongAt) (av := []) (rest := [.inl r]) rfl zll_39 zm_R_wrongAt rfl gr (by decide) (Nat.le_of_ble_eq_true rfl) rfl ?_
  refine ll_eq rfl ?_
  exact next M2 hI
set_option maxRecDepth 100000 in
theorem lc_6 {Inv : zMem → Prop} {L : Nat} {xs : Nat → Int32} {i : Int32} {M : zMem} (hob : zOb Inv Y_L_fault 6 Y_R_fault 6 0) (hM : Inv M) (h1 : vp_in (i + 1) L) (h2 : vp_in (i + 2) L) (h3 : vp_in (i + 3) L) (h4 : vp_in (i + 4) L) (next : ∀ M, Inv M → lGo L xs 303 [some (.inr 61), some (.inr 0), some (.inr 34), some (.inl i)] [] M) : lGo L xs 112 [some (.inr 61), some (.inr 0), some (.inr 34), some (.inl i)] [] M := by
  obtain ⟨r, M1, M2, gc, gr, hI⟩ := hob M hM [] rfl
  refine ll_aload_n rfl rfl ?_
  refine ll_call (Y' := Y_L_fault) (av := []) (rest := []) rfl zll_40 zm_L_fault rfl gc (by decide) (Nat.le_of_ble_eq_true rfl) rfl ?_
  refine ll_aload_n rfl rfl ?_
  refine ll_call (Y' := Y_R_fault) (av := []) (rest := [.inl r]) rfl zll_43 zm_R_fault rfl gr (by decide) (Nat.le_of_ble_eq_true rfl) rfl ?_
  refine ll_eq rfl ?_
  exact next M2 hI
set_option maxRecDepth 100000 in
theorem lc_7 {Inv : zMem → Prop} {L : Nat} {xs : Nat → Int32} {i : Int32} {M : zMem} (hob : zOb Inv Y_L_set 0 Y_R_set 0 2) (hM : Inv M) (h1 : vp_in (i + 1) L) (h2 : vp_in (i + 2) L) (h3 : vp_in (i + 3) L) (h4 : vp_in (i + 4) L) (next : ∀ M, Inv M → lGo L xs 303 [some (.inr 61), some (.inr 0), some (.inr 34), some (.inl i)] [] M) : lGo L xs 119 [some (.inr 61), some (.inr 0), some (.inr 34), some (.inl i)] [] M := by
  obtain ⟨r, M1, M2, gc, gr, hI⟩ := hob M hM [xs (i + (1 : Int32)).toNatClampNeg, xs (i + (2 : Int32)).toNatClampNeg] rfl
  refine ll_aload_n rfl rfl ?_
  refine ll_aload_n rfl rfl ?_
  refine ll_iload_n rfl rfl ?_
  refine ll_iconst rfl zk_iconst_1 ?_
  refine ll_iadd rfl ?_
  refine ll_sld rfl h1 ?_
  refine ll_aload_n rfl rfl ?_
  refine ll_iload_n rfl rfl ?_
  refine ll_iconst rfl zk_iconst_2 ?_
  refine ll_iadd rfl ?_
  refine ll_sld rfl h2 ?_
  refine ll_call (Y' := Y_L_set) (av := [.inl (xs (i + (1 : Int32)).toNatClampNeg), .inl (xs (i + (2 : Int32)).toNatClampNeg)]) (rest := []) rfl zll_44 zm_L_set rfl gc (by decide) (Nat.le_of_ble_eq_true rfl) rfl ?_
  refine ll_aload_n rfl rfl ?_
  refine ll_aload_n rfl rfl ?_
  refine ll_iload_n rfl rfl ?_
  refine ll_iconst rfl zk_iconst_1 ?_
  refine ll_iadd rfl ?_
  refine ll_sld rfl h1 ?_
  refine ll_aload_n rfl rfl ?_
  refine ll_iload_n rfl rfl ?_
  refine ll_iconst rfl zk_iconst_2 ?_
  refine ll_iadd rfl ?_
  refine ll_sld rfl h2 ?_
  refine ll_call (Y' := Y_R_set) (av := [.inl (xs (i + (1 : Int32)).toNatClampNeg), .inl (xs (i + (2 : Int32)).toNatClampNeg)]) (rest := [.inl r]) rfl zll_48 zm_R_set rfl gr (by decide) (Nat.le_of_ble_eq_true rfl) rfl ?_
  refine ll_eq rfl ?_
  exact next M2 hI
set_option maxRecDepth 100000 in
theorem lc_8 {Inv : zMem → Prop} {L : Nat} {xs : Nat → Int32} {i : Int32} {M : zMem} (hob : zOb Inv Y_L_cell 0 Y_R_cell 0 2) (hM : Inv M) (h1 : vp_in (i + 1) L) (h2 : vp_in (i + 2) L) (h3 : vp_in (i + 3) L) (h4 : vp_in (i + 4) L) (next : ∀ M, Inv M → lGo L xs 303 [some (.inr 61), some (.inr 0), some (.inr 34), some (.inl i)] [] M) : lGo L xs 146 [some (.inr 61), some (.inr 0), some (.inr 34), some (.inl i)] [] M := by
  obtain ⟨r, M1, M2, gc, gr, hI⟩ := hob M hM [xs (i + (1 : Int32)).toNatClampNeg, xs (i + (2 : Int32)).toNatClampNeg] rfl
  refine ll_aload_n rfl rfl ?_
  refine ll_aload_n rfl rfl ?_
  refine ll_iload_n rfl rfl ?_
  refine ll_iconst rfl zk_iconst_1 ?_
  refine ll_iadd rfl ?_
  refine ll_sld rfl h1 ?_
  refine ll_aload_n rfl rfl ?_
  refine ll_iload_n rfl rfl ?_
  refine ll_iconst rfl zk_iconst_2 ?_
  refine ll_iadd rfl ?_
  refine ll_sld rfl h2 ?_
  refine ll_call (Y' := Y_L_cell) (av := [.inl (xs (i + (1 : Int32)).toNatClampNeg), .inl (xs (i + (2 : Int32)).toNatClampNeg)]) (rest := []) rfl zll_49 zm_L_cell rfl gc (by decide) (Nat.le_of_ble_eq_true rfl) rfl ?_
  refine ll_aload_n rfl rfl ?_
  refine ll_aload_n rfl rfl ?_
  refine ll_iload_n rfl rfl ?_
  refine ll_iconst rfl zk_iconst_1 ?_
  refine ll_iadd rfl ?_
  refine ll_sld rfl h1 ?_
  refine ll_aload_n rfl rfl ?_
  refine ll_iload_n rfl rfl ?_
  refine ll_iconst rfl zk_iconst_2 ?_
  refine ll_iadd rfl ?_
  refine ll_sld rfl h2 ?_
  refine ll_call (Y' := Y_R_cell) (av := [.inl (xs (i + (1 : Int32)).toNatClampNeg), .inl (xs (i + (2 : Int32)).toNatClampNeg)]) (rest := [.inl r]) rfl zll_52 zm_R_cell rfl gr (by decide) (Nat.le_of_ble_eq_true rfl) rfl ?_
  refine ll_eq rfl ?_
  exact next M2 hI
set_option maxRecDepth 100000 in
theorem lc_9 {Inv : zMem → Prop} {L : Nat} {xs : Nat → Int32} {i : Int32} {M : zMem} (hob : zOb Inv Y_L_run 7 Y_R_run 7 0) (hM : Inv M) (h1 : vp_in (i + 1) L) (h2 : vp_in (i + 2) L) (h3 : vp_in (i + 3) L) (h4 : vp_in (i + 4) L) (next : ∀ M, Inv M → lGo L xs 303 [some (.inr 61), some (.inr 0), some (.inr 34), some (.inl i)] [] M) : lGo L xs 173 [some (.inr 61), some (.inr 0), some (.inr 34), some (.inl i)] [] M := by
  obtain ⟨r, M1, M2, gc, gr, hI⟩ := hob M hM [] rfl
  refine ll_aload_n rfl rfl ?_
  refine ll_call (Y' := Y_L_run) (av := []) (rest := []) rfl zll_53 zm_L_run rfl gc (by decide) (Nat.le_of_ble_eq_true rfl) rfl ?_
  refine ll_aload_n rfl rfl ?_
  refine ll_call (Y' := Y_R_run) (av := []) (rest := [.inl r]) rfl zll_56 zm_R_run rfl gr (by decide) (Nat.le_of_ble_eq_true rfl) rfl ?_
  refine ll_eq rfl ?_
  exact next M2 hI
set_option maxRecDepth 100000 in
theorem lc_10 {Inv : zMem → Prop} {L : Nat} {xs : Nat → Int32} {i : Int32} {M : zMem} (hob : zOb Inv Y_L_outs 7 Y_R_outs 7 0) (hM : Inv M) (h1 : vp_in (i + 1) L) (h2 : vp_in (i + 2) L) (h3 : vp_in (i + 3) L) (h4 : vp_in (i + 4) L) (next : ∀ M, Inv M → lGo L xs 303 [some (.inr 61), some (.inr 0), some (.inr 34), some (.inl i)] [] M) : lGo L xs 180 [some (.inr 61), some (.inr 0), some (.inr 34), some (.inl i)] [] M := by
  obtain ⟨r, M1, M2, gc, gr, hI⟩ := hob M hM [] rfl
  refine ll_aload_n rfl rfl ?_
  refine ll_call (Y' := Y_L_outs) (av := []) (rest := []) rfl zll_57 zm_L_outs rfl gc (by decide) (Nat.le_of_ble_eq_true rfl) rfl ?_
  refine ll_aload_n rfl rfl ?_
  refine ll_call (Y' := Y_R_outs) (av := []) (rest := [.inl r]) rfl zll_60 zm_R_outs rfl gr (by decide) (Nat.le_of_ble_eq_true rfl) rfl ?_
  refine ll_eq rfl ?_
  exact next M2 hI
set_option maxRecDepth 100000 in
theorem lc_11 {Inv : zMem → Prop} {L : Nat} {xs : Nat → Int32} {i : Int32} {M : zMem} (hob : zOb Inv Y_L_output 7 Y_R_output 7 1) (hM : Inv M) (h1 : vp_in (i + 1) L) (h2 : vp_in (i + 2) L) (h3 : vp_in (i + 3) L) (h4 : vp_in (i + 4) L) (next : ∀ M, Inv M → lGo L xs 303 [some (.inr 61), some (.inr 0), some (.inr 34), some (.inl i)] [] M) : lGo L xs 187 [some (.inr 61), some (.inr 0), some (.inr 34), some (.inl i)] [] M := by
  obtain ⟨r, M1, M2, gc, gr, hI⟩ := hob M hM [xs (i + (1 : Int32)).toNatClampNeg] rfl
  refine ll_aload_n rfl rfl ?_
  refine ll_aload_n rfl rfl ?_
  refine ll_iload_n rfl rfl ?_
  refine ll_iconst rfl zk_iconst_1 ?_
  refine ll_iadd rfl ?_
  refine ll_sld rfl h1 ?_
  refine ll_call (Y' := Y_L_output) (av := [.inl (xs (i + (1 : Int32)).toNatClampNeg)]) (rest := []) rfl zll_61 zm_L_output rfl gc (by decide) (Nat.le_of_ble_eq_true rfl) rfl ?_
  refine ll_aload_n rfl rfl ?_
  refine ll_aload_n rfl rfl ?_
  refine ll_iload_n rfl rfl ?_
  refine ll_iconst rfl zk_iconst_1 ?_
  refine ll_iadd rfl ?_
  refine ll_sld rfl h1 ?_
  refine ll_call (Y' := Y_R_output) (av := [.inl (xs (i + (1 : Int32)).toNatClampNeg)]) (rest := [.inl r]) rfl zll_64 zm_R_output rfl gr (by decide) (Nat.le_of_ble_eq_true rfl) rfl ?_
  refine ll_eq rfl ?_
  exact next M2 hI
set_option maxRecDepth 100000 in
theorem lc_12 {Inv : zMem → Prop} {L : Nat} {xs : Nat → Int32} {i : Int32} {M : zMem} (hob : zOb Inv Y_L_global 7 Y_R_global 7 1) (hM : Inv M) (h1 : vp_in (i + 1) L) (h2 : vp_in (i + 2) L) (h3 : vp_in (i + 3) L) (h4 : vp_in (i + 4) L) (next : ∀ M, Inv M → lGo L xs 303 [some (.inr 61), some (.inr 0), some (.inr 34), some (.inl i)] [] M) : lGo L xs 204 [some (.inr 61), some (.inr 0), some (.inr 34), some (.inl i)] [] M := by
  obtain ⟨r, M1, M2, gc, gr, hI⟩ := hob M hM [xs (i + (1 : Int32)).toNatClampNeg] rfl
  refine ll_aload_n rfl rfl ?_
  refine ll_aload_n rfl rfl ?_
  refine ll_iload_n rfl rfl ?_
  refine ll_iconst rfl zk_iconst_1 ?_
  refine ll_iadd rfl ?_
  refine ll_sld rfl h1 ?_
  refine ll_call (Y' := Y_L_global) (av := [.inl (xs (i + (1 : Int32)).toNatClampNeg)]) (rest := []) rfl zll_65 zm_L_global rfl gc (by decide) (Nat.le_of_ble_eq_true rfl) rfl ?_
  refine ll_aload_n rfl rfl ?_
  refine ll_aload_n rfl rfl ?_
  refine ll_iload_n rfl rfl ?_
  refine ll_iconst rfl zk_iconst_1 ?_
  refine ll_iadd rfl ?_
  refine ll_sld rfl h1 ?_
  refine ll_call (Y' := Y_R_global) (av := [.inl (xs (i + (1 : Int32)).toNatClampNeg)]) (rest := [.inl r]) rfl zll_68 zm_R_global rfl gr (by decide) (Nat.le_of_ble_eq_true rfl) rfl ?_
  refine ll_eq rfl ?_
  exact next M2 hI
set_option maxRecDepth 100000 in
theorem lc_13 {Inv : zMem → Prop} {L : Nat} {xs : Nat → Int32} {i : Int32} {M : zMem} (hob : zOb Inv Y_L_cellAfter 7 Y_R_cellAfter 7 1) (hM : Inv M) (h1 : vp_in (i + 1) L) (h2 : vp_in (i + 2) L) (h3 : vp_in (i + 3) L) (h4 : vp_in (i + 4) L) (next : ∀ M, Inv M → lGo L xs 303 [some (.inr 61), some (.inr 0), some (.inr 34), some (.inl i)] [] M) : lGo L xs 221 [some (.inr 61), some (.inr 0), some (.inr 34), some (.inl i)] [] M := by
  obtain ⟨r, M1, M2, gc, gr, hI⟩ := hob M hM [xs (i + (1 : Int32)).toNatClampNeg] rfl
  refine ll_aload_n rfl rfl ?_
  refine ll_aload_n rfl rfl ?_
  refine ll_iload_n rfl rfl ?_
  refine ll_iconst rfl zk_iconst_1 ?_
  refine ll_iadd rfl ?_
  refine ll_sld rfl h1 ?_
  refine ll_call (Y' := Y_L_cellAfter) (av := [.inl (xs (i + (1 : Int32)).toNatClampNeg)]) (rest := []) rfl zll_69 zm_L_cellAfter rfl gc (by decide) (Nat.le_of_ble_eq_true rfl) rfl ?_
  refine ll_aload_n rfl rfl ?_
  refine ll_aload_n rfl rfl ?_
  refine ll_iload_n rfl rfl ?_
  refine ll_iconst rfl zk_iconst_1 ?_
  refine ll_iadd rfl ?_
  refine ll_sld rfl h1 ?_
  refine ll_call (Y' := Y_R_cellAfter) (av := [.inl (xs (i + (1 : Int32)).toNatClampNeg)]) (rest := [.inl r]) rfl zll_72 zm_R_cellAfter rfl gr (by decide) (Nat.le_of_ble_eq_true rfl) rfl ?_
  refine ll_eq rfl ?_
  exact next M2 hI
set_option maxRecDepth 100000 in
theorem lc_14 {Inv : zMem → Prop} {L : Nat} {xs : Nat → Int32} {i : Int32} {M : zMem} (hob : zOb Inv Y_L_turns 7 Y_R_turns 7 0) (hM : Inv M) (h1 : vp_in (i + 1) L) (h2 : vp_in (i + 2) L) (h3 : vp_in (i + 3) L) (h4 : vp_in (i + 4) L) (next : ∀ M, Inv M → lGo L xs 303 [some (.inr 61), some (.inr 0), some (.inr 34), some (.inl i)] [] M) : lGo L xs 238 [some (.inr 61), some (.inr 0), some (.inr 34), some (.inl i)] [] M := by
  obtain ⟨r, M1, M2, gc, gr, hI⟩ := hob M hM [] rfl
  refine ll_aload_n rfl rfl ?_
  refine ll_call (Y' := Y_L_turns) (av := []) (rest := []) rfl zll_73 zm_L_turns rfl gc (by decide) (Nat.le_of_ble_eq_true rfl) rfl ?_
  refine ll_aload_n rfl rfl ?_
  refine ll_call (Y' := Y_R_turns) (av := []) (rest := [.inl r]) rfl zll_76 zm_R_turns rfl gr (by decide) (Nat.le_of_ble_eq_true rfl) rfl ?_
  refine ll_eq rfl ?_
  exact next M2 hI
set_option maxRecDepth 100000 in
theorem lc_15 {Inv : zMem → Prop} {L : Nat} {xs : Nat → Int32} {i : Int32} {M : zMem} (hob : zOb Inv Y_L_deepest 7 Y_R_deepest 7 0) (hM : Inv M) (h1 : vp_in (i + 1) L) (h2 : vp_in (i + 2) L) (h3 : vp_in (i + 3) L) (h4 : vp_in (i + 4) L) (next : ∀ M, Inv M → lGo L xs 303 [some (.inr 61), some (.inr 0), some (.inr 34), some (.inl i)] [] M) : lGo L xs 245 [some (.inr 61), some (.inr 0), some (.inr 34), some (.inl i)] [] M := by
  obtain ⟨r, M1, M2, gc, gr, hI⟩ := hob M hM [] rfl
  refine ll_aload_n rfl rfl ?_
  refine ll_call (Y' := Y_L_deepest) (av := []) (rest := []) rfl zll_77 zm_L_deepest rfl gc (by decide) (Nat.le_of_ble_eq_true rfl) rfl ?_
  refine ll_aload_n rfl rfl ?_
  refine ll_call (Y' := Y_R_deepest) (av := []) (rest := [.inl r]) rfl zll_80 zm_R_deepest rfl gr (by decide) (Nat.le_of_ble_eq_true rfl) rfl ?_
  refine ll_eq rfl ?_
  exact next M2 hI
set_option maxRecDepth 100000 in
theorem lc_16 {Inv : zMem → Prop} {L : Nat} {xs : Nat → Int32} {i : Int32} {M : zMem} (hob : zOb Inv Y_L_plainSize 6 Y_R_plainSize 6 0) (hM : Inv M) (h1 : vp_in (i + 1) L) (h2 : vp_in (i + 2) L) (h3 : vp_in (i + 3) L) (h4 : vp_in (i + 4) L) (next : ∀ M, Inv M → lGo L xs 303 [some (.inr 61), some (.inr 0), some (.inr 34), some (.inl i)] [] M) : lGo L xs 252 [some (.inr 61), some (.inr 0), some (.inr 34), some (.inl i)] [] M := by
  obtain ⟨r, M1, M2, gc, gr, hI⟩ := hob M hM [] rfl
  refine ll_aload_n rfl rfl ?_
  refine ll_call (Y' := Y_L_plainSize) (av := []) (rest := []) rfl zll_81 zm_L_plainSize rfl gc (by decide) (Nat.le_of_ble_eq_true rfl) rfl ?_
  refine ll_aload_n rfl rfl ?_
  refine ll_call (Y' := Y_R_plainSize) (av := []) (rest := [.inl r]) rfl zll_84 zm_R_plainSize rfl gr (by decide) (Nat.le_of_ble_eq_true rfl) rfl ?_
  refine ll_eq rfl ?_
  exact next M2 hI
set_option maxRecDepth 100000 in
theorem lc_17 {Inv : zMem → Prop} {L : Nat} {xs : Nat → Int32} {i : Int32} {M : zMem} (hob : zOb Inv Y_L_plain 6 Y_R_plain 6 1) (hM : Inv M) (h1 : vp_in (i + 1) L) (h2 : vp_in (i + 2) L) (h3 : vp_in (i + 3) L) (h4 : vp_in (i + 4) L) (next : ∀ M, Inv M → lGo L xs 303 [some (.inr 61), some (.inr 0), some (.inr 34), some (.inl i)] [] M) : lGo L xs 259 [some (.inr 61), some (.inr 0), some (.inr 34), some (.inl i)] [] M := by
  obtain ⟨r, M1, M2, gc, gr, hI⟩ := hob M hM [xs (i + (1 : Int32)).toNatClampNeg] rfl
  refine ll_aload_n rfl rfl ?_
  refine ll_aload_n rfl rfl ?_
  refine ll_iload_n rfl rfl ?_
  refine ll_iconst rfl zk_iconst_1 ?_
  refine ll_iadd rfl ?_
  refine ll_sld rfl h1 ?_
  refine ll_call (Y' := Y_L_plain) (av := [.inl (xs (i + (1 : Int32)).toNatClampNeg)]) (rest := []) rfl zll_85 zm_L_plain rfl gc (by decide) (Nat.le_of_ble_eq_true rfl) rfl ?_
  refine ll_aload_n rfl rfl ?_
  refine ll_aload_n rfl rfl ?_
  refine ll_iload_n rfl rfl ?_
  refine ll_iconst rfl zk_iconst_1 ?_
  refine ll_iadd rfl ?_
  refine ll_sld rfl h1 ?_
  refine ll_call (Y' := Y_R_plain) (av := [.inl (xs (i + (1 : Int32)).toNatClampNeg)]) (rest := [.inl r]) rfl zll_88 zm_R_plain rfl gr (by decide) (Nat.le_of_ble_eq_true rfl) rfl ?_
  refine ll_eq rfl ?_
  exact next M2 hI
set_option maxRecDepth 100000 in
theorem lc_18 {Inv : zMem → Prop} {L : Nat} {xs : Nat → Int32} {i : Int32} {M : zMem} (hob : zOb Inv Y_L_prepare 0 Y_R_prepare 0 2) (hM : Inv M) (h1 : vp_in (i + 1) L) (h2 : vp_in (i + 2) L) (h3 : vp_in (i + 3) L) (h4 : vp_in (i + 4) L) (next : ∀ M, Inv M → lGo L xs 303 [some (.inr 61), some (.inr 0), some (.inr 34), some (.inl i)] [] M) : lGo L xs 276 [some (.inr 61), some (.inr 0), some (.inr 34), some (.inl i)] [] M := by
  obtain ⟨r, M1, M2, gc, gr, hI⟩ := hob M hM [xs (i + (1 : Int32)).toNatClampNeg, xs (i + (2 : Int32)).toNatClampNeg] rfl
  refine ll_aload_n rfl rfl ?_
  refine ll_aload_n rfl rfl ?_
  refine ll_iload_n rfl rfl ?_
  refine ll_iconst rfl zk_iconst_1 ?_
  refine ll_iadd rfl ?_
  refine ll_sld rfl h1 ?_
  refine ll_aload_n rfl rfl ?_
  refine ll_iload_n rfl rfl ?_
  refine ll_iconst rfl zk_iconst_2 ?_
  refine ll_iadd rfl ?_
  refine ll_sld rfl h2 ?_
  refine ll_call (Y' := Y_L_prepare) (av := [.inl (xs (i + (1 : Int32)).toNatClampNeg), .inl (xs (i + (2 : Int32)).toNatClampNeg)]) (rest := []) rfl zll_89 zm_L_prepare rfl gc (by decide) (Nat.le_of_ble_eq_true rfl) rfl ?_
  refine ll_aload_n rfl rfl ?_
  refine ll_aload_n rfl rfl ?_
  refine ll_iload_n rfl rfl ?_
  refine ll_iconst rfl zk_iconst_1 ?_
  refine ll_iadd rfl ?_
  refine ll_sld rfl h1 ?_
  refine ll_aload_n rfl rfl ?_
  refine ll_iload_n rfl rfl ?_
  refine ll_iconst rfl zk_iconst_2 ?_
  refine ll_iadd rfl ?_
  refine ll_sld rfl h2 ?_
  refine ll_call (Y' := Y_R_prepare) (av := [.inl (xs (i + (1 : Int32)).toNatClampNeg), .inl (xs (i + (2 : Int32)).toNatClampNeg)]) (rest := [.inl r]) rfl zll_92 zm_R_prepare rfl gr (by decide) (Nat.le_of_ble_eq_true rfl) rfl ?_
  refine ll_eq rfl ?_
  exact next M2 hI
theorem zk_bipush_31 : (Int8.ofInt 31).toInt32 = (31 : Int32) := by decide +kernel
theorem lexit {j L : Nat} (hj : j ≤ 330) (hL : L ≤ 320) (h : ¬ (Int32.ofNat L - 5 < nI j)) : j + 5 ≤ L := by
  by_cases q : j + 5 ≤ L
  · exact q
  · refine absurd ?_ h
    rw [Int32.lt_iff_toInt_lt, show Int32.ofNat L - 5 = nI L - nI 5 from rfl, pk_sub_toInt (by omega) (by omega), nI_toInt (by omega)]
    omega
theorem lnI {j c : Nat} {x : Int32} (hx : x = nI c) : nI j + x = nI (j + c) := by rw [hx, nI_add]
set_option maxRecDepth 100000 in
set_option maxHeartbeats 4000000 in
theorem law_loop {Inv : zMem → Prop} {L : Nat} {xs : Nat → Int32} (hL : L ≤ 320) (h100 : zOb Inv Y_L_token 2 Y_R_token 1 1) (h101 : zOb Inv Y_L_four 3 Y_R_four 1 4) (h102 : zOb Inv Y_L_untoken 1 Y_R_untoken 0 0) (h103 : zObV Inv Y_L_clear 1 Y_R_clear 0) (h104 : zOb Inv Y_L_tokens 0 Y_R_tokens 0 0) (h105 : zOb Inv Y_L_wrongAt 6 Y_R_wrongAt 5 0) (h106 : zOb Inv Y_L_fault 6 Y_R_fault 6 0) (h107 : zOb Inv Y_L_set 0 Y_R_set 0 2) (h108 : zOb Inv Y_L_cell 0 Y_R_cell 0 2) (h109 : zOb Inv Y_L_run 7 Y_R_run 7 0) (h110 : zOb Inv Y_L_outs 7 Y_R_outs 7 0) (h111 : zOb Inv Y_L_output 7 Y_R_output 7 1) (h112 : zOb Inv Y_L_global 7 Y_R_global 7 1) (h113 : zOb Inv Y_L_cellAfter 7 Y_R_cellAfter 7 1) (h114 : zOb Inv Y_L_turns 7 Y_R_turns 7 0) (h115 : zOb Inv Y_L_deepest 7 Y_R_deepest 7 0) (h116 : zOb Inv Y_L_plainSize 6 Y_R_plainSize 6 0) (h117 : zOb Inv Y_L_plain 6 Y_R_plain 6 1) (h118 : zOb Inv Y_L_prepare 0 Y_R_prepare 0 2) : ∀ (n j : Nat) (M : zMem), L + 5 ≤ j + n → j ≤ 330 → Inv M → lGo L xs 10 [some (.inr 61), some (.inr 0), some (.inr 34), some (.inl (nI j))] [] M := by
  have body : ∀ (j : Nat) (M : zMem), j ≤ 330 → Inv M → (∀ M, Inv M → j + 5 ≤ L → lGo L xs 10 [some (.inr 61), some (.inr 0), some (.inr 34), some (.inl (nI (j + 5)))] [] M) → lGo L xs 10 [some (.inr 61), some (.inr 0), some (.inr 34), some (.inl (nI j))] [] M := by
    intro j M hj hM nx
    refine ll_iload_n rfl rfl ?_
    refine ll_aload_n rfl rfl ?_
    refine ll_slen rfl ?_
    refine ll_iconst rfl zk_iconst_5 ?_
    refine ll_isub rfl ?_
    refine ll_gt rfl (fun _ => ?_) (fun hc => ?_)
    · refine ll_iconst rfl zk_iconst_1 ?_
      exact ll_end rfl
    · have hj5 := lexit hj hL hc
      have v0 : vp_in (nI j) L := vp_in_nI (by omega) (by omega)
      have v1 : vp_in (nI j + 1) L := by show vp_in (nI j + nI 1) L; rw [nI_add]; exact vp_in_nI (by omega) (by omega)
      have v2 : vp_in (nI j + 2) L := by show vp_in (nI j + nI 2) L; rw [nI_add]; exact vp_in_nI (by omega) (by omega)
      have v3 : vp_in (nI j + 3) L := by show vp_in (nI j + nI 3) L; rw [nI_add]; exact vp_in_nI (by omega) (by omega)
      have v4 : vp_in (nI j + 4) L := by show vp_in (nI j + nI 4) L; rw [nI_add]; exact vp_in_nI (by omega) (by omega)
      have next : ∀ M, Inv M → lGo L xs 303 [some (.inr 61), some (.inr 0), some (.inr 34), some (.inl (nI j))] [] M := by
        intro M hM
        refine ll_iinc (v := nI (j + 5)) rfl rfl (by show nI j + nI 5 = _; rw [nI_add]) ?_
        refine ll_goto rfl ?_
        exact nx M hM hj5
      refine ll_aload_n rfl rfl ?_
      refine ll_iload_n rfl rfl ?_
      refine ll_sld rfl v0 ?_
      refine ll_bipush rfl zk_bipush_31 ?_
      refine ll_iand rfl ?_
      generalize (xs (nI j).toNatClampNeg &&& 31) = x
      by_cases c0 : x = (0 : Int32)
      · exact ll_switch (k' := 22) (off := 92) rfl (by rw [c0]; decide) (by decide) (lc_0 h100 hM v1 v2 v3 v4 next)
      by_cases c1 : x = (1 : Int32)
      · exact ll_switch (k' := 39) (off := 115) rfl (by rw [c1]; decide) (by decide) (lc_1 h101 hM v1 v2 v3 v4 next)
      by_cases c2 : x = (2 : Int32)
      · exact ll_switch (k' := 86) (off := 168) rfl (by rw [c2]; decide) (by decide) (lc_2 h102 hM v1 v2 v3 v4 next)
      by_cases c3 : x = (3 : Int32)
      · exact ll_switch (k' := 93) (off := 181) rfl (by rw [c3]; decide) (by decide) (lc_3 h103 hM v1 v2 v3 v4 next)
      by_cases c4 : x = (4 : Int32)
      · exact ll_switch (k' := 98) (off := 192) rfl (by rw [c4]; decide) (by decide) (lc_4 h104 hM v1 v2 v3 v4 next)
      by_cases c5 : x = (5 : Int32)
      · exact ll_switch (k' := 105) (off := 205) rfl (by rw [c5]; decide) (by decide) (lc_5 h105 hM v1 v2 v3 v4 next)
      by_cases c6 : x = (6 : Int32)
      · exact ll_switch (k' := 112) (off := 218) rfl (by rw [c6]; decide) (by decide) (lc_6 h106 hM v1 v2 v3 v4 next)
      by_cases c7 : x = (7 : Int32)
      · exact ll_switch (k' := 119) (off := 231) rfl (by rw [c7]; decide) (by decide) (lc_7 h107 hM v1 v2 v3 v4 next)
      by_cases c8 : x = (8 : Int32)
      · exact ll_switch (k' := 146) (off := 264) rfl (by rw [c8]; decide) (by decide) (lc_8 h108 hM v1 v2 v3 v4 next)
      by_cases c9 : x = (9 : Int32)
      · exact ll_switch (k' := 173) (off := 297) rfl (by rw [c9]; decide) (by decide) (lc_9 h109 hM v1 v2 v3 v4 next)
      by_cases c10 : x = (10 : Int32)
      · exact ll_switch (k' := 180) (off := 310) rfl (by rw [c10]; decide) (by decide) (lc_10 h110 hM v1 v2 v3 v4 next)
      by_cases c11 : x = (11 : Int32)
      · exact ll_switch (k' := 187) (off := 323) rfl (by rw [c11]; decide) (by decide) (lc_11 h111 hM v1 v2 v3 v4 next)
      by_cases c12 : x = (12 : Int32)
      · exact ll_switch (k' := 204) (off := 346) rfl (by rw [c12]; decide) (by decide) (lc_12 h112 hM v1 v2 v3 v4 next)
      by_cases c13 : x = (13 : Int32)
      · exact ll_switch (k' := 221) (off := 369) rfl (by rw [c13]; decide) (by decide) (lc_13 h113 hM v1 v2 v3 v4 next)
      by_cases c14 : x = (14 : Int32)
      · exact ll_switch (k' := 238) (off := 392) rfl (by rw [c14]; decide) (by decide) (lc_14 h114 hM v1 v2 v3 v4 next)
      by_cases c15 : x = (15 : Int32)
      · exact ll_switch (k' := 245) (off := 405) rfl (by rw [c15]; decide) (by decide) (lc_15 h115 hM v1 v2 v3 v4 next)
      by_cases c16 : x = (16 : Int32)
      · exact ll_switch (k' := 252) (off := 418) rfl (by rw [c16]; decide) (by decide) (lc_16 h116 hM v1 v2 v3 v4 next)
      by_cases c17 : x = (17 : Int32)
      · exact ll_switch (k' := 259) (off := 431) rfl (by rw [c17]; decide) (by decide) (lc_17 h117 hM v1 v2 v3 v4 next)
      by_cases c18 : x = (18 : Int32)
      · exact ll_switch (k' := 276) (off := 454) rfl (by rw [c18]; decide) (by decide) (lc_18 h118 hM v1 v2 v3 v4 next)
      exact ll_switch (k' := 303) (off := 487) rfl (zsw_t (fun i h1 h2 he => by rcases (show i = 0 ∨ i = 1 ∨ i = 2 ∨ i = 3 ∨ i = 4 ∨ i = 5 ∨ i = 6 ∨ i = 7 ∨ i = 8 ∨ i = 9 ∨ i = 10 ∨ i = 11 ∨ i = 12 ∨ i = 13 ∨ i = 14 ∨ i = 15 ∨ i = 16 ∨ i = 17 ∨ i = 18 by omega) with rfl | rfl | rfl | rfl | rfl | rfl | rfl | rfl | rfl | rfl | rfl | rfl | rfl | rfl | rfl | rfl | rfl | rfl | rfl <;> first | exact c0 (Int32.toInt_inj.mp (he.trans (by decide))) | exact c1 (Int32.toInt_inj.mp (he.trans (by decide))) | exact c2 (Int32.toInt_inj.mp (he.trans (by decide))) | exact c3 (Int32.toInt_inj.mp (he.trans (by decide))) | exact c4 (Int32.toInt_inj.mp (he.trans (by decide))) | exact c5 (Int32.toInt_inj.mp (he.trans (by decide))) | exact c6 (Int32.toInt_inj.mp (he.trans (by decide))) | exact c7 (Int32.toInt_inj.mp (he.trans (by decide))) | exact c8 (Int32.toInt_inj.mp (he.trans (by decide))) | exact c9 (Int32.toInt_inj.mp (he.trans (by decide))) | exact c10 (Int32.toInt_inj.mp (he.trans (by decide))) | exact c11 (Int32.toInt_inj.mp (he.trans (by decide))) | exact c12 (Int32.toInt_inj.mp (he.trans (by decide))) | exact c13 (Int32.toInt_inj.mp (he.trans (by decide))) | exact c14 (Int32.toInt_inj.mp (he.trans (by decide))) | exact c15 (Int32.toInt_inj.mp (he.trans (by decide))) | exact c16 (Int32.toInt_inj.mp (he.trans (by decide))) | exact c17 (Int32.toInt_inj.mp (he.trans (by decide))) | exact c18 (Int32.toInt_inj.mp (he.trans (by decide))))) (by decide) (next M hM)
  intro n
  induction n with
  | zero => exact fun j M h1 h2 hM => body j M h2 hM (fun _ _ h => absurd h (by omega))
  | succ n ih => exact fun j M h1 h2 hM => body j M h2 hM (fun M' hM' h => ih (j + 5) M' (by omega) (by omega) hM')
