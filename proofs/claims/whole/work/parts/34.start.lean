/-! THE LAW'S BEGIN: two objects are made; then its loop -/
def gconv : zSh → gSh
  | .inl x => .inl x
  | .inr (c, fs) => .inr (c, fs.map (fun o => o.map (fun i => some (zdn i))))
theorem gL_end : gL_122 = znm.map (fun i => gconv (zsh i)) := by decide +kernel
theorem zcell_g {cI cZ : ClassId} {as : Nat → Nat} {f : Nat → Int32} (sh : zSh) : gcell cI cZ as f (gconv sh) = zcell cI cZ (fun i => as (zdn i)) f sh := by
  cases sh with
  | inl x => rfl
  | inr x =>
    obtain ⟨c, fs⟩ := x
    show Sum.inr _ = Sum.inr _
    congr 2
    apply List.ext_getElem?
    intro j
    simp only [List.getElem?_mapIdx, List.getElem?_map]
    cases fs[j]? with
    | none => rfl
    | some o => cases o <;> rfl
theorem gW_end {cI cZ : ClassId} {as : Nat → Nat} {M : zMem} : gW cI cZ as gL_122 M = zW cI cZ (fun i => as (zdn i)) (fun i => M (zdn i)) := by
  rw [gL_end]
  apply List.ext_getElem?
  intro k
  simp only [gW, zW, List.getElem?_mapIdx, List.getElem?_map]
  cases hn : znm[k]? with
  | none => rfl
  | some i =>
    simp only [Option.map_some]
    rw [znm_at hn, zcell_g]
/-- the memory at the start, by names -/
def zM0 : zMem := fun i => gM_5 (zdn i)
theorem gnew_cell {cI cZ : ClassId} {as : Nat → Nat} {ci : Nat} {fs : List (Option (Option Nat))} (hnr : fs.all (fun o => match o with | some (some _) => false | _ => true) = true) : (.inr (ci, fs.map gdv) : va_E) = gcell cI cZ as (fun _ => 0) (.inr (ci, fs)) := by
  show Sum.inr _ = Sum.inr _
  congr 2
  apply List.ext_getElem?
  intro j
  rw [List.getElem?_map, List.getElem?_mapIdx]
  cases hj : fs[j]? with
  | none => rfl
  | some o =>
    have h1 := List.all_eq_true.mp hnr o (List.mem_of_getElem? hj)
    match o, h1 with
    | none, _ => rfl
    | some none, _ => rfl
    | some (some i), h1 => cases h1
theorem gW_as {cI cZ : ClassId} {as as' : Nat → Nat} {L : List gSh} {M : zMem} (hok : L.all (gok L.length) = true) (he : ∀ i, i < L.length → as' i = as i) : gW cI cZ as' L M = gW cI cZ as L M := by
  apply List.ext_getElem?
  intro j
  by_cases hj : j < L.length
  · obtain ⟨s0, hs⟩ : ∃ s0, L[j]? = some s0 := ⟨L[j], by simp [hj]⟩
    rw [gW_get hs, gW_get hs, he j hj, gcell_as (List.all_eq_true.mp hok s0 (List.mem_of_getElem? hs)) he]
  · rw [List.getElem?_eq_none (by simp [gW]; omega), List.getElem?_eq_none (by simp [gW]; omega)]

theorem zinst : ∀ (c : Nat) (C : String) (T : u_T) (N : Nat), zcl[c]? = some (C, T, N) → Cond.instantiable C N ∈ ztbl := by
  intro c C T N h
  match c, h with
  | 0, h => cases h; exact zmem 102 (by decide +kernel)
  | 1, h => cases h; exact zmem 110 (by decide +kernel)
  | 2, h => cases h; exact zmem 127 (by decide +kernel)
  | 3, h => cases h; exact zmem 165 (by decide +kernel)
  | 4, h => cases h; exact zmem 171 (by decide +kernel)
  | 5, h => cases h; exact zmem 190 (by decide +kernel)
  | 6, h => cases h; exact zmem 217 (by decide +kernel)
  | 7, h => cases h; exact zmem 236 (by decide +kernel)
  | 8, h => cases h; exact zmem 284 (by decide +kernel)
  | 9, h => cases h; exact zmem 882 (by decide +kernel)
  | c + 10, h => simp [zcl] at h
theorem zlc_7 : Cond.classLink R_law 7 "LittleCompiler" ∈ ztbl ∧ Cond.initialized "LittleCompiler" ∈ ztbl := ⟨zmem 101 (by decide +kernel), zmem 88 (by decide +kernel)⟩
theorem zlc_10 : Cond.classLink R_law 10 "LittleCompilerModel" ∈ ztbl ∧ Cond.initialized "LittleCompilerModel" ∈ ztbl := ⟨zmem 881 (by decide +kernel), zmem 97 (by decide +kernel)⟩
theorem zll_9 : Cond.methodLink R_law 9 ⟨"LittleCompiler", "<init>", "()V"⟩ ∈ ztbl := zmem 103 (by decide +kernel)
theorem zll_12 : Cond.methodLink R_law 12 ⟨"LittleCompilerModel", "<init>", "()V"⟩ ∈ ztbl := zmem 883 (by decide +kernel)
theorem zworld {s : State} {args : Array Value} (hts : ∀ w ∈ ztbl, w.before args s = true) : ∃ (dC : Nat → ClassId) (dI : Nat → Nat → Nat) (cI cZ : ClassId), va_K (dC, dI) zcl [(cI, .int), (cZ, .boolean)] s := by
  have hex : ∀ c : Nat, ∃ (cC : ClassId) (iS : Nat → Nat), ∀ (C : String) (T : u_T) (N : Nat), zcl[c]? = some (C, T, N) → u_Kn s C T N cC iS := by
    intro c
    cases hc : zcl[c]? with
    | none => exact ⟨0, fun _ => 0, fun C T N h => by cases h⟩
    | some q =>
      obtain ⟨C, T, N⟩ := q
      obtain ⟨cC, iS, h⟩ := u_known hts (zcl_ok c C T N hc).1 (hts _ (zinst c C T N hc))
      exact ⟨cC, iS, fun C' T' N' h' => by cases h'; exact h⟩
  have arr : ∀ ty : FieldType, (ty = .int ∨ ty = .boolean) → Cond.arrayClass ty ∈ ztbl → ∃ cA, ArrOfT s cA ty ∧ va_RA s cA ty := by
    intro ty hty hw
    obtain ⟨cA, kA, comp, h1, h2, h3⟩ := Cond.arrayClass_spec (hts _ hw)
    refine ⟨cA, fun n z => ⟨fun k h => (by cases h), kA, h2, comp, h3⟩, ?_⟩
    rcases hty with rfl | rfl <;> exact h1
  obtain ⟨cI, hI⟩ := arr .int (Or.inl rfl) zarrI
  obtain ⟨cZ, hZ⟩ := arr .boolean (Or.inr rfl) zarrZ
  refine ⟨fun c => (hex c).choose, fun c => (hex c).choose_spec.choose, cI, cZ, fun c q hq => ?_, fun k q hk => ?_⟩
  · obtain ⟨C, T, N⟩ := q
    exact (hex c).choose_spec.choose_spec C T N hq
  · match k, hk with
    | 0, hk => cases hk; exact hI
    | 1, hk => cases hk; exact hZ
    | k + 2, hk => simp at hk
set_option maxRecDepth 100000 in
set_option maxHeartbeats 4000000 in
theorem law_start {Inv : zMem → Prop} (hinit : Inv zM0) (hloop : ∀ {L : Nat} {xs : Nat → Int32}, L ≤ 320 → ∀ M, Inv M → lGo L xs 10 [some (.inr 61), some (.inr 0), some (.inr 34), some (.inl 0)] [] M) {p : Program} {e : Env} {s : State} {m : MethodId} {below : List Frame} {meth : Method} {c : Code} (l : Launch) {b L : Nat} {xs : Nat → Int32} (hL : L ≤ 320) (C0 : lw_At p s m meth c b L xs) : W p l e room_1 s m #[Value.ref b] below meth c s.heap [] 0 0 (lw_Z below #[Value.ref b] s) (entryFrame m ([Value.ref b] : List Value).toArray 4) := by
  obtain ⟨hx, hb, hr, hml, hown, hts0, hX, hbl, hlocks, hgv⟩ := id C0
  have hT : ∀ w ∈ ztbl, w.before #[Value.ref b] s = true := fun w hw => hts0 w (zin w hw)
  obtain ⟨dC, dI, cI, cZ, hK⟩ := zworld hT
  have hA : ∀ q : Nat, s.heap.size ≤ q → (fun q : Nat => s.heap.size ≤ q) q := fun _ h => h
  have hS : va_S (fun q : Nat => s.heap.size ≤ q) s.heap s.heap [] := va_S.rf
  have hP : va_P (dC, dI) zcl [] s.heap := fun k q h => by simp at h
  have hD : va_D (fun q : Nat => s.heap.size ≤ q) [] := ⟨fun i j p q h => by simp at h, fun k q h => by simp at h⟩
  have hl := lv_entry ([.ref b]) (n := 4) (Nat.le_of_ble_eq_true rfl)
  rw [lg_entry_eq]
  generalize (lg_sl ([.ref b]) ++ List.replicate (4 - (lg_sl ([.ref b])).length) Slot.unset).toArray = ls at hl ⊢
  have hl : lv_has ls 4 [(0, .ref b)] := hl
  have d : ∀ (k : Nat) (i : Instr) (n t : Nat), YL.2.2.2.2[k]? = some (i, n, t) → decode code (zpc YL.2.2.2.2 k) = .ok (i, n) := fun k i n t h => (KL k i n t h).1
  refine va_new (D := (dC, dI)) (ci := 0) (fs := ([some none, some none, some none, some none, some none, none] : List (Option (Option Nat))).map gdv) (C := "LittleCompiler") (T := zT0) (N := 6) hx hb hT zi0 zy0 zyok0 hown (hT _ zlc_7.1) (hT _ (zinst 0 _ _ _ rfl)) (hT _ zlc_7.2) hK hP hD hS hA rfl (by decide +kernel) (by decide) (by decide) (d 0 _ _ _ rfl) (fun q0 H hP hD hS => ?_)
  have e1 : ([] : va_W) ++ [(q0, .inr (0, ([some none, some none, some none, some none, some none, none] : List (Option (Option Nat))).map gdv))] = gW cI cZ (fun _ => q0) gL_0 gM_0 := rfl
  rw [e1] at hP hD
  refine lv_dup hx hb (d 1 _ _ _ rfl) rfl ?_
  have hO : gOK (fun q : Nat => s.heap.size ≤ q) (fun _ => q0) gL_0.length := by
    refine ⟨fun i j hi hj _ => ?_, fun i hi => hD.2 0 _ (gW_get (sh := .inr (0, [some none, some none, some none, some none, some none, none])) rfl)⟩
    have h1 : gL_0.length = 1 := rfl
    omega
  have hMet := nMet_of (av := [.inr 0]) (by decide +kernel) (by decide) G_L_init l dC dI cI cZ (fun _ => q0) H.size hO.1
  refine nafter (L := gL_0) (L1 := gL_69) (M1 := gM_5) (cs := 0 + 1) (sl := 0 + 6) (mc' := 30) (ms' := 4205) (dC := dC) (dI := dI) (cI := cI) (cZ := cZ) hS hO hA
    (va_runI (As := []) (rest := [.ref q0]) (b := q0) (n := 0) (index := 9) (own := R_law) (Ts := ztbl) (nL := 4) ⟨hx, hb, hml, hown, hT⟩ hMet
      ⟨callB_of 0 hT (zgoodIn.mpr zm_L_init.1.2.1) rfl rfl rfl (hT _ zm_L_init.1.1) (hT _ zll_9) zm_L_init.1.2.2.1 ⟨by decide, by decide⟩, rfl, hT _ zm_L_init.2.1⟩
      ⟨nblind, fun U hU hW => ⟨rfl, by rw [hU], by rw [hU]; exact hP, va_K.moved hW.alike hK⟩⟩
      rfl rfl hl.1 rfl (lv_room (Nat.le_of_ble_eq_true rfl)) (d 2 _ _ _ rfl) ⟨by decide, by decide⟩) (fun as1 H locs q1 hO1 hP hS => ?_)
  have a0 : as1 0 = q0 := q1 0 (by decide)
  refine lv_astore_n (lv' := [(1, .ref q0), (0, .ref b)]) hx hb (d 3 _ _ _ rfl) rfl hl (by decide) rfl (fun ls hl => ?_)
  have hok : gL_69.all (gok gL_69.length) = true := by decide +kernel
  have hlen : gL_69.length = 31 := by decide +kernel
  refine va_new (D := (dC, dI)) (ci := 9) (fs := ([some none, none, some none, some none, some none, none, none, none, some none, some none, some none, some none, some none, some none, none, some none, none, some none, some none, some none, some none, none, none, none, none, some none, some none, none, none, some none, none, some none, some none, none, some none, none, some none, some none, none, none, none, some none, none, some none, some none, none] : List (Option (Option Nat))).map gdv) (C := "LittleCompilerModel") (T := zT9) (N := 46) hx hb hT zi9 zy9 zyok9 hown (hT _ zlc_10.1) (hT _ (zinst 9 _ _ _ rfl)) (hT _ zlc_10.2) hK hP (gW_D hO1) hS hA rfl (by decide +kernel) (by decide) (by decide) (d 4 _ _ _ rfl) (fun qm H hP hD hS => ?_)
  have e2 := gW_push (cI := cI) (cZ := cZ) (as := as1) (as' := fun i => if i = 31 then qm else as1 i) (L := gL_69) (M := gM_5) (q := qm) (sh := .inr (9, [some none, none, some none, some none, some none, none, none, none, some none, some none, some none, some none, some none, some none, none, some none, none, some none, some none, some none, some none, none, none, none, none, some none, some none, none, none, some none, none, some none, some none, none, some none, none, some none, some none, none, none, none, some none, none, some none, some none, none])) (e := .inr (9, ([some none, none, some none, some none, some none, none, none, none, some none, some none, some none, some none, some none, some none, none, some none, none, some none, some none, some none, some none, none, none, none, none, some none, some none, none, none, some none, none, some none, some none, none, some none, none, some none, some none, none, none, none, some none, none, some none, some none, none] : List (Option (Option Nat))).map gdv)) hok (fun i hi => if_neg (by omega)) (by rw [hlen]; exact if_pos rfl) (by rw [hlen, gMz_gM_5 31 (by decide)]; exact gnew_cell (by decide))
  have e3 : gL_69 ++ [.inr (9, [some none, none, some none, some none, some none, none, none, none, some none, some none, some none, some none, some none, some none, none, some none, none, some none, some none, some none, some none, none, none, none, none, some none, some none, none, none, some none, none, some none, some none, none, some none, none, some none, some none, none, none, none, some none, none, some none, some none, none])] = gL_70 := by decide +kernel
  rw [e3] at e2
  rw [e2] at hP hD
  have hlen2 : gL_70.length = 32 := by decide +kernel
  have hO2 : gOK (fun q : Nat => s.heap.size ≤ q) (fun i => if i = 31 then qm else as1 i) gL_70.length := by
    refine ⟨fun i j hi hj hij => ?_, fun i hi => ?_⟩
    · obtain ⟨s1, h1⟩ : ∃ s1, gL_70[i]? = some s1 := ⟨_, List.getElem?_eq_getElem hi⟩
      obtain ⟨s2, h2⟩ : ∃ s2, gL_70[j]? = some s2 := ⟨_, List.getElem?_eq_getElem hj⟩
      exact hD.1 i j _ _ (gW_get h1) (gW_get h2) hij
    · obtain ⟨s1, h1⟩ : ∃ s1, gL_70[i]? = some s1 := ⟨_, List.getElem?_eq_getElem hi⟩
      exact hD.2 i _ (gW_get h1)
  refine lv_dup hx hb (d 5 _ _ _ rfl) rfl ?_
  have hMet2 := nMet_of (av := [.inr 31]) (by decide +kernel) (by decide) G_R_init l dC dI cI cZ (fun i => if i = 31 then qm else as1 i) H.size hO2.1
  refine nafter (L := gL_70) (L1 := gL_122) (M1 := gM_5) (cs := 0 + 1 + 30 + 1) (sl := 0 + 6 + 4205 + 46) (mc' := 26) (ms' := 15771) (dC := dC) (dI := dI) (cI := cI) (cZ := cZ) hS hO2 hA
    (va_runI (As := []) (rest := [.ref qm]) (b := qm) (n := 0) (index := 12) (own := R_law) (Ts := ztbl) (nL := 4) ⟨hx, hb, hml, hown, hT⟩ hMet2
      ⟨callB_of 0 hT (zgoodIn.mpr zm_R_init.1.2.1) rfl rfl rfl (hT _ zm_R_init.1.1) (hT _ zll_12) zm_R_init.1.2.2.1 ⟨by decide, by decide⟩, rfl, hT _ zm_R_init.2.1⟩
      ⟨nblind, fun U hU hW => ⟨rfl, by rw [hU], by rw [hU]; exact hP, va_K.moved hW.alike hK⟩⟩
      rfl rfl hl.1 rfl (lv_room (Nat.le_of_ble_eq_true rfl)) (d 6 _ _ _ rfl) ⟨by decide, by decide⟩) (fun as3 H locs q3 hO3 hP hS => ?_)
  have b0 : as3 0 = q0 := by rw [q3 0 (by omega)]; exact a0
  have b34 : as3 31 = qm := by rw [q3 31 (by omega)]; exact if_pos rfl
  have hlen3 : gL_122.length = 58 := by decide +kernel
  refine lv_astore_n (lv' := [(2, .ref qm), (1, .ref q0), (0, .ref b)]) hx hb (d 7 _ _ _ rfl) rfl hl (by decide) rfl (fun ls hl => ?_)
  refine lv_iconst (v := 0) hx hb (d 8 _ _ _ rfl) (by decide) ?_
  refine lv_istore_n (lv' := [(3, .int 0), (2, .ref qm), (1, .ref q0), (0, .ref b)]) hx hb (d 9 _ _ _ rfl) rfl hl (by decide) rfl (fun ls hl => ?_)
  have ha4 : ∀ i, i < gL_122.length → (fun i => if i = 58 then b else as3 i) i = as3 i := fun i hi => if_neg (by omega)
  have hP4 : va_P (dC, dI) zcl (zW cI cZ (fun i => (fun i => if i = 58 then b else as3 i) (zdn i)) zM0) H := by
    show va_P (dC, dI) zcl (zW cI cZ (fun i => (fun i => if i = 58 then b else as3 i) (zdn i)) (fun i => gM_5 (zdn i))) H
    rw [← gW_end (as := fun i => if i = 58 then b else as3 i), gW_as (by decide +kernel) ha4]
    exact hP
  refine hloop hL zM0 hinit p l e s m below meth c b dC dI cI cZ (fun i => (fun i => if i = 58 then b else as3 i) (zdn i)) H locs ls ⟨C0, hK, fun i j hi hj hij => ?_, if_pos rfl, fun i hi => ?_⟩ hP4 hS ⟨rfl, hl.1, hl.2.1, fun i v hv => ?_⟩
  · have g1 := znm_lt i hi
    have g2 := znm_lt j hj
    have h1 := ha4 (zdn i) (by omega)
    have h2 := ha4 (zdn j) (by omega)
    have h3 := hO3.1 (zdn i) (zdn j) (by omega) (by omega) (h1.symm.trans (hij.trans h2))
    have h4 := znm_dn i hi
    rw [h3, znm_dn j hj] at h4
    exact (Option.some.inj h4).symm
  · have g1 := znm_lt i hi
    show s.heap.size ≤ (fun i => if i = 58 then b else as3 i) (zdn i)
    rw [ha4 (zdn i) (by omega)]
    exact hO3.2 (zdn i) (by omega)
  · match i, hv with
    | 0, hv => cases hv; exact lv_at hl 3 rfl
    | 1, hv => cases hv; show ls[1]? = some (.val (.ref (as3 0))); rw [b0]; exact lv_at hl 2 rfl
    | 2, hv => cases hv; show ls[2]? = some (.val (.ref (as3 31))); rw [b34]; exact lv_at hl 1 rfl
    | 3, hv => cases hv; exact lv_at hl 0 rfl
    | i + 4, hv => simp at hv

