-- ===== end of PART A; then your names; then what follows =====
/-! THE CLAIM OUT OF ONE WALK OF THE LAW'S BODY. Your part is whole_start (and what it stands on); all else here is the same for every law, but numbers. -/
def R_law : String := "LittleCompilerLaw"
def lw_P (b : Addr) (xs : List Int32) (args : Array Value) (s : State) : Prop := args = #[.ref b] ∧ s.IntsAt b xs ∧ xs.length ≤ 320 ∧ (Jvm.Cond.and given_1 narrow_1).before args s = true
def lw_Q (_ : Array Value) (s : State) (o : Outcome) (t : State) : Prop := o = .returned (some (.int 1)) ∧ Framed s o t [] 58 20028
def lw_Z (below : List Frame) (a : Array Value) (s : State) : State → Prop := fun t => ∃ o, t.status = .running ∧ Ended t below o ∧ lw_Q a s o t
/-- the law's own end, with 1 on the stack, nothing written that was there before, its room as the claim has it -/
theorem lw_ret {p : Program} {l : Launch} {e : Env} {s : State} {m : MethodId} {below : List Frame} {meth : Method} {c : Code} {b : Nat} (hx : p.tables.exec = Jvm.exec) (hb : c.code = code) (hr : meth.sig.returnType = ret) (hlocks : meth.locks = false) {pc : Nat} {H : Heap} {ls : Array Slot} (hdg : decode code pc = .ok (.ireturn, 1)) : W p l e room_1 s m #[Value.ref b] below meth c H [] 58 20028 (lw_Z below #[Value.ref b] s) (F0 m pc ls [.int 1]) := by
  intro T hT X
  obtain ⟨fs, hret, hrun, hended, hW, hframe⟩ := X.leave (v := some (.int 1)) (hlocks := hlocks) (fun h => by rw [hr] at h; cases h)
  have hmeth' : T.vm.method? m = some meth := X.method'
  refine ⟨T.setFrames fs, ?_, .returned (some (.int 1)), hrun, hended, rfl, ⟨_, rfl⟩, hW, hframe⟩
  jvm_step X.here [X.here.top, hx, hb, hdg, hmeth', hr, ret, narrow_b1]
  (try refine ⟨rfl, ?_⟩); (try refine ⟨rfl, ?_⟩)
  first | (intro acts; rw [hret _ acts rfl rfl rfl]) | rw [hret _ _ rfl rfl rfl]
  exact Steps.refl _
/-- what holds at the law's entry: the machine, the code, the tables' words (any of lw_tbl by 'hts w (by decide +kernel)'), the script of L ints xs at the cell b, what the Statement gives of the start (any of its parts by flat_of_before) -/
def lw_At (p : Program) (s : State) (m : MethodId) (meth : Method) (c : Code) (b L : Nat) (xs : Nat → Int32) : Prop :=
  p.tables.exec = Jvm.exec ∧ c.code = code ∧ meth.sig.returnType = ret ∧ c.maxLocals = 4 ∧ s.vm.findClass R_law = some m.cls ∧ (∀ w ∈ lw_tbl, w.before #[Value.ref b] s = true) ∧ va_X b L xs s s.heap ∧ b < s.heap.size ∧ meth.locks = false ∧ (Jvm.Cond.and given_1 narrow_1).before #[Value.ref b] s = true

def YL : zY := (⟨"LittleCompilerLaw", "law", "([I)Z"⟩, code, 4, some .boolean, [(.new 7, 3, 0), (.dup, 1, 0), (.invokespecial 9, 3, 0), (.astore_n 1, 1, 0), (.new 10, 3, 0), (.dup, 1, 0), (.invokespecial 12, 3, 0), (.astore_n 2, 1, 0), (.iconst 0, 1, 0), (.istore_n 3, 1, 0), (.iload_n 3, 1, 0), (.aload_n 0, 1, 0), (.arraylength, 1, 0), (.iconst 5, 1, 0), (.isub, 1, 0), (.if_icmp .gt 502, 3, 305), (.aload_n 0, 1, 0), (.iload_n 3, 1, 0), (.iaload, 1, 0), (.bipush 31, 2, 0), (.iand, 1, 0), (.tableswitch 487 0 18 #[92, 115, 168, 181, 192, 205, 218, 231, 264, 297, 310, 323, 346, 369, 392, 405, 418, 431, 454], 92, 0), (.aload_n 1, 1, 0), (.aload_n 0, 1, 0), (.iload_n 3, 1, 0), (.iconst 1, 1, 0), (.iadd, 1, 0), (.iaload, 1, 0), (.invokevirtual 13, 3, 0), (.aload_n 2, 1, 0), (.aload_n 0, 1, 0), (.iload_n 3, 1, 0), (.iconst 1, 1, 0), (.iadd, 1, 0), (.iaload, 1, 0), (.invokevirtual 17, 3, 0), (.if_icmp .eq 377, 3, 303), (.iconst 0, 1, 0), (.ireturn, 1, 0), (.aload_n 1, 1, 0), (.aload_n 0, 1, 0), (.iload_n 3, 1, 0), (.iconst 1, 1, 0), (.iadd, 1, 0), (.iaload, 1, 0), (.aload_n 0, 1, 0), (.iload_n 3, 1, 0), (.iconst 2, 1, 0), (.iadd, 1, 0), (.iaload, 1, 0), (.aload_n 0, 1, 0), (.iload_n 3, 1, 0), (.iconst 3, 1, 0), (.iadd, 1, 0), (.iaload, 1, 0), (.aload_n 0, 1, 0), (.iload_n 3, 1, 0), (.iconst 4, 1, 0), (.iadd, 1, 0), (.iaload, 1, 0), (.invokevirtual 18, 3, 0), (.aload_n 2, 1, 0), (.aload_n 0, 1, 0), (.iload_n 3, 1, 0), (.iconst 1, 1, 0), (.iadd, 1, 0), (.iaload, 1, 0), (.aload_n 0, 1, 0), (.iload_n 3, 1, 0), (.iconst 2, 1, 0), (.iadd, 1, 0), (.iaload, 1, 0), (.aload_n 0, 1, 0), (.iload_n 3, 1, 0), (.iconst 3, 1, 0), (.iadd, 1, 0), (.iaload, 1, 0), (.aload_n 0, 1, 0), (.iload_n 3, 1, 0), (.iconst 4, 1, 0), (.iadd, 1, 0), (.iaload, 1, 0), (.invokevirtual 22, 3, 0), (.if_icmp .eq 324, 3, 303), (.iconst 0, 1, 0), (.ireturn, 1, 0), (.aload_n 1, 1, 0), (.invokevirtual 23, 3, 0), (.aload_n 2, 1, 0), (.invokevirtual 27, 3, 0), (.if_icmp .eq 311, 3, 303), (.iconst 0, 1, 0), (.ireturn, 1, 0), (.aload_n 1, 1, 0), (.invokevirtual 28, 3, 0), (.aload_n 2, 1, 0), (.invokevirtual 31, 3, 0), (.goto 298, 3, 303), (.aload_n 1, 1, 0), (.invokevirtual 32, 3, 0), (.aload_n 2, 1, 0), (.invokevirtual 35, 3, 0), (.if_icmp .eq 287, 3, 303), (.iconst 0, 1, 0), (.ireturn, 1, 0), (.aload_n 1, 1, 0), (.invokevirtual 36, 3, 0), (.aload_n 2, 1, 0), (.invokevirtual 39, 3, 0), (.if_icmp .eq 274, 3, 303), (.iconst 0, 1, 0), (.ireturn, 1, 0), (.aload_n 1, 1, 0), (.invokevirtual 40, 3, 0), (.aload_n 2, 1, 0), (.invokevirtual 43, 3, 0), (.if_icmp .eq 261, 3, 303), (.iconst 0, 1, 0), (.ireturn, 1, 0), (.aload_n 1, 1, 0), (.aload_n 0, 1, 0), (.iload_n 3, 1, 0), (.iconst 1, 1, 0), (.iadd, 1, 0), (.iaload, 1, 0), (.aload_n 0, 1, 0), (.iload_n 3, 1, 0), (.iconst 2, 1, 0), (.iadd, 1, 0), (.iaload, 1, 0), (.invokevirtual 44, 3, 0), (.aload_n 2, 1, 0), (.aload_n 0, 1, 0), (.iload_n 3, 1, 0), (.iconst 1, 1, 0), (.iadd, 1, 0), (.iaload, 1, 0), (.aload_n 0, 1, 0), (.iload_n 3, 1, 0), (.iconst 2, 1, 0), (.iadd, 1, 0), (.iaload, 1, 0), (.invokevirtual 48, 3, 0), (.if_icmp .eq 228, 3, 303), (.iconst 0, 1, 0), (.ireturn, 1, 0), (.aload_n 1, 1, 0), (.aload_n 0, 1, 0), (.iload_n 3, 1, 0), (.iconst 1, 1, 0), (.iadd, 1, 0), (.iaload, 1, 0), (.aload_n 0, 1, 0), (.iload_n 3, 1, 0), (.iconst 2, 1, 0), (.iadd, 1, 0), (.iaload, 1, 0), (.invokevirtual 49, 3, 0), (.aload_n 2, 1, 0), (.aload_n 0, 1, 0), (.iload_n 3, 1, 0), (.iconst 1, 1, 0), (.iadd, 1, 0), (.iaload, 1, 0), (.aload_n 0, 1, 0), (.iload_n 3, 1, 0), (.iconst 2, 1, 0), (.iadd, 1, 0), (.iaload, 1, 0), (.invokevirtual 52, 3, 0), (.if_icmp .eq 195, 3, 303), (.iconst 0, 1, 0), (.ireturn, 1, 0), (.aload_n 1, 1, 0), (.invokevirtual 53, 3, 0), (.aload_n 2, 1, 0), (.invokevirtual 56, 3, 0), (.if_icmp .eq 182, 3, 303), (.iconst 0, 1, 0), (.ireturn, 1, 0), (.aload_n 1, 1, 0), (.invokevirtual 57, 3, 0), (.aload_n 2, 1, 0), (.invokevirtual 60, 3, 0), (.if_icmp .eq 169, 3, 303), (.iconst 0, 1, 0), (.ireturn, 1, 0), (.aload_n 1, 1, 0), (.aload_n 0, 1, 0), (.iload_n 3, 1, 0), (.iconst 1, 1, 0), (.iadd, 1, 0), (.iaload, 1, 0), (.invokevirtual 61, 3, 0), (.aload_n 2, 1, 0), (.aload_n 0, 1, 0), (.iload_n 3, 1, 0), (.iconst 1, 1, 0), (.iadd, 1, 0), (.iaload, 1, 0), (.invokevirtual 64, 3, 0), (.if_icmp .eq 146, 3, 303), (.iconst 0, 1, 0), (.ireturn, 1, 0), (.aload_n 1, 1, 0), (.aload_n 0, 1, 0), (.iload_n 3, 1, 0), (.iconst 1, 1, 0), (.iadd, 1, 0), (.iaload, 1, 0), (.invokevirtual 65, 3, 0), (.aload_n 2, 1, 0), (.aload_n 0, 1, 0), (.iload_n 3, 1, 0), (.iconst 1, 1, 0), (.iadd, 1, 0), (.iaload, 1, 0), (.invokevirtual 68, 3, 0), (.if_icmp .eq 123, 3, 303), (.iconst 0, 1, 0), (.ireturn, 1, 0), (.aload_n 1, 1, 0), (.aload_n 0, 1, 0), (.iload_n 3, 1, 0), (.iconst 1, 1, 0), (.iadd, 1, 0), (.iaload, 1, 0), (.invokevirtual 69, 3, 0), (.aload_n 2, 1, 0), (.aload_n 0, 1, 0), (.iload_n 3, 1, 0), (.iconst 1, 1, 0), (.iadd, 1, 0), (.iaload, 1, 0), (.invokevirtual 72, 3, 0), (.if_icmp .eq 100, 3, 303), (.iconst 0, 1, 0), (.ireturn, 1, 0), (.aload_n 1, 1, 0), (.invokevirtual 73, 3, 0), (.aload_n 2, 1, 0), (.invokevirtual 76, 3, 0), (.if_icmp .eq 87, 3, 303), (.iconst 0, 1, 0), (.ireturn, 1, 0), (.aload_n 1, 1, 0), (.invokevirtual 77, 3, 0), (.aload_n 2, 1, 0), (.invokevirtual 80, 3, 0), (.if_icmp .eq 74, 3, 303), (.iconst 0, 1, 0), (.ireturn, 1, 0), (.aload_n 1, 1, 0), (.invokevirtual 81, 3, 0), (.aload_n 2, 1, 0), (.invokevirtual 84, 3, 0), (.if_icmp .eq 61, 3, 303), (.iconst 0, 1, 0), (.ireturn, 1, 0), (.aload_n 1, 1, 0), (.aload_n 0, 1, 0), (.iload_n 3, 1, 0), (.iconst 1, 1, 0), (.iadd, 1, 0), (.iaload, 1, 0), (.invokevirtual 85, 3, 0), (.aload_n 2, 1, 0), (.aload_n 0, 1, 0), (.iload_n 3, 1, 0), (.iconst 1, 1, 0), (.iadd, 1, 0), (.iaload, 1, 0), (.invokevirtual 88, 3, 0), (.if_icmp .eq 38, 3, 303), (.iconst 0, 1, 0), (.ireturn, 1, 0), (.aload_n 1, 1, 0), (.aload_n 0, 1, 0), (.iload_n 3, 1, 0), (.iconst 1, 1, 0), (.iadd, 1, 0), (.iaload, 1, 0), (.aload_n 0, 1, 0), (.iload_n 3, 1, 0), (.iconst 2, 1, 0), (.iadd, 1, 0), (.iaload, 1, 0), (.invokevirtual 89, 3, 0), (.aload_n 2, 1, 0), (.aload_n 0, 1, 0), (.iload_n 3, 1, 0), (.iconst 1, 1, 0), (.iadd, 1, 0), (.iaload, 1, 0), (.aload_n 0, 1, 0), (.iload_n 3, 1, 0), (.iconst 2, 1, 0), (.iadd, 1, 0), (.iaload, 1, 0), (.invokevirtual 92, 3, 0), (.if_icmp .eq 5, 3, 303), (.iconst 0, 1, 0), (.ireturn, 1, 0), (.iinc 3 5, 3, 0), (.goto (-504), 3, 10), (.iconst 1, 1, 0), (.ireturn, 1, 0)])
theorem KL : zOK YL := zOK_of (by decide +kernel)
def lCx (p : Program) (s : State) (m : MethodId) (meth : Method) (c : Code) (b L : Nat) (xs : Nat → Int32) (dC : Nat → ClassId) (dI : Nat → Nat → Nat) (cI cZ : ClassId) (as : Nat → Nat) : Prop := lw_At p s m meth c b L xs ∧ va_K (dC, dI) zcl [(cI, .int), (cZ, .boolean)] s ∧ zInj as ∧ as 61 = b ∧ ∀ i, i ∈ znm → s.heap.size ≤ as i
def lGo (L : Nat) (xs : Nat → Int32) (k : Nat) (al : List (Option zV)) (st : List zV) (M : zMem) : Prop :=
  ∀ (p : Program) (l : Launch) (e : Env) (s : State) (m : MethodId) (below : List Frame) (meth : Method) (c : Code) (b : Nat) (dC : Nat → ClassId) (dI : Nat → Nat → Nat) (cI cZ : ClassId) (as : Nat → Nat) (H : Heap) (locs : List Loc) (ls : Array Slot),
    lCx p s m meth c b L xs dC dI cI cZ as → va_P (dC, dI) zcl (zW cI cZ as M) H → va_S (fun q : Nat => s.heap.size ≤ q) s.heap H locs → zloc as ls 4 al →
    W p l e room_1 s m #[Value.ref b] below meth c H locs 58 20028 (lw_Z below #[Value.ref b] s) (F0 m (zpc YL.2.2.2.2 k) ls (st.map (zcv as)))
section LL
variable {L k t : Nat} {xs : Nat → Int32} {al : List (Option zV)} {st : List zV} {M M1 M' : zMem}
theorem ll_iload_n {j : Fin 4} {x : Int32} (hc : YL.2.2.2.2[k]? = some (.iload_n j, 1, t)) (hv : al[(j : Nat)]? = some (some (.inl x))) (g : lGo L xs (k + 1) al (.inl x :: st) M) : lGo L xs k al (st) M := by
  intro p l e s m below meth c b dC dI cI cZ as H locs ls C hP hS hl
  have hx := C.1.1
  have hb := C.1.2.1
  have hd := (KL k _ _ _ hc).1
  have h := g p l e s m below meth c b dC dI cI cZ as H locs ls C hP hS hl
  rw [zpc_succ hc] at h
  exact lv_iload_n hx hb hd rfl (hl.2.2.2 _ _ hv) h
theorem ll_aload_n {j : Fin 4} {x : Nat} (hc : YL.2.2.2.2[k]? = some (.aload_n j, 1, t)) (hv : al[(j : Nat)]? = some (some (.inr x))) (g : lGo L xs (k + 1) al (.inr x :: st) M) : lGo L xs k al (st) M := by
  intro p l e s m below meth c b dC dI cI cZ as H locs ls C hP hS hl
  have hx := C.1.1
  have hb := C.1.2.1
  have hd := (KL k _ _ _ hc).1
  have h := g p l e s m below meth c b dC dI cI cZ as H locs ls C hP hS hl
  rw [zpc_succ hc] at h
  exact lv_aload_n hx hb hd rfl (hl.2.2.2 _ _ hv) h
theorem ll_iconst {n : Int} {v : Int32} (hc : YL.2.2.2.2[k]? = some (.iconst n, 1, t)) (hv : Int32.ofInt n = v) (g : lGo L xs (k + 1) al (.inl v :: st) M) : lGo L xs k al (st) M := by
  intro p l e s m below meth c b dC dI cI cZ as H locs ls C hP hS hl
  have hx := C.1.1
  have hb := C.1.2.1
  have hd := (KL k _ _ _ hc).1
  have h := g p l e s m below meth c b dC dI cI cZ as H locs ls C hP hS hl
  rw [zpc_succ hc] at h
  exact lv_iconst hx hb hd hv h
theorem ll_bipush {n : Int} {v : Int32} (hc : YL.2.2.2.2[k]? = some (.bipush n, 2, t)) (hv : (Int8.ofInt n).toInt32 = v) (g : lGo L xs (k + 1) al (.inl v :: st) M) : lGo L xs k al (st) M := by
  intro p l e s m below meth c b dC dI cI cZ as H locs ls C hP hS hl
  have hx := C.1.1
  have hb := C.1.2.1
  have hd := (KL k _ _ _ hc).1
  have h := g p l e s m below meth c b dC dI cI cZ as H locs ls C hP hS hl
  rw [zpc_succ hc] at h
  exact lv_bipush hx hb hd hv h
theorem ll_iadd {x y : Int32} (hc : YL.2.2.2.2[k]? = some (.iadd, 1, t))  (g : lGo L xs (k + 1) al (.inl (x + y) :: st) M) : lGo L xs k al (.inl y :: .inl x :: st) M := by
  intro p l e s m below meth c b dC dI cI cZ as H locs ls C hP hS hl
  have hx := C.1.1
  have hb := C.1.2.1
  have hd := (KL k _ _ _ hc).1
  have h := g p l e s m below meth c b dC dI cI cZ as H locs ls C hP hS hl
  rw [zpc_succ hc] at h
  exact lv_iadd hx hb hd h
theorem ll_isub {x y : Int32} (hc : YL.2.2.2.2[k]? = some (.isub, 1, t))  (g : lGo L xs (k + 1) al (.inl (x - y) :: st) M) : lGo L xs k al (.inl y :: .inl x :: st) M := by
  intro p l e s m below meth c b dC dI cI cZ as H locs ls C hP hS hl
  have hx := C.1.1
  have hb := C.1.2.1
  have hd := (KL k _ _ _ hc).1
  have h := g p l e s m below meth c b dC dI cI cZ as H locs ls C hP hS hl
  rw [zpc_succ hc] at h
  exact lv_isub hx hb hd h
theorem ll_iand {x y : Int32} (hc : YL.2.2.2.2[k]? = some (.iand, 1, t))  (g : lGo L xs (k + 1) al (.inl (x &&& y) :: st) M) : lGo L xs k al (.inl y :: .inl x :: st) M := by
  intro p l e s m below meth c b dC dI cI cZ as H locs ls C hP hS hl
  have hx := C.1.1
  have hb := C.1.2.1
  have hd := (KL k _ _ _ hc).1
  have h := g p l e s m below meth c b dC dI cI cZ as H locs ls C hP hS hl
  rw [zpc_succ hc] at h
  exact lv_iand hx hb hd h
theorem ll_slen (hc : YL.2.2.2.2[k]? = some (.arraylength, 1, t)) (g : lGo L xs (k + 1) al (.inl (Int32.ofNat L) :: st) M) : lGo L xs k al (.inr 61 :: st) M := by
  intro p l e s m below meth c b dC dI cI cZ as H locs ls C hP hS hl
  have hx := C.1.1
  have hb := C.1.2.1
  have hd := (KL k _ _ _ hc).1
  have h := g p l e s m below meth c b dC dI cI cZ as H locs ls C hP hS hl
  rw [zpc_succ hc] at h
  obtain ⟨⟨-, -, -, -, -, -, hX, hbl, -, -⟩, -, -, e61, -⟩ := C
  show W _ _ _ _ _ _ _ _ _ _ _ _ _ _ _ (F0 m _ ls (.ref (as 61) :: st.map (zcv as)))
  rw [e61]
  exact va_slen hx hb hX hbl (Nat.not_le.mpr hbl) hS hd h
theorem ll_sld {i : Int32} (hc : YL.2.2.2.2[k]? = some (.iaload, 1, t)) (hin : vp_in i L) (g : lGo L xs (k + 1) al (.inl (xs i.toNatClampNeg) :: st) M) : lGo L xs k al (.inl i :: .inr 61 :: st) M := by
  intro p l e s m below meth c b dC dI cI cZ as H locs ls C hP hS hl
  have hx := C.1.1
  have hb := C.1.2.1
  have hd := (KL k _ _ _ hc).1
  have h := g p l e s m below meth c b dC dI cI cZ as H locs ls C hP hS hl
  rw [zpc_succ hc] at h
  obtain ⟨⟨-, -, -, -, -, -, hX, hbl, -, -⟩, -, -, e61, -⟩ := C
  show W _ _ _ _ _ _ _ _ _ _ _ _ _ _ _ (F0 m _ ls (.int i :: .ref (as 61) :: st.map (zcv as)))
  rw [e61]
  exact va_sld hx hb hX hbl (Nat.not_le.mpr hbl) hS hin hd h
theorem ll_gt {x y : Int32} {off : Int} (hc : YL.2.2.2.2[k]? = some (.if_icmp .gt off, 3, t)) (gt : y < x → lGo L xs t al st M) (gf : ¬ y < x → lGo L xs (k + 1) al st M) : lGo L xs k al (.inl y :: .inl x :: st) M := by
  intro p l e s m below meth c b dC dI cI cZ as H locs ls C hP hS hl
  have hx := C.1.1
  have hb := C.1.2.1
  have hd := (KL k _ _ _ hc).1
  refine lv_icmp_gt hx hb hd ((KL k _ _ _ hc).2 off rfl) (fun q => gt q p l e s m below meth c b dC dI cI cZ as H locs ls C hP hS hl) (fun q => ?_)
  have h := gf q p l e s m below meth c b dC dI cI cZ as H locs ls C hP hS hl
  rw [zpc_succ hc] at h
  exact h
theorem ll_eq {x : Int32} {off : Int} (hc : YL.2.2.2.2[k]? = some (.if_icmp .eq off, 3, t)) (g : lGo L xs t al st M) : lGo L xs k al (.inl x :: .inl x :: st) M := by
  intro p l e s m below meth c b dC dI cI cZ as H locs ls C hP hS hl
  have hx := C.1.1
  have hb := C.1.2.1
  have hd := (KL k _ _ _ hc).1
  exact lv_icmp_eq hx hb hd ((KL k _ _ _ hc).2 off rfl) (fun q => g p l e s m below meth c b dC dI cI cZ as H locs ls C hP hS hl) (fun q => absurd rfl q)
theorem ll_goto {off : Int} (hc : YL.2.2.2.2[k]? = some (.goto off, 3, t)) (g : lGo L xs t al st M) : lGo L xs k al st M := by
  intro p l e s m below meth c b dC dI cI cZ as H locs ls C hP hS hl
  have hx := C.1.1
  have hb := C.1.2.1
  have hd := (KL k _ _ _ hc).1
  exact lv_goto hx hb hd ((KL k _ _ _ hc).2 off rfl) (g p l e s m below meth c b dC dI cI cZ as H locs ls C hP hS hl)
theorem ll_iinc {j : Nat} {n : Int} {x v : Int32} (hc : YL.2.2.2.2[k]? = some (.iinc j n, 3, t)) (hv : al[j]? = some (some (.inl x))) (he : x + Int32.ofInt n = v) (g : lGo L xs (k + 1) (al.set j (some (.inl v))) st M) : lGo L xs k al st M := by
  intro p l e s m below meth c b dC dI cI cZ as H locs ls C hP hS hl
  have hx := C.1.1
  have hb := C.1.2.1
  have hd := (KL k _ _ _ hc).1
  have hj : j < al.length := (List.getElem?_eq_some_iff.mp hv).1
  obtain ⟨q, hq⟩ := List.getElem?_of_mem (zll_mem (as := as) (q := (j, zcv as (.inl x))) |>.mpr ⟨.inl x, hv, rfl⟩)
  refine lv_iinc hx hb hd hl.has hq he (by rw [← hl.1]; exact hj) rfl (fun ls' hl' => ?_)
  have h := g p l e s m below meth c b dC dI cI cZ as H locs ls' C hP hS (hl.put (v := .inl v) hj hl')
  rw [zpc_succ hc] at h
  exact h
theorem ll_switch {dflt lo hi : Int} {offs : Array Int} {n k' : Nat} {x : Int32} {off : Int} (hc : YL.2.2.2.2[k]? = some (.tableswitch dflt lo hi offs, n, t)) (hs : zsw (.tableswitch dflt lo hi offs) x = some off) (ht : ((zpc YL.2.2.2.2 k : Nat) : Int) + off = ((zpc YL.2.2.2.2 k' : Nat) : Int)) (g : lGo L xs k' al st M) : lGo L xs k al (.inl x :: st) M := by
  intro p l e s m below meth c b dC dI cI cZ as H locs ls C hP hS hl
  have hx := C.1.1
  have hb := C.1.2.1
  have hd := (KL k _ _ _ hc).1
  have h := g p l e s m below meth c b dC dI cI cZ as H locs ls C hP hS hl
  have hs : (if x.toInt < lo ∨ hi < x.toInt then some dflt else offs[(x.toInt - lo).toNat]?) = some off := hs
  split at hs
  · rename_i hp
    cases hs
    exact lv_tableOut hx hb hd hp ht h
  · rename_i hp
    exact lv_tableIn hx hb hd (fun q => hp (Or.inl q)) (fun q => hp (Or.inr q)) hs ht h
theorem ll_end (hc : YL.2.2.2.2[k]? = some (.ireturn, 1, t)) : lGo L xs k al [.inl 1] M := by
  intro p l e s m below meth c b dC dI cI cZ as H locs ls C hP hS hl
  have hx := C.1.1
  have hb := C.1.2.1
  have hd := (KL k _ _ _ hc).1
  refine va_forget (fun q hq => hS.2.2 q hq) ?_
  exact lw_ret hx hb C.1.2.2.1 C.1.2.2.2.2.2.2.2.2.1 hd
theorem ll_call {Y' : zY} {n o idx d' : Nat} {av rest : List zV} {r1 : Option Int32} (hc : YL.2.2.2.2[k]? = some (.invokevirtual idx, 3, t)) (hw : Cond.methodLink R_law idx Y'.1 ∈ ztbl) (hM : zMv Y' n o) (hn : av.length = n) (g1 : zGo Y' d' 0 (zal Y' (.inr o :: av)) [] M r1 M1) (hd9 : d' ≤ 9) (hrest : rest.length ≤ 8) (hst : av.reverse ++ .inr o :: rest = st) (g : lGo L xs (k + 1) al ((r1.map Sum.inl).toList ++ rest) M1) : lGo L xs k al st M := by
  subst hst
  intro p l e s m below meth c b dC dI cI cZ as H locs ls C hP hS hl
  have hx := C.1.1
  have hb := C.1.2.1
  have hd := (KL k _ _ _ hc).1
  obtain ⟨⟨w1, w2, w3, w4, w5⟩, w6, w7, w8, ci, fs, T, N, w9, w10⟩ := hM
  obtain ⟨⟨-, -, hr, hml, hown, hT0, hX, hbl, hlk, -⟩, hK, hi, e61, hge⟩ := id C
  have hT : ∀ w ∈ ztbl, w.before #[Value.ref b] s = true := fun w hw => hT0 w (zin w hw)
  have hMet := zMet_of (av := .inr o :: av) w4 (by simp; omega) g1 l dC dI cI cZ as H.size hi
  have hr := va_runV (p := p) (l := l) (e := e) (R := room_1) (s := s) (m := m) (args := #[Value.ref b]) (below := below) (meth := meth) (c := c) (H := H) (locs := locs) (cells := 58) (slots := 20028) (g := F0 m (zpc YL.2.2.2.2 k) ls (List.map (zcv as) (av.reverse ++ .inr o :: rest))) (As := av.map (zcv as)) (rest := rest.map (zcv as)) (b := as o) (n := n) (C := Y'.1.cls) (index := idx) (own := R_law) (Ts := ztbl) (nL := 4) ⟨hx, hb, hml, hown, hT⟩ hMet
      ⟨callB_of n hT (zgoodIn.mpr w2) rfl rfl rfl (hT _ w1) (hT _ hw) w3 ⟨by show d' + 1 ≤ 10; omega, by show 8 + (Y'.2.2.1 + 11) + 27 * d' ≤ 368; omega⟩, hT _ w6, hT _ w7⟩
      ⟨zblind, va_recv hK hP w10 (zW_get w9 (zOk_c w10)), fun U hU hW => ⟨rfl, by rw [hU], by rw [hU]; exact hP, va_K.moved hW.alike hK⟩⟩
      rfl (by simpa using hn) hl.2.1 (by simp [zcv]) (lv_room (by rw [zsum]; exact hrest)) hd ⟨Nat.le_refl _, Nat.le_refl _⟩
  intro T0 hT0' X
  obtain ⟨v, st₀, t0, T', Lc, h0, X', hL, e1, e2, ⟨hv, hP1, hz, hk⟩, hst⟩ := hr T0 hT0' X
  cases hv
  rw [h0] at hz hk
  have hsub : ∀ q, zA as H.size q → s.heap.size ≤ q := fun q hq => by
    rcases hq with ⟨i, h1, rfl⟩ | h
    · exact hge i h1
    · exact Nat.le_trans hS.1 h
  have h := g p l e s m below meth c b dC dI cI cZ as T'.heap (locs ++ Lc) ls C (by rw [e1]; exact hP1)
    ⟨Nat.le_trans hS.1 (by rw [e1]; exact hz), fun q h1 h2 => by rw [e1, hk q (Nat.lt_of_lt_of_le h1 hS.1) (fun z => h2 (hsub q z))]; exact hS.2.1 q h1 h2, fun q hq => by
      rcases List.mem_append.mp hq with h | h
      · exact hS.2.2 q h
      · exact hsub _ (hL q h)⟩ hl
  rw [zpc_succ hc] at h
  have e : List.map (zcv as) ((r1.map Sum.inl).toList ++ rest) = (r1.map Value.int).toList ++ rest.map (zcv as) := by cases r1 <;> rfl
  rw [e] at h
  obtain ⟨t2, a1, b1⟩ := h T' rfl X'
  exact ⟨t2, hst t2 a1, b1⟩
end LL
/-- what the pure side owes of a call: both answer alike, and the invariant stays -/
def zOb (Inv : zMem → Prop) (Yc : zY) (dc : Nat) (Yr : zY) (dr n : Nat) : Prop := ∀ M, Inv M → ∀ av : List Int32, av.length = n → ∃ r M1 M2, zGo Yc dc 0 (zal Yc (.inr 0 :: av.map Sum.inl)) [] M (some r) M1 ∧ zGo Yr dr 0 (zal Yr (.inr 34 :: av.map Sum.inl)) [] M1 (some r) M2 ∧ Inv M2
def zObV (Inv : zMem → Prop) (Yc : zY) (dc : Nat) (Yr : zY) (dr : Nat) : Prop := ∀ M, Inv M → ∃ M1 M2, zGo Yc dc 0 (zal Yc [.inr 0]) [] M none M1 ∧ zGo Yr dr 0 (zal Yr [.inr 34]) [] M1 none M2 ∧ Inv M2
theorem zll_13 : Cond.methodLink R_law 13 ⟨"LittleCompiler", "token", "(I)I"⟩ ∈ ztbl := zmem 368 (by decide +kernel)
theorem zll_17 : Cond.methodLink R_law 17 ⟨"LittleCompilerModel", "token", "(I)I"⟩ ∈ ztbl := zmem 1026 (by decide +kernel)
theorem zll_18 : Cond.methodLink R_law 18 ⟨"LittleCompiler", "four", "(IIII)I"⟩ ∈ ztbl := zmem 386 (by decide +kernel)
theorem zll_22 : Cond.methodLink R_law 22 ⟨"LittleCompilerModel", "four", "(IIII)I"⟩ ∈ ztbl := zmem 1034 (by decide +kernel)
theorem zll_23 : Cond.methodLink R_law 23 ⟨"LittleCompiler", "untoken", "()I"⟩ ∈ ztbl := zmem 396 (by decide +kernel)
theorem zll_27 : Cond.methodLink R_law 27 ⟨"LittleCompilerModel", "untoken", "()I"⟩ ∈ ztbl := zmem 1038 (by decide +kernel)
theorem zll_28 : Cond.methodLink R_law 28 ⟨"LittleCompiler", "clear", "()V"⟩ ∈ ztbl := zmem 400 (by decide +kernel)
theorem zll_31 : Cond.methodLink R_law 31 ⟨"LittleCompilerModel", "clear", "()V"⟩ ∈ ztbl := zmem 1042 (by decide +kernel)
theorem zll_32 : Cond.methodLink R_law 32 ⟨"LittleCompiler", "tokens", "()I"⟩ ∈ ztbl := zmem 404 (by decide +kernel)
theorem zll_35 : Cond.methodLink R_law 35 ⟨"LittleCompilerModel", "tokens", "()I"⟩ ∈ ztbl := zmem 1046 (by decide +kernel)
theorem zll_36 : Cond.methodLink R_law 36 ⟨"LittleCompiler", "wrongAt", "()I"⟩ ∈ ztbl := zmem 408 (by decide +kernel)
theorem zll_39 : Cond.methodLink R_law 39 ⟨"LittleCompilerModel", "wrongAt", "()I"⟩ ∈ ztbl := zmem 1050 (by decide +kernel)
theorem zll_40 : Cond.methodLink R_law 40 ⟨"LittleCompiler", "fault", "()I"⟩ ∈ ztbl := zmem 717 (by decide +kernel)
theorem zll_43 : Cond.methodLink R_law 43 ⟨"LittleCompilerModel", "fault", "()I"⟩ ∈ ztbl := zmem 1138 (by decide +kernel)
theorem zll_44 : Cond.methodLink R_law 44 ⟨"LittleCompiler", "set", "(II)I"⟩ ∈ ztbl := zmem 725 (by decide +kernel)
theorem zll_48 : Cond.methodLink R_law 48 ⟨"LittleCompilerModel", "set", "(II)I"⟩ ∈ ztbl := zmem 1150 (by decide +kernel)
theorem zll_49 : Cond.methodLink R_law 49 ⟨"LittleCompiler", "cell", "(II)I"⟩ ∈ ztbl := zmem 729 (by decide +kernel)
theorem zll_52 : Cond.methodLink R_law 52 ⟨"LittleCompilerModel", "cell", "(II)I"⟩ ∈ ztbl := zmem 1154 (by decide +kernel)
theorem zll_53 : Cond.methodLink R_law 53 ⟨"LittleCompiler", "run", "()I"⟩ ∈ ztbl := zmem 733 (by decide +kernel)
theorem zll_56 : Cond.methodLink R_law 56 ⟨"LittleCompilerModel", "run", "()I"⟩ ∈ ztbl := zmem 1158 (by decide +kernel)
theorem zll_57 : Cond.methodLink R_law 57 ⟨"LittleCompiler", "outs", "()I"⟩ ∈ ztbl := zmem 845 (by decide +kernel)
theorem zll_60 : Cond.methodLink R_law 60 ⟨"LittleCompilerModel", "outs", "()I"⟩ ∈ ztbl := zmem 1222 (by decide +kernel)
theorem zll_61 : Cond.methodLink R_law 61 ⟨"LittleCompiler", "output", "(I)I"⟩ ∈ ztbl := zmem 849 (by decide +kernel)
theorem zll_64 : Cond.methodLink R_law 64 ⟨"LittleCompilerModel", "output", "(I)I"⟩ ∈ ztbl := zmem 1226 (by decide +kernel)
theorem zll_65 : Cond.methodLink R_law 65 ⟨"LittleCompiler", "global", "(I)I"⟩ ∈ ztbl := zmem 853 (by decide +kernel)
theorem zll_68 : Cond.methodLink R_law 68 ⟨"LittleCompilerModel", "global", "(I)I"⟩ ∈ ztbl := zmem 1230 (by decide +kernel)
theorem zll_69 : Cond.methodLink R_law 69 ⟨"LittleCompiler", "cellAfter", "(I)I"⟩ ∈ ztbl := zmem 857 (by decide +kernel)
theorem zll_72 : Cond.methodLink R_law 72 ⟨"LittleCompilerModel", "cellAfter", "(I)I"⟩ ∈ ztbl := zmem 1234 (by decide +kernel)
theorem zll_73 : Cond.methodLink R_law 73 ⟨"LittleCompiler", "turns", "()I"⟩ ∈ ztbl := zmem 861 (by decide +kernel)
theorem zll_76 : Cond.methodLink R_law 76 ⟨"LittleCompilerModel", "turns", "()I"⟩ ∈ ztbl := zmem 1238 (by decide +kernel)
theorem zll_77 : Cond.methodLink R_law 77 ⟨"LittleCompiler", "deepest", "()I"⟩ ∈ ztbl := zmem 865 (by decide +kernel)
theorem zll_80 : Cond.methodLink R_law 80 ⟨"LittleCompilerModel", "deepest", "()I"⟩ ∈ ztbl := zmem 1242 (by decide +kernel)
theorem zll_81 : Cond.methodLink R_law 81 ⟨"LittleCompiler", "plainSize", "()I"⟩ ∈ ztbl := zmem 869 (by decide +kernel)
theorem zll_84 : Cond.methodLink R_law 84 ⟨"LittleCompilerModel", "plainSize", "()I"⟩ ∈ ztbl := zmem 1246 (by decide +kernel)
theorem zll_85 : Cond.methodLink R_law 85 ⟨"LittleCompiler", "plain", "(I)I"⟩ ∈ ztbl := zmem 873 (by decide +kernel)
theorem zll_88 : Cond.methodLink R_law 88 ⟨"LittleCompilerModel", "plain", "(I)I"⟩ ∈ ztbl := zmem 1282 (by decide +kernel)
theorem zll_89 : Cond.methodLink R_law 89 ⟨"LittleCompiler", "prepare", "(II)I"⟩ ∈ ztbl := zmem 877 (by decide +kernel)
theorem zll_92 : Cond.methodLink R_law 92 ⟨"LittleCompilerModel", "prepare", "(II)I"⟩ ∈ ztbl := zmem 1286 (by decide +kernel)
