/-! CONSTRUCTORS: the world grows; shapes with null; all numbers are known -/
abbrev gSh : Type := (Bool × Nat) ⊕ (Nat × List (Option (Option Nat)))
def gfl (as : Nat → Nat) (f : Nat → Int32) (j : Nat) : Option (Option Nat) → Value
  | none => .int (f j)
  | some none => .null
  | some (some i) => .ref (as i)
def gcell (cI cZ : ClassId) (as : Nat → Nat) (f : Nat → Int32) : gSh → va_E
  | .inl (b, n) => .inl (if b then cZ else cI, n, .inl f)
  | .inr (ci, fs) => .inr (ci, fs.mapIdx (fun j o => gfl as f j o))
def gW (cI cZ : ClassId) (as : Nat → Nat) (L : List gSh) (M : zMem) : va_W := L.mapIdx (fun i sh => (as i, gcell cI cZ as (M i) sh))
def gref (n : Nat) : Option (Option Nat) → Bool
  | some (some i) => decide (i < n)
  | _ => true
def gok (n : Nat) : gSh → Bool
  | .inl _ => true
  | .inr (_, fs) => fs.all (gref n)
def gOK (A : Nat → Prop) (as : Nat → Nat) (n : Nat) : Prop := (∀ i j, i < n → j < n → as i = as j → i = j) ∧ ∀ i, i < n → A (as i)
def gA (n : Nat) (as : Nat → Nat) (sz : Nat) : Nat → Prop := fun q => (∃ i, i < n ∧ q = as i) ∨ sz ≤ q
section GWR
variable {cI cZ : ClassId} {as as' : Nat → Nat} {L : List gSh} {M M' : zMem}
theorem gW_get {i : Nat} {sh : gSh} (h : L[i]? = some sh) : (gW cI cZ as L M)[i]? = some (as i, gcell cI cZ as (M i) sh) := by simp [gW, List.getElem?_mapIdx, h]
theorem gW_lt {i : Nat} {q : Nat × va_E} (h : (gW cI cZ as L M)[i]? = some q) : i < L.length ∧ q.1 = as i := by
  simp only [gW, List.getElem?_mapIdx, Option.map_eq_some_iff] at h
  obtain ⟨sh, h1, rfl⟩ := h
  exact ⟨(List.getElem?_eq_some_iff.mp h1).1, rfl⟩
theorem gW_len : (gW cI cZ as L M).length = L.length := by simp [gW]
theorem gW_D {A : Nat → Prop} (h : gOK A as L.length) : va_D A (gW cI cZ as L M) := by
  refine ⟨fun i j x y hi hj e => ?_, fun k q hk => ?_⟩
  · obtain ⟨h1, h2⟩ := gW_lt hi
    obtain ⟨h3, h4⟩ := gW_lt hj
    exact h.1 i j h1 h3 (by rw [← h2, ← h4]; exact e)
  · obtain ⟨h1, h2⟩ := gW_lt hk
    rw [h2]
    exact h.2 k h1
theorem gcell_as {n : Nat} {f : Nat → Int32} {sh : gSh} (h : gok n sh = true) (he : ∀ i, i < n → as' i = as i) : gcell cI cZ as' f sh = gcell cI cZ as f sh := by
  cases sh with
  | inl x => rfl
  | inr x =>
    obtain ⟨ci, fs⟩ := x
    show Sum.inr _ = Sum.inr _
    congr 2
    apply List.ext_getElem?
    intro j
    rw [List.getElem?_mapIdx, List.getElem?_mapIdx]
    cases hj : fs[j]? with
    | none => rfl
    | some o =>
      have h1 := List.all_eq_true.mp h o (List.mem_of_getElem? hj)
      match o, h1 with
      | none, _ => rfl
      | some none, _ => rfl
      | some (some i), h1 =>
        show some (Value.ref (as' i)) = some (Value.ref (as i))
        rw [he i (by simpa [gref] using h1)]
theorem gW_push {q : Nat} {e : va_E} {sh : gSh} (hok : L.all (gok L.length) = true) (he : ∀ i, i < L.length → as' i = as i) (hq : as' L.length = q) (hc : e = gcell cI cZ as' (M L.length) sh) : gW cI cZ as L M ++ [(q, e)] = gW cI cZ as' (L ++ [sh]) M := by
  apply List.ext_getElem?
  intro j
  by_cases hj : j < L.length
  · rw [List.getElem?_append_left (by rw [gW_len]; exact hj)]
    obtain ⟨s0, hs⟩ : ∃ s0, L[j]? = some s0 := ⟨L[j], by simp [hj]⟩
    rw [gW_get hs, gW_get (sh := s0) (by rw [List.getElem?_append_left hj]; exact hs), he j hj, gcell_as (List.all_eq_true.mp hok s0 (List.mem_of_getElem? hs)) he]
  · by_cases hj2 : j = L.length
    · subst hj2
      rw [List.getElem?_append_right (by rw [gW_len]; exact Nat.le_refl _), gW_len, Nat.sub_self, gW_get (sh := sh) (by rw [List.getElem?_append_right (Nat.le_refl _), Nat.sub_self]; rfl), hq, hc]
      rfl
    · rw [List.getElem?_eq_none (by simp [gW]; omega), List.getElem?_eq_none (by simp [gW]; omega)]
theorem gW_set {L' : List gSh} {i : Nat} {e : va_E} {sh sh' : gSh} (h : L[i]? = some sh) (hL : L' = L.set i sh') (he : e = gcell cI cZ as (M' i) sh') (ho : ∀ j, j ≠ i → M' j = M j) : (gW cI cZ as L M).set i (as i, e) = gW cI cZ as L' M' := by
  subst hL
  have hl := (List.getElem?_eq_some_iff.mp h).1
  apply List.ext_getElem?
  intro j
  by_cases hj : j = i
  · subst hj
    rw [List.getElem?_set_self (by rw [gW_len]; exact hl), gW_get (sh := sh') (by rw [List.getElem?_set_self hl]), he]
  · rw [List.getElem?_set_ne (Ne.symm hj)]
    simp only [gW, List.getElem?_mapIdx, ho j hj, List.getElem?_set_ne (Ne.symm hj)]
end GWR
def nPost (dC : Nat → ClassId) (dI : Nat → Nat → Nat) (cI cZ : ClassId) (A : Nat → Prop) (as : Nat → Nat) (n : Nat) (L' : List gSh) (M' : zMem) : Array Value → State → Outcome → State → Prop := fun _ st o t => o = .returned none ∧ (∃ as' : Nat → Nat, (∀ i, i < n → as' i = as i) ∧ gOK A as' L'.length ∧ va_P (dC, dI) zcl (gW cI cZ as' L' M') t.heap) ∧ va_F A st t
def nCx (p : Program) (R : Room) (s : State) (m : MethodId) (args : Array Value) (meth : Method) (c : Code) (Y : zY) (d mc ms : Nat) (dC : Nat → ClassId) (dI : Nat → Nat → Nat) (cI cZ : ClassId) (A : Nat → Prop) : Prop :=
  p.tables.exec = Jvm.exec ∧ c.code = Y.2.1 ∧ c.maxLocals = Y.2.2.1 ∧ meth.sig.returnType = Y.2.2.2.1 ∧ meth.locks = false ∧ s.vm.findClass Y.1.cls = some m.cls ∧ (∀ w ∈ ztbl, w.before args s = true) ∧ va_K (dC, dI) zcl [(cI, .int), (cZ, .boolean)] s ∧ (∀ q, s.heap.size ≤ q → A q) ∧ d ≤ R.frames ∧ 27 * d ≤ R.locals ∧ mc ≤ R.cells ∧ ms ≤ R.slots ∧ meth.name = Y.1.name
def nGo (Y : zY) (d mc ms k : Nat) (al : List (Option zV)) (st : List zV) (L : List gSh) (M : zMem) (cs sl : Nat) (L' : List gSh) (M' : zMem) : Prop :=
  ∀ (p : Program) (l : Launch) (e : Env) (R : Room) (s : State) (m : MethodId) (args : Array Value) (below : List Frame) (meth : Method) (c : Code) (dC : Nat → ClassId) (dI : Nat → Nat → Nat) (cI cZ : ClassId) (A : Nat → Prop) (as : Nat → Nat) (H : Heap) (locs : List Loc) (ls : Array Slot),
    nCx p R s m args meth c Y d mc ms dC dI cI cZ A → gOK A as L.length → va_P (dC, dI) zcl (gW cI cZ as L M) H → va_S A s.heap H locs → zloc as ls Y.2.2.1 al →
    W p l e R s m args below meth c H locs cs sl (MQ below (nPost dC dI cI cZ A as L.length L' M') args s mc ms A) (F0 m (zpc Y.2.2.2.2 k) ls (st.map (zcv as)))
theorem W.mono {p : Program} {l : Launch} {e : Env} {R : Room} {s : State} {m : MethodId} {args : Array Value} {below : List Frame} {meth : Method} {c : Code} {H : Heap} {locs : List Loc} {cells slots : Nat} {Q Q' : State → Prop} {g : JFrame} (h : ∀ t, Q t → Q' t) (k : W p l e R s m args below meth c H locs cells slots Q g) : W p l e R s m args below meth c H locs cells slots Q' g := fun T hT X => by
  obtain ⟨t, a, b⟩ := k T hT X
  exact ⟨t, a, h t b⟩
section NN
variable {Y : zY} {d mc ms k t cs sl : Nat} {al : List (Option zV)} {st : List zV} {L L' : List gSh} {M M' : zMem}
theorem nn_aload_n {j : Fin 4} {x : Nat} (hY : zOK Y) (hc : Y.2.2.2.2[k]? = some (.aload_n j, 1, t)) (hv : al[(j : Nat)]? = some (some (.inr x))) (g : nGo Y d mc ms (k + 1) al (.inr x :: st) L M cs sl L' M') : nGo Y d mc ms k al st L M cs sl L' M' := by
  intro p l e R s m args below meth c dC dI cI cZ A as H locs ls C hO hP hS hl
  have h := g p l e R s m args below meth c dC dI cI cZ A as H locs ls C hO hP hS hl
  rw [zpc_succ hc] at h
  exact lv_aload_n C.1 C.2.1 (hY k _ _ _ hc).1 rfl (hl.2.2.2 _ _ hv) h
theorem nn_aload {j : Nat} {x : Nat} (hY : zOK Y) (hc : Y.2.2.2.2[k]? = some (.aload j, 2, t)) (hv : al[j]? = some (some (.inr x))) (g : nGo Y d mc ms (k + 1) al (.inr x :: st) L M cs sl L' M') : nGo Y d mc ms k al st L M cs sl L' M' := by
  intro p l e R s m args below meth c dC dI cI cZ A as H locs ls C hO hP hS hl
  have h := g p l e R s m args below meth c dC dI cI cZ A as H locs ls C hO hP hS hl
  rw [zpc_succ hc] at h
  exact lv_aload C.1 C.2.1 (hY k _ _ _ hc).1 (hl.2.2.2 _ _ hv) h
theorem nn_iconst {n : Int} {v : Int32} (hY : zOK Y) (hc : Y.2.2.2.2[k]? = some (.iconst n, 1, t)) (hv : Int32.ofInt n = v) (g : nGo Y d mc ms (k + 1) al (.inl v :: st) L M cs sl L' M') : nGo Y d mc ms k al st L M cs sl L' M' := by
  intro p l e R s m args below meth c dC dI cI cZ A as H locs ls C hO hP hS hl
  have h := g p l e R s m args below meth c dC dI cI cZ A as H locs ls C hO hP hS hl
  rw [zpc_succ hc] at h
  exact lv_iconst C.1 C.2.1 (hY k _ _ _ hc).1 hv h
theorem nn_bipush {n : Int} {v : Int32} (hY : zOK Y) (hc : Y.2.2.2.2[k]? = some (.bipush n, 2, t)) (hv : (Int8.ofInt n).toInt32 = v) (g : nGo Y d mc ms (k + 1) al (.inl v :: st) L M cs sl L' M') : nGo Y d mc ms k al st L M cs sl L' M' := by
  intro p l e R s m args below meth c dC dI cI cZ A as H locs ls C hO hP hS hl
  have h := g p l e R s m args below meth c dC dI cI cZ A as H locs ls C hO hP hS hl
  rw [zpc_succ hc] at h
  exact lv_bipush C.1 C.2.1 (hY k _ _ _ hc).1 hv h
theorem nn_sipush {n : Int} {v : Int32} (hY : zOK Y) (hc : Y.2.2.2.2[k]? = some (.sipush n, 3, t)) (hv : (Int16.ofInt n).toInt32 = v) (g : nGo Y d mc ms (k + 1) al (.inl v :: st) L M cs sl L' M') : nGo Y d mc ms k al st L M cs sl L' M' := by
  intro p l e R s m args below meth c dC dI cI cZ A as H locs ls C hO hP hS hl
  have h := g p l e R s m args below meth c dC dI cI cZ A as H locs ls C hO hP hS hl
  rw [zpc_succ hc] at h
  exact lv_sipush C.1 C.2.1 (hY k _ _ _ hc).1 hv h
theorem nn_dup {x : zV} (hY : zOK Y) (hc : Y.2.2.2.2[k]? = some (.dup, 1, t)) (g : nGo Y d mc ms (k + 1) al (x :: x :: st) L M cs sl L' M') : nGo Y d mc ms k al (x :: st) L M cs sl L' M' := by
  intro p l e R s m args below meth c dC dI cI cZ A as H locs ls C hO hP hS hl
  have h := g p l e R s m args below meth c dC dI cI cZ A as H locs ls C hO hP hS hl
  rw [zpc_succ hc] at h
  exact lv_dup C.1 C.2.1 (hY k _ _ _ hc).1 (zcv_cat as x) h
theorem nn_astore_n {j : Fin 4} {x : Nat} (hY : zOK Y) (hc : Y.2.2.2.2[k]? = some (.astore_n j, 1, t)) (hj : (j : Nat) < al.length) (g : nGo Y d mc ms (k + 1) (al.set (j : Nat) (some (.inr x))) st L M cs sl L' M') : nGo Y d mc ms k al (.inr x :: st) L M cs sl L' M' := by
  intro p l e R s m args below meth c dC dI cI cZ A as H locs ls C hO hP hS hl
  refine lv_astore_n C.1 C.2.1 (hY k _ _ _ hc).1 rfl hl.has (by rw [← hl.1]; exact hj) rfl (fun ls' hl' => ?_)
  have h := g p l e R s m args below meth c dC dI cI cZ A as H locs ls' C hO hP hS (hl.put (v := .inr x) hj hl')
  rw [zpc_succ hc] at h
  exact h
theorem nn_obj {idx o : Nat} (hY : zOK Y) (hc : Y.2.2.2.2[k]? = some (.invokespecial idx, 3, t)) (hw : Cond.methodLink Y.1.cls idx Lib.objectInit ∈ ztbl ∧ Cond.instanceMethod Lib.objectInit ∈ ztbl ∧ Cond.code Lib.objectInit ⟨#[0xb1]⟩ 1 none ∈ ztbl) (hd : 1 ≤ d) (hst : st.length ≤ 8) (g : nGo Y d mc ms (k + 1) al st L M cs sl L' M') : nGo Y d mc ms k al (.inr o :: st) L M cs sl L' M' := by
  intro p l e R s m args below meth c dC dI cI cZ A as H locs ls C hO hP hS hl
  have h := g p l e R s m args below meth c dC dI cI cZ A as H locs ls C hO hP hS hl
  rw [zpc_succ hc] at h
  have hT := C.2.2.2.2.2.2.1
  have h10 := C.2.2.2.2.2.2.2.2.2.1
  have h11 := C.2.2.2.2.2.2.2.2.2.2.1
  have h8 := lv_room (m := m) (pc := 0) (ls := ls) (rest := []) (st := st.map (zcv as)) (by rw [zsum]; exact hst)
  refine W.objInit (rest := st.map (zcv as)) C.1 C.2.1 C.2.2.2.2.2.1 (hT _ hw.1) (hT _ hw.2.1) (hT _ hw.2.2) rfl (hl.2.1.trans C.2.2.1.symm) rfl (hY k _ _ _ hc).1 (by omega) ?_ h
  have : 2 * (F0 m (zpc Y.2.2.2.2 k) ls (List.map (zcv as) (.inr o :: st))).monitorRoom + ((st.map (zcv as)).map fun v => v.category).sum ≤ 8 := h8
  omega
theorem nn_newarr {b : Bool} {at0 : ArrayType} {ty : FieldType} {n : Int32} {N : Nat} (hY : zOK Y) (hc : Y.2.2.2.2[k]? = some (.newarray at0, 2, t)) (hb : (b = false ∧ at0 = .int ∧ ty = .int) ∨ (b = true ∧ at0 = .boolean ∧ ty = .boolean)) (hw : Cond.arrayClass ty ∈ ztbl) (hn : ¬ n < 0) (hN : n.toNatClampNeg = N) (hbytes : N ≤ 65536) (hcs : cs + 1 ≤ mc) (hsl : sl + N ≤ ms) (hok : L.all (gok L.length) = true) (hM : M L.length = fun _ => 0)
    (g : nGo Y d mc ms (k + 1) al (.inr L.length :: st) (L ++ [.inl (b, N)]) M (cs + 1) (sl + N) L' M') (hlo : ∀ (i : Nat) (o : Nat), al[i]? = some (some (.inr o)) → o < L.length) (hso : ∀ o, Sum.inr o ∈ st → o < L.length) : nGo Y d mc ms k al (.inl n :: st) L M cs sl L' M' := by
  intro p l e R s m args below meth c dC dI cI cZ A as H locs ls C hO hP hS hl
  have hT := C.2.2.2.2.2.2.1
  have hK := C.2.2.2.2.2.2.2.1
  have hA := C.2.2.2.2.2.2.2.2.1
  have hty : newarray.typeOf at0 = ty := by rcases hb with ⟨-, rfl, rfl⟩ | ⟨-, rfl, rfl⟩ <;> rfl
  have hcb : componentBytes ty ≤ 4 := by rcases hb with ⟨-, -, rfl⟩ | ⟨-, -, rfl⟩ <;> decide
  have hby : N * componentBytes ty ≤ 536870912 := by
    have := Nat.mul_le_mul hbytes hcb
    omega
  have hdv : defaultValue ty = .int 0 := by rcases hb with ⟨-, -, rfl⟩ | ⟨-, -, rfl⟩ <;> rfl
  refine va_newa (a0 := (N, .inl (fun _ => 0))) C.1 C.2.1 (by rw [hty]; exact hT _ hw) hty hK hP (gW_D hO) hS hA (fun cA => by rw [vp_cell_i, hdv]) hn hN hby (by have := C.2.2.2.2.2.2.2.2.2.2.2.1; omega) (by have := C.2.2.2.2.2.2.2.2.2.2.2.2.1; omega) (hY k _ _ _ hc).1 (fun q cA H1 hK1 hP1 hD1 hS1 => ?_)
  have hcA : cA = if b then cZ else cI := by
    have h3 := (hK1.2 2 (cA, ty) rfl).2
    have hi := (hK.2 0 _ rfl).2
    have hz := (hK.2 1 _ rfl).2
    rcases hb with ⟨rfl, -, rfl⟩ | ⟨rfl, -, rfl⟩
    · exact Option.some.inj (h3.symm.trans hi)
    · exact Option.some.inj (h3.symm.trans hz)
  subst hcA
  have e1 := gW_push (cI := cI) (cZ := cZ) (as := as) (as' := fun i => if i = L.length then q else as i) (M := M) (q := q) (sh := .inl (b, N)) (e := .inl (if b then cZ else cI, N, .inl (fun _ => 0))) hok (fun i hi => if_neg (by omega)) (if_pos rfl) (by rw [hM]; rfl)
  rw [e1] at hP1
  have hlt : ∀ i, i < L.length → (if i = L.length then q else as i) = as i := fun i hi => if_neg (by omega)
  have hO1 : gOK A (fun i => if i = L.length then q else as i) (L ++ [Sum.inl (b, N)]).length := by
    have hl1 : (L ++ [(Sum.inl (b, N) : gSh)]).length = L.length + 1 := by simp
    refine ⟨fun i j hi hj hij => ?_, fun i hi => ?_⟩
    · rw [e1] at hD1
      obtain ⟨s1, h1⟩ : ∃ s1, (L ++ [(Sum.inl (b, N) : gSh)])[i]? = some s1 := ⟨_, List.getElem?_eq_getElem hi⟩
      obtain ⟨s2, h2⟩ : ∃ s2, (L ++ [(Sum.inl (b, N) : gSh)])[j]? = some s2 := ⟨_, List.getElem?_eq_getElem hj⟩
      exact hD1.1 i j _ _ (gW_get h1) (gW_get h2) hij
    · rw [e1] at hD1
      obtain ⟨s1, h1⟩ : ∃ s1, (L ++ [(Sum.inl (b, N) : gSh)])[i]? = some s1 := ⟨_, List.getElem?_eq_getElem hi⟩
      exact hD1.2 i _ (gW_get h1)
  have hl1 : zloc (fun i => if i = L.length then q else as i) ls Y.2.2.1 al := ⟨hl.1, hl.2.1, hl.2.2.1, fun i v hv => by
    rw [hl.2.2.2 i v hv]
    cases v with
    | inl x => rfl
    | inr o =>
      show some (Slot.val (.ref (as o))) = some (Slot.val (.ref (if o = L.length then q else as o)))
      rw [if_neg (by have := hlo i o hv; omega)]⟩
  have h := g p l e R s m args below meth c dC dI cI cZ A _ H1 locs ls C hO1 hP1 hS1 hl1
  rw [zpc_succ hc] at h
  have hst : List.map (zcv (fun i => if i = L.length then q else as i)) (Sum.inr L.length :: st) = Value.ref q :: List.map (zcv as) st := by
    simp only [List.map_cons, zcv, if_pos]
    congr 1
    apply List.map_congr_left
    intro v hv
    cases v with
    | inl x => rfl
    | inr o => simp only [zcv]; rw [if_neg (by have := hso o hv; omega)]
  rw [hst] at h
  refine W.mono (fun t ht => ?_) h
  obtain ⟨o, h1, h2, ⟨h3, ⟨as2, h4, h5, h6⟩, h7⟩, h8⟩ := ht
  exact ⟨o, h1, h2, ⟨h3, ⟨as2, fun i hi => by rw [h4 i (by simp; omega)]; exact if_neg (by omega), h5, h6⟩, h7⟩, h8⟩
def gdv : Option (Option Nat) → Value
  | none => .int 0
  | _ => .null
theorem nn_new {C : String} {T : u_T} {N ci idx : Nat} {fs : List (Option (Option Nat))} (hY : zOK Y) (hc : Y.2.2.2.2[k]? = some (.new idx, 3, t)) (hcl : zcl[ci]? = some (C, T, N)) (hw : Cond.classLink Y.1.cls idx C ∈ ztbl ∧ Cond.instantiable C N ∈ ztbl ∧ Cond.initialized C ∈ ztbl) (hfs : ∀ j, j < N → defaultValue (zTy ci j) = vp_V (fs.map gdv) j) (hnr : fs.all (fun o => match o with | some (some _) => false | _ => true) = true) (hcs : cs + 1 ≤ mc) (hsl : sl + N ≤ ms) (hok : L.all (gok L.length) = true) (hM : M L.length = fun _ => 0)
    (g : nGo Y d mc ms (k + 1) al (.inr L.length :: st) (L ++ [.inr (ci, fs)]) M (cs + 1) (sl + N) L' M') (hlo : ∀ (i : Nat) (o : Nat), al[i]? = some (some (.inr o)) → o < L.length) (hso : ∀ o, Sum.inr o ∈ st → o < L.length) : nGo Y d mc ms k al st L M cs sl L' M' := by
  intro p l e R s m args below meth c dC dI cI cZ A as H locs ls C0 hO hP hS hl
  have hT := C0.2.2.2.2.2.2.1
  have hK := C0.2.2.2.2.2.2.2.1
  have hA := C0.2.2.2.2.2.2.2.2.1
  obtain ⟨k1, k2, k3⟩ := zcl_ok ci C T N hcl
  refine va_new (fs := fs.map gdv) C0.1 C0.2.1 hT k1 (zTy ci) k2 C0.2.2.2.2.2.1 (hT _ hw.1) (hT _ hw.2.1) (hT _ hw.2.2) hK hP (gW_D hO) hS hA hcl hfs (by have := C0.2.2.2.2.2.2.2.2.2.2.2.1; omega) (by have := C0.2.2.2.2.2.2.2.2.2.2.2.2.1; omega) (hY k _ _ _ hc).1 (fun q H1 hP1 hD1 hS1 => ?_)
  have hfe : fs.map gdv = fs.mapIdx (fun j o => gfl (fun i => if i = L.length then q else as i) (fun _ => 0) j o) := by
    apply List.ext_getElem?
    intro j
    rw [List.getElem?_map, List.getElem?_mapIdx]
    cases hj : fs[j]? with
    | none => rfl
    | some o =>
      have h1 := List.all_eq_true.mp hnr o (List.mem_of_getElem? hj)
      match o, h1 with
      | none, _ => rfl
      | some none, _ => rfl
      | some (some i), h1 => cases h1
  have e1 := gW_push (cI := cI) (cZ := cZ) (as := as) (as' := fun i => if i = L.length then q else as i) (M := M) (q := q) (sh := .inr (ci, fs)) (e := .inr (ci, fs.map gdv)) hok (fun i hi => if_neg (by omega)) (if_pos rfl) (by rw [hM, hfe]; rfl)
  rw [e1] at hP1
  rw [e1] at hD1
  have hO1 : gOK A (fun i => if i = L.length then q else as i) (L ++ [Sum.inr (ci, fs)]).length := by
    refine ⟨fun i j hi hj hij => ?_, fun i hi => ?_⟩
    · obtain ⟨s1, h1⟩ : ∃ s1, (L ++ [(Sum.inr (ci, fs) : gSh)])[i]? = some s1 := ⟨_, List.getElem?_eq_getElem hi⟩
      obtain ⟨s2, h2⟩ : ∃ s2, (L ++ [(Sum.inr (ci, fs) : gSh)])[j]? = some s2 := ⟨_, List.getElem?_eq_getElem hj⟩
      exact hD1.1 i j _ _ (gW_get h1) (gW_get h2) hij
    · obtain ⟨s1, h1⟩ : ∃ s1, (L ++ [(Sum.inr (ci, fs) : gSh)])[i]? = some s1 := ⟨_, List.getElem?_eq_getElem hi⟩
      exact hD1.2 i _ (gW_get h1)
  have hl1 : zloc (fun i => if i = L.length then q else as i) ls Y.2.2.1 al := ⟨hl.1, hl.2.1, hl.2.2.1, fun i v hv => by
    rw [hl.2.2.2 i v hv]
    cases v with
    | inl x => rfl
    | inr o =>
      show some (Slot.val (.ref (as o))) = some (Slot.val (.ref (if o = L.length then q else as o)))
      rw [if_neg (by have := hlo i o hv; omega)]⟩
  have h := g p l e R s m args below meth c dC dI cI cZ A _ H1 locs ls C0 hO1 hP1 hS1 hl1
  rw [zpc_succ hc] at h
  have hst : List.map (zcv (fun i => if i = L.length then q else as i)) (Sum.inr L.length :: st) = Value.ref q :: List.map (zcv as) st := by
    simp only [List.map_cons, zcv, if_pos]
    congr 1
    apply List.map_congr_left
    intro v hv
    cases v with
    | inl x => rfl
    | inr o => simp only [zcv]; rw [if_neg (by have := hso o hv; omega)]
  rw [hst] at h
  refine W.mono (fun t ht => ?_) h
  obtain ⟨o, h1, h2, ⟨h3, ⟨as2, h4, h5, h6⟩, h7⟩, h8⟩ := ht
  exact ⟨o, h1, h2, ⟨h3, ⟨as2, fun i hi => by rw [h4 i (by simp; omega)]; exact if_neg (by omega), h5, h6⟩, h7⟩, h8⟩
def gF (own : String) (idx ci j : Nat) (fin : Bool) (ty : FieldType) : Prop := ∃ (C : String) (T : u_T) (N : Nat), zcl[ci]? = some (C, T, N) ∧ j < N ∧ Cond.fieldLink own idx (T j).1 (T j).2.1 (T j).2.2.1 ∈ ztbl ∧ (T j).2.2.2 = fin ∧ parseFieldDescriptor (T j).2.2.1 = some ty ∧ (T j).1 = own
theorem nn_putN {o j idx ci : Nat} {fs : List (Option (Option Nat))} {ty : FieldType} {x : Int32} (hY : zOK Y) (hc : Y.2.2.2.2[k]? = some (.putfield idx, 3, t)) (hF : gF Y.1.cls idx ci j false ty) (ho : L[o]? = some (.inr (ci, fs))) (hj : fs[j]? = some none) (hn : narrow ty (.int x) = .int x) (hf : fits ty (.int x) = true) (g : nGo Y d mc ms (k + 1) al st L (zup M o j x) cs sl L' M') : nGo Y d mc ms k al (.inl x :: .inr o :: st) L M cs sl L' M' := by
  intro p l e R s m args below meth c dC dI cI cZ A as H locs ls C hO hP hS hl
  obtain ⟨C', T, N, h2, h3, h5, h6, h7, h8⟩ := hF
  obtain ⟨k1, k2, k3⟩ := zcl_ok ci C' T N h2
  have hlen : j < (fs.mapIdx (fun j o' => gfl as (M o) j o')).length := by
    have := (List.getElem?_eq_some_iff.mp hj).1
    simpa using this
  refine va_put C.1 C.2.1 C.2.2.2.2.2.2.1 k1 (zTy ci) k2 k3 C.2.2.2.2.2.1 C.2.2.2.2.2.2.2.1 hP (gW_D hO) hS o (gW_get ho) h2 j h3 (C.2.2.2.2.2.2.1 _ h5) (fun _ h9 => h9) h6 h7 hn hf hlen (hY k _ _ _ hc).1 (fun H1 locs1 hP1 hD1 hS1 => ?_)
  have e1 : (gW cI cZ as L M).set o (as o, .inr (ci, (fs.mapIdx (fun j o' => gfl as (M o) j o')).set j (.int x))) = gW cI cZ as L (zup M o j x) := by
    refine gW_set (sh' := .inr (ci, fs)) ho ?_ ?_ (fun i hi => zup_ne hi)
    · apply List.ext_getElem?
      intro i
      by_cases e : i = o
      · subst e
        rw [List.getElem?_set_self (List.getElem?_eq_some_iff.mp ho).1, ho]
      · rw [List.getElem?_set_ne (Ne.symm e)]
    · rw [zup_self]
      show Sum.inr _ = Sum.inr _
      congr 2
      apply List.ext_getElem?
      intro i
      by_cases e : i = j
      · subst e
        rw [List.getElem?_set_self hlen, List.getElem?_mapIdx, hj]
        simp [gfl, upd]
      · rw [List.getElem?_set_ne (Ne.symm e), List.getElem?_mapIdx, List.getElem?_mapIdx]
        congr 1
        funext o'
        match o' with
        | none => simp [gfl, upd, e]
        | some none => rfl
        | some (some z) => rfl
  have hP1 : va_P (dC, dI) zcl ((gW cI cZ as L M).set o (as o, .inr (ci, (fs.mapIdx (fun j o' => gfl as (M o) j o')).set j (.int x)))) H1 := hP1
  rw [e1] at hP1
  have h := g p l e R s m args below meth c dC dI cI cZ A as H1 locs1 ls C hO hP1 hS1 hl
  rw [zpc_succ hc] at h
  exact h
theorem nn_putR {o j idx ci i : Nat} {fs : List (Option (Option Nat))} {L1 : List gSh} {ty : FieldType} (hY : zOK Y) (hc : Y.2.2.2.2[k]? = some (.putfield idx, 3, t)) (hF : gF Y.1.cls idx ci j true ty) (hin : Y.1.name = "<init>") (ho : L[o]? = some (.inr (ci, fs))) (hj : fs[j]? = some (some none)) (hty : ∀ a : Nat, narrow ty (.ref a) = .ref a ∧ fits ty (.ref a) = true) (hL1 : L1 = L.set o (.inr (ci, fs.set j (some (some i))))) (g : nGo Y d mc ms (k + 1) al st L1 M cs sl L' M') : nGo Y d mc ms k al (.inr i :: .inr o :: st) L M cs sl L' M' := by
  intro p l e R s m args below meth c dC dI cI cZ A as H locs ls C hO hP hS hl
  obtain ⟨C', T, N, h2, h3, h5, h6, h7, h8⟩ := hF
  obtain ⟨k1, k2, k3⟩ := zcl_ok ci C' T N h2
  have hlen : j < (fs.mapIdx (fun j o' => gfl as (M o) j o')).length := by
    have := (List.getElem?_eq_some_iff.mp hj).1
    simpa using this
  have hm : meth.name = "<init>" := C.2.2.2.2.2.2.2.2.2.2.2.2.2.trans hin
  refine va_putF C.1 C.2.1 C.2.2.2.2.2.2.1 k1 (zTy ci) k2 k3 C.2.2.2.2.2.1 C.2.2.2.2.2.2.2.1 hP (gW_D hO) hS o (gW_get ho) h2 j h3 (C.2.2.2.2.2.2.1 _ h5) (fun _ h9 => h9) h6 hm h8 h7 (hty _).1 (hty _).2 hlen (hY k _ _ _ hc).1 (fun H1 locs1 hP1 hD1 hS1 => ?_)
  have e1 : (gW cI cZ as L M).set o (as o, .inr (ci, (fs.mapIdx (fun j o' => gfl as (M o) j o')).set j (.ref (as i)))) = gW cI cZ as L1 M := by
    refine gW_set (sh' := .inr (ci, fs.set j (some (some i)))) ho hL1 ?_ (fun i hi => rfl)
    show Sum.inr _ = Sum.inr _
    congr 2
    apply List.ext_getElem?
    intro q
    by_cases e : q = j
    · subst e
      rw [List.getElem?_set_self hlen, List.getElem?_mapIdx, List.getElem?_set_self (List.getElem?_eq_some_iff.mp hj).1]
      rfl
    · rw [List.getElem?_set_ne (Ne.symm e), List.getElem?_mapIdx, List.getElem?_mapIdx, List.getElem?_set_ne (Ne.symm e)]
  have hP1 : va_P (dC, dI) zcl ((gW cI cZ as L M).set o (as o, .inr (ci, (fs.mapIdx (fun j o' => gfl as (M o) j o')).set j (.ref (as i))))) H1 := hP1
  rw [e1] at hP1
  have hlL : L1.length = L.length := by rw [hL1]; simp
  have h := g p l e R s m args below meth c dC dI cI cZ A as H1 locs1 ls C (by rw [hlL]; exact hO) hP1 hS1 hl
  rw [zpc_succ hc, hlL] at h
  exact h
theorem nn_getR {o j idx ci i : Nat} {fs : List (Option (Option Nat))} {ty : FieldType} {b : Bool} (hY : zOK Y) (hc : Y.2.2.2.2[k]? = some (.getfield idx, 3, t)) (hF : gF Y.1.cls idx ci j b ty) (ho : L[o]? = some (.inr (ci, fs))) (hj : fs[j]? = some (some (some i))) (g : nGo Y d mc ms (k + 1) al (.inr i :: st) L M cs sl L' M') : nGo Y d mc ms k al (.inr o :: st) L M cs sl L' M' := by
  intro p l e R s m args below meth c dC dI cI cZ A as H locs ls C hO hP hS hl
  obtain ⟨C', T, N, h2, h3, h5, h6, h7, h8⟩ := hF
  have h := g p l e R s m args below meth c dC dI cI cZ A as H locs ls C hO hP hS hl
  rw [zpc_succ hc] at h
  have hv : (fs.mapIdx (fun j o' => gfl as (M o) j o'))[j]? = some (.ref (as i)) := by rw [List.getElem?_mapIdx, hj]; rfl
  exact va_get C.1 C.2.1 C.2.2.2.2.2.2.1 (zcl_ok ci C' T N h2).1 C.2.2.2.2.2.1 C.2.2.2.2.2.2.2.1 hP o (gW_get ho) h2 j h3 (C.2.2.2.2.2.2.1 _ h5) (fun _ h9 => h9) hv (hY k _ _ _ hc).1 h
theorem nn_return (hY : zOK Y) (hc : Y.2.2.2.2[k]? = some (.return_, 1, t)) (hr : Y.2.2.2.1 = none) : nGo Y d mc ms k al [] L M mc ms L M := by
  intro p l e R s m args below meth c dC dI cI cZ A as H locs ls C hO hP hS hl
  exact W.vret C.1 C.2.1 (C.2.2.2.1.trans hr) (fun T hT hW => ⟨rfl, ⟨as, fun _ _ => rfl, hO, by rw [hT]; exact hP⟩, hS.F hT⟩) hS.2.2 (hY k _ _ _ hc).1 C.2.2.2.2.1
end NN
def nPre (dC : Nat → ClassId) (dI : Nat → Nat → Nat) (cI cZ : ClassId) (as : Nat → Nat) (sz : Nat) (L : List gSh) (M : zMem) (av : List zV) : Array Value → State → Prop := va_Pc (av.map (zcv as)) (fun U => U.heap.size = sz ∧ va_P (dC, dI) zcl (gW cI cZ as L M) U.heap ∧ va_K (dC, dI) zcl [(cI, .int), (cZ, .boolean)] U)
theorem nMet_of {Y : zY} {d mc ms : Nat} {av : List zV} {L L' : List gSh} {M M' : zMem} (hp : plainName Y.1.cls = true) (hn : av.length ≤ Y.2.2.1) (g : nGo Y d mc ms 0 (zal Y av) [] L M 0 0 L' M') (l : Launch) (dC : Nat → ClassId) (dI : Nat → Nat → Nat) (cI cZ : ClassId) (as : Nat → Nat) (sz : Nat) (hi : ∀ i j, i < L.length → j < L.length → as i = as j → i = j) :
    Met l Y.1 (zws Y) { frames := d, cells := mc, slots := ms, locals := 27 * d } (nPre dC dI cI cZ as sz L M av) (nPost dC dI cI cZ (gA L.length as sz) as L.length L' M') mc ms (gA L.length as sz) := by
  refine Met.ofW (cc := Y.2.1) (maxL := Y.2.2.1) (ret := Y.2.2.2.1) hp rfl ?_
  intro p e s m args below meth c s₁ B hml hv
  obtain ⟨rfl, hsz, hP, hK⟩ := hv
  subst hsz
  have hts := atoms_spec (ws := zws Y) B.pre
  have hl := lv_entry (av.map (zcv as)) (n := Y.2.2.1) (by rw [zsl]; exact hn)
  rw [lg_entry_eq]
  generalize (lg_sl (av.map (zcv as)) ++ List.replicate (Y.2.2.1 - (lg_sl (av.map (zcv as))).length) Slot.unset).toArray = ls at hl ⊢
  have hz : zloc as ls Y.2.2.1 (zal Y av) := by
    refine ⟨by simp [zal]; omega, hl.1, hl.2.1, fun i v h => ?_⟩
    have hi2 : i < av.length := by
      by_cases q : i < av.length
      · exact q
      · simp only [zal] at h
        rw [List.getElem?_append_right (by simp; omega)] at h
        obtain ⟨_, h2⟩ := List.getElem?_eq_some_iff.mp h
        simp at h2
    have h3 : av[i]? = some v := by
      simp only [zal] at h
      rw [List.getElem?_append_left (by simpa using hi2)] at h
      rw [List.getElem?_map] at h
      cases hq : av[i]? with
      | none => rw [hq] at h; cases h
      | some w => rw [hq] at h; cases h; rfl
    have h4 := zargs (av.map (zcv as)) 0 i (zcv as v) (fun w hw => by obtain ⟨x, -, rfl⟩ := List.mem_map.mp hw; exact zcv_cat as x) (by rw [List.getElem?_map, h3]; rfl)
    have h5 := hl.2.2 _ h4
    simpa using h5
  have key := g p l e { frames := d, cells := mc, slots := ms, locals := 27 * d } s m _ below meth c dC dI cI cZ (gA L.length as s.heap.size) as s.heap [] ls ⟨B.exec, B.bytes, hml, B.returns, B.notSynchronized, findClass_of_methodNamed B.named, fun w hw => hts w (List.mem_cons_of_mem _ hw), hK, fun q hq => Or.inr hq, Nat.le_refl _, Nat.le_refl _, Nat.le_refl _, Nat.le_refl _, (name_of_methodNamed B.named B.method).1⟩ ⟨hi, fun i hi => Or.inl ⟨i, hi, rfl⟩⟩ hP va_S.rf hz
  rw [zpc_zero] at key
  exact key
section NC
variable {Y Y' : zY} {d d' mc ms mc' ms' k t n idx o cs sl : Nat} {al : List (Option zV)} {av rest st : List zV} {L L1 L' : List gSh} {M M1 M' : zMem}
theorem nblind {dC : Nat → ClassId} {dI : Nat → Nat → Nat} {cI cZ : ClassId} {as : Nat → Nat} {sz : Nat} : FrameBlind (nPre dC dI cI cZ as sz L M av) := fun a U g mk q => by
  obtain ⟨q0, q1, qP, qK⟩ := q
  exact ⟨q0, q1, qP, va_K.moved (u := U) (U := U.calling g mk a) (Vm.Alike.refl U.vm) qK⟩
/-- behind a constructor's call, from any walk -/
theorem nafter {p : Program} {l : Launch} {e : Env} {R : Room} {s : State} {m : MethodId} {args : Array Value} {below : List Frame} {meth : Method} {c : Code} {dC : Nat → ClassId} {dI : Nat → Nat → Nat} {cI cZ : ClassId} {A : Nat → Prop} {as : Nat → Nat} {H : Heap} {locs : List Loc} {ls : Array Slot} {a : Array Value} {st0 rs : List Value} {Q : State → Prop} {pc : Nat}
    (hS : va_S A s.heap H locs) (hO : gOK A as L.length) (hA : ∀ q, s.heap.size ≤ q → A q)
    (hr : va_Run p l e R s m args below meth c H locs cs sl mc' ms' (F0 m pc ls st0) rs (nPost dC dI cI cZ (gA L.length as H.size) as L.length L1 M1 a) (gA L.length as H.size))
    (kk : ∀ (as1 : Nat → Nat) (H1 : Heap) (locs1 : List Loc), (∀ i, i < L.length → as1 i = as i) → gOK A as1 L1.length → va_P (dC, dI) zcl (gW cI cZ as1 L1 M1) H1 → va_S A s.heap H1 locs1 → W p l e R s m args below meth c H1 locs1 (cs + mc') (sl + ms') Q (F0 m (pc + 3) ls rs)) :
    W p l e R s m args below meth c H locs cs sl Q (F0 m pc ls st0) := by
  intro T hT X
  obtain ⟨v, st₀, t, T', Lc, h0, X', hL, e1, e2, ⟨hv, ⟨as1, q1, q2, q3⟩, hz, hk⟩, st⟩ := hr T hT X
  cases hv
  rw [h0] at hz hk
  have hsub : ∀ q, gA L.length as H.size q → A q := fun q hq => by
    rcases hq with ⟨i, hi, rfl⟩ | h
    · exact hO.2 i hi
    · exact hA q (Nat.le_trans hS.1 h)
  obtain ⟨t2, a1, b1⟩ := kk as1 T'.heap (locs ++ Lc) q1 ⟨q2.1, fun i hi => hsub _ (q2.2 i hi)⟩ (by rw [e1]; exact q3)
    ⟨Nat.le_trans hS.1 (by rw [e1]; exact hz), fun q h1 h2 => by rw [e1, hk q (Nat.lt_of_lt_of_le h1 hS.1) (fun z => h2 (hsub q z))]; exact hS.2.1 q h1 h2, fun q hq => by
      rcases List.mem_append.mp hq with h | h
      · exact hS.2.2 q h
      · exact hsub _ (hL q h)⟩ T' rfl X'
  exact ⟨t2, st t2 a1, b1⟩
def nMk (Y : zY) (n : Nat) : Prop := zMk Y n ∧ Cond.instanceMethod Y.1 ∈ ztbl ∧ Y.1.name = "<init>" ∧ Y.2.2.2.1 = none ∧ n + 1 ≤ Y.2.2.1
theorem nn_ctor (hY : zOK Y) (hc : Y.2.2.2.2[k]? = some (.invokespecial idx, 3, t)) (hw : Cond.methodLink Y.1.cls idx Y'.1 ∈ ztbl) (hM : nMk Y' n) (hn : av.length = n) (g1 : nGo Y' d' mc' ms' 0 (zal Y' (.inr o :: av)) [] L M 0 0 L1 M1) (hd : d' + 1 ≤ d) (hcs : cs + mc' ≤ mc) (hsl : sl + ms' ≤ ms) (hrest : rest.length ≤ 8) (hst : av.reverse ++ .inr o :: rest = st) (hlen : L.length ≤ L1.length)
    (g : nGo Y d mc ms (k + 1) al rest L1 M1 (cs + mc') (sl + ms') L' M') (hlo : ∀ (i : Nat) (o : Nat), al[i]? = some (some (.inr o)) → o < L.length) (hso : ∀ o, Sum.inr o ∈ rest → o < L.length) : nGo Y d mc ms k al st L M cs sl L' M' := by
  subst hst
  intro p l e R s m args below meth c dC dI cI cZ A as H locs ls C hO hP hS hl
  obtain ⟨⟨w1, w2, w3, w4, w5⟩, w6, w7, w8, w9⟩ := hM
  obtain ⟨hx, hb, hml, hr, hlk, hown, hT, hK, hA, hR1, hR2, hR3, hR4, hnm⟩ := id C
  have hMet := nMet_of (av := .inr o :: av) w4 (by simp; omega) g1 l dC dI cI cZ as H.size hO.1
  have hws : zws Y' = Cond.code Y'.1 Y'.2.1 Y'.2.2.1 none :: ztbl := by unfold zws; rw [w8]
  refine nafter (L1 := L1) (M1 := M1) (cs := cs) (sl := sl) (mc' := mc') (ms' := ms') (dC := dC) (dI := dI) (cI := cI) (cZ := cZ) hS hO hA
    (va_runI (As := av.map (zcv as)) (rest := rest.map (zcv as)) (b := as o) (n := n) (index := idx) (own := Y.1.cls) (Ts := ztbl) (nL := Y.2.2.1) ⟨hx, hb, hml, hown, hT⟩ hMet
      ⟨callB_of n hT (zgoodIn.mpr w2) hws rfl rfl (hT _ w1) (hT _ hw) w3 ⟨by show d' + 1 ≤ R.frames; omega, by show 8 + (Y'.2.2.1 + 11) + 27 * d' ≤ R.locals; omega⟩, w7, hT _ w6⟩
      ⟨nblind, fun U hU hW => ⟨rfl, by rw [hU], by rw [hU]; exact hP, va_K.moved hW.alike hK⟩⟩
      rfl (by simpa using hn) hl.2.1 (by simp [zcv]) (lv_room (by rw [zsum]; exact hrest)) (hY k _ _ _ hc).1 ⟨by omega, by omega⟩) (fun as1 H1 locs1 q1 q2 hP1 hS1 => ?_)
  have hl1 : zloc as1 ls Y.2.2.1 al := ⟨hl.1, hl.2.1, hl.2.2.1, fun i v hv => by
    rw [hl.2.2.2 i v hv]
    cases v with
    | inl x => rfl
    | inr o =>
      show some (Slot.val (.ref (as o))) = some (Slot.val (.ref (as1 o)))
      rw [q1 o (hlo i o hv)]⟩
  have h := g p l e R s m args below meth c dC dI cI cZ A as1 H1 locs1 ls C q2 hP1 hS1 hl1
  rw [zpc_succ hc] at h
  have hst : List.map (zcv as1) rest = List.map (zcv as) rest := by
    apply List.map_congr_left
    intro v hv
    cases v with
    | inl x => rfl
    | inr o => simp only [zcv]; rw [q1 o (hso o hv)]
  rw [hst] at h
  refine W.mono (fun t ht => ?_) h
  obtain ⟨o, h1, h2, ⟨h3, ⟨as2, h4, h5, h6⟩, h7⟩, h8⟩ := ht
  exact ⟨o, h1, h2, ⟨h3, ⟨as2, fun i hi => by rw [h4 i (by omega)]; exact q1 i hi, h5, h6⟩, h7⟩, h8⟩
end NC
def glo (n : Nat) : List (Option zV) → Bool := fun al => al.all (fun x => match x with | some (.inr o) => decide (o < n) | _ => true)
def gso (n : Nat) : List zV → Bool := fun st => st.all (fun x => match x with | .inr o => decide (o < n) | _ => true)
theorem glo_ok {n : Nat} {al : List (Option zV)} (h : glo n al = true) (i o : Nat) (hi : al[i]? = some (some (.inr o))) : o < n := by
  have := List.all_eq_true.mp h _ (List.mem_of_getElem? hi)
  simpa using this
theorem gso_ok {n : Nat} {st : List zV} (h : gso n st = true) (o : Nat) (ho : Sum.inr o ∈ st) : o < n := by
  have := List.all_eq_true.mp h _ ho
  simpa using this
section NW
variable {Y Y' : zY} {d d' mc ms mc' ms' k t n0 n idx o cs sl cs2 sl2 N : Nat} {al : List (Option zV)} {av rest st : List zV} {L L1 L2 L' : List gSh} {M M1 M' : zMem}
theorem nw_newI {n : Int32} (hY : zOK Y) (hc : Y.2.2.2.2[k]? = some (.newarray .int, 2, t)) (hw : Cond.arrayClass .int ∈ ztbl) (hN : ¬ n < 0 ∧ n.toNatClampNeg = N) (hb : N ≤ 65536 ∧ cs + 1 ≤ mc ∧ sl + N ≤ ms ∧ cs + 1 = cs2 ∧ sl + N = sl2) (hL : L.length = n0 ∧ L ++ [.inl (false, N)] = L2 ∧ L.all (gok n0) = true) (hs : glo n0 al = true ∧ gso n0 st = true) (hM : M n0 = fun _ => 0) (g : nGo Y d mc ms (k + 1) al (.inr n0 :: st) L2 M cs2 sl2 L' M') : nGo Y d mc ms k al (.inl n :: st) L M cs sl L' M' := by
  obtain ⟨rfl, rfl, h3⟩ := hL
  obtain ⟨b1, b2, b3, rfl, rfl⟩ := hb
  exact nn_newarr hY hc (Or.inl ⟨rfl, rfl, rfl⟩) hw hN.1 hN.2 b1 b2 b3 h3 hM g (glo_ok hs.1) (gso_ok hs.2)
theorem nw_newZ {n : Int32} (hY : zOK Y) (hc : Y.2.2.2.2[k]? = some (.newarray .boolean, 2, t)) (hw : Cond.arrayClass .boolean ∈ ztbl) (hN : ¬ n < 0 ∧ n.toNatClampNeg = N) (hb : N ≤ 65536 ∧ cs + 1 ≤ mc ∧ sl + N ≤ ms ∧ cs + 1 = cs2 ∧ sl + N = sl2) (hL : L.length = n0 ∧ L ++ [.inl (true, N)] = L2 ∧ L.all (gok n0) = true) (hs : glo n0 al = true ∧ gso n0 st = true) (hM : M n0 = fun _ => 0) (g : nGo Y d mc ms (k + 1) al (.inr n0 :: st) L2 M cs2 sl2 L' M') : nGo Y d mc ms k al (.inl n :: st) L M cs sl L' M' := by
  obtain ⟨rfl, rfl, h3⟩ := hL
  obtain ⟨b1, b2, b3, rfl, rfl⟩ := hb
  exact nn_newarr hY hc (Or.inr ⟨rfl, rfl, rfl⟩) hw hN.1 hN.2 b1 b2 b3 h3 hM g (glo_ok hs.1) (gso_ok hs.2)
theorem nw_new {C : String} {T : u_T} {ci : Nat} {fs : List (Option (Option Nat))} (hY : zOK Y) (hc : Y.2.2.2.2[k]? = some (.new idx, 3, t)) (hcl : zcl[ci]? = some (C, T, N)) (hw : Cond.classLink Y.1.cls idx C ∈ ztbl ∧ Cond.instantiable C N ∈ ztbl ∧ Cond.initialized C ∈ ztbl) (hfs : ∀ j, j < N → defaultValue (zTy ci j) = vp_V (fs.map gdv) j) (hnr : fs.all (fun o => match o with | some (some _) => false | _ => true) = true) (hb : cs + 1 ≤ mc ∧ sl + N ≤ ms ∧ cs + 1 = cs2 ∧ sl + N = sl2) (hL : L.length = n0 ∧ L ++ [.inr (ci, fs)] = L2 ∧ L.all (gok n0) = true) (hs : glo n0 al = true ∧ gso n0 st = true) (hM : M n0 = fun _ => 0) (g : nGo Y d mc ms (k + 1) al (.inr n0 :: st) L2 M cs2 sl2 L' M') : nGo Y d mc ms k al st L M cs sl L' M' := by
  obtain ⟨rfl, rfl, h3⟩ := hL
  obtain ⟨b2, b3, rfl, rfl⟩ := hb
  exact nn_new hY hc hcl hw hfs hnr b2 b3 h3 hM g (glo_ok hs.1) (gso_ok hs.2)
theorem nw_putN {j ci : Nat} {fs : List (Option (Option Nat))} {ty : FieldType} {x : Int32} (hY : zOK Y) (hc : Y.2.2.2.2[k]? = some (.putfield idx, 3, t)) (hF : gF Y.1.cls idx ci j false ty) (ho : L[o]? = some (.inr (ci, fs)) ∧ fs[j]? = some none) (hn : narrow ty (.int x) = .int x ∧ fits ty (.int x) = true) (hM : zup M o j x = M1) (g : nGo Y d mc ms (k + 1) al st L M1 cs sl L' M') : nGo Y d mc ms k al (.inl x :: .inr o :: st) L M cs sl L' M' := by
  subst hM
  exact nn_putN hY hc hF ho.1 ho.2 hn.1 hn.2 g
theorem nw_putR {j ci i : Nat} {fs : List (Option (Option Nat))} {ty : FieldType} (hY : zOK Y) (hc : Y.2.2.2.2[k]? = some (.putfield idx, 3, t)) (hF : gF Y.1.cls idx ci j true ty) (hin : Y.1.name = "<init>") (ho : L[o]? = some (.inr (ci, fs)) ∧ fs[j]? = some (some none)) (hty : ∀ a : Nat, narrow ty (.ref a) = .ref a ∧ fits ty (.ref a) = true) (hL1 : L.set o (.inr (ci, fs.set j (some (some i)))) = L1) (g : nGo Y d mc ms (k + 1) al st L1 M cs sl L' M') : nGo Y d mc ms k al (.inr i :: .inr o :: st) L M cs sl L' M' :=
  nn_putR hY hc hF hin ho.1 ho.2 hty hL1.symm g
theorem nw_ctor (hY : zOK Y) (hc : Y.2.2.2.2[k]? = some (.invokespecial idx, 3, t)) (hw : Cond.methodLink Y.1.cls idx Y'.1 ∈ ztbl) (hM : nMk Y' n) (hn : av.length = n) (g1 : nGo Y' d' mc' ms' 0 (zal Y' (.inr o :: av)) [] L M 0 0 L1 M1) (hb : d' + 1 ≤ d ∧ cs + mc' ≤ mc ∧ sl + ms' ≤ ms ∧ cs + mc' = cs2 ∧ sl + ms' = sl2) (hrest : rest.length ≤ 8) (hst : av.reverse ++ .inr o :: rest = st) (hlen : L.length ≤ L1.length) (hs : glo L.length al = true ∧ gso L.length rest = true)
    (g : nGo Y d mc ms (k + 1) al rest L1 M1 cs2 sl2 L' M') : nGo Y d mc ms k al st L M cs sl L' M' := by
  obtain ⟨b1, b2, b3, rfl, rfl⟩ := hb
  exact nn_ctor hY hc hw hM hn g1 b1 b2 b3 hrest hst hlen g (glo_ok hs.1) (gso_ok hs.2)
end NW
theorem gref_ok (t : FieldType) (h : t = .array .int ∨ t = .array .boolean ∨ ∃ C, t = .object C) : ∀ a : Nat, narrow t (.ref a) = .ref a ∧ fits t (.ref a) = true := by
  intro a
  rcases h with rfl | rfl | ⟨C, rfl⟩ <;> exact ⟨rfl, rfl⟩
