abbrev zY : Type := MethodName × ByteArray × Nat × Option FieldType × List (Instr × Nat × Nat)
def zpc : List (Instr × Nat × Nat) → Nat → Nat
  | _, 0 => 0
  | [], _ + 1 => 0
  | q :: t, k + 1 => q.2.1 + zpc t k
theorem zpc_succ : ∀ {l : List (Instr × Nat × Nat)} {k : Nat} {q : Instr × Nat × Nat}, l[k]? = some q → zpc l (k + 1) = zpc l k + q.2.1
  | [], k, q, h => by simp at h
  | a :: t, 0, q, h => by simp at h; subst h; simp [zpc]
  | a :: t, k + 1, q, h => by
    have h1 : t[k]? = some q := by simpa using h
    have := zpc_succ h1
    show a.2.1 + zpc t (k + 1) = a.2.1 + zpc t k + q.2.1
    omega
def zoff : Instr → Option Int
  | .goto o => some o
  | .if_icmp _ o => some o
  | .ifCond _ o => some o
  | _ => none
def zOK (Y : zY) : Prop := ∀ (k : Nat) (i : Instr) (n t : Nat), Y.2.2.2.2[k]? = some (i, n, t) → decode Y.2.1 (zpc Y.2.2.2.2 k) = .ok (i, n) ∧ ∀ off, zoff i = some off → ((zpc Y.2.2.2.2 k : Nat) : Int) + off = ((zpc Y.2.2.2.2 t : Nat) : Int)
def zchk (b : ByteArray) (all : List (Instr × Nat × Nat)) : Nat → List (Instr × Nat × Nat) → Bool
  | _, [] => true
  | pc, (i, n, t) :: r => decide (decode b pc = .ok (i, n)) && (match zoff i with | none => true | some off => decide (((pc : Nat) : Int) + off = ((zpc all t : Nat) : Int))) && zchk b all (pc + n) r
theorem zchk_get {b : ByteArray} {all : List (Instr × Nat × Nat)} : ∀ (r : List (Instr × Nat × Nat)) (pc : Nat), zchk b all pc r = true → ∀ (k : Nat) (i : Instr) (n t : Nat), r[k]? = some (i, n, t) → decode b (pc + zpc r k) = .ok (i, n) ∧ ∀ off, zoff i = some off → ((pc + zpc r k : Nat) : Int) + off = ((zpc all t : Nat) : Int)
  | [], pc, _, k, i, n, t, h => by simp at h
  | (i0, n0, t0) :: r, pc, hz, k, i, n, t, h => by
    simp only [zchk, Bool.and_eq_true, decide_eq_true_eq] at hz
    cases k with
    | zero =>
      simp at h
      obtain ⟨rfl, rfl, rfl⟩ := h
      refine ⟨by simpa [zpc] using hz.1.1, fun off ho => ?_⟩
      have h2 := hz.1.2
      rw [ho] at h2
      simpa [zpc] using h2
    | succ k =>
      have h1 : r[k]? = some (i, n, t) := by simpa using h
      have ih := zchk_get r (pc + n0) hz.2 k i n t h1
      have e : pc + zpc ((i0, n0, t0) :: r) (k + 1) = pc + n0 + zpc r k := by simp [zpc]; omega
      rw [e]
      exact ih
theorem zOK_of {Y : zY} (h : zchk Y.2.1 Y.2.2.2.2 0 Y.2.2.2.2 = true) : zOK Y := fun k i n t hk => by
  have := zchk_get _ 0 h k i n t hk
  simpa using this
def zloc (as : Nat → Nat) (ls : Array Slot) (nL : Nat) (al : List (Option zV)) : Prop := al.length = nL ∧ ls.size = nL ∧ lv_wf ls ∧ ∀ (i : Nat) (v : zV), al[i]? = some (some v) → ls[i]? = some (.val (zcv as v))
def zll (as : Nat → Nat) (al : List (Option zV)) : List (Nat × Value) := (List.range al.length).filterMap (fun i => match al[i]? with | some (some v) => some (i, zcv as v) | _ => none)
theorem zcv_cat (as : Nat → Nat) (v : zV) : (zcv as v).category = 1 := by cases v <;> rfl
theorem zll_mem {as : Nat → Nat} {al : List (Option zV)} {q : Nat × Value} : q ∈ zll as al ↔ ∃ v, al[q.1]? = some (some v) ∧ q.2 = zcv as v := by
  simp only [zll, List.mem_filterMap, List.mem_range]
  constructor
  · rintro ⟨i, hi, h⟩
    split at h
    · rename_i v hv
      cases h
      exact ⟨v, hv, rfl⟩
    · cases h
  · rintro ⟨v, h1, h2⟩
    have hl := (List.getElem?_eq_some_iff.mp h1).1
    exact ⟨q.1, hl, by rw [h1]; show some (q.1, zcv as v) = some q; rw [← h2]⟩
theorem zloc.has {as : Nat → Nat} {ls : Array Slot} {nL : Nat} {al : List (Option zV)} (h : zloc as ls nL al) : lv_has ls nL (zll as al) := ⟨h.2.1, h.2.2.1, fun q hq => by
  obtain ⟨v, h1, h2⟩ := zll_mem.mp hq
  rw [h2]
  exact h.2.2.2 _ _ h1⟩
theorem zloc.put {as : Nat → Nat} {ls ls' : Array Slot} {nL i : Nat} {al : List (Option zV)} {v : zV} (h : zloc as ls nL al) (hi : i < al.length) (h' : lv_has ls' nL ((i, zcv as v) :: (zll as al).filter (fun q => !(q.1 == i) && !(q.1 + 1 == i && q.2.category == 2)))) : zloc as ls' nL (al.set i (some v)) := by
  refine ⟨by simpa using h.1, h'.1, h'.2.1, fun j w hj => ?_⟩
  by_cases e : j = i
  · subst e
    rw [List.getElem?_set_self hi] at hj
    cases hj
    exact h'.2.2 (j, zcv as v) List.mem_cons_self
  · rw [List.getElem?_set_ne (Ne.symm e)] at hj
    refine h'.2.2 (j, zcv as w) (List.mem_cons_of_mem _ (List.mem_filter.mpr ⟨zll_mem.mpr ⟨w, hj, rfl⟩, ?_⟩))
    simp [e, zcv_cat]
def zPost (dC : Nat → ClassId) (dI : Nat → Nat → Nat) (cI cZ : ClassId) (as : Nat → Nat) (r : Option Int32) (M : zMem) : Array Value → State → Outcome → State → Prop := fun _ st o t => o = .returned (r.map Value.int) ∧ va_P (dC, dI) zcl (zW cI cZ as M) t.heap ∧ va_F (zA as st.heap.size) st t
def zCx (p : Program) (R : Room) (s : State) (m : MethodId) (args : Array Value) (meth : Method) (c : Code) (Y : zY) (d : Nat) (dC : Nat → ClassId) (dI : Nat → Nat → Nat) (cI cZ : ClassId) (as : Nat → Nat) : Prop :=
  p.tables.exec = Jvm.exec ∧ c.code = Y.2.1 ∧ c.maxLocals = Y.2.2.1 ∧ meth.sig.returnType = Y.2.2.2.1 ∧ meth.locks = false ∧ s.vm.findClass Y.1.cls = some m.cls ∧ (∀ w ∈ ztbl, w.before args s = true) ∧ va_K (dC, dI) zcl [(cI, .int), (cZ, .boolean)] s ∧ zInj as ∧ d ≤ R.frames ∧ 27 * d ≤ R.locals
/-- from instruction k of Y, with these locals, stack and memory, Y returns r with the memory M' -/
def zGo (Y : zY) (d k : Nat) (al : List (Option zV)) (st : List zV) (M : zMem) (r : Option Int32) (M' : zMem) : Prop :=
  ∀ (p : Program) (l : Launch) (e : Env) (R : Room) (s : State) (m : MethodId) (args : Array Value) (below : List Frame) (meth : Method) (c : Code) (dC : Nat → ClassId) (dI : Nat → Nat → Nat) (cI cZ : ClassId) (as : Nat → Nat) (H : Heap) (locs : List Loc) (ls : Array Slot),
    zCx p R s m args meth c Y d dC dI cI cZ as → va_P (dC, dI) zcl (zW cI cZ as M) H → va_S (zA as s.heap.size) s.heap H locs → zloc as ls Y.2.2.1 al →
    W p l e R s m args below meth c H locs 0 0 (MQ below (zPost dC dI cI cZ as r M') args s 0 0 (zA as s.heap.size)) (F0 m (zpc Y.2.2.2.2 k) ls (st.map (zcv as)))
section GO
variable {Y : zY} {d k t : Nat} {al : List (Option zV)} {st : List zV} {M M' : zMem} {r : Option Int32}
theorem go_iload_n {j : Fin 4} {x : Int32} (hY : zOK Y) (hc : Y.2.2.2.2[k]? = some (.iload_n j, 1, t)) (hv : al[(j : Nat)]? = some (some (.inl x))) (g : zGo Y d (k + 1) al (.inl x :: st) M r M') : zGo Y d k al (st) M r M' := by
  intro p l e R s m args below meth c dC dI cI cZ as H locs ls C hP hS hl
  have hx := C.1
  have hb := C.2.1
  have hd := (hY k _ _ _ hc).1
  have h := g p l e R s m args below meth c dC dI cI cZ as H locs ls C hP hS hl
  rw [zpc_succ hc] at h
  exact lv_iload_n hx hb hd rfl (hl.2.2.2 _ _ hv) h
theorem go_iload {j : Nat} {x : Int32} (hY : zOK Y) (hc : Y.2.2.2.2[k]? = some (.iload j, 2, t)) (hv : al[j]? = some (some (.inl x))) (g : zGo Y d (k + 1) al (.inl x :: st) M r M') : zGo Y d k al (st) M r M' := by
  intro p l e R s m args below meth c dC dI cI cZ as H locs ls C hP hS hl
  have hx := C.1
  have hb := C.2.1
  have hd := (hY k _ _ _ hc).1
  have h := g p l e R s m args below meth c dC dI cI cZ as H locs ls C hP hS hl
  rw [zpc_succ hc] at h
  exact lv_iload hx hb hd (hl.2.2.2 _ _ hv) h
theorem go_aload_n {j : Fin 4} {x : Nat} (hY : zOK Y) (hc : Y.2.2.2.2[k]? = some (.aload_n j, 1, t)) (hv : al[(j : Nat)]? = some (some (.inr x))) (g : zGo Y d (k + 1) al (.inr x :: st) M r M') : zGo Y d k al (st) M r M' := by
  intro p l e R s m args below meth c dC dI cI cZ as H locs ls C hP hS hl
  have hx := C.1
  have hb := C.2.1
  have hd := (hY k _ _ _ hc).1
  have h := g p l e R s m args below meth c dC dI cI cZ as H locs ls C hP hS hl
  rw [zpc_succ hc] at h
  exact lv_aload_n hx hb hd rfl (hl.2.2.2 _ _ hv) h
theorem go_aload {j : Nat} {x : Nat} (hY : zOK Y) (hc : Y.2.2.2.2[k]? = some (.aload j, 2, t)) (hv : al[j]? = some (some (.inr x))) (g : zGo Y d (k + 1) al (.inr x :: st) M r M') : zGo Y d k al (st) M r M' := by
  intro p l e R s m args below meth c dC dI cI cZ as H locs ls C hP hS hl
  have hx := C.1
  have hb := C.2.1
  have hd := (hY k _ _ _ hc).1
  have h := g p l e R s m args below meth c dC dI cI cZ as H locs ls C hP hS hl
  rw [zpc_succ hc] at h
  exact lv_aload hx hb hd (hl.2.2.2 _ _ hv) h
theorem go_iconst {n : Int} {v : Int32} (hY : zOK Y) (hc : Y.2.2.2.2[k]? = some (.iconst n, 1, t)) (hv : Int32.ofInt n = v) (g : zGo Y d (k + 1) al (.inl v :: st) M r M') : zGo Y d k al (st) M r M' := by
  intro p l e R s m args below meth c dC dI cI cZ as H locs ls C hP hS hl
  have hx := C.1
  have hb := C.2.1
  have hd := (hY k _ _ _ hc).1
  have h := g p l e R s m args below meth c dC dI cI cZ as H locs ls C hP hS hl
  rw [zpc_succ hc] at h
  exact lv_iconst hx hb hd hv h
theorem go_bipush {n : Int} {v : Int32} (hY : zOK Y) (hc : Y.2.2.2.2[k]? = some (.bipush n, 2, t)) (hv : (Int8.ofInt n).toInt32 = v) (g : zGo Y d (k + 1) al (.inl v :: st) M r M') : zGo Y d k al (st) M r M' := by
  intro p l e R s m args below meth c dC dI cI cZ as H locs ls C hP hS hl
  have hx := C.1
  have hb := C.2.1
  have hd := (hY k _ _ _ hc).1
  have h := g p l e R s m args below meth c dC dI cI cZ as H locs ls C hP hS hl
  rw [zpc_succ hc] at h
  exact lv_bipush hx hb hd hv h
theorem go_sipush {n : Int} {v : Int32} (hY : zOK Y) (hc : Y.2.2.2.2[k]? = some (.sipush n, 3, t)) (hv : (Int16.ofInt n).toInt32 = v) (g : zGo Y d (k + 1) al (.inl v :: st) M r M') : zGo Y d k al (st) M r M' := by
  intro p l e R s m args below meth c dC dI cI cZ as H locs ls C hP hS hl
  have hx := C.1
  have hb := C.2.1
  have hd := (hY k _ _ _ hc).1
  have h := g p l e R s m args below meth c dC dI cI cZ as H locs ls C hP hS hl
  rw [zpc_succ hc] at h
  exact lv_sipush hx hb hd hv h
theorem go_ldc {n : Nat} {v : Int32} (hY : zOK Y) (hc : Y.2.2.2.2[k]? = some (.ldc n, 2, t)) (hw : Cond.constant Y.1.cls n v ∈ ztbl) (g : zGo Y d (k + 1) al (.inl v :: st) M r M') : zGo Y d k al (st) M r M' := by
  intro p l e R s m args below meth c dC dI cI cZ as H locs ls C hP hS hl
  have hx := C.1
  have hb := C.2.1
  have hd := (hY k _ _ _ hc).1
  have h := g p l e R s m args below meth c dC dI cI cZ as H locs ls C hP hS hl
  rw [zpc_succ hc] at h
  exact lv_ldc hx hb C.2.2.2.2.2.1 (C.2.2.2.2.2.2.1 _ hw) hd h
theorem go_iadd {x y : Int32} (hY : zOK Y) (hc : Y.2.2.2.2[k]? = some (.iadd, 1, t))  (g : zGo Y d (k + 1) al (.inl (x + y) :: st) M r M') : zGo Y d k al (.inl y :: .inl x :: st) M r M' := by
  intro p l e R s m args below meth c dC dI cI cZ as H locs ls C hP hS hl
  have hx := C.1
  have hb := C.2.1
  have hd := (hY k _ _ _ hc).1
  have h := g p l e R s m args below meth c dC dI cI cZ as H locs ls C hP hS hl
  rw [zpc_succ hc] at h
  exact lv_iadd hx hb hd h
theorem go_isub {x y : Int32} (hY : zOK Y) (hc : Y.2.2.2.2[k]? = some (.isub, 1, t))  (g : zGo Y d (k + 1) al (.inl (x - y) :: st) M r M') : zGo Y d k al (.inl y :: .inl x :: st) M r M' := by
  intro p l e R s m args below meth c dC dI cI cZ as H locs ls C hP hS hl
  have hx := C.1
  have hb := C.2.1
  have hd := (hY k _ _ _ hc).1
  have h := g p l e R s m args below meth c dC dI cI cZ as H locs ls C hP hS hl
  rw [zpc_succ hc] at h
  exact lv_isub hx hb hd h
theorem go_imul {x y : Int32} (hY : zOK Y) (hc : Y.2.2.2.2[k]? = some (.imul, 1, t))  (g : zGo Y d (k + 1) al (.inl (x * y) :: st) M r M') : zGo Y d k al (.inl y :: .inl x :: st) M r M' := by
  intro p l e R s m args below meth c dC dI cI cZ as H locs ls C hP hS hl
  have hx := C.1
  have hb := C.2.1
  have hd := (hY k _ _ _ hc).1
  have h := g p l e R s m args below meth c dC dI cI cZ as H locs ls C hP hS hl
  rw [zpc_succ hc] at h
  exact lv_imul hx hb hd h
theorem go_iand {x y : Int32} (hY : zOK Y) (hc : Y.2.2.2.2[k]? = some (.iand, 1, t))  (g : zGo Y d (k + 1) al (.inl (x &&& y) :: st) M r M') : zGo Y d k al (.inl y :: .inl x :: st) M r M' := by
  intro p l e R s m args below meth c dC dI cI cZ as H locs ls C hP hS hl
  have hx := C.1
  have hb := C.2.1
  have hd := (hY k _ _ _ hc).1
  have h := g p l e R s m args below meth c dC dI cI cZ as H locs ls C hP hS hl
  rw [zpc_succ hc] at h
  exact lv_iand hx hb hd h
theorem go_ior {x y : Int32} (hY : zOK Y) (hc : Y.2.2.2.2[k]? = some (.ior, 1, t))  (g : zGo Y d (k + 1) al (.inl (x ||| y) :: st) M r M') : zGo Y d k al (.inl y :: .inl x :: st) M r M' := by
  intro p l e R s m args below meth c dC dI cI cZ as H locs ls C hP hS hl
  have hx := C.1
  have hb := C.2.1
  have hd := (hY k _ _ _ hc).1
  have h := g p l e R s m args below meth c dC dI cI cZ as H locs ls C hP hS hl
  rw [zpc_succ hc] at h
  exact lv_ior hx hb hd h
theorem go_ishl {x y : Int32} (hY : zOK Y) (hc : Y.2.2.2.2[k]? = some (.ishl, 1, t))  (g : zGo Y d (k + 1) al (.inl (x <<< (y &&& 31)) :: st) M r M') : zGo Y d k al (.inl y :: .inl x :: st) M r M' := by
  intro p l e R s m args below meth c dC dI cI cZ as H locs ls C hP hS hl
  have hx := C.1
  have hb := C.2.1
  have hd := (hY k _ _ _ hc).1
  have h := g p l e R s m args below meth c dC dI cI cZ as H locs ls C hP hS hl
  rw [zpc_succ hc] at h
  exact lv_ishl hx hb hd h
theorem go_ishr {x y : Int32} (hY : zOK Y) (hc : Y.2.2.2.2[k]? = some (.ishr, 1, t))  (g : zGo Y d (k + 1) al (.inl (x >>> (y &&& 31)) :: st) M r M') : zGo Y d k al (.inl y :: .inl x :: st) M r M' := by
  intro p l e R s m args below meth c dC dI cI cZ as H locs ls C hP hS hl
  have hx := C.1
  have hb := C.2.1
  have hd := (hY k _ _ _ hc).1
  have h := g p l e R s m args below meth c dC dI cI cZ as H locs ls C hP hS hl
  rw [zpc_succ hc] at h
  exact lv_ishr hx hb hd h
theorem go_idiv {x y : Int32} (hY : zOK Y) (hc : Y.2.2.2.2[k]? = some (.idiv, 1, t)) (hv : ¬ y = 0) (g : zGo Y d (k + 1) al (.inl (x / y) :: st) M r M') : zGo Y d k al (.inl y :: .inl x :: st) M r M' := by
  intro p l e R s m args below meth c dC dI cI cZ as H locs ls C hP hS hl
  have hx := C.1
  have hb := C.2.1
  have hd := (hY k _ _ _ hc).1
  have h := g p l e R s m args below meth c dC dI cI cZ as H locs ls C hP hS hl
  rw [zpc_succ hc] at h
  exact lv_idiv hx hb hd hv h
theorem go_irem {x y : Int32} (hY : zOK Y) (hc : Y.2.2.2.2[k]? = some (.irem, 1, t)) (hv : ¬ y = 0) (g : zGo Y d (k + 1) al (.inl (x - x / y * y) :: st) M r M') : zGo Y d k al (.inl y :: .inl x :: st) M r M' := by
  intro p l e R s m args below meth c dC dI cI cZ as H locs ls C hP hS hl
  have hx := C.1
  have hb := C.2.1
  have hd := (hY k _ _ _ hc).1
  have h := g p l e R s m args below meth c dC dI cI cZ as H locs ls C hP hS hl
  rw [zpc_succ hc] at h
  exact lv_irem hx hb hd hv h
theorem go_ineg {x : Int32} (hY : zOK Y) (hc : Y.2.2.2.2[k]? = some (.ineg, 1, t))  (g : zGo Y d (k + 1) al (.inl (-x) :: st) M r M') : zGo Y d k al (.inl x :: st) M r M' := by
  intro p l e R s m args below meth c dC dI cI cZ as H locs ls C hP hS hl
  have hx := C.1
  have hb := C.2.1
  have hd := (hY k _ _ _ hc).1
  have h := g p l e R s m args below meth c dC dI cI cZ as H locs ls C hP hS hl
  rw [zpc_succ hc] at h
  exact lv_ineg hx hb hd h
theorem go_dup {x : zV} (hY : zOK Y) (hc : Y.2.2.2.2[k]? = some (.dup, 1, t))  (g : zGo Y d (k + 1) al (x :: x :: st) M r M') : zGo Y d k al (x :: st) M r M' := by
  intro p l e R s m args below meth c dC dI cI cZ as H locs ls C hP hS hl
  have hx := C.1
  have hb := C.2.1
  have hd := (hY k _ _ _ hc).1
  have h := g p l e R s m args below meth c dC dI cI cZ as H locs ls C hP hS hl
  rw [zpc_succ hc] at h
  exact lv_dup hx hb hd (zcv_cat as x) h
theorem go_dup2 {x y : zV} (hY : zOK Y) (hc : Y.2.2.2.2[k]? = some (.dup2, 1, t))  (g : zGo Y d (k + 1) al (x :: y :: x :: y :: st) M r M') : zGo Y d k al (x :: y :: st) M r M' := by
  intro p l e R s m args below meth c dC dI cI cZ as H locs ls C hP hS hl
  have hx := C.1
  have hb := C.2.1
  have hd := (hY k _ _ _ hc).1
  have h := g p l e R s m args below meth c dC dI cI cZ as H locs ls C hP hS hl
  rw [zpc_succ hc] at h
  exact lv_dup2_11 hx hb hd (zcv_cat as x) (zcv_cat as y) h
theorem go_pop {x : zV} (hY : zOK Y) (hc : Y.2.2.2.2[k]? = some (.pop, 1, t))  (g : zGo Y d (k + 1) al (st) M r M') : zGo Y d k al (x :: st) M r M' := by
  intro p l e R s m args below meth c dC dI cI cZ as H locs ls C hP hS hl
  have hx := C.1
  have hb := C.2.1
  have hd := (hY k _ _ _ hc).1
  have h := g p l e R s m args below meth c dC dI cI cZ as H locs ls C hP hS hl
  rw [zpc_succ hc] at h
  exact lv_pop hx hb hd (zcv_cat as x) h
theorem go_istore_n {j : Fin 4} {x : Int32} (hY : zOK Y) (hc : Y.2.2.2.2[k]? = some (.istore_n j, 1, t)) (hj : (j : Nat) < al.length) (g : zGo Y d (k + 1) (al.set (j : Nat) (some (.inl x))) st M r M') : zGo Y d k al (.inl x :: st) M r M' := by
  intro p l e R s m args below meth c dC dI cI cZ as H locs ls C hP hS hl
  have hx := C.1
  have hb := C.2.1
  have hd := (hY k _ _ _ hc).1
  refine lv_istore_n hx hb hd rfl hl.has (by rw [← hl.1]; exact hj) rfl (fun ls' hl' => ?_)
  have h := g p l e R s m args below meth c dC dI cI cZ as H locs ls' C hP hS (hl.put (v := .inl x) hj hl')
  rw [zpc_succ hc] at h
  exact h
theorem go_istore {j : Nat} {x : Int32} (hY : zOK Y) (hc : Y.2.2.2.2[k]? = some (.istore j, 2, t)) (hj : (j : Nat) < al.length) (g : zGo Y d (k + 1) (al.set (j : Nat) (some (.inl x))) st M r M') : zGo Y d k al (.inl x :: st) M r M' := by
  intro p l e R s m args below meth c dC dI cI cZ as H locs ls C hP hS hl
  have hx := C.1
  have hb := C.2.1
  have hd := (hY k _ _ _ hc).1
  refine lv_istore hx hb hd hl.has (by rw [← hl.1]; exact hj) rfl (fun ls' hl' => ?_)
  have h := g p l e R s m args below meth c dC dI cI cZ as H locs ls' C hP hS (hl.put (v := .inl x) hj hl')
  rw [zpc_succ hc] at h
  exact h
theorem go_iinc {j : Nat} {n : Int} {x v : Int32} (hY : zOK Y) (hc : Y.2.2.2.2[k]? = some (.iinc j n, 3, t)) (hv : al[j]? = some (some (.inl x))) (he : x + Int32.ofInt n = v) (g : zGo Y d (k + 1) (al.set j (some (.inl v))) st M r M') : zGo Y d k al st M r M' := by
  intro p l e R s m args below meth c dC dI cI cZ as H locs ls C hP hS hl
  have hx := C.1
  have hb := C.2.1
  have hd := (hY k _ _ _ hc).1
  have hj : j < al.length := (List.getElem?_eq_some_iff.mp hv).1
  obtain ⟨q, hq⟩ := List.getElem?_of_mem (zll_mem (as := as) (q := (j, zcv as (.inl x))) |>.mpr ⟨.inl x, hv, rfl⟩)
  refine lv_iinc hx hb hd hl.has hq he (by rw [← hl.1]; exact hj) rfl (fun ls' hl' => ?_)
  have h := g p l e R s m args below meth c dC dI cI cZ as H locs ls' C hP hS (hl.put (v := .inl v) hj hl')
  rw [zpc_succ hc] at h
  exact h
theorem go_goto {off : Int} (hY : zOK Y) (hc : Y.2.2.2.2[k]? = some (.goto off, 3, t)) (g : zGo Y d t al st M r M') : zGo Y d k al st M r M' := by
  intro p l e R s m args below meth c dC dI cI cZ as H locs ls C hP hS hl
  have hx := C.1
  have hb := C.2.1
  have hd := (hY k _ _ _ hc).1
  exact lv_goto hx hb hd ((hY k _ _ _ hc).2 off rfl) (g p l e R s m args below meth c dC dI cI cZ as H locs ls C hP hS hl)
theorem go_icmp_eq {x y : Int32} {off : Int} (hY : zOK Y) (hc : Y.2.2.2.2[k]? = some (.if_icmp .eq off, 3, t)) (gt : x = y → zGo Y d t al st M r M') (gf : ¬ x = y → zGo Y d (k + 1) al st M r M') : zGo Y d k al (.inl y :: .inl x :: st) M r M' := by
  intro p l e R s m args below meth c dC dI cI cZ as H locs ls C hP hS hl
  have hx := C.1
  have hb := C.2.1
  have hd := (hY k _ _ _ hc).1
  refine lv_icmp_eq hx hb hd ((hY k _ _ _ hc).2 off rfl) (fun q => gt q p l e R s m args below meth c dC dI cI cZ as H locs ls C hP hS hl) (fun q => ?_)
  have h := gf q p l e R s m args below meth c dC dI cI cZ as H locs ls C hP hS hl
  rw [zpc_succ hc] at h
  exact h
theorem go_if_eq {x : Int32} {off : Int} (hY : zOK Y) (hc : Y.2.2.2.2[k]? = some (.ifCond .eq off, 3, t)) (gt : x = 0 → zGo Y d t al st M r M') (gf : ¬ x = 0 → zGo Y d (k + 1) al st M r M') : zGo Y d k al (.inl x :: st) M r M' := by
  intro p l e R s m args below meth c dC dI cI cZ as H locs ls C hP hS hl
  have hx := C.1
  have hb := C.2.1
  have hd := (hY k _ _ _ hc).1
  refine lv_if_eq hx hb hd ((hY k _ _ _ hc).2 off rfl) (fun q => gt q p l e R s m args below meth c dC dI cI cZ as H locs ls C hP hS hl) (fun q => ?_)
  have h := gf q p l e R s m args below meth c dC dI cI cZ as H locs ls C hP hS hl
  rw [zpc_succ hc] at h
  exact h
theorem go_icmp_ne {x y : Int32} {off : Int} (hY : zOK Y) (hc : Y.2.2.2.2[k]? = some (.if_icmp .ne off, 3, t)) (gt : ¬ x = y → zGo Y d t al st M r M') (gf : x = y → zGo Y d (k + 1) al st M r M') : zGo Y d k al (.inl y :: .inl x :: st) M r M' := by
  intro p l e R s m args below meth c dC dI cI cZ as H locs ls C hP hS hl
  have hx := C.1
  have hb := C.2.1
  have hd := (hY k _ _ _ hc).1
  refine lv_icmp_ne hx hb hd ((hY k _ _ _ hc).2 off rfl) (fun q => gt q p l e R s m args below meth c dC dI cI cZ as H locs ls C hP hS hl) (fun q => ?_)
  have h := gf q p l e R s m args below meth c dC dI cI cZ as H locs ls C hP hS hl
  rw [zpc_succ hc] at h
  exact h
theorem go_if_ne {x : Int32} {off : Int} (hY : zOK Y) (hc : Y.2.2.2.2[k]? = some (.ifCond .ne off, 3, t)) (gt : ¬ x = 0 → zGo Y d t al st M r M') (gf : x = 0 → zGo Y d (k + 1) al st M r M') : zGo Y d k al (.inl x :: st) M r M' := by
  intro p l e R s m args below meth c dC dI cI cZ as H locs ls C hP hS hl
  have hx := C.1
  have hb := C.2.1
  have hd := (hY k _ _ _ hc).1
  refine lv_if_ne hx hb hd ((hY k _ _ _ hc).2 off rfl) (fun q => gt q p l e R s m args below meth c dC dI cI cZ as H locs ls C hP hS hl) (fun q => ?_)
  have h := gf q p l e R s m args below meth c dC dI cI cZ as H locs ls C hP hS hl
  rw [zpc_succ hc] at h
  exact h
theorem go_icmp_lt {x y : Int32} {off : Int} (hY : zOK Y) (hc : Y.2.2.2.2[k]? = some (.if_icmp .lt off, 3, t)) (gt : x < y → zGo Y d t al st M r M') (gf : ¬ x < y → zGo Y d (k + 1) al st M r M') : zGo Y d k al (.inl y :: .inl x :: st) M r M' := by
  intro p l e R s m args below meth c dC dI cI cZ as H locs ls C hP hS hl
  have hx := C.1
  have hb := C.2.1
  have hd := (hY k _ _ _ hc).1
  refine lv_icmp_lt hx hb hd ((hY k _ _ _ hc).2 off rfl) (fun q => gt q p l e R s m args below meth c dC dI cI cZ as H locs ls C hP hS hl) (fun q => ?_)
  have h := gf q p l e R s m args below meth c dC dI cI cZ as H locs ls C hP hS hl
  rw [zpc_succ hc] at h
  exact h
theorem go_if_lt {x : Int32} {off : Int} (hY : zOK Y) (hc : Y.2.2.2.2[k]? = some (.ifCond .lt off, 3, t)) (gt : x < 0 → zGo Y d t al st M r M') (gf : ¬ x < 0 → zGo Y d (k + 1) al st M r M') : zGo Y d k al (.inl x :: st) M r M' := by
  intro p l e R s m args below meth c dC dI cI cZ as H locs ls C hP hS hl
  have hx := C.1
  have hb := C.2.1
  have hd := (hY k _ _ _ hc).1
  refine lv_if_lt hx hb hd ((hY k _ _ _ hc).2 off rfl) (fun q => gt q p l e R s m args below meth c dC dI cI cZ as H locs ls C hP hS hl) (fun q => ?_)
  have h := gf q p l e R s m args below meth c dC dI cI cZ as H locs ls C hP hS hl
  rw [zpc_succ hc] at h
  exact h
theorem go_icmp_ge {x y : Int32} {off : Int} (hY : zOK Y) (hc : Y.2.2.2.2[k]? = some (.if_icmp .ge off, 3, t)) (gt : y ≤ x → zGo Y d t al st M r M') (gf : ¬ y ≤ x → zGo Y d (k + 1) al st M r M') : zGo Y d k al (.inl y :: .inl x :: st) M r M' := by
  intro p l e R s m args below meth c dC dI cI cZ as H locs ls C hP hS hl
  have hx := C.1
  have hb := C.2.1
  have hd := (hY k _ _ _ hc).1
  refine lv_icmp_ge hx hb hd ((hY k _ _ _ hc).2 off rfl) (fun q => gt q p l e R s m args below meth c dC dI cI cZ as H locs ls C hP hS hl) (fun q => ?_)
  have h := gf q p l e R s m args below meth c dC dI cI cZ as H locs ls C hP hS hl
  rw [zpc_succ hc] at h
  exact h
theorem go_if_ge {x : Int32} {off : Int} (hY : zOK Y) (hc : Y.2.2.2.2[k]? = some (.ifCond .ge off, 3, t)) (gt : 0 ≤ x → zGo Y d t al st M r M') (gf : ¬ 0 ≤ x → zGo Y d (k + 1) al st M r M') : zGo Y d k al (.inl x :: st) M r M' := by
  intro p l e R s m args below meth c dC dI cI cZ as H locs ls C hP hS hl
  have hx := C.1
  have hb := C.2.1
  have hd := (hY k _ _ _ hc).1
  refine lv_if_ge hx hb hd ((hY k _ _ _ hc).2 off rfl) (fun q => gt q p l e R s m args below meth c dC dI cI cZ as H locs ls C hP hS hl) (fun q => ?_)
  have h := gf q p l e R s m args below meth c dC dI cI cZ as H locs ls C hP hS hl
  rw [zpc_succ hc] at h
  exact h
theorem go_icmp_gt {x y : Int32} {off : Int} (hY : zOK Y) (hc : Y.2.2.2.2[k]? = some (.if_icmp .gt off, 3, t)) (gt : y < x → zGo Y d t al st M r M') (gf : ¬ y < x → zGo Y d (k + 1) al st M r M') : zGo Y d k al (.inl y :: .inl x :: st) M r M' := by
  intro p l e R s m args below meth c dC dI cI cZ as H locs ls C hP hS hl
  have hx := C.1
  have hb := C.2.1
  have hd := (hY k _ _ _ hc).1
  refine lv_icmp_gt hx hb hd ((hY k _ _ _ hc).2 off rfl) (fun q => gt q p l e R s m args below meth c dC dI cI cZ as H locs ls C hP hS hl) (fun q => ?_)
  have h := gf q p l e R s m args below meth c dC dI cI cZ as H locs ls C hP hS hl
  rw [zpc_succ hc] at h
  exact h
theorem go_if_gt {x : Int32} {off : Int} (hY : zOK Y) (hc : Y.2.2.2.2[k]? = some (.ifCond .gt off, 3, t)) (gt : 0 < x → zGo Y d t al st M r M') (gf : ¬ 0 < x → zGo Y d (k + 1) al st M r M') : zGo Y d k al (.inl x :: st) M r M' := by
  intro p l e R s m args below meth c dC dI cI cZ as H locs ls C hP hS hl
  have hx := C.1
  have hb := C.2.1
  have hd := (hY k _ _ _ hc).1
  refine lv_if_gt hx hb hd ((hY k _ _ _ hc).2 off rfl) (fun q => gt q p l e R s m args below meth c dC dI cI cZ as H locs ls C hP hS hl) (fun q => ?_)
  have h := gf q p l e R s m args below meth c dC dI cI cZ as H locs ls C hP hS hl
  rw [zpc_succ hc] at h
  exact h
theorem go_icmp_le {x y : Int32} {off : Int} (hY : zOK Y) (hc : Y.2.2.2.2[k]? = some (.if_icmp .le off, 3, t)) (gt : x ≤ y → zGo Y d t al st M r M') (gf : ¬ x ≤ y → zGo Y d (k + 1) al st M r M') : zGo Y d k al (.inl y :: .inl x :: st) M r M' := by
  intro p l e R s m args below meth c dC dI cI cZ as H locs ls C hP hS hl
  have hx := C.1
  have hb := C.2.1
  have hd := (hY k _ _ _ hc).1
  refine lv_icmp_le hx hb hd ((hY k _ _ _ hc).2 off rfl) (fun q => gt q p l e R s m args below meth c dC dI cI cZ as H locs ls C hP hS hl) (fun q => ?_)
  have h := gf q p l e R s m args below meth c dC dI cI cZ as H locs ls C hP hS hl
  rw [zpc_succ hc] at h
  exact h
theorem go_if_le {x : Int32} {off : Int} (hY : zOK Y) (hc : Y.2.2.2.2[k]? = some (.ifCond .le off, 3, t)) (gt : x ≤ 0 → zGo Y d t al st M r M') (gf : ¬ x ≤ 0 → zGo Y d (k + 1) al st M r M') : zGo Y d k al (.inl x :: st) M r M' := by
  intro p l e R s m args below meth c dC dI cI cZ as H locs ls C hP hS hl
  have hx := C.1
  have hb := C.2.1
  have hd := (hY k _ _ _ hc).1
  refine lv_if_le hx hb hd ((hY k _ _ _ hc).2 off rfl) (fun q => gt q p l e R s m args below meth c dC dI cI cZ as H locs ls C hP hS hl) (fun q => ?_)
  have h := gf q p l e R s m args below meth c dC dI cI cZ as H locs ls C hP hS hl
  rw [zpc_succ hc] at h
  exact h
end GO
