/-! THE CORE: a memory over cells of fixed shape; what a method does from an instruction on, as a relation of memories -/
abbrev zV : Type := Int32 ⊕ Nat
abbrev zMem : Type := Nat → Nat → Int32
def zup (M : zMem) (a i : Nat) (v : Int32) : zMem := fun b => if b = a then upd (M b) i v else M b
def zcv (as : Nat → Nat) : zV → Value
  | .inl x => .int x
  | .inr i => .ref (as i)
def zfl (as : Nat → Nat) (f : Nat → Int32) (j : Nat) : Option Nat → Value
  | none => .int (f j)
  | some i => .ref (as i)
def zcell (cI cZ : ClassId) (as : Nat → Nat) (f : Nat → Int32) : zSh → va_E
  | .inl (b, n) => .inl (if b then cZ else cI, n, .inl f)
  | .inr (ci, fs) => .inr (ci, fs.mapIdx (fun j o => zfl as f j o))
/-! names of cells: 22, 23, 24 name nothing -/
def zhole : zSh := .inr (99, [])
def znm : List Nat := [0, 1, 2, 3, 4, 5, 6, 7, 8, 9, 10, 11, 12, 13, 14, 15, 16, 17, 18, 19, 20, 21, 25, 26, 27, 28, 29, 30, 31, 32, 33, 34, 35, 36, 37, 38, 39, 40, 41, 42, 43, 44, 45, 46, 47, 48, 49, 50, 51, 52, 53, 54, 55, 56, 57, 58, 59, 60]
def zdn (i : Nat) : Nat := bif Nat.ble 22 i then i - 3 else i
def zOkS : zSh → Bool
  | .inl _ => true
  | .inr (c, _) => !(c == 99)
def zsh (i : Nat) : zSh := (zL[i]?).getD zhole
def zW (cI cZ : ClassId) (as : Nat → Nat) (M : zMem) : va_W := znm.map (fun i => (as i, zcell cI cZ as (M i) (zsh i)))
def zInj (as : Nat → Nat) : Prop := ∀ i j, i ∈ znm → j ∈ znm → as i = as j → i = j
def zA (as : Nat → Nat) (sz : Nat) : Nat → Prop := fun q => (∃ i, i ∈ znm ∧ q = as i) ∨ sz ≤ q
theorem znm_dn : ∀ i, i ∈ znm → znm[zdn i]? = some i := by decide +kernel
theorem znm_lt : ∀ i, i ∈ znm → zdn i < 58 := by decide +kernel
theorem znm_ix : ∀ k, k < 58 → (znm[k]?).map zdn = some k := by decide +kernel
theorem znm_at {k i : Nat} (h : znm[k]? = some i) : zdn i = k := by
  have hl : k < 58 := (List.getElem?_eq_some_iff.mp h).1
  have e := znm_ix k hl
  rw [h] at e
  exact Option.some.inj e
theorem zL_len : zL.length = 61 := by decide +kernel
theorem zL_nm : ∀ i, i < 61 → i ∈ znm ∨ zOkS (zsh i) = false := by decide +kernel
theorem zL_ok {i : Nat} {sh : zSh} (h : zL[i]? = some sh) (ok : zOkS sh = true) : i ∈ znm := by
  have hl := (List.getElem?_eq_some_iff.mp h).1
  rw [zL_len] at hl
  rcases zL_nm i hl with q | q
  · exact q
  · have e : zsh i = sh := by unfold zsh; rw [h]; rfl
    rw [e, ok] at q
    cases q
theorem zOk_c {ci : Nat} {fs : List (Option Nat)} {q : vw_C} (h : zcl[ci]? = some q) : zOkS (.inr (ci, fs)) = true := by
  by_cases e : ci = 99
  · subst e
    have h0 : zcl[99]? = none := rfl
    rw [h0] at h
    cases h
  · simp [zOkS, e]
theorem zW_get {cI cZ : ClassId} {as : Nat → Nat} {M : zMem} {i : Nat} {sh : zSh} (h : zL[i]? = some sh) (ok : zOkS sh = true) : (zW cI cZ as M)[zdn i]? = some (as i, zcell cI cZ as (M i) sh) := by
  have e := znm_dn i (zL_ok h ok)
  simp only [zW, List.getElem?_map, e, Option.map_some, zsh, h, Option.getD_some]
theorem zW_lt {cI cZ : ClassId} {as : Nat → Nat} {M : zMem} {k : Nat} {q : Nat × va_E} (h : (zW cI cZ as M)[k]? = some q) : ∃ i, i ∈ znm ∧ zdn i = k ∧ q.1 = as i := by
  simp only [zW, List.getElem?_map, Option.map_eq_some_iff] at h
  obtain ⟨i, h1, rfl⟩ := h
  exact ⟨i, List.mem_of_getElem? h1, znm_at h1, rfl⟩
theorem zW_D {cI cZ : ClassId} {as : Nat → Nat} {M : zMem} {sz : Nat} (h : zInj as) : va_D (zA as sz) (zW cI cZ as M) := by
  refine ⟨fun i j x y hi hj e => ?_, fun k q hk => ?_⟩
  · obtain ⟨a, a1, a2, a3⟩ := zW_lt hi
    obtain ⟨b, b1, b2, b3⟩ := zW_lt hj
    rw [← a2, ← b2, h a b a1 b1 (by rw [← a3, ← b3]; exact e)]
  · obtain ⟨a, a1, a2, a3⟩ := zW_lt hk
    exact Or.inl ⟨a, a1, a3⟩
theorem zW_set {cI cZ : ClassId} {as : Nat → Nat} {M M' : zMem} {i : Nat} {e : va_E} {sh : zSh} (h : zL[i]? = some sh) (ok : zOkS sh = true) (he : e = zcell cI cZ as (M' i) sh) (ho : ∀ j, j ≠ i → M' j = M j) : (zW cI cZ as M).set (zdn i) (as i, e) = zW cI cZ as M' := by
  apply List.ext_getElem?
  intro k
  by_cases hk : k = zdn i
  · subst hk
    have hl : zdn i < (zW cI cZ as M).length := (List.getElem?_eq_some_iff.mp (zW_get (cI := cI) (cZ := cZ) (as := as) (M := M) h ok)).1
    rw [List.getElem?_set_self hl, zW_get h ok, he]
  · rw [List.getElem?_set_ne (Ne.symm hk)]
    simp only [zW, List.getElem?_map]
    cases hn : znm[k]? with
    | none => rfl
    | some j =>
      have hj : j ≠ i := fun q => hk (by rw [← znm_at hn, q])
      simp only [Option.map_some, ho j hj]
theorem zup_self (M : zMem) (a i : Nat) (v : Int32) : zup M a i v a = upd (M a) i v := by simp [zup]
theorem zup_ne {M : zMem} {a b i : Nat} {v : Int32} (h : b ≠ a) : zup M a i v b = M b := by simp [zup, h]
theorem zW_arr {cI cZ : ClassId} {as : Nat → Nat} {M : zMem} {i n k : Nat} {b : Bool} {v : Int32} (h : zL[i]? = some (.inl (b, n))) : (zW cI cZ as M).set (zdn i) (as i, .inl (if b then cZ else cI, n, .inl (upd (M i) k v))) = zW cI cZ as (zup M i k v) :=
  zW_set h rfl (by rw [zup_self]; rfl) (fun j hj => zup_ne hj)
theorem zW_fld {cI cZ : ClassId} {as : Nat → Nat} {M : zMem} {i ci k : Nat} {fs : List (Option Nat)} {v : Int32} (h : zL[i]? = some (.inr (ci, fs))) (ok : zOkS (.inr (ci, fs)) = true) (hk : fs[k]? = some none) : (zW cI cZ as M).set (zdn i) (as i, .inr (ci, (fs.mapIdx (fun j o => zfl as (M i) j o)).set k (.int v))) = zW cI cZ as (zup M i k v) := by
  refine zW_set h ok ?_ (fun j hj => zup_ne hj)
  rw [zup_self]
  show Sum.inr _ = Sum.inr _
  congr 2
  apply List.ext_getElem?
  intro j
  by_cases hj : j = k
  · subst hj
    have hl : j < (fs.mapIdx (fun j o => zfl as (M i) j o)).length := by
      have := (List.getElem?_eq_some_iff.mp hk).1
      simpa using this
    rw [List.getElem?_set_self hl, List.getElem?_mapIdx, hk]
    simp [zfl, upd]
  · rw [List.getElem?_set_ne (Ne.symm hj), List.getElem?_mapIdx, List.getElem?_mapIdx]
    congr 1
    funext o
    cases o with
    | none => simp [zfl, upd, hj]
    | some x => rfl
