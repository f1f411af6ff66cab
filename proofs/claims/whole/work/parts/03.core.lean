/-! THE CORE: a memory over cells of fixed shape; what a method does from an instruction on, as a relation of memories -/
abbrev zV : Type := Int32 ⊕ Nat
abbrev zMem : Type := Nat → Nat → Int32
def zup (M : zMem) (a i : Nat) (v : Int32) : zMem := fun b => if b = a then upd (M b) i v else M b
def zcv (as : Nat → Nat) : zV → Value
  | .inl x => .int x
  | .inr i => .ref (as i)
def zfl (as : Nat → Nat) (f : Nat → Int32) (j : Nat) : Option Nat → Value
  | none => .int (f j)
  | some i => .ref (as i)
def zcell (cI cZ : ClassId) (as : Nat → Nat) (f : Nat → Int32) : zSh → va_E
  | .inl (b, n) => .inl (if b then cZ else cI, n, .inl f)
  | .inr (ci, fs) => .inr (ci, fs.mapIdx (fun j o => zfl as f j o))
def zW (cI cZ : ClassId) (as : Nat → Nat) (M : zMem) : va_W := zL.mapIdx (fun i sh => (as i, zcell cI cZ as (M i) sh))
def zInj (as : Nat → Nat) : Prop := ∀ i j, i < zL.length → j < zL.length → as i = as j → i = j
def zA (as : Nat → Nat) (sz : Nat) : Nat → Prop := fun q => (∃ i, i < zL.length ∧ q = as i) ∨ sz ≤ q
theorem zW_get {cI cZ : ClassId} {as : Nat → Nat} {M : zMem} {i : Nat} {sh : zSh} (h : zL[i]? = some sh) : (zW cI cZ as M)[i]? = some (as i, zcell cI cZ as (M i) sh) := by
  simp [zW, List.getElem?_mapIdx, h]
theorem zW_lt {cI cZ : ClassId} {as : Nat → Nat} {M : zMem} {i : Nat} {q : Nat × va_E} (h : (zW cI cZ as M)[i]? = some q) : i < zL.length ∧ q.1 = as i := by
  simp only [zW, List.getElem?_mapIdx, Option.map_eq_some_iff] at h
  obtain ⟨sh, h1, rfl⟩ := h
  exact ⟨(List.getElem?_eq_some_iff.mp h1).1, rfl⟩
theorem zW_D {cI cZ : ClassId} {as : Nat → Nat} {M : zMem} {sz : Nat} (h : zInj as) : va_D (zA as sz) (zW cI cZ as M) := by
  refine ⟨fun i j x y hi hj e => ?_, fun k q hk => ?_⟩
  · obtain ⟨h1, h2⟩ := zW_lt hi
    obtain ⟨h3, h4⟩ := zW_lt hj
    exact h i j h1 h3 (by rw [← h2, ← h4]; exact e)
  · obtain ⟨h1, h2⟩ := zW_lt hk
    exact Or.inl ⟨k, h1, h2⟩
theorem zW_set {cI cZ : ClassId} {as : Nat → Nat} {M M' : zMem} {i : Nat} {e : va_E} {sh : zSh} (h : zL[i]? = some sh) (he : e = zcell cI cZ as (M' i) sh) (ho : ∀ j, j ≠ i → M' j = M j) : (zW cI cZ as M).set i (as i, e) = zW cI cZ as M' := by
  apply List.ext_getElem?
  intro j
  by_cases hj : j = i
  · subst hj
    have hl : j < (zW cI cZ as M).length := by
      have := (List.getElem?_eq_some_iff.mp h).1
      simpa [zW] using this
    rw [List.getElem?_set_self hl, zW_get h, he]
  · rw [List.getElem?_set_ne (Ne.symm hj)]
    simp only [zW, List.getElem?_mapIdx, ho j hj]
theorem zup_self (M : zMem) (a i : Nat) (v : Int32) : zup M a i v a = upd (M a) i v := by simp [zup]
theorem zup_ne {M : zMem} {a b i : Nat} {v : Int32} (h : b ≠ a) : zup M a i v b = M b := by simp [zup, h]
theorem zW_arr {cI cZ : ClassId} {as : Nat → Nat} {M : zMem} {i n k : Nat} {b : Bool} {v : Int32} (h : zL[i]? = some (.inl (b, n))) : (zW cI cZ as M).set i (as i, .inl (if b then cZ else cI, n, .inl (upd (M i) k v))) = zW cI cZ as (zup M i k v) :=
  zW_set h (by rw [zup_self]; rfl) (fun j hj => zup_ne hj)
theorem zW_fld {cI cZ : ClassId} {as : Nat → Nat} {M : zMem} {i ci k : Nat} {fs : List (Option Nat)} {v : Int32} (h : zL[i]? = some (.inr (ci, fs))) (hk : fs[k]? = some none) : (zW cI cZ as M).set i (as i, .inr (ci, (fs.mapIdx (fun j o => zfl as (M i) j o)).set k (.int v))) = zW cI cZ as (zup M i k v) := by
  refine zW_set h ?_ (fun j hj => zup_ne hj)
  rw [zup_self]
  show Sum.inr _ = Sum.inr _
  congr 2
  apply List.ext_getElem?
  intro j
  by_cases hj : j = k
  · subst hj
    have hl : j < (fs.mapIdx (fun j o => zfl as (M i) j o)).length := by
      have := (List.getElem?_eq_some_iff.mp hk).1
      simpa using this
    rw [List.getElem?_set_self hl, List.getElem?_mapIdx, hk]
    simp [zfl, upd]
  · rw [List.getElem?_set_ne (Ne.symm hj), List.getElem?_mapIdx, List.getElem?_mapIdx]
    congr 1
    funext o
    cases o with
    | none => simp [zfl, upd, hj]
    | some x => rfl
