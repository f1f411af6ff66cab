/-! fields, arrays, returns, calls, switches -/
/-- a field that holds a number: by the own class and the pool's number, the object o and its place j -/
def zFI (own : String) (idx o j : Nat) (ty : FieldType) : Prop := ∃ (ci : Nat) (fs : List (Option Nat)) (C : String) (T : u_T) (N : Nat), zL[o]? = some (.inr (ci, fs)) ∧ zcl[ci]? = some (C, T, N) ∧ j < N ∧ fs[j]? = some none ∧ Cond.fieldLink own idx (T j).1 (T j).2.1 (T j).2.2.1 ∈ ztbl ∧ (T j).2.2.2 = false ∧ parseFieldDescriptor (T j).2.2.1 = some ty
/-- a field that holds the cell i -/
def zFR (own : String) (idx o j i : Nat) : Prop := ∃ (ci : Nat) (fs : List (Option Nat)) (C : String) (T : u_T) (N : Nat), zL[o]? = some (.inr (ci, fs)) ∧ zcl[ci]? = some (C, T, N) ∧ j < N ∧ fs[j]? = some (some i) ∧ Cond.fieldLink own idx (T j).1 (T j).2.1 (T j).2.2.1 ∈ ztbl
def zsw : Instr → Int32 → Option Int
  | .tableswitch dflt lo hi offs, x => if x.toInt < lo ∨ hi < x.toInt then some dflt else offs[(x.toInt - lo).toNat]?
  | .lookupswitch dflt ps, x => if (ps.toList.zip (ps.toList.drop 1)).all (fun (a, next) => a.1 < next.1) = true then some (Op.lookupswitch.offset ps.toList dflt x.toInt) else none
  | _, _ => none
theorem zsum (as : Nat → Nat) : ∀ st : List zV, ((st.map (zcv as)).map fun v => v.category).sum = st.length
  | [] => rfl
  | a :: q => by
    have ih := zsum as q
    simp only [List.map_cons, List.sum_cons, List.length_cons, zcv_cat]
    rw [ih]; omega
section GO2
variable {Y : zY} {d k t : Nat} {al : List (Option zV)} {st : List zV} {M M' : zMem} {r : Option Int32}
theorem go_getI {o j idx : Nat} {ty : FieldType} (hY : zOK Y) (hc : Y.2.2.2.2[k]? = some (.getfield idx, 3, t)) (hF : zFI Y.1.cls idx o j ty) (g : zGo Y d (k + 1) al (.inl (M o j) :: st) M r M') : zGo Y d k al (.inr o :: st) M r M' := by
  intro p l e R s m args below meth c dC dI cI cZ as H locs ls C hP hS hl
  have hd := (hY k _ _ _ hc).1
  obtain ⟨ci, fs, C', T, N, h1, h2, h3, h4, h5, h6, h7⟩ := hF
  have h := g p l e R s m args below meth c dC dI cI cZ as H locs ls C hP hS hl
  rw [zpc_succ hc] at h
  have hv : (fs.mapIdx (fun j o' => zfl as (M o) j o'))[j]? = some (.int (M o j)) := by rw [List.getElem?_mapIdx, h4]; rfl
  exact va_get C.1 C.2.1 C.2.2.2.2.2.2.1 (zcl_ok ci C' T N h2).1 C.2.2.2.2.2.1 C.2.2.2.2.2.2.2.1 hP (zdn o) (zW_get h1 (zOk_c h2)) h2 j h3 (C.2.2.2.2.2.2.1 _ h5) (fun _ h9 => h9) hv hd h
theorem go_getR {o j idx i : Nat} (hY : zOK Y) (hc : Y.2.2.2.2[k]? = some (.getfield idx, 3, t)) (hF : zFR Y.1.cls idx o j i) (g : zGo Y d (k + 1) al (.inr i :: st) M r M') : zGo Y d k al (.inr o :: st) M r M' := by
  intro p l e R s m args below meth c dC dI cI cZ as H locs ls C hP hS hl
  have hd := (hY k _ _ _ hc).1
  obtain ⟨ci, fs, C', T, N, h1, h2, h3, h4, h5⟩ := hF
  have h := g p l e R s m args below meth c dC dI cI cZ as H locs ls C hP hS hl
  rw [zpc_succ hc] at h
  have hv : (fs.mapIdx (fun j o' => zfl as (M o) j o'))[j]? = some (.ref (as i)) := by rw [List.getElem?_mapIdx, h4]; rfl
  exact va_get C.1 C.2.1 C.2.2.2.2.2.2.1 (zcl_ok ci C' T N h2).1 C.2.2.2.2.2.1 C.2.2.2.2.2.2.2.1 hP (zdn o) (zW_get h1 (zOk_c h2)) h2 j h3 (C.2.2.2.2.2.2.1 _ h5) (fun _ h9 => h9) hv hd h
theorem go_putN {o j idx : Nat} {ty : FieldType} {x : Int32} (hY : zOK Y) (hc : Y.2.2.2.2[k]? = some (.putfield idx, 3, t)) (hF : zFI Y.1.cls idx o j ty) (hn : narrow ty (.int x) = .int x) (hf : fits ty (.int x) = true) (g : zGo Y d (k + 1) al st (zup M o j x) r M') : zGo Y d k al (.inl x :: .inr o :: st) M r M' := by
  intro p l e R s m args below meth c dC dI cI cZ as H locs ls C hP hS hl
  have hd := (hY k _ _ _ hc).1
  obtain ⟨ci, fs, C', T, N, h1, h2, h3, h4, h5, h6, h7⟩ := hF
  obtain ⟨k1, k2, k3⟩ := zcl_ok ci C' T N h2
  have hlen : j < (fs.mapIdx (fun j o' => zfl as (M o) j o')).length := by
    have := (List.getElem?_eq_some_iff.mp h4).1
    simpa using this
  refine va_put C.1 C.2.1 C.2.2.2.2.2.2.1 k1 (zTy ci) k2 k3 C.2.2.2.2.2.1 C.2.2.2.2.2.2.2.1 hP (zW_D C.2.2.2.2.2.2.2.2.1) hS (zdn o) (zW_get h1 (zOk_c h2)) h2 j h3 (C.2.2.2.2.2.2.1 _ h5) (fun _ h9 => h9) h6 h7 hn hf hlen hd (fun H1 locs1 hP1 hD1 hS1 => ?_)
  have hP1 : va_P (dC, dI) zcl ((zW cI cZ as M).set (zdn o) (as o, .inr (ci, (fs.mapIdx (fun j o' => zfl as (M o) j o')).set j (.int x)))) H1 := hP1
  rw [zW_fld h1 (zOk_c h2) h4] at hP1
  have h := g p l e R s m args below meth c dC dI cI cZ as H1 locs1 ls C hP1 hS1 hl
  rw [zpc_succ hc] at h
  exact h
theorem go_putI {o j idx : Nat} {x : Int32} (hY : zOK Y) (hc : Y.2.2.2.2[k]? = some (.putfield idx, 3, t)) (hF : zFI Y.1.cls idx o j .int) (g : zGo Y d (k + 1) al st (zup M o j x) r M') : zGo Y d k al (.inl x :: .inr o :: st) M r M' := go_putN hY hc hF rfl rfl g
theorem z01 {x : Int32} (h : x = 0 ∨ x = 1) : narrow .boolean (.int x) = .int x ∧ fits .boolean (.int x) = true ∧ vp_nar .boolean x = x := by
  rcases h with rfl | rfl <;> exact ⟨by decide, by decide, by decide⟩
theorem go_putZ {o j idx : Nat} {x : Int32} (hY : zOK Y) (hc : Y.2.2.2.2[k]? = some (.putfield idx, 3, t)) (hF : zFI Y.1.cls idx o j .boolean) (hx : x = 0 ∨ x = 1) (g : zGo Y d (k + 1) al st (zup M o j x) r M') : zGo Y d k al (.inl x :: .inr o :: st) M r M' := go_putN hY hc hF (z01 hx).1 (z01 hx).2.1 g
theorem go_iald {a n : Nat} {i : Int32} (hY : zOK Y) (hc : Y.2.2.2.2[k]? = some (.iaload, 1, t)) (ha : zL[a]? = some (.inl (false, n))) (hin : vp_in i n) (g : zGo Y d (k + 1) al (.inl (M a i.toNatClampNeg) :: st) M r M') : zGo Y d k al (.inl i :: .inr a :: st) M r M' := by
  intro p l e R s m args below meth c dC dI cI cZ as H locs ls C hP hS hl
  have h := g p l e R s m args below meth c dC dI cI cZ as H locs ls C hP hS hl
  rw [zpc_succ hc] at h
  exact va_iald C.1 C.2.1 C.2.2.2.2.2.2.2.1 hP (zdn a) 0 (zW_get ha rfl) rfl hin (hY k _ _ _ hc).1 h
theorem go_zald {a n : Nat} {i : Int32} (hY : zOK Y) (hc : Y.2.2.2.2[k]? = some (.baload, 1, t)) (ha : zL[a]? = some (.inl (true, n))) (hin : vp_in i n) (g : zGo Y d (k + 1) al (.inl (M a i.toNatClampNeg) :: st) M r M') : zGo Y d k al (.inl i :: .inr a :: st) M r M' := by
  intro p l e R s m args below meth c dC dI cI cZ as H locs ls C hP hS hl
  have h := g p l e R s m args below meth c dC dI cI cZ as H locs ls C hP hS hl
  rw [zpc_succ hc] at h
  exact va_zald C.1 C.2.1 C.2.2.2.2.2.2.2.1 hP (zdn a) 1 (zW_get ha rfl) rfl hin (hY k _ _ _ hc).1 h
theorem go_iast {a n : Nat} {i x : Int32} (hY : zOK Y) (hc : Y.2.2.2.2[k]? = some (.iastore, 1, t)) (ha : zL[a]? = some (.inl (false, n))) (hin : vp_in i n) (g : zGo Y d (k + 1) al st (zup M a i.toNatClampNeg x) r M') : zGo Y d k al (.inl x :: .inl i :: .inr a :: st) M r M' := by
  intro p l e R s m args below meth c dC dI cI cZ as H locs ls C hP hS hl
  refine va_iast C.1 C.2.1 C.2.2.2.2.2.2.2.1 hP (zW_D C.2.2.2.2.2.2.2.2.1) hS (zdn a) 0 (zW_get ha rfl) rfl hin (hY k _ _ _ hc).1 (fun H1 locs1 hP1 hD1 hS1 => ?_)
  have e1 := zW_arr (cI := cI) (cZ := cZ) (as := as) (M := M) (k := i.toNatClampNeg) (v := x) ha
  have hP1 : va_P (dC, dI) zcl ((zW cI cZ as M).set (zdn a) (as a, .inl (if false = true then cZ else cI, n, .inl (upd (M a) i.toNatClampNeg x)))) H1 := hP1
  rw [e1] at hP1
  have h := g p l e R s m args below meth c dC dI cI cZ as H1 locs1 ls C hP1 hS1 hl
  rw [zpc_succ hc] at h
  exact h
theorem go_zast {a n : Nat} {i x : Int32} (hY : zOK Y) (hc : Y.2.2.2.2[k]? = some (.bastore, 1, t)) (ha : zL[a]? = some (.inl (true, n))) (hin : vp_in i n) (hx01 : x = 0 ∨ x = 1) (g : zGo Y d (k + 1) al st (zup M a i.toNatClampNeg x) r M') : zGo Y d k al (.inl x :: .inl i :: .inr a :: st) M r M' := by
  intro p l e R s m args below meth c dC dI cI cZ as H locs ls C hP hS hl
  refine va_zast C.1 C.2.1 C.2.2.2.2.2.2.2.1 hP (zW_D C.2.2.2.2.2.2.2.2.1) hS (zdn a) 1 (zW_get ha rfl) rfl hin (hY k _ _ _ hc).1 (fun H1 locs1 hP1 hD1 hS1 => ?_)
  have e1 := zW_arr (cI := cI) (cZ := cZ) (as := as) (M := M) (k := i.toNatClampNeg) (v := x) ha
  rw [(z01 hx01).2.2] at hP1
  have hP1 : va_P (dC, dI) zcl ((zW cI cZ as M).set (zdn a) (as a, .inl (if true = true then cZ else cI, n, .inl (upd (M a) i.toNatClampNeg x)))) H1 := hP1
  rw [e1] at hP1
  have h := g p l e R s m args below meth c dC dI cI cZ as H1 locs1 ls C hP1 hS1 hl
  rw [zpc_succ hc] at h
  exact h
theorem go_alen {a n : Nat} {b : Bool} {v : Int32} (hY : zOK Y) (hc : Y.2.2.2.2[k]? = some (.arraylength, 1, t)) (ha : zL[a]? = some (.inl (b, n))) (hv : Int32.ofNat n = v) (g : zGo Y d (k + 1) al (.inl v :: st) M r M') : zGo Y d k al (.inr a :: st) M r M' := by
  intro p l e R s m args below meth c dC dI cI cZ as H locs ls C hP hS hl
  have h := g p l e R s m args below meth c dC dI cI cZ as H locs ls C hP hS hl
  rw [zpc_succ hc] at h
  cases b with
  | false => exact va_alen C.1 C.2.1 C.2.2.2.2.2.2.2.1 hP (zdn a) 0 (zW_get ha rfl) rfl hv (hY k _ _ _ hc).1 h
  | true => exact va_alen C.1 C.2.1 C.2.2.2.2.2.2.2.1 hP (zdn a) 1 (zW_get ha rfl) rfl hv (hY k _ _ _ hc).1 h
theorem go_ireturn {x : Int32} (hY : zOK Y) (hc : Y.2.2.2.2[k]? = some (.ireturn, 1, t)) (hr : Y.2.2.2.1 = some .int) : zGo Y d k al [.inl x] M (some x) M := by
  intro p l e R s m args below meth c dC dI cI cZ as H locs ls C hP hS hl
  exact W.iret C.1 C.2.1 (C.2.2.2.1.trans hr) (fun T hT hW => ⟨rfl, by rw [hT]; exact hP, hS.F hT⟩) hS.2.2 (hY k _ _ _ hc).1 C.2.2.2.2.1
theorem go_zreturn {x : Int32} (hY : zOK Y) (hc : Y.2.2.2.2[k]? = some (.ireturn, 1, t)) (hr : Y.2.2.2.1 = some .boolean) (hx : x = 0 ∨ x = 1) : zGo Y d k al [.inl x] M (some x) M := by
  intro p l e R s m args below meth c dC dI cI cZ as H locs ls C hP hS hl
  exact W.zret C.1 C.2.1 (C.2.2.2.1.trans hr) (z01 hx).1 (fun T hT hW => ⟨rfl, by rw [hT]; exact hP, hS.F hT⟩) hS.2.2 (hY k _ _ _ hc).1 C.2.2.2.2.1
theorem go_return (hY : zOK Y) (hc : Y.2.2.2.2[k]? = some (.return_, 1, t)) (hr : Y.2.2.2.1 = none) : zGo Y d k al [] M none M := by
  intro p l e R s m args below meth c dC dI cI cZ as H locs ls C hP hS hl
  exact W.vret C.1 C.2.1 (C.2.2.2.1.trans hr) (fun T hT hW => ⟨rfl, by rw [hT]; exact hP, hS.F hT⟩) hS.2.2 (hY k _ _ _ hc).1 C.2.2.2.2.1
theorem go_switch {i : Instr} {n k' : Nat} {x : Int32} {off : Int} (hY : zOK Y) (hc : Y.2.2.2.2[k]? = some (i, n, t)) (hs : zsw i x = some off) (ht : ((zpc Y.2.2.2.2 k : Nat) : Int) + off = ((zpc Y.2.2.2.2 k' : Nat) : Int)) (g : zGo Y d k' al st M r M') : zGo Y d k al (.inl x :: st) M r M' := by
  intro p l e R s m args below meth c dC dI cI cZ as H locs ls C hP hS hl
  have h := g p l e R s m args below meth c dC dI cI cZ as H locs ls C hP hS hl
  have hd := (hY k _ _ _ hc).1
  cases i <;> simp only [zsw] at hs <;> first | (cases hs; done) | skip
  · split at hs
    · rename_i hp
      cases hs
      exact lv_lookup C.1 C.2.1 hd hp rfl ht h
    · cases hs
  · split at hs
    · rename_i hp
      cases hs
      exact lv_tableOut C.1 C.2.1 hd hp ht h
    · rename_i hp
      exact lv_tableIn C.1 C.2.1 hd (fun q => hp (Or.inl q)) (fun q => hp (Or.inr q)) hs ht h
theorem go_max {idx : Nat} {x y : Int32} (hY : zOK Y) (hc : Y.2.2.2.2[k]? = some (.invokestatic idx, 3, t)) (hw : Cond.methodLink Y.1.cls idx Lib.Math.max.name ∈ ztbl ∧ Cond.static Lib.Math.max.name ∈ ztbl ∧ Cond.initialized "java/lang/Math" ∈ ztbl ∧ Cond.code Lib.Math.max.name Lib.Math.max.code 2 (some .int) ∈ ztbl) (hd1 : 1 ≤ d) (hst : st.length ≤ 8) (g : zGo Y d (k + 1) al (.inl (if x < y then y else x) :: st) M r M') : zGo Y d k al (.inl y :: .inl x :: st) M r M' := by
  intro p l e R s m args below meth c dC dI cI cZ as H locs ls C hP hS hl
  have h := g p l e R s m args below meth c dC dI cI cZ as H locs ls C hP hS hl
  rw [zpc_succ hc] at h
  obtain ⟨w1, w2, w3, w4⟩ := hw
  have hT := C.2.2.2.2.2.2.1
  have hsum := zsum as st
  exact va_mmax C.1 C.2.1 (C.2.2.1.trans hl.2.1.symm) C.2.2.2.2.2.1 (hT _ w1) (hT _ w2) (hT _ w3) (hT _ w4) (Nat.le_trans hd1 C.2.2.2.2.2.2.2.2.2.1) (by have := C.2.2.2.2.2.2.2.2.2.2; rw [hsum]; omega) (Nat.zero_le _) (Nat.zero_le _) (hY k _ _ _ hc).1 h
theorem go_min {idx : Nat} {x y : Int32} (hY : zOK Y) (hc : Y.2.2.2.2[k]? = some (.invokestatic idx, 3, t)) (hw : Cond.methodLink Y.1.cls idx Lib.Math.min.name ∈ ztbl ∧ Cond.static Lib.Math.min.name ∈ ztbl ∧ Cond.initialized "java/lang/Math" ∈ ztbl ∧ Cond.code Lib.Math.min.name Lib.Math.min.code 2 (some .int) ∈ ztbl) (hd1 : 1 ≤ d) (hst : st.length ≤ 8) (g : zGo Y d (k + 1) al (.inl (if y < x then y else x) :: st) M r M') : zGo Y d k al (.inl y :: .inl x :: st) M r M' := by
  intro p l e R s m args below meth c dC dI cI cZ as H locs ls C hP hS hl
  have h := g p l e R s m args below meth c dC dI cI cZ as H locs ls C hP hS hl
  rw [zpc_succ hc] at h
  obtain ⟨w1, w2, w3, w4⟩ := hw
  have hT := C.2.2.2.2.2.2.1
  have hsum := zsum as st
  exact va_mmin C.1 C.2.1 (C.2.2.1.trans hl.2.1.symm) C.2.2.2.2.2.1 (hT _ w1) (hT _ w2) (hT _ w3) (hT _ w4) (Nat.le_trans hd1 C.2.2.2.2.2.2.2.2.2.1) (by have := C.2.2.2.2.2.2.2.2.2.2; rw [hsum]; omega) (Nat.zero_le _) (Nat.zero_le _) (hY k _ _ _ hc).1 h
end GO2
/-! ===== calls ===== -/
def zws (Y : zY) : List Cond := Cond.code Y.1 Y.2.1 Y.2.2.1 Y.2.2.2.1 :: ztbl
def zal (Y : zY) (av : List zV) : List (Option zV) := av.map some ++ List.replicate (Y.2.2.1 - av.length) none
def zPre (dC : Nat → ClassId) (dI : Nat → Nat → Nat) (cI cZ : ClassId) (as : Nat → Nat) (sz : Nat) (M : zMem) (av : List zV) : Array Value → State → Prop := va_Pc (av.map (zcv as)) (fun U => U.heap.size = sz ∧ va_P (dC, dI) zcl (zW cI cZ as M) U.heap ∧ va_K (dC, dI) zcl [(cI, .int), (cZ, .boolean)] U)
theorem zargs : ∀ (vs : List Value) (b i : Nat) (v : Value), (∀ w ∈ vs, w.category = 1) → vs[i]? = some v → (b + i, v) ∈ lv_args b vs
  | [], b, i, v, _, h => by simp at h
  | a :: q, b, 0, v, hc, h => by simp at h; subst h; simp [lv_args]
  | a :: q, b, i + 1, v, hc, h => by
    have h1 : q[i]? = some v := by simpa using h
    have ha : ¬ a.category = 2 := by have := hc a List.mem_cons_self; omega
    have := zargs q (b + 1) i v (fun w hw => hc w (List.mem_cons_of_mem _ hw)) h1
    simp only [lv_args, if_neg ha]
    refine List.mem_cons_of_mem _ ?_
    rwa [show b + (i + 1) = b + 1 + i by omega]
theorem zsl (as : Nat → Nat) : ∀ av : List zV, (lg_sl (av.map (zcv as))).length = av.length
  | [] => rfl
  | a :: q => by
    have ih := zsl as q
    have e : lg_sl ((a :: q).map (zcv as)) = .val (zcv as a) :: lg_sl (q.map (zcv as)) := by simp [lg_sl, zcv_cat]
    rw [e]; simp [ih]
theorem zpc_zero (l : List (Instr × Nat × Nat)) : zpc l 0 = 0 := by cases l <;> rfl
theorem zMet_of {Y : zY} {d : Nat} {av : List zV} {M M' : zMem} {r : Option Int32} (hp : plainName Y.1.cls = true) (hn : av.length ≤ Y.2.2.1) (g : zGo Y d 0 (zal Y av) [] M r M') (l : Launch) (dC : Nat → ClassId) (dI : Nat → Nat → Nat) (cI cZ : ClassId) (as : Nat → Nat) (sz : Nat) (hi : zInj as) :
    Met l Y.1 (zws Y) { frames := d, cells := 0, slots := 0, locals := 27 * d } (zPre dC dI cI cZ as sz M av) (zPost dC dI cI cZ as r M') 0 0 (zA as sz) := by
  refine Met.ofW (cc := Y.2.1) (maxL := Y.2.2.1) (ret := Y.2.2.2.1) hp rfl ?_
  intro p e s m args below meth c s₁ B hml hv
  obtain ⟨rfl, hsz, hP, hK⟩ := hv
  subst hsz
  have hts := atoms_spec (ws := zws Y) B.pre
  have hl := lv_entry (av.map (zcv as)) (n := Y.2.2.1) (by rw [zsl]; exact hn)
  rw [lg_entry_eq]
  generalize (lg_sl (av.map (zcv as)) ++ List.replicate (Y.2.2.1 - (lg_sl (av.map (zcv as))).length) Slot.unset).toArray = ls at hl ⊢
  have hz : zloc as ls Y.2.2.1 (zal Y av) := by
    refine ⟨by simp [zal]; omega, hl.1, hl.2.1, fun i v h => ?_⟩
    have hi2 : i < av.length := by
      by_cases q : i < av.length
      · exact q
      · simp only [zal] at h
        rw [List.getElem?_append_right (by simp; omega)] at h
        obtain ⟨_, h2⟩ := List.getElem?_eq_some_iff.mp h
        simp at h2
    have h3 : av[i]? = some v := by
      simp only [zal] at h
      rw [List.getElem?_append_left (by simpa using hi2)] at h
      rw [List.getElem?_map] at h
      cases hq : av[i]? with
      | none => rw [hq] at h; cases h
      | some w => rw [hq] at h; cases h; rfl
    have h4 := zargs (av.map (zcv as)) 0 i (zcv as v) (fun w hw => by obtain ⟨x, -, rfl⟩ := List.mem_map.mp hw; exact zcv_cat as x) (by rw [List.getElem?_map, h3]; rfl)
    have h5 := hl.2.2 _ h4
    simpa using h5
  have key := g p l e { frames := d, cells := 0, slots := 0, locals := 27 * d } s m _ below meth c dC dI cI cZ as s.heap [] ls ⟨B.exec, B.bytes, hml, B.returns, B.notSynchronized, findClass_of_methodNamed B.named, fun w hw => hts w (List.mem_cons_of_mem _ hw), hK, hi, Nat.le_refl _, Nat.le_refl _⟩ hP va_S.rf hz
  rw [zpc_zero] at key
  exact key
/-- what the tables say of a method: 'n' its parameters -/
def zMk (Y : zY) (n : Nat) : Prop := Cond.initialized Y.1.cls ∈ ztbl ∧ Cond.code Y.1 Y.2.1 Y.2.2.1 Y.2.2.2.1 ∈ ztbl ∧ (Y.1.cls ≠ "java/lang/invoke/MethodHandle" ∧ Y.1.cls ≠ "java/lang/invoke/VarHandle" ∧ (parseMethodDescriptor Y.1.desc).map (fun d => d.parameters.length) = some n) ∧ plainName Y.1.cls = true ∧ Y.2.2.1 ≤ 8
def zMv (Y : zY) (n o : Nat) : Prop := zMk Y n ∧ Cond.instanceMethod Y.1 ∈ ztbl ∧ Cond.selects Y.1.cls Y.1 Y.1 ∈ ztbl ∧ n + 1 ≤ Y.2.2.1 ∧ ∃ (ci : Nat) (fs : List (Option Nat)) (T : u_T) (N : Nat), zL[o]? = some (.inr (ci, fs)) ∧ zcl[ci]? = some (Y.1.cls, T, N)
def zMs (Y : zY) (n : Nat) : Prop := zMk Y n ∧ Cond.static Y.1 ∈ ztbl ∧ n ≤ Y.2.2.1
section GO3
variable {Y Y' : zY} {d d' k t n idx o : Nat} {al : List (Option zV)} {av rest : List zV} {M M1 M' : zMem} {r r1 : Option Int32}
theorem zgoodIn : GoodIn ztbl (zws Y') ↔ Cond.code Y'.1 Y'.2.1 Y'.2.2.1 Y'.2.2.2.1 ∈ ztbl := by
  constructor
  · intro h
    exact (h _ List.mem_cons_self).1
  · intro h w hw
    rcases List.mem_cons.mp hw with rfl | hw
    · exact ⟨h, zgood _ h⟩
    · exact ⟨hw, zgood _ hw⟩
theorem zblind {dC : Nat → ClassId} {dI : Nat → Nat → Nat} {cI cZ : ClassId} {as : Nat → Nat} {sz : Nat} : FrameBlind (zPre dC dI cI cZ as sz M av) := fun a U g mk q => by
  obtain ⟨q0, q1, qP, qK⟩ := q
  exact ⟨q0, q1, qP, va_K.moved (u := U) (U := U.calling g mk a) (Vm.Alike.refl U.vm) qK⟩
theorem zafter {p : Program} {l : Launch} {e : Env} {R : Room} {s : State} {m : MethodId} {args : Array Value} {below : List Frame} {meth : Method} {c : Code} {dC : Nat → ClassId} {dI : Nat → Nat → Nat} {cI cZ : ClassId} {as : Nat → Nat} {H : Heap} {locs : List Loc} {ls : Array Slot} {a : Array Value} {st0 : List Value} {Q : State → Prop}
    (hS : va_S (zA as s.heap.size) s.heap H locs)
    (hr : va_Run p l e R s m args below meth c H locs 0 0 0 0 (F0 m (zpc Y.2.2.2.2 k) ls st0) (rest.map (zcv as)) (zPost dC dI cI cZ as r1 M1 a) (zA as H.size))
    (kk : ∀ (H1 : Heap) (locs1 : List Loc), va_P (dC, dI) zcl (zW cI cZ as M1) H1 → va_S (zA as s.heap.size) s.heap H1 locs1 → W p l e R s m args below meth c H1 locs1 0 0 Q (F0 m (zpc Y.2.2.2.2 k + 3) ls ((r1.map Value.int).toList ++ rest.map (zcv as)))) :
    W p l e R s m args below meth c H locs 0 0 Q (F0 m (zpc Y.2.2.2.2 k) ls st0) := by
  intro T hT X
  obtain ⟨v, st₀, t, T', L, h0, X', hL, e1, e2, ⟨hv, hP1, hz, hk⟩, st⟩ := hr T hT X
  cases hv
  rw [h0] at hz hk
  have hsub : ∀ q, zA as H.size q → zA as s.heap.size q := fun q hq => by
    rcases hq with h | h
    · exact Or.inl h
    · exact Or.inr (Nat.le_trans hS.1 h)
  obtain ⟨t2, a1, b1⟩ := kk T'.heap (locs ++ L) (by rw [e1]; exact hP1)
    ⟨Nat.le_trans hS.1 (by rw [e1]; exact hz), fun q h1 h2 => by rw [e1, hk q (Nat.lt_of_lt_of_le h1 hS.1) (fun z => h2 (hsub q z))]; exact hS.2.1 q h1 h2, fun q hq => by
      rcases List.mem_append.mp hq with h | h
      · exact hS.2.2 q h
      · exact hsub _ (hL q h)⟩ T' rfl X'
  exact ⟨t2, st t2 a1, b1⟩
theorem go_invV (hY : zOK Y) (hc : Y.2.2.2.2[k]? = some (.invokevirtual idx, 3, t)) (hw : Cond.methodLink Y.1.cls idx Y'.1 ∈ ztbl) (hM : zMv Y' n o) (hn : av.length = n) (g1 : zGo Y' d' 0 (zal Y' (.inr o :: av)) [] M r1 M1) (hd : d' + 1 ≤ d) (hrest : rest.length ≤ 8) (g : zGo Y d (k + 1) al ((r1.map Sum.inl).toList ++ rest) M1 r M') : zGo Y d k al (av.reverse ++ .inr o :: rest) M r M' := by
  intro p l e R s m args below meth c dC dI cI cZ as H locs ls C hP hS hl
  obtain ⟨⟨w1, w2, w3, w4, w5⟩, w6, w7, w8, ci, fs, T, N, w9, w10⟩ := hM
  obtain ⟨hx, hb, hml, hr, hlk, hown, hT, hK, hi, hR1, hR2⟩ := id C
  have hMet := zMet_of (av := .inr o :: av) w4 (by simp; omega) g1 l dC dI cI cZ as H.size hi
  refine zafter (Y := Y) (k := k) (r1 := r1) (M1 := M1) (rest := rest) (dC := dC) (dI := dI) (cI := cI) (cZ := cZ) (as := as) hS
    (va_runV (As := av.map (zcv as)) (rest := rest.map (zcv as)) (b := as o) (n := n) (C := Y'.1.cls) (index := idx) (own := Y.1.cls) (Ts := ztbl) (nL := Y.2.2.1) ⟨hx, hb, hml, hown, hT⟩ hMet
      ⟨callB_of n hT (zgoodIn.mpr w2) rfl rfl rfl (hT _ w1) (hT _ hw) w3 ⟨by show d' + 1 ≤ R.frames; omega, by show 8 + (Y'.2.2.1 + 11) + 27 * d' ≤ R.locals; omega⟩, hT _ w6, hT _ w7⟩
      ⟨zblind, va_recv hK hP w10 (zW_get w9 (zOk_c w10)), fun U hU hW => ⟨rfl, by rw [hU], by rw [hU]; exact hP, va_K.moved hW.alike hK⟩⟩
      rfl (by simpa using hn) hl.2.1 (by simp [zcv]) (lv_room (by rw [zsum]; exact hrest)) (hY k _ _ _ hc).1 ⟨Nat.zero_le _, Nat.zero_le _⟩) (fun H1 locs1 hP1 hS1 => ?_)
  have h := g p l e R s m args below meth c dC dI cI cZ as H1 locs1 ls C hP1 hS1 hl
  rw [zpc_succ hc] at h
  have e : List.map (zcv as) ((r1.map Sum.inl).toList ++ rest) = (r1.map Value.int).toList ++ rest.map (zcv as) := by cases r1 <;> rfl
  rw [e] at h
  exact h
theorem go_invS (hY : zOK Y) (hc : Y.2.2.2.2[k]? = some (.invokestatic idx, 3, t)) (hw : Cond.methodLink Y.1.cls idx Y'.1 ∈ ztbl) (hM : zMs Y' n) (hn : av.length = n) (g1 : zGo Y' d' 0 (zal Y' av) [] M r1 M1) (hd : d' + 1 ≤ d) (hrest : rest.length ≤ 8) (g : zGo Y d (k + 1) al ((r1.map Sum.inl).toList ++ rest) M1 r M') : zGo Y d k al (av.reverse ++ rest) M r M' := by
  intro p l e R s m args below meth c dC dI cI cZ as H locs ls C hP hS hl
  obtain ⟨⟨w1, w2, w3, w4, w5⟩, w6, w8⟩ := hM
  obtain ⟨hx, hb, hml, hr, hlk, hown, hT, hK, hi, hR1, hR2⟩ := id C
  have hMet := zMet_of (av := av) w4 (by omega) g1 l dC dI cI cZ as H.size hi
  refine zafter (Y := Y) (k := k) (r1 := r1) (M1 := M1) (rest := rest) (dC := dC) (dI := dI) (cI := cI) (cZ := cZ) (as := as) hS
    (va_runS (As := av.map (zcv as)) (rest := rest.map (zcv as)) (n := n) (index := idx) (own := Y.1.cls) (Ts := ztbl) (nL := Y.2.2.1) ⟨hx, hb, hml, hown, hT⟩ hMet
      ⟨callB_of n hT (zgoodIn.mpr w2) rfl rfl rfl (hT _ w1) (hT _ hw) w3 ⟨by show d' + 1 ≤ R.frames; omega, by show 8 + (Y'.2.2.1 + 11) + 27 * d' ≤ R.locals; omega⟩, hT _ w6⟩
      ⟨zblind, fun U hU hW => ⟨rfl, by rw [hU], by rw [hU]; exact hP, va_K.moved hW.alike hK⟩⟩
      rfl (by simpa using hn) hl.2.1 (by simp) (lv_room (by rw [zsum]; exact hrest)) (hY k _ _ _ hc).1 ⟨Nat.zero_le _, Nat.zero_le _⟩) (fun H1 locs1 hP1 hS1 => ?_)
  have h := g p l e R s m args below meth c dC dI cI cZ as H1 locs1 ls C hP1 hS1 hl
  rw [zpc_succ hc] at h
  have e : List.map (zcv as) ((r1.map Sum.inl).toList ++ rest) = (r1.map Value.int).toList ++ rest.map (zcv as) := by cases r1 <;> rfl
  rw [e] at h
  exact h
end GO3
section GO4
variable {Y Y' : zY} {d d' k t n idx o : Nat} {al al' : List (Option zV)} {av rest st : List zV} {M M1 M' : zMem} {r : Option Int32} {x : Int32}
theorem go_vi (hY : zOK Y) (hc : Y.2.2.2.2[k]? = some (.invokevirtual idx, 3, t)) (hw : Cond.methodLink Y.1.cls idx Y'.1 ∈ ztbl) (hM : zMv Y' n o) (hn : av.length = n) (g1 : zGo Y' d' 0 (zal Y' (.inr o :: av)) [] M (some x) M1) (hd : d' + 1 ≤ d) (hrest : rest.length ≤ 8) (hst : av.reverse ++ .inr o :: rest = st) (g : zGo Y d (k + 1) al (.inl x :: rest) M1 r M') : zGo Y d k al st M r M' := hst ▸ go_invV hY hc hw hM hn g1 hd hrest g
theorem go_vv (hY : zOK Y) (hc : Y.2.2.2.2[k]? = some (.invokevirtual idx, 3, t)) (hw : Cond.methodLink Y.1.cls idx Y'.1 ∈ ztbl) (hM : zMv Y' n o) (hn : av.length = n) (g1 : zGo Y' d' 0 (zal Y' (.inr o :: av)) [] M none M1) (hd : d' + 1 ≤ d) (hrest : rest.length ≤ 8) (hst : av.reverse ++ .inr o :: rest = st) (g : zGo Y d (k + 1) al rest M1 r M') : zGo Y d k al st M r M' := hst ▸ go_invV hY hc hw hM hn g1 hd hrest g
theorem go_si (hY : zOK Y) (hc : Y.2.2.2.2[k]? = some (.invokestatic idx, 3, t)) (hw : Cond.methodLink Y.1.cls idx Y'.1 ∈ ztbl) (hM : zMs Y' n) (hn : av.length = n) (g1 : zGo Y' d' 0 (zal Y' av) [] M (some x) M1) (hd : d' + 1 ≤ d) (hrest : rest.length ≤ 8) (hst : av.reverse ++ rest = st) (g : zGo Y d (k + 1) al (.inl x :: rest) M1 r M') : zGo Y d k al st M r M' := hst ▸ go_invS hY hc hw hM hn g1 hd hrest g
def zsubl : List (Option zV) → List (Option zV) → Prop
  | [], [] => True
  | none :: a, _ :: b => zsubl a b
  | some v :: a, w :: b => w = some v ∧ zsubl a b
  | _, _ => False
theorem zsubl_ok : ∀ {a b : List (Option zV)}, zsubl a b → a.length = b.length ∧ ∀ (i : Nat) (v : zV), a[i]? = some (some v) → b[i]? = some (some v)
  | [], [], _ => ⟨rfl, fun i v h => h⟩
  | none :: a, w :: b, h => by
    obtain ⟨h1, h2⟩ := zsubl_ok (show zsubl a b from h)
    refine ⟨by simp [h1], fun i v hi => ?_⟩
    cases i with
    | zero => simp at hi
    | succ i => simpa using h2 i v (by simpa using hi)
  | some u :: a, w :: b, h => by
    obtain ⟨h0, h⟩ := (show w = some u ∧ zsubl a b from h)
    obtain ⟨h1, h2⟩ := zsubl_ok h
    refine ⟨by simp [h1], fun i v hi => ?_⟩
    cases i with
    | zero => simp at hi ⊢; rw [h0, hi]
    | succ i => simpa using h2 i v (by simpa using hi)
  | [], _ :: _, h => h.elim
  | none :: _, [], h => h.elim
  | some _ :: _, [], h => h.elim
theorem go_forget (g : zGo Y d k al' st M r M') (hw : zsubl al' al) : zGo Y d k al st M r M' := by
  intro p l e R s m args below meth c dC dI cI cZ as H locs ls C hP hS hl
  obtain ⟨h1, h2⟩ := zsubl_ok hw
  exact g p l e R s m args below meth c dC dI cI cZ as H locs ls C hP hS ⟨h1.trans hl.1, hl.2.1, hl.2.2.1, fun i v h => hl.2.2.2 i v (h2 i v h)⟩
theorem go_iast' {a m : Nat} {i x : Int32} (e : M1 = zup M a i.toNatClampNeg x) (hY : zOK Y) (hc : Y.2.2.2.2[k]? = some (.iastore, 1, t)) (ha : zL[a]? = some (.inl (false, m))) (hin : vp_in i m) (g : zGo Y d (k + 1) al st M1 r M') : zGo Y d k al (.inl x :: .inl i :: .inr a :: st) M r M' := go_iast hY hc ha hin (e ▸ g)
theorem go_zast' {a m : Nat} {i x : Int32} (e : M1 = zup M a i.toNatClampNeg x) (hY : zOK Y) (hc : Y.2.2.2.2[k]? = some (.bastore, 1, t)) (ha : zL[a]? = some (.inl (true, m))) (hin : vp_in i m) (hx : x = 0 ∨ x = 1) (g : zGo Y d (k + 1) al st M1 r M') : zGo Y d k al (.inl x :: .inl i :: .inr a :: st) M r M' := go_zast hY hc ha hin hx (e ▸ g)
theorem go_putI' {j : Nat} {x : Int32} (e : M1 = zup M o j x) (hY : zOK Y) (hc : Y.2.2.2.2[k]? = some (.putfield idx, 3, t)) (hF : zFI Y.1.cls idx o j .int) (g : zGo Y d (k + 1) al st M1 r M') : zGo Y d k al (.inl x :: .inr o :: st) M r M' := go_putI hY hc hF (e ▸ g)
theorem go_putZ' {j : Nat} {x : Int32} (e : M1 = zup M o j x) (hY : zOK Y) (hc : Y.2.2.2.2[k]? = some (.putfield idx, 3, t)) (hF : zFI Y.1.cls idx o j .boolean) (hx : x = 0 ∨ x = 1) (g : zGo Y d (k + 1) al st M1 r M') : zGo Y d k al (.inl x :: .inr o :: st) M r M' := go_putZ hY hc hF hx (e ▸ g)
end GO4
/-! the words of the pure functions -/
def zix {α : Type} (i : Int32) (n : Nat) (k : Option α) : Option α := if 0 ≤ i ∧ i.toNatClampNeg < n then k else none
def zbit {α : Type} (x : Int32) (k : Option α) : Option α := if x = 0 ∨ x = 1 then k else none
def znz {α : Type} (x : Int32) (k : Option α) : Option α := if x = 0 then none else k
def zset {α : Type} (M : zMem) (a i : Nat) (v : Int32) (k : zMem → Option α) : Option α := k (zup M a i v)
def zbi {α : Type} (o : Option (Int32 × zMem)) (k : Int32 → zMem → Option α) : Option α := match o with
  | none => none
  | some (x, M) => k x M
def zbv {α : Type} (o : Option zMem) (k : zMem → Option α) : Option α := match o with
  | none => none
  | some M => k M
theorem zix_ex {α : Type} {i : Int32} {n : Nat} {k : Option α} {y : α} (h : zix i n k = some y) : vp_in i n ∧ k = some y := by
  unfold zix at h
  split at h
  · rename_i c
    refine ⟨?_, h⟩
    rintro (q | q)
    · have h1 := Int32.le_iff_toInt_le.mp c.1
      have h2 := Int32.lt_iff_toInt_lt.mp q
      omega
    · omega
  · cases h
theorem zbit_ex {α : Type} {x : Int32} {k : Option α} {y : α} (h : zbit x k = some y) : (x = 0 ∨ x = 1) ∧ k = some y := by
  unfold zbit at h
  split at h
  · rename_i c
    exact ⟨c, h⟩
  · cases h
theorem znz_ex {α : Type} {x : Int32} {k : Option α} {y : α} (h : znz x k = some y) : ¬ x = 0 ∧ k = some y := by
  unfold znz at h
  split at h
  · cases h
  · rename_i c
    exact ⟨c, h⟩
theorem zset_ex {α : Type} {M : zMem} {a i : Nat} {v : Int32} {k : zMem → Option α} {y : α} (h : zset M a i v k = some y) : ∃ M1, M1 = zup M a i v ∧ k M1 = some y := ⟨_, rfl, h⟩
theorem zbi_ex {α : Type} {o : Option (Int32 × zMem)} {k : Int32 → zMem → Option α} {y : α} (h : zbi o k = some y) : ∃ x M, o = some (x, M) ∧ k x M = some y := by
  cases o with
  | none => cases h
  | some q => exact ⟨q.1, q.2, rfl, h⟩
theorem zbv_ex {α : Type} {o : Option zMem} {k : zMem → Option α} {y : α} (h : zbv o k = some y) : ∃ M, o = some M ∧ k M = some y := by
  cases o with
  | none => cases h
  | some q => exact ⟨q, rfl, h⟩
theorem zif_t {α : Type} {c : Prop} {i : Decidable c} {a b : Option α} {y : α} (hc : c) (h : @ite _ c i a b = some y) : a = some y := by rwa [if_pos hc] at h
theorem zif_f {α : Type} {c : Prop} {i : Decidable c} {a b : Option α} {y : α} (hc : ¬ c) (h : @ite _ c i a b = some y) : b = some y := by rwa [if_neg hc] at h
