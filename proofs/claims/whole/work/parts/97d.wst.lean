/-! statements are written -/
def wO (M0 : zMem) (i : Nat) (w : List Nat) : Prop := ∀ M1 l e, wSt M0 M1 l e → l.length + 6 ≤ 1600 → ∃ M2 xs, F_R_writeStatement_p21 M1 (nI i) (M0 39 i) = some M2 ∧ xs.length ≤ 6 ∧ (∀ y ∈ xs, wT M0 y.1 y.2 ∧ xs.length + 8 * y.2.length ≤ 8 * w.length + 1) ∧ cat xs = w ∧ wSt M0 M2 (xs.map Prod.fst ++ l) e
def pSt (M0 : zMem) (t : T) : Prop := sh t 1 = true → ∀ lo hi r, hi ≤ 400 → Rep M0 t 0 lo hi r → ∃ i, r = nI i ∧ i < 400 ∧ 0 < (Wr t 0).length ∧ wO M0 i (Wr t 0)
def pL (M0 : zMem) (t : T) : Prop := sh t 2 = true → ∀ lo hi r, hi ≤ 400 → Rep M0 t 1 lo hi r → (isNil t = true ∧ r = -1 ∧ Wr t 5 = []) ∨ ∃ i, r = nI i ∧ i < 400 ∧ isNil t = false ∧ 0 < (Wr t 5).length ∧ wT M0 (3000 + i) (Wr t 5)
def pK (M0 : zMem) (t : T) : Prop := sh t 2 = true → ∀ lo hi r, hi ≤ 400 → Rep M0 t 2 lo hi r → ∃ i, r = nI i ∧ i < 400 ∧ M0 39 i = 30 ∧ wT M0 (6000 + i) (Wr t 5)
def pR (M0 : zMem) (t : T) : Prop := sh t 3 = true → ∀ lo hi r, hi ≤ 400 → Rep M0 t 3 lo hi r → ∀ j, j < 400 → M0 43 j = r → wT M0 (4000 + j) (Wr t 6)
section WY
variable {M0 : zMem}
theorem pEx (t : T) : pE M0 t := (pEA (tsz t) t (Nat.le_refl _)).1
theorem c41 {M1 : zMem} {l e : List Nat} (h : wSt M0 M1 l e) (a : Nat) (ha : 39 ≤ a ∧ a ≤ 44) : M1 a = M0 a := h.2.2.2.2.1 a (by omega) (by omega) (by omega)
theorem pL_add {a b : T} (iha : pSt M0 a) (ihb : pL M0 b) : pL M0 (.add a b) := by
  intro hs lo hi r h4 h
  have ss : sh a 1 = true ∧ sh b 2 = true := by simpa [sh] using hs
  simp only [Rep, if_pos] at h
  obtain ⟨m, k, h1, rfl, h2, h3, h5⟩ := h
  have l1 := Rep_le h5
  obtain ⟨j, j1, j2, wp, j3⟩ := iha ss.1 _ _ _ (by omega) h1
  have jk : k = j := nI_inj (by omega) (by omega) j1
  subst jk
  refine Or.inr ⟨k, rfl, j2, rfl, by rw [Wr_add5]; simp; omega, ?_⟩
  refine wT_of fun M1 l e hst hlen => ?_
  have e44 : M1 44 k = M0 44 k := by rw [c41 hst 44 (by omega)]
  have e39 : M1 39 k = M0 39 k := by rw [c41 hst 39 (by omega)]
  rcases ihb ss.2 _ _ _ h4 h5 with ⟨z1, z2, z3⟩ | ⟨i, z1, z2, z3, z4, z5⟩
  · have ew : Wr (.add a b) 5 = Wr a 0 := by rw [Wr_add5, z1, if_pos rfl, List.append_nil]
    rw [ew] at hlen ⊢
    obtain ⟨M2, xs, a1, a2, a3, a4, a5⟩ := j3 M1 l e hst (by omega)
    refine ⟨M2, xs, fun N n => ?_, a3, a4, a5⟩
    rw [wD_st j2]
    unfold F_R_writeStatement
    rw [zix_nI _ j2 (by omega), zix_nI _ j2 (by omega), nI_clamp (by omega), e44, z2, if_pos (by decide), e39, a1, zbv_some]
  · have ew : Wr (.add a b) 5 = Wr a 0 ++ ([121] ++ (Wr b 5 ++ [])) := by rw [Wr_add5, z3]; simp
    rw [ew] at hlen ⊢
    simp only [List.length_cons, List.length_append, List.length_nil] at hlen
    obtain ⟨M2, b1, b2⟩ := rTasks2 121 (3000 + i) hst.1 hst.2.1 (by omega) (by omega)
    have hst2 := wSt_push hst b2
    obtain ⟨M3, xs, a1, a2, a3, a4, a5⟩ := j3 M2 ([121, 3000 + i] ++ l) e hst2 (by simp <;> omega)
    refine ⟨M3, xs ++ [(121, [121]), (3000 + i, Wr b 5)], fun N n => ?_, ?_, ?_, ?_⟩
    · rw [wD_st j2]
      unfold F_R_writeStatement
      rw [zix_nI _ j2 (by omega), zix_nI _ j2 (by omega), nI_clamp (by omega), e44, z1, if_neg (nI_pos (by omega)), zix_nI _ j2 (by omega), show (3000 : Int32) = nI 3000 from rfl, nI_add, show F_R_tasksOf M1 121 (nI (3000 + i)) (-1) (-1) = some M2 from b1, zbv_some, e39, a1, zbv_some]
    · intro y hy
      simp only [List.mem_append, List.mem_cons, List.not_mem_nil, or_false] at hy
      simp only [List.length_append, List.length_cons, List.length_nil]
      rcases hy with hy | rfl | rfl
      · obtain ⟨y1, y2⟩ := a3 y hy
        exact ⟨y1, by omega⟩
      · exact ⟨wT_tok (by omega), by simp <;> omega⟩
      · exact ⟨z5, by simp <;> omega⟩
    · rw [cat_app, a4]
      rfl
    · simpa using a5
theorem pK_of {t : T} (ih : pL M0 t) : pK M0 t := by
  intro hs lo hi r h4 h
  cases t with
  | num k => simp [sh] at hs
  | mulL k a => simp [sh] at hs
  | mulR a k => simp [sh] at hs
  | var x =>
    have hx : (x : Nat) = 99 := by simpa [sh] using hs
    simp only [Rep] at h
    rw [if_pos hx, if_pos (Or.inl trivial)] at h
    obtain ⟨h1, h2, h3, h5⟩ := h
    refine ⟨lo, h2, by omega, h3, wT_of fun M1 l e hst hlen => ⟨M1, [], fun N n => ?_, ownN, by simp [cat, Wr], hst⟩⟩
    rw [wD_list (by omega), c41 hst 41 (by omega), h5, if_pos (by decide)]
  | add a b =>
    simp only [Rep] at h
    rw [if_neg (by omega), if_pos (Or.inl trivial)] at h
    obtain ⟨h1, h2, h3, m, k, r1, r2, r3, r4, r5⟩ := h
    have hr : Rep M0 (.add a b) 1 (lo + 1) hi (M0 41 lo) := by
      simp only [Rep, if_pos]
      exact ⟨m, k, r1, r2, r3, r4, r5⟩
    rcases ih hs _ _ _ h4 hr with ⟨z1, -⟩ | ⟨i, z1, z2, z3, z4, z5⟩
    · simp [isNil] at z1
    · refine ⟨lo, h1, by omega, h3, wT_of fun M1 l e hst hlen => ?_⟩
      obtain ⟨M2, a1, a2⟩ := rTask (3000 + i) hst.1 hst.2.1 (by omega)
      refine ⟨M2, [(3000 + i, Wr (.add a b) 5)], fun N n => ?_, own1 z5 (Nat.le_refl _), by simp [cat], wSt_push hst a2⟩
      rw [wD_list (by omega), c41 hst 41 (by omega), z1, if_neg (nI_pos (by omega)), show (3000 : Int32) = nI 3000 from rfl, nI_add, a1, zbv_some]
theorem pR_98 {t : T} (ht : t = .var 98) : pR M0 t := by
  subst ht
  intro hs lo hi r h4 h j hj h43
  simp only [Rep] at h
  rw [if_neg (by decide), if_pos trivial] at h
  obtain ⟨-, -, rfl⟩ := h
  refine wT_of fun M1 l e hst hlen => ⟨M1, [], fun N n => ?_, ownN, rfl, hst⟩
  rw [wD_rest hj]
  unfold F_R_writeRest F_R_writeRest_p22
  rw [zix_nI _ hj (by omega), nI_clamp (by omega), c41 hst 43 (by omega), h43, if_pos (by decide), if_pos (by decide), zbv_some]
theorem pR_list {t : T} (ht : t = .var 99 ∨ ∃ a b, t = .add a b) (ih : pK M0 t) : pR M0 t := by
  intro hs lo hi r h4 h j hj h43
  have hs2 : sh t 2 = true := by
    rcases ht with rfl | ⟨a, b, rfl⟩
    · rfl
    · simp [sh] at hs ⊢; exact hs
  have hr2 : Rep M0 t 2 lo hi r := by
    rcases ht with rfl | ⟨a, b, rfl⟩
    · simp only [Rep] at h ⊢
      rw [if_pos trivial, if_pos (Or.inr trivial)] at h
      rw [if_pos trivial, if_pos (Or.inl trivial)]
      exact h
    · simp only [Rep] at h ⊢
      rw [if_neg (by omega), if_pos (Or.inr trivial)] at h
      rw [if_neg (by omega), if_pos (Or.inl trivial)]
      exact h
  obtain ⟨i, i1, i2, i3, i4⟩ := ih hs2 _ _ _ h4 hr2
  have ew : Wr t 6 = [162] ++ (Wr t 5 ++ []) := by
    rcases ht with rfl | ⟨a, b, rfl⟩
    · simp [Wr]
    · simp [Wr]
  rw [ew]
  refine wT_man fun M1 l e hst hlen he => ?_
  simp only [List.length_cons, List.length_append, List.length_nil] at hlen he
  obtain ⟨M2, a1, a2⟩ := rTasks2 162 (6000 + i) hst.1 hst.2.1 (by omega) (by omega)
  refine ⟨M2, fun N n => ?_, ?_⟩
  · rw [wD_rest hj]
    unfold F_R_writeRest
    rw [zix_nI _ hj (by omega), nI_clamp (by omega), c41 hst 43 (by omega), h43, i1, if_neg (nI_pos (by omega)), zix_nI _ i2 (by omega), nI_clamp (by omega), c41 hst 39 (by omega), i3, if_pos rfl, show (6000 : Int32) = nI 6000 from rfl, nI_add, zbv_id, show F_R_tasksOf M1 162 (nI (6000 + i)) (-1) (-1) = some M2 from a1, zbv_some]
  · refine wG_trans (wTk (l := (6000 + i) :: l) (by omega) (wSt_push hst a2) (by simp <;> omega) (by omega)) fun M3 h3 => ?_
    have := i4 M3 l (e ++ [162]) h3 (by omega) (by simp <;> omega)
    rw [List.append_nil, ← List.append_assoc]
    exact this
/-- the parts of an if, from its node -/
theorem ifParts {c l' e' : T} {lo hi : Nat} {r : Int32} (ihl : pK M0 l') (ihe : pR M0 e') (hc : sh c 0 = true) (hl : sh l' 2 = true) (he : sh e' 3 = true) (h4 : hi < 400) (h : Rep M0 (.add c (.add l' e')) 8 lo hi r) : ∃ j i, M0 41 hi = nI j ∧ j < 400 ∧ M0 42 hi = nI i ∧ i < 400 ∧ wT M0 (1000 + 4 * j + 0) (Wr c 0) ∧ wT M0 (6000 + i) (Wr l' 5) ∧ wT M0 (4000 + hi) (Wr e' 6) := by
  simp only [Rep] at h
  rw [if_neg (by omega), if_neg (by omega), if_neg (by omega), if_neg (by omega), if_neg (by omega), if_neg (by omega), if_pos trivial] at h
  obtain ⟨m, r1, r2⟩ := h
  rw [if_neg (by omega), if_neg (by omega), if_pos trivial] at r2
  obtain ⟨m', r3, r4⟩ := r2
  have l1 := Rep_le r3
  have l2 := Rep_le r4
  obtain ⟨j, j1, j2, j3⟩ := pEx c hc _ _ _ (by omega) r1
  obtain ⟨i, i1, i2, -, i4⟩ := ihl hl _ _ _ (by omega) r3
  exact ⟨j, i, j1, j2, i1, i2, j3 0 (by omega), i4, ihe he _ _ _ (by omega) r4 hi h4 rfl⟩
theorem pR_if {c l' e' : T} (ihl : pK M0 l') (ihe : pR M0 e') : pR M0 (.mulL 27 (.add c (.add l' e'))) := by
  intro hs lo hi r h4 h j0 hj h43
  have ss : sh c 0 = true ∧ sh l' 2 = true ∧ sh e' 3 = true := by simpa [sh] using hs
  obtain ⟨-, h1, rfl, h3, -, h5⟩ := h
  have h3 : M0 39 (hi - 1) = 27 := h3
  have h5 : Rep M0 (.add c (.add l' e')) 8 lo (hi - 1) (M0 41 (hi - 1)) := h5
  obtain ⟨j, i, p1, p2, p3, p4, p5, p6, p7⟩ := ifParts ihl ihe ss.1 ss.2.1 ss.2.2 (by omega) h5
  have ew : Wr (.mulL 27 (.add c (.add l' e'))) 6 = [173] ++ (Wr c 0 ++ ([161] ++ (Wr l' 5 ++ (Wr e' 6 ++ [])))) := by simp [Wr]
  rw [ew]
  refine wT_of fun M1 l e hst hlen => ?_
  simp only [List.length_cons, List.length_append, List.length_nil] at hlen
  obtain ⟨M2, a1, a2⟩ := rTasks3 161 (6000 + i) (4000 + (hi - 1)) hst.1 hst.2.1 (by omega) (by omega) (by omega)
  have hst2 := wSt_push hst a2
  obtain ⟨M3, b1, b2⟩ := rTasks2 173 (1000 + 4 * j + 0) hst2.1 hst2.2.1 (by simp <;> omega) (by omega)
  refine ⟨M3, [(173, [173]), (1000 + 4 * j + 0, Wr c 0), (161, [161]), (6000 + i, Wr l' 5), (4000 + (hi - 1), Wr e' 6)], fun N n => ?_, ?_, rfl, wSt_push (ks := [173, 1000 + 4 * j + 0]) (l := [161, 6000 + i, 4000 + (hi - 1)] ++ l) hst2 b2⟩
  · rw [wD_rest hj]
    unfold F_R_writeRest F_R_writeRest_p22
    rw [zix_nI _ hj (by omega), nI_clamp (by omega), c41 hst 43 (by omega), h43, if_neg (nI_pos (by omega)), zix_nI _ (by omega) (by omega), nI_clamp (by omega), c41 hst 39 (by omega), h3, if_neg (by decide), if_neg (nI_pos (by omega)), zix_nI _ (by omega) (by omega), c41 hst 42 (by omega), p3, show (6000 : Int32) = nI 6000 from rfl, nI_add, show (4000 : Int32) = nI 4000 from rfl, nI_add, show F_R_tasksOf M1 161 (nI (6000 + i)) (nI (4000 + (hi - 1))) (-1) = some M2 from a1, zbv_some, zix_nI _ (by omega) (by omega), c41 hst2 41 (by omega), p1, show (0 : Int32) = nI 0 from rfl, rExpn, zbi_some, zbv_id, show F_R_tasksOf M2 173 (nI (1000 + 4 * j + 0)) (-1) (-1) = some M3 from b1, zbv_some]
  · have w1 := Wr_pos ss.1 0 (by omega)
    exact ownC (wT_tok (by omega)) (by simp <;> omega) (by simp) (ownC p5 (by simp <;> omega) (by simp) (ownC (wT_tok (by omega)) (by simp <;> omega) (by simp) (ownC p6 (by simp <;> omega) (by simp) (ownC p7 (by simp <;> omega) (by simp) ownN))))
end WY
