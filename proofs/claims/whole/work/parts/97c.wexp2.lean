theorem lv_bin {k : Nat} (h : isBin k = true) : lv k = zLev k := by
  have := tlev_bin (s := .num 0) h
  rw [← this, tlev_L]
  unfold lv
  have e : isRel k = true ↔ (140 ≤ k ∧ k ≤ 145) := by simp [isRel]
  obtain ⟨h1, h2⟩ := isBin_n h
  by_cases c : 140 ≤ k ∧ k ≤ 145
  · rw [if_pos c, if_pos (e.mpr c)]
  · rw [if_neg c, if_neg (fun q => c (e.mp q))]
    by_cases c2 : k = 6 ∨ k = 130 ∨ k = 131 ∨ k = 151
    · rw [if_pos c2, if_pos c2]
    · rw [if_neg c2, if_neg c2, if_neg (by omega), if_pos (by omega)]
section WX
variable {M0 : zMem}
def pE (M0 : zMem) (t : T) : Prop := sh t 0 = true → ∀ lo hi r, hi ≤ 400 → Rep M0 t 0 lo hi r → ∃ i, r = nI i ∧ i < 400 ∧ ∀ lev, lev ≤ 3 → wT M0 (1000 + 4 * i + lev) (Wr t lev)
def pA (M0 : zMem) (t : T) : Prop := sh t 4 = true → ∀ lo hi r, hi ≤ 400 → Rep M0 t 1 lo hi r → (isNil t = true ∧ r = -1 ∧ Wr t 4 = []) ∨ ∃ i, r = nI i ∧ i < 400 ∧ isNil t = false ∧ 0 < (Wr t 4).length ∧ wT M0 (5000 + i) (Wr t 4)
theorem pE_num {k : Nat} : pE M0 (.num k) := by
  intro hs lo hi r h4 h
  obtain ⟨-, rfl, rfl, h3, h5⟩ := h
  refine ⟨lo, rfl, by omega, wT_all (k := 0) hs h3 (by omega) (by omega) rfl fun lev hl => ?_⟩
  refine wT_expE (k := 0) h3 (by omega) (by omega) hl fun M1 e => ?_
  unfold wIn
  rw [if_neg (show ¬ (2 : Int32) ≤ nI 0 by decide), if_pos (show nI 0 = 0 from rfl), zix_nI _ (by omega) (by omega), nI_clamp (by omega), e, h5]
  exact zbv_id _
theorem pE_var {x : Nat} : pE M0 (.var x) := by
  intro hs lo hi r h4 h
  have hx : x < 8 := by simpa [sh] using hs
  simp only [Rep] at h
  rw [if_neg (show ¬ ((x : Nat) = 99) by omega), if_neg (show ¬ ((x : Nat) = 98) by omega)] at h
  obtain ⟨-, rfl, rfl, h3, h5⟩ := h
  refine ⟨lo, rfl, by omega, wT_all (k := 1) hs h3 (by omega) (by omega) rfl fun lev hl => ?_⟩
  refine wT_expE (k := 1) h3 (by omega) (by omega) hl fun M1 e => ?_
  unfold wIn
  rw [if_neg (show ¬ (2 : Int32) ≤ nI 1 by decide), if_neg (show ¬ nI 1 = 0 by decide), zix_nI _ (by omega) (by omega), nI_clamp (by omega), e, h5, show (100 : Int32) = nI 100 from rfl, nI_add]
  exact zbv_id _
/-- what the parts of a task owe -/
theorem own1 {x : Nat} {w W : List Nat} (h : wT M0 x w) (hl : w.length ≤ W.length) : ∀ y ∈ [(x, w)], wT M0 y.1 y.2 ∧ [(x, w)].length + 8 * y.2.length ≤ 8 * W.length + 1 := by
  intro y hy
  simp only [List.mem_cons, List.not_mem_nil, or_false] at hy
  subst hy
  exact ⟨h, by simp; omega⟩
theorem ownC {x : Nat} {w W : List Nat} {xs : List (Nat × List Nat)} {L : Nat} (h : wT M0 x w) (hl : w.length < W.length) (hL : L ≤ 9) (g : ∀ y ∈ xs, wT M0 y.1 y.2 ∧ L + 8 * y.2.length ≤ 8 * W.length + 1) : ∀ y ∈ (x, w) :: xs, wT M0 y.1 y.2 ∧ L + 8 * y.2.length ≤ 8 * W.length + 1 := by
  intro y hy
  simp only [List.mem_cons] at hy
  rcases hy with rfl | hy
  · exact ⟨h, by simp; omega⟩
  · exact g y hy
theorem ownN {W : List Nat} {L : Nat} : ∀ y ∈ ([] : List (Nat × List Nat)), wT M0 y.1 y.2 ∧ L + 8 * y.2.length ≤ 8 * W.length + 1 := fun y hy => by simp at hy
theorem pE_L {k : Nat} {s : T} (ih : pE M0 s) (hk : k = 2 ∨ k = 5 ∨ k = 6) : pE M0 (.mulL k s) := by
  intro hs lo hi r h4 h
  have ss : sh s 0 = true := by
    simp [sh] at hs
    rcases hs with ⟨-, q⟩ | ⟨q, -⟩
    · exact q
    · have := (isBin_n q).1; omega
  obtain ⟨-, h1, rfl, h3, -, h5⟩ := h
  rw [show rmode k = 0 by rcases hk with rfl | rfl | rfl <;> rfl] at h5
  rw [show rk k = k by unfold rk; rw [if_neg (by omega)]] at h3
  obtain ⟨j, j1, j2, j3⟩ := ih ss _ _ _ (by omega) h5
  have tv : tlev (.mulL k s) = lv k := by rcases hk with rfl | rfl | rfl <;> rfl
  refine ⟨hi - 1, rfl, by omega, wT_all hs h3 (by omega) (by omega) tv fun lev hl => ?_⟩
  refine wT_exp h3 (by omega) (by omega) hl fun M1 l e hst hlen => ?_
  have e41 : M1 41 (hi - 1) = nI j := by rw [hst.2.2.2.2.1 41 (by omega) (by omega) (by omega)]; exact j1
  rcases hk with rfl | rfl | rfl
  · have ew : Wr (.mulL 2 s) 0 = [108] ++ ([125] ++ (Wr s 0 ++ ([126] ++ []))) := by simp [Wr]
    rw [ew] at hlen ⊢
    simp only [List.length_cons, List.length_append, List.length_nil] at hlen
    obtain ⟨M2, a1, a2⟩ := rTasks4 108 125 (1000 + 4 * j + 0) 126 hst.1 hst.2.1 (by omega) (by omega) (by omega) (by omega)
    refine ⟨M2, [(108, [108]), (125, [125]), (1000 + 4 * j + 0, Wr s 0), (126, [126])], ?_, ?_, rfl, wSt_push hst a2⟩
    · unfold wIn
      rw [if_pos (show (2 : Int32) ≤ nI 2 by decide), if_pos (show nI 2 = 2 from rfl), zix_nI _ (by omega) (by omega), nI_clamp (by omega), e41, show (0 : Int32) = nI 0 from rfl, rExpn, zbi_some, zbv_id]
      exact a1
    · exact ownC (wT_tok (by omega)) (by simp) (by simp) (ownC (wT_tok (by omega)) (by simp) (by simp) (ownC (j3 0 (by omega)) (by simp; omega) (by simp) (ownC (wT_tok (by omega)) (by simp) (by simp) ownN)))
  · have ew : Wr (.mulL 5 s) 0 = [152] ++ (Wr s 3 ++ []) := by simp [Wr]
    rw [ew] at hlen ⊢
    simp only [List.length_cons, List.length_append, List.length_nil] at hlen
    obtain ⟨M2, a1, a2⟩ := rTasks2 152 (1000 + 4 * j + 3) hst.1 hst.2.1 (by omega) (by omega)
    refine ⟨M2, [(152, [152]), (1000 + 4 * j + 3, Wr s 3)], ?_, ?_, rfl, wSt_push hst a2⟩
    · unfold wIn F_R_writeExpression_p101 F_R_writeExpression_p112
      rw [if_pos (show (2 : Int32) ≤ nI 5 by decide), if_neg (show ¬ nI 5 = 2 by decide), if_neg (show ¬ nI 5 = 3 by decide), if_neg (show ¬ (7 : Int32) ≤ nI 5 by decide), if_pos (show nI 5 = 5 from rfl), zix_nI _ (by omega) (by omega), if_pos (show nI 5 = 5 from rfl), nI_clamp (by omega), e41, show (3 : Int32) = nI 3 from rfl, rExpn, zbi_some, zbv_id]
      exact a1
    · exact ownC (wT_tok (by omega)) (by simp; exact Wr_pos ss 3 (by omega)) (by simp) (ownC (j3 3 (by omega)) (by simp) (by simp) ownN)
  · have ew : Wr (.mulL 6 s) 0 = [131] ++ (Wr s 2 ++ []) := by simp [Wr, brk]
    rw [ew] at hlen ⊢
    simp only [List.length_cons, List.length_append, List.length_nil] at hlen
    obtain ⟨M2, a1, a2⟩ := rTasks2 131 (1000 + 4 * j + 2) hst.1 hst.2.1 (by omega) (by omega)
    refine ⟨M2, [(131, [131]), (1000 + 4 * j + 2, Wr s 2)], ?_, ?_, rfl, wSt_push hst a2⟩
    · unfold wIn F_R_writeExpression_p101 F_R_writeExpression_p112
      rw [if_pos (show (2 : Int32) ≤ nI 6 by decide), if_neg (show ¬ nI 6 = 2 by decide), if_neg (show ¬ nI 6 = 3 by decide), if_neg (show ¬ (7 : Int32) ≤ nI 6 by decide), if_neg (show ¬ nI 6 = 5 by decide), zix_nI _ (by omega) (by omega), if_neg (show ¬ nI 6 = 5 by decide), nI_clamp (by omega), e41, show (2 : Int32) = nI 2 from rfl, rExpn, zbi_some, zbv_id]
      exact a1
    · exact ownC (wT_tok (by omega)) (by simp; exact Wr_pos ss 2 (by omega)) (by simp) (ownC (j3 2 (by omega)) (by simp) (by simp) ownN)
theorem lmin_le {k : Nat} : lmin k ≤ 3 := by
  have := zLev_le k
  unfold lmin
  split <;> omega
theorem pE_bin {k : Nat} {a b : T} (iha : pE M0 a) (ihb : pE M0 b) (hk : isBin k = true) : pE M0 (.mulL k (.add a b)) := by
  intro hs lo hi r h4 h
  obtain ⟨k1, k2⟩ := isBin_n hk
  have ss : sh a 0 = true ∧ sh b 0 = true := by
    simp [sh] at hs
    exact hs.2
  obtain ⟨-, h1, rfl, h3, -, h5⟩ := h
  rw [show rmode k = 5 by unfold rmode; rw [if_neg (by omega), if_neg (by omega), if_neg (by omega), if_pos (by omega)]] at h5
  rw [show rk k = k by unfold rk; rw [if_neg (by omega)]] at h3
  simp only [Rep] at h5
  rw [if_neg (by omega), if_neg (by omega), if_neg (by omega), if_pos trivial] at h5
  obtain ⟨m, r1, r2⟩ := h5
  have lm := Rep_le r2
  obtain ⟨j, j1, j2, j3⟩ := iha ss.1 _ _ _ (by omega) r1
  obtain ⟨i, i1, i2, i3⟩ := ihb ss.2 _ _ _ (by omega) r2
  have hv := lv_bin hk
  have z3 : zLev k ≤ 2 := by
    rw [← hv]
    unfold lv
    split
    · omega
    · split
      · omega
      · rw [if_neg (by omega)]; omega
  refine ⟨hi - 1, rfl, by omega, wT_all hs h3 (by omega) (by omega) (by rw [tlev_bin hk, hv]) fun lev hl => ?_⟩
  refine wT_exp h3 (by omega) (by omega) hl fun M1 l e hst hlen => ?_
  have e41 : M1 41 (hi - 1) = nI j := by rw [hst.2.2.2.2.1 41 (by omega) (by omega) (by omega)]; exact j1
  have e42 : M1 42 (hi - 1) = nI i := by rw [hst.2.2.2.2.1 42 (by omega) (by omega) (by omega)]; exact i1
  have ew : Wr (.mulL k (.add a b)) 0 = Wr a (lmin k) ++ ([k] ++ (Wr b (zLev k + 1) ++ [])) := by
    rw [Wr_bin hk, Wr_pair hk]
    unfold brk
    rw [if_neg (by omega)]
    simp
  rw [ew] at hlen ⊢
  simp only [List.length_cons, List.length_append, List.length_nil] at hlen
  have lk := lmin_le (k := k)
  obtain ⟨M2, a1, a2⟩ := rTasks3 (1000 + 4 * j + lmin k) k (1000 + 4 * i + (zLev k + 1)) hst.1 hst.2.1 (by omega) (by omega) (by omega)
  refine ⟨M2, [(1000 + 4 * j + lmin k, Wr a (lmin k)), (k, [k]), (1000 + 4 * i + (zLev k + 1), Wr b (zLev k + 1))], ?_, ?_, rfl, wSt_push hst a2⟩
  · have p127 : F_R_writeExpression_p127 M1 (nI (hi - 1)) (nI k) (nI (lv k)) (nI j) (nI (lmin k)) = some M2 := by
      unfold F_R_writeExpression_p127
      rw [rExpn, zbi_some, zix_nI _ (by omega) (by omega), nI_clamp (by omega), e42, nI_1, rExpn, zbi_some, zbv_id, hv]
      exact a1
    unfold wIn
    rw [if_pos (show (2 : Int32) ≤ nI k from nI_le (a := 2) (by omega) (by omega)), if_neg (show ¬ nI k = 2 from nIne (c := 2) (by omega) (by omega) (by omega)), if_neg (show ¬ nI k = 3 from nIne (c := 3) (by omega) (by omega) (by omega)), if_pos (show (7 : Int32) ≤ nI k from nI_le (a := 7) (by omega) (by omega)), zix_nI _ (by omega) (by omega), nI_clamp (by omega), e41]
    by_cases c : lv k = 0
    · rw [if_pos (show nI (lv k) = 0 by rw [c]; rfl)]
      have : lmin k = 1 := by unfold lmin; rw [if_pos (by omega)]
      rw [this] at p127
      exact p127
    · rw [if_neg (show ¬ nI (lv k) = 0 from nIne (c := 0) (by omega) (by omega) c)]
      have : lmin k = lv k := by unfold lmin; rw [if_neg (by omega), hv]
      rw [this] at p127
      exact p127
  · have w1 := Wr_pos ss.1 (lmin k) lk
    have w2 := Wr_pos ss.2 (zLev k + 1) (by omega)
    exact ownC (j3 _ lk) (by simp) (by simp) (ownC (wT_tok (by omega)) (by simp; omega) (by simp) (ownC (i3 _ (by omega)) (by simp; omega) (by simp) ownN))
theorem pE_call {s : T} {q : Nat} (ih : pA M0 s) : pE M0 (.mulR s q) := by
  intro hs lo hi r h4 h
  have ss : sh s 4 = true := by simpa [sh] using hs
  obtain ⟨-, h1, rfl, h3, h40, -, h6⟩ := h
  refine ⟨lo, rfl, by omega, wT_all (k := 3) hs h3 (by omega) (by omega) rfl fun lev hl => ?_⟩
  refine wT_exp (k := 3) h3 (by omega) (by omega) hl fun M1 l e hst hlen => ?_
  have e40 : M1 40 lo = nI (q % 4) := by rw [hst.2.2.2.2.1 40 (by omega) (by omega) (by omega)]; exact h40
  have e41 : M1 41 lo = M0 41 lo := by rw [hst.2.2.2.2.1 41 (by omega) (by omega) (by omega)]
  have pre : wIn M1 (nI lo) (nI 3) (nI (lv 3)) = if 0 ≤ M0 41 lo then F_R_tasksOf M1 (nI (110 + q % 4)) 122 (5000 + M0 41 lo) 123 else F_R_tasksOf M1 (nI (110 + q % 4)) 122 123 (-1) := by
    unfold wIn F_R_writeExpression_p81 F_R_writeExpression_p89
    rw [if_pos (show (2 : Int32) ≤ nI 3 by decide), if_neg (show ¬ nI 3 = 2 by decide), if_pos (show nI 3 = 3 from rfl)]
    simp only [zix_nI _ (show lo < 400 by omega) (show (400 : Nat) < 2 ^ 31 by omega), nI_clamp (show lo < 2 ^ 31 by omega), e40, e41, show (110 : Int32) = nI 110 from rfl, nI_add, zbv_id]
    by_cases c : 0 ≤ M0 41 lo
    · rw [if_pos c, if_pos c, if_pos c]
    · rw [if_neg c, if_neg c, if_neg c]
  rcases ih ss _ _ _ (by omega) h6 with ⟨z1, z2, z3⟩ | ⟨j, z1, z2, z3, z4, z5⟩
  · have ew : Wr (.mulR s q) 0 = [110 + q % 4] ++ ([122] ++ ([123] ++ [])) := by simp [Wr, z3]
    rw [ew] at hlen ⊢
    simp only [List.length_cons, List.length_append, List.length_nil] at hlen
    obtain ⟨M2, a1, a2⟩ := rTasks3 (110 + q % 4) 122 123 hst.1 hst.2.1 (by omega) (by omega) (by omega)
    refine ⟨M2, [(110 + q % 4, [110 + q % 4]), (122, [122]), (123, [123])], ?_, ?_, rfl, wSt_push hst a2⟩
    · rw [pre, z2, if_neg (by decide)]
      exact a1
    · exact ownC (wT_tok (by omega)) (by simp) (by simp) (ownC (wT_tok (by omega)) (by simp) (by simp) (ownC (wT_tok (by omega)) (by simp) (by simp) ownN))
  · have ew : Wr (.mulR s q) 0 = [110 + q % 4] ++ ([122] ++ (Wr s 4 ++ ([123] ++ []))) := by simp [Wr]
    rw [ew] at hlen ⊢
    simp only [List.length_cons, List.length_append, List.length_nil] at hlen
    obtain ⟨M2, a1, a2⟩ := rTasks4 (110 + q % 4) 122 (5000 + j) 123 hst.1 hst.2.1 (by omega) (by omega) (by omega) (by omega)
    refine ⟨M2, [(110 + q % 4, [110 + q % 4]), (122, [122]), (5000 + j, Wr s 4), (123, [123])], ?_, ?_, rfl, wSt_push hst a2⟩
    · rw [pre, z1, if_pos (show (0 : Int32) ≤ nI j from nI_le (a := 0) (by omega) (by omega)), show (5000 : Int32) = nI 5000 from rfl, nI_add]
      exact a1
    · exact ownC (wT_tok (by omega)) (by simp) (by simp) (ownC (wT_tok (by omega)) (by simp) (by simp) (ownC z5 (by simp; omega) (by simp) (ownC (wT_tok (by omega)) (by simp) (by simp) ownN)))
theorem pA_add {a b : T} (iha : pE M0 a) (ihb : pA M0 b) : pA M0 (.add a b) := by
  intro hs lo hi r h4 h
  have ss : sh a 0 = true ∧ sh b 4 = true := by simpa [sh] using hs
  simp only [Rep, if_pos] at h
  obtain ⟨m, k, h1, rfl, h2, h3, h5⟩ := h
  have l1 := Rep_le h5
  obtain ⟨j, j1, j2, j3⟩ := iha ss.1 _ _ _ (by omega) h1
  have jk : k = j := nI_inj (by omega) (by omega) j1
  subst jk
  have wp := Wr_pos ss.1 0 (by omega)
  refine Or.inr ⟨k, rfl, j2, rfl, by rw [Wr_add4]; simp; omega, ?_⟩
  refine wT_of fun M1 l e hst hlen => ?_
  have e44 : M1 44 k = M0 44 k := by rw [hst.2.2.2.2.1 44 (by omega) (by omega) (by omega)]
  rcases ihb ss.2 _ _ _ h4 h5 with ⟨z1, z2, z3⟩ | ⟨i, z1, z2, z3, z4, z5⟩
  · have ew : Wr (.add a b) 4 = Wr a 0 ++ [] := by rw [Wr_add4, z1]; rfl
    rw [ew] at hlen ⊢
    simp only [List.length_append, List.length_nil] at hlen
    obtain ⟨M2, a1, a2⟩ := rTask (1000 + 4 * k + 0) hst.1 hst.2.1 (by omega)
    refine ⟨M2, [(1000 + 4 * k + 0, Wr a 0)], fun N n => ?_, own1 (j3 0 (by omega)) (by simp), rfl, wSt_push hst a2⟩
    rw [wD_arg j2, e44, z2, if_pos (by decide)]
    unfold F_R_write_p81
    rw [show (0 : Int32) = nI 0 from rfl, rExpn, zbi_some, a1, zbv_some]
  · have ew : Wr (.add a b) 4 = Wr a 0 ++ ([124] ++ (Wr b 4 ++ [])) := by rw [Wr_add4, z3]; simp
    rw [ew] at hlen ⊢
    simp only [List.length_cons, List.length_append, List.length_nil] at hlen
    obtain ⟨M2, a1, a2⟩ := rTasks2 124 (5000 + i) hst.1 hst.2.1 (by omega) (by omega)
    obtain ⟨M3, b1, b2⟩ := rTask (1000 + 4 * k + 0) a2.1 a2.2.1 (by simp; omega)
    refine ⟨M3, [(1000 + 4 * k + 0, Wr a 0), (124, [124]), (5000 + i, Wr b 4)], fun N n => ?_, ?_, rfl, wSt_push (ks := [1000 + 4 * k + 0]) (l := [124, 5000 + i] ++ l) (wSt_push hst a2) b2⟩
    · rw [wD_arg j2, e44, z1, if_neg (nI_pos (by omega)), show (5000 : Int32) = nI 5000 from rfl, nI_add, show F_R_tasksOf M1 124 (nI (5000 + i)) (-1) (-1) = some M2 from a1, zbv_some]
      unfold F_R_write_p81
      rw [show (0 : Int32) = nI 0 from rfl, rExpn, zbi_some, b1, zbv_some]
    · exact ownC (j3 0 (by omega)) (by simp) (by simp) (ownC (wT_tok (by omega)) (by simp; omega) (by simp) (ownC z5 (by simp; omega) (by simp) ownN))
theorem pEA : ∀ (n : Nat) (t : T), tsz t ≤ n → pE M0 t ∧ pA M0 t
  | 0, t, h => by cases t <;> simp [tsz] at h
  | n + 1, t, h => by
    cases t with
    | num k => exact ⟨pE_num, fun q => by simp [sh] at q⟩
    | var x =>
      refine ⟨pE_var, fun q lo hi r h4 hr => Or.inl ?_⟩
      have hx : (x : Nat) = 99 := by simpa [sh] using q
      simp only [Rep] at hr
      rw [if_pos hx, if_neg (by omega)] at hr
      exact ⟨by simp [isNil, hx], hr.2.2, by simp [Wr]⟩
    | add a b =>
      simp only [tsz] at h
      exact ⟨fun q => by simp [sh] at q, pA_add (pEA n a (by omega)).1 (pEA n b (by omega)).2⟩
    | mulR s q =>
      simp only [tsz] at h
      exact ⟨pE_call (pEA n s (by omega)).2, fun q => by simp [sh] at q⟩
    | mulL k s =>
      simp only [tsz] at h
      refine ⟨fun q => ?_, fun q => by simp [sh] at q⟩
      have q' := q
      simp [sh] at q'
      rcases q' with ⟨q1, -⟩ | ⟨q1, q2⟩
      · exact pE_L (pEA n s (by omega)).1 (by omega) q
      · obtain ⟨a, b, rfl, -, -⟩ := sh5 q2
        simp only [tsz] at h
        exact pE_bin (pEA n a (by omega)).1 (pEA n b (by omega)).1 q1 q
end WX
