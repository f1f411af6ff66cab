/-! expressions are written -/
def lv (k : Nat) : Nat := if 140 ≤ k ∧ k ≤ 145 then 0 else if k = 6 ∨ k = 130 ∨ k = 131 ∨ k = 151 then 1 else if k ≤ 100 then 3 else 2
def wIn (M2 : zMem) (l1 k r4 : Int32) : Option zMem :=
  if (2 : Int32) ≤ k then (if k = (2 : Int32) then (zix l1 400 (zbi (F_R_expression M2 (M2 41 l1.toNatClampNeg) (0 : Int32)) fun r12 M10 => zbv (F_R_tasksOf M10 (108 : Int32) (125 : Int32) r12 (126 : Int32)) fun M13 => some M13)) else (if k = (3 : Int32) then (zix l1 400 (zix l1 400 (if 0 ≤ (M2 41 l1.toNatClampNeg) then (zix l1 400 (F_R_writeExpression_p81 M2 l1 ((110 : Int32) + (M2 40 l1.toNatClampNeg)) ((122 : Int32)) ((5000 : Int32) + (M2 41 l1.toNatClampNeg)))) else (F_R_writeExpression_p81 M2 l1 ((110 : Int32) + (M2 40 l1.toNatClampNeg)) ((122 : Int32)) ((123 : Int32)))))) else (if (7 : Int32) ≤ k then (zix l1 400 (if r4 = 0 then (F_R_writeExpression_p127 M2 l1 k r4 (M2 41 l1.toNatClampNeg) ((1 : Int32))) else (F_R_writeExpression_p127 M2 l1 k r4 (M2 41 l1.toNatClampNeg) r4))) else (if k = (5 : Int32) then (F_R_writeExpression_p101 M2 l1 k ((152 : Int32))) else (F_R_writeExpression_p101 M2 l1 k ((131 : Int32))))))) else (if k = 0 then (zix l1 400 (F_R_writeExpression_p39 M2 (M2 40 l1.toNatClampNeg))) else (zix l1 400 (F_R_writeExpression_p39 M2 ((100 : Int32) + (M2 40 l1.toNatClampNeg)))))
theorem lv_le (k : Nat) : lv k ≤ 3 := by unfold lv; split <;> (try split) <;> (try split) <;> omega
theorem rLev {M : zMem} {i k : Nat} (hi : i < 400) (hk : k < 1000) (h : M 39 i = nI k) : F_R_levelOf M (nI i) = some (nI (lv k), M) := by
  unfold F_R_levelOf
  rw [zix_nI _ hi (by omega), nI_clamp (by omega), h, show (140 : Int32) = nI 140 from rfl, show (145 : Int32) = nI 145 from rfl, rIsInN M (by omega) (by omega) (by omega), zbi_some]
  unfold lv
  by_cases c : 140 ≤ k ∧ k ≤ 145
  · rw [if_neg (b2i_1 (by simp; omega)), if_pos c]
    rfl
  · rw [if_pos ((b2i_0 _).mpr (by simp; omega)), if_neg c]
    have e6 : (nI k = 6) ↔ k = 6 := nI_eq (b := 6) (by omega) (by omega)
    have e130 : (nI k = 130) ↔ k = 130 := nI_eq (b := 130) (by omega) (by omega)
    have e131 : (nI k = 131) ↔ k = 131 := nI_eq (b := 131) (by omega) (by omega)
    have e151 : (nI k = 151) ↔ k = 151 := nI_eq (b := 151) (by omega) (by omega)
    by_cases c6 : k = 6
    · rw [if_pos (e6.mpr c6), if_pos (by omega)]; rfl
    rw [if_neg (fun q => c6 (e6.mp q))]
    by_cases c130 : k = 130
    · rw [if_pos (e130.mpr c130), if_pos (by omega)]; rfl
    rw [if_neg (fun q => c130 (e130.mp q))]
    by_cases c131 : k = 131
    · rw [if_pos (e131.mpr c131), if_pos (by omega)]; rfl
    rw [if_neg (fun q => c131 (e131.mp q))]
    by_cases c151 : k = 151
    · rw [if_pos (e151.mpr c151), if_pos (by omega)]; rfl
    rw [if_neg (fun q => c151 (e151.mp q)), if_neg (show ¬ (k = 6 ∨ k = 130 ∨ k = 131 ∨ k = 151) by omega)]
    by_cases c100 : k ≤ 100
    · rw [if_pos (show nI k ≤ (100 : Int32) from nI_le (b := 100) c100 (by omega)), if_pos c100]; rfl
    · rw [if_neg (show ¬ nI k ≤ (100 : Int32) from nI_ge (a := 100) (by omega) (by omega)), if_neg c100]; rfl
theorem rExpn {M : zMem} {j v : Nat} : F_R_expression M (nI j) (nI v) = some (nI (1000 + 4 * j + v), M) := by
  unfold F_R_expression
  rw [show (1000 : Int32) = nI 1000 from rfl, show (4 : Int32) = nI 4 from rfl, pk_mul, nI_add, nI_add]
theorem wE {M : zMem} {i k lev : Nat} (hi : i < 400) (hk : k < 1000) (hl : lev ≤ 3) (h : M 39 i = nI k) : F_R_writeExpression M (nI i) (nI lev) = if lev ≤ lv k then wIn M (nI i) (nI k) (nI (lv k)) else F_R_tasksOf M (nI 122) (nI (1000 + 4 * i + 0)) (nI 123) (-1) := by
  unfold F_R_writeExpression wIn
  rw [zix_nI _ hi (by omega), nI_clamp (by omega), h, rLev hi hk h, zbi_some]
  by_cases c : lev ≤ lv k
  · rw [if_pos (nI_le c (by have := lv_le k; omega)), if_pos c]
  · rw [if_neg (nI_ge (by omega) (by omega)), if_neg c, show (0 : Int32) = nI 0 from rfl, rExpn, zbi_some, zbv_id]
    rfl
section WE
variable {M0 : zMem} {i k lev : Nat} {w : List Nat}
theorem wT_exp (hk : M0 39 i = nI k) (hi : i < 400) (hkk : k < 1000) (hle : lev ≤ lv k) (h : ∀ M1 l e, wSt M0 M1 l e → l.length + 8 * w.length + 1 ≤ 1600 → ∃ M2 xs, wIn M1 (nI i) (nI k) (nI (lv k)) = some M2 ∧ (∀ y ∈ xs, wT M0 y.1 y.2 ∧ xs.length + 8 * y.2.length ≤ 8 * w.length + 1) ∧ cat xs = w ∧ wSt M0 M2 (xs.map Prod.fst ++ l) e) : wT M0 (1000 + 4 * i + lev) w := by
  have l3 := lv_le k
  refine wT_of fun M1 l e hs hl => ?_
  obtain ⟨M2, xs, a1, a2, a3, a4⟩ := h M1 l e hs hl
  have h39 : M1 39 i = nI k := by rw [hs.2.2.2.2.1 39 (by omega) (by omega) (by omega)]; exact hk
  exact ⟨M2, xs, fun N n => by rw [wD_exp hi (by omega), wE hi hkk (by omega) h39, if_pos hle, a1, zbv_some], a2, a3, a4⟩
theorem wT_br (hk : M0 39 i = nI k) (hi : i < 400) (hkk : k < 1000) (hl3 : lev ≤ 3) (hle : ¬ lev ≤ lv k) (h : wT M0 (1000 + 4 * i + 0) w) : wT M0 (1000 + 4 * i + lev) (122 :: (w ++ [123])) := by
  refine wT_of fun M1 l e hs hl => ?_
  simp only [List.length_cons, List.length_append, List.length_nil] at hl
  have h39 : M1 39 i = nI k := by rw [hs.2.2.2.2.1 39 (by omega) (by omega) (by omega)]; exact hk
  obtain ⟨M2, a1, a2⟩ := rTasks3 122 (1000 + 4 * i + 0) 123 hs.1 hs.2.1 (by omega) (by omega) (by omega)
  refine ⟨M2, [(122, [122]), (1000 + 4 * i + 0, w), (123, [123])], fun N n => by rw [wD_exp hi hl3, wE hi hkk hl3 h39, if_neg hle, a1, zbv_some], ?_, by simp [cat], wSt_push hs a2⟩
  intro y hy
  simp only [List.mem_cons, List.not_mem_nil, or_false] at hy
  simp only [List.length_cons, List.length_append, List.length_nil]
  rcases hy with rfl | rfl | rfl
  · exact ⟨wT_tok (by omega), by simp; omega⟩
  · exact ⟨h, by simp; omega⟩
  · exact ⟨wT_tok (by omega), by simp; omega⟩
theorem wT_expE {y : Nat} (hk : M0 39 i = nI k) (hi : i < 400) (hkk : k < 1000) (hle : lev ≤ lv k) (h : ∀ M1, M1 40 i = M0 40 i → wIn M1 (nI i) (nI k) (nI (lv k)) = F_R_emit M1 (nI y)) : wT M0 (1000 + 4 * i + lev) [y] := by
  intro M l e hs hl he
  have l3 := lv_le k
  simp only [List.length_cons, List.length_nil] at hl he
  obtain ⟨p1, p2⟩ := wPop hs (by omega)
  obtain ⟨M2, a1, a2⟩ := wEmit (y := y) p1 (by omega)
  have h39 : zup M 34 5 (nI l.length) 39 i = nI k := by rw [p1.2.2.2.2.1 39 (by omega) (by omega) (by omega)]; exact hk
  exact ⟨M2, 1, fun N n => by rw [p2, wD_exp hi (by omega), wE hi hkk (by omega) h39, if_pos hle, h _ (by rw [p1.2.2.2.2.1 40 (by omega) (by omega) (by omega)]), a1, zbv_some], a2⟩
/-- all strengths from the weakest -/
theorem wT_all {t : T} (hs : sh t 0 = true) (hk : M0 39 i = nI k) (hi : i < 400) (hkk : k < 1000) (hv : tlev t = lv k) (h : ∀ lev, lev ≤ lv k → wT M0 (1000 + 4 * i + lev) (Wr t 0)) : ∀ lev, lev ≤ 3 → wT M0 (1000 + 4 * i + lev) (Wr t lev) := by
  intro lev hl
  rw [W_lev hs hl, hv]
  unfold brk
  by_cases c : lev ≤ lv k
  · rw [if_neg (by omega)]; exact h lev c
  · rw [if_pos (by omega)]; exact wT_br hk hi hkk hl c (h 0 (by omega))
end WE
theorem brk_len (c : Prop) [Decidable c] (w : List Nat) : w.length ≤ (brk c w).length := by
  unfold brk
  split
  · simp
    omega
  · exact Nat.le_refl _
theorem sh5 {s : T} (h : sh s 5 = true) : ∃ a b, s = .add a b ∧ sh a 0 = true ∧ sh b 0 = true := by
  cases s with
  | add a b =>
    simp [sh] at h
    exact ⟨a, b, rfl, h.1, h.2⟩
  | num k => simp [sh] at h
  | var x => simp [sh] at h
  | mulL k a => simp [sh] at h
  | mulR a k => simp [sh] at h
theorem Wr_pos {t : T} (h : sh t 0 = true) (m : Nat) (hm : m ≤ 3) : 0 < (Wr t m).length := by
  rw [W_lev h hm]
  refine Nat.lt_of_lt_of_le ?_ (brk_len _ _)
  cases t with
  | num k => simp [Wr]
  | var x => simp [Wr]
  | add a b => simp [sh] at h
  | mulR s q => simp [Wr]
  | mulL k s =>
    simp [sh] at h
    rcases h with ⟨h, -⟩ | ⟨h, h2⟩
    · rcases h with (rfl | rfl) | rfl
      · simp [Wr]
      · simp [Wr]
      · simp [Wr, brk]
    · obtain ⟨a, b, rfl, -, -⟩ := sh5 h2
      rw [Wr_bin h]
      refine Nat.lt_of_lt_of_le ?_ (brk_len _ _)
      rw [Wr_pair h]
      simp
      omega
