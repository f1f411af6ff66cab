section WZ
variable {M0 : zMem}
/-- one expression below the node -/
theorem st1 {k : Nat} {s : T} {lo hi : Nat} {r : Int32} (hk : rmode k = 0) (ss : sh s 0 = true) (h4 : hi ≤ 400) (h : Rep M0 (.mulL k s) 0 lo hi r) : ∃ i j, r = nI i ∧ i < 400 ∧ M0 39 i = nI (rk k) ∧ (200 ≤ k → M0 40 i = nI (k - 200)) ∧ M0 41 i = nI j ∧ j < 400 ∧ ∀ lev, lev ≤ 3 → wT M0 (1000 + 4 * j + lev) (Wr s lev) := by
  obtain ⟨-, h1, rfl, h3, h40, h5⟩ := h
  rw [hk] at h5
  obtain ⟨j, j1, j2, j3⟩ := pEx s ss _ _ _ (by omega) h5
  exact ⟨hi - 1, j, rfl, by omega, h3, h40, j1, j2, j3⟩
theorem pSt_asg {k : Nat} {s : T} (hk : 200 ≤ k ∧ k < 208) (ss : sh s 0 = true) : pSt M0 (.mulL k s) := by
  intro hs lo hi r h4 h
  obtain ⟨i, j, rfl, hi4, h39, h40, h41, hj, hw⟩ := st1 (by unfold rmode; rw [if_neg (by omega), if_neg (by omega), if_neg (by omega), if_neg (by omega)]) ss h4 h
  have h40 := h40 hk.1
  have h39 : M0 39 i = 20 := by rw [h39]; unfold rk; rw [if_pos hk.1]; rfl
  have ew : Wr (.mulL k s) 0 = [100 + (k - 200)] ++ ([120] ++ (Wr s 0 ++ [])) := by
    simp only [Wr]
    rw [if_neg (by omega), if_neg (by omega), if_neg (by omega), if_pos hk.1]
    simp
  have wp := Wr_pos ss 0 (by omega)
  rw [ew]
  refine ⟨i, rfl, hi4, by simp, fun M1 l e hst hlen => ?_⟩
  obtain ⟨M2, a1, a2⟩ := rTasks3 (100 + (k - 200)) 120 (1000 + 4 * j + 0) hst.1 hst.2.1 (by omega) (by omega) (by omega)
  refine ⟨M2, [(100 + (k - 200), [100 + (k - 200)]), (120, [120]), (1000 + 4 * j + 0, Wr s 0)], ?_, by simp, ?_, rfl, wSt_push hst a2⟩
  · unfold F_R_writeStatement_p21
    rw [h39, if_pos rfl, zix_nI _ hi4 (by omega), zix_nI _ hi4 (by omega), nI_clamp (by omega), c41 hst 41 (by omega), h41, show (0 : Int32) = nI 0 from rfl, rExpn, zbi_some, c41 hst 40 (by omega), h40, show (100 : Int32) = nI 100 from rfl, nI_add, zbv_id]
    exact a1
  · exact ownC (wT_tok (by omega)) (by simp <;> omega) (by simp) (ownC (wT_tok (by omega)) (by simp <;> omega) (by simp) (ownC (hw 0 (by omega)) (by simp <;> omega) (by simp) ownN))
theorem pSt_call {s : T} (ss : sh s 0 = true) : pSt M0 (.mulL 22 s) := by
  intro hs lo hi r h4 h
  obtain ⟨i, j, rfl, hi4, h39, -, h41, hj, hw⟩ := st1 rfl ss h4 h
  have h39 : M0 39 i = 22 := h39
  have ew : Wr (.mulL 22 s) 0 = Wr s 0 := by simp [Wr]
  rw [ew]
  refine ⟨i, rfl, hi4, Wr_pos ss 0 (by omega), fun M1 l e hst hlen => ?_⟩
  obtain ⟨M2, a1, a2⟩ := rTask (1000 + 4 * j + 0) hst.1 hst.2.1 (by omega)
  refine ⟨M2, [(1000 + 4 * j + 0, Wr s 0)], ?_, by simp, own1 (hw 0 (by omega)) (Nat.le_refl _), by simp [cat], wSt_push hst a2⟩
  unfold F_R_writeStatement_p21
  rw [h39, if_neg (by decide), if_neg (by decide), if_pos rfl, zix_nI _ hi4 (by omega), nI_clamp (by omega), c41 hst 41 (by omega), h41, show (0 : Int32) = nI 0 from rfl, rExpn, zbi_some, zbv_id]
  exact a1
theorem pSt_put {k : Nat} {s : T} (hk : k = 23 ∨ k = 24) (ss : sh s 0 = true) : pSt M0 (.mulL k s) := by
  intro hs lo hi r h4 h
  obtain ⟨i, j, rfl, hi4, h39, -, h41, hj, hw⟩ := st1 (by rcases hk with rfl | rfl <;> rfl) ss h4 h
  obtain ⟨y, hy⟩ : ∃ y, y = if k = 23 then 169 else 168 := ⟨_, rfl⟩
  have hy1 : y < 1000 := by rw [hy]; split <;> omega
  have ew : Wr (.mulL k s) 0 = [y] ++ (Wr s 0 ++ []) := by rcases hk with rfl | rfl <;> simp [Wr, hy]
  have wp := Wr_pos ss 0 (by omega)
  rw [ew]
  refine ⟨i, rfl, hi4, by simp, fun M1 l e hst hlen => ?_⟩
  obtain ⟨M2, a1, a2⟩ := rTasks2 y (1000 + 4 * j + 0) hst.1 hst.2.1 (by omega) (by omega)
  refine ⟨M2, [(y, [y]), (1000 + 4 * j + 0, Wr s 0)], ?_, by simp, ?_, rfl, wSt_push hst a2⟩
  · have p96 : F_R_writeStatement_p96 M1 (nI i) (nI y) = some M2 := by
      unfold F_R_writeStatement_p96
      rw [zix_nI _ hi4 (by omega), nI_clamp (by omega), c41 hst 41 (by omega), h41, show (0 : Int32) = nI 0 from rfl, rExpn, zbi_some, zbv_id]
      exact a1
    unfold F_R_writeStatement_p21 F_R_writeStatement_p89
    rcases hk with rfl | rfl
    · have h39 : M0 39 i = 23 := h39
      rw [h39, if_neg (by decide), if_neg (by decide), if_neg (by decide), if_pos rfl, if_pos rfl]
      rw [hy] at p96
      exact p96
    · have h39 : M0 39 i = 24 := h39
      rw [h39, if_neg (by decide), if_neg (by decide), if_neg (by decide), if_neg (by decide), if_pos rfl, if_neg (by decide)]
      rw [hy] at p96
      exact p96
  · exact ownC (wT_tok (by omega)) (by simp <;> omega) (by simp) (ownC (hw 0 (by omega)) (by simp <;> omega) (by simp) ownN)
theorem pSt_store {a b : T} (sa : sh a 0 = true) (sb : sh b 0 = true) : pSt M0 (.mulL 21 (.add a b)) := by
  intro hs lo hi r h4 h
  obtain ⟨-, h1, rfl, h3, -, h5⟩ := h
  have h39 : M0 39 (hi - 1) = 21 := h3
  have h5 : Rep M0 (.add a b) 5 lo (hi - 1) (M0 41 (hi - 1)) := h5
  simp only [Rep] at h5
  rw [if_neg (by omega), if_neg (by omega), if_neg (by omega), if_pos trivial] at h5
  obtain ⟨m, r1, r2⟩ := h5
  have lm := Rep_le r2
  obtain ⟨j, j1, j2, j3⟩ := pEx a sa _ _ _ (by omega) r1
  obtain ⟨i, i1, i2, i3⟩ := pEx b sb _ _ _ (by omega) r2
  have hi4 : hi - 1 < 400 := by omega
  have ew : Wr (.mulL 21 (.add a b)) 0 = [108] ++ ([125] ++ (Wr a 0 ++ ([126] ++ ([120] ++ (Wr b 0 ++ []))))) := by simp [Wr]
  have wa := Wr_pos sa 0 (by omega)
  have wb := Wr_pos sb 0 (by omega)
  rw [ew]
  refine ⟨hi - 1, rfl, hi4, by simp, fun M1 l e hst hlen => ?_⟩
  obtain ⟨M2, a1, a2⟩ := rTasks3 126 120 (1000 + 4 * i + 0) hst.1 hst.2.1 (by omega) (by omega) (by omega)
  have hst2 := wSt_push hst a2
  obtain ⟨M3, b1, b2⟩ := rTasks3 108 125 (1000 + 4 * j + 0) hst2.1 hst2.2.1 (by simp <;> omega) (by omega) (by omega)
  refine ⟨M3, [(108, [108]), (125, [125]), (1000 + 4 * j + 0, Wr a 0), (126, [126]), (120, [120]), (1000 + 4 * i + 0, Wr b 0)], ?_, by simp, ?_, rfl, wSt_push (ks := [108, 125, 1000 + 4 * j + 0]) (l := [126, 120, 1000 + 4 * i + 0] ++ l) hst2 b2⟩
  · unfold F_R_writeStatement_p21
    rw [h39, if_neg (by decide), if_pos rfl, zix_nI _ hi4 (by omega), nI_clamp (by omega), c41 hst 42 (by omega), i1, show (0 : Int32) = nI 0 from rfl, rExpn, zbi_some, show F_R_tasksOf M1 126 120 (nI (1000 + 4 * i + 0)) (-1) = some M2 from a1, zbv_some, zix_nI _ hi4 (by omega), c41 hst2 41 (by omega), j1, rExpn, zbi_some, zbv_id]
    exact b1
  · exact ownC (wT_tok (by omega)) (by simp <;> omega) (by simp) (ownC (wT_tok (by omega)) (by simp <;> omega) (by simp) (ownC (j3 0 (by omega)) (by simp <;> omega) (by simp) (ownC (wT_tok (by omega)) (by simp <;> omega) (by simp) (ownC (wT_tok (by omega)) (by simp <;> omega) (by simp) (ownC (i3 0 (by omega)) (by simp <;> omega) (by simp) ownN)))))
theorem pSt_while {a b : T} (sa : sh a 0 = true) (sb : sh b 2 = true) (ih : pK M0 b) : pSt M0 (.mulL 25 (.add a b)) := by
  intro hs lo hi r h4 h
  obtain ⟨-, h1, rfl, h3, -, h5⟩ := h
  have h39 : M0 39 (hi - 1) = 25 := h3
  have h5 : Rep M0 (.add a b) 6 lo (hi - 1) (M0 41 (hi - 1)) := h5
  simp only [Rep] at h5
  rw [if_neg (by omega), if_neg (by omega), if_neg (by omega), if_neg (by omega), if_pos trivial] at h5
  obtain ⟨m, r1, r2⟩ := h5
  have lm := Rep_le r2
  obtain ⟨j, j1, j2, j3⟩ := pEx a sa _ _ _ (by omega) r1
  obtain ⟨i, i1, i2, -, i3⟩ := ih sb _ _ _ (by omega) r2
  have hi4 : hi - 1 < 400 := by omega
  have ew : Wr (.mulL 25 (.add a b)) 0 = [164] ++ (Wr a 0 ++ ([165] ++ (Wr b 5 ++ ([163] ++ [])))) := by simp [Wr]
  have wa := Wr_pos sa 0 (by omega)
  rw [ew]
  refine ⟨hi - 1, rfl, hi4, by simp, fun M1 l e hst hlen => ?_⟩
  obtain ⟨M2, a1, a2⟩ := rTasks3 165 (6000 + i) 163 hst.1 hst.2.1 (by omega) (by omega) (by omega)
  have hst2 := wSt_push hst a2
  obtain ⟨M3, b1, b2⟩ := rTasks2 164 (1000 + 4 * j + 0) hst2.1 hst2.2.1 (by simp <;> omega) (by omega)
  refine ⟨M3, [(164, [164]), (1000 + 4 * j + 0, Wr a 0), (165, [165]), (6000 + i, Wr b 5), (163, [163])], ?_, by simp, ?_, rfl, wSt_push (ks := [164, 1000 + 4 * j + 0]) (l := [165, 6000 + i, 163] ++ l) hst2 b2⟩
  · unfold F_R_writeStatement_p21
    rw [h39, if_neg (by decide), if_neg (by decide), if_neg (by decide), if_neg (by decide), if_neg (by decide), if_pos rfl, zix_nI _ hi4 (by omega), nI_clamp (by omega), c41 hst 42 (by omega), i1, show (6000 : Int32) = nI 6000 from rfl, nI_add, show F_R_tasksOf M1 165 (nI (6000 + i)) 163 (-1) = some M2 from a1, zbv_some, zix_nI _ hi4 (by omega), c41 hst2 41 (by omega), j1, show (0 : Int32) = nI 0 from rfl, rExpn, zbi_some, zbv_id]
    exact b1
  · exact ownC (wT_tok (by omega)) (by simp <;> omega) (by simp) (ownC (j3 0 (by omega)) (by simp <;> omega) (by simp) (ownC (wT_tok (by omega)) (by simp <;> omega) (by simp) (ownC i3 (by simp <;> omega) (by simp) (ownC (wT_tok (by omega)) (by simp <;> omega) (by simp) ownN))))
theorem pSt_rep {a b : T} (sa : sh a 2 = true) (sb : sh b 0 = true) (ih : pK M0 a) : pSt M0 (.mulL 26 (.add a b)) := by
  intro hs lo hi r h4 h
  obtain ⟨-, h1, rfl, h3, -, h5⟩ := h
  have h39 : M0 39 (hi - 1) = 26 := h3
  have h5 : Rep M0 (.add a b) 7 lo (hi - 1) (M0 41 (hi - 1)) := h5
  simp only [Rep] at h5
  rw [if_neg (by omega), if_neg (by omega), if_neg (by omega), if_neg (by omega), if_neg (by omega), if_pos trivial] at h5
  obtain ⟨m, r1, r2⟩ := h5
  have lm := Rep_le r2
  obtain ⟨j, j1, j2, -, j3⟩ := ih sa _ _ _ (by omega) r1
  obtain ⟨i, i1, i2, i3⟩ := pEx b sb _ _ _ (by omega) r2
  have hi4 : hi - 1 < 400 := by omega
  have ew : Wr (.mulL 26 (.add a b)) 0 = [166] ++ (Wr a 5 ++ ([167] ++ (Wr b 0 ++ []))) := by simp [Wr]
  have wb := Wr_pos sb 0 (by omega)
  rw [ew]
  refine ⟨hi - 1, rfl, hi4, by simp, fun M1 l e hst hlen => ?_⟩
  obtain ⟨M2, a1, a2⟩ := rTasks4 166 (6000 + j) 167 (1000 + 4 * i + 0) hst.1 hst.2.1 (by omega) (by omega) (by omega) (by omega)
  refine ⟨M2, [(166, [166]), (6000 + j, Wr a 5), (167, [167]), (1000 + 4 * i + 0, Wr b 0)], ?_, by simp, ?_, rfl, wSt_push hst a2⟩
  · unfold F_R_writeStatement_p21
    rw [h39, if_neg (by decide), if_neg (by decide), if_neg (by decide), if_neg (by decide), if_neg (by decide), if_neg (by decide), if_pos rfl, zix_nI _ hi4 (by omega), zix_nI _ hi4 (by omega), nI_clamp (by omega), c41 hst 42 (by omega), i1, show (0 : Int32) = nI 0 from rfl, rExpn, zbi_some, c41 hst 41 (by omega), j1, show (6000 : Int32) = nI 6000 from rfl, nI_add, zbv_id]
    exact a1
  · exact ownC (wT_tok (by omega)) (by simp <;> omega) (by simp) (ownC j3 (by simp <;> omega) (by simp) (ownC (wT_tok (by omega)) (by simp <;> omega) (by simp) (ownC (i3 0 (by omega)) (by simp <;> omega) (by simp) ownN)))
theorem pSt_if {c l' e' : T} (sc : sh c 0 = true) (sl : sh l' 2 = true) (se : sh e' 3 = true) (ihl : pK M0 l') (ihe : pR M0 e') : pSt M0 (.mulL 27 (.add c (.add l' e'))) := by
  intro hs lo hi r h4 h
  obtain ⟨-, h1, rfl, h3, -, h5⟩ := h
  have h39 : M0 39 (hi - 1) = 27 := h3
  have h5 : Rep M0 (.add c (.add l' e')) 8 lo (hi - 1) (M0 41 (hi - 1)) := h5
  have hi4 : hi - 1 < 400 := by omega
  obtain ⟨j, i, p1, p2, p3, p4, p5, p6, p7⟩ := ifParts ihl ihe sc sl se hi4 h5
  have ew : Wr (.mulL 27 (.add c (.add l' e'))) 0 = [160] ++ (Wr c 0 ++ ([161] ++ (Wr l' 5 ++ (Wr e' 6 ++ ([163] ++ []))))) := by simp [Wr]
  have wc := Wr_pos sc 0 (by omega)
  rw [ew]
  refine ⟨hi - 1, rfl, hi4, by simp, fun M1 l e hst hlen => ?_⟩
  obtain ⟨M2, a1, a2⟩ := rTask 163 hst.1 hst.2.1 (by omega)
  have hst2 := wSt_push hst a2
  obtain ⟨M3, b1, b2⟩ := rTasks3 161 (6000 + i) (4000 + (hi - 1)) hst2.1 hst2.2.1 (by simp <;> omega) (by omega) (by omega)
  have hst3 := wSt_push hst2 b2
  obtain ⟨M4, d1, d2⟩ := rTasks2 160 (1000 + 4 * j + 0) hst3.1 hst3.2.1 (by simp <;> omega) (by omega)
  refine ⟨M4, [(160, [160]), (1000 + 4 * j + 0, Wr c 0), (161, [161]), (6000 + i, Wr l' 5), (4000 + (hi - 1), Wr e' 6), (163, [163])], ?_, by simp, ?_, rfl, wSt_push (ks := [160, 1000 + 4 * j + 0]) (l := [161, 6000 + i, 4000 + (hi - 1)] ++ ([163] ++ l)) hst3 d2⟩
  · unfold F_R_writeStatement_p21
    rw [h39, if_neg (by decide), if_neg (by decide), if_neg (by decide), if_neg (by decide), if_neg (by decide), if_neg (by decide), if_neg (by decide), show F_R_task M1 163 = some M2 from a1, zbv_some, zix_nI _ hi4 (by omega), nI_clamp (by omega), c41 hst2 42 (by omega), p3, show (6000 : Int32) = nI 6000 from rfl, nI_add, show (4000 : Int32) = nI 4000 from rfl, nI_add, show F_R_tasksOf M2 161 (nI (6000 + i)) (nI (4000 + (hi - 1))) (-1) = some M3 from b1, zbv_some, zix_nI _ hi4 (by omega), c41 hst3 41 (by omega), p1, show (0 : Int32) = nI 0 from rfl, rExpn, zbi_some, zbv_id]
    exact d1
  · exact ownC (wT_tok (by omega)) (by simp <;> omega) (by simp) (ownC p5 (by simp <;> omega) (by simp) (ownC (wT_tok (by omega)) (by simp <;> omega) (by simp) (ownC p6 (by simp <;> omega) (by simp) (ownC p7 (by simp <;> omega) (by simp) (ownC (wT_tok (by omega)) (by simp <;> omega) (by simp) ownN)))))
theorem sh8 {s : T} (h : sh s 8 = true) : ∃ c l e, s = .add c (.add l e) ∧ sh c 0 = true ∧ sh l 2 = true ∧ sh e 3 = true := by
  cases s with
  | add a b =>
    simp [sh] at h
    cases b with
    | add l e =>
      simp [sh] at h
      exact ⟨a, l, e, rfl, h.1, h.2.1, h.2.2⟩
    | num k => simp [sh] at h
    | var x => simp [sh] at h
    | mulL k a => simp [sh] at h
    | mulR a k => simp [sh] at h
  | num k => simp [sh] at h
  | var x => simp [sh] at h
  | mulL k a => simp [sh] at h
  | mulR a k => simp [sh] at h
theorem sh67 {s : T} {m : Nat} (hm : m = 6 ∨ m = 7) (h : sh s m = true) : ∃ a b, s = .add a b ∧ (m = 6 → sh a 0 = true ∧ sh b 2 = true) ∧ (m = 7 → sh a 2 = true ∧ sh b 0 = true) := by
  cases s with
  | add a b =>
    rcases hm with rfl | rfl
    · simp [sh] at h
      exact ⟨a, b, rfl, fun _ => h, fun q => by omega⟩
    · simp [sh] at h
      exact ⟨a, b, rfl, fun q => by omega, fun _ => h⟩
  | num k => rcases hm with rfl | rfl <;> simp [sh] at h
  | var x => rcases hm with rfl | rfl <;> simp [sh] at h
  | mulL k a => rcases hm with rfl | rfl <;> simp [sh] at h
  | mulR a k => rcases hm with rfl | rfl <;> simp [sh] at h
theorem pAll : ∀ (n : Nat) (t : T), tsz t ≤ n → pSt M0 t ∧ pL M0 t ∧ pR M0 t
  | 0, t, h => by cases t <;> simp [tsz] at h
  | n + 1, t, h => by
    cases t with
    | num k => exact ⟨fun q => by simp [sh] at q, fun q => by simp [sh] at q, fun q => by simp [sh] at q⟩
    | mulR s q => exact ⟨fun q => by simp [sh] at q, fun q => by simp [sh] at q, fun q => by simp [sh] at q⟩
    | var x =>
      have hL : pL M0 (.var x) := by
        intro q lo hi r h4 hr
        have hx : (x : Nat) = 99 := by simpa [sh] using q
        simp only [Rep] at hr
        rw [if_pos hx, if_neg (by omega)] at hr
        exact Or.inl ⟨by simp [isNil, hx], hr.2.2, by simp [Wr]⟩
      refine ⟨fun q => by simp [sh] at q, hL, fun q => ?_⟩
      have hx : (x : Nat) = 99 ∨ (x : Nat) = 98 := by simpa [sh] using q
      rcases hx with hx | hx
      · exact pR_list (Or.inl (by rw [hx])) (pK_of hL) q
      · exact pR_98 (by rw [hx]) q
    | add a b =>
      simp only [tsz] at h
      have hL := pL_add (pAll n a (by omega)).1 (pAll n b (by omega)).2.1
      exact ⟨fun q => by simp [sh] at q, hL, pR_list (Or.inr ⟨a, b, rfl⟩) (pK_of hL)⟩
    | mulL k s =>
      simp only [tsz] at h
      have hif : k = 27 → sh s 8 = true → pSt M0 (.mulL k s) ∧ pR M0 (.mulL k s) := by
        rintro rfl h8
        obtain ⟨c, l, e, rfl, s1, s2, s3⟩ := sh8 h8
        simp only [tsz] at h
        have hl := pAll n l (by omega)
        have he := pAll n e (by omega)
        exact ⟨pSt_if s1 s2 s3 (pK_of hl.2.1) he.2.2, pR_if (pK_of hl.2.1) he.2.2⟩
      refine ⟨fun q => ?_, fun q => by simp [sh] at q, fun q => ?_⟩
      · have q' := q
        simp [sh] at q'
        rcases q' with (((((⟨q1, q2⟩ | ⟨⟨q1, -⟩, q2⟩) | ⟨q1, q2⟩) | ⟨q1, q2⟩) | ⟨q1, q2⟩) | ⟨q1, q2⟩)
        · by_cases c : k = 23 ∨ k = 24
          · exact pSt_put c q2 q
          · exact pSt_asg (by omega) q2 q
        · subst q1
          exact pSt_call q2 q
        · subst q1
          obtain ⟨a, b, rfl, sa, sb⟩ := sh5 q2
          exact pSt_store sa sb q
        · subst q1
          obtain ⟨a, b, rfl, s6, -⟩ := sh67 (Or.inl rfl) q2
          simp only [tsz] at h
          exact pSt_while (s6 rfl).1 (s6 rfl).2 (pK_of (pAll n b (by omega)).2.1) q
        · subst q1
          obtain ⟨a, b, rfl, -, s7⟩ := sh67 (Or.inr rfl) q2
          simp only [tsz] at h
          exact pSt_rep (s7 rfl).1 (s7 rfl).2 (pK_of (pAll n a (by omega)).2.1) q
        · exact (hif q1 q2).1 q
      · have q' := q
        simp [sh] at q'
        exact (hif q'.1 q'.2).2 q
end WZ
