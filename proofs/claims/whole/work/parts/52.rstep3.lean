/-! THE REFERENCE'S READER: factors, calls, lists -/
section RD3
variable {M : zMem} {ts : List Nat} {pl base : Nat} {l : List Nat} {P : List T} {J : zJ} {B : Nat → T}
theorem zup_same {M : zMem} {a i : Nat} {v : Int32} (h : M a i = v) : zup M a i v = M := by
  funext b j
  simp only [zup_ap]
  by_cases c : b = a
  · subst c
    by_cases d : j = i
    · subst d; simp [h]
    · simp [d]
  · simp [c]
/-- a leaf is read: a node, the pile, the place -/
theorem rFactorLeaf {k x : Int32} {t : T} (h : RP M ts pl (l, P, J, B) base) (hn : J 4 5 < 400) (hP : P.length ≤ 298) (hl : pl < ts.length) (hE : isE t = true) (hq : ∀ s q, t ≠ .mulR s q) (hr : ∀ M', M' 39 (J 4 5) = k → M' 40 (J 4 5) = x → Rep M' t 0 (J 4 5) (J 4 5 + 1) (nI (J 4 5))) :
    ∃ M', zbi (F_R_node M k x (-1) (-1)) (fun r M1 => F_R_readFactor_p24 M1 r) = some M' ∧ RP M' ts (pl + 1) (l, t :: P, nd1 J, B) base := by
  obtain ⟨M1, M2, e1, e2, h1, h2⟩ := rLeaf (k := k) (x := x) (a := -1) (b := -1) (t := t) h.2.2.2.2.2.2.1 hn hP (Or.inl ⟨⟨hE, fun M' a b _ _ => hr M' a b⟩, hq⟩)
  have hR := RP_done h h1 h2
  have hA := RP_adv hR hl
  refine ⟨_, ?_, hA⟩
  rw [e1, zbi_some]
  unfold F_R_readFactor_p24
  rw [e2, zbv_some, zset_eq, hR.2.1, nI_1]
theorem rFactorNum {t : Nat} (h : RP M ts pl (l, P, J, B) base) (hn : J 4 5 < 400) (hP : P.length ≤ 298) (hl : pl < ts.length) (ht : t < 100) : ∃ M', F_R_readFactor M (tv t) = some M' ∧ RP M' ts (pl + 1) (l, .num t :: P, nd1 J, B) base := by
  obtain ⟨M', e, hr⟩ := rFactorLeaf (k := 0) (x := nI t) (t := .num t) h hn hP hl rfl (fun s q hh => by cases hh) (fun M' a b => ⟨rfl, rfl, rfl, a, b⟩)
  refine ⟨M', ?_, hr⟩
  have r1 : F_R_isIn M (tv t) 0 107 = some (b2i (decide (0 ≤ t) && decide (t ≤ 107)), M) := rIsIn M (by omega) (lo := 0) (hi := 107) (by omega) (by omega)
  unfold F_R_readFactor
  rw [r1, zbi_some, if_neg (b2i_1 (by simp; omega)), tv_name (by omega), if_neg (show ¬ (100 : Int32) ≤ nI t from nI_ge (b := 100) ht (by omega))]
  exact e
theorem rFactorName {t : Nat} (h : RP M ts pl (l, P, J, B) base) (hn : J 4 5 < 400) (hP : P.length ≤ 298) (hl : pl < ts.length) (h1 : 100 ≤ t) (h2 : t ≤ 107) : ∃ M', F_R_readFactor M (tv t) = some M' ∧ RP M' ts (pl + 1) (l, .var (t - 100 : Nat) :: P, nd1 J, B) base := by
  obtain ⟨M', e, hr⟩ := rFactorLeaf (k := 1) (x := nI (t - 100)) (t := .var (t - 100 : Nat)) h hn hP hl (by show decide ((t - 100 : Nat) < 98) = true; exact decide_eq_true (by omega)) (fun s q hh => by cases hh) (fun M' a b => by
    unfold Rep
    rw [if_neg (show ¬ ((t - 100 : Nat) = 99) by omega), if_neg (show ¬ ((t - 100 : Nat) = 98) by omega)]
    exact ⟨rfl, rfl, rfl, a, b⟩)
  refine ⟨M', ?_, hr⟩
  have r1 : F_R_isIn M (tv t) 0 107 = some (b2i (decide (0 ≤ t) && decide (t ≤ 107)), M) := rIsIn M (by omega) (lo := 0) (hi := 107) (by omega) (by omega)
  unfold F_R_readFactor
  rw [r1, zbi_some, if_neg (b2i_1 (by simp; omega)), tv_name (by omega), if_pos (show (100 : Int32) ≤ nI t from nI_le (a := 100) h1 (by omega)), show nI t - 100 = nI (t - 100) from pk_sub (b := 100) h1]
  exact e
/-- a factor that begins with other signs -/
theorem rFactorTasks {t : Nat} (h0 : M 34 5 = nI l.length) (h1 : rTk M l) (hl : l.length + 9 ≤ 1600) (ht : t = 108 ∨ isProcName t = true ∨ t = 122 ∨ t = 152) : ∃ M', F_R_readFactor M (tv t) = some M' ∧ rPush M M' (if t = 108 then [108, 125, 208, 126, 7000] else if isProcName t then [215] else if t = 122 then [122, 208, 123] else [152, 214, 8000]) l := by
  have hb : t = 108 ∨ (110 ≤ t ∧ t ≤ 113) ∨ t = 122 ∨ t = 152 := by simpa [isProcName] using ht
  have r1 : F_R_isIn M (tv t) 0 107 = some (b2i (decide (0 ≤ t) && decide (t ≤ 107)), M) := rIsIn M (by omega) (lo := 0) (hi := 107) (by omega) (by omega)
  have r2 : F_R_isIn M (tv t) 110 113 = some (b2i (isProcName t), M) := rIsIn M (by omega) (lo := 110) (hi := 113) (by omega) (by omega)
  unfold F_R_readFactor
  rw [r1, zbi_some, if_pos ((b2i_0 _).mpr (by simp; omega))]
  by_cases c1 : t = 108
  · subst c1
    obtain ⟨M1, q1, q2⟩ := rTask 7000 h0 h1 (by omega)
    obtain ⟨M2, q3, q4⟩ := rTasks4 108 125 208 126 q2.1 q2.2.1 (by simp; omega) (by omega) (by omega) (by omega)
    have q1 : F_R_task M 7000 = some M1 := q1
    have q3 : F_R_tasksOf M1 108 125 208 126 = some M2 := q3
    exact ⟨M2, by rw [if_pos (by decide), q1, zbv_some, q3]; rfl, q2.trans q4⟩
  · have n108 : ¬ tv t = 108 := fun q => c1 ((tv_eq (c := 108) (by omega) (by omega)).mp q)
    rw [if_neg n108, r2, zbi_some, if_neg c1]
    by_cases c2 : isProcName t = true
    · rw [if_neg (b2i_1 c2), if_pos c2]
      obtain ⟨M1, q1, q2⟩ := rTask 215 h0 h1 (by omega)
      have q1 : F_R_task M 215 = some M1 := q1
      exact ⟨M1, by rw [q1]; rfl, q2⟩
    · have c2' : isProcName t = false := by simpa using c2
      rw [if_pos ((b2i_0 _).mpr c2'), if_neg c2]
      have c3 : t = 122 ∨ t = 152 := by
        rcases hb with h | h | h | h
        · exact absurd h c1
        · exact absurd (by simp [isProcName]; exact h) c2
        · exact Or.inl h
        · exact Or.inr h
      rcases c3 with rfl | rfl
      · obtain ⟨M1, q1, q2⟩ := rTasks3 122 208 123 h0 h1 (by omega) (by omega) (by omega)
        have q1 : F_R_tasksOf M 122 208 123 (-1) = some M1 := q1
        exact ⟨M1, by rw [if_pos (by decide), q1]; rfl, q2⟩
      · obtain ⟨M1, q1, q2⟩ := rTasks3 152 214 8000 h0 h1 (by omega) (by omega) (by omega)
        have q1 : F_R_tasksOf M 152 214 8000 (-1) = some M1 := q1
        exact ⟨M1, by rw [if_neg (by decide), if_pos (by decide), q1]; rfl, q2⟩
theorem rFactorBad {t : Nat} (ht : t = 999 ∨ t < 174) (h1 : ¬ t ≤ 107) (h2 : t ≠ 108) (h3 : ¬ isProcName t = true) (h4 : t ≠ 122) (h5 : t ≠ 152) : F_R_readFactor M (tv t) = some (zup M 34 7 1) := by
  have r1 : F_R_isIn M (tv t) 0 107 = some (b2i (decide (0 ≤ t) && decide (t ≤ 107)), M) := rIsIn M (by omega) (lo := 0) (hi := 107) (by omega) (by omega)
  have r2 : F_R_isIn M (tv t) 110 113 = some (b2i (decide (110 ≤ t) && decide (t ≤ 113)), M) := rIsIn M (by omega) (lo := 110) (hi := 113) (by omega) (by omega)
  have c2' : (decide (110 ≤ t) && decide (t ≤ 113)) = false := by simpa [isProcName] using h3
  have n108 : ¬ tv t = 108 := fun q => h2 ((tv_eq (c := 108) (by omega) (by omega)).mp q)
  have n122 : ¬ tv t = 122 := fun q => h4 ((tv_eq (c := 122) (by omega) (by omega)).mp q)
  have n152 : ¬ tv t = 152 := fun q => h5 ((tv_eq (c := 152) (by omega) (by omega)).mp q)
  unfold F_R_readFactor
  rw [r1, zbi_some, if_pos ((b2i_0 _).mpr (by simp; omega)), if_neg n108, r2, zbi_some, if_pos ((b2i_0 _).mpr c2'), if_neg n122, if_neg n152]
  rfl
/-- a list begins: its node -/
theorem rReadList {t : Nat} (h : RP M ts pl (l, P, J, B) base) (hn : J 4 5 < 400) (hP : P.length ≤ 298) (hl : l.length + 9 ≤ 1600) : ∃ M', F_R_readParts M (nI 205) (tv t) = some M' ∧ RP M' ts pl ([223, 206] ++ l, .var 99 :: P, nd1 J, B) base := by
  obtain ⟨M1, M2, e1, e2, h1, h2⟩ := rLeaf (k := 30) (x := 0) (a := -1) (b := -1) (t := .var 99) h.2.2.2.2.2.2.1 hn hP (Or.inr ⟨rfl, rfl, rfl⟩)
  have hR := RP_done h h1 h2
  obtain ⟨M3, q1, q2⟩ := rTasks2 223 206 hR.2.2.2.2.1 hR.2.2.2.2.2.1 (by show l.length + 2 ≤ 1600; omega) (by omega)
  refine ⟨M3, ?_, RP_push hR q2⟩
  have q1 : F_R_tasksOf M2 223 206 (-1) (-1) = some M3 := q1
  simp only [F_R_readParts, F_R_readParts_p13, F_R_readParts_p89, F_R_readParts_p102, F_R_readParts_p115]
  rw [if_neg (by decide), if_neg (by decide), if_neg (by decide), if_neg (by decide), if_neg (by decide), if_neg (by decide), if_neg (by decide), if_pos (by decide), e1, zbi_some, e2, zbv_some, q1]
  rfl
/-- no else: -1 on the pile -/
theorem rReadIfEnd {t : Nat} (ht : t = 999 ∨ t < 174) (h : RP M ts pl (l, P, J, B) base) (hP : P.length ≤ 298) (hl : l.length + 9 ≤ 1600) (h1 : t ≠ 173) (h2 : t ≠ 162) : ∃ M', F_R_readIf M (tv t) = some M' ∧ RP M' ts pl (27000 :: l, .var 98 :: P, J, B) base := by
  obtain ⟨g1, g2, g3, g4, g5⟩ : rSt M P base (J 4 5) := h.2.2.2.2.2.2.1
  obtain ⟨M1, e1, p1⟩ := rPushN (-1) g1 (by show P.length < 300; omega)
  have hst : rSt M1 (.var 98 :: P) base (J 4 5) := ⟨by simpa using p1.1, by simp; omega, by rw [p1.2.2.2.1 14 (by decide)]; exact g3, g4, J 4 5, by rw [p1.2.1]; exact Or.inr (Or.inr ⟨rfl, rfl, rfl⟩), p1.pile g4 (Nat.le_refl _) g5⟩
  have hR := RP_done h hst p1.keep
  have hj : jup J 4 5 (J 4 5) = J := by
    funext a i
    simp only [jup]
    by_cases c : a = 4 ∧ i = 5
    · rw [if_pos c, c.1, c.2]
    · rw [if_neg c]
  rw [hj] at hR
  obtain ⟨M2, q1, q2⟩ := rTask 27000 hR.2.2.2.2.1 hR.2.2.2.2.2.1 (by show l.length < 1600; omega)
  refine ⟨M2, ?_, RP_push hR q2⟩
  have q1 : F_R_task M1 27000 = some M2 := q1
  have n173 : ¬ tv t = 173 := fun q => h1 ((tv_eq (c := 173) (by omega) (by omega)).mp q)
  have n162 : ¬ tv t = 162 := fun q => h2 ((tv_eq (c := 162) (by omega) (by omega)).mp q)
  unfold F_R_readIf
  rw [if_neg n173, if_neg n162, e1, zbv_some, q1]
  rfl
theorem rReadCall2 {t x : Nat} (hx : x = 216 ∨ x = 217) (ht : t = 999 ∨ t < 174) (h0 : M 34 5 = nI l.length) (h1 : rTk M l) (hl : l.length + 9 ≤ 1600) : ∃ M', F_R_readCall M (nI x) (tv t) = some M' ∧ rPush M M' (if x = 216 then (if t = 123 then [123] else [208, 9000, 217, 123]) else (if t = 124 then [124, 208, 9000, 217] else [])) l := by
  have hnil : rPush M M [] l := ⟨h0, h1, fun _ _ _ => rfl, fun _ _ => rfl⟩
  have q123 : (tv t = 123) ↔ t = 123 := tv_eq (c := 123) (by omega) (by omega)
  have q124 : (tv t = 124) ↔ t = 124 := tv_eq (c := 124) (by omega) (by omega)
  simp only [F_R_readCall, F_R_readCall_p58]
  rcases hx with rfl | rfl
  · rw [if_neg (by decide), if_pos (by decide), if_pos rfl]
    by_cases c : t = 123
    · rw [if_pos (q123.mpr c), if_pos c]
      obtain ⟨M1, q1, q2⟩ := rTask 123 h0 h1 (by omega)
      have q1 : F_R_task M 123 = some M1 := q1
      exact ⟨M1, by rw [q1]; rfl, q2⟩
    · rw [if_neg (fun q => c (q123.mp q)), if_neg c, if_pos (by decide)]
      obtain ⟨M1, q1, q2⟩ := rTasks4 208 9000 217 123 h0 h1 (by omega) (by omega) (by omega) (by omega)
      have q1 : F_R_tasksOf M 208 9000 217 123 = some M1 := q1
      exact ⟨M1, by rw [q1]; rfl, q2⟩
  · rw [if_neg (by decide), if_neg (by decide), if_neg (by decide), if_neg (show ¬ ((217 : Nat) = 216) by decide)]
    by_cases c : t = 124
    · rw [if_pos (q124.mpr c), if_pos c]
      obtain ⟨M1, q1, q2⟩ := rTasks4 124 208 9000 217 h0 h1 (by omega) (by omega) (by omega) (by omega)
      have q1 : F_R_tasksOf M 124 208 9000 217 = some M1 := q1
      exact ⟨M1, by rw [q1]; rfl, q2⟩
    · rw [if_neg (fun q => c (q124.mp q)), if_neg c]
      exact ⟨M, rfl, hnil⟩
theorem rReadCall1 {t : Nat} (h : RP M ts pl (l, P, J, B) base) (hn : J 4 5 < 400) (hP : P.length ≤ 298) (hl : pl < ts.length) (hl2 : l.length + 9 ≤ 1600) (ht : isProcName t = true) : ∃ M', F_R_readCall M (nI 215) (tv t) = some M' ∧ RP M' ts (pl + 1) ([122, 216] ++ l, .mulR (.var 99) (t - 110 + 4 * pl) :: P, nd1 J, B) base := by
  have hb : 110 ≤ t ∧ t ≤ 113 := by simpa [isProcName] using ht
  obtain ⟨g1, g2, g3, g4, g5⟩ : rSt M P base (J 4 5) := h.2.2.2.2.2.2.1
  have lb := rPile_le g5
  obtain ⟨M1, e1, p1⟩ := rNode 3 (nI (t - 110)) (-1) (-1) g3 hn
  have hh : (zup M1 43 (J 4 5) (nI pl)) 34 16 = nI P.length := by simp [zup_ap]; rw [p1.2.2.2.2.2.2.2.1 16 (by decide)]; exact g1
  obtain ⟨M2, e2, p2⟩ := rPushN (nI (J 4 5)) hh (by omega)
  have sm : rSame M (zup M1 43 (J 4 5) (nI pl)) 0 (J 4 5) := p1.2.2.2.2.2.2.2.2.2.tr (fun i _ q => by
    have : ¬ i = J 4 5 := by omega
    simp [zup_ap, this])
  have hp1 : rPile (zup M1 43 (J 4 5) (nI pl)) P base (J 4 5) := rPile_same g4 (sm.sub (Nat.zero_le _) (Nat.le_refl _)) (fun i _ => by simp [zup_ap]; rw [p1.2.2.2.2.2.2.2.2.1 45 (by omega)]) g5
  have hq1 : (t - 110 + 4 * pl) % 4 = t - 110 := by omega
  have hq2 : (t - 110 + 4 * pl) / 4 = pl := by omega
  have hst : rSt M2 (.mulR (.var 99) (t - 110 + 4 * pl) :: P) base (J 4 5 + 1) := by
    refine ⟨by simpa using p2.1, by simp; omega, ?_, by omega, J 4 5, ?_, p2.pile g4 (Nat.le_refl _) hp1⟩
    · rw [p2.2.2.2.1 14 (by decide)]
      simp [zup_ap]
      exact p1.2.2.2.2.2.2.1
    · rw [p2.2.1]
      refine rP_same (by omega) p2.same (Or.inl ⟨rfl, ⟨rfl, by omega, rfl, ?_, ?_, ?_, ?_⟩, ⟨J 4 5, rfl, Nat.le_refl _, by omega, ?_⟩, fun s q hs => by cases hs; exact Or.inl rfl⟩)
      · simp [zup_ap]; exact p1.1
      · rw [hq1]; simp [zup_ap]; exact p1.2.1
      · rw [hq2]; simp [zup_ap]
      · simp [Rep, zup_ap]; exact p1.2.2.1
      · simp [zup_ap]; exact p1.2.2.2.2.2.1
  have hk : rKeep M M2 base := ((p1.keep (by omega)).tr ⟨fun c hc => by
    funext i
    simp only [zup_ap]
    rw [if_neg (by omega)], fun j _ _ => by simp [zup_ap], fun i _ q => by
    have : ¬ i = J 4 5 := by omega
    simp [zup_ap, this]⟩).tr p2.keep
  have hR := RP_done h hst hk
  have hA := RP_adv hR hl
  obtain ⟨M3, q1, q2⟩ := rTasks2 122 216 hA.2.2.2.2.1 hA.2.2.2.2.2.1 (by show l.length + 2 ≤ 1600; omega) (by omega)
  refine ⟨M3, ?_, RP_push hA q2⟩
  have q1 : F_R_tasksOf (zup M2 34 6 (nI (pl + 1))) 122 216 (-1) (-1) = some M3 := q1
  have r2 : F_R_isIn M (tv t) 110 113 = some (b2i (decide (110 ≤ t) && decide (t ≤ 113)), M) := rIsIn M (by omega) (lo := 110) (hi := 113) (by omega) (by omega)
  have h7 : M 34 7 = 0 := h.2.2.2.1
  have e6 : M1 34 6 = nI pl := by rw [p1.2.2.2.2.2.2.2.1 6 (by decide)]; exact h.2.1
  have e66 : M2 34 6 = nI pl := hR.2.1
  simp only [F_R_readCall, F_R_readCall_p13, F_R_readCall_p16]
  rw [if_pos (by decide), h7, if_pos rfl, r2, zbi_some, if_neg (b2i_1 (by simp; omega)), zbit_0, zset_eq, zup_same h7, tv_name (by omega), show nI t - 110 = nI (t - 110) from pk_sub (b := 110) hb.1, e1, zbi_some, zix_nI _ hn (by omega), zset_eq, nI_clamp (by omega), e6, e2, zbv_some, zset_eq, e66, nI_1, q1]
  rfl
end RD3
