/-! THE REFERENCE'S READER: the ends of a proc and of the program -/
section RE
variable {M M' : zMem} {ts : List Nat} {pl base : Nat} {l : List Nat} {P : List T} {J J' : zJ} {B B' : Nat → T} {q : T}
/-- the pile gives its last tree; cells from 46 on and numbers change -/
theorem RP_end (h : RP M ts pl (l, P, J, B) base) (h35 : M' 35 = M 35) (h38 : M' 38 = M 38) (hn : ∀ a, 39 ≤ a ∧ a ≤ 45 → M' a = M a) (h34 : ∀ j, j = 1 ∨ j = 5 ∨ j = 6 ∨ j = 7 ∨ j = 14 → M' 34 j = M 34 j) (h16 : M' 34 16 = nI 0) (h45 : J' 4 5 = J 4 5) (hj : rJ M' J') (hb : rB M' J' B' (J 4 5)) : RP M' ts pl (l, [], J', B') (J 4 5) := by
  obtain ⟨a1, a2, a3, a4, a5, a6, ⟨g1, g2, g3, g4, g5⟩, hj0, hb0⟩ := h
  have g4 : J 4 5 ≤ 400 := g4
  refine ⟨rTx_keep h35 (h34 1 (by omega)) a1, by rw [h34 6 (by omega)]; exact a2, a3, by rw [h34 7 (by omega)]; exact a4, by rw [h34 5 (by omega)]; exact a5, rTk_congr (fun i _ => by rw [h38]) a6, ⟨h16, by simp, ?_, ?_, ?_⟩, hj, hb⟩
  · show M' 34 14 = nI (J' 4 5)
    rw [h34 14 (by omega), h45]; exact g3
  · show J' 4 5 ≤ 400
    omega
  · show J 4 5 = J' 4 5
    omega
theorem rFin2000 (n : Int32) (h : RP M ts pl (l, [q], J, B) base) (hq : isL q = true) (h70 : J 7 0 = 0) : ∃ M', F_R_finishPart M (nI 2) n = some M' ∧ RP M' ts pl (l, [], jup J 7 0 1, bup B 4 q) (J 4 5) := by
  obtain ⟨hx1, hx2, hx3, hx4, hx5, hx6, hst, hj, hbb⟩ := id h
  obtain ⟨g1, g2, g3, g4, m, g5, g6⟩ : rSt M [q] base (J 4 5) := hst
  have hj : rJ M J := hj
  have hbb : rB M J B base := hbb
  have e1 := rPopN (M := M) (h := 0) g1 (by omega)
  have g5 : rP M q m (J 4 5) (M 45 0) := g5
  have hm0 : base = m := g6
  have hm : base ≤ m := Nat.le_of_eq hm0
  have hle := rP_le g5
  refine ⟨zup (zup M 34 16 (nI 0)) 34 24 (M 45 0), ?_, ?_⟩
  · simp only [F_R_finishPart]
    rw [if_pos (by decide), e1, zbi_some, zset_eq]
  · have hz : ∀ a, a ≠ 34 → zup (zup M 34 16 (nI 0)) 34 24 (M 45 0) a = M a := fun a ha => by funext j; simp [zup_ap, ha]
    have hz34 : ∀ j, j ≠ 16 → j ≠ 24 → zup (zup M 34 16 (nI 0)) 34 24 (M 45 0) 34 j = M 34 j := fun j p1 p2 => by simp [zup_ap, p1, p2]
    have sm : ∀ {lo hi}, rSame M (zup (zup M 34 16 (nI 0)) 34 24 (M 45 0)) lo hi := fun i _ _ => by simp [zup_ap]
    refine RP_end h (hz 35 (by decide)) (hz 38 (by decide)) (fun a ha => hz a (by omega)) (fun j hj => hz34 j (by omega) (by omega)) (by simp [zup_ap]) (by simp [jup]) ?_ ⟨fun d hd => ?_, fun p hp h6 => ?_, fun _ => ?_, fun i hi => ?_⟩
    · have := rJ_keep (M' := zup (zup M 34 16 (nI 0)) 34 24 (M 45 0)) (fun j hj => hz34 j (by omega) (by omega)) (fun a ha => hz a (by omega)) hj
      unfold rJ rJp at this ⊢
      simpa [jup] using this
    · have hd : d < J 4 3 := by simpa [jup] using hd
      have e : bup B 4 q (10 + d) = B (10 + d) := by unfold bup; rw [if_neg (by omega)]
      rw [e, hz 51 (by decide)]
      exact rIn_keep sm (by omega) (hbb.1 d hd)
    · have h6 : J 6 p = 1 := by simpa [jup] using h6
      have e : bup B 4 q p = B p := by unfold bup; rw [if_neg (by omega)]
      rw [e, hz 46 (by decide)]
      exact rIn_keep sm (by omega) (hbb.2.1 p hp h6)
    · have e : bup B 4 q 4 = q := by unfold bup; rw [if_pos rfl]
      have e24 : zup (zup M 34 16 (nI 0)) 34 24 (M 45 0) 34 24 = M 45 0 := by simp [zup_ap]
      rw [e, e24]
      exact ⟨m, J 4 5, Nat.le_refl _, hq, Rep_same sm (by omega) (rP_L hq g5).1⟩
    · by_cases ci : i < base
      · obtain ⟨t, lo, hi', n, a1, a2, a3, a4, a5, a6⟩ := hbb.2.2.2 i ci
        refine ⟨t, lo, hi', n, ?_, a2, Rep_same sm (by omega) a3, a4, a5, by omega⟩
        rcases a1 with ⟨d, d1, d2⟩ | ⟨d1, -⟩
        · refine Or.inl ⟨d, by simpa [jup] using d1, ?_⟩
          unfold bup; rw [if_neg (by omega)]; exact d2
        · omega
      · refine ⟨q, m, J 4 5, M 45 0, Or.inr ⟨by simp [jup], ?_⟩, hq, Rep_same sm (by omega) (rP_L hq g5).1, by omega, hi, Nat.le_refl _⟩
        unfold bup; rw [if_pos rfl]
def rM3000 (M : zMem) (d p o : Nat) (w : Bool) : zMem := if w then zup (zup (zup (zup (zup M 34 16 (nI 0)) 51 d (M 45 0)) 34 27 (nI (d + 1))) 46 p (M 45 0)) 48 p (nI o) else zup (zup (zup M 34 16 (nI 0)) 51 d (M 45 0)) 34 27 (nI (d + 1))
theorem rFin3000 (n : Int32) (h : RP M ts pl (l, [q], J, B) base) (hq : isL q = true) (hd : J 4 3 < 30) (hd9 : J 4 3 < J 9 0) (hseen : J 0 (J 4 0) = 1) : ∃ M', F_R_finishPart M (nI 3) n = some M' ∧ RP M' ts pl (l, [], (sFin 3000 [q] J B).2.1, (sFin 3000 [q] J B).2.2) (J 4 5) := by
  obtain ⟨hx1, hx2, hx3, hx4, hx5, hx6, hst, hj, hbb⟩ := id h
  obtain ⟨g1, g2, g3, g4, m, g5, g6⟩ : rSt M [q] base (J 4 5) := hst
  have hj : rJ M J := hj
  have hbb : rB M J B base := hbb
  obtain ⟨⟨a1, a2, a3, a4, a5, a6, a7⟩, ⟨b1, b2, b3⟩, c1, d1⟩ := id hj
  have e1 := rPopN (M := M) (h := 0) g1 (by omega)
  have g5 : rP M q m (J 4 5) (M 45 0) := g5
  have hm0 : base = m := g6
  have hm : base ≤ m := Nat.le_of_eq hm0
  have hle := rP_le g5
  obtain ⟨p, hp⟩ : ∃ p, p = J 4 0 := ⟨_, rfl⟩
  obtain ⟨d, hdd⟩ : ∃ d, d = J 4 3 := ⟨_, rfl⟩
  obtain ⟨w, hw⟩ : ∃ w : Bool, w = (J 4 2 == 0) := ⟨_, rfl⟩
  have hsf : sFin 3000 [q] J B = ([], (if w then jup (jup (jup J 4 3 (d + 1)) 3 p (J 4 1)) 6 p 1 else jup J 4 3 (d + 1)), (if w then bup (bup B (10 + d) q) p q else bup B (10 + d) q)) := by
    simp only [sFin]
    rw [if_neg (by decide), if_pos (by decide)]
    by_cases c : J 4 2 = 0
    · have : w = true := by rw [hw, c]; rfl
      rw [if_pos c, this, hp, hdd]
      rfl
    · have : w = false := by rw [hw]; simp [c]
      rw [if_neg c, this, hdd]
      rfl
  rw [hsf]
  refine ⟨rM3000 M d p (J 4 1) w, ?_, ?_⟩
  · simp only [F_R_finishPart]
    have y27 : zup M 34 16 (nI 0) 34 27 = nI d := by simp [zup_ap, a7, hdd]
    have y272 : zup (zup M 34 16 (nI 0)) 51 d (M 45 0) 34 27 = nI d := by simp [zup_ap, a7, hdd]
    have y23 : zup (zup (zup M 34 16 (nI 0)) 51 d (M 45 0)) 34 27 (nI (d + 1)) 34 23 = nI (J 4 2) := by simp [zup_ap, a5]
    have y21 : zup (zup (zup M 34 16 (nI 0)) 51 d (M 45 0)) 34 27 (nI (d + 1)) 34 21 = nI p := by simp [zup_ap, a1, hp]
    have y212 : zup (zup (zup (zup M 34 16 (nI 0)) 51 d (M 45 0)) 34 27 (nI (d + 1))) 46 p (M 45 0) 34 21 = nI p := by simp [zup_ap, a1, hp]
    have y22 : zup (zup (zup (zup M 34 16 (nI 0)) 51 d (M 45 0)) 34 27 (nI (d + 1))) 46 p (M 45 0) 34 22 = nI (J 4 1) := by simp [zup_ap, a3]
    rw [if_neg (by decide), if_pos (by decide), e1, zbi_some, y27, zix_nI _ (by omega) (by omega), nI_clamp (by omega), zset_eq, y272, nI_1, zset_eq, y23]
    by_cases c : J 4 2 = 0
    · have : w = true := by rw [hw, c]; rfl
      rw [c, if_pos (by decide), y21, zix_nI _ (by omega) (by omega), nI_clamp (by omega), zset_eq, y212, zix_nI _ (by omega) (by omega), nI_clamp (by omega), zset_eq, y22, this]
      rfl
    · have : w = false := by rw [hw]; simp [c]
      have e2 : J 4 2 = 1 := by omega
      rw [e2, if_neg (by decide), this]
      rfl
  · have rd : ∀ a j, rM3000 M d p (J 4 1) w a j = if a = 34 ∧ j = 16 then nI 0 else if a = 34 ∧ j = 27 then nI (d + 1) else if a = 51 ∧ j = d then M 45 0 else if w = true ∧ a = 46 ∧ j = p then M 45 0 else if w = true ∧ a = 48 ∧ j = p then nI (J 4 1) else M a j := by
      intro a j
      unfold rM3000
      cases w
      · simp only [Bool.false_eq_true, if_false, false_and, zup_ap]
        by_cases c34 : a = 34
        · subst c34
          by_cases c27 : j = 27
          · subst c27; simp
          · by_cases c16 : j = 16
            · subst c16; simp
            · simp [c27, c16]
        · by_cases c51 : a = 51
          · subst c51; simp
          · simp [c34, c51]
      · simp only [if_true, true_and, zup_ap]
        by_cases c34 : a = 34
        · subst c34
          by_cases c27 : j = 27
          · subst c27; simp
          · by_cases c16 : j = 16
            · subst c16; simp
            · simp [c27, c16]
        · by_cases c51 : a = 51
          · subst c51; simp
          · by_cases c46 : a = 46
            · subst c46; simp
            · by_cases c48 : a = 48
              · subst c48; simp
              · simp [c34, c51, c46, c48]
    have jd : ∀ a i, (if w then jup (jup (jup J 4 3 (d + 1)) 3 p (J 4 1)) 6 p 1 else jup J 4 3 (d + 1)) a i = if a = 4 ∧ i = 3 then d + 1 else if w = true ∧ a = 3 ∧ i = p then J 4 1 else if w = true ∧ a = 6 ∧ i = p then 1 else J a i := by
      intro a i
      cases w
      · simp only [Bool.false_eq_true, if_false, false_and, jup]
      · simp only [if_true, true_and, jup]
        by_cases c3 : a = 4 ∧ i = 3
        · obtain ⟨rfl, rfl⟩ := c3; simp
        · by_cases c6 : a = 6 ∧ i = p
          · obtain ⟨rfl, rfl⟩ := c6; simp
          · by_cases c5 : a = 3 ∧ i = p
            · simp only [if_neg c6, if_neg c3, if_pos c5]
            · simp only [if_neg c6, if_neg c3, if_neg c5]
    have bd : ∀ i, (if w then bup (bup B (10 + d) q) p q else bup B (10 + d) q) i = if (w = true ∧ i = p) ∨ i = 10 + d then q else B i := by
      intro i
      cases w
      · simp [bup]
      · simp only [if_true, true_and, bup]
        by_cases c : i = p
        · rw [if_pos c, if_pos (Or.inl c)]
        · rw [if_neg c]
          by_cases c2 : i = 10 + d
          · rw [if_pos c2, if_pos (Or.inr c2)]
          · rw [if_neg c2, if_neg (by omega)]
    show RP (rM3000 M d p (J 4 1) w) ts pl (l, [], (if w then jup (jup (jup J 4 3 (d + 1)) 3 p (J 4 1)) 6 p 1 else jup J 4 3 (d + 1)), (if w then bup (bup B (10 + d) q) p q else bup B (10 + d) q)) (J 4 5)
    generalize rM3000 M d p (J 4 1) w = Mz at rd ⊢
    generalize (if w then jup (jup (jup J 4 3 (d + 1)) 3 p (J 4 1)) 6 p 1 else jup J 4 3 (d + 1)) = Jz at jd ⊢
    generalize (if w then bup (bup B (10 + d) q) p q else bup B (10 + d) q) = Bz at bd ⊢
    have rf : ∀ a, a ≠ 34 → a ≠ 51 → a ≠ 46 → a ≠ 48 → Mz a = M a := fun a q1 q2 q3 q4 => by
      funext j
      rw [rd, if_neg (by omega), if_neg (by omega), if_neg (by omega), if_neg (by omega), if_neg (by omega)]
    have r34 : ∀ j, j ≠ 16 → j ≠ 27 → Mz 34 j = M 34 j := fun j q1 q2 => by
      rw [rd, if_neg (by omega), if_neg (by omega), if_neg (by omega), if_neg (by omega), if_neg (by omega)]
    have jn : ∀ a i, ¬ (a = 4 ∧ i = 3) → a ≠ 3 → a ≠ 6 → Jz a i = J a i := fun a i q1 q2 q3 => by
      rw [jd, if_neg q1, if_neg (by omega), if_neg (by omega)]
    have j43 : Jz 4 3 = d + 1 := by rw [jd, if_pos ⟨rfl, rfl⟩]
    have sm : ∀ {lo hi}, rSame M Mz lo hi := fun i _ _ => ⟨by rw [rf 39 (by decide) (by decide) (by decide) (by decide)], by rw [rf 40 (by decide) (by decide) (by decide) (by decide)], by rw [rf 41 (by decide) (by decide) (by decide) (by decide)], by rw [rf 42 (by decide) (by decide) (by decide) (by decide)], by rw [rf 43 (by decide) (by decide) (by decide) (by decide)], by rw [rf 44 (by decide) (by decide) (by decide) (by decide)]⟩
    have m46 : ∀ i, Mz 46 i = if w = true ∧ i = p then M 45 0 else M 46 i := fun i => by
      rw [rd, if_neg (by omega), if_neg (by omega), if_neg (by omega)]
      by_cases c : w = true ∧ i = p
      · rw [if_pos ⟨c.1, rfl, c.2⟩, if_pos c]
      · rw [if_neg (fun z => c ⟨z.1, z.2.2⟩), if_neg (by omega), if_neg c]
    have m48 : ∀ i, Mz 48 i = if w = true ∧ i = p then nI (J 4 1) else M 48 i := fun i => by
      rw [rd, if_neg (by omega), if_neg (by omega), if_neg (by omega), if_neg (by omega)]
      by_cases c : w = true ∧ i = p
      · rw [if_pos ⟨c.1, rfl, c.2⟩, if_pos c]
      · rw [if_neg (fun z => c ⟨z.1, z.2.2⟩), if_neg c]
    have j6 : ∀ i, Jz 6 i = if w = true ∧ i = p then 1 else J 6 i := fun i => by
      rw [jd, if_neg (by omega), if_neg (by omega)]
      by_cases c : w = true ∧ i = p
      · rw [if_pos ⟨c.1, rfl, c.2⟩, if_pos c]
      · rw [if_neg (fun z => c ⟨z.1, z.2.2⟩), if_neg c]
    have j3 : ∀ i, Jz 3 i = if w = true ∧ i = p then J 4 1 else J 3 i := fun i => by
      rw [jd, if_neg (by omega)]
      by_cases c : w = true ∧ i = p
      · rw [if_pos ⟨c.1, rfl, c.2⟩, if_pos c]
      · rw [if_neg (fun z => c ⟨z.1, z.2.2⟩), if_neg (by omega), if_neg c]
    have hq2 : rIn Mz q (J 4 5) (M 45 0) := ⟨m, J 4 5, Nat.le_refl _, hq, Rep_same sm (by omega) (rP_L hq g5).1⟩
    refine RP_end h (rf 35 (by decide) (by decide) (by decide) (by decide)) (rf 38 (by decide) (by decide) (by decide) (by decide)) (fun a ha => rf a (by omega) (by omega) (by omega) (by omega)) (fun j hj => r34 j (by omega) (by omega)) (by rw [rd, if_pos ⟨rfl, rfl⟩]) (jn 4 5 (by omega) (by decide) (by decide)) ?_ ⟨fun i hi => ?_, fun i hi h6 => ?_, fun h7 => ?_, fun i hi => ?_⟩
    · refine ⟨⟨?_, ?_, ?_, ?_, ?_, ?_, ?_⟩, ⟨?_, ?_, ?_⟩, fun i hi4 => ?_, fun i hi1 hi30 => ?_⟩
      · rw [r34 21 (by decide) (by decide), jn 4 0 (by omega) (by decide) (by decide)]; exact a1
      · rw [jn 4 0 (by omega) (by decide) (by decide)]; exact a2
      · rw [r34 22 (by decide) (by decide), jn 4 1 (by omega) (by decide) (by decide)]; exact a3
      · rw [jn 4 1 (by omega) (by decide) (by decide)]; exact a4
      · rw [r34 23 (by decide) (by decide), jn 4 2 (by omega) (by decide) (by decide)]; exact a5
      · rw [jn 4 2 (by omega) (by decide) (by decide)]; exact a6
      · rw [rd, if_neg (by omega), if_pos ⟨rfl, rfl⟩, j43]
      · rw [r34 28 (by decide) (by decide), jn 4 4 (by omega) (by decide) (by decide)]; exact b1
      · rw [jn 4 4 (by omega) (by decide) (by decide)]; exact b2
      · rw [j43, jn 9 0 (by omega) (by decide) (by decide)]; omega
      · obtain ⟨v1, v2, v3, v4, v5, v6, v7, v8⟩ := c1 i hi4
        have j0 : Jz 0 i = J 0 i := jn 0 i (by omega) (by decide) (by decide)
        have j1 : Jz 1 i = J 1 i := jn 1 i (by omega) (by decide) (by decide)
        have j2 : ∀ k, Jz 2 k = J 2 k := fun k => jn 2 k (by omega) (by decide) (by decide)
        refine ⟨by rw [j0]; exact v1, ?_, ?_, by rw [j1, rf 47 (by decide) (by decide) (by decide) (by decide)]; exact v4, by rw [j1]; exact v5, ?_, ?_, ?_⟩
        · intro e0
          rw [j0] at e0
          rw [m46, if_neg (fun z => by rw [z.2, hp] at e0; omega)]
          exact v2 e0
        · intro e0 e6
          rw [j0] at e0
          rw [j6] at e6
          by_cases c : w = true ∧ i = p
          · rw [if_pos c] at e6; omega
          · rw [if_neg c] at e6
            rw [m46, if_neg c]
            exact v3 e0 e6
        · intro e6
          rw [j6] at e6
          rw [j0, m48, j3]
          by_cases c : w = true ∧ i = p
          · rw [if_pos c, if_pos c]
            exact ⟨by rw [c.2, hp]; exact hseen, rfl⟩
          · rw [if_neg c] at e6
            rw [if_neg c, if_neg c]
            exact v6 e6
        · intro k hk hk1
          rw [j1] at hk1
          rw [j2, rf 49 (by decide) (by decide) (by decide) (by decide)]
          exact v7 k hk hk1
        · rw [j6]; split <;> omega
      · rw [jn 9 0 (by omega) (by decide) (by decide)] at hi1
        rw [rf 50 (by decide) (by decide) (by decide) (by decide), jn 5 i (by omega) (by decide) (by decide)]
        exact d1 i hi1 hi30
    · rw [j43] at hi
      have e51 : Mz 51 i = if i = d then M 45 0 else M 51 i := by
        rw [rd, if_neg (by omega), if_neg (by omega)]
        by_cases c : i = d
        · rw [if_pos ⟨rfl, c⟩, if_pos c]
        · rw [if_neg (fun z => c z.2), if_neg (by omega), if_neg (by omega), if_neg c]
      rw [e51, bd]
      by_cases c : i = d
      · rw [if_pos c, if_pos (Or.inr (by omega))]
        exact hq2
      · rw [if_neg c, if_neg (by omega)]
        exact rIn_keep sm (by omega) (hbb.1 i (by omega))
    · rw [j6] at h6
      rw [m46, bd]
      by_cases c : w = true ∧ i = p
      · rw [if_pos c, if_pos (Or.inl c)]
        exact hq2
      · rw [if_neg c] at h6
        rw [if_neg c, if_neg (fun z => z.elim c (by omega))]
        exact rIn_keep sm (by omega) (hbb.2.1 i hi h6)
    · rw [jn 7 0 (by omega) (by decide) (by decide)] at h7
      rw [r34 24 (by decide) (by decide), bd, if_neg (by omega)]
      exact rIn_keep sm (by omega) (hbb.2.2.1 h7)
    · by_cases ci : i < base
      · obtain ⟨t, lo, hi', n, a1, a2, a3, a4, a5, a6⟩ := hbb.2.2.2 i ci
        refine ⟨t, lo, hi', n, ?_, a2, Rep_same sm (by omega) a3, a4, a5, by omega⟩
        rcases a1 with ⟨d', d1, d2⟩ | ⟨d1, d2⟩
        · refine Or.inl ⟨d', by rw [j43]; omega, ?_⟩
          rw [bd, if_neg (by omega)]
          exact d2
        · refine Or.inr ⟨by rw [jn 7 0 (by omega) (by decide) (by decide)]; exact d1, ?_⟩
          rw [bd, if_neg (by omega)]
          exact d2
      · refine ⟨q, m, J 4 5, M 45 0, Or.inl ⟨d, by rw [j43]; omega, ?_⟩, hq, Rep_same sm (by omega) (rP_L hq g5).1, by omega, hi, Nat.le_refl _⟩
        rw [bd, if_pos (Or.inr (by omega))]
end RE
