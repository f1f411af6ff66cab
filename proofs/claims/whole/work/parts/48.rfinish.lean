/-! THE REFERENCE FINISHES A PIECE AS THE LIST MACHINE DOES -/
def isCall : T → Bool
  | .mulR _ _ => true
  | _ => false
def sGood (x : Nat) (P : List T) : Bool :=
  match P with
  | [] => false
  | e :: P1 =>
    if x / 1000 = 2 ∨ x / 1000 = 3 then isL e
    else if x / 1000 = 6 ∨ x / 1000 = 7 ∨ x / 1000 = 8 ∨ x / 1000 = 22 ∨ x / 1000 = 23 ∨ x / 1000 = 24 then isE e
    else if x / 1000 = 20 then isE e && decide (x % 1000 < 8)
    else match P1 with
      | [] => false
      | a :: P2 =>
        if x / 1000 = 4 then isE e && isL a
        else if x / 1000 = 5 then isE e && isE a && decide (130 ≤ x % 1000 ∧ x % 1000 < 200)
        else if x / 1000 = 9 then isE e && isCall a
        else if x / 1000 = 21 then isE e && isE a
        else if x / 1000 = 25 then isL e && isE a
        else if x / 1000 = 26 then isE e && isL a
        else if x / 1000 = 27 then (match P2 with | c :: _ => isR e && isL a && isE c | [] => false)
        else false
/-- what the reference does with a finished piece k, n: the pile's new first is t, P its rest -/
def rDone (M : zMem) (base nd : Nat) (f : Option zMem) (P : List T) : Prop := ∃ M', f = some M' ∧ rSt M' P base nd ∧ rKeep M M' base
section RF
variable {M : zMem} {e a c : T} {P : List T} {base nd : Nat}
theorem rPart1 (k j : Nat) (n : Int32) (hkj : (k = 6 ∧ j = 6) ∨ (k = 7 ∧ j = 2) ∨ (k = 8 ∧ j = 5)) (h : rSt M (e :: P) base nd) (hn : nd < 400) (hE : isE e = true) : rDone M base (nd + 1) (F_R_finishPart M (nI k) n) (.mulL j e :: P) := by
  have hm : rmode j = 0 ∧ rk j = j := by rcases hkj with ⟨-, rfl⟩ | ⟨-, rfl⟩ | ⟨-, rfl⟩ <;> exact ⟨rfl, rfl⟩
  obtain ⟨M1, M2, M3, e1, e2, e3, h1, h2, -⟩ := rFin1 (j := j) (x := 0) h hn hE hm.1 (by omega)
  rw [hm.2] at e2
  refine ⟨M3, ?_, h1, h2⟩
  rcases hkj with ⟨rfl, rfl⟩ | ⟨rfl, rfl⟩ | ⟨rfl, rfl⟩
  all_goals
    simp only [F_R_finishPart, F_R_finishPart_p114]
    rw [if_neg (by decide), if_neg (by decide), if_neg (by decide), if_neg (by decide), if_neg (by decide), e1, zbi_some]
  · rw [if_pos (by decide), show (6 : Int32) = nI 6 from rfl, e2, zbi_some, e3]; rfl
  · rw [if_neg (by decide), if_pos (by decide), show (2 : Int32) = nI 2 from rfl, e2, zbi_some, e3]; rfl
  · rw [if_neg (by decide), if_neg (by decide), show (5 : Int32) = nI 5 from rfl, e2, zbi_some, e3]; rfl
theorem rPart2 (n : Nat) (hn2 : 130 ≤ n ∧ n < 200) (h : rSt M (e :: a :: P) base nd) (hn : nd < 400) (hE : isE e = true) (hA : isE a = true) : rDone M base (nd + 1) (F_R_finishPart M (nI 5) (nI n)) (.mulL n (.add a e) :: P) := by
  obtain ⟨h1, h2, h3, h4, h5⟩ := h
  simp at h1 h2
  have hm : rmode n = 5 ∧ rk n = n := by
    constructor
    · unfold rmode
      rw [if_neg (by omega), if_neg (by omega), if_neg (by omega), if_pos (by omega)]
    · unfold rk
      rw [if_neg (by omega)]
  obtain ⟨lo, g1, g2, g3⟩ := rPair (j := n) h5 (Or.inl ⟨hm.1, hA, hE⟩)
  have e1 := rPopN h1 (by omega)
  have e2 := rPopN (M := zup M 34 16 (nI (P.length + 1))) (h := P.length) (by simp [zup_ap]) (by omega)
  have c45 : zup M 34 16 (nI (P.length + 1)) 45 P.length = M 45 P.length := by simp [zup_ap]
  rw [c45] at e2
  obtain ⟨M1, M3, e3, e4, h6, h7⟩ := rMk0 (M := zup (zup M 34 16 (nI (P.length + 1))) 34 16 (nI P.length)) (P := P) (base := base) (nd := nd) (lo := lo) (j := n) (x := 0) (ra := M 45 P.length) (rb := M 45 (P.length + 1)) (s := .add a e) (by simp [zup_ap]) (by omega) (by simp [zup_ap, h3]) hn (rPop_pile (by omega) (rPop_pile (by omega) g2)) g1 (by omega)
    (fun M' sm q1 q2 => g3 M' ((rPop_same.tr rPop_same).tr sm) q1 q2)
  rw [hm.2] at e3
  refine ⟨M3, ?_, h6, (rPop_keep.tr rPop_keep).tr h7⟩
  simp only [F_R_finishPart]
  rw [if_neg (by decide), if_neg (by decide), if_neg (by decide), if_pos (by decide), e1, zbi_some, e2, zbi_some, show (0 : Int32) = 0 from rfl, e3, zbi_some, e4]
  rfl
theorem rPartApp (k : Nat) (n : Int32) (hk : k = 4 ∨ k = 9) (h : rSt M (e :: a :: P) base nd) (hE : isE e = true) (hA : isL a = true ∨ isCall a = true) : rDone M base nd (F_R_finishPart M (nI k) n) (grow a e :: P) := by
  obtain ⟨M', e1, h1, h2⟩ := rFinApp h hE (by
    rcases hA with h | h
    · exact Or.inl h
    · refine Or.inr ?_
      cases a <;> simp [isCall] at h
      exact ⟨_, _, rfl⟩)
  refine ⟨M', ?_, h1, h2⟩
  rcases hk with rfl | rfl
  · simp only [F_R_finishPart]
    rw [if_neg (by decide), if_neg (by decide), if_pos (by decide)]
    exact e1
  · simp only [F_R_finishPart]
    rw [if_neg (by decide), if_neg (by decide), if_neg (by decide), if_neg (by decide), if_pos (by decide)]
    exact e1
theorem rStat1 (k n : Nat) (hk : (k = 20 ∧ n < 8) ∨ k = 22 ∨ k = 23 ∨ k = 24) (h : rSt M (e :: P) base nd) (hn : nd < 400) (hE : isE e = true) : rDone M base (nd + 1) (F_R_finishStatement M (nI k) (nI n)) (.mulL (if k = 20 then 200 + n else k) e :: P) := by
  have hm : rmode (if k = 20 then 200 + n else k) = 0 ∧ rk (if k = 20 then 200 + n else k) = k := by
    rcases hk with ⟨rfl, h8⟩ | rfl | rfl | rfl
    · rw [if_pos rfl]
      unfold rmode rk
      rw [if_neg (by omega), if_neg (by omega), if_neg (by omega), if_neg (by omega), if_pos (by omega)]
      exact ⟨rfl, rfl⟩
    all_goals exact ⟨rfl, rfl⟩
  obtain ⟨h1, h2, h3, h4, m, h5, h6⟩ := h
  simp at h1 h2
  obtain ⟨g1, -, -⟩ := rP_E hE h5
  have lm := Rep_le g1
  have e1 := rPopN h1 (by omega)
  obtain ⟨M1, M3, e3, e4, h7, h8⟩ := rMkS (M := zup M 34 16 (nI P.length)) (P := P) (base := base) (nd := nd) (lo := m) (j := if k = 20 then 200 + n else k) (x := nI n) (ra := M 45 P.length) (rb := -1) (s := e) (-1) (by simp [zup_ap]) (by omega) (by simp [zup_ap, h3]) hn (rPop_pile (by omega) h6) lm
    (fun q => by
      rcases hk with ⟨rfl, h8⟩ | rfl | rfl | rfl
      · rw [if_pos rfl]
        rw [show 200 + n - 200 = n by omega]
      all_goals simp at q)
    (fun M' sm q1 q2 q3 => by
      rw [hm.1, q1]
      exact Rep_same ((rPop_same (lo := 0) (hi := nd)).tr sm |>.sub (Nat.zero_le _) (Nat.le_refl _)) (by omega) g1)
  rw [hm.2] at e3
  refine ⟨M3, ?_, h7, rPop_keep.tr h8⟩
  simp only [F_R_finishStatement, F_R_finishStatement_p7, F_R_finishStatement_p24]
  have hz : ∀ z, zix (nI nd) 400 z = (z : Option zMem) := fun z => zix_nI _ hn (by omega)
  rcases hk with ⟨rfl, -⟩ | rfl | rfl | rfl
  all_goals
    rw [if_neg (by decide), if_neg (by decide), if_neg (by decide), if_neg (by decide), if_neg (by decide), e1, zbi_some, e3, zbi_some, hz, zset_eq, nI_clamp (by omega), e4]
    rfl
theorem rStat2 (k : Nat) (n : Int32) (hk : (k = 21 ∧ isE a = true ∧ isE e = true) ∨ (k = 25 ∧ isE a = true ∧ isL e = true) ∨ (k = 26 ∧ isL a = true ∧ isE e = true)) (h : rSt M (e :: a :: P) base nd) (hn : nd < 400) : rDone M base (nd + 1) (F_R_finishStatement M (nI k) n) (.mulL k (.add a e) :: P) := by
  obtain ⟨h1, h2, h3, h4, h5⟩ := h
  simp at h1 h2
  have hr : rk k = k := by rcases hk with ⟨rfl, -⟩ | ⟨rfl, -⟩ | ⟨rfl, -⟩ <;> rfl
  obtain ⟨lo, g1, g2, g3⟩ := rPair (j := k) h5 (by
    rcases hk with ⟨rfl, a1, a2⟩ | ⟨rfl, a1, a2⟩ | ⟨rfl, a1, a2⟩
    · exact Or.inl ⟨rfl, a1, a2⟩
    · exact Or.inr (Or.inl ⟨rfl, a1, a2⟩)
    · exact Or.inr (Or.inr ⟨rfl, a1, a2⟩))
  have e1 := rPopN h1 (by omega)
  have e2 := rPopN (M := zup M 34 16 (nI (P.length + 1))) (h := P.length) (by simp [zup_ap]) (by omega)
  have c45 : zup M 34 16 (nI (P.length + 1)) 45 P.length = M 45 P.length := by simp [zup_ap]
  rw [c45] at e2
  obtain ⟨M1, M3, e3, e4, h6, h7⟩ := rMkS (M := zup (zup M 34 16 (nI (P.length + 1))) 34 16 (nI P.length)) (P := P) (base := base) (nd := nd) (lo := lo) (j := k) (x := n) (ra := M 45 P.length) (rb := M 45 (P.length + 1)) (s := .add a e) (-1) (by simp [zup_ap]) (by omega) (by simp [zup_ap, h3]) hn (rPop_pile (by omega) (rPop_pile (by omega) g2)) g1 (by omega)
    (fun M' sm q1 q2 q3 => g3 M' ((rPop_same.tr rPop_same).tr sm) q1 q2)
  rw [hr] at e3
  refine ⟨M3, ?_, h6, (rPop_keep.tr rPop_keep).tr h7⟩
  have hz : ∀ z, zix (nI nd) 400 z = (z : Option zMem) := fun z => zix_nI _ hn (by omega)
  simp only [F_R_finishStatement, F_R_finishStatement_p7, F_R_finishStatement_p20, F_R_finishStatement_p24]
  rcases hk with ⟨rfl, -⟩ | ⟨rfl, -⟩ | ⟨rfl, -⟩
  · rw [if_neg (by decide), if_pos (by decide), e1, zbi_some, e2, zbi_some, e3, zbi_some, hz, zset_eq, nI_clamp (by omega), e4]; rfl
  · rw [if_neg (by decide), if_neg (by decide), if_pos (by decide), e1, zbi_some, e2, zbi_some, e3, zbi_some, hz, zset_eq, nI_clamp (by omega), e4]; rfl
  · rw [if_neg (by decide), if_neg (by decide), if_neg (by decide), if_pos (by decide), e1, zbi_some, e2, zbi_some, e3, zbi_some, hz, zset_eq, nI_clamp (by omega), e4]; rfl
theorem rStat3 (n : Int32) (hE : isR e = true) (hA : isL a = true) (hC : isE c = true) (h : rSt M (e :: a :: c :: P) base nd) (hn : nd < 400) : rDone M base (nd + 1) (F_R_finishStatement M (nI 27) n) (.mulL 27 (.add c (.add a e)) :: P) := by
  obtain ⟨h1, h2, h3, h4, h5⟩ := h
  simp at h1 h2
  obtain ⟨lo, g1, g2, g3⟩ := rTriple h5 hE hA hC
  have e1 := rPopN h1 (by omega)
  have e2 := rPopN (M := zup M 34 16 (nI (P.length + 1 + 1))) (h := P.length + 1) (by simp [zup_ap]) (by omega)
  have e3 := rPopN (M := zup (zup M 34 16 (nI (P.length + 1 + 1))) 34 16 (nI (P.length + 1))) (h := P.length) (by simp [zup_ap]) (by omega)
  have c1 : zup M 34 16 (nI (P.length + 1 + 1)) 45 (P.length + 1) = M 45 (P.length + 1) := by simp [zup_ap]
  have c2 : zup (zup M 34 16 (nI (P.length + 1 + 1))) 34 16 (nI (P.length + 1)) 45 P.length = M 45 P.length := by simp [zup_ap]
  rw [c1] at e2
  rw [c2] at e3
  obtain ⟨M1, M3, e4, e5, h6, h7⟩ := rMkS (M := zup (zup (zup M 34 16 (nI (P.length + 1 + 1))) 34 16 (nI (P.length + 1))) 34 16 (nI P.length)) (P := P) (base := base) (nd := nd) (lo := lo) (j := 27) (x := n) (ra := M 45 P.length) (rb := M 45 (P.length + 1)) (s := .add c (.add a e)) (M 45 (P.length + 1 + 1)) (by simp [zup_ap]) (by omega) (by simp [zup_ap, h3]) hn (rPop_pile (by omega) (rPop_pile (by omega) (rPop_pile (by omega) g2))) g1 (by omega)
    (fun M' sm q1 q2 q3 => g3 M' (((rPop_same.tr rPop_same).tr rPop_same).tr sm) q1 q2 q3)
  refine ⟨M3, ?_, h6, ((rPop_keep.tr rPop_keep).tr rPop_keep).tr h7⟩
  have hz : ∀ z, zix (nI nd) 400 z = (z : Option zMem) := fun z => zix_nI _ hn (by omega)
  have e4 : F_R_node (zup (zup (zup M 34 16 (nI (P.length + 1 + 1))) 34 16 (nI (P.length + 1))) 34 16 (nI P.length)) (nI 27) n (M 45 P.length) (M 45 (P.length + 1)) = some (nI nd, M1) := e4
  simp only [F_R_finishStatement, F_R_finishStatement_p7, F_R_finishStatement_p20, F_R_finishStatement_p24]
  rw [if_pos (by decide), e1, zbi_some, if_neg (by decide), if_neg (by decide), if_neg (by decide), if_pos (by decide), e2, zbi_some, e3, zbi_some, e4, zbi_some, hz, zset_eq, nI_clamp (by omega), e5]
  rfl
end RF
