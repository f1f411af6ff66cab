/-! THE REFERENCE'S NODES WITH SEVERAL CHILDREN, AND LEAVES -/
/-- a node is made over the trees above lo, its third child set, and pushed -/
theorem rMkS {M : zMem} {P : List T} {base nd lo j : Nat} {x ra rb : Int32} {s : T} (rc : Int32) (h16 : M 34 16 = nI P.length) (hP : P.length ≤ 298) (h14 : M 34 14 = nI nd) (hn : nd < 400) (hp : rPile M P base lo) (hlo : lo ≤ nd) (hx : 200 ≤ j → x = nI (j - 200))
    (H : ∀ M', rSame M M' 0 nd → M' 41 nd = ra → M' 42 nd = rb → M' 43 nd = rc → Rep M' s (rmode j) lo nd (M' 41 nd)) :
    ∃ M1 M3, F_R_node M (nI (rk j)) x ra rb = some (nI nd, M1) ∧ F_R_push (zup M1 43 nd rc) (nI nd) = some M3 ∧ rSt M3 (.mulL j s :: P) base (nd + 1) ∧ rKeep M M3 base := by
  obtain ⟨M1, e1, p1⟩ := rNode (nI (rk j)) x ra rb h14 hn
  have hh : (zup M1 43 nd rc) 34 16 = nI P.length := by simp [zup_ap]; rw [p1.2.2.2.2.2.2.2.1 16 (by decide), h16]
  obtain ⟨M3, e3, p3⟩ := rPushN (nI nd) hh (by omega)
  have sm : rSame M (zup M1 43 nd rc) 0 nd := p1.2.2.2.2.2.2.2.2.2.tr (fun i _ q => by
    have : ¬ i = nd := by omega
    simp [zup_ap, this])
  have lb := rPile_le hp
  have c39 : zup M1 43 nd rc 39 nd = nI (rk j) := by simp [zup_ap, p1.1]
  have c40 : zup M1 43 nd rc 40 nd = x := by simp [zup_ap, p1.2.1]
  have c41 : zup M1 43 nd rc 41 nd = ra := by simp [zup_ap, p1.2.2.1]
  have c42 : zup M1 43 nd rc 42 nd = rb := by simp [zup_ap, p1.2.2.2.1]
  have c43 : zup M1 43 nd rc 43 nd = rc := by simp [zup_ap]
  have c44 : zup M1 43 nd rc 44 nd = -1 := by simp [zup_ap, p1.2.2.2.2.2.1]
  have hrep : Rep (zup M1 43 nd rc) (.mulL j s) 0 lo (nd + 1) (nI nd) := by
    refine ⟨Or.inl rfl, by omega, rfl, c39, fun q => by rw [show nd + 1 - 1 = nd from rfl, c40, hx q], ?_⟩
    exact H _ sm c41 c42 c43
  have hp1 : rPile (zup M1 43 nd rc) P base lo := rPile_same (by omega) (sm.sub (Nat.zero_le _) hlo) (fun i _ => by simp [zup_ap]; rw [p1.2.2.2.2.2.2.2.2.1 45 (by omega)]) hp
  refine ⟨M1, M3, e1, e3, ⟨by simpa using p3.1, by simp; omega, ?_, by omega, lo, ?_, p3.pile (by omega) (Nat.le_refl _) hp1⟩, ?_⟩
  · rw [p3.2.2.2.1 14 (by decide)]
    simp [zup_ap]
    exact p1.2.2.2.2.2.2.1
  · rw [p3.2.1]
    exact rP_same (by omega) p3.same (Or.inl ⟨rfl, hrep, ⟨nd, rfl, hlo, by omega, c44⟩, fun s q ht => by cases ht⟩)
  · refine ((p1.keep (by omega)).tr ⟨fun c hc => ?_, fun j _ _ => by simp [zup_ap], fun i _ q => ?_⟩).tr p3.keep
    · funext i
      simp only [zup_ap]
      rw [if_neg (by omega)]
    · have : ¬ i = nd := by omega
      simp [zup_ap, this]
theorem rMk0 {M : zMem} {P : List T} {base nd lo j : Nat} {x ra rb : Int32} {s : T} (h16 : M 34 16 = nI P.length) (hP : P.length ≤ 298) (h14 : M 34 14 = nI nd) (hn : nd < 400) (hp : rPile M P base lo) (hlo : lo ≤ nd) (hx : 200 ≤ j → x = nI (j - 200))
    (H : ∀ M', rSame M M' 0 nd → M' 41 nd = ra → M' 42 nd = rb → Rep M' s (rmode j) lo nd (M' 41 nd)) :
    ∃ M1 M3, F_R_node M (nI (rk j)) x ra rb = some (nI nd, M1) ∧ F_R_push M1 (nI nd) = some M3 ∧ rSt M3 (.mulL j s :: P) base (nd + 1) ∧ rKeep M M3 base := by
  obtain ⟨M1, M3, e1, e3, h1, h2⟩ := rMkS (-1) h16 hP h14 hn hp hlo hx (fun M' a b c _ => H M' a b c)
  obtain ⟨M1', e1', p1⟩ := rNode (nI (rk j)) x ra rb h14 hn
  have : M1' = M1 := by rw [e1] at e1'; cases e1'; rfl
  subst this
  have hz : zup M1' 43 nd (-1) = M1' := by
    funext a i
    simp only [zup_ap]
    by_cases c : a = 43
    · subst c
      by_cases d : i = nd
      · subst d; simp [p1.2.2.2.2.1]
      · simp [d]
    · simp [c]
  rw [hz] at e3
  exact ⟨M1', M3, e1, e3, h1, h2⟩
/-- the two upper entries of a pile, as the modes of a pair want them -/
theorem rPair {M : zMem} {e a : T} {P : List T} {base nd j : Nat} (h : rPile M (e :: a :: P) base nd) (hm : (rmode j = 5 ∧ isE a = true ∧ isE e = true) ∨ (rmode j = 6 ∧ isE a = true ∧ isL e = true) ∨ (rmode j = 7 ∧ isL a = true ∧ isE e = true)) :
    ∃ lo, lo ≤ nd ∧ rPile M P base lo ∧ ∀ M', rSame M M' 0 nd → M' 41 nd = M 45 P.length → M' 42 nd = M 45 (P.length + 1) → Rep M' (.add a e) (rmode j) lo nd (M' 41 nd) := by
  obtain ⟨m2, h5, m1, h6, h7⟩ := h
  have l5 := rP_le h5
  have l6 := rP_le h6
  refine ⟨m1, by omega, h7, fun M' sm q1 q2 => ?_⟩
  rcases hm with ⟨hm, hA, hE⟩ | ⟨hm, hA, hE⟩ | ⟨hm, hA, hE⟩
  · rw [hm]
    simp only [Rep]
    simp only [show ¬ (5 = 1) by decide, show ¬ (5 = 2 ∨ 5 = 3) by decide, show ¬ (5 = 4) by decide, if_neg, if_pos, not_false_eq_true]
    exact ⟨m2, by rw [q1]; exact Rep_same (sm.sub (Nat.zero_le _) l5) (by omega) (rP_E hA h6).1, by rw [q2]; exact Rep_same (sm.sub (Nat.zero_le _) (Nat.le_refl _)) (by omega) (rP_E hE h5).1⟩
  · rw [hm]
    simp only [Rep]
    simp only [show ¬ (6 = 1) by decide, show ¬ (6 = 2 ∨ 6 = 3) by decide, show ¬ (6 = 4) by decide, show ¬ (6 = 5) by decide, if_neg, if_pos, not_false_eq_true]
    exact ⟨m2, by rw [q1]; exact Rep_same (sm.sub (Nat.zero_le _) l5) (by omega) (rP_E hA h6).1, by rw [q2]; exact Rep_same (sm.sub (Nat.zero_le _) (Nat.le_refl _)) (by omega) (rP_L hE h5).1⟩
  · rw [hm]
    simp only [Rep]
    simp only [show ¬ (7 = 1) by decide, show ¬ (7 = 2 ∨ 7 = 3) by decide, show ¬ (7 = 4) by decide, show ¬ (7 = 5) by decide, show ¬ (7 = 6) by decide, if_neg, if_pos, not_false_eq_true]
    exact ⟨m2, by rw [q1]; exact Rep_same (sm.sub (Nat.zero_le _) l5) (by omega) (rP_L hA h6).1, by rw [q2]; exact Rep_same (sm.sub (Nat.zero_le _) (Nat.le_refl _)) (by omega) (rP_E hE h5).1⟩
/-- what may stand behind the list of an if -/
def isR (t : T) : Bool := isL t || match t with
  | .var x => (x : Nat) == 98
  | .mulL k _ => k == 27
  | _ => false
theorem rTriple {M : zMem} {e a c : T} {P : List T} {base nd : Nat} (h : rPile M (e :: a :: c :: P) base nd) (hE : isR e = true) (hA : isL a = true) (hC : isE c = true) :
    ∃ lo, lo ≤ nd ∧ rPile M P base lo ∧ ∀ M', rSame M M' 0 nd → M' 41 nd = M 45 P.length → M' 42 nd = M 45 (P.length + 1) → M' 43 nd = M 45 (P.length + 2) → Rep M' (.add c (.add a e)) 8 lo nd (M' 41 nd) := by
  obtain ⟨m3, h4, m2, h5, m1, h6, h7⟩ := h
  have l4 := rP_le h4
  have l5 := rP_le h5
  have l6 := rP_le h6
  refine ⟨m1, by omega, h7, fun M' sm q1 q2 q3 => ?_⟩
  have he : Rep M e 3 m3 nd (M 45 (P.length + 2)) := by
    have h4 : rP M e m3 nd (M 45 (P.length + 2)) := h4
    cases e with
    | var x =>
      by_cases c99 : x = 99
      · subst c99
        have := (rP_L rfl h4).1
        simp [Rep] at this ⊢
        exact this
      · have c98 : x = 98 := by simpa [isR, isL, c99] using hE
        subst c98
        rcases h4 with h | h | h
        · simp [isE] at h
        · simp [isL] at h
        · simp [Rep]
          exact h.2
    | add x y =>
      have := (rP_L rfl h4).1
      simp [Rep] at this ⊢
      exact this
    | mulL x y =>
      have hx : x = 27 := by simpa [isR, isL] using hE
      have := (rP_E rfl h4).1
      obtain ⟨-, k2⟩ := this
      exact ⟨Or.inr ⟨rfl, hx⟩, k2⟩
    | num x => simp [isR, isL] at hE
    | mulR x y => simp [isR, isL] at hE
  simp only [Rep]
  simp only [show ¬ (8 = 1) by decide, show ¬ (8 = 2 ∨ 8 = 3) by decide, show ¬ (8 = 4) by decide, show ¬ (8 = 5) by decide, show ¬ (8 = 6) by decide, show ¬ (8 = 7) by decide, show ¬ (4 = 1) by decide, show ¬ (4 = 2 ∨ 4 = 3) by decide, if_neg, if_pos, not_false_eq_true]
  refine ⟨m2, ?_, m3, ?_, ?_⟩
  · rw [q1]
    exact Rep_same (sm.sub (Nat.zero_le _) (by omega)) (by omega) (rP_E hC h6).1
  · rw [q2]
    exact Rep_same (sm.sub (Nat.zero_le _) l4) (by omega) (rP_L hA h5).1
  · rw [q3]
    exact Rep_same (sm.sub (Nat.zero_le _) (Nat.le_refl _)) (by omega) he
/-- a leaf is made and pushed -/
theorem rLeaf {M : zMem} {P : List T} {base nd : Nat} {k x a b : Int32} {t : T} (h : rSt M P base nd) (hn : nd < 400) (hP : P.length ≤ 298) (hk : (isE t = true ∧ ∀ M', M' 39 nd = k → M' 40 nd = x → M' 41 nd = a → M' 43 nd = -1 → Rep M' t 0 nd (nd + 1) (nI nd)) ∧ (∀ s q, t ≠ .mulR s q) ∨ (t = .var 99 ∧ k = 30 ∧ a = -1)) :
    ∃ M1 M2, F_R_node M k x a b = some (nI nd, M1) ∧ F_R_push M1 (nI nd) = some M2 ∧ rSt M2 (t :: P) base (nd + 1) ∧ rKeep M M2 base := by
  obtain ⟨h1, h2, h3, h4, h5⟩ := h
  have lb := rPile_le h5
  obtain ⟨M1, e1, p1⟩ := rNode k x a b h3 hn
  have hh : M1 34 16 = nI P.length := by rw [p1.2.2.2.2.2.2.2.1 16 (by decide), h1]
  obtain ⟨M2, e2, p2⟩ := rPushN (nI nd) hh (by omega)
  refine ⟨M1, M2, e1, e2, ⟨by simpa using p2.1, by simp; omega, ?_, by omega, nd, ?_, p2.pile (by omega) (Nat.le_refl _) (p1.pile (by omega) (Nat.le_refl _) h5)⟩, (p1.keep (by omega)).tr p2.keep⟩
  · rw [p2.2.2.2.1 14 (by decide)]
    exact p1.2.2.2.2.2.2.1
  · rw [p2.2.1]
    refine rP_same (by omega) p2.same ?_
    rcases hk with ⟨⟨hE, hr⟩, hq⟩ | ⟨rfl, rfl, rfl⟩
    · exact Or.inl ⟨hE, hr M1 p1.1 p1.2.1 p1.2.2.1 p1.2.2.2.2.1, ⟨nd, rfl, Nat.le_refl _, by omega, p1.2.2.2.2.2.1⟩, fun s q ht => absurd ht (hq s q)⟩
    · refine Or.inr (Or.inl ⟨rfl, ?_, Or.inl rfl⟩)
      simp [Rep]
      exact ⟨p1.1, p1.2.2.1⟩
