/-! THE REFERENCE'S READER: names and procs -/
theorem rBits : ∀ o, o < 256 → ∀ b, b < 8 → ((nI o &&& nI (2 ^ b) = 0 ↔ o / 2 ^ b % 2 = 0) ∧ (nI o ||| nI (2 ^ b)) = nI (o ||| 2 ^ b) ∧ (o ||| 2 ^ b) < 256) := by decide +kernel
theorem rShift : ∀ b, b < 8 → (1 : Int32) <<< (nI b &&& 31) = nI (2 ^ b) := by decide +kernel
section RN
variable {M M' : zMem} {ts : List Nat} {pl base : Nat} {l : List Nat} {P : List T} {J J' : zJ} {B : Nat → T}
theorem rFaultN {b : Bool} (h1 : M 34 28 = (if J 4 4 = 0 then -4 else nI (J 4 4 - 1))) (h2 : J 4 4 ≤ 151) (h3 : M 34 6 = nI pl) : F_R_noteFault M (b2i b) = some (if b && J 4 4 == 0 then zup M 34 28 (nI pl) else M) := by
  simp only [F_R_noteFault, F_R_noteFault_p9, F_R_noteFault_p11, zset_eq, zup_same rfl]
  cases b with
  | false => rfl
  | true =>
    rw [if_neg (by decide), h1]
    by_cases c : J 4 4 = 0
    · rw [if_pos c, if_neg (by decide), h3]
      simp [c]
    · rw [if_neg c, if_pos (nI_pos' (by omega))]
      simp [c]
theorem RP_names (h : RP M ts pl (l, P, J, B) base) (hl : pl < ts.length) (h35 : M' 35 = M 35) (h38 : M' 38 = M 38) (hn : ∀ a, 39 ≤ a ∧ a ≤ 45 → M' a = M a) (h34 : ∀ j, j = 1 ∨ j = 5 ∨ j = 7 ∨ j = 14 ∨ j = 16 ∨ j = 24 → M' 34 j = M 34 j) (h6 : M' 34 6 = nI (pl + 1)) (h51 : M' 51 = M 51) (hj : rJ M' J') (h45 : J' 4 5 = J 4 5) (h43 : J' 4 3 = J 4 3) (h66 : ∀ p, J' 6 p = J 6 p) (h77 : J' 7 0 = J 7 0) (h46 : ∀ p, p < 4 → J 6 p = 1 → M' 46 p = M 46 p) : RP M' ts (pl + 1) (l, P, J', B) base := by
  obtain ⟨a1, a2, a3, a4, a5, a6, ⟨g1, g2, g3, g4, g5⟩, hj0, hb⟩ := h
  have sm : ∀ {lo hi}, rSame M M' lo hi := fun i _ _ => ⟨by rw [hn 39 (by omega)], by rw [hn 40 (by omega)], by rw [hn 41 (by omega)], by rw [hn 42 (by omega)], by rw [hn 43 (by omega)], by rw [hn 44 (by omega)]⟩
  refine ⟨rTx_keep h35 (h34 1 (by omega)) a1, h6, hl, by rw [h34 7 (by omega)]; exact a4, by rw [h34 5 (by omega)]; exact a5, rTk_congr (fun i _ => by rw [h38]) a6, ⟨by rw [h34 16 (by omega)]; exact g1, g2, ?_, ?_, ?_⟩, hj, ?_, ?_, ?_, ?_⟩
  · show M' 34 14 = nI (J' 4 5)
    rw [h34 14 (by omega), h45]; exact g3
  · show J' 4 5 ≤ 400
    rw [h45]; exact g4
  · show rPile M' P base (J' 4 5)
    rw [h45]; exact rPile_same g4 sm (fun i _ => by rw [hn 45 (by omega)]) g5
  · intro d hd
    have hd : d < J 4 3 := by rw [← h43]; exact hd
    rw [h51]
    exact rIn_keep sm (Nat.le_refl _) (hb.1 d hd)
  · intro p hp h6p
    have h6p : J 6 p = 1 := by rw [← h66]; exact h6p
    rw [h46 p hp h6p]
    exact rIn_keep sm (Nat.le_refl _) (hb.2.1 p hp h6p)
  · intro h7
    have h7 : J 7 0 = 1 := by rw [← h77]; exact h7
    rw [h34 24 (by omega)]
    exact rIn_keep sm (Nat.le_refl _) (hb.2.2.1 h7)
  · intro i hi
    have := rCv_keep (M' := M') sm hb.2.2.2 i hi
    dsimp only at this ⊢
    rw [h43, h77]
    exact this
/-- what 219 leaves: the proc p, whether it was seen (g) -/
def rM219 (M : zMem) (p g d pl : Nat) : zMem := zup (zup (zup (zup (zup M 34 21 (nI p)) 34 23 (nI g)) 46 p (if g = 0 then -1 else M 46 p)) 34 22 0) 50 d (nI (pl - 1))
theorem rRun219 {t p g d : Nat} (hp : p = t - 110) (hb : 110 ≤ t ∧ t ≤ 113) (hg : g ≤ 1) (h46 : g = 0 → M 46 p = -2) (h46' : g = 1 → ¬ M 46 p = -2) (h27 : M 34 27 = nI d) (hd : d < 30) (h6 : M 34 6 = nI pl) (h0 : 0 < pl) (hp15 : pl ≤ 150) (b1 : M 34 28 = (if J 4 4 = 0 then -4 else nI (J 4 4 - 1))) (b2 : J 4 4 ≤ 151) : F_R_readNames M (nI 219) (tv t) = some (zup (if g == 1 && J 4 4 == 0 then zup (rM219 M p g d pl) 34 28 (nI pl) else rM219 M p g d pl) 34 6 (nI (pl + 1))) := by
  have hp4 : p < 4 := by omega
  have ht : isProcName t = true := by simp [isProcName]; omega
  have r2 : F_R_isIn M (tv t) 110 113 = some (b2i (isProcName t), M) := rIsIn M (by omega) (lo := 110) (hi := 113) (by omega) (by omega)
  have etp : nI t - 110 = nI p := by rw [show (110 : Int32) = nI 110 from rfl, pk_sub hb.1, hp]
  have cp : (nI p).toNatClampNeg = p := nI_clamp (by omega)
  have cd : (nI d).toNatClampNeg = d := nI_clamp (by omega)
  have s1 : nI pl - 1 = nI (pl - 1) := nI_s1 h0
  have x21 : zup M 34 21 (nI p) 34 21 = nI p := by simp [zup_ap]
  have x46 : zup M 34 21 (nI p) 46 p = M 46 p := by simp [zup_ap]
  have fin : ∀ v, v = (if g = 0 then -1 else M 46 p) → F_R_readNames_p55 (zup (zup M 34 21 (nI p)) 34 23 (nI g)) (nI p) v = some (zup (if g == 1 && J 4 4 == 0 then zup (rM219 M p g d pl) 34 28 (nI pl) else rM219 M p g d pl) 34 6 (nI (pl + 1))) := by
    intro v hv
    subst hv
    have y27 : zup (zup (zup (zup M 34 21 (nI p)) 34 23 (nI g)) 46 p (if g = 0 then -1 else M 46 p)) 34 22 0 34 27 = nI d := by simp [zup_ap, h27]
    have y6 : zup (zup (zup (zup M 34 21 (nI p)) 34 23 (nI g)) 46 p (if g = 0 then -1 else M 46 p)) 34 22 0 34 6 = nI pl := by simp [zup_ap, h6]
    have z23 : rM219 M p g d pl 34 23 = b2i (g == 1) := by
      unfold rM219
      simp [zup_ap]
      rcases (show g = 0 ∨ g = 1 by omega) with rfl | rfl <;> rfl
    have z28 : rM219 M p g d pl 34 28 = M 34 28 := by unfold rM219; simp [zup_ap]
    have z6 : rM219 M p g d pl 34 6 = nI pl := by unfold rM219; simp [zup_ap, h6]
    unfold F_R_readNames_p55 F_R_readNames_p135
    rw [zix_nI _ hp4 (by omega), zset_eq, zset_eq, cp, y27, zix_nI _ hd (by omega), zset_eq, cd, y6, s1]
    show zbv (F_R_noteFault (rM219 M p g d pl) (rM219 M p g d pl 34 23)) _ = _
    rw [z23, rFaultN (J := J) (pl := pl) (by rw [z28]; exact b1) b2 z6, zbv_some, zset_eq]
    have w6 : (if (g == 1 && J 4 4 == 0) = true then zup (rM219 M p g d pl) 34 28 (nI pl) else rM219 M p g d pl) 34 6 = nI pl := by
      split
      · simp [zup_ap, z6]
      · exact z6
    rw [w6, nI_1]
  simp only [F_R_readNames, F_R_readNames_p14, F_R_readNames_p40]
  rw [if_pos (by decide), r2, zbi_some, if_neg (b2i_1 ht), if_pos (by decide), tv_name (by omega), etp, zset_eq, x21, zix_nI _ hp4 (by omega), cp, x46]
  rcases (show g = 0 ∨ g = 1 by omega) with rfl | rfl
  · rw [if_pos (h46 rfl), zbit_0, zset_eq]
    have e1 : zup (zup M 34 21 (nI p)) 34 23 0 34 23 = 0 := by simp [zup_ap]
    have e2 : zup (zup M 34 21 (nI p)) 34 23 0 34 21 = nI p := by simp [zup_ap]
    rw [e1, if_pos rfl, e2]
    exact fin (-1) rfl
  · rw [if_neg (h46' rfl), zbit_1, zset_eq]
    have e1 : zup (zup M 34 21 (nI p)) 34 23 1 34 23 = 1 := by simp [zup_ap]
    have e2 : zup (zup M 34 21 (nI p)) 34 23 1 34 21 = nI p := by simp [zup_ap]
    have e3 : zup (zup M 34 21 (nI p)) 34 23 1 46 p = M 46 p := by simp [zup_ap]
    rw [e1, if_neg (by decide), e2, zix_nI _ hp4 (by omega), cp, e3]
    exact fin (M 46 p) rfl
/-- proc and its name -/
theorem rNames219 {t : Nat} (h : RP M ts pl (l, P, J, B) base) (hl : pl < ts.length) (h0 : 0 < pl) (hd : J 4 3 < 30) (ht : isProcName t = true) : ∃ M' J', F_R_readNames M (nI 219) (tv t) = some M' ∧ sNames 219 t pl J = some J' ∧ RP M' ts (pl + 1) (l, P, J', B) base := by
  have hb : 110 ≤ t ∧ t ≤ 113 := by simpa [isProcName] using ht
  obtain ⟨p, hp⟩ : ∃ p, p = t - 110 := ⟨_, rfl⟩
  have hp4 : p < 4 := by omega
  obtain ⟨hx1, hx2, hx3, hx4, hx5, hx6, hst, hj, hbb⟩ := id h
  obtain ⟨hg1, hg2, hg3, hg4, hg5⟩ : rSt M P base (J 4 5) := hst
  have hj : rJ M J := hj
  obtain ⟨⟨a1, a2, a3, a4, a5, a6, a7⟩, ⟨b1, b2, b3⟩, c1, d1⟩ := id hj
  have hbb : rB M J B base := hbb
  have hp15 : pl ≤ 150 := by have := hx1.2.1; omega
  obtain ⟨u1, u2, u3, u4, u5, u6, u7, u8⟩ := c1 p hp4
  have hne : J 0 p = 1 → ¬ M 46 p = -2 := by
    intro q e
    by_cases c6 : J 6 p = 0
    · rw [u3 q c6] at e
      exact absurd e (by decide)
    · obtain ⟨lo, hi, k1, k2, k3⟩ := hbb.2.1 p hp4 (by omega)
      obtain ⟨-, k4, -⟩ := isL_lo k2 k3
      rw [k4] at e
      have := congrArg Int32.toInt e
      have hlo : lo < 2 ^ 31 := by
        have := Rep_le k3
        have := rPile_le hg5
        omega
      rw [nI_toInt hlo] at this
      have h2 : (-2 : Int32).toInt = -2 := by decide
      omega
  have hrun := rRun219 (J := J) hp hb u1 u2 hne a7 hd hx2 h0 hp15 b1 b2
  have hs0 : sNames 219 t pl J = some (sFault (jup (jup (jup (jup (jup (jup J 4 0 p) 4 2 (J 0 p)) 0 p 1) 4 1 0) 5 (J 4 3) (pl - 1)) 9 0 (J 4 3 + 1)) (J 0 p == 1) pl) := by
    unfold sNames
    rw [if_pos rfl, if_pos ht, hp]
  refine ⟨_, _, hrun, hs0, ?_⟩
  have hq : ∀ a j, (a ≠ 46 ∧ a ≠ 50 ∧ (a ≠ 34 ∨ (j ≠ 21 ∧ j ≠ 22 ∧ j ≠ 23 ∧ j ≠ 28 ∧ j ≠ 6))) → zup (if (J 0 p == 1 && J 4 4 == 0) = true then zup (rM219 M p (J 0 p) (J 4 3) pl) 34 28 (nI pl) else rM219 M p (J 0 p) (J 4 3) pl) 34 6 (nI (pl + 1)) a j = M a j := by
    intro a j hc
    have hz : rM219 M p (J 0 p) (J 4 3) pl a j = M a j := by
      unfold rM219
      simp only [zup_ap]
      rw [if_neg (by omega)]
      split
      · rename_i q; subst q; rw [if_neg (by omega), if_neg (by omega), if_neg (by omega), if_neg (by omega)]
      · rw [if_neg (by omega)]
    simp only [zup_ap]
    split
    · rename_i q
      subst q
      rw [if_neg (by omega)]
      split
      · simp only [zup_ap]
        rw [if_pos trivial, if_neg (by omega), hz]
      · exact hz
    · split
      · simp only [zup_ap]
        rw [if_neg (by assumption), hz]
      · exact hz
  have hqf : ∀ a, a ≠ 46 → a ≠ 50 → a ≠ 34 → zup (if (J 0 p == 1 && J 4 4 == 0) = true then zup (rM219 M p (J 0 p) (J 4 3) pl) 34 28 (nI pl) else rM219 M p (J 0 p) (J 4 3) pl) 34 6 (nI (pl + 1)) a = M a := fun a q1 q2 q3 => by funext j; exact hq a j ⟨q1, q2, Or.inl q3⟩
  have rd : ∀ a j, a ≠ 34 ∨ (j ≠ 28 ∧ j ≠ 6) → zup (if (J 0 p == 1 && J 4 4 == 0) = true then zup (rM219 M p (J 0 p) (J 4 3) pl) 34 28 (nI pl) else rM219 M p (J 0 p) (J 4 3) pl) 34 6 (nI (pl + 1)) a j = rM219 M p (J 0 p) (J 4 3) pl a j := by
    intro a j hc
    simp only [zup_ap]
    split
    · rename_i q
      subst q
      rw [if_neg (by omega)]
      split
      · simp only [zup_ap]
        rw [if_pos trivial, if_neg (by omega)]
      · rfl
    · split
      · simp only [zup_ap]
        rw [if_neg (by assumption)]
      · rfl
  have jd : ∀ a i, ¬ (a = 4 ∧ i = 4) → sFault (jup (jup (jup (jup (jup (jup J 4 0 p) 4 2 (J 0 p)) 0 p 1) 4 1 0) 5 (J 4 3) (pl - 1)) 9 0 (J 4 3 + 1)) (J 0 p == 1) pl a i = jup (jup (jup (jup (jup (jup J 4 0 p) 4 2 (J 0 p)) 0 p 1) 4 1 0) 5 (J 4 3) (pl - 1)) 9 0 (J 4 3 + 1) a i := by
    intro a i hc
    unfold sFault
    split
    · rw [jup, if_neg hc]
    · rfl
  have j44 : sFault (jup (jup (jup (jup (jup (jup J 4 0 p) 4 2 (J 0 p)) 0 p 1) 4 1 0) 5 (J 4 3) (pl - 1)) 9 0 (J 4 3 + 1)) (J 0 p == 1) pl 4 4 = if (J 0 p == 1 && J 4 4 == 0) = true then pl + 1 else J 4 4 := by
    unfold sFault
    have e : jup (jup (jup (jup (jup (jup J 4 0 p) 4 2 (J 0 p)) 0 p 1) 4 1 0) 5 (J 4 3) (pl - 1)) 9 0 (J 4 3 + 1) 4 4 = J 4 4 := by simp [jup]
    rw [e]
    split
    · simp [jup]
    · exact e
  generalize hJ' : sFault (jup (jup (jup (jup (jup (jup J 4 0 p) 4 2 (J 0 p)) 0 p 1) 4 1 0) 5 (J 4 3) (pl - 1)) 9 0 (J 4 3 + 1)) (J 0 p == 1) pl = J' at jd j44 ⊢
  have z28 : zup (if (J 0 p == 1 && J 4 4 == 0) = true then zup (rM219 M p (J 0 p) (J 4 3) pl) 34 28 (nI pl) else rM219 M p (J 0 p) (J 4 3) pl) 34 6 (nI (pl + 1)) 34 28 = if J' 4 4 = 0 then -4 else nI (J' 4 4 - 1) := by
    rw [j44]
    have e : rM219 M p (J 0 p) (J 4 3) pl 34 28 = M 34 28 := by unfold rM219; simp [zup_ap]
    by_cases c : (J 0 p == 1 && J 4 4 == 0) = true
    · simp only [if_pos c]
      rw [if_neg (by omega)]
      simp [zup_ap]
    · simp only [if_neg c]
      simp [zup_ap, e, b1]
  generalize hMz : zup (if (J 0 p == 1 && J 4 4 == 0) = true then zup (rM219 M p (J 0 p) (J 4 3) pl) 34 28 (nI pl) else rM219 M p (J 0 p) (J 4 3) pl) 34 6 (nI (pl + 1)) = Mz at hq hqf rd z28 ⊢
  have z6 : Mz 34 6 = nI (pl + 1) := by rw [← hMz]; simp [zup_ap]
  have w46 : ∀ q, Mz 46 q = if q = p then (if J 0 p = 0 then -1 else M 46 p) else M 46 q := by
    intro q
    rw [rd 46 q (by omega)]
    unfold rM219
    simp only [zup_ap]
    simp
  have w50 : ∀ d, Mz 50 d = if d = J 4 3 then nI (pl - 1) else M 50 d := by
    intro d
    rw [rd 50 d (by omega)]
    unfold rM219
    simp only [zup_ap]
    simp
  refine RP_names h hl (hqf 35 (by decide) (by decide) (by decide)) (hqf 38 (by decide) (by decide) (by decide)) (fun a ha => hqf a (by omega) (by omega) (by omega)) (fun j hj => hq 34 j ⟨by decide, by decide, Or.inr (by omega)⟩) z6 (hqf 51 (by decide) (by decide) (by decide)) ?_ ?_ ?_ ?_ ?_ ?_
  · refine ⟨⟨?_, ?_, ?_, ?_, ?_, ?_, ?_⟩, ⟨z28, ?_, ?_⟩, fun q hq4 => ?_, fun d hd1 hd30 => ?_⟩
    · rw [rd 34 21 (by omega), jd 4 0 (by omega)]; unfold rM219; simp [zup_ap, jup]
    · rw [jd 4 0 (by omega)]; simp [jup]; exact hp4
    · rw [rd 34 22 (by omega), jd 4 1 (by omega)]; unfold rM219; simp [zup_ap, jup]; rfl
    · rw [jd 4 1 (by omega)]; simp [jup]
    · rw [rd 34 23 (by omega), jd 4 2 (by omega)]; unfold rM219; simp [zup_ap, jup]
    · rw [jd 4 2 (by omega)]; simp [jup]; exact u1
    · rw [hq 34 27 ⟨by decide, by decide, Or.inr (by omega)⟩, jd 4 3 (by omega)]; simp [jup]; exact a7
    · rw [j44]; split <;> omega
    · rw [jd 4 3 (by omega), jd 9 0 (by omega)]; simp [jup]
    · obtain ⟨v1, v2, v3, v4, v5, v6, v7, v8⟩ := c1 q hq4
      have j0 : J' 0 q = if q = p then 1 else J 0 q := by rw [jd 0 q (by omega)]; simp [jup]
      have j6 : J' 6 q = J 6 q := by rw [jd 6 q (by omega)]; simp [jup]
      have j1 : J' 1 q = J 1 q := by rw [jd 1 q (by omega)]; simp [jup]
      have j3 : J' 3 q = J 3 q := by rw [jd 3 q (by omega)]; simp [jup]
      have j2 : ∀ i, J' 2 i = J 2 i := fun i => by rw [jd 2 i (by omega)]; simp [jup]
      refine ⟨?_, ?_, ?_, ?_, ?_, ?_, ?_, ?_⟩
      · rw [j0]; split <;> omega
      · intro e
        rw [j0] at e
        rw [w46]
        split at e
        · omega
        · rename_i c; rw [if_neg c]; exact v2 e
      · intro e e6
        rw [j0] at e
        rw [j6] at e6
        rw [w46]
        split at e
        · rename_i c
          subst c
          rw [if_pos rfl]
          by_cases c0 : J 0 q = 0
          · rw [if_pos c0]
          · rw [if_neg c0]; exact v3 (by omega) e6
        · rename_i c; rw [if_neg c]; exact v3 e e6
      · rw [hqf 47 (by decide) (by decide) (by decide), j1]; exact v4
      · rw [j1]; exact v5
      · intro e6
        rw [j6] at e6
        rw [hqf 48 (by decide) (by decide) (by decide), j3, j0]
        have := v6 e6
        exact ⟨by split <;> omega, this.2⟩
      · intro i hi hi1
        rw [j1] at hi1
        rw [hqf 49 (by decide) (by decide) (by decide), j2]
        exact v7 i hi hi1
      · rw [j6]; exact v8
    · rw [w50]
      have j5 : J' 5 d = if d = J 4 3 then pl - 1 else J 5 d := by rw [jd 5 d (by omega)]; simp [jup]
      have j9 : J' 9 0 = J 4 3 + 1 := by rw [jd 9 0 (by omega)]; simp [jup]
      rw [j5]
      by_cases c : d = J 4 3
      · rw [if_pos c, if_pos c]
      · rw [if_neg c, if_neg c]
        exact d1 d (by omega) hd30
  · rw [jd 4 5 (by omega)]; simp [jup]
  · rw [jd 4 3 (by omega)]; simp [jup]
  · intro q; rw [jd 6 q (by omega)]; simp [jup]
  · rw [jd 7 0 (by omega)]; simp [jup]
  · intro q hq4 e6
    rw [w46]
    split
    · rename_i c
      subst c
      have := (u6 e6).1
      rw [if_neg (by omega)]
    · rfl
end RN
