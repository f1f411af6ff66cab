/-! THE REFERENCE'S READER: names in the lists of a proc -/
section RN2
variable {M M' : zMem} {ts : List Nat} {pl base : Nat} {l : List Nat} {P : List T} {J J' : zJ} {B : Nat → T}
def rMn1 (M : zMem) (f : Bool) (pl : Nat) : zMem := if f then zup M 34 28 (nI pl) else M
def rMn3 (M : zMem) (w : Bool) (p i b c : Nat) : zMem := if w then zup (zup M 49 (8 * p + i) (nI b)) 47 p (nI (c + 1)) else M
theorem rRunName {x t b o c p : Nat} (hx : x = 220 ∨ x = 221) (hb : b = t - 100) (ht : 100 ≤ t ∧ t ≤ 107) (h22 : M 34 22 = nI o) (ho : o < 256) (h21 : M 34 21 = nI p) (hp : p < 4) (h23 : M 34 23 = nI (J 4 2)) (h47 : M 47 p = nI c) (hc : c < 150) (h6 : M 34 6 = nI pl) (hp15 : pl ≤ 150) (b1 : M 34 28 = (if J 4 4 = 0 then -4 else nI (J 4 4 - 1))) (b2 : J 4 4 ≤ 151) (hag : J 4 2 ≤ 1) :
    F_R_readNames M (nI x) (tv t) = some (zup (zup (rMn3 (rMn1 M ((o / 2 ^ b % 2 == 1) && J 4 4 == 0) pl) (x == 220 && J 4 2 == 0) p (if c < 7 then c else 7) b c) 34 22 (nI (o ||| 2 ^ b))) 34 6 (nI (pl + 1))) := by
  have hb8 : b < 8 := by omega
  have hnm : isName t = true := by simp [isName]; omega
  have r2 : F_R_isIn M (tv t) 100 107 = some (b2i (isName t), M) := rIsIn M (by omega) (lo := 100) (hi := 107) (by omega) (by omega)
  have etb : nI t - 100 = nI b := by rw [show (100 : Int32) = nI 100 from rfl, pk_sub ht.1, hb]
  obtain ⟨k1, k2, k3⟩ := rBits o ho b hb8
  have cp : (nI p).toNatClampNeg = p := nI_clamp (by omega)
  have rest : ∀ M1 : zMem, (∀ a j, (a ≠ 34 ∨ j ≠ 28) → M1 a j = M a j) → (if (nI x) = 220 then (if (M1 34 23) = 0 then (zix (M1 34 21) 4 (if (7 : Int32) ≤ (M1 47 (M1 34 21).toNatClampNeg) then (F_R_readNames_p115 M1 (nI t) (nI (2 ^ b)) ((8 : Int32) * (M1 34 21)) ((7 : Int32))) else (zix (M1 34 21) 4 (F_R_readNames_p115 M1 (nI t) (nI (2 ^ b)) ((8 : Int32) * (M1 34 21)) (M1 47 (M1 34 21).toNatClampNeg))))) else (F_R_readNames_p129 M1 (nI (2 ^ b)))) else (F_R_readNames_p129 M1 (nI (2 ^ b)))) = some (zup (zup (rMn3 M1 (x == 220 && J 4 2 == 0) p (if c < 7 then c else 7) b c) 34 22 (nI (o ||| 2 ^ b))) 34 6 (nI (pl + 1))) := by
    intro M1 hM1
    have m21 : M1 34 21 = nI p := by rw [hM1 34 21 (by omega)]; exact h21
    have m23 : M1 34 23 = nI (J 4 2) := by rw [hM1 34 23 (by omega)]; exact h23
    have m47 : M1 47 p = nI c := by rw [hM1 47 p (by omega)]; exact h47
    have tail : ∀ X : zMem, X 34 22 = nI o → X 34 6 = nI pl → F_R_readNames_p129 X (nI (2 ^ b)) = some (zup (zup X 34 22 (nI (o ||| 2 ^ b))) 34 6 (nI (pl + 1))) := by
      intro X e1 e2
      unfold F_R_readNames_p129 F_R_readNames_p135
      rw [zset_eq, e1, k2, zset_eq]
      have : zup X 34 22 (nI (o ||| 2 ^ b)) 34 6 = nI pl := by simp [zup_ap, e2]
      rw [this, nI_1]
    have m22 : M1 34 22 = nI o := by rw [hM1 34 22 (by omega)]; exact h22
    have m6 : M1 34 6 = nI pl := by rw [hM1 34 6 (by omega)]; exact h6
    have put : ∀ i, i < 8 → F_R_readNames_p115 M1 (nI t) (nI (2 ^ b)) (nI (8 * p)) (nI i) = some (zup (zup (zup (zup M1 49 (8 * p + i) (nI b)) 47 p (nI (c + 1))) 34 22 (nI (o ||| 2 ^ b))) 34 6 (nI (pl + 1))) := by
      intro i hi
      unfold F_R_readNames_p115
      have y21 : zup M1 49 (8 * p + i) (nI b) 34 21 = nI p := by simp [zup_ap, m21]
      have y47 : zup M1 49 (8 * p + i) (nI b) 47 p = nI c := by simp [zup_ap, m47]
      rw [nI_add, zix_nI _ (by omega) (by omega), nI_clamp (by omega), zset_eq, etb, y21, zix_nI _ hp (by omega), zix_nI _ hp (by omega), cp, zset_eq, y47, nI_1]
      exact tail _ (by simp [zup_ap, m22]) (by simp [zup_ap, m6])
    rcases hx with rfl | rfl
    · rw [if_pos (by decide), m23]
      by_cases c0 : J 4 2 = 0
      · rw [c0, if_pos (by decide), m21, zix_nI _ hp (by omega), cp, m47, show (8 : Int32) * nI p = nI (8 * p) from pk_mul 8 p]
        have hw : (220 == 220 && J 4 2 == 0) = true := by simp [c0]
        have hw' : ((220 : Nat) == 220 && (0 : Nat) == 0) = true := rfl
        by_cases c7 : c < 7
        · rw [if_neg (show ¬ (7 : Int32) ≤ nI c from nI_ge (b := 7) c7 (by omega)), zix_nI _ hp (by omega), put c (by omega), if_pos c7]
          rfl
        · rw [if_pos (show (7 : Int32) ≤ nI c from nI_le (a := 7) (by omega) (by omega)), show (7 : Int32) = nI 7 from rfl, put 7 (by omega), if_neg c7]
          rfl
      · have e1 : J 4 2 = 1 := by omega
        rw [e1, if_neg (by decide), tail M1 m22 m6]
        rfl
    · rw [if_neg (by decide), tail M1 m22 m6]
      rfl
  simp only [F_R_readNames, F_R_readNames_p14, F_R_readNames_p88]
  have hx219 : ¬ nI x = 219 := by rcases hx with rfl | rfl <;> decide
  rw [if_neg hx219, r2, zbi_some, if_neg (b2i_1 hnm), if_neg hx219, tv_name (by omega), etb, rShift b hb8, h22]
  have hM1 : ∀ (f : Bool) (a j : Nat), (a ≠ 34 ∨ j ≠ 28) → rMn1 M f pl a j = M a j := by
    intro f a j hc
    unfold rMn1
    cases f with
    | false => rfl
    | true =>
      simp only [if_true, zup_ap]
      split
      · rw [if_neg (by omega)]
      · rfl
  by_cases c : nI o &&& nI (2 ^ b) = 0
  · have hf : (o / 2 ^ b % 2 == 1) = false := by
      have := k1.mp c
      simp [this]
    rw [if_pos c, show (0 : Int32) = b2i false from rfl, rFaultN (J := J) (pl := pl) b1 b2 h6, zbv_some, hf]
    exact rest M (fun _ _ _ => rfl)
  · have hf : (o / 2 ^ b % 2 == 1) = true := by
      have : ¬ o / 2 ^ b % 2 = 0 := fun q => c (k1.mpr q)
      simp; omega
    rw [if_neg c, show (1 : Int32) = b2i true from rfl, rFaultN (J := J) (pl := pl) b1 b2 h6, zbv_some, hf]
    exact rest (rMn1 M (true && J 4 4 == 0) pl) (hM1 _)
theorem rNames22x {x t : Nat} (hx : x = 220 ∨ x = 221) (h : RP M ts pl (l, P, J, B) base) (hl : pl < ts.length) (hcn : J 1 (J 4 0) < 150) (ht : isName t = true) : ∃ M' J', F_R_readNames M (nI x) (tv t) = some M' ∧ sNames x t pl J = some J' ∧ RP M' ts (pl + 1) (l, P, J', B) base := by
  have hb : 100 ≤ t ∧ t ≤ 107 := by simpa [isName] using ht
  obtain ⟨b, hbt⟩ : ∃ b, b = t - 100 := ⟨_, rfl⟩
  obtain ⟨hx1, hx2, hx3, hx4, hx5, hx6, hst, hj, hbb⟩ := id h
  have hj : rJ M J := hj
  obtain ⟨⟨a1, a2, a3, a4, a5, a6, a7⟩, ⟨b1, b2, b3⟩, c1, d1⟩ := id hj
  have hp15 : pl ≤ 150 := by have := hx1.2.1; omega
  obtain ⟨p, hp⟩ : ∃ p, p = J 4 0 := ⟨_, rfl⟩
  rw [← hp] at a1 a2 hcn
  obtain ⟨u1, u2, u3, u4, u5, u6, u7, u8⟩ := c1 p a2
  obtain ⟨i0, hi0⟩ : ∃ i0, i0 = (if J 1 p < 7 then J 1 p else 7) := ⟨_, rfl⟩
  have hi8 : i0 < 8 := by rw [hi0]; split <;> omega
  have hrun := rRunName (J := J) (x := x) hx hbt hb a3 a4 a1 a2 a5 u4 hcn hx2 hp15 b1 b2 a6
  obtain ⟨-, k2, k3⟩ := rBits (J 4 1) a4 b (by omega)
  rw [← hi0] at hrun
  obtain ⟨f, hf⟩ : ∃ f : Bool, f = ((J 4 1 / 2 ^ b % 2 == 1) && J 4 4 == 0) := ⟨_, rfl⟩
  obtain ⟨w, hw⟩ : ∃ w : Bool, w = (x == 220 && J 4 2 == 0) := ⟨_, rfl⟩
  rw [← hf, ← hw] at hrun
  have hsn : sNames x t pl J = some (jup (if w then jup (jup (if f then jup J 4 4 (pl + 1) else J) 2 (8 * p + i0) b) 1 p (J 1 p + 1) else (if f then jup J 4 4 (pl + 1) else J)) 4 1 (J 4 1 ||| 2 ^ b)) := by
    have hx219 : ¬ x = 219 := by omega
    have e1 : sFault J (J 4 1 / 2 ^ b % 2 == 1) pl = if f then jup J 4 4 (pl + 1) else J := by unfold sFault; rw [← hf]
    have e2 : (if f = true then jup J 4 4 (pl + 1) else J) 1 p = J 1 p := by split <;> simp [jup]
    have e3 : (x = 220 ∧ J 4 2 = 0) ↔ w = true := by rw [hw]; simp
    unfold sNames
    rw [if_neg hx219, if_pos ht]
    simp only [← hbt, e1, ← hp, e2, ← hi0, e3]
  refine ⟨_, _, hrun, hsn, ?_⟩
  -- reading the new memory
  have rd : ∀ a j, zup (zup (rMn3 (rMn1 M f pl) w p i0 b (J 1 p)) 34 22 (nI (J 4 1 ||| 2 ^ b))) 34 6 (nI (pl + 1)) a j = if a = 34 ∧ j = 6 then nI (pl + 1) else if a = 34 ∧ j = 22 then nI (J 4 1 ||| 2 ^ b) else if w = true ∧ a = 47 ∧ j = p then nI (J 1 p + 1) else if w = true ∧ a = 49 ∧ j = 8 * p + i0 then nI b else if f = true ∧ a = 34 ∧ j = 28 then nI pl else M a j := by
    intro a j
    unfold rMn3 rMn1
    cases w <;> cases f <;> simp only [zup_ap, if_true, Bool.false_eq_true, if_false, false_and, true_and] <;> (repeat' split) <;> first | rfl | omega | simp_all
  have jd : ∀ a i, jup (if w then jup (jup (if f then jup J 4 4 (pl + 1) else J) 2 (8 * p + i0) b) 1 p (J 1 p + 1) else (if f then jup J 4 4 (pl + 1) else J)) 4 1 (J 4 1 ||| 2 ^ b) a i = if a = 4 ∧ i = 1 then (J 4 1 ||| 2 ^ b) else if w = true ∧ a = 1 ∧ i = p then J 1 p + 1 else if w = true ∧ a = 2 ∧ i = 8 * p + i0 then b else if f = true ∧ a = 4 ∧ i = 4 then pl + 1 else J a i := by
    intro a i
    cases w <;> cases f <;> simp only [jup, if_true, Bool.false_eq_true, if_false, false_and, true_and]
  generalize zup (zup (rMn3 (rMn1 M f pl) w p i0 b (J 1 p)) 34 22 (nI (J 4 1 ||| 2 ^ b))) 34 6 (nI (pl + 1)) = Mz at rd ⊢
  generalize jup (if w then jup (jup (if f then jup J 4 4 (pl + 1) else J) 2 (8 * p + i0) b) 1 p (J 1 p + 1) else (if f then jup J 4 4 (pl + 1) else J)) 4 1 (J 4 1 ||| 2 ^ b) = Jz at jd ⊢
  have rf : ∀ a, a ≠ 34 → a ≠ 47 → a ≠ 49 → Mz a = M a := fun a q1 q2 q3 => by
    funext j
    rw [rd, if_neg (by omega), if_neg (by omega), if_neg (by omega), if_neg (by omega), if_neg (by omega)]
  have r34 : ∀ j, j ≠ 6 → j ≠ 22 → j ≠ 28 → Mz 34 j = M 34 j := fun j q1 q2 q3 => by
    rw [rd, if_neg (by omega), if_neg (by omega), if_neg (by omega), if_neg (by omega), if_neg (by omega)]
  have jn : ∀ a i, ¬ (a = 4 ∧ (i = 1 ∨ i = 4)) → a ≠ 1 → a ≠ 2 → Jz a i = J a i := fun a i q1 q2 q3 => by
    rw [jd, if_neg (by omega), if_neg (by omega), if_neg (by omega), if_neg (by omega)]
  have m28 : Mz 34 28 = if f = true then nI pl else M 34 28 := by
    rw [rd, if_neg (by omega), if_neg (by omega), if_neg (by omega), if_neg (by omega)]
    by_cases c : f = true
    · rw [if_pos ⟨c, rfl, rfl⟩, if_pos c]
    · rw [if_neg (fun z => c z.1), if_neg c]
  have j44 : Jz 4 4 = if f = true then pl + 1 else J 4 4 := by
    rw [jd, if_neg (by omega), if_neg (by omega), if_neg (by omega)]
    by_cases c : f = true
    · rw [if_pos ⟨c, rfl, rfl⟩, if_pos c]
    · rw [if_neg (fun z => c z.1), if_neg c]
  refine RP_names h hl (rf 35 (by decide) (by decide) (by decide)) (rf 38 (by decide) (by decide) (by decide)) (fun a ha => rf a (by omega) (by omega) (by omega)) (fun j hj => r34 j (by omega) (by omega) (by omega)) (by rw [rd, if_pos ⟨rfl, rfl⟩]) (rf 51 (by decide) (by decide) (by decide)) ?_ (jn 4 5 (by omega) (by decide) (by decide)) (jn 4 3 (by omega) (by decide) (by decide)) (fun q => jn 6 q (by omega) (by decide) (by decide)) (jn 7 0 (by omega) (by decide) (by decide)) (fun q _ _ => by rw [rf 46 (by decide) (by decide) (by decide)])
  refine ⟨⟨?_, ?_, ?_, ?_, ?_, ?_, ?_⟩, ⟨?_, ?_, ?_⟩, fun q hq4 => ?_, fun d hd1 hd30 => ?_⟩
  · rw [r34 21 (by decide) (by decide) (by decide), jn 4 0 (by omega) (by decide) (by decide), ← hp]; exact a1
  · rw [jn 4 0 (by omega) (by decide) (by decide), ← hp]; exact a2
  · rw [rd, if_neg (by omega), if_pos ⟨rfl, rfl⟩, jd, if_pos ⟨rfl, rfl⟩]
  · rw [jd, if_pos ⟨rfl, rfl⟩]; exact k3
  · rw [r34 23 (by decide) (by decide) (by decide), jn 4 2 (by omega) (by decide) (by decide)]; exact a5
  · rw [jn 4 2 (by omega) (by decide) (by decide)]; exact a6
  · rw [r34 27 (by decide) (by decide) (by decide), jn 4 3 (by omega) (by decide) (by decide)]; exact a7
  · rw [m28, j44]
    by_cases c : f = true
    · simp only [if_pos c]
      rw [if_neg (by omega)]
      rfl
    · simp only [if_neg c]
      exact b1
  · rw [j44]
    split <;> omega
  · rw [jn 4 3 (by omega) (by decide) (by decide), jn 9 0 (by omega) (by decide) (by decide)]; exact b3
  · obtain ⟨v1, v2, v3, v4, v5, v6, v7, v8⟩ := c1 q hq4
    have j0 : Jz 0 q = J 0 q := jn 0 q (by omega) (by decide) (by decide)
    have j6 : Jz 6 q = J 6 q := jn 6 q (by omega) (by decide) (by decide)
    have j3 : Jz 3 q = J 3 q := jn 3 q (by omega) (by decide) (by decide)
    have j1 : Jz 1 q = if w = true ∧ q = p then J 1 p + 1 else J 1 q := by
      rw [jd, if_neg (by omega)]
      by_cases c : w = true ∧ q = p
      · rw [if_pos ⟨c.1, rfl, c.2⟩, if_pos c]
      · rw [if_neg (fun z => c ⟨z.1, z.2.2⟩), if_neg (by omega), if_neg (by omega), if_neg c]
    have m47 : Mz 47 q = if w = true ∧ q = p then nI (J 1 p + 1) else M 47 q := by
      rw [rd, if_neg (by omega), if_neg (by omega)]
      by_cases c : w = true ∧ q = p
      · rw [if_pos ⟨c.1, rfl, c.2⟩, if_pos c]
      · rw [if_neg (fun z => c ⟨z.1, z.2.2⟩), if_neg (by omega), if_neg (by omega), if_neg c]
    refine ⟨by rw [j0]; exact v1, by rw [j0, rf 46 (by decide) (by decide) (by decide)]; exact v2, by rw [j0, j6, rf 46 (by decide) (by decide) (by decide)]; exact v3, ?_, ?_, by rw [j6, j0, j3, rf 48 (by decide) (by decide) (by decide)]; exact v6, ?_, by rw [j6]; exact v8⟩
    · rw [m47, j1]
      split
      · rfl
      · exact v4
    · rw [j1]
      split <;> omega
    · intro i hi hi1
      rw [j1] at hi1
      have m49 : Mz 49 (8 * q + i) = if w = true ∧ 8 * q + i = 8 * p + i0 then nI b else M 49 (8 * q + i) := by
        rw [rd, if_neg (by omega), if_neg (by omega), if_neg (by omega)]
        by_cases c : w = true ∧ 8 * q + i = 8 * p + i0
        · rw [if_pos ⟨c.1, rfl, c.2⟩, if_pos c]
        · rw [if_neg (fun z => c ⟨z.1, z.2.2⟩), if_neg (by omega), if_neg c]
      have j2 : Jz 2 (8 * q + i) = if w = true ∧ 8 * q + i = 8 * p + i0 then b else J 2 (8 * q + i) := by
        rw [jd, if_neg (by omega), if_neg (by omega)]
        by_cases c : w = true ∧ 8 * q + i = 8 * p + i0
        · rw [if_pos ⟨c.1, rfl, c.2⟩, if_pos c]
        · rw [if_neg (fun z => c ⟨z.1, z.2.2⟩), if_neg (by omega), if_neg c]
      rw [m49, j2]
      by_cases c : w = true ∧ 8 * q + i = 8 * p + i0
      · rw [if_pos c, if_pos c]
      · rw [if_neg c, if_neg c]
        by_cases cq : w = true ∧ q = p
        · rw [if_pos cq] at hi1
          obtain ⟨cw, rfl⟩ := cq
          have hne : i ≠ i0 := fun z => c ⟨cw, by omega⟩
          refine v7 i hi ?_
          rw [hi0] at hne
          split at hne <;> omega
        · rw [if_neg cq] at hi1
          exact v7 i hi hi1
  · rw [rf 50 (by decide) (by decide) (by decide), jn 5 d (by omega) (by decide) (by decide)]
    rw [jn 9 0 (by omega) (by decide) (by decide)] at hd1
    exact d1 d hd1 hd30
/-- a name that is none -/
theorem rNamesBad {x t : Nat} (hx : x = 219 ∨ x = 220 ∨ x = 221) (ht : t = 999 ∨ t < 174) (hb : if x = 219 then isProcName t = false else isName t = false) : F_R_readNames M (nI x) (tv t) = some (zup M 34 7 1) := by
  have r1 : F_R_isIn M (tv t) 110 113 = some (b2i (isProcName t), M) := rIsIn M (by omega) (lo := 110) (hi := 113) (by omega) (by omega)
  have r2 : F_R_isIn M (tv t) 100 107 = some (b2i (isName t), M) := rIsIn M (by omega) (lo := 100) (hi := 107) (by omega) (by omega)
  simp only [F_R_readNames, F_R_readNames_p14]
  by_cases c : x = 219
  · subst c
    have hb : isProcName t = false := by simpa using hb
    rw [if_pos (by decide), r1, zbi_some, if_pos ((b2i_0 _).mpr hb)]
    rfl
  · rw [if_neg c] at hb
    have hx219 : ¬ nI x = 219 := by rcases hx with rfl | rfl | rfl <;> first | exact absurd rfl c | decide
    rw [if_neg hx219, r2, zbi_some, if_pos ((b2i_0 _).mpr hb)]
    rfl
end RN2
