/-! THE CLASS READS A TEXT AS Z DOES: names in lists; a token of a head -/
section HG
variable {M M' : zMem} {c : zC} {fl : Nat → Int32} {cl : (Nat → Int32) × (Nat → Int32)} {ow : Int32} {tx : Nat → Nat} {N n len pl t nx a : Nat} {J J' : zJ} {B : Nat → T}
theorem cTkName (M : zMem) (ht : t < 1000) : F_Tok_isName M (nI t) = some (b2i (isName t), M) := by
  unfold F_Tok_isName b2i isName
  by_cases q1 : t < 100
  · rw [if_pos (show nI t < (100 : Int32) from nI_lt (b := 100) (by omega) (by omega))]; simp [show ¬ 100 ≤ t by omega]
  · rw [if_neg (show ¬ nI t < (100 : Int32) from nI_nlt (b := 100) (by omega) (by omega))]
    by_cases q2 : t ≤ 107
    · rw [if_neg (show ¬ (107 : Int32) < nI t from nI_nlt (a := 107) (by omega) (by omega))]; simp [q2, show 100 ≤ t by omega]
    · rw [if_pos (show (107 : Int32) < nI t from nI_lt (a := 107) (by omega) (by omega))]; simp [q2]
def mOwn (M : zMem) (J : zJ) (pl b : Nat) : zMem := zup (if (J 4 1 / 2 ^ b % 2 == 1) = true ∧ J 4 4 = 0 then zup M 7 9 (nI pl) else M) 7 8 (nI (J 4 1 ||| 2 ^ b))
def mPar (M : zMem) (J : zJ) (b : Nat) : zMem := if J 4 2 = 0 then zup (if J 1 (J 4 0) < 8 then zup M 11 (8 * J 4 0 + J 1 (J 4 0)) (nI b) else M) 10 (J 4 0) (nI (J 1 (J 4 0) + 1)) else M
theorem cAddOwn {b : Nat} (hb : b < 8) (h8 : M 7 8 = nI (J 4 1)) (ho : J 4 1 < 256) (h7 : M 7 9 = (if J 4 4 = 0 then -4 else nI (J 4 4 - 1))) (h4 : J 4 4 ≤ pl) (hp : pl < 150) : F_Proc_addOwnName M (nI b) (nI pl) = some (mOwn M J pl b) := by
  obtain ⟨k1, k2, k3⟩ := cBits (J 4 1) ho b hb
  have p7 : ∀ {X : zMem}, X 7 8 = nI (J 4 1) → F_Proc_addOwnName_p7 X (nI b) = some (zup X 7 8 (nI (J 4 1 ||| 2 ^ b))) := by
    intro X hX
    unfold F_Proc_addOwnName_p7
    rw [zset_eq, hX, k2]
  unfold F_Proc_addOwnName F_Proc_isOwn mOwn
  rw [h8]
  by_cases q : (J 4 1 / 2 ^ b % 2 == 1) = true
  · have q1 : ¬ (nI (J 4 1) >>> (nI b &&& 31)) &&& 1 = 0 := fun z => by rw [k1.mp z] at q; exact absurd q (by decide)
    rw [if_neg q1, zbi_some, if_neg (by decide), cNoteF (J := J) h7 h4 hp, zbv_some]
    by_cases z : J 4 4 = 0
    · rw [if_pos z, if_pos ⟨q, z⟩]
      exact p7 (by simp [zup_ap]; exact h8)
    · rw [if_neg z, if_neg (fun w => z w.2)]
      exact p7 h8
  · have q1 : (nI (J 4 1) >>> (nI b &&& 31)) &&& 1 = 0 := k1.mpr (by simpa using q)
    rw [if_pos q1, zbi_some, if_pos rfl, if_neg (fun w => q w.1)]
    exact p7 h8
theorem cAddPar {b : Nat} (hb : b < 8) (h8 : M 7 8 = nI (J 4 1)) (ho : J 4 1 < 256) (h7 : M 7 9 = (if J 4 4 = 0 then -4 else nI (J 4 4 - 1))) (h4 : J 4 4 ≤ pl) (hp : pl < 150) (hc : M 7 7 = (if J 4 2 = 0 then nI (J 4 0) else -1)) (h3 : J 4 0 < 4) (h10 : J 4 2 = 0 → M 10 (J 4 0) = nI (J 1 (J 4 0))) (h1 : J 1 (J 4 0) < 150) : F_Proc_addParameter M (nI b) (nI pl) = some (mPar (mOwn M J pl b) J b) := by
  unfold F_Proc_addParameter
  rw [cAddOwn hb h8 ho h7 h4 hp, zbv_some]
  obtain ⟨X, hX⟩ : ∃ X, X = mOwn M J pl b := ⟨_, rfl⟩
  rw [← hX]
  have x7 : X 7 7 = (if J 4 2 = 0 then nI (J 4 0) else -1) := by
    rw [hX]; unfold mOwn
    split <;> (simp [zup_ap]; exact hc)
  have x10 : X 10 = M 10 := by
    rw [hX]; unfold mOwn
    split
    · rw [zup_ne (by omega), zup_ne (by omega)]
    · rw [zup_ne (by omega)]
  rw [x7]
  unfold mPar
  by_cases c2 : J 4 2 = 0
  · have x10' : X 10 (J 4 0) = nI (J 1 (J 4 0)) := by rw [x10]; exact h10 c2
    have ei : nI (J 4 0) * 8 + nI (J 1 (J 4 0)) = nI (8 * J 4 0 + J 1 (J 4 0)) := by rw [show (8 : Int32) = nI 8 from rfl, pk_mul, nI_add, Nat.mul_comm]
    have p31 : ∀ {Y : zMem}, Y 7 7 = nI (J 4 0) → F_Proc_addParameter_p31 Y (nI (J 1 (J 4 0))) = some (zup Y 10 (J 4 0) (nI (J 1 (J 4 0) + 1))) := by
      intro Y hY
      unfold F_Proc_addParameter_p31
      rw [hY, zix_nI _ h3 (by omega), zset_eq, nI_clamp (by omega), nI_1]
    rw [if_pos c2] at x7
    rw [if_pos c2, if_neg (nI_pos (by omega)), if_pos (show nI (J 4 0) < (4 : Int32) from nI_lt (b := 4) h3 (by omega)), zix_nI _ h3 (by omega), nI_clamp (by omega), x10', if_pos c2]
    by_cases q : J 1 (J 4 0) < 8
    · rw [if_neg (show ¬ (8 : Int32) ≤ nI (J 1 (J 4 0)) from nI_ge (b := 8) q (by omega)), ei, zix_nI _ (by omega) (by omega), zset_eq, nI_clamp (by omega), if_pos q]
      exact p31 (by rw [zup_ne (by omega)]; exact x7)
    · rw [if_pos (show (8 : Int32) ≤ nI (J 1 (J 4 0)) from nI_le (a := 8) (by omega) (by omega)), if_neg q]
      exact p31 x7
  · rw [if_neg c2, if_pos (by decide), if_neg c2]
/-- a name in the lists of a proc -/
theorem cNames {x nx nx' : Nat} (hx : (x = 220 ∧ nx' = 5) ∨ (x = 221 ∧ nx' = 8)) (hn : 2 ≤ nx) (hpl : pl < 150) (htx : tx pl = t) (ht : t < 174) (h1p : ∀ p, J 1 p ≤ pl - 1) (h : Hz M tx pl (nx, [], [], J, B)) : match sNames x t pl J with
    | none => (if x = 220 then F_Pars_parameter M (nI t) (nI pl) else F_Pars_local M (nI t) (nI pl)) = some (-1, M)
    | some J1 => ∃ M2, (if x = 220 then F_Pars_parameter M (nI t) (nI pl) else F_Pars_local M (nI t) (nI pl)) = some (nI nx', M2) ∧ Hz M2 tx (pl + 1) (nx', [], [], J1, B) ∧ kR M M2 := by
  obtain ⟨c, fl, cl, ow, a, g1, g2, g3, ⟨p1, p2, p3⟩, g5, g6, g7, g8, g9⟩ := h
  obtain ⟨⟨i1, i2, i3, i4, i5⟩, l1, l2⟩ := g9 hn
  have p1 : ∀ p, p < 4 → (J 0 p ≤ 1 ∧ (J 0 p = 0 → J 1 p = 0)) ∧ M 8 p = nI (J 0 p) ∧ (J 0 p = 1 → M 10 p = nI (J 1 p) ∧ ∀ i, i < 8 → i < J 1 p → J 1 p ≤ 8 → M 11 (8 * p + i) = nI (J 2 (8 * p + i))) := p1
  have p2 : M 7 9 = (if J 4 4 = 0 then -4 else nI (J 4 4 - 1)) := p2
  have p3 : J 4 4 ≤ pl := p3
  have g5 : Dn tx c fl cl (M 9) J B c.1 a := g5
  have i1 : M 7 7 = (if J 4 2 = 0 then nI (J 4 0) else -1) := i1
  have i2 : M 7 8 = nI (J 4 1) := i2
  have i3 : J 4 0 < 4 := i3
  have i4 : J 4 1 < 256 := i4
  have i5 : J 0 (J 4 0) = 1 := i5
  have l1 : J 5 (J 4 3) = a := l1
  have l2 : J 4 2 = 0 → J 6 (J 4 0) ≠ 1 := l2
  obtain ⟨f0, ca0⟩ := g3 pl (Nat.le_refl _) hpl
  have n219 : ¬ x = 219 := by omega
  unfold F_Pars_parameter F_Pars_local
  rw [cTkName M (by omega), zbi_some, zbi_some]
  by_cases hq : isName t = true
  · have hq' := hq
    simp only [isName, Bool.and_eq_true, decide_eq_true_eq] at hq'
    obtain ⟨b, hb⟩ : ∃ b, b = t - 100 := ⟨_, rfl⟩
    have hb8 : b < 8 := by omega
    have etp : nI t - 100 = nI b := by rw [show (100 : Int32) = nI 100 from rfl, pk_sub hq'.1, hb]
    obtain ⟨k1, k2, k3⟩ := cBits (J 4 1) i4 b hb8
    obtain ⟨p, hp⟩ : ∃ p, p = J 4 0 := ⟨_, rfl⟩
    obtain ⟨w, hw⟩ : ∃ w, w = (x = 220 ∧ J 4 2 = 0) := ⟨_, rfl⟩
    obtain ⟨v, hv⟩ : ∃ v, v = ((J 4 1 / 2 ^ b % 2 == 1) = true ∧ J 4 4 = 0) := ⟨_, rfl⟩
    -- the numbers behind it
    obtain ⟨J3, hs, j40, j42, j43, j41, j0, j5, j44, j1, j2⟩ : ∃ J3, sNames x t pl J = some J3 ∧ J3 4 0 = p ∧ J3 4 2 = J 4 2 ∧ J3 4 3 = J 4 3 ∧ J3 4 1 = J 4 1 ||| 2 ^ b ∧ (∀ i, J3 0 i = J 0 i) ∧ (∀ i, J3 5 i = J 5 i ∧ J3 6 i = J 6 i ∧ J3 3 i = J 3 i) ∧ ((v → J3 4 4 = pl + 1) ∧ (¬ v → J3 4 4 = J 4 4)) ∧ (∀ i, (w ∧ i = p → J3 1 i = J 1 p + 1) ∧ (¬ (w ∧ i = p) → J3 1 i = J 1 i)) ∧ (∀ i, (w ∧ i = 8 * p + (if J 1 p < 7 then J 1 p else 7) → J3 2 i = b) ∧ (¬ (w ∧ i = 8 * p + (if J 1 p < 7 then J 1 p else 7)) → J3 2 i = J 2 i)) := by
      refine ⟨jup (if x = 220 ∧ J 4 2 = 0 then jup (jup (sFault J (J 4 1 / 2 ^ b % 2 == 1) pl) 2 (8 * p + (if sFault J (J 4 1 / 2 ^ b % 2 == 1) pl 1 p < 7 then sFault J (J 4 1 / 2 ^ b % 2 == 1) pl 1 p else 7)) b) 1 p (sFault J (J 4 1 / 2 ^ b % 2 == 1) pl 1 p + 1) else sFault J (J 4 1 / 2 ^ b % 2 == 1) pl) 4 1 (J 4 1 ||| 2 ^ b), by simp only [sNames, if_neg n219, hq, if_true]; rw [← hb, ← hp], ?_⟩
      have ef : ∀ a i, ¬ (a = 4 ∧ i = 4) → sFault J (J 4 1 / 2 ^ b % 2 == 1) pl a i = J a i := fun a i z => by
        unfold sFault
        split
        · simp [jup, z]
        · rfl
      have e44 : (v → sFault J (J 4 1 / 2 ^ b % 2 == 1) pl 4 4 = pl + 1) ∧ (¬ v → sFault J (J 4 1 / 2 ^ b % 2 == 1) pl 4 4 = J 4 4) := by
        unfold sFault
        rw [hv]
        constructor
        · rintro ⟨z1, z2⟩
          rw [if_pos (by simp [z1, z2])]
          simp [jup]
        · intro z
          rw [if_neg (by
            intro y
            simp only [Bool.and_eq_true, beq_iff_eq] at y
            exact z ⟨by simpa using y.1, y.2⟩)]
      by_cases hw' : w
      · have hw2 : x = 220 ∧ J 4 2 = 0 := by rw [← hw]; exact hw'
        rw [if_pos hw2]
        refine ⟨?_, ?_, ?_, ?_, fun i => ?_, fun i => ⟨?_, ?_, ?_⟩, ⟨fun z => ?_, fun z => ?_⟩, fun i => ⟨fun z => ?_, fun z => ?_⟩, fun i => ⟨fun z => ?_, fun z => ?_⟩⟩
        · simp [jup, ef, hp]
        · simp [jup, ef]
        · simp [jup, ef]
        · simp [jup]
        · simp [jup, ef]
        · simp [jup, ef]
        · simp [jup, ef]
        · simp [jup, ef]
        · simp [jup]; exact e44.1 z
        · simp [jup]; exact e44.2 z
        · simp [jup, ef, z.2]
        · have : ¬ i = p := fun y => z ⟨hw', y⟩
          simp [jup, ef, this]
        · simp [jup, ef, z.2]
        · have : ¬ i = 8 * p + (if J 1 p < 7 then J 1 p else 7) := fun y => z ⟨hw', y⟩
          simp [jup, ef, this]
      · have hw2 : ¬ (x = 220 ∧ J 4 2 = 0) := by rw [← hw]; exact hw'
        rw [if_neg hw2]
        refine ⟨?_, ?_, ?_, ?_, fun i => ?_, fun i => ⟨?_, ?_, ?_⟩, ⟨fun z => ?_, fun z => ?_⟩, fun i => ⟨fun z => absurd z.1 hw', fun z => ?_⟩, fun i => ⟨fun z => absurd z.1 hw', fun z => ?_⟩⟩
        · simp [jup, ef, hp]
        · simp [jup, ef]
        · simp [jup, ef]
        · simp [jup]
        · simp [jup, ef]
        · simp [jup, ef]
        · simp [jup, ef]
        · simp [jup, ef]
        · simp [jup]; exact e44.1 z
        · simp [jup]; exact e44.2 z
        · simp [jup, ef]
        · simp [jup, ef]
    rw [hs]
    have hJ1p : J 1 (J 4 0) < 150 := by have := h1p (J 4 0); omega
    have h10 : J 4 2 = 0 → M 10 (J 4 0) = nI (J 1 (J 4 0)) := fun _ => ((p1 (J 4 0) i3).2.2 i5).1
    -- the memory behind it
    obtain ⟨M2, e2, o7, o8, o10, o11, oo⟩ : ∃ M2, (if x = 220 then (if b2i (isName t) = 0 then (some ((-1 : Int32), M)) else (zbv (F_Proc_addParameter M (nI t - (100 : Int32)) (nI pl)) fun M4 => some ((5 : Int32), M4))) else (if b2i (isName t) = 0 then (some ((-1 : Int32), M)) else (zbv (F_Proc_addOwnName M (nI t - (100 : Int32)) (nI pl)) fun M4 => some ((8 : Int32), M4)))) = some (nI nx', M2) ∧ (M2 7 7 = M 7 7 ∧ M2 7 8 = nI (J 4 1 ||| 2 ^ b) ∧ M2 7 9 = (if J3 4 4 = 0 then -4 else nI (J3 4 4 - 1))) ∧ (∀ a, a ≠ 7 → a ≠ 10 → a ≠ 11 → M2 a = M a) ∧ (∀ i, (w ∧ i = p → M2 10 i = nI (J 1 p + 1)) ∧ (¬ (w ∧ i = p) → M2 10 i = M 10 i)) ∧ (∀ i, (w ∧ J 1 p < 8 ∧ i = 8 * p + J 1 p → M2 11 i = nI b) ∧ (¬ (w ∧ J 1 p < 8 ∧ i = 8 * p + J 1 p) → M2 11 i = M 11 i)) ∧ True := by
      have mo : ∀ a, a ≠ 7 → mOwn M J pl b a = M a := fun a z => by
        unfold mOwn
        split
        · rw [zup_ne z, zup_ne z]
        · rw [zup_ne z]
      have mo77 : mOwn M J pl b 7 7 = M 7 7 := by unfold mOwn; split <;> simp [zup_ap]
      have mo78 : mOwn M J pl b 7 8 = nI (J 4 1 ||| 2 ^ b) := by unfold mOwn; simp [zup_ap]
      have mo79 : mOwn M J pl b 7 9 = (if J3 4 4 = 0 then -4 else nI (J3 4 4 - 1)) := by
        unfold mOwn
        by_cases z : v
        · have z2 : (J 4 1 / 2 ^ b % 2 == 1) = true ∧ J 4 4 = 0 := by rw [← hv]; exact z
          rw [if_pos z2, j44.1 z, if_neg (by omega), Nat.add_sub_cancel]
          simp [zup_ap]
        · have z2 : ¬ ((J 4 1 / 2 ^ b % 2 == 1) = true ∧ J 4 4 = 0) := by rw [← hv]; exact z
          rw [if_neg z2, j44.2 z]
          simp [zup_ap]
          exact p2
      rcases hx with ⟨rfl, rfl⟩ | ⟨rfl, rfl⟩
      · refine ⟨mPar (mOwn M J pl b) J b, ?_, ?_, ?_, ?_, ?_, trivial⟩
        · rw [if_pos rfl, if_neg (b2i_p hq), etp, cAddPar hb8 i2 i4 p2 p3 hpl i1 i3 h10 hJ1p, zbv_some]
          rfl
        · have mp7 : mPar (mOwn M J pl b) J b 7 = mOwn M J pl b 7 := by
            unfold mPar
            repeat' split
            · rw [zup_ne (by omega), zup_ne (by omega)]
            · rw [zup_ne (by omega)]
            · rfl
          rw [mp7]
          exact ⟨mo77, mo78, mo79⟩
        · intro a z1 z2 z3
          unfold mPar
          repeat' split
          · rw [zup_ne z2, zup_ne z3]; exact mo a z1
          · rw [zup_ne z2]; exact mo a z1
          · exact mo a z1
        · intro i
          unfold mPar
          constructor
          · rintro ⟨z1, z2⟩
            have z1 : 220 = 220 ∧ J 4 2 = 0 := by rw [← hw]; exact z1
            rw [if_pos z1.2, z2, hp, zup_self, pk_us]
          · intro z
            by_cases c2 : J 4 2 = 0
            · have : i ≠ J 4 0 := fun y => z ⟨by rw [hw]; exact ⟨rfl, c2⟩, by rw [hp]; exact y⟩
              rw [if_pos c2, zup_self, pk_un this]
              split
              · rw [zup_ne (by omega), mo 10 (by omega)]
              · rw [mo 10 (by omega)]
            · rw [if_neg c2, mo 10 (by omega)]
        · intro i
          unfold mPar
          rw [← hp]
          constructor
          · rintro ⟨z1, z2, z3⟩
            have z1 : 220 = 220 ∧ J 4 2 = 0 := by rw [← hw]; exact z1
            rw [if_pos z1.2, zup_ne (by omega), if_pos z2, z3, zup_self, pk_us]
          · intro z
            by_cases c2 : J 4 2 = 0
            · rw [if_pos c2, zup_ne (by omega)]
              by_cases c8 : J 1 p < 8
              · have : i ≠ 8 * p + J 1 p := fun y => z ⟨by rw [hw]; exact ⟨rfl, c2⟩, c8, y⟩
                rw [if_pos c8, zup_self, pk_un this, mo 11 (by omega)]
              · rw [if_neg c8, mo 11 (by omega)]
            · rw [if_neg c2, mo 11 (by omega)]
      · have nw : ¬ w := by rw [hw]; omega
        refine ⟨mOwn M J pl b, ?_, ⟨mo77, mo78, mo79⟩, fun a z _ _ => mo a z, fun i => ⟨fun z => absurd z.1 nw, fun _ => by rw [mo 10 (by omega)]⟩, fun i => ⟨fun z => absurd z.1 nw, fun _ => by rw [mo 11 (by omega)]⟩, trivial⟩
        rw [if_neg (by omega), if_neg (b2i_p hq), etp, cAddOwn hb8 i2 i4 p2 p3 hpl, zbv_some]
        rfl
    refine ⟨M2, e2, ?_, kR_head (fun a z1 _ _ z4 z5 => o8 a z1 z4 z5)⟩
    have k0 := cK_head (M' := M2) g1 (fun a z1 _ _ z4 z5 => o8 a z1 z4 z5)
    refine ⟨c, fl, cl, M2 7 8, a, k0, by omega, fun i x y => g3 i (by omega) y, ⟨fun i hi => ?_, o7.2.2, ?_⟩, ?_, ⟨by have := g6.1; omega, fun i x y => ?_⟩, fun z => absurd z (by show ¬ nx' = 0; omega), fun z => absurd z (by show ¬ nx' = 1; omega), fun _ => ⟨⟨?_, ?_, ?_, ?_, ?_⟩, ?_, ?_⟩⟩
    · show (J3 0 i ≤ 1 ∧ (J3 0 i = 0 → J3 1 i = 0)) ∧ M2 8 i = nI (J3 0 i) ∧ (J3 0 i = 1 → M2 10 i = nI (J3 1 i) ∧ ∀ k, k < 8 → k < J3 1 i → J3 1 i ≤ 8 → M2 11 (8 * i + k) = nI (J3 2 (8 * i + k)))
      obtain ⟨⟨s1, s1'⟩, s2, s3⟩ := p1 i hi
      rw [o8 8 (by omega) (by omega) (by omega), j0]
      by_cases z : w ∧ i = p
      · have z0 : J 0 i = 1 := by rw [z.2, hp]; exact i5
        rw [(j1 i).1 z, (o10 i).1 z]
        refine ⟨⟨s1, fun y => by omega⟩, s2, fun _ => ⟨rfl, fun k w1 w2 w3 => ?_⟩⟩
        have hip : i = p := z.2
        subst hip
        by_cases zk : k = J 1 i
        · rw [(o11 _).1 ⟨z.1, by omega, by omega⟩, (j2 _).1 ⟨z.1, by
            by_cases y : J 1 i < 7
            · rw [if_pos y]; omega
            · rw [if_neg y]; omega⟩]
        · rw [(o11 _).2 (fun y => zk (by omega)), (j2 _).2 (fun y => by
            have := y.2
            by_cases y : J 1 i < 7
            · rw [if_pos y] at this; omega
            · rw [if_neg y] at this; omega)]
          exact (s3 z0).2 k w1 (by omega) (by omega)
      · rw [(j1 i).2 z, (o10 i).2 z]
        refine ⟨⟨s1, s1'⟩, s2, fun y => ⟨(s3 y).1, fun k w1 w2 w3 => ?_⟩⟩
        rw [(o11 _).2 (fun y => z ⟨y.1, by omega⟩), (j2 _).2 (fun y => z ⟨y.1, by
          have := y.2
          by_cases y : J 1 p < 7
          · rw [if_pos y] at this; omega
          · rw [if_neg y] at this; omega⟩)]
        exact (s3 y).2 k w1 w2 w3
    · show J3 4 4 ≤ pl + 1
      by_cases z : v
      · rw [j44.1 z]; omega
      · rw [j44.2 z]; omega
    · show Dn tx c fl cl (M2 9) J3 B c.1 a
      rw [o8 9 (by omega) (by omega) (by omega)]
      exact Dn_J g5 (fun i => ⟨(j5 i).2.1, (j5 i).2.2, fun y => by rw [j0]; exact y⟩) j43 (fun d _ => (j5 d).1)
    · by_cases z : i = pl
      · subst z
        rw [htx]
        exact ⟨by omega, by omega, by simp [isOp]; omega, f0, ca0⟩
      · exact g6.2 i x (by omega)
    · show M2 7 7 = (if J3 4 2 = 0 then nI (J3 4 0) else -1)
      rw [j42, j40, o7.1, hp]; exact i1
    · show M2 7 8 = nI (J3 4 1)
      rw [j41]; exact o7.2.1
    · show J3 4 0 < 4
      omega
    · show J3 4 1 < 256
      rw [j41]; exact k3
    · show J3 0 (J3 4 0) = 1
      rw [j40, j0, hp]; exact i5
    · show J3 5 (J3 4 3) = a
      rw [j43, (j5 _).1]; exact l1
    · show J3 4 2 = 0 → J3 6 (J3 4 0) ≠ 1
      rw [j42, j40, (j5 _).2.1, hp]; exact l2
  · have es : sNames x t pl J = none := by simp [sNames, n219, hq]
    have e : b2i (isName t) = 0 := b2i_n hq
    rw [es]
    simp [e]
end HG
