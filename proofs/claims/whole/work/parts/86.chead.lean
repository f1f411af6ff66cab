/-! THE CLASS READS A TEXT AS Z DOES: the heads of procs -/
theorem cBits : ∀ o, o < 256 → ∀ b, b < 8 → ((((nI o >>> (nI b &&& 31)) &&& 1 = 0) ↔ (o / 2 ^ b % 2 == 1) = false) ∧ (nI o ||| ((1 : Int32) <<< (nI b &&& 31))) = nI (o ||| 2 ^ b) ∧ (o ||| 2 ^ b) < 256) := by decide +kernel
section HE
variable {M M' : zMem} {c : zC} {fl : Nat → Int32} {cl : (Nat → Int32) × (Nat → Int32)} {ow : Int32} {tx : Nat → Nat} {N n len pl t nx : Nat} {J J' : zJ} {B : Nat → T}
theorem cK_head (h : cK M ([], c, [], fl, cl, ow)) (hs : ∀ a, a ≠ 7 → a ≠ 8 → a ≠ 9 → a ≠ 10 → a ≠ 11 → M' a = M a) : cK M' ([], c, [], fl, cl, M' 7 8) := by
  obtain ⟨h1, h2, h3, h4, ⟨h5, h6⟩, h7⟩ := h
  have q : ∀ a, (4 ≤ a ∧ a ≤ 6) ∨ 12 ≤ a → M' a = M a := fun a z => hs a (by omega) (by omega) (by omega) (by omega) (by omega)
  exact ⟨cPD_k (fun a _ _ => q a (by omega)) h1, cCD_k (fun a _ _ => q a (by omega)) h2, cOS_k (by rw [q 19 (by omega)]) (fun a _ _ => q a (by omega)) h3, (q 21 (by omega)).trans h4, ⟨(q 12 (by omega)).trans h5, (q 13 (by omega)).trans h6⟩, rfl⟩
theorem kR_head (hs : ∀ a, a ≠ 7 → a ≠ 8 → a ≠ 9 → a ≠ 10 → a ≠ 11 → M' a = M a) : kR M M' := ⟨fun a q => hs a (by omega) (by omega) (by omega) (by omega) (by omega), by rw [hs 14 (by omega) (by omega) (by omega) (by omega) (by omega)], by rw [hs 14 (by omega) (by omega) (by omega) (by omega) (by omega)]⟩
theorem cNoteF (h7 : M 7 9 = (if J 4 4 = 0 then -4 else nI (J 4 4 - 1))) (h4 : J 4 4 ≤ pl) (hp : pl < 150) : F_Proc_noteFault M (nI pl) = some (if J 4 4 = 0 then zup M 7 9 (nI pl) else M) := by
  unfold F_Proc_noteFault F_Proc_noteFault_p8
  rw [h7]
  by_cases q : J 4 4 = 0
  · rw [if_pos q, if_pos rfl, if_pos q, zset_eq]
  · have ne : ¬ nI (J 4 4 - 1) = (-4 : Int32) := by
      intro z
      have := congrArg Int32.toInt z
      rw [nI_toInt (by omega)] at this
      have : (-4 : Int32).toInt = -4 := by decide
      omega
    rw [if_neg q, if_neg ne, if_pos (nI_le (by omega) (by omega)), if_neg q]
/-- the end of a token of a head -/
theorem cHd {r : Int32} (hp : pl < len) (hl : len ≤ 150) (hn : nx ≤ 8) (h1 : M 1 pl = nI t) (e : F_Pars_acceptInHead M (nI nx) (nI t) (nI pl) = some (r, M')) : F_Pars_read_p10 N (n + 1) M (nI len) (nI nx) (nI pl) = F_Pars_read_p46 N (F_Pars_read_p10 N n) M' (nI len) (nI pl) r := by
  rw [F_Pars_read_p10, if_neg (nI_ge hp (by omega)), if_neg (show ¬ (150 : Int32) ≤ nI pl from nI_ge (b := 150) (by omega) (by omega)), zix_nI _ (by omega) (by omega), nI_clamp (by omega), h1, if_neg (show ¬ nI nx = (23 : Int32) from nIne (c := 23) (by omega) (by omega) (by omega))]
  unfold F_Pars_read_p32
  rw [if_neg (show ¬ (8 : Int32) < nI nx from nI_nlt (a := 8) (by omega) (by omega)), e, zbi_some]
theorem cGo {nx' : Nat} (h : nx' ≤ 24) : F_Pars_read_p46 N (F_Pars_read_p10 N n) M' (nI len) (nI pl) (nI nx') = F_Pars_read_p10 N n M' (nI len) (nI nx') (nI (pl + 1)) := by
  unfold F_Pars_read_p46
  have ne : ¬ nI nx' = (-1 : Int32) := by
    intro z
    have := congrArg Int32.toInt z
    rw [nI_toInt (by omega)] at this
    have : (-1 : Int32).toInt = -1 := by decide
    omega
  rw [if_neg ne, nI_1]
theorem cRef : F_Pars_read_p46 N (F_Pars_read_p10 N n) M' (nI len) (nI pl) (-1) = some (zup M' 14 1 (nI pl)) := by
  unfold F_Pars_read_p46
  rw [if_pos rfl, zset_eq]
theorem kR.refl (M : zMem) : kR M M := ⟨fun _ _ => rfl, rfl, rfl⟩
theorem accH (nx : Nat) (hn : nx ≤ 8) : F_Pars_acceptInHead M (nI nx) (nI t) (nI pl) =
    if nx = 0 then (if nI t = (170 : Int32) then (some ((1 : Int32), M)) else F_Pars_beginMain M (nI t))
    else if nx = 1 then F_Pars_beginProcedure M (nI t) (nI pl)
    else if nx = 2 then (if nI t = (122 : Int32) then (some ((3 : Int32), M)) else (some ((-1 : Int32), M)))
    else if nx = 3 then (if nI t = (123 : Int32) then (some ((6 : Int32), M)) else F_Pars_parameter M (nI t) (nI pl))
    else if nx = 4 then F_Pars_parameter M (nI t) (nI pl)
    else if nx = 5 then (if nI t = (124 : Int32) then (some ((4 : Int32), M)) else (if nI t = (123 : Int32) then (some ((6 : Int32), M)) else (some ((-1 : Int32), M))))
    else if nx = 6 then (if nI t = (172 : Int32) then (some ((7 : Int32), M)) else F_Pars_beginBody M (nI t))
    else if nx = 7 then F_Pars_local M (nI t) (nI pl)
    else (if nI t = (124 : Int32) then (some ((7 : Int32), M)) else F_Pars_beginBody M (nI t)) := by
  have z : ∀ (f : Option (Int32 × zMem)), zbi f (fun r M1 => some (r, M1)) = f := fun f => by cases f <;> rfl
  unfold F_Pars_acceptInHead
  simp only [z]
  rcases (show nx = 0 ∨ nx = 1 ∨ nx = 2 ∨ nx = 3 ∨ nx = 4 ∨ nx = 5 ∨ nx = 6 ∨ nx = 7 ∨ nx = 8 by omega) with rfl | rfl | rfl | rfl | rfl | rfl | rfl | rfl | rfl <;> rfl
/-- a token that only belongs to the head -/
theorem Hz_tok {nx nx' : Nat} (hpl : pl < 150) (htx : tx pl = t) (ht : t ≠ 171 ∧ t ≠ 121 ∧ isOp t = false) (h : Hz M tx pl (nx, [], [], J, B)) (h0 : nx' ≠ 0) (h1 : nx' = 1 → nx = 0) (h2 : 2 ≤ nx' → 2 ≤ nx) : Hz M tx (pl + 1) (nx', [], [], J, B) := by
  obtain ⟨c, fl, cl, ow, a, g1, g2, g3, g4, g5, g6, g7, g8, g9⟩ := h
  obtain ⟨f0, ca0⟩ := g3 pl (Nat.le_refl _) hpl
  refine ⟨c, fl, cl, ow, a, g1, by omega, fun i x y => g3 i (by omega) y, PRm_same g4 rfl rfl rfl rfl (fun i => ⟨rfl, rfl, rfl⟩) rfl (by omega), g5, ⟨by have := g6.1; omega, fun i x y => ?_⟩, fun q => absurd q h0, fun q => ?_, fun q => g9 (h2 q)⟩
  · by_cases z : i = pl
    · subst z
      rw [htx]
      exact ⟨ht.1, ht.2.1, ht.2.2, f0, ca0⟩
    · exact g6.2 i x (by omega)
  · have := g7 (h1 q)
    show pl + 1 = a + 1
    omega
theorem Cz_h {z : zZ} (h8 : z.1 ≤ 8) (hn : zNil z) (h : Hz M tx pl z) : Cz M tx pl z := by
  refine ⟨hn, ?_⟩
  rw [if_neg (by omega), if_pos h8]
  exact h
theorem zNil_h {z : zZ} (h8 : z.1 ≤ 9) : zNil z := ⟨fun q => by omega, fun q => by omega⟩
end HE
