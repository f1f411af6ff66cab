/-! THE REFERENCE'S READER: one step, as the list machine does it -/
theorem zbv_id (o : Option zMem) : zbv o (fun M => some M) = o := by cases o <;> rfl
/-- the numbers that a reading leaves, good or bad -/
def rG (M : zMem) : Prop := ∃ p o a, p < 4 ∧ o < 256 ∧ a ≤ 1 ∧ M 34 21 = nI p ∧ M 34 22 = nI o ∧ M 34 23 = nI a
theorem RP.rG {M : zMem} {ts : List Nat} {pl base : Nat} {S : zS} (h : RP M ts pl S base) : rG M := by
  obtain ⟨-, -, -, -, -, -, -, ⟨⟨a1, a2, a3, a4, a5, a6, a7⟩, -⟩, -⟩ := h
  exact ⟨_, _, _, a2, a4, a6, a1, a3, a5⟩
section RS
variable {M : zMem} {ts : List Nat} {pl base x : Nat} {l : List Nat} {P : List T} {J : zJ} {B : Nat → T}
/-- which of its methods the reference calls for the task x -/
def rDisp (M1 : zMem) (x t : Int32) : Option zMem :=
  if (200 : Int32) ≤ x then (if x < (20000 : Int32) then (if x < (1000 : Int32) then (zbi (F_R_isIn M1 x (219 : Int32) (221 : Int32)) fun r9 M7 => if r9 = 0 then (if x = (207 : Int32) then (zbv (F_R_readStatement M7 t) fun M26 => some M26) else (if x = (218 : Int32) then (zbv (F_R_readIf M7 t) fun M24 => some M24) else (if x = (214 : Int32) then (zbv (F_R_readFactor M7 t) fun M22 => some M22) else (zbi (F_R_isIn M7 x (215 : Int32) (217 : Int32)) fun r12 M10 => if r12 = 0 then (zbi (F_R_isIn M10 x (208 : Int32) (213 : Int32)) fun r15 M13 => if r15 = 0 then (zbv (F_R_readParts M13 x t) fun M16 => some M16) else (zbv (F_R_readExpression M13 x t) fun M18 => some M18)) else (zbv (F_R_readCall M10 x t) fun M20 => some M20))))) else (zbv (F_R_readNames M7 x t) fun M28 => some M28)) else (zbv (F_R_finishPart M1 (x / (1000 : Int32)) (x - x / (1000 : Int32) * (1000 : Int32))) fun M30 => some M30)) else (zbv (F_R_finishStatement M1 (x / (1000 : Int32)) (x - x / (1000 : Int32) * (1000 : Int32))) fun M32 => some M32)) else (if t = x then (F_R_step_p25 M1 ((0 : Int32))) else (F_R_step_p25 M1 ((1 : Int32))))
theorem rStep_disp (h : RP M ts pl (x :: l, P, J, B) base) (hl : l.length < 1600) : F_R_step M = rDisp (zup M 34 5 (nI l.length)) (nI x) (tv (tok ts pl)) := by
  obtain ⟨hR, h38⟩ := RP_pop h
  have h5 : M 34 5 = nI (l.length + 1) := h.2.2.2.2.1
  have y5 : zup M 34 5 (nI l.length) 34 5 = nI l.length := by simp [zup_ap]
  have y38 : zup M 34 5 (nI l.length) 38 l.length = nI x := by simp [zup_ap, h38]
  have lk := rLook hR.1 hR.2.1 hR.2.2.1
  unfold F_R_step rDisp
  rw [h5, show nI (l.length + 1) - 1 = nI l.length from nI_pred _, zset_eq, y5, zix_nI _ hl (by omega), lk, zbi_some, nI_clamp (by omega), y38]
theorem rDisp_tok {t : Int32} (hx : x < 200) : rDisp M (nI x) t = if t = nI x then F_R_step_p25 M 0 else F_R_step_p25 M 1 := by
  unfold rDisp
  rw [if_neg (show ¬ (200 : Int32) ≤ nI x from nI_ge (b := 200) hx (by omega))]
theorem rDisp_st {t : Int32} (hx : 20000 ≤ x) (hx2 : x < 100000) : rDisp M (nI x) t = F_R_finishStatement M (nI (x / 1000)) (nI (x % 1000)) := by
  unfold rDisp
  rw [if_pos (show (200 : Int32) ≤ nI x from nI_le (a := 200) (by omega) (by omega)), if_neg (show ¬ nI x < (20000 : Int32) from nI_nlt (b := 20000) hx (by omega)), zbv_id, show (1000 : Int32) = nI 1000 from rfl, pk_rem (by omega) (by omega) (by omega), pk_div (by omega) (by omega) (by omega)]
theorem rDisp_part {t : Int32} (hx : 1000 ≤ x) (hx2 : x < 20000) : rDisp M (nI x) t = F_R_finishPart M (nI (x / 1000)) (nI (x % 1000)) := by
  unfold rDisp
  rw [if_pos (show (200 : Int32) ≤ nI x from nI_le (a := 200) (by omega) (by omega)), if_pos (show nI x < (20000 : Int32) from nI_lt (b := 20000) hx2 (by omega)), if_neg (show ¬ nI x < (1000 : Int32) from nI_nlt (b := 1000) hx (by omega)), zbv_id, show (1000 : Int32) = nI 1000 from rfl, pk_rem (by omega) (by omega) (by omega), pk_div (by omega) (by omega) (by omega)]
theorem rDisp_read {t : Int32} (h1 : 200 ≤ x) (h2 : x < 1000) : rDisp M (nI x) t = if 219 ≤ x ∧ x ≤ 221 then F_R_readNames M (nI x) t else if x = 207 then F_R_readStatement M t else if x = 218 then F_R_readIf M t else if x = 214 then F_R_readFactor M t else if 215 ≤ x ∧ x ≤ 217 then F_R_readCall M (nI x) t else if 208 ≤ x ∧ x ≤ 213 then F_R_readExpression M (nI x) t else F_R_readParts M (nI x) t := by
  have i1 : F_R_isIn M (nI x) 219 221 = some (b2i (decide (219 ≤ x) && decide (x ≤ 221)), M) := rIsInN M (by omega) (lo := 219) (hi := 221) (by omega) (by omega)
  have i2 : F_R_isIn M (nI x) 215 217 = some (b2i (decide (215 ≤ x) && decide (x ≤ 217)), M) := rIsInN M (by omega) (lo := 215) (hi := 217) (by omega) (by omega)
  have i3 : F_R_isIn M (nI x) 208 213 = some (b2i (decide (208 ≤ x) && decide (x ≤ 213)), M) := rIsInN M (by omega) (lo := 208) (hi := 213) (by omega) (by omega)
  have e207 : (nI x = 207) ↔ x = 207 := nI_eq (b := 207) (by omega) (by omega)
  have e218 : (nI x = 218) ↔ x = 218 := nI_eq (b := 218) (by omega) (by omega)
  have e214 : (nI x = 214) ↔ x = 214 := nI_eq (b := 214) (by omega) (by omega)
  unfold rDisp
  rw [if_pos (show (200 : Int32) ≤ nI x from nI_le (a := 200) (by omega) (by omega)), if_pos (show nI x < (20000 : Int32) from nI_lt (b := 20000) (by omega) (by omega)), if_pos (show nI x < (1000 : Int32) from nI_lt (b := 1000) h2 (by omega)), i1, zbi_some]
  by_cases c1 : 219 ≤ x ∧ x ≤ 221
  · rw [if_pos c1, if_neg (b2i_1 (by simp; omega)), zbv_id]
  · rw [if_neg c1, if_pos ((b2i_0 _).mpr (by simp; omega))]
    by_cases c2 : x = 207
    · rw [if_pos c2, if_pos (e207.mpr c2), zbv_id]
    · rw [if_neg c2, if_neg (fun q => c2 (e207.mp q))]
      by_cases c3 : x = 218
      · rw [if_pos c3, if_pos (e218.mpr c3), zbv_id]
      · rw [if_neg c3, if_neg (fun q => c3 (e218.mp q))]
        by_cases c4 : x = 214
        · rw [if_pos c4, if_pos (e214.mpr c4), zbv_id]
        · rw [if_neg c4, if_neg (fun q => c4 (e214.mp q)), i2, zbi_some]
          by_cases c5 : 215 ≤ x ∧ x ≤ 217
          · rw [if_pos c5, if_neg (b2i_1 (by simp; omega)), zbv_id]
          · rw [if_neg c5, if_pos ((b2i_0 _).mpr (by simp; omega)), i3, zbi_some]
            by_cases c6 : 208 ≤ x ∧ x ≤ 213
            · rw [if_pos c6, if_neg (b2i_1 (by simp; omega)), zbv_id]
            · rw [if_neg c6, if_pos ((b2i_0 _).mpr (by simp; omega)), zbv_id]
/-- what a step needs of its state -/
def sPre (t pl x : Nat) (P : List T) (J : zJ) : Prop :=
  P.length ≤ 298 ∧ J 4 5 < 400 ∧ (x < 224 ∨ (1000 ≤ x ∧ x < 28000 ∧ sGood x P = true)) ∧ (x / 1000 = 2 ∨ x / 1000 = 3 → P.length = 1) ∧ (x / 1000 = 3 → J 4 3 < 30 ∧ J 4 3 < J 9 0 ∧ J 0 (J 4 0) = 1) ∧ (x = 219 → 0 < pl ∧ J 4 3 < 30) ∧ (x = 220 ∨ x = 221 → J 1 (J 4 0) < 150) ∧ (x = 215 → isProcName t = true) ∧ (x / 1000 = 2 → J 7 0 = 0)
/-- the reference's step does what the list machine's does -/
def rDoes (M : zMem) (ts : List Nat) (pl : Nat) : Option (zS × Bool) → Prop
  | some (S', a) => ∃ M' base', F_R_step M = some M' ∧ RP M' ts (if a then pl + 1 else pl) S' base'
  | none => ∃ M', F_R_step M = some M' ∧ M' 34 7 = 1 ∧ M' 34 6 = nI pl ∧ rTx M' ts ∧ rG M'
theorem rFailed {M1 : zMem} {S : zS} (h : RP M1 ts pl S base) : (zup M1 34 7 1) 34 7 = 1 ∧ (zup M1 34 7 1) 34 6 = nI pl ∧ rTx (zup M1 34 7 1) ts ∧ rG (zup M1 34 7 1) := ⟨by simp [zup_ap], by simp [zup_ap, h.2.1], rTx_keep (by funext i; simp [zup_ap]) (by simp [zup_ap]) h.1, by
  obtain ⟨p, o, a, r1, r2, r3, r4, r5, r6⟩ := RP.rG h
  exact ⟨p, o, a, r1, r2, r3, by simp [zup_ap, r4], by simp [zup_ap, r5], by simp [zup_ap, r6]⟩⟩
theorem rStepTok (h : RP M ts pl (x :: l, P, J, B) base) (hl : l.length < 1600) (hx : x < 200) : rDoes M ts pl (if tok ts pl = x then some ((l, P, J, B), true) else none) := by
  obtain ⟨hR, -⟩ := RP_pop h
  have ht := tok_lt h.1 pl
  have e := rStep_disp h hl
  rw [rDisp_tok hx] at e
  have h7 : zup M 34 5 (nI l.length) 34 7 = 0 := hR.2.2.2.1
  have h6 : zup M 34 5 (nI l.length) 34 6 = nI pl := hR.2.1
  by_cases c : tok ts pl = x
  · rw [if_pos c]
    have hin : pl < ts.length := tok_in (by omega)
    rw [if_pos ((tv_eq (by omega) (by omega)).mpr c)] at e
    refine ⟨_, base, ?_, RP_adv hR hin⟩
    rw [e]
    unfold F_R_step_p25 F_R_step_p37
    rw [zbit_0, zset_eq, zup_same h7, h7, if_pos rfl, zset_eq, h6, nI_1]
  · rw [if_neg c]
    rw [if_neg (fun q => c ((tv_eq (by omega) (by omega)).mp q))] at e
    have y7 : zup (zup M 34 5 (nI l.length)) 34 7 1 34 7 = 1 := by simp [zup_ap]
    refine ⟨zup (zup M 34 5 (nI l.length)) 34 7 1, ?_, rFailed hR⟩
    rw [e]
    unfold F_R_step_p25 F_R_step_p37
    rw [zbit_1, zset_eq, y7, if_neg (by decide), zset_eq, zup_same rfl]
theorem nd_same : jup J 4 5 (J 4 5) = J := by
  funext a i
  simp only [jup]
  by_cases c : a = 4 ∧ i = 5
  · rw [if_pos c, c.1, c.2]
  · rw [if_neg c]
end RS
