/-! THE CLASS'S MACHINE: its state against a state of the trees' run -/
def cDt (M : zMem) (s : zE) : Prop := (∀ i, i < 8 → M 28 i = s.1 0 i) ∧ (∀ i, i < 16 → M 29 i = s.1 1 i) ∧ (∀ i, i < s.2.2.2 → M 30 i = s.1 4 i) ∧ M 27 3 = nI s.2.2.2 ∧ M 27 4 = nI s.2.1 ∧ M 27 5 = nI s.2.2.1 ∧ s.2.2.2 ≤ 20 ∧ s.2.1 ≤ 300 ∧ s.2.2.1 ≤ 20
def cSk (M : zMem) : List Int32 → Prop
  | [] => True
  | v :: r => M 31 r.length = v ∧ cSk M r
def cFr (M0 M : zMem) : Prop := (∀ a, a < 27 ∨ 33 < a → M a = M0 a) ∧ M 27 7 = M0 27 7
def cM (M0 M : zMem) (L R : Nat → Int32) (s : zE) (d pc : Nat) (vs : List Int32) : Prop :=
  cDt M s ∧ (M 27 14 = nI d ∧ M 27 15 = nI pc ∧ M 27 16 = 1) ∧ (M 27 13 = nI vs.length ∧ cSk M vs) ∧ (∀ i, i < 8 → M 32 (8 * d + i) = s.1 2 i) ∧ (∀ i, i < 8 * d → M 32 i = L i) ∧ (∀ i, i ≤ d → M 33 i = R i) ∧ cFr M0 M
theorem cSk_same {M M' : zMem} : ∀ {vs : List Int32}, (∀ i, i < vs.length → M' 31 i = M 31 i) → cSk M vs → cSk M' vs
  | [], _, _ => trivial
  | v :: r, h, g => ⟨by rw [h r.length (by simp)]; exact g.1, cSk_same (fun i hi => h i (by simp; omega)) g.2⟩
def cS (M M' : zMem) (k : Nat) : Prop := ∀ N n j, 20 ≤ N → j + k ≤ 1000000 → F_Mach_execute_p75 N (n + k) M (nI j) = F_Mach_execute_p75 N n M' (nI (j + k))
theorem cS_refl (M : zMem) : cS M M 0 := fun N n j _ _ => rfl
theorem cS_trans {M M1 M2 : zMem} {k l : Nat} (h : cS M M1 k) (g : cS M1 M2 l) : cS M M2 (k + l) := fun N n j hN hj => by
  rw [show n + (k + l) = (n + l) + k by omega, h N (n + l) j hN (by omega), g N n (j + k) hN (by omega), show j + k + l = j + (k + l) by omega]
theorem cS_1 {M M' : zMem} (h16 : M 27 16 = 1) (h : ∀ N, 20 ≤ N → F_Mach_step N M = some M') : cS M M' 1 := fun N n j hN hj => by
  rw [F_Mach_execute_p75, if_neg (show ¬ (1000000 : Int32) ≤ nI j from nI_ge (b := 1000000) (by omega) (by omega)), h16, if_neg (by decide), h N hN, zbv_some, nI_1]
section CM
variable {M0 M M' : zMem} {L R : Nat → Int32} {s s' : zE} {d pc pc' : Nat} {vs vs' : List Int32} {v : Int32}
/-- operands alone changed -/
theorem cM_vs (h : cM M0 M L R s d pc vs) (hk : ∀ a j, a ≠ 31 → ¬ (a = 27 ∧ j = 13) → M' a j = M a j) (h13 : M' 27 13 = nI vs'.length) (hs : cSk M' vs') : cM M0 M' L R s d pc vs' := by
  obtain ⟨⟨a1, a2, a3, a4, a5, a6, a7⟩, ⟨b1, b2, b3⟩, -, c1, c2, c3, f1, f2⟩ := h
  refine ⟨⟨fun i hi => ?_, fun i hi => ?_, fun i hi => ?_, ?_, ?_, ?_, a7⟩, ⟨?_, ?_, ?_⟩, ⟨h13, hs⟩, fun i hi => ?_, fun i hi => ?_, fun i hi => ?_, fun a ha => ?_, ?_⟩
  · rw [hk 28 i (by omega) (by omega)]; exact a1 i hi
  · rw [hk 29 i (by omega) (by omega)]; exact a2 i hi
  · rw [hk 30 i (by omega) (by omega)]; exact a3 i hi
  · rw [hk 27 3 (by omega) (by omega)]; exact a4
  · rw [hk 27 4 (by omega) (by omega)]; exact a5
  · rw [hk 27 5 (by omega) (by omega)]; exact a6
  · rw [hk 27 14 (by omega) (by omega)]; exact b1
  · rw [hk 27 15 (by omega) (by omega)]; exact b2
  · rw [hk 27 16 (by omega) (by omega)]; exact b3
  · rw [hk 32 _ (by omega) (by omega)]; exact c1 i hi
  · rw [hk 32 _ (by omega) (by omega)]; exact c2 i hi
  · rw [hk 33 _ (by omega) (by omega)]; exact c3 i hi
  · rw [← f1 a ha]; funext j; exact hk a j (by omega) (by omega)
  · rw [hk 27 7 (by omega) (by omega)]; exact f2
/-- the place, or what the run holds, changed: all else of the machine stays -/
theorem cM_s (h : cM M0 M L R s d pc vs) (hd : cDt M' s') (hk : ∀ j, j = 14 ∨ j = 16 ∨ j = 13 ∨ j = 7 → M' 27 j = M 27 j) (h15 : M' 27 15 = nI pc') (h31 : M' 31 = M 31) (h32 : ∀ i, i < 8 → M' 32 (8 * d + i) = s'.1 2 i) (hl : ∀ i, i < 8 * d → M' 32 i = M 32 i) (h33 : M' 33 = M 33) (hf : ∀ a, a < 27 ∨ 33 < a → M' a = M a) : cM M0 M' L R s' d pc' vs := by
  obtain ⟨-, ⟨b1, b2, b3⟩, ⟨b4, b5⟩, c1, c2, c3, f1, f2⟩ := h
  refine ⟨hd, ⟨by rw [hk 14 (by omega)]; exact b1, h15, by rw [hk 16 (by omega)]; exact b3⟩, ⟨by rw [hk 13 (by omega)]; exact b4, cSk_same (fun i _ => by rw [h31]) b5⟩, h32, fun i hi => by rw [hl i hi]; exact c2 i hi, fun i hi => by rw [h33]; exact c3 i hi, fun a ha => by rw [hf a ha]; exact f1 a ha, by rw [hk 7 (by omega)]; exact f2⟩
theorem z27 {j i : Nat} {w : Int32} (h : j ≠ i) : zup M 27 i w 27 j = M 27 j := by rw [zup_ap, if_pos rfl, if_neg h]
theorem cM_pc (h : cM M0 M L R s d pc vs) (p : Nat) : cM M0 (zup M 27 15 (nI p)) L R s d p vs := by
  obtain ⟨a1, a2, a3, a4, a5, a6, a7⟩ := h.1
  have c1 := h.2.2.2.1
  exact cM_s h ⟨fun i hi => by rw [zup_ne (by omega)]; exact a1 i hi, fun i hi => by rw [zup_ne (by omega)]; exact a2 i hi, fun i hi => by rw [zup_ne (by omega)]; exact a3 i hi, by rw [z27 (by omega)]; exact a4, by rw [z27 (by omega)]; exact a5, by rw [z27 (by omega)]; exact a6, a7⟩ (fun j hj => z27 (by omega)) (by rw [zup_self, pk_us]) (zup_ne (by omega)) (fun i hi => by rw [zup_ne (by omega)]; exact c1 i hi) (fun i hi => by rw [zup_ne (by omega)]) (zup_ne (by omega)) (fun a ha => zup_ne (by omega))
theorem mPush (h : cM M0 M L R s d pc vs) (hv : vs.length < 2048) (v : Int32) : ∃ M', F_Mach_push M v = some M' ∧ cM M0 M' L R s d pc (v :: vs) := by
  have h13 := h.2.2.1.1
  refine ⟨zup (zup M 31 vs.length v) 27 13 (nI (vs.length + 1)), ?_, cM_vs h (fun a j q1 q2 => ?_) ?_ ⟨?_, cSk_same (fun i hi => ?_) h.2.2.1.2⟩⟩
  · unfold F_Mach_push
    have e : zup M 31 vs.length v 27 13 = nI vs.length := by rw [zup_ne (by omega)]; exact h13
    rw [h13, if_neg (nI_pos (by omega)), if_neg (show ¬ (2048 : Int32) ≤ nI vs.length from nI_ge (b := 2048) hv (by omega)), zix_nI _ hv (by omega), zset_eq, zset_eq, nI_clamp (by omega), e, nI_1]
  · rw [zup_ap]
    by_cases c : a = 27
    · rw [if_pos c, if_neg (fun y => q2 ⟨c, y⟩), zup_ne q1]
    · rw [if_neg c, zup_ne q1]
  · rw [zup_self, pk_us]; rfl
  · rw [zup_ne (by omega), zup_self, pk_us]
  · rw [zup_ne (by omega), zup_ap, if_pos rfl, if_neg (by omega)]
theorem mPop (h : cM M0 M L R s d pc (v :: vs)) (hv : vs.length < 2048) : ∃ M', F_Mach_pop M = some (v, M') ∧ cM M0 M' L R s d pc vs := by
  have h13 : M 27 13 = nI (vs.length + 1) := h.2.2.1.1
  refine ⟨zup M 27 13 (nI vs.length), ?_, cM_vs h (fun a j q1 q2 => ?_) ?_ (cSk_same (fun i hi => ?_) h.2.2.1.2.2)⟩
  · unfold F_Mach_pop
    have e : zup M 27 13 (nI vs.length) 27 13 = nI vs.length := by rw [zup_self, pk_us]
    rw [h13, if_neg (show ¬ nI (vs.length + 1) ≤ 0 from nI_ge (a := 0) (b := vs.length + 1) (by omega) (by omega)), if_pos (show nI (vs.length + 1) ≤ (2048 : Int32) from nI_le (b := 2048) (by omega) (by omega)), show nI (vs.length + 1) - 1 = nI vs.length from nI_pred _, zset_eq, e, zix_nI _ hv (by omega), nI_clamp (by omega), zup_ne (by omega), h.2.2.1.2.1]
  · rw [zup_ap]
    by_cases c : a = 27
    · rw [if_pos c, if_neg (fun y => q2 ⟨c, y⟩)]
    · rw [if_neg c]
  · rw [zup_self, pk_us]
  · rw [zup_ne (by omega)]
/-- the machine stands still with the ending k -/
def cX (M0 M : zMem) (s : zE) (k : Nat) : Prop := cDt M s ∧ M 27 6 = nI k ∧ M 27 16 = 0 ∧ cFr M0 M
theorem cFinish (h : cM M0 M L R s d pc vs) (k : Nat) : ∃ M', F_Mach_finish M (nI k) = some M' ∧ cX M0 M' s k := by
  obtain ⟨a1, a2, a3, a4, a5, a6, a7⟩ := h.1
  obtain ⟨f1, f2⟩ := h.2.2.2.2.2.2
  refine ⟨zup (zup M 27 6 (nI k)) 27 16 0, rfl, ⟨fun i hi => ?_, fun i hi => ?_, fun i hi => ?_, ?_, ?_, ?_, a7⟩, ?_, ?_, fun a ha => ?_, ?_⟩
  · rw [zup_ne (by omega), zup_ne (by omega)]; exact a1 i hi
  · rw [zup_ne (by omega), zup_ne (by omega)]; exact a2 i hi
  · rw [zup_ne (by omega), zup_ne (by omega)]; exact a3 i hi
  · rw [z27 (by omega), z27 (by omega)]; exact a4
  · rw [z27 (by omega), z27 (by omega)]; exact a5
  · rw [z27 (by omega), z27 (by omega)]; exact a6
  · rw [z27 (by omega), zup_self, pk_us]
  · rw [zup_self, pk_us]
  · rw [zup_ne (by omega), zup_ne (by omega)]; exact f1 a ha
  · rw [z27 (by omega), z27 (by omega)]; exact f2
/-- a turn -/
theorem cTurn (h : cM M0 M L R s d pc vs) : (s.2.1 = 300 → ∃ M', F_Mach_takeTurn M = some M' ∧ cX M0 M' s 1) ∧ (¬ s.2.1 = 300 → ∃ M', F_Mach_takeTurn M = some M' ∧ cM M0 M' L R (vTurn s) d pc vs) := by
  obtain ⟨a1, a2, a3, a4, a5, a6, a7, a8, a9⟩ := h.1
  constructor
  · intro q
    obtain ⟨M', e1, e2⟩ := cFinish h 1
    refine ⟨M', ?_, e2⟩
    unfold F_Mach_takeTurn
    rw [a5, if_neg (show ¬ nI s.2.1 < (300 : Int32) from nI_nlt (b := 300) (by omega) (by omega)), show F_Mach_finish M (1 : Int32) = some M' from e1, zbv_some]
  · intro q
    refine ⟨zup M 27 4 (nI (s.2.1 + 1)), ?_, cM_s h ⟨fun i hi => ?_, fun i hi => ?_, fun i hi => ?_, ?_, ?_, ?_, a7, ?_, a9⟩ (fun j hj => z27 (by omega)) ?_ (zup_ne (by omega)) (fun i hi => ?_) (fun i hi => ?_) (zup_ne (by omega)) (fun a ha => zup_ne (by omega))⟩
    · unfold F_Mach_takeTurn
      rw [a5, if_pos (show nI s.2.1 < (300 : Int32) from nI_lt (b := 300) (by omega) (by omega)), zset_eq, nI_1]
    · rw [zup_ne (by omega)]; exact a1 i hi
    · rw [zup_ne (by omega)]; exact a2 i hi
    · rw [zup_ne (by omega)]; exact a3 i hi
    · rw [z27 (by omega)]; exact a4
    · rw [zup_self, pk_us]; rfl
    · rw [z27 (by omega)]; exact a6
    · show s.2.1 + 1 ≤ 300; omega
    · rw [z27 (by omega)]; exact h.2.1.2.1
    · rw [zup_ne (by omega)]; exact h.2.2.2.1 i hi
    · rw [zup_ne (by omega)]
end CM
