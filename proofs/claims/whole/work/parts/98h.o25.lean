section CE
variable {M0 M : zMem} {L R L' R' : Nat → Int32} {s s' : zE} {d pc : Nat} {vs : List Int32} {c : zC}
theorem cM_LR (h : cM M0 M L R s d pc vs) (hl : ∀ i, i < 8 * d → L' i = L i) (hr : ∀ i, i ≤ d → R' i = R i) : cM M0 M L' R' s d pc vs := by
  obtain ⟨a, b, c1, c2, c3, c4, c5⟩ := h
  exact ⟨a, b, c1, c2, fun i hi => by rw [hl i hi]; exact c3 i hi, fun i hi => by rw [hr i hi]; exact c4 i hi, c5⟩
/-- states that say the same -/
theorem cM_ext (h : cM M0 M L R s d pc vs) (h1 : ∀ a i, a ≠ 2 ∨ i < 8 → s'.1 a i = s.1 a i) (h2 : s'.2 = s.2) : cM M0 M L R s' d pc vs := by
  obtain ⟨⟨a1, a2, a3, a4⟩, b, c1, c2, c3⟩ := h
  refine ⟨⟨fun i hi => ?_, fun i hi => ?_, fun i hi => ?_, ?_⟩, b, c1, fun i hi => ?_, c3⟩
  · rw [h1 0 i (Or.inl (by omega))]; exact a1 i hi
  · rw [h1 1 i (Or.inl (by omega))]; exact a2 i hi
  · rw [h1 4 i (Or.inl (by omega))]; exact a3 i (by rw [h2] at hi; exact hi)
  · rw [h2]; exact a4
  · rw [h1 2 i (Or.inr hi)]; exact c2 i hi
def cLn (L : Nat → Int32) (s : zE) (d i : Nat) : Int32 := if i < 8 * d then L i else s.1 2 (i - 8 * d)
def cRn (R : Nat → Int32) (d pc i : Nat) : Int32 := if i = d + 1 then nI pc else R i
/-- a call with arguments l, the last one on top -/
theorem o25 {J : zJ} {p e : Nat} {l : List Int32} (hc : cCD M0 c) (h : cM M0 M L R s d pc (l ++ vs)) (hp : pc < c.1) (hv : (l ++ vs).length ≤ 2048) (ho : c.2.1 pc = 25) (hd : c.2.2 pc = nI p) (hp4 : p < 4) (hd20 : d ≤ 20)
    (h10 : M0 10 p = nI l.length) (hl8 : l.length ≤ 8) (h11 : ∀ i, i < l.length → M0 11 (8 * p + i) = nI (J 2 (8 * p + i))) (hJ8 : ∀ i, J 2 i < 8) (hdi : ∀ i j, i < j → j < l.length → J 2 (8 * p + i) ≠ J 2 (8 * p + j)) (h9 : M0 9 p = nI e) :
    (s.2.1 = 300 → ∃ M', cS M M' 1 ∧ cX M0 M' s 1) ∧ (¬ s.2.1 = 300 → d = 20 → ∃ M', cS M M' 1 ∧ cX M0 M' (vTurn s) 2) ∧ (¬ s.2.1 = 300 → ¬ d = 20 → ∃ M', cS M M' 1 ∧ cM M0 M' (cLn L s d) (cRn R d (pc + 1)) (vIn (vTurn s) (vPar J p 0 l.reverse (fun _ => 0)) (d + 1)) (d + 1) e vs) := by
  obtain ⟨M7, h1, h2⟩ := oGo (n := 25) hc h hp ho (by omega) (by omega)
  have pre : ∀ N, F_Mach_go N M7 (nI 25) (c.2.2 pc) = F_Mach_call N M7 (nI p) := fun N => by
    unfold F_Mach_go
    rw [if_neg (show ¬ nI 25 = 20 by decide), if_neg (show ¬ nI 25 = 21 by decide), if_neg (show ¬ nI 25 = 22 by decide), if_neg (show ¬ nI 25 = 23 by decide), if_neg (show ¬ nI 25 = 24 by decide), if_pos (show nI 25 = 25 from rfl), hd, zbv_id]
  obtain ⟨t1, t2⟩ := cTurn h1
  refine ⟨fun q => ?_, fun q q2 => ?_, fun q q2 => ?_⟩
  · obtain ⟨M', e1, e2⟩ := t1 q
    refine ⟨M', h2 M' fun N _ => ?_, e2⟩
    rw [pre]
    unfold F_Mach_call
    rw [e1, zbv_some, if_pos e2.2.2.1]
  · obtain ⟨M8, e1, e2⟩ := t2 q
    obtain ⟨M', e3, e4⟩ := cFinish e2 2
    refine ⟨M', h2 M' fun N _ => ?_, e4⟩
    rw [pre]
    unfold F_Mach_call F_Mach_call_p13
    rw [e1, zbv_some, e2.2.1.2.2, if_neg (by decide), e2.2.1.1, if_neg (nI_pos (by omega)), if_neg (show ¬ nI d < (20 : Int32) from nI_nlt (b := 20) (by omega) (by omega)), show F_Mach_finish M8 (2 : Int32) = some M' from e3, zbv_some]
  · obtain ⟨M8, e1, e2⟩ := t2 q
    obtain ⟨⟨a1, a2, a3, a4, a5, a6, a7, a8, a9⟩, ⟨b1, b2, b3⟩, ⟨b4, b5⟩, g1, g2, g3, f1, f2⟩ := e2
    let mx : Nat := if s.2.2.1 < d + 1 then d + 1 else s.2.2.1
    have hmx : mx ≤ 20 := by
      show (if s.2.2.1 < d + 1 then d + 1 else s.2.2.1) ≤ 20
      have : s.2.2.1 ≤ 20 := a9
      split <;> omega
    let s1 : zE := ((fun a i => if a = 2 then M8 32 (8 * (d + 1) + i) else s.1 a i), (vTurn s).2.1, mx, s.2.2.2)
    let M9 : zMem := zup (zup (zup M8 27 14 (nI (d + 1))) 27 5 (nI mx)) 33 (d + 1) (nI (pc + 1))
    have k9 : ∀ a, a ≠ 27 → a ≠ 33 → M9 a = M8 a := fun a q1 q2 => by
      show zup (zup (zup M8 27 14 (nI (d + 1))) 27 5 (nI mx)) 33 (d + 1) (nI (pc + 1)) a = _
      rw [zup_ne q2, zup_ne q1, zup_ne q1]
    have k27 : ∀ j, j ≠ 14 → j ≠ 5 → M9 27 j = M8 27 j := fun j q1 q2 => by
      show zup (zup (zup M8 27 14 (nI (d + 1))) 27 5 (nI mx)) 33 (d + 1) (nI (pc + 1)) 27 j = _
      rw [zup_ne (by omega), z27 q2, z27 q1]
    have k14 : M9 27 14 = nI (d + 1) := by
      show zup (zup (zup M8 27 14 (nI (d + 1))) 27 5 (nI mx)) 33 (d + 1) (nI (pc + 1)) 27 14 = _
      rw [zup_ne (by omega), z27 (by omega), zup_self, pk_us]
    have k5 : M9 27 5 = nI mx := by
      show zup (zup (zup M8 27 14 (nI (d + 1))) 27 5 (nI mx)) 33 (d + 1) (nI (pc + 1)) 27 5 = _
      rw [zup_ne (by omega), zup_self, pk_us]
    have m9 : cM M0 M9 (cLn L s d) (cRn R d (pc + 1)) s1 (d + 1) (pc + 1) (l ++ vs) := by
      refine ⟨⟨fun i hi => ?_, fun i hi => ?_, fun i hi => ?_, ?_, ?_, ?_, a7, a8, hmx⟩, ⟨k14, ?_, ?_⟩, ⟨?_, cSk_same (fun i _ => ?_) b5⟩, fun i hi => ?_, fun i hi => ?_, fun i hi => ?_, fun a ha => ?_, ?_⟩
      · rw [k9 28 (by omega) (by omega)]; exact a1 i hi
      · rw [k9 29 (by omega) (by omega)]; exact a2 i hi
      · rw [k9 30 (by omega) (by omega)]; exact a3 i hi
      · rw [k27 3 (by omega) (by omega)]; exact a4
      · rw [k27 4 (by omega) (by omega)]; exact a5
      · exact k5
      · rw [k27 15 (by omega) (by omega)]; exact b2
      · rw [k27 16 (by omega) (by omega)]; exact b3
      · rw [k27 13 (by omega) (by omega)]; exact b4
      · rw [k9 31 (by omega) (by omega)]
      · rw [k9 32 (by omega) (by omega)]; rfl
      · rw [k9 32 (by omega) (by omega)]
        unfold cLn
        by_cases z : i < 8 * d
        · rw [if_pos z]; exact g2 i z
        · rw [if_neg z]
          have := g1 (i - 8 * d) (by omega)
          rw [show 8 * d + (i - 8 * d) = i by omega] at this
          exact this
      · show zup (zup (zup M8 27 14 (nI (d + 1))) 27 5 (nI mx)) 33 (d + 1) (nI (pc + 1)) 33 i = _
        unfold cRn
        rw [zup_ap, if_pos rfl]
        by_cases z : i = d + 1
        · rw [if_pos z, if_pos z]
        · rw [if_neg z, if_neg z, zup_ne (by omega), zup_ne (by omega)]; exact g3 i (by omega)
      · rw [k9 a (by omega) (by omega)]; exact f1 a ha
      · rw [k27 7 (by omega) (by omega)]; exact f2
    obtain ⟨M10, s2, c1, c2, c3, c4, c5⟩ := cZero (by omega) 8 0 M9 s1 rfl m9 (fun j hj => by omega)
    obtain ⟨M11, s3, d1, d2, d3, d4, d5⟩ := cArgs (by omega) hp4 hl8 h11 (fun i => hJ8 _) l M10 s2 (Nat.le_refl _) c2 hv
    refine ⟨zup M11 27 15 (nI e), h2 _ fun N hN => ?_, cM_ext (cM_pc d2 e) (fun a i z => ?_) ?_⟩
    · rw [pre]
      unfold F_Mach_call
      have e14 : zup M8 27 14 (nI (d + 1)) 27 14 = nI (d + 1) := by rw [zup_self, pk_us]
      have e5 : zup M8 27 14 (nI (d + 1)) 27 5 = nI s.2.2.1 := by rw [z27 (by omega)]; exact a6
      have emx : (if nI s.2.2.1 < nI (d + 1) then nI (d + 1) else nI s.2.2.1) = nI mx := by
        show _ = nI (if s.2.2.1 < d + 1 then d + 1 else s.2.2.1)
        have : s.2.2.1 ≤ 20 := a9
        by_cases z : s.2.2.1 < d + 1
        · rw [if_pos (nI_lt z (by omega)), if_pos z]
        · rw [if_neg (nI_nlt (by omega) (by omega)), if_neg z]
      have e14' : zup (zup M8 27 14 (nI (d + 1))) 27 5 (nI mx) 27 14 = nI (d + 1) := by rw [z27 (by omega), zup_self, pk_us]
      have e15' : zup (zup M8 27 14 (nI (d + 1))) 27 5 (nI mx) 27 15 = nI (pc + 1) := by rw [z27 (by omega), z27 (by omega)]; exact b2
      rw [e1, zbv_some, b3, if_neg (by decide), b1, if_neg (nI_pos (by omega)), if_pos (show nI d < (20 : Int32) from nI_lt (b := 20) (by omega) (by omega)), nI_1, zset_eq, e14, e5, emx, zset_eq, e14', e15', zix_nI _ (by omega) (by omega), nI_clamp (by omega), zset_eq]
      show F_Mach_call_p39 N N M9 (nI p) (nI 0) = _
      rw [c1 N N (nI p) (by omega)]
      obtain ⟨n, rfl⟩ : ∃ n, N = n + 20 := ⟨N - 20, by omega⟩
      rw [show n + 20 - 8 = (n + 11) + 1 by omega, F_Mach_call_p39, if_pos (show (8 : Int32) ≤ nI 8 by decide)]
      have ec : F_Proc_parameterCount M10 (nI p) = some (nI l.length, M10) := by
        unfold F_Proc_parameterCount
        rw [if_neg (nI_pos (by omega)), if_neg (show ¬ (4 : Int32) ≤ nI p from nI_ge (b := 4) hp4 (by omega)), zix_nI _ hp4 (by omega), nI_clamp (by omega), c2.2.2.2.2.2.2.1 10 (by omega), h10, if_neg (show ¬ (8 : Int32) < nI l.length from nI_nlt (a := 8) (by omega) (by omega))]
      rw [ec, zbi_some, d1 (n + 20) (n + 20) (by omega)]
      have ee : F_Proc_entry M11 (nI p) = some (nI e, M11) := by
        unfold F_Proc_entry
        rw [if_neg (nI_pos (by omega)), if_neg (show ¬ (4 : Int32) ≤ nI p from nI_ge (b := 4) hp4 (by omega)), zix_nI _ hp4 (by omega), nI_clamp (by omega), d2.2.2.2.2.2.2.1 9 (by omega), h9]
      rw [ee, zbi_some, zset_eq]
    · show (if a = 2 then vPar J p 0 l.reverse (fun _ => 0) i else s.1 a i) = s3.1 a i
      by_cases w : a = 2
      · rw [if_pos w, w, d3, vDn_par hdi l _ (Nat.le_refl _)]
        exact vPar_ext J p _ 0 _ _ 8 (fun j hj => (c3 j hj).symm) i (by omega)
      · rw [if_neg w, d4 a w, c4 a w]
        show _ = if a = 2 then _ else _
        rw [if_neg w]
    · rw [d5, c5]; rfl
end CE
