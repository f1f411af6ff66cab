/-! THE CLASS READS A TEXT AS Z DOES: begins of bodies, names; a token of a head -/
section HF
variable {M M' : zMem} {c : zC} {fl : Nat → Int32} {cl : (Nat → Int32) × (Nat → Int32)} {ow : Int32} {tx : Nat → Nat} {N n len pl t nx a : Nat} {J J' : zJ} {B : Nat → T}
theorem Bz_new {k : Nat} (hk : k = 14 ∨ k = 15) (hpl : pl < 150) (htx : tx pl = 171) (g1 : cK M ([], c, [], fl, cl, ow)) (g2 : c.1 ≤ 2 * pl) (g3 : ∀ i, pl ≤ i → i < 150 → fl i = 0 ∧ cl.1 i = -1) (g4 : PRm M J pl) (g5 : Dn tx c fl cl (M 9) J B c.1 a) (hB : BC M tx J k c.1 pl a (c, fl, cl) ow) : ∃ M2, F_Pend_push M (nI k) 0 0 = some M2 ∧ Bz M2 tx (pl + 1) (9, [], [(k, 0, [.var 99])], ndn J 1, B) ∧ kR M M2 := by
  obtain ⟨f0, ca0⟩ := g3 pl (Nat.le_refl _) hpl
  obtain ⟨M2, e, k1, k2⟩ := cPush g1 (k := k) (by omega) 0 0
  have hkp : kPush k 0 0 ([] : List zPd) = [(k, 0, 0)] := rfl
  rw [hkp] at k1
  have m : ∀ a, a = 7 ∨ a = 8 ∨ a = 9 ∨ a = 10 ∨ a = 11 → M2 a = M a := fun a q => k2.1 a (by omega) (by omega) (by omega) (by omega) (by omega) (by omega) (by omega) (by omega) (by omega) (by omega) (by omega) (by omega) (by omega) (by omega)
  have hpi : pi1 k = 2 := by rcases hk with rfl | rfl <;> rfl
  have n0 : ∀ a i, ¬ (a = 4 ∧ i = 5) → ndn J 1 a i = J a i := fun a i q => ndn_o _ _ _ _ q
  refine ⟨M2, e, ⟨_, (c, fl, cl), c.1, pl, a, k1, ⟨⟨fun x => rfl, ?_, fun i x y => g3 i (by omega) y⟩, ?_⟩, ?_, ?_, ?_⟩, kR_of k2⟩
  · show c.1 + (pi1 k + 0) ≤ 2 * (pl + 1)
    omega
  · rw [if_neg (show ¬ (9 : Nat) = 23 by decide), if_pos rfl]
    have hlp : lp [(k, 0, [(.var 99 : T)])] = 0 := by rcases hk with rfl | rfl <;> rfl
    show Ly c fl cl (kOwn ow) tx c.1 pl (c, fl, cl) false [(k, 0, [.var 99])] [(k, 0, 0)] [] c.1 (pl + 1) (lp [(k, 0, [(.var 99 : T)])])
    rw [hlp]
    refine ⟨0, 0, [], [], c.1, pl, rfl, ⟨rfl, rfl, rfl, rfl, rfl, fun _ _ => ⟨rfl, rfl⟩, fun _ _ => ⟨rfl, rfl, rfl⟩⟩, ?_, ?_, ?_, ?_⟩
    · unfold osE; rw [if_neg (by omega)]
    · unfold Sg
      rw [if_neg (by omega), if_neg (by omega), if_neg (by omega), if_neg (by omega), if_neg (by omega), if_neg (by omega), if_neg (by omega), if_neg (by omega), if_neg (by omega), if_neg (by omega), if_neg (by omega)]
      exact ⟨_, rfl, by simp [Cm]⟩
    · unfold TS
      rw [if_neg (by omega)]
      have ew : pre (lp []) ++ wd false k 0 [(.var 99 : T)] = [171] := by rcases hk with rfl | rfl <;> rfl
      rw [ew]
      exact Fo_tok (p := 1) htx f0 (by omega) (by omega)
    · unfold CT
      rw [if_neg (by omega)]
      exact CaH_iff (CaH_one ca0) (fun q y => by rw [hasT_cons]; simp [hasT_0, hasC])
  · show PRm M2 (ndn J 1) (pl + 1)
    exact PRm_same g4 (by rw [m 7 (by omega)]) (m 8 (by omega)) (m 10 (by omega)) (m 11 (by omega)) (fun i => ⟨n0 _ _ (by omega), n0 _ _ (by omega), n0 _ _ (by omega)⟩) (n0 _ _ (by omega)) (by omega)
  · show Dn tx c fl cl (M2 9) (ndn J 1) B c.1 a
    rw [m 9 (by omega)]
    exact Dn_J g5 (fun p => ⟨n0 _ _ (by omega), n0 _ _ (by omega), fun q => by rw [n0 _ _ (by omega)]; exact q⟩) (n0 _ _ (by omega)) (fun d _ => n0 _ _ (by omega))
  · show BC M2 tx (ndn J 1) (bot [(k, 0, [(.var 99 : T)])]) c.1 pl a (c, fl, cl) ow
    have hbt : bot [(k, 0, [(.var 99 : T)])] = k := by simp [bot]
    rw [hbt]
    obtain ⟨t1, t2, hB⟩ := hB
    refine ⟨t1, t2, ?_⟩
    rcases hB with ⟨q0, q1, q2, q3, q4, q5⟩ | ⟨q0, q1, q2, q3⟩
    · refine Or.inl ⟨q0, ?_, ?_, ?_, ?_, q5⟩
      · obtain ⟨i1, i2, i3, i4, i5⟩ := q1
        unfold IPm
        rw [m 7 (by omega), n0 4 0 (by omega), n0 4 1 (by omega), n0 4 2 (by omega), n0 0 _ (by omega)]
        exact ⟨i1, i2, i3, i4, i5⟩
      · rw [m 9 (by omega), n0 4 0 (by omega), n0 4 2 (by omega), n0 6 _ (by omega)]
        exact q2
      · rw [n0 4 1 (by omega)]; exact q3
      · rw [n0 4 3 (by omega), n0 5 _ (by omega)]; exact q4
    · exact Or.inr ⟨q0, q1, by rw [m 7 (by omega)]; exact q2, q3⟩
theorem cMain (hpl : pl < 150) (htx : tx pl = t) (h : Hz M tx pl (0, [], [], J, B)) (q : t = 171) : ∃ M2, F_Pars_beginMain M (nI t) = some (nI 9, M2) ∧ Bz M2 tx (pl + 1) (9, [], [(15, 0, [.var 99])], ndn J 1, B) ∧ kR M M2 := by
  obtain ⟨c, fl, cl, ow, a, g1, g2, g3, g4, g5, g6, g7, g8, g9⟩ := h
  have ha : pl = a := g7 rfl
  subst ha
  have h42 : M 4 2 = nI c.1 := g1.2.1.1
  obtain ⟨M1, hM1⟩ : ∃ M1, M1 = zup (zup (zup M 7 7 (-1)) 7 8 0) 7 6 (nI c.1) := ⟨_, rfl⟩
  have o : ∀ a, a ≠ 7 → M1 a = M a := fun a z => by rw [hM1, zup_ne z, zup_ne z, zup_ne z]
  have v8 : M1 7 8 = 0 := by rw [hM1]; simp [zup_ap]
  have v6 : M1 7 6 = nI c.1 := by rw [hM1]; simp [zup_ap]
  have v9 : M1 7 9 = M 7 9 := by rw [hM1]; simp [zup_ap]
  have k0 := cK_head (M' := M1) g1 (fun a z _ _ _ _ => o a z)
  rw [v8] at k0
  obtain ⟨M2, e, b1, b2⟩ := Bz_new (k := 15) (a := pl) (J := J) (B := B) (Or.inr rfl) hpl (htx.trans q) k0 g2 g3 (PRm_same g4 v9 (o 8 (by omega)) (o 10 (by omega)) (o 11 (by omega)) (fun i => ⟨rfl, rfl, rfl⟩) rfl (Nat.le_refl _)) (by rw [o 9 (by omega)]; exact g5) ⟨htx.trans q, hpl, Or.inr ⟨rfl, rfl, v6, rfl⟩⟩
  refine ⟨M2, ?_, b1, (kR_head (fun a z _ _ _ _ => o a z)).trans b2⟩
  unfold F_Pars_beginMain F_Code_here F_Proc_beginMainBody
  rw [if_pos (show nI t = (171 : Int32) by rw [q]; rfl), zbi_some]
  simp only [zset_eq, zbv_some]
  rw [h42, ← hM1, show (15 : Int32) = nI 15 from rfl, e, zbv_some]
  rfl
theorem cBeg {nx : Nat} (hpl : pl < 150) (htx : tx pl = t) (hn : 2 ≤ nx) (h : Hz M tx pl (nx, [], [], J, B)) (q : t = 171) : ∃ M2, F_Pars_beginBody M (nI t) = some (nI 9, M2) ∧ Bz M2 tx (pl + 1) (9, [], [(14, 0, [.var 99])], ndn J 1, B) ∧ kR M M2 := by
  obtain ⟨c, fl, cl, ow, a, g1, g2, g3, g4, g5, g6, g7, g8, g9⟩ := h
  obtain ⟨⟨i1, i2, i3, i4, i5⟩, j1, j2⟩ := g9 hn
  have i1 : M 7 7 = (if J 4 2 = 0 then nI (J 4 0) else -1) := i1
  have i2 : M 7 8 = nI (J 4 1) := i2
  have i3 : J 4 0 < 4 := i3
  have j2 : J 4 2 = 0 → J 6 (J 4 0) ≠ 1 := j2
  have h42 : M 4 2 = nI c.1 := g1.2.1.1
  have how : ow = nI (J 4 1) := by have : M 7 8 = ow := g1.2.2.2.2.2; rw [← this]; exact i2
  obtain ⟨M1, hM1⟩ : ∃ M1, M1 = if J 4 2 = 0 then zup M 9 (J 4 0) (nI c.1) else M := ⟨_, rfl⟩
  have o : ∀ a, a ≠ 9 → M1 a = M a := fun a z => by
    rw [hM1]
    split
    · exact zup_ne z
    · rfl
  have e9 : ∀ p, J 6 p = 1 → M1 9 p = M 9 p := fun p z => by
    rw [hM1]
    split
    · rename_i c2
      have : p ≠ J 4 0 := fun w => j2 c2 (by rw [← w]; exact z)
      rw [zup_self, pk_un this]
    · rfl
  have k0 := cK_head (M' := M1) g1 (fun a _ _ z _ _ => o a z)
  have v8 : M1 7 8 = nI (J 4 1) := by rw [o 7 (by omega)]; exact i2
  rw [v8] at k0
  obtain ⟨M2, e, b1, b2⟩ := Bz_new (k := 14) (a := a) (J := J) (B := B) (Or.inl rfl) hpl (htx.trans q) k0 g2 g3 (PRm_same g4 (by rw [o 7 (by omega)]) (o 8 (by omega)) (o 10 (by omega)) (o 11 (by omega)) (fun i => ⟨rfl, rfl, rfl⟩) rfl (Nat.le_refl _)) (Dn_same (fun _ _ => ⟨rfl, rfl⟩) (fun _ _ => ⟨rfl, rfl, rfl⟩) (Nat.le_refl _) e9 g5) ⟨htx.trans q, hpl, Or.inl ⟨rfl, ⟨by rw [o 7 (by omega)]; exact i1, v8, i3, i4, i5⟩, fun z => ⟨by rw [hM1, if_pos z, zup_self, pk_us], j2 z⟩, rfl, j1, g6⟩⟩
  refine ⟨M2, ?_, b1, (kR_head (fun a _ _ z _ _ => o a z)).trans b2⟩
  have eb : F_Proc_beginBody M (nI c.1) = some M1 := by
    unfold F_Proc_beginBody
    rw [i1, hM1]
    by_cases c2 : J 4 2 = 0
    · rw [if_pos c2, if_pos c2, if_neg (nI_pos (by omega)), if_neg (show ¬ (4 : Int32) ≤ nI (J 4 0) from nI_ge (b := 4) i3 (by omega)), zix_nI _ i3 (by omega), zset_eq, nI_clamp (by omega)]
    · rw [if_neg c2, if_neg c2, if_pos (by decide)]
  unfold F_Pars_beginBody F_Code_here
  rw [if_pos (show nI t = (171 : Int32) by rw [q]; rfl), zbi_some, h42, eb, zbv_some, show (14 : Int32) = nI 14 from rfl, e, zbv_some]
  rfl
theorem cBegNo (ht : t < 1000) (q : ¬ t = 171) : F_Pars_beginBody M (nI t) = some (-1, M) ∧ F_Pars_beginMain M (nI t) = some (-1, M) := by
  have ne : ¬ nI t = (171 : Int32) := nIne (c := 171) ht (by omega) q
  exact ⟨if_neg ne, if_neg ne⟩
/-- the name of a proc -/
theorem cName (hpl : pl < 150) (htx : tx pl = t) (ht : t < 174) (h : Hz M tx pl (1, [], [], J, B)) : match sNames 219 t pl J with
    | none => F_Pars_beginProcedure M (nI t) (nI pl) = some (-1, M)
    | some J1 => ∃ M2, F_Pars_beginProcedure M (nI t) (nI pl) = some (nI 2, M2) ∧ Hz M2 tx (pl + 1) (2, [], [], J1, B) ∧ kR M M2 := by
  obtain ⟨c, fl, cl, ow, a, g1, g2, g3, ⟨p1, p2, p3⟩, g5, g6, g7, g8, g9⟩ := h
  have p2 : M 7 9 = (if J 4 4 = 0 then -4 else nI (J 4 4 - 1)) := p2
  have p3 : J 4 4 ≤ pl := p3
  have p1 : ∀ p, p < 4 → (J 0 p ≤ 1 ∧ (J 0 p = 0 → J 1 p = 0)) ∧ M 8 p = nI (J 0 p) ∧ (J 0 p = 1 → M 10 p = nI (J 1 p) ∧ ∀ i, i < 8 → i < J 1 p → J 1 p ≤ 8 → M 11 (8 * p + i) = nI (J 2 (8 * p + i))) := p1
  have g5 : Dn tx c fl cl (M 9) J B c.1 a := g5
  have ha : pl = a + 1 := g8 rfl
  obtain ⟨f0, ca0⟩ := g3 pl (Nat.le_refl _) hpl
  obtain ⟨M0, e0, -, -⟩ := cIsProc g1 (t := t) (by omega)
  have e0 : F_Tok_isProcedure M (nI t) = some (b2i (isProcName t), M) := by
    unfold F_Tok_isProcedure b2i isProcName
    by_cases q1 : t < 110
    · rw [if_pos (show nI t < (110 : Int32) from nI_lt (b := 110) (by omega) (by omega))]; simp [show ¬ 110 ≤ t by omega]
    · rw [if_neg (show ¬ nI t < (110 : Int32) from nI_nlt (b := 110) (by omega) (by omega))]
      by_cases q2 : t ≤ 113
      · rw [if_neg (show ¬ (113 : Int32) < nI t from nI_nlt (a := 113) (by omega) (by omega))]; simp [q2, show 110 ≤ t by omega]
      · rw [if_pos (show (113 : Int32) < nI t from nI_lt (a := 113) (by omega) (by omega))]; simp [q2]
  unfold F_Pars_beginProcedure
  rw [e0, zbi_some]
  by_cases hq : isProcName t = true
  · have hq' := hq
    simp only [isProcName, Bool.and_eq_true, decide_eq_true_eq] at hq'
    obtain ⟨p, hp⟩ : ∃ p, p = t - 110 := ⟨_, rfl⟩
    have hp4 : p < 4 := by omega
    have es : sNames 219 t pl J = some (sFault (jup (jup (jup (jup (jup (jup J 4 0 p) 4 2 (J 0 p)) 0 p 1) 4 1 0) 5 (J 4 3) (pl - 1)) 9 0 (J 4 3 + 1)) (J 0 p == 1) pl) := by
      simp only [sNames, if_true, hq]
      rw [← hp]
    rw [es, if_neg (b2i_p hq)]
    have etp : nI t - 110 = nI p := by rw [show (110 : Int32) = nI 110 from rfl, pk_sub hq'.1, hp]
    rw [etp]
    obtain ⟨⟨r1, r1'⟩, r2, r3⟩ := p1 p hp4
    have r1 : J 0 p ≤ 1 := r1
    -- the memory behind it
    obtain ⟨M1, hM1⟩ : ∃ M1, M1 = if J 0 p = 0 then zup (zup (zup (zup (zup M 7 7 (-1)) 7 8 0) 8 p 1) 10 p 0) 7 7 (nI p) else (if J 4 4 = 0 then zup (zup (zup M 7 7 (-1)) 7 8 0) 7 9 (nI pl) else zup (zup M 7 7 (-1)) 7 8 0) := ⟨_, rfl⟩
    have eF : F_Proc_beginProcedure M (nI p) (nI pl) = some M1 := by
      unfold F_Proc_beginProcedure
      simp only [zset_eq]
      have e8 : zup (zup M 7 7 (-1)) 7 8 0 8 p = nI (J 0 p) := by rw [zup_ne (by omega), zup_ne (by omega)]; exact r2
      rw [if_neg (nI_pos (by omega)), if_pos (show nI p < (4 : Int32) from nI_lt (b := 4) hp4 (by omega)), zix_nI _ hp4 (by omega), zix_nI _ hp4 (by omega), zix_nI _ hp4 (by omega), nI_clamp (by omega), e8, hM1]
      by_cases z : J 0 p = 0
      · rw [if_pos z, if_pos (by rw [z]; rfl)]
      · rw [if_neg z, if_neg (nI_ne0 (by omega) (by omega))]
        have e9 : zup (zup M 7 7 (-1)) 7 8 0 7 9 = (if J 4 4 = 0 then -4 else nI (J 4 4 - 1)) := by simp [zup_ap]; exact p2
        rw [cNoteF (J := J) e9 p3 hpl, zbv_some]
    rw [eF, zbv_some]
    refine ⟨M1, rfl, ?_, ?_⟩
    · have oM : ∀ a, a ≠ 7 → a ≠ 8 → a ≠ 10 → M1 a = M a := fun a z1 z2 z3 => by
        rw [hM1]
        repeat' split
        all_goals simp only [zup_ne z1, zup_ne z2, zup_ne z3]
      have k0 := cK_head (M' := M1) g1 (fun a z1 z2 _ z4 _ => oM a z1 z2 z4)
      -- the numbers behind it
      obtain ⟨J1, hJ1⟩ : ∃ J1, J1 = sFault (jup (jup (jup (jup (jup (jup J 4 0 p) 4 2 (J 0 p)) 0 p 1) 4 1 0) 5 (J 4 3) (pl - 1)) 9 0 (J 4 3 + 1)) (J 0 p == 1) pl := ⟨_, rfl⟩
      rw [← hJ1]
      have hJ : J1 4 0 = p ∧ J1 4 2 = J 0 p ∧ J1 4 1 = 0 ∧ J1 4 3 = J 4 3 ∧ (∀ i, J1 0 i = if i = p then 1 else J 0 i) ∧ (∀ i, J1 1 i = J 1 i ∧ J1 2 i = J 2 i ∧ J1 6 i = J 6 i ∧ J1 3 i = J 3 i) ∧ (∀ i, J1 5 i = if i = J 4 3 then pl - 1 else J 5 i) ∧ J1 4 4 = (if J 0 p = 1 ∧ J 4 4 = 0 then pl + 1 else J 4 4) := by
        rw [hJ1]
        unfold sFault
        by_cases z : J 0 p = 1
        · by_cases z4 : J 4 4 = 0
          · simp [jup, z, z4]
          · simp [jup, z, z4]
        · simp [jup, z]
      obtain ⟨j1, j2, j3, j4, j5, j6, j7, j8⟩ := hJ
      refine ⟨c, fl, cl, M1 7 8, a, k0, by omega, fun i x y => g3 i (by omega) y, ⟨fun i hi => ?_, ?_, ?_⟩, ?_, ⟨by omega, fun i x y => ?_⟩, fun z => absurd z (show ¬ (2 : Nat) = 0 by decide), fun z => absurd z (show ¬ (2 : Nat) = 1 by decide), fun _ => ⟨⟨?_, ?_, ?_, ?_, ?_⟩, ?_, ?_⟩⟩
      · show (J1 0 i ≤ 1 ∧ (J1 0 i = 0 → J1 1 i = 0)) ∧ M1 8 i = nI (J1 0 i) ∧ (J1 0 i = 1 → M1 10 i = nI (J1 1 i) ∧ ∀ k, k < 8 → k < J1 1 i → J1 1 i ≤ 8 → M1 11 (8 * i + k) = nI (J1 2 (8 * i + k)))
        obtain ⟨⟨s1, s1'⟩, s2, s3⟩ := p1 i hi
        have s2 : M 8 i = nI (J 0 i) := s2
        rw [oM 11 (by omega) (by omega) (by omega), j5, (j6 i).1]
        by_cases z : i = p
        · subst z
          rw [if_pos rfl]
          refine ⟨⟨by omega, fun w => by omega⟩, ?_, fun _ => ?_⟩
          · rw [hM1]
            by_cases w : J 0 i = 0
            · rw [if_pos w]; simp [zup_ap]; rfl
            · rw [if_neg w]
              have e8 : M 8 i = nI 1 := by rw [s2, show J 0 i = 1 by omega]
              split
              · rw [zup_ne (by omega), zup_ne (by omega), zup_ne (by omega)]; exact e8
              · rw [zup_ne (by omega), zup_ne (by omega)]; exact e8
          · by_cases w : J 0 i = 0
            · have z1 := s1' w
              refine ⟨?_, fun k _ w2 => by rw [z1] at w2; omega⟩
              rw [hM1, if_pos w, z1]; simp [zup_ap]; rfl
            · obtain ⟨y1, y2⟩ := s3 (by omega)
              refine ⟨?_, fun k w1 w2 w3 => by rw [(j6 _).2.1]; exact y2 k w1 w2 w3⟩
              rw [hM1, if_neg w]
              split
              · rw [zup_ne (by omega), zup_ne (by omega), zup_ne (by omega)]; exact y1
              · rw [zup_ne (by omega), zup_ne (by omega)]; exact y1
        · rw [if_neg z]
          have e8 : M1 8 i = M 8 i := by
            rw [hM1]
            repeat' split
            · simp [zup_ap, z]
            · simp [zup_ap]
            · simp [zup_ap]
          have e10 : M1 10 i = M 10 i := by
            rw [hM1]
            repeat' split
            · simp [zup_ap, z]
            · simp [zup_ap]
            · simp [zup_ap]
          rw [e8, e10]
          exact ⟨⟨s1, s1'⟩, s2, fun w => ⟨(s3 w).1, fun k w1 w2 w3 => by rw [(j6 _).2.1]; exact (s3 w).2 k w1 w2 w3⟩⟩
      · show M1 7 9 = (if J1 4 4 = 0 then -4 else nI (J1 4 4 - 1))
        by_cases w : J 0 p = 0
        · have e44 : J1 4 4 = J 4 4 := by rw [j8, if_neg (by omega)]
          rw [e44, hM1, if_pos w]
          simp [zup_ap]
          exact p2
        · by_cases w4 : J 4 4 = 0
          · have e44 : J1 4 4 = pl + 1 := by rw [j8, if_pos ⟨by omega, w4⟩]
            rw [e44, if_neg (by omega), Nat.add_sub_cancel, hM1, if_neg w, if_pos w4]
            simp [zup_ap]
          · have e44 : J1 4 4 = J 4 4 := by rw [j8, if_neg (fun z => w4 z.2)]
            rw [e44, hM1, if_neg w, if_neg w4]
            simp [zup_ap]
            rw [p2, if_neg w4]
      · show J1 4 4 ≤ pl + 1
        rw [j8]
        split <;> omega
      · show Dn tx c fl cl (M1 9) J1 B c.1 a
        rw [oM 9 (by omega) (by omega) (by omega)]
        exact Dn_J g5 (fun i => ⟨(j6 i).2.2.1, (j6 i).2.2.2, fun w => by rw [j5]; split; rfl; exact w⟩) j4 (fun d hd => by rw [j7, if_neg (by show ¬ d = J 4 3; have : d < J 4 3 := hd; omega)])
      · by_cases z : i = pl
        · subst z
          rw [htx]
          exact ⟨by omega, by omega, by simp [isOp]; omega, f0, ca0⟩
        · exact g6.2 i x (by omega)
      · show M1 7 7 = (if J1 4 2 = 0 then nI (J1 4 0) else -1)
        rw [j1, j2, hM1]
        by_cases w : J 0 p = 0
        · rw [if_pos w, if_pos w]; simp [zup_ap]
        · rw [if_neg w, if_neg w]
          split <;> simp [zup_ap]
      · show M1 7 8 = nI (J1 4 1)
        rw [j3, hM1]
        repeat' split
        all_goals (simp [zup_ap]; rfl)
      · show J1 4 0 < 4
        omega
      · show J1 4 1 < 256
        omega
      · show J1 0 (J1 4 0) = 1
        rw [j1, j5, if_pos rfl]
      · show J1 5 (J1 4 3) = a
        rw [j4, j7, if_pos rfl]
        omega
      · show J1 4 2 = 0 → J1 6 (J1 4 0) ≠ 1
        rw [j1, j2, (j6 p).2.2.1]
        intro w w6
        have := (g5.1 p hp4 w6).1
        have : J 0 p = 1 := this
        omega
    · exact kR_head (fun a z1 z2 _ z4 _ => by
        rw [hM1]
        repeat' split
        all_goals simp only [zup_ne z1, zup_ne z2, zup_ne z4])
  · have es : sNames 219 t pl J = none := by simp [sNames, hq]
    rw [es, if_pos (b2i_n hq)]
end HF
