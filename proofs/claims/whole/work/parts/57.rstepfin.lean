/-! THE REFERENCE'S READER: a step, all tasks -/
section RS2
variable {M : zMem} {ts : List Nat} {pl base x : Nat} {l : List Nat} {P : List T} {J : zJ} {B : Nat → T}
theorem rDoesDone {M1 : zMem} {nd : Nat} {f : Option zMem} {P' : List T} (hR : RP M1 ts pl (l, P, J, B) base) (e : F_R_step M = f) (hd : rDone M1 base nd f P') : rDoes M ts pl (some ((l, P', jup J 4 5 nd, B), false)) := by
  obtain ⟨M', e2, h1, h2⟩ := hd
  exact ⟨M', base, e.trans e2, RP_done hR h1 h2⟩
theorem rStepFin (h : RP M ts pl (x :: l, P, J, B) base) (hl : l.length < 1600) (hx : 1000 ≤ x) (hp : sPre (tok ts pl) pl x P J) : rDoes M ts pl (some ((l, sFin x P J B), false)) := by
  obtain ⟨hR, -⟩ := RP_pop h
  have e := rStep_disp h hl
  obtain ⟨p1, p2, p3, p4, p5, -, -, -, p9⟩ := hp
  obtain ⟨-, px, hg⟩ : 1000 ≤ x ∧ x < 28000 ∧ sGood x P = true := by
    rcases p3 with q | q
    · omega
    · exact q
  have hst : rSt (zup M 34 5 (nI l.length)) P base (J 4 5) := hR.2.2.2.2.2.2.1
  have hpart : x < 20000 → F_R_step M = F_R_finishPart (zup M 34 5 (nI l.length)) (nI (x / 1000)) (nI (x % 1000)) := fun q => by rw [e, rDisp_part hx q]
  have hstat : 20000 ≤ x → F_R_step M = F_R_finishStatement (zup M 34 5 (nI l.length)) (nI (x / 1000)) (nI (x % 1000)) := fun q => by rw [e, rDisp_st q (by omega)]
  cases P with
  | nil => simp [sGood] at hg
  | cons t1 P1 =>
    simp only [sGood] at hg
    by_cases k2 : x / 1000 = 2
    · rw [if_pos (Or.inl k2)] at hg
      have hP1 : P1 = [] := by have := p4 (Or.inl k2); simpa using this
      subst hP1
      obtain ⟨M', q1, q2⟩ := rFin2000 (nI (x % 1000)) hR hg (p9 k2)
      have hs : sFin x [t1] J B = ([], jup J 7 0 1, bup B 4 t1) := by simp [sFin, k2]
      rw [hs]
      have := hpart (by omega)
      rw [k2] at this
      exact ⟨M', _, this.trans q1, q2⟩
    · by_cases k3 : x / 1000 = 3
      · rw [if_pos (Or.inr k3)] at hg
        have hP1 : P1 = [] := by have := p4 (Or.inr k3); simpa using this
        subst hP1
        obtain ⟨r1, r2, r3⟩ := p5 k3
        obtain ⟨M', q1, q2⟩ := rFin3000 (nI (x % 1000)) hR hg r1 r2 r3
        have hs : sFin x [t1] J B = sFin 3000 [t1] J B := by simp [sFin, k3]
        have hs2 : (sFin 3000 [t1] J B).1 = [] := by
          simp only [sFin]
          rw [if_neg (by decide), if_pos (by decide)]
          split <;> rfl
        have := hpart (by omega)
        rw [k3] at this
        refine ⟨M', J 4 5, this.trans q1, ?_⟩
        rw [hs]
        have e3 : sFin 3000 [t1] J B = ([], (sFin 3000 [t1] J B).2.1, (sFin 3000 [t1] J B).2.2) := Prod.ext hs2 rfl
        have q3 : RP M' ts pl (l, ([], (sFin 3000 [t1] J B).2.1, (sFin 3000 [t1] J B).2.2)) (J 4 5) := q2
        rw [← e3] at q3
        exact q3
      · rw [if_neg (fun q => q.elim k2 k3)] at hg
        by_cases k1 : x / 1000 = 6 ∨ x / 1000 = 7 ∨ x / 1000 = 8 ∨ x / 1000 = 22 ∨ x / 1000 = 23 ∨ x / 1000 = 24
        · rw [if_pos k1] at hg
          rcases k1 with k | k | k | k | k | k
          · have hs : sFin x (t1 :: P1) J B = (.mulL 6 t1 :: P1, nd1 J, B) := by simp [sFin, k]
            have e1 := hpart (by omega)
            rw [k] at e1
            rw [hs]
            exact rDoesDone hR e1 (rPart1 6 6 _ (by omega) hst p2 hg)
          · have hs : sFin x (t1 :: P1) J B = (.mulL 2 t1 :: P1, nd1 J, B) := by simp [sFin, k]
            have e1 := hpart (by omega)
            rw [k] at e1
            rw [hs]
            exact rDoesDone hR e1 (rPart1 7 2 _ (by omega) hst p2 hg)
          · have hs : sFin x (t1 :: P1) J B = (.mulL 5 t1 :: P1, nd1 J, B) := by simp [sFin, k]
            have e1 := hpart (by omega)
            rw [k] at e1
            rw [hs]
            exact rDoesDone hR e1 (rPart1 8 5 _ (by omega) hst p2 hg)
          · have hs : sFin x (t1 :: P1) J B = (.mulL 22 t1 :: P1, nd1 J, B) := by simp [sFin, k]
            have e1 := hstat (by omega)
            rw [k] at e1
            rw [hs]
            exact rDoesDone hR e1 (rStat1 22 (x % 1000) (by omega) hst p2 hg)
          · have hs : sFin x (t1 :: P1) J B = (.mulL 23 t1 :: P1, nd1 J, B) := by simp [sFin, k]
            have e1 := hstat (by omega)
            rw [k] at e1
            rw [hs]
            exact rDoesDone hR e1 (rStat1 23 (x % 1000) (by omega) hst p2 hg)
          · have hs : sFin x (t1 :: P1) J B = (.mulL 24 t1 :: P1, nd1 J, B) := by simp [sFin, k]
            have e1 := hstat (by omega)
            rw [k] at e1
            rw [hs]
            exact rDoesDone hR e1 (rStat1 24 (x % 1000) (by omega) hst p2 hg)
        · rw [if_neg k1] at hg
          by_cases k20 : x / 1000 = 20
          · rw [if_pos k20] at hg
            simp only [Bool.and_eq_true, decide_eq_true_eq] at hg
            have hs : sFin x (t1 :: P1) J B = (.mulL (200 + x % 1000) t1 :: P1, nd1 J, B) := by simp [sFin, k20]
            have e1 := hstat (by omega)
            rw [k20] at e1
            rw [hs]
            have := rStat1 20 (x % 1000) (Or.inl ⟨rfl, hg.2⟩) hst p2 hg.1
            rw [if_pos rfl] at this
            exact rDoesDone hR e1 this
          · rw [if_neg k20] at hg
            cases P1 with
            | nil => simp at hg
            | cons t2 P2 =>
              simp only at hg
              by_cases k4 : x / 1000 = 4
              · rw [if_pos k4] at hg
                simp only [Bool.and_eq_true] at hg
                have hs : sFin x (t1 :: t2 :: P2) J B = (grow t2 t1 :: P2, J, B) := by simp [sFin, k4]
                have e1 := hpart (by omega)
                rw [k4] at e1
                rw [hs]
                have := rDoesDone hR e1 (rPartApp 4 _ (by omega) hst hg.1 (Or.inl hg.2))
                rwa [nd_same] at this
              · rw [if_neg k4] at hg
                by_cases k5 : x / 1000 = 5
                · rw [if_pos k5] at hg
                  simp only [Bool.and_eq_true, decide_eq_true_eq] at hg
                  have hs : sFin x (t1 :: t2 :: P2) J B = (.mulL (x % 1000) (.add t2 t1) :: P2, nd1 J, B) := by simp [sFin, k5]
                  have e1 := hpart (by omega)
                  rw [k5] at e1
                  rw [hs]
                  exact rDoesDone hR e1 (rPart2 (x % 1000) hg.2 hst p2 hg.1.1 hg.1.2)
                · rw [if_neg k5] at hg
                  by_cases k9 : x / 1000 = 9
                  · rw [if_pos k9] at hg
                    simp only [Bool.and_eq_true] at hg
                    have hs : sFin x (t1 :: t2 :: P2) J B = (grow t2 t1 :: P2, J, B) := by simp [sFin, k9]
                    have e1 := hpart (by omega)
                    rw [k9] at e1
                    rw [hs]
                    have := rDoesDone hR e1 (rPartApp 9 _ (by omega) hst hg.1 (Or.inr hg.2))
                    rwa [nd_same] at this
                  · rw [if_neg k9] at hg
                    by_cases k21 : x / 1000 = 21
                    · rw [if_pos k21] at hg
                      simp only [Bool.and_eq_true] at hg
                      have hs : sFin x (t1 :: t2 :: P2) J B = (.mulL 21 (.add t2 t1) :: P2, nd1 J, B) := by simp [sFin, k21]
                      have e1 := hstat (by omega)
                      rw [k21] at e1
                      rw [hs]
                      exact rDoesDone hR e1 (rStat2 21 _ (Or.inl ⟨rfl, hg.2, hg.1⟩) hst p2)
                    · rw [if_neg k21] at hg
                      by_cases k25 : x / 1000 = 25
                      · rw [if_pos k25] at hg
                        simp only [Bool.and_eq_true] at hg
                        have hs : sFin x (t1 :: t2 :: P2) J B = (.mulL 25 (.add t2 t1) :: P2, nd1 J, B) := by simp [sFin, k25]
                        have e1 := hstat (by omega)
                        rw [k25] at e1
                        rw [hs]
                        exact rDoesDone hR e1 (rStat2 25 _ (Or.inr (Or.inl ⟨rfl, hg.2, hg.1⟩)) hst p2)
                      · rw [if_neg k25] at hg
                        by_cases k26 : x / 1000 = 26
                        · rw [if_pos k26] at hg
                          simp only [Bool.and_eq_true] at hg
                          have hs : sFin x (t1 :: t2 :: P2) J B = (.mulL 26 (.add t2 t1) :: P2, nd1 J, B) := by simp [sFin, k26]
                          have e1 := hstat (by omega)
                          rw [k26] at e1
                          rw [hs]
                          exact rDoesDone hR e1 (rStat2 26 _ (Or.inr (Or.inr ⟨rfl, hg.2, hg.1⟩)) hst p2)
                        · rw [if_neg k26] at hg
                          by_cases k27 : x / 1000 = 27
                          · rw [if_pos k27] at hg
                            cases P2 with
                            | nil => simp at hg
                            | cons t3 P3 =>
                              simp only [Bool.and_eq_true] at hg
                              have hs : sFin x (t1 :: t2 :: t3 :: P3) J B = (.mulL 27 (.add t3 (.add t2 t1)) :: P3, nd1 J, B) := by simp [sFin, k27]
                              have e1 := hstat (by omega)
                              rw [k27] at e1
                              rw [hs]
                              exact rDoesDone hR e1 (rStat3 _ hg.1.1 hg.1.2 hg.2 hst p2)
                          · rw [if_neg k27] at hg
                            cases hg
theorem rDoesPush {M1 : zMem} {f : Option zMem} {ks : List Nat} (hR : RP M1 ts pl (l, P, J, B) base) (e : F_R_step M = f) (hd : ∃ M', f = some M' ∧ rPush M1 M' ks l) : rDoes M ts pl (some ((ks ++ l, P, J, B), false)) := by
  obtain ⟨M', e2, h1⟩ := hd
  exact ⟨M', base, e.trans e2, RP_push hR h1⟩
theorem rStepRead (h : RP M ts pl (x :: l, P, J, B) base) (hl : l.length + 10 ≤ 1600) (hx : 200 ≤ x) (hx2 : x < 224) (hp : sPre (tok ts pl) pl x P J) : rDoes M ts pl (sStep (tok ts pl) pl (x :: l, P, J, B)) := by
  obtain ⟨hR, -⟩ := RP_pop h
  have e := rStep_disp h (by omega)
  rw [rDisp_read hx (by omega)] at e
  obtain ⟨p1, p2, p3, p4, p5, p6, p7, p8, -⟩ := hp
  have ht := tok_lt h.1 pl
  have h5 : zup M 34 5 (nI l.length) 34 5 = nI l.length := hR.2.2.2.2.1
  have h6 : rTk (zup M 34 5 (nI l.length)) l := hR.2.2.2.2.2.1
  have hx3 : pl ≤ ts.length := hR.2.2.1
  simp only [sStep]
  rw [if_neg (show ¬ x < 200 by omega), if_neg (show ¬ 1000 ≤ x by omega)]
  by_cases c1 : 219 ≤ x ∧ x ≤ 221
  · rw [if_pos c1] at e ⊢
    by_cases cx : x = 219
    · subst cx
      cases hq : isProcName (tok ts pl) with
      | true =>
        have hin : pl < ts.length := tok_in (fun z => by rw [z] at hq; exact absurd hq (by decide))
        obtain ⟨M', J', q1, q2, q3⟩ := rNames219 hR hin (p6 rfl).1 (p6 rfl).2 hq
        rw [q2]
        exact ⟨M', base, e.trans q1, q3⟩
      | false =>
        have q2 : sNames 219 (tok ts pl) pl J = none := by unfold sNames; rw [if_pos rfl, if_neg (by rw [hq]; decide)]
        rw [q2]
        exact ⟨_, e.trans (rNamesBad (by omega) ht (by rw [if_pos rfl]; exact hq)), rFailed hR⟩
    · have hx22 : x = 220 ∨ x = 221 := by omega
      cases hq : isName (tok ts pl) with
      | true =>
        have hin : pl < ts.length := tok_in (fun z => by rw [z] at hq; exact absurd hq (by decide))
        obtain ⟨M', J', q1, q2, q3⟩ := rNames22x hx22 hR hin (p7 hx22) hq
        rw [q2]
        exact ⟨M', base, e.trans q1, q3⟩
      | false =>
        have q2 : sNames x (tok ts pl) pl J = none := by unfold sNames; rw [if_neg cx, if_neg (by rw [hq]; decide)]
        rw [q2]
        exact ⟨_, e.trans (rNamesBad (by omega) ht (by rw [if_neg cx]; exact hq)), rFailed hR⟩
  · rw [if_neg c1] at e ⊢
    by_cases c2 : x = 207
    · rw [if_pos c2] at e ⊢
      exact rDoesPush hR e (rReadStatement ht h5 h6 (by omega))
    · rw [if_neg c2] at e ⊢
      by_cases c3 : x = 218
      · rw [if_pos c3] at e ⊢
        by_cases d1 : tok ts pl = 173
        · rw [if_pos d1]
          have := rReadIf ht h5 h6 (by omega) (Or.inl d1)
          rw [if_pos d1] at this
          exact rDoesPush hR e this
        · rw [if_neg d1]
          by_cases d2 : tok ts pl = 162
          · rw [if_pos d2]
            have := rReadIf ht h5 h6 (by omega) (Or.inr d2)
            rw [if_neg d1] at this
            exact rDoesPush hR e this
          · rw [if_neg d2]
            obtain ⟨M', q1, q2⟩ := rReadIfEnd ht hR p1 (by omega) d1 d2
            exact ⟨M', base, e.trans q1, q2⟩
      · rw [if_neg c3] at e ⊢
        by_cases c4 : x = 214
        · rw [if_pos c4] at e ⊢
          by_cases d1 : tok ts pl < 100
          · rw [if_pos d1]
            obtain ⟨M', q1, q2⟩ := rFactorNum hR p2 p1 (tok_in (by omega)) d1
            exact ⟨M', base, e.trans q1, q2⟩
          · rw [if_neg d1]
            by_cases d2 : tok ts pl ≤ 107
            · rw [if_pos d2]
              obtain ⟨M', q1, q2⟩ := rFactorName hR p2 p1 (tok_in (by omega)) (by omega) d2
              exact ⟨M', base, e.trans q1, q2⟩
            · rw [if_neg d2]
              by_cases d3 : tok ts pl = 108
              · rw [if_pos d3]
                have := rFactorTasks (t := tok ts pl) h5 h6 (by omega) (Or.inl d3)
                rw [if_pos d3] at this
                exact rDoesPush hR e this
              · rw [if_neg d3]
                by_cases d4 : isProcName (tok ts pl) = true
                · rw [if_pos d4]
                  have := rFactorTasks (t := tok ts pl) h5 h6 (by omega) (Or.inr (Or.inl d4))
                  rw [if_neg d3, if_pos d4] at this
                  exact rDoesPush (ks := [215]) hR e this
                · rw [if_neg d4]
                  by_cases d5 : tok ts pl = 122
                  · rw [if_pos d5]
                    have := rFactorTasks (t := tok ts pl) h5 h6 (by omega) (Or.inr (Or.inr (Or.inl d5)))
                    rw [if_neg d3, if_neg d4, if_pos d5] at this
                    exact rDoesPush hR e this
                  · rw [if_neg d5]
                    by_cases d6 : tok ts pl = 152
                    · rw [if_pos d6]
                      have := rFactorTasks (t := tok ts pl) h5 h6 (by omega) (Or.inr (Or.inr (Or.inr d6)))
                      rw [if_neg d3, if_neg d4, if_neg d5] at this
                      exact rDoesPush hR e this
                    · rw [if_neg d6]
                      exact ⟨_, e.trans (rFactorBad ht d2 d3 d4 d5 d6), rFailed hR⟩
        · rw [if_neg c4] at e ⊢
          by_cases c5 : 215 ≤ x ∧ x ≤ 217
          · rw [if_pos c5] at e
            by_cases x5 : x = 215
            · subst x5
              rw [if_pos rfl]
              cases hq : isProcName (tok ts pl) with
              | true =>
                rw [if_pos rfl]
                have hin : pl < ts.length := tok_in (fun z => by rw [z] at hq; exact absurd hq (by decide))
                obtain ⟨M', q1, q2⟩ := rReadCall1 hR p2 p1 hin (by omega) hq
                exact ⟨M', base, e.trans q1, q2⟩
              | false =>
                rw [p8 rfl] at hq
                cases hq
            · rw [if_neg x5]
              have := rReadCall2 (t := tok ts pl) (x := x) (by omega) ht h5 h6 (by omega)
              by_cases x6 : x = 216
              · rw [if_pos x6] at this ⊢
                by_cases d1 : tok ts pl = 123
                · rw [if_pos d1] at this ⊢
                  exact rDoesPush (ks := [123]) hR e this
                · rw [if_neg d1] at this ⊢
                  exact rDoesPush hR e this
              · rw [if_neg x6] at this ⊢
                rw [if_pos (show x = 217 by omega)]
                by_cases d1 : tok ts pl = 124
                · rw [if_pos d1] at this ⊢
                  exact rDoesPush hR e this
                · rw [if_neg d1] at this ⊢
                  exact rDoesPush (ks := []) hR e this
          · rw [if_neg c5] at e
            rw [if_neg (show ¬ x = 215 by omega), if_neg (show ¬ x = 216 by omega), if_neg (show ¬ x = 217 by omega)]
            by_cases c6 : 208 ≤ x ∧ x ≤ 213
            · rw [if_pos c6] at e ⊢
              exact rDoesPush hR e (rReadExpression x c6 ht h5 h6 (by omega))
            · rw [if_neg c6] at e ⊢
              by_cases c7 : x = 205
              · rw [if_pos c7]
                obtain ⟨M', q1, q2⟩ := rReadList (t := tok ts pl) hR p2 p1 (by omega)
                rw [c7] at e
                exact ⟨M', base, e.trans q1, q2⟩
              · rw [if_neg c7]
                exact rDoesPush hR e (rReadParts x (by omega) ht h5 h6 (by omega))
/-- THE REFERENCE'S STEP -/
theorem rStep (h : RP M ts pl (x :: l, P, J, B) base) (hl : l.length + 10 ≤ 1600) (hp : sPre (tok ts pl) pl x P J) : rDoes M ts pl (sStep (tok ts pl) pl (x :: l, P, J, B)) := by
  by_cases c1 : x < 200
  · have := rStepTok h (by omega) c1
    simp only [sStep]
    rw [if_pos c1]
    exact this
  · by_cases c2 : 1000 ≤ x
    · have := rStepFin h (by omega) c2 hp
      simp only [sStep]
      rw [if_neg c1, if_pos c2]
      exact this
    · have h3 : x < 224 := by
        rcases hp.2.2.1 with q | q
        · exact q
        · omega
      exact rStepRead h hl (by omega) h3 hp
end RS2
