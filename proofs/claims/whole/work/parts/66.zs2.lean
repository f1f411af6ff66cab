/-! Z against S: statements, calls, factors; one token -/
section ZS
variable {ts : List Nat} {pl : Nat} {B : Nat → T} {fs : List zF} {J : zJ}
theorem sFin4 {e a : T} {P : List T} (ha : isL a = true) : sFin 4000 (e :: a :: P) J B = (snoc a e :: P, J, B) := by
  have : sFin 4000 (e :: a :: P) J B = (grow a e :: P, J, B) := rfl
  rw [this]
  cases a with
  | mulR s q => simp [isL] at ha
  | _ => rfl
/-- a finished statement comes to the list that is being made -/
theorem sR_add {l : List Nat} {s : T} (hw : wfz fs false) (hs : sh s 1 = true) (hb : sb l (s :: flat fs) J) : sR ts pl (4000 :: l, s :: flat fs, J, B) pl (l, flat (addSt fs s), J, B) := by
  obtain ⟨k, n, l0, tr, r, rfl, e2, h3, -⟩ := addSt_ok hw hs
  rw [e2]
  exact sR_fin hb (by omega) (by omega) (by simp [sGood, flat, sh1_isE hs, sh_isL h3]) (sFin4 (sh_isL h3))
theorem af_add {s : T} (m : Nat) : af (addSt fs s) m = af fs m := by
  cases fs with
  | nil => rfl
  | cons f r =>
    obtain ⟨k, n, tr⟩ := f
    cases tr with
    | nil => rfl
    | cons a tr => simp [addSt, af]
/-- the ends of an if's parts -/
theorem sR_27 : ∀ {tr : List T} {e : T} {J : zJ} {l : List Nat} {P : List T} (n : Nat), n = tr.length / 2 → wfI tr = true → sh e 3 = true → l.length + tr.length ≤ 1580 → tr.length + P.length ≤ 280 → J 4 5 + tr.length < 390 → sR ts pl (rep27 n ++ l, e :: (tr ++ P), J, B) pl (l, mkIf tr e :: P, ndn J n, B)
  | [], e, J, l, P, n, hn, _, _, _, _, _ => by
    subst hn
    simp only [rep27, List.length_nil, Nat.zero_div, List.replicate, List.nil_append, mkIf]
    rw [ndn_0]
    exact sR_refl
  | [x], e, J, l, P, n, _, h, _, _, _, _ => by simp [wfI] at h
  | a :: c :: r, e, J, l, P, n, hn, h, he, hl, hP, hJ => by
    simp [wfI] at h
    obtain ⟨⟨h1, h2⟩, h3⟩ := h
    simp only [List.length_cons] at hl hP hJ hn
    obtain ⟨m, rfl⟩ : ∃ m, n = m + 1 := ⟨n - 1, by omega⟩
    have hR : isR e = true := by
      cases e with
      | var x => simp [sh] at he; simp [isR, isL]; exact he
      | add a b => rfl
      | num k => simp [sh] at he
      | mulL k a => simp [sh] at he; simp [isR, isL, he]
      | mulR a k => simp [sh] at he
    have e1 : sR ts pl (rep27 (m + 1) ++ l, e :: (a :: c :: r ++ P), J, B) pl (rep27 m ++ l, .mulL 27 (.add c (.add a e)) :: (r ++ P), ndn J 1, B) := by
      refine sR_fin (x := 27000) ?_ (by omega) (by omega) ?_ rfl
      · refine ⟨?_, ?_, by omega⟩
        · show (List.replicate m 27000 ++ l).length ≤ 1580
          simp
          omega
        · simp
          omega
      · simp [sGood, hR, sh_isL h1, sh_isE h2]
    refine sR_trans e1 ?_
    have := sR_27 (tr := r) (e := .mulL 27 (.add c (.add a e))) (J := ndn J 1) (l := l) (P := P) m (by omega) h3 (by simp [sh, h1, h2, he]) (by omega) (by omega) (by rw [ndn_45]; omega)
    rw [ndn_ndn, show 1 + m = m + 1 by omega] at this
    exact this
theorem zStEnd_S (hw : wfz fs false) (hp : pl ≤ 150) (hb : zB pl 0 fs J) (h70 : J 7 0 = 0) : Sim ts pl (206 :: af fs 4, flat fs, J, B) (zStEnd (tok ts pl) fs J B) := by
  have hl := af_len fs 4
  obtain ⟨g1, g2, g3, g4, g5, g6⟩ := hb
  have dl : ∀ (q : List zF), q.length ≤ dF q := by
    intro q
    induction q with
    | nil => exact Nat.le_refl _
    | cons f q ih => obtain ⟨k, n, tr⟩ := f; simp only [dF, List.length_cons]; omega
  have dl1 := dl fs
  have hsb : ∀ {l : List Nat} {P : List T}, l.length ≤ 1580 → P.length ≤ 290 → sb l P J := fun a b => ⟨a, b, by omega⟩
  unfold zStEnd
  refine Sim_if (fun c => ?_) fun c0 => ?_
  · refine Sim_of (sR_pt (x := 206) (k := [121, 223, 206]) (hsb (by omega) (by omega)) (by omega) (by simp [sParts, c])) ?_
    exact Sim_take (x := 121) (by omega) (hsb (by simp; omega) (by omega)) c sR_refl
  · refine Sim_of (sR_pt (x := 206) (k := []) (hsb (by omega) (by omega)) (by omega) (by simp [sParts, c0])) ?_
    show Sim ts pl (af fs 4, flat fs, J, B) _
    cases fs with
    | nil => exact hw.elim
    | cons f r =>
      obtain ⟨k, n, tr⟩ := f
      obtain ⟨h1, h2⟩ := hw
      have hlr := af_len r 4
      have dl2 := dl r
      simp only [List.length_cons, flat, List.length_append, dF] at g1 g2 g3 hl
      show Sim ts pl (af ((k, n, tr) :: r) 4, tr ++ flat r, J, B) (if k = 12 then _ else _)
      -- what ends a statement that ends with the token end
      have fin : ∀ {s : T} {a : Nat} {z : zZ}, wfz r false → sh s 1 = true → a ≤ 80 → z = (10, [], addSt r s, ndn J a, B) → sR ts (pl + 1) ([4000, 206] ++ af r 4, s :: flat r, ndn J a, B) (pl + 1) (sOf z) := by
        intro s a z hr hs ha hz
        subst hz
        have hbb : sb (206 :: af r 4) (s :: flat r) (ndn J a) := ⟨by simp; omega, by simp; omega, by rw [ndn_45]; omega⟩
        have := sR_add (ts := ts) (pl := pl + 1) (B := B) hr hs hbb
        show sR ts (pl + 1) (4000 :: 206 :: af r 4, s :: flat r, ndn J a, B) (pl + 1) (206 :: af (addSt r s) 4, [] ++ flat (addSt r s), ndn J a, B)
        rw [af_add]
        exact this
      by_cases k12 : k = 12
      · rw [if_pos k12]
        subst k12
        have hr : wfz r false := by rcases h2 with h2 | h2; exact h2.2; omega
        simp [wfF] at h1
        obtain ⟨h0, l, u, r', rfl, a1, a2, a3⟩ := h1
        subst h0
        have hI : wfI (l :: u :: r') = true := by simp [wfI, a1, a2, a3]
        have hev := wfI_even hI
        simp only [List.length_cons] at hev g1 g2 g3 hl
        have ea : af ((12, 0, l :: u :: r') :: r) 4 = 218 :: (rep27 (r'.length / 2) ++ ([163, 4000, 206] ++ af r 4)) := by
          have q : (r'.length + 1 + 1) / 2 - 1 = r'.length / 2 := by omega
          simp [af, q]
        rw [ea]
        have hlen : (rep27 (r'.length / 2) ++ ([163, 4000, 206] ++ af r 4)).length ≤ 1560 := by simp [rep27]; omega
        have hpl : (l :: u :: r' ++ flat r).length ≤ 150 := by simp; omega
        have st218 : ∀ {S1 : zS}, sStep (tok ts pl) pl (218 :: (rep27 (r'.length / 2) ++ ([163, 4000, 206] ++ af r 4)), l :: u :: r' ++ flat r, J, B) = some (S1, false) → sR ts pl (218 :: (rep27 (r'.length / 2) ++ ([163, 4000, 206] ++ af r 4)), l :: u :: r' ++ flat r, J, B) pl S1 := fun h => sR_s (hsb (by omega) (by omega)) (sPre_lo (l := []) (hsb (by simp) (by omega)) (by omega) (by omega) (by omega) (by omega) (by omega)) h
        have other : tok ts pl ≠ 173 → tok ts pl ≠ 162 → sR ts pl (218 :: (rep27 (r'.length / 2) ++ ([163, 4000, 206] ++ af r 4)), l :: u :: r' ++ flat r, J, B) pl ([163, 4000, 206] ++ af r 4, mkIf (l :: u :: r') (.var 98) :: flat r, ndn J ((l :: u :: r').length / 2), B) := by
          intro q1 q2
          have s1 := st218 (S1 := (27000 :: (rep27 (r'.length / 2) ++ ([163, 4000, 206] ++ af r 4)), .var 98 :: (l :: u :: r' ++ flat r), J, B)) (by simp [sStep, q1, q2])
          refine sR_trans s1 ?_
          have := sR_27 (ts := ts) (pl := pl) (B := B) (tr := l :: u :: r') (e := .var 98) (J := J) (l := [163, 4000, 206] ++ af r 4) (P := flat r) (r'.length / 2 + 1) (by simp; omega) hI (by simp [sh]) (by simp; omega) (by simp; omega) (by simp; omega)
          have e27 : rep27 (r'.length / 2 + 1) ++ ([163, 4000, 206] ++ af r 4) = 27000 :: (rep27 (r'.length / 2) ++ ([163, 4000, 206] ++ af r 4)) := rfl
          rw [e27] at this
          rw [show (l :: u :: r').length / 2 = r'.length / 2 + 1 by simp; omega]
          exact this
        refine Sim_if (fun c => ?_) fun c1 => Sim_if (fun c => ?_) fun c2 => Sim_if (fun c => ?_) fun c3 => ?_
        · refine Sim_of (other (by omega) (by omega)) ?_
          refine Sim_take (x := 163) (by omega) ?_ c ?_
          · exact ⟨by simp; omega, by simp; omega, by rw [ndn_45]; simp; omega⟩
          · exact fin hr ((sh_mkIf hI (by simp [sh])).2 (by simp)) (by simp; omega) rfl
        · refine Sim_of (st218 (S1 := ([173, 208, 161, 205, 218, 27000] ++ (rep27 (r'.length / 2) ++ ([163, 4000, 206] ++ af r 4)), l :: u :: r' ++ flat r, J, B)) (by simp [sStep, c])) ?_
          refine Sim_take (x := 173) (by omega) (hsb (by simp; simp at hlen; omega) (by omega)) c ?_
          refine sR_trans (sR_208 (hsb (by simp; simp at hlen; omega) (by omega)) (by simp; simp at hlen; omega)) ?_
          show sR ts (pl + 1) _ (pl + 1) (210 :: af ((11, 0, l :: u :: r') :: r) 2, [] ++ (l :: u :: r' ++ flat r), J, B)
          have e11 : af ((11, 0, l :: u :: r') :: r) 2 = 209 :: [161, 205, 218, 27000] ++ (rep27 (r'.length / 2) ++ ([163, 4000, 206] ++ af r 4)) := by
            have q : (r'.length + 1 + 1) / 2 = r'.length / 2 + 1 := by omega
            simp [af, q, rep27, List.replicate_succ]
          rw [e11]
          exact sR_refl
        · refine Sim_of (st218 (S1 := ([162, 205, 27000] ++ (rep27 (r'.length / 2) ++ ([163, 4000, 206] ++ af r 4)), l :: u :: r' ++ flat r, J, B)) (by simp [sStep, c])) ?_
          refine Sim_take (x := 162) (by omega) (hsb (by simp; simp at hlen; omega) (by omega)) c ?_
          refine sR_trans (sR_205 (hsb (by simp; simp at hlen; omega) (by omega))) ?_
          show sR ts (pl + 1) _ (pl + 1) (223 :: 206 :: af ((13, 0, .var 99 :: l :: u :: r') :: r) 4, [] ++ (.var 99 :: l :: u :: r' ++ flat r), ndn J 1, B)
          have e13 : af ((13, 0, (.var 99 : T) :: l :: u :: r') :: r) 4 = 27000 :: (rep27 (r'.length / 2) ++ ([163, 4000, 206] ++ af r 4)) := by
            have q : (r'.length + 1 + 1 + 1) / 2 = r'.length / 2 + 1 := by omega
            simp [af, q, rep27, List.replicate_succ]
          rw [e13]
          exact sR_refl
        · refine Sim_of (other c2 c3) ?_
          exact Sim_bad (x := 163) (by omega) ⟨by simp; omega, by simp; omega, by rw [ndn_45]; simp; omega⟩ c1
      · rw [if_neg k12]
        by_cases k13 : k = 13
        · rw [if_pos k13]
          subst k13
          have hr : wfz r false := by rcases h2 with h2 | h2; exact h2.2; omega
          simp [wfF] at h1
          obtain ⟨h0, l, r', rfl, a1, a2, a3⟩ := h1
          subst h0
          have hev := wfI_even a2
          simp only [List.length_cons] at g1 g2 g3 hl
          have a4 : sh l 3 = true := by
            cases l with
            | var x => simp [sh] at a1 ⊢; exact Or.inl a1
            | add a b => simp [sh] at a1 ⊢; exact a1
            | num k => simp [sh] at a1
            | mulL k a => simp [sh] at a1
            | mulR a k => simp [sh] at a1
          have hn : (l :: r').length / 2 = r'.length / 2 := by simp; omega
          have ea : af ((13, 0, l :: r') :: r) 4 = rep27 (r'.length / 2) ++ ([163, 4000, 206] ++ af r 4) := by
            have q : (r'.length + 1) / 2 = r'.length / 2 := by omega
            simp [af, q]
          rw [ea]
          have s1 := sR_27 (ts := ts) (pl := pl) (B := B) (tr := r') (e := l) (J := J) (l := [163, 4000, 206] ++ af r 4) (P := flat r) (r'.length / 2) rfl a2 a4 (by simp; omega) (by omega) (by omega)
          refine Sim_of s1 ?_
          have hbb : sb ([4000, 206] ++ af r 4) (mkIf r' l :: flat r) (ndn J (r'.length / 2)) := ⟨by simp; omega, by simp; omega, by rw [ndn_45]; omega⟩
          refine Sim_tok (x := 163) (by omega) hbb fun c => ?_
          refine fin hr ((sh_mkIf (ts := r') (e := l) a2 a4).2 a3) (a := r'.length / 2) (by omega) ?_
          rw [hn]
          rfl
        · rw [if_neg k13]
          by_cases k9 : k = 9
          · rw [if_pos k9]
            subst k9
            have hr : wfz r false := by rcases h2 with h2 | h2; exact h2.2; omega
            simp [wfF] at h1
            obtain ⟨h0, l, c, rfl, a1, a2⟩ := h1
            subst h0
            simp only [List.length_cons, List.length_nil] at g1 g2 g3 hl
            refine Sim_tok (x := 163) (l := 25000 :: 4000 :: 206 :: af r 4) (by omega) (hsb (by simp; omega) (by simp; omega)) fun c => ?_
            refine sR_trans (sR_fin (x := 25000) (hsb (by simp; omega) (by simp; omega)) (by omega) (by omega) (by simp [sGood, sh_isL a1, sh_isE a2]) rfl) ?_
            exact fin hr (by simp [sh, a1, a2]) (a := 1) (by omega) rfl
          · rw [if_neg k9]
            by_cases k10 : k = 10
            · rw [if_pos k10]
              subst k10
              have hr : wfz r false := by rcases h2 with h2 | h2; exact h2.2; omega
              simp [wfF] at h1
              obtain ⟨h0, l, rfl, a1⟩ := h1
              subst h0
              simp only [List.length_cons, List.length_nil] at g1 g2 g3 hl
              refine Sim_tok (x := 167) (l := 208 :: 26000 :: 4000 :: 206 :: af r 4) (by omega) (hsb (by simp; omega) (by simp; omega)) fun c => ?_
              refine sR_trans (sR_208 (hsb (by simp; omega) (by simp; omega)) (by simp; omega)) ?_
              exact sR_refl
            · rw [if_neg k10]
              have hr : (k = 14 ∨ k = 15) ∧ r = [] := by rcases h2 with h2 | h2; omega; exact h2
              obtain ⟨hk, rfl⟩ := hr
              by_cases k14 : k = 14
              · rw [if_pos k14]
                subst k14
                simp [wfF] at h1
                obtain ⟨h0, l, rfl, a1⟩ := h1
                simp [bot] at g4 g6
                refine Sim_tok (x := 163) (l := [3000, 200]) (by omega) (hsb (by simp) (by simp [flat])) fun c => ?_
                have hb3 : sb [200] [l] J := hsb (by simp) (by simp)
                have hp3 : sPre (tok ts (pl + 1)) (pl + 1) 3000 [l] J := ⟨by simp, by omega, Or.inr ⟨by omega, by omega, by simp [sGood, sh_isL a1]⟩, fun _ => rfl, fun _ => ⟨by omega, g6⟩, fun q => by omega, fun q => by omega, fun q => by omega, fun q => by omega⟩
                have := sR_s (B := B) hb3 hp3 (S1 := ([200], sFin 3000 [l] J B)) (sStep_fin (by omega))
                have e3 := (sFin3_n (J := J) (B := B) (l := l)).2.2.2
                have e4 : sFin 3000 [l] J B = ([], (sFin 3000 [l] J B).2.1, (sFin 3000 [l] J B).2.2) := Prod.ext e3 rfl
                rw [e4] at this
                exact this
              · rw [if_neg k14]
                have k15 : k = 15 := by omega
                subst k15
                simp [wfF] at h1
                obtain ⟨h0, l, rfl, a1⟩ := h1
                refine Sim_tok (x := 163) (l := [2000]) (by omega) (hsb (by simp) (by simp [flat])) fun c => ?_
                have hb3 : sb [] [l] J := hsb (by simp) (by simp)
                have hp3 : sPre (tok ts (pl + 1)) (pl + 1) 2000 [l] J := ⟨by simp, by omega, Or.inr ⟨by omega, by omega, by simp [sGood, sh_isL a1]⟩, fun _ => rfl, fun q => by omega, fun q => by omega, fun q => by omega, fun q => by omega, fun _ => h70⟩
                exact sR_s (B := B) hb3 hp3 (S1 := ([], sFin 2000 [l] J B)) (sStep_fin (by omega))
end ZS
