/-! Z against S: expressions, heads; one token -/
theorem dF_len : ∀ (q : List zF), q.length ≤ dF q
  | [] => Nat.le_refl _
  | (k, n, tr) :: q => by
    have := dF_len q
    simp only [dF, List.length_cons]
    omega
section ZS3
variable {ts : List Nat} {pl : Nat} {B : Nat → T} {fs : List zF} {J : zJ}
theorem zB_sb {n : Nat} (hp : pl ≤ 150) (hb : zB pl n fs J) {l : List Nat} {P : List T} (hl : l.length ≤ 9 * fs.length + (flat fs).length + 60) (hP : P.length ≤ (flat fs).length + n + 5) : sb l P J := by
  obtain ⟨g1, g2, g3, -⟩ := hb
  have := dF_len fs
  exact ⟨by omega, by omega, by omega⟩
theorem zB_sb1 {n a : Nat} (hp : pl ≤ 150) (hb : zB pl n fs J) (ha : a ≤ 5) {l : List Nat} {P : List T} (hl : l.length ≤ 9 * fs.length + (flat fs).length + 60) (hP : P.length ≤ (flat fs).length + n + 5) : sb l P (ndn J a) := by
  obtain ⟨h1, h2, h3⟩ := zB_sb hp hb hl hP
  obtain ⟨g1, g2, g3, -⟩ := hb
  have := dF_len fs
  exact ⟨h1, h2, by rw [ndn_45]; omega⟩
theorem zCall_S {k n : Nat} {tr : List T} {r : List zF} (hw : wfz ((k, n, tr) :: r) true) (hk : k = 4 ∨ k = 5) (hp : pl ≤ 150) (hb : zB pl 0 ((k, n, tr) :: r) J) (ht : tok ts pl = 123) : Sim ts pl (123 :: ac ((k, n, tr) :: r), flat ((k, n, tr) :: r), J, B) (zCall ((k, n, tr) :: r) J B) := by
  obtain ⟨h1, h2⟩ := hw
  have h1 : n < 150 ∧ ∃ s q, tr = [(.mulR s q : T)] ∧ sh s 4 = true ∧ q / 4 = n := by
    rcases hk with rfl | rfl
    · simpa [wfF] using h1
    · simpa [wfF] using h1
  obtain ⟨h0, s, q, rfl, a1, -⟩ := h1
  have hl0 := af_len r 0
  have hl4 := af_len r 4
  show Sim ts pl _ (if k = 4 then _ else _)
  rcases hk with rfl | rfl
  · rw [if_pos rfl]
    exact Sim_take (x := 123) (l := af r 0) (by omega) (zB_sb hp hb (by simp [flat]; omega) (by simp)) ht sR_refl
  · have hr : wfz r false := by
      rcases h2 with h2 | h2 | h2
      · omega
      · omega
      · exact h2.2
    rw [if_neg (by omega)]
    refine Sim_take (x := 123) (l := 22000 :: 4000 :: 206 :: af r 4) (by omega) (zB_sb hp hb (by simp [flat]; omega) (by simp)) ht ?_
    refine sR_trans (sR_fin (x := 22000) (zB_sb hp hb (by simp [flat]; omega) (by simp)) (by omega) (by omega) (by simp [sGood, flat, isE]) rfl) ?_
    have := sR_add (ts := ts) (pl := pl + 1) (B := B) (J := ndn J 1) (l := 206 :: af r 4) (s := .mulL 22 (.mulR s q)) hr (by simp [sh, a1, isCall]) (zB_sb1 hp hb (by omega) (by simp [flat]; omega) (by simp [flat]))
    show sR ts (pl + 1) (4000 :: 206 :: af r 4, .mulL 22 (.mulR s q) :: flat r, ndn J 1, B) (pl + 1) (206 :: af (addSt r _) 4, [] ++ flat (addSt r _), ndn J 1, B)
    rw [af_add]
    exact this
theorem zLast_fin {n : Nat} {tr : List T} {e : T} {P : List T} (h : wfF 7 n tr) (he : sh e 0 = true) : 4000 ≤ n ∧ n < 28000 ∧ sGood n (e :: (tr ++ P)) = true ∧ sFin n (e :: (tr ++ P)) J B = (zLast n tr e :: P, ndn J 1, B) := by
  have hE := sh_isE he
  simp [wfF] at h
  rcases h with ⟨h, rfl⟩ | ⟨rfl, x, rfl, hx⟩ | ⟨rfl, x, rfl, hx⟩
  · rcases h with h | rfl | rfl
    · have k : n / 1000 = 20 := by omega
      have m : n % 1000 = n - 20000 := by omega
      have e1 : ¬ n = 21000 := by omega
      have e2 : ¬ n = 26000 := by omega
      have e3 : ¬ n = 23000 := by omega
      have e4 : ¬ n = 24000 := by omega
      refine ⟨by omega, by omega, ?_, ?_⟩
      · simp [sGood, k, m, hE]
        omega
      · simp [sFin, k, m, zLast, e1, e2, e3, e4, ndn, nd1]
    · exact ⟨by omega, by omega, by simp [sGood, hE], rfl⟩
    · exact ⟨by omega, by omega, by simp [sGood, hE], rfl⟩
  · exact ⟨by omega, by omega, by simp [sGood, hE, sh_isE hx], rfl⟩
  · exact ⟨by omega, by omega, by simp [sGood, hE, sh_isL hx], rfl⟩
theorem zAfter_S {e : T} (hw : wfz fs true) (ht : tl fs = 0) (he : sh e 0 = true) (hp : pl ≤ 150) (hb : zB pl 1 fs J) (h70 : J 7 0 = 0) : Sim ts pl (af fs 3, e :: flat fs, J, B) (zAfter (tok ts pl) e fs J B) := by
  cases fs with
  | nil => exact hw.elim
  | cons f r =>
    obtain ⟨k, n, tr⟩ := f
    have k1 : k ≠ 1 := by
      intro q
      simp [tl, q] at ht
    have hw0 := hw
    obtain ⟨h1, h2⟩ := hw
    have l0 := af_len r 0
    have l4 := af_len r 4
    have hsb : ∀ {l : List Nat} {P : List T}, l.length ≤ 9 * ((k, n, tr) :: r).length + (flat ((k, n, tr) :: r)).length + 60 → P.length ≤ (flat ((k, n, tr) :: r)).length + 1 + 5 → sb l P J := fun a b => zB_sb hp hb a b
    simp only [List.length_cons, flat, List.length_append] at hsb
    show Sim ts pl _ (if k = 2 then _ else _)
    by_cases k2 : k = 2
    · rw [if_pos k2]
      subst k2
      simp [wfF] at h1
      subst h1
      exact Sim_tok (x := 123) (l := af r 0) (by omega) (hsb (by omega) (by simp [flat] <;> omega)) fun c => sR_refl
    · rw [if_neg k2]
      by_cases k3 : k = 3
      · rw [if_pos k3]
        subst k3
        simp [wfF] at h1
        obtain ⟨rfl, -⟩ := h1
        refine Sim_tok (x := 126) (l := 7000 :: af r 0) (by omega) (hsb (by simp; omega) (by simp [flat] <;> omega)) fun c => ?_
        exact sR_fin (x := 7000) (hsb (by omega) (by simp [flat] <;> omega)) (by omega) (by omega) (by simp [sGood, sh_isE he]) rfl
      · rw [if_neg k3]
        by_cases k45 : k = 4 ∨ k = 5
        · rw [if_pos k45]
          have h1' : n < 150 ∧ ∃ s q, tr = [(.mulR s q : T)] ∧ sh s 4 = true ∧ q / 4 = n := by
            rcases k45 with rfl | rfl
            · simpa [wfF] using h1
            · simpa [wfF] using h1
          obtain ⟨h0, s, q, rfl, a1, a2⟩ := h1'
          have hF : wfF k n [grow (.mulR s q : T) e] := by
            rcases k45 with rfl | rfl
            · simp [wfF, grow, h0, sh_snoc4 a1 he, a2]
            · simp [wfF, grow, h0, sh_snoc4 a1 he, a2]
          have hw' : wfz ((k, n, [grow (.mulR s q : T) e]) :: r) true := ⟨hF, h2⟩
          have hb' : zB pl 0 ((k, n, [grow (.mulR s q : T) e]) :: r) J := by
            have := zB_dn (n' := 0) (a := 0) (fs' := (k, n, [grow (.mulR s q : T) e]) :: r) hb (by simp) (by simp [flat] <;> omega) (by simp [dF]) (by simp [bot])
            rw [ndn_0] at this
            exact this
          simp only [List.length_cons, List.length_nil] at hsb
          have lac : (ac ((k, n, [grow (.mulR s q : T) e]) :: r)).length ≤ 9 * r.length + (flat r).length + 4 := by
            simp only [ac]
            split
            · omega
            · simp; omega
          have ea : af ((k, n, [(.mulR s q : T)]) :: r) 3 = 9000 :: 217 :: 123 :: ac ((k, n, [grow (.mulR s q : T) e]) :: r) := by
            rcases k45 with rfl | rfl
            · simp [af, ac]
            · simp [af, ac]
          rw [ea]
          refine Sim_of (sR_fin (x := 9000) (hsb (by simp; omega) (by simp [flat] <;> omega)) (by omega) (by omega) (by simp [sGood, sh_isE he, flat, isCall]) (q := (grow (.mulR s q : T) e :: flat r, J, B)) rfl) ?_
          have s217 : ∀ {S1 : zS}, sStep (tok ts pl) pl (217 :: 123 :: ac ((k, n, [grow (.mulR s q : T) e]) :: r), grow (.mulR s q : T) e :: flat r, J, B) = some (S1, false) → sR ts pl (217 :: 123 :: ac ((k, n, [grow (.mulR s q : T) e]) :: r), grow (.mulR s q : T) e :: flat r, J, B) pl S1 := fun h => sR_s (hsb (by simp; omega) (by simp; omega)) (sPre_lo (l := []) (hsb (by simp) (by simp; omega)) (by omega) (by omega) (by omega) (by omega) (by omega)) h
          refine Sim_if (fun c => ?_) fun c1 => Sim_if (fun c => ?_) fun c2 => ?_
          · refine Sim_of (s217 (S1 := ([124, 208, 9000, 217] ++ (123 :: ac ((k, n, [grow (.mulR s q : T) e]) :: r)), grow (.mulR s q : T) e :: flat r, J, B)) (by simp [sStep, c])) ?_
            refine Sim_take (x := 124) (by omega) (hsb (by simp; omega) (by simp; omega)) c ?_
            refine sR_trans (sR_208 (hsb (by simp; omega) (by simp; omega)) (by simp; have := hb.1; have := hb.2.1; simp [flat] at *; omega)) ?_
            show sR ts (pl + 1) _ (pl + 1) (210 :: af ((k, n, [grow (.mulR s q : T) e]) :: r) 2, [] ++ flat ((k, n, [grow (.mulR s q : T) e]) :: r), J, B)
            have e2 : af ((k, n, [grow (.mulR s q : T) e]) :: r) 2 = 209 :: 9000 :: 217 :: 123 :: ac ((k, n, [grow (.mulR s q : T) e]) :: r) := by
              rcases k45 with rfl | rfl
              · simp [af, ac]
              · simp [af, ac]
            rw [e2]
            exact sR_refl
          · refine Sim_of (s217 (S1 := (123 :: ac ((k, n, [grow (.mulR s q : T) e]) :: r), grow (.mulR s q : T) e :: flat r, J, B)) (by simp [sStep, c1])) ?_
            exact zCall_S hw' k45 hp hb' c
          · refine Sim_of (s217 (S1 := (123 :: ac ((k, n, [grow (.mulR s q : T) e]) :: r), grow (.mulR s q : T) e :: flat r, J, B)) (by simp [sStep, c1])) ?_
            exact Sim_bad (x := 123) (by omega) (hsb (by simp; omega) (by simp; omega)) c2
        · rw [if_neg k45]
          have hr : wfz r false := by
            rcases h2 with h2 | h2 | h2
            · omega
            · omega
            · exact h2.2
          by_cases k6 : k = 6
          · rw [if_pos k6]
            subst k6
            simp [wfF] at h1
            obtain ⟨rfl, -⟩ := h1
            show Sim ts pl (126 :: ([120, 208, 21000, 4000, 206] ++ af r 4), e :: flat r, J, B) _
            exact Sim_tok (x := 126) (l := [120, 208, 21000, 4000, 206] ++ af r 4) (by omega) (hsb (by simp; omega) (by simp [flat] <;> omega)) fun c => sR_refl
          · rw [if_neg k6]
            by_cases k8 : k = 8
            · rw [if_pos k8]
              subst k8
              simp [wfF] at h1
              obtain ⟨rfl, -⟩ := h1
              show Sim ts pl (165 :: ([205, 163, 25000, 4000, 206] ++ af r 4), e :: flat r, J, B) _
              refine Sim_tok (x := 165) (l := [205, 163, 25000, 4000, 206] ++ af r 4) (by omega) (hsb (by simp; omega) (by simp [flat] <;> omega)) fun c => ?_
              exact sR_205 (l := [163, 25000, 4000, 206] ++ af r 4) (P := e :: flat r) (hsb (by simp; omega) (by simp [flat] <;> omega))
            · rw [if_neg k8]
              by_cases k11 : k = 11
              · rw [if_pos k11]
                subst k11
                simp [wfF] at h1
                have ea : af ((11, n, tr) :: r) 3 = 161 :: 205 :: 218 :: (rep27 (tr.length / 2) ++ ([163, 4000, 206] ++ af r 4)) := by simp [af]
                rw [ea]
                have lr : (rep27 (tr.length / 2) ++ ([163, 4000, 206] ++ af r 4)).length ≤ tr.length + 3 + (af r 4).length := by simp [rep27]; omega
                refine Sim_tok (x := 161) (by omega) (hsb (by simp only [List.length_cons]; omega) (by simp [flat] <;> omega)) fun c => ?_
                have s5 := sR_205 (ts := ts) (pl := pl + 1) (l := 218 :: (rep27 (tr.length / 2) ++ ([163, 4000, 206] ++ af r 4))) (P := e :: (tr ++ flat r)) (J := J) (B := B) (hsb (by simp only [List.length_cons]; omega) (by simp [flat] <;> omega))
                show sR ts (pl + 1) _ (pl + 1) (223 :: 206 :: af ((12, 0, .var 99 :: e :: tr) :: r) 4, [] ++ (.var 99 :: e :: tr ++ flat r), ndn J 1, B)
                have e12 : af ((12, 0, (.var 99 : T) :: e :: tr) :: r) 4 = 218 :: (rep27 (tr.length / 2) ++ ([163, 4000, 206] ++ af r 4)) := by
                  have q : (tr.length + 1 + 1) / 2 - 1 = tr.length / 2 := by omega
                  simp [af, q]
                rw [e12]
                exact s5
              · rw [if_neg k11]
                have k7 : k = 7 := by omega
                subst k7
                have hs := zLast_ok h1 he
                obtain ⟨-, -, -, -, -, -, -, -, hw2⟩ := addSt_ok hr hs
                obtain ⟨n1, n2, n3, n4⟩ := addSt_num (fs := r) (s := zLast n tr e)
                obtain ⟨f1, f2, f3, f4⟩ := zLast_fin (J := J) (B := B) (P := flat r) h1 he
                have ea : af ((7, n, tr) :: r) 3 = n :: 4000 :: 206 :: af r 4 := by simp [af]
                rw [ea]
                refine Sim_of (sR_fin (hsb (by simp; omega) (by simp [flat] <;> omega)) f2 f1 f3 f4) ?_
                refine Sim_of (sR_add (J := ndn J 1) hr hs (zB_sb1 hp hb (by omega) (by simp [flat]; omega) (by simp [flat]; omega))) ?_
                have hb2 : zB pl 0 (addSt r (zLast n tr e)) (ndn J 1) := by
                  refine zB_dn hb ?_ ?_ ?_ ?_
                  · rw [n1]; simp
                  · rw [n2]; simp [flat] <;> omega
                  · rw [n3]; simp [dF] <;> omega
                  · rw [n4, bot_cons hr]
                have := zStEnd_S (ts := ts) (B := B) hw2 hp hb2 (by rw [ndn_o _ _ _ _ (by omega)]; exact h70)
                rw [af_add] at this
                exact this
theorem zFactor_S (hw : wfz fs true) (hp : pl ≤ 150) (hb : zB pl 0 fs J) (ht : tok ts pl = 999 ∨ tok ts pl < 174) : Sim ts pl (214 :: af fs 0, flat fs, J, B) (zFactor (tok ts pl) pl fs J B) := by
  have l0 := af_len fs 0
  have hsb : ∀ {l : List Nat} {P : List T}, l.length ≤ 9 * fs.length + (flat fs).length + 60 → P.length ≤ (flat fs).length + 0 + 5 → sb l P J := fun a b => zB_sb hp hb a b
  have hpr : ∀ {t : Nat}, sPre t pl 214 (flat fs) J := sPre_lo (l := []) (hsb (by simp) (by omega)) (by omega) (by omega) (by omega) (by omega) (by omega)
  have hbb : sb (af fs 0) (flat fs) J := hsb (by omega) (by omega)
  unfold zFactor
  refine Sim_if (fun c => ?_) fun c1 => Sim_if (fun c => ?_) fun c2 => Sim_if (fun c => ?_) fun c3 => Sim_if (fun c => ?_) fun c4 => Sim_if (fun c => ?_) fun c5 => Sim_if (fun c => ?_) fun c6 => ?_
  · exact sR_t hbb hpr (by simp [sStep, c, sOf, tk, ndn, nd1])
  · exact sR_t hbb hpr (by simp [sStep, c1, c, sOf, tk, ndn, nd1])
  · refine Sim_of (sR_s hbb hpr (S1 := ([108, 125, 208, 126, 7000] ++ af fs 0, flat fs, J, B)) (by simp [sStep, c])) ?_
    refine Sim_take (x := 108) (by omega) (hsb (by simp; omega) (by omega)) c ?_
    simp [sOf, tk, af, flat]
    exact sR_refl
  · have c' := c
    simp only [isProcName, Bool.and_eq_true, decide_eq_true_eq] at c'
    refine Sim_of (sR_s hbb hpr (S1 := (215 :: af fs 0, flat fs, J, B)) (by simp [sStep, c1, c2, c3, c])) ?_
    have hb5 : sb (af fs 0) (flat fs) J := hbb
    have hp5 : sPre (tok ts pl) pl 215 (flat fs) J := ⟨by have := hbb.2.1; omega, by have := hbb.2.2; omega, Or.inl (by omega), fun q => by omega, fun q => by omega, fun q => by omega, fun q => by omega, fun _ => c, fun q => by omega⟩
    have := sR_t (S1 := ([122, 216] ++ af fs 0, (.mulR (.var 99) (tok ts pl - 110 + 4 * pl) : T) :: flat fs, ndn J 1, B)) (B := B) hb5 hp5 (by simp [sStep, c, ndn, nd1])
    exact this
  · refine Sim_of (sR_s hbb hpr (S1 := ([122, 208, 123] ++ af fs 0, flat fs, J, B)) (by simp [sStep, c, isProcName])) ?_
    refine Sim_take (x := 122) (by omega) (hsb (by simp; omega) (by omega)) c ?_
    refine sR_trans (sR_208 (hsb (by simp; omega) (by omega)) (by have := hb.1; have := hb.2.1; simp; omega)) ?_
    simp [sOf, tk, af, flat]
    exact sR_refl
  · refine Sim_of (sR_s hbb hpr (S1 := ([152, 214, 8000] ++ af fs 0, flat fs, J, B)) (by simp [sStep, c, isProcName])) ?_
    exact Sim_take (x := 152) (by omega) (hsb (by simp; omega) (by omega)) c sR_refl
  · exact Sim_none hbb hpr (by simp [sStep, c1, c2, c3, c4, c5, c6])
theorem zExpr_S (hw : wfz fs true) (h1 : tl fs ≤ 1) (hp : pl ≤ 150) (hb : zB pl 0 fs J) (ht : tok ts pl = 999 ∨ tok ts pl < 174) : Sim ts pl (210 :: af fs 2, flat fs, J, B) (zExpr (tok ts pl) pl fs J B) := by
  have l2 := af_len fs 2
  have hsb : ∀ {l : List Nat} {P : List T}, l.length ≤ 9 * fs.length + (flat fs).length + 60 → P.length ≤ (flat fs).length + 0 + 5 → sb l P J := fun a b => zB_sb hp hb a b
  have e0 : af fs 0 = 213 :: 211 :: af fs 2 := by rw [af_0 hw (by omega), af_1 hw h1]
  unfold zExpr
  refine Sim_if (fun c => ?_) fun c1 => Sim_if (fun c => ?_) fun c2 => ?_
  · refine Sim_of (sR_ex (x := 210) (k := [130, 212, 211]) (hsb (by omega) (by omega)) (by omega) (by omega) (by simp [sExpr, c])) ?_
    refine Sim_take (x := 130) (by omega) (hsb (by simp; omega) (by omega)) c ?_
    refine sR_trans (sR_212 (hsb (by simp; omega) (by omega))) ?_
    show sR ts (pl + 1) _ (pl + 1) (214 :: af fs 0, [] ++ flat fs, J, B)
    rw [e0]
    exact sR_refl
  · refine Sim_of (sR_ex (x := 210) (k := [131, 212, 6000, 211]) (hsb (by omega) (by omega)) (by omega) (by omega) (by simp [sExpr, c])) ?_
    refine Sim_take (x := 131) (by omega) (hsb (by simp; omega) (by omega)) c ?_
    refine sR_trans (sR_212 (hsb (by simp; omega) (by omega))) ?_
    simp [sOf, tk, af, flat]
    exact sR_refl
  · refine Sim_of (sR_ex (x := 210) (k := [212, 211]) (hsb (by omega) (by omega)) (by omega) (by omega) (by simp [sExpr, c1, c2])) ?_
    refine Sim_of (sR_212 (hsb (by simp; omega) (by omega))) ?_
    have := zFactor_S (ts := ts) (B := B) hw hp hb ht
    rw [e0] at this
    exact this
theorem zOper_S {e : T} (hw : wfz fs true) (he : sh e 0 = true) (hp : pl ≤ 150) (hb : zB pl 1 fs J) (h70 : J 7 0 = 0) (ht : isBin (tok ts pl) = true) : Sim ts pl (af fs 0, e :: flat fs, J, B) (zOper (tok ts pl) e fs J B) := by
  have bf : bF fs J := by
    obtain ⟨g1, g2, g3, -⟩ := hb
    have := dF_len fs
    exact ⟨by omega, by omega, by omega⟩
  have hn := isBin_n ht
  unfold zOper
  by_cases c : isTerm (tok ts pl) = true
  · have nr : ¬ isRel (tok ts pl) = true := by
      simp [isTerm] at c
      simp [isRel]
      omega
    simp only [c, if_true]
    rw [if_neg nr]
    refine Sim_of (zRed2 hw he bf) ?_
    obtain ⟨w1, w2, w3, w4, w5⟩ := zOps_ok 2 hw he
    have w6 := zOps_tl 2 fs e
    obtain ⟨b1, b2, b3⟩ := bF_ops (m := 2) hw he bf
    have hl := af_len (zOps 2 fs e).1 1
    rw [af_0 w1 w6]
    have hbb : ∀ {l : List Nat}, l.length ≤ 1580 → sb l ((zOps 2 fs e).2 :: flat (zOps 2 fs e).1) (ndn J (fs.length - (zOps 2 fs e).1.length)) := fun q => ⟨q, by simp; omega, by omega⟩
    refine Sim_of (sR_ex (x := 213) (k := [tok ts pl, 214, 5000 + tok ts pl, 213]) (hbb (by omega)) (by omega) (by omega) ?_) ?_
    · simp [isTerm] at c
      simp only [sExpr]
      rw [if_neg (by omega), if_neg (by omega), if_neg (by omega), if_neg (by omega), if_neg (by omega), if_pos (by omega)]
    · refine Sim_take (x := tok ts pl) (by omega) (hbb (by simp; omega)) rfl ?_
      have z2 : zLev (tok ts pl) = 2 := by
        simp [isTerm] at c
        unfold zLev
        rw [if_neg (by omega), if_neg (by omega), if_neg nr, if_neg (by omega)]
      have n9 : ¬ tok ts pl = 9 := by omega
      have n8 : ¬ tok ts pl = 8 := by omega
      simp [sOf, tk, af, flat, z2, n9, n8]
      exact sR_refl
  · have c' : isTerm (tok ts pl) = false := by simpa using c
    simp only [c]
    obtain ⟨w1, w2, w3, w4, w5⟩ := zOps_ok 1 hw he
    have w6 := zOps_tl 1 fs e
    obtain ⟨b1, b2, b3⟩ := bF_ops (m := 1) hw he bf
    have hl2 := af_len (zOps 1 fs e).1 2
    have hl3 := af_len (zOps 1 fs e).1 3
    have hbb : ∀ {l : List Nat}, l.length ≤ 1580 → sb l ((zOps 1 fs e).2 :: flat (zOps 1 fs e).1) (ndn J (fs.length - (zOps 1 fs e).1.length)) := fun q => ⟨q, by simp; omega, by omega⟩
    by_cases cr : isRel (tok ts pl) = true
    · have ns : isSimp (tok ts pl) = false := by
        simp [isRel] at cr
        simp [isSimp]
        omega
      show Sim ts pl _ (if isRel (tok ts pl) = true then _ else _)
      rw [if_pos cr]
      show Sim ts pl _ (if tl (zOps 1 fs e).1 = 0 then _ else _)
      by_cases c0 : tl (zOps 1 fs e).1 = 0
      · rw [if_pos c0]
        refine Sim_of (zRedS hw he bf c' ns) ?_
        rw [af_2 w1 c0]
        refine Sim_of (sR_ex (x := 209) (k := [tok ts pl, 210, 5000 + tok ts pl]) (hbb (by omega)) (by omega) (by omega) (by simp [sExpr, cr])) ?_
        refine Sim_take (x := tok ts pl) (by omega) (hbb (by simp; omega)) rfl ?_
        have z0 : zLev (tok ts pl) = 0 := by
          unfold zLev
          rw [if_neg (by omega), if_neg (by omega), if_pos cr]
        have n9 : ¬ tok ts pl = 9 := by omega
        have n8 : ¬ tok ts pl = 8 := by omega
        simp [sOf, tk, af, flat, z0, n9, n8]
        exact sR_refl
      · rw [if_neg c0]
        refine Sim_of (zRedE hw he bf c' ns (fun q => absurd q c0)) ?_
        have hz := zAfter_S (ts := ts) (B := B) (fs := (zOps 0 fs e).1) (e := (zOps 0 fs e).2) (J := ndn J (fs.length - (zOps 0 fs e).1.length)) (zOps_ok 0 hw he).1 (by have := zOps_tl 0 fs e; omega) (zOps_ok 0 hw he).2.1 hp (zB_dn (n := 1) hb (zOps_len 0 fs e) (by have := (zOps_ok 0 hw he).2.2.2.2; omega) (by have := (zOps_ok 0 hw he).2.2.2.1; omega) (zOps_ok 0 hw he).2.2.1) (by rw [ndn_o _ _ _ _ (by omega)]; exact h70)
        have hnone : ∀ {fs : List zF} {e : T} {J : zJ}, wfz fs true → tl fs = 0 → zAfter (tok ts pl) e fs J B = none := by
          intro fs e J hw ht
          simp [isRel] at cr
          have stn : ∀ {fs : List zF} {J : zJ}, zStEnd (tok ts pl) fs J B = none := by
            intro fs J
            unfold zStEnd
            rw [if_neg (by omega)]
            cases fs with
            | nil => rfl
            | cons f r =>
              obtain ⟨k, n, tr⟩ := f
              simp only
              repeat' (first | rw [if_neg (show ¬ tok ts pl = 163 by omega)] | rw [if_neg (show ¬ tok ts pl = 173 by omega)] | rw [if_neg (show ¬ tok ts pl = 162 by omega)] | rw [if_neg (show ¬ tok ts pl = 167 by omega)])
              repeat' split
              all_goals rfl
          cases fs with
          | nil => rfl
          | cons f r =>
            obtain ⟨k, n, tr⟩ := f
            simp only [zAfter]
            rw [stn]
            rw [if_neg (show ¬ tok ts pl = 123 by omega), if_neg (show ¬ tok ts pl = 126 by omega), if_neg (show ¬ tok ts pl = 124 by omega), if_neg (show ¬ tok ts pl = 123 by omega), if_neg (show ¬ tok ts pl = 126 by omega), if_neg (show ¬ tok ts pl = 165 by omega), if_neg (show ¬ tok ts pl = 161 by omega)]
            repeat' split
            all_goals rfl
        rw [hnone (zOps_ok 0 hw he).1 (by have := zOps_tl 0 fs e; omega)] at hz
        exact hz
    · have ns : isSimp (tok ts pl) = true := by
        simp only [isBin, Bool.or_eq_true] at ht
        rcases ht with (ht | ht) | ht
        · exact absurd ht cr
        · exact ht
        · exact absurd ht c
      show Sim ts pl _ (if isRel (tok ts pl) = true then _ else _)
      rw [if_neg cr]
      refine Sim_of (zRedT hw he bf c') ?_
      rw [af_1 w1 w6]
      have ns' := ns
      simp [isSimp] at ns'
      refine Sim_of (sR_ex (x := 211) (k := [tok ts pl, 212, 5000 + tok ts pl, 211]) (hbb (by omega)) (by omega) (by omega) ?_) ?_
      · simp only [sExpr]
        rw [if_neg (by omega), if_neg (by omega), if_neg (by omega), if_pos trivial, if_pos (by omega)]
      · refine Sim_take (x := tok ts pl) (by omega) (hbb (by simp; omega)) rfl ?_
        refine sR_trans (sR_212 (hbb (by simp; omega))) ?_
        have z1 : zLev (tok ts pl) = 1 := by
          unfold zLev
          rw [if_neg (by omega), if_neg (by omega), if_neg cr, if_pos (by omega)]
        have n9 : ¬ tok ts pl = 9 := by omega
        have n8 : ¬ tok ts pl = 8 := by omega
        simp [sOf, tk, af, flat, z1, n9, n8]
        exact sR_refl
end ZS3
