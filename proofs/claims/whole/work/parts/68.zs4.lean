/-! Z against S: one token; a whole text -/
section ZS4
variable {ts : List Nat} {pl : Nat} {B : Nat → T} {fs : List zF} {J : zJ}
theorem zStBegin_S (hw : wfz fs false) (hp : pl ≤ 150) (hb : zB pl 0 fs J) (hs : begStmt (tok ts pl) = true) : Sim ts pl (223 :: 206 :: af fs 4, flat fs, J, B) (zStBegin (tok ts pl) pl fs J B) := by
  have l4 := af_len fs 4
  have hsb : ∀ {l : List Nat} {P : List T}, l.length ≤ 9 * fs.length + (flat fs).length + 60 → P.length ≤ (flat fs).length + 0 + 5 → sb l P J := fun a b => zB_sb hp hb a b
  have g1 := hb.1
  have g2 := hb.2.1
  refine Sim_of (sR_pt (x := 223) (k := [207, 4000]) (hsb (by simp; omega) (by omega)) (by omega) (by simp [sParts, hs])) ?_
  have e207 : sR ts pl ([207, 4000] ++ (206 :: af fs 4), flat fs, J, B) pl (sStmt (tok ts pl) ++ (4000 :: 206 :: af fs 4), flat fs, J, B) := sR_s (hsb (by simp; omega) (by omega)) (sPre_lo (l := []) (hsb (by simp) (by omega)) (by omega) (by omega) (by omega) (by omega) (by omega)) rfl
  refine Sim_of e207 ?_
  unfold zStBegin sStmt
  by_cases c1 : isName (tok ts pl) = true
  · rw [if_pos c1, if_pos c1]
    simp only [isName, Bool.and_eq_true, decide_eq_true_eq] at c1
    exact Sim_take (x := tok ts pl) (by omega) (hsb (by simp; omega) (by omega)) rfl sR_refl
  · rw [if_neg c1, if_neg c1]
    by_cases c2 : tok ts pl = 108
    · rw [if_pos c2, if_pos c2]
      exact Sim_take (x := 108) (by omega) (hsb (by simp; omega) (by omega)) c2 sR_refl
    · rw [if_neg c2, if_neg c2]
      by_cases c3 : isProcName (tok ts pl) = true
      · rw [if_pos c3, if_pos c3]
        have hbb : sb (22000 :: 4000 :: 206 :: af fs 4) (flat fs) J := hsb (by simp; omega) (by omega)
        have hp5 : sPre (tok ts pl) pl 215 (flat fs) J := ⟨by have := hbb.2.1; omega, by have := hbb.2.2; omega, Or.inl (by omega), fun q => by omega, fun q => by omega, fun q => by omega, fun q => by omega, fun _ => c3, fun q => by omega⟩
        exact sR_t (S1 := ([122, 216] ++ (22000 :: 4000 :: 206 :: af fs 4), (.mulR (.var 99) (tok ts pl - 110 + 4 * pl) : T) :: flat fs, ndn J 1, B)) (B := B) hbb hp5 (by simp [sStep, c3, ndn, nd1])
      · rw [if_neg c3, if_neg c3]
        by_cases c4 : tok ts pl = 169
        · rw [if_pos c4, if_pos c4]
          refine Sim_take (x := 169) (by omega) (hsb (by simp; omega) (by omega)) c4 ?_
          refine sR_trans (sR_208 (hsb (by simp; omega) (by omega)) (by simp; omega)) ?_
          exact sR_refl
        · rw [if_neg c4, if_neg c4]
          by_cases c5 : tok ts pl = 168
          · rw [if_pos c5, if_pos c5]
            refine Sim_take (x := 168) (by omega) (hsb (by simp; omega) (by omega)) c5 ?_
            refine sR_trans (sR_208 (hsb (by simp; omega) (by omega)) (by simp; omega)) ?_
            exact sR_refl
          · rw [if_neg c5, if_neg c5]
            by_cases c6 : tok ts pl = 164
            · rw [if_pos c6, if_pos c6]
              refine Sim_take (x := 164) (by omega) (hsb (by simp; omega) (by omega)) c6 ?_
              refine sR_trans (sR_208 (hsb (by simp; omega) (by omega)) (by simp; omega)) ?_
              exact sR_refl
            · rw [if_neg c6, if_neg c6]
              by_cases c7 : tok ts pl = 166
              · rw [if_pos c7, if_pos c7]
                refine Sim_take (x := 166) (by omega) (hsb (by simp; omega) (by omega)) c7 ?_
                exact sR_205 (l := 167 :: 208 :: 26000 :: 4000 :: 206 :: af fs 4) (hsb (by simp; omega) (by omega))
              · rw [if_neg c7, if_neg c7]
                have c8 : tok ts pl = 160 := by
                  simp [begStmt] at hs
                  simp [isName] at c1
                  simp [isProcName] at c3
                  omega
                refine Sim_take (x := 160) (by omega) (hsb (by simp; omega) (by omega)) c8 ?_
                refine sR_trans (sR_208 (hsb (by simp; omega) (by omega)) (by simp; omega)) ?_
                exact sR_refl
theorem zHead_S {x nx : Nat} {l : List Nat} (hx : x = 219 ∨ x = 220 ∨ x = 221) (hl : l.length ≤ 100) (hp : pl ≤ 150) (h0 : 0 < pl) (h3 : J 4 3 < 30) (h5 : J 4 5 < 390) (h1 : ∀ p, J 1 p ≤ pl - 1) (ht : tk nx [] = l) : Sim ts pl (x :: l, [], J, B) (zHead x nx (tok ts pl) pl J B) := by
  have hbb : sb l ([] : List T) J := ⟨by omega, by simp, h5⟩
  have hpr : sPre (tok ts pl) pl x ([] : List T) J := ⟨by simp, by omega, Or.inl (by omega), fun q => by omega, fun q => by omega, fun _ => ⟨h0, h3⟩, fun _ => by have := h1 (J 4 0); omega, fun q => by omega, fun q => by omega⟩
  have hst : sStep (tok ts pl) pl (x :: l, ([] : List T), J, B) = (match sNames x (tok ts pl) pl J with | some J1 => some ((l, [], J1, B), true) | none => none) := by
    simp only [sStep]
    rw [if_neg (by omega), if_neg (by omega), if_pos (by omega)]
    rfl
  unfold zHead
  cases e : sNames x (tok ts pl) pl J with
  | none =>
    rw [e] at hst
    exact Sim_none hbb hpr hst
  | some J1 =>
    rw [e] at hst
    have := sR_t hbb hpr hst
    show sR ts pl _ (pl + 1) (tk nx [], [] ++ [], J1, B)
    rw [ht]
    exact this
theorem Sim_beg {k : Nat} {l : List Nat} (hk : (k = 14 ∧ l = [3000, 200]) ∨ (k = 15 ∧ l = [2000])) (h5 : J 4 5 < 380) : Sim ts pl (171 :: 205 :: 163 :: l, [], J, B) (if tok ts pl = 171 then some (9, [], [(k, 0, [.var 99])], ndn J 1, B) else none) := by
  have hbb : ∀ {l : List Nat}, l.length ≤ 20 → sb l ([] : List T) J := fun q => ⟨by omega, by simp, by omega⟩
  rcases hk with ⟨rfl, rfl⟩ | ⟨rfl, rfl⟩
  · exact Sim_tok (x := 171) (by omega) (hbb (by simp)) fun c => sR_205 (l := [163, 3000, 200]) (hbb (by simp))
  · exact Sim_tok (x := 171) (by omega) (hbb (by simp)) fun c => sR_205 (l := [163, 2000]) (hbb (by simp))
theorem zStep_S {z : zZ} (hp : pl ≤ 150) (hz : zGd z) (hb : zBd pl z) (h24 : z.1 ≠ 24) (h70 : z.2.2.2.1 7 0 = 0) (ht : tok ts pl = 999 ∨ tok ts pl < 174) : Sim ts pl (sOf z) (zStep (tok ts pl) pl z) := by
  obtain ⟨nx, cs, fs, J, B⟩ := z
  by_cases c0 : nx ≤ 8 ∨ nx = 24
  · simp only [zGd, if_pos c0] at hz
    obtain ⟨rfl, rfl⟩ := hz
    obtain ⟨g1, g2, g3, g4, g5, g6⟩ := hb
    have h5 : J 4 5 < 380 := by omega
    have h3 : J 4 3 < 30 := by omega
    have hbb : ∀ {l : List Nat}, l.length ≤ 100 → sb l ([] : List T) J := fun q => ⟨by omega, by simp, by omega⟩
    have h24 : nx ≠ 24 := h24
    rcases (show nx = 0 ∨ nx = 1 ∨ nx = 2 ∨ nx = 3 ∨ nx = 4 ∨ nx = 5 ∨ nx = 6 ∨ nx = 7 ∨ nx = 8 by omega) with rfl | rfl | rfl | rfl | rfl | rfl | rfl | rfl | rfl
    · refine Sim_if (fun c => ?_) fun c => ?_
      · refine Sim_of (sR_pt (x := 200) (l := []) (k := [201, 200]) (hbb (by simp)) (by omega) (by simp [sParts, c])) ?_
        refine Sim_of (sR_pt (x := 201) (l := [200]) (k := [170, 219, 122, 202, 204, 171, 205, 163, 3000]) (hbb (by simp)) (by omega) rfl) ?_
        exact Sim_take (x := 170) (by omega) (hbb (by simp)) c sR_refl
      · refine Sim_of (sR_pt (x := 200) (l := []) (k := [171, 205, 163, 2000]) (hbb (by simp)) (by omega) (by simp [sParts, c])) ?_
        exact Sim_beg (Or.inr ⟨rfl, rfl⟩) h5
    · exact zHead_S (x := 219) (nx := 2) (Or.inl rfl) (by simp [tkB]) hp (by simp [hd] at g4; omega) h3 (by omega) g5 rfl
    · exact Sim_tok (x := 122) (by omega) (hbb (by simp [tkB])) fun c => sR_refl
    · show Sim ts pl (202 :: 204 :: tkB, [], J, B) _
      by_cases cn : isName (tok ts pl) = true
      · have cn' := cn
        simp only [isName, Bool.and_eq_true, decide_eq_true_eq] at cn'
        refine Sim_of (sR_pt (x := 202) (k := [220, 203, 123]) (hbb (by simp [tkB])) (by omega) (by simp [sParts, cn])) ?_
        show Sim ts pl _ (if tok ts pl = 123 then _ else _)
        rw [if_neg (by omega)]
        exact zHead_S (x := 220) (nx := 5) (Or.inr (Or.inl rfl)) (by simp [tkB]) hp (by simp [hd] at g4; omega) h3 (by omega) g5 rfl
      · refine Sim_of (sR_pt (x := 202) (k := [123]) (hbb (by simp [tkB])) (by omega) (by simp [sParts, cn])) ?_
        show Sim ts pl _ (if tok ts pl = 123 then _ else _)
        refine Sim_if (fun c => ?_) fun c => ?_
        · exact Sim_take (x := 123) (by omega) (hbb (by simp [tkB])) c sR_refl
        · have e : zHead 220 5 (tok ts pl) pl J B = none := by simp [zHead, sNames, cn]
          rw [e]
          exact Sim_bad (x := 123) (by omega) (hbb (by simp [tkB])) c
    · exact zHead_S (x := 220) (nx := 5) (Or.inr (Or.inl rfl)) (by simp [tkB]) hp (by simp [hd] at g4; omega) h3 (by omega) g5 rfl
    · show Sim ts pl (203 :: 123 :: 204 :: tkB, [], J, B) (if tok ts pl = 124 then _ else _)
      refine Sim_if (fun c => ?_) fun c => ?_
      · refine Sim_of (sR_pt (x := 203) (k := [124, 220, 203]) (hbb (by simp [tkB])) (by omega) (by simp [sParts, c])) ?_
        exact Sim_take (x := 124) (by omega) (hbb (by simp [tkB])) c sR_refl
      · refine Sim_of (sR_pt (x := 203) (k := []) (hbb (by simp [tkB])) (by omega) (by simp [sParts, c])) ?_
        exact Sim_tok (x := 123) (by omega) (hbb (by simp [tkB])) fun c => sR_refl
    · show Sim ts pl (204 :: tkB, [], J, B) (if tok ts pl = 172 then _ else _)
      refine Sim_if (fun c => ?_) fun c => ?_
      · refine Sim_of (sR_pt (x := 204) (k := [172, 221, 222]) (hbb (by simp [tkB])) (by omega) (by simp [sParts, c])) ?_
        exact Sim_take (x := 172) (by omega) (hbb (by simp [tkB])) c sR_refl
      · refine Sim_of (sR_pt (x := 204) (k := []) (hbb (by simp [tkB])) (by omega) (by simp [sParts, c])) ?_
        exact Sim_beg (Or.inl ⟨rfl, rfl⟩) h5
    · exact zHead_S (x := 221) (nx := 8) (Or.inr (Or.inr rfl)) (by simp [tkB]) hp (by simp [hd] at g4; omega) h3 (by omega) g5 rfl
    · show Sim ts pl (222 :: tkB, [], J, B) (if tok ts pl = 124 then _ else _)
      refine Sim_if (fun c => ?_) fun c => ?_
      · refine Sim_of (sR_pt (x := 222) (k := [124, 221, 222]) (hbb (by simp [tkB])) (by omega) (by simp [sParts, c])) ?_
        exact Sim_take (x := 124) (by omega) (hbb (by simp [tkB])) c sR_refl
      · refine Sim_of (sR_pt (x := 222) (k := []) (hbb (by simp [tkB])) (by omega) (by simp [sParts, c])) ?_
        exact Sim_beg (Or.inl ⟨rfl, rfl⟩) h5
  · have hB := zB_of (by omega) hb
    simp only [zGd, if_neg c0] at hz
    have l0 := af_len fs 0
    have l3 := af_len fs 3
    have l4 := af_len fs 4
    by_cases c9 : nx = 9 ∨ nx = 10
    · rw [if_pos c9] at hz
      obtain ⟨rfl, hw⟩ := hz
      have hsb : ∀ {l : List Nat} {P : List T}, l.length ≤ 9 * fs.length + (flat fs).length + 60 → P.length ≤ (flat fs).length + 0 + 5 → sb l P J := fun a b => zB_sb hp hB a b
      rcases c9 with rfl | rfl
      · show Sim ts pl (223 :: 206 :: af fs 4, flat fs, J, B) (if begStmt (tok ts pl) = true then _ else _)
        refine Sim_if (fun c => zStBegin_S hw hp hB c) fun c => ?_
        refine Sim_of (sR_pt (x := 223) (k := []) (hsb (by simp; omega) (by omega)) (by omega) (by simp [sParts, c])) ?_
        exact zStEnd_S hw hp hB h70
      · exact zStEnd_S hw hp hB h70
    · rw [if_neg c9] at hz
      by_cases c23 : nx = 23
      · rw [if_pos c23] at hz
        subst c23
        obtain ⟨hw, e, rfl, he⟩ := hz
        show Sim ts pl (af fs 0, e :: flat fs, J, B) (if isBin (tok ts pl) = true then _ else _)
        refine Sim_if (fun c => zOper_S hw he hp hB h70 c) fun c => ?_
        have bf : bF fs J := by
          obtain ⟨g1, g2, g3, -⟩ := hB
          have := dF_len fs
          simp only [List.length_cons, List.length_nil] at g2
          exact ⟨by omega, by omega, by omega⟩
        have c' : isBin (tok ts pl) = false := by simpa using c
        simp only [isBin, Bool.or_eq_false_iff] at c'
        refine Sim_of (zRedE hw he bf c'.2 c'.1.2 (fun _ => c'.1.1)) ?_
        obtain ⟨w1, w2, w3, w4, w5⟩ := zOps_ok 0 hw he
        have w6 := zOps_tl 0 fs e
        have w7 := zOps_len 0 fs e
        exact zAfter_S w1 (by omega) w2 hp (zB_dn (n := 1) hB w7 (by omega) (by omega) w3) (by rw [ndn_o _ _ _ _ (by omega)]; exact h70)
      · rw [if_neg c23] at hz
        obtain ⟨rfl, hw, hx⟩ := hz
        have hsb : ∀ {l : List Nat} {P : List T}, l.length ≤ 9 * fs.length + (flat fs).length + 60 → P.length ≤ (flat fs).length + 0 + 5 → sb l P J := fun a b => zB_sb hp hB a b
        have g1 := hB.1
        have g2 := hB.2.1
        simp only [List.length_nil] at g2
        have hk : ∀ {fs : List zF}, tp fs ≠ 1 → tl fs = 0 := by
          intro fs q
          cases fs with
          | nil => rfl
          | cons f r => simp [tl]; intro h; exact absurd h q
        have h208 : ∀ {t0 : Nat}, t0 < 200 → tl fs = 0 → Sim ts pl (t0 :: 208 :: af fs 3, flat fs, J, B) (if tok ts pl = t0 then some (21, [], fs, J, B) else none) := by
          intro t0 q1 q2
          refine Sim_tok (x := t0) q1 (hsb (by simp; omega) (by omega)) fun c => ?_
          refine sR_trans (sR_208 (hsb (by omega) (by omega)) (by omega)) ?_
          show sR ts (pl + 1) _ (pl + 1) (210 :: af fs 2, [] ++ flat fs, J, B)
          rw [af_2 hw q2]
          exact sR_refl
        rcases hx with ⟨rfl, hx⟩ | ⟨rfl, hx⟩ | ⟨rfl | rfl, hx⟩ | ⟨rfl, hx⟩ | rfl
        · exact h208 (by omega) (hk (by omega))
        · exact h208 (by omega) (hk (by omega))
        · have lac : (ac fs).length ≤ 9 * fs.length + (flat fs).length + 4 := by
            cases fs with
            | nil => simp [ac]
            | cons f r =>
              obtain ⟨k, n, tr⟩ := f
              have := af_len r 0
              have := af_len r 4
              simp only [ac, flat, List.length_cons, List.length_append]
              split
              · omega
              · simp; omega
          exact Sim_tok (x := 122) (l := 216 :: ac fs) (by omega) (hsb (by simp; omega) (by simp)) fun c => sR_refl
        · cases fs with
          | nil => exact hw.elim
          | cons f r =>
            obtain ⟨k, n, tr⟩ := f
            have lac : (ac ((k, n, tr) :: r)).length ≤ 9 * r.length + (flat r).length + 4 := by
              have := af_len r 0
              have := af_len r 4
              simp only [ac]
              split
              · omega
              · simp; omega
            have hx : k = 4 ∨ k = 5 := hx
            simp only [List.length_cons, flat, List.length_append] at hsb
            have s216 : ∀ {S1 : zS}, sStep (tok ts pl) pl (216 :: ac ((k, n, tr) :: r), tr ++ flat r, J, B) = some (S1, false) → sR ts pl (216 :: ac ((k, n, tr) :: r), tr ++ flat r, J, B) pl S1 := fun h => sR_s (hsb (by omega) (by simp)) (sPre_lo (l := []) (hsb (by simp) (by simp)) (by omega) (by omega) (by omega) (by omega) (by omega)) h
            show Sim ts pl (216 :: ac ((k, n, tr) :: r), tr ++ flat r, J, B) (if tok ts pl = 123 then _ else _)
            refine Sim_if (fun c => ?_) fun c => ?_
            · refine Sim_of (s216 (S1 := (123 :: ac ((k, n, tr) :: r), tr ++ flat r, J, B)) (by simp [sStep, c])) ?_
              exact zCall_S hw hx hp hB c
            · refine Sim_of (s216 (S1 := ([208, 9000, 217, 123] ++ ac ((k, n, tr) :: r), tr ++ flat r, J, B)) (by simp [sStep, c])) ?_
              simp only [List.length_cons, flat, List.length_append] at g1 g2
              refine Sim_of (sR_208 (hsb (by simp; omega) (by simp)) (by simp; omega)) ?_
              have e2 : af ((k, n, tr) :: r) 2 = 209 :: 9000 :: 217 :: 123 :: ac ((k, n, tr) :: r) := by
                rcases hx with rfl | rfl
                · simp [af, ac]
                · simp [af, ac]
              have := zExpr_S (ts := ts) (B := B) hw (by rw [hk (by show k ≠ 1; omega)]; omega) hp hB ht
              rw [e2] at this
              exact this
        · exact zExpr_S hw hx hp hB ht
        · exact zFactor_S hw hp hB ht
end ZS4
/-! the program's end is noted at its last token alone -/
def z7 (o : Option zZ) : Prop := ∀ z', o = some z' → z'.1 ≠ 24 → z'.2.2.2.1 7 0 = 0
theorem z7_n : z7 none := fun _ h => nomatch h
theorem z7_s {nx : Nat} {cs : List T} {fs : List zF} {J : zJ} {B : Nat → T} (h : J 7 0 = 0) : z7 (some (nx, cs, fs, J, B)) := fun _ e _ => by cases e; exact h
theorem z7_if {c : Prop} [Decidable c] {a b : Option zZ} (h1 : z7 a) (h2 : z7 b) : z7 (if c then a else b) := by
  by_cases h : c
  · rw [if_pos h]; exact h1
  · rw [if_neg h]; exact h2
section Z7
variable {t pl : Nat} {fs : List zF} {J : zJ} {B : Nat → T}
theorem ndn7 {n : Nat} (h : J 7 0 = 0) : ndn J n 7 0 = 0 := by rw [ndn_o _ _ _ _ (by omega)]; exact h
theorem sNames7 {x : Nat} {J1 : zJ} (h : sNames x t pl J = some J1) : J1 7 0 = J 7 0 := by
  unfold sNames at h
  by_cases c : x = 219
  · rw [if_pos c] at h
    split at h
    · cases h
      unfold sFault
      split <;> simp [jup]
    · cases h
  · rw [if_neg c] at h
    split at h
    · cases h
      unfold sFault
      repeat' split
      all_goals simp [jup]
    · cases h
theorem zHead7 {x nx : Nat} (h : J 7 0 = 0) : z7 (zHead x nx t pl J B) := by
  unfold zHead
  cases e : sNames x t pl J with
  | none => exact z7_n
  | some J1 => exact z7_s ((sNames7 e).trans h)
theorem zFactor7 (h : J 7 0 = 0) : z7 (zFactor t pl fs J B) := by
  unfold zFactor
  exact z7_if (z7_s (ndn7 h)) (z7_if (z7_s (ndn7 h)) (z7_if (z7_s h) (z7_if (z7_s (ndn7 h)) (z7_if (z7_s h) (z7_if (z7_s h) z7_n)))))
theorem zExpr7 (h : J 7 0 = 0) : z7 (zExpr t pl fs J B) := by
  unfold zExpr
  exact z7_if (z7_s h) (z7_if (z7_s h) (zFactor7 h))
theorem sFin3_7 {l : List T} (h : J 7 0 = 0) : (sFin 3000 l J B).2.1 7 0 = 0 := by
  simp only [sFin]
  simp
  split <;> simp [jup, h]
theorem zStEnd7 (h : J 7 0 = 0) : z7 (zStEnd t fs J B) := by
  unfold zStEnd
  refine z7_if (z7_s h) ?_
  cases fs with
  | nil => exact z7_n
  | cons f r =>
    obtain ⟨k, n, tr⟩ := f
    exact z7_if (z7_if (z7_s (ndn7 h)) (z7_if (z7_s h) (z7_if (z7_s (ndn7 h)) z7_n))) (z7_if (z7_if (z7_s (ndn7 h)) z7_n) (z7_if (z7_if (z7_s (ndn7 h)) z7_n) (z7_if (z7_if (z7_s h) z7_n) (z7_if (z7_if (z7_s (sFin3_7 h)) z7_n) (z7_if (fun z' e n24 => by cases e; exact absurd rfl n24) z7_n)))))
theorem zCall7 (h : J 7 0 = 0) : z7 (zCall fs J B) := by
  cases fs with
  | nil => exact z7_n
  | cons f r =>
    obtain ⟨k, n, tr⟩ := f
    exact z7_if (z7_s h) (z7_s (ndn7 h))
theorem zAfter7 {e : T} (h : J 7 0 = 0) : z7 (zAfter t e fs J B) := by
  cases fs with
  | nil => exact z7_n
  | cons f r =>
    obtain ⟨k, n, tr⟩ := f
    exact z7_if (z7_if (z7_s h) z7_n) (z7_if (z7_if (z7_s (ndn7 h)) z7_n) (z7_if (z7_if (z7_s h) (z7_if (zCall7 h) z7_n)) (z7_if (z7_if (z7_s h) z7_n) (z7_if (z7_if (z7_s (ndn7 h)) z7_n) (z7_if (z7_if (z7_s (ndn7 h)) z7_n) (zStEnd7 (ndn7 h)))))))
theorem zOper7 {e : T} (h : J 7 0 = 0) : z7 (zOper t e fs J B) := by
  unfold zOper
  exact z7_if (z7_if (z7_s (ndn7 h)) z7_n) (z7_s (ndn7 h))
theorem zStBegin7 (h : J 7 0 = 0) : z7 (zStBegin t pl fs J B) := by
  unfold zStBegin
  exact z7_if (z7_s h) (z7_if (z7_s h) (z7_if (z7_s (ndn7 h)) (z7_if (z7_s h) (z7_if (z7_s h) (z7_if (z7_s h) (z7_if (z7_s (ndn7 h)) (z7_s h)))))))
theorem zStep7 {z : zZ} (h : z.2.2.2.1 7 0 = 0) : z7 (zStep t pl z) := by
  obtain ⟨nx, cs, fs, J, B⟩ := z
  have h : J 7 0 = 0 := h
  have bb : z7 (if t = 171 then some (9, [], [(14, 0, [.var 99])], ndn J 1, B) else none) := z7_if (z7_s (ndn7 h)) z7_n
  unfold zStep
  exact z7_if (z7_if (z7_s h) (z7_if (z7_s (ndn7 h)) z7_n)) (z7_if (zHead7 h) (z7_if (z7_if (z7_s h) z7_n) (z7_if (z7_if (z7_s h) (zHead7 h)) (z7_if (zHead7 h) (z7_if (z7_if (z7_s h) (z7_if (z7_s h) z7_n)) (z7_if (z7_if (z7_s h) bb) (z7_if (zHead7 h) (z7_if (z7_if (z7_s h) bb) (z7_if (z7_if (zStBegin7 h) (zStEnd7 h)) (z7_if (zStEnd7 h) (z7_if (z7_if (z7_s h) z7_n) (z7_if (z7_if (z7_s h) z7_n) (z7_if (z7_if (z7_s h) z7_n) (z7_if (z7_if (zCall7 h) (zExpr7 h)) (z7_if (zExpr7 h) (z7_if (zFactor7 h) (z7_if (z7_if (zOper7 h) (zAfter7 (ndn7 h))) z7_n)))))))))))))))))
end Z7
