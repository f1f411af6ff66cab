/-! Z's step keeps shape and bounds -/
def zN (pl : Nat) (o : Option zZ) : Prop := ∀ z', o = some z' → zGd z' ∧ zBd (pl + 1) z'
theorem zN_none (pl : Nat) : zN pl none := fun _ h => nomatch h
theorem zN_some {pl : Nat} {z : zZ} (h : zGd z ∧ zBd (pl + 1) z) : zN pl (some z) := fun _ e => by cases e; exact h
theorem zN_if {pl : Nat} {c : Prop} [Decidable c] {a b : Option zZ} (h1 : c → zN pl a) (h2 : ¬ c → zN pl b) : zN pl (if c then a else b) := by
  by_cases h : c
  · rw [if_pos h]; exact h1 h
  · rw [if_neg h]; exact h2 h
section ZK
variable {pl t : Nat} {fs : List zF} {J : zJ} {B : Nat → T}
theorem zN_b {nx : Nat} {cs : List T} (hn : nx = 9 ∨ nx = 10) (hc : cs = []) (hw : wfz fs false) (hb : zB (pl + 1) 0 fs J) : zN pl (some (nx, cs, fs, J, B)) := by
  subst hc
  refine zN_some ⟨?_, zBd_of (by omega) hb⟩
  simp only [zGd]
  rw [if_neg (by omega), if_pos hn]
  exact ⟨trivial, hw⟩
theorem zN_23 {e : T} (hw : wfz fs true) (he : sh e 0 = true) (hb : zB (pl + 1) 1 fs J) : zN pl (some (23, [e], fs, J, B)) := by
  refine zN_some ⟨?_, zBd_of (by omega) hb⟩
  simp only [zGd]
  rw [if_neg (by omega), if_neg (by omega), if_pos trivial]
  exact ⟨hw, e, rfl, he⟩
theorem zN_e {nx : Nat} (hw : wfz fs true) (hx : (nx = 11 ∧ tp fs = 7) ∨ (nx = 15 ∧ (tp fs = 3 ∨ tp fs = 6)) ∨ ((nx = 17 ∨ nx = 18) ∧ (tp fs = 4 ∨ tp fs = 5)) ∨ (nx = 21 ∧ tl fs ≤ 1) ∨ nx = 22) (hb : zB (pl + 1) 0 fs J) : zN pl (some (nx, [], fs, J, B)) := by
  refine zN_some ⟨?_, zBd_of (by omega) hb⟩
  simp only [zGd]
  rw [if_neg (by omega), if_neg (by omega), if_neg (by omega)]
  exact ⟨trivial, hw, hx⟩
theorem zFactor_ok (hp : pl < 150) (hw : wfz fs true) (hb : zB pl 0 fs J) : zN pl (zFactor t pl fs J B) := by
  unfold zFactor
  refine zN_if (fun c => ?_) fun c1 => zN_if (fun c => ?_) fun c2 => zN_if (fun c => ?_) fun c3 => zN_if (fun c => ?_) fun c4 => zN_if (fun c => ?_) fun c5 => zN_if (fun c => ?_) fun c6 => zN_none _
  · exact zN_23 hw (by simp [sh, c]) (zB_up hb (by omega) (by omega) (by omega) rfl)
  · refine zN_23 hw ?_ (zB_up hb (by omega) (by omega) (by omega) rfl)
    have : t - 100 < 8 := by omega
    simp [sh, this]
  · exact zN_e ⟨by simp [wfF], Or.inr (Or.inl ⟨by omega, hw⟩)⟩ (Or.inr (Or.inl ⟨rfl, Or.inl rfl⟩)) (zB_upJ hb (by simp) (by simp [flat]) (by simp [dF] <;> omega) (bot_cons hw))
  · have hq : (t - 110 + 4 * pl) / 4 = pl := by
      simp [isProcName] at c
      omega
    exact zN_e ⟨by simp [wfF, hp, hq, sh], Or.inr (Or.inl ⟨by omega, hw⟩)⟩ (Or.inr (Or.inr (Or.inl ⟨Or.inl rfl, Or.inl rfl⟩))) (zB_up hb (by simp) (by simp [flat] <;> omega) (by simp [dF] <;> omega) (bot_cons hw))
  · exact zN_e ⟨by simp [wfF], Or.inr (Or.inl ⟨by omega, hw⟩)⟩ (Or.inr (Or.inr (Or.inr (Or.inl ⟨rfl, by simp [tl]⟩)))) (zB_upJ hb (by simp) (by simp [flat]) (by simp [dF] <;> omega) (bot_cons hw))
  · refine zN_e ⟨by simp [wfF], Or.inl ⟨rfl, hw, ?_⟩⟩ (Or.inr (Or.inr (Or.inr (Or.inr rfl)))) (zB_upJ hb (by simp) (by simp [flat]) (by simp [dF] <;> omega) (bot_cons hw))
    have h4 : tl fs ≤ 4 := by
      cases fs with
      | nil => exact Nat.zero_le _
      | cons f r =>
        simp only [tl, zLev]
        repeat' split
        all_goals omega
    rcases (show tl fs ≤ 3 ∨ tl fs = 4 by omega) with q | q
    · exact Or.inl q
    · exact Or.inr ⟨rfl, q⟩
theorem zExpr_ok (hp : pl < 150) (hw : wfz fs true) (ht : tl fs ≤ 1) (hb : zB pl 0 fs J) : zN pl (zExpr t pl fs J B) := by
  unfold zExpr
  refine zN_if (fun c => ?_) fun c1 => zN_if (fun c => ?_) fun c2 => zFactor_ok hp hw hb
  · exact zN_e hw (Or.inr (Or.inr (Or.inr (Or.inr rfl)))) (zB_upJ hb (by omega) (by omega) (by omega) rfl)
  · exact zN_e ⟨by simp [wfF], Or.inl ⟨rfl, hw, Or.inl ht⟩⟩ (Or.inr (Or.inr (Or.inr (Or.inr rfl)))) (zB_upJ hb (by simp) (by simp [flat]) (by simp [dF] <;> omega) (bot_cons hw))
theorem zStBegin_ok (hp : pl < 150) (hw : wfz fs false) (hb : zB pl 0 fs J) : zN pl (zStBegin t pl fs J B) := by
  have up0 : ∀ k n, zB (pl + 1) 0 ((k, n, []) :: fs) J := fun k n => zB_upJ hb (by simp) (by simp [flat]) (by simp [dF] <;> omega) (bot_cons hw)
  unfold zStBegin
  refine zN_if (fun c => ?_) fun c1 => zN_if (fun c => ?_) fun c2 => zN_if (fun c => ?_) fun c3 => zN_if (fun c => ?_) fun c4 => zN_if (fun c => ?_) fun c5 => zN_if (fun c => ?_) fun c6 => zN_if (fun c => ?_) fun c7 => ?_
  · refine zN_e ⟨?_, Or.inr (Or.inr ⟨by omega, hw⟩)⟩ (Or.inl ⟨rfl, rfl⟩) (up0 _ _)
    simp [isName] at c
    simp [wfF]
    omega
  · exact zN_e ⟨by simp [wfF], Or.inr (Or.inr ⟨by omega, hw⟩)⟩ (Or.inr (Or.inl ⟨rfl, Or.inr rfl⟩)) (up0 _ _)
  · have hq : (t - 110 + 4 * pl) / 4 = pl := by
      simp [isProcName] at c
      omega
    exact zN_e ⟨by simp [wfF, hp, hq, sh], Or.inr (Or.inr ⟨by omega, hw⟩)⟩ (Or.inr (Or.inr (Or.inl ⟨Or.inl rfl, Or.inr rfl⟩))) (zB_up hb (by simp) (by simp [flat] <;> omega) (by simp [dF] <;> omega) (bot_cons hw))
  · exact zN_e ⟨by simp [wfF], Or.inr (Or.inr ⟨by omega, hw⟩)⟩ (Or.inr (Or.inr (Or.inr (Or.inl ⟨rfl, by simp [tl]⟩)))) (up0 _ _)
  · exact zN_e ⟨by simp [wfF], Or.inr (Or.inr ⟨by omega, hw⟩)⟩ (Or.inr (Or.inr (Or.inr (Or.inl ⟨rfl, by simp [tl]⟩)))) (up0 _ _)
  · exact zN_e ⟨by simp [wfF], Or.inr (Or.inr ⟨by omega, hw⟩)⟩ (Or.inr (Or.inr (Or.inr (Or.inl ⟨rfl, by simp [tl]⟩)))) (up0 _ _)
  · exact zN_b (Or.inl rfl) rfl ⟨by simp [wfF, sh], Or.inl ⟨by omega, hw⟩⟩ (zB_up hb (by simp) (by simp [flat] <;> omega) (by simp [dF] <;> omega) (bot_cons hw))
  · exact zN_e ⟨by simp [wfF, wfI], Or.inr (Or.inr ⟨by omega, hw⟩)⟩ (Or.inr (Or.inr (Or.inr (Or.inl ⟨rfl, by simp [tl]⟩)))) (up0 _ _)
theorem zN_add {r : List zF} {s : T} {a n k x : Nat} {ts : List T} (hw : wfz r false) (hs : sh s 1 = true) (hb : zB pl n ((k, x, ts) :: r) J) (ha : a ≤ 1 + ts.length / 2) : zN pl (some (10, [], addSt r s, ndn J a, B)) := by
  obtain ⟨n1, n2, n3, n4⟩ := addSt_num (fs := r) (s := s)
  obtain ⟨-, -, -, -, -, -, -, -, hw2⟩ := addSt_ok hw hs
  refine zN_b (Or.inr rfl) rfl hw2 (zB_up hb ?_ ?_ ?_ ?_)
  · rw [n1]; simp <;> omega
  · rw [n2]; simp [flat] <;> omega
  · rw [n3]; simp [dF] <;> omega
  · rw [n4, bot_cons hw]
theorem sFin3_n {l : T} : (∀ p, (sFin 3000 [l] J B).2.1 1 p = J 1 p) ∧ (sFin 3000 [l] J B).2.1 4 3 = J 4 3 + 1 ∧ (sFin 3000 [l] J B).2.1 4 5 = J 4 5 ∧ (sFin 3000 [l] J B).1 = [] := by
  have e : sFin 3000 [l] J B = (if J 4 2 = 0 then ([], jup (jup (jup J 4 3 (J 4 3 + 1)) 3 (J 4 0) (J 4 1)) 6 (J 4 0) 1, bup (bup B (10 + J 4 3) l) (J 4 0) l) else ([], jup J 4 3 (J 4 3 + 1), bup B (10 + J 4 3) l)) := rfl
  rw [e]
  by_cases c : J 4 2 = 0
  · rw [if_pos c]
    simp [jup]
  · rw [if_neg c]
    simp [jup]
theorem zStEnd_ok (hw : wfz fs false) (hb : zB pl 0 fs J) : zN pl (zStEnd t fs J B) := by
  unfold zStEnd
  refine zN_if (fun c => zN_b (Or.inl rfl) rfl hw (zB_upJ hb (by omega) (by omega) (by omega) rfl)) fun c0 => ?_
  cases fs with
  | nil => exact zN_none _
  | cons f r =>
    obtain ⟨k, n, ts⟩ := f
    obtain ⟨h1, h2⟩ := hw
    show zN pl (if k = 12 then _ else _)
    by_cases k12 : k = 12
    · rw [if_pos k12]
      subst k12
      have hr : wfz r false := by rcases h2 with h2 | h2; exact h2.2; omega
      simp [wfF] at h1
      obtain ⟨h0, l, c, r', rfl, a1, a2, a3⟩ := h1
      have hI : wfI (l :: c :: r') = true := by simp [wfI, a1, a2, a3]
      refine zN_if (fun c => ?_) fun c1 => zN_if (fun c => ?_) fun c2 => zN_if (fun c => ?_) fun c3 => zN_none _
      · exact zN_add hr ((sh_mkIf hI (by simp [sh])).2 (by simp)) hb (by omega)
      · exact zN_e ⟨by simp [wfF, hI], Or.inr (Or.inr ⟨by omega, hr⟩)⟩ (Or.inr (Or.inr (Or.inr (Or.inl ⟨rfl, by simp [tl]⟩)))) (zB_upJ hb (by simp) (by simp [flat] <;> omega) (by simp [dF] <;> omega) (by rw [bot_cons hr, bot_cons hr]))
      · exact zN_b (Or.inl rfl) rfl ⟨by simp [wfF, sh, hI], Or.inl ⟨by omega, hr⟩⟩ (zB_up hb (by simp) (by simp [flat] <;> omega) (by simp [dF] <;> omega) (by rw [bot_cons hr, bot_cons hr]))
    · rw [if_neg k12]
      by_cases k13 : k = 13
      · rw [if_pos k13]
        subst k13
        have hr : wfz r false := by rcases h2 with h2 | h2; exact h2.2; omega
        simp [wfF] at h1
        obtain ⟨h0, l, r', rfl, a1, a2, a3⟩ := h1
        refine zN_if (fun c => ?_) fun c1 => zN_none _
        have a4 : sh l 3 = true := by
          cases l with
          | var x => simp [sh] at a1 ⊢; exact Or.inl a1
          | add a b => simp [sh] at a1 ⊢; exact a1
          | num k => simp [sh] at a1
          | mulL k a => simp [sh] at a1
          | mulR a k => simp [sh] at a1
        exact zN_add hr ((sh_mkIf (ts := r') (e := l) a2 a4).2 a3) hb (by omega)
      · rw [if_neg k13]
        by_cases k9 : k = 9
        · rw [if_pos k9]
          subst k9
          have hr : wfz r false := by rcases h2 with h2 | h2; exact h2.2; omega
          simp [wfF] at h1
          obtain ⟨h0, l, c, rfl, a1, a2⟩ := h1
          refine zN_if (fun c => ?_) fun c1 => zN_none _
          exact zN_add hr (by simp [sh, a1, a2]) hb (by simp)
        · rw [if_neg k9]
          by_cases k10 : k = 10
          · rw [if_pos k10]
            subst k10
            have hr : wfz r false := by rcases h2 with h2 | h2; exact h2.2; omega
            simp [wfF] at h1
            obtain ⟨h0, l, rfl, a1⟩ := h1
            refine zN_if (fun c => ?_) fun c1 => zN_none _
            exact zN_e ⟨by simp [wfF, a1], Or.inr (Or.inr ⟨by omega, hr⟩)⟩ (Or.inr (Or.inr (Or.inr (Or.inl ⟨rfl, by simp [tl]⟩)))) (zB_upJ hb (by simp) (by simp [flat] <;> omega) (by simp [dF] <;> omega) (by rw [bot_cons hr, bot_cons hr]))
          · rw [if_neg k10]
            have hr : (k = 14 ∨ k = 15) ∧ r = [] := by rcases h2 with h2 | h2; omega; exact h2
            obtain ⟨hk, rfl⟩ := hr
            obtain ⟨g1, g2, g3, g4, g5, g6⟩ := hb
            by_cases k14 : k = 14
            · rw [if_pos k14]
              subst k14
              simp [wfF] at h1
              obtain ⟨h0, l, rfl, a1⟩ := h1
              refine zN_if (fun c => ?_) fun c1 => zN_none _
              obtain ⟨f1, f2, f3, f4⟩ := sFin3_n (J := J) (B := B) (l := l)
              refine zN_some ⟨by simp [zGd], by simp, by simp [flat], ?_, ?_, fun p => ?_, ?_⟩
              · rw [f3]; simp [dF] at g3 ⊢; omega
              · rw [f2]; simp [bot] at g4; simp [hd]; omega
              · rw [f1]; have := g5 p; omega
              · rintro (q | q) <;> omega
            · rw [if_neg k14]
              have k15 : k = 15 := by omega
              subst k15
              simp [wfF] at h1
              obtain ⟨h0, l, rfl, a1⟩ := h1
              refine zN_if (fun c => ?_) fun c1 => zN_none _
              refine zN_some ⟨by simp [zGd], by simp, by simp [flat], ?_, ?_, fun p => ?_, ?_⟩
              · simp [dF, sFin, jup] at g3 ⊢; omega
              · simp [bot] at g4; simp [hd, bot, sFin, jup]; omega
              · simp [sFin, jup]; have := g5 p; omega
              · rintro (q | q)
                · omega
                · simp [bot] at q
theorem zCall_ok {k n : Nat} {ts : List T} {r : List zF} (hw : wfz ((k, n, ts) :: r) true) (hk : k = 4 ∨ k = 5) (hb : zB pl 0 ((k, n, ts) :: r) J) : zN pl (zCall ((k, n, ts) :: r) J B) := by
  obtain ⟨h1, h2⟩ := hw
  have h1 : n < 150 ∧ ∃ s q, ts = [(.mulR s q : T)] ∧ sh s 4 = true ∧ q / 4 = n := by
    rcases hk with rfl | rfl
    · simpa [wfF] using h1
    · simpa [wfF] using h1
  obtain ⟨h0, s, q, rfl, a1, -⟩ := h1
  show zN pl (if k = 4 then _ else _)
  rcases hk with rfl | rfl
  · have hr : wfz r true := by
      rcases h2 with h2 | h2 | h2
      · omega
      · exact h2.2
      · omega
    rw [if_pos rfl]
    exact zN_23 hr (by simp [sh, a1]) (zB_upJ hb (by simp <;> omega) (by simp [flat] <;> omega) (by simp [dF] <;> omega) (bot_cons hr).symm)
  · have hr : wfz r false := by
      rcases h2 with h2 | h2 | h2
      · omega
      · omega
      · exact h2.2
    rw [if_neg (by omega)]
    exact zN_add hr (by simp [sh, a1, isCall]) hb (by simp)
theorem zLast_ok {n : Nat} {ts : List T} {e : T} (h : wfF 7 n ts) (he : sh e 0 = true) : sh (zLast n ts e) 1 = true := by
  simp [wfF] at h
  rcases h with ⟨h, rfl⟩ | ⟨rfl, x, rfl, hx⟩ | ⟨rfl, x, rfl, hx⟩
  · rcases h with h | rfl | rfl
    · have e1 : ¬ n = 21000 := by omega
      have e2 : ¬ n = 26000 := by omega
      have e3 : ¬ n = 23000 := by omega
      have e4 : ¬ n = 24000 := by omega
      simp only [zLast, e1, e2, e3, e4, if_false, sh, he]
      have q1 : 200 ≤ 200 + (n - 20000) := by omega
      have q2 : 200 + (n - 20000) < 208 := by omega
      simp [q2]
    · simp [zLast, sh, he]
    · simp [zLast, sh, he]
  · simp [zLast, sh, he, hx]
  · simp [zLast, sh, he, hx]
theorem zAfter_ok {e : T} (hw : wfz fs true) (ht : tl fs = 0) (he : sh e 0 = true) (hb : zB pl 1 fs J) : zN pl (zAfter t e fs J B) := by
  cases fs with
  | nil => exact zN_none _
  | cons f r =>
    obtain ⟨k, n, ts⟩ := f
    have k1 : k ≠ 1 := by
      intro q
      simp [tl, q] at ht
    obtain ⟨h1, h2⟩ := hw
    show zN pl (if k = 2 then _ else _)
    by_cases k2 : k = 2
    · rw [if_pos k2]
      subst k2
      have hr : wfz r true := by
        rcases h2 with h2 | h2 | h2
        · omega
        · exact h2.2
        · omega
      simp [wfF] at h1
      subst h1
      exact zN_if (fun c => zN_23 hr he (zB_upJ hb (by simp <;> omega) (by simp [flat] <;> omega) (by simp [dF] <;> omega) (bot_cons hr).symm)) fun c => zN_none _
    · rw [if_neg k2]
      by_cases k3 : k = 3
      · rw [if_pos k3]
        subst k3
        have hr : wfz r true := by
          rcases h2 with h2 | h2 | h2
          · omega
          · exact h2.2
          · omega
        simp [wfF] at h1
        obtain ⟨rfl, -⟩ := h1
        exact zN_if (fun c => zN_23 hr (by simp [sh, he]) (zB_up hb (by simp <;> omega) (by simp [flat] <;> omega) (by simp [dF] <;> omega) (bot_cons hr).symm)) fun c => zN_none _
      · rw [if_neg k3]
        by_cases k45 : k = 4 ∨ k = 5
        · rw [if_pos k45]
          have h1' : n < 150 ∧ ∃ s q, ts = [(.mulR s q : T)] ∧ sh s 4 = true ∧ q / 4 = n := by
            rcases k45 with rfl | rfl
            · simpa [wfF] using h1
            · simpa [wfF] using h1
          obtain ⟨h0, s, q, rfl, a1, a2⟩ := h1'
          have hF : wfF k n [grow (.mulR s q : T) e] := by
            rcases k45 with rfl | rfl
            · simp [wfF, grow, h0, sh_snoc4 a1 he, a2]
            · simp [wfF, grow, h0, sh_snoc4 a1 he, a2]
          have hw' : wfz ((k, n, [grow (.mulR s q : T) e]) :: r) true := ⟨hF, h2⟩
          have hb' : zB pl 0 ((k, n, [grow (.mulR s q : T) e]) :: r) J := by
            have := zB_dn (n' := 0) (a := 0) (fs' := (k, n, [grow (.mulR s q : T) e]) :: r) hb (by simp) (by simp [flat] <;> omega) (by simp [dF]) (by simp [bot])
            rw [ndn_0] at this
            exact this
          refine zN_if (fun c => zN_e hw' (Or.inr (Or.inr (Or.inr (Or.inl ⟨rfl, by simp [tl, k1]⟩)))) (zB_upJ hb' (by simp) (by simp [flat]) (by simp [dF]) rfl)) fun c1 => zN_if (fun c => zCall_ok hw' k45 hb') fun c2 => zN_none _
        · rw [if_neg k45]
          have hr : wfz r false := by
            rcases h2 with h2 | h2 | h2
            · omega
            · omega
            · exact h2.2
          by_cases k6 : k = 6
          · rw [if_pos k6]
            subst k6
            simp [wfF] at h1
            obtain ⟨rfl, -⟩ := h1
            exact zN_if (fun c => zN_e ⟨by simp [wfF, he], Or.inr (Or.inr ⟨by omega, hr⟩)⟩ (Or.inl ⟨rfl, rfl⟩) (zB_upJ hb (by simp) (by simp [flat] <;> omega) (by simp [dF]) (by rw [bot_cons hr, bot_cons hr]))) fun c => zN_none _
          · rw [if_neg k6]
            by_cases k8 : k = 8
            · rw [if_pos k8]
              subst k8
              simp [wfF] at h1
              obtain ⟨rfl, -⟩ := h1
              exact zN_if (fun c => zN_b (Or.inl rfl) rfl ⟨by simp [wfF, he, sh], Or.inl ⟨by omega, hr⟩⟩ (zB_up hb (by simp) (by simp [flat] <;> omega) (by simp [dF] <;> omega) (by rw [bot_cons hr, bot_cons hr]))) fun c => zN_none _
            · rw [if_neg k8]
              by_cases k11 : k = 11
              · rw [if_pos k11]
                subst k11
                simp [wfF] at h1
                exact zN_if (fun c => zN_b (Or.inl rfl) rfl ⟨by simp [wfF, he, sh, h1], Or.inl ⟨by omega, hr⟩⟩ (zB_up hb (by simp) (by simp [flat] <;> omega) (by simp [dF] <;> omega) (by rw [bot_cons hr, bot_cons hr]))) fun c => zN_none _
              · rw [if_neg k11]
                have k7 : k = 7 := by omega
                subst k7
                have hs := zLast_ok h1 he
                obtain ⟨-, -, -, -, -, -, -, -, hw2⟩ := addSt_ok hr hs
                obtain ⟨n1, n2, n3, n4⟩ := addSt_num (fs := r) (s := zLast n ts e)
                refine zStEnd_ok hw2 (zB_dn hb ?_ ?_ ?_ ?_)
                · rw [n1]; simp
                · rw [n2]; simp [flat] <;> omega
                · rw [n3]; simp [dF] <;> omega
                · rw [n4, bot_cons hr]
theorem zOper_ok {e : T} (hw : wfz fs true) (he : sh e 0 = true) (ht : isBin t = true) (hb : zB pl 1 fs J) : zN pl (zOper t e fs J B) := by
  have key : ∀ m, (zLev t = m ∨ (zLev t = 0 ∧ m = 1)) → zN pl (if isRel t then (if tl (zOps m fs e).1 = 0 then some (21, [], (1, t, [(zOps m fs e).2]) :: (zOps m fs e).1, ndn J (fs.length - (zOps m fs e).1.length), B) else none) else some (22, [], (1, t, [(zOps m fs e).2]) :: (zOps m fs e).1, ndn J (fs.length - (zOps m fs e).1.length), B)) := by
    intro m hm
    obtain ⟨w1, w2, w3, w4, w5⟩ := zOps_ok m hw he
    have w6 := zOps_tl m fs e
    have w7 := zOps_len m fs e
    have hF : wfF 1 t [(zOps m fs e).2] := by simp [wfF, w2, ht]
    have hB : zB (pl + 1) 0 ((1, t, [(zOps m fs e).2]) :: (zOps m fs e).1) (ndn J (fs.length - (zOps m fs e).1.length)) := zB_up hb (by simp <;> omega) (by simp [flat] <;> omega) (by simp [dF] <;> omega) ((bot_cons w1).trans w3)
    refine zN_if (fun c => zN_if (fun c1 => ?_) fun _ => zN_none _) fun c => ?_
    · refine zN_e ⟨hF, Or.inl ⟨rfl, w1, Or.inl (by omega)⟩⟩ (Or.inr (Or.inr (Or.inr (Or.inl ⟨rfl, ?_⟩)))) hB
      simp [tl, zLev, c]
      repeat' split
      all_goals simp_all [isRel]
    · refine zN_e ⟨hF, Or.inl ⟨rfl, w1, Or.inl ?_⟩⟩ (Or.inr (Or.inr (Or.inr (Or.inr rfl)))) hB
      rcases hm with hm | hm
      · omega
      · exfalso
        have := hm.1
        unfold zLev at this
        repeat' split at this
        all_goals simp_all
  unfold zOper
  by_cases c : isTerm t = true
  · simp only [c, if_true]
    refine key 2 (Or.inl ?_)
    simp [isTerm] at c
    have r1 : isRel t = false := by simp [isRel]; omega
    unfold zLev
    rw [if_neg (by omega), if_neg (by omega), if_neg (by simp [r1]), if_neg (by omega)]
  · simp only [c]
    refine key 1 ?_
    simp only [isBin, Bool.or_eq_true] at ht
    rcases ht with (ht | ht) | ht
    · refine Or.inr ⟨?_, rfl⟩
      simp [isRel] at ht
      unfold zLev
      rw [if_neg (by omega), if_neg (by omega), if_pos (by simp [isRel] <;> omega)]
    · refine Or.inl ?_
      simp [isSimp] at ht
      have r1 : isRel t = false := by simp [isRel]; omega
      unfold zLev
      rw [if_neg (by omega), if_neg (by omega), if_neg (by simp [r1]), if_pos (by omega)]
    · exact absurd ht c
theorem sNames_num {x : Nat} {J1 : zJ} (h : sNames x t pl J = some J1) : J1 4 5 = J 4 5 ∧ J1 4 3 = J 4 3 ∧ (∀ p, J1 1 p ≤ J 1 p + 1) ∧ (x = 219 → J1 4 3 < J1 9 0 ∧ J1 0 (J1 4 0) = 1) ∧ (x ≠ 219 → J1 9 0 = J 9 0 ∧ J1 4 0 = J 4 0 ∧ ∀ p, J1 0 p = J 0 p) := by
  unfold sNames at h
  by_cases c : x = 219
  · rw [if_pos c] at h
    split at h
    · cases h
      unfold sFault
      split
      · simp [jup, c]
      · simp [jup, c]
    · cases h
  · rw [if_neg c] at h
    split at h
    · cases h
      unfold sFault
      repeat' split
      all_goals simp [jup, c]
      all_goals (intro p; split)
      all_goals first | omega | (rename_i q; rw [q]; omega)
    · cases h
theorem zHead_ok {x nx nx0 : Nat} (hx : (x = 219 ∧ nx = 2 ∧ nx0 = 1) ∨ (x ≠ 219 ∧ ((nx = 5 ∧ (nx0 = 3 ∨ nx0 = 4)) ∨ (nx = 8 ∧ nx0 = 7)))) (hb : zBd pl (nx0, [], [], J, B)) : zN pl (zHead x nx t pl J B) := by
  unfold zHead
  cases e : sNames x t pl J with
  | none => exact zN_none _
  | some J1 =>
    obtain ⟨f1, f2, f3, f4, f5⟩ := sNames_num e
    obtain ⟨g1, g2, g3, g4, g5, g6⟩ := hb
    refine zN_some ⟨?_, by simp, by simp [flat], ?_, ?_, fun p => ?_, fun q => ?_⟩
    · simp [zGd]; omega
    · rw [f1]; omega
    · rw [f2]
      have q1 : hd nx [] ≤ hd nx0 [] + 1 := by
        rcases hx with ⟨-, rfl, rfl⟩ | ⟨-, ⟨rfl, rfl | rfl⟩ | ⟨rfl, rfl⟩⟩ <;> simp [hd]
      omega
    · have q0 : 1 ≤ hd nx0 [] := by
        rcases hx with ⟨-, rfl, rfl⟩ | ⟨-, ⟨rfl, rfl | rfl⟩ | ⟨rfl, rfl⟩⟩ <;> simp [hd]
      have := f3 p; have := g5 p; omega
    · rcases hx with ⟨rfl, rfl, rfl⟩ | ⟨h1, h2⟩
      · exact f4 rfl
      · obtain ⟨a1, a2, a3⟩ := f5 h1
        rw [f2, a1, a2, a3]
        exact g6 (Or.inl (by omega))
theorem zN_hd {nx nx0 : Nat} (hx : nx ≤ 8) (h1 : hd nx [] ≤ hd nx0 [] + 1) (h2 : inP nx [] → inP nx0 []) (hb : zBd pl (nx0, [], [], J, B)) : zN pl (some (nx, [], [], J, B)) := by
  obtain ⟨g1, g2, g3, g4, g5, g6⟩ := hb
  refine zN_some ⟨?_, by simp, by simp [flat], by omega, by omega, fun p => ?_, fun q => g6 (h2 q)⟩
  · simp [zGd]; omega
  · have := g5 p; omega
theorem zN_body {k nx0 : Nat} (hk : (k = 14 ∧ (nx0 = 6 ∨ nx0 = 8)) ∨ (k = 15 ∧ nx0 = 0)) (hb : zBd pl (nx0, [], [], J, B)) : zN pl (some (9, [], [(k, 0, [.var 99])], ndn J 1, B)) := by
  obtain ⟨g1, g2, g3, g4, g5, g6⟩ := hb
  refine zN_b (Or.inl rfl) rfl ?_ ⟨by simp, by simp [flat], by rw [ndn_45]; simp [dF] at g3 ⊢; omega, ?_, fun p => ?_, fun q => ?_⟩
  · refine ⟨?_, Or.inr ⟨by omega, rfl⟩⟩
    rcases hk with ⟨rfl, -⟩ | ⟨rfl, -⟩ <;> simp [wfF, sh]
  · rw [ndn_o _ _ _ _ (by omega)]
    rcases hk with ⟨rfl, rfl | rfl⟩ | ⟨rfl, rfl⟩ <;> simp [bot, hd] at g4 ⊢ <;> omega
  · rw [ndn_o _ _ _ _ (by omega)]; have := g5 p; omega
  · rw [ndn_o _ _ 4 3 (by omega), ndn_o _ _ 9 0 (by omega), ndn_o _ _ 4 0 (by omega), ndn_o _ _ 0 _ (by omega)]
    refine g6 (Or.inl ?_)
    simp [bot] at q
    omega
theorem zStep_ok {z : zZ} (hp : pl < 150) (hz : zGd z) (hb : zBd pl z) : zN pl (zStep t pl z) := by
  obtain ⟨nx, cs, fs, J, B⟩ := z
  by_cases c0 : nx ≤ 8 ∨ nx = 24
  · simp only [zGd, if_pos c0] at hz
    obtain ⟨rfl, rfl⟩ := hz
    rcases (show nx = 0 ∨ nx = 1 ∨ nx = 2 ∨ nx = 3 ∨ nx = 4 ∨ nx = 5 ∨ nx = 6 ∨ nx = 7 ∨ nx = 8 ∨ nx = 24 by omega) with rfl | rfl | rfl | rfl | rfl | rfl | rfl | rfl | rfl | rfl
    · exact zN_if (fun _ => zN_hd (by omega) (by simp [hd]) (by simp [inP]) hb) fun _ => zN_if (fun _ => zN_body (Or.inr ⟨rfl, rfl⟩) hb) fun _ => zN_none _
    · exact zHead_ok (Or.inl ⟨rfl, rfl, rfl⟩) hb
    · exact zN_if (fun _ => zN_hd (by omega) (by simp [hd]) (by simp [inP]) hb) fun _ => zN_none _
    · exact zN_if (fun _ => zN_hd (by omega) (by simp [hd]) (by simp [inP]) hb) fun _ => zHead_ok (Or.inr ⟨by omega, Or.inl ⟨rfl, Or.inl rfl⟩⟩) hb
    · exact zHead_ok (Or.inr ⟨by omega, Or.inl ⟨rfl, Or.inr rfl⟩⟩) hb
    · exact zN_if (fun _ => zN_hd (by omega) (by simp [hd]) (by simp [inP]) hb) fun _ => zN_if (fun _ => zN_hd (by omega) (by simp [hd]) (by simp [inP]) hb) fun _ => zN_none _
    · exact zN_if (fun _ => zN_hd (by omega) (by simp [hd]) (by simp [inP]) hb) fun _ => zN_if (fun _ => zN_body (Or.inl ⟨rfl, Or.inl rfl⟩) hb) fun _ => zN_none _
    · exact zHead_ok (Or.inr ⟨by omega, Or.inr ⟨rfl, rfl⟩⟩) hb
    · exact zN_if (fun _ => zN_hd (by omega) (by simp [hd]) (by simp [inP]) hb) fun _ => zN_if (fun _ => zN_body (Or.inl ⟨rfl, Or.inr rfl⟩) hb) fun _ => zN_none _
    · exact zN_none _
  · have hB := zB_of (by omega) hb
    simp only [zGd, if_neg c0] at hz
    by_cases c9 : nx = 9 ∨ nx = 10
    · rw [if_pos c9] at hz
      obtain ⟨rfl, hw⟩ := hz
      rcases c9 with rfl | rfl
      · exact zN_if (fun _ => zStBegin_ok hp hw hB) fun _ => zStEnd_ok hw hB
      · exact zStEnd_ok hw hB
    · rw [if_neg c9] at hz
      by_cases c23 : nx = 23
      · rw [if_pos c23] at hz
        subst c23
        obtain ⟨hw, e, rfl, he⟩ := hz
        refine zN_if (fun c => zOper_ok hw he c hB) fun c => ?_
        obtain ⟨w1, w2, w3, w4, w5⟩ := zOps_ok 0 hw he
        have w6 := zOps_tl 0 fs e
        have w7 := zOps_len 0 fs e
        show zN pl (zAfter t (zOps 0 fs e).2 (zOps 0 fs e).1 (ndn J (fs.length - (zOps 0 fs e).1.length)) B)
        exact zAfter_ok w1 (by omega) w2 (zB_dn (n := 1) hB w7 (by omega) (by omega) w3)
      · rw [if_neg c23] at hz
        obtain ⟨rfl, hw, hx⟩ := hz
        have hk : ∀ {fs : List zF}, tp fs ≠ 1 → tl fs = 0 := by
          intro fs q
          cases fs with
          | nil => rfl
          | cons f r => simp [tl]; intro h; exact absurd h q
        rcases hx with ⟨rfl, hx⟩ | ⟨rfl, hx⟩ | ⟨rfl | rfl, hx⟩ | ⟨rfl, hx⟩ | rfl
        · exact zN_if (fun _ => zN_e hw (Or.inr (Or.inr (Or.inr (Or.inl ⟨rfl, by rw [hk (by omega)]; omega⟩)))) (zB_upJ hB (by omega) (by simp) (by omega) rfl)) fun _ => zN_none _
        · exact zN_if (fun _ => zN_e hw (Or.inr (Or.inr (Or.inr (Or.inl ⟨rfl, by rw [hk (by omega)]; omega⟩)))) (zB_upJ hB (by omega) (by simp) (by omega) rfl)) fun _ => zN_none _
        · exact zN_if (fun _ => zN_e hw (Or.inr (Or.inr (Or.inl ⟨Or.inr rfl, hx⟩))) (zB_upJ hB (by omega) (by simp) (by omega) rfl)) fun _ => zN_none _
        · refine zN_if (fun _ => ?_) fun _ => zExpr_ok hp hw (by rw [hk (by omega)]; omega) hB
          cases fs with
          | nil => exact zN_none _
          | cons f r => exact zCall_ok hw hx hB
        · exact zExpr_ok hp hw hx hB
        · exact zFactor_ok hp hw hB
end ZK
