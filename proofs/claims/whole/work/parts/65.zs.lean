/-! Z AGAINST THE LIST MACHINE S: a token of Z is some steps of S -/
def sR (ts : List Nat) (pl : Nat) (S : zS) (pl' : Nat) (S' : zS) : Prop := ∃ k, sReach ts k pl S pl' S'
theorem sR_refl {ts : List Nat} {pl : Nat} {S : zS} : sR ts pl S pl S := ⟨0, rfl, rfl⟩
theorem sR_trans {ts : List Nat} {pl pl1 pl2 : Nat} {S S1 S2 : zS} (h : sR ts pl S pl1 S1) (g : sR ts pl1 S1 pl2 S2) : sR ts pl S pl2 S2 := by
  obtain ⟨k, h⟩ := h
  obtain ⟨m, g⟩ := g
  exact ⟨k + m, sReach_trans h g⟩
/-- S comes to a step that it can't do -/
def sX (ts : List Nat) (pl : Nat) (S : zS) : Prop := ∃ x l P J B, sR ts pl S pl (x :: l, P, J, B) ∧ l.length + 10 ≤ 1600 ∧ sPre (tok ts pl) pl x P J ∧ sStep (tok ts pl) pl (x :: l, P, J, B) = none
def Sim (ts : List Nat) (pl : Nat) (S : zS) : Option zZ → Prop
  | some z => sR ts pl S (pl + 1) (sOf z)
  | none => sX ts pl S
def sb (l : List Nat) (P : List T) (J : zJ) : Prop := l.length ≤ 1580 ∧ P.length ≤ 290 ∧ J 4 5 < 390
section SIM
variable {ts : List Nat} {pl pl' x : Nat} {S S1 S' : zS} {l : List Nat} {P : List T} {J : zJ} {B : Nat → T} {o : Option zZ} {z : zZ}
theorem Sim_of (h : sR ts pl S pl S1) (g : Sim ts pl S1 o) : Sim ts pl S o := by
  cases o with
  | some z => exact sR_trans h g
  | none =>
    obtain ⟨x, l, P, J, B, g1, g2⟩ := g
    exact ⟨x, l, P, J, B, sR_trans h g1, g2⟩
theorem Sim_if {c : Prop} [Decidable c] {a b : Option zZ} (h1 : c → Sim ts pl S a) (h2 : ¬ c → Sim ts pl S b) : Sim ts pl S (if c then a else b) := by
  by_cases h : c
  · rw [if_pos h]; exact h1 h
  · rw [if_neg h]; exact h2 h
theorem sR_s (hb : sb l P J) (hp : sPre (tok ts pl) pl x P J) (h : sStep (tok ts pl) pl (x :: l, P, J, B) = some (S1, false)) : sR ts pl (x :: l, P, J, B) pl S1 := ⟨1, sReach_one (a := false) (by have := hb.1; omega) hp h⟩
theorem sR_t (hb : sb l P J) (hp : sPre (tok ts pl) pl x P J) (h : sStep (tok ts pl) pl (x :: l, P, J, B) = some (S1, true)) : sR ts pl (x :: l, P, J, B) (pl + 1) S1 := ⟨1, sReach_one (a := true) (by have := hb.1; omega) hp h⟩
theorem Sim_none (hb : sb l P J) (hp : sPre (tok ts pl) pl x P J) (h : sStep (tok ts pl) pl (x :: l, P, J, B) = none) : Sim ts pl (x :: l, P, J, B) none := ⟨x, l, P, J, B, sR_refl, by have := hb.1; omega, hp, h⟩
theorem sPre_lo {t : Nat} (hb : sb l P J) (h : x < 224) (h1 : x ≠ 215) (h2 : x ≠ 219) (h3 : x ≠ 220) (h4 : x ≠ 221) : sPre t pl x P J :=
  ⟨by have := hb.2.1; omega, by have := hb.2.2; omega, Or.inl h, fun q => by omega, fun q => by omega, fun q => by omega, fun q => by omega, fun q => by omega, fun q => by omega⟩
theorem sPre_fin {t : Nat} (hb : sb l P J) (h : x < 28000) (h1 : 4000 ≤ x) (g : sGood x P = true) : sPre t pl x P J :=
  ⟨by have := hb.2.1; omega, by have := hb.2.2; omega, Or.inr ⟨by omega, h, g⟩, fun q => by omega, fun q => by omega, fun q => by omega, fun q => by omega, fun q => by omega, fun q => by omega⟩
theorem sStep_tok {t : Nat} (hx : x < 200) : sStep t pl (x :: l, P, J, B) = if t = x then some ((l, P, J, B), true) else none := by
  simp only [sStep]
  rw [if_pos hx]
theorem sStep_fin {t : Nat} (hx : 1000 ≤ x) : sStep t pl (x :: l, P, J, B) = some ((l, sFin x P J B), false) := by
  simp only [sStep]
  rw [if_neg (by omega), if_pos hx]
/-- a token that must stand here -/
theorem Sim_tok (hx : x < 200) (hb : sb l P J) (h : tok ts pl = x → sR ts (pl + 1) (l, P, J, B) (pl + 1) (sOf z)) : Sim ts pl (x :: l, P, J, B) (if tok ts pl = x then some z else none) := by
  have hp : sPre (tok ts pl) pl x P J := sPre_lo hb (by omega) (by omega) (by omega) (by omega) (by omega)
  refine Sim_if (fun c => ?_) fun c => ?_
  · exact sR_trans (sR_t hb hp (by rw [sStep_tok hx, if_pos c])) (h c)
  · exact Sim_none hb hp (by rw [sStep_tok hx, if_neg c])
theorem Sim_take (hx : x < 200) (hb : sb l P J) (c : tok ts pl = x) (h : sR ts (pl + 1) (l, P, J, B) (pl + 1) (sOf z)) : Sim ts pl (x :: l, P, J, B) (some z) := by
  have := Sim_tok hx hb fun _ => h
  rw [if_pos c] at this
  exact this
theorem Sim_bad (hx : x < 200) (hb : sb l P J) (c : tok ts pl ≠ x) : Sim ts pl (x :: l, P, J, B) none := Sim_none hb (sPre_lo hb (by omega) (by omega) (by omega) (by omega) (by omega)) (by rw [sStep_tok hx, if_neg c])
theorem sR_fin (hb : sb l P J) (h : x < 28000) (h1 : 4000 ≤ x) (g : sGood x P = true) {q : List T × zJ × (Nat → T)} (e : sFin x P J B = q) : sR ts pl (x :: l, P, J, B) pl (l, q) := sR_s hb (sPre_fin hb h h1 g) (by rw [sStep_fin (by omega), e])
/-- an expression's task -/
theorem sR_ex (hb : sb l P J) (h1 : 208 ≤ x) (h2 : x ≤ 213) {k : List Nat} (e : sExpr x (tok ts pl) = k) : sR ts pl (x :: l, P, J, B) pl (k ++ l, P, J, B) := by
  refine sR_s hb (sPre_lo hb (by omega) (by omega) (by omega) (by omega) (by omega)) ?_
  simp only [sStep]
  rw [if_neg (by omega), if_neg (by omega), if_neg (by omega), if_neg (by omega), if_neg (by omega), if_neg (by omega), if_neg (by omega), if_neg (by omega), if_neg (by omega), if_pos ⟨h1, h2⟩, e]
/-- a task of the program's parts -/
theorem sR_pt (hb : sb l P J) (h1 : x = 200 ∨ x = 201 ∨ x = 202 ∨ x = 203 ∨ x = 204 ∨ x = 206 ∨ x = 222 ∨ x = 223) {k : List Nat} (e : sParts x (tok ts pl) = k) : sR ts pl (x :: l, P, J, B) pl (k ++ l, P, J, B) := by
  refine sR_s hb (sPre_lo hb (by omega) (by omega) (by omega) (by omega) (by omega)) ?_
  simp only [sStep]
  rw [if_neg (by omega), if_neg (by omega), if_neg (by omega), if_neg (by omega), if_neg (by omega), if_neg (by omega), if_neg (by omega), if_neg (by omega), if_neg (by omega), if_neg (by omega), if_neg (by omega), e]
theorem sR_205 (hb : sb l P J) : sR ts pl (205 :: l, P, J, B) pl ([223, 206] ++ l, .var 99 :: P, ndn J 1, B) :=
  sR_s hb (sPre_lo hb (by omega) (by omega) (by omega) (by omega) (by omega)) rfl
theorem sR_208 (hb : sb l P J) (hb2 : l.length + 2 ≤ 1580) : sR ts pl (208 :: l, P, J, B) pl (210 :: 209 :: l, P, J, B) := sR_ex hb (by omega) (by omega) (k := [210, 209]) rfl
theorem sR_212 (hb : sb l P J) : sR ts pl (212 :: l, P, J, B) pl (214 :: 213 :: l, P, J, B) := sR_ex hb (by omega) (by omega) (k := [214, 213]) rfl
/-! finished pieces -/
theorem fin5 {n : Nat} {e a : T} (h1 : 130 ≤ n) (h2 : n < 200) : sFin (5000 + n) (e :: a :: P) J B = (.mulL n (.add a e) :: P, ndn J 1, B) := by
  have k : (5000 + n) / 1000 = 5 := by omega
  have m : (5000 + n) % 1000 = n := by omega
  simp [sFin, k, m, ndn, nd1]
theorem good5 {n : Nat} {e a : T} (h1 : 130 ≤ n) (h2 : n < 200) (he : isE e = true) (ha : isE a = true) : sGood (5000 + n) (e :: a :: P) = true := by
  have k : (5000 + n) / 1000 = 5 := by omega
  have m : (5000 + n) % 1000 = n := by omega
  simp [sGood, k, m, he, ha, h1, h2]
theorem isBin_n {n : Nat} (h : isBin n = true) : 130 ≤ n ∧ n < 152 := by
  simp [isBin, isRel, isSimp, isTerm] at h
  omega
end SIM
theorem ite_len {c : Prop} [Decidable c] {a b : List Nat} {n : Nat} (h1 : a.length ≤ n) (h2 : b.length ≤ n) : (if c then a else b).length ≤ n := by
  by_cases h : c
  · rw [if_pos h]; exact h1
  · rw [if_neg h]; exact h2
theorem af_len : ∀ (fs : List zF) (m : Nat), (af fs m).length ≤ 9 * fs.length + (flat fs).length
  | [], m => by simp [af]
  | (k, n, ts) :: r, m => by
    have h0 := af_len r 0
    have h1 := af_len r 1
    have h2 := af_len r 2
    have h3 := af_len r 3
    have h4 := af_len r 4
    have hd : ts.length / 2 ≤ ts.length := Nat.div_le_self _ _
    have hA : (if m = 0 then [213, 211, 209] else if m = 1 then [211, 209] else if m = 2 then [209] else ([] : List Nat)).length ≤ 3 := by
      repeat' split
      all_goals simp
    simp only [flat, List.length_cons, List.length_append]
    by_cases c1 : k = 1
    · simp only [af, if_pos c1]
      repeat' split
      all_goals simp only [List.length_append, List.length_cons, List.length_nil]
      all_goals omega
    · simp only [af, if_neg c1, List.length_append]
      refine Nat.le_trans (Nat.add_le_add hA (?_ : _ ≤ 6 + ts.length + 9 * r.length + (flat r).length)) (by omega)
      repeat' apply ite_len
      all_goals simp only [List.length_append, List.length_cons, List.length_nil, rep27, List.length_replicate]
      all_goals omega
/-- bounds of frames while pieces end -/
def bF (fs : List zF) (J : zJ) : Prop := fs.length ≤ 150 ∧ (flat fs).length ≤ 150 ∧ J 4 5 + fs.length ≤ 310
section RED
variable {ts : List Nat} {pl : Nat} {B : Nat → T}
theorem bF_sb {fs : List zF} {J : zJ} (h : bF fs J) {l : List Nat} {P : List T} (hl : l.length ≤ 1580) (hP : P.length ≤ (flat fs).length + 9) : sb l P J := ⟨hl, by have := h.2.1; omega, by have := h.2.2; omega⟩
theorem af_0 {r : List zF} (hw : wfz r true) (h : tl r ≤ 2) : af r 0 = 213 :: af r 1 := by
  cases r with
  | nil => exact hw.elim
  | cons f r =>
    obtain ⟨k, n, tr⟩ := f
    by_cases c : k = 1
    · subst c
      simp only [tl, if_true] at h
      have n9 : ¬ n = 9 := by intro q; subst q; simp [zLev] at h
      by_cases c8 : n = 8
      · subst c8; simp [af]
      · rcases (show zLev n = 0 ∨ zLev n = 1 by omega) with q | q
        · simp [af, n9, c8, q]
        · simp [af, n9, c8, q]
    · simp [af, c]
theorem af_1 {r : List zF} (hw : wfz r true) (h : tl r ≤ 1) : af r 1 = 211 :: af r 2 := by
  cases r with
  | nil => exact hw.elim
  | cons f r =>
    obtain ⟨k, n, tr⟩ := f
    by_cases c : k = 1
    · subst c
      simp only [tl, if_true] at h
      have n9 : ¬ n = 9 := by intro q; subst q; simp [zLev] at h
      have n8 : ¬ n = 8 := by intro q; subst q; simp [zLev] at h
      have q : zLev n = 0 := by omega
      simp [af, n9, n8, q]
    · simp [af, c]
theorem af_2 {r : List zF} (hw : wfz r true) (h : tl r = 0) : af r 2 = 209 :: af r 3 := by
  cases r with
  | nil => exact hw.elim
  | cons f r =>
    obtain ⟨k, n, tr⟩ := f
    by_cases c : k = 1
    · subst c
      simp [tl] at h
    · simp [af, c]
theorem wf1 {n : Nat} {tr : List T} {r : List zF} (h : wfz ((1, n, tr) :: r) true) : ((n = 8 ∨ n = 9) ∧ tr = [] ∨ isBin n = true ∧ ∃ x, tr = [x] ∧ sh x 0 = true) ∧ wfz r true ∧ (tl r ≤ zLev n ∨ (n = 9 ∧ tl r = 4)) := by
  obtain ⟨h1, h2⟩ := h
  refine ⟨by simpa [wfF] using h1, ?_⟩
  rcases h2 with h2 | h2 | h2
  · exact h2.2
  · omega
  · omega
theorem zRed2 : ∀ {fs : List zF} {e : T} {J : zJ}, wfz fs true → sh e 0 = true → bF fs J → sR ts pl (af fs 0, e :: flat fs, J, B) pl (af (zOps 2 fs e).1 0, (zOps 2 fs e).2 :: flat (zOps 2 fs e).1, ndn J (fs.length - (zOps 2 fs e).1.length), B)
  | [], e, J, h, _, _ => h.elim
  | (k, n, tr) :: r, e, J, h, he, hb => by
    by_cases c : k = 1 ∧ 2 ≤ zLev n
    · obtain ⟨rfl, c2⟩ := c
      have e2 : zOps 2 ((1, n, tr) :: r) e = zOps 2 r (zOpF n tr e) := by simp only [zOps]; rw [if_pos ⟨trivial, c2⟩]
      obtain ⟨h1, h2, h3⟩ := wf1 h
      have hl := af_len r 0
      obtain ⟨b1, b2, b3⟩ := hb
      simp only [List.length_cons, flat, List.length_append] at b1 b2 b3
      have hbr : bF r (ndn J 1) := ⟨by omega, by omega, by rw [ndn_45]; omega⟩
      have ln := zOps_len 2 r (zOpF n tr e)
      have ih := zRed2 (fs := r) (e := zOpF n tr e) (J := ndn J 1) h2 (sh_OpF h.1 he) hbr
      rw [ndn_ndn] at ih
      rw [e2, show ((1, n, tr) :: r).length - (zOps 2 r (zOpF n tr e)).1.length = 1 + (r.length - (zOps 2 r (zOpF n tr e)).1.length) by simp only [List.length_cons]; omega]
      refine sR_trans ?_ ih
      have hsb : ∀ {P : List T}, P.length ≤ 200 → sb (af r 0) P J := fun q => ⟨by omega, by omega, by omega⟩
      rcases h1 with ⟨hn, rfl⟩ | ⟨hn, x, rfl, hx⟩
      · have hn : n = 9 := by
          rcases hn with rfl | hn
          · simp [zLev] at c2
          · exact hn
        subst hn
        exact sR_fin (x := 8000) (hsb (by simp [flat]; omega)) (by omega) (by omega) (by simp [sGood, sh_isE he]) rfl
      · obtain ⟨m1, m2⟩ := isBin_n hn
        have n9 : ¬ n = 9 := by omega
        have n8 : ¬ n = 8 := by omega
        have z2 : zLev n = 2 := by
          unfold zLev at c2 ⊢
          rw [if_neg n9, if_neg n8] at c2 ⊢
          split
          · rename_i q; rw [if_pos q] at c2; omega
          · rename_i q
            rw [if_neg q] at c2
            split
            · rename_i q; rw [if_pos q] at c2; omega
            · rfl
        have ht : tl r ≤ 2 := by
          rcases h3 with h3 | h3
          · omega
          · omega
        have ea : af ((1, n, [x]) :: r) 0 = (5000 + n) :: af r 0 := by rw [af_0 h2 ht]; simp [af, n9, n8, z2]
        have eo : zOpF n [x] e = .mulL n (.add x e) := by simp [zOpF, n9, n8]
        rw [ea, eo]
        exact sR_fin (hsb (by simp [flat] at b2 ⊢; omega)) (by omega) (by omega) (good5 m1 (by omega) (sh_isE he) (sh_isE hx)) (fin5 m1 (by omega))
    · have e1 : zOps 2 ((k, n, tr) :: r) e = ((k, n, tr) :: r, e) := by simp only [zOps]; rw [if_neg c]
      rw [e1]
      simp only [Nat.sub_self]
      rw [ndn_0]
      exact sR_refl
theorem zRed1 {fs : List zF} {e : T} {J : zJ} (h : wfz fs true) (ht : tl fs ≤ 2) (he : sh e 0 = true) (hb : bF fs J) : sR ts pl (af fs 1, e :: flat fs, J, B) pl (af (zOps 1 fs e).1 1, (zOps 1 fs e).2 :: flat (zOps 1 fs e).1, ndn J (fs.length - (zOps 1 fs e).1.length), B) := by
  by_cases t2 : tl fs ≤ 1
  · rw [zOps_stop t2]
    simp only [Nat.sub_self]
    rw [ndn_0]
    exact sR_refl
  · cases fs with
    | nil => exact h.elim
    | cons f r =>
      obtain ⟨k, n, tr⟩ := f
      have k1 : k = 1 := by
        simp only [tl] at t2
        by_cases q : k = 1
        · exact q
        · rw [if_neg q] at t2; omega
      subst k1
      have z1 : zLev n = 1 := by simp only [tl, if_true] at t2 ht; omega
      obtain ⟨h1, h2, h3⟩ := wf1 h
      have n9 : ¬ n = 9 := by intro q; subst q; simp [zLev] at z1
      have t1 : tl r ≤ 1 := by omega
      have e2 : zOps 1 ((1, n, tr) :: r) e = (r, zOpF n tr e) := by
        simp only [zOps]; rw [if_pos ⟨trivial, by omega⟩, zOps_stop t1]
      rw [e2]
      simp only [List.length_cons, Nat.add_sub_cancel_left]
      obtain ⟨b1, b2, b3⟩ := hb
      simp only [List.length_cons, flat, List.length_append] at b1 b2 b3
      have hl := af_len r 1
      have hsb : ∀ {P : List T}, P.length ≤ 200 → sb (af r 1) P J := fun q => ⟨by omega, by omega, by omega⟩
      rcases h1 with ⟨hn, rfl⟩ | ⟨hn, x, rfl, hx⟩
      · have hn : n = 8 := by
          rcases hn with hn | hn
          · exact hn
          · exact absurd hn n9
        subst hn
        have ea : af ((1, 8, []) :: r) 1 = 6000 :: af r 1 := by rw [af_1 h2 t1]; simp [af]
        rw [ea]
        exact sR_fin (x := 6000) (hsb (by simp [flat]; omega)) (by omega) (by omega) (by simp [sGood, sh_isE he]) rfl
      · obtain ⟨m1, m2⟩ := isBin_n hn
        have n8 : ¬ n = 8 := by omega
        have ea : af ((1, n, [x]) :: r) 1 = (5000 + n) :: af r 1 := by rw [af_1 h2 t1]; simp [af, n9, n8, z1]
        have eo : zOpF n [x] e = .mulL n (.add x e) := by simp [zOpF, n9, n8]
        rw [ea, eo]
        exact sR_fin (hsb (by simp [flat] at b2 ⊢; omega)) (by omega) (by omega) (good5 m1 (by omega) (sh_isE he) (sh_isE hx)) (fin5 m1 (by omega))
theorem zRed0 {fs : List zF} {e : T} {J : zJ} (h : wfz fs true) (ht : tl fs ≤ 1) (he : sh e 0 = true) (hb : bF fs J) (hr : tl fs = 0 → isRel (tok ts pl) = false) : sR ts pl (af fs 2, e :: flat fs, J, B) pl (af (zOps 0 fs e).1 3, (zOps 0 fs e).2 :: flat (zOps 0 fs e).1, ndn J (fs.length - (zOps 0 fs e).1.length), B) := by
  by_cases t2 : tl fs = 0
  · rw [zOps_stop (by omega)]
    simp only [Nat.sub_self]
    rw [ndn_0, af_2 h t2]
    have hl := af_len fs 3
    obtain ⟨b1, b2, b3⟩ := hb
    have := sR_ex (ts := ts) (pl := pl) (x := 209) (l := af fs 3) (P := e :: flat fs) (J := J) (B := B) (k := []) ⟨by omega, by simp; omega, by omega⟩ (by omega) (by omega) (by simp [sExpr, hr t2])
    exact this
  · cases fs with
    | nil => exact h.elim
    | cons f r =>
      obtain ⟨k, n, tr⟩ := f
      have k1 : k = 1 := by
        simp only [tl] at t2
        by_cases q : k = 1
        · exact q
        · rw [if_neg q] at t2; omega
      subst k1
      have z0 : zLev n = 0 := by simp only [tl, if_true] at t2 ht; omega
      obtain ⟨h1, h2, h3⟩ := wf1 h
      have n9 : ¬ n = 9 := by intro q; subst q; simp [zLev] at z0
      have n8 : ¬ n = 8 := by intro q; subst q; simp [zLev] at z0
      have t1 : tl r ≤ 0 := by omega
      have e2 : zOps 0 ((1, n, tr) :: r) e = (r, zOpF n tr e) := by
        simp only [zOps]; rw [if_pos ⟨trivial, by omega⟩, zOps_stop t1]
      rw [e2]
      simp only [List.length_cons]
      obtain ⟨b1, b2, b3⟩ := hb
      simp only [List.length_cons, flat, List.length_append] at b1 b2 b3
      have hl := af_len r 3
      have hsb : ∀ {P : List T}, P.length ≤ 200 → sb (af r 3) P J := fun q => ⟨by omega, by omega, by omega⟩
      rw [show r.length + 1 - r.length = 1 by omega]
      rcases h1 with ⟨hn, rfl⟩ | ⟨hn, x, rfl, hx⟩
      · omega
      · obtain ⟨m1, m2⟩ := isBin_n hn
        have ea : af ((1, n, [x]) :: r) 2 = (5000 + n) :: af r 3 := by simp [af, n9, n8, z0]
        have eo : zOpF n [x] e = .mulL n (.add x e) := by simp [zOpF, n9, n8]
        rw [ea, eo]
        exact sR_fin (hsb (by simp [flat] at b2 ⊢; omega)) (by omega) (by omega) (good5 m1 (by omega) (sh_isE he) (sh_isE hx)) (fin5 m1 (by omega))
theorem bF_ops {m : Nat} {fs : List zF} {e : T} {J : zJ} (h : wfz fs true) (he : sh e 0 = true) (hb : bF fs J) : bF (zOps m fs e).1 (ndn J (fs.length - (zOps m fs e).1.length)) := by
  obtain ⟨w1, w2, w3, w4, w5⟩ := zOps_ok m h he
  have w7 := zOps_len m fs e
  obtain ⟨b1, b2, b3⟩ := hb
  exact ⟨by omega, by omega, by rw [ndn_45]; omega⟩
/-- no operator of terms follows: the term has ended -/
theorem zRedT {fs : List zF} {e : T} {J : zJ} (h : wfz fs true) (he : sh e 0 = true) (hb : bF fs J) (ht : isTerm (tok ts pl) = false) : sR ts pl (af fs 0, e :: flat fs, J, B) pl (af (zOps 1 fs e).1 1, (zOps 1 fs e).2 :: flat (zOps 1 fs e).1, ndn J (fs.length - (zOps 1 fs e).1.length), B) := by
  have a := zRed2 (ts := ts) (pl := pl) (B := B) h he hb
  obtain ⟨w1, w2, w3, w4, w5⟩ := zOps_ok 2 h he
  have w6 := zOps_tl 2 fs e
  have b := bF_ops (m := 2) h he hb
  have c := zRed1 (ts := ts) (pl := pl) (B := B) w1 w6 w2 b
  rw [zOps_zOps (by omega), ndn_ndn] at c
  have l1 := zOps_len 2 fs e
  have l2 := zOps_len 1 (zOps 2 fs e).1 (zOps 2 fs e).2
  rw [zOps_zOps (by omega)] at l2
  rw [show fs.length - (zOps 2 fs e).1.length + ((zOps 2 fs e).1.length - (zOps 1 fs e).1.length) = fs.length - (zOps 1 fs e).1.length by omega] at c
  refine sR_trans a (sR_trans ?_ c)
  rw [af_0 w1 w6]
  have hl := af_len (zOps 2 fs e).1 1
  obtain ⟨b1, b2, b3⟩ := b
  simp only [isTerm, Bool.or_eq_false_iff, Bool.and_eq_false_iff, decide_eq_false_iff_not, beq_eq_false_iff_ne] at ht
  have := sR_ex (ts := ts) (pl := pl) (x := 213) (l := af (zOps 2 fs e).1 1) (P := (zOps 2 fs e).2 :: flat (zOps 2 fs e).1) (J := ndn J (fs.length - (zOps 2 fs e).1.length)) (B := B) (k := []) ⟨by omega, by simp; omega, by omega⟩ (by omega) (by omega) (by
    simp only [sExpr]
    rw [if_neg (by omega), if_neg (by omega), if_neg (by omega), if_neg (by omega), if_neg (by omega), if_neg (by omega)])
  exact this
/-- no operator follows but perhaps a relation: the simple expression has ended -/
theorem zRedS {fs : List zF} {e : T} {J : zJ} (h : wfz fs true) (he : sh e 0 = true) (hb : bF fs J) (ht : isTerm (tok ts pl) = false) (hs : isSimp (tok ts pl) = false) : sR ts pl (af fs 0, e :: flat fs, J, B) pl (af (zOps 1 fs e).1 2, (zOps 1 fs e).2 :: flat (zOps 1 fs e).1, ndn J (fs.length - (zOps 1 fs e).1.length), B) := by
  refine sR_trans (zRedT h he hb ht) ?_
  obtain ⟨w1, w2, w3, w4, w5⟩ := zOps_ok 1 h he
  have w6 := zOps_tl 1 fs e
  have b := bF_ops (m := 1) h he hb
  rw [af_1 w1 w6]
  have hl := af_len (zOps 1 fs e).1 2
  obtain ⟨b1, b2, b3⟩ := b
  simp only [isSimp, Bool.or_eq_false_iff, beq_eq_false_iff_ne] at hs
  have := sR_ex (ts := ts) (pl := pl) (x := 211) (l := af (zOps 1 fs e).1 2) (P := (zOps 1 fs e).2 :: flat (zOps 1 fs e).1) (J := ndn J (fs.length - (zOps 1 fs e).1.length)) (B := B) (k := []) ⟨by omega, by simp; omega, by omega⟩ (by omega) (by omega) (by
    simp only [sExpr]
    rw [if_neg (by omega), if_neg (by omega), if_neg (by omega), if_pos trivial, if_neg (by omega)])
  exact this
/-- the expression has ended -/
theorem zRedE {fs : List zF} {e : T} {J : zJ} (h : wfz fs true) (he : sh e 0 = true) (hb : bF fs J) (ht : isTerm (tok ts pl) = false) (hs : isSimp (tok ts pl) = false) (hr : tl (zOps 1 fs e).1 = 0 → isRel (tok ts pl) = false) : sR ts pl (af fs 0, e :: flat fs, J, B) pl (af (zOps 0 fs e).1 3, (zOps 0 fs e).2 :: flat (zOps 0 fs e).1, ndn J (fs.length - (zOps 0 fs e).1.length), B) := by
  refine sR_trans (zRedS h he hb ht hs) ?_
  obtain ⟨w1, w2, w3, w4, w5⟩ := zOps_ok 1 h he
  have w6 := zOps_tl 1 fs e
  have b := bF_ops (m := 1) h he hb
  have c := zRed0 (ts := ts) (pl := pl) (B := B) w1 w6 w2 b hr
  have l1 := zOps_len 1 fs e
  have l2 := zOps_len 0 (zOps 1 fs e).1 (zOps 1 fs e).2
  rw [zOps_zOps (by omega)] at l2
  rw [zOps_zOps (by omega), ndn_ndn, show fs.length - (zOps 1 fs e).1.length + ((zOps 1 fs e).1.length - (zOps 0 fs e).1.length) = fs.length - (zOps 0 fs e).1.length by omega] at c
  exact c
end RED
