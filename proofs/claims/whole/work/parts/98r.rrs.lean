/-! THE REFERENCE'S RUN DOES evT: results, and the plain forms -/
def rRs (M0 M : zMem) (L P : Nat → Int32) (s : zE) (d : Nat) (W : List (Nat × Nat)) (vs : List Int32) (Wb : List (Nat × Nat)) (vb : List Int32) (r : zR) : Prop :=
  s.2.1 ≤ r.2.2.2.1 ∧ ∃ M' k, rS M M' k ∧ (r.1 = 0 → rM M0 M' L P r.2.2 d W (r.2.1.reverse ++ vs)) ∧ (r.1 = 1 → (d = 0 → rX M0 M' r.2.2 0) ∧ ∀ d', d = d' + 1 → rM M0 M' L P ((fun a i => if a = 2 then L (8 * d' + i) else r.2.2.1 a i), r.2.2.2) d' Wb (r.2.1 ++ vb)) ∧ (2 ≤ r.1 → rX M0 M' r.2.2 (r.1 - 2))
/-- how many wait at once -/
def tw : T → Nat → Nat
  | .num _, _ => 1
  | .var _, _ => 1
  | .add a b, m => if m = 1 then max (1 + tw a 0) (tw b 1) else if m = 5 then max (tw a 0) (tw b 0) else if m = 6 then max (tw a 0) (tw b 1) else if m = 7 then max (1 + tw a 1) (tw b 0) else if m = 8 then max (tw a 0) (tw b 9) else max (tw a 1) (tw b 1)
  | .mulL k s, _ => 1 + tw s (rmode k)
  | .mulR s _, _ => 1 + tw s 1
section RR
variable {M0 M M1 : zMem} {L P : Nat → Int32} {s s' s1 : zE} {d k : Nat} {W W1 Wb : List (Nat × Nat)} {vs vs1 vb l : List Int32} {r : zR} {f : List Int32 → zE → zR}
theorem rRs_ok (hS : rS M M1 k) (ht : s.2.1 ≤ s'.2.1) (hM : rM M0 M1 L P s' d W (l.reverse ++ vs)) : rRs M0 M L P s d W vs Wb vb (0, l, s') :=
  ⟨ht, M1, k, hS, fun _ => hM, fun w => by simp at w, fun w => by simp at w⟩
theorem rRs_x {j : Nat} (hS : rS M M1 k) (ht : s.2.1 ≤ s'.2.1) (hX : rX M0 M1 s' j) : rRs M0 M L P s d W vs Wb vb (j + 2, l, s') :=
  ⟨ht, M1, k, hS, fun w => by simp at w, fun w => by simp at w, fun _ => hX⟩
theorem rRs_pre (hS : rS M M1 k) (ht : s.2.1 ≤ s1.2.1) (h : rRs M0 M1 L P s1 d W vs Wb vb r) : rRs M0 M L P s d W vs Wb vb r := by
  obtain ⟨h1, M', k', h2, h4⟩ := h
  exact ⟨Nat.le_trans ht h1, M', k + k', rS_trans hS h2, h4⟩
theorem rRs_rb (h : rRs M0 M L P s d W1 vs1 Wb vb r) (g : r.1 = 0 → s.2.1 ≤ r.2.2.2.1 → ∀ M1, rM M0 M1 L P r.2.2 d W1 (r.2.1.reverse ++ vs1) → rRs M0 M1 L P r.2.2 d W vs Wb vb (f r.2.1 r.2.2)) : rRs M0 M L P s d W vs Wb vb (rb r f) := by
  obtain ⟨h1, M', k', h2, h4, h5, h6⟩ := h
  by_cases c : r.1 = 0
  · rw [rb_0 c]
    exact rRs_pre h2 h1 (g c h1 M' (h4 c))
  · rw [rb_n c]
    exact ⟨h1, M', k', h2, fun w => absurd w c, h5, h6⟩
/-- values that come out are the same below -/
theorem rRs_as (h : rRs M0 M L P s d W1 vs1 Wb vb r) (g : r.1 = 0 → W1 = W ∧ vs1 = vs) : rRs M0 M L P s d W vs Wb vb r := by
  obtain ⟨h1, M', k', h2, h4, h5, h6⟩ := h
  exact ⟨h1, M', k', h2, fun w => by obtain ⟨e1, e2⟩ := g w; subst e1; subst e2; exact h4 w, h5, h6⟩
end RR
theorem cw8 (j st : Nat) : (8 : Int32) * (nI j + 1) + nI st = nI (8 * (j + 1) + st) := by
  rw [nI_1, show (8 : Int32) = nI 8 from rfl, pk_mul, nI_add]
/-- a node's number -/
theorem Rep_0 {M : zMem} : ∀ {t : T} {lo hi : Nat} {x : Int32}, Rep M t 0 lo hi x → ∃ j, x = nI j ∧ lo ≤ j ∧ j < hi
  | .num k, lo, hi, x, h => by
    obtain ⟨-, h1, h2, -⟩ := h
    exact ⟨lo, h2, Nat.le_refl _, by omega⟩
  | .var y, lo, hi, x, h => by
    simp only [Rep] at h
    split at h
    · rw [if_neg (by omega)] at h; omega
    · split at h
      · omega
      · exact ⟨lo, h.2.2.1, Nat.le_refl _, by omega⟩
  | .add a b, lo, hi, x, h => by
    simp [Rep] at h
  | .mulL k e, lo, hi, x, h => by
    obtain ⟨-, h1, h2, -⟩ := h
    exact ⟨hi - 1, h2, by omega, by omega⟩
  | .mulR e q, lo, hi, x, h => by
    obtain ⟨-, h1, h2, -⟩ := h
    exact ⟨lo, h2, Nat.le_refl _, h1⟩
theorem Rep_1 {M : zMem} {t : T} {lo hi : Nat} {x : Int32} (h : Rep M t 1 lo hi x) (hh : hi ≤ 400) {st : Nat} (hs : st < 8) : ∃ c, (8 : Int32) * (x + 1) + nI st = nI c ∧ c < 4000 := by
  cases t with
  | num k => simp [Rep] at h
  | var y =>
    simp only [Rep] at h
    split at h
    · rw [if_neg (by omega)] at h
      refine ⟨st, ?_, by omega⟩
      rw [h.2.2, show (8 : Int32) * (-1 + 1) = nI 0 by decide, nI_add, Nat.zero_add]
    · split at h <;> omega
  | add a b =>
    simp only [Rep] at h
    rw [if_pos True.intro] at h
    obtain ⟨m, k, h1, h2, h3, h4, h5⟩ := h
    have := Rep_le h5
    exact ⟨8 * (k + 1) + st, by rw [h2]; exact cw8 k st, by omega⟩
  | mulL k e => simp [Rep] at h
  | mulR e q => simp [Rep] at h
theorem Rep_2 {M : zMem} {t : T} {md lo hi : Nat} {x : Int32} (hs : sh t 2 = true) (hm : md = 2 ∨ md = 3) (h : Rep M t md lo hi x) : x = nI lo ∧ lo < hi ∧ M 39 lo = 30 ∧ Rep M t 1 (lo + 1) hi (M 41 lo) := by
  cases t with
  | num k => simp [sh] at hs
  | var y =>
    have hy := sh_var (x := y) hs
    have hy : @Eq Nat y 99 := by omega
    simp only [Rep] at h ⊢
    rw [if_pos hy, if_pos hm] at h
    rw [if_pos hy, if_neg (by omega)]
    exact ⟨h.2.1, by omega, h.2.2.1, trivial, by omega, h.2.2.2⟩
  | add a b =>
    simp only [Rep] at h ⊢
    rw [if_neg (by omega), if_pos hm] at h
    rw [if_pos True.intro]
    obtain ⟨h1, h2, h3, m, k, h4⟩ := h
    exact ⟨h1, h2, h3, m, k, h4⟩
  | mulL k e => simp [sh] at hs
  | mulR e q => simp [sh] at hs
/-- an expression or a statement at its node; a chain -/
def rE (M0 : zMem) (ev : zRec) (n : Nat) (t : T) : Prop :=
  ∀ d mk M L P s W vs Wb vb lo hi k h, 301 ≤ n + s.2.1 → d ≤ 20 → rLv M0 d (P d) mk → Rep M0 t 0 lo hi (nI k) → k < 400 → hi ≤ 400 → rM M0 M L P s d ((8 * (k + 1), h) :: W) vs → W.length + tw t 0 ≤ 160 * (d + 1) → vs.length + td t 1 ≤ 76 * (d + 1) → rBs W vs Wb vb d → rRs M0 M L P s d W vs Wb vb (ev d mk t 0 s)
def rCh (M0 : zMem) (ev : zRec) (n : Nat) (t : T) (st tm : Nat) : Prop :=
  ∀ d mk M L P s W vs Wb vb lo hi x c h, 301 ≤ n + s.2.1 → d ≤ 20 → rLv M0 d (P d) mk → Rep M0 t 1 lo hi x → (8 : Int32) * (x + 1) + nI st = nI c → c < 4000 → hi ≤ 400 → rM M0 M L P s d ((c, h) :: W) vs → W.length + tw t 1 ≤ 160 * (d + 1) → vs.length + td t tm ≤ 76 * (d + 1) → rBs W vs Wb vb d → rRs M0 M L P s d W vs Wb vb (ev d mk t 1 s)
section RV
variable {M0 : zMem} {J : zJ} {B : Nat → T} {n : Nat} {a b e : T} {k m md q : Nat}
theorem r_num : rE M0 (evN J B (n + 1)) (n + 1) (.num q) := by
  intro d ow M L P s W vs Wb vb lo hi k h hn hd hL hR hk hh hM hW hv hB
  obtain ⟨-, c1, c2, c3, c4⟩ := hR
  have := nI_inj (by omega) (by omega) c2
  subst this
  have hW : W.length + 1 ≤ 160 * (d + 1) := hW
  have hv : vs.length + 1 ≤ 76 * (d + 1) := hv
  obtain ⟨M1, f1, f2⟩ := gBeg hM (by omega) hk
  have fr := f1.2.2.2.2.2.2.2.1
  obtain ⟨M2, g1, g2⟩ := gHold f1 (by omega) (nI q)
  refine rRs_ok (f2 M2 ?_) (Nat.le_refl _) g2
  unfold F_R_begin
  rw [zix_nI _ hk (by omega), nI_clamp (by omega), fr 39 (by omega) (by omega), c3, if_pos rfl, zix_nI _ hk (by omega), fr 40 (by omega) (by omega), c4, g1, zbv_some]
theorem r_var {x : Nat} (hx : x < 8) : rE M0 (evN J B (n + 1)) (n + 1) (.var x) := by
  intro d ow M L P s W vs Wb vb lo hi k h hn hd hL hR hk hh hM hW hv hB
  simp only [Rep] at hR
  rw [if_neg (show ¬ x = 99 by omega), if_neg (show ¬ x = 98 by omega)] at hR
  obtain ⟨-, c1, c2, c3, c4⟩ := hR
  have := nI_inj (by omega) (by omega) c2
  subst this
  have hW : W.length + 1 ≤ 160 * (d + 1) := hW
  have hv : vs.length ≤ 76 * (d + 1) := by omega
  obtain ⟨M1, f1, f2⟩ := gBeg hM (by omega) hk
  have fr := f1.2.2.2.2.2.2.2.1
  have loc := gLoc f1 hL hd hx
  show rRs M0 M L P s d W vs Wb vb (evT (evN J B n) J B d ow (.var x) 0 s)
  simp only [evT]
  rw [if_neg (show ¬ (x = 99 ∨ x = 98) by omega)]
  obtain ⟨M2, g1, g2⟩ := gHold f1 (by omega) (vGet ow x s)
  refine rRs_ok (f2 M2 ?_) (Nat.le_refl _) g2
  unfold F_R_begin F_R_begin_p45
  rw [zix_nI _ hk (by omega), nI_clamp (by omega), fr 39 (by omega) (by omega), c3, if_neg (by decide), if_pos rfl, zix_nI _ hk (by omega), fr 40 (by omega) (by omega), c4, loc, zbi_some]
  unfold vGet at g1
  by_cases o : kOwn (nI ow) x = true
  · have hd0 := rLv_d hL hx o
    rw [if_pos o] at g1 ⊢
    rw [if_neg (by decide), zix_nI _ hk (by omega), fr 40 (by omega) (by omega), c4, l8 f1, zix_nI _ (by omega) (by omega), nI_clamp (by omega), f1.2.2.2.2.1 hd0 x hx, g1, zbv_some]
  · rw [if_neg o] at g1 ⊢
    rw [if_pos rfl, zix_nI _ hk (by omega), fr 40 (by omega) (by omega), c4, zix_nI _ hx (by omega), nI_clamp (by omega), f1.1.1 x hx, g1, zbv_some]
/-- chains -/
theorem r_nil {x st tm : Nat} (hx : x = 99) (h6 : st = 6 ∨ st = 7) : rCh M0 (evN J B (n + 1)) (n + 1) (.var x) st tm := by
  intro d ow M L P s W vs Wb vb lo hi y c h hn hd hL hR hc hc4 hh hM hW hv hB
  simp only [Rep] at hR
  rw [if_pos hx, if_neg (by omega)] at hR
  have hc' : c = st := by
    rw [hR.2.2, show (8 : Int32) * (-1 + 1) = nI 0 by decide, nI_add, Nat.zero_add] at hc
    exact (nI_inj (by omega) (by omega) hc).symm
  subst hc'
  have hW : W.length + 1 ≤ 160 * (d + 1) := hW
  obtain ⟨M', f1, f2⟩ := gCh0 hM (by omega) h6
  show rRs M0 M L P s d W vs Wb vb (evT (evN J B n) J B d ow (.var x) 1 s)
  simp only [evT]
  rw [if_pos (Or.inl hx)]
  exact rRs_ok f1 (Nat.le_refl _) f2
theorem r_cons {st tm : Nat} (hm : (st = 7 ∧ tm = 1) ∨ (st = 6 ∧ tm = 4)) (ia : rE M0 (evN J B (n + 1)) (n + 1) a) (ib : rCh M0 (evN J B (n + 1)) (n + 1) b st tm) (va : (st = 7 ∧ vA J B n a 0 False 0) ∨ (st = 6 ∧ vA J B n a 0 True 1)) : rCh M0 (evN J B (n + 1)) (n + 1) (.add a b) st tm := by
  intro d ow M L P s W vs Wb vb lo hi y c h hn hd hL hR hc hc4 hh hM hW hv hB
  simp only [Rep] at hR
  rw [if_pos True.intro] at hR
  obtain ⟨m1, k, h1, h2, h3, h4, h5⟩ := hR
  have l5 := Rep_le h5
  have hW : W.length + max (1 + tw a 0) (tw b 1) ≤ 160 * (d + 1) := hW
  rw [h2, cw8] at hc
  have hc' := nI_inj (by omega) (by omega) hc
  subst hc'
  obtain ⟨c', e1, e2⟩ := Rep_1 (st := st) h5 hh (by omega)
  obtain ⟨M1, f1, f2⟩ := gCh (c' := c') hM (by omega) (by omega) (by omega) e1
  show rRs M0 M L P s d W vs Wb vb (evT (evN J B n) J B d ow (.add a b) 1 s)
  rw [ev_1 (Or.inl rfl)]
  refine rRs_pre f1 (Nat.le_refl _) ?_
  rw [h2] at h1
  have ta : td a 1 ≤ td (.add a b) tm := by
    rcases hm with ⟨-, rfl⟩ | ⟨-, rfl⟩
    · exact (td_ad (by omega) (by omega)).2.2.1
    · have := td_01 a
      show td a 1 ≤ max (td a 0) (1 + td b 4)
      omega
  refine rRs_rb (ia d ow M1 L P s ((c', vs.length) :: W) vs Wb vb lo m1 k _ hn hd hL h1 (by omega) (by omega) f2 (by simp only [List.length_cons]; omega) (by omega) (rBs_w hB e2)) fun c1 c2 M2 hM2 => ?_
  have c1 : (evT (evN J B n) J B d ow a 0 s).1 = 0 := c1
  have c2 : s.2.1 ≤ (evT (evN J B n) J B d ow a 0 s).2.2.2.1 := c2
  have hM2 : rM M0 M2 L P (evT (evN J B n) J B d ow a 0 s).2.2 d ((c', vs.length) :: W) ((evT (evN J B n) J B d ow a 0 s).2.1.reverse ++ vs) := hM2
  have tb : ((evT (evN J B n) J B d ow a 0 s).2.1.reverse ++ vs).length + td b tm ≤ 76 * (d + 1) := by
    rw [List.length_append, List.length_reverse]
    rcases hm with ⟨q, rfl⟩ | ⟨q, rfl⟩
    · have z : (evT (evN J B n) J B d ow a 0 s).2.1.length = 0 := by
        rcases va with ⟨-, va⟩ | ⟨w, -⟩
        · exact (va d ow s).2.1 c1
        · omega
      have := (td_ad (a := a) (b := b) (m := 1) (by omega) (by omega)).2.2.2
      omega
    · have z : (evT (evN J B n) J B d ow a 0 s).2.1.length = 1 := by
        rcases va with ⟨w, -⟩ | ⟨-, va⟩
        · omega
        · exact (va d ow s).2.1 c1
      have hv : vs.length + max (td a 0) (1 + td b 4) ≤ 76 * (d + 1) := hv
      omega
  refine rRs_rb (ib d ow M2 L P _ W _ Wb vb m1 hi (M0 44 k) c' vs.length (by omega) hd hL h5 e1 e2 hh hM2 (by omega) tb (rBs_v hB)) fun c3 c4 M3 hM3 => ?_
  refine rRs_ok (rS_refl _) (Nat.le_refl _) ?_
  rw [List.reverse_append, List.append_assoc]
  exact hM3
/-- a node begins with its first part -/
theorem gB1 {M : zMem} {L P : Nat → Int32} {s : zE} {d h kk j : Nat} {W : List (Nat × Nat)} {vs : List Int32} (hM : rM M0 M L P s d ((8 * (k + 1), h) :: W) vs) (hk : k < 400) (hW : W.length < 3590) (h39 : M0 39 k = nI kk) (hkk : kk < 1000) (hn : ¬ kk = 0 ∧ ¬ kk = 1 ∧ ¬ kk = 3 ∧ ¬ kk = 26) (h41 : M0 41 k = nI j) : ∃ M', rS M M' 1 ∧ rM M0 M' L P s d ((8 * (j + 1), vs.length) :: (8 * (k + 1) + 1, vs.length) :: W) vs := by
  obtain ⟨M1, f1, f2⟩ := gBeg hM (by omega) hk
  have fr := f1.2.2.2.2.2.2.2.1
  obtain ⟨M2, g1, g2⟩ := gWait (x := nI k) (st := 1) (c := 8 * (k + 1) + 1) f1 (by omega) (cw8 k 1)
  obtain ⟨M3, g3, g4⟩ := gWait (x := nI j) (st := 0) (c := 8 * (j + 1)) g2 (by simp only [List.length_cons]; omega) (cw8 j 0)
  refine ⟨M3, f2 M3 ?_, g4⟩
  unfold F_R_begin
  rw [zix_nI _ hk (by omega), nI_clamp (by omega), fr 39 (by omega) (by omega), h39, if_neg (show ¬ nI kk = 0 from nIne (c := 0) hkk (by omega) hn.1), if_neg (show ¬ nI kk = 1 from nIne (c := 1) hkk (by omega) hn.2.1), if_neg (show ¬ nI kk = 3 from nIne (c := 3) hkk (by omega) hn.2.2.1), if_neg (show ¬ nI kk = 26 from nIne (c := 26) hkk (by omega) hn.2.2.2), g1, zbv_some, zix_nI _ hk (by omega), g2.2.2.2.2.2.2.2.1 41 (by omega) (by omega), h41, g3, zbv_some]
/-- one value, then one step more -/
theorem r_un (F : Nat → Nat → Int32 → zE → zR) (hev : ∀ d ow s, evT (evN J B n) J B d ow (.mulL k e) 0 s = rb (evT (evN J B n) J B d ow e 0 s) fun l s1 => F d ow (v1 l) s1) (ie : rE M0 (evN J B (n + 1)) (n + 1) e) (ve : vA J B n e 0 True 1) (hk : rmode k = 0) (ht : ∀ x, td (.mulL k e) x = td e 0) (hkk : rk k < 1000 ∧ ¬ rk k = 0 ∧ ¬ rk k = 1 ∧ ¬ rk k = 3 ∧ ¬ rk k = 26)
    (hop : ∀ d ow M L P s W vs Wb vb v h kn, d ≤ 20 → rLv M0 d (P d) ow → kn < 400 → M0 39 kn = nI (rk k) → (200 ≤ k → M0 40 kn = nI (k - 200)) → W.length < 3500 → vs.length < 3500 → rBs W vs Wb vb d → rM M0 M L P s d ((8 * (kn + 1) + 1, h) :: W) (v :: vs) → rRs M0 M L P s d W vs Wb vb (F d ow v s)) : rE M0 (evN J B (n + 1)) (n + 1) (.mulL k e) := by
  intro d ow M L P s W vs Wb vb lo hi kn h hn hd hL hR hkn hh hM hW hv hB
  obtain ⟨-, h1, h2, h3, h4, h5⟩ := hR
  have := nI_inj (by omega) (by omega) h2
  subst this
  rw [hk] at h5
  obtain ⟨j, j1, j2, j3⟩ := Rep_0 h5
  have hW : W.length + (1 + tw e (rmode k)) ≤ 160 * (d + 1) := hW
  rw [hk] at hW
  rw [ht, td_01] at hv
  obtain ⟨M1, f1, f2⟩ := gB1 hM hkn (by omega) h3 hkk.1 hkk.2 j1
  show rRs M0 M L P s d W vs Wb vb (evT (evN J B n) J B d ow (.mulL k e) 0 s)
  rw [hev]
  refine rRs_pre f1 (Nat.le_refl _) ?_
  rw [j1] at h5
  refine rRs_rb (ie d ow M1 L P s _ vs Wb vb lo (hi - 1) j _ hn hd hL h5 (by omega) (by omega) f2 (by simp only [List.length_cons]; omega) hv (rBs_w hB (by omega))) fun c1 c2 M2 hM2 => ?_
  have z0 := len1 ((ve d ow s).2.1 c1)
  have hM2 : rM M0 M2 L P (evT (evN J B n) J B d ow e 0 s).2.2 d ((8 * (hi - 1 + 1) + 1, vs.length) :: W) ((evT (evN J B n) J B d ow e 0 s).2.1.reverse ++ vs) := hM2
  rw [z0] at hM2
  exact hop d ow M2 L P _ W vs Wb vb _ _ (hi - 1) hd hL hkn h3 h4 (by omega) (by omega) hB hM2
end RV
