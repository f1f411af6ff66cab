/-! THE REFERENCE'S RUN: pairs, loops, if, calls -/
theorem rb_assoc (r : zR) (f g : List Int32 → zE → zR) : rb (rb r f) g = rb r fun l s => rb (f l s) g := by
  by_cases c : r.1 = 0
  · rw [rb_0 c, rb_0 c]
  · rw [rb_n c, rb_n c, rb_n c]
theorem evN_kp {J : zJ} {B : Nat → T} {n d ow k : Nat} {e : T} {s : zE} (hn : 1 ≤ n) (h : k = 25 ∨ k = 26 ∨ k = 27 ∨ k = 150 ∨ k = 151) : evN J B n d ow (.mulL k e) 0 s = evN J B n d ow e k s := by
  obtain ⟨n, rfl⟩ : ∃ n', n = n' + 1 := ⟨n - 1, by omega⟩
  exact ev_kp (md := 0) h
/-- what the procs of a program are in the reference -/
def rHB (M0 : zMem) (J : zJ) (B : Nat → T) : Prop := (∀ i, J 2 i < 8) ∧ ∀ p, p < 4 → J 6 p = 1 → (sh (B p) 2 = true ∧ gT J (B p)) ∧ td (B p) 1 ≤ 76 ∧ tw (B p) 1 ≤ 150 ∧ (∃ lo hi, M0 46 p = nI lo ∧ hi ≤ 400 ∧ lo < hi ∧ Rep M0 (B p) 1 (lo + 1) hi (M0 41 lo)) ∧ M0 47 p = nI (J 1 p) ∧ J 1 p ≤ 8 ∧ (∀ i, i < J 1 p → M0 49 (8 * p + i) = nI (J 2 (8 * p + i))) ∧ M0 48 p = nI (J 3 p)
section RV
variable {M0 : zMem} {J : zJ} {B : Nat → T} {n : Nat} {a b e : T} {k m md q : Nat}
/-- a, then the node's step 1 -/
theorem r_a (hkk : ∃ kk, M0 39 m = nI kk ∧ kk < 1000 ∧ ¬ kk = 0 ∧ ¬ kk = 1 ∧ ¬ kk = 3 ∧ ¬ kk = 26) (ia : rE M0 (evN J B (n + 1)) (n + 1) a) (va : vA J B n a 0 True 1) {d ow : Nat} {M : zMem} {L P : Nat → Int32} {s : zE} {W Wb : List (Nat × Nat)} {vs vb : List Int32} {lo hi h x : Nat} {f : List Int32 → zE → zR} (hn : 301 ≤ n + 1 + s.2.1) (hd : d ≤ 20) (hL : rLv M0 d (P d) ow) (hR : Rep M0 a 0 lo hi (M0 41 m)) (hm : m < 400) (hh : hi ≤ 400) (hM : rM M0 M L P s d ((8 * (m + 1), h) :: W) vs) (hW : W.length + (1 + tw a 0) ≤ 160 * (d + 1)) (hv : vs.length + td a 1 ≤ 76 * (d + 1)) (hB : rBs W vs Wb vb d)
    (g : s.2.1 ≤ (evT (evN J B n) J B d ow a 0 s).2.2.2.1 → ∀ M1, rM M0 M1 L P (evT (evN J B n) J B d ow a 0 s).2.2 d ((8 * (m + 1) + 1, vs.length) :: W) (v1 (evT (evN J B n) J B d ow a 0 s).2.1 :: vs) → (evT (evN J B n) J B d ow a 0 s).2.1 = [v1 (evT (evN J B n) J B d ow a 0 s).2.1] → rRs M0 M1 L P (evT (evN J B n) J B d ow a 0 s).2.2 d W vs Wb vb (f (evT (evN J B n) J B d ow a 0 s).2.1 (evT (evN J B n) J B d ow a 0 s).2.2)) : rRs M0 M L P s d W vs Wb vb (rb (evT (evN J B n) J B d ow a 0 s) f) := by
  obtain ⟨kk, k1, k2, k3⟩ := hkk
  obtain ⟨j, j1, j2, j3⟩ := Rep_0 hR
  obtain ⟨M1, f1, f2⟩ := gB1 hM hm (by omega) k1 k2 k3 j1
  refine rRs_pre f1 (Nat.le_refl _) ?_
  rw [j1] at hR
  refine rRs_rb (ia d ow M1 L P s _ vs Wb vb lo hi j _ hn hd hL hR (by omega) hh f2 (by simp only [List.length_cons]; omega) hv (rBs_w hB (by omega))) fun c1 c2 M2 hM2 => ?_
  have z0 := len1 ((va d ow s).2.1 c1)
  have hM2 : rM M0 M2 L P (evT (evN J B n) J B d ow a 0 s).2.2 d ((8 * (m + 1) + 1, vs.length) :: W) ((evT (evN J B n) J B d ow a 0 s).2.1.reverse ++ vs) := hM2
  rw [z0] at hM2
  exact g c2 M2 hM2 z0
theorem r_pr (hk : k = 21 ∨ (130 ≤ k ∧ k < 150)) (F : Int32 → Int32 → zE → zR) (hev : ∀ d ow s, evT (evN J B n) J B d ow (.mulL k (.add a b)) 0 s = rb (evT (evN J B n) J B d ow (.add a b) 5 s) fun l s1 => F (v1 l) (v2 l) s1) (ia : rE M0 (evN J B (n + 1)) (n + 1) a) (ib : rE M0 (evN J B (n + 1)) (n + 1) b) (va : vA J B n a 0 True 1) (vb' : vA J B n b 0 True 1)
    (hop : ∀ d M L P s W vs Wb vb v w h kn, kn < 400 → M0 39 kn = nI k → W.length < 3500 → vs.length < 3500 → rM M0 M L P s d ((8 * (kn + 1) + 2, h) :: W) (w :: v :: vs) → rRs M0 M L P s d W vs Wb vb (F v w s)) : rE M0 (evN J B (n + 1)) (n + 1) (.mulL k (.add a b)) := by
  intro d ow M L P s W vs Wb vb lo hi kn h hn hd hL hR hkn hh hM hW hv hB
  obtain ⟨-, h1, h2, h3, -, h5⟩ := hR
  have := nI_inj (by omega) (by omega) h2
  subst this
  have hrk : rk k = k := if_neg (by omega)
  have hrm : rmode k = 5 := by unfold rmode; rw [if_neg (by omega), if_neg (by omega), if_neg (by omega), if_pos (by omega)]
  rw [hrk] at h3
  rw [hrm] at h5
  simp only [Rep] at h5
  rw [if_neg (by omega), if_neg (by omega), if_neg (by omega), if_pos True.intro] at h5
  obtain ⟨m1, r1, r2⟩ := h5
  have l1 := Rep_le r1
  have l2 := Rep_le r2
  have hW : W.length + (1 + tw (.add a b) (rmode k)) ≤ 160 * (d + 1) := hW
  rw [hrm] at hW
  have hW : W.length + (1 + max (tw a 0) (tw b 0)) ≤ 160 * (d + 1) := hW
  have ht : td (.mulL k (.add a b)) 1 = max (td a 0) (1 + td b 0) := by
    simp only [td]
    rw [if_pos (by omega), if_neg (by omega), if_pos trivial]
  rw [ht] at hv
  have ta := td_01 a
  have tb := td_01 b
  show rRs M0 M L P s d W vs Wb vb (evT (evN J B n) J B d ow (.mulL k (.add a b)) 0 s)
  rw [hev, ev_5, rb_assoc]
  refine r_a ⟨k, h3, by omega, by omega, by omega, by omega, by omega⟩ ia va (x := 0) hn hd hL r1 hkn (by omega) hM (by omega) (by omega) hB fun c2 M1 hM1 z0 => ?_
  obtain ⟨j, j1, j2, j3⟩ := Rep_0 r2
  obtain ⟨M2, f1, f2⟩ := hNext hkn h3 (by omega) j1 (by omega) (by omega) hM1
  rw [rb_assoc]
  refine rRs_pre f1 (Nat.le_refl _) ?_
  rw [j1] at r2
  refine rRs_rb (ib d ow M2 L P _ _ _ Wb vb m1 (hi - 1) j _ (by omega) hd hL r2 (by omega) (by omega) f2 (by simp only [List.length_cons]; omega) (by simp only [List.length_cons]; omega) (rBs_w (rBs_1 hB) (by omega))) fun c3 c4 M3 hM3 => ?_
  have z4 := len1 ((vb' d ow _).2.1 c3)
  have hM3 : rM M0 M3 L P (evT (evN J B n) J B d ow b 0 (evT (evN J B n) J B d ow a 0 s).2.2).2.2 d ((8 * (hi - 1 + 1) + 2, vs.length + 1) :: W) ((evT (evN J B n) J B d ow b 0 (evT (evN J B n) J B d ow a 0 s).2.2).2.1.reverse ++ (v1 (evT (evN J B n) J B d ow a 0 s).2.1 :: vs)) := hM3
  show rRs M0 M3 L P (evT (evN J B n) J B d ow b 0 (evT (evN J B n) J B d ow a 0 s).2.2).2.2 d W vs Wb vb (rb (0, (evT (evN J B n) J B d ow a 0 s).2.1 ++ (evT (evN J B n) J B d ow b 0 (evT (evN J B n) J B d ow a 0 s).2.2).2.1, (evT (evN J B n) J B d ow b 0 (evT (evN J B n) J B d ow a 0 s).2.2).2.2) fun l s1 => F (v1 l) (v2 l) s1)
  rw [rb_0 rfl]
  rw [z4] at hM3
  rw [z0, z4]
  exact hop d M3 L P _ W vs Wb vb _ _ _ (hi - 1) hkn h3 (by omega) (by omega) hM3
theorem r_ao (hk : k = 150 ∨ k = 151) (ia : rE M0 (evN J B (n + 1)) (n + 1) a) (ib : rE M0 (evN J B (n + 1)) (n + 1) b) (va : vA J B n a 0 True 1) (vb' : vA J B n b 0 True 1) : rE M0 (evN J B (n + 1)) (n + 1) (.mulL k (.add a b)) := by
  intro d ow M L P s W vs Wb vb lo hi kn h hn hd hL hR hkn hh hM hW hv hB
  obtain ⟨-, h1, h2, h3, -, h5⟩ := hR
  have := nI_inj (by omega) (by omega) h2
  subst this
  have hrk : rk k = k := if_neg (by omega)
  have hrm : rmode k = 5 := by unfold rmode; rw [if_neg (by omega), if_neg (by omega), if_neg (by omega), if_pos (by omega)]
  rw [hrk] at h3
  rw [hrm] at h5
  simp only [Rep] at h5
  rw [if_neg (by omega), if_neg (by omega), if_neg (by omega), if_pos True.intro] at h5
  obtain ⟨m1, r1, r2⟩ := h5
  have l1 := Rep_le r1
  have l2 := Rep_le r2
  have hW : W.length + (1 + tw (.add a b) (rmode k)) ≤ 160 * (d + 1) := hW
  rw [hrm] at hW
  have hW : W.length + (1 + max (tw a 0) (tw b 0)) ≤ 160 * (d + 1) := hW
  have ht : td (.mulL k (.add a b)) 1 = max (td a 0) (1 + td b 0) := by
    simp only [td]
    rw [if_pos (by omega), if_neg (by omega), if_pos trivial]
  rw [ht] at hv
  have ta := td_01 a
  have tb := td_01 b
  obtain ⟨j, j1, j2, j3⟩ := Rep_0 r2
  rw [j1] at r2
  show rRs M0 M L P s d W vs Wb vb (evT (evN J B n) J B d ow (.mulL k (.add a b)) 0 s)
  rw [ev_kp (by omega)]
  have bb : ∀ M1 s1 v, (v = 0 → k = 151) → (¬ v = 0 → k = 150) → 301 ≤ n + 1 + s1.2.1 → rM M0 M1 L P s1 d ((8 * (hi - 1 + 1) + 1, vs.length) :: W) (v :: vs) → rRs M0 M1 L P s1 d W vs Wb vb (rb (evT (evN J B n) J B d ow b 0 s1) fun l' s2 => (0, [nz (v1 l')], s2)) := by
    intro M1 s1 v q1 q2 q3 hM1
    obtain ⟨M2, f1, f2⟩ := hNext hkn h3 (by
      by_cases z : v = 0
      · exact Or.inr (Or.inr (Or.inr ⟨q1 z, z⟩))
      · exact Or.inr (Or.inr (Or.inl ⟨q2 z, z⟩))) j1 (by omega) (by omega) hM1
    refine rRs_pre f1 (Nat.le_refl _) ?_
    refine rRs_rb (ib d ow M2 L P _ _ _ Wb vb m1 (hi - 1) j _ (by omega) hd hL r2 (by omega) (by omega) f2 (by simp only [List.length_cons]; omega) (by simp only [List.length_cons]; omega) (rBs_w (rBs_1 hB) (by omega))) fun c3 c4 M3 hM3 => ?_
    have z4 := len1 ((vb' d ow _).2.1 c3)
    have hM3 : rM M0 M3 L P (evT (evN J B n) J B d ow b 0 s1).2.2 d ((8 * (hi - 1 + 1) + 2, vs.length + 1) :: W) ((evT (evN J B n) J B d ow b 0 s1).2.1.reverse ++ (v :: vs)) := hM3
    rw [z4] at hM3
    obtain ⟨M4, f3, f4⟩ := hOp hkn h3 (by omega) (by omega) hM3
    obtain ⟨M5, f5, f6⟩ := gOper2 (k := k) f3 (by omega) hk
    exact rRs_ok (f4 M5 f5) (Nat.le_refl _) f6
  have oth : ∃ kk, M0 39 (hi - 1) = nI kk ∧ kk < 1000 ∧ ¬ kk = 0 ∧ ¬ kk = 1 ∧ ¬ kk = 3 ∧ ¬ kk = 26 := ⟨k, h3, by omega, by omega, by omega, by omega, by omega⟩
  rcases hk with rfl | rfl
  · rw [ev_150]
    refine r_a oth ia va (x := 0) hn hd hL r1 hkn (by omega) hM (by omega) (by omega) hB fun c2 M1 hM1 z0 => ?_
    by_cases v : v1 (evT (evN J B n) J B d ow a 0 s).2.1 = 0
    · rw [if_pos v]
      obtain ⟨M2, f1, f2⟩ := hShort (w := 0) hkn h3 (Or.inl ⟨rfl, v, rfl⟩) (by omega) (by omega) hM1
      exact rRs_ok f1 (Nat.le_refl _) f2
    · rw [if_neg v]
      exact bb M1 _ _ (fun w => absurd w v) (fun _ => rfl) (by omega) hM1
  · rw [ev_151]
    refine r_a oth ia va (x := 0) hn hd hL r1 hkn (by omega) hM (by omega) (by omega) hB fun c2 M1 hM1 z0 => ?_
    by_cases v : v1 (evT (evN J B n) J B d ow a 0 s).2.1 = 0
    · rw [if_pos v]
      exact bb M1 _ _ (fun _ => rfl) (fun w => absurd v w) (by omega) hM1
    · rw [if_neg v]
      obtain ⟨M2, f1, f2⟩ := hShort (w := 1) hkn h3 (Or.inr ⟨rfl, v, rfl⟩) (by omega) (by omega) hM1
      exact rRs_ok f1 (Nat.le_refl _) f2
theorem r_while (sb : sh b 2 = true) (ia : rE M0 (evN J B (n + 1)) (n + 1) a) (ib : rCh M0 (evN J B (n + 1)) (n + 1) b 7 1) (va : vA J B n a 0 True 1) (vb' : vA J B n b 1 False 0) (hr : rE M0 (evN J B n) n (.mulL 25 (.add a b))) : rE M0 (evN J B (n + 1)) (n + 1) (.mulL 25 (.add a b)) := by
  intro d ow M L P s W vs Wb vb lo hi kn h hn hd hL hR hkn hh hM hW hv hB
  have hR0 := hR
  obtain ⟨-, h1, h2, h3, -, h5⟩ := hR
  have := nI_inj (by omega) (by omega) h2
  subst this
  have h3 : M0 39 (hi - 1) = nI 25 := h3
  have h5 : Rep M0 (.add a b) 6 lo (hi - 1) (M0 41 (hi - 1)) := h5
  simp only [Rep] at h5
  rw [if_neg (by omega), if_neg (by omega), if_neg (by omega), if_neg (by omega), if_pos True.intro] at h5
  obtain ⟨m1, r1, r2⟩ := h5
  have l1 := Rep_le r1
  have l2 := Rep_le r2
  obtain ⟨b1, b2, b3, b4⟩ := Rep_2 sb (Or.inl rfl) r2
  obtain ⟨cc, e1, e2⟩ := Rep_1 (st := 7) b4 (by omega) (by omega)
  have hW0 := hW
  have hW : W.length + (1 + max (tw a 0) (tw b 1)) ≤ 160 * (d + 1) := hW
  obtain ⟨t1, t2, t3, t4⟩ := td_ad (a := a) (b := b) (m := 0) (by omega) (by omega)
  have hv0 := hv
  have hv : vs.length + td (.add a b) 0 ≤ 76 * (d + 1) := hv
  show rRs M0 M L P s d W vs Wb vb (evT (evN J B n) J B d ow (.mulL 25 (.add a b)) 0 s)
  rw [ev_kp (by omega), ev_25]
  refine r_a ⟨25, h3, by omega, by omega, by omega, by omega, by omega⟩ ia va (x := 0) hn hd hL r1 hkn (by omega) hM (by omega) (by omega) hB fun c2 M1 hM1 z0 => ?_
  obtain ⟨M2, f1, f2⟩ := gEx hM1 (by omega) hkn (by omega) (by omega)
  obtain ⟨M3, g1, g2⟩ := gRel f1 (by omega)
  have k39 : M2 39 (hi - 1) = nI 25 := by rw [f1.2.2.2.2.2.2.2.1 39 (by omega) (by omega)]; exact h3
  by_cases v : v1 (evT (evN J B n) J B d ow a 0 s).2.1 = 0
  · rw [if_pos v]
    refine rRs_ok ((f2 25 (by omega) h3).2 (by omega) M3 fun N hN => ?_) (Nat.le_refl _) g2
    unfold F_R_goOnStatement F_R_goOnStatement_p23 F_R_goOnStatement_p86 F_R_goOnStatement_p96 F_R_goOnStatement_p112
    rw [zix_nI _ hkn (by omega), nI_clamp (by omega), k39, if_neg (show ¬ nI 25 = 21 by decide), g1, zbi_some, if_neg (show ¬ nI 25 = 20 by decide), if_neg (show ¬ nI 25 = 21 by decide), if_neg (show ¬ nI 25 = 23 by decide), if_neg (show ¬ nI 25 = 24 by decide), if_pos (show nI 25 = 25 from rfl), if_pos v, if_neg (show ¬ nI 25 = 26 by decide), if_neg (show ¬ nI 25 = 27 by decide), if_neg (show ¬ nI 25 = 27 by decide)]
  · rw [if_neg v]
    obtain ⟨u1, u2⟩ := gTurn g2
    by_cases w : (evT (evN J B n) J B d ow a 0 s).2.2.2.1 = 300
    · rw [if_pos w]
      obtain ⟨M4, x1, x2⟩ := u1 w
      refine rRs_x (j := 1) ((f2 25 (by omega) h3).2 (by omega) M4 fun N hN => ?_) (Nat.le_refl _) x2
      unfold F_R_goOnStatement F_R_goOnStatement_p23
      rw [zix_nI _ hkn (by omega), nI_clamp (by omega), k39, if_neg (show ¬ nI 25 = 21 by decide), g1, zbi_some, if_neg (show ¬ nI 25 = 20 by decide), if_neg (show ¬ nI 25 = 21 by decide), if_neg (show ¬ nI 25 = 23 by decide), if_neg (show ¬ nI 25 = 24 by decide), if_pos (show nI 25 = 25 from rfl), if_neg v, x1, zbi_some, if_pos rfl]
    · rw [if_neg w]
      obtain ⟨M4, x1, x2⟩ := u2 w
      obtain ⟨M5, x3, x4⟩ := gWait (x := nI (hi - 1)) (st := 0) (c := 8 * (hi - 1 + 1)) x2 (by omega) (cw8 (hi - 1) 0)
      obtain ⟨M6, x5, x6⟩ := gWait (x := M0 41 m1) (st := 7) (c := cc) x4 (by simp only [List.length_cons]; omega) e1
      have fr := x4.2.2.2.2.2.2.2.1
      have st : rS M1 M6 1 := (f2 25 (by omega) h3).2 (by omega) M6 fun N hN => by
        unfold F_R_goOnStatement F_R_goOnStatement_p23
        rw [zix_nI _ hkn (by omega), nI_clamp (by omega), k39, if_neg (show ¬ nI 25 = 21 by decide), g1, zbi_some, if_neg (show ¬ nI 25 = 20 by decide), if_neg (show ¬ nI 25 = 21 by decide), if_neg (show ¬ nI 25 = 23 by decide), if_neg (show ¬ nI 25 = 24 by decide), if_pos (show nI 25 = 25 from rfl), if_neg v, x1, zbi_some, if_neg (by decide), x3, zbv_some, zix_nI _ hkn (by omega), fr 42 (by omega) (by omega), b1, zix_nI _ (by omega) (by omega), nI_clamp (by omega), fr 41 (by omega) (by omega), x5, zbv_some]
      have tu : (vTurn (evT (evN J B n) J B d ow a 0 s).2.2).2.1 = (evT (evN J B n) J B d ow a 0 s).2.2.2.1 + 1 := rfl
      refine rRs_pre (s1 := vTurn (evT (evN J B n) J B d ow a 0 s).2.2) st (by omega) ?_
      refine rRs_rb (ib d ow M6 L P _ _ vs Wb vb (m1 + 1) (hi - 1) (M0 41 m1) cc _ (by omega) hd hL b4 e1 e2 (by omega) x6 (by simp only [List.length_cons]; omega) (by omega) (rBs_w hB (by omega))) fun c3 c4 M7 hM7 => ?_
      have z4 := len0 ((vb' d ow _).2.1 c3)
      have hM7 : rM M0 M7 L P (evT (evN J B n) J B d ow b 1 (vTurn (evT (evN J B n) J B d ow a 0 s).2.2)).2.2 d ((8 * (hi - 1 + 1), vs.length) :: W) ((evT (evN J B n) J B d ow b 1 (vTurn (evT (evN J B n) J B d ow a 0 s).2.2)).2.1.reverse ++ vs) := hM7
      rw [z4] at hM7
      have c4 : (vTurn (evT (evN J B n) J B d ow a 0 s).2.2).2.1 ≤ (evT (evN J B n) J B d ow b 1 (vTurn (evT (evN J B n) J B d ow a 0 s).2.2)).2.2.2.1 := c4
      have t300 := hM7.1.2.2.2.2.2.2.2.1
      have := hr d ow M7 L P _ W vs Wb vb lo hi (hi - 1) _ (by omega) hd hL hR0 hkn hh hM7 hW0 hv0 hB
      rw [evN_kp (by omega) (by omega)] at this
      exact this
theorem r_rep (sa : sh a 2 = true) (ia : rCh M0 (evN J B (n + 1)) (n + 1) a 7 1) (ib : rE M0 (evN J B (n + 1)) (n + 1) b) (va : vA J B n a 1 False 0) (vb' : vA J B n b 0 True 1) (hr : rE M0 (evN J B n) n (.mulL 26 (.add a b))) : rE M0 (evN J B (n + 1)) (n + 1) (.mulL 26 (.add a b)) := by
  intro d ow M L P s W vs Wb vb lo hi kn h hn hd hL hR hkn hh hM hW hv hB
  have hR0 := hR
  obtain ⟨-, h1, h2, h3, -, h5⟩ := hR
  have := nI_inj (by omega) (by omega) h2
  subst this
  have h3 : M0 39 (hi - 1) = nI 26 := h3
  have h5 : Rep M0 (.add a b) 7 lo (hi - 1) (M0 41 (hi - 1)) := h5
  simp only [Rep] at h5
  rw [if_neg (by omega), if_neg (by omega), if_neg (by omega), if_neg (by omega), if_neg (by omega), if_pos True.intro] at h5
  obtain ⟨m1, r1, r2⟩ := h5
  have l1 := Rep_le r1
  have l2 := Rep_le r2
  obtain ⟨b1, b2, b3, b4⟩ := Rep_2 sa (Or.inl rfl) r1
  obtain ⟨cc, e1, e2⟩ := Rep_1 (st := 7) b4 (by omega) (by omega)
  obtain ⟨j, j1, j2, j3⟩ := Rep_0 r2
  have hW0 := hW
  have hW : W.length + (1 + max (1 + tw a 1) (tw b 0)) ≤ 160 * (d + 1) := hW
  obtain ⟨t1, t2, t3, t4⟩ := td_ad (a := a) (b := b) (m := 0) (by omega) (by omega)
  have hv0 := hv
  have hv : vs.length + td (.add a b) 0 ≤ 76 * (d + 1) := hv
  show rRs M0 M L P s d W vs Wb vb (evT (evN J B n) J B d ow (.mulL 26 (.add a b)) 0 s)
  rw [ev_kp (by omega), ev_26]
  obtain ⟨M1, f1, f2⟩ := gBeg hM (by omega) hkn
  have k39 : M1 39 (hi - 1) = nI 26 := by rw [f1.2.2.2.2.2.2.2.1 39 (by omega) (by omega)]; exact h3
  obtain ⟨u1, u2⟩ := gTurn f1
  by_cases w : s.2.1 = 300
  · rw [if_pos w]
    obtain ⟨M4, x1, x2⟩ := u1 w
    refine rRs_x (j := 1) (f2 M4 ?_) (Nat.le_refl _) x2
    unfold F_R_begin
    rw [zix_nI _ hkn (by omega), nI_clamp (by omega), k39, if_neg (show ¬ nI 26 = 0 by decide), if_neg (show ¬ nI 26 = 1 by decide), if_neg (show ¬ nI 26 = 3 by decide), if_pos (show nI 26 = 26 from rfl), x1, zbi_some, if_pos rfl]
  · rw [if_neg w]
    obtain ⟨M4, x1, x2⟩ := u2 w
    obtain ⟨M5, x3, x4⟩ := gWait (x := nI (hi - 1)) (st := 1) (c := 8 * (hi - 1 + 1) + 1) x2 (by omega) (cw8 (hi - 1) 1)
    obtain ⟨M6, x5, x6⟩ := gWait (x := nI j) (st := 0) (c := 8 * (j + 1)) x4 (by simp only [List.length_cons]; omega) (cw8 j 0)
    obtain ⟨M7, x7, x8⟩ := gWait (x := M0 41 lo) (st := 7) (c := cc) x6 (by simp only [List.length_cons]; omega) e1
    have fr5 := x4.2.2.2.2.2.2.2.1
    have fr6 := x6.2.2.2.2.2.2.2.1
    have st : rS M M7 1 := f2 M7 (by
      unfold F_R_begin
      rw [zix_nI _ hkn (by omega), nI_clamp (by omega), k39, if_neg (show ¬ nI 26 = 0 by decide), if_neg (show ¬ nI 26 = 1 by decide), if_neg (show ¬ nI 26 = 3 by decide), if_pos (show nI 26 = 26 from rfl), x1, zbi_some, if_neg (by decide), x3, zbv_some, zix_nI _ hkn (by omega), fr5 42 (by omega) (by omega), j1, x5, zbv_some, zix_nI _ hkn (by omega), fr6 41 (by omega) (by omega), b1, zix_nI _ (by omega) (by omega), nI_clamp (by omega), x7, zbv_some])
    have tu : (vTurn s).2.1 = s.2.1 + 1 := rfl
    refine rRs_pre (s1 := vTurn s) st (by omega) ?_
    refine rRs_rb (ia d ow M7 L P _ _ vs Wb vb (lo + 1) m1 (M0 41 lo) cc _ (by omega) hd hL b4 e1 e2 (by omega) x8 (by simp only [List.length_cons]; omega) (by omega) (rBs_w (rBs_w hB (by omega)) (by omega))) fun c1 c2 M8 hM8 => ?_
    have z0 := len0 ((va d ow _).2.1 c1)
    have hM8 : rM M0 M8 L P (evT (evN J B n) J B d ow a 1 (vTurn s)).2.2 d ((8 * (j + 1), vs.length) :: (8 * (hi - 1 + 1) + 1, vs.length) :: W) ((evT (evN J B n) J B d ow a 1 (vTurn s)).2.1.reverse ++ vs) := hM8
    rw [z0] at hM8
    have c2 : (vTurn s).2.1 ≤ (evT (evN J B n) J B d ow a 1 (vTurn s)).2.2.2.1 := c2
    rw [j1] at r2
    refine rRs_rb (ib d ow M8 L P _ _ vs Wb vb m1 (hi - 1) j _ (by omega) hd hL r2 (by omega) (by omega) hM8 (by simp only [List.length_cons]; omega) (by omega) (rBs_w hB (by omega))) fun c3 c4 M9 hM9 => ?_
    have z4 := len1 ((vb' d ow _).2.1 c3)
    have hM9 : rM M0 M9 L P (evT (evN J B n) J B d ow b 0 (evT (evN J B n) J B d ow a 1 (vTurn s)).2.2).2.2 d ((8 * (hi - 1 + 1) + 1, vs.length) :: W) ((evT (evN J B n) J B d ow b 0 (evT (evN J B n) J B d ow a 1 (vTurn s)).2.2).2.1.reverse ++ vs) := hM9
    rw [z4] at hM9
    have c4 : (evT (evN J B n) J B d ow a 1 (vTurn s)).2.2.2.1 ≤ (evT (evN J B n) J B d ow b 0 (evT (evN J B n) J B d ow a 1 (vTurn s)).2.2).2.2.2.1 := c4
    obtain ⟨M10, g1, g2⟩ := gEx hM9 (by omega) hkn (by omega) (by omega)
    obtain ⟨M11, g3, g4⟩ := gRel (vs := vs) g1 (by omega)
    have k39' : M10 39 (hi - 1) = nI 26 := by rw [g1.2.2.2.2.2.2.2.1 39 (by omega) (by omega)]; exact h3
    by_cases v : v1 (evT (evN J B n) J B d ow b 0 (evT (evN J B n) J B d ow a 1 (vTurn s)).2.2).2.1 = 0
    · rw [if_pos v]
      obtain ⟨M12, y1, y2⟩ := gWait (x := nI (hi - 1)) (st := 0) (c := 8 * (hi - 1 + 1)) g4 (by omega) (cw8 (hi - 1) 0)
      have st2 : rS M9 M12 1 := (g2 26 (by omega) h3).2 (by omega) M12 fun N hN => by
        unfold F_R_goOnStatement F_R_goOnStatement_p23 F_R_goOnStatement_p86
        rw [zix_nI _ hkn (by omega), nI_clamp (by omega), k39', if_neg (show ¬ nI 26 = 21 by decide), g3, zbi_some, if_neg (show ¬ nI 26 = 20 by decide), if_neg (show ¬ nI 26 = 21 by decide), if_neg (show ¬ nI 26 = 23 by decide), if_neg (show ¬ nI 26 = 24 by decide), if_neg (show ¬ nI 26 = 25 by decide), if_pos (show nI 26 = 26 from rfl), if_pos v, y1, zbv_some]
      have t300 := y2.1.2.2.2.2.2.2.2.1
      have := hr d ow M12 L P _ W vs Wb vb lo hi (hi - 1) _ (by omega) hd hL hR0 hkn hh y2 hW0 hv0 hB
      rw [evN_kp (by omega) (by omega)] at this
      exact rRs_pre st2 (Nat.le_refl _) this
    · rw [if_neg v]
      refine rRs_ok ((g2 26 (by omega) h3).2 (by omega) M11 fun N hN => ?_) (Nat.le_refl _) g4
      unfold F_R_goOnStatement F_R_goOnStatement_p23 F_R_goOnStatement_p86 F_R_goOnStatement_p96 F_R_goOnStatement_p112
      rw [zix_nI _ hkn (by omega), nI_clamp (by omega), k39', if_neg (show ¬ nI 26 = 21 by decide), g3, zbi_some, if_neg (show ¬ nI 26 = 20 by decide), if_neg (show ¬ nI 26 = 21 by decide), if_neg (show ¬ nI 26 = 23 by decide), if_neg (show ¬ nI 26 = 24 by decide), if_neg (show ¬ nI 26 = 25 by decide), if_pos (show nI 26 = 26 from rfl), if_neg v, if_neg (show ¬ nI 26 = 27 by decide), if_neg (show ¬ nI 26 = 27 by decide)]
end RV
