/-! THE REFERENCE'S RUN: if, and calls -/
/-- list and rest of an if at the node kn -/
def rI (M0 : zMem) (ev : zRec) (n : Nat) (t : T) : Prop :=
  ∀ d mk M L P s W vs Wb vb lo kn x, 301 ≤ n + s.2.1 → d ≤ 20 → rLv M0 d (P d) mk → Rep M0 t 4 lo kn x → kn < 400 → rM M0 M L P s d W vs → W.length + tw t 9 ≤ 160 * (d + 1) → vs.length + td t 1 ≤ 76 * (d + 1) → rBs W vs Wb vb d →
    (∃ M', (∀ N, F_R_goOnStatement_p112 N M (nI kn) 27 = some M') ∧ rRs M0 M' L P s d W vs Wb vb (ev d mk t 280 s)) ∧ ∃ M', (zix (M 42 kn) 400 (zbv (F_R_wait M (M 41 (M 42 kn).toNatClampNeg) 7) fun M3 => some M3)) = some M' ∧ rRs M0 M' L P s d W vs Wb vb (ev d mk t 281 s)
section RV
variable {M0 : zMem} {J : zJ} {B : Nat → T} {n : Nat} {a b e : T} {k m md q : Nat}
theorem r_9 (sa : sh a 2 = true) (ia : rCh M0 (evN J B (n + 1)) (n + 1) a 7 1) (hb : b = .var 98 ∨ (sh b 2 = true ∧ rCh M0 (evN J B (n + 1)) (n + 1) b 7 1) ∨ (∃ e', b = .mulL 27 e') ∧ rE M0 (evN J B (n + 1)) (n + 1) b) : rI M0 (evN J B (n + 1)) (n + 1) (.add a b) := by
  intro d ow M L P s W vs Wb vb lo kn x hn hd hL hR hkn hM hW hv hB
  simp only [Rep] at hR
  rw [if_neg (by omega), if_neg (by omega), if_pos True.intro] at hR
  obtain ⟨m1, r1, r2⟩ := hR
  have l1 := Rep_le r1
  have l2 := Rep_le r2
  have hW : W.length + max (tw a 1) (tw b 1) ≤ 160 * (d + 1) := hW
  obtain ⟨t1, t2, t3, t4⟩ := td_ad (a := a) (b := b) (m := 1) (by omega) (by omega)
  have fr := hM.2.2.2.2.2.2.2.1
  obtain ⟨b1, b2, b3, b4⟩ := Rep_2 sa (Or.inl rfl) r1
  obtain ⟨cc, e1, e2⟩ := Rep_1 (st := 7) b4 (by omega) (by omega)
  constructor
  · show ∃ M', (∀ N, F_R_goOnStatement_p112 N M (nI kn) 27 = some M') ∧ rRs M0 M' L P s d W vs Wb vb (evT (evN J B n) J B d ow b 2 s)
    rcases hb with hb | ⟨sb, ib⟩ | ⟨⟨e', hb⟩, ib⟩
    · subst hb
      have r2 : M0 43 kn = -1 := r2.2.2
      refine ⟨M, fun N => ?_, rRs_ok (rS_refl _) (Nat.le_refl _) hM⟩
      unfold F_R_goOnStatement_p112
      rw [if_pos rfl, zix_nI _ hkn (by omega), nI_clamp (by omega), fr 43 (by omega) (by omega), r2, if_pos (by decide)]
    · obtain ⟨q1, q2, q3, q4⟩ := Rep_2 sb (Or.inr rfl) r2
      obtain ⟨c2, g1, g2⟩ := Rep_1 (st := 7) q4 (by omega) (by omega)
      obtain ⟨M1, w1, w2⟩ := gWait (x := M0 41 m1) (st := 7) (c := c2) hM (by have : 1 ≤ tw b 1 := by { cases b <;> simp [tw] <;> omega }; omega) g1
      refine ⟨M1, fun N => ?_, ?_⟩
      · unfold F_R_goOnStatement_p112 F_R_goOnStatement_p142 F_R_goOnStatement_p154
        rw [if_pos rfl, zix_nI _ hkn (by omega), nI_clamp (by omega), fr 43 (by omega) (by omega), q1, if_neg (nI_pos (by omega)), zix_nI _ hkn (by omega), zix_nI _ (by omega) (by omega), nI_clamp (by omega), fr 39 (by omega) (by omega), q3, if_pos rfl, zix_nI _ hkn (by omega), zix_nI _ (by omega) (by omega), zix_nI _ hkn (by omega), zix_nI _ (by omega) (by omega), if_pos rfl, fr 41 (by omega) (by omega), w1, zbv_some]
      · have e12 : evT (evN J B n) J B d ow b 2 s = evT (evN J B n) J B d ow b 1 s := by
          cases b with
          | add u v => rw [ev_1 (Or.inr rfl), ev_1 (Or.inl rfl)]
          | num u => rfl
          | var u => rfl
          | mulL u v => simp [sh] at sb
          | mulR u v => simp [sh] at sb
        rw [e12]
        exact ib d ow M1 L P s W vs Wb vb (m1 + 1) kn (M0 41 m1) c2 _ hn hd hL q4 g1 g2 (by omega) w2 (by omega) (by omega) hB
    · have hb0 := hb
      subst hb
      have r2' := r2
      obtain ⟨-, q1, q2, q3, q4⟩ := r2
      have q3 : M0 39 (kn - 1) = nI 27 := q3
      have r0 : Rep M0 (.mulL 27 e') 0 m1 kn (nI (kn - 1)) := ⟨Or.inl rfl, q1, rfl, q3, q4⟩
      obtain ⟨M1, w1, w2⟩ := gWait (x := nI (kn - 1)) (st := 0) (c := 8 * (kn - 1 + 1)) hM (by have : 1 ≤ tw (.mulL 27 e') 1 := by { simp [tw] }; omega) (cw8 (kn - 1) 0)
      refine ⟨M1, fun N => ?_, ?_⟩
      · unfold F_R_goOnStatement_p112 F_R_goOnStatement_p142 F_R_goOnStatement_p154
        rw [if_pos rfl, zix_nI _ hkn (by omega), nI_clamp (by omega), fr 43 (by omega) (by omega), q2, if_neg (nI_pos (by omega)), zix_nI _ hkn (by omega), zix_nI _ (by omega) (by omega), nI_clamp (by omega), fr 39 (by omega) (by omega), q3, if_neg (show ¬ nI 27 = 30 by decide), zix_nI _ hkn (by omega), zix_nI _ hkn (by omega), zix_nI _ (by omega) (by omega), if_neg (show ¬ nI 27 = 30 by decide), w1, zbv_some]
      · have e12 : evT (evN J B n) J B d ow (.mulL 27 e') 2 s = evT (evN J B n) J B d ow (.mulL 27 e') 0 s := rfl
        rw [e12]
        have hW2 : tw (.mulL 27 e') 1 = tw (.mulL 27 e') 0 := rfl
        exact ib d ow M1 L P s W vs Wb vb m1 kn (kn - 1) _ hn hd hL r0 (by omega) (by omega) w2 (by omega) (by omega) hB
  · show ∃ M', (zix (M 42 kn) 400 (zbv (F_R_wait M (M 41 (M 42 kn).toNatClampNeg) 7) fun M3 => some M3)) = some M' ∧ rRs M0 M' L P s d W vs Wb vb (evT (evN J B n) J B d ow a 1 s)
    obtain ⟨M1, w1, w2⟩ := gWait (x := M0 41 lo) (st := 7) (c := cc) hM (by have : 1 ≤ tw a 1 := by { cases a <;> simp [tw] <;> omega }; omega) e1
    refine ⟨M1, ?_, ia d ow M1 L P s W vs Wb vb (lo + 1) m1 (M0 41 lo) cc _ hn hd hL b4 e1 e2 (by omega) w2 (by omega) (by omega) hB⟩
    rw [fr 42 (by omega) (by omega), b1, zix_nI _ (by omega) (by omega), nI_clamp (by omega), fr 41 (by omega) (by omega), w1, zbv_some]
theorem r_if (ia : rE M0 (evN J B (n + 1)) (n + 1) a) (va : vA J B n a 0 True 1) (ib : rI M0 (evN J B (n + 1)) (n + 1) b) : rE M0 (evN J B (n + 1)) (n + 1) (.mulL 27 (.add a b)) := by
  intro d ow M L P s W vs Wb vb lo hi kn h hn hd hL hR hkn hh hM hW hv hB
  obtain ⟨-, h1, h2, h3, -, h5⟩ := hR
  have := nI_inj (by omega) (by omega) h2
  subst this
  have h3 : M0 39 (hi - 1) = nI 27 := h3
  have h5 : Rep M0 (.add a b) 8 lo (hi - 1) (M0 41 (hi - 1)) := h5
  simp only [Rep] at h5
  rw [if_neg (by omega), if_neg (by omega), if_neg (by omega), if_neg (by omega), if_neg (by omega), if_neg (by omega), if_pos True.intro] at h5
  obtain ⟨m1, r1, r2⟩ := h5
  have l1 := Rep_le r1
  have l2 := Rep_le r2
  have hW : W.length + (1 + max (tw a 0) (tw b 9)) ≤ 160 * (d + 1) := hW
  obtain ⟨t1, t2, t3, t4⟩ := td_ad (a := a) (b := b) (m := 0) (by omega) (by omega)
  have hv : vs.length + td (.add a b) 0 ≤ 76 * (d + 1) := hv
  show rRs M0 M L P s d W vs Wb vb (evT (evN J B n) J B d ow (.mulL 27 (.add a b)) 0 s)
  rw [ev_kp (by omega), ev_27]
  refine r_a ⟨27, h3, by omega, by omega, by omega, by omega, by omega⟩ ia va (x := 0) hn hd hL r1 hkn (by omega) hM (by omega) (by omega) hB fun c2 M1 hM1 z0 => ?_
  obtain ⟨M2, f1, f2⟩ := gEx hM1 (by omega) hkn (by omega) (by omega)
  obtain ⟨M3, g1, g2⟩ := gRel f1 (by omega)
  have k39 : M2 39 (hi - 1) = nI 27 := by rw [f1.2.2.2.2.2.2.2.1 39 (by omega) (by omega)]; exact h3
  obtain ⟨⟨M4, p1, p2⟩, M5, p3, p4⟩ := ib d ow M3 L P _ W vs Wb vb m1 (hi - 1) (M0 41 (hi - 1)) (by omega) hd hL r2 hkn g2 (by omega) (by omega) hB
  by_cases v : v1 (evT (evN J B n) J B d ow a 0 s).2.1 = 0
  · rw [if_pos v]
    refine rRs_pre ((f2 27 (by omega) h3).2 (by omega) M4 fun N hN => ?_) (Nat.le_refl _) p2
    unfold F_R_goOnStatement F_R_goOnStatement_p23 F_R_goOnStatement_p86 F_R_goOnStatement_p96
    rw [zix_nI _ hkn (by omega), nI_clamp (by omega), k39, if_neg (show ¬ nI 27 = 21 by decide), g1, zbi_some, if_neg (show ¬ nI 27 = 20 by decide), if_neg (show ¬ nI 27 = 21 by decide), if_neg (show ¬ nI 27 = 23 by decide), if_neg (show ¬ nI 27 = 24 by decide), if_neg (show ¬ nI 27 = 25 by decide), if_neg (show ¬ nI 27 = 26 by decide), if_pos (show nI 27 = 27 from rfl), if_pos v]
    exact p1 N
  · rw [if_neg v]
    refine rRs_pre ((f2 27 (by omega) h3).2 (by omega) M5 fun N hN => ?_) (Nat.le_refl _) p4
    unfold F_R_goOnStatement F_R_goOnStatement_p23 F_R_goOnStatement_p86 F_R_goOnStatement_p96
    rw [zix_nI _ hkn (by omega), nI_clamp (by omega), k39, if_neg (show ¬ nI 27 = 21 by decide), g1, zbi_some, if_neg (show ¬ nI 27 = 20 by decide), if_neg (show ¬ nI 27 = 21 by decide), if_neg (show ¬ nI 27 = 23 by decide), if_neg (show ¬ nI 27 = 24 by decide), if_neg (show ¬ nI 27 = 25 by decide), if_neg (show ¬ nI 27 = 26 by decide), if_pos (show nI 27 = 27 from rfl), if_neg v, zix_nI _ hkn (by omega)]
    exact p3
theorem r_call (hB0 : rHB M0 J B) (hq : J 6 (q % 4) = 1 ∧ J 1 (q % 4) = tlen e) (ie : rCh M0 (evN J B (n + 1)) (n + 1) e 6 4) (ve : vA J B n e 1 True (tlen e)) (hr : rCh M0 (evN J B n) n (B (q % 4)) 7 1) (vr : ∀ d ow s, vOk False 0 (evN J B n d ow (B (q % 4)) 1 s)) : rE M0 (evN J B (n + 1)) (n + 1) (.mulR e q) := by
  intro d ow M L P s W vs Wb vb lo hi kn h hn hd hL hR hkn hh hM hW hv hB
  obtain ⟨-, h1, h2, h3, h4, -, h6⟩ := hR
  have := nI_inj (by omega) (by omega) h2
  subst this
  have hp4 : q % 4 < 4 := by omega
  generalize hpq : q % 4 = p at *
  obtain ⟨hJ2, hB0⟩ := hB0
  obtain ⟨-, b2, b3, ⟨lo', hi', b4, b5, b6, b7⟩, b8, b9, b10, b11⟩ := hB0 p hp4 hq.1
  have l1 := Rep_le h6
  have hW : W.length + (1 + tw e 1) ≤ 160 * (d + 1) := hW
  have hv : vs.length + max 1 (td e 4) ≤ 76 * (d + 1) := hv
  obtain ⟨cc, e1, e2⟩ := Rep_1 (st := 6) h6 hh (by omega)
  obtain ⟨cb, e3, e4⟩ := Rep_1 (st := 7) b7 b5 (by omega)
  show rRs M0 M L P s d W vs Wb vb (evT (evN J B n) J B d ow (.mulR e q) 0 s)
  rw [ev_c, hpq]
  obtain ⟨M1, f1, f2⟩ := gBeg hM (by omega) hkn
  have k39 : M1 39 kn = 3 := by rw [f1.2.2.2.2.2.2.2.1 39 (by omega) (by omega)]; exact h3
  obtain ⟨M2, x1, x2⟩ := gWait (x := nI kn) (st := 1) (c := 8 * (kn + 1) + 1) f1 (by omega) (cw8 kn 1)
  obtain ⟨M3, x3, x4⟩ := gWait (x := M0 41 kn) (st := 6) (c := cc) x2 (by simp only [List.length_cons]; omega) e1
  have st : rS M M3 1 := f2 M3 (by
    unfold F_R_begin
    rw [zix_nI _ hkn (by omega), nI_clamp (by omega), k39, if_neg (by decide), if_neg (by decide), if_pos rfl, x1, zbv_some, zix_nI _ hkn (by omega), x2.2.2.2.2.2.2.2.1 41 (by omega) (by omega), x3, zbv_some])
  refine rRs_pre st (Nat.le_refl _) ?_
  refine rRs_rb (ie d ow M3 L P s _ vs Wb vb (kn + 1) hi (M0 41 kn) cc _ hn hd hL h6 e1 e2 hh x4 (by simp only [List.length_cons]; omega) (by omega) (rBs_w hB (by omega))) fun c1 c2 M4 hM4 => ?_
  have z0 := (ve d ow s).2.1 c1
  have hM4 : rM M0 M4 L P (evT (evN J B n) J B d ow e 1 s).2.2 d ((8 * (kn + 1) + 1, vs.length) :: W) ((evT (evN J B n) J B d ow e 1 s).2.1.reverse ++ vs) := hM4
  have c2 : s.2.1 ≤ (evT (evN J B n) J B d ow e 1 s).2.2.2.1 := c2
  show rRs M0 M4 L P (evT (evN J B n) J B d ow e 1 s).2.2 d W vs Wb vb _
  generalize evT (evN J B n) J B d ow e 1 s = r at *
  obtain ⟨rc, l, s1⟩ := r
  have z0 : l.length = tlen e := z0
  have hM4 : rM M0 M4 L P s1 d ((8 * (kn + 1) + 1, vs.length) :: W) (l.reverse ++ vs) := hM4
  have c2 : s.2.1 ≤ s1.2.1 := c2
  obtain ⟨M5, g1, g2⟩ := gEx hM4 (by omega) hkn (by omega) (by omega)
  have lv : (l.reverse ++ vs).length = l.length + vs.length := by simp
  obtain ⟨y1, y2, y3⟩ := gCall (J := J) (l := l) (n := kn) (p := p) (lo := lo') (c := cb) g1 hkn (by omega) (by omega) hd h4 hp4 (by rw [z0, ← hq.2]; exact b8) (by omega) (by rw [z0, ← hq.2]; exact b10) hJ2 b4 (by omega) e3
  have k5 : M5 39 kn = 3 := by rw [g1.2.2.2.2.2.2.2.1 39 (by omega) (by omega)]; exact h3
  have stp : ∀ M', (∀ N, 4000 ≤ N → F_R_call N M5 (nI kn) = some M') → rS M4 M' 1 := fun M' e => (g2 3 (by omega) h3).1 (by omega) M' fun N hN => by
    unfold F_R_goOnExpression
    rw [zix_nI _ hkn (by omega), nI_clamp (by omega), k5, if_neg (by decide), if_pos rfl, zbv_id, e N hN]
  show rRs M0 M4 L P s1 d W vs Wb vb (if s1.2.1 = 300 then (3, [], s1) else if d = 20 then (4, [], vTurn s1) else vCl s1 (evN J B n (d + 1) (J 3 p) (B p) 1 (vIn (vTurn s1) (vPar J p 0 l (fun _ => 0)) (d + 1))))
  by_cases w : s1.2.1 = 300
  · rw [if_pos w]
    obtain ⟨M6, u1, u2⟩ := y1 w
    exact rRs_x (j := 1) (stp M6 u1) (Nat.le_refl _) u2
  · rw [if_neg w]
    have tu : (vTurn s1).2.1 = s1.2.1 + 1 := rfl
    by_cases w2 : d = 20
    · rw [if_pos w2]
      obtain ⟨M6, u1, u2⟩ := y2 w w2
      exact rRs_x (j := 2) (stp M6 u1) (by omega) u2
    · rw [if_neg w2]
      obtain ⟨M6, u1, u2⟩ := y3 w w2
      have tu2 : (vIn (vTurn s1) (vPar J p 0 l (fun _ => 0)) (d + 1)).2.1 = s1.2.1 + 1 := rfl
      have bl : rBs ((4000, vs.length) :: W) vs W vs (d + 1) := Or.inr ⟨[], [], rfl, fun w hw => by simp at hw, rfl⟩
      have ih := hr (d + 1) (J 3 p) M6 _ _ _ ((4000, vs.length) :: W) vs W vs (lo' + 1) hi' (M0 41 lo') cb _ (by omega) (by omega) (Or.inr ⟨by omega, p, hp4, by unfold cPn; rw [if_pos rfl], b11⟩) b7 e3 e4 b5 u2 (by simp only [List.length_cons]; omega) (by omega) bl
      have vr := vr (d + 1) (J 3 p) (vIn (vTurn s1) (vPar J p 0 l (fun _ => 0)) (d + 1))
      generalize evN J B n (d + 1) (J 3 p) (B p) 1 (vIn (vTurn s1) (vPar J p 0 l (fun _ => 0)) (d + 1)) = r at *
      obtain ⟨i1, M7, k7, i2, i4, i5, i6⟩ := ih
      have i1 : s1.2.1 + 1 ≤ r.2.2.2.1 := i1
      have eL : ∀ i, cLn L s1 d (8 * d + i) = s1.1 2 i := fun i => by unfold cLn; rw [if_neg (by omega), show 8 * d + i - 8 * d = i by omega]
      have back : ∀ {M5 : zMem} {xs : List Int32}, rM M0 M5 (cLn L s1 d) (cPn P d p) ((fun a i => if a = 2 then cLn L s1 d (8 * d + i) else r.2.2.1 a i), r.2.2.2) d W xs → rM M0 M5 L P (vOut s1 r.2.2) d W xs := by
        intro M5 xs g
        have e1 : (((fun a i => if a = 2 then cLn L s1 d (8 * d + i) else r.2.2.1 a i), r.2.2.2) : zE) = vOut s1 r.2.2 := by
          unfold vOut
          congr 1
          funext a i
          rw [eL]
        rw [e1] at g
        exact rM_LP g (fun i h8 hi => by unfold cLn; rw [if_pos hi]) (fun i hi => by unfold cPn; rw [if_neg (by omega)])
      unfold vCl
      by_cases q0 : r.1 = 0
      · rw [if_pos q0]
        have i4 := i4 q0
        rw [len0 (vr.2.1 q0)] at i4
        obtain ⟨M8, f5, f6⟩ := g499 (d' := d) (vs := vs) i4 (by omega) (by omega) rfl (by omega)
        exact rRs_ok (rS_trans (rS_trans (stp M6 u1) i2) f5) (by show s1.2.1 ≤ r.2.2.2.1; omega) (back f6)
      · rw [if_neg q0]
        by_cases q1 : r.1 = 1
        · rw [if_pos q1]
          have := (i5 q1).2 d rfl
          refine rRs_ok (rS_trans (stp M6 u1) i2) (by show s1.2.1 ≤ r.2.2.2.1; omega) (back ?_)
          rw [len1 (vr.2.2 q1)] at this ⊢
          exact this
        · rw [if_neg q1]
          exact ⟨by omega, M7, 1 + k7, rS_trans (stp M6 u1) i2, fun w => absurd w q0, fun w => absurd w q1, i6⟩
end RV
