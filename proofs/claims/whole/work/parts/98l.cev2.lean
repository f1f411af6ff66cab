/-! forms with jumps, and calls -/
section CV
variable {M0 : zMem} {c : zC} {J : zJ} {B : Nat → T} {n : Nat} {a b e : T} {k m md q : Nat}
theorem q_27 (hc : cCD M0 c) (ia : cPq M0 c J B n a 0 0) (va : vA J B n a 0 True 1) (ib0 : cQ M0 c (evN J B (n + 1)) (n + 1) b 9 280) (ib1 : cQ M0 c (evN J B (n + 1)) (n + 1) b 9 281) : cPq M0 c J B n (.add a b) 8 27 := by
  intro d ow M L R s lo hi vs hn hd hC hh hM hv
  simp only [Cm] at hC
  rw [if_neg (by omega), if_neg (by omega), if_neg (by omega), if_neg (by omega), if_neg (by omega), if_pos True.intro] at hC
  obtain ⟨m1, h1, h2, h3, h4⟩ := hC
  have l1 := Cm_le h1
  obtain ⟨p, p1, p2⟩ := Cm_28 h4
  obtain ⟨t1, t2, t3, t4⟩ := td_ad (a := a) (b := b) (m := 1) (by omega) (by omega)
  have hv : vs.length + td (.add a b) 1 ≤ 76 * (d + 1) := hv
  show cRs M0 M L R s d hi vs (hi - lo) (evT (evN J B n) J B d ow (.add a b) 27 s)
  rw [ev_27]
  refine cRs_rb (ia d ow M L R s lo m1 vs hn hd h1 (by omega) hM (by show _ + td a 1 ≤ _; omega)) (Or.inl rfl) (n2 := hi - m1) (by omega) fun c1 c2 M1 hM1 => ?_
  have z0 := len1 ((va d ow s).2.1 c1)
  rw [z0] at hM1
  obtain ⟨M2, f1, f2⟩ := o21 (vs := vs) hc hM1 (by omega) (by omega) h2 p1
  by_cases v : v1 (evT (evN J B n) J B d ow a 0 s).2.1 = 0
  · rw [if_pos v] at f2 ⊢
    have := ib0 d ow M2 L R _ m1 hi p vs (by omega) hd h4 hh f2 (by show _ + td b 1 ≤ _; omega) ⟨fun _ => ⟨p1, p2⟩, fun w => by omega, fun w => by omega, fun w => by omega, fun w => by omega, fun w => by omega⟩
    exact cRs_pre f1 (Nat.le_refl _) this (by show 1 + (hi - (m1 + 1)) ≤ _; omega)
  · rw [if_neg v] at f2 ⊢
    have := ib1 d ow M2 L R _ m1 hi (m1 + 1) vs (by omega) hd h4 hh f2 (by show _ + td b 1 ≤ _; omega) ⟨fun w => by omega, fun _ => rfl, fun _ w => by omega, fun w => by omega, fun w => by omega, fun w => by omega⟩
    exact cRs_pre f1 (Nat.le_refl _) this (by show 1 + (hi - (m1 + 1)) ≤ _; omega)
theorem q_281 (hc : cCD M0 c) (ia : cPq M0 c J B n a 2 1) : cQ M0 c (evN J B (n + 1)) (n + 1) (.add a b) 9 281 := by
  intro d ow M L R s lo hi p vs hn hd hC hh hM hv hp
  have hC : Cm c.2.1 c.2.2 (kOwn (nI ow)) (.add a b) 28 lo hi := hC
  simp only [Cm] at hC
  rw [if_neg (by omega), if_neg (by omega), if_neg (by omega), if_neg (by omega), if_neg (by omega), if_neg (by omega), if_pos True.intro] at hC
  obtain ⟨m1, h1, h2⟩ := hC
  have l1 := Cm_le h1
  obtain ⟨t1, t2, t3, t4⟩ := td_ad (a := a) (b := b) (m := 1) (by omega) (by omega)
  have hv : vs.length + td (.add a b) 1 ≤ 76 * (d + 1) := hv
  have hp := hp.2.1 rfl
  subst hp
  show cRs M0 M L R s d hi vs (hi - (lo + 1)) (evT (evN J B n) J B d ow a 1 s)
  rcases h2 with ⟨-, h2, -⟩ | ⟨h2, h3, -, h5, -⟩
  · rw [h2]
    exact ia d ow M L R s (lo + 1) m1 vs hn hd h1 (by omega) hM (by show _ + td a 1 ≤ _; omega)
  · refine cRs_fin (ia d ow M L R s (lo + 1) m1 vs hn hd h1 (by omega) hM (by show _ + td a 1 ≤ _; omega)) (fun _ M1 hM1 => ?_) (by omega)
    exact o20 hc hM1 (by omega) h2 h3
theorem q_280 (hc : cCD M0 c) (ib : cPq M0 c J B n b 3 2) : cQ M0 c (evN J B (n + 1)) (n + 1) (.add a b) 9 280 := by
  intro d ow M L R s lo hi p vs hn hd hC hh hM hv hp
  have hC : Cm c.2.1 c.2.2 (kOwn (nI ow)) (.add a b) 28 lo hi := hC
  simp only [Cm] at hC
  rw [if_neg (by omega), if_neg (by omega), if_neg (by omega), if_neg (by omega), if_neg (by omega), if_neg (by omega), if_pos True.intro] at hC
  obtain ⟨m1, h1, h2⟩ := hC
  have l1 := Cm_le h1
  have c300 := hc.2.1
  obtain ⟨t1, t2, t3, t4⟩ := td_ad (a := a) (b := b) (m := 1) (by omega) (by omega)
  have hv : vs.length + td (.add a b) 1 ≤ 76 * (d + 1) := hv
  obtain ⟨q1, q2⟩ := hp.1 rfl
  show cRs M0 M L R s d hi vs (hi - (lo + 1)) (evT (evN J B n) J B d ow b 2 s)
  rcases h2 with ⟨h2, h3, h4⟩ | ⟨h2, h3, h4, h5, h6⟩
  · rw [h4] at q1
    have : hi = p := nI_inj (by omega) (by omega) q1
    subst this
    rw [h2]
    exact cRs_ok (cS_refl _) (by omega) (Nat.le_refl _) hM
  · rw [h4] at q1
    have : m1 + 1 = p := nI_inj (by omega) (by omega) q1
    subst this
    exact cRs_n (ib d ow M L R s (m1 + 1) hi vs hn hd h6 hh hM (by show _ + td b 1 ≤ _; omega)) (by omega)
theorem q_ao (hc : cCD M0 c) (hmd : md = 150 ∨ md = 151) (ia : cPq M0 c J B n a 0 0) (ib : cPq M0 c J B n b 0 0) (va : vA J B n a 0 True 1) (vb : vA J B n b 0 True 1) : cQ M0 c (evN J B (n + 1)) (n + 1) (.add a b) 5 md := by
  intro d ow M L R s lo hi p vs hn hd hC hh hM hv hp
  have e1 : cmm md = md := if_neg (by omega)
  have e2 : cEn md hi = hi + 1 := if_pos (by omega)
  have e3 : cBg md lo = lo := if_neg (by omega)
  rw [e1] at hC
  rw [e2, e3]
  simp only [Cm] at hC
  rw [if_neg (by omega), if_neg (by omega), if_pos hmd] at hC
  obtain ⟨m1, h1, h2, h3, h4, h5⟩ := hC
  have l1 := Cm_le h1
  have l2 := Cm_le h5
  have hp1 := hp.2.2.1 (by omega) (by omega)
  subst hp1
  have h10 := hp.2.2.2.2.2 hmd
  have ta := td_01 a
  have tb := td_01 b
  have hv : vs.length + max (td a 0) (1 + td b 0) ≤ 76 * (d + 1) := hv
  have bb : ∀ M2 s1, 301 ≤ n + 1 + s1.2.1 → cM M0 M2 L R s1 d (m1 + 1) vs → cRs M0 M2 L R s1 d (hi + 1) vs (hi - m1) (rb (evT (evN J B n) J B d ow b 0 s1) fun l' s2 => (0, [nz (v1 l')], s2)) := by
    intro M2 s1 g1 g2
    refine cRs_rb (ib d ow M2 L R s1 (m1 + 1) hi vs g1 hd h5 hh g2 (by show _ + td b 1 ≤ _; omega)) (Or.inl rfl) (n2 := 1) (by omega) fun c1 c2 M1 hM1 => ?_
    have z0 := len1 ((vb d ow s1).2.1 c1)
    rw [z0] at hM1
    obtain ⟨M3, f1, f2⟩ := o10 (vs := vs) hc hM1 hh (by omega) h10
    exact cRs_ok f1 (by omega) (Nat.le_refl _) f2
  show cRs M0 M L R s d (hi + 1) vs (hi + 1 - p) (evT (evN J B n) J B d ow (.add a b) md s)
  have aa := ia d ow M L R s p m1 vs hn hd h1 (by omega) hM (by show _ + td a 1 ≤ _; omega)
  rcases hmd with rfl | rfl
  · rw [ev_150]
    rw [if_pos rfl] at h2
    refine cRs_rb aa (Or.inl rfl) (n2 := hi + 1 - m1) (by omega) fun c1 c2 M1 hM1 => ?_
    have z0 := len1 ((va d ow s).2.1 c1)
    rw [z0] at hM1
    obtain ⟨g1, g2⟩ := o22 (vs := vs) hc hM1 (by omega) (by omega) h2 h3
    by_cases v : v1 (evT (evN J B n) J B d ow a 0 s).2.1 = 0
    · rw [if_pos v]
      obtain ⟨M2, f1, f2⟩ := g1 v
      exact cRs_ok f1 (by omega) (Nat.le_refl _) f2
    · rw [if_neg v]
      obtain ⟨M2, f1, f2⟩ := g2 v
      exact cRs_pre f1 (Nat.le_refl _) (bb M2 _ (by omega) f2) (by omega)
  · rw [ev_151]
    rw [if_neg (by omega)] at h2
    refine cRs_rb aa (Or.inl rfl) (n2 := hi + 1 - m1) (by omega) fun c1 c2 M1 hM1 => ?_
    have z0 := len1 ((va d ow s).2.1 c1)
    rw [z0] at hM1
    obtain ⟨g1, g2⟩ := o23 (vs := vs) hc hM1 (by omega) (by omega) h2 h3
    by_cases v : v1 (evT (evN J B n) J B d ow a 0 s).2.1 = 0
    · rw [if_pos v]
      obtain ⟨M2, f1, f2⟩ := g1 v
      exact cRs_pre f1 (Nat.le_refl _) (bb M2 _ (by omega) f2) (by omega)
    · rw [if_neg v]
      obtain ⟨M2, f1, f2⟩ := g2 v
      exact cRs_ok f1 (by omega) (Nat.le_refl _) f2
theorem q_25 (hc : cCD M0 c) (ia : cPq M0 c J B n a 0 0) (ib : cPq M0 c J B n b 2 1) (va : vA J B n a 0 True 1) (vb : vA J B n b 1 False 0) (hr : cQ M0 c (evN J B n) n (.add a b) 6 25) : cQ M0 c (evN J B (n + 1)) (n + 1) (.add a b) 6 25 := by
  intro d ow M L R s lo hi p vs hn hd hC hh hM hv hp
  have hC0 : Cm c.2.1 c.2.2 (kOwn (nI ow)) (.add a b) 25 lo hi := hC
  have hC : Cm c.2.1 c.2.2 (kOwn (nI ow)) (.add a b) 25 lo hi := hC
  simp only [Cm] at hC
  rw [if_neg (by omega), if_neg (by omega), if_neg (by omega), if_pos True.intro] at hC
  obtain ⟨m1, h1, h2, h3, h4, h5, h6⟩ := hC
  have l1 := Cm_le h1
  have l2 := Cm_le h6
  have c300 := hc.2.1
  have hp1 := hp.2.2.1 (by omega) (by omega)
  subst hp1
  obtain ⟨j1, j2⟩ := hp.2.2.2.1 rfl
  obtain ⟨t1, t2, t3, t4⟩ := td_ad (a := a) (b := b) (m := 1) (by omega) (by omega)
  have hv0 : vs.length + td (.add a b) 1 ≤ 76 * (d + 1) := hv
  show cRs M0 M L R s d (hi + 1) vs (hi + 1 - p) (evT (evN J B n) J B d ow (.add a b) 25 s)
  rw [ev_25]
  refine cRs_rb (ia d ow M L R s p m1 vs hn hd h1 (by omega) hM (by show _ + td a 1 ≤ _; omega)) (Or.inl rfl) (n2 := hi + 1 - m1) (by omega) fun c1 c2 M1 hM1 => ?_
  have z0 := len1 ((va d ow s).2.1 c1)
  rw [z0] at hM1
  obtain ⟨M2, f1, f2⟩ := o21 (vs := vs) hc hM1 (by omega) (by omega) h2 h3
  by_cases v : v1 (evT (evN J B n) J B d ow a 0 s).2.1 = 0
  · rw [if_pos v] at f2 ⊢
    exact cRs_ok f1 (by omega) (Nat.le_refl _) f2
  · rw [if_neg v] at f2 ⊢
    obtain ⟨g1, g2⟩ := o24 hc f2 (by omega) h4
    by_cases w : (evT (evN J B n) J B d ow a 0 s).2.2.2.1 = 300
    · rw [if_pos w]
      obtain ⟨M3, f3, f4⟩ := g1 w
      exact cRs_x (j := 1) (cS_trans f1 f3) (by omega) (Nat.le_refl _) f4
    · rw [if_neg w]
      obtain ⟨M3, f3, f4⟩ := g2 w
      have tu : (vTurn (evT (evN J B n) J B d ow a 0 s).2.2).2.1 = (evT (evN J B n) J B d ow a 0 s).2.2.2.1 + 1 := rfl
      refine cRs_pre (s1 := vTurn (evT (evN J B n) J B d ow a 0 s).2.2) (n := 300 + (hi + 1 - m1 - 2)) (cS_trans f1 f3) (by omega) ?_ (by omega)
      refine cRs_rb (ib d ow M3 L R _ (m1 + 2) hi vs (by omega) hd h6 hh f4 (by show _ + td b 1 ≤ _; omega)) (Or.inl rfl) (n2 := 300 + 1) (by omega) fun c3 c4 M4 hM4 => ?_
      have z4 := len0 ((vb d ow _).2.1 c3)
      have hM4 : cM M0 M4 L R (evT (evN J B n) J B d ow b 1 (vTurn (evT (evN J B n) J B d ow a 0 s).2.2)).2.2 d hi ((evT (evN J B n) J B d ow b 1 (vTurn (evT (evN J B n) J B d ow a 0 s).2.2)).2.1.reverse ++ vs) := hM4
      rw [z4] at hM4
      obtain ⟨M5, f5, f6⟩ := o20 hc hM4 hh j1 j2
      have c4 : (vTurn (evT (evN J B n) J B d ow a 0 s).2.2).2.1 ≤ (evT (evN J B n) J B d ow b 1 (vTurn (evT (evN J B n) J B d ow a 0 s).2.2)).2.2.2.1 := c4
      have := hr d ow M5 L R _ p hi p vs (by omega) hd hC0 hh f6 hv hp
      exact cRs_pre f5 (Nat.le_refl _) this (by show 1 + (hi + 1 - p) ≤ _; omega)
theorem q_26 (hc : cCD M0 c) (ia : cPq M0 c J B n a 2 1) (ib : cPq M0 c J B n b 0 0) (va : vA J B n a 1 False 0) (vb : vA J B n b 0 True 1) (hr : cQ M0 c (evN J B n) n (.add a b) 7 26) : cQ M0 c (evN J B (n + 1)) (n + 1) (.add a b) 7 26 := by
  intro d ow M L R s lo hi p vs hn hd hC hh hM hv hp
  have hC0 : Cm c.2.1 c.2.2 (kOwn (nI ow)) (.add a b) 26 lo hi := hC
  have hC : Cm c.2.1 c.2.2 (kOwn (nI ow)) (.add a b) 26 lo hi := hC
  simp only [Cm] at hC
  rw [if_neg (by omega), if_neg (by omega), if_neg (by omega), if_neg (by omega), if_pos True.intro] at hC
  obtain ⟨m1, h1, h2, h3⟩ := hC
  have l1 := Cm_le h2
  have l2 := Cm_le h3
  have c300 := hc.2.1
  have hp1 := hp.2.2.1 (by omega) (by omega)
  subst hp1
  obtain ⟨j1, j2⟩ := hp.2.2.2.2.1 rfl
  obtain ⟨t1, t2, t3, t4⟩ := td_ad (a := a) (b := b) (m := 1) (by omega) (by omega)
  have hv0 : vs.length + td (.add a b) 1 ≤ 76 * (d + 1) := hv
  show cRs M0 M L R s d (hi + 1) vs (hi + 1 - p) (evT (evN J B n) J B d ow (.add a b) 26 s)
  rw [ev_26]
  obtain ⟨g1, g2⟩ := o24 hc hM (by omega) h1
  by_cases w : s.2.1 = 300
  · rw [if_pos w]
    obtain ⟨M3, f3, f4⟩ := g1 w
    exact cRs_x (j := 1) f3 (by omega) (Nat.le_refl _) f4
  · rw [if_neg w]
    obtain ⟨M3, f3, f4⟩ := g2 w
    have tu : (vTurn s).2.1 = s.2.1 + 1 := rfl
    refine cRs_pre (s1 := vTurn s) (n := 300 + (hi + 1 - p)) f3 (by omega) ?_ (by omega)
    refine cRs_rb (ia d ow M3 L R _ (p + 1) m1 vs (by omega) hd h2 (by omega) f4 (by show _ + td a 1 ≤ _; omega)) (Or.inl rfl) (n2 := 300 + (hi + 1 - m1)) (by omega) fun c1 c2 M1 hM1 => ?_
    have z0 := len0 ((va d ow _).2.1 c1)
    have hM1 : cM M0 M1 L R (evT (evN J B n) J B d ow a 1 (vTurn s)).2.2 d m1 ((evT (evN J B n) J B d ow a 1 (vTurn s)).2.1.reverse ++ vs) := hM1
    rw [z0] at hM1
    have c2 : (vTurn s).2.1 ≤ (evT (evN J B n) J B d ow a 1 (vTurn s)).2.2.2.1 := c2
    refine cRs_rb (ib d ow M1 L R _ m1 hi vs (by omega) hd h3 hh hM1 (by show _ + td b 1 ≤ _; omega)) (Or.inl rfl) (n2 := 300 + 1) (by omega) fun c3 c4 M4 hM4 => ?_
    have z4 := len1 ((vb d ow _).2.1 c3)
    have hM4 : cM M0 M4 L R (evT (evN J B n) J B d ow b 0 (evT (evN J B n) J B d ow a 1 (vTurn s)).2.2).2.2 d hi ((evT (evN J B n) J B d ow b 0 (evT (evN J B n) J B d ow a 1 (vTurn s)).2.2).2.1.reverse ++ vs) := hM4
    rw [z4] at hM4
    have c4 : (evT (evN J B n) J B d ow a 1 (vTurn s)).2.2.2.1 ≤ (evT (evN J B n) J B d ow b 0 (evT (evN J B n) J B d ow a 1 (vTurn s)).2.2).2.2.2.1 := c4
    obtain ⟨M5, f5, f6⟩ := o21 (vs := vs) hc hM4 hh (by omega) j1 j2
    by_cases v : v1 (evT (evN J B n) J B d ow b 0 (evT (evN J B n) J B d ow a 1 (vTurn s)).2.2).2.1 = 0
    · rw [if_pos v] at f6 ⊢
      have := hr d ow M5 L R _ p hi p vs (by omega) hd hC0 hh f6 hv hp
      exact cRs_pre f5 (Nat.le_refl _) this (by show 1 + (hi + 1 - p) ≤ _; omega)
    · rw [if_neg v] at f6 ⊢
      exact cRs_ok f5 (by omega) (Nat.le_refl _) f6
theorem q_call (hc : cCD M0 c) (hB : cHB M0 c J B) (hq : J 6 (q % 4) = 1 ∧ J 1 (q % 4) = tlen e) (ie : cPq M0 c J B n e 4 1) (ve : vA J B n e 1 True (tlen e)) (hr : cQ M0 c (evN J B n) n (B (q % 4)) 2 1) (vr : ∀ d ow s, vOk False 0 (evN J B n d ow (B (q % 4)) 1 s)) : cPq M0 c J B n (.mulR e q) m 0 := by
  intro d ow M L R s lo hi vs hn hd hC hh hM hv
  obtain ⟨-, h1, h2, h3, h4⟩ := hC
  have l1 := Cm_le h2
  have hv : vs.length + max 1 (td e 4) ≤ 76 * (d + 1) := hv
  have hp4 : q % 4 < 4 := by omega
  generalize hpq : q % 4 = p at *
  obtain ⟨hJ2, hB⟩ := hB
  obtain ⟨-, b2, ⟨st, b3, h, b4, b5, b6, b7, b8⟩, b9, b10, b11, b12⟩ := hB p hp4 hq.1
  have l3 := Cm_le b4
  have c300 := hc.2.1
  show cRs M0 M L R s d hi vs (hi - lo) (evT (evN J B n) J B d ow (.mulR e q) 0 s)
  rw [ev_c, hpq]
  refine cRs_rb (ie d ow M L R s lo (hi - 1) vs hn hd h2 (by omega) hM (by show _ + td e 4 ≤ _; omega)) (Or.inl rfl) (n2 := 1) (by omega) fun c1 c2 M1 hM1 => ?_
  have z0 := (ve d ow s).2.1 c1
  have hM1 : cM M0 M1 L R (evT (evN J B n) J B d ow e 1 s).2.2 d (hi - 1) ((evT (evN J B n) J B d ow e 1 s).2.1.reverse ++ vs) := hM1
  have c2 : s.2.1 ≤ (evT (evN J B n) J B d ow e 1 s).2.2.2.1 := c2
  show cRs M0 M1 L R (evT (evN J B n) J B d ow e 1 s).2.2 d hi vs 1 _
  generalize evT (evN J B n) J B d ow e 1 s = r at *
  obtain ⟨rc, l, s1⟩ := r
  have z0 : l.length = tlen e := z0
  have hM1 : cM M0 M1 L R s1 d (hi - 1) (l.reverse ++ vs) := hM1
  have c2 : s.2.1 ≤ s1.2.1 := c2
  obtain ⟨g1, g2, g3⟩ := o25 (J := J) (l := l.reverse) hc hM1 (by omega) (by rw [List.length_append, List.length_reverse]; omega) h3 h4 hp4 hd (by rw [List.length_reverse, z0, ← hq.2]; exact b9) (by rw [List.length_reverse]; omega) (by rw [List.length_reverse, z0, ← hq.2]; exact b11) hJ2 (by rw [List.length_reverse, z0, ← hq.2]; exact b12) b3
  show cRs M0 M1 L R s1 d hi vs 1 (if s1.2.1 = 300 then (3, [], s1) else if d = 20 then (4, [], vTurn s1) else vCl s1 (evN J B n (d + 1) (J 3 p) (B p) 1 (vIn (vTurn s1) (vPar J p 0 l (fun _ => 0)) (d + 1))))
  by_cases w : s1.2.1 = 300
  · rw [if_pos w]
    obtain ⟨M3, f3, f4⟩ := g1 w
    exact cRs_x (j := 1) f3 (by omega) (Nat.le_refl _) f4
  · rw [if_neg w]
    have tu : (vTurn s1).2.1 = s1.2.1 + 1 := rfl
    by_cases w2 : d = 20
    · rw [if_pos w2]
      obtain ⟨M3, f3, f4⟩ := g2 w w2
      exact cRs_x (j := 2) f3 (by omega) (by omega) f4
    · rw [if_neg w2]
      obtain ⟨M3, f3, f4⟩ := g3 w w2
      rw [List.reverse_reverse] at f4
      have tu2 : (vIn (vTurn s1) (vPar J p 0 l (fun _ => 0)) (d + 1)).2.1 = s1.2.1 + 1 := rfl
      have ih := hr (d + 1) (J 3 p) M3 _ _ _ st h st vs (by omega) (by omega) b4 (by omega) f4 (by show _ + td (B p) 1 ≤ _; omega) (cPl_0 (by omega))
      have vr := vr (d + 1) (J 3 p) (vIn (vTurn s1) (vPar J p 0 l (fun _ => 0)) (d + 1))
      generalize evN J B n (d + 1) (J 3 p) (B p) 1 (vIn (vTurn s1) (vPar J p 0 l (fun _ => 0)) (d + 1)) = r at *
      obtain ⟨i1, M4, k4, i2, i3, i4, i5, i6⟩ := ih
      have i3 : k4 ≤ (h - st) + 302 * (r.2.2.2.1 - (s1.2.1 + 1)) := i3
      have i1 : s1.2.1 + 1 ≤ r.2.2.2.1 := i1
      have eL : ∀ i, cLn L s1 d (8 * d + i) = s1.1 2 i := fun i => by unfold cLn; rw [if_neg (by omega), show 8 * d + i - 8 * d = i by omega]
      have eR : cRn R d (hi - 1 + 1) (d + 1) = nI hi := by unfold cRn; rw [if_pos rfl, show hi - 1 + 1 = hi by omega]
      have back : ∀ {M5 : zMem} {xs : List Int32}, cM M0 M5 (cLn L s1 d) (cRn R d (hi - 1 + 1)) ((fun a i => if a = 2 then cLn L s1 d (8 * d + i) else r.2.2.1 a i), r.2.2.2) d hi xs → cM M0 M5 L R (vOut s1 r.2.2) d hi xs := by
        intro M5 xs g
        have e1 : (((fun a i => if a = 2 then cLn L s1 d (8 * d + i) else r.2.2.1 a i), r.2.2.2) : zE) = vOut s1 r.2.2 := by
          unfold vOut
          congr 1
          funext a i
          rw [eL]
        rw [e1] at g
        exact cM_LR g (fun i hi => by unfold cLn; rw [if_pos hi]) (fun i hi => by unfold cRn; rw [if_neg (by omega)])
      unfold vCl
      by_cases q0 : r.1 = 0
      · rw [if_pos q0]
        have i4 := i4 q0
        rw [len0 (vr.2.1 q0)] at i4
        obtain ⟨M5, f5, f6⟩ := o1 (vs := vs) (pc := h) hc i4 (by omega) (by omega) b5
        rw [b6] at f6
        obtain ⟨M6, f7, f8⟩ := (o26 hc f6 (by omega) b7 (by omega)).2 d hi rfl eR
        exact cRs_ok (cS_trans (cS_trans f3 i2) (cS_trans f5 f7)) (by show _ ≤ 1 + 302 * (r.2.2.2.1 - s1.2.1); omega) (by show s1.2.1 ≤ r.2.2.2.1; omega) (back f8)
      · rw [if_neg q0]
        by_cases q1 : r.1 = 1
        · rw [if_pos q1]
          have := (i5 q1).2 d hi rfl eR
          refine cRs_ok (cS_trans f3 i2) (by show _ ≤ 1 + 302 * (r.2.2.2.1 - s1.2.1); omega) (by show s1.2.1 ≤ r.2.2.2.1; omega) (back ?_)
          rw [len1 (vr.2.2 q1)] at this ⊢
          exact this
        · rw [if_neg q1]
          exact ⟨by omega, M4, 1 + k4, cS_trans f3 i2, by omega, fun w => absurd w q0, fun w => absurd w q1, i6⟩
end CV
