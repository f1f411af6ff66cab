/-! forms of trees whose start and end are plain -/
def cQ' (M0 : zMem) (c : zC) (ev : zRec) (n : Nat) (t : T) (m md : Nat) : Prop :=
  ∀ d mk M L R s lo hi vs, 301 ≤ n + s.2.1 → d ≤ 20 → Cm c.2.1 c.2.2 (kOwn (nI mk)) t md lo hi → hi < c.1 → cM M0 M L R s d lo vs → vs.length + td t (tmd m) ≤ 76 * (d + 1) → cRs M0 M L R s d hi vs (hi - lo) (ev d mk t md s)
theorem cQ_pl {M0 : zMem} {c : zC} {ev : zRec} {n : Nat} {t : T} {m md : Nat} (h : md = 0 ∨ md = 1 ∨ md = 2 ∨ md = 5 ∨ md = 27) : cQ M0 c ev n t m md ↔ cQ' M0 c ev n t m md := by
  have e1 : cmm md = md := if_neg (by omega)
  have e2 : ∀ x, cEn md x = x := fun x => if_neg (by omega)
  have e3 : ∀ x, cBg md x = x := fun x => if_neg (by omega)
  constructor
  · intro g d ow M L R s lo hi vs hn hd hC hh hM hv
    have := g d ow M L R s lo hi lo vs hn hd (by rw [e1]; exact hC) hh hM hv (cPl_0 h)
    rw [e2, e3] at this
    exact this
  · intro g d ow M L R s lo hi p vs hn hd hC hh hM hv hp
    have := hp.2.2.1 (by omega) (by omega)
    subst this
    rw [e2, e3]
    rw [e1] at hC
    exact g d ow M L R s p hi vs hn hd hC hh hM hv
abbrev cPq (M0 : zMem) (c : zC) (J : zJ) (B : Nat → T) (n : Nat) (t : T) (m md : Nat) : Prop := cQ' M0 c (evN J B (n + 1)) (n + 1) t m md
def vA (J : zJ) (B : Nat → T) (n : Nat) (t : T) (md : Nat) (x : Prop) (k : Nat) : Prop := ∀ d mk s, vOk x k (evT (evN J B n) J B d mk t md s)
section CV
variable {M0 : zMem} {c : zC} {J : zJ} {B : Nat → T} {n : Nat} {a b e : T} {k m md q : Nat}
theorem q_num (hc : cCD M0 c) : cPq M0 c J B n (.num k) m 0 := by
  intro d ow M L R s lo hi vs hn hd hC hh hM hv
  obtain ⟨-, c2, c3, c4⟩ := hC
  have hv : vs.length + 1 ≤ 76 * (d + 1) := hv
  obtain ⟨M', e1, e2⟩ := o1 hc hM (by omega) (by omega) c3
  rw [c4, ← c2] at e2
  exact cRs_ok e1 (by omega) (Nat.le_refl _) e2
theorem q_var {x : Nat} (hc : cCD M0 c) : cPq M0 c J B n (.var x) m md := by
  intro d ow M L R s lo hi vs hn hd hC hh hM hv
  simp only [Cm] at hC
  show cRs M0 M L R s d hi vs (hi - lo) (evT (evN J B n) J B d ow (.var x) md s)
  simp only [evT]
  by_cases h : x = 99
  · rw [if_pos h] at hC
    rw [if_pos (Or.inl h), hC.2]
    exact cRs_ok (cS_refl _) (by omega) (Nat.le_refl _) hM
  · rw [if_neg h] at hC
    obtain ⟨-, c1, c2, c3, c4⟩ := hC
    have c1 : x < 8 := c1
    rw [if_neg (show ¬ (x = 99 ∨ x = 98) by omega)]
    have hv : vs.length ≤ 76 * (d + 1) := by omega
    unfold vGet
    by_cases o : kOwn (nI ow) x = true
    · rw [if_pos o] at c3 ⊢
      obtain ⟨M', e1, e2⟩ := o3 hc hM (by omega) (by omega) c3 c1 hd c4
      rw [← c2] at e2
      exact cRs_ok e1 (by omega) (Nat.le_refl _) e2
    · rw [if_neg o] at c3 ⊢
      obtain ⟨M', e1, e2⟩ := o2 hc hM (by omega) (by omega) c3 c1 c4
      rw [← c2] at e2
      exact cRs_ok e1 (by omega) (Nat.le_refl _) e2
theorem q_list (hm : m = 2 ∨ m = 3) (hmd : md = 1 ∨ md = 2) (ia : cPq M0 c J B n a 1 0) (ib : cPq M0 c J B n b 2 1) (va : vA J B n a 0 False 0) : cPq M0 c J B n (.add a b) m md := by
  intro d ow M L R s lo hi vs hn hd hC hh hM hv
  simp only [Cm] at hC
  rw [if_pos hmd] at hC
  obtain ⟨m1, h1, h2⟩ := hC
  have l1 := Cm_le h1
  have l2 := Cm_le h2
  have htm : tmd m = 1 := by unfold tmd; rw [if_neg (by omega), if_neg (by omega)]
  rw [htm] at hv
  obtain ⟨t1, t2, t3, t4⟩ := td_ad (a := a) (b := b) (m := 1) (by omega) (by omega)
  show cRs M0 M L R s d hi vs (hi - lo) (evT (evN J B n) J B d ow (.add a b) md s)
  rw [ev_1 hmd]
  refine cRs_rb (ia d ow M L R s lo m1 vs hn hd h1 (by omega) hM (by show _ + td a 1 ≤ _; omega)) (Or.inl rfl) (n2 := hi - m1) (by omega) fun c1 c2 M1 hM1 => ?_
  have z1 := len0 ((va d ow s).2.1 c1)
  rw [z1] at hM1 ⊢
  refine cRs_rb (ib d ow M1 L R _ m1 hi vs (by omega) hd h2 hh hM1 (by show _ + td b 1 ≤ _; omega)) (Or.inl rfl) (n2 := 0) (by omega) fun c3 c4 M2 hM2 => ?_
  exact cRs_ok (cS_refl _) (by omega) (Nat.le_refl _) hM2
/-- one, then the other: arguments (4), pairs (5) -/
theorem q_two {mb md' : Nat} (hmd : (m = 4 ∧ md = 1 ∧ mb = 4 ∧ md' = 1) ∨ (m = 5 ∧ md = 5 ∧ mb = 0 ∧ md' = 0)) (ia : cPq M0 c J B n a 0 0) (ib : cPq M0 c J B n b mb md') (va : vA J B n a 0 True 1) (vb : ∃ k, vA J B n b md' True k) : cPq M0 c J B n (.add a b) m md := by
  intro d ow M L R s lo hi vs hn hd hC hh hM hv
  obtain ⟨m1, h1, h2⟩ : ∃ m1, Cm c.2.1 c.2.2 (kOwn (nI ow)) a 0 lo m1 ∧ Cm c.2.1 c.2.2 (kOwn (nI ow)) b md' m1 hi := by
    simp only [Cm] at hC
    rcases hmd with ⟨-, rfl, -, rfl⟩ | ⟨-, rfl, -, rfl⟩
    · rw [if_pos (by omega)] at hC; exact hC
    · rw [if_neg (by omega), if_pos (by omega)] at hC; exact hC
  have l1 := Cm_le h1
  have l2 := Cm_le h2
  have tt : vs.length + td a 1 ≤ 76 * (d + 1) ∧ vs.length + 1 + td b (tmd mb) ≤ 76 * (d + 1) := by
    have ta := td_01 a
    have tb := td_01 b
    rcases hmd with ⟨rfl, rfl, rfl, rfl⟩ | ⟨rfl, rfl, rfl, rfl⟩
    · have hv : vs.length + max (td a 0) (1 + td b 4) ≤ 76 * (d + 1) := hv
      show _ ∧ _ + td b 4 ≤ _
      omega
    · have hv : vs.length + max (td a 0) (1 + td b 0) ≤ 76 * (d + 1) := hv
      show _ ∧ _ + td b 1 ≤ _
      omega
  show cRs M0 M L R s d hi vs (hi - lo) (evT (evN J B n) J B d ow (.add a b) md s)
  have ee : evT (evN J B n) J B d ow (.add a b) md s = rb (evT (evN J B n) J B d ow a 0 s) fun l s1 => rb (evT (evN J B n) J B d ow b md' s1) fun l' s2 => (0, l ++ l', s2) := by
    rcases hmd with ⟨-, rfl, -, rfl⟩ | ⟨-, rfl, -, rfl⟩
    · exact ev_1 (Or.inl rfl)
    · exact ev_5
  rw [ee]
  refine cRs_rb (ia d ow M L R s lo m1 vs hn hd h1 (by omega) hM tt.1) (Or.inl rfl) (n2 := hi - m1) (by omega) fun c1 c2 M1 hM1 => ?_
  have z0 := (va d ow s).2.1 c1
  obtain ⟨kb, vb⟩ := vb
  refine cRs_rb (ib d ow M1 L R _ m1 hi _ (by omega) hd h2 hh hM1 (by rw [List.length_append, List.length_reverse]; have z0' : (evN J B (n + 1) d ow a 0 s).2.1.length = 1 := z0; omega)) (Or.inr ((vb d ow _).1 trivial)) (n2 := 0) (by omega) fun c3 c4 M2 hM2 => ?_
  refine cRs_ok (cS_refl _) (by omega) (Nat.le_refl _) ?_
  rw [List.reverse_append, List.append_assoc]
  exact hM2
/-- an operation upon one value -/
theorem q_un (F : Nat → Nat → Int32 → zE → zR) (hev : ∀ d ow s, evT (evN J B n) J B d ow (.mulL k e) 0 s = rb (evT (evN J B n) J B d ow e 0 s) fun l s1 => F d ow (v1 l) s1) (ie : cPq M0 c J B n e 0 0) (ve : vA J B n e 0 True 1) (hk : ¬ k = 27) (hf : cFmd k = 0) (ht : ∀ x, td (.mulL k e) x = td e 0)
    (hop : ∀ d ow M L R s pc vs v, d ≤ 20 → pc < c.1 → c.2.1 pc = cFop (kOwn (nI ow)) k → (200 ≤ k → c.2.2 pc = nI (k - 200)) → vs.length < 2047 → cM M0 M L R s d pc (v :: vs) → cRs M0 M L R s d (pc + 1) vs 1 (F d ow v s)) : cPq M0 c J B n (.mulL k e) m 0 := by
  intro d ow M L R s lo hi vs hn hd hC hh hM hv
  simp only [Cm] at hC
  rw [if_neg hk, hf] at hC
  obtain ⟨-, h1, h2, h3, -, h5⟩ := hC
  have l1 := Cm_le h2
  rw [ht, td_01] at hv
  show cRs M0 M L R s d hi vs (hi - lo) (evT (evN J B n) J B d ow (.mulL k e) 0 s)
  rw [hev]
  refine cRs_rb (ie d ow M L R s lo (hi - 1) vs hn hd h2 (by omega) hM hv) (Or.inl rfl) (n2 := 1) (by omega) fun c1 c2 M1 hM1 => ?_
  have z0 := len1 ((ve d ow s).2.1 c1)
  rw [z0] at hM1
  have := hop d ow M1 L R _ (hi - 1) vs _ hd (by omega) h3 h5 (by omega) hM1
  rw [show hi - 1 + 1 = hi by omega] at this
  exact this
/-- an operation upon two values -/
theorem q_op (F : Nat → Nat → Int32 → Int32 → zE → zR) (hev : ∀ d ow s, evT (evN J B n) J B d ow (.mulL k e) 0 s = rb (evT (evN J B n) J B d ow e 5 s) fun l s1 => F d ow (v1 l) (v2 l) s1) (ie : cPq M0 c J B n e 5 5) (ve : vA J B n e 5 True 2) (hk : ¬ k = 27) (hf : cFmd k = 5) (ht : ∀ x, td (.mulL k e) x = td e 5)
    (hop : ∀ d ow M L R s pc vs v w, d ≤ 20 → pc < c.1 → c.2.1 pc = cFop (kOwn (nI ow)) k → vs.length < 2047 → cM M0 M L R s d pc (w :: v :: vs) → cRs M0 M L R s d (pc + 1) vs 1 (F d ow v w s)) : cPq M0 c J B n (.mulL k e) m 0 := by
  intro d ow M L R s lo hi vs hn hd hC hh hM hv
  simp only [Cm] at hC
  rw [if_neg hk, hf] at hC
  obtain ⟨-, h1, h2, h3, -, -⟩ := hC
  have l1 := Cm_le h2
  rw [ht] at hv
  show cRs M0 M L R s d hi vs (hi - lo) (evT (evN J B n) J B d ow (.mulL k e) 0 s)
  rw [hev]
  refine cRs_rb (ie d ow M L R s lo (hi - 1) vs hn hd h2 (by omega) hM hv) (Or.inl rfl) (n2 := 1) (by omega) fun c1 c2 M1 hM1 => ?_
  have z0 := len2 ((ve d ow s).2.1 c1)
  rw [z0] at hM1
  have := hop d ow M1 L R _ (hi - 1) vs _ _ hd (by omega) h3 (by omega) hM1
  rw [show hi - 1 + 1 = hi by omega] at this
  exact this
/-- loops, AND, OR: the operation at the end belongs to the pair -/
theorem q_pass {m' : Nat} (hk : (k = 25 ∧ m' = 6) ∨ (k = 26 ∧ m' = 7) ∨ ((k = 150 ∨ k = 151) ∧ m' = 5)) (ie : cQ M0 c (evN J B (n + 1)) (n + 1) e m' k) : cPq M0 c J B n (.mulL k e) m 0 := by
  intro d ow M L R s lo hi vs hn hd hC hh hM hv
  simp only [Cm] at hC
  rw [if_neg (by omega), show cFmd k = k from if_pos (by omega)] at hC
  obtain ⟨-, h1, h2, h3, h4, -⟩ := hC
  have l1 := Cm_le h2
  show cRs M0 M L R s d hi vs (hi - lo) (evT (evN J B n) J B d ow (.mulL k e) 0 s)
  rw [ev_kp (by omega)]
  have ht : td (.mulL k e) (tmd m) = td e (tmd m') := by
    simp only [td]
    rcases hk with ⟨rfl, rfl⟩ | ⟨rfl, rfl⟩ | ⟨h, rfl⟩
    · rw [if_neg (by omega)]; exact td_01 e
    · rw [if_neg (by omega)]; exact td_01 e
    · rw [if_pos (by omega)]; rfl
  rw [ht] at hv
  have e1 : cmm k = k := if_neg (by omega)
  have e2 : cEn k (hi - 1) = hi := by unfold cEn; rw [if_pos (by omega)]; omega
  have e3 : cBg k lo = lo := if_neg (by omega)
  have := ie d ow M L R s lo (hi - 1) lo vs hn hd (by rw [e1]; exact h2) (by omega) hM hv ⟨fun w => by omega, fun w => by omega, fun _ _ => rfl, fun w => ⟨by rw [h3, w]; rfl, h4 (by omega)⟩, fun w => ⟨by rw [h3, w]; rfl, h4 (by omega)⟩, fun w => by rcases w with w | w <;> (rw [h3, w]; rfl)⟩
  rw [e2, e3] at this
  exact this
theorem q_if (hm : m = 1 ∨ m = 3) (hmd : md = 0 ∨ md = 2) (ie : cPq M0 c J B n e 8 27) : cPq M0 c J B n (.mulL 27 e) m md := by
  intro d ow M L R s lo hi vs hn hd hC hh hM hv
  simp only [Cm] at hC
  rw [if_pos True.intro] at hC
  show cRs M0 M L R s d hi vs (hi - lo) (evT (evN J B n) J B d ow (.mulL 27 e) md s)
  rw [ev_kp (by omega)]
  refine ie d ow M L R s lo hi vs hn hd hC.2 hh hM ?_
  have : td (.mulL 27 e) (tmd m) = td e 0 := by simp only [td]; rw [if_neg (by omega)]
  rw [this, td_01] at hv
  exact hv
end CV
