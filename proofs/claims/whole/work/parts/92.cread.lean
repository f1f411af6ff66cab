/-! THE CLASS HAS READ A TEXT -/
def pfW (tx : Nat → Nat) (J : zJ) (B : Nat → T) : List Nat := pw tx J B (J 4 3) ++ (171 :: (Wr (B 4) 5 ++ [163]))
def allC (J : zJ) (B : Nat → T) (q c : Nat) : Prop := Hd B (J 4 3) q c ∨ hasC (B 4) q c
/-- the code of a program stands in the class -/
def Co (M : zMem) (J : zJ) (B : Nat → T) : Prop :=
  ∃ c : zC, cCD M c ∧ (∀ p, p < 4 → J 6 p = 1 → J 0 p = 1 ∧ sh (B p) 2 = true ∧ ∃ s, M 9 p = nI s ∧ Bo c (J 3 p) (B p) s c.1) ∧ sh (B 4) 2 = true ∧ (∃ s, M 7 6 = nI s ∧ Bo c 0 (B 4) s c.1) ∧ (∀ p, p < 4 → J 0 p ≤ 1 ∧ (J 0 p = 1 → M 10 p = nI (J 1 p) ∧ ∀ i, i < 8 → i < J 1 p → J 1 p ≤ 8 → M 11 (8 * p + i) = nI (J 2 (8 * p + i))))
def PRes (M : zMem) (ts : List Nat) (r : Nat ⊕ zZ) : Prop := M 14 1 = zAns ts r ∧ ∀ z, r = .inr z → z.1 = 24 → FS z.2.2.2.1 (allC z.2.2.2.1 z.2.2.2.2) (M 14 2) ∧ plL M (pfW (tok ts) z.2.2.2.1 z.2.2.2.2) ∧ (pfW (tok ts) z.2.2.2.1 z.2.2.2.2).length ≤ 150 ∧ Co M z.2.2.2.1 z.2.2.2.2 ∧ (∀ d, d < z.2.2.2.1 4 3 → sh (z.2.2.2.2 (10 + d)) 2 = true) ∧ ∀ q c, allC z.2.2.2.1 z.2.2.2.2 q c → q / 4 < 150
def PQ (M : zMem) (ts : List Nat) : Prop := ∀ p o g (B : Nat → T), PRes M ts (zRd ts 0 (z0 p o g B))
def e2 (p : Nat) : Nat := if p = 2 then 1 else 0
theorem f1_len (p t : Nat) (o : Bool) : (f1 p t o).1.length + e2 (f1 p t o).2 ≤ 1 + e2 p := by
  have e0 : e2 0 = 0 := rfl
  have e1 : e2 1 = 0 := rfl
  have e22 : e2 2 = 1 := rfl
  have eo : e2 (if isOp t = true then 0 else 1) = 0 := by split <;> rfl
  unfold f1
  by_cases c1 : o = true
  · rw [if_pos c1]
    by_cases c2 : p = 2
    · rw [if_pos c2, c2]
      split
      · simp [e1]
      · simp [e1]
    · rw [if_neg c2]; simp
  · rw [if_neg c1]
    by_cases c2 : t = 121
    · rw [if_pos c2]
      by_cases c3 : p = 0
      · rw [if_pos c3]; simp [e0]
      · rw [if_neg c3]; simp [e22]
    · rw [if_neg c2]
      by_cases c3 : isEn t = true
      · rw [if_pos c3]
        show [t].length + e2 (if isOp t = true then 0 else 1) ≤ _
        rw [eo]; simp
      · rw [if_neg c3]
        show (if p = 2 then [121, t] else [t]).length + e2 (if isOp t = true then 0 else 1) ≤ _
        rw [eo]
        by_cases c4 : p = 2
        · rw [if_pos c4, c4, e22]; simp
        · rw [if_neg c4]; simp
theorem fdn_len {tx : Nat → Nat} {fl : Nat → Int32} : ∀ (k i p : Nat), (fdn tx fl k i p).1.length + e2 (fdn tx fl k i p).2 ≤ k + e2 p
  | 0, i, p => by simp [fdn]
  | k + 1, i, p => by
    have h1 := f1_len p (tx i) (decide (¬ fl i = 0))
    have h2 := fdn_len (tx := tx) (fl := fl) k (i + 1) (f1 p (tx i) (decide (¬ fl i = 0))).2
    simp only [fdn, List.length_append]
    omega
/-- the end of a reading, where the text is a program -/
theorem cDone {N : Nat} {M : zMem} {ts : List Nat} {J : zJ} {B : Nat → T} (hN : 300 < N) (hts : ts.length ≤ 150) (htk : ∀ t ∈ ts, t < 174) (h1 : ∀ i, i < ts.length → M 1 i = nI (tok ts i)) (h : Ez M (tok ts) ts.length J B) : ∃ M', F_Pars_read_p56 N M (nI ts.length) (nI 24) = some M' ∧ (∀ a, a ≤ 3 ∨ 25 ≤ a → M' a = M a) ∧ M' 14 3 = M 14 3 ∧ M' 14 1 = -4 ∧ FS J (allC J B) (M' 14 2) ∧ plL M' (pfW (tok ts) J B) ∧ (pfW (tok ts) J B).length ≤ 150 ∧ Co M' J B ∧ (∀ d, d < J 4 3 → sh (B (10 + d)) 2 = true) ∧ ∀ q c, allC J B q c → q / 4 < 150 := by
  obtain ⟨c, fl, cl, ow, s, k1, ⟨p1, p2, p3⟩, k3, k4, k5, k6, k7, k8, k9, k10⟩ := h
  have h12 : M 12 = cl.1 := k1.2.2.2.2.1.1
  have h13 : M 13 = cl.2 := k1.2.2.2.2.1.2
  have h21 : M 21 = fl := k1.2.2.2.1
  obtain ⟨M1, hM1⟩ : ∃ M1, M1 = zup M 14 1 (-4) := ⟨_, rfl⟩
  have o1 : ∀ a, a ≠ 14 → M1 a = M a := fun a z => by rw [hM1, zup_ne z]
  have hF0 : FS J (fun q c => allC J B q c ∧ q / 4 < 0) (M1 7 9) := by
    rw [o1 7 (by omega), p2]
    by_cases z : J 4 4 = 0
    · rw [if_pos z]; exact Or.inl ⟨rfl, z, fun q c y => by omega⟩
    · rw [if_neg z]; exact Or.inr ⟨J 4 4 - 1, rfl, by omega, Or.inl (by omega), fun _ => by omega, fun q c y => by omega⟩
  obtain ⟨v, e1, e2⟩ := cFaults (N := N) (J := J) (H := allC J B) hts cl.1 cl.2 k9 ts.length 0 N M1 (by omega) (by omega) (by rw [o1 12 (by omega)]; exact h12) (by rw [o1 13 (by omega)]; exact h13) (fun p hp => by rw [o1 8 (by omega), o1 10 (by omega)]; exact ⟨(p1 p hp).1.1, (p1 p hp).2.1, fun q => ((p1 p hp).2.2 q).1⟩) hF0
  obtain ⟨M2, hM2⟩ : ∃ M2, M2 = zup (zup (zup M1 7 9 v) 14 2 v) 19 1 0 := ⟨_, rfl⟩
  have o2 : ∀ a, a ≠ 7 → a ≠ 14 → a ≠ 19 → M2 a = M a := fun a z1 z2 z3 => by rw [hM2, zup_ne z3, zup_ne z2, zup_ne z1, o1 a z2]
  have htx : ∀ i, i < ts.length → tok ts i < 174 := fun i hi => by
    have : tok ts i ∈ ts := by
      unfold tok
      rw [List.getD_eq_getElem?_getD, List.getElem?_eq_getElem hi]
      exact List.getElem_mem _
    exact htk _ this
  obtain ⟨M3, e3, a1, a2⟩ := cCollect (N := N) (tx := tok ts) (fl := fl) (len := ts.length) hts ts.length 0 N M2 [] 1 (by omega) (by omega) (fun i hi => ⟨htx i hi, by rw [o2 1 (by omega) (by omega) (by omega)]; exact h1 i hi⟩) (by rw [o2 21 (by omega) (by omega) (by omega)]; exact h21) ⟨by omega, fun z => by omega, fun _ t ht => by simp at ht⟩ (fun t ht => by simp at ht) (by simp [pdW]) ⟨by rw [hM2, zup_self, pk_us]; simp [pdW]; rfl, fun i hi => by simp [pdW] at hi⟩
  have ef := k8.2
  rw [Nat.sub_zero] at ef
  rw [ef] at a2
  have epd : pdW (tok ts) ts.length ts.length 1 = [] := by simp [pdW]
  have a2 : plL M3 (pfW (tok ts) J B) := by
    have := a2
    simp only [epd, List.append_nil, List.nil_append] at this
    exact this
  refine ⟨M3, ?_, fun a ha => ?_, ?_, ?_, ?_, a2, ?_, ⟨c, ?_, fun p hp h6 => ?_, k5, ⟨s, ?_, k7⟩, fun p hp => ?_⟩, k4, fun q c z => by have := (k9.2.1 q c z).2.1; omega⟩
  · unfold F_Pars_read_p56 F_Proc_findFault F_Plain_collect
    rw [if_pos (show nI 24 = (24 : Int32) from rfl), zset_eq, ← hM1, show F_Proc_findFault_p2 N N M1 (nI ts.length) 0 = F_Proc_findFault_p2 N N M1 (nI ts.length) (nI 0) from rfl, e1, zbi_some, zset_eq, zset_eq, ← hM2, show F_Plain_collect_p5 N N M2 (nI ts.length) 0 = F_Plain_collect_p5 N N M2 (nI ts.length) (nI 0) from rfl, e3, zbv_some]
  · rw [a1 a (by omega) (by omega), o2 a (by omega) (by omega) (by omega)]
  · rw [a1 14 (by omega) (by omega), hM2, hM1]; simp [zup_ap]
  · rw [a1 14 (by omega) (by omega), hM2, hM1]; simp [zup_ap]
  · have : M3 14 2 = v := by rw [a1 14 (by omega) (by omega), hM2]; simp [zup_ap]
    rw [this]; exact e2
  · -- no token is written twice
    have hlen := fdn_len (tx := tok ts) (fl := fl) ts.length 0 1
    rw [ef] at hlen
    have hlen : (pfW (tok ts) J B).length + 0 ≤ ts.length + 0 := hlen
    omega
  · exact cCD_k (fun a q1 q2 => by rw [a1 a (by omega) (by omega), o2 a (by omega) (by omega) (by omega)]) k1.2.1
  · obtain ⟨b1, b2, s', b3, b4⟩ := k3 p hp h6
    exact ⟨b1, b2, s', by rw [a1 9 (by omega) (by omega), o2 9 (by omega) (by omega) (by omega)]; exact b3, b4⟩
  · rw [a1 7 (by omega) (by omega), hM2, hM1]
    simp [zup_ap]
    exact k6
  · rw [a1 10 (by omega) (by omega), o2 10 (by omega) (by omega) (by omega), a1 11 (by omega) (by omega), o2 11 (by omega) (by omega) (by omega)]
    exact ⟨(p1 p hp).1.1, (p1 p hp).2.2⟩
theorem cReadAll {N : Nat} {M : zMem} {ts : List Nat} (hN : 300 < N) (hts : ts.length ≤ 150) (htk : ∀ t ∈ ts, t < 174) (h1 : ∀ i, i < ts.length → M 1 i = nI (tok ts i)) (hst : ¬ M 14 3 = 0) : ∃ Mf, F_Pars_read N M (nI ts.length) = some Mf ∧ (∀ a, a ≤ 3 ∨ 25 ≤ a → Mf a = M a) ∧ Mf 14 3 = 0 ∧ PQ Mf ts := by
  obtain ⟨M0, r1, r2, r3, r4, r5⟩ := cRestart hN M
  have e0 : F_Pars_read N M (nI ts.length) = F_Pars_read_p10 N N M0 (nI ts.length) (nI 0) (nI 0) := by
    unfold F_Pars_read
    rw [if_neg hst, r1, zbv_some]
    rfl
  have key : ∀ p o g (B : Nat → T), ∃ Mf, F_Pars_read N M (nI ts.length) = some Mf ∧ (∀ a, a ≤ 3 ∨ 25 ≤ a → Mf a = M a) ∧ Mf 14 3 = 0 ∧ PRes Mf ts (zRd ts 0 (z0 p o g B)) := by
    intro p o g B
    have hc := cRd (N := N) hN hts ts 0 (z0 p o g B) M0 N (fun i => by rw [Nat.zero_add]; rfl) (by omega) htk (fun i hi => by rw [r5 1 (by omega)]; exact h1 i hi) z0_ok.1 z0_ok.2 (Cz_0 r2 r3 ⟨r4.1, r4.2.1, r4.2.2.1, r4.2.2.2.1, r4.2.2.2.2.1⟩) (by omega)
    rw [e0]
    revert hc
    cases hz : zRd ts 0 (z0 p o g B) with
    | inl q =>
      rintro ⟨M', a1, a2⟩
      refine ⟨_, a1, fun a ha => ?_, ?_, ?_, fun z y => nomatch y⟩
      · rw [zup_ne (by omega), a2.1 a ha, r5 a ha]
      · rw [zup_self, pk_un (by omega), a2.2.1]; exact r4.2.2.2.2.2.1
      · rw [zup_self, pk_us]; rfl
    | inr z =>
      rintro ⟨M', a1, a2, a3, a4, a5⟩
      by_cases c24 : z.1 = 24
      · obtain ⟨-, hE⟩ := a2
        rw [if_pos c24] at hE
        obtain ⟨M2, b1, b2, b3, b4, b5, b6, b7, b8, b9⟩ := cDone (N := N) hN hts htk (fun i hi => by rw [a3.1 1 (by omega), r5 1 (by omega)]; exact h1 i hi) hE
        rw [c24] at a1
        refine ⟨M2, a1.trans b1, fun a ha => by rw [b2 a ha, a3.1 a ha, r5 a ha], by rw [b3, a3.2.1]; exact r4.2.2.2.2.2.1, ?_, fun z' y _ => ?_⟩
        · show M2 14 1 = (if z.1 = 24 then -4 else nI ts.length)
          rw [if_pos c24]; exact b4
        · cases y
          exact ⟨b5, b6, b7, b8, b9⟩
      · have hnx : z.1 ≤ 24 := zGd_nx a4
        have e56 : F_Pars_read_p56 N M' (nI ts.length) (nI z.1) = some (zup M' 14 1 (nI ts.length)) := by
          unfold F_Pars_read_p56
          rw [if_neg (show ¬ nI z.1 = (24 : Int32) from nIne (c := 24) (by omega) (by omega) c24), zset_eq]
        refine ⟨_, a1.trans e56, fun a ha => ?_, ?_, ?_, fun z' y c => ?_⟩
        · rw [zup_ne (by omega), a3.1 a ha, r5 a ha]
        · rw [zup_self, pk_un (by omega), a3.2.1]; exact r4.2.2.2.2.2.1
        · rw [zup_self, pk_us]
          show nI ts.length = (if z.1 = 24 then -4 else nI ts.length)
          rw [if_neg c24]
        · cases y; exact absurd c c24
  obtain ⟨Mf, q1, q2, q3, -⟩ := key 0 0 0 (fun _ => .var 99)
  refine ⟨Mf, q1, q2, q3, fun p o g B => ?_⟩
  obtain ⟨Mg, w1, -, -, w4⟩ := key p o g B
  rw [q1] at w1
  cases w1
  exact w4
