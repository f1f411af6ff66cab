/-! A WHOLE TEXT: Z reads it, and the reference reads it as Z does -/
def zRd : List Nat → Nat → zZ → Nat ⊕ zZ
  | [], _, z => .inr z
  | t :: r, pl, z => match zStep t pl z with
    | some z' => zRd r (pl + 1) z'
    | none => .inl pl
def zAns (ts : List Nat) : Nat ⊕ zZ → Int32
  | .inl q => nI q
  | .inr z => if z.1 = 24 then -4 else nI ts.length
def z0 (p o g : Nat) (B : Nat → T) : zZ := (0, [], [], sJ0 p o g, B)
theorem z0_ok {p o g : Nat} {B : Nat → T} : zGd (z0 p o g B) ∧ zBd 0 (z0 p o g B) := by
  refine ⟨by simp [z0, zGd], by simp, by simp [flat], by simp [sJ0, dF], by simp [sJ0, hd], fun q => by simp [sJ0], fun q => ?_⟩
  rcases q with q | q <;> omega
theorem zStep_24 {t pl : Nat} {z : zZ} (h : z.1 = 24) : zStep t pl z = none := by
  obtain ⟨nx, cs, fs, J, B⟩ := z
  have h : nx = 24 := h
  subst h
  rfl
theorem zStEnd_999 {fs : List zF} {J : zJ} {B : Nat → T} : zStEnd 999 fs J B = none := by
  unfold zStEnd
  rw [if_neg (by omega)]
  cases fs with
  | nil => rfl
  | cons f r =>
    obtain ⟨k, n, tr⟩ := f
    simp
theorem zAfter_999 {e : T} {fs : List zF} {J : zJ} {B : Nat → T} : zAfter 999 e fs J B = none := by
  cases fs with
  | nil => rfl
  | cons f r =>
    obtain ⟨k, n, tr⟩ := f
    simp [zAfter, zStEnd_999]
theorem zStep_999 {pl : Nat} {z : zZ} : zStep 999 pl z = none := by
  obtain ⟨nx, cs, fs, J, B⟩ := z
  have hf : zFactor 999 pl fs J B = none := by simp [zFactor, isProcName]
  have he : zExpr 999 pl fs J B = none := by simp [zExpr, hf]
  have hh : ∀ x nx, zHead x nx 999 pl J B = none := by intro x nx; simp [zHead, sNames, isProcName, isName]
  simp [zStep, hf, he, hh, zStEnd_999, zAfter_999, begStmt, isBin, isRel, isSimp, isTerm]
theorem zRd_S {ts : List Nat} (hts : ts.length ≤ 150) : ∀ (r : List Nat) (pl : Nat) (z : zZ), (∀ i, tok ts (pl + i) = r.getD i 999) → pl + r.length = ts.length → (∀ t ∈ r, t < 174) → zGd z → zBd pl z → (z.1 ≠ 24 → z.2.2.2.1 7 0 = 0) →
    match zRd r pl z with
    | .inl q => ∃ z', sR ts pl (sOf z) q (sOf z') ∧ q < ts.length ∧ zGd z' ∧ zBd q z' ∧ (z'.1 = 24 ∨ sX ts q (sOf z'))
    | .inr z' => sR ts pl (sOf z) ts.length (sOf z') ∧ zGd z' ∧ zBd ts.length z' ∧ (z'.1 = 24 ∨ sX ts ts.length (sOf z'))
  | [], pl, z, h1, h2, h3, h4, h5, h7 => by
    have e : pl = ts.length := by simpa using h2
    subst e
    refine ⟨sR_refl, h4, h5, ?_⟩
    by_cases c : z.1 = 24
    · exact Or.inl c
    · have t9 : tok ts ts.length = 999 := by have := h1 0; simpa using this
      have := zStep_S (ts := ts) hts h4 h5 c (h7 c) (Or.inl t9)
      rw [t9, zStep_999] at this
      exact Or.inr this
  | t :: r, pl, z, h1, h2, h3, h4, h5, h7 => by
    simp only [List.length_cons] at h2
    have t0 : tok ts pl = t := by have := h1 0; simpa using this
    have lt : t < 174 := h3 t (by simp)
    show match (match zStep t pl z with | some z' => zRd r (pl + 1) z' | none => .inl pl) with | .inl q => _ | .inr z' => _
    cases e : zStep t pl z with
    | none =>
      refine ⟨z, sR_refl, by omega, h4, h5, ?_⟩
      by_cases c : z.1 = 24
      · exact Or.inl c
      · have := zStep_S (ts := ts) (by omega) h4 h5 c (h7 c) (Or.inr (by omega))
        rw [t0, e] at this
        exact Or.inr this
    | some z1 =>
      have c : z.1 ≠ 24 := fun q => by rw [zStep_24 q] at e; cases e
      have hs := zStep_S (ts := ts) (by omega) h4 h5 c (h7 c) (Or.inr (by omega))
      rw [t0, e] at hs
      obtain ⟨k1, k2⟩ := zStep_ok (t := t) (by omega) h4 h5 z1 e
      have ih := zRd_S hts r (pl + 1) z1 (fun i => by have := h1 (i + 1); rw [show pl + 1 + i = pl + (i + 1) by omega, this]; simp) (by omega) (fun t ht => h3 t (by simp [ht])) k1 k2 (zStep7 (h7 c) z1 e)
      revert ih
      show (match zRd r (pl + 1) z1 with | .inl q => _ | .inr z' => _) → match zRd r (pl + 1) z1 with | .inl q => _ | .inr z' => _
      cases zRd r (pl + 1) z1 with
      | inl q =>
        rintro ⟨z', a1, a2⟩
        exact ⟨z', sR_trans hs a1, a2⟩
      | inr z' =>
        rintro ⟨a1, a2⟩
        exact ⟨sR_trans hs a1, a2⟩
theorem tok_getD (ts : List Nat) (i : Nat) : tok ts i = ts.getD i 999 := rfl
theorem rTx_tok {M : zMem} {ts : List Nat} (h : rTx M ts) : ∀ t ∈ ts, t < 174 := by
  intro t ht
  obtain ⟨i, hi⟩ := List.getElem?_of_mem ht
  have hl : i < ts.length := (List.getElem?_eq_some_iff.mp hi).1
  obtain ⟨t', h1, h2, -⟩ := h.2.2 i hl
  rw [hi] at h1
  cases h1
  exact h2
/-- the reference reads a text as Z does -/
theorem rRead {M : zMem} {ts : List Nat} (h : rTx M ts) {p o g : Nat} (hp : p < 4) (ho : o < 256) (hg : g ≤ 1) (h21 : M 34 21 = nI p) (h22 : M 34 22 = nI o) (h23 : M 34 23 = nI g) (B : Nat → T) :
    ∃ M' N0, (∀ N, N0 ≤ N → F_R_readText N M = some (zAns ts (zRd ts 0 (z0 p o g B)), M')) ∧ rTx M' ts ∧ rG M' ∧ ∀ z, zRd ts 0 (z0 p o g B) = .inr z → z.1 = 24 → ∃ base, RP M' ts ts.length (sOf z) base ∧ zGd z ∧ zBd ts.length z := by
  obtain ⟨M1, r1, r2⟩ := rReadInit h hp ho hg h21 h22 h23 B
  have hts : ts.length ≤ 150 := h.2.1
  have key := zRd_S hts ts 0 (z0 p o g B) (fun i => by rw [Nat.zero_add]; rfl) (by omega) (rTx_tok h) z0_ok.1 z0_ok.2 (fun _ => rfl)
  have e0 : sOf (z0 p o g B) = ([200], [], sJ0 p o g, B) := rfl
  rw [e0] at key
  -- an end at q, with Z in z'
  have ends : ∀ q z', sR ts 0 ([200], [], sJ0 p o g, B) q (sOf z') → q ≤ ts.length → zGd z' → (z'.1 = 24 ∨ sX ts q (sOf z')) → ∃ M' N0, (∀ N, N0 ≤ N → F_R_readText N M = some (if z'.1 = 24 ∧ q = ts.length then -4 else nI q, M')) ∧ rTx M' ts ∧ rG M' ∧ (z'.1 = 24 → ∃ base, RP M' ts q (sOf z') base) := by
    rintro q z' ⟨k, s1⟩ hq hz hc
    by_cases c : z'.1 = 24
    · obtain ⟨M2, b2, q1, q2⟩ := rReach r1 s1
      obtain ⟨nx, cs, fs, J, B'⟩ := z'
      have c : nx = 24 := c
      subst c
      simp [zGd] at hz
      obtain ⟨rfl, rfl⟩ := hz
      have q1' : RP M2 ts q ([], [], J, B') b2 := q1
      refine ⟨M2, k + 5, fun N hN => ?_, q1.1, q1.rG, fun _ => ⟨b2, q1⟩⟩
      obtain ⟨n, rfl⟩ : ∃ n, N = (n + 1) + k := ⟨N - k - 1, by omega⟩
      rw [r2 _ (by omega), q2, rReadDone q1']
      by_cases cq : q = ts.length
      · subst cq
        simp
      · rw [if_pos (by omega), if_neg (fun e => cq e.2)]
    · have hx : sX ts q (sOf z') := by
        rcases hc with hc | hc
        · exact absurd hc c
        · exact hc
      obtain ⟨x, l, P, J, B', ⟨k2, s2⟩, b1, b2, b3⟩ := hx
      obtain ⟨M2, bb, q1, q2⟩ := rReach r1 (sReach_trans s1 s2)
      obtain ⟨M3, f1, f2, f3⟩ := rReadFail q1 b1 b2 b3
      refine ⟨M3, k + k2 + 5, fun N hN => ?_, f1, f2, fun e => absurd e c⟩
      obtain ⟨n, rfl⟩ : ∃ n, N = (n + 2) + (k + k2) := ⟨N - (k + k2) - 2, by omega⟩
      rw [r2 _ (by omega), q2, f3, if_neg (fun e => c e.1)]
  revert key
  cases e : zRd ts 0 (z0 p o g B) with
  | inl q =>
    rintro ⟨z', a1, a2, a3, a4, a5⟩
    obtain ⟨M', N0, w1, w2, w3, w4⟩ := ends q z' a1 (by omega) a3 a5
    refine ⟨M', N0, fun N hN => ?_, w2, w3, fun z hz => nomatch hz⟩
    rw [w1 N hN, if_neg (by omega)]
    rfl
  | inr z' =>
    rintro ⟨a1, a3, a4, a5⟩
    obtain ⟨M', N0, w1, w2, w3, w4⟩ := ends ts.length z' a1 (Nat.le_refl _) a3 a5
    refine ⟨M', N0, fun N hN => ?_, w2, w3, fun z hz h24 => ?_⟩
    · rw [w1 N hN]
      simp [zAns]
    · cases hz
      obtain ⟨base, w⟩ := w4 h24
      exact ⟨base, w, a3, a4⟩
