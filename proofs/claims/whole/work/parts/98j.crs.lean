/-! THE CLASS'S MACHINE DOES evT -/
def cRs (M0 M : zMem) (L R : Nat → Int32) (s : zE) (d e : Nat) (vs : List Int32) (n : Nat) (r : zR) : Prop :=
  s.2.1 ≤ r.2.2.2.1 ∧ ∃ M' k, cS M M' k ∧ k ≤ n + 302 * (r.2.2.2.1 - s.2.1) ∧ (r.1 = 0 → cM M0 M' L R r.2.2 d e (r.2.1.reverse ++ vs)) ∧
    (r.1 = 1 → (d = 0 → cX M0 M' r.2.2 0) ∧ ∀ d' ra, d = d' + 1 → R d = nI ra → cM M0 M' L R ((fun a i => if a = 2 then L (8 * d' + i) else r.2.2.1 a i), r.2.2.2) d' ra (r.2.1 ++ vs)) ∧ (2 ≤ r.1 → cX M0 M' r.2.2 (r.1 - 2))
section CR
variable {M0 M M1 : zMem} {L R : Nat → Int32} {s s' s1 : zE} {d e e1 n n1 n2 k : Nat} {vs vs1 l : List Int32} {r : zR} {f : List Int32 → zE → zR}
theorem cRs_ok (hS : cS M M1 k) (hk : k ≤ n + 302 * (s'.2.1 - s.2.1)) (ht : s.2.1 ≤ s'.2.1) (hM : cM M0 M1 L R s' d e (l.reverse ++ vs)) : cRs M0 M L R s d e vs n (0, l, s') :=
  ⟨ht, M1, k, hS, hk, fun _ => hM, fun w => by simp at w, fun w => by simp at w⟩
theorem cRs_x {j : Nat} (hS : cS M M1 k) (hk : k ≤ n + 302 * (s'.2.1 - s.2.1)) (ht : s.2.1 ≤ s'.2.1) (hX : cX M0 M1 s' j) : cRs M0 M L R s d e vs n (j + 2, l, s') :=
  ⟨ht, M1, k, hS, hk, fun w => by simp at w, fun w => by simp at w, fun _ => hX⟩
theorem cRs_pre (hS : cS M M1 k) (ht : s.2.1 ≤ s1.2.1) (h : cRs M0 M1 L R s1 d e vs n r) (hn : k + n ≤ n1 + 302 * (s1.2.1 - s.2.1)) : cRs M0 M L R s d e vs n1 r := by
  obtain ⟨h1, M', k', h2, h3, h4⟩ := h
  exact ⟨Nat.le_trans ht h1, M', k + k', cS_trans hS h2, by omega, h4⟩
theorem cRs_n (h : cRs M0 M L R s d e vs n r) (hn : n ≤ n1) : cRs M0 M L R s d e vs n1 r := by
  obtain ⟨h1, M', k', h2, h3, h4⟩ := h
  exact ⟨h1, M', k', h2, by omega, h4⟩
theorem cRs_rb (h : cRs M0 M L R s d e1 vs1 n1 r) (hv : vs1 = vs ∨ ¬ r.1 = 1) (hn : n1 + n2 ≤ n) (g : r.1 = 0 → s.2.1 ≤ r.2.2.2.1 → ∀ M1, cM M0 M1 L R r.2.2 d e1 (r.2.1.reverse ++ vs1) → cRs M0 M1 L R r.2.2 d e vs n2 (f r.2.1 r.2.2)) : cRs M0 M L R s d e vs n (rb r f) := by
  obtain ⟨h1, M', k', h2, h3, h4, h5, h6⟩ := h
  by_cases c : r.1 = 0
  · rw [rb_0 c]
    exact cRs_pre h2 h1 (g c h1 M' (h4 c)) (by omega)
  · rw [rb_n c]
    refine ⟨h1, M', k', h2, by omega, fun w => absurd w c, fun w => ?_, h6⟩
    rcases hv with hv | hv
    · subst hv; exact h5 w
    · exact absurd w hv
/-- one more operation behind it -/
theorem cRs_fin (h : cRs M0 M L R s d e1 vs n r) (g : r.1 = 0 → ∀ M1, cM M0 M1 L R r.2.2 d e1 (r.2.1.reverse ++ vs) → ∃ M2, cS M1 M2 1 ∧ cM M0 M2 L R r.2.2 d e (r.2.1.reverse ++ vs)) (hn : n + 1 ≤ n1) : cRs M0 M L R s d e vs n1 r := by
  obtain ⟨h1, M', k', h2, h3, h4, h5, h6⟩ := h
  by_cases c : r.1 = 0
  · obtain ⟨M2, g1, g2⟩ := g c M' (h4 c)
    exact ⟨h1, M2, k' + 1, cS_trans h2 g1, by omega, fun _ => g2, fun w => by omega, fun w => by omega⟩
  · exact ⟨h1, M', k', h2, by omega, fun w => absurd w c, h5, h6⟩
end CR
def cmm (md : Nat) : Nat := if md = 280 ∨ md = 281 then 28 else md
def cEn (md hi : Nat) : Nat := if md = 25 ∨ md = 26 ∨ md = 150 ∨ md = 151 then hi + 1 else hi
def cBg (md lo : Nat) : Nat := if md = 280 ∨ md = 281 then lo + 1 else lo
def tmd (m : Nat) : Nat := if m = 4 then 4 else if m = 5 then 5 else 1
/-- where it starts, and what stands at its end -/
def cPl (c : zC) (md lo hi p : Nat) : Prop := (md = 280 → c.2.2 lo = nI p ∧ p ≤ hi) ∧ (md = 281 → p = lo + 1) ∧ (¬ md = 280 → ¬ md = 281 → p = lo) ∧ (md = 25 → c.2.1 hi = 20 ∧ c.2.2 hi = nI lo) ∧ (md = 26 → c.2.1 hi = 21 ∧ c.2.2 hi = nI lo) ∧ (md = 150 ∨ md = 151 → c.2.1 hi = 10)
def cQ (M0 : zMem) (c : zC) (ev : zRec) (n : Nat) (t : T) (m md : Nat) : Prop :=
  ∀ d mk M L R s lo hi p vs, 301 ≤ n + s.2.1 → d ≤ 20 → Cm c.2.1 c.2.2 (kOwn (nI mk)) t (cmm md) lo hi → hi < c.1 → cM M0 M L R s d p vs → vs.length + td t (tmd m) ≤ 76 * (d + 1) → cPl c md lo hi p → cRs M0 M L R s d (cEn md hi) vs (cEn md hi - cBg md lo) (ev d mk t md s)
theorem cPl_0 {c : zC} {md lo hi : Nat} (h : md = 0 ∨ md = 1 ∨ md = 2 ∨ md = 5 ∨ md = 27) : cPl c md lo hi lo := ⟨fun w => by omega, fun w => by omega, fun _ _ => rfl, fun w => by omega, fun w => by omega, fun w => by omega⟩
/-- what the procs of a program are in the class -/
def cHB (M0 : zMem) (c : zC) (J : zJ) (B : Nat → T) : Prop := (∀ i, J 2 i < 8) ∧ ∀ p, p < 4 → J 6 p = 1 → (sh (B p) 2 = true ∧ gT J (B p)) ∧ td (B p) 1 ≤ 76 ∧ (∃ st, M0 9 p = nI st ∧ Bo c (J 3 p) (B p) st c.1) ∧ M0 10 p = nI (J 1 p) ∧ J 1 p ≤ 8 ∧ (∀ i, i < J 1 p → M0 11 (8 * p + i) = nI (J 2 (8 * p + i))) ∧ ∀ i j, i < j → j < J 1 p → J 2 (8 * p + i) ≠ J 2 (8 * p + j)
theorem td_ad {a b : T} {m : Nat} (h4 : ¬ m = 4) (h5 : ¬ m = 5) : td a 0 ≤ td (.add a b) m ∧ td b 0 ≤ td (.add a b) m ∧ td a 1 ≤ td (.add a b) m ∧ td b 1 ≤ td (.add a b) m := by
  simp only [td]
  rw [if_neg h4, if_neg h5]
  omega
theorem td_01 (t : T) : td t 0 = td t 1 := by cases t <;> rfl
theorem Cm_28 {op od : Nat → Int32} {own : Nat → Bool} {t : T} {lo hi : Nat} (h : Cm op od own t 28 lo hi) : ∃ p, od lo = nI p ∧ p ≤ hi := by
  cases t with
  | num k => simp [Cm] at h
  | var x => simp [Cm] at h
  | mulL k e => simp [Cm] at h
  | mulR e q => simp [Cm] at h
  | add a b =>
    simp [Cm] at h
    obtain ⟨m, h1, h2⟩ := h
    rcases h2 with ⟨-, h2, h3⟩ | ⟨h2, h3, h4, h5, h6⟩
    · exact ⟨hi, h3, Nat.le_refl _⟩
    · exact ⟨m + 1, h4, by omega⟩
