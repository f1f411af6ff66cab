/-! COMPILED TREES: the code of the tree t stands in lo .. hi - 1.
    modes: 0 an expression or statement, 1 a list, 2 what follows the first part of an if; pairs: 5 one, then the other; 150, 151 with the jump between; 25 while, 26 repeat, 27 if, 28 its list and rest from the jump on -/
def cFop (own : Nat → Bool) (k : Nat) : Int32 :=
  if k = 2 then 4 else if k = 5 then 9 else if k = 6 then 8 else if k = 150 ∨ k = 151 then 10 else if k = 21 then 7 else if k = 22 then 11 else if k = 23 then 12 else if k = 24 then 26
  else if k = 25 then 20 else if k = 26 then 21 else if 200 ≤ k then (if own (k - 200) = true then 6 else 5) else nI k
def cFmd (k : Nat) : Nat := if k = 25 ∨ k = 26 ∨ k = 150 ∨ k = 151 then k else if k = 21 ∨ (130 ≤ k ∧ k < 150) then 5 else 0
def Cm (op od : Nat → Int32) (own : Nat → Bool) : T → Nat → Nat → Nat → Prop
  | .num k => fun md lo hi => md = 0 ∧ hi = lo + 1 ∧ op lo = 1 ∧ od lo = nI k
  | .var x => fun md lo hi => if (x : Nat) = 99 then (md = 1 ∨ md = 2) ∧ hi = lo else md = 0 ∧ (x : Nat) < 8 ∧ hi = lo + 1 ∧ op lo = (if own x = true then 3 else 2) ∧ od lo = nI x
  | .add a b => fun md lo hi =>
      if md = 1 ∨ md = 2 then ∃ m, Cm op od own a 0 lo m ∧ Cm op od own b 1 m hi
      else if md = 5 then ∃ m, Cm op od own a 0 lo m ∧ Cm op od own b 0 m hi
      else if md = 150 ∨ md = 151 then ∃ m, Cm op od own a 0 lo m ∧ op m = (if md = 150 then 22 else 23) ∧ od m = nI (hi + 1) ∧ m < hi ∧ Cm op od own b 0 (m + 1) hi
      else if md = 25 then ∃ m, Cm op od own a 0 lo m ∧ op m = 21 ∧ od m = nI (hi + 1) ∧ op (m + 1) = 24 ∧ m + 1 < hi + 1 ∧ Cm op od own b 1 (m + 2) hi
      else if md = 26 then ∃ m, op lo = 24 ∧ Cm op od own a 1 (lo + 1) m ∧ Cm op od own b 0 m hi
      else if md = 27 then ∃ m, Cm op od own a 0 lo m ∧ op m = 21 ∧ m < hi ∧ Cm op od own b 28 m hi
      else if md = 28 then ∃ m, Cm op od own a 1 (lo + 1) m ∧ ((b = .var 98 ∧ hi = m ∧ od lo = nI hi) ∨ (op m = 20 ∧ od m = nI hi ∧ od lo = nI (m + 1) ∧ m < hi ∧ Cm op od own b 2 (m + 1) hi))
      else False
  | .mulL k s => fun md lo hi =>
      if k = 27 then (md = 0 ∨ md = 2) ∧ Cm op od own s 27 lo hi
      else md = 0 ∧ lo < hi ∧ Cm op od own s (cFmd k) lo (hi - 1) ∧ op (hi - 1) = cFop own k ∧ (k = 25 ∨ k = 26 → od (hi - 1) = nI lo) ∧ (200 ≤ k → od (hi - 1) = nI (k - 200))
  | .mulR s q => fun md lo hi => md = 0 ∧ lo < hi ∧ Cm op od own s 1 lo (hi - 1) ∧ op (hi - 1) = 25 ∧ od (hi - 1) = nI (q % 4)
theorem Cm_le {op od : Nat → Int32} {own : Nat → Bool} : ∀ {t : T} {md lo hi : Nat}, Cm op od own t md lo hi → lo ≤ hi
  | .num k, md, lo, hi, h => by have := h.2.1; omega
  | .var x, md, lo, hi, h => by
    simp only [Cm] at h
    split at h <;> omega
  | .add a b, md, lo, hi, h => by
    simp only [Cm] at h
    repeat' split at h
    · obtain ⟨m, h1, h2⟩ := h
      have := Cm_le h1; have := Cm_le h2; omega
    · obtain ⟨m, h1, h2⟩ := h
      have := Cm_le h1; have := Cm_le h2; omega
    · obtain ⟨m, h1, -, -, h4, -⟩ := h
      have := Cm_le h1; omega
    · obtain ⟨m, h1, -, -, h4, -⟩ := h
      have := Cm_le h1; omega
    · obtain ⟨m, h1, -, -, -, h4, -⟩ := h
      have := Cm_le h1; omega
    · obtain ⟨m, -, h1, h2⟩ := h
      have := Cm_le h1; have := Cm_le h2; omega
    · obtain ⟨m, h1, -, h2, -⟩ := h
      have := Cm_le h1; omega
    · obtain ⟨m, h1, h2⟩ := h
      have := Cm_le h1
      rcases h2 with h2 | h2 <;> omega
    · exact h.elim
  | .mulL k s, md, lo, hi, h => by
    simp only [Cm] at h
    split at h
    · exact Cm_le h.2
    · omega
  | .mulR s q, md, lo, hi, h => by have := h.2.1; omega
theorem Cm_same {op od op' od' : Nat → Int32} {own : Nat → Bool} : ∀ {t : T} {md lo hi : Nat}, (∀ i, lo ≤ i → i < hi → op' i = op i ∧ od' i = od i) → (md = 28 → lo < hi → od' lo = od lo) → Cm op od own t md lo hi → Cm op' od' own t md lo hi
  | .num k, md, lo, hi, hs, _, h => by
    obtain ⟨h1, h2, h3, h4⟩ := h
    obtain ⟨e1, e2⟩ := hs lo (Nat.le_refl _) (by omega)
    exact ⟨h1, h2, e1.trans h3, e2.trans h4⟩
  | .var x, md, lo, hi, hs, _, h => by
    simp only [Cm] at h ⊢
    split
    · rename_i hx; rw [if_pos hx] at h; exact h
    · rename_i hx
      rw [if_neg hx] at h
      obtain ⟨h1, h2, h3, h4, h5⟩ := h
      obtain ⟨e1, e2⟩ := hs lo (Nat.le_refl _) (by omega)
      exact ⟨h1, h2, h3, e1.trans h4, e2.trans h5⟩
  | .add a b, md, lo, hi, hs, h28, h => by
    have sub : ∀ {t : T} {md lo' hi' : Nat}, lo ≤ lo' → hi' ≤ hi → md ≠ 28 → (∀ {t : T} {md lo hi : Nat}, (∀ i, lo ≤ i → i < hi → op' i = op i ∧ od' i = od i) → (md = 28 → lo < hi → od' lo = od lo) → Cm op od own t md lo hi → Cm op' od' own t md lo hi) → Cm op od own t md lo' hi' → Cm op' od' own t md lo' hi' := fun a1 a2 a3 f g => f (fun i b1 b2 => hs i (by omega) (by omega)) (fun q => absurd q a3) g
    simp only [Cm] at h ⊢
    by_cases c1 : md = 1 ∨ md = 2
    · rw [if_pos c1] at h ⊢
      obtain ⟨m, h1, h2⟩ := h
      have l1 := Cm_le h1; have l2 := Cm_le h2
      exact ⟨m, Cm_same (fun i b1 b2 => hs i (by omega) (by omega)) (by omega) h1, Cm_same (fun i b1 b2 => hs i (by omega) (by omega)) (by omega) h2⟩
    · rw [if_neg c1] at h ⊢
      by_cases c5 : md = 5
      · rw [if_pos c5] at h ⊢
        obtain ⟨m, h1, h2⟩ := h
        have l1 := Cm_le h1; have l2 := Cm_le h2
        exact ⟨m, Cm_same (fun i b1 b2 => hs i (by omega) (by omega)) (by omega) h1, Cm_same (fun i b1 b2 => hs i (by omega) (by omega)) (by omega) h2⟩
      · rw [if_neg c5] at h ⊢
        by_cases c15 : md = 150 ∨ md = 151
        · rw [if_pos c15] at h ⊢
          obtain ⟨m, h1, h2, h3, h4, h5⟩ := h
          have l1 := Cm_le h1; have l2 := Cm_le h5
          obtain ⟨e1, e2⟩ := hs m (by omega) (by omega)
          exact ⟨m, Cm_same (fun i b1 b2 => hs i (by omega) (by omega)) (by omega) h1, e1.trans h2, e2.trans h3, h4, Cm_same (fun i b1 b2 => hs i (by omega) (by omega)) (by omega) h5⟩
        · rw [if_neg c15] at h ⊢
          by_cases c25 : md = 25
          · rw [if_pos c25] at h ⊢
            obtain ⟨m, h1, h2, h3, h4, h5, h6⟩ := h
            have l1 := Cm_le h1; have l2 := Cm_le h6
            obtain ⟨e1, e2⟩ := hs m (by omega) (by omega)
            obtain ⟨e3, e4⟩ := hs (m + 1) (by omega) (by omega)
            exact ⟨m, Cm_same (fun i b1 b2 => hs i (by omega) (by omega)) (by omega) h1, e1.trans h2, e2.trans h3, e3.trans h4, h5, Cm_same (fun i b1 b2 => hs i (by omega) (by omega)) (by omega) h6⟩
          · rw [if_neg c25] at h ⊢
            by_cases c26 : md = 26
            · rw [if_pos c26] at h ⊢
              obtain ⟨m, h1, h2, h3⟩ := h
              have l1 := Cm_le h2; have l2 := Cm_le h3
              obtain ⟨e1, e2⟩ := hs lo (by omega) (by omega)
              exact ⟨m, e1.trans h1, Cm_same (fun i b1 b2 => hs i (by omega) (by omega)) (by omega) h2, Cm_same (fun i b1 b2 => hs i (by omega) (by omega)) (by omega) h3⟩
            · rw [if_neg c26] at h ⊢
              by_cases c27 : md = 27
              · rw [if_pos c27] at h ⊢
                obtain ⟨m, h1, h2, h3, h4⟩ := h
                have l1 := Cm_le h1
                obtain ⟨e1, e2⟩ := hs m (by omega) (by omega)
                exact ⟨m, Cm_same (fun i b1 b2 => hs i (by omega) (by omega)) (by omega) h1, e1.trans h2, h3, Cm_same (fun i b1 b2 => hs i (by omega) (by omega)) (fun _ _ => e2) h4⟩
              · rw [if_neg c27] at h ⊢
                by_cases c28 : md = 28
                · rw [if_pos c28] at h ⊢
                  obtain ⟨m, h1, h2⟩ := h
                  have l1 := Cm_le h1
                  rcases h2 with ⟨h2, h3, h4⟩ | ⟨h2, h3, h4, h5, h6⟩
                  · exact ⟨m, Cm_same (fun i b1 b2 => hs i (by omega) (by omega)) (by omega) h1, Or.inl ⟨h2, h3, (hs lo (Nat.le_refl _) (by omega)).2.trans h4⟩⟩
                  · obtain ⟨e1, e2⟩ := hs m (by omega) (by omega)
                    exact ⟨m, Cm_same (fun i b1 b2 => hs i (by omega) (by omega)) (by omega) h1, Or.inr ⟨e1.trans h2, e2.trans h3, (hs lo (Nat.le_refl _) (by omega)).2.trans h4, h5, Cm_same (fun i b1 b2 => hs i (by omega) (by omega)) (by omega) h6⟩⟩
                · rw [if_neg c28] at h
                  exact h.elim
  | .mulL k s, md, lo, hi, hs, h28, h => by
    simp only [Cm] at h ⊢
    by_cases c : k = 27
    · rw [if_pos c] at h ⊢
      exact ⟨h.1, Cm_same hs (by omega) h.2⟩
    · rw [if_neg c] at h ⊢
      obtain ⟨h1, h2, h3, h4, h5, h6⟩ := h
      obtain ⟨e1, e2⟩ := hs (hi - 1) (by omega) (by omega)
      have c28 : cFmd k ≠ 28 := by
        unfold cFmd
        split
        · omega
        · split <;> omega
      exact ⟨h1, h2, Cm_same (fun i b1 b2 => hs i (by omega) (by omega)) (fun q => absurd q c28) h3, e1.trans h4, fun q => e2.trans (h5 q), fun q => e2.trans (h6 q)⟩
  | .mulR s q, md, lo, hi, hs, _, h => by
    obtain ⟨h1, h2, h3, h4, h5⟩ := h
    obtain ⟨e1, e2⟩ := hs (hi - 1) (by omega) (by omega)
    exact ⟨h1, h2, Cm_same (fun i b1 b2 => hs i (by omega) (by omega)) (by omega) h3, e1.trans h4, e2.trans h5⟩
/-- a statement comes to a list -/
theorem Cm_snoc {op od : Nat → Int32} {own : Nat → Bool} {s : T} : ∀ {l : T} {lo m hi : Nat}, Cm op od own l 1 lo m → Cm op od own s 0 m hi → Cm op od own (snoc l s) 1 lo hi
  | .add a b, lo, m, hi, h1, h2 => by
    simp only [Cm, if_pos (Or.inl rfl)] at h1
    obtain ⟨k, h3, h4⟩ := h1
    simp only [snoc, Cm, if_pos (Or.inl rfl)]
    exact ⟨k, h3, Cm_snoc h4 h2⟩
  | .var x, lo, m, hi, h1, h2 => by
    simp only [Cm] at h1
    split at h1
    · obtain ⟨-, rfl⟩ := h1
      simp only [snoc, Cm, if_pos (Or.inl rfl)]
      exact ⟨hi, h2, by simp⟩
    · omega
  | .num k, lo, m, hi, h1, h2 => by simp [Cm] at h1
  | .mulL k a, lo, m, hi, h1, h2 => by
    simp only [Cm] at h1
    split at h1 <;> omega
  | .mulR a k, lo, m, hi, h1, h2 => by simp [Cm] at h1
theorem Cm_12 {op od : Nat → Int32} {own : Nat → Bool} {l : T} {lo hi : Nat} (hl : sh l 2 = true) (h : Cm op od own l 1 lo hi) : Cm op od own l 2 lo hi := by
  cases l with
  | add a b =>
    simp [Cm] at h ⊢
    exact h
  | var x =>
    simp [sh] at hl
    simp only [Cm, hl] at h ⊢
    simpa using h
  | num k => simp [sh] at hl
  | mulL k a => simp [sh] at hl
  | mulR a k => simp [sh] at hl
