/-! TREES IN THE REFERENCE'S NODES: the tree t stands in the nodes lo .. hi - 1, its root's number is n.
    modes: 0 an expression or statement; 1 a chain of them; 2 a node 30 with its chain; 3 what follows the first part of an if (also -1);
    pairs, whose parent is the node hi: 4 (list, rest), 5 (0, 0), 6 (0, list), 7 (list, 0), 8 (0, pair 4) -/
def rk (k : Nat) : Nat := if 200 ≤ k then 20 else k
def rmode (k : Nat) : Nat := if k = 25 then 6 else if k = 26 then 7 else if k = 27 then 8 else if k = 21 ∨ (130 ≤ k ∧ k < 200) then 5 else 0
def Rep (M : zMem) : T → Nat → Nat → Nat → Int32 → Prop
  | .num k => fun md lo hi n => md = 0 ∧ hi = lo + 1 ∧ n = nI lo ∧ M 39 lo = 0 ∧ M 40 lo = nI k
  | .var x => fun md lo hi n =>
      if (x : Nat) = 99 then (if md = 2 ∨ md = 3 then hi = lo + 1 ∧ n = nI lo ∧ M 39 lo = 30 ∧ M 41 lo = -1 else md = 1 ∧ hi = lo ∧ n = -1)
      else if (x : Nat) = 98 then md = 3 ∧ hi = lo ∧ n = -1
      else md = 0 ∧ hi = lo + 1 ∧ n = nI lo ∧ M 39 lo = 1 ∧ M 40 lo = nI x
  | .add a b => fun md lo hi n =>
      if md = 1 then ∃ m k, Rep M a 0 lo m n ∧ n = nI k ∧ lo ≤ k ∧ k < m ∧ Rep M b 1 m hi (M 44 k)
      else if md = 2 ∨ md = 3 then n = nI lo ∧ lo < hi ∧ M 39 lo = 30 ∧ ∃ m k, Rep M a 0 (lo + 1) m (M 41 lo) ∧ M 41 lo = nI k ∧ lo + 1 ≤ k ∧ k < m ∧ Rep M b 1 m hi (M 44 k)
      else if md = 4 then ∃ m, Rep M a 2 lo m (M 42 hi) ∧ Rep M b 3 m hi (M 43 hi)
      else if md = 5 then ∃ m, Rep M a 0 lo m (M 41 hi) ∧ Rep M b 0 m hi (M 42 hi)
      else if md = 6 then ∃ m, Rep M a 0 lo m (M 41 hi) ∧ Rep M b 2 m hi (M 42 hi)
      else if md = 7 then ∃ m, Rep M a 2 lo m (M 41 hi) ∧ Rep M b 0 m hi (M 42 hi)
      else if md = 8 then ∃ m, Rep M a 0 lo m (M 41 hi) ∧ Rep M b 4 m hi n
      else False
  | .mulL k s => fun md lo hi n => (md = 0 ∨ (md = 3 ∧ k = 27)) ∧ lo < hi ∧ n = nI (hi - 1) ∧ M 39 (hi - 1) = nI (rk k) ∧ (200 ≤ k → M 40 (hi - 1) = nI (k - 200)) ∧ Rep M s (rmode k) lo (hi - 1) (M 41 (hi - 1))
  | .mulR s q => fun md lo hi n => md = 0 ∧ lo < hi ∧ n = nI lo ∧ M 39 lo = 3 ∧ M 40 lo = nI (q % 4) ∧ M 43 lo = nI (q / 4) ∧ Rep M s 1 (lo + 1) hi (M 41 lo)
theorem Rep_le {M : zMem} : ∀ {t : T} {md lo hi : Nat} {n : Int32}, Rep M t md lo hi n → lo ≤ hi
  | .num k, md, lo, hi, n, h => by have := h.2.1; omega
  | .var x, md, lo, hi, n, h => by
    simp only [Rep] at h
    split at h
    · split at h
      · omega
      · omega
    · split at h
      · omega
      · omega
  | .add a b, md, lo, hi, n, h => by
    simp only [Rep] at h
    repeat' split at h
    · obtain ⟨m, k, h1, -, -, -, h5⟩ := h
      have := Rep_le h1; have := Rep_le h5; omega
    · omega
    · obtain ⟨m, h1, h5⟩ := h
      have := Rep_le h1; have := Rep_le h5; omega
    · obtain ⟨m, h1, h5⟩ := h
      have := Rep_le h1; have := Rep_le h5; omega
    · obtain ⟨m, h1, h5⟩ := h
      have := Rep_le h1; have := Rep_le h5; omega
    · obtain ⟨m, h1, h5⟩ := h
      have := Rep_le h1; have := Rep_le h5; omega
    · obtain ⟨m, h1, h5⟩ := h
      have := Rep_le h1; have := Rep_le h5; omega
    · exact h.elim
  | .mulL k s, md, lo, hi, n, h => by have := h.2.1; omega
  | .mulR s q, md, lo, hi, n, h => by have := h.2.1; omega
/-- two memories alike in the nodes lo .. hi - 1 -/
def rSame (M M' : zMem) (lo hi : Nat) : Prop := ∀ i, lo ≤ i → i < hi → M' 39 i = M 39 i ∧ M' 40 i = M 40 i ∧ M' 41 i = M 41 i ∧ M' 42 i = M 42 i ∧ M' 43 i = M 43 i ∧ M' 44 i = M 44 i
theorem rSame.sub {M M' : zMem} {lo hi lo' hi' : Nat} (h : rSame M M' lo hi) (h1 : lo ≤ lo') (h2 : hi' ≤ hi) : rSame M M' lo' hi' := fun i a b => h i (by omega) (by omega)
theorem Rep_same {M M' : zMem} : ∀ {t : T} {md lo hi : Nat} {n : Int32}, rSame M M' lo hi → ((md = 4 ∨ md = 5 ∨ md = 6 ∨ md = 7 ∨ md = 8) → M' 41 hi = M 41 hi ∧ M' 42 hi = M 42 hi ∧ M' 43 hi = M 43 hi) → Rep M t md lo hi n → Rep M' t md lo hi n
  | .num k, md, lo, hi, n, hs, _, h => by
    obtain ⟨h0, h1, h2, h3, h4⟩ := h
    obtain ⟨s1, s2, -⟩ := hs lo (Nat.le_refl _) (by omega)
    exact ⟨h0, h1, h2, by rw [s1]; exact h3, by rw [s2]; exact h4⟩
  | .var x, md, lo, hi, n, hs, _, h => by
    simp only [Rep] at h ⊢
    split at h
    · rename_i hx
      rw [if_pos hx]
      split at h
      · rename_i hm
        rw [if_pos hm]
        obtain ⟨h1, h2, h3, h4⟩ := h
        obtain ⟨s1, -, s3, -⟩ := hs lo (Nat.le_refl _) (by omega)
        exact ⟨h1, h2, by rw [s1]; exact h3, by rw [s3]; exact h4⟩
      · rename_i hm
        rw [if_neg hm]
        exact h
    · rename_i hx
      rw [if_neg hx]
      split at h
      · rename_i hy
        rw [if_pos hy]
        exact h
      · rename_i hy
        rw [if_neg hy]
        obtain ⟨h0, h1, h2, h3, h4⟩ := h
        obtain ⟨s1, s2, -⟩ := hs lo (Nat.le_refl _) (by omega)
        exact ⟨h0, h1, h2, by rw [s1]; exact h3, by rw [s2]; exact h4⟩
  | .add a b, md, lo, hi, n, hs, hr, h => by
    simp only [Rep] at h ⊢
    by_cases c1 : md = 1
    · rw [if_pos c1] at h ⊢
      obtain ⟨m, k, h1, h2, h3, h4, h5⟩ := h
      have l1 := Rep_le h1
      have l2 := Rep_le h5
      refine ⟨m, k, Rep_same (hs.sub (Nat.le_refl _) l2) (by omega) h1, h2, h3, h4, ?_⟩
      rw [(hs k h3 (by omega)).2.2.2.2.2]
      exact Rep_same (hs.sub l1 (Nat.le_refl _)) (by omega) h5
    · rw [if_neg c1] at h ⊢
      by_cases c2 : md = 2 ∨ md = 3
      · rw [if_pos c2] at h ⊢
        obtain ⟨g1, g2, g3, m, k, h1, h2, h3, h4, h5⟩ := h
        have l1 := Rep_le h1
        have l2 := Rep_le h5
        obtain ⟨s1, -, s3, -⟩ := hs lo (Nat.le_refl _) g2
        refine ⟨g1, g2, by rw [s1]; exact g3, m, k, ?_, by rw [s3]; exact h2, h3, h4, ?_⟩
        · rw [s3]
          exact Rep_same (hs.sub (by omega) l2) (by omega) h1
        · rw [(hs k (by omega) (by omega)).2.2.2.2.2]
          exact Rep_same (hs.sub (by omega) (Nat.le_refl _)) (by omega) h5
      · rw [if_neg c2] at h ⊢
        by_cases c4 : md = 4
        · rw [if_pos c4] at h ⊢
          obtain ⟨m, h1, h5⟩ := h
          obtain ⟨r1, r2, r3⟩ := hr (by omega)
          have l1 := Rep_le h1
          have l2 := Rep_le h5
          exact ⟨m, by rw [r2]; exact Rep_same (hs.sub (Nat.le_refl _) l2) (by omega) h1, by rw [r3]; exact Rep_same (hs.sub l1 (Nat.le_refl _)) (by omega) h5⟩
        · rw [if_neg c4] at h ⊢
          by_cases c5 : md = 5
          · rw [if_pos c5] at h ⊢
            obtain ⟨m, h1, h5⟩ := h
            obtain ⟨r1, r2, r3⟩ := hr (by omega)
            have l1 := Rep_le h1
            have l2 := Rep_le h5
            exact ⟨m, by rw [r1]; exact Rep_same (hs.sub (Nat.le_refl _) l2) (by omega) h1, by rw [r2]; exact Rep_same (hs.sub l1 (Nat.le_refl _)) (by omega) h5⟩
          · rw [if_neg c5] at h ⊢
            by_cases c6 : md = 6
            · rw [if_pos c6] at h ⊢
              obtain ⟨m, h1, h5⟩ := h
              obtain ⟨r1, r2, r3⟩ := hr (by omega)
              have l1 := Rep_le h1
              have l2 := Rep_le h5
              exact ⟨m, by rw [r1]; exact Rep_same (hs.sub (Nat.le_refl _) l2) (by omega) h1, by rw [r2]; exact Rep_same (hs.sub l1 (Nat.le_refl _)) (by omega) h5⟩
            · rw [if_neg c6] at h ⊢
              by_cases c7 : md = 7
              · rw [if_pos c7] at h ⊢
                obtain ⟨m, h1, h5⟩ := h
                obtain ⟨r1, r2, r3⟩ := hr (by omega)
                have l1 := Rep_le h1
                have l2 := Rep_le h5
                exact ⟨m, by rw [r1]; exact Rep_same (hs.sub (Nat.le_refl _) l2) (by omega) h1, by rw [r2]; exact Rep_same (hs.sub l1 (Nat.le_refl _)) (by omega) h5⟩
              · rw [if_neg c7] at h ⊢
                by_cases c8 : md = 8
                · rw [if_pos c8] at h ⊢
                  obtain ⟨m, h1, h5⟩ := h
                  obtain ⟨r1, r2, r3⟩ := hr (by omega)
                  have l1 := Rep_le h1
                  have l2 := Rep_le h5
                  exact ⟨m, by rw [r1]; exact Rep_same (hs.sub (Nat.le_refl _) l2) (by omega) h1, Rep_same (hs.sub l1 (Nat.le_refl _)) (fun _ => hr (by omega)) h5⟩
                · rw [if_neg c8] at h
                  exact h.elim
  | .mulL k s, md, lo, hi, n, hs, _, h => by
    obtain ⟨h0, h1, h2, h3, h4, h5⟩ := h
    obtain ⟨s1, s2, s3, s4, s5, -⟩ := hs (hi - 1) (by omega) (by omega)
    refine ⟨h0, h1, h2, by rw [s1]; exact h3, fun q => by rw [s2]; exact h4 q, ?_⟩
    rw [s3]
    exact Rep_same (hs.sub (Nat.le_refl _) (by omega)) (fun _ => ⟨s3, s4, s5⟩) h5
  | .mulR s q, md, lo, hi, n, hs, _, h => by
    obtain ⟨h0, h1, h2, h3, h4, h5, h6⟩ := h
    obtain ⟨s1, s2, s3, s4, s5, -⟩ := hs lo (Nat.le_refl _) h1
    refine ⟨h0, h1, h2, by rw [s1]; exact h3, by rw [s2]; exact h4, by rw [s5]; exact h5, ?_⟩
    rw [s3]
    exact Rep_same (hs.sub (by omega) (Nat.le_refl _)) (by omega) h6
