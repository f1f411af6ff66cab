/-! THE REFERENCE'S PILE -/
def isE : T → Bool
  | .num _ => true
  | .var x => decide ((x : Nat) < 98)
  | .mulL _ _ => true
  | .mulR _ _ => true
  | .add _ _ => false
def isL : T → Bool
  | .var x => decide ((x : Nat) = 99)
  | .add _ _ => true
  | _ => false
/-- the last of a chain that begins at n is the node e -/
def rLast (M : zMem) : T → Int32 → Nat → Prop
  | .add _ b => fun n e => (b = .var 99 ∧ n = nI e) ∨ rLast M b (M 44 n.toNatClampNeg) e
  | _ => fun _ _ => False
def rEnd (M : zMem) (s : T) (lo : Nat) : Prop := s = .var 99 ∨ ∃ e, e < 400 ∧ rLast M s (M 41 lo) e ∧ M 42 lo = nI e
def rRoot (M : zMem) (lo hi : Nat) (n : Int32) : Prop := ∃ r, n = nI r ∧ lo ≤ r ∧ r < hi ∧ M 44 r = -1
/-- an entry of the pile -/
def rP (M : zMem) (t : T) (lo hi : Nat) (n : Int32) : Prop :=
  (isE t = true ∧ Rep M t 0 lo hi n ∧ rRoot M lo hi n ∧ ∀ s q, t = .mulR s q → rEnd M s lo) ∨ (isL t = true ∧ Rep M t 2 lo hi n ∧ rEnd M t lo) ∨ (t = .var 98 ∧ hi = lo ∧ n = -1)
def rPile (M : zMem) : List T → Nat → Nat → Prop
  | [], lo, hi => lo = hi
  | t :: P, lo, hi => ∃ m, rP M t m hi (M 45 P.length) ∧ rPile M P lo m
theorem rP_le {M : zMem} {t : T} {lo hi : Nat} {n : Int32} (h : rP M t lo hi n) : lo ≤ hi := by
  rcases h with h | h | h
  · exact Rep_le h.2.1
  · exact Rep_le h.2.1
  · omega
theorem rPile_le {M : zMem} : ∀ {P : List T} {lo hi : Nat}, rPile M P lo hi → lo ≤ hi
  | [], _, _, h => Nat.le_of_eq h
  | t :: P, lo, hi, h => by
    obtain ⟨m, h1, h2⟩ := h
    have := rP_le h1
    have := rPile_le h2
    omega
theorem isL_lo {M : zMem} {t : T} {lo hi : Nat} {n : Int32} (h : isL t = true) (hr : Rep M t 2 lo hi n) : lo < hi ∧ n = nI lo ∧ M 39 lo = 30 := by
  cases t with
  | var x =>
    have hx : x = 99 := by simpa [isL] using h
    subst hx
    simp [Rep] at hr
    exact ⟨by omega, hr.2.1, hr.2.2.1⟩
  | add a b =>
    simp [Rep] at hr
    exact ⟨hr.2.1, hr.1, hr.2.2.1⟩
  | _ => simp [isL] at h
theorem rLast_same {M M' : zMem} : ∀ {t : T} {n : Int32} {e lo hi : Nat}, hi ≤ 400 → rSame M M' lo hi → Rep M t 1 lo hi n → rLast M t n e → rLast M' t n e
  | .add a b, n, e, lo, hi, h4, hs, hr, h => by
    simp only [Rep, if_pos] at hr
    obtain ⟨m, k, h1, h2, h3, h5, h6⟩ := hr
    have l2 := Rep_le h6
    have l1 := Rep_le h1
    rcases h with h | h
    · exact Or.inl h
    · refine Or.inr ?_
      rw [h2, nI_clamp (by omega)] at h ⊢
      rw [(hs k h3 (by omega)).2.2.2.2.2]
      exact rLast_same h4 (hs.sub l1 (Nat.le_refl _)) h6 h
  | .num _, _, _, _, _, _, _, _, h => h.elim
  | .var _, _, _, _, _, _, _, _, h => h.elim
  | .mulL _ _, _, _, _, _, _, _, _, h => h.elim
  | .mulR _ _, _, _, _, _, _, _, _, h => h.elim
theorem rLast_in {M : zMem} : ∀ {t : T} {n : Int32} {e lo hi : Nat}, hi ≤ 400 → e < 400 → Rep M t 1 lo hi n → rLast M t n e → lo ≤ e ∧ e < hi
  | .add a b, n, e, lo, hi, h4, he, hr, h => by
    simp only [Rep, if_pos] at hr
    obtain ⟨m, k, h1, h2, h3, h5, h6⟩ := hr
    have l2 := Rep_le h6
    have l1 := Rep_le h1
    rcases h with ⟨rfl, h⟩ | h
    · have : k = e := nI_inj (by omega) (by omega) (h2.symm.trans h)
      omega
    · rw [h2, nI_clamp (by omega)] at h
      have := rLast_in h4 he h6 h
      omega
  | .num _, _, _, _, _, _, _, _, h => h.elim
  | .var _, _, _, _, _, _, _, _, h => h.elim
  | .mulL _ _, _, _, _, _, _, _, _, h => h.elim
  | .mulR _ _, _, _, _, _, _, _, _, h => h.elim
def rSameX (M M' : zMem) (lo hi x : Nat) : Prop := ∀ i, lo ≤ i → i < hi → M' 39 i = M 39 i ∧ M' 40 i = M 40 i ∧ M' 41 i = M 41 i ∧ M' 42 i = M 42 i ∧ M' 43 i = M 43 i ∧ (i ≠ x → M' 44 i = M 44 i)
theorem rSameX.off {M M' : zMem} {lo hi x lo' hi' : Nat} (h : rSameX M M' lo hi x) (h1 : lo ≤ lo') (h2 : hi' ≤ hi) (hx : x < lo' ∨ hi' ≤ x) : rSame M M' lo' hi' := fun i a b => by
  obtain ⟨q1, q2, q3, q4, q5, q6⟩ := h i (by omega) (by omega)
  exact ⟨q1, q2, q3, q4, q5, q6 (by omega)⟩
theorem rSameX.sub {M M' : zMem} {lo hi x lo' hi' : Nat} (h : rSameX M M' lo hi x) (h1 : lo ≤ lo') (h2 : hi' ≤ hi) : rSameX M M' lo' hi' x := fun i a b => h i (by omega) (by omega)
theorem Rep_next {M M' : zMem} {a : T} {lo m k : Nat} (h : Rep M a 0 lo m (nI k)) (hm : m ≤ 400) (hk : k < 400) (hs : rSameX M M' lo m k) : Rep M' a 0 lo m (nI k) := by
  cases a with
  | num x =>
    obtain ⟨h0, h1, h2, h3, h4⟩ := h
    obtain ⟨s1, s2, -⟩ := hs lo (Nat.le_refl _) (by omega)
    exact ⟨h0, h1, h2, by rw [s1]; exact h3, by rw [s2]; exact h4⟩
  | var x =>
    simp only [Rep] at h ⊢
    split at h
    · simp at h
    · rename_i hx
      rw [if_neg hx]
      split at h
      · simp at h
      · rename_i hy
        rw [if_neg hy]
        obtain ⟨h0, h1, h2, h3, h4⟩ := h
        obtain ⟨s1, s2, -⟩ := hs lo (Nat.le_refl _) (by omega)
        exact ⟨h0, h1, h2, by rw [s1]; exact h3, by rw [s2]; exact h4⟩
  | add x y => simp [Rep] at h
  | mulL j s =>
    obtain ⟨h0, h1, h2, h3, h4, h5⟩ := h
    have hkm : k = m - 1 := nI_inj (by omega) (by omega) h2
    obtain ⟨s1, s2, s3, s4, s5, -⟩ := hs (m - 1) (by omega) (by omega)
    refine ⟨h0, h1, h2, by rw [s1]; exact h3, fun q => by rw [s2]; exact h4 q, ?_⟩
    rw [s3]
    exact Rep_same (hs.off (Nat.le_refl _) (by omega) (by omega)) (fun _ => ⟨s3, s4, s5⟩) h5
  | mulR s q =>
    obtain ⟨h0, h1, h2, h3, h4, h5, h6⟩ := h
    have hkm : k = lo := nI_inj (by omega) (by omega) h2
    obtain ⟨s1, s2, s3, s4, s5, -⟩ := hs lo (Nat.le_refl _) h1
    refine ⟨h0, h1, h2, by rw [s1]; exact h3, by rw [s2]; exact h4, by rw [s5]; exact h5, ?_⟩
    rw [s3]
    exact Rep_same (hs.off (by omega) (Nat.le_refl _) (by omega)) (by omega) h6
theorem Rep_snoc {M M' : zMem} {s : T} {hi hi2 r : Nat} (h4 : hi2 ≤ 400) (hs : Rep M' s 0 hi hi2 (nI r)) (hr1 : hi ≤ r) (hr2 : r < hi2) (hr3 : M' 44 r = -1) : ∀ {t : T} {lo e : Nat} {n : Int32}, e < 400 → Rep M t 1 lo hi n → rLast M t n e → rSameX M M' lo hi e → M' 44 e = nI r → Rep M' (snoc t s) 1 lo hi2 n ∧ rLast M' (snoc t s) n r
  | .add a b, lo, e, n, he, hr, hl, hx, hn => by
    simp only [Rep, if_pos] at hr
    obtain ⟨m, k, h1, h2, h3, h5, h6⟩ := hr
    have l2 := Rep_le h6
    have l1 := Rep_le h1
    have hcl : (nI k).toNatClampNeg = k := nI_clamp (by omega)
    rcases hl with ⟨rfl, hl⟩ | hl
    · have hke : k = e := nI_inj (by omega) (by omega) (h2.symm.trans hl)
      subst hke
      simp [Rep] at h6
      obtain ⟨rfl, -⟩ := h6
      subst h2
      have hv : Rep M' (.add s (.var 99)) 1 hi hi2 (M' 44 k) := by
        simp only [Rep, if_pos]
        refine ⟨hi2, r, by rw [hn]; exact hs, hn, hr1, hr2, ?_⟩
        rw [hr3]
        simp
      refine ⟨?_, Or.inr (by rw [hcl]; exact Or.inl ⟨rfl, hn⟩)⟩
      show Rep M' (.add a (.add s (.var 99))) 1 lo hi2 (nI k)
      simp only [Rep, if_pos]
      simp only [Rep, if_pos] at hv
      exact ⟨hi, k, Rep_next h1 (by omega) he hx, rfl, h3, h5, hv⟩
    · rw [h2, hcl] at hl
      have hin := rLast_in (by omega) he h6 hl
      have hke : k ≠ e := by omega
      have hk44 : M' 44 k = M 44 k := (hx k h3 (by omega)).2.2.2.2.2 hke
      obtain ⟨g1, g2⟩ := Rep_snoc h4 hs hr1 hr2 hr3 he h6 hl (hx.sub l1 (Nat.le_refl _)) hn
      refine ⟨?_, Or.inr (by rw [h2, hcl, hk44]; exact g2)⟩
      show Rep M' (.add a (snoc b s)) 1 lo hi2 n
      simp only [Rep, if_pos]
      refine ⟨m, k, Rep_same (hx.off (Nat.le_refl _) l2 (by omega)) (by omega) h1, h2, h3, h5, ?_⟩
      rw [hk44]
      exact g1
  | .num _, _, _, _, _, _, h, _, _ => h.elim
  | .var _, _, _, _, _, _, h, _, _ => h.elim
  | .mulL _ _, _, _, _, _, _, h, _, _ => h.elim
  | .mulR _ _, _, _, _, _, _, h, _, _ => h.elim
