/-! THE REFERENCE'S FINISHED PIECES -/
theorem rP_E {M : zMem} {t : T} {lo hi : Nat} {n : Int32} (hE : isE t = true) (h : rP M t lo hi n) : Rep M t 0 lo hi n ∧ rRoot M lo hi n ∧ ∀ s q, t = .mulR s q → rEnd M s lo := by
  rcases h with h | h | h
  · exact h.2
  · exfalso
    cases t <;> simp_all [isE, isL]
  · exfalso
    obtain ⟨rfl, -⟩ := h
    simp [isE] at hE
theorem rP_L {M : zMem} {t : T} {lo hi : Nat} {n : Int32} (hL : isL t = true) (h : rP M t lo hi n) : Rep M t 2 lo hi n ∧ rEnd M t lo := by
  rcases h with h | h | h
  · exfalso
    cases t <;> simp_all [isE, isL]
  · exact h.2
  · exfalso
    obtain ⟨rfl, -⟩ := h
    simp [isL] at hL
/-- the pile P above base, nd nodes -/
def rSt (M : zMem) (P : List T) (base nd : Nat) : Prop := M 34 16 = nI P.length ∧ P.length ≤ 299 ∧ M 34 14 = nI nd ∧ nd ≤ 400 ∧ rPile M P base nd
theorem rSt.le {M : zMem} {P : List T} {base nd : Nat} (h : rSt M P base nd) : base ≤ nd := rPile_le h.2.2.2.2
/-- pop, make a node above, push: one child -/
theorem rFin1 {M : zMem} {e : T} {P : List T} {base nd j : Nat} {x : Int32} (h : rSt M (e :: P) base nd) (hn : nd < 400) (hE : isE e = true) (hm : rmode j = 0) (hx : 200 ≤ j → x = nI (j - 200)) :
    ∃ M1 M2 M3, F_R_pop M = some (M 45 P.length, M1) ∧ F_R_node M1 (nI (rk j)) x (M 45 P.length) (-1) = some (nI nd, M2) ∧ F_R_push M2 (nI nd) = some M3 ∧ rSt M3 (.mulL j e :: P) base (nd + 1) ∧ rKeep M M3 base ∧ rPut M2 M3 P.length (nI nd) ∧ rNew M1 M2 nd (nI (rk j)) x (M 45 P.length) (-1) ∧ M1 = zup M 34 16 (nI P.length) := by
  obtain ⟨h1, h2, h3, h4, m, h5, h6⟩ := h
  simp at h1 h2
  obtain ⟨g1, -, -⟩ := rP_E hE h5
  have lm := Rep_le g1
  have e1 := rPopN h1 (by omega)
  obtain ⟨M2, e2, p2⟩ := rNode (M := zup M 34 16 (nI P.length)) (nd := nd) (nI (rk j)) x (M 45 P.length) (-1) (by simp [zup_ap, h3]) hn
  have hh : M2 34 16 = nI P.length := by rw [p2.2.2.2.2.2.2.2.1 16 (by decide)]; simp [zup_ap]
  obtain ⟨M3, e3, p3⟩ := rPushN (nI nd) hh (by omega)
  have sm : rSame M M2 0 nd := rPop_same.tr p2.2.2.2.2.2.2.2.2.2
  have hrep : Rep M2 (.mulL j e) 0 m (nd + 1) (nI nd) := by
    refine ⟨Or.inl rfl, by omega, rfl, p2.1, fun q => by rw [show nd + 1 - 1 = nd from rfl, p2.2.1, hx q], ?_⟩
    rw [hm]
    show Rep M2 e 0 m nd (M2 41 nd)
    rw [p2.2.2.1]
    exact Rep_same (sm.sub (Nat.zero_le _) (Nat.le_refl _)) (by omega) g1
  have lb := rPile_le h6
  refine ⟨_, M2, M3, e1, e2, e3, ⟨?_, by simp; omega, ?_, by omega, ?_⟩, ?_, p3, p2, rfl⟩
  · simpa using p3.1
  · rw [p3.2.2.2.1 14 (by decide)]
    exact p2.2.2.2.2.2.2.1
  · exact rMade p2 p3 hn rfl hrep lm (fun s q ht => by cases ht) (rPop_pile (by omega) h6)
  · exact (rPop_keep.tr (p2.keep (by omega))).tr p3.keep
/-- chains grow at their end -/
theorem rAppend {M : zMem} {c s : T} {lo hi hi2 r : Nat} (h4 : hi2 ≤ 400) (hlo : lo < hi) (hc : Rep M c 1 (lo + 1) hi (M 41 lo)) (he : rEnd M c lo) (hs : Rep M s 0 hi hi2 (nI r)) (hr1 : hi ≤ r) (hr2 : r < hi2) (hr3 : M 44 r = -1) :
    ∃ M', F_R_append M (nI lo) (nI r) = some M' ∧ Rep M' (snoc c s) 1 (lo + 1) hi2 (M' 41 lo) ∧ (∃ k, M' 41 lo = nI k) ∧ rEnd M' (snoc c s) lo ∧ (∀ a, a ≠ 41 → a ≠ 42 → a ≠ 44 → M' a = M a) ∧ M' 44 lo = M 44 lo ∧ rSame M M' 0 lo := by
  have hcl : (nI lo).toNatClampNeg = lo := nI_clamp (by omega)
  have hl4 : lo < 400 := by have := Rep_le hc; omega
  have hsle := Rep_le hs
  cases c with
  | var x =>
    have hx : x = 99 ∧ hi = lo + 1 ∧ M 41 lo = -1 := by
      simp only [Rep] at hc
      split at hc
      · rename_i q
        simp at hc
        exact ⟨q, hc.1, hc.2⟩
      · split at hc <;> simp at hc
    obtain ⟨rfl, rfl, h41⟩ := hx
    refine ⟨zup (zup M 41 lo (nI r)) 42 lo (nI r), ?_, ?_, ⟨r, by simp [zup_ap]⟩, Or.inr ⟨r, by omega, Or.inl ⟨rfl, by simp [zup_ap]⟩, by simp [zup_ap]⟩, fun a p q _ => ?_, by simp [zup_ap], fun i _ h => ?_⟩
    · unfold F_R_append F_R_append_p19
      simp only [hcl, zset_eq]
      rw [zix_nI _ hl4 (by omega), h41, if_neg (by decide), zix_nI _ hl4 (by omega), zix_nI _ hl4 (by omega)]
    · show Rep _ (.add s (.var 99)) 1 (lo + 1) hi2 _
      simp only [Rep, if_pos]
      refine ⟨hi2, r, ?_, by simp [zup_ap], hr1, hr2, ?_⟩
      · have e : zup (zup M 41 lo (nI r)) 42 lo (nI r) 41 lo = nI r := by simp [zup_ap]
        rw [e]
        refine Rep_same (fun i a b => ?_) (by omega) hs
        have : ¬ i = lo := by omega
        simp [zup_ap, this]
      · simp [zup_ap, hr3]
    · funext i
      simp [zup_ap, p, q]
    · have : ¬ i = lo := by omega
      simp [zup_ap, this]
  | add a b =>
    rcases he with he | ⟨e, he4, g1, g2⟩
    · cases he
    · have h41 : ∃ k, M 41 lo = nI k ∧ k < 400 := by
        simp only [Rep, if_pos] at hc
        obtain ⟨m, k, q1, q2, q3, q4, q5⟩ := hc
        have := Rep_le q5
        exact ⟨k, q2, by omega⟩
      obtain ⟨k, hk, hk4⟩ := h41
      have hin := rLast_in (by omega) he4 hc g1
      have hce : (nI e).toNatClampNeg = e := nI_clamp (by omega)
      have hne : ¬ lo = e := by omega
      refine ⟨zup (zup M 44 e (nI r)) 42 lo (nI r), ?_, ?_⟩
      · unfold F_R_append F_R_append_p19
        simp only [hcl, zset_eq, hk, g2, hce]
        rw [zix_nI _ hl4 (by omega), if_pos (nI_pos' (by omega)), zix_nI _ hl4 (by omega), zix_nI _ he4 (by omega), zix_nI _ hl4 (by omega)]
      · have key := Rep_snoc (M := M) (M' := zup (zup M 44 e (nI r)) 42 lo (nI r)) (s := s) (hi := hi) (hi2 := hi2) (r := r) h4
          (Rep_same (fun i a b => by
            have q1 : ¬ i = lo := by omega
            have q2 : ¬ i = e := by omega
            simp [zup_ap, q1, q2]) (by omega) hs) hr1 hr2 (by
            have q2 : ¬ r = e := by omega
            simp [zup_ap, q2, hr3]) he4 hc g1 (fun i a b => by
            have q1 : ¬ i = lo := by omega
            refine ⟨by simp [zup_ap], by simp [zup_ap], by simp [zup_ap], by simp [zup_ap, q1], by simp [zup_ap], fun q => by simp [zup_ap, q]⟩) (by simp [zup_ap])
        have e41 : zup (zup M 44 e (nI r)) 42 lo (nI r) 41 lo = M 41 lo := by simp [zup_ap]
        refine ⟨by rw [e41]; exact key.1, ⟨k, by rw [e41]; exact hk⟩, Or.inr ⟨r, by omega, by rw [e41]; exact key.2, by simp [zup_ap]⟩, fun a p q q2 => ?_, by simp [zup_ap, hne], fun i _ h => ?_⟩
        · funext i
          simp [zup_ap, q, q2]
        · have q1 : ¬ i = lo := by omega
          have q2 : ¬ i = e := by omega
          simp [zup_ap, q1, q2]
  | num x => simp [Rep] at hc
  | mulL x y => simp [Rep] at hc
  | mulR x y => simp [Rep] at hc

/-- one chain grows: the list, or the arguments of a call -/
theorem rFinApp {M : zMem} {e a : T} {P : List T} {base nd : Nat} (h : rSt M (e :: a :: P) base nd) (hE : isE e = true) (hA : isL a = true ∨ ∃ s q, a = .mulR s q) :
    ∃ M', zbi (F_R_pop M) (fun r M21 => zix (M21 34 16 - 1) 300 (zbv (F_R_append M21 (M21 45 (M21 34 16 - 1).toNatClampNeg) r) fun M25 => some M25)) = some M' ∧ rSt M' (grow a e :: P) base nd ∧ rKeep M M' base := by
  obtain ⟨h1, h2, h3, h4, m2, h5, m1, h6, h7⟩ := h
  simp at h1 h2
  obtain ⟨g1, ⟨r, gr1, gr2, gr3, gr4⟩, -⟩ := rP_E hE h5
  have l7 := rPile_le h7
  have l6 := rP_le h6
  have l5 := rP_le h5
  rw [show (a :: P).length = P.length + 1 from rfl] at h5 g1 gr1
  have e1 := rPopN h1 (by omega)
  have c16 : zup M 34 16 (nI (P.length + 1)) 34 16 = nI (P.length + 1) := by simp [zup_ap]
  have c45 : zup M 34 16 (nI (P.length + 1)) 45 = M 45 := by funext i; simp [zup_ap]
  have c41 : zup M 34 16 (nI (P.length + 1)) 41 = M 41 := by funext i; simp [zup_ap]
  -- the chain
  have hchain : ∃ c, m1 < m2 ∧ M 45 P.length = nI m1 ∧ Rep M c 1 (m1 + 1) m2 (M 41 m1) ∧ rEnd M c m1 ∧ (a = c ∧ isL a = true ∧ M 39 m1 = 30 ∨ ∃ q, a = .mulR c q) := by
    rcases hA with hL | ⟨s, q, rfl⟩
    · obtain ⟨k1, k2⟩ := rP_L hL h6
      obtain ⟨k3, k4, k5⟩ := isL_lo hL k1
      refine ⟨a, k3, k4, ?_, k2, Or.inl ⟨rfl, hL, k5⟩⟩
      rcases Rep_list hL k1 with rfl | k6
      · simp [Rep] at k1 ⊢
        exact ⟨by omega, k1.2.2.2⟩
      · exact k6
    · obtain ⟨k1, -, k3⟩ := rP_E rfl h6
      obtain ⟨-, q1, q2, q3, q4, q5, q6⟩ := k1
      exact ⟨s, q1, q2, q6, k3 s q rfl, Or.inr ⟨q, rfl⟩⟩
  obtain ⟨c, hm12, hroot, hc, hend, hcase⟩ := hchain
  have sm : rSame M (zup M 34 16 (nI (P.length + 1))) 0 nd := rPop_same
  have hc' : Rep (zup M 34 16 (nI (P.length + 1))) c 1 (m1 + 1) m2 (zup M 34 16 (nI (P.length + 1)) 41 m1) := by
    rw [c41]
    exact Rep_same (sm.sub (Nat.zero_le _) l5) (by omega) hc
  have hend' : rEnd (zup M 34 16 (nI (P.length + 1))) c m1 := rEnd_same (hi := m2) (by omega) hm12 (sm.sub (Nat.zero_le _) l5) (Or.inr hc) hend
  obtain ⟨M', e2, a1, ⟨k, a2⟩, a3, a4, a5, a6⟩ := rAppend (M := zup M 34 16 (nI (P.length + 1))) (c := c) (s := e) (lo := m1) (hi := m2) (hi2 := nd) (r := r) h4 hm12 hc' hend' (Rep_same (sm.sub (Nat.zero_le _) (Nat.le_refl _)) (by omega) (by rw [← gr1]; exact g1)) gr2 gr3 (by simp [zup_ap, gr4])
  have smM : rSame M M' 0 m1 := (rPop_same (v := nI (P.length + 1))).tr a6
  refine ⟨M', ?_, ⟨?_, by simp; omega, ?_, h4, m1, ?_, ?_⟩, ?_⟩
  · rw [e1, zbi_some, c16, show nI (P.length + 1) - 1 = nI P.length from nI_pred _, zix_nI _ (by omega) (by omega), nI_clamp (by omega), c45, hroot, gr1, e2]
    rfl
  · rw [a4 34 (by decide) (by decide) (by decide), c16]
    rfl
  · rw [a4 34 (by decide) (by decide) (by decide)]
    simp [zup_ap, h3]
  · have e45 : M' 45 P.length = nI m1 := by rw [a4 45 (by decide) (by decide) (by decide), c45, hroot]
    rw [e45]
    have e39 : M' 39 m1 = M 39 m1 := by rw [a4 39 (by decide) (by decide) (by decide)]; simp [zup_ap]
    rcases hcase with ⟨rfl, hL, h39⟩ | ⟨q, rfl⟩
    · have hsn : ∃ x y, snoc a e = .add x y := by
        cases a with
        | add x y => exact ⟨x, _, rfl⟩
        | var x => exact ⟨e, _, rfl⟩
        | num x => exact ⟨e, _, rfl⟩
        | mulL x y => exact ⟨e, _, rfl⟩
        | mulR x y => exact ⟨e, _, rfl⟩
      obtain ⟨x, y, hxy⟩ := hsn
      have hm : grow a e = snoc a e := by
        cases a <;> first | rfl | (simp [isL] at hL)
      rw [hm]
      refine Or.inr (Or.inl ⟨by rw [hxy]; rfl, ?_, a3⟩)
      rw [hxy] at a1 ⊢
      simp [Rep] at a1 ⊢
      exact ⟨by omega, by rw [e39]; exact h39, a1⟩
    · obtain ⟨kk, -, -⟩ := rP_E rfl h6
      obtain ⟨-, q1, q2, q3, q4, q5, q6⟩ := kk
      refine Or.inl ⟨rfl, ⟨rfl, by omega, rfl, by rw [e39]; exact q3, ?_, ?_, a1⟩, ⟨m1, rfl, Nat.le_refl _, by omega, ?_⟩, fun s q' hs => by cases hs; exact a3⟩
      · rw [a4 40 (by decide) (by decide) (by decide)]; simp [zup_ap, q4]
      · rw [a4 43 (by decide) (by decide) (by decide)]; simp [zup_ap, q5]
      · obtain ⟨-, ⟨r2, w1, w2, w3, w4⟩, -⟩ := rP_E rfl h6
        have : m1 = r2 := nI_inj (by omega) (by omega) (hroot.symm.trans w1)
        rw [a5]
        simp [zup_ap]
        rw [this]
        exact w4
  · exact rPile_same (by omega) (smM.sub (Nat.zero_le _) (Nat.le_refl _)) (fun i _ => by rw [a4 45 (by decide) (by decide) (by decide), c45]) h7
  · refine rPop_keep.tr ⟨fun c hc => a4 c (by omega) (by omega) (by omega), fun j _ _ => by rw [a4 34 (by decide) (by decide) (by decide)], a6.sub (Nat.le_refl _) l7⟩
