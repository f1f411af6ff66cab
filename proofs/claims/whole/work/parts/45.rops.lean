/-! THE REFERENCE'S NODES AND PILE: making, pushing, popping, appending -/
theorem rEnd_same {M M' : zMem} {s : T} {lo hi : Nat} (h4 : hi ≤ 400) (hlo : lo < hi) (hs : rSame M M' lo hi) (hr : s = .var 99 ∨ Rep M s 1 (lo + 1) hi (M 41 lo)) (h : rEnd M s lo) : rEnd M' s lo := by
  obtain ⟨s1, s2, s3, s4, -⟩ := hs lo (Nat.le_refl _) hlo
  rcases h with h | ⟨e, h0, h1, h2⟩
  · exact Or.inl h
  · rcases hr with hr | hr
    · exact Or.inl hr
    · exact Or.inr ⟨e, h0, by rw [s3]; exact rLast_same h4 (hs.sub (by omega) (Nat.le_refl _)) hr h1, by rw [s4]; exact h2⟩
theorem Rep_list {M : zMem} {t : T} {lo hi : Nat} {n : Int32} (hl : isL t = true) (h : Rep M t 2 lo hi n) : t = .var 99 ∨ Rep M t 1 (lo + 1) hi (M 41 lo) := by
  cases t with
  | var x => exact Or.inl (by have : x = 99 := by simpa [isL] using hl
                              rw [this])
  | add a b =>
    refine Or.inr ?_
    simp [Rep] at h ⊢
    exact h.2.2.2
  | _ => simp [isL] at hl
theorem rP_same {M M' : zMem} {t : T} {lo hi : Nat} {n : Int32} (h4 : hi ≤ 400) (hs : rSame M M' lo hi) (h : rP M t lo hi n) : rP M' t lo hi n := by
  rcases h with ⟨h1, h2, ⟨r, e1, e2, e3, e5⟩, h3⟩ | ⟨h1, h2, h3⟩ | h
  · refine Or.inl ⟨h1, Rep_same hs (by omega) h2, ⟨r, e1, e2, e3, by rw [(hs r e2 e3).2.2.2.2.2]; exact e5⟩, fun s q ht => ?_⟩
    subst ht
    obtain ⟨-, g1, -, -, -, -, g6⟩ := h2
    exact rEnd_same h4 g1 hs (Or.inr g6) (h3 s q rfl)
  · have hlo := isL_lo h1 h2
    exact Or.inr (Or.inl ⟨h1, Rep_same hs (by omega) h2, rEnd_same h4 hlo.1 hs (Rep_list h1 h2) h3⟩)
  · exact Or.inr (Or.inr h)
theorem rPile_same {M M' : zMem} : ∀ {P : List T} {lo hi : Nat}, hi ≤ 400 → rSame M M' lo hi → (∀ i, i < P.length → M' 45 i = M 45 i) → rPile M P lo hi → rPile M' P lo hi
  | [], _, _, _, _, _, h => h
  | t :: P, lo, hi, h4, hs, hp, h => by
    obtain ⟨m, h1, h2⟩ := h
    have l1 := rP_le h1
    have l2 := rPile_le h2
    refine ⟨m, ?_, rPile_same (by omega) (hs.sub (Nat.le_refl _) l1) (fun i hi => hp i (by simp; omega)) h2⟩
    rw [hp P.length (by simp)]
    exact rP_same h4 (hs.sub l2 (Nat.le_refl _)) h1
/-- nothing that lies outside the reader's stacks and the nodes from base on has changed -/
def rKeep (M M' : zMem) (base : Nat) : Prop := (∀ a, (a < 34 ∨ (34 < a ∧ a < 39) ∨ 46 ≤ a) → M' a = M a) ∧ (∀ j, j ≠ 14 → j ≠ 16 → M' 34 j = M 34 j) ∧ rSame M M' 0 base
theorem rSame.rf {M : zMem} {lo hi : Nat} : rSame M M lo hi := fun _ _ _ => ⟨rfl, rfl, rfl, rfl, rfl, rfl⟩
theorem rSame.tr {M M1 M2 : zMem} {lo hi : Nat} (h1 : rSame M M1 lo hi) (h2 : rSame M1 M2 lo hi) : rSame M M2 lo hi := fun i a b => by
  obtain ⟨p1, p2, p3, p4, p5, p6⟩ := h1 i a b
  obtain ⟨q1, q2, q3, q4, q5, q6⟩ := h2 i a b
  exact ⟨q1.trans p1, q2.trans p2, q3.trans p3, q4.trans p4, q5.trans p5, q6.trans p6⟩
theorem rKeep.rf {M : zMem} {b : Nat} : rKeep M M b := ⟨fun _ _ => rfl, fun _ _ _ => rfl, rSame.rf⟩
theorem rKeep.tr {M M1 M2 : zMem} {b : Nat} (h1 : rKeep M M1 b) (h2 : rKeep M1 M2 b) : rKeep M M2 b := ⟨fun a h => (h2.1 a h).trans (h1.1 a h), fun j p q => (h2.2.1 j p q).trans (h1.2.1 j p q), h1.2.2.tr h2.2.2⟩
/-- a new node nd -/
def rNew (M M' : zMem) (nd : Nat) (k x a b : Int32) : Prop := M' 39 nd = k ∧ M' 40 nd = x ∧ M' 41 nd = a ∧ M' 42 nd = b ∧ M' 43 nd = -1 ∧ M' 44 nd = -1 ∧ M' 34 14 = nI (nd + 1) ∧ (∀ j, j ≠ 14 → M' 34 j = M 34 j) ∧ (∀ c, (c < 34 ∨ (34 < c ∧ c < 39) ∨ 44 < c) → M' c = M c) ∧ rSame M M' 0 nd
theorem rNode {M : zMem} {nd : Nat} (k x a b : Int32) (h : M 34 14 = nI nd) (hn : nd < 400) : ∃ M', F_R_node M k x a b = some (nI nd, M') ∧ rNew M M' nd k x a b := by
  refine ⟨zup (zup (zup (zup (zup (zup (zup M 39 nd k) 40 nd x) 41 nd a) 42 nd b) 43 nd (-1)) 44 nd (-1)) 34 14 (nI (nd + 1)), ?_, ?_⟩
  · have c : (nI nd).toNatClampNeg = nd := nI_clamp (by omega)
    unfold F_R_node
    simp only [zset_eq, zup_ap, h, if_neg (show ¬ (34 = 39) by decide), if_neg (show ¬ (34 = 40) by decide), if_neg (show ¬ (34 = 41) by decide), if_neg (show ¬ (34 = 42) by decide), if_neg (show ¬ (34 = 43) by decide), if_neg (show ¬ (34 = 44) by decide), c]
    rw [zix_nI _ hn (by omega), zix_nI _ hn (by omega), zix_nI _ hn (by omega), zix_nI _ hn (by omega), zix_nI _ hn (by omega), zix_nI _ hn (by omega)]
    simp only [if_true, nI_1]
    rw [show nI (nd + 1) - 1 = nI nd from nI_pred nd]
  · refine ⟨by simp [zup_ap], by simp [zup_ap], by simp [zup_ap], by simp [zup_ap], by simp [zup_ap], by simp [zup_ap], by simp [zup_ap], fun j hj => by simp [zup_ap, hj], fun c hc => ?_, fun i h1 h2 => ?_⟩
    · funext i
      simp only [zup_ap]
      rw [if_neg (by omega), if_neg (by omega), if_neg (by omega), if_neg (by omega), if_neg (by omega), if_neg (by omega), if_neg (by omega)]
    · have : ¬ i = nd := by omega
      simp [zup_ap, this]
theorem rNew.keep {M M' : zMem} {nd base : Nat} {k x a b : Int32} (h : rNew M M' nd k x a b) (hb : base ≤ nd) : rKeep M M' base := by
  obtain ⟨-, -, -, -, -, -, -, h1, h2, h3⟩ := h
  exact ⟨fun c hc => h2 c (by omega), fun j p _ => h1 j p, h3.sub (Nat.le_refl _) hb⟩
/-- M' is M with n pushed on the pile of height h -/
def rPut (M M' : zMem) (h : Nat) (n : Int32) : Prop := M' 34 16 = nI (h + 1) ∧ M' 45 h = n ∧ (∀ i, i ≠ h → M' 45 i = M 45 i) ∧ (∀ j, j ≠ 16 → M' 34 j = M 34 j) ∧ ∀ c, c ≠ 34 → c ≠ 45 → M' c = M c
theorem rPushN {M : zMem} {h : Nat} (n : Int32) (h0 : M 34 16 = nI h) (hh : h < 300) : ∃ M', F_R_push M n = some M' ∧ rPut M M' h n := by
  refine ⟨zup (zup M 45 h n) 34 16 (nI (h + 1)), ?_, ?_⟩
  · unfold F_R_push
    rw [h0, zix_nI _ hh (by omega), zset_eq, zset_eq, nI_clamp (by omega)]
    have e : zup M 45 h n 34 16 = nI h := by rw [zup_ap]; simp [h0]
    rw [e, show nI h + 1 = nI (h + 1) from nI_1 _]
  · refine ⟨by simp [zup_ap], by simp [zup_ap], fun i hi => by simp [zup_ap, hi], fun j hj => by simp [zup_ap, hj], fun c p q => ?_⟩
    funext i
    simp [zup_ap, p, q]
theorem rPut.keep {M M' : zMem} {h base : Nat} {n : Int32} (p : rPut M M' h n) : rKeep M M' base := by
  obtain ⟨-, -, -, h3, h4⟩ := p
  exact ⟨fun c hc => h4 c (by omega) (by omega), fun j _ p => h3 j p, fun i _ _ => ⟨by rw [h4 39 (by decide) (by decide)], by rw [h4 40 (by decide) (by decide)], by rw [h4 41 (by decide) (by decide)], by rw [h4 42 (by decide) (by decide)], by rw [h4 43 (by decide) (by decide)], by rw [h4 44 (by decide) (by decide)]⟩⟩
theorem rPopN {M : zMem} {h : Nat} (h0 : M 34 16 = nI (h + 1)) (hh : h < 300) : F_R_pop M = some (M 45 h, zup M 34 16 (nI h)) := by
  unfold F_R_pop
  have e : zup M 34 16 (nI h) 34 16 = nI h := by simp [zup_ap]
  rw [h0, show nI (h + 1) - 1 = nI h from nI_pred h, zset_eq, e, zix_nI _ hh (by omega), nI_clamp (by omega)]
  simp [zup_ap]
theorem rPop_same {M : zMem} {v : Int32} {lo hi : Nat} : rSame M (zup M 34 16 v) lo hi := fun i _ _ => by simp [zup_ap]
theorem rPop_keep {M : zMem} {v : Int32} {b : Nat} : rKeep M (zup M 34 16 v) b := by
  refine ⟨fun c hc => ?_, fun j _ p => by simp [zup_ap, p], rPop_same⟩
  funext i
  simp only [zup_ap]
  rw [if_neg (by omega)]
theorem rNew.pile {M M' : zMem} {nd lo : Nat} {k x a b : Int32} {P : List T} (h : rNew M M' nd k x a b) (hn : nd ≤ 400) {hi : Nat} (hh : hi ≤ nd) (hp : rPile M P lo hi) : rPile M' P lo hi := by
  obtain ⟨-, -, -, -, -, -, -, h1, h2, h3⟩ := h
  exact rPile_same (by omega) (h3.sub (Nat.zero_le _) hh) (fun i _ => by rw [h2 45 (by omega)]) hp
theorem rPut.same {M M' : zMem} {h lo hi : Nat} {n : Int32} (p : rPut M M' h n) : rSame M M' lo hi := fun i _ b => (p.keep (base := i + 1)).2.2 i (Nat.zero_le _) (by omega)
theorem rPut.pile {M M' : zMem} {h lo hi : Nat} {n : Int32} {P : List T} (p : rPut M M' h n) (hh : hi ≤ 400) (hl : P.length ≤ h) (hp : rPile M P lo hi) : rPile M' P lo hi :=
  rPile_same hh p.same (fun i hi => p.2.2.1 i (by omega)) hp
theorem rPop_pile {M : zMem} {v : Int32} {lo hi : Nat} {P : List T} (hh : hi ≤ 400) (hp : rPile M P lo hi) : rPile (zup M 34 16 v) P lo hi :=
  rPile_same hh rPop_same (fun i _ => by simp [zup_ap]) hp
/-- a leaf or an inner node is made and pushed: its tree stands above the pile -/
theorem rMade {M M1 M2 : zMem} {nd lo hi : Nat} {k x a b : Int32} {t : T} {P : List T} (h1 : rNew M M1 nd k x a b) (h2 : rPut M1 M2 P.length (nI nd)) (hn : nd < 400) (hE : isE t = true) (hr : Rep M1 t 0 hi (nd + 1) (nI nd)) (hhi : hi ≤ nd) (hq : ∀ s q, t = .mulR s q → rEnd M1 s hi) (hp : rPile M P lo hi) : rPile M2 (t :: P) lo (nd + 1) := by
  refine ⟨hi, ?_, h2.pile (by omega) (Nat.le_refl _) (h1.pile (by omega) hhi hp)⟩
  rw [h2.2.1]
  exact rP_same (by omega) h2.same (Or.inl ⟨hE, hr, ⟨nd, rfl, hhi, by omega, h1.2.2.2.2.2.1⟩, hq⟩)
