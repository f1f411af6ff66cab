/-! THE REFERENCE'S READER AGAINST THE LIST MACHINE: the relation -/
def rTx (M : zMem) (ts : List Nat) : Prop := M 34 1 = nI ts.length ∧ ts.length ≤ 150 ∧ ∀ i, i < ts.length → ∃ t, ts[i]? = some t ∧ t < 174 ∧ M 35 i = nI t
def rJp (M : zMem) (J : zJ) (p : Nat) : Prop := J 0 p ≤ 1 ∧ (J 0 p = 0 → M 46 p = -2) ∧ (J 0 p = 1 → J 6 p = 0 → M 46 p = -1) ∧ M 47 p = nI (J 1 p) ∧ J 1 p ≤ 150 ∧ (J 6 p = 1 → J 0 p = 1 ∧ M 48 p = nI (J 3 p)) ∧ (∀ i, i < 8 → i < J 1 p → M 49 (8 * p + i) = nI (J 2 (8 * p + i))) ∧ J 6 p ≤ 1
def rJ (M : zMem) (J : zJ) : Prop :=
  (M 34 21 = nI (J 4 0) ∧ J 4 0 < 4 ∧ M 34 22 = nI (J 4 1) ∧ J 4 1 < 256 ∧ M 34 23 = nI (J 4 2) ∧ J 4 2 ≤ 1 ∧ M 34 27 = nI (J 4 3)) ∧ (M 34 28 = (if J 4 4 = 0 then -4 else nI (J 4 4 - 1)) ∧ J 4 4 ≤ 151 ∧ J 4 3 ≤ J 9 0) ∧ (∀ p, p < 4 → rJp M J p) ∧ ∀ d, d < J 9 0 → d < 30 → M 50 d = nI (J 5 d)
def rIn (M : zMem) (t : T) (base : Nat) (n : Int32) : Prop := ∃ lo hi, hi ≤ base ∧ isL t = true ∧ Rep M t 2 lo hi n
/-- every node below base stands in a finished list -/
def rCv (M : zMem) (J : zJ) (B : Nat → T) (base : Nat) : Prop := ∀ i, i < base → ∃ t lo hi n, ((∃ d, d < J 4 3 ∧ t = B (10 + d)) ∨ (J 7 0 = 1 ∧ t = B 4)) ∧ isL t = true ∧ Rep M t 2 lo hi n ∧ lo ≤ i ∧ i < hi ∧ hi ≤ base
def rB (M : zMem) (J : zJ) (B : Nat → T) (base : Nat) : Prop := (∀ d, d < J 4 3 → rIn M (B (10 + d)) base (M 51 d)) ∧ (∀ p, p < 4 → J 6 p = 1 → rIn M (B p) base (M 46 p)) ∧ (J 7 0 = 1 → rIn M (B 4) base (M 34 24)) ∧ rCv M J B base
def rO (M : zMem) (P : List T) (J : zJ) (B : Nat → T) (base : Nat) : Prop := rSt M P base (J 4 5) ∧ rJ M J ∧ rB M J B base
def RP (M : zMem) (ts : List Nat) (pl : Nat) (S : zS) (base : Nat) : Prop := rTx M ts ∧ M 34 6 = nI pl ∧ pl ≤ ts.length ∧ M 34 7 = 0 ∧ M 34 5 = nI S.1.length ∧ rTk M S.1 ∧ rO M S.2.1 S.2.2.1 S.2.2.2 base
theorem rTx_keep {M M' : zMem} {ts : List Nat} (h35 : M' 35 = M 35) (h1 : M' 34 1 = M 34 1) (h : rTx M ts) : rTx M' ts := ⟨by rw [h1]; exact h.1, h.2.1, fun i hi => by rw [h35]; exact h.2.2 i hi⟩
/-- the numbers of the procs need these cells alone -/
theorem rJ_keep {M M' : zMem} {J : zJ} (h1 : ∀ j, j = 21 ∨ j = 22 ∨ j = 23 ∨ j = 27 ∨ j = 28 → M' 34 j = M 34 j) (h2 : ∀ a, 46 ≤ a ∧ a ≤ 50 → M' a = M a) (h : rJ M J) : rJ M' J := by
  obtain ⟨⟨a1, a2, a3, a4, a5, a6, a7⟩, ⟨b1, b2⟩, c1, d1⟩ := h
  refine ⟨⟨by rw [h1 21 (by omega)]; exact a1, a2, by rw [h1 22 (by omega)]; exact a3, a4, by rw [h1 23 (by omega)]; exact a5, a6, by rw [h1 27 (by omega)]; exact a7⟩, ⟨by rw [h1 28 (by omega)]; exact b1, b2⟩, fun p hp => ?_, fun d hd h30 => by rw [h2 50 (by omega)]; exact d1 d hd h30⟩
  have := c1 p hp
  unfold rJp at this ⊢
  rw [h2 46 (by omega), h2 47 (by omega), h2 48 (by omega), h2 49 (by omega)]
  exact this
theorem rIn_keep {M M' : zMem} {t : T} {base base' : Nat} {n : Int32} (hs : rSame M M' 0 base) (hb : base ≤ base') (h : rIn M t base n) : rIn M' t base' n := by
  obtain ⟨lo, hi, h1, h2, h3⟩ := h
  exact ⟨lo, hi, by omega, h2, Rep_same (hs.sub (Nat.zero_le _) h1) (by omega) h3⟩
theorem rCv_keep {M M' : zMem} {J : zJ} {B : Nat → T} {base : Nat} (hs : rSame M M' 0 base) (h : rCv M J B base) : rCv M' J B base := fun i hi => by
  obtain ⟨t, lo, hi', n, a1, a2, a3, a4, a5, a6⟩ := h i hi
  exact ⟨t, lo, hi', n, a1, a2, Rep_same (hs.sub (Nat.zero_le _) a6) (by omega) a3, a4, a5, a6⟩
theorem rB_keep {M M' : zMem} {J : zJ} {B : Nat → T} {base : Nat} (hs : rSame M M' 0 base) (h51 : M' 51 = M 51) (h46 : M' 46 = M 46) (h24 : M' 34 24 = M 34 24) (h : rB M J B base) : rB M' J B base :=
  ⟨fun d hd => by rw [h51]; exact rIn_keep hs (Nat.le_refl _) (h.1 d hd), fun p hp h6 => by rw [h46]; exact rIn_keep hs (Nat.le_refl _) (h.2.1 p hp h6), fun h7 => by rw [h24]; exact rIn_keep hs (Nat.le_refl _) (h.2.2.1 h7), rCv_keep hs h.2.2.2⟩
/-- the counter of nodes is no number of the procs -/
theorem rJ_nd {M : zMem} {J : zJ} {n : Nat} (h : rJ M J) : rJ M (jup J 4 5 n) := by
  unfold rJ rJp at *
  simpa [jup] using h
theorem rB_nd {M : zMem} {J : zJ} {B : Nat → T} {base n : Nat} (h : rB M J B base) : rB M (jup J 4 5 n) B base := by
  unfold rB rCv at *
  simpa [jup] using h
/-- only tasks changed -/
theorem RP_push {M M' : zMem} {ts : List Nat} {pl base : Nat} {ks l : List Nat} {P : List T} {J : zJ} {B : Nat → T} (h : RP M ts pl (l, P, J, B) base) (hp : rPush M M' ks l) : RP M' ts pl (ks ++ l, P, J, B) base := by
  obtain ⟨h1, h2, h3, h4, h5, h6, ⟨g1, g2, g3, g4, g5⟩, hj, hb⟩ := h
  obtain ⟨p1, p2, p3, p4⟩ := hp
  have sm : ∀ {lo hi}, rSame M M' lo hi := fun i _ _ => ⟨by rw [p3 39 (by decide) (by decide)], by rw [p3 40 (by decide) (by decide)], by rw [p3 41 (by decide) (by decide)], by rw [p3 42 (by decide) (by decide)], by rw [p3 43 (by decide) (by decide)], by rw [p3 44 (by decide) (by decide)]⟩
  refine ⟨rTx_keep (p3 35 (by decide) (by decide)) (p4 1 (by decide)) h1, by rw [p4 6 (by decide)]; exact h2, h3, by rw [p4 7 (by decide)]; exact h4, p1, p2, ⟨by rw [p4 16 (by decide)]; exact g1, g2, by rw [p4 14 (by decide)]; exact g3, g4, rPile_same g4 sm (fun i _ => by rw [p3 45 (by decide) (by decide)]) g5⟩, rJ_keep (fun j hj => p4 j (by omega)) (fun a ha => p3 a (by omega) (by omega)) hj, rB_keep sm (p3 51 (by decide) (by decide)) (p3 46 (by decide) (by decide)) (p4 24 (by decide)) hb⟩
/-- the top task is taken off -/
theorem RP_pop {M : zMem} {ts : List Nat} {pl base x : Nat} {l : List Nat} {P : List T} {J : zJ} {B : Nat → T} (h : RP M ts pl (x :: l, P, J, B) base) : RP (zup M 34 5 (nI l.length)) ts pl (l, P, J, B) base ∧ M 38 l.length = nI x := by
  obtain ⟨h1, h2, h3, h4, h5, h6, ⟨g1, g2, g3, g4, g5⟩, hj, hb⟩ := h
  have sm : ∀ {lo hi}, rSame M (zup M 34 5 (nI l.length)) lo hi := fun i _ _ => by simp [zup_ap]
  refine ⟨⟨rTx_keep (by funext i; simp [zup_ap]) (by simp [zup_ap]) h1, by simp [zup_ap, h2], h3, by simp [zup_ap, h4], by simp [zup_ap], rTk_congr (fun i _ => by simp [zup_ap]) h6.2, ⟨by simp [zup_ap]; exact g1, g2, by simp [zup_ap]; exact g3, g4, rPile_same g4 sm (fun i _ => by simp [zup_ap]) g5⟩, rJ_keep (fun j hj => by simp [zup_ap]; omega) (fun a ha => by funext i; simp [zup_ap]; omega) hj, rB_keep sm (by funext i; simp [zup_ap]) (by funext i; simp [zup_ap]) (by simp [zup_ap]) hb⟩, h6.1⟩
/-- the pile and the nodes changed -/
theorem RP_done {M M' : zMem} {ts : List Nat} {pl base nd : Nat} {l : List Nat} {P P' : List T} {J : zJ} {B : Nat → T} (h : RP M ts pl (l, P, J, B) base) (hs : rSt M' P' base nd) (hk : rKeep M M' base) : RP M' ts pl (l, P', jup J 4 5 nd, B) base := by
  obtain ⟨h1, h2, h3, h4, h5, h6, -, hj, hb⟩ := h
  obtain ⟨k1, k2, k3⟩ := hk
  refine ⟨rTx_keep (k1 35 (by omega)) (k2 1 (by decide) (by decide)) h1, by rw [k2 6 (by decide) (by decide)]; exact h2, h3, by rw [k2 7 (by decide) (by decide)]; exact h4, by rw [k2 5 (by decide) (by decide)]; exact h5, rTk_congr (fun i _ => by rw [k1 38 (by omega)]) h6, by simpa [jup] using hs, rJ_nd (rJ_keep (fun j hj => k2 j (by omega) (by omega)) (fun a ha => k1 a (by omega)) hj), rB_nd (rB_keep k3 (k1 51 (by omega)) (k1 46 (by omega)) (k2 24 (by decide) (by decide)) hb)⟩
/-- the token is taken -/
theorem RP_adv {M : zMem} {ts : List Nat} {pl base : Nat} {S : zS} (h : RP M ts pl S base) (hl : pl < ts.length) : RP (zup M 34 6 (nI (pl + 1))) ts (pl + 1) S base := by
  obtain ⟨h1, h2, h3, h4, h5, h6, ⟨g1, g2, g3, g4, g5⟩, hj, hb⟩ := h
  have sm : ∀ {lo hi}, rSame M (zup M 34 6 (nI (pl + 1))) lo hi := fun i _ _ => by simp [zup_ap]
  exact ⟨rTx_keep (by funext i; simp [zup_ap]) (by simp [zup_ap]) h1, by simp [zup_ap], hl, by simp [zup_ap, h4], by simp [zup_ap, h5], rTk_congr (fun i _ => by simp [zup_ap]) h6, ⟨by simp [zup_ap]; exact g1, g2, by simp [zup_ap]; exact g3, g4, rPile_same g4 sm (fun i _ => by simp [zup_ap]) g5⟩, rJ_keep (fun j hj => by simp [zup_ap]; omega) (fun a ha => by funext i; simp [zup_ap]; omega) hj, rB_keep sm (by funext i; simp [zup_ap]) (by funext i; simp [zup_ap]) (by simp [zup_ap]) hb⟩
theorem tok_lt {M : zMem} {ts : List Nat} (h : rTx M ts) (pl : Nat) : tok ts pl = 999 ∨ tok ts pl < 174 := by
  unfold tok
  by_cases hl : pl < ts.length
  · obtain ⟨t, h1, h2, -⟩ := h.2.2 pl hl
    rw [List.getD_eq_getElem?_getD, h1]
    exact Or.inr h2
  · rw [List.getD_eq_getElem?_getD, List.getElem?_eq_none (by omega)]
    exact Or.inl rfl
theorem tok_in {ts : List Nat} {pl : Nat} (h : tok ts pl ≠ 999) : pl < ts.length := by
  by_cases hl : pl < ts.length
  · exact hl
  · exact absurd (by unfold tok; rw [List.getD_eq_getElem?_getD, List.getElem?_eq_none (by omega)]; rfl) h
theorem rLook {M : zMem} {ts : List Nat} {pl : Nat} (h : rTx M ts) (hp : M 34 6 = nI pl) (hl : pl ≤ ts.length) : F_R_look M = some (tv (tok ts pl), M) := by
  unfold F_R_look
  have h15 := h.2.1
  rw [h.1, hp]
  by_cases c : pl < ts.length
  · obtain ⟨t, h1, h2, h3⟩ := h.2.2 pl c
    have e : tok ts pl = t := by unfold tok; rw [List.getD_eq_getElem?_getD, h1]; rfl
    rw [if_neg (nI_ge c (by omega)), zix_nI _ (by omega) (by omega), nI_clamp (by omega), h3, e]
    unfold tv
    rw [if_neg (by omega)]
  · have e : tok ts pl = 999 := by unfold tok; rw [List.getD_eq_getElem?_getD, List.getElem?_eq_none (by omega)]; rfl
    rw [if_pos (nI_le (by omega) (by omega)), e]
    rfl
