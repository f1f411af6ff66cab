/-! THE CLASS'S READER AS A PURE MACHINE K: pending things (the last first), code (size, operations, operands), the operand of the plain form that was read last, which tokens are left out,
    callees and numbers of arguments, own names -/
abbrev zPd : Type := Nat × Int32 × Int32
abbrev zOs : Type := Int32 × Int32 × Int32
abbrev zC : Type := Nat × (Nat → Int32) × (Nat → Int32)
abbrev zKK : Type := List zPd × zC × List zOs × (Nat → Int32) × ((Nat → Int32) × (Nat → Int32)) × Int32
def cPd (M : zMem) : List zPd → Prop
  | [] => True
  | (k, a, b) :: r => M 16 r.length = nI k ∧ M 17 r.length = a ∧ M 18 r.length = b ∧ k < 100 ∧ cPd M r
def cPD (M : zMem) (pd : List zPd) : Prop := M 15 3 = nI pd.length ∧ pd.length ≤ 150 ∧ cPd M pd
def cCD (M : zMem) (c : zC) : Prop := M 4 2 = nI c.1 ∧ c.1 ≤ 300 ∧ M 5 = c.2.1 ∧ M 6 = c.2.2
/-- the operand that was read last, where it is still asked for: a list of at most one -/
def cOS (M : zMem) : List zOs → Prop
  | [] => True
  | (l, a, b) :: r => r = [] ∧ M 19 3 = l ∧ M 19 4 = a ∧ M 19 5 = b
def cK (M : zMem) (K : zKK) : Prop := cPD M K.1 ∧ cCD M K.2.1 ∧ cOS M K.2.2.1 ∧ M 21 = K.2.2.2.1 ∧ (M 12 = K.2.2.2.2.1.1 ∧ M 13 = K.2.2.2.2.1.2) ∧ M 7 8 = K.2.2.2.2.2
/-- nothing else is touched -/
def cKeep (M M' : zMem) : Prop := (∀ a, a ≠ 4 → a ≠ 5 → a ≠ 6 → a ≠ 12 → a ≠ 13 → a ≠ 15 → a ≠ 16 → a ≠ 17 → a ≠ 18 → a ≠ 19 → a ≠ 21 → a ≠ 22 → a ≠ 23 → a ≠ 24 → M' a = M a) ∧ M' 19 1 = M 19 1
theorem cKeep.refl (M : zMem) : cKeep M M := ⟨fun _ _ _ _ _ _ _ _ _ _ _ _ _ _ _ => rfl, rfl⟩
theorem cKeep.trans {M M1 M2 : zMem} (h : cKeep M M1) (g : cKeep M1 M2) : cKeep M M2 := ⟨fun a p1 p2 p3 p4 p5 p6 p7 p8 p9 p10 p11 p12 p13 p14 => (g.1 a p1 p2 p3 p4 p5 p6 p7 p8 p9 p10 p11 p12 p13 p14).trans (h.1 a p1 p2 p3 p4 p5 p6 p7 p8 p9 p10 p11 p12 p13 p14), g.2.trans h.2⟩
def cV (M : zMem) (f : Option zMem) (K' : zKK) : Prop := ∃ M', f = some M' ∧ cK M' K' ∧ cKeep M M'
def cD (M : zMem) (f : Option (Int32 × zMem)) (r : Int32) (K' : zKK) : Prop := ∃ M', f = some (r, M') ∧ cK M' K' ∧ cKeep M M'
section KB
variable {M M' : zMem} {K K1 K2 : zKK} {r r1 r2 : Int32}
theorem cV_v {f : Option zMem} {g : zMem → Option zMem} (h : cV M f K1) (k : ∀ M1, cK M1 K1 → cV M1 (g M1) K2) : cV M (zbv f g) K2 := by
  obtain ⟨M1, rfl, h1, h2⟩ := h
  obtain ⟨M2, e, k1, k2⟩ := k M1 h1
  exact ⟨M2, e, k1, h2.trans k2⟩
theorem cV_d {f : Option zMem} {g : zMem → Option (Int32 × zMem)} (h : cV M f K1) (k : ∀ M1, cK M1 K1 → cD M1 (g M1) r K2) : cD M (zbv f g) r K2 := by
  obtain ⟨M1, rfl, h1, h2⟩ := h
  obtain ⟨M2, e, k1, k2⟩ := k M1 h1
  exact ⟨M2, e, k1, h2.trans k2⟩
theorem cD_v {f : Option (Int32 × zMem)} {g : Int32 → zMem → Option zMem} (h : cD M f r1 K1) (k : ∀ M1, cK M1 K1 → cV M1 (g r1 M1) K2) : cV M (zbi f g) K2 := by
  obtain ⟨M1, rfl, h1, h2⟩ := h
  obtain ⟨M2, e, k1, k2⟩ := k M1 h1
  exact ⟨M2, e, k1, h2.trans k2⟩
theorem cD_d {f : Option (Int32 × zMem)} {g : Int32 → zMem → Option (Int32 × zMem)} (h : cD M f r1 K1) (k : ∀ M1, cK M1 K1 → cD M1 (g r1 M1) r K2) : cD M (zbi f g) r K2 := by
  obtain ⟨M1, rfl, h1, h2⟩ := h
  obtain ⟨M2, e, k1, k2⟩ := k M1 h1
  exact ⟨M2, e, k1, h2.trans k2⟩
theorem cV_s (h : cK M K) : cV M (some M) K := ⟨M, rfl, h, cKeep.refl M⟩
theorem cD_s (h : cK M K) : cD M (some (r, M)) r K := ⟨M, rfl, h, cKeep.refl M⟩
theorem cD_ifp {c : Prop} [Decidable c] {a b : Option (Int32 × zMem)} (hc : c) (h : cD M a r K) : cD M (if c then a else b) r K := by rw [if_pos hc]; exact h
theorem cD_ifn {c : Prop} [Decidable c] {a b : Option (Int32 × zMem)} (hc : ¬ c) (h : cD M b r K) : cD M (if c then a else b) r K := by rw [if_neg hc]; exact h
theorem cV_ifp {c : Prop} [Decidable c] {a b : Option zMem} (hc : c) (h : cV M a K) : cV M (if c then a else b) K := by rw [if_pos hc]; exact h
theorem cV_ifn {c : Prop} [Decidable c] {a b : Option zMem} (hc : ¬ c) (h : cV M b K) : cV M (if c then a else b) K := by rw [if_neg hc]; exact h
theorem cD_ret {f : Option (Int32 × zMem)} (h : cD M f r K) : cD M (zbi f fun x M1 => some (x, M1)) r K := cD_d h fun M1 h1 => cD_s h1
theorem cPd_same : ∀ {pd : List zPd}, (∀ i, i < pd.length → M' 16 i = M 16 i ∧ M' 17 i = M 17 i ∧ M' 18 i = M 18 i) → cPd M pd → cPd M' pd
  | [], _, _ => trivial
  | (k, a, b) :: r, h, ⟨h1, h2, h3, h4, h5⟩ => by
    obtain ⟨e1, e2, e3⟩ := h r.length (by simp)
    exact ⟨e1.trans h1, e2.trans h2, e3.trans h3, h4, cPd_same (fun i hi => h i (by simp; omega)) h5⟩
theorem cPD_k {pd : List zPd} (h : ∀ a, 15 ≤ a → a ≤ 18 → M' a = M a) (g : cPD M pd) : cPD M' pd := ⟨by rw [h 15 (by omega) (by omega)]; exact g.1, g.2.1, cPd_same (fun i _ => ⟨by rw [h 16 (by omega) (by omega)], by rw [h 17 (by omega) (by omega)], by rw [h 18 (by omega) (by omega)]⟩) g.2.2⟩
theorem cCD_k {c : zC} (h : ∀ a, 4 ≤ a → a ≤ 6 → M' a = M a) (g : cCD M c) : cCD M' c := ⟨by rw [h 4 (by omega) (by omega)]; exact g.1, g.2.1, by rw [h 5 (by omega) (by omega)]; exact g.2.2.1, by rw [h 6 (by omega) (by omega)]; exact g.2.2.2⟩
theorem cOS_k {os : List zOs} (h6 : M' 19 = M 19) (_h : ∀ a, 22 ≤ a → a ≤ 24 → M' a = M a) (g : cOS M os) : cOS M' os := by
  cases os with
  | nil => trivial
  | cons p r =>
    obtain ⟨l, a, b⟩ := p
    obtain ⟨g0, g1, g2, g3⟩ := g
    exact ⟨g0, by rw [h6]; exact g1, by rw [h6]; exact g2, by rw [h6]; exact g3⟩
end KB
section KO
variable {M M' : zMem} {pd pd' : List zPd} {c c' : zC} {os os' : List zOs} {fl fl' : Nat → Int32} {cl cl' : (Nat → Int32) × (Nat → Int32)} {ow : Int32}
theorem cK_pd (h : cK M (pd, c, os, fl, cl, ow)) (hs : ∀ a, a ≠ 15 → a ≠ 16 → a ≠ 17 → a ≠ 18 → M' a = M a) (g : cPD M' pd') : cK M' (pd', c, os, fl, cl, ow) ∧ cKeep M M' := by
  obtain ⟨h1, h2, h3, h4, ⟨h5, h6⟩, h7⟩ := h
  refine ⟨⟨g, cCD_k (fun a _ _ => hs a (by omega) (by omega) (by omega) (by omega)) h2, cOS_k (by rw [hs 19 (by omega) (by omega) (by omega) (by omega)]) (fun a _ _ => hs a (by omega) (by omega) (by omega) (by omega)) h3, ?_, ⟨?_, ?_⟩, ?_⟩, fun a p1 p2 p3 p4 p5 p6 p7 p8 p9 p10 p11 p12 p13 p14 => hs a p6 p7 p8 p9, by rw [hs 19 (by omega) (by omega) (by omega) (by omega)]⟩
  · rw [hs 21 (by omega) (by omega) (by omega) (by omega)]; exact h4
  · rw [hs 12 (by omega) (by omega) (by omega) (by omega)]; exact h5
  · rw [hs 13 (by omega) (by omega) (by omega) (by omega)]; exact h6
  · rw [hs 7 (by omega) (by omega) (by omega) (by omega)]; exact h7
theorem cK_c (h : cK M (pd, c, os, fl, cl, ow)) (hs : ∀ a, a ≠ 4 → a ≠ 5 → a ≠ 6 → M' a = M a) (g : cCD M' c') : cK M' (pd, c', os, fl, cl, ow) ∧ cKeep M M' := by
  obtain ⟨h1, h2, h3, h4, ⟨h5, h6⟩, h7⟩ := h
  refine ⟨⟨cPD_k (fun a _ _ => hs a (by omega) (by omega) (by omega)) h1, g, cOS_k (by rw [hs 19 (by omega) (by omega) (by omega)]) (fun a _ _ => hs a (by omega) (by omega) (by omega)) h3, ?_, ⟨?_, ?_⟩, ?_⟩, fun a p1 p2 p3 p4 p5 p6 p7 p8 p9 p10 p11 p12 p13 p14 => hs a p1 p2 p3, by rw [hs 19 (by omega) (by omega) (by omega)]⟩
  · rw [hs 21 (by omega) (by omega) (by omega)]; exact h4
  · rw [hs 12 (by omega) (by omega) (by omega)]; exact h5
  · rw [hs 13 (by omega) (by omega) (by omega)]; exact h6
  · rw [hs 7 (by omega) (by omega) (by omega)]; exact h7
theorem cK_o (h : cK M (pd, c, os, fl, cl, ow)) (hs : ∀ a, a ≠ 19 → a ≠ 21 → a ≠ 22 → a ≠ 23 → a ≠ 24 → M' a = M a) (h1' : M' 19 1 = M 19 1) (g : cOS M' os') (gf : M' 21 = fl') : cK M' (pd, c, os', fl', cl, ow) ∧ cKeep M M' := by
  obtain ⟨h1, h2, h3, h4, ⟨h5, h6⟩, h7⟩ := h
  refine ⟨⟨cPD_k (fun a _ _ => hs a (by omega) (by omega) (by omega) (by omega) (by omega)) h1, cCD_k (fun a _ _ => hs a (by omega) (by omega) (by omega) (by omega) (by omega)) h2, g, gf, ⟨?_, ?_⟩, ?_⟩, fun a p1 p2 p3 p4 p5 p6 p7 p8 p9 p10 p11 p12 p13 p14 => hs a p10 p11 p12 p13 p14, h1'⟩
  · rw [hs 12 (by omega) (by omega) (by omega) (by omega) (by omega)]; exact h5
  · rw [hs 13 (by omega) (by omega) (by omega) (by omega) (by omega)]; exact h6
  · rw [hs 7 (by omega) (by omega) (by omega) (by omega) (by omega)]; exact h7
theorem cK_l (h : cK M (pd, c, os, fl, cl, ow)) (hs : ∀ a, a ≠ 12 → a ≠ 13 → M' a = M a) (g1 : M' 12 = cl'.1) (g2 : M' 13 = cl'.2) : cK M' (pd, c, os, fl, cl', ow) ∧ cKeep M M' := by
  obtain ⟨h1, h2, h3, h4, ⟨h5, h6⟩, h7⟩ := h
  refine ⟨⟨cPD_k (fun a _ _ => hs a (by omega) (by omega)) h1, cCD_k (fun a _ _ => hs a (by omega) (by omega)) h2, cOS_k (by rw [hs 19 (by omega) (by omega)]) (fun a _ _ => hs a (by omega) (by omega)) h3, ?_, ⟨g1, g2⟩, ?_⟩, fun a p1 p2 p3 p4 p5 p6 p7 p8 p9 p10 p11 p12 p13 p14 => hs a p4 p5, by rw [hs 19 (by omega) (by omega)]⟩
  · rw [hs 21 (by omega) (by omega)]; exact h4
  · rw [hs 7 (by omega) (by omega)]; exact h7
/-! the code -/
def kEmit (a b : Int32) (c : zC) : zC := if c.1 < 300 then (c.1 + 1, upd c.2.1 c.1 a, upd c.2.2 c.1 b) else c
def kAd (c : zC) : Int32 := if c.1 < 300 then nI c.1 else -1
def kLead (x : Int32) (c : zC) : zC := if x < 0 ∨ nI c.1 ≤ x then c else (c.1, c.2.1, upd c.2.2 x.toNatClampNeg (nI c.1))
def kChain : Nat → Int32 → zC → zC
  | 0, _, c => c
  | n + 1, x, c => if x < 0 ∨ 300 ≤ x then c else kChain n (c.2.2 x.toNatClampNeg) (c.1, c.2.1, upd c.2.2 x.toNatClampNeg (nI c.1))
theorem zup_upd (M : zMem) (a i : Nat) (v : Int32) : zup M a i v a = upd (M a) i v := zup_self M a i v
theorem cEmit (h : cK M (pd, c, os, fl, cl, ow)) (a b : Int32) : cD M (F_Code_emit M a b) (kAd c) (pd, kEmit a b c, os, fl, cl, ow) := by
  obtain ⟨g1, g2, g3, g4⟩ := h.2.1
  have g1 : M 4 2 = nI c.1 := g1
  have g2 : c.1 ≤ 300 := g2
  have g3 : M 5 = c.2.1 := g3
  have g4 : M 6 = c.2.2 := g4
  unfold F_Code_emit kAd kEmit
  rw [g1, if_neg (nI_pos (by omega))]
  by_cases q : c.1 < 300
  · have e4 : zup M 5 c.1 a 4 2 = nI c.1 := by rw [zup_ne (by omega)]; exact g1
    have e5 : zup (zup M 5 c.1 a) 6 c.1 b 4 2 = nI c.1 := by rw [zup_ne (by omega)]; exact e4
    rw [if_neg (show ¬ (300 : Int32) ≤ nI c.1 from nI_ge (b := 300) q (by omega)), if_pos (show nI c.1 < (300 : Int32) from nI_lt (b := 300) q (by omega)), zix_nI _ q (by omega), zset_eq, nI_clamp (by omega), e4, zix_nI _ q (by omega), zset_eq, nI_clamp (by omega), e5, zset_eq, if_pos q, if_pos q, nI_1]
    refine ⟨_, by rw [zup_self, pk_us, nI_pred], cK_c h (fun a p1 p2 p3 => by rw [zup_ne p1, zup_ne p3, zup_ne p2]) ⟨by rw [zup_self, pk_us], by show c.1 + 1 ≤ 300; omega, ?_, ?_⟩⟩
    · rw [zup_ne (by omega), zup_ne (by omega), zup_self, g3]
    · rw [zup_ne (by omega), zup_self, zup_ne (by omega), g4]
  · rw [if_pos (show (300 : Int32) ≤ nI c.1 from nI_le (a := 300) (by omega) (by omega)), if_neg q, if_neg q]
    exact cD_s h
theorem cHere (h : cK M (pd, c, os, fl, cl, ow)) : cD M (F_Code_here M) (nI c.1) (pd, c, os, fl, cl, ow) := ⟨M, by unfold F_Code_here; rw [h.2.1.1], h, cKeep.refl M⟩
theorem cLead (h : cK M (pd, c, os, fl, cl, ow)) (x : Int32) : cV M (F_Code_leadHere M x) (pd, kLead x c, os, fl, cl, ow) := by
  obtain ⟨g1, g2, g3, g4⟩ := h.2.1
  have g1 : M 4 2 = nI c.1 := g1
  have g2 : c.1 ≤ 300 := g2
  have g3 : M 5 = c.2.1 := g3
  have g4 : M 6 = c.2.2 := g4
  unfold F_Code_leadHere kLead
  rw [g1]
  by_cases q1 : x < 0
  · rw [if_pos q1, if_pos (Or.inl q1)]; exact cV_s h
  · rw [if_neg q1]
    by_cases q2 : nI c.1 ≤ x
    · rw [if_pos q2, if_pos (Or.inr q2)]; exact cV_s h
    · have q3 : ¬ (x < 0 ∨ nI c.1 ≤ x) := fun z => z.elim q1 q2
      rw [if_neg q2]
      rcases pk_ix x (n := c.1) (by omega) with q | q | ⟨j, hj, rfl⟩
      · exact absurd q q1
      · exact absurd q q2
      · rw [if_neg (show ¬ (300 : Int32) ≤ nI j from nI_ge (b := 300) (by omega) (by omega)), if_neg q3, zix_nI _ (by omega) (by omega), zset_eq, nI_clamp (by omega)]
        refine ⟨_, rfl, cK_c h (fun a p1 p2 p3 => zup_ne p3) ⟨by rw [zup_ne (by omega)]; exact g1, g2, by rw [zup_ne (by omega)]; exact g3, by rw [zup_self, g4]⟩⟩
theorem cChain (N : Nat) : ∀ (n k : Nat) {M : zMem} {c : zC} (x : Int32), k + n = 300 → cK M (pd, c, os, fl, cl, ow) → ∀ m, n < m → cV M (F_Code_leadChainHere_p4 N m M x (nI k)) (pd, kChain n x c, os, fl, cl, ow)
  | 0, k, M, c, x, hk, h, m, hm => by
    obtain ⟨m, rfl⟩ : ∃ m', m = m' + 1 := ⟨m - 1, by omega⟩
    rw [F_Code_leadChainHere_p4, if_pos (show (300 : Int32) ≤ nI k from nI_le (a := 300) (by omega) (by omega))]
    exact cV_s h
  | n + 1, k, M, c, x, hk, h, m, hm => by
    obtain ⟨m, rfl⟩ : ∃ m', m = m' + 1 := ⟨m - 1, by omega⟩
    obtain ⟨g1, g2, g3, g4⟩ := h.2.1
    have g1 : M 4 2 = nI c.1 := g1
    have g2 : c.1 ≤ 300 := g2
    have g3 : M 5 = c.2.1 := g3
    have g4 : M 6 = c.2.2 := g4
    rw [F_Code_leadChainHere_p4, if_neg (show ¬ (300 : Int32) ≤ nI k from nI_ge (b := 300) (by omega) (by omega)), kChain]
    rcases pk_ix x (n := 300) (by omega) with q | q | ⟨j, hj, rfl⟩
    · rw [if_pos q, if_pos (Or.inl q)]; exact cV_s h
    · have q0 : ¬ x < 0 := by
        intro z
        have q : (300 : Int32) ≤ x := q
        rw [Int32.lt_iff_toInt_lt] at z
        rw [Int32.le_iff_toInt_le] at q
        have : (300 : Int32).toInt = 300 := by decide
        have : (0 : Int32).toInt = 0 := by decide
        omega
      have q : (300 : Int32) ≤ x := q
      rw [if_neg q0, if_pos q, if_pos (Or.inr q)]; exact cV_s h
    · have p0 : ¬ nI j < 0 := nI_pos (by omega)
      have p1 : ¬ (300 : Int32) ≤ nI j := nI_ge (b := 300) hj (by omega)
      rw [if_neg p0, if_neg p1, if_neg (fun z => z.elim p0 p1), zix_nI _ hj (by omega), zix_nI _ hj (by omega), zset_eq, nI_clamp (by omega), g1, nI_1, g4]
      have hk2 := cK_c (M' := zup M 6 j (nI c.1)) (c' := (c.1, c.2.1, upd c.2.2 j (nI c.1))) h (fun a p1 p2 p3 => zup_ne p3) ⟨by rw [zup_ne (by omega)]; exact g1, g2, by rw [zup_ne (by omega)]; exact g3, by rw [zup_self, g4]⟩
      obtain ⟨M2, e, k1, k2⟩ := cChain N n (k + 1) (c.2.2 j) (by omega) hk2.1 m (by omega)
      exact ⟨M2, e, k1, hk2.2.trans k2⟩
/-! pending things -/
def kPush (k : Nat) (a b : Int32) (pd : List zPd) : List zPd := if pd.length < 150 then (k, a, b) :: pd else pd
def kHd (pd : List zPd) : zPd := pd.headD (0, 0, 0)
theorem cPush (h : cK M (pd, c, os, fl, cl, ow)) {k : Nat} (hk : k < 100) (a b : Int32) : cV M (F_Pend_push M (nI k) a b) (kPush k a b pd, c, os, fl, cl, ow) := by
  obtain ⟨g1, g2, g3⟩ := h.1
  have g1 : M 15 3 = nI pd.length := g1
  have g2 : pd.length ≤ 150 := g2
  unfold F_Pend_push kPush
  rw [g1, if_neg (nI_pos (by omega))]
  by_cases q : pd.length < 150
  · have e1 : zup M 16 pd.length (nI k) 15 3 = nI pd.length := by rw [zup_ne (by omega)]; exact g1
    have e2 : zup (zup M 16 pd.length (nI k)) 17 pd.length a 15 3 = nI pd.length := by rw [zup_ne (by omega)]; exact e1
    have e3 : zup (zup (zup M 16 pd.length (nI k)) 17 pd.length a) 18 pd.length b 15 3 = nI pd.length := by rw [zup_ne (by omega)]; exact e2
    rw [if_neg (show ¬ (150 : Int32) ≤ nI pd.length from nI_ge (b := 150) q (by omega)), zix_nI _ q (by omega), zset_eq, nI_clamp (by omega), e1, zix_nI _ q (by omega), zset_eq, nI_clamp (by omega), e2, zix_nI _ q (by omega), zset_eq, nI_clamp (by omega), e3, zset_eq, if_pos q, nI_1]
    refine ⟨_, rfl, cK_pd h (fun a p1 p2 p3 p4 => by rw [zup_ne p1, zup_ne p4, zup_ne p3, zup_ne p2]) ⟨by rw [zup_self, pk_us]; rfl, by simp; omega, ?_, ?_, ?_, hk, cPd_same (fun i hi => ⟨?_, ?_, ?_⟩) g3⟩⟩
    · simp [zup_ap]
    · simp [zup_ap]
    · simp [zup_ap]
    · have : i ≠ pd.length := by omega
      simp [zup_ap, this]
    · have : i ≠ pd.length := by omega
      simp [zup_ap, this]
    · have : i ≠ pd.length := by omega
      simp [zup_ap, this]
  · rw [if_pos (show (150 : Int32) ≤ nI pd.length from nI_le (a := 150) (by omega) (by omega)), if_neg q]
    exact cV_s h
theorem cPop (h : cK M (pd, c, os, fl, cl, ow)) : cV M (F_Pend_pop M) (pd.tail, c, os, fl, cl, ow) := by
  obtain ⟨g1, g2, g3⟩ := h.1
  have g1 : M 15 3 = nI pd.length := g1
  have g2 : pd.length ≤ 150 := g2
  unfold F_Pend_pop
  rw [g1]
  cases pd with
  | nil => rw [if_pos (by decide)]; exact cV_s h
  | cons p r =>
    obtain ⟨k, a, b⟩ := p
    simp only [List.length_cons] at g1 g2 ⊢
    rw [if_neg (nI_nle (by omega) (by omega)), zset_eq, nI_pred]
    exact ⟨_, rfl, cK_pd h (fun a p1 p2 p3 p4 => zup_ne p1) ⟨by rw [zup_self, pk_us]; rfl, by show r.length ≤ 150; omega, cPd_same (fun i _ => by simp [zup_ap]) g3.2.2.2.2⟩⟩
theorem cKind (h : cK M (pd, c, os, fl, cl, ow)) : cD M (F_Pend_kind M) (nI (kHd pd).1) (pd, c, os, fl, cl, ow) ∧ cD M (F_Pend_first M) (kHd pd).2.1 (pd, c, os, fl, cl, ow) ∧ cD M (F_Pend_second M) (kHd pd).2.2 (pd, c, os, fl, cl, ow) := by
  obtain ⟨g1, g2, g3⟩ := h.1
  have g1 : M 15 3 = nI pd.length := g1
  have g2 : pd.length ≤ 150 := g2
  unfold F_Pend_kind F_Pend_first F_Pend_second
  rw [g1]
  cases pd with
  | nil => exact ⟨cD_ifp (by decide) (cD_s h), cD_ifp (by decide) (cD_s h), cD_ifp (by decide) (cD_s h)⟩
  | cons p r =>
    obtain ⟨k, a, b⟩ := p
    simp only [List.length_cons] at g1 g2 ⊢
    obtain ⟨e1, e2, e3, -, -⟩ := g3
    rw [if_neg (nI_nle (by omega) (by omega)), if_neg (nI_nle (by omega) (by omega)), if_neg (nI_nle (by omega) (by omega)), if_neg (show ¬ (150 : Int32) < nI (r.length + 1) from nI_nlt (a := 150) (by omega) (by omega)), if_neg (show ¬ (150 : Int32) < nI (r.length + 1) from nI_nlt (a := 150) (by omega) (by omega)), if_neg (show ¬ (150 : Int32) < nI (r.length + 1) from nI_nlt (a := 150) (by omega) (by omega)), nI_pred, zix_nI _ (by omega) (by omega), zix_nI _ (by omega) (by omega), zix_nI _ (by omega) (by omega), nI_clamp (by omega), e1, e2, e3]
    exact ⟨cD_s h, cD_s h, cD_s h⟩
theorem cRepl (h : cK M (pd, c, os, fl, cl, ow)) {k : Nat} (hk : k < 100) (a b : Int32) : cV M (F_Pend_replace M (nI k) a b) (kPush k a b pd.tail, c, os, fl, cl, ow) := by
  unfold F_Pend_replace
  exact cV_v (cPop h) fun M1 h1 => cV_v (cPush h1 hk a b) fun M2 h2 => cV_s h2
end KO
