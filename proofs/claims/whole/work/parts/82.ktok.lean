/-! K AGAINST Z: one token of a body -/
def zNil (z : zZ) : Prop := (z.1 = 17 ∨ z.1 = 18 → ∃ k n q r, z.2.2.1 = (k, n, [(.mulR (.var 99) q : T)]) :: r) ∧ (z.1 = 11 → ∃ n tr r, z.2.2.1 = (7, n, tr) :: r ∧ 20000 ≤ n ∧ (n < 20008 ∨ n = 21000))
def z8 (o : Option zZ) : Prop := ∀ z', o = some z' → zNil z'
theorem z8_n : z8 none := fun _ h => nomatch h
theorem z8_s {nx : Nat} {cs : List T} {fs : List zF} {J : zJ} {B : Nat → T} (h1 : nx ≠ 17) (h2 : nx ≠ 18) (h3 : nx ≠ 11) : z8 (some (nx, cs, fs, J, B)) := fun _ e => by cases e; exact ⟨fun q => absurd q (fun z => z.elim h1 h2), fun q => absurd q h3⟩
theorem z8_if {c : Prop} [Decidable c] {a b : Option zZ} (h1 : z8 a) (h2 : z8 b) : z8 (if c then a else b) := by
  by_cases h : c
  · rw [if_pos h]; exact h1
  · rw [if_neg h]; exact h2
section Z8
variable {t pl : Nat} {fs : List zF} {J : zJ} {B : Nat → T}
theorem zHead8 {x nx : Nat} (h1 : nx ≠ 17) (h2 : nx ≠ 18) (h3 : nx ≠ 11) : z8 (zHead x nx t pl J B) := by
  unfold zHead
  cases sNames x t pl J with
  | none => exact z8_n
  | some J1 => exact z8_s h1 h2 h3
theorem z8_c {k n q : Nat} {r : List zF} {cs : List T} : z8 (some (17, cs, (k, n, [(.mulR (.var 99) q : T)]) :: r, J, B)) := fun _ e => by cases e; exact ⟨fun _ => ⟨k, n, q, r, rfl⟩, fun q => by cases q⟩
theorem z8_7 {n : Nat} {tr : List T} {r : List zF} {cs : List T} (h : 20000 ≤ n ∧ (n < 20008 ∨ n = 21000)) : z8 (some (11, cs, (7, n, tr) :: r, J, B)) := fun _ e => by cases e; exact ⟨fun q => by omega, fun _ => ⟨n, tr, r, rfl, h⟩⟩
theorem zFactor8 : z8 (zFactor t pl fs J B) := by
  unfold zFactor
  exact z8_if (z8_s (by decide) (by decide) (by decide)) (z8_if (z8_s (by decide) (by decide) (by decide)) (z8_if (z8_s (by decide) (by decide) (by decide)) (z8_if z8_c (z8_if (z8_s (by decide) (by decide) (by decide)) (z8_if (z8_s (by decide) (by decide) (by decide)) z8_n)))))
theorem zExpr8 : z8 (zExpr t pl fs J B) := by
  unfold zExpr
  exact z8_if (z8_s (by decide) (by decide) (by decide)) (z8_if (z8_s (by decide) (by decide) (by decide)) zFactor8)
theorem zStEnd8 : z8 (zStEnd t fs J B) := by
  have s : ∀ {nx : Nat} {cs : List T} {fs : List zF} {J : zJ} {B : Nat → T}, nx ≠ 17 → nx ≠ 18 → nx ≠ 11 → z8 (some (nx, cs, fs, J, B)) := fun a b c => z8_s a b c
  unfold zStEnd
  refine z8_if (s (by decide) (by decide) (by decide)) ?_
  cases fs with
  | nil => exact z8_n
  | cons f r =>
    obtain ⟨k, n, tr⟩ := f
    exact z8_if (z8_if (s (by decide) (by decide) (by decide)) (z8_if (s (by decide) (by decide) (by decide)) (z8_if (s (by decide) (by decide) (by decide)) z8_n))) (z8_if (z8_if (s (by decide) (by decide) (by decide)) z8_n) (z8_if (z8_if (s (by decide) (by decide) (by decide)) z8_n) (z8_if (z8_if (s (by decide) (by decide) (by decide)) z8_n) (z8_if (z8_if (s (by decide) (by decide) (by decide)) z8_n) (z8_if (s (by decide) (by decide) (by decide)) z8_n)))))
theorem zCall8 : z8 (zCall fs J B) := by
  cases fs with
  | nil => exact z8_n
  | cons f r =>
    obtain ⟨k, n, tr⟩ := f
    exact z8_if (z8_s (by decide) (by decide) (by decide)) (z8_s (by decide) (by decide) (by decide))
theorem zAfter8 {e : T} : z8 (zAfter t e fs J B) := by
  have s : ∀ {nx : Nat} {cs : List T} {fs : List zF} {J : zJ} {B : Nat → T}, nx ≠ 17 → nx ≠ 18 → nx ≠ 11 → z8 (some (nx, cs, fs, J, B)) := fun a b c => z8_s a b c
  cases fs with
  | nil => exact z8_n
  | cons f r =>
    obtain ⟨k, n, tr⟩ := f
    exact z8_if (z8_if (s (by decide) (by decide) (by decide)) z8_n) (z8_if (z8_if (s (by decide) (by decide) (by decide)) z8_n) (z8_if (z8_if (s (by decide) (by decide) (by decide)) (z8_if zCall8 z8_n)) (z8_if (z8_if (z8_7 (by omega)) z8_n) (z8_if (z8_if (s (by decide) (by decide) (by decide)) z8_n) (z8_if (z8_if (s (by decide) (by decide) (by decide)) z8_n) zStEnd8)))))
theorem zOper8 {e : T} : z8 (zOper t e fs J B) := by
  unfold zOper
  exact z8_if (z8_if (z8_s (by decide) (by decide) (by decide)) z8_n) (z8_s (by decide) (by decide) (by decide))
theorem zStBegin8 : z8 (zStBegin t pl fs J B) := by
  have s : ∀ {nx : Nat} {cs : List T} {fs : List zF} {J : zJ} {B : Nat → T}, nx ≠ 17 → nx ≠ 18 → nx ≠ 11 → z8 (some (nx, cs, fs, J, B)) := fun a b c => z8_s a b c
  unfold zStBegin
  by_cases qn : isName t = true
  · rw [if_pos qn]
    simp only [isName, Bool.and_eq_true, decide_eq_true_eq] at qn
    exact z8_7 (by omega)
  rw [if_neg qn]
  exact (z8_if (s (by decide) (by decide) (by decide)) (z8_if z8_c (z8_if (s (by decide) (by decide) (by decide)) (z8_if (s (by decide) (by decide) (by decide)) (z8_if (s (by decide) (by decide) (by decide)) (z8_if (s (by decide) (by decide) (by decide)) (s (by decide) (by decide) (by decide))))))))
theorem zStep8 {z : zZ} (h : zNil z) : z8 (zStep t pl z) := by
  obtain ⟨nx, cs, fs, J, B⟩ := z
  have s : ∀ {nx : Nat} {cs : List T} {fs : List zF} {J : zJ} {B : Nat → T}, nx ≠ 17 → nx ≠ 18 → nx ≠ 11 → z8 (some (nx, cs, fs, J, B)) := fun a b c => z8_s a b c
  have bb : z8 (if t = 171 then some (9, [], [(14, 0, [.var 99])], ndn J 1, B) else none) := z8_if (s (by decide) (by decide) (by decide)) z8_n
  have h17 : nx = 17 → z8 (if t = 122 then some (18, [], fs, J, B) else none) := fun q => z8_if (fun z' e => by cases e; exact ⟨fun _ => h.1 (Or.inl q), fun z => by cases z⟩) z8_n
  unfold zStep
  refine z8_if (z8_if (s (by decide) (by decide) (by decide)) (z8_if (s (by decide) (by decide) (by decide)) z8_n)) (z8_if (zHead8 (by decide) (by decide) (by decide)) (z8_if (z8_if (s (by decide) (by decide) (by decide)) z8_n) (z8_if (z8_if (s (by decide) (by decide) (by decide)) (zHead8 (by decide) (by decide) (by decide))) (z8_if (zHead8 (by decide) (by decide) (by decide)) (z8_if (z8_if (s (by decide) (by decide) (by decide)) (z8_if (s (by decide) (by decide) (by decide)) z8_n)) (z8_if (z8_if (s (by decide) (by decide) (by decide)) bb) (z8_if (zHead8 (by decide) (by decide) (by decide)) (z8_if (z8_if (s (by decide) (by decide) (by decide)) bb) (z8_if (z8_if zStBegin8 zStEnd8) (z8_if zStEnd8 (z8_if (z8_if (s (by decide) (by decide) (by decide)) z8_n) (z8_if (z8_if (s (by decide) (by decide) (by decide)) z8_n) ?_))))))))))))
  by_cases q : nx = 17
  · rw [if_pos q]; exact h17 q
  · rw [if_neg q]
    exact z8_if (z8_if zCall8 zExpr8) (z8_if zExpr8 (z8_if zFactor8 (z8_if (z8_if zOper8 zAfter8) z8_n)))
end Z8
section KW
variable {own : Nat → Bool} {tx : Nat → Nat} {e0 b0 pl t : Nat} {D0 : zD} {fs r : List zF} {pd pr : List zPd} {c c' : zC} {os : List zOs} {fl : Nat → Int32} {cl : (Nat → Int32) × (Nat → Int32)} {ow : Int32} {J : zJ} {B : Nat → T} {hi : Nat}
/-- the second token of a frame -/
theorem Ly_full {k n : Nat} {tr : List T} (h : Ly c fl cl own tx e0 b0 D0 true ((k, n, tr) :: r) pd os hi pl 1) (k2 : k ≠ 2) (hw : wd false k n tr = wd true k n tr ++ [t]) (hf : Fo tx fl pl (pl + 1) 1 [t] 1) (hc : cl.1 pl = -1) : Ly c fl cl own tx e0 b0 D0 false ((k, n, tr) :: r) pd os hi (pl + 1) 1 := by
  obtain ⟨f, s, pr, os', lo, a, g1, g2, g3, g4, g5, g6⟩ := h
  refine ⟨f, s, pr, os', lo, a, g1, g2, g3, g4, ?_, ?_⟩
  · unfold TS at g5 ⊢
    rw [if_neg k2] at g5 ⊢
    rw [hw, ← List.append_assoc]
    exact Fo_cat g5 hf
  · unfold CT at g6 ⊢
    by_cases k4 : k = 4 ∨ k = 5
    · rw [if_pos k4] at g6 ⊢
      obtain ⟨y, q, h1, h2, h3, h4, h5, h6⟩ := g6
      exact ⟨y, q, h1, h2, h3, h4, h5, CaH_ext h6 hc⟩
    · rw [if_neg k4] at g6 ⊢; exact CaH_ext g6 hc
theorem kTok_n {nx : Nat} {x : Int32} {K : zKK} (h : nx ≠ 23) : kTok nx t x K = kAcc nx t x K := by
  unfold kTok
  rw [if_neg (fun z => h z.1)]
theorem KZ_tok {nx : Nat} {cs : List T} {K : zKK} (hpl : pl < 150) (ht : tx pl = t) (ht2 : t < 174) (hn : 9 ≤ nx) (h24 : nx ≠ 24) (hg : zGd (nx, cs, fs, J, B)) (hb : zBd pl (nx, cs, fs, J, B)) (hnil : zNil (nx, cs, fs, J, B)) (hR : RK own tx e0 b0 D0 pl nx cs fs K) : KZ own tx e0 b0 D0 pl J B (zStep t pl (nx, cs, fs, J, B)) (kTok nx t (nI pl) K) := by
  obtain ⟨hx, hr⟩ := hR
  obtain ⟨g1, g2, -⟩ := id hb
  have hl : fs.length ≤ pl := g1
  have hfl : (flat fs).length ≤ pl := by omega
  simp only [zGd] at hg
  rw [if_neg (by omega)] at hg
  by_cases c23 : nx = 23
  · subst c23
    rw [if_neg (by omega), if_pos rfl] at hg
    obtain ⟨hw, e, rfl, he⟩ := hg
    rw [if_pos rfl] at hr
    obtain ⟨e', hh, hX⟩ := hr
    cases hh
    by_cases hbin : isBin t = true
    · have e1 : zStep t pl (23, [e], fs, J, B) = zOper t e fs J B := by
        show (if isBin t = true then zOper t e fs J B else _) = _
        rw [if_pos hbin]
      have e2 : kTok 23 t (nI pl) K = kOper t K := by
        unfold kTok
        rw [if_neg (fun z => by rw [hbin] at z; exact absurd z.2 (by decide))]
        obtain ⟨pd, c, os, fl, cl, ow⟩ := K
        rfl
      rw [e1, e2]
      exact KZ_oper hw he hpl ht hbin hl hx hX
    · have hbf : isBin t = false := by simpa using hbin
      have e1 : zStep t pl (23, [e], fs, J, B) = zAfter t (zOps 0 fs e).2 (zOps 0 fs e).1 (ndn J (fs.length - (zOps 0 fs e).1.length)) B := by
        show (if isBin t = true then _ else zAfter t (zOps 0 fs e).2 (zOps 0 fs e).1 (ndn J (fs.length - (zOps 0 fs e).1.length)) B) = _
        rw [if_neg hbin]
      have e2 : kTok 23 t (nI pl) K = kAcc (kEnd2 (kOps 150 (nI 0) K)).1 t (nI pl) (kEnd2 (kOps 150 (nI 0) K)).2 := by
        unfold kTok
        rw [if_pos ⟨rfl, hbf⟩]
        rfl
      rw [e1, e2]
      have hk := kOps_z (own := own) (tx := tx) (e0 := e0) (b0 := b0) (b := pl) (m := 0) 150 (by omega) hw he (by omega) (XE_le (m := 0) (by omega) hX) (by have := hx.2.1; omega)
      obtain ⟨hX2, hnn, hf, hcl⟩ := hk
      have hx2 : CX own pl (zOps 0 fs e).1 (kOps 150 (nI 0) K) := by
        refine ⟨fun x => by rw [hcl]; exact hx.1 x, by rw [hnn]; exact hx.2.1, fun i a b => ?_⟩
        rw [hcl, hf i a]
        exact hx.2.2 i a b
      obtain ⟨w1, w2, w3, w4, w5⟩ := zOps_ok 0 hw he
      have w6 := zOps_tl 0 fs e
      have w7 := zOps_len 0 fs e
      exact KZ_nd (KZ_after w1 (by omega) w2 hpl ht (by omega) (by omega) hx2 hX2)
  · rw [kTok_n c23]
    rw [if_neg c23] at hr
    obtain ⟨pd, c, os, fl, cl, ow⟩ := K
    obtain ⟨x1, x2, x3⟩ := id hx
    have x2 : c.1 + pS fs ≤ 2 * pl := x2
    have x3 : ∀ i, pl ≤ i → i < 150 → fl i = 0 ∧ cl.1 i = -1 := x3
    obtain ⟨f0, ca0⟩ := x3 pl (Nat.le_refl _) hpl
    have x3' : ∀ i, pl + 1 ≤ i → i < 150 → fl i = 0 ∧ cl.1 i = -1 := fun i a b => x3 i (by omega) b
    by_cases c9 : nx = 9 ∨ nx = 10
    · rw [if_pos c9] at hg
      obtain ⟨rfl, hw⟩ := hg
      rcases c9 with rfl | rfl
      · rw [if_pos rfl] at hr
        show KZ own tx e0 b0 D0 pl J B (if begStmt t = true then zStBegin t pl fs J B else zStEnd t fs J B) (if begStmt t = true then kStB t (nI pl) (pd, c, os, fl, cl, ow) else kStE t (pd, c, os, fl, cl, ow))
        exact KZ_if (fun q => KZ_stB hw hpl ht ht2 q hl hx hr) fun q => KZ_stE hw hpl ht hl hfl hx hr (Or.inl rfl)
      · rw [if_neg (by omega), if_pos rfl] at hr
        exact KZ_stE hw hpl ht hl hfl hx hr.1 (Or.inr ⟨rfl, hr.2⟩)
    · rw [if_neg c9, if_neg c23] at hg
      rw [if_neg (by omega), if_neg (by omega)] at hr
      obtain ⟨rfl, hw, hxx⟩ := hg
      have part : ∀ {n0 nx' : Nat}, n0 ≠ 0 → ptn nx = true → nx' ≠ 0 → nx' ≠ 24 → nx' ≠ 23 → nx' ≠ 9 → nx' ≠ 10 → ptn nx' = false → tp fs ≠ 2 → ¬ n0 = 121 → isOp n0 = false → (∀ k n tr r, fs = (k, n, tr) :: r → wd false k n tr = wd true k n tr ++ [n0]) → t = n0 → KZ own tx e0 b0 D0 pl J B (some (nx', [], fs, J, B)) (nx', pd, c, os, fl, cl, ow) := by
        intro n0 nx' _ a1 a2 a3 a4 a5 a6 a7 a8 a9 a10 a11 q
        refine KZ_r0 a2 a3 ⟨⟨x1, ?_, x3'⟩, ?_⟩
        · show c.1 + pS fs ≤ 2 * (pl + 1)
          omega
        · rw [if_neg a4, if_neg a5, if_neg a6, a7]
          rw [a1] at hr
          cases fs with
          | nil => exact hw.elim
          | cons fr r =>
            obtain ⟨k, n, tr⟩ := fr
            exact Ly_full hr a8 (a11 k n tr r rfl) (Fo_plain (p := 1) (ht.trans q) f0 a9 a10 (by omega)) ca0
      rcases hxx with ⟨rfl, hxx⟩ | ⟨rfl, hxx⟩ | ⟨rfl | rfl, hxx⟩ | ⟨rfl, hxx⟩ | rfl
      · show KZ own tx e0 b0 D0 pl J B (if t = 120 then some (21, [], fs, J, B) else none) (if t = 120 then (21, pd, c, os, fl, cl, ow) else (99, pd, c, os, fl, cl, ow))
        refine KZ_if (fun q => part (n0 := 120) (by omega) rfl (by omega) (by omega) (by omega) (by omega) (by omega) rfl (by rw [hxx]; omega) (by omega) rfl ?_ q) fun q => KZ_no rfl
        intro k n tr r hfs
        obtain ⟨n', tr', r', h1, h2, h3⟩ := hnil.2 rfl
        have h1 : fs = (7, n', tr') :: r' := h1
        rw [h1] at hfs
        cases hfs
        rcases h3 with h3 | rfl
        · have m1 : ¬ n = 21000 := by omega
          have m2 : ¬ n = 26000 := by omega
          have m3 : ¬ n = 23000 := by omega
          have m4 : ¬ n = 24000 := by omega
          simp [wd, m1, m2, m3, m4]
        · simp [wd]
      · show KZ own tx e0 b0 D0 pl J B (if t = 125 then some (21, [], fs, J, B) else none) (if t = 125 then (21, pd, c, os, fl, cl, ow) else (99, pd, c, os, fl, cl, ow))
        refine KZ_if (fun q => part (n0 := 125) (by omega) rfl (by omega) (by omega) (by omega) (by omega) (by omega) rfl (by omega) (by omega) rfl ?_ q) fun q => KZ_no rfl
        intro k n tr r hfs
        subst hfs
        have hk : k = 3 ∨ k = 6 := hxx
        rcases hk with rfl | rfl <;> rfl
      · show KZ own tx e0 b0 D0 pl J B (if t = 122 then some (18, [], fs, J, B) else none) (if t = 122 then (18, pd, c, os, fl, cl, ow) else (99, pd, c, os, fl, cl, ow))
        refine KZ_if (fun q => part (n0 := 122) (by omega) rfl (by omega) (by omega) (by omega) (by omega) (by omega) rfl (by omega) (by omega) rfl ?_ q) fun q => KZ_no rfl
        intro k n tr r hfs
        obtain ⟨k', n', q', r', h1⟩ := hnil.1 (Or.inl rfl)
        have h1 : fs = (k', n', [(.mulR (.var 99) q' : T)]) :: r' := h1
        rw [h1] at hfs
        cases hfs
        subst h1
        have hk : k = 4 ∨ k = 5 := hxx
        rcases hk with rfl | rfl <;> rfl
      · show KZ own tx e0 b0 D0 pl J B (if t = 123 then zCall fs J B else zExpr t pl fs J B) (if t = 123 then kEndCall (pd, c, os, fl, cl, ow) else kExp t (nI pl) (pd, c, os, fl, cl, ow))
        refine KZ_if (fun q => ?_) fun q => KZ_exp hw hpl ht ht2 hl hx hr
        obtain ⟨k, n, q', r, h1⟩ := hnil.1 (Or.inr rfl)
        have h1 : fs = (k, n, [(.mulR (.var 99) q' : T)]) :: r := h1
        subst h1
        have hk : k = 4 ∨ k = 5 := hxx
        obtain ⟨f, s, pr, os', lo, a, rfl, d2, d3, d4, d5, d6⟩ := hr
        have oe : os = os' := by
          unfold osE at d3
          rw [if_neg (by omega)] at d3
          exact d3
        subst oe
        unfold Sg at d4
        rw [if_neg (by omega), if_neg (by omega), if_neg (by omega), if_pos hk] at d4
        obtain ⟨y, q2, hh, e1, rfl⟩ := d4
        cases hh
        unfold CT at d6
        rw [if_pos hk] at d6
        obtain ⟨y, q2, hh, rfl, e2, e3, e4, e5⟩ := d6
        cases hh
        unfold TS at d5
        rw [if_neg (by omega)] at d5
        have hkw : (k = 4 ∧ wfz r true) ∨ (k = 5 ∧ wfz r false) := by
          have w2 := hw.2
          rcases w2 with w2 | w2 | w2
          · omega
          · exact Or.inl ⟨by omega, w2.2⟩
          · exact Or.inr ⟨by omega, w2.2⟩
        have l5 := e5.1
        refine KZ_call (lo := lo) hkw hpl (by omega) (ht.trans q) (by simp at hl; omega) rfl hx d2 e1 ?_ e3 e4 e2 e5
        have ew : wd false k a [(.mulR (.var 99) q' : T)] = [110 + q' % 4, 122] ++ Wr (.var 99 : T) 4 := by
          rcases hk with rfl | rfl <;> rfl
        have d5 : Fo tx fl a pl (lp r) (pre (lp r) ++ wd false k a [(.mulR (.var 99) q' : T)]) 1 := d5
        rw [ew] at d5
        exact d5
      · exact KZ_exp hw hpl ht ht2 hl hx hr
      · exact KZ_fac hw hpl ht ht2 hl hx hr
end KW
